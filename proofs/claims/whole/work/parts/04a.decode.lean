theorem dX0_init_0 : decode cX0_init 0 = .ok (.aload_n 0, 1) := by decide +kernel
theorem dX0_init_1 : decode cX0_init 1 = .ok (.invokespecial 3, 3) := by decide +kernel
theorem dX0_init_4 : decode cX0_init 4 = .ok (.aload_n 0, 1) := by decide +kernel
theorem dX0_init_5 : decode cX0_init 5 = .ok (.sipush 1920, 3) := by decide +kernel
theorem dX0_init_8 : decode cX0_init 8 = .ok (.newarray .int, 2) := by decide +kernel
theorem dX0_init_10 : decode cX0_init 10 = .ok (.putfield 11, 3) := by decide +kernel
theorem dX0_init_13 : decode cX0_init 13 = .ok (.aload_n 0, 1) := by decide +kernel
theorem dX0_init_14 : decode cX0_init 14 = .ok (.iconst 0, 1) := by decide +kernel
theorem dX0_init_15 : decode cX0_init 15 = .ok (.putfield 17, 3) := by decide +kernel
theorem dX0_init_18 : decode cX0_init 18 = .ok (.return_, 1) := by decide +kernel
theorem dX0_keep_0 : decode cX0_keep 0 = .ok (.aload_n 0, 1) := by decide +kernel
theorem dX0_keep_1 : decode cX0_keep 1 = .ok (.getfield 17, 3) := by decide +kernel
theorem dX0_keep_4 : decode cX0_keep 4 = .ok (.bipush 40, 2) := by decide +kernel
theorem dX0_keep_6 : decode cX0_keep 6 = .ok (.if_icmp .ne 35, 3) := by decide +kernel
theorem dX0_keep_9 : decode cX0_keep 9 = .ok (.aload_n 0, 1) := by decide +kernel
theorem dX0_keep_10 : decode cX0_keep 10 = .ok (.getfield 11, 3) := by decide +kernel
theorem dX0_keep_13 : decode cX0_keep 13 = .ok (.bipush 48, 2) := by decide +kernel
theorem dX0_keep_15 : decode cX0_keep 15 = .ok (.aload_n 0, 1) := by decide +kernel
theorem dX0_keep_16 : decode cX0_keep 16 = .ok (.getfield 11, 3) := by decide +kernel
theorem dX0_keep_19 : decode cX0_keep 19 = .ok (.iconst 0, 1) := by decide +kernel
theorem dX0_keep_20 : decode cX0_keep 20 = .ok (.aload_n 0, 1) := by decide +kernel
theorem dX0_keep_21 : decode cX0_keep 21 = .ok (.getfield 11, 3) := by decide +kernel
theorem dX0_keep_24 : decode cX0_keep 24 = .ok (.arraylength, 1) := by decide +kernel
theorem dX0_keep_25 : decode cX0_keep 25 = .ok (.bipush 48, 2) := by decide +kernel
theorem dX0_keep_27 : decode cX0_keep 27 = .ok (.isub, 1) := by decide +kernel
theorem dX0_keep_28 : decode cX0_keep 28 = .ok (.invokestatic 21, 3) := by decide +kernel
theorem dX0_keep_31 : decode cX0_keep 31 = .ok (.aload_n 0, 1) := by decide +kernel
theorem dX0_keep_32 : decode cX0_keep 32 = .ok (.dup, 1) := by decide +kernel
theorem dX0_keep_33 : decode cX0_keep 33 = .ok (.getfield 17, 3) := by decide +kernel
theorem dX0_keep_36 : decode cX0_keep 36 = .ok (.iconst 1, 1) := by decide +kernel
theorem dX0_keep_37 : decode cX0_keep 37 = .ok (.isub, 1) := by decide +kernel
theorem dX0_keep_38 : decode cX0_keep 38 = .ok (.putfield 17, 3) := by decide +kernel
theorem dX0_keep_41 : decode cX0_keep 41 = .ok (.aload_n 1, 1) := by decide +kernel
theorem dX0_keep_42 : decode cX0_keep 42 = .ok (.aload_n 0, 1) := by decide +kernel
theorem dX0_keep_43 : decode cX0_keep 43 = .ok (.getfield 11, 3) := by decide +kernel
theorem dX0_keep_46 : decode cX0_keep 46 = .ok (.aload_n 0, 1) := by decide +kernel
theorem dX0_keep_47 : decode cX0_keep 47 = .ok (.getfield 17, 3) := by decide +kernel
theorem dX0_keep_50 : decode cX0_keep 50 = .ok (.bipush 48, 2) := by decide +kernel
theorem dX0_keep_52 : decode cX0_keep 52 = .ok (.imul, 1) := by decide +kernel
theorem dX0_keep_53 : decode cX0_keep 53 = .ok (.invokevirtual 27, 3) := by decide +kernel
theorem dX0_keep_56 : decode cX0_keep 56 = .ok (.aload_n 0, 1) := by decide +kernel
theorem dX0_keep_57 : decode cX0_keep 57 = .ok (.dup, 1) := by decide +kernel
theorem dX0_keep_58 : decode cX0_keep 58 = .ok (.getfield 17, 3) := by decide +kernel
theorem dX0_keep_61 : decode cX0_keep 61 = .ok (.iconst 1, 1) := by decide +kernel
theorem dX0_keep_62 : decode cX0_keep 62 = .ok (.iadd, 1) := by decide +kernel
theorem dX0_keep_63 : decode cX0_keep 63 = .ok (.putfield 17, 3) := by decide +kernel
theorem dX0_keep_66 : decode cX0_keep 66 = .ok (.return_, 1) := by decide +kernel
theorem dX0_takeBack_0 : decode cX0_takeBack 0 = .ok (.aload_n 0, 1) := by decide +kernel
theorem dX0_takeBack_1 : decode cX0_takeBack 1 = .ok (.getfield 17, 3) := by decide +kernel
theorem dX0_takeBack_4 : decode cX0_takeBack 4 = .ok (.ifCond .le 28, 3) := by decide +kernel
theorem dX0_takeBack_7 : decode cX0_takeBack 7 = .ok (.aload_n 0, 1) := by decide +kernel
theorem dX0_takeBack_8 : decode cX0_takeBack 8 = .ok (.dup, 1) := by decide +kernel
theorem dX0_takeBack_9 : decode cX0_takeBack 9 = .ok (.getfield 17, 3) := by decide +kernel
theorem dX0_takeBack_12 : decode cX0_takeBack 12 = .ok (.iconst 1, 1) := by decide +kernel
theorem dX0_takeBack_13 : decode cX0_takeBack 13 = .ok (.isub, 1) := by decide +kernel
theorem dX0_takeBack_14 : decode cX0_takeBack 14 = .ok (.putfield 17, 3) := by decide +kernel
theorem dX0_takeBack_17 : decode cX0_takeBack 17 = .ok (.aload_n 1, 1) := by decide +kernel
theorem dX0_takeBack_18 : decode cX0_takeBack 18 = .ok (.aload_n 0, 1) := by decide +kernel
theorem dX0_takeBack_19 : decode cX0_takeBack 19 = .ok (.getfield 11, 3) := by decide +kernel
theorem dX0_takeBack_22 : decode cX0_takeBack 22 = .ok (.aload_n 0, 1) := by decide +kernel
theorem dX0_takeBack_23 : decode cX0_takeBack 23 = .ok (.getfield 17, 3) := by decide +kernel
theorem dX0_takeBack_26 : decode cX0_takeBack 26 = .ok (.bipush 48, 2) := by decide +kernel
theorem dX0_takeBack_28 : decode cX0_takeBack 28 = .ok (.imul, 1) := by decide +kernel
theorem dX0_takeBack_29 : decode cX0_takeBack 29 = .ok (.invokevirtual 31, 3) := by decide +kernel
theorem dX0_takeBack_32 : decode cX0_takeBack 32 = .ok (.return_, 1) := by decide +kernel
theorem dX0_copy_0 : decode cX0_copy 0 = .ok (.aload_n 1, 1) := by decide +kernel
theorem dX0_copy_1 : decode cX0_copy 1 = .ok (.getfield 11, 3) := by decide +kernel
theorem dX0_copy_4 : decode cX0_copy 4 = .ok (.iconst 0, 1) := by decide +kernel
theorem dX0_copy_5 : decode cX0_copy 5 = .ok (.aload_n 0, 1) := by decide +kernel
theorem dX0_copy_6 : decode cX0_copy 6 = .ok (.getfield 11, 3) := by decide +kernel
theorem dX0_copy_9 : decode cX0_copy 9 = .ok (.iconst 0, 1) := by decide +kernel
theorem dX0_copy_10 : decode cX0_copy 10 = .ok (.aload_n 1, 1) := by decide +kernel
theorem dX0_copy_11 : decode cX0_copy 11 = .ok (.getfield 17, 3) := by decide +kernel
theorem dX0_copy_14 : decode cX0_copy 14 = .ok (.bipush 48, 2) := by decide +kernel
theorem dX0_copy_16 : decode cX0_copy 16 = .ok (.imul, 1) := by decide +kernel
theorem dX0_copy_17 : decode cX0_copy 17 = .ok (.invokestatic 21, 3) := by decide +kernel
theorem dX0_copy_20 : decode cX0_copy 20 = .ok (.aload_n 0, 1) := by decide +kernel
theorem dX0_copy_21 : decode cX0_copy 21 = .ok (.aload_n 1, 1) := by decide +kernel
theorem dX0_copy_22 : decode cX0_copy 22 = .ok (.getfield 17, 3) := by decide +kernel
theorem dX0_copy_25 : decode cX0_copy 25 = .ok (.putfield 17, 3) := by decide +kernel
theorem dX0_copy_28 : decode cX0_copy 28 = .ok (.return_, 1) := by decide +kernel
theorem dX1_init_0 : decode cX1_init 0 = .ok (.aload_n 0, 1) := by decide +kernel
theorem dX1_init_1 : decode cX1_init 1 = .ok (.invokespecial 3, 3) := by decide +kernel
theorem dX1_init_4 : decode cX1_init 4 = .ok (.aload_n 0, 1) := by decide +kernel
theorem dX1_init_5 : decode cX1_init 5 = .ok (.bipush 9, 2) := by decide +kernel
theorem dX1_init_7 : decode cX1_init 7 = .ok (.newarray .int, 2) := by decide +kernel
theorem dX1_init_9 : decode cX1_init 9 = .ok (.putfield 9, 3) := by decide +kernel
theorem dX1_init_12 : decode cX1_init 12 = .ok (.aload_n 0, 1) := by decide +kernel
theorem dX1_init_13 : decode cX1_init 13 = .ok (.new 15, 3) := by decide +kernel
theorem dX1_init_16 : decode cX1_init 16 = .ok (.dup, 1) := by decide +kernel
theorem dX1_init_17 : decode cX1_init 17 = .ok (.invokespecial 17, 3) := by decide +kernel
theorem dX1_init_20 : decode cX1_init 20 = .ok (.putfield 18, 3) := by decide +kernel
theorem dX1_init_23 : decode cX1_init 23 = .ok (.aload_n 0, 1) := by decide +kernel
theorem dX1_init_24 : decode cX1_init 24 = .ok (.new 22, 3) := by decide +kernel
theorem dX1_init_27 : decode cX1_init 27 = .ok (.dup, 1) := by decide +kernel
theorem dX1_init_28 : decode cX1_init 28 = .ok (.invokespecial 24, 3) := by decide +kernel
theorem dX1_init_31 : decode cX1_init 31 = .ok (.putfield 25, 3) := by decide +kernel
theorem dX1_init_34 : decode cX1_init 34 = .ok (.aload_n 0, 1) := by decide +kernel
theorem dX1_init_35 : decode cX1_init 35 = .ok (.new 22, 3) := by decide +kernel
theorem dX1_init_38 : decode cX1_init 38 = .ok (.dup, 1) := by decide +kernel
theorem dX1_init_39 : decode cX1_init 39 = .ok (.invokespecial 24, 3) := by decide +kernel
theorem dX1_init_42 : decode cX1_init 42 = .ok (.putfield 29, 3) := by decide +kernel
theorem dX1_init_45 : decode cX1_init 45 = .ok (.aload_n 0, 1) := by decide +kernel
theorem dX1_init_46 : decode cX1_init 46 = .ok (.iconst 0, 1) := by decide +kernel
theorem dX1_init_47 : decode cX1_init 47 = .ok (.putfield 32, 3) := by decide +kernel
theorem dX1_init_50 : decode cX1_init 50 = .ok (.return_, 1) := by decide +kernel
theorem dX1_clear_0 : decode cX1_clear 0 = .ok (.aload_n 0, 1) := by decide +kernel
theorem dX1_clear_1 : decode cX1_clear 1 = .ok (.getfield 9, 3) := by decide +kernel
theorem dX1_clear_4 : decode cX1_clear 4 = .ok (.iconst 0, 1) := by decide +kernel
theorem dX1_clear_5 : decode cX1_clear 5 = .ok (.invokestatic 36, 3) := by decide +kernel
theorem dX1_clear_8 : decode cX1_clear 8 = .ok (.aload_n 0, 1) := by decide +kernel
theorem dX1_clear_9 : decode cX1_clear 9 = .ok (.getfield 18, 3) := by decide +kernel
theorem dX1_clear_12 : decode cX1_clear 12 = .ok (.invokevirtual 42, 3) := by decide +kernel
theorem dX1_clear_15 : decode cX1_clear 15 = .ok (.aload_n 0, 1) := by decide +kernel
theorem dX1_clear_16 : decode cX1_clear 16 = .ok (.getfield 25, 3) := by decide +kernel
theorem dX1_clear_19 : decode cX1_clear 19 = .ok (.invokevirtual 45, 3) := by decide +kernel
theorem dX1_clear_22 : decode cX1_clear 22 = .ok (.aload_n 0, 1) := by decide +kernel
theorem dX1_clear_23 : decode cX1_clear 23 = .ok (.getfield 29, 3) := by decide +kernel
theorem dX1_clear_26 : decode cX1_clear 26 = .ok (.invokevirtual 45, 3) := by decide +kernel
theorem dX1_clear_29 : decode cX1_clear 29 = .ok (.aload_n 0, 1) := by decide +kernel
theorem dX1_clear_30 : decode cX1_clear 30 = .ok (.iconst 0, 1) := by decide +kernel
theorem dX1_clear_31 : decode cX1_clear 31 = .ok (.putfield 32, 3) := by decide +kernel
theorem dX1_clear_34 : decode cX1_clear 34 = .ok (.return_, 1) := by decide +kernel
theorem dX1_addCup_0 : decode cX1_addCup 0 = .ok (.aload_n 0, 1) := by decide +kernel
theorem dX1_addCup_1 : decode cX1_addCup 1 = .ok (.getfield 32, 3) := by decide +kernel
theorem dX1_addCup_4 : decode cX1_addCup 4 = .ok (.bipush 9, 2) := by decide +kernel
theorem dX1_addCup_6 : decode cX1_addCup 6 = .ok (.if_icmp .ge 49, 3) := by decide +kernel
theorem dX1_addCup_9 : decode cX1_addCup 9 = .ok (.aload_n 0, 1) := by decide +kernel
theorem dX1_addCup_10 : decode cX1_addCup 10 = .ok (.getfield 18, 3) := by decide +kernel
theorem dX1_addCup_13 : decode cX1_addCup 13 = .ok (.getfield 46, 3) := by decide +kernel
theorem dX1_addCup_16 : decode cX1_addCup 16 = .ok (.aload_n 0, 1) := by decide +kernel
theorem dX1_addCup_17 : decode cX1_addCup 17 = .ok (.getfield 32, 3) := by decide +kernel
theorem dX1_addCup_20 : decode cX1_addCup 20 = .ok (.iload_n 1, 1) := by decide +kernel
theorem dX1_addCup_21 : decode cX1_addCup 21 = .ok (.iastore, 1) := by decide +kernel
theorem dX1_addCup_22 : decode cX1_addCup 22 = .ok (.aload_n 0, 1) := by decide +kernel
theorem dX1_addCup_23 : decode cX1_addCup 23 = .ok (.getfield 18, 3) := by decide +kernel
theorem dX1_addCup_26 : decode cX1_addCup 26 = .ok (.getfield 49, 3) := by decide +kernel
theorem dX1_addCup_29 : decode cX1_addCup 29 = .ok (.aload_n 0, 1) := by decide +kernel
theorem dX1_addCup_30 : decode cX1_addCup 30 = .ok (.getfield 32, 3) := by decide +kernel
theorem dX1_addCup_33 : decode cX1_addCup 33 = .ok (.iload_n 2, 1) := by decide +kernel
theorem dX1_addCup_34 : decode cX1_addCup 34 = .ok (.iastore, 1) := by decide +kernel
theorem dX1_addCup_35 : decode cX1_addCup 35 = .ok (.aload_n 0, 1) := by decide +kernel
theorem dX1_addCup_36 : decode cX1_addCup 36 = .ok (.getfield 9, 3) := by decide +kernel
theorem dX1_addCup_39 : decode cX1_addCup 39 = .ok (.aload_n 0, 1) := by decide +kernel
theorem dX1_addCup_40 : decode cX1_addCup 40 = .ok (.getfield 32, 3) := by decide +kernel
theorem dX1_addCup_43 : decode cX1_addCup 43 = .ok (.iload_n 3, 1) := by decide +kernel
theorem dX1_addCup_44 : decode cX1_addCup 44 = .ok (.iastore, 1) := by decide +kernel
theorem dX1_addCup_45 : decode cX1_addCup 45 = .ok (.aload_n 0, 1) := by decide +kernel
theorem dX1_addCup_46 : decode cX1_addCup 46 = .ok (.dup, 1) := by decide +kernel
theorem dX1_addCup_47 : decode cX1_addCup 47 = .ok (.getfield 32, 3) := by decide +kernel
theorem dX1_addCup_50 : decode cX1_addCup 50 = .ok (.iconst 1, 1) := by decide +kernel
theorem dX1_addCup_51 : decode cX1_addCup 51 = .ok (.iadd, 1) := by decide +kernel
theorem dX1_addCup_52 : decode cX1_addCup 52 = .ok (.putfield 32, 3) := by decide +kernel
theorem dX1_addCup_55 : decode cX1_addCup 55 = .ok (.return_, 1) := by decide +kernel
theorem dX1_leak_0 : decode cX1_leak 0 = .ok (.aload_n 0, 1) := by decide +kernel
theorem dX1_leak_1 : decode cX1_leak 1 = .ok (.getfield 25, 3) := by decide +kernel
theorem dX1_leak_4 : decode cX1_leak 4 = .ok (.getfield 51, 3) := by decide +kernel
theorem dX1_leak_7 : decode cX1_leak 7 = .ok (.ifCond .ne 5, 3) := by decide +kernel
theorem dX1_leak_10 : decode cX1_leak 10 = .ok (.iconst 0, 1) := by decide +kernel
theorem dX1_leak_11 : decode cX1_leak 11 = .ok (.ireturn, 1) := by decide +kernel
theorem dX1_leak_12 : decode cX1_leak 12 = .ok (.iconst 0, 1) := by decide +kernel
theorem dX1_leak_13 : decode cX1_leak 13 = .ok (.aload_n 1, 1) := by decide +kernel
theorem dX1_leak_14 : decode cX1_leak 14 = .ok (.getfield 49, 3) := by decide +kernel
theorem dX1_leak_17 : decode cX1_leak 17 = .ok (.iload_n 2, 1) := by decide +kernel
theorem dX1_leak_18 : decode cX1_leak 18 = .ok (.iaload, 1) := by decide +kernel
theorem dX1_leak_19 : decode cX1_leak 19 = .ok (.aload_n 0, 1) := by decide +kernel
theorem dX1_leak_20 : decode cX1_leak 20 = .ok (.getfield 25, 3) := by decide +kernel
theorem dX1_leak_23 : decode cX1_leak 23 = .ok (.aload_n 1, 1) := by decide +kernel
theorem dX1_leak_24 : decode cX1_leak 24 = .ok (.iload_n 2, 1) := by decide +kernel
theorem dX1_leak_25 : decode cX1_leak 25 = .ok (.aload_n 0, 1) := by decide +kernel
theorem dX1_leak_26 : decode cX1_leak 26 = .ok (.getfield 9, 3) := by decide +kernel
theorem dX1_leak_29 : decode cX1_leak 29 = .ok (.iload_n 2, 1) := by decide +kernel
theorem dX1_leak_30 : decode cX1_leak 30 = .ok (.iaload, 1) := by decide +kernel
theorem dX1_leak_31 : decode cX1_leak 31 = .ok (.invokevirtual 55, 3) := by decide +kernel
theorem dX1_leak_34 : decode cX1_leak 34 = .ok (.invokestatic 59, 3) := by decide +kernel
theorem dX1_leak_37 : decode cX1_leak 37 = .ok (.invokestatic 65, 3) := by decide +kernel
theorem dX1_leak_40 : decode cX1_leak 40 = .ok (.ireturn, 1) := by decide +kernel
theorem dX2_init_0 : decode cX2_init 0 = .ok (.aload_n 0, 1) := by decide +kernel
theorem dX2_init_1 : decode cX2_init 1 = .ok (.invokespecial 3, 3) := by decide +kernel
theorem dX2_init_4 : decode cX2_init 4 = .ok (.aload_n 0, 1) := by decide +kernel
theorem dX2_init_5 : decode cX2_init 5 = .ok (.bipush 9, 2) := by decide +kernel
theorem dX2_init_7 : decode cX2_init 7 = .ok (.newarray .int, 2) := by decide +kernel
theorem dX2_init_9 : decode cX2_init 9 = .ok (.putfield 9, 3) := by decide +kernel
theorem dX2_init_12 : decode cX2_init 12 = .ok (.aload_n 0, 1) := by decide +kernel
theorem dX2_init_13 : decode cX2_init 13 = .ok (.bipush 9, 2) := by decide +kernel
theorem dX2_init_15 : decode cX2_init 15 = .ok (.newarray .int, 2) := by decide +kernel
theorem dX2_init_17 : decode cX2_init 17 = .ok (.putfield 15, 3) := by decide +kernel
theorem dX2_init_20 : decode cX2_init 20 = .ok (.aload_n 0, 1) := by decide +kernel
theorem dX2_init_21 : decode cX2_init 21 = .ok (.bipush 9, 2) := by decide +kernel
theorem dX2_init_23 : decode cX2_init 23 = .ok (.newarray .int, 2) := by decide +kernel
theorem dX2_init_25 : decode cX2_init 25 = .ok (.putfield 18, 3) := by decide +kernel
theorem dX2_init_28 : decode cX2_init 28 = .ok (.aload_n 0, 1) := by decide +kernel
theorem dX2_init_29 : decode cX2_init 29 = .ok (.bipush 9, 2) := by decide +kernel
theorem dX2_init_31 : decode cX2_init 31 = .ok (.newarray .int, 2) := by decide +kernel
theorem dX2_init_33 : decode cX2_init 33 = .ok (.putfield 21, 3) := by decide +kernel
theorem dX2_init_36 : decode cX2_init 36 = .ok (.aload_n 0, 1) := by decide +kernel
theorem dX2_init_37 : decode cX2_init 37 = .ok (.bipush 9, 2) := by decide +kernel
theorem dX2_init_39 : decode cX2_init 39 = .ok (.newarray .int, 2) := by decide +kernel
theorem dX2_init_41 : decode cX2_init 41 = .ok (.putfield 24, 3) := by decide +kernel
theorem dX2_init_44 : decode cX2_init 44 = .ok (.aload_n 0, 1) := by decide +kernel
theorem dX2_init_45 : decode cX2_init 45 = .ok (.bipush 9, 2) := by decide +kernel
theorem dX2_init_47 : decode cX2_init 47 = .ok (.newarray .int, 2) := by decide +kernel
theorem dX2_init_49 : decode cX2_init 49 = .ok (.putfield 27, 3) := by decide +kernel
theorem dX2_init_52 : decode cX2_init 52 = .ok (.aload_n 0, 1) := by decide +kernel
theorem dX2_init_53 : decode cX2_init 53 = .ok (.iconst 0, 1) := by decide +kernel
theorem dX2_init_54 : decode cX2_init 54 = .ok (.putfield 30, 3) := by decide +kernel
theorem dX2_init_57 : decode cX2_init 57 = .ok (.aload_n 0, 1) := by decide +kernel
theorem dX2_init_58 : decode cX2_init 58 = .ok (.iconst 0, 1) := by decide +kernel
theorem dX2_init_59 : decode cX2_init 59 = .ok (.putfield 34, 3) := by decide +kernel
theorem dX2_init_62 : decode cX2_init 62 = .ok (.aload_n 0, 1) := by decide +kernel
theorem dX2_init_63 : decode cX2_init 63 = .ok (.iconst 0, 1) := by decide +kernel
theorem dX2_init_64 : decode cX2_init 64 = .ok (.putfield 37, 3) := by decide +kernel
theorem dX2_init_67 : decode cX2_init 67 = .ok (.aload_n 0, 1) := by decide +kernel
theorem dX2_init_68 : decode cX2_init 68 = .ok (.invokevirtual 40, 3) := by decide +kernel
theorem dX2_init_71 : decode cX2_init 71 = .ok (.return_, 1) := by decide +kernel
theorem dX2_clear_0 : decode cX2_clear 0 = .ok (.aload_n 0, 1) := by decide +kernel
theorem dX2_clear_1 : decode cX2_clear 1 = .ok (.getfield 9, 3) := by decide +kernel
theorem dX2_clear_4 : decode cX2_clear 4 = .ok (.iconst 1, 1) := by decide +kernel
theorem dX2_clear_5 : decode cX2_clear 5 = .ok (.invokestatic 43, 3) := by decide +kernel
theorem dX2_clear_8 : decode cX2_clear 8 = .ok (.aload_n 0, 1) := by decide +kernel
theorem dX2_clear_9 : decode cX2_clear 9 = .ok (.getfield 15, 3) := by decide +kernel
theorem dX2_clear_12 : decode cX2_clear 12 = .ok (.iconst 0, 1) := by decide +kernel
theorem dX2_clear_13 : decode cX2_clear 13 = .ok (.invokestatic 43, 3) := by decide +kernel
theorem dX2_clear_16 : decode cX2_clear 16 = .ok (.aload_n 0, 1) := by decide +kernel
theorem dX2_clear_17 : decode cX2_clear 17 = .ok (.getfield 18, 3) := by decide +kernel
theorem dX2_clear_20 : decode cX2_clear 20 = .ok (.iconst (-1), 1) := by decide +kernel
theorem dX2_clear_21 : decode cX2_clear 21 = .ok (.invokestatic 43, 3) := by decide +kernel
theorem dX2_clear_24 : decode cX2_clear 24 = .ok (.aload_n 0, 1) := by decide +kernel
theorem dX2_clear_25 : decode cX2_clear 25 = .ok (.getfield 21, 3) := by decide +kernel
theorem dX2_clear_28 : decode cX2_clear 28 = .ok (.iconst (-1), 1) := by decide +kernel
theorem dX2_clear_29 : decode cX2_clear 29 = .ok (.invokestatic 43, 3) := by decide +kernel
theorem dX2_clear_32 : decode cX2_clear 32 = .ok (.aload_n 0, 1) := by decide +kernel
theorem dX2_clear_33 : decode cX2_clear 33 = .ok (.getfield 24, 3) := by decide +kernel
theorem dX2_clear_36 : decode cX2_clear 36 = .ok (.iconst 0, 1) := by decide +kernel
theorem dX2_clear_37 : decode cX2_clear 37 = .ok (.invokestatic 43, 3) := by decide +kernel
theorem dX2_clear_40 : decode cX2_clear 40 = .ok (.aload_n 0, 1) := by decide +kernel
theorem dX2_clear_41 : decode cX2_clear 41 = .ok (.iconst 0, 1) := by decide +kernel
theorem dX2_clear_42 : decode cX2_clear 42 = .ok (.putfield 30, 3) := by decide +kernel
theorem dX2_clear_45 : decode cX2_clear 45 = .ok (.aload_n 0, 1) := by decide +kernel
theorem dX2_clear_46 : decode cX2_clear 46 = .ok (.iconst 0, 1) := by decide +kernel
theorem dX2_clear_47 : decode cX2_clear 47 = .ok (.putfield 34, 3) := by decide +kernel
theorem dX2_clear_50 : decode cX2_clear 50 = .ok (.aload_n 0, 1) := by decide +kernel
theorem dX2_clear_51 : decode cX2_clear 51 = .ok (.iconst 0, 1) := by decide +kernel
theorem dX2_clear_52 : decode cX2_clear 52 = .ok (.putfield 37, 3) := by decide +kernel
theorem dX2_clear_55 : decode cX2_clear 55 = .ok (.return_, 1) := by decide +kernel
theorem dX2_copy_0 : decode cX2_copy 0 = .ok (.aload_n 1, 1) := by decide +kernel
theorem dX2_copy_1 : decode cX2_copy 1 = .ok (.getfield 9, 3) := by decide +kernel
theorem dX2_copy_4 : decode cX2_copy 4 = .ok (.iconst 0, 1) := by decide +kernel
theorem dX2_copy_5 : decode cX2_copy 5 = .ok (.aload_n 0, 1) := by decide +kernel
theorem dX2_copy_6 : decode cX2_copy 6 = .ok (.getfield 9, 3) := by decide +kernel
theorem dX2_copy_9 : decode cX2_copy 9 = .ok (.iconst 0, 1) := by decide +kernel
theorem dX2_copy_10 : decode cX2_copy 10 = .ok (.bipush 9, 2) := by decide +kernel
theorem dX2_copy_12 : decode cX2_copy 12 = .ok (.invokestatic 48, 3) := by decide +kernel
theorem dX2_copy_15 : decode cX2_copy 15 = .ok (.aload_n 1, 1) := by decide +kernel
theorem dX2_copy_16 : decode cX2_copy 16 = .ok (.getfield 15, 3) := by decide +kernel
theorem dX2_copy_19 : decode cX2_copy 19 = .ok (.iconst 0, 1) := by decide +kernel
theorem dX2_copy_20 : decode cX2_copy 20 = .ok (.aload_n 0, 1) := by decide +kernel
theorem dX2_copy_21 : decode cX2_copy 21 = .ok (.getfield 15, 3) := by decide +kernel
theorem dX2_copy_24 : decode cX2_copy 24 = .ok (.iconst 0, 1) := by decide +kernel
theorem dX2_copy_25 : decode cX2_copy 25 = .ok (.bipush 9, 2) := by decide +kernel
theorem dX2_copy_27 : decode cX2_copy 27 = .ok (.invokestatic 48, 3) := by decide +kernel
theorem dX2_copy_30 : decode cX2_copy 30 = .ok (.aload_n 1, 1) := by decide +kernel
theorem dX2_copy_31 : decode cX2_copy 31 = .ok (.getfield 18, 3) := by decide +kernel
theorem dX2_copy_34 : decode cX2_copy 34 = .ok (.iconst 0, 1) := by decide +kernel
theorem dX2_copy_35 : decode cX2_copy 35 = .ok (.aload_n 0, 1) := by decide +kernel
theorem dX2_copy_36 : decode cX2_copy 36 = .ok (.getfield 18, 3) := by decide +kernel
theorem dX2_copy_39 : decode cX2_copy 39 = .ok (.iconst 0, 1) := by decide +kernel
theorem dX2_copy_40 : decode cX2_copy 40 = .ok (.bipush 9, 2) := by decide +kernel
theorem dX2_copy_42 : decode cX2_copy 42 = .ok (.invokestatic 48, 3) := by decide +kernel
theorem dX2_copy_45 : decode cX2_copy 45 = .ok (.aload_n 1, 1) := by decide +kernel
theorem dX2_copy_46 : decode cX2_copy 46 = .ok (.getfield 21, 3) := by decide +kernel
theorem dX2_copy_49 : decode cX2_copy 49 = .ok (.iconst 0, 1) := by decide +kernel
theorem dX2_copy_50 : decode cX2_copy 50 = .ok (.aload_n 0, 1) := by decide +kernel
theorem dX2_copy_51 : decode cX2_copy 51 = .ok (.getfield 21, 3) := by decide +kernel
theorem dX2_copy_54 : decode cX2_copy 54 = .ok (.iconst 0, 1) := by decide +kernel
theorem dX2_copy_55 : decode cX2_copy 55 = .ok (.bipush 9, 2) := by decide +kernel
theorem dX2_copy_57 : decode cX2_copy 57 = .ok (.invokestatic 48, 3) := by decide +kernel
theorem dX2_copy_60 : decode cX2_copy 60 = .ok (.aload_n 1, 1) := by decide +kernel
theorem dX2_copy_61 : decode cX2_copy 61 = .ok (.getfield 24, 3) := by decide +kernel
theorem dX2_copy_64 : decode cX2_copy 64 = .ok (.iconst 0, 1) := by decide +kernel
theorem dX2_copy_65 : decode cX2_copy 65 = .ok (.aload_n 0, 1) := by decide +kernel
theorem dX2_copy_66 : decode cX2_copy 66 = .ok (.getfield 24, 3) := by decide +kernel
theorem dX2_copy_69 : decode cX2_copy 69 = .ok (.iconst 0, 1) := by decide +kernel
theorem dX2_copy_70 : decode cX2_copy 70 = .ok (.bipush 9, 2) := by decide +kernel
theorem dX2_copy_72 : decode cX2_copy 72 = .ok (.invokestatic 48, 3) := by decide +kernel
theorem dX2_copy_75 : decode cX2_copy 75 = .ok (.aload_n 0, 1) := by decide +kernel
theorem dX2_copy_76 : decode cX2_copy 76 = .ok (.aload_n 1, 1) := by decide +kernel
theorem dX2_copy_77 : decode cX2_copy 77 = .ok (.getfield 30, 3) := by decide +kernel
theorem dX2_copy_80 : decode cX2_copy 80 = .ok (.putfield 30, 3) := by decide +kernel
theorem dX2_copy_83 : decode cX2_copy 83 = .ok (.aload_n 0, 1) := by decide +kernel
theorem dX2_copy_84 : decode cX2_copy 84 = .ok (.aload_n 1, 1) := by decide +kernel
theorem dX2_copy_85 : decode cX2_copy 85 = .ok (.getfield 34, 3) := by decide +kernel
theorem dX2_copy_88 : decode cX2_copy 88 = .ok (.putfield 34, 3) := by decide +kernel
theorem dX2_copy_91 : decode cX2_copy 91 = .ok (.aload_n 0, 1) := by decide +kernel
theorem dX2_copy_92 : decode cX2_copy 92 = .ok (.aload_n 1, 1) := by decide +kernel
theorem dX2_copy_93 : decode cX2_copy 93 = .ok (.getfield 37, 3) := by decide +kernel
theorem dX2_copy_96 : decode cX2_copy 96 = .ok (.putfield 37, 3) := by decide +kernel
theorem dX2_copy_99 : decode cX2_copy 99 = .ok (.return_, 1) := by decide +kernel
theorem dX2_save_0 : decode cX2_save 0 = .ok (.iload_n 2, 1) := by decide +kernel
theorem dX2_save_1 : decode cX2_save 1 = .ok (.ifCond .lt 12, 3) := by decide +kernel
theorem dX2_save_4 : decode cX2_save 4 = .ok (.iload_n 2, 1) := by decide +kernel
theorem dX2_save_5 : decode cX2_save 5 = .ok (.bipush 48, 2) := by decide +kernel
theorem dX2_save_7 : decode cX2_save 7 = .ok (.iadd, 1) := by decide +kernel
theorem dX2_save_8 : decode cX2_save 8 = .ok (.aload_n 1, 1) := by decide +kernel
theorem dX2_save_9 : decode cX2_save 9 = .ok (.arraylength, 1) := by decide +kernel
theorem dX2_save_10 : decode cX2_save 10 = .ok (.if_icmp .le 4, 3) := by decide +kernel
theorem dX2_save_13 : decode cX2_save 13 = .ok (.return_, 1) := by decide +kernel
theorem dX2_save_14 : decode cX2_save 14 = .ok (.aload_n 1, 1) := by decide +kernel
theorem dX2_save_15 : decode cX2_save 15 = .ok (.iload_n 2, 1) := by decide +kernel
theorem dX2_save_16 : decode cX2_save 16 = .ok (.aload_n 0, 1) := by decide +kernel
theorem dX2_save_17 : decode cX2_save 17 = .ok (.getfield 30, 3) := by decide +kernel
theorem dX2_save_20 : decode cX2_save 20 = .ok (.iastore, 1) := by decide +kernel
theorem dX2_save_21 : decode cX2_save 21 = .ok (.aload_n 1, 1) := by decide +kernel
theorem dX2_save_22 : decode cX2_save 22 = .ok (.iload_n 2, 1) := by decide +kernel
theorem dX2_save_23 : decode cX2_save 23 = .ok (.iconst 1, 1) := by decide +kernel
theorem dX2_save_24 : decode cX2_save 24 = .ok (.iadd, 1) := by decide +kernel
theorem dX2_save_25 : decode cX2_save 25 = .ok (.aload_n 0, 1) := by decide +kernel
theorem dX2_save_26 : decode cX2_save 26 = .ok (.getfield 34, 3) := by decide +kernel
theorem dX2_save_29 : decode cX2_save 29 = .ok (.iastore, 1) := by decide +kernel
theorem dX2_save_30 : decode cX2_save 30 = .ok (.aload_n 1, 1) := by decide +kernel
theorem dX2_save_31 : decode cX2_save 31 = .ok (.iload_n 2, 1) := by decide +kernel
theorem dX2_save_32 : decode cX2_save 32 = .ok (.iconst 2, 1) := by decide +kernel
theorem dX2_save_33 : decode cX2_save 33 = .ok (.iadd, 1) := by decide +kernel
theorem dX2_save_34 : decode cX2_save 34 = .ok (.aload_n 0, 1) := by decide +kernel
theorem dX2_save_35 : decode cX2_save 35 = .ok (.getfield 37, 3) := by decide +kernel
theorem dX2_save_38 : decode cX2_save 38 = .ok (.iastore, 1) := by decide +kernel
theorem dX2_save_39 : decode cX2_save 39 = .ok (.aload_n 0, 1) := by decide +kernel
theorem dX2_save_40 : decode cX2_save 40 = .ok (.getfield 9, 3) := by decide +kernel
theorem dX2_save_43 : decode cX2_save 43 = .ok (.iconst 0, 1) := by decide +kernel
theorem dX2_save_44 : decode cX2_save 44 = .ok (.aload_n 1, 1) := by decide +kernel
theorem dX2_save_45 : decode cX2_save 45 = .ok (.iload_n 2, 1) := by decide +kernel
theorem dX2_save_46 : decode cX2_save 46 = .ok (.iconst 3, 1) := by decide +kernel
theorem dX2_save_47 : decode cX2_save 47 = .ok (.iadd, 1) := by decide +kernel
theorem dX2_save_48 : decode cX2_save 48 = .ok (.bipush 9, 2) := by decide +kernel
theorem dX2_save_50 : decode cX2_save 50 = .ok (.invokestatic 48, 3) := by decide +kernel
theorem dX2_save_53 : decode cX2_save 53 = .ok (.aload_n 0, 1) := by decide +kernel
theorem dX2_save_54 : decode cX2_save 54 = .ok (.getfield 15, 3) := by decide +kernel
theorem dX2_save_57 : decode cX2_save 57 = .ok (.iconst 0, 1) := by decide +kernel
theorem dX2_save_58 : decode cX2_save 58 = .ok (.aload_n 1, 1) := by decide +kernel
theorem dX2_save_59 : decode cX2_save 59 = .ok (.iload_n 2, 1) := by decide +kernel
theorem dX2_save_60 : decode cX2_save 60 = .ok (.iconst 3, 1) := by decide +kernel
theorem dX2_save_61 : decode cX2_save 61 = .ok (.iadd, 1) := by decide +kernel
theorem dX2_save_62 : decode cX2_save 62 = .ok (.bipush 9, 2) := by decide +kernel
theorem dX2_save_64 : decode cX2_save 64 = .ok (.iadd, 1) := by decide +kernel
theorem dX2_save_65 : decode cX2_save 65 = .ok (.bipush 9, 2) := by decide +kernel
theorem dX2_save_67 : decode cX2_save 67 = .ok (.invokestatic 48, 3) := by decide +kernel
theorem dX2_save_70 : decode cX2_save 70 = .ok (.aload_n 0, 1) := by decide +kernel
theorem dX2_save_71 : decode cX2_save 71 = .ok (.getfield 18, 3) := by decide +kernel
theorem dX2_save_74 : decode cX2_save 74 = .ok (.iconst 0, 1) := by decide +kernel
theorem dX2_save_75 : decode cX2_save 75 = .ok (.aload_n 1, 1) := by decide +kernel
theorem dX2_save_76 : decode cX2_save 76 = .ok (.iload_n 2, 1) := by decide +kernel
theorem dX2_save_77 : decode cX2_save 77 = .ok (.iconst 3, 1) := by decide +kernel
theorem dX2_save_78 : decode cX2_save 78 = .ok (.iadd, 1) := by decide +kernel
theorem dX2_save_79 : decode cX2_save 79 = .ok (.bipush 18, 2) := by decide +kernel
theorem dX2_save_81 : decode cX2_save 81 = .ok (.iadd, 1) := by decide +kernel
theorem dX2_save_82 : decode cX2_save 82 = .ok (.bipush 9, 2) := by decide +kernel
theorem dX2_save_84 : decode cX2_save 84 = .ok (.invokestatic 48, 3) := by decide +kernel
theorem dX2_save_87 : decode cX2_save 87 = .ok (.aload_n 0, 1) := by decide +kernel
theorem dX2_save_88 : decode cX2_save 88 = .ok (.getfield 21, 3) := by decide +kernel
theorem dX2_save_91 : decode cX2_save 91 = .ok (.iconst 0, 1) := by decide +kernel
theorem dX2_save_92 : decode cX2_save 92 = .ok (.aload_n 1, 1) := by decide +kernel
theorem dX2_save_93 : decode cX2_save 93 = .ok (.iload_n 2, 1) := by decide +kernel
theorem dX2_save_94 : decode cX2_save 94 = .ok (.iconst 3, 1) := by decide +kernel
theorem dX2_save_95 : decode cX2_save 95 = .ok (.iadd, 1) := by decide +kernel
theorem dX2_save_96 : decode cX2_save 96 = .ok (.bipush 27, 2) := by decide +kernel
theorem dX2_save_98 : decode cX2_save 98 = .ok (.iadd, 1) := by decide +kernel
theorem dX2_save_99 : decode cX2_save 99 = .ok (.bipush 9, 2) := by decide +kernel
theorem dX2_save_101 : decode cX2_save 101 = .ok (.invokestatic 48, 3) := by decide +kernel
theorem dX2_save_104 : decode cX2_save 104 = .ok (.aload_n 0, 1) := by decide +kernel
theorem dX2_save_105 : decode cX2_save 105 = .ok (.getfield 24, 3) := by decide +kernel
theorem dX2_save_108 : decode cX2_save 108 = .ok (.iconst 0, 1) := by decide +kernel
theorem dX2_save_109 : decode cX2_save 109 = .ok (.aload_n 1, 1) := by decide +kernel
theorem dX2_save_110 : decode cX2_save 110 = .ok (.iload_n 2, 1) := by decide +kernel
theorem dX2_save_111 : decode cX2_save 111 = .ok (.iconst 3, 1) := by decide +kernel
theorem dX2_save_112 : decode cX2_save 112 = .ok (.iadd, 1) := by decide +kernel
theorem dX2_save_113 : decode cX2_save 113 = .ok (.bipush 36, 2) := by decide +kernel
theorem dX2_save_115 : decode cX2_save 115 = .ok (.iadd, 1) := by decide +kernel
theorem dX2_save_116 : decode cX2_save 116 = .ok (.bipush 9, 2) := by decide +kernel
theorem dX2_save_118 : decode cX2_save 118 = .ok (.invokestatic 48, 3) := by decide +kernel
theorem dX2_save_121 : decode cX2_save 121 = .ok (.return_, 1) := by decide +kernel
theorem dX2_load_0 : decode cX2_load 0 = .ok (.iload_n 2, 1) := by decide +kernel
theorem dX2_load_1 : decode cX2_load 1 = .ok (.ifCond .lt 12, 3) := by decide +kernel
theorem dX2_load_4 : decode cX2_load 4 = .ok (.iload_n 2, 1) := by decide +kernel
theorem dX2_load_5 : decode cX2_load 5 = .ok (.bipush 48, 2) := by decide +kernel
theorem dX2_load_7 : decode cX2_load 7 = .ok (.iadd, 1) := by decide +kernel
theorem dX2_load_8 : decode cX2_load 8 = .ok (.aload_n 1, 1) := by decide +kernel
theorem dX2_load_9 : decode cX2_load 9 = .ok (.arraylength, 1) := by decide +kernel
theorem dX2_load_10 : decode cX2_load 10 = .ok (.if_icmp .le 4, 3) := by decide +kernel
theorem dX2_load_13 : decode cX2_load 13 = .ok (.return_, 1) := by decide +kernel
theorem dX2_load_14 : decode cX2_load 14 = .ok (.aload_n 0, 1) := by decide +kernel
theorem dX2_load_15 : decode cX2_load 15 = .ok (.aload_n 1, 1) := by decide +kernel
theorem dX2_load_16 : decode cX2_load 16 = .ok (.iload_n 2, 1) := by decide +kernel
theorem dX2_load_17 : decode cX2_load 17 = .ok (.iaload, 1) := by decide +kernel
theorem dX2_load_18 : decode cX2_load 18 = .ok (.putfield 30, 3) := by decide +kernel
theorem dX2_load_21 : decode cX2_load 21 = .ok (.aload_n 0, 1) := by decide +kernel
theorem dX2_load_22 : decode cX2_load 22 = .ok (.aload_n 1, 1) := by decide +kernel
theorem dX2_load_23 : decode cX2_load 23 = .ok (.iload_n 2, 1) := by decide +kernel
theorem dX2_load_24 : decode cX2_load 24 = .ok (.iconst 1, 1) := by decide +kernel
theorem dX2_load_25 : decode cX2_load 25 = .ok (.iadd, 1) := by decide +kernel
theorem dX2_load_26 : decode cX2_load 26 = .ok (.iaload, 1) := by decide +kernel
theorem dX2_load_27 : decode cX2_load 27 = .ok (.putfield 34, 3) := by decide +kernel
theorem dX2_load_30 : decode cX2_load 30 = .ok (.aload_n 0, 1) := by decide +kernel
theorem dX2_load_31 : decode cX2_load 31 = .ok (.aload_n 1, 1) := by decide +kernel
theorem dX2_load_32 : decode cX2_load 32 = .ok (.iload_n 2, 1) := by decide +kernel
theorem dX2_load_33 : decode cX2_load 33 = .ok (.iconst 2, 1) := by decide +kernel
theorem dX2_load_34 : decode cX2_load 34 = .ok (.iadd, 1) := by decide +kernel
theorem dX2_load_35 : decode cX2_load 35 = .ok (.iaload, 1) := by decide +kernel
theorem dX2_load_36 : decode cX2_load 36 = .ok (.putfield 37, 3) := by decide +kernel
theorem dX2_load_39 : decode cX2_load 39 = .ok (.aload_n 1, 1) := by decide +kernel
theorem dX2_load_40 : decode cX2_load 40 = .ok (.iload_n 2, 1) := by decide +kernel
theorem dX2_load_41 : decode cX2_load 41 = .ok (.iconst 3, 1) := by decide +kernel
theorem dX2_load_42 : decode cX2_load 42 = .ok (.iadd, 1) := by decide +kernel
theorem dX2_load_43 : decode cX2_load 43 = .ok (.aload_n 0, 1) := by decide +kernel
theorem dX2_load_44 : decode cX2_load 44 = .ok (.getfield 9, 3) := by decide +kernel
theorem dX2_load_47 : decode cX2_load 47 = .ok (.iconst 0, 1) := by decide +kernel
theorem dX2_load_48 : decode cX2_load 48 = .ok (.bipush 9, 2) := by decide +kernel
theorem dX2_load_50 : decode cX2_load 50 = .ok (.invokestatic 48, 3) := by decide +kernel
theorem dX2_load_53 : decode cX2_load 53 = .ok (.aload_n 1, 1) := by decide +kernel
theorem dX2_load_54 : decode cX2_load 54 = .ok (.iload_n 2, 1) := by decide +kernel
theorem dX2_load_55 : decode cX2_load 55 = .ok (.iconst 3, 1) := by decide +kernel
theorem dX2_load_56 : decode cX2_load 56 = .ok (.iadd, 1) := by decide +kernel
theorem dX2_load_57 : decode cX2_load 57 = .ok (.bipush 9, 2) := by decide +kernel
theorem dX2_load_59 : decode cX2_load 59 = .ok (.iadd, 1) := by decide +kernel
theorem dX2_load_60 : decode cX2_load 60 = .ok (.aload_n 0, 1) := by decide +kernel
theorem dX2_load_61 : decode cX2_load 61 = .ok (.getfield 15, 3) := by decide +kernel
theorem dX2_load_64 : decode cX2_load 64 = .ok (.iconst 0, 1) := by decide +kernel
theorem dX2_load_65 : decode cX2_load 65 = .ok (.bipush 9, 2) := by decide +kernel
theorem dX2_load_67 : decode cX2_load 67 = .ok (.invokestatic 48, 3) := by decide +kernel
theorem dX2_load_70 : decode cX2_load 70 = .ok (.aload_n 1, 1) := by decide +kernel
theorem dX2_load_71 : decode cX2_load 71 = .ok (.iload_n 2, 1) := by decide +kernel
theorem dX2_load_72 : decode cX2_load 72 = .ok (.iconst 3, 1) := by decide +kernel
theorem dX2_load_73 : decode cX2_load 73 = .ok (.iadd, 1) := by decide +kernel
theorem dX2_load_74 : decode cX2_load 74 = .ok (.bipush 18, 2) := by decide +kernel
theorem dX2_load_76 : decode cX2_load 76 = .ok (.iadd, 1) := by decide +kernel
theorem dX2_load_77 : decode cX2_load 77 = .ok (.aload_n 0, 1) := by decide +kernel
theorem dX2_load_78 : decode cX2_load 78 = .ok (.getfield 18, 3) := by decide +kernel
theorem dX2_load_81 : decode cX2_load 81 = .ok (.iconst 0, 1) := by decide +kernel
theorem dX2_load_82 : decode cX2_load 82 = .ok (.bipush 9, 2) := by decide +kernel
theorem dX2_load_84 : decode cX2_load 84 = .ok (.invokestatic 48, 3) := by decide +kernel
theorem dX2_load_87 : decode cX2_load 87 = .ok (.aload_n 1, 1) := by decide +kernel
theorem dX2_load_88 : decode cX2_load 88 = .ok (.iload_n 2, 1) := by decide +kernel
theorem dX2_load_89 : decode cX2_load 89 = .ok (.iconst 3, 1) := by decide +kernel
theorem dX2_load_90 : decode cX2_load 90 = .ok (.iadd, 1) := by decide +kernel
theorem dX2_load_91 : decode cX2_load 91 = .ok (.bipush 27, 2) := by decide +kernel
theorem dX2_load_93 : decode cX2_load 93 = .ok (.iadd, 1) := by decide +kernel
theorem dX2_load_94 : decode cX2_load 94 = .ok (.aload_n 0, 1) := by decide +kernel
theorem dX2_load_95 : decode cX2_load 95 = .ok (.getfield 21, 3) := by decide +kernel
theorem dX2_load_98 : decode cX2_load 98 = .ok (.iconst 0, 1) := by decide +kernel
theorem dX2_load_99 : decode cX2_load 99 = .ok (.bipush 9, 2) := by decide +kernel
theorem dX2_load_101 : decode cX2_load 101 = .ok (.invokestatic 48, 3) := by decide +kernel
theorem dX2_load_104 : decode cX2_load 104 = .ok (.aload_n 1, 1) := by decide +kernel
theorem dX2_load_105 : decode cX2_load 105 = .ok (.iload_n 2, 1) := by decide +kernel
theorem dX2_load_106 : decode cX2_load 106 = .ok (.iconst 3, 1) := by decide +kernel
theorem dX2_load_107 : decode cX2_load 107 = .ok (.iadd, 1) := by decide +kernel
theorem dX2_load_108 : decode cX2_load 108 = .ok (.bipush 36, 2) := by decide +kernel
theorem dX2_load_110 : decode cX2_load 110 = .ok (.iadd, 1) := by decide +kernel
theorem dX2_load_111 : decode cX2_load 111 = .ok (.aload_n 0, 1) := by decide +kernel
theorem dX2_load_112 : decode cX2_load 112 = .ok (.getfield 24, 3) := by decide +kernel
theorem dX2_load_115 : decode cX2_load 115 = .ok (.iconst 0, 1) := by decide +kernel
theorem dX2_load_116 : decode cX2_load 116 = .ok (.bipush 9, 2) := by decide +kernel
theorem dX2_load_118 : decode cX2_load 118 = .ok (.invokestatic 48, 3) := by decide +kernel
theorem dX2_load_121 : decode cX2_load 121 = .ok (.return_, 1) := by decide +kernel
theorem dX2_fillOfAll_0 : decode cX2_fillOfAll 0 = .ok (.iconst 0, 1) := by decide +kernel
theorem dX2_fillOfAll_1 : decode cX2_fillOfAll 1 = .ok (.istore_n 1, 1) := by decide +kernel
theorem dX2_fillOfAll_2 : decode cX2_fillOfAll 2 = .ok (.iconst 0, 1) := by decide +kernel
theorem dX2_fillOfAll_3 : decode cX2_fillOfAll 3 = .ok (.istore_n 2, 1) := by decide +kernel
theorem dX2_fillOfAll_4 : decode cX2_fillOfAll 4 = .ok (.iload_n 2, 1) := by decide +kernel
theorem dX2_fillOfAll_5 : decode cX2_fillOfAll 5 = .ok (.bipush 9, 2) := by decide +kernel
theorem dX2_fillOfAll_7 : decode cX2_fillOfAll 7 = .ok (.if_icmp .ge 18, 3) := by decide +kernel
theorem dX2_fillOfAll_10 : decode cX2_fillOfAll 10 = .ok (.iload_n 1, 1) := by decide +kernel
theorem dX2_fillOfAll_11 : decode cX2_fillOfAll 11 = .ok (.aload_n 0, 1) := by decide +kernel
theorem dX2_fillOfAll_12 : decode cX2_fillOfAll 12 = .ok (.getfield 15, 3) := by decide +kernel
theorem dX2_fillOfAll_15 : decode cX2_fillOfAll 15 = .ok (.iload_n 2, 1) := by decide +kernel
theorem dX2_fillOfAll_16 : decode cX2_fillOfAll 16 = .ok (.iaload, 1) := by decide +kernel
theorem dX2_fillOfAll_17 : decode cX2_fillOfAll 17 = .ok (.iadd, 1) := by decide +kernel
theorem dX2_fillOfAll_18 : decode cX2_fillOfAll 18 = .ok (.istore_n 1, 1) := by decide +kernel
theorem dX2_fillOfAll_19 : decode cX2_fillOfAll 19 = .ok (.iinc 2 1, 3) := by decide +kernel
theorem dX2_fillOfAll_22 : decode cX2_fillOfAll 22 = .ok (.goto (-18), 3) := by decide +kernel
theorem dX2_fillOfAll_25 : decode cX2_fillOfAll 25 = .ok (.iload_n 1, 1) := by decide +kernel
theorem dX2_fillOfAll_26 : decode cX2_fillOfAll 26 = .ok (.ireturn, 1) := by decide +kernel
theorem dX2_tipsOfAll_0 : decode cX2_tipsOfAll 0 = .ok (.iconst 0, 1) := by decide +kernel
theorem dX2_tipsOfAll_1 : decode cX2_tipsOfAll 1 = .ok (.istore_n 1, 1) := by decide +kernel
theorem dX2_tipsOfAll_2 : decode cX2_tipsOfAll 2 = .ok (.iconst 0, 1) := by decide +kernel
theorem dX2_tipsOfAll_3 : decode cX2_tipsOfAll 3 = .ok (.istore_n 2, 1) := by decide +kernel
theorem dX2_tipsOfAll_4 : decode cX2_tipsOfAll 4 = .ok (.iload_n 2, 1) := by decide +kernel
theorem dX2_tipsOfAll_5 : decode cX2_tipsOfAll 5 = .ok (.bipush 9, 2) := by decide +kernel
theorem dX2_tipsOfAll_7 : decode cX2_tipsOfAll 7 = .ok (.if_icmp .ge 23, 3) := by decide +kernel
theorem dX2_tipsOfAll_10 : decode cX2_tipsOfAll 10 = .ok (.ldc 54, 2) := by decide +kernel
theorem dX2_tipsOfAll_12 : decode cX2_tipsOfAll 12 = .ok (.iload_n 1, 1) := by decide +kernel
theorem dX2_tipsOfAll_13 : decode cX2_tipsOfAll 13 = .ok (.aload_n 0, 1) := by decide +kernel
theorem dX2_tipsOfAll_14 : decode cX2_tipsOfAll 14 = .ok (.getfield 24, 3) := by decide +kernel
theorem dX2_tipsOfAll_17 : decode cX2_tipsOfAll 17 = .ok (.iload_n 2, 1) := by decide +kernel
theorem dX2_tipsOfAll_18 : decode cX2_tipsOfAll 18 = .ok (.iaload, 1) := by decide +kernel
theorem dX2_tipsOfAll_19 : decode cX2_tipsOfAll 19 = .ok (.iadd, 1) := by decide +kernel
theorem dX2_tipsOfAll_20 : decode cX2_tipsOfAll 20 = .ok (.invokestatic 55, 3) := by decide +kernel
theorem dX2_tipsOfAll_23 : decode cX2_tipsOfAll 23 = .ok (.istore_n 1, 1) := by decide +kernel
theorem dX2_tipsOfAll_24 : decode cX2_tipsOfAll 24 = .ok (.iinc 2 1, 3) := by decide +kernel
theorem dX2_tipsOfAll_27 : decode cX2_tipsOfAll 27 = .ok (.goto (-23), 3) := by decide +kernel
theorem dX2_tipsOfAll_30 : decode cX2_tipsOfAll 30 = .ok (.iload_n 1, 1) := by decide +kernel
theorem dX2_tipsOfAll_31 : decode cX2_tipsOfAll 31 = .ok (.ireturn, 1) := by decide +kernel
theorem dX2_filledAs_0 : decode cX2_filledAs 0 = .ok (.iconst 0, 1) := by decide +kernel
theorem dX2_filledAs_1 : decode cX2_filledAs 1 = .ok (.istore_n 2, 1) := by decide +kernel
theorem dX2_filledAs_2 : decode cX2_filledAs 2 = .ok (.iload_n 2, 1) := by decide +kernel
theorem dX2_filledAs_3 : decode cX2_filledAs 3 = .ok (.bipush 9, 2) := by decide +kernel
theorem dX2_filledAs_5 : decode cX2_filledAs 5 = .ok (.if_icmp .ge 26, 3) := by decide +kernel
theorem dX2_filledAs_8 : decode cX2_filledAs 8 = .ok (.aload_n 0, 1) := by decide +kernel
theorem dX2_filledAs_9 : decode cX2_filledAs 9 = .ok (.getfield 15, 3) := by decide +kernel
theorem dX2_filledAs_12 : decode cX2_filledAs 12 = .ok (.iload_n 2, 1) := by decide +kernel
theorem dX2_filledAs_13 : decode cX2_filledAs 13 = .ok (.iaload, 1) := by decide +kernel
theorem dX2_filledAs_14 : decode cX2_filledAs 14 = .ok (.aload_n 1, 1) := by decide +kernel
theorem dX2_filledAs_15 : decode cX2_filledAs 15 = .ok (.getfield 15, 3) := by decide +kernel
theorem dX2_filledAs_18 : decode cX2_filledAs 18 = .ok (.iload_n 2, 1) := by decide +kernel
theorem dX2_filledAs_19 : decode cX2_filledAs 19 = .ok (.iaload, 1) := by decide +kernel
theorem dX2_filledAs_20 : decode cX2_filledAs 20 = .ok (.if_icmp .eq 5, 3) := by decide +kernel
theorem dX2_filledAs_23 : decode cX2_filledAs 23 = .ok (.iconst 0, 1) := by decide +kernel
theorem dX2_filledAs_24 : decode cX2_filledAs 24 = .ok (.ireturn, 1) := by decide +kernel
theorem dX2_filledAs_25 : decode cX2_filledAs 25 = .ok (.iinc 2 1, 3) := by decide +kernel
theorem dX2_filledAs_28 : decode cX2_filledAs 28 = .ok (.goto (-26), 3) := by decide +kernel
theorem dX2_filledAs_31 : decode cX2_filledAs 31 = .ok (.iconst 1, 1) := by decide +kernel
theorem dX2_filledAs_32 : decode cX2_filledAs 32 = .ok (.ireturn, 1) := by decide +kernel
theorem dX2_isPlugged_0 : decode cX2_isPlugged 0 = .ok (.aload_n 0, 1) := by decide +kernel
theorem dX2_isPlugged_1 : decode cX2_isPlugged 1 = .ok (.getfield 34, 3) := by decide +kernel
theorem dX2_isPlugged_4 : decode cX2_isPlugged 4 = .ok (.iload_n 1, 1) := by decide +kernel
theorem dX2_isPlugged_5 : decode cX2_isPlugged 5 = .ok (.invokestatic 61, 3) := by decide +kernel
theorem dX2_isPlugged_8 : decode cX2_isPlugged 8 = .ok (.ireturn, 1) := by decide +kernel
theorem dX2_setPlugged_0 : decode cX2_setPlugged 0 = .ok (.aload_n 0, 1) := by decide +kernel
theorem dX2_setPlugged_1 : decode cX2_setPlugged 1 = .ok (.iload_n 2, 1) := by decide +kernel
theorem dX2_setPlugged_2 : decode cX2_setPlugged 2 = .ok (.ifCond .eq 15, 3) := by decide +kernel
theorem dX2_setPlugged_5 : decode cX2_setPlugged 5 = .ok (.aload_n 0, 1) := by decide +kernel
theorem dX2_setPlugged_6 : decode cX2_setPlugged 6 = .ok (.getfield 34, 3) := by decide +kernel
theorem dX2_setPlugged_9 : decode cX2_setPlugged 9 = .ok (.iload_n 1, 1) := by decide +kernel
theorem dX2_setPlugged_10 : decode cX2_setPlugged 10 = .ok (.invokestatic 65, 3) := by decide +kernel
theorem dX2_setPlugged_13 : decode cX2_setPlugged 13 = .ok (.ior, 1) := by decide +kernel
theorem dX2_setPlugged_14 : decode cX2_setPlugged 14 = .ok (.goto 14, 3) := by decide +kernel
theorem dX2_setPlugged_17 : decode cX2_setPlugged 17 = .ok (.aload_n 0, 1) := by decide +kernel
theorem dX2_setPlugged_18 : decode cX2_setPlugged 18 = .ok (.getfield 34, 3) := by decide +kernel
theorem dX2_setPlugged_21 : decode cX2_setPlugged 21 = .ok (.iload_n 1, 1) := by decide +kernel
theorem dX2_setPlugged_22 : decode cX2_setPlugged 22 = .ok (.invokestatic 65, 3) := by decide +kernel
theorem dX2_setPlugged_25 : decode cX2_setPlugged 25 = .ok (.iconst (-1), 1) := by decide +kernel
theorem dX2_setPlugged_26 : decode cX2_setPlugged 26 = .ok (.ixor, 1) := by decide +kernel
theorem dX2_setPlugged_27 : decode cX2_setPlugged 27 = .ok (.iand, 1) := by decide +kernel
theorem dX2_setPlugged_28 : decode cX2_setPlugged 28 = .ok (.putfield 34, 3) := by decide +kernel
theorem dX2_setPlugged_31 : decode cX2_setPlugged 31 = .ok (.return_, 1) := by decide +kernel
theorem dX2_setHolds_0 : decode cX2_setHolds 0 = .ok (.aload_n 0, 1) := by decide +kernel
theorem dX2_setHolds_1 : decode cX2_setHolds 1 = .ok (.getfield 9, 3) := by decide +kernel
theorem dX2_setHolds_4 : decode cX2_setHolds 4 = .ok (.iload_n 1, 1) := by decide +kernel
theorem dX2_setHolds_5 : decode cX2_setHolds 5 = .ok (.iload_n 2, 1) := by decide +kernel
theorem dX2_setHolds_6 : decode cX2_setHolds 6 = .ok (.iastore, 1) := by decide +kernel
theorem dX2_setHolds_7 : decode cX2_setHolds 7 = .ok (.aload_n 0, 1) := by decide +kernel
theorem dX2_setHolds_8 : decode cX2_setHolds 8 = .ok (.getfield 15, 3) := by decide +kernel
theorem dX2_setHolds_11 : decode cX2_setHolds 11 = .ok (.iload_n 1, 1) := by decide +kernel
theorem dX2_setHolds_12 : decode cX2_setHolds 12 = .ok (.aload_n 0, 1) := by decide +kernel
theorem dX2_setHolds_13 : decode cX2_setHolds 13 = .ok (.getfield 15, 3) := by decide +kernel
theorem dX2_setHolds_16 : decode cX2_setHolds 16 = .ok (.iload_n 1, 1) := by decide +kernel
theorem dX2_setHolds_17 : decode cX2_setHolds 17 = .ok (.iaload, 1) := by decide +kernel
theorem dX2_setHolds_18 : decode cX2_setHolds 18 = .ok (.iload_n 2, 1) := by decide +kernel
theorem dX2_setHolds_19 : decode cX2_setHolds 19 = .ok (.iconst 1, 1) := by decide +kernel
theorem dX2_setHolds_20 : decode cX2_setHolds 20 = .ok (.isub, 1) := by decide +kernel
theorem dX2_setHolds_21 : decode cX2_setHolds 21 = .ok (.invokestatic 55, 3) := by decide +kernel
theorem dX2_setHolds_24 : decode cX2_setHolds 24 = .ok (.iastore, 1) := by decide +kernel
theorem dX2_setHolds_25 : decode cX2_setHolds 25 = .ok (.return_, 1) := by decide +kernel
theorem dX2_setInto_0 : decode cX2_setInto 0 = .ok (.aload_n 0, 1) := by decide +kernel
theorem dX2_setInto_1 : decode cX2_setInto 1 = .ok (.getfield 18, 3) := by decide +kernel
theorem dX2_setInto_4 : decode cX2_setInto 4 = .ok (.iload_n 1, 1) := by decide +kernel
theorem dX2_setInto_5 : decode cX2_setInto 5 = .ok (.iload_n 2, 1) := by decide +kernel
theorem dX2_setInto_6 : decode cX2_setInto 6 = .ok (.iastore, 1) := by decide +kernel
theorem dX2_setInto_7 : decode cX2_setInto 7 = .ok (.aload_n 0, 1) := by decide +kernel
theorem dX2_setInto_8 : decode cX2_setInto 8 = .ok (.getfield 21, 3) := by decide +kernel
theorem dX2_setInto_11 : decode cX2_setInto 11 = .ok (.iload_n 1, 1) := by decide +kernel
theorem dX2_setInto_12 : decode cX2_setInto 12 = .ok (.iconst (-1), 1) := by decide +kernel
theorem dX2_setInto_13 : decode cX2_setInto 13 = .ok (.iastore, 1) := by decide +kernel
theorem dX2_setInto_14 : decode cX2_setInto 14 = .ok (.aload_n 0, 1) := by decide +kernel
theorem dX2_setInto_15 : decode cX2_setInto 15 = .ok (.dup, 1) := by decide +kernel
theorem dX2_setInto_16 : decode cX2_setInto 16 = .ok (.getfield 37, 3) := by decide +kernel
theorem dX2_setInto_19 : decode cX2_setInto 19 = .ok (.iload_n 1, 1) := by decide +kernel
theorem dX2_setInto_20 : decode cX2_setInto 20 = .ok (.invokestatic 65, 3) := by decide +kernel
theorem dX2_setInto_23 : decode cX2_setInto 23 = .ok (.iconst (-1), 1) := by decide +kernel
theorem dX2_setInto_24 : decode cX2_setInto 24 = .ok (.ixor, 1) := by decide +kernel
theorem dX2_setInto_25 : decode cX2_setInto 25 = .ok (.iand, 1) := by decide +kernel
theorem dX2_setInto_26 : decode cX2_setInto 26 = .ok (.putfield 37, 3) := by decide +kernel
theorem dX2_setInto_29 : decode cX2_setInto 29 = .ok (.return_, 1) := by decide +kernel
theorem dX2_leadsJust_0 : decode cX2_leadsJust 0 = .ok (.aload_n 0, 1) := by decide +kernel
theorem dX2_leadsJust_1 : decode cX2_leadsJust 1 = .ok (.getfield 18, 3) := by decide +kernel
theorem dX2_leadsJust_4 : decode cX2_leadsJust 4 = .ok (.iload_n 1, 1) := by decide +kernel
theorem dX2_leadsJust_5 : decode cX2_leadsJust 5 = .ok (.iaload, 1) := by decide +kernel
theorem dX2_leadsJust_6 : decode cX2_leadsJust 6 = .ok (.iload_n 2, 1) := by decide +kernel
theorem dX2_leadsJust_7 : decode cX2_leadsJust 7 = .ok (.if_icmp .ne 17, 3) := by decide +kernel
theorem dX2_leadsJust_10 : decode cX2_leadsJust 10 = .ok (.aload_n 0, 1) := by decide +kernel
theorem dX2_leadsJust_11 : decode cX2_leadsJust 11 = .ok (.getfield 21, 3) := by decide +kernel
theorem dX2_leadsJust_14 : decode cX2_leadsJust 14 = .ok (.iload_n 1, 1) := by decide +kernel
theorem dX2_leadsJust_15 : decode cX2_leadsJust 15 = .ok (.iaload, 1) := by decide +kernel
theorem dX2_leadsJust_16 : decode cX2_leadsJust 16 = .ok (.iconst (-1), 1) := by decide +kernel
theorem dX2_leadsJust_17 : decode cX2_leadsJust 17 = .ok (.if_icmp .ne 7, 3) := by decide +kernel
theorem dX2_leadsJust_20 : decode cX2_leadsJust 20 = .ok (.iconst 1, 1) := by decide +kernel
theorem dX2_leadsJust_21 : decode cX2_leadsJust 21 = .ok (.goto 4, 3) := by decide +kernel
theorem dX2_leadsJust_24 : decode cX2_leadsJust 24 = .ok (.iconst 0, 1) := by decide +kernel
theorem dX2_leadsJust_25 : decode cX2_leadsJust 25 = .ok (.ireturn, 1) := by decide +kernel
theorem dX2_intoOfDrop_0 : decode cX2_intoOfDrop 0 = .ok (.aload_n 0, 1) := by decide +kernel
theorem dX2_intoOfDrop_1 : decode cX2_intoOfDrop 1 = .ok (.getfield 21, 3) := by decide +kernel
theorem dX2_intoOfDrop_4 : decode cX2_intoOfDrop 4 = .ok (.iload_n 1, 1) := by decide +kernel
theorem dX2_intoOfDrop_5 : decode cX2_intoOfDrop 5 = .ok (.iaload, 1) := by decide +kernel
theorem dX2_intoOfDrop_6 : decode cX2_intoOfDrop 6 = .ok (.iconst (-1), 1) := by decide +kernel
theorem dX2_intoOfDrop_7 : decode cX2_intoOfDrop 7 = .ok (.if_icmp .ne 10, 3) := by decide +kernel
theorem dX2_intoOfDrop_10 : decode cX2_intoOfDrop 10 = .ok (.aload_n 0, 1) := by decide +kernel
theorem dX2_intoOfDrop_11 : decode cX2_intoOfDrop 11 = .ok (.getfield 18, 3) := by decide +kernel
theorem dX2_intoOfDrop_14 : decode cX2_intoOfDrop 14 = .ok (.iload_n 1, 1) := by decide +kernel
theorem dX2_intoOfDrop_15 : decode cX2_intoOfDrop 15 = .ok (.iaload, 1) := by decide +kernel
theorem dX2_intoOfDrop_16 : decode cX2_intoOfDrop 16 = .ok (.ireturn, 1) := by decide +kernel
theorem dX2_intoOfDrop_17 : decode cX2_intoOfDrop 17 = .ok (.aload_n 0, 1) := by decide +kernel
theorem dX2_intoOfDrop_18 : decode cX2_intoOfDrop 18 = .ok (.getfield 37, 3) := by decide +kernel
theorem dX2_intoOfDrop_21 : decode cX2_intoOfDrop 21 = .ok (.iload_n 1, 1) := by decide +kernel
theorem dX2_intoOfDrop_22 : decode cX2_intoOfDrop 22 = .ok (.ishr, 1) := by decide +kernel
theorem dX2_intoOfDrop_23 : decode cX2_intoOfDrop 23 = .ok (.iload_n 2, 1) := by decide +kernel
theorem dX2_intoOfDrop_24 : decode cX2_intoOfDrop 24 = .ok (.iadd, 1) := by decide +kernel
theorem dX2_intoOfDrop_25 : decode cX2_intoOfDrop 25 = .ok (.istore_n 3, 1) := by decide +kernel
theorem dX2_intoOfDrop_26 : decode cX2_intoOfDrop 26 = .ok (.iload_n 3, 1) := by decide +kernel
theorem dX2_intoOfDrop_27 : decode cX2_intoOfDrop 27 = .ok (.iconst 1, 1) := by decide +kernel
theorem dX2_intoOfDrop_28 : decode cX2_intoOfDrop 28 = .ok (.iand, 1) := by decide +kernel
theorem dX2_intoOfDrop_29 : decode cX2_intoOfDrop 29 = .ok (.ifCond .ne 12, 3) := by decide +kernel
theorem dX2_intoOfDrop_32 : decode cX2_intoOfDrop 32 = .ok (.aload_n 0, 1) := by decide +kernel
theorem dX2_intoOfDrop_33 : decode cX2_intoOfDrop 33 = .ok (.getfield 18, 3) := by decide +kernel
theorem dX2_intoOfDrop_36 : decode cX2_intoOfDrop 36 = .ok (.iload_n 1, 1) := by decide +kernel
theorem dX2_intoOfDrop_37 : decode cX2_intoOfDrop 37 = .ok (.iaload, 1) := by decide +kernel
theorem dX2_intoOfDrop_38 : decode cX2_intoOfDrop 38 = .ok (.goto 9, 3) := by decide +kernel
theorem dX2_intoOfDrop_41 : decode cX2_intoOfDrop 41 = .ok (.aload_n 0, 1) := by decide +kernel
theorem dX2_intoOfDrop_42 : decode cX2_intoOfDrop 42 = .ok (.getfield 21, 3) := by decide +kernel
theorem dX2_intoOfDrop_45 : decode cX2_intoOfDrop 45 = .ok (.iload_n 1, 1) := by decide +kernel
theorem dX2_intoOfDrop_46 : decode cX2_intoOfDrop 46 = .ok (.iaload, 1) := by decide +kernel
theorem dX2_intoOfDrop_47 : decode cX2_intoOfDrop 47 = .ok (.ireturn, 1) := by decide +kernel
theorem dX2_dropsIntoFirst_0 : decode cX2_dropsIntoFirst 0 = .ok (.aload_n 0, 1) := by decide +kernel
theorem dX2_dropsIntoFirst_1 : decode cX2_dropsIntoFirst 1 = .ok (.getfield 21, 3) := by decide +kernel
theorem dX2_dropsIntoFirst_4 : decode cX2_dropsIntoFirst 4 = .ok (.iload_n 1, 1) := by decide +kernel
theorem dX2_dropsIntoFirst_5 : decode cX2_dropsIntoFirst 5 = .ok (.iaload, 1) := by decide +kernel
theorem dX2_dropsIntoFirst_6 : decode cX2_dropsIntoFirst 6 = .ok (.iconst (-1), 1) := by decide +kernel
theorem dX2_dropsIntoFirst_7 : decode cX2_dropsIntoFirst 7 = .ok (.if_icmp .ne 5, 3) := by decide +kernel
theorem dX2_dropsIntoFirst_10 : decode cX2_dropsIntoFirst 10 = .ok (.iload_n 2, 1) := by decide +kernel
theorem dX2_dropsIntoFirst_11 : decode cX2_dropsIntoFirst 11 = .ok (.ireturn, 1) := by decide +kernel
theorem dX2_dropsIntoFirst_12 : decode cX2_dropsIntoFirst 12 = .ok (.iconst 1, 1) := by decide +kernel
theorem dX2_dropsIntoFirst_13 : decode cX2_dropsIntoFirst 13 = .ok (.aload_n 0, 1) := by decide +kernel
theorem dX2_dropsIntoFirst_14 : decode cX2_dropsIntoFirst 14 = .ok (.getfield 37, 3) := by decide +kernel
theorem dX2_dropsIntoFirst_17 : decode cX2_dropsIntoFirst 17 = .ok (.iload_n 1, 1) := by decide +kernel
theorem dX2_dropsIntoFirst_18 : decode cX2_dropsIntoFirst 18 = .ok (.ishr, 1) := by decide +kernel
theorem dX2_dropsIntoFirst_19 : decode cX2_dropsIntoFirst 19 = .ok (.iconst 1, 1) := by decide +kernel
theorem dX2_dropsIntoFirst_20 : decode cX2_dropsIntoFirst 20 = .ok (.iand, 1) := by decide +kernel
theorem dX2_dropsIntoFirst_21 : decode cX2_dropsIntoFirst 21 = .ok (.isub, 1) := by decide +kernel
theorem dX2_dropsIntoFirst_22 : decode cX2_dropsIntoFirst 22 = .ok (.istore_n 3, 1) := by decide +kernel
theorem dX2_dropsIntoFirst_23 : decode cX2_dropsIntoFirst 23 = .ok (.iload_n 2, 1) := by decide +kernel
theorem dX2_dropsIntoFirst_24 : decode cX2_dropsIntoFirst 24 = .ok (.iload_n 3, 1) := by decide +kernel
theorem dX2_dropsIntoFirst_25 : decode cX2_dropsIntoFirst 25 = .ok (.iadd, 1) := by decide +kernel
theorem dX2_dropsIntoFirst_26 : decode cX2_dropsIntoFirst 26 = .ok (.iconst 2, 1) := by decide +kernel
theorem dX2_dropsIntoFirst_27 : decode cX2_dropsIntoFirst 27 = .ok (.idiv, 1) := by decide +kernel
theorem dX2_dropsIntoFirst_28 : decode cX2_dropsIntoFirst 28 = .ok (.ireturn, 1) := by decide +kernel
theorem dX2_dropsInto_0 : decode cX2_dropsInto 0 = .ok (.aload_n 0, 1) := by decide +kernel
theorem dX2_dropsInto_1 : decode cX2_dropsInto 1 = .ok (.iload_n 1, 1) := by decide +kernel
theorem dX2_dropsInto_2 : decode cX2_dropsInto 2 = .ok (.iload_n 3, 1) := by decide +kernel
theorem dX2_dropsInto_3 : decode cX2_dropsInto 3 = .ok (.invokevirtual 69, 3) := by decide +kernel
theorem dX2_dropsInto_6 : decode cX2_dropsInto 6 = .ok (.istore 4, 2) := by decide +kernel
theorem dX2_dropsInto_8 : decode cX2_dropsInto 8 = .ok (.aload_n 0, 1) := by decide +kernel
theorem dX2_dropsInto_9 : decode cX2_dropsInto 9 = .ok (.getfield 18, 3) := by decide +kernel
theorem dX2_dropsInto_12 : decode cX2_dropsInto 12 = .ok (.iload_n 1, 1) := by decide +kernel
theorem dX2_dropsInto_13 : decode cX2_dropsInto 13 = .ok (.iaload, 1) := by decide +kernel
theorem dX2_dropsInto_14 : decode cX2_dropsInto 14 = .ok (.iload_n 2, 1) := by decide +kernel
theorem dX2_dropsInto_15 : decode cX2_dropsInto 15 = .ok (.if_icmp .ne 8, 3) := by decide +kernel
theorem dX2_dropsInto_18 : decode cX2_dropsInto 18 = .ok (.iload 4, 2) := by decide +kernel
theorem dX2_dropsInto_20 : decode cX2_dropsInto 20 = .ok (.goto 4, 3) := by decide +kernel
theorem dX2_dropsInto_23 : decode cX2_dropsInto 23 = .ok (.iconst 0, 1) := by decide +kernel
theorem dX2_dropsInto_24 : decode cX2_dropsInto 24 = .ok (.istore 5, 2) := by decide +kernel
theorem dX2_dropsInto_26 : decode cX2_dropsInto 26 = .ok (.aload_n 0, 1) := by decide +kernel
theorem dX2_dropsInto_27 : decode cX2_dropsInto 27 = .ok (.getfield 21, 3) := by decide +kernel
theorem dX2_dropsInto_30 : decode cX2_dropsInto 30 = .ok (.iload_n 1, 1) := by decide +kernel
theorem dX2_dropsInto_31 : decode cX2_dropsInto 31 = .ok (.iaload, 1) := by decide +kernel
theorem dX2_dropsInto_32 : decode cX2_dropsInto 32 = .ok (.iload_n 2, 1) := by decide +kernel
theorem dX2_dropsInto_33 : decode cX2_dropsInto 33 = .ok (.if_icmp .ne 13, 3) := by decide +kernel
theorem dX2_dropsInto_36 : decode cX2_dropsInto 36 = .ok (.iload 5, 2) := by decide +kernel
theorem dX2_dropsInto_38 : decode cX2_dropsInto 38 = .ok (.iload_n 3, 1) := by decide +kernel
theorem dX2_dropsInto_39 : decode cX2_dropsInto 39 = .ok (.iadd, 1) := by decide +kernel
theorem dX2_dropsInto_40 : decode cX2_dropsInto 40 = .ok (.iload 4, 2) := by decide +kernel
theorem dX2_dropsInto_42 : decode cX2_dropsInto 42 = .ok (.isub, 1) := by decide +kernel
theorem dX2_dropsInto_43 : decode cX2_dropsInto 43 = .ok (.goto 5, 3) := by decide +kernel
theorem dX2_dropsInto_46 : decode cX2_dropsInto 46 = .ok (.iload 5, 2) := by decide +kernel
theorem dX2_dropsInto_48 : decode cX2_dropsInto 48 = .ok (.ireturn, 1) := by decide +kernel
theorem dX2_passTurns_0 : decode cX2_passTurns 0 = .ok (.aload_n 0, 1) := by decide +kernel
theorem dX2_passTurns_1 : decode cX2_passTurns 1 = .ok (.getfield 21, 3) := by decide +kernel
theorem dX2_passTurns_4 : decode cX2_passTurns 4 = .ok (.iload_n 1, 1) := by decide +kernel
theorem dX2_passTurns_5 : decode cX2_passTurns 5 = .ok (.iaload, 1) := by decide +kernel
theorem dX2_passTurns_6 : decode cX2_passTurns 6 = .ok (.iconst (-1), 1) := by decide +kernel
theorem dX2_passTurns_7 : decode cX2_passTurns 7 = .ok (.if_icmp .eq 22, 3) := by decide +kernel
theorem dX2_passTurns_10 : decode cX2_passTurns 10 = .ok (.iload_n 2, 1) := by decide +kernel
theorem dX2_passTurns_11 : decode cX2_passTurns 11 = .ok (.iconst 1, 1) := by decide +kernel
theorem dX2_passTurns_12 : decode cX2_passTurns 12 = .ok (.iand, 1) := by decide +kernel
theorem dX2_passTurns_13 : decode cX2_passTurns 13 = .ok (.iconst 1, 1) := by decide +kernel
theorem dX2_passTurns_14 : decode cX2_passTurns 14 = .ok (.if_icmp .ne 15, 3) := by decide +kernel
theorem dX2_passTurns_17 : decode cX2_passTurns 17 = .ok (.aload_n 0, 1) := by decide +kernel
theorem dX2_passTurns_18 : decode cX2_passTurns 18 = .ok (.dup, 1) := by decide +kernel
theorem dX2_passTurns_19 : decode cX2_passTurns 19 = .ok (.getfield 37, 3) := by decide +kernel
theorem dX2_passTurns_22 : decode cX2_passTurns 22 = .ok (.iconst 1, 1) := by decide +kernel
theorem dX2_passTurns_23 : decode cX2_passTurns 23 = .ok (.iload_n 1, 1) := by decide +kernel
theorem dX2_passTurns_24 : decode cX2_passTurns 24 = .ok (.ishl, 1) := by decide +kernel
theorem dX2_passTurns_25 : decode cX2_passTurns 25 = .ok (.ixor, 1) := by decide +kernel
theorem dX2_passTurns_26 : decode cX2_passTurns 26 = .ok (.putfield 37, 3) := by decide +kernel
theorem dX2_passTurns_29 : decode cX2_passTurns 29 = .ok (.return_, 1) := by decide +kernel
theorem dX2_straightBelow_0 : decode cX2_straightBelow 0 = .ok (.aload_n 0, 1) := by decide +kernel
theorem dX2_straightBelow_1 : decode cX2_straightBelow 1 = .ok (.getfield 18, 3) := by decide +kernel
theorem dX2_straightBelow_4 : decode cX2_straightBelow 4 = .ok (.iload_n 1, 1) := by decide +kernel
theorem dX2_straightBelow_5 : decode cX2_straightBelow 5 = .ok (.iaload, 1) := by decide +kernel
theorem dX2_straightBelow_6 : decode cX2_straightBelow 6 = .ok (.invokestatic 65, 3) := by decide +kernel
theorem dX2_straightBelow_9 : decode cX2_straightBelow 9 = .ok (.aload_n 0, 1) := by decide +kernel
theorem dX2_straightBelow_10 : decode cX2_straightBelow 10 = .ok (.getfield 21, 3) := by decide +kernel
theorem dX2_straightBelow_13 : decode cX2_straightBelow 13 = .ok (.iload_n 1, 1) := by decide +kernel
theorem dX2_straightBelow_14 : decode cX2_straightBelow 14 = .ok (.iaload, 1) := by decide +kernel
theorem dX2_straightBelow_15 : decode cX2_straightBelow 15 = .ok (.invokestatic 65, 3) := by decide +kernel
theorem dX2_straightBelow_18 : decode cX2_straightBelow 18 = .ok (.ior, 1) := by decide +kernel
theorem dX2_straightBelow_19 : decode cX2_straightBelow 19 = .ok (.ireturn, 1) := by decide +kernel
theorem dX2_allBelow_0 : decode cX2_allBelow 0 = .ok (.aload_n 0, 1) := by decide +kernel
theorem dX2_allBelow_1 : decode cX2_allBelow 1 = .ok (.iload_n 1, 1) := by decide +kernel
theorem dX2_allBelow_2 : decode cX2_allBelow 2 = .ok (.invokevirtual 72, 3) := by decide +kernel
theorem dX2_allBelow_5 : decode cX2_allBelow 5 = .ok (.istore_n 2, 1) := by decide +kernel
theorem dX2_allBelow_6 : decode cX2_allBelow 6 = .ok (.iload_n 1, 1) := by decide +kernel
theorem dX2_allBelow_7 : decode cX2_allBelow 7 = .ok (.iconst 1, 1) := by decide +kernel
theorem dX2_allBelow_8 : decode cX2_allBelow 8 = .ok (.iadd, 1) := by decide +kernel
theorem dX2_allBelow_9 : decode cX2_allBelow 9 = .ok (.istore_n 3, 1) := by decide +kernel
theorem dX2_allBelow_10 : decode cX2_allBelow 10 = .ok (.iload_n 3, 1) := by decide +kernel
theorem dX2_allBelow_11 : decode cX2_allBelow 11 = .ok (.bipush 9, 2) := by decide +kernel
theorem dX2_allBelow_13 : decode cX2_allBelow 13 = .ok (.if_icmp .ge 25, 3) := by decide +kernel
theorem dX2_allBelow_16 : decode cX2_allBelow 16 = .ok (.iload_n 2, 1) := by decide +kernel
theorem dX2_allBelow_17 : decode cX2_allBelow 17 = .ok (.iload_n 3, 1) := by decide +kernel
theorem dX2_allBelow_18 : decode cX2_allBelow 18 = .ok (.invokestatic 61, 3) := by decide +kernel
theorem dX2_allBelow_21 : decode cX2_allBelow 21 = .ok (.ifCond .eq 11, 3) := by decide +kernel
theorem dX2_allBelow_24 : decode cX2_allBelow 24 = .ok (.iload_n 2, 1) := by decide +kernel
theorem dX2_allBelow_25 : decode cX2_allBelow 25 = .ok (.aload_n 0, 1) := by decide +kernel
theorem dX2_allBelow_26 : decode cX2_allBelow 26 = .ok (.iload_n 3, 1) := by decide +kernel
theorem dX2_allBelow_27 : decode cX2_allBelow 27 = .ok (.invokevirtual 72, 3) := by decide +kernel
theorem dX2_allBelow_30 : decode cX2_allBelow 30 = .ok (.ior, 1) := by decide +kernel
theorem dX2_allBelow_31 : decode cX2_allBelow 31 = .ok (.istore_n 2, 1) := by decide +kernel
theorem dX2_allBelow_32 : decode cX2_allBelow 32 = .ok (.iinc 3 1, 3) := by decide +kernel
theorem dX2_allBelow_35 : decode cX2_allBelow 35 = .ok (.goto (-25), 3) := by decide +kernel
theorem dX2_allBelow_38 : decode cX2_allBelow 38 = .ok (.iload_n 2, 1) := by decide +kernel
theorem dX2_allBelow_39 : decode cX2_allBelow 39 = .ok (.ireturn, 1) := by decide +kernel
theorem dX2_allAbove_0 : decode cX2_allAbove 0 = .ok (.iload_n 1, 1) := by decide +kernel
theorem dX2_allAbove_1 : decode cX2_allAbove 1 = .ok (.invokestatic 65, 3) := by decide +kernel
theorem dX2_allAbove_4 : decode cX2_allAbove 4 = .ok (.istore_n 2, 1) := by decide +kernel
theorem dX2_allAbove_5 : decode cX2_allAbove 5 = .ok (.iload_n 1, 1) := by decide +kernel
theorem dX2_allAbove_6 : decode cX2_allAbove 6 = .ok (.iconst 1, 1) := by decide +kernel
theorem dX2_allAbove_7 : decode cX2_allAbove 7 = .ok (.isub, 1) := by decide +kernel
theorem dX2_allAbove_8 : decode cX2_allAbove 8 = .ok (.istore_n 3, 1) := by decide +kernel
theorem dX2_allAbove_9 : decode cX2_allAbove 9 = .ok (.iload_n 3, 1) := by decide +kernel
theorem dX2_allAbove_10 : decode cX2_allAbove 10 = .ok (.ifCond .lt 26, 3) := by decide +kernel
theorem dX2_allAbove_13 : decode cX2_allAbove 13 = .ok (.aload_n 0, 1) := by decide +kernel
theorem dX2_allAbove_14 : decode cX2_allAbove 14 = .ok (.iload_n 3, 1) := by decide +kernel
theorem dX2_allAbove_15 : decode cX2_allAbove 15 = .ok (.invokevirtual 72, 3) := by decide +kernel
theorem dX2_allAbove_18 : decode cX2_allAbove 18 = .ok (.iload_n 2, 1) := by decide +kernel
theorem dX2_allAbove_19 : decode cX2_allAbove 19 = .ok (.iand, 1) := by decide +kernel
theorem dX2_allAbove_20 : decode cX2_allAbove 20 = .ok (.ifCond .eq 10, 3) := by decide +kernel
theorem dX2_allAbove_23 : decode cX2_allAbove 23 = .ok (.iload_n 2, 1) := by decide +kernel
theorem dX2_allAbove_24 : decode cX2_allAbove 24 = .ok (.iload_n 3, 1) := by decide +kernel
theorem dX2_allAbove_25 : decode cX2_allAbove 25 = .ok (.invokestatic 65, 3) := by decide +kernel
theorem dX2_allAbove_28 : decode cX2_allAbove 28 = .ok (.ior, 1) := by decide +kernel
theorem dX2_allAbove_29 : decode cX2_allAbove 29 = .ok (.istore_n 2, 1) := by decide +kernel
theorem dX2_allAbove_30 : decode cX2_allAbove 30 = .ok (.iinc 3 (-1), 3) := by decide +kernel
theorem dX2_allAbove_33 : decode cX2_allAbove 33 = .ok (.goto (-24), 3) := by decide +kernel
theorem dX2_allAbove_36 : decode cX2_allAbove 36 = .ok (.iload_n 2, 1) := by decide +kernel
theorem dX2_allAbove_37 : decode cX2_allAbove 37 = .ok (.iload_n 1, 1) := by decide +kernel
theorem dX2_allAbove_38 : decode cX2_allAbove 38 = .ok (.invokestatic 65, 3) := by decide +kernel
theorem dX2_allAbove_41 : decode cX2_allAbove 41 = .ok (.iconst (-1), 1) := by decide +kernel
theorem dX2_allAbove_42 : decode cX2_allAbove 42 = .ok (.ixor, 1) := by decide +kernel
theorem dX2_allAbove_43 : decode cX2_allAbove 43 = .ok (.iand, 1) := by decide +kernel
theorem dX2_allAbove_44 : decode cX2_allAbove 44 = .ok (.ireturn, 1) := by decide +kernel
theorem dX2_roots_0 : decode cX2_roots 0 = .ok (.iconst 0, 1) := by decide +kernel
theorem dX2_roots_1 : decode cX2_roots 1 = .ok (.istore_n 2, 1) := by decide +kernel
theorem dX2_roots_2 : decode cX2_roots 2 = .ok (.iconst 0, 1) := by decide +kernel
theorem dX2_roots_3 : decode cX2_roots 3 = .ok (.istore_n 3, 1) := by decide +kernel
theorem dX2_roots_4 : decode cX2_roots 4 = .ok (.iload_n 3, 1) := by decide +kernel
theorem dX2_roots_5 : decode cX2_roots 5 = .ok (.bipush 9, 2) := by decide +kernel
theorem dX2_roots_7 : decode cX2_roots 7 = .ok (.if_icmp .ge 17, 3) := by decide +kernel
theorem dX2_roots_10 : decode cX2_roots 10 = .ok (.iload_n 2, 1) := by decide +kernel
theorem dX2_roots_11 : decode cX2_roots 11 = .ok (.aload_n 0, 1) := by decide +kernel
theorem dX2_roots_12 : decode cX2_roots 12 = .ok (.iload_n 3, 1) := by decide +kernel
theorem dX2_roots_13 : decode cX2_roots 13 = .ok (.invokevirtual 72, 3) := by decide +kernel
theorem dX2_roots_16 : decode cX2_roots 16 = .ok (.ior, 1) := by decide +kernel
theorem dX2_roots_17 : decode cX2_roots 17 = .ok (.istore_n 2, 1) := by decide +kernel
theorem dX2_roots_18 : decode cX2_roots 18 = .ok (.iinc 3 1, 3) := by decide +kernel
theorem dX2_roots_21 : decode cX2_roots 21 = .ok (.goto (-17), 3) := by decide +kernel
theorem dX2_roots_24 : decode cX2_roots 24 = .ok (.iconst 1, 1) := by decide +kernel
theorem dX2_roots_25 : decode cX2_roots 25 = .ok (.iload_n 1, 1) := by decide +kernel
theorem dX2_roots_26 : decode cX2_roots 26 = .ok (.ishl, 1) := by decide +kernel
theorem dX2_roots_27 : decode cX2_roots 27 = .ok (.iconst 1, 1) := by decide +kernel
theorem dX2_roots_28 : decode cX2_roots 28 = .ok (.isub, 1) := by decide +kernel
theorem dX2_roots_29 : decode cX2_roots 29 = .ok (.iload_n 2, 1) := by decide +kernel
theorem dX2_roots_30 : decode cX2_roots 30 = .ok (.iconst (-1), 1) := by decide +kernel
theorem dX2_roots_31 : decode cX2_roots 31 = .ok (.ixor, 1) := by decide +kernel
theorem dX2_roots_32 : decode cX2_roots 32 = .ok (.iand, 1) := by decide +kernel
theorem dX2_roots_33 : decode cX2_roots 33 = .ok (.ireturn, 1) := by decide +kernel
theorem dX2_deepest_0 : decode cX2_deepest 0 = .ok (.bipush 8, 2) := by decide +kernel
theorem dX2_deepest_2 : decode cX2_deepest 2 = .ok (.istore_n 2, 1) := by decide +kernel
theorem dX2_deepest_3 : decode cX2_deepest 3 = .ok (.iload_n 2, 1) := by decide +kernel
theorem dX2_deepest_4 : decode cX2_deepest 4 = .ok (.iload_n 1, 1) := by decide +kernel
theorem dX2_deepest_5 : decode cX2_deepest 5 = .ok (.if_icmp .lt 67, 3) := by decide +kernel
theorem dX2_deepest_8 : decode cX2_deepest 8 = .ok (.aload_n 0, 1) := by decide +kernel
theorem dX2_deepest_9 : decode cX2_deepest 9 = .ok (.getfield 27, 3) := by decide +kernel
theorem dX2_deepest_12 : decode cX2_deepest 12 = .ok (.iload_n 2, 1) := by decide +kernel
theorem dX2_deepest_13 : decode cX2_deepest 13 = .ok (.iconst 0, 1) := by decide +kernel
theorem dX2_deepest_14 : decode cX2_deepest 14 = .ok (.iastore, 1) := by decide +kernel
theorem dX2_deepest_15 : decode cX2_deepest 15 = .ok (.iload_n 2, 1) := by decide +kernel
theorem dX2_deepest_16 : decode cX2_deepest 16 = .ok (.iconst 1, 1) := by decide +kernel
theorem dX2_deepest_17 : decode cX2_deepest 17 = .ok (.iadd, 1) := by decide +kernel
theorem dX2_deepest_18 : decode cX2_deepest 18 = .ok (.istore_n 3, 1) := by decide +kernel
theorem dX2_deepest_19 : decode cX2_deepest 19 = .ok (.iload_n 3, 1) := by decide +kernel
theorem dX2_deepest_20 : decode cX2_deepest 20 = .ok (.bipush 9, 2) := by decide +kernel
theorem dX2_deepest_22 : decode cX2_deepest 22 = .ok (.if_icmp .ge 44, 3) := by decide +kernel
theorem dX2_deepest_25 : decode cX2_deepest 25 = .ok (.aload_n 0, 1) := by decide +kernel
theorem dX2_deepest_26 : decode cX2_deepest 26 = .ok (.iload_n 2, 1) := by decide +kernel
theorem dX2_deepest_27 : decode cX2_deepest 27 = .ok (.invokevirtual 72, 3) := by decide +kernel
theorem dX2_deepest_30 : decode cX2_deepest 30 = .ok (.iload_n 3, 1) := by decide +kernel
theorem dX2_deepest_31 : decode cX2_deepest 31 = .ok (.invokestatic 61, 3) := by decide +kernel
theorem dX2_deepest_34 : decode cX2_deepest 34 = .ok (.ifCond .eq 26, 3) := by decide +kernel
theorem dX2_deepest_37 : decode cX2_deepest 37 = .ok (.aload_n 0, 1) := by decide +kernel
theorem dX2_deepest_38 : decode cX2_deepest 38 = .ok (.getfield 27, 3) := by decide +kernel
theorem dX2_deepest_41 : decode cX2_deepest 41 = .ok (.iload_n 2, 1) := by decide +kernel
theorem dX2_deepest_42 : decode cX2_deepest 42 = .ok (.aload_n 0, 1) := by decide +kernel
theorem dX2_deepest_43 : decode cX2_deepest 43 = .ok (.getfield 27, 3) := by decide +kernel
theorem dX2_deepest_46 : decode cX2_deepest 46 = .ok (.iload_n 2, 1) := by decide +kernel
theorem dX2_deepest_47 : decode cX2_deepest 47 = .ok (.iaload, 1) := by decide +kernel
theorem dX2_deepest_48 : decode cX2_deepest 48 = .ok (.aload_n 0, 1) := by decide +kernel
theorem dX2_deepest_49 : decode cX2_deepest 49 = .ok (.getfield 27, 3) := by decide +kernel
theorem dX2_deepest_52 : decode cX2_deepest 52 = .ok (.iload_n 3, 1) := by decide +kernel
theorem dX2_deepest_53 : decode cX2_deepest 53 = .ok (.iaload, 1) := by decide +kernel
theorem dX2_deepest_54 : decode cX2_deepest 54 = .ok (.iconst 1, 1) := by decide +kernel
theorem dX2_deepest_55 : decode cX2_deepest 55 = .ok (.iadd, 1) := by decide +kernel
theorem dX2_deepest_56 : decode cX2_deepest 56 = .ok (.invokestatic 75, 3) := by decide +kernel
theorem dX2_deepest_59 : decode cX2_deepest 59 = .ok (.iastore, 1) := by decide +kernel
theorem dX2_deepest_60 : decode cX2_deepest 60 = .ok (.iinc 3 1, 3) := by decide +kernel
theorem dX2_deepest_63 : decode cX2_deepest 63 = .ok (.goto (-44), 3) := by decide +kernel
theorem dX2_deepest_66 : decode cX2_deepest 66 = .ok (.iinc 2 (-1), 3) := by decide +kernel
theorem dX2_deepest_69 : decode cX2_deepest 69 = .ok (.goto (-66), 3) := by decide +kernel
theorem dX2_deepest_72 : decode cX2_deepest 72 = .ok (.aload_n 0, 1) := by decide +kernel
theorem dX2_deepest_73 : decode cX2_deepest 73 = .ok (.getfield 27, 3) := by decide +kernel
theorem dX2_deepest_76 : decode cX2_deepest 76 = .ok (.iload_n 1, 1) := by decide +kernel
theorem dX2_deepest_77 : decode cX2_deepest 77 = .ok (.iaload, 1) := by decide +kernel
theorem dX2_deepest_78 : decode cX2_deepest 78 = .ok (.ireturn, 1) := by decide +kernel
theorem dX2_rowsOfPipes_0 : decode cX2_rowsOfPipes 0 = .ok (.bipush 8, 2) := by decide +kernel
theorem dX2_rowsOfPipes_2 : decode cX2_rowsOfPipes 2 = .ok (.istore_n 3, 1) := by decide +kernel
theorem dX2_rowsOfPipes_3 : decode cX2_rowsOfPipes 3 = .ok (.iload_n 3, 1) := by decide +kernel
theorem dX2_rowsOfPipes_4 : decode cX2_rowsOfPipes 4 = .ok (.iload_n 1, 1) := by decide +kernel
theorem dX2_rowsOfPipes_5 : decode cX2_rowsOfPipes 5 = .ok (.if_icmp .lt 72, 3) := by decide +kernel
theorem dX2_rowsOfPipes_8 : decode cX2_rowsOfPipes 8 = .ok (.aload_n 0, 1) := by decide +kernel
theorem dX2_rowsOfPipes_9 : decode cX2_rowsOfPipes 9 = .ok (.getfield 27, 3) := by decide +kernel
theorem dX2_rowsOfPipes_12 : decode cX2_rowsOfPipes 12 = .ok (.iload_n 3, 1) := by decide +kernel
theorem dX2_rowsOfPipes_13 : decode cX2_rowsOfPipes 13 = .ok (.iload_n 3, 1) := by decide +kernel
theorem dX2_rowsOfPipes_14 : decode cX2_rowsOfPipes 14 = .ok (.iload_n 2, 1) := by decide +kernel
theorem dX2_rowsOfPipes_15 : decode cX2_rowsOfPipes 15 = .ok (.if_icmp .ne 7, 3) := by decide +kernel
theorem dX2_rowsOfPipes_18 : decode cX2_rowsOfPipes 18 = .ok (.iconst 1, 1) := by decide +kernel
theorem dX2_rowsOfPipes_19 : decode cX2_rowsOfPipes 19 = .ok (.goto 4, 3) := by decide +kernel
theorem dX2_rowsOfPipes_22 : decode cX2_rowsOfPipes 22 = .ok (.iconst 0, 1) := by decide +kernel
theorem dX2_rowsOfPipes_23 : decode cX2_rowsOfPipes 23 = .ok (.iastore, 1) := by decide +kernel
theorem dX2_rowsOfPipes_24 : decode cX2_rowsOfPipes 24 = .ok (.iload_n 3, 1) := by decide +kernel
theorem dX2_rowsOfPipes_25 : decode cX2_rowsOfPipes 25 = .ok (.iconst 1, 1) := by decide +kernel
theorem dX2_rowsOfPipes_26 : decode cX2_rowsOfPipes 26 = .ok (.iadd, 1) := by decide +kernel
theorem dX2_rowsOfPipes_27 : decode cX2_rowsOfPipes 27 = .ok (.istore 4, 2) := by decide +kernel
theorem dX2_rowsOfPipes_29 : decode cX2_rowsOfPipes 29 = .ok (.iload 4, 2) := by decide +kernel
theorem dX2_rowsOfPipes_31 : decode cX2_rowsOfPipes 31 = .ok (.bipush 9, 2) := by decide +kernel
theorem dX2_rowsOfPipes_33 : decode cX2_rowsOfPipes 33 = .ok (.if_icmp .ge 38, 3) := by decide +kernel
theorem dX2_rowsOfPipes_36 : decode cX2_rowsOfPipes 36 = .ok (.aload_n 0, 1) := by decide +kernel
theorem dX2_rowsOfPipes_37 : decode cX2_rowsOfPipes 37 = .ok (.iload_n 3, 1) := by decide +kernel
theorem dX2_rowsOfPipes_38 : decode cX2_rowsOfPipes 38 = .ok (.invokevirtual 72, 3) := by decide +kernel
theorem dX2_rowsOfPipes_41 : decode cX2_rowsOfPipes 41 = .ok (.iload 4, 2) := by decide +kernel
theorem dX2_rowsOfPipes_43 : decode cX2_rowsOfPipes 43 = .ok (.invokestatic 61, 3) := by decide +kernel
theorem dX2_rowsOfPipes_46 : decode cX2_rowsOfPipes 46 = .ok (.ifCond .eq 19, 3) := by decide +kernel
theorem dX2_rowsOfPipes_49 : decode cX2_rowsOfPipes 49 = .ok (.aload_n 0, 1) := by decide +kernel
theorem dX2_rowsOfPipes_50 : decode cX2_rowsOfPipes 50 = .ok (.getfield 27, 3) := by decide +kernel
theorem dX2_rowsOfPipes_53 : decode cX2_rowsOfPipes 53 = .ok (.iload_n 3, 1) := by decide +kernel
theorem dX2_rowsOfPipes_54 : decode cX2_rowsOfPipes 54 = .ok (.dup2, 1) := by decide +kernel
theorem dX2_rowsOfPipes_55 : decode cX2_rowsOfPipes 55 = .ok (.iaload, 1) := by decide +kernel
theorem dX2_rowsOfPipes_56 : decode cX2_rowsOfPipes 56 = .ok (.aload_n 0, 1) := by decide +kernel
theorem dX2_rowsOfPipes_57 : decode cX2_rowsOfPipes 57 = .ok (.getfield 27, 3) := by decide +kernel
theorem dX2_rowsOfPipes_60 : decode cX2_rowsOfPipes 60 = .ok (.iload 4, 2) := by decide +kernel
theorem dX2_rowsOfPipes_62 : decode cX2_rowsOfPipes 62 = .ok (.iaload, 1) := by decide +kernel
theorem dX2_rowsOfPipes_63 : decode cX2_rowsOfPipes 63 = .ok (.iadd, 1) := by decide +kernel
theorem dX2_rowsOfPipes_64 : decode cX2_rowsOfPipes 64 = .ok (.iastore, 1) := by decide +kernel
theorem dX2_rowsOfPipes_65 : decode cX2_rowsOfPipes 65 = .ok (.iinc 4 1, 3) := by decide +kernel
theorem dX2_rowsOfPipes_68 : decode cX2_rowsOfPipes 68 = .ok (.goto (-39), 3) := by decide +kernel
theorem dX2_rowsOfPipes_71 : decode cX2_rowsOfPipes 71 = .ok (.iinc 3 (-1), 3) := by decide +kernel
theorem dX2_rowsOfPipes_74 : decode cX2_rowsOfPipes 74 = .ok (.goto (-71), 3) := by decide +kernel
theorem dX2_rowsOfPipes_77 : decode cX2_rowsOfPipes 77 = .ok (.aload_n 0, 1) := by decide +kernel
theorem dX2_rowsOfPipes_78 : decode cX2_rowsOfPipes 78 = .ok (.getfield 27, 3) := by decide +kernel
theorem dX2_rowsOfPipes_81 : decode cX2_rowsOfPipes 81 = .ok (.iload_n 1, 1) := by decide +kernel
theorem dX2_rowsOfPipes_82 : decode cX2_rowsOfPipes 82 = .ok (.iaload, 1) := by decide +kernel
theorem dX2_rowsOfPipes_83 : decode cX2_rowsOfPipes 83 = .ok (.ireturn, 1) := by decide +kernel
theorem dX3_init_0 : decode cX3_init 0 = .ok (.aload_n 0, 1) := by decide +kernel
theorem dX3_init_1 : decode cX3_init 1 = .ok (.invokespecial 3, 3) := by decide +kernel
theorem dX3_init_4 : decode cX3_init 4 = .ok (.aload_n 0, 1) := by decide +kernel
theorem dX3_init_5 : decode cX3_init 5 = .ok (.new 9, 3) := by decide +kernel
theorem dX3_init_8 : decode cX3_init 8 = .ok (.dup, 1) := by decide +kernel
theorem dX3_init_9 : decode cX3_init 9 = .ok (.invokespecial 11, 3) := by decide +kernel
theorem dX3_init_12 : decode cX3_init 12 = .ok (.putfield 12, 3) := by decide +kernel
theorem dX3_init_15 : decode cX3_init 15 = .ok (.aload_n 0, 1) := by decide +kernel
theorem dX3_init_16 : decode cX3_init 16 = .ok (.bipush 9, 2) := by decide +kernel
theorem dX3_init_18 : decode cX3_init 18 = .ok (.newarray .int, 2) := by decide +kernel
theorem dX3_init_20 : decode cX3_init 20 = .ok (.putfield 18, 3) := by decide +kernel
theorem dX3_init_23 : decode cX3_init 23 = .ok (.aload_n 0, 1) := by decide +kernel
theorem dX3_init_24 : decode cX3_init 24 = .ok (.bipush 9, 2) := by decide +kernel
theorem dX3_init_26 : decode cX3_init 26 = .ok (.newarray .int, 2) := by decide +kernel
theorem dX3_init_28 : decode cX3_init 28 = .ok (.putfield 22, 3) := by decide +kernel
theorem dX3_init_31 : decode cX3_init 31 = .ok (.aload_n 0, 1) := by decide +kernel
theorem dX3_init_32 : decode cX3_init 32 = .ok (.new 25, 3) := by decide +kernel
theorem dX3_init_35 : decode cX3_init 35 = .ok (.dup, 1) := by decide +kernel
theorem dX3_init_36 : decode cX3_init 36 = .ok (.invokespecial 27, 3) := by decide +kernel
theorem dX3_init_39 : decode cX3_init 39 = .ok (.putfield 28, 3) := by decide +kernel
theorem dX3_init_42 : decode cX3_init 42 = .ok (.aload_n 0, 1) := by decide +kernel
theorem dX3_init_43 : decode cX3_init 43 = .ok (.aload_n 0, 1) := by decide +kernel
theorem dX3_init_44 : decode cX3_init 44 = .ok (.getfield 12, 3) := by decide +kernel
theorem dX3_init_47 : decode cX3_init 47 = .ok (.putfield 32, 3) := by decide +kernel
theorem dX3_init_50 : decode cX3_init 50 = .ok (.aload_n 0, 1) := by decide +kernel
theorem dX3_init_51 : decode cX3_init 51 = .ok (.iconst 0, 1) := by decide +kernel
theorem dX3_init_52 : decode cX3_init 52 = .ok (.putfield 35, 3) := by decide +kernel
theorem dX3_init_55 : decode cX3_init 55 = .ok (.aload_n 0, 1) := by decide +kernel
theorem dX3_init_56 : decode cX3_init 56 = .ok (.iconst 0, 1) := by decide +kernel
theorem dX3_init_57 : decode cX3_init 57 = .ok (.putfield 39, 3) := by decide +kernel
theorem dX3_init_60 : decode cX3_init 60 = .ok (.return_, 1) := by decide +kernel
theorem dX3_workOn_0 : decode cX3_workOn 0 = .ok (.aload_n 0, 1) := by decide +kernel
theorem dX3_workOn_1 : decode cX3_workOn 1 = .ok (.aload_n 1, 1) := by decide +kernel
theorem dX3_workOn_2 : decode cX3_workOn 2 = .ok (.putfield 32, 3) := by decide +kernel
theorem dX3_workOn_5 : decode cX3_workOn 5 = .ok (.aload_n 0, 1) := by decide +kernel
theorem dX3_workOn_6 : decode cX3_workOn 6 = .ok (.getfield 22, 3) := by decide +kernel
theorem dX3_workOn_9 : decode cX3_workOn 9 = .ok (.iconst 0, 1) := by decide +kernel
theorem dX3_workOn_10 : decode cX3_workOn 10 = .ok (.invokestatic 42, 3) := by decide +kernel
theorem dX3_workOn_13 : decode cX3_workOn 13 = .ok (.aload_n 0, 1) := by decide +kernel
theorem dX3_workOn_14 : decode cX3_workOn 14 = .ok (.iconst 0, 1) := by decide +kernel
theorem dX3_workOn_15 : decode cX3_workOn 15 = .ok (.putfield 35, 3) := by decide +kernel
theorem dX3_workOn_18 : decode cX3_workOn 18 = .ok (.aload_n 0, 1) := by decide +kernel
theorem dX3_workOn_19 : decode cX3_workOn 19 = .ok (.iconst 0, 1) := by decide +kernel
theorem dX3_workOn_20 : decode cX3_workOn 20 = .ok (.putfield 39, 3) := by decide +kernel
theorem dX3_workOn_23 : decode cX3_workOn 23 = .ok (.return_, 1) := by decide +kernel
theorem dX3_workOnCopy_0 : decode cX3_workOnCopy 0 = .ok (.aload_n 0, 1) := by decide +kernel
theorem dX3_workOnCopy_1 : decode cX3_workOnCopy 1 = .ok (.getfield 12, 3) := by decide +kernel
theorem dX3_workOnCopy_4 : decode cX3_workOnCopy 4 = .ok (.aload_n 1, 1) := by decide +kernel
theorem dX3_workOnCopy_5 : decode cX3_workOnCopy 5 = .ok (.invokevirtual 48, 3) := by decide +kernel
theorem dX3_workOnCopy_8 : decode cX3_workOnCopy 8 = .ok (.aload_n 0, 1) := by decide +kernel
theorem dX3_workOnCopy_9 : decode cX3_workOnCopy 9 = .ok (.aload_n 0, 1) := by decide +kernel
theorem dX3_workOnCopy_10 : decode cX3_workOnCopy 10 = .ok (.getfield 12, 3) := by decide +kernel
theorem dX3_workOnCopy_13 : decode cX3_workOnCopy 13 = .ok (.invokevirtual 52, 3) := by decide +kernel
theorem dX3_workOnCopy_16 : decode cX3_workOnCopy 16 = .ok (.return_, 1) := by decide +kernel
theorem dX3_goOn_0 : decode cX3_goOn 0 = .ok (.iconst 0, 1) := by decide +kernel
theorem dX3_goOn_1 : decode cX3_goOn 1 = .ok (.istore_n 2, 1) := by decide +kernel
theorem dX3_goOn_2 : decode cX3_goOn 2 = .ok (.iload_n 2, 1) := by decide +kernel
theorem dX3_goOn_3 : decode cX3_goOn 3 = .ok (.iload_n 1, 1) := by decide +kernel
theorem dX3_goOn_4 : decode cX3_goOn 4 = .ok (.if_icmp .ge 14, 3) := by decide +kernel
theorem dX3_goOn_7 : decode cX3_goOn 7 = .ok (.aload_n 0, 1) := by decide +kernel
theorem dX3_goOn_8 : decode cX3_goOn 8 = .ok (.iconst 0, 1) := by decide +kernel
theorem dX3_goOn_9 : decode cX3_goOn 9 = .ok (.invokevirtual 55, 3) := by decide +kernel
theorem dX3_goOn_12 : decode cX3_goOn 12 = .ok (.iinc 2 1, 3) := by decide +kernel
theorem dX3_goOn_15 : decode cX3_goOn 15 = .ok (.goto (-13), 3) := by decide +kernel
theorem dX3_goOn_18 : decode cX3_goOn 18 = .ok (.return_, 1) := by decide +kernel
theorem dX3_passHour_0 : decode cX3_passHour 0 = .ok (.aload_n 0, 1) := by decide +kernel
theorem dX3_passHour_1 : decode cX3_passHour 1 = .ok (.getfield 18, 3) := by decide +kernel
theorem dX3_passHour_4 : decode cX3_passHour 4 = .ok (.iconst 0, 1) := by decide +kernel
theorem dX3_passHour_5 : decode cX3_passHour 5 = .ok (.invokestatic 42, 3) := by decide +kernel
theorem dX3_passHour_8 : decode cX3_passHour 8 = .ok (.aload_n 0, 1) := by decide +kernel
theorem dX3_passHour_9 : decode cX3_passHour 9 = .ok (.iconst 0, 1) := by decide +kernel
theorem dX3_passHour_10 : decode cX3_passHour 10 = .ok (.putfield 35, 3) := by decide +kernel
theorem dX3_passHour_13 : decode cX3_passHour 13 = .ok (.iconst 0, 1) := by decide +kernel
theorem dX3_passHour_14 : decode cX3_passHour 14 = .ok (.istore_n 2, 1) := by decide +kernel
theorem dX3_passHour_15 : decode cX3_passHour 15 = .ok (.iload_n 2, 1) := by decide +kernel
theorem dX3_passHour_16 : decode cX3_passHour 16 = .ok (.aload_n 0, 1) := by decide +kernel
theorem dX3_passHour_17 : decode cX3_passHour 17 = .ok (.getfield 28, 3) := by decide +kernel
theorem dX3_passHour_20 : decode cX3_passHour 20 = .ok (.getfield 59, 3) := by decide +kernel
theorem dX3_passHour_23 : decode cX3_passHour 23 = .ok (.if_icmp .ge 45, 3) := by decide +kernel
theorem dX3_passHour_26 : decode cX3_passHour 26 = .ok (.aload_n 0, 1) := by decide +kernel
theorem dX3_passHour_27 : decode cX3_passHour 27 = .ok (.iload_n 2, 1) := by decide +kernel
theorem dX3_passHour_28 : decode cX3_passHour 28 = .ok (.iload_n 1, 1) := by decide +kernel
theorem dX3_passHour_29 : decode cX3_passHour 29 = .ok (.invokevirtual 61, 3) := by decide +kernel
theorem dX3_passHour_32 : decode cX3_passHour 32 = .ok (.ifCond .eq 15, 3) := by decide +kernel
theorem dX3_passHour_35 : decode cX3_passHour 35 = .ok (.aload_n 0, 1) := by decide +kernel
theorem dX3_passHour_36 : decode cX3_passHour 36 = .ok (.getfield 28, 3) := by decide +kernel
theorem dX3_passHour_39 : decode cX3_passHour 39 = .ok (.getfield 65, 3) := by decide +kernel
theorem dX3_passHour_42 : decode cX3_passHour 42 = .ok (.iload_n 2, 1) := by decide +kernel
theorem dX3_passHour_43 : decode cX3_passHour 43 = .ok (.iaload, 1) := by decide +kernel
theorem dX3_passHour_44 : decode cX3_passHour 44 = .ok (.goto 4, 3) := by decide +kernel
theorem dX3_passHour_47 : decode cX3_passHour 47 = .ok (.iconst 0, 1) := by decide +kernel
theorem dX3_passHour_48 : decode cX3_passHour 48 = .ok (.istore_n 3, 1) := by decide +kernel
theorem dX3_passHour_49 : decode cX3_passHour 49 = .ok (.aload_n 0, 1) := by decide +kernel
theorem dX3_passHour_50 : decode cX3_passHour 50 = .ok (.iload_n 2, 1) := by decide +kernel
theorem dX3_passHour_51 : decode cX3_passHour 51 = .ok (.iload_n 3, 1) := by decide +kernel
theorem dX3_passHour_52 : decode cX3_passHour 52 = .ok (.aload_n 0, 1) := by decide +kernel
theorem dX3_passHour_53 : decode cX3_passHour 53 = .ok (.getfield 18, 3) := by decide +kernel
theorem dX3_passHour_56 : decode cX3_passHour 56 = .ok (.iload_n 2, 1) := by decide +kernel
theorem dX3_passHour_57 : decode cX3_passHour 57 = .ok (.iaload, 1) := by decide +kernel
theorem dX3_passHour_58 : decode cX3_passHour 58 = .ok (.iadd, 1) := by decide +kernel
theorem dX3_passHour_59 : decode cX3_passHour 59 = .ok (.invokevirtual 68, 3) := by decide +kernel
theorem dX3_passHour_62 : decode cX3_passHour 62 = .ok (.iinc 2 1, 3) := by decide +kernel
theorem dX3_passHour_65 : decode cX3_passHour 65 = .ok (.goto (-50), 3) := by decide +kernel
theorem dX3_passHour_68 : decode cX3_passHour 68 = .ok (.iconst 0, 1) := by decide +kernel
theorem dX3_passHour_69 : decode cX3_passHour 69 = .ok (.istore_n 2, 1) := by decide +kernel
theorem dX3_passHour_70 : decode cX3_passHour 70 = .ok (.iload_n 2, 1) := by decide +kernel
theorem dX3_passHour_71 : decode cX3_passHour 71 = .ok (.aload_n 0, 1) := by decide +kernel
theorem dX3_passHour_72 : decode cX3_passHour 72 = .ok (.getfield 28, 3) := by decide +kernel
theorem dX3_passHour_75 : decode cX3_passHour 75 = .ok (.getfield 59, 3) := by decide +kernel
theorem dX3_passHour_78 : decode cX3_passHour 78 = .ok (.if_icmp .ge 45, 3) := by decide +kernel
theorem dX3_passHour_81 : decode cX3_passHour 81 = .ok (.aload_n 0, 1) := by decide +kernel
theorem dX3_passHour_82 : decode cX3_passHour 82 = .ok (.getfield 28, 3) := by decide +kernel
theorem dX3_passHour_85 : decode cX3_passHour 85 = .ok (.aload_n 0, 1) := by decide +kernel
theorem dX3_passHour_86 : decode cX3_passHour 86 = .ok (.getfield 32, 3) := by decide +kernel
theorem dX3_passHour_89 : decode cX3_passHour 89 = .ok (.iload_n 2, 1) := by decide +kernel
theorem dX3_passHour_90 : decode cX3_passHour 90 = .ok (.invokevirtual 72, 3) := by decide +kernel
theorem dX3_passHour_93 : decode cX3_passHour 93 = .ok (.istore_n 3, 1) := by decide +kernel
theorem dX3_passHour_94 : decode cX3_passHour 94 = .ok (.aload_n 0, 1) := by decide +kernel
theorem dX3_passHour_95 : decode cX3_passHour 95 = .ok (.getfield 32, 3) := by decide +kernel
theorem dX3_passHour_98 : decode cX3_passHour 98 = .ok (.getfield 76, 3) := by decide +kernel
theorem dX3_passHour_101 : decode cX3_passHour 101 = .ok (.iload_n 2, 1) := by decide +kernel
theorem dX3_passHour_102 : decode cX3_passHour 102 = .ok (.dup2, 1) := by decide +kernel
theorem dX3_passHour_103 : decode cX3_passHour 103 = .ok (.iaload, 1) := by decide +kernel
theorem dX3_passHour_104 : decode cX3_passHour 104 = .ok (.iload_n 3, 1) := by decide +kernel
theorem dX3_passHour_105 : decode cX3_passHour 105 = .ok (.isub, 1) := by decide +kernel
theorem dX3_passHour_106 : decode cX3_passHour 106 = .ok (.iastore, 1) := by decide +kernel
theorem dX3_passHour_107 : decode cX3_passHour 107 = .ok (.aload_n 0, 1) := by decide +kernel
theorem dX3_passHour_108 : decode cX3_passHour 108 = .ok (.dup, 1) := by decide +kernel
theorem dX3_passHour_109 : decode cX3_passHour 109 = .ok (.getfield 39, 3) := by decide +kernel
theorem dX3_passHour_112 : decode cX3_passHour 112 = .ok (.iload_n 3, 1) := by decide +kernel
theorem dX3_passHour_113 : decode cX3_passHour 113 = .ok (.iadd, 1) := by decide +kernel
theorem dX3_passHour_114 : decode cX3_passHour 114 = .ok (.putfield 39, 3) := by decide +kernel
theorem dX3_passHour_117 : decode cX3_passHour 117 = .ok (.iinc 2 1, 3) := by decide +kernel
theorem dX3_passHour_120 : decode cX3_passHour 120 = .ok (.goto (-50), 3) := by decide +kernel
theorem dX3_passHour_123 : decode cX3_passHour 123 = .ok (.aload_n 0, 1) := by decide +kernel
theorem dX3_passHour_124 : decode cX3_passHour 124 = .ok (.getfield 32, 3) := by decide +kernel
theorem dX3_passHour_127 : decode cX3_passHour 127 = .ok (.dup, 1) := by decide +kernel
theorem dX3_passHour_128 : decode cX3_passHour 128 = .ok (.getfield 78, 3) := by decide +kernel
theorem dX3_passHour_131 : decode cX3_passHour 131 = .ok (.iconst 1, 1) := by decide +kernel
theorem dX3_passHour_132 : decode cX3_passHour 132 = .ok (.iadd, 1) := by decide +kernel
theorem dX3_passHour_133 : decode cX3_passHour 133 = .ok (.putfield 78, 3) := by decide +kernel
theorem dX3_passHour_136 : decode cX3_passHour 136 = .ok (.return_, 1) := by decide +kernel
theorem dX3_springRuns_0 : decode cX3_springRuns 0 = .ok (.iload_n 2, 1) := by decide +kernel
theorem dX3_springRuns_1 : decode cX3_springRuns 1 = .ok (.iconst 1, 1) := by decide +kernel
theorem dX3_springRuns_2 : decode cX3_springRuns 2 = .ok (.if_icmp .eq 14, 3) := by decide +kernel
theorem dX3_springRuns_5 : decode cX3_springRuns 5 = .ok (.aload_n 0, 1) := by decide +kernel
theorem dX3_springRuns_6 : decode cX3_springRuns 6 = .ok (.getfield 32, 3) := by decide +kernel
theorem dX3_springRuns_9 : decode cX3_springRuns 9 = .ok (.iload_n 1, 1) := by decide +kernel
theorem dX3_springRuns_10 : decode cX3_springRuns 10 = .ok (.invokevirtual 81, 3) := by decide +kernel
theorem dX3_springRuns_13 : decode cX3_springRuns 13 = .ok (.ifCond .eq 5, 3) := by decide +kernel
theorem dX3_springRuns_16 : decode cX3_springRuns 16 = .ok (.iconst 0, 1) := by decide +kernel
theorem dX3_springRuns_17 : decode cX3_springRuns 17 = .ok (.ireturn, 1) := by decide +kernel
theorem dX3_springRuns_18 : decode cX3_springRuns 18 = .ok (.iload_n 2, 1) := by decide +kernel
theorem dX3_springRuns_19 : decode cX3_springRuns 19 = .ok (.iconst 2, 1) := by decide +kernel
theorem dX3_springRuns_20 : decode cX3_springRuns 20 = .ok (.if_icmp .eq 16, 3) := by decide +kernel
theorem dX3_springRuns_23 : decode cX3_springRuns 23 = .ok (.aload_n 0, 1) := by decide +kernel
theorem dX3_springRuns_24 : decode cX3_springRuns 24 = .ok (.getfield 28, 3) := by decide +kernel
theorem dX3_springRuns_27 : decode cX3_springRuns 27 = .ok (.getfield 85, 3) := by decide +kernel
theorem dX3_springRuns_30 : decode cX3_springRuns 30 = .ok (.getfield 89, 3) := by decide +kernel
theorem dX3_springRuns_33 : decode cX3_springRuns 33 = .ok (.ifCond .ne 5, 3) := by decide +kernel
theorem dX3_springRuns_36 : decode cX3_springRuns 36 = .ok (.iconst 1, 1) := by decide +kernel
theorem dX3_springRuns_37 : decode cX3_springRuns 37 = .ok (.ireturn, 1) := by decide +kernel
theorem dX3_springRuns_38 : decode cX3_springRuns 38 = .ok (.aload_n 0, 1) := by decide +kernel
theorem dX3_springRuns_39 : decode cX3_springRuns 39 = .ok (.getfield 28, 3) := by decide +kernel
theorem dX3_springRuns_42 : decode cX3_springRuns 42 = .ok (.getfield 85, 3) := by decide +kernel
theorem dX3_springRuns_45 : decode cX3_springRuns 45 = .ok (.aload_n 0, 1) := by decide +kernel
theorem dX3_springRuns_46 : decode cX3_springRuns 46 = .ok (.getfield 32, 3) := by decide +kernel
theorem dX3_springRuns_49 : decode cX3_springRuns 49 = .ok (.iload_n 1, 1) := by decide +kernel
theorem dX3_springRuns_50 : decode cX3_springRuns 50 = .ok (.aload_n 0, 1) := by decide +kernel
theorem dX3_springRuns_51 : decode cX3_springRuns 51 = .ok (.getfield 28, 3) := by decide +kernel
theorem dX3_springRuns_54 : decode cX3_springRuns 54 = .ok (.getfield 65, 3) := by decide +kernel
theorem dX3_springRuns_57 : decode cX3_springRuns 57 = .ok (.iload_n 1, 1) := by decide +kernel
theorem dX3_springRuns_58 : decode cX3_springRuns 58 = .ok (.iaload, 1) := by decide +kernel
theorem dX3_springRuns_59 : decode cX3_springRuns 59 = .ok (.invokevirtual 95, 3) := by decide +kernel
theorem dX3_springRuns_62 : decode cX3_springRuns 62 = .ok (.ifCond .gt 7, 3) := by decide +kernel
theorem dX3_springRuns_65 : decode cX3_springRuns 65 = .ok (.iconst 1, 1) := by decide +kernel
theorem dX3_springRuns_66 : decode cX3_springRuns 66 = .ok (.goto 4, 3) := by decide +kernel
theorem dX3_springRuns_69 : decode cX3_springRuns 69 = .ok (.iconst 0, 1) := by decide +kernel
theorem dX3_springRuns_70 : decode cX3_springRuns 70 = .ok (.ireturn, 1) := by decide +kernel
theorem dX3_fillUp_0 : decode cX3_fillUp 0 = .ok (.aload_n 0, 1) := by decide +kernel
theorem dX3_fillUp_1 : decode cX3_fillUp 1 = .ok (.getfield 18, 3) := by decide +kernel
theorem dX3_fillUp_4 : decode cX3_fillUp 4 = .ok (.iconst 0, 1) := by decide +kernel
theorem dX3_fillUp_5 : decode cX3_fillUp 5 = .ok (.invokestatic 42, 3) := by decide +kernel
theorem dX3_fillUp_8 : decode cX3_fillUp 8 = .ok (.aload_n 0, 1) := by decide +kernel
theorem dX3_fillUp_9 : decode cX3_fillUp 9 = .ok (.iconst 0, 1) := by decide +kernel
theorem dX3_fillUp_10 : decode cX3_fillUp 10 = .ok (.putfield 35, 3) := by decide +kernel
theorem dX3_fillUp_13 : decode cX3_fillUp 13 = .ok (.iload_n 1, 1) := by decide +kernel
theorem dX3_fillUp_14 : decode cX3_fillUp 14 = .ok (.ifCond .lt 16, 3) := by decide +kernel
theorem dX3_fillUp_17 : decode cX3_fillUp 17 = .ok (.iload_n 1, 1) := by decide +kernel
theorem dX3_fillUp_18 : decode cX3_fillUp 18 = .ok (.bipush 9, 2) := by decide +kernel
theorem dX3_fillUp_20 : decode cX3_fillUp 20 = .ok (.if_icmp .ge 10, 3) := by decide +kernel
theorem dX3_fillUp_23 : decode cX3_fillUp 23 = .ok (.aload_n 0, 1) := by decide +kernel
theorem dX3_fillUp_24 : decode cX3_fillUp 24 = .ok (.getfield 18, 3) := by decide +kernel
theorem dX3_fillUp_27 : decode cX3_fillUp 27 = .ok (.iload_n 1, 1) := by decide +kernel
theorem dX3_fillUp_28 : decode cX3_fillUp 28 = .ok (.iload_n 2, 1) := by decide +kernel
theorem dX3_fillUp_29 : decode cX3_fillUp 29 = .ok (.iastore, 1) := by decide +kernel
theorem dX3_fillUp_30 : decode cX3_fillUp 30 = .ok (.iconst 0, 1) := by decide +kernel
theorem dX3_fillUp_31 : decode cX3_fillUp 31 = .ok (.istore_n 3, 1) := by decide +kernel
theorem dX3_fillUp_32 : decode cX3_fillUp 32 = .ok (.iload_n 3, 1) := by decide +kernel
theorem dX3_fillUp_33 : decode cX3_fillUp 33 = .ok (.aload_n 0, 1) := by decide +kernel
theorem dX3_fillUp_34 : decode cX3_fillUp 34 = .ok (.getfield 28, 3) := by decide +kernel
theorem dX3_fillUp_37 : decode cX3_fillUp 37 = .ok (.getfield 59, 3) := by decide +kernel
theorem dX3_fillUp_40 : decode cX3_fillUp 40 = .ok (.if_icmp .ge 20, 3) := by decide +kernel
theorem dX3_fillUp_43 : decode cX3_fillUp 43 = .ok (.aload_n 0, 1) := by decide +kernel
theorem dX3_fillUp_44 : decode cX3_fillUp 44 = .ok (.iload_n 3, 1) := by decide +kernel
theorem dX3_fillUp_45 : decode cX3_fillUp 45 = .ok (.aload_n 0, 1) := by decide +kernel
theorem dX3_fillUp_46 : decode cX3_fillUp 46 = .ok (.getfield 18, 3) := by decide +kernel
theorem dX3_fillUp_49 : decode cX3_fillUp 49 = .ok (.iload_n 3, 1) := by decide +kernel
theorem dX3_fillUp_50 : decode cX3_fillUp 50 = .ok (.iaload, 1) := by decide +kernel
theorem dX3_fillUp_51 : decode cX3_fillUp 51 = .ok (.invokevirtual 68, 3) := by decide +kernel
theorem dX3_fillUp_54 : decode cX3_fillUp 54 = .ok (.iinc 3 1, 3) := by decide +kernel
theorem dX3_fillUp_57 : decode cX3_fillUp 57 = .ok (.goto (-25), 3) := by decide +kernel
theorem dX3_fillUp_60 : decode cX3_fillUp 60 = .ok (.return_, 1) := by decide +kernel
theorem dX3_tip_0 : decode cX3_tip 0 = .ok (.aload_n 0, 1) := by decide +kernel
theorem dX3_tip_1 : decode cX3_tip 1 = .ok (.getfield 32, 3) := by decide +kernel
theorem dX3_tip_4 : decode cX3_tip 4 = .ok (.getfield 76, 3) := by decide +kernel
theorem dX3_tip_7 : decode cX3_tip 7 = .ok (.iload_n 1, 1) := by decide +kernel
theorem dX3_tip_8 : decode cX3_tip 8 = .ok (.iaload, 1) := by decide +kernel
theorem dX3_tip_9 : decode cX3_tip 9 = .ok (.iload_n 2, 1) := by decide +kernel
theorem dX3_tip_10 : decode cX3_tip 10 = .ok (.iadd, 1) := by decide +kernel
theorem dX3_tip_11 : decode cX3_tip 11 = .ok (.istore_n 3, 1) := by decide +kernel
theorem dX3_tip_12 : decode cX3_tip 12 = .ok (.iconst 1, 1) := by decide +kernel
theorem dX3_tip_13 : decode cX3_tip 13 = .ok (.aload_n 0, 1) := by decide +kernel
theorem dX3_tip_14 : decode cX3_tip 14 = .ok (.getfield 32, 3) := by decide +kernel
theorem dX3_tip_17 : decode cX3_tip 17 = .ok (.getfield 99, 3) := by decide +kernel
theorem dX3_tip_20 : decode cX3_tip 20 = .ok (.iload_n 1, 1) := by decide +kernel
theorem dX3_tip_21 : decode cX3_tip 21 = .ok (.iaload, 1) := by decide +kernel
theorem dX3_tip_22 : decode cX3_tip 22 = .ok (.invokestatic 102, 3) := by decide +kernel
theorem dX3_tip_25 : decode cX3_tip 25 = .ok (.istore 4, 2) := by decide +kernel
theorem dX3_tip_27 : decode cX3_tip 27 = .ok (.iload_n 3, 1) := by decide +kernel
theorem dX3_tip_28 : decode cX3_tip 28 = .ok (.iload 4, 2) := by decide +kernel
theorem dX3_tip_30 : decode cX3_tip 30 = .ok (.idiv, 1) := by decide +kernel
theorem dX3_tip_31 : decode cX3_tip 31 = .ok (.istore 5, 2) := by decide +kernel
theorem dX3_tip_33 : decode cX3_tip 33 = .ok (.aload_n 0, 1) := by decide +kernel
theorem dX3_tip_34 : decode cX3_tip 34 = .ok (.getfield 32, 3) := by decide +kernel
theorem dX3_tip_37 : decode cX3_tip 37 = .ok (.getfield 76, 3) := by decide +kernel
theorem dX3_tip_40 : decode cX3_tip 40 = .ok (.iload_n 1, 1) := by decide +kernel
theorem dX3_tip_41 : decode cX3_tip 41 = .ok (.iload_n 3, 1) := by decide +kernel
theorem dX3_tip_42 : decode cX3_tip 42 = .ok (.iload 5, 2) := by decide +kernel
theorem dX3_tip_44 : decode cX3_tip 44 = .ok (.iload 4, 2) := by decide +kernel
theorem dX3_tip_46 : decode cX3_tip 46 = .ok (.imul, 1) := by decide +kernel
theorem dX3_tip_47 : decode cX3_tip 47 = .ok (.isub, 1) := by decide +kernel
theorem dX3_tip_48 : decode cX3_tip 48 = .ok (.iastore, 1) := by decide +kernel
theorem dX3_tip_49 : decode cX3_tip 49 = .ok (.iload 5, 2) := by decide +kernel
theorem dX3_tip_51 : decode cX3_tip 51 = .ok (.ifCond .le 60, 3) := by decide +kernel
theorem dX3_tip_54 : decode cX3_tip 54 = .ok (.aload_n 0, 1) := by decide +kernel
theorem dX3_tip_55 : decode cX3_tip 55 = .ok (.dup, 1) := by decide +kernel
theorem dX3_tip_56 : decode cX3_tip 56 = .ok (.getfield 35, 3) := by decide +kernel
theorem dX3_tip_59 : decode cX3_tip 59 = .ok (.iload_n 1, 1) := by decide +kernel
theorem dX3_tip_60 : decode cX3_tip 60 = .ok (.invokestatic 108, 3) := by decide +kernel
theorem dX3_tip_63 : decode cX3_tip 63 = .ok (.ior, 1) := by decide +kernel
theorem dX3_tip_64 : decode cX3_tip 64 = .ok (.putfield 35, 3) := by decide +kernel
theorem dX3_tip_67 : decode cX3_tip 67 = .ok (.aload_n 0, 1) := by decide +kernel
theorem dX3_tip_68 : decode cX3_tip 68 = .ok (.getfield 22, 3) := by decide +kernel
theorem dX3_tip_71 : decode cX3_tip 71 = .ok (.iload_n 1, 1) := by decide +kernel
theorem dX3_tip_72 : decode cX3_tip 72 = .ok (.dup2, 1) := by decide +kernel
theorem dX3_tip_73 : decode cX3_tip 73 = .ok (.iaload, 1) := by decide +kernel
theorem dX3_tip_74 : decode cX3_tip 74 = .ok (.iload 5, 2) := by decide +kernel
theorem dX3_tip_76 : decode cX3_tip 76 = .ok (.iadd, 1) := by decide +kernel
theorem dX3_tip_77 : decode cX3_tip 77 = .ok (.iastore, 1) := by decide +kernel
theorem dX3_tip_78 : decode cX3_tip 78 = .ok (.aload_n 0, 1) := by decide +kernel
theorem dX3_tip_79 : decode cX3_tip 79 = .ok (.getfield 32, 3) := by decide +kernel
theorem dX3_tip_82 : decode cX3_tip 82 = .ok (.getfield 112, 3) := by decide +kernel
theorem dX3_tip_85 : decode cX3_tip 85 = .ok (.iload_n 1, 1) := by decide +kernel
theorem dX3_tip_86 : decode cX3_tip 86 = .ok (.ldc 115, 2) := by decide +kernel
theorem dX3_tip_88 : decode cX3_tip 88 = .ok (.aload_n 0, 1) := by decide +kernel
theorem dX3_tip_89 : decode cX3_tip 89 = .ok (.getfield 32, 3) := by decide +kernel
theorem dX3_tip_92 : decode cX3_tip 92 = .ok (.getfield 112, 3) := by decide +kernel
theorem dX3_tip_95 : decode cX3_tip 95 = .ok (.iload_n 1, 1) := by decide +kernel
theorem dX3_tip_96 : decode cX3_tip 96 = .ok (.iaload, 1) := by decide +kernel
theorem dX3_tip_97 : decode cX3_tip 97 = .ok (.iload 5, 2) := by decide +kernel
theorem dX3_tip_99 : decode cX3_tip 99 = .ok (.iadd, 1) := by decide +kernel
theorem dX3_tip_100 : decode cX3_tip 100 = .ok (.invokestatic 116, 3) := by decide +kernel
theorem dX3_tip_103 : decode cX3_tip 103 = .ok (.iastore, 1) := by decide +kernel
theorem dX3_tip_104 : decode cX3_tip 104 = .ok (.aload_n 0, 1) := by decide +kernel
theorem dX3_tip_105 : decode cX3_tip 105 = .ok (.iload_n 1, 1) := by decide +kernel
theorem dX3_tip_106 : decode cX3_tip 106 = .ok (.iload 5, 2) := by decide +kernel
theorem dX3_tip_108 : decode cX3_tip 108 = .ok (.invokevirtual 119, 3) := by decide +kernel
theorem dX3_tip_111 : decode cX3_tip 111 = .ok (.return_, 1) := by decide +kernel
theorem dX3_letGo_0 : decode cX3_letGo 0 = .ok (.aload_n 0, 1) := by decide +kernel
theorem dX3_letGo_1 : decode cX3_letGo 1 = .ok (.getfield 32, 3) := by decide +kernel
theorem dX3_letGo_4 : decode cX3_letGo 4 = .ok (.iload_n 1, 1) := by decide +kernel
theorem dX3_letGo_5 : decode cX3_letGo 5 = .ok (.iload_n 2, 1) := by decide +kernel
theorem dX3_letGo_6 : decode cX3_letGo 6 = .ok (.invokevirtual 122, 3) := by decide +kernel
theorem dX3_letGo_9 : decode cX3_letGo 9 = .ok (.istore_n 3, 1) := by decide +kernel
theorem dX3_letGo_10 : decode cX3_letGo 10 = .ok (.aload_n 0, 1) := by decide +kernel
theorem dX3_letGo_11 : decode cX3_letGo 11 = .ok (.aload_n 0, 1) := by decide +kernel
theorem dX3_letGo_12 : decode cX3_letGo 12 = .ok (.getfield 32, 3) := by decide +kernel
theorem dX3_letGo_15 : decode cX3_letGo 15 = .ok (.getfield 125, 3) := by decide +kernel
theorem dX3_letGo_18 : decode cX3_letGo 18 = .ok (.iload_n 1, 1) := by decide +kernel
theorem dX3_letGo_19 : decode cX3_letGo 19 = .ok (.iaload, 1) := by decide +kernel
theorem dX3_letGo_20 : decode cX3_letGo 20 = .ok (.iload_n 3, 1) := by decide +kernel
theorem dX3_letGo_21 : decode cX3_letGo 21 = .ok (.invokevirtual 128, 3) := by decide +kernel
theorem dX3_letGo_24 : decode cX3_letGo 24 = .ok (.aload_n 0, 1) := by decide +kernel
theorem dX3_letGo_25 : decode cX3_letGo 25 = .ok (.aload_n 0, 1) := by decide +kernel
theorem dX3_letGo_26 : decode cX3_letGo 26 = .ok (.getfield 32, 3) := by decide +kernel
theorem dX3_letGo_29 : decode cX3_letGo 29 = .ok (.getfield 131, 3) := by decide +kernel
theorem dX3_letGo_32 : decode cX3_letGo 32 = .ok (.iload_n 1, 1) := by decide +kernel
theorem dX3_letGo_33 : decode cX3_letGo 33 = .ok (.iaload, 1) := by decide +kernel
theorem dX3_letGo_34 : decode cX3_letGo 34 = .ok (.iload_n 2, 1) := by decide +kernel
theorem dX3_letGo_35 : decode cX3_letGo 35 = .ok (.iload_n 3, 1) := by decide +kernel
theorem dX3_letGo_36 : decode cX3_letGo 36 = .ok (.isub, 1) := by decide +kernel
theorem dX3_letGo_37 : decode cX3_letGo 37 = .ok (.invokevirtual 128, 3) := by decide +kernel
theorem dX3_letGo_40 : decode cX3_letGo 40 = .ok (.aload_n 0, 1) := by decide +kernel
theorem dX3_letGo_41 : decode cX3_letGo 41 = .ok (.getfield 32, 3) := by decide +kernel
theorem dX3_letGo_44 : decode cX3_letGo 44 = .ok (.iload_n 1, 1) := by decide +kernel
theorem dX3_letGo_45 : decode cX3_letGo 45 = .ok (.iload_n 2, 1) := by decide +kernel
theorem dX3_letGo_46 : decode cX3_letGo 46 = .ok (.invokevirtual 134, 3) := by decide +kernel
theorem dX3_letGo_49 : decode cX3_letGo 49 = .ok (.return_, 1) := by decide +kernel
theorem dX3_give_0 : decode cX3_give 0 = .ok (.iload_n 1, 1) := by decide +kernel
theorem dX3_give_1 : decode cX3_give 1 = .ok (.ifCond .lt 22, 3) := by decide +kernel
theorem dX3_give_4 : decode cX3_give 4 = .ok (.iload_n 1, 1) := by decide +kernel
theorem dX3_give_5 : decode cX3_give 5 = .ok (.bipush 9, 2) := by decide +kernel
theorem dX3_give_7 : decode cX3_give 7 = .ok (.if_icmp .ge 16, 3) := by decide +kernel
theorem dX3_give_10 : decode cX3_give 10 = .ok (.aload_n 0, 1) := by decide +kernel
theorem dX3_give_11 : decode cX3_give 11 = .ok (.getfield 18, 3) := by decide +kernel
theorem dX3_give_14 : decode cX3_give 14 = .ok (.iload_n 1, 1) := by decide +kernel
theorem dX3_give_15 : decode cX3_give 15 = .ok (.dup2, 1) := by decide +kernel
theorem dX3_give_16 : decode cX3_give 16 = .ok (.iaload, 1) := by decide +kernel
theorem dX3_give_17 : decode cX3_give 17 = .ok (.iload_n 2, 1) := by decide +kernel
theorem dX3_give_18 : decode cX3_give 18 = .ok (.iadd, 1) := by decide +kernel
theorem dX3_give_19 : decode cX3_give 19 = .ok (.iastore, 1) := by decide +kernel
theorem dX3_give_20 : decode cX3_give 20 = .ok (.goto 13, 3) := by decide +kernel
theorem dX3_give_23 : decode cX3_give 23 = .ok (.aload_n 0, 1) := by decide +kernel
theorem dX3_give_24 : decode cX3_give 24 = .ok (.dup, 1) := by decide +kernel
theorem dX3_give_25 : decode cX3_give 25 = .ok (.getfield 39, 3) := by decide +kernel
theorem dX3_give_28 : decode cX3_give 28 = .ok (.iload_n 2, 1) := by decide +kernel
theorem dX3_give_29 : decode cX3_give 29 = .ok (.iadd, 1) := by decide +kernel
theorem dX3_give_30 : decode cX3_give 30 = .ok (.putfield 39, 3) := by decide +kernel
theorem dX3_give_33 : decode cX3_give 33 = .ok (.return_, 1) := by decide +kernel
theorem dX3_timesOfAll_0 : decode cX3_timesOfAll 0 = .ok (.iconst 0, 1) := by decide +kernel
theorem dX3_timesOfAll_1 : decode cX3_timesOfAll 1 = .ok (.istore_n 1, 1) := by decide +kernel
theorem dX3_timesOfAll_2 : decode cX3_timesOfAll 2 = .ok (.iconst 0, 1) := by decide +kernel
theorem dX3_timesOfAll_3 : decode cX3_timesOfAll 3 = .ok (.istore_n 2, 1) := by decide +kernel
theorem dX3_timesOfAll_4 : decode cX3_timesOfAll 4 = .ok (.iload_n 2, 1) := by decide +kernel
theorem dX3_timesOfAll_5 : decode cX3_timesOfAll 5 = .ok (.aload_n 0, 1) := by decide +kernel
theorem dX3_timesOfAll_6 : decode cX3_timesOfAll 6 = .ok (.getfield 28, 3) := by decide +kernel
theorem dX3_timesOfAll_9 : decode cX3_timesOfAll 9 = .ok (.getfield 59, 3) := by decide +kernel
theorem dX3_timesOfAll_12 : decode cX3_timesOfAll 12 = .ok (.if_icmp .ge 18, 3) := by decide +kernel
theorem dX3_timesOfAll_15 : decode cX3_timesOfAll 15 = .ok (.iload_n 1, 1) := by decide +kernel
theorem dX3_timesOfAll_16 : decode cX3_timesOfAll 16 = .ok (.aload_n 0, 1) := by decide +kernel
theorem dX3_timesOfAll_17 : decode cX3_timesOfAll 17 = .ok (.getfield 22, 3) := by decide +kernel
theorem dX3_timesOfAll_20 : decode cX3_timesOfAll 20 = .ok (.iload_n 2, 1) := by decide +kernel
theorem dX3_timesOfAll_21 : decode cX3_timesOfAll 21 = .ok (.iaload, 1) := by decide +kernel
theorem dX3_timesOfAll_22 : decode cX3_timesOfAll 22 = .ok (.iadd, 1) := by decide +kernel
theorem dX3_timesOfAll_23 : decode cX3_timesOfAll 23 = .ok (.istore_n 1, 1) := by decide +kernel
theorem dX3_timesOfAll_24 : decode cX3_timesOfAll 24 = .ok (.iinc 2 1, 3) := by decide +kernel
theorem dX3_timesOfAll_27 : decode cX3_timesOfAll 27 = .ok (.goto (-23), 3) := by decide +kernel
theorem dX3_timesOfAll_30 : decode cX3_timesOfAll 30 = .ok (.iload_n 1, 1) := by decide +kernel
theorem dX3_timesOfAll_31 : decode cX3_timesOfAll 31 = .ok (.ireturn, 1) := by decide +kernel
theorem dX3_neverTipped_0 : decode cX3_neverTipped 0 = .ok (.iconst 0, 1) := by decide +kernel
theorem dX3_neverTipped_1 : decode cX3_neverTipped 1 = .ok (.istore_n 1, 1) := by decide +kernel
theorem dX3_neverTipped_2 : decode cX3_neverTipped 2 = .ok (.iconst 0, 1) := by decide +kernel
theorem dX3_neverTipped_3 : decode cX3_neverTipped 3 = .ok (.istore_n 2, 1) := by decide +kernel
theorem dX3_neverTipped_4 : decode cX3_neverTipped 4 = .ok (.iload_n 2, 1) := by decide +kernel
theorem dX3_neverTipped_5 : decode cX3_neverTipped 5 = .ok (.aload_n 0, 1) := by decide +kernel
theorem dX3_neverTipped_6 : decode cX3_neverTipped 6 = .ok (.getfield 28, 3) := by decide +kernel
theorem dX3_neverTipped_9 : decode cX3_neverTipped 9 = .ok (.getfield 59, 3) := by decide +kernel
theorem dX3_neverTipped_12 : decode cX3_neverTipped 12 = .ok (.if_icmp .ge 24, 3) := by decide +kernel
theorem dX3_neverTipped_15 : decode cX3_neverTipped 15 = .ok (.aload_n 0, 1) := by decide +kernel
theorem dX3_neverTipped_16 : decode cX3_neverTipped 16 = .ok (.getfield 22, 3) := by decide +kernel
theorem dX3_neverTipped_19 : decode cX3_neverTipped 19 = .ok (.iload_n 2, 1) := by decide +kernel
theorem dX3_neverTipped_20 : decode cX3_neverTipped 20 = .ok (.iaload, 1) := by decide +kernel
theorem dX3_neverTipped_21 : decode cX3_neverTipped 21 = .ok (.ifCond .ne 9, 3) := by decide +kernel
theorem dX3_neverTipped_24 : decode cX3_neverTipped 24 = .ok (.iload_n 1, 1) := by decide +kernel
theorem dX3_neverTipped_25 : decode cX3_neverTipped 25 = .ok (.iconst 1, 1) := by decide +kernel
theorem dX3_neverTipped_26 : decode cX3_neverTipped 26 = .ok (.iload_n 2, 1) := by decide +kernel
theorem dX3_neverTipped_27 : decode cX3_neverTipped 27 = .ok (.ishl, 1) := by decide +kernel
theorem dX3_neverTipped_28 : decode cX3_neverTipped 28 = .ok (.ior, 1) := by decide +kernel
theorem dX3_neverTipped_29 : decode cX3_neverTipped 29 = .ok (.istore_n 1, 1) := by decide +kernel
theorem dX3_neverTipped_30 : decode cX3_neverTipped 30 = .ok (.iinc 2 1, 3) := by decide +kernel
theorem dX3_neverTipped_33 : decode cX3_neverTipped 33 = .ok (.goto (-29), 3) := by decide +kernel
theorem dX3_neverTipped_36 : decode cX3_neverTipped 36 = .ok (.iload_n 1, 1) := by decide +kernel
theorem dX3_neverTipped_37 : decode cX3_neverTipped 37 = .ok (.ireturn, 1) := by decide +kernel
theorem dX4_init_0 : decode cX4_init 0 = .ok (.aload_n 0, 1) := by decide +kernel
theorem dX4_init_1 : decode cX4_init 1 = .ok (.invokespecial 3, 3) := by decide +kernel
theorem dX4_init_4 : decode cX4_init 4 = .ok (.aload_n 0, 1) := by decide +kernel
theorem dX4_init_5 : decode cX4_init 5 = .ok (.bipush 9, 2) := by decide +kernel
theorem dX4_init_7 : decode cX4_init 7 = .ok (.newarray .int, 2) := by decide +kernel
theorem dX4_init_9 : decode cX4_init 9 = .ok (.putfield 9, 3) := by decide +kernel
theorem dX4_init_12 : decode cX4_init 12 = .ok (.aload_n 0, 1) := by decide +kernel
theorem dX4_init_13 : decode cX4_init 13 = .ok (.bipush 9, 2) := by decide +kernel
theorem dX4_init_15 : decode cX4_init 15 = .ok (.newarray .int, 2) := by decide +kernel
theorem dX4_init_17 : decode cX4_init 17 = .ok (.putfield 15, 3) := by decide +kernel
theorem dX4_init_20 : decode cX4_init 20 = .ok (.aload_n 0, 1) := by decide +kernel
theorem dX4_init_21 : decode cX4_init 21 = .ok (.bipush 9, 2) := by decide +kernel
theorem dX4_init_23 : decode cX4_init 23 = .ok (.newarray .int, 2) := by decide +kernel
theorem dX4_init_25 : decode cX4_init 25 = .ok (.putfield 18, 3) := by decide +kernel
theorem dX4_init_28 : decode cX4_init 28 = .ok (.return_, 1) := by decide +kernel
theorem dX4_reckon_0 : decode cX4_reckon 0 = .ok (.aload_n 0, 1) := by decide +kernel
theorem dX4_reckon_1 : decode cX4_reckon 1 = .ok (.getfield 9, 3) := by decide +kernel
theorem dX4_reckon_4 : decode cX4_reckon 4 = .ok (.iconst 0, 1) := by decide +kernel
theorem dX4_reckon_5 : decode cX4_reckon 5 = .ok (.invokestatic 21, 3) := by decide +kernel
theorem dX4_reckon_8 : decode cX4_reckon 8 = .ok (.aload_n 0, 1) := by decide +kernel
theorem dX4_reckon_9 : decode cX4_reckon 9 = .ok (.getfield 15, 3) := by decide +kernel
theorem dX4_reckon_12 : decode cX4_reckon 12 = .ok (.iconst 0, 1) := by decide +kernel
theorem dX4_reckon_13 : decode cX4_reckon 13 = .ok (.invokestatic 21, 3) := by decide +kernel
theorem dX4_reckon_16 : decode cX4_reckon 16 = .ok (.iconst 0, 1) := by decide +kernel
theorem dX4_reckon_17 : decode cX4_reckon 17 = .ok (.istore 4, 2) := by decide +kernel
theorem dX4_reckon_19 : decode cX4_reckon 19 = .ok (.iload 4, 2) := by decide +kernel
theorem dX4_reckon_21 : decode cX4_reckon 21 = .ok (.aload_n 1, 1) := by decide +kernel
theorem dX4_reckon_22 : decode cX4_reckon 22 = .ok (.getfield 27, 3) := by decide +kernel
theorem dX4_reckon_25 : decode cX4_reckon 25 = .ok (.if_icmp .ge 120, 3) := by decide +kernel
theorem dX4_reckon_28 : decode cX4_reckon 28 = .ok (.aload_n 2, 1) := by decide +kernel
theorem dX4_reckon_29 : decode cX4_reckon 29 = .ok (.iload 4, 2) := by decide +kernel
theorem dX4_reckon_31 : decode cX4_reckon 31 = .ok (.invokevirtual 33, 3) := by decide +kernel
theorem dX4_reckon_34 : decode cX4_reckon 34 = .ok (.ifCond .ne 22, 3) := by decide +kernel
theorem dX4_reckon_37 : decode cX4_reckon 37 = .ok (.aload_n 0, 1) := by decide +kernel
theorem dX4_reckon_38 : decode cX4_reckon 38 = .ok (.getfield 9, 3) := by decide +kernel
theorem dX4_reckon_41 : decode cX4_reckon 41 = .ok (.iload 4, 2) := by decide +kernel
theorem dX4_reckon_43 : decode cX4_reckon 43 = .ok (.dup2, 1) := by decide +kernel
theorem dX4_reckon_44 : decode cX4_reckon 44 = .ok (.iaload, 1) := by decide +kernel
theorem dX4_reckon_45 : decode cX4_reckon 45 = .ok (.aload_n 1, 1) := by decide +kernel
theorem dX4_reckon_46 : decode cX4_reckon 46 = .ok (.getfield 39, 3) := by decide +kernel
theorem dX4_reckon_49 : decode cX4_reckon 49 = .ok (.iload 4, 2) := by decide +kernel
theorem dX4_reckon_51 : decode cX4_reckon 51 = .ok (.iaload, 1) := by decide +kernel
theorem dX4_reckon_52 : decode cX4_reckon 52 = .ok (.iload_n 3, 1) := by decide +kernel
theorem dX4_reckon_53 : decode cX4_reckon 53 = .ok (.imul, 1) := by decide +kernel
theorem dX4_reckon_54 : decode cX4_reckon 54 = .ok (.iadd, 1) := by decide +kernel
theorem dX4_reckon_55 : decode cX4_reckon 55 = .ok (.iastore, 1) := by decide +kernel
theorem dX4_reckon_56 : decode cX4_reckon 56 = .ok (.aload_n 0, 1) := by decide +kernel
theorem dX4_reckon_57 : decode cX4_reckon 57 = .ok (.getfield 15, 3) := by decide +kernel
theorem dX4_reckon_60 : decode cX4_reckon 60 = .ok (.iload 4, 2) := by decide +kernel
theorem dX4_reckon_62 : decode cX4_reckon 62 = .ok (.aload_n 2, 1) := by decide +kernel
theorem dX4_reckon_63 : decode cX4_reckon 63 = .ok (.getfield 42, 3) := by decide +kernel
theorem dX4_reckon_66 : decode cX4_reckon 66 = .ok (.iload 4, 2) := by decide +kernel
theorem dX4_reckon_68 : decode cX4_reckon 68 = .ok (.iaload, 1) := by decide +kernel
theorem dX4_reckon_69 : decode cX4_reckon 69 = .ok (.aload_n 0, 1) := by decide +kernel
theorem dX4_reckon_70 : decode cX4_reckon 70 = .ok (.getfield 9, 3) := by decide +kernel
theorem dX4_reckon_73 : decode cX4_reckon 73 = .ok (.iload 4, 2) := by decide +kernel
theorem dX4_reckon_75 : decode cX4_reckon 75 = .ok (.iaload, 1) := by decide +kernel
theorem dX4_reckon_76 : decode cX4_reckon 76 = .ok (.iadd, 1) := by decide +kernel
theorem dX4_reckon_77 : decode cX4_reckon 77 = .ok (.iconst 1, 1) := by decide +kernel
theorem dX4_reckon_78 : decode cX4_reckon 78 = .ok (.aload_n 2, 1) := by decide +kernel
theorem dX4_reckon_79 : decode cX4_reckon 79 = .ok (.getfield 44, 3) := by decide +kernel
theorem dX4_reckon_82 : decode cX4_reckon 82 = .ok (.iload 4, 2) := by decide +kernel
theorem dX4_reckon_84 : decode cX4_reckon 84 = .ok (.iaload, 1) := by decide +kernel
theorem dX4_reckon_85 : decode cX4_reckon 85 = .ok (.invokestatic 47, 3) := by decide +kernel
theorem dX4_reckon_88 : decode cX4_reckon 88 = .ok (.idiv, 1) := by decide +kernel
theorem dX4_reckon_89 : decode cX4_reckon 89 = .ok (.iastore, 1) := by decide +kernel
theorem dX4_reckon_90 : decode cX4_reckon 90 = .ok (.aload_n 2, 1) := by decide +kernel
theorem dX4_reckon_91 : decode cX4_reckon 91 = .ok (.iload 4, 2) := by decide +kernel
theorem dX4_reckon_93 : decode cX4_reckon 93 = .ok (.aload_n 0, 1) := by decide +kernel
theorem dX4_reckon_94 : decode cX4_reckon 94 = .ok (.getfield 15, 3) := by decide +kernel
theorem dX4_reckon_97 : decode cX4_reckon 97 = .ok (.iload 4, 2) := by decide +kernel
theorem dX4_reckon_99 : decode cX4_reckon 99 = .ok (.iaload, 1) := by decide +kernel
theorem dX4_reckon_100 : decode cX4_reckon 100 = .ok (.invokevirtual 53, 3) := by decide +kernel
theorem dX4_reckon_103 : decode cX4_reckon 103 = .ok (.istore 5, 2) := by decide +kernel
theorem dX4_reckon_105 : decode cX4_reckon 105 = .ok (.aload_n 0, 1) := by decide +kernel
theorem dX4_reckon_106 : decode cX4_reckon 106 = .ok (.aload_n 2, 1) := by decide +kernel
theorem dX4_reckon_107 : decode cX4_reckon 107 = .ok (.getfield 56, 3) := by decide +kernel
theorem dX4_reckon_110 : decode cX4_reckon 110 = .ok (.iload 4, 2) := by decide +kernel
theorem dX4_reckon_112 : decode cX4_reckon 112 = .ok (.iaload, 1) := by decide +kernel
theorem dX4_reckon_113 : decode cX4_reckon 113 = .ok (.iload 5, 2) := by decide +kernel
theorem dX4_reckon_115 : decode cX4_reckon 115 = .ok (.invokevirtual 59, 3) := by decide +kernel
theorem dX4_reckon_118 : decode cX4_reckon 118 = .ok (.aload_n 0, 1) := by decide +kernel
theorem dX4_reckon_119 : decode cX4_reckon 119 = .ok (.aload_n 2, 1) := by decide +kernel
theorem dX4_reckon_120 : decode cX4_reckon 120 = .ok (.getfield 63, 3) := by decide +kernel
theorem dX4_reckon_123 : decode cX4_reckon 123 = .ok (.iload 4, 2) := by decide +kernel
theorem dX4_reckon_125 : decode cX4_reckon 125 = .ok (.iaload, 1) := by decide +kernel
theorem dX4_reckon_126 : decode cX4_reckon 126 = .ok (.aload_n 0, 1) := by decide +kernel
theorem dX4_reckon_127 : decode cX4_reckon 127 = .ok (.getfield 15, 3) := by decide +kernel
theorem dX4_reckon_130 : decode cX4_reckon 130 = .ok (.iload 4, 2) := by decide +kernel
theorem dX4_reckon_132 : decode cX4_reckon 132 = .ok (.iaload, 1) := by decide +kernel
theorem dX4_reckon_133 : decode cX4_reckon 133 = .ok (.iload 5, 2) := by decide +kernel
theorem dX4_reckon_135 : decode cX4_reckon 135 = .ok (.isub, 1) := by decide +kernel
theorem dX4_reckon_136 : decode cX4_reckon 136 = .ok (.invokevirtual 59, 3) := by decide +kernel
theorem dX4_reckon_139 : decode cX4_reckon 139 = .ok (.iinc 4 1, 3) := by decide +kernel
theorem dX4_reckon_142 : decode cX4_reckon 142 = .ok (.goto (-123), 3) := by decide +kernel
theorem dX4_reckon_145 : decode cX4_reckon 145 = .ok (.return_, 1) := by decide +kernel
theorem dX4_give_0 : decode cX4_give 0 = .ok (.iload_n 1, 1) := by decide +kernel
theorem dX4_give_1 : decode cX4_give 1 = .ok (.ifCond .lt 19, 3) := by decide +kernel
theorem dX4_give_4 : decode cX4_give 4 = .ok (.iload_n 1, 1) := by decide +kernel
theorem dX4_give_5 : decode cX4_give 5 = .ok (.bipush 9, 2) := by decide +kernel
theorem dX4_give_7 : decode cX4_give 7 = .ok (.if_icmp .ge 13, 3) := by decide +kernel
theorem dX4_give_10 : decode cX4_give 10 = .ok (.aload_n 0, 1) := by decide +kernel
theorem dX4_give_11 : decode cX4_give 11 = .ok (.getfield 9, 3) := by decide +kernel
theorem dX4_give_14 : decode cX4_give 14 = .ok (.iload_n 1, 1) := by decide +kernel
theorem dX4_give_15 : decode cX4_give 15 = .ok (.dup2, 1) := by decide +kernel
theorem dX4_give_16 : decode cX4_give 16 = .ok (.iaload, 1) := by decide +kernel
theorem dX4_give_17 : decode cX4_give 17 = .ok (.iload_n 2, 1) := by decide +kernel
theorem dX4_give_18 : decode cX4_give 18 = .ok (.iadd, 1) := by decide +kernel
theorem dX4_give_19 : decode cX4_give 19 = .ok (.iastore, 1) := by decide +kernel
theorem dX4_give_20 : decode cX4_give 20 = .ok (.return_, 1) := by decide +kernel
theorem dX4_keepTimes_0 : decode cX4_keepTimes 0 = .ok (.aload_n 0, 1) := by decide +kernel
theorem dX4_keepTimes_1 : decode cX4_keepTimes 1 = .ok (.getfield 15, 3) := by decide +kernel
theorem dX4_keepTimes_4 : decode cX4_keepTimes 4 = .ok (.iconst 0, 1) := by decide +kernel
theorem dX4_keepTimes_5 : decode cX4_keepTimes 5 = .ok (.aload_n 0, 1) := by decide +kernel
theorem dX4_keepTimes_6 : decode cX4_keepTimes 6 = .ok (.getfield 18, 3) := by decide +kernel
theorem dX4_keepTimes_9 : decode cX4_keepTimes 9 = .ok (.iconst 0, 1) := by decide +kernel
theorem dX4_keepTimes_10 : decode cX4_keepTimes 10 = .ok (.bipush 9, 2) := by decide +kernel
theorem dX4_keepTimes_12 : decode cX4_keepTimes 12 = .ok (.invokestatic 66, 3) := by decide +kernel
theorem dX4_keepTimes_15 : decode cX4_keepTimes 15 = .ok (.return_, 1) := by decide +kernel
theorem dX4_allTippedSince_0 : decode cX4_allTippedSince 0 = .ok (.iconst 0, 1) := by decide +kernel
theorem dX4_allTippedSince_1 : decode cX4_allTippedSince 1 = .ok (.istore_n 2, 1) := by decide +kernel
theorem dX4_allTippedSince_2 : decode cX4_allTippedSince 2 = .ok (.iload_n 2, 1) := by decide +kernel
theorem dX4_allTippedSince_3 : decode cX4_allTippedSince 3 = .ok (.bipush 9, 2) := by decide +kernel
theorem dX4_allTippedSince_5 : decode cX4_allTippedSince 5 = .ok (.if_icmp .ge 34, 3) := by decide +kernel
theorem dX4_allTippedSince_8 : decode cX4_allTippedSince 8 = .ok (.iload_n 1, 1) := by decide +kernel
theorem dX4_allTippedSince_9 : decode cX4_allTippedSince 9 = .ok (.iload_n 2, 1) := by decide +kernel
theorem dX4_allTippedSince_10 : decode cX4_allTippedSince 10 = .ok (.invokestatic 72, 3) := by decide +kernel
theorem dX4_allTippedSince_13 : decode cX4_allTippedSince 13 = .ok (.ifCond .eq 20, 3) := by decide +kernel
theorem dX4_allTippedSince_16 : decode cX4_allTippedSince 16 = .ok (.aload_n 0, 1) := by decide +kernel
theorem dX4_allTippedSince_17 : decode cX4_allTippedSince 17 = .ok (.getfield 15, 3) := by decide +kernel
theorem dX4_allTippedSince_20 : decode cX4_allTippedSince 20 = .ok (.iload_n 2, 1) := by decide +kernel
theorem dX4_allTippedSince_21 : decode cX4_allTippedSince 21 = .ok (.iaload, 1) := by decide +kernel
theorem dX4_allTippedSince_22 : decode cX4_allTippedSince 22 = .ok (.aload_n 0, 1) := by decide +kernel
theorem dX4_allTippedSince_23 : decode cX4_allTippedSince 23 = .ok (.getfield 18, 3) := by decide +kernel
theorem dX4_allTippedSince_26 : decode cX4_allTippedSince 26 = .ok (.iload_n 2, 1) := by decide +kernel
theorem dX4_allTippedSince_27 : decode cX4_allTippedSince 27 = .ok (.iaload, 1) := by decide +kernel
theorem dX4_allTippedSince_28 : decode cX4_allTippedSince 28 = .ok (.if_icmp .ne 5, 3) := by decide +kernel
theorem dX4_allTippedSince_31 : decode cX4_allTippedSince 31 = .ok (.iconst 0, 1) := by decide +kernel
theorem dX4_allTippedSince_32 : decode cX4_allTippedSince 32 = .ok (.ireturn, 1) := by decide +kernel
theorem dX4_allTippedSince_33 : decode cX4_allTippedSince 33 = .ok (.iinc 2 1, 3) := by decide +kernel
theorem dX4_allTippedSince_36 : decode cX4_allTippedSince 36 = .ok (.goto (-34), 3) := by decide +kernel
theorem dX4_allTippedSince_39 : decode cX4_allTippedSince 39 = .ok (.iconst 1, 1) := by decide +kernel
theorem dX4_allTippedSince_40 : decode cX4_allTippedSince 40 = .ok (.ireturn, 1) := by decide +kernel
theorem dX5_init_0 : decode cX5_init 0 = .ok (.aload_n 0, 1) := by decide +kernel
theorem dX5_init_1 : decode cX5_init 1 = .ok (.invokespecial 3, 3) := by decide +kernel
theorem dX5_init_4 : decode cX5_init 4 = .ok (.aload_n 0, 1) := by decide +kernel
theorem dX5_init_5 : decode cX5_init 5 = .ok (.bipush 8, 2) := by decide +kernel
theorem dX5_init_7 : decode cX5_init 7 = .ok (.newarray .int, 2) := by decide +kernel
theorem dX5_init_9 : decode cX5_init 9 = .ok (.putfield 9, 3) := by decide +kernel
theorem dX5_init_12 : decode cX5_init 12 = .ok (.aload_n 0, 1) := by decide +kernel
theorem dX5_init_13 : decode cX5_init 13 = .ok (.bipush 8, 2) := by decide +kernel
theorem dX5_init_15 : decode cX5_init 15 = .ok (.newarray .int, 2) := by decide +kernel
theorem dX5_init_17 : decode cX5_init 17 = .ok (.putfield 15, 3) := by decide +kernel
theorem dX5_init_20 : decode cX5_init 20 = .ok (.aload_n 0, 1) := by decide +kernel
theorem dX5_init_21 : decode cX5_init 21 = .ok (.iconst 0, 1) := by decide +kernel
theorem dX5_init_22 : decode cX5_init 22 = .ok (.putfield 18, 3) := by decide +kernel
theorem dX5_init_25 : decode cX5_init 25 = .ok (.aload_n 0, 1) := by decide +kernel
theorem dX5_init_26 : decode cX5_init 26 = .ok (.iconst 0, 1) := by decide +kernel
theorem dX5_init_27 : decode cX5_init 27 = .ok (.putfield 22, 3) := by decide +kernel
theorem dX5_init_30 : decode cX5_init 30 = .ok (.return_, 1) := by decide +kernel
theorem dX5_note_0 : decode cX5_note 0 = .ok (.aload_n 0, 1) := by decide +kernel
theorem dX5_note_1 : decode cX5_note 1 = .ok (.getfield 22, 3) := by decide +kernel
theorem dX5_note_4 : decode cX5_note 4 = .ok (.bipush 8, 2) := by decide +kernel
theorem dX5_note_6 : decode cX5_note 6 = .ok (.if_icmp .ge 68, 3) := by decide +kernel
theorem dX5_note_9 : decode cX5_note 9 = .ok (.aload_n 0, 1) := by decide +kernel
theorem dX5_note_10 : decode cX5_note 10 = .ok (.getfield 9, 3) := by decide +kernel
theorem dX5_note_13 : decode cX5_note 13 = .ok (.aload_n 0, 1) := by decide +kernel
theorem dX5_note_14 : decode cX5_note 14 = .ok (.getfield 22, 3) := by decide +kernel
theorem dX5_note_17 : decode cX5_note 17 = .ok (.iload_n 1, 1) := by decide +kernel
theorem dX5_note_18 : decode cX5_note 18 = .ok (.iastore, 1) := by decide +kernel
theorem dX5_note_19 : decode cX5_note 19 = .ok (.aload_n 0, 1) := by decide +kernel
theorem dX5_note_20 : decode cX5_note 20 = .ok (.getfield 15, 3) := by decide +kernel
theorem dX5_note_23 : decode cX5_note 23 = .ok (.aload_n 0, 1) := by decide +kernel
theorem dX5_note_24 : decode cX5_note 24 = .ok (.getfield 22, 3) := by decide +kernel
theorem dX5_note_27 : decode cX5_note 27 = .ok (.iload_n 2, 1) := by decide +kernel
theorem dX5_note_28 : decode cX5_note 28 = .ok (.iastore, 1) := by decide +kernel
theorem dX5_note_29 : decode cX5_note 29 = .ok (.aload_n 0, 1) := by decide +kernel
theorem dX5_note_30 : decode cX5_note 30 = .ok (.iload_n 3, 1) := by decide +kernel
theorem dX5_note_31 : decode cX5_note 31 = .ok (.ifCond .eq 17, 3) := by decide +kernel
theorem dX5_note_34 : decode cX5_note 34 = .ok (.aload_n 0, 1) := by decide +kernel
theorem dX5_note_35 : decode cX5_note 35 = .ok (.getfield 18, 3) := by decide +kernel
theorem dX5_note_38 : decode cX5_note 38 = .ok (.iconst 1, 1) := by decide +kernel
theorem dX5_note_39 : decode cX5_note 39 = .ok (.aload_n 0, 1) := by decide +kernel
theorem dX5_note_40 : decode cX5_note 40 = .ok (.getfield 22, 3) := by decide +kernel
theorem dX5_note_43 : decode cX5_note 43 = .ok (.ishl, 1) := by decide +kernel
theorem dX5_note_44 : decode cX5_note 44 = .ok (.ior, 1) := by decide +kernel
theorem dX5_note_45 : decode cX5_note 45 = .ok (.goto 16, 3) := by decide +kernel
theorem dX5_note_48 : decode cX5_note 48 = .ok (.aload_n 0, 1) := by decide +kernel
theorem dX5_note_49 : decode cX5_note 49 = .ok (.getfield 18, 3) := by decide +kernel
theorem dX5_note_52 : decode cX5_note 52 = .ok (.iconst 1, 1) := by decide +kernel
theorem dX5_note_53 : decode cX5_note 53 = .ok (.aload_n 0, 1) := by decide +kernel
theorem dX5_note_54 : decode cX5_note 54 = .ok (.getfield 22, 3) := by decide +kernel
theorem dX5_note_57 : decode cX5_note 57 = .ok (.ishl, 1) := by decide +kernel
theorem dX5_note_58 : decode cX5_note 58 = .ok (.iconst (-1), 1) := by decide +kernel
theorem dX5_note_59 : decode cX5_note 59 = .ok (.ixor, 1) := by decide +kernel
theorem dX5_note_60 : decode cX5_note 60 = .ok (.iand, 1) := by decide +kernel
theorem dX5_note_61 : decode cX5_note 61 = .ok (.putfield 18, 3) := by decide +kernel
theorem dX5_note_64 : decode cX5_note 64 = .ok (.aload_n 0, 1) := by decide +kernel
theorem dX5_note_65 : decode cX5_note 65 = .ok (.dup, 1) := by decide +kernel
theorem dX5_note_66 : decode cX5_note 66 = .ok (.getfield 22, 3) := by decide +kernel
theorem dX5_note_69 : decode cX5_note 69 = .ok (.iconst 1, 1) := by decide +kernel
theorem dX5_note_70 : decode cX5_note 70 = .ok (.iadd, 1) := by decide +kernel
theorem dX5_note_71 : decode cX5_note 71 = .ok (.putfield 22, 3) := by decide +kernel
theorem dX5_note_74 : decode cX5_note 74 = .ok (.return_, 1) := by decide +kernel
theorem dX5_copy_0 : decode cX5_copy 0 = .ok (.aload_n 1, 1) := by decide +kernel
theorem dX5_copy_1 : decode cX5_copy 1 = .ok (.getfield 9, 3) := by decide +kernel
theorem dX5_copy_4 : decode cX5_copy 4 = .ok (.iconst 0, 1) := by decide +kernel
theorem dX5_copy_5 : decode cX5_copy 5 = .ok (.aload_n 0, 1) := by decide +kernel
theorem dX5_copy_6 : decode cX5_copy 6 = .ok (.getfield 9, 3) := by decide +kernel
theorem dX5_copy_9 : decode cX5_copy 9 = .ok (.iconst 0, 1) := by decide +kernel
theorem dX5_copy_10 : decode cX5_copy 10 = .ok (.bipush 8, 2) := by decide +kernel
theorem dX5_copy_12 : decode cX5_copy 12 = .ok (.invokestatic 25, 3) := by decide +kernel
theorem dX5_copy_15 : decode cX5_copy 15 = .ok (.aload_n 1, 1) := by decide +kernel
theorem dX5_copy_16 : decode cX5_copy 16 = .ok (.getfield 15, 3) := by decide +kernel
theorem dX5_copy_19 : decode cX5_copy 19 = .ok (.iconst 0, 1) := by decide +kernel
theorem dX5_copy_20 : decode cX5_copy 20 = .ok (.aload_n 0, 1) := by decide +kernel
theorem dX5_copy_21 : decode cX5_copy 21 = .ok (.getfield 15, 3) := by decide +kernel
theorem dX5_copy_24 : decode cX5_copy 24 = .ok (.iconst 0, 1) := by decide +kernel
theorem dX5_copy_25 : decode cX5_copy 25 = .ok (.bipush 8, 2) := by decide +kernel
theorem dX5_copy_27 : decode cX5_copy 27 = .ok (.invokestatic 25, 3) := by decide +kernel
theorem dX5_copy_30 : decode cX5_copy 30 = .ok (.aload_n 0, 1) := by decide +kernel
theorem dX5_copy_31 : decode cX5_copy 31 = .ok (.aload_n 1, 1) := by decide +kernel
theorem dX5_copy_32 : decode cX5_copy 32 = .ok (.getfield 18, 3) := by decide +kernel
theorem dX5_copy_35 : decode cX5_copy 35 = .ok (.putfield 18, 3) := by decide +kernel
theorem dX5_copy_38 : decode cX5_copy 38 = .ok (.aload_n 0, 1) := by decide +kernel
theorem dX5_copy_39 : decode cX5_copy 39 = .ok (.aload_n 1, 1) := by decide +kernel
theorem dX5_copy_40 : decode cX5_copy 40 = .ok (.getfield 22, 3) := by decide +kernel
theorem dX5_copy_43 : decode cX5_copy 43 = .ok (.putfield 22, 3) := by decide +kernel
theorem dX5_copy_46 : decode cX5_copy 46 = .ok (.return_, 1) := by decide +kernel
theorem dX5_agrees_0 : decode cX5_agrees 0 = .ok (.iconst 0, 1) := by decide +kernel
theorem dX5_agrees_1 : decode cX5_agrees 1 = .ok (.istore_n 3, 1) := by decide +kernel
theorem dX5_agrees_2 : decode cX5_agrees 2 = .ok (.iload_n 3, 1) := by decide +kernel
theorem dX5_agrees_3 : decode cX5_agrees 3 = .ok (.aload_n 0, 1) := by decide +kernel
theorem dX5_agrees_4 : decode cX5_agrees 4 = .ok (.getfield 22, 3) := by decide +kernel
theorem dX5_agrees_7 : decode cX5_agrees 7 = .ok (.if_icmp .ge 42, 3) := by decide +kernel
theorem dX5_agrees_10 : decode cX5_agrees 10 = .ok (.aload_n 0, 1) := by decide +kernel
theorem dX5_agrees_11 : decode cX5_agrees 11 = .ok (.getfield 15, 3) := by decide +kernel
theorem dX5_agrees_14 : decode cX5_agrees 14 = .ok (.iload_n 3, 1) := by decide +kernel
theorem dX5_agrees_15 : decode cX5_agrees 15 = .ok (.iaload, 1) := by decide +kernel
theorem dX5_agrees_16 : decode cX5_agrees 16 = .ok (.iload_n 1, 1) := by decide +kernel
theorem dX5_agrees_17 : decode cX5_agrees 17 = .ok (.if_icmp .ne 26, 3) := by decide +kernel
theorem dX5_agrees_20 : decode cX5_agrees 20 = .ok (.iload_n 2, 1) := by decide +kernel
theorem dX5_agrees_21 : decode cX5_agrees 21 = .ok (.aload_n 0, 1) := by decide +kernel
theorem dX5_agrees_22 : decode cX5_agrees 22 = .ok (.getfield 9, 3) := by decide +kernel
theorem dX5_agrees_25 : decode cX5_agrees 25 = .ok (.iload_n 3, 1) := by decide +kernel
theorem dX5_agrees_26 : decode cX5_agrees 26 = .ok (.iaload, 1) := by decide +kernel
theorem dX5_agrees_27 : decode cX5_agrees 27 = .ok (.invokestatic 31, 3) := by decide +kernel
theorem dX5_agrees_30 : decode cX5_agrees 30 = .ok (.aload_n 0, 1) := by decide +kernel
theorem dX5_agrees_31 : decode cX5_agrees 31 = .ok (.getfield 18, 3) := by decide +kernel
theorem dX5_agrees_34 : decode cX5_agrees 34 = .ok (.iload_n 3, 1) := by decide +kernel
theorem dX5_agrees_35 : decode cX5_agrees 35 = .ok (.invokestatic 31, 3) := by decide +kernel
theorem dX5_agrees_38 : decode cX5_agrees 38 = .ok (.if_icmp .eq 5, 3) := by decide +kernel
theorem dX5_agrees_41 : decode cX5_agrees 41 = .ok (.iconst 0, 1) := by decide +kernel
theorem dX5_agrees_42 : decode cX5_agrees 42 = .ok (.ireturn, 1) := by decide +kernel
theorem dX5_agrees_43 : decode cX5_agrees 43 = .ok (.iinc 3 1, 3) := by decide +kernel
theorem dX5_agrees_46 : decode cX5_agrees 46 = .ok (.goto (-44), 3) := by decide +kernel
theorem dX5_agrees_49 : decode cX5_agrees 49 = .ok (.iconst 1, 1) := by decide +kernel
theorem dX5_agrees_50 : decode cX5_agrees 50 = .ok (.ireturn, 1) := by decide +kernel
theorem dX6_init_0 : decode cX6_init 0 = .ok (.aload_n 0, 1) := by decide +kernel
theorem dX6_init_1 : decode cX6_init 1 = .ok (.invokespecial 1, 3) := by decide +kernel
theorem dX6_init_4 : decode cX6_init 4 = .ok (.aload_n 0, 1) := by decide +kernel
theorem dX6_init_5 : decode cX6_init 5 = .ok (.new 7, 3) := by decide +kernel
theorem dX6_init_8 : decode cX6_init 8 = .ok (.dup, 1) := by decide +kernel
theorem dX6_init_9 : decode cX6_init 9 = .ok (.invokespecial 9, 3) := by decide +kernel
theorem dX6_init_12 : decode cX6_init 12 = .ok (.putfield 10, 3) := by decide +kernel
theorem dX6_init_15 : decode cX6_init 15 = .ok (.aload_n 0, 1) := by decide +kernel
theorem dX6_init_16 : decode cX6_init 16 = .ok (.new 16, 3) := by decide +kernel
theorem dX6_init_19 : decode cX6_init 19 = .ok (.dup, 1) := by decide +kernel
theorem dX6_init_20 : decode cX6_init 20 = .ok (.invokespecial 18, 3) := by decide +kernel
theorem dX6_init_23 : decode cX6_init 23 = .ok (.putfield 19, 3) := by decide +kernel
theorem dX6_init_26 : decode cX6_init 26 = .ok (.aload_n 0, 1) := by decide +kernel
theorem dX6_init_27 : decode cX6_init 27 = .ok (.new 23, 3) := by decide +kernel
theorem dX6_init_30 : decode cX6_init 30 = .ok (.dup, 1) := by decide +kernel
theorem dX6_init_31 : decode cX6_init 31 = .ok (.invokespecial 25, 3) := by decide +kernel
theorem dX6_init_34 : decode cX6_init 34 = .ok (.putfield 26, 3) := by decide +kernel
theorem dX6_init_37 : decode cX6_init 37 = .ok (.return_, 1) := by decide +kernel
theorem dX6_begin_0 : decode cX6_begin 0 = .ok (.aload_n 0, 1) := by decide +kernel
theorem dX6_begin_1 : decode cX6_begin 1 = .ok (.getfield 10, 3) := by decide +kernel
theorem dX6_begin_4 : decode cX6_begin 4 = .ok (.aload_n 1, 1) := by decide +kernel
theorem dX6_begin_5 : decode cX6_begin 5 = .ok (.invokevirtual 30, 3) := by decide +kernel
theorem dX6_begin_8 : decode cX6_begin 8 = .ok (.aload_n 0, 1) := by decide +kernel
theorem dX6_begin_9 : decode cX6_begin 9 = .ok (.getfield 19, 3) := by decide +kernel
theorem dX6_begin_12 : decode cX6_begin 12 = .ok (.iconst 0, 1) := by decide +kernel
theorem dX6_begin_13 : decode cX6_begin 13 = .ok (.putfield 34, 3) := by decide +kernel
theorem dX6_begin_16 : decode cX6_begin 16 = .ok (.aload_n 0, 1) := by decide +kernel
theorem dX6_begin_17 : decode cX6_begin 17 = .ok (.getfield 26, 3) := by decide +kernel
theorem dX6_begin_20 : decode cX6_begin 20 = .ok (.iconst 0, 1) := by decide +kernel
theorem dX6_begin_21 : decode cX6_begin 21 = .ok (.putfield 38, 3) := by decide +kernel
theorem dX6_begin_24 : decode cX6_begin 24 = .ok (.return_, 1) := by decide +kernel
theorem dX6_copy_0 : decode cX6_copy 0 = .ok (.aload_n 0, 1) := by decide +kernel
theorem dX6_copy_1 : decode cX6_copy 1 = .ok (.getfield 10, 3) := by decide +kernel
theorem dX6_copy_4 : decode cX6_copy 4 = .ok (.aload_n 1, 1) := by decide +kernel
theorem dX6_copy_5 : decode cX6_copy 5 = .ok (.getfield 10, 3) := by decide +kernel
theorem dX6_copy_8 : decode cX6_copy 8 = .ok (.invokevirtual 30, 3) := by decide +kernel
theorem dX6_copy_11 : decode cX6_copy 11 = .ok (.aload_n 0, 1) := by decide +kernel
theorem dX6_copy_12 : decode cX6_copy 12 = .ok (.getfield 19, 3) := by decide +kernel
theorem dX6_copy_15 : decode cX6_copy 15 = .ok (.aload_n 1, 1) := by decide +kernel
theorem dX6_copy_16 : decode cX6_copy 16 = .ok (.getfield 19, 3) := by decide +kernel
theorem dX6_copy_19 : decode cX6_copy 19 = .ok (.invokevirtual 41, 3) := by decide +kernel
theorem dX6_copy_22 : decode cX6_copy 22 = .ok (.aload_n 0, 1) := by decide +kernel
theorem dX6_copy_23 : decode cX6_copy 23 = .ok (.getfield 26, 3) := by decide +kernel
theorem dX6_copy_26 : decode cX6_copy 26 = .ok (.aload_n 1, 1) := by decide +kernel
theorem dX6_copy_27 : decode cX6_copy 27 = .ok (.getfield 26, 3) := by decide +kernel
theorem dX6_copy_30 : decode cX6_copy 30 = .ok (.invokevirtual 44, 3) := by decide +kernel
theorem dX6_copy_33 : decode cX6_copy 33 = .ok (.return_, 1) := by decide +kernel
theorem dX7_init_0 : decode cX7_init 0 = .ok (.aload_n 0, 1) := by decide +kernel
theorem dX7_init_1 : decode cX7_init 1 = .ok (.invokespecial 3, 3) := by decide +kernel
theorem dX7_init_4 : decode cX7_init 4 = .ok (.aload_n 0, 1) := by decide +kernel
theorem dX7_init_5 : decode cX7_init 5 = .ok (.new 9, 3) := by decide +kernel
theorem dX7_init_8 : decode cX7_init 8 = .ok (.dup, 1) := by decide +kernel
theorem dX7_init_9 : decode cX7_init 9 = .ok (.invokespecial 11, 3) := by decide +kernel
theorem dX7_init_12 : decode cX7_init 12 = .ok (.putfield 12, 3) := by decide +kernel
theorem dX7_init_15 : decode cX7_init 15 = .ok (.aload_n 0, 1) := by decide +kernel
theorem dX7_init_16 : decode cX7_init 16 = .ok (.new 18, 3) := by decide +kernel
theorem dX7_init_19 : decode cX7_init 19 = .ok (.dup, 1) := by decide +kernel
theorem dX7_init_20 : decode cX7_init 20 = .ok (.invokespecial 20, 3) := by decide +kernel
theorem dX7_init_23 : decode cX7_init 23 = .ok (.putfield 21, 3) := by decide +kernel
theorem dX7_init_26 : decode cX7_init 26 = .ok (.aload_n 0, 1) := by decide +kernel
theorem dX7_init_27 : decode cX7_init 27 = .ok (.aload_n 0, 1) := by decide +kernel
theorem dX7_init_28 : decode cX7_init 28 = .ok (.getfield 21, 3) := by decide +kernel
theorem dX7_init_31 : decode cX7_init 31 = .ok (.getfield 25, 3) := by decide +kernel
theorem dX7_init_34 : decode cX7_init 34 = .ok (.putfield 29, 3) := by decide +kernel
theorem dX7_init_37 : decode cX7_init 37 = .ok (.aload_n 0, 1) := by decide +kernel
theorem dX7_init_38 : decode cX7_init 38 = .ok (.iconst 0, 1) := by decide +kernel
theorem dX7_init_39 : decode cX7_init 39 = .ok (.putfield 32, 3) := by decide +kernel
theorem dX7_init_42 : decode cX7_init 42 = .ok (.aload_n 0, 1) := by decide +kernel
theorem dX7_init_43 : decode cX7_init 43 = .ok (.iconst (-1), 1) := by decide +kernel
theorem dX7_init_44 : decode cX7_init 44 = .ok (.putfield 36, 3) := by decide +kernel
theorem dX7_init_47 : decode cX7_init 47 = .ok (.return_, 1) := by decide +kernel
theorem dX7_read_0 : decode cX7_read 0 = .ok (.aload_n 0, 1) := by decide +kernel
theorem dX7_read_1 : decode cX7_read 1 = .ok (.getfield 21, 3) := by decide +kernel
theorem dX7_read_4 : decode cX7_read 4 = .ok (.invokevirtual 39, 3) := by decide +kernel
theorem dX7_read_7 : decode cX7_read 7 = .ok (.aload_n 0, 1) := by decide +kernel
theorem dX7_read_8 : decode cX7_read 8 = .ok (.iconst 0, 1) := by decide +kernel
theorem dX7_read_9 : decode cX7_read 9 = .ok (.putfield 32, 3) := by decide +kernel
theorem dX7_read_12 : decode cX7_read 12 = .ok (.aload_n 0, 1) := by decide +kernel
theorem dX7_read_13 : decode cX7_read 13 = .ok (.iconst (-1), 1) := by decide +kernel
theorem dX7_read_14 : decode cX7_read 14 = .ok (.putfield 36, 3) := by decide +kernel
theorem dX7_read_17 : decode cX7_read 17 = .ok (.aload_n 0, 1) := by decide +kernel
theorem dX7_read_18 : decode cX7_read 18 = .ok (.getfield 12, 3) := by decide +kernel
theorem dX7_read_21 : decode cX7_read 21 = .ok (.iload_n 1, 1) := by decide +kernel
theorem dX7_read_22 : decode cX7_read 22 = .ok (.invokevirtual 42, 3) := by decide +kernel
theorem dX7_read_25 : decode cX7_read 25 = .ok (.iconst 0, 1) := by decide +kernel
theorem dX7_read_26 : decode cX7_read 26 = .ok (.istore_n 2, 1) := by decide +kernel
theorem dX7_read_27 : decode cX7_read 27 = .ok (.iload_n 2, 1) := by decide +kernel
theorem dX7_read_28 : decode cX7_read 28 = .ok (.sipush 700, 3) := by decide +kernel
theorem dX7_read_31 : decode cX7_read 31 = .ok (.if_icmp .ge 122, 3) := by decide +kernel
theorem dX7_read_34 : decode cX7_read 34 = .ok (.aload_n 0, 1) := by decide +kernel
theorem dX7_read_35 : decode cX7_read 35 = .ok (.getfield 32, 3) := by decide +kernel
theorem dX7_read_38 : decode cX7_read 38 = .ok (.ifCond .ne 115, 3) := by decide +kernel
theorem dX7_read_41 : decode cX7_read 41 = .ok (.aload_n 0, 1) := by decide +kernel
theorem dX7_read_42 : decode cX7_read 42 = .ok (.getfield 12, 3) := by decide +kernel
theorem dX7_read_45 : decode cX7_read 45 = .ok (.getfield 46, 3) := by decide +kernel
theorem dX7_read_48 : decode cX7_read 48 = .ok (.ifCond .eq 105, 3) := by decide +kernel
theorem dX7_read_51 : decode cX7_read 51 = .ok (.aload_n 0, 1) := by decide +kernel
theorem dX7_read_52 : decode cX7_read 52 = .ok (.getfield 12, 3) := by decide +kernel
theorem dX7_read_55 : decode cX7_read 55 = .ok (.ldc 49, 2) := by decide +kernel
theorem dX7_read_57 : decode cX7_read 57 = .ok (.invokevirtual 51, 3) := by decide +kernel
theorem dX7_read_60 : decode cX7_read 60 = .ok (.ifCond .eq 10, 3) := by decide +kernel
theorem dX7_read_63 : decode cX7_read 63 = .ok (.aload_n 0, 1) := by decide +kernel
theorem dX7_read_64 : decode cX7_read 64 = .ok (.invokevirtual 55, 3) := by decide +kernel
theorem dX7_read_67 : decode cX7_read 67 = .ok (.goto 80, 3) := by decide +kernel
theorem dX7_read_70 : decode cX7_read 70 = .ok (.aload_n 0, 1) := by decide +kernel
theorem dX7_read_71 : decode cX7_read 71 = .ok (.getfield 12, 3) := by decide +kernel
theorem dX7_read_74 : decode cX7_read 74 = .ok (.ldc 58, 2) := by decide +kernel
theorem dX7_read_76 : decode cX7_read 76 = .ok (.invokevirtual 51, 3) := by decide +kernel
theorem dX7_read_79 : decode cX7_read 79 = .ok (.ifCond .eq 10, 3) := by decide +kernel
theorem dX7_read_82 : decode cX7_read 82 = .ok (.aload_n 0, 1) := by decide +kernel
theorem dX7_read_83 : decode cX7_read 83 = .ok (.invokevirtual 60, 3) := by decide +kernel
theorem dX7_read_86 : decode cX7_read 86 = .ok (.goto 61, 3) := by decide +kernel
theorem dX7_read_89 : decode cX7_read 89 = .ok (.aload_n 0, 1) := by decide +kernel
theorem dX7_read_90 : decode cX7_read 90 = .ok (.getfield 12, 3) := by decide +kernel
theorem dX7_read_93 : decode cX7_read 93 = .ok (.ldc 63, 2) := by decide +kernel
theorem dX7_read_95 : decode cX7_read 95 = .ok (.invokevirtual 51, 3) := by decide +kernel
theorem dX7_read_98 : decode cX7_read 98 = .ok (.ifCond .eq 17, 3) := by decide +kernel
theorem dX7_read_101 : decode cX7_read 101 = .ok (.aload_n 0, 1) := by decide +kernel
theorem dX7_read_102 : decode cX7_read 102 = .ok (.aload_n 0, 1) := by decide +kernel
theorem dX7_read_103 : decode cX7_read 103 = .ok (.getfield 21, 3) := by decide +kernel
theorem dX7_read_106 : decode cX7_read 106 = .ok (.getfield 25, 3) := by decide +kernel
theorem dX7_read_109 : decode cX7_read 109 = .ok (.invokevirtual 64, 3) := by decide +kernel
theorem dX7_read_112 : decode cX7_read 112 = .ok (.goto 35, 3) := by decide +kernel
theorem dX7_read_115 : decode cX7_read 115 = .ok (.aload_n 0, 1) := by decide +kernel
theorem dX7_read_116 : decode cX7_read 116 = .ok (.getfield 12, 3) := by decide +kernel
theorem dX7_read_119 : decode cX7_read 119 = .ok (.ldc 68, 2) := by decide +kernel
theorem dX7_read_121 : decode cX7_read 121 = .ok (.invokevirtual 51, 3) := by decide +kernel
theorem dX7_read_124 : decode cX7_read 124 = .ok (.ifCond .eq 17, 3) := by decide +kernel
theorem dX7_read_127 : decode cX7_read 127 = .ok (.aload_n 0, 1) := by decide +kernel
theorem dX7_read_128 : decode cX7_read 128 = .ok (.aload_n 0, 1) := by decide +kernel
theorem dX7_read_129 : decode cX7_read 129 = .ok (.getfield 21, 3) := by decide +kernel
theorem dX7_read_132 : decode cX7_read 132 = .ok (.getfield 70, 3) := by decide +kernel
theorem dX7_read_135 : decode cX7_read 135 = .ok (.invokevirtual 64, 3) := by decide +kernel
theorem dX7_read_138 : decode cX7_read 138 = .ok (.goto 9, 3) := by decide +kernel
theorem dX7_read_141 : decode cX7_read 141 = .ok (.aload_n 0, 1) := by decide +kernel
theorem dX7_read_142 : decode cX7_read 142 = .ok (.iconst 1, 1) := by decide +kernel
theorem dX7_read_143 : decode cX7_read 143 = .ok (.invokevirtual 72, 3) := by decide +kernel
theorem dX7_read_146 : decode cX7_read 146 = .ok (.pop, 1) := by decide +kernel
theorem dX7_read_147 : decode cX7_read 147 = .ok (.iinc 2 1, 3) := by decide +kernel
theorem dX7_read_150 : decode cX7_read 150 = .ok (.goto (-123), 3) := by decide +kernel
theorem dX7_read_153 : decode cX7_read 153 = .ok (.aload_n 0, 1) := by decide +kernel
theorem dX7_read_154 : decode cX7_read 154 = .ok (.getfield 32, 3) := by decide +kernel
theorem dX7_read_157 : decode cX7_read 157 = .ok (.ireturn, 1) := by decide +kernel
theorem dX7_fail_0 : decode cX7_fail 0 = .ok (.aload_n 0, 1) := by decide +kernel
theorem dX7_fail_1 : decode cX7_fail 1 = .ok (.getfield 32, 3) := by decide +kernel
theorem dX7_fail_4 : decode cX7_fail 4 = .ok (.ifCond .ne 19, 3) := by decide +kernel
theorem dX7_fail_7 : decode cX7_fail 7 = .ok (.aload_n 0, 1) := by decide +kernel
theorem dX7_fail_8 : decode cX7_fail 8 = .ok (.iload_n 1, 1) := by decide +kernel
theorem dX7_fail_9 : decode cX7_fail 9 = .ok (.putfield 32, 3) := by decide +kernel
theorem dX7_fail_12 : decode cX7_fail 12 = .ok (.aload_n 0, 1) := by decide +kernel
theorem dX7_fail_13 : decode cX7_fail 13 = .ok (.aload_n 0, 1) := by decide +kernel
theorem dX7_fail_14 : decode cX7_fail 14 = .ok (.getfield 12, 3) := by decide +kernel
theorem dX7_fail_17 : decode cX7_fail 17 = .ok (.getfield 76, 3) := by decide +kernel
theorem dX7_fail_20 : decode cX7_fail 20 = .ok (.putfield 36, 3) := by decide +kernel
theorem dX7_fail_23 : decode cX7_fail 23 = .ok (.iconst (-1), 1) := by decide +kernel
theorem dX7_fail_24 : decode cX7_fail 24 = .ok (.ireturn, 1) := by decide +kernel
theorem dX7_readSign_0 : decode cX7_readSign 0 = .ok (.aload_n 0, 1) := by decide +kernel
theorem dX7_readSign_1 : decode cX7_readSign 1 = .ok (.getfield 32, 3) := by decide +kernel
theorem dX7_readSign_4 : decode cX7_readSign 4 = .ok (.ifCond .eq 4, 3) := by decide +kernel
theorem dX7_readSign_7 : decode cX7_readSign 7 = .ok (.return_, 1) := by decide +kernel
theorem dX7_readSign_8 : decode cX7_readSign 8 = .ok (.aload_n 0, 1) := by decide +kernel
theorem dX7_readSign_9 : decode cX7_readSign 9 = .ok (.getfield 12, 3) := by decide +kernel
theorem dX7_readSign_12 : decode cX7_readSign 12 = .ok (.iload_n 1, 1) := by decide +kernel
theorem dX7_readSign_13 : decode cX7_readSign 13 = .ok (.invokevirtual 79, 3) := by decide +kernel
theorem dX7_readSign_16 : decode cX7_readSign 16 = .ok (.ifCond .eq 13, 3) := by decide +kernel
theorem dX7_readSign_19 : decode cX7_readSign 19 = .ok (.aload_n 0, 1) := by decide +kernel
theorem dX7_readSign_20 : decode cX7_readSign 20 = .ok (.getfield 12, 3) := by decide +kernel
theorem dX7_readSign_23 : decode cX7_readSign 23 = .ok (.invokevirtual 83, 3) := by decide +kernel
theorem dX7_readSign_26 : decode cX7_readSign 26 = .ok (.goto 9, 3) := by decide +kernel
theorem dX7_readSign_29 : decode cX7_readSign 29 = .ok (.aload_n 0, 1) := by decide +kernel
theorem dX7_readSign_30 : decode cX7_readSign 30 = .ok (.iconst 1, 1) := by decide +kernel
theorem dX7_readSign_31 : decode cX7_readSign 31 = .ok (.invokevirtual 72, 3) := by decide +kernel
theorem dX7_readSign_34 : decode cX7_readSign 34 = .ok (.pop, 1) := by decide +kernel
theorem dX7_readSign_35 : decode cX7_readSign 35 = .ok (.return_, 1) := by decide +kernel
theorem dX7_readCup_0 : decode cX7_readCup 0 = .ok (.aload_n 0, 1) := by decide +kernel
theorem dX7_readCup_1 : decode cX7_readCup 1 = .ok (.getfield 21, 3) := by decide +kernel
theorem dX7_readCup_4 : decode cX7_readCup 4 = .ok (.getfield 86, 3) := by decide +kernel
theorem dX7_readCup_7 : decode cX7_readCup 7 = .ok (.bipush 9, 2) := by decide +kernel
theorem dX7_readCup_9 : decode cX7_readCup 9 = .ok (.if_icmp .lt 10, 3) := by decide +kernel
theorem dX7_readCup_12 : decode cX7_readCup 12 = .ok (.aload_n 0, 1) := by decide +kernel
theorem dX7_readCup_13 : decode cX7_readCup 13 = .ok (.iconst 2, 1) := by decide +kernel
theorem dX7_readCup_14 : decode cX7_readCup 14 = .ok (.invokevirtual 72, 3) := by decide +kernel
theorem dX7_readCup_17 : decode cX7_readCup 17 = .ok (.pop, 1) := by decide +kernel
theorem dX7_readCup_18 : decode cX7_readCup 18 = .ok (.return_, 1) := by decide +kernel
theorem dX7_readCup_19 : decode cX7_readCup 19 = .ok (.aload_n 0, 1) := by decide +kernel
theorem dX7_readCup_20 : decode cX7_readCup 20 = .ok (.getfield 12, 3) := by decide +kernel
theorem dX7_readCup_23 : decode cX7_readCup 23 = .ok (.invokevirtual 83, 3) := by decide +kernel
theorem dX7_readCup_26 : decode cX7_readCup 26 = .ok (.aload_n 0, 1) := by decide +kernel
theorem dX7_readCup_27 : decode cX7_readCup 27 = .ok (.iconst 1, 1) := by decide +kernel
theorem dX7_readCup_28 : decode cX7_readCup 28 = .ok (.bipush 30, 2) := by decide +kernel
theorem dX7_readCup_30 : decode cX7_readCup 30 = .ok (.invokevirtual 89, 3) := by decide +kernel
theorem dX7_readCup_33 : decode cX7_readCup 33 = .ok (.istore_n 1, 1) := by decide +kernel
theorem dX7_readCup_34 : decode cX7_readCup 34 = .ok (.aload_n 0, 1) := by decide +kernel
theorem dX7_readCup_35 : decode cX7_readCup 35 = .ok (.iconst 0, 1) := by decide +kernel
theorem dX7_readCup_36 : decode cX7_readCup 36 = .ok (.iload_n 1, 1) := by decide +kernel
theorem dX7_readCup_37 : decode cX7_readCup 37 = .ok (.iconst 1, 1) := by decide +kernel
theorem dX7_readCup_38 : decode cX7_readCup 38 = .ok (.isub, 1) := by decide +kernel
theorem dX7_readCup_39 : decode cX7_readCup 39 = .ok (.invokevirtual 89, 3) := by decide +kernel
theorem dX7_readCup_42 : decode cX7_readCup 42 = .ok (.istore_n 2, 1) := by decide +kernel
theorem dX7_readCup_43 : decode cX7_readCup 43 = .ok (.aload_n 0, 1) := by decide +kernel
theorem dX7_readCup_44 : decode cX7_readCup 44 = .ok (.iconst 0, 1) := by decide +kernel
theorem dX7_readCup_45 : decode cX7_readCup 45 = .ok (.bipush 20, 2) := by decide +kernel
theorem dX7_readCup_47 : decode cX7_readCup 47 = .ok (.invokevirtual 89, 3) := by decide +kernel
theorem dX7_readCup_50 : decode cX7_readCup 50 = .ok (.istore_n 3, 1) := by decide +kernel
theorem dX7_readCup_51 : decode cX7_readCup 51 = .ok (.aload_n 0, 1) := by decide +kernel
theorem dX7_readCup_52 : decode cX7_readCup 52 = .ok (.bipush 59, 2) := by decide +kernel
theorem dX7_readCup_54 : decode cX7_readCup 54 = .ok (.invokevirtual 93, 3) := by decide +kernel
theorem dX7_readCup_57 : decode cX7_readCup 57 = .ok (.aload_n 0, 1) := by decide +kernel
theorem dX7_readCup_58 : decode cX7_readCup 58 = .ok (.getfield 32, 3) := by decide +kernel
theorem dX7_readCup_61 : decode cX7_readCup 61 = .ok (.ifCond .ne 13, 3) := by decide +kernel
theorem dX7_readCup_64 : decode cX7_readCup 64 = .ok (.aload_n 0, 1) := by decide +kernel
theorem dX7_readCup_65 : decode cX7_readCup 65 = .ok (.getfield 21, 3) := by decide +kernel
theorem dX7_readCup_68 : decode cX7_readCup 68 = .ok (.iload_n 1, 1) := by decide +kernel
theorem dX7_readCup_69 : decode cX7_readCup 69 = .ok (.iload_n 2, 1) := by decide +kernel
theorem dX7_readCup_70 : decode cX7_readCup 70 = .ok (.iload_n 3, 1) := by decide +kernel
theorem dX7_readCup_71 : decode cX7_readCup 71 = .ok (.invokevirtual 97, 3) := by decide +kernel
theorem dX7_readCup_74 : decode cX7_readCup 74 = .ok (.return_, 1) := by decide +kernel
theorem dX7_readNumber_0 : decode cX7_readNumber 0 = .ok (.aload_n 0, 1) := by decide +kernel
theorem dX7_readNumber_1 : decode cX7_readNumber 1 = .ok (.getfield 32, 3) := by decide +kernel
theorem dX7_readNumber_4 : decode cX7_readNumber 4 = .ok (.ifCond .eq 5, 3) := by decide +kernel
theorem dX7_readNumber_7 : decode cX7_readNumber 7 = .ok (.iconst (-1), 1) := by decide +kernel
theorem dX7_readNumber_8 : decode cX7_readNumber 8 = .ok (.ireturn, 1) := by decide +kernel
theorem dX7_readNumber_9 : decode cX7_readNumber 9 = .ok (.aload_n 0, 1) := by decide +kernel
theorem dX7_readNumber_10 : decode cX7_readNumber 10 = .ok (.getfield 12, 3) := by decide +kernel
theorem dX7_readNumber_13 : decode cX7_readNumber 13 = .ok (.getfield 46, 3) := by decide +kernel
theorem dX7_readNumber_16 : decode cX7_readNumber 16 = .ok (.iconst 2, 1) := by decide +kernel
theorem dX7_readNumber_17 : decode cX7_readNumber 17 = .ok (.if_icmp .eq 9, 3) := by decide +kernel
theorem dX7_readNumber_20 : decode cX7_readNumber 20 = .ok (.aload_n 0, 1) := by decide +kernel
theorem dX7_readNumber_21 : decode cX7_readNumber 21 = .ok (.iconst 1, 1) := by decide +kernel
theorem dX7_readNumber_22 : decode cX7_readNumber 22 = .ok (.invokevirtual 72, 3) := by decide +kernel
theorem dX7_readNumber_25 : decode cX7_readNumber 25 = .ok (.ireturn, 1) := by decide +kernel
theorem dX7_readNumber_26 : decode cX7_readNumber 26 = .ok (.aload_n 0, 1) := by decide +kernel
theorem dX7_readNumber_27 : decode cX7_readNumber 27 = .ok (.getfield 12, 3) := by decide +kernel
theorem dX7_readNumber_30 : decode cX7_readNumber 30 = .ok (.getfield 101, 3) := by decide +kernel
theorem dX7_readNumber_33 : decode cX7_readNumber 33 = .ok (.istore_n 3, 1) := by decide +kernel
theorem dX7_readNumber_34 : decode cX7_readNumber 34 = .ok (.aload_n 0, 1) := by decide +kernel
theorem dX7_readNumber_35 : decode cX7_readNumber 35 = .ok (.getfield 12, 3) := by decide +kernel
theorem dX7_readNumber_38 : decode cX7_readNumber 38 = .ok (.invokevirtual 104, 3) := by decide +kernel
theorem dX7_readNumber_41 : decode cX7_readNumber 41 = .ok (.ifCond .ne 13, 3) := by decide +kernel
theorem dX7_readNumber_44 : decode cX7_readNumber 44 = .ok (.iload_n 3, 1) := by decide +kernel
theorem dX7_readNumber_45 : decode cX7_readNumber 45 = .ok (.iload_n 1, 1) := by decide +kernel
theorem dX7_readNumber_46 : decode cX7_readNumber 46 = .ok (.if_icmp .lt 8, 3) := by decide +kernel
theorem dX7_readNumber_49 : decode cX7_readNumber 49 = .ok (.iload_n 3, 1) := by decide +kernel
theorem dX7_readNumber_50 : decode cX7_readNumber 50 = .ok (.iload_n 2, 1) := by decide +kernel
theorem dX7_readNumber_51 : decode cX7_readNumber 51 = .ok (.if_icmp .le 9, 3) := by decide +kernel
theorem dX7_readNumber_54 : decode cX7_readNumber 54 = .ok (.aload_n 0, 1) := by decide +kernel
theorem dX7_readNumber_55 : decode cX7_readNumber 55 = .ok (.iconst 2, 1) := by decide +kernel
theorem dX7_readNumber_56 : decode cX7_readNumber 56 = .ok (.invokevirtual 72, 3) := by decide +kernel
theorem dX7_readNumber_59 : decode cX7_readNumber 59 = .ok (.ireturn, 1) := by decide +kernel
theorem dX7_readNumber_60 : decode cX7_readNumber 60 = .ok (.aload_n 0, 1) := by decide +kernel
theorem dX7_readNumber_61 : decode cX7_readNumber 61 = .ok (.getfield 12, 3) := by decide +kernel
theorem dX7_readNumber_64 : decode cX7_readNumber 64 = .ok (.invokevirtual 83, 3) := by decide +kernel
theorem dX7_readNumber_67 : decode cX7_readNumber 67 = .ok (.iload_n 3, 1) := by decide +kernel
theorem dX7_readNumber_68 : decode cX7_readNumber 68 = .ok (.ireturn, 1) := by decide +kernel
theorem dX7_readPipe_0 : decode cX7_readPipe 0 = .ok (.aload_n 0, 1) := by decide +kernel
theorem dX7_readPipe_1 : decode cX7_readPipe 1 = .ok (.getfield 12, 3) := by decide +kernel
theorem dX7_readPipe_4 : decode cX7_readPipe 4 = .ok (.invokevirtual 83, 3) := by decide +kernel
theorem dX7_readPipe_7 : decode cX7_readPipe 7 = .ok (.aload_n 0, 1) := by decide +kernel
theorem dX7_readPipe_8 : decode cX7_readPipe 8 = .ok (.invokevirtual 108, 3) := by decide +kernel
theorem dX7_readPipe_11 : decode cX7_readPipe 11 = .ok (.istore_n 1, 1) := by decide +kernel
theorem dX7_readPipe_12 : decode cX7_readPipe 12 = .ok (.iload_n 1, 1) := by decide +kernel
theorem dX7_readPipe_13 : decode cX7_readPipe 13 = .ok (.iconst (-1), 1) := by decide +kernel
theorem dX7_readPipe_14 : decode cX7_readPipe 14 = .ok (.if_icmp .ne 4, 3) := by decide +kernel
theorem dX7_readPipe_17 : decode cX7_readPipe 17 = .ok (.return_, 1) := by decide +kernel
theorem dX7_readPipe_18 : decode cX7_readPipe 18 = .ok (.aload_n 0, 1) := by decide +kernel
theorem dX7_readPipe_19 : decode cX7_readPipe 19 = .ok (.getfield 21, 3) := by decide +kernel
theorem dX7_readPipe_22 : decode cX7_readPipe 22 = .ok (.getfield 112, 3) := by decide +kernel
theorem dX7_readPipe_25 : decode cX7_readPipe 25 = .ok (.getfield 116, 3) := by decide +kernel
theorem dX7_readPipe_28 : decode cX7_readPipe 28 = .ok (.iload_n 1, 1) := by decide +kernel
theorem dX7_readPipe_29 : decode cX7_readPipe 29 = .ok (.iaload, 1) := by decide +kernel
theorem dX7_readPipe_30 : decode cX7_readPipe 30 = .ok (.iconst (-1), 1) := by decide +kernel
theorem dX7_readPipe_31 : decode cX7_readPipe 31 = .ok (.if_icmp .eq 10, 3) := by decide +kernel
theorem dX7_readPipe_34 : decode cX7_readPipe 34 = .ok (.aload_n 0, 1) := by decide +kernel
theorem dX7_readPipe_35 : decode cX7_readPipe 35 = .ok (.iconst 4, 1) := by decide +kernel
theorem dX7_readPipe_36 : decode cX7_readPipe 36 = .ok (.invokevirtual 72, 3) := by decide +kernel
theorem dX7_readPipe_39 : decode cX7_readPipe 39 = .ok (.pop, 1) := by decide +kernel
theorem dX7_readPipe_40 : decode cX7_readPipe 40 = .ok (.return_, 1) := by decide +kernel
theorem dX7_readPipe_41 : decode cX7_readPipe 41 = .ok (.aload_n 0, 1) := by decide +kernel
theorem dX7_readPipe_42 : decode cX7_readPipe 42 = .ok (.getfield 12, 3) := by decide +kernel
theorem dX7_readPipe_45 : decode cX7_readPipe 45 = .ok (.invokevirtual 83, 3) := by decide +kernel
theorem dX7_readPipe_48 : decode cX7_readPipe 48 = .ok (.aload_n 0, 1) := by decide +kernel
theorem dX7_readPipe_49 : decode cX7_readPipe 49 = .ok (.iload_n 1, 1) := by decide +kernel
theorem dX7_readPipe_50 : decode cX7_readPipe 50 = .ok (.iconst (-1), 1) := by decide +kernel
theorem dX7_readPipe_51 : decode cX7_readPipe 51 = .ok (.invokevirtual 122, 3) := by decide +kernel
theorem dX7_readPipe_54 : decode cX7_readPipe 54 = .ok (.istore_n 2, 1) := by decide +kernel
theorem dX7_readPipe_55 : decode cX7_readPipe 55 = .ok (.iload_n 2, 1) := by decide +kernel
theorem dX7_readPipe_56 : decode cX7_readPipe 56 = .ok (.iconst (-1), 1) := by decide +kernel
theorem dX7_readPipe_57 : decode cX7_readPipe 57 = .ok (.if_icmp .eq 23, 3) := by decide +kernel
theorem dX7_readPipe_60 : decode cX7_readPipe 60 = .ok (.aload_n 0, 1) := by decide +kernel
theorem dX7_readPipe_61 : decode cX7_readPipe 61 = .ok (.getfield 12, 3) := by decide +kernel
theorem dX7_readPipe_64 : decode cX7_readPipe 64 = .ok (.getfield 46, 3) := by decide +kernel
theorem dX7_readPipe_67 : decode cX7_readPipe 67 = .ok (.iconst 2, 1) := by decide +kernel
theorem dX7_readPipe_68 : decode cX7_readPipe 68 = .ok (.if_icmp .ne 12, 3) := by decide +kernel
theorem dX7_readPipe_71 : decode cX7_readPipe 71 = .ok (.aload_n 0, 1) := by decide +kernel
theorem dX7_readPipe_72 : decode cX7_readPipe 72 = .ok (.iload_n 1, 1) := by decide +kernel
theorem dX7_readPipe_73 : decode cX7_readPipe 73 = .ok (.iload_n 2, 1) := by decide +kernel
theorem dX7_readPipe_74 : decode cX7_readPipe 74 = .ok (.invokevirtual 122, 3) := by decide +kernel
theorem dX7_readPipe_77 : decode cX7_readPipe 77 = .ok (.goto 4, 3) := by decide +kernel
theorem dX7_readPipe_80 : decode cX7_readPipe 80 = .ok (.iconst (-1), 1) := by decide +kernel
theorem dX7_readPipe_81 : decode cX7_readPipe 81 = .ok (.istore_n 3, 1) := by decide +kernel
theorem dX7_readPipe_82 : decode cX7_readPipe 82 = .ok (.aload_n 0, 1) := by decide +kernel
theorem dX7_readPipe_83 : decode cX7_readPipe 83 = .ok (.bipush 59, 2) := by decide +kernel
theorem dX7_readPipe_85 : decode cX7_readPipe 85 = .ok (.invokevirtual 93, 3) := by decide +kernel
theorem dX7_readPipe_88 : decode cX7_readPipe 88 = .ok (.aload_n 0, 1) := by decide +kernel
theorem dX7_readPipe_89 : decode cX7_readPipe 89 = .ok (.getfield 32, 3) := by decide +kernel
theorem dX7_readPipe_92 : decode cX7_readPipe 92 = .ok (.ifCond .ne 29, 3) := by decide +kernel
theorem dX7_readPipe_95 : decode cX7_readPipe 95 = .ok (.aload_n 0, 1) := by decide +kernel
theorem dX7_readPipe_96 : decode cX7_readPipe 96 = .ok (.getfield 21, 3) := by decide +kernel
theorem dX7_readPipe_99 : decode cX7_readPipe 99 = .ok (.getfield 112, 3) := by decide +kernel
theorem dX7_readPipe_102 : decode cX7_readPipe 102 = .ok (.getfield 116, 3) := by decide +kernel
theorem dX7_readPipe_105 : decode cX7_readPipe 105 = .ok (.iload_n 1, 1) := by decide +kernel
theorem dX7_readPipe_106 : decode cX7_readPipe 106 = .ok (.iload_n 2, 1) := by decide +kernel
theorem dX7_readPipe_107 : decode cX7_readPipe 107 = .ok (.iastore, 1) := by decide +kernel
theorem dX7_readPipe_108 : decode cX7_readPipe 108 = .ok (.aload_n 0, 1) := by decide +kernel
theorem dX7_readPipe_109 : decode cX7_readPipe 109 = .ok (.getfield 21, 3) := by decide +kernel
theorem dX7_readPipe_112 : decode cX7_readPipe 112 = .ok (.getfield 112, 3) := by decide +kernel
theorem dX7_readPipe_115 : decode cX7_readPipe 115 = .ok (.getfield 125, 3) := by decide +kernel
theorem dX7_readPipe_118 : decode cX7_readPipe 118 = .ok (.iload_n 1, 1) := by decide +kernel
theorem dX7_readPipe_119 : decode cX7_readPipe 119 = .ok (.iload_n 3, 1) := by decide +kernel
theorem dX7_readPipe_120 : decode cX7_readPipe 120 = .ok (.iastore, 1) := by decide +kernel
theorem dX7_readPipe_121 : decode cX7_readPipe 121 = .ok (.return_, 1) := by decide +kernel
theorem dX7_readInto_0 : decode cX7_readInto 0 = .ok (.aload_n 0, 1) := by decide +kernel
theorem dX7_readInto_1 : decode cX7_readInto 1 = .ok (.invokevirtual 108, 3) := by decide +kernel
theorem dX7_readInto_4 : decode cX7_readInto 4 = .ok (.istore_n 3, 1) := by decide +kernel
theorem dX7_readInto_5 : decode cX7_readInto 5 = .ok (.iload_n 3, 1) := by decide +kernel
theorem dX7_readInto_6 : decode cX7_readInto 6 = .ok (.iconst (-1), 1) := by decide +kernel
theorem dX7_readInto_7 : decode cX7_readInto 7 = .ok (.if_icmp .ne 5, 3) := by decide +kernel
theorem dX7_readInto_10 : decode cX7_readInto 10 = .ok (.iconst (-1), 1) := by decide +kernel
theorem dX7_readInto_11 : decode cX7_readInto 11 = .ok (.ireturn, 1) := by decide +kernel
theorem dX7_readInto_12 : decode cX7_readInto 12 = .ok (.iload_n 3, 1) := by decide +kernel
theorem dX7_readInto_13 : decode cX7_readInto 13 = .ok (.iload_n 1, 1) := by decide +kernel
theorem dX7_readInto_14 : decode cX7_readInto 14 = .ok (.if_icmp .le 8, 3) := by decide +kernel
theorem dX7_readInto_17 : decode cX7_readInto 17 = .ok (.iload_n 3, 1) := by decide +kernel
theorem dX7_readInto_18 : decode cX7_readInto 18 = .ok (.iload_n 2, 1) := by decide +kernel
theorem dX7_readInto_19 : decode cX7_readInto 19 = .ok (.if_icmp .ne 9, 3) := by decide +kernel
theorem dX7_readInto_22 : decode cX7_readInto 22 = .ok (.aload_n 0, 1) := by decide +kernel
theorem dX7_readInto_23 : decode cX7_readInto 23 = .ok (.iconst 4, 1) := by decide +kernel
theorem dX7_readInto_24 : decode cX7_readInto 24 = .ok (.invokevirtual 72, 3) := by decide +kernel
theorem dX7_readInto_27 : decode cX7_readInto 27 = .ok (.ireturn, 1) := by decide +kernel
theorem dX7_readInto_28 : decode cX7_readInto 28 = .ok (.aload_n 0, 1) := by decide +kernel
theorem dX7_readInto_29 : decode cX7_readInto 29 = .ok (.getfield 12, 3) := by decide +kernel
theorem dX7_readInto_32 : decode cX7_readInto 32 = .ok (.invokevirtual 83, 3) := by decide +kernel
theorem dX7_readInto_35 : decode cX7_readInto 35 = .ok (.iload_n 3, 1) := by decide +kernel
theorem dX7_readInto_36 : decode cX7_readInto 36 = .ok (.ireturn, 1) := by decide +kernel
theorem dX7_lookAtCup_0 : decode cX7_lookAtCup 0 = .ok (.aload_n 0, 1) := by decide +kernel
theorem dX7_lookAtCup_1 : decode cX7_lookAtCup 1 = .ok (.getfield 12, 3) := by decide +kernel
theorem dX7_lookAtCup_4 : decode cX7_lookAtCup 4 = .ok (.getfield 46, 3) := by decide +kernel
theorem dX7_lookAtCup_7 : decode cX7_lookAtCup 7 = .ok (.iconst 2, 1) := by decide +kernel
theorem dX7_lookAtCup_8 : decode cX7_lookAtCup 8 = .ok (.if_icmp .eq 9, 3) := by decide +kernel
theorem dX7_lookAtCup_11 : decode cX7_lookAtCup 11 = .ok (.aload_n 0, 1) := by decide +kernel
theorem dX7_lookAtCup_12 : decode cX7_lookAtCup 12 = .ok (.iconst 1, 1) := by decide +kernel
theorem dX7_lookAtCup_13 : decode cX7_lookAtCup 13 = .ok (.invokevirtual 72, 3) := by decide +kernel
theorem dX7_lookAtCup_16 : decode cX7_lookAtCup 16 = .ok (.ireturn, 1) := by decide +kernel
theorem dX7_lookAtCup_17 : decode cX7_lookAtCup 17 = .ok (.aload_n 0, 1) := by decide +kernel
theorem dX7_lookAtCup_18 : decode cX7_lookAtCup 18 = .ok (.getfield 12, 3) := by decide +kernel
theorem dX7_lookAtCup_21 : decode cX7_lookAtCup 21 = .ok (.invokevirtual 104, 3) := by decide +kernel
theorem dX7_lookAtCup_24 : decode cX7_lookAtCup 24 = .ok (.ifCond .eq 9, 3) := by decide +kernel
theorem dX7_lookAtCup_27 : decode cX7_lookAtCup 27 = .ok (.aload_n 0, 1) := by decide +kernel
theorem dX7_lookAtCup_28 : decode cX7_lookAtCup 28 = .ok (.iconst 2, 1) := by decide +kernel
theorem dX7_lookAtCup_29 : decode cX7_lookAtCup 29 = .ok (.invokevirtual 72, 3) := by decide +kernel
theorem dX7_lookAtCup_32 : decode cX7_lookAtCup 32 = .ok (.ireturn, 1) := by decide +kernel
theorem dX7_lookAtCup_33 : decode cX7_lookAtCup 33 = .ok (.aload_n 0, 1) := by decide +kernel
theorem dX7_lookAtCup_34 : decode cX7_lookAtCup 34 = .ok (.getfield 12, 3) := by decide +kernel
theorem dX7_lookAtCup_37 : decode cX7_lookAtCup 37 = .ok (.getfield 101, 3) := by decide +kernel
theorem dX7_lookAtCup_40 : decode cX7_lookAtCup 40 = .ok (.aload_n 0, 1) := by decide +kernel
theorem dX7_lookAtCup_41 : decode cX7_lookAtCup 41 = .ok (.getfield 21, 3) := by decide +kernel
theorem dX7_lookAtCup_44 : decode cX7_lookAtCup 44 = .ok (.getfield 86, 3) := by decide +kernel
theorem dX7_lookAtCup_47 : decode cX7_lookAtCup 47 = .ok (.if_icmp .ge 13, 3) := by decide +kernel
theorem dX7_lookAtCup_50 : decode cX7_lookAtCup 50 = .ok (.aload_n 0, 1) := by decide +kernel
theorem dX7_lookAtCup_51 : decode cX7_lookAtCup 51 = .ok (.getfield 12, 3) := by decide +kernel
theorem dX7_lookAtCup_54 : decode cX7_lookAtCup 54 = .ok (.getfield 101, 3) := by decide +kernel
theorem dX7_lookAtCup_57 : decode cX7_lookAtCup 57 = .ok (.goto 8, 3) := by decide +kernel
theorem dX7_lookAtCup_60 : decode cX7_lookAtCup 60 = .ok (.aload_n 0, 1) := by decide +kernel
theorem dX7_lookAtCup_61 : decode cX7_lookAtCup 61 = .ok (.iconst 3, 1) := by decide +kernel
theorem dX7_lookAtCup_62 : decode cX7_lookAtCup 62 = .ok (.invokevirtual 72, 3) := by decide +kernel
theorem dX7_lookAtCup_65 : decode cX7_lookAtCup 65 = .ok (.ireturn, 1) := by decide +kernel
theorem dX7_readRule_0 : decode cX7_readRule 0 = .ok (.aload_n 1, 1) := by decide +kernel
theorem dX7_readRule_1 : decode cX7_readRule 1 = .ok (.getfield 128, 3) := by decide +kernel
theorem dX7_readRule_4 : decode cX7_readRule 4 = .ok (.ifCond .eq 10, 3) := by decide +kernel
theorem dX7_readRule_7 : decode cX7_readRule 7 = .ok (.aload_n 0, 1) := by decide +kernel
theorem dX7_readRule_8 : decode cX7_readRule 8 = .ok (.iconst 5, 1) := by decide +kernel
theorem dX7_readRule_9 : decode cX7_readRule 9 = .ok (.invokevirtual 72, 3) := by decide +kernel
theorem dX7_readRule_12 : decode cX7_readRule 12 = .ok (.pop, 1) := by decide +kernel
theorem dX7_readRule_13 : decode cX7_readRule 13 = .ok (.return_, 1) := by decide +kernel
theorem dX7_readRule_14 : decode cX7_readRule 14 = .ok (.aload_n 0, 1) := by decide +kernel
theorem dX7_readRule_15 : decode cX7_readRule 15 = .ok (.aload_n 1, 1) := by decide +kernel
theorem dX7_readRule_16 : decode cX7_readRule 16 = .ok (.putfield 29, 3) := by decide +kernel
theorem dX7_readRule_19 : decode cX7_readRule 19 = .ok (.aload_n 0, 1) := by decide +kernel
theorem dX7_readRule_20 : decode cX7_readRule 20 = .ok (.getfield 29, 3) := by decide +kernel
theorem dX7_readRule_23 : decode cX7_readRule 23 = .ok (.iconst 1, 1) := by decide +kernel
theorem dX7_readRule_24 : decode cX7_readRule 24 = .ok (.putfield 128, 3) := by decide +kernel
theorem dX7_readRule_27 : decode cX7_readRule 27 = .ok (.aload_n 0, 1) := by decide +kernel
theorem dX7_readRule_28 : decode cX7_readRule 28 = .ok (.getfield 12, 3) := by decide +kernel
theorem dX7_readRule_31 : decode cX7_readRule 31 = .ok (.invokevirtual 83, 3) := by decide +kernel
theorem dX7_readRule_34 : decode cX7_readRule 34 = .ok (.aload_n 0, 1) := by decide +kernel
theorem dX7_readRule_35 : decode cX7_readRule 35 = .ok (.iconst 0, 1) := by decide +kernel
theorem dX7_readRule_36 : decode cX7_readRule 36 = .ok (.invokevirtual 134, 3) := by decide +kernel
theorem dX7_readRule_39 : decode cX7_readRule 39 = .ok (.aload_n 0, 1) := by decide +kernel
theorem dX7_readRule_40 : decode cX7_readRule 40 = .ok (.bipush 59, 2) := by decide +kernel
theorem dX7_readRule_42 : decode cX7_readRule 42 = .ok (.invokevirtual 93, 3) := by decide +kernel
theorem dX7_readRule_45 : decode cX7_readRule 45 = .ok (.return_, 1) := by decide +kernel
theorem dX7_readExpr_0 : decode cX7_readExpr 0 = .ok (.iload_n 1, 1) := by decide +kernel
theorem dX7_readExpr_1 : decode cX7_readExpr 1 = .ok (.bipush 6, 2) := by decide +kernel
theorem dX7_readExpr_3 : decode cX7_readExpr 3 = .ok (.if_icmp .lt 58, 3) := by decide +kernel
theorem dX7_readExpr_6 : decode cX7_readExpr 6 = .ok (.aload_n 0, 1) := by decide +kernel
theorem dX7_readExpr_7 : decode cX7_readExpr 7 = .ok (.getfield 12, 3) := by decide +kernel
theorem dX7_readExpr_10 : decode cX7_readExpr 10 = .ok (.getfield 46, 3) := by decide +kernel
theorem dX7_readExpr_13 : decode cX7_readExpr 13 = .ok (.iconst 2, 1) := by decide +kernel
theorem dX7_readExpr_14 : decode cX7_readExpr 14 = .ok (.if_icmp .eq 26, 3) := by decide +kernel
theorem dX7_readExpr_17 : decode cX7_readExpr 17 = .ok (.aload_n 0, 1) := by decide +kernel
theorem dX7_readExpr_18 : decode cX7_readExpr 18 = .ok (.getfield 12, 3) := by decide +kernel
theorem dX7_readExpr_21 : decode cX7_readExpr 21 = .ok (.getfield 46, 3) := by decide +kernel
theorem dX7_readExpr_24 : decode cX7_readExpr 24 = .ok (.iconst 1, 1) := by decide +kernel
theorem dX7_readExpr_25 : decode cX7_readExpr 25 = .ok (.if_icmp .eq 15, 3) := by decide +kernel
theorem dX7_readExpr_28 : decode cX7_readExpr 28 = .ok (.aload_n 0, 1) := by decide +kernel
theorem dX7_readExpr_29 : decode cX7_readExpr 29 = .ok (.getfield 12, 3) := by decide +kernel
theorem dX7_readExpr_32 : decode cX7_readExpr 32 = .ok (.bipush 40, 2) := by decide +kernel
theorem dX7_readExpr_34 : decode cX7_readExpr 34 = .ok (.invokevirtual 79, 3) := by decide +kernel
theorem dX7_readExpr_37 : decode cX7_readExpr 37 = .ok (.ifCond .eq 7, 3) := by decide +kernel
theorem dX7_readExpr_40 : decode cX7_readExpr 40 = .ok (.iconst 1, 1) := by decide +kernel
theorem dX7_readExpr_41 : decode cX7_readExpr 41 = .ok (.goto 4, 3) := by decide +kernel
theorem dX7_readExpr_44 : decode cX7_readExpr 44 = .ok (.iconst 0, 1) := by decide +kernel
theorem dX7_readExpr_45 : decode cX7_readExpr 45 = .ok (.istore_n 2, 1) := by decide +kernel
theorem dX7_readExpr_46 : decode cX7_readExpr 46 = .ok (.aload_n 0, 1) := by decide +kernel
theorem dX7_readExpr_47 : decode cX7_readExpr 47 = .ok (.iload_n 2, 1) := by decide +kernel
theorem dX7_readExpr_48 : decode cX7_readExpr 48 = .ok (.ifCond .eq 7, 3) := by decide +kernel
theorem dX7_readExpr_51 : decode cX7_readExpr 51 = .ok (.iconst 2, 1) := by decide +kernel
theorem dX7_readExpr_52 : decode cX7_readExpr 52 = .ok (.goto 4, 3) := by decide +kernel
theorem dX7_readExpr_55 : decode cX7_readExpr 55 = .ok (.iconst 1, 1) := by decide +kernel
theorem dX7_readExpr_56 : decode cX7_readExpr 56 = .ok (.invokevirtual 72, 3) := by decide +kernel
theorem dX7_readExpr_59 : decode cX7_readExpr 59 = .ok (.pop, 1) := by decide +kernel
theorem dX7_readExpr_60 : decode cX7_readExpr 60 = .ok (.return_, 1) := by decide +kernel
theorem dX7_readExpr_61 : decode cX7_readExpr 61 = .ok (.aload_n 0, 1) := by decide +kernel
theorem dX7_readExpr_62 : decode cX7_readExpr 62 = .ok (.iload_n 1, 1) := by decide +kernel
theorem dX7_readExpr_63 : decode cX7_readExpr 63 = .ok (.invokevirtual 137, 3) := by decide +kernel
theorem dX7_readExpr_66 : decode cX7_readExpr 66 = .ok (.iconst 0, 1) := by decide +kernel
theorem dX7_readExpr_67 : decode cX7_readExpr 67 = .ok (.istore_n 2, 1) := by decide +kernel
theorem dX7_readExpr_68 : decode cX7_readExpr 68 = .ok (.iload_n 2, 1) := by decide +kernel
theorem dX7_readExpr_69 : decode cX7_readExpr 69 = .ok (.sipush 700, 3) := by decide +kernel
theorem dX7_readExpr_72 : decode cX7_readExpr 72 = .ok (.if_icmp .ge 49, 3) := by decide +kernel
theorem dX7_readExpr_75 : decode cX7_readExpr 75 = .ok (.aload_n 0, 1) := by decide +kernel
theorem dX7_readExpr_76 : decode cX7_readExpr 76 = .ok (.getfield 32, 3) := by decide +kernel
theorem dX7_readExpr_79 : decode cX7_readExpr 79 = .ok (.ifCond .ne 42, 3) := by decide +kernel
theorem dX7_readExpr_82 : decode cX7_readExpr 82 = .ok (.aload_n 0, 1) := by decide +kernel
theorem dX7_readExpr_83 : decode cX7_readExpr 83 = .ok (.getfield 12, 3) := by decide +kernel
theorem dX7_readExpr_86 : decode cX7_readExpr 86 = .ok (.ldc 140, 2) := by decide +kernel
theorem dX7_readExpr_88 : decode cX7_readExpr 88 = .ok (.invokevirtual 51, 3) := by decide +kernel
theorem dX7_readExpr_91 : decode cX7_readExpr 91 = .ok (.ifCond .eq 30, 3) := by decide +kernel
theorem dX7_readExpr_94 : decode cX7_readExpr 94 = .ok (.aload_n 0, 1) := by decide +kernel
theorem dX7_readExpr_95 : decode cX7_readExpr 95 = .ok (.getfield 12, 3) := by decide +kernel
theorem dX7_readExpr_98 : decode cX7_readExpr 98 = .ok (.invokevirtual 83, 3) := by decide +kernel
theorem dX7_readExpr_101 : decode cX7_readExpr 101 = .ok (.aload_n 0, 1) := by decide +kernel
theorem dX7_readExpr_102 : decode cX7_readExpr 102 = .ok (.iload_n 1, 1) := by decide +kernel
theorem dX7_readExpr_103 : decode cX7_readExpr 103 = .ok (.invokevirtual 137, 3) := by decide +kernel
theorem dX7_readExpr_106 : decode cX7_readExpr 106 = .ok (.aload_n 0, 1) := by decide +kernel
theorem dX7_readExpr_107 : decode cX7_readExpr 107 = .ok (.getfield 29, 3) := by decide +kernel
theorem dX7_readExpr_110 : decode cX7_readExpr 110 = .ok (.bipush (-8), 2) := by decide +kernel
theorem dX7_readExpr_112 : decode cX7_readExpr 112 = .ok (.invokevirtual 142, 3) := by decide +kernel
theorem dX7_readExpr_115 : decode cX7_readExpr 115 = .ok (.iinc 2 1, 3) := by decide +kernel
theorem dX7_readExpr_118 : decode cX7_readExpr 118 = .ok (.goto (-50), 3) := by decide +kernel
theorem dX7_readExpr_121 : decode cX7_readExpr 121 = .ok (.return_, 1) := by decide +kernel
theorem dX7_readAnd_0 : decode cX7_readAnd 0 = .ok (.aload_n 0, 1) := by decide +kernel
theorem dX7_readAnd_1 : decode cX7_readAnd 1 = .ok (.iload_n 1, 1) := by decide +kernel
theorem dX7_readAnd_2 : decode cX7_readAnd 2 = .ok (.invokevirtual 145, 3) := by decide +kernel
theorem dX7_readAnd_5 : decode cX7_readAnd 5 = .ok (.iconst 0, 1) := by decide +kernel
theorem dX7_readAnd_6 : decode cX7_readAnd 6 = .ok (.istore_n 2, 1) := by decide +kernel
theorem dX7_readAnd_7 : decode cX7_readAnd 7 = .ok (.iload_n 2, 1) := by decide +kernel
theorem dX7_readAnd_8 : decode cX7_readAnd 8 = .ok (.sipush 700, 3) := by decide +kernel
theorem dX7_readAnd_11 : decode cX7_readAnd 11 = .ok (.if_icmp .ge 49, 3) := by decide +kernel
theorem dX7_readAnd_14 : decode cX7_readAnd 14 = .ok (.aload_n 0, 1) := by decide +kernel
theorem dX7_readAnd_15 : decode cX7_readAnd 15 = .ok (.getfield 32, 3) := by decide +kernel
theorem dX7_readAnd_18 : decode cX7_readAnd 18 = .ok (.ifCond .ne 42, 3) := by decide +kernel
theorem dX7_readAnd_21 : decode cX7_readAnd 21 = .ok (.aload_n 0, 1) := by decide +kernel
theorem dX7_readAnd_22 : decode cX7_readAnd 22 = .ok (.getfield 12, 3) := by decide +kernel
theorem dX7_readAnd_25 : decode cX7_readAnd 25 = .ok (.ldc 148, 2) := by decide +kernel
theorem dX7_readAnd_27 : decode cX7_readAnd 27 = .ok (.invokevirtual 51, 3) := by decide +kernel
theorem dX7_readAnd_30 : decode cX7_readAnd 30 = .ok (.ifCond .eq 30, 3) := by decide +kernel
theorem dX7_readAnd_33 : decode cX7_readAnd 33 = .ok (.aload_n 0, 1) := by decide +kernel
theorem dX7_readAnd_34 : decode cX7_readAnd 34 = .ok (.getfield 12, 3) := by decide +kernel
theorem dX7_readAnd_37 : decode cX7_readAnd 37 = .ok (.invokevirtual 83, 3) := by decide +kernel
theorem dX7_readAnd_40 : decode cX7_readAnd 40 = .ok (.aload_n 0, 1) := by decide +kernel
theorem dX7_readAnd_41 : decode cX7_readAnd 41 = .ok (.iload_n 1, 1) := by decide +kernel
theorem dX7_readAnd_42 : decode cX7_readAnd 42 = .ok (.invokevirtual 145, 3) := by decide +kernel
theorem dX7_readAnd_45 : decode cX7_readAnd 45 = .ok (.aload_n 0, 1) := by decide +kernel
theorem dX7_readAnd_46 : decode cX7_readAnd 46 = .ok (.getfield 29, 3) := by decide +kernel
theorem dX7_readAnd_49 : decode cX7_readAnd 49 = .ok (.bipush (-9), 2) := by decide +kernel
theorem dX7_readAnd_51 : decode cX7_readAnd 51 = .ok (.invokevirtual 142, 3) := by decide +kernel
theorem dX7_readAnd_54 : decode cX7_readAnd 54 = .ok (.iinc 2 1, 3) := by decide +kernel
theorem dX7_readAnd_57 : decode cX7_readAnd 57 = .ok (.goto (-50), 3) := by decide +kernel
theorem dX7_readAnd_60 : decode cX7_readAnd 60 = .ok (.return_, 1) := by decide +kernel
theorem dX7_readNot_0 : decode cX7_readNot 0 = .ok (.iconst 0, 1) := by decide +kernel
theorem dX7_readNot_1 : decode cX7_readNot 1 = .ok (.istore_n 2, 1) := by decide +kernel
theorem dX7_readNot_2 : decode cX7_readNot 2 = .ok (.iload_n 2, 1) := by decide +kernel
theorem dX7_readNot_3 : decode cX7_readNot 3 = .ok (.bipush 6, 2) := by decide +kernel
theorem dX7_readNot_5 : decode cX7_readNot 5 = .ok (.if_icmp .ge 28, 3) := by decide +kernel
theorem dX7_readNot_8 : decode cX7_readNot 8 = .ok (.aload_n 0, 1) := by decide +kernel
theorem dX7_readNot_9 : decode cX7_readNot 9 = .ok (.getfield 12, 3) := by decide +kernel
theorem dX7_readNot_12 : decode cX7_readNot 12 = .ok (.ldc 150, 2) := by decide +kernel
theorem dX7_readNot_14 : decode cX7_readNot 14 = .ok (.invokevirtual 51, 3) := by decide +kernel
theorem dX7_readNot_17 : decode cX7_readNot 17 = .ok (.ifCond .eq 16, 3) := by decide +kernel
theorem dX7_readNot_20 : decode cX7_readNot 20 = .ok (.iinc 2 1, 3) := by decide +kernel
theorem dX7_readNot_23 : decode cX7_readNot 23 = .ok (.aload_n 0, 1) := by decide +kernel
theorem dX7_readNot_24 : decode cX7_readNot 24 = .ok (.getfield 12, 3) := by decide +kernel
theorem dX7_readNot_27 : decode cX7_readNot 27 = .ok (.invokevirtual 83, 3) := by decide +kernel
theorem dX7_readNot_30 : decode cX7_readNot 30 = .ok (.goto (-28), 3) := by decide +kernel
theorem dX7_readNot_33 : decode cX7_readNot 33 = .ok (.aload_n 0, 1) := by decide +kernel
theorem dX7_readNot_34 : decode cX7_readNot 34 = .ok (.getfield 12, 3) := by decide +kernel
theorem dX7_readNot_37 : decode cX7_readNot 37 = .ok (.ldc 150, 2) := by decide +kernel
theorem dX7_readNot_39 : decode cX7_readNot 39 = .ok (.invokevirtual 51, 3) := by decide +kernel
theorem dX7_readNot_42 : decode cX7_readNot 42 = .ok (.ifCond .eq 10, 3) := by decide +kernel
theorem dX7_readNot_45 : decode cX7_readNot 45 = .ok (.aload_n 0, 1) := by decide +kernel
theorem dX7_readNot_46 : decode cX7_readNot 46 = .ok (.iconst 2, 1) := by decide +kernel
theorem dX7_readNot_47 : decode cX7_readNot 47 = .ok (.invokevirtual 72, 3) := by decide +kernel
theorem dX7_readNot_50 : decode cX7_readNot 50 = .ok (.pop, 1) := by decide +kernel
theorem dX7_readNot_51 : decode cX7_readNot 51 = .ok (.return_, 1) := by decide +kernel
theorem dX7_readNot_52 : decode cX7_readNot 52 = .ok (.aload_n 0, 1) := by decide +kernel
theorem dX7_readNot_53 : decode cX7_readNot 53 = .ok (.iload_n 1, 1) := by decide +kernel
theorem dX7_readNot_54 : decode cX7_readNot 54 = .ok (.invokevirtual 152, 3) := by decide +kernel
theorem dX7_readNot_57 : decode cX7_readNot 57 = .ok (.iconst 0, 1) := by decide +kernel
theorem dX7_readNot_58 : decode cX7_readNot 58 = .ok (.istore_n 3, 1) := by decide +kernel
theorem dX7_readNot_59 : decode cX7_readNot 59 = .ok (.iload_n 3, 1) := by decide +kernel
theorem dX7_readNot_60 : decode cX7_readNot 60 = .ok (.iload_n 2, 1) := by decide +kernel
theorem dX7_readNot_61 : decode cX7_readNot 61 = .ok (.if_icmp .ge 18, 3) := by decide +kernel
theorem dX7_readNot_64 : decode cX7_readNot 64 = .ok (.aload_n 0, 1) := by decide +kernel
theorem dX7_readNot_65 : decode cX7_readNot 65 = .ok (.getfield 29, 3) := by decide +kernel
theorem dX7_readNot_68 : decode cX7_readNot 68 = .ok (.bipush (-7), 2) := by decide +kernel
theorem dX7_readNot_70 : decode cX7_readNot 70 = .ok (.invokevirtual 142, 3) := by decide +kernel
theorem dX7_readNot_73 : decode cX7_readNot 73 = .ok (.iinc 3 1, 3) := by decide +kernel
theorem dX7_readNot_76 : decode cX7_readNot 76 = .ok (.goto (-17), 3) := by decide +kernel
theorem dX7_readNot_79 : decode cX7_readNot 79 = .ok (.return_, 1) := by decide +kernel
theorem dX7_readTest_0 : decode cX7_readTest 0 = .ok (.aload_n 0, 1) := by decide +kernel
theorem dX7_readTest_1 : decode cX7_readTest 1 = .ok (.iload_n 1, 1) := by decide +kernel
theorem dX7_readTest_2 : decode cX7_readTest 2 = .ok (.invokevirtual 155, 3) := by decide +kernel
theorem dX7_readTest_5 : decode cX7_readTest 5 = .ok (.aload_n 0, 1) := by decide +kernel
theorem dX7_readTest_6 : decode cX7_readTest 6 = .ok (.getfield 12, 3) := by decide +kernel
theorem dX7_readTest_9 : decode cX7_readTest 9 = .ok (.bipush 60, 2) := by decide +kernel
theorem dX7_readTest_11 : decode cX7_readTest 11 = .ok (.invokevirtual 79, 3) := by decide +kernel
theorem dX7_readTest_14 : decode cX7_readTest 14 = .ok (.ifCond .eq 8, 3) := by decide +kernel
theorem dX7_readTest_17 : decode cX7_readTest 17 = .ok (.bipush (-10), 2) := by decide +kernel
theorem dX7_readTest_19 : decode cX7_readTest 19 = .ok (.goto 21, 3) := by decide +kernel
theorem dX7_readTest_22 : decode cX7_readTest 22 = .ok (.aload_n 0, 1) := by decide +kernel
theorem dX7_readTest_23 : decode cX7_readTest 23 = .ok (.getfield 12, 3) := by decide +kernel
theorem dX7_readTest_26 : decode cX7_readTest 26 = .ok (.bipush 61, 2) := by decide +kernel
theorem dX7_readTest_28 : decode cX7_readTest 28 = .ok (.invokevirtual 79, 3) := by decide +kernel
theorem dX7_readTest_31 : decode cX7_readTest 31 = .ok (.ifCond .eq 8, 3) := by decide +kernel
theorem dX7_readTest_34 : decode cX7_readTest 34 = .ok (.bipush (-11), 2) := by decide +kernel
theorem dX7_readTest_36 : decode cX7_readTest 36 = .ok (.goto 4, 3) := by decide +kernel
theorem dX7_readTest_39 : decode cX7_readTest 39 = .ok (.iconst 0, 1) := by decide +kernel
theorem dX7_readTest_40 : decode cX7_readTest 40 = .ok (.istore_n 2, 1) := by decide +kernel
theorem dX7_readTest_41 : decode cX7_readTest 41 = .ok (.aload_n 0, 1) := by decide +kernel
theorem dX7_readTest_42 : decode cX7_readTest 42 = .ok (.getfield 32, 3) := by decide +kernel
theorem dX7_readTest_45 : decode cX7_readTest 45 = .ok (.ifCond .ne 27, 3) := by decide +kernel
theorem dX7_readTest_48 : decode cX7_readTest 48 = .ok (.iload_n 2, 1) := by decide +kernel
theorem dX7_readTest_49 : decode cX7_readTest 49 = .ok (.ifCond .eq 23, 3) := by decide +kernel
theorem dX7_readTest_52 : decode cX7_readTest 52 = .ok (.aload_n 0, 1) := by decide +kernel
theorem dX7_readTest_53 : decode cX7_readTest 53 = .ok (.getfield 12, 3) := by decide +kernel
theorem dX7_readTest_56 : decode cX7_readTest 56 = .ok (.invokevirtual 83, 3) := by decide +kernel
theorem dX7_readTest_59 : decode cX7_readTest 59 = .ok (.aload_n 0, 1) := by decide +kernel
theorem dX7_readTest_60 : decode cX7_readTest 60 = .ok (.iload_n 1, 1) := by decide +kernel
theorem dX7_readTest_61 : decode cX7_readTest 61 = .ok (.invokevirtual 155, 3) := by decide +kernel
theorem dX7_readTest_64 : decode cX7_readTest 64 = .ok (.aload_n 0, 1) := by decide +kernel
theorem dX7_readTest_65 : decode cX7_readTest 65 = .ok (.getfield 29, 3) := by decide +kernel
theorem dX7_readTest_68 : decode cX7_readTest 68 = .ok (.iload_n 2, 1) := by decide +kernel
theorem dX7_readTest_69 : decode cX7_readTest 69 = .ok (.invokevirtual 142, 3) := by decide +kernel
theorem dX7_readTest_72 : decode cX7_readTest 72 = .ok (.return_, 1) := by decide +kernel
theorem dX7_readSum_0 : decode cX7_readSum 0 = .ok (.aload_n 0, 1) := by decide +kernel
theorem dX7_readSum_1 : decode cX7_readSum 1 = .ok (.iload_n 1, 1) := by decide +kernel
theorem dX7_readSum_2 : decode cX7_readSum 2 = .ok (.invokevirtual 158, 3) := by decide +kernel
theorem dX7_readSum_5 : decode cX7_readSum 5 = .ok (.iconst 0, 1) := by decide +kernel
theorem dX7_readSum_6 : decode cX7_readSum 6 = .ok (.istore_n 2, 1) := by decide +kernel
theorem dX7_readSum_7 : decode cX7_readSum 7 = .ok (.iload_n 2, 1) := by decide +kernel
theorem dX7_readSum_8 : decode cX7_readSum 8 = .ok (.sipush 700, 3) := by decide +kernel
theorem dX7_readSum_11 : decode cX7_readSum 11 = .ok (.if_icmp .ge 77, 3) := by decide +kernel
theorem dX7_readSum_14 : decode cX7_readSum 14 = .ok (.aload_n 0, 1) := by decide +kernel
theorem dX7_readSum_15 : decode cX7_readSum 15 = .ok (.getfield 32, 3) := by decide +kernel
theorem dX7_readSum_18 : decode cX7_readSum 18 = .ok (.ifCond .ne 70, 3) := by decide +kernel
theorem dX7_readSum_21 : decode cX7_readSum 21 = .ok (.aload_n 0, 1) := by decide +kernel
theorem dX7_readSum_22 : decode cX7_readSum 22 = .ok (.getfield 12, 3) := by decide +kernel
theorem dX7_readSum_25 : decode cX7_readSum 25 = .ok (.bipush 43, 2) := by decide +kernel
theorem dX7_readSum_27 : decode cX7_readSum 27 = .ok (.invokevirtual 79, 3) := by decide +kernel
theorem dX7_readSum_30 : decode cX7_readSum 30 = .ok (.ifCond .eq 8, 3) := by decide +kernel
theorem dX7_readSum_33 : decode cX7_readSum 33 = .ok (.bipush (-12), 2) := by decide +kernel
theorem dX7_readSum_35 : decode cX7_readSum 35 = .ok (.goto 21, 3) := by decide +kernel
theorem dX7_readSum_38 : decode cX7_readSum 38 = .ok (.aload_n 0, 1) := by decide +kernel
theorem dX7_readSum_39 : decode cX7_readSum 39 = .ok (.getfield 12, 3) := by decide +kernel
theorem dX7_readSum_42 : decode cX7_readSum 42 = .ok (.bipush 45, 2) := by decide +kernel
theorem dX7_readSum_44 : decode cX7_readSum 44 = .ok (.invokevirtual 79, 3) := by decide +kernel
theorem dX7_readSum_47 : decode cX7_readSum 47 = .ok (.ifCond .eq 8, 3) := by decide +kernel
theorem dX7_readSum_50 : decode cX7_readSum 50 = .ok (.bipush (-13), 2) := by decide +kernel
theorem dX7_readSum_52 : decode cX7_readSum 52 = .ok (.goto 4, 3) := by decide +kernel
theorem dX7_readSum_55 : decode cX7_readSum 55 = .ok (.iconst 0, 1) := by decide +kernel
theorem dX7_readSum_56 : decode cX7_readSum 56 = .ok (.istore_n 3, 1) := by decide +kernel
theorem dX7_readSum_57 : decode cX7_readSum 57 = .ok (.iload_n 3, 1) := by decide +kernel
theorem dX7_readSum_58 : decode cX7_readSum 58 = .ok (.ifCond .ne 4, 3) := by decide +kernel
theorem dX7_readSum_61 : decode cX7_readSum 61 = .ok (.return_, 1) := by decide +kernel
theorem dX7_readSum_62 : decode cX7_readSum 62 = .ok (.aload_n 0, 1) := by decide +kernel
theorem dX7_readSum_63 : decode cX7_readSum 63 = .ok (.getfield 12, 3) := by decide +kernel
theorem dX7_readSum_66 : decode cX7_readSum 66 = .ok (.invokevirtual 83, 3) := by decide +kernel
theorem dX7_readSum_69 : decode cX7_readSum 69 = .ok (.aload_n 0, 1) := by decide +kernel
theorem dX7_readSum_70 : decode cX7_readSum 70 = .ok (.iload_n 1, 1) := by decide +kernel
theorem dX7_readSum_71 : decode cX7_readSum 71 = .ok (.invokevirtual 158, 3) := by decide +kernel
theorem dX7_readSum_74 : decode cX7_readSum 74 = .ok (.aload_n 0, 1) := by decide +kernel
theorem dX7_readSum_75 : decode cX7_readSum 75 = .ok (.getfield 29, 3) := by decide +kernel
theorem dX7_readSum_78 : decode cX7_readSum 78 = .ok (.iload_n 3, 1) := by decide +kernel
theorem dX7_readSum_79 : decode cX7_readSum 79 = .ok (.invokevirtual 142, 3) := by decide +kernel
theorem dX7_readSum_82 : decode cX7_readSum 82 = .ok (.iinc 2 1, 3) := by decide +kernel
theorem dX7_readSum_85 : decode cX7_readSum 85 = .ok (.goto (-78), 3) := by decide +kernel
theorem dX7_readSum_88 : decode cX7_readSum 88 = .ok (.return_, 1) := by decide +kernel
theorem dX7_readProduct_0 : decode cX7_readProduct 0 = .ok (.aload_n 0, 1) := by decide +kernel
theorem dX7_readProduct_1 : decode cX7_readProduct 1 = .ok (.iload_n 1, 1) := by decide +kernel
theorem dX7_readProduct_2 : decode cX7_readProduct 2 = .ok (.invokevirtual 161, 3) := by decide +kernel
theorem dX7_readProduct_5 : decode cX7_readProduct 5 = .ok (.iconst 0, 1) := by decide +kernel
theorem dX7_readProduct_6 : decode cX7_readProduct 6 = .ok (.istore_n 2, 1) := by decide +kernel
theorem dX7_readProduct_7 : decode cX7_readProduct 7 = .ok (.iload_n 2, 1) := by decide +kernel
theorem dX7_readProduct_8 : decode cX7_readProduct 8 = .ok (.sipush 700, 3) := by decide +kernel
theorem dX7_readProduct_11 : decode cX7_readProduct 11 = .ok (.if_icmp .ge 77, 3) := by decide +kernel
theorem dX7_readProduct_14 : decode cX7_readProduct 14 = .ok (.aload_n 0, 1) := by decide +kernel
theorem dX7_readProduct_15 : decode cX7_readProduct 15 = .ok (.getfield 32, 3) := by decide +kernel
theorem dX7_readProduct_18 : decode cX7_readProduct 18 = .ok (.ifCond .ne 70, 3) := by decide +kernel
theorem dX7_readProduct_21 : decode cX7_readProduct 21 = .ok (.aload_n 0, 1) := by decide +kernel
theorem dX7_readProduct_22 : decode cX7_readProduct 22 = .ok (.getfield 12, 3) := by decide +kernel
theorem dX7_readProduct_25 : decode cX7_readProduct 25 = .ok (.bipush 42, 2) := by decide +kernel
theorem dX7_readProduct_27 : decode cX7_readProduct 27 = .ok (.invokevirtual 79, 3) := by decide +kernel
theorem dX7_readProduct_30 : decode cX7_readProduct 30 = .ok (.ifCond .eq 8, 3) := by decide +kernel
theorem dX7_readProduct_33 : decode cX7_readProduct 33 = .ok (.bipush (-14), 2) := by decide +kernel
theorem dX7_readProduct_35 : decode cX7_readProduct 35 = .ok (.goto 21, 3) := by decide +kernel
theorem dX7_readProduct_38 : decode cX7_readProduct 38 = .ok (.aload_n 0, 1) := by decide +kernel
theorem dX7_readProduct_39 : decode cX7_readProduct 39 = .ok (.getfield 12, 3) := by decide +kernel
theorem dX7_readProduct_42 : decode cX7_readProduct 42 = .ok (.bipush 47, 2) := by decide +kernel
theorem dX7_readProduct_44 : decode cX7_readProduct 44 = .ok (.invokevirtual 79, 3) := by decide +kernel
theorem dX7_readProduct_47 : decode cX7_readProduct 47 = .ok (.ifCond .eq 8, 3) := by decide +kernel
theorem dX7_readProduct_50 : decode cX7_readProduct 50 = .ok (.bipush (-15), 2) := by decide +kernel
theorem dX7_readProduct_52 : decode cX7_readProduct 52 = .ok (.goto 4, 3) := by decide +kernel
theorem dX7_readProduct_55 : decode cX7_readProduct 55 = .ok (.iconst 0, 1) := by decide +kernel
theorem dX7_readProduct_56 : decode cX7_readProduct 56 = .ok (.istore_n 3, 1) := by decide +kernel
theorem dX7_readProduct_57 : decode cX7_readProduct 57 = .ok (.iload_n 3, 1) := by decide +kernel
theorem dX7_readProduct_58 : decode cX7_readProduct 58 = .ok (.ifCond .ne 4, 3) := by decide +kernel
theorem dX7_readProduct_61 : decode cX7_readProduct 61 = .ok (.return_, 1) := by decide +kernel
theorem dX7_readProduct_62 : decode cX7_readProduct 62 = .ok (.aload_n 0, 1) := by decide +kernel
theorem dX7_readProduct_63 : decode cX7_readProduct 63 = .ok (.getfield 12, 3) := by decide +kernel
theorem dX7_readProduct_66 : decode cX7_readProduct 66 = .ok (.invokevirtual 83, 3) := by decide +kernel
theorem dX7_readProduct_69 : decode cX7_readProduct 69 = .ok (.aload_n 0, 1) := by decide +kernel
theorem dX7_readProduct_70 : decode cX7_readProduct 70 = .ok (.iload_n 1, 1) := by decide +kernel
theorem dX7_readProduct_71 : decode cX7_readProduct 71 = .ok (.invokevirtual 161, 3) := by decide +kernel
theorem dX7_readProduct_74 : decode cX7_readProduct 74 = .ok (.aload_n 0, 1) := by decide +kernel
theorem dX7_readProduct_75 : decode cX7_readProduct 75 = .ok (.getfield 29, 3) := by decide +kernel
theorem dX7_readProduct_78 : decode cX7_readProduct 78 = .ok (.iload_n 3, 1) := by decide +kernel
theorem dX7_readProduct_79 : decode cX7_readProduct 79 = .ok (.invokevirtual 142, 3) := by decide +kernel
theorem dX7_readProduct_82 : decode cX7_readProduct 82 = .ok (.iinc 2 1, 3) := by decide +kernel
theorem dX7_readProduct_85 : decode cX7_readProduct 85 = .ok (.goto (-78), 3) := by decide +kernel
theorem dX7_readProduct_88 : decode cX7_readProduct 88 = .ok (.return_, 1) := by decide +kernel
theorem dX7_readPart_0 : decode cX7_readPart 0 = .ok (.aload_n 0, 1) := by decide +kernel
theorem dX7_readPart_1 : decode cX7_readPart 1 = .ok (.getfield 12, 3) := by decide +kernel
theorem dX7_readPart_4 : decode cX7_readPart 4 = .ok (.getfield 46, 3) := by decide +kernel
theorem dX7_readPart_7 : decode cX7_readPart 7 = .ok (.iconst 2, 1) := by decide +kernel
theorem dX7_readPart_8 : decode cX7_readPart 8 = .ok (.if_icmp .ne 21, 3) := by decide +kernel
theorem dX7_readPart_11 : decode cX7_readPart 11 = .ok (.aload_n 0, 1) := by decide +kernel
theorem dX7_readPart_12 : decode cX7_readPart 12 = .ok (.getfield 29, 3) := by decide +kernel
theorem dX7_readPart_15 : decode cX7_readPart 15 = .ok (.aload_n 0, 1) := by decide +kernel
theorem dX7_readPart_16 : decode cX7_readPart 16 = .ok (.iconst 0, 1) := by decide +kernel
theorem dX7_readPart_17 : decode cX7_readPart 17 = .ok (.sipush 9999, 3) := by decide +kernel
theorem dX7_readPart_20 : decode cX7_readPart 20 = .ok (.invokevirtual 89, 3) := by decide +kernel
theorem dX7_readPart_23 : decode cX7_readPart 23 = .ok (.invokevirtual 142, 3) := by decide +kernel
theorem dX7_readPart_26 : decode cX7_readPart 26 = .ok (.goto 62, 3) := by decide +kernel
theorem dX7_readPart_29 : decode cX7_readPart 29 = .ok (.aload_n 0, 1) := by decide +kernel
theorem dX7_readPart_30 : decode cX7_readPart 30 = .ok (.getfield 12, 3) := by decide +kernel
theorem dX7_readPart_33 : decode cX7_readPart 33 = .ok (.getfield 46, 3) := by decide +kernel
theorem dX7_readPart_36 : decode cX7_readPart 36 = .ok (.iconst 1, 1) := by decide +kernel
theorem dX7_readPart_37 : decode cX7_readPart 37 = .ok (.if_icmp .ne 10, 3) := by decide +kernel
theorem dX7_readPart_40 : decode cX7_readPart 40 = .ok (.aload_n 0, 1) := by decide +kernel
theorem dX7_readPart_41 : decode cX7_readPart 41 = .ok (.invokevirtual 164, 3) := by decide +kernel
theorem dX7_readPart_44 : decode cX7_readPart 44 = .ok (.goto 44, 3) := by decide +kernel
theorem dX7_readPart_47 : decode cX7_readPart 47 = .ok (.aload_n 0, 1) := by decide +kernel
theorem dX7_readPart_48 : decode cX7_readPart 48 = .ok (.getfield 12, 3) := by decide +kernel
theorem dX7_readPart_51 : decode cX7_readPart 51 = .ok (.bipush 40, 2) := by decide +kernel
theorem dX7_readPart_53 : decode cX7_readPart 53 = .ok (.invokevirtual 79, 3) := by decide +kernel
theorem dX7_readPart_56 : decode cX7_readPart 56 = .ok (.ifCond .eq 26, 3) := by decide +kernel
theorem dX7_readPart_59 : decode cX7_readPart 59 = .ok (.aload_n 0, 1) := by decide +kernel
theorem dX7_readPart_60 : decode cX7_readPart 60 = .ok (.getfield 12, 3) := by decide +kernel
theorem dX7_readPart_63 : decode cX7_readPart 63 = .ok (.invokevirtual 83, 3) := by decide +kernel
theorem dX7_readPart_66 : decode cX7_readPart 66 = .ok (.aload_n 0, 1) := by decide +kernel
theorem dX7_readPart_67 : decode cX7_readPart 67 = .ok (.iload_n 1, 1) := by decide +kernel
theorem dX7_readPart_68 : decode cX7_readPart 68 = .ok (.iconst 1, 1) := by decide +kernel
theorem dX7_readPart_69 : decode cX7_readPart 69 = .ok (.iadd, 1) := by decide +kernel
theorem dX7_readPart_70 : decode cX7_readPart 70 = .ok (.invokevirtual 134, 3) := by decide +kernel
theorem dX7_readPart_73 : decode cX7_readPart 73 = .ok (.aload_n 0, 1) := by decide +kernel
theorem dX7_readPart_74 : decode cX7_readPart 74 = .ok (.bipush 41, 2) := by decide +kernel
theorem dX7_readPart_76 : decode cX7_readPart 76 = .ok (.invokevirtual 93, 3) := by decide +kernel
theorem dX7_readPart_79 : decode cX7_readPart 79 = .ok (.goto 9, 3) := by decide +kernel
theorem dX7_readPart_82 : decode cX7_readPart 82 = .ok (.aload_n 0, 1) := by decide +kernel
theorem dX7_readPart_83 : decode cX7_readPart 83 = .ok (.iconst 1, 1) := by decide +kernel
theorem dX7_readPart_84 : decode cX7_readPart 84 = .ok (.invokevirtual 72, 3) := by decide +kernel
theorem dX7_readPart_87 : decode cX7_readPart 87 = .ok (.pop, 1) := by decide +kernel
theorem dX7_readPart_88 : decode cX7_readPart 88 = .ok (.return_, 1) := by decide +kernel
theorem dX7_readValue_0 : decode cX7_readValue 0 = .ok (.aload_n 0, 1) := by decide +kernel
theorem dX7_readValue_1 : decode cX7_readValue 1 = .ok (.invokevirtual 167, 3) := by decide +kernel
theorem dX7_readValue_4 : decode cX7_readValue 4 = .ok (.istore_n 1, 1) := by decide +kernel
theorem dX7_readValue_5 : decode cX7_readValue 5 = .ok (.iload_n 1, 1) := by decide +kernel
theorem dX7_readValue_6 : decode cX7_readValue 6 = .ok (.ifCond .ne 10, 3) := by decide +kernel
theorem dX7_readValue_9 : decode cX7_readValue 9 = .ok (.aload_n 0, 1) := by decide +kernel
theorem dX7_readValue_10 : decode cX7_readValue 10 = .ok (.iconst 3, 1) := by decide +kernel
theorem dX7_readValue_11 : decode cX7_readValue 11 = .ok (.invokevirtual 72, 3) := by decide +kernel
theorem dX7_readValue_14 : decode cX7_readValue 14 = .ok (.pop, 1) := by decide +kernel
theorem dX7_readValue_15 : decode cX7_readValue 15 = .ok (.return_, 1) := by decide +kernel
theorem dX7_readValue_16 : decode cX7_readValue 16 = .ok (.aload_n 0, 1) := by decide +kernel
theorem dX7_readValue_17 : decode cX7_readValue 17 = .ok (.getfield 29, 3) := by decide +kernel
theorem dX7_readValue_20 : decode cX7_readValue 20 = .ok (.iload_n 1, 1) := by decide +kernel
theorem dX7_readValue_21 : decode cX7_readValue 21 = .ok (.invokevirtual 142, 3) := by decide +kernel
theorem dX7_readValue_24 : decode cX7_readValue 24 = .ok (.aload_n 0, 1) := by decide +kernel
theorem dX7_readValue_25 : decode cX7_readValue 25 = .ok (.getfield 12, 3) := by decide +kernel
theorem dX7_readValue_28 : decode cX7_readValue 28 = .ok (.invokevirtual 83, 3) := by decide +kernel
theorem dX7_readValue_31 : decode cX7_readValue 31 = .ok (.return_, 1) := by decide +kernel
theorem dX7_valueSign_0 : decode cX7_valueSign 0 = .ok (.aload_n 0, 1) := by decide +kernel
theorem dX7_valueSign_1 : decode cX7_valueSign 1 = .ok (.getfield 12, 3) := by decide +kernel
theorem dX7_valueSign_4 : decode cX7_valueSign 4 = .ok (.ldc 170, 2) := by decide +kernel
theorem dX7_valueSign_6 : decode cX7_valueSign 6 = .ok (.invokevirtual 51, 3) := by decide +kernel
theorem dX7_valueSign_9 : decode cX7_valueSign 9 = .ok (.ifCond .eq 5, 3) := by decide +kernel
theorem dX7_valueSign_12 : decode cX7_valueSign 12 = .ok (.iconst (-1), 1) := by decide +kernel
theorem dX7_valueSign_13 : decode cX7_valueSign 13 = .ok (.ireturn, 1) := by decide +kernel
theorem dX7_valueSign_14 : decode cX7_valueSign 14 = .ok (.aload_n 0, 1) := by decide +kernel
theorem dX7_valueSign_15 : decode cX7_valueSign 15 = .ok (.getfield 12, 3) := by decide +kernel
theorem dX7_valueSign_18 : decode cX7_valueSign 18 = .ok (.ldc 172, 2) := by decide +kernel
theorem dX7_valueSign_20 : decode cX7_valueSign 20 = .ok (.invokevirtual 51, 3) := by decide +kernel
theorem dX7_valueSign_23 : decode cX7_valueSign 23 = .ok (.ifCond .eq 6, 3) := by decide +kernel
theorem dX7_valueSign_26 : decode cX7_valueSign 26 = .ok (.bipush (-2), 2) := by decide +kernel
theorem dX7_valueSign_28 : decode cX7_valueSign 28 = .ok (.ireturn, 1) := by decide +kernel
theorem dX7_valueSign_29 : decode cX7_valueSign 29 = .ok (.aload_n 0, 1) := by decide +kernel
theorem dX7_valueSign_30 : decode cX7_valueSign 30 = .ok (.getfield 12, 3) := by decide +kernel
theorem dX7_valueSign_33 : decode cX7_valueSign 33 = .ok (.ldc 174, 2) := by decide +kernel
theorem dX7_valueSign_35 : decode cX7_valueSign 35 = .ok (.invokevirtual 51, 3) := by decide +kernel
theorem dX7_valueSign_38 : decode cX7_valueSign 38 = .ok (.ifCond .eq 6, 3) := by decide +kernel
theorem dX7_valueSign_41 : decode cX7_valueSign 41 = .ok (.bipush (-3), 2) := by decide +kernel
theorem dX7_valueSign_43 : decode cX7_valueSign 43 = .ok (.ireturn, 1) := by decide +kernel
theorem dX7_valueSign_44 : decode cX7_valueSign 44 = .ok (.aload_n 0, 1) := by decide +kernel
theorem dX7_valueSign_45 : decode cX7_valueSign 45 = .ok (.getfield 12, 3) := by decide +kernel
theorem dX7_valueSign_48 : decode cX7_valueSign 48 = .ok (.ldc 176, 2) := by decide +kernel
theorem dX7_valueSign_50 : decode cX7_valueSign 50 = .ok (.invokevirtual 51, 3) := by decide +kernel
theorem dX7_valueSign_53 : decode cX7_valueSign 53 = .ok (.ifCond .eq 6, 3) := by decide +kernel
theorem dX7_valueSign_56 : decode cX7_valueSign 56 = .ok (.bipush (-4), 2) := by decide +kernel
theorem dX7_valueSign_58 : decode cX7_valueSign 58 = .ok (.ireturn, 1) := by decide +kernel
theorem dX7_valueSign_59 : decode cX7_valueSign 59 = .ok (.aload_n 0, 1) := by decide +kernel
theorem dX7_valueSign_60 : decode cX7_valueSign 60 = .ok (.getfield 12, 3) := by decide +kernel
theorem dX7_valueSign_63 : decode cX7_valueSign 63 = .ok (.ldc 49, 2) := by decide +kernel
theorem dX7_valueSign_65 : decode cX7_valueSign 65 = .ok (.invokevirtual 51, 3) := by decide +kernel
theorem dX7_valueSign_68 : decode cX7_valueSign 68 = .ok (.ifCond .eq 6, 3) := by decide +kernel
theorem dX7_valueSign_71 : decode cX7_valueSign 71 = .ok (.bipush (-5), 2) := by decide +kernel
theorem dX7_valueSign_73 : decode cX7_valueSign 73 = .ok (.ireturn, 1) := by decide +kernel
theorem dX7_valueSign_74 : decode cX7_valueSign 74 = .ok (.aload_n 0, 1) := by decide +kernel
theorem dX7_valueSign_75 : decode cX7_valueSign 75 = .ok (.getfield 12, 3) := by decide +kernel
theorem dX7_valueSign_78 : decode cX7_valueSign 78 = .ok (.ldc 178, 2) := by decide +kernel
theorem dX7_valueSign_80 : decode cX7_valueSign 80 = .ok (.invokevirtual 51, 3) := by decide +kernel
theorem dX7_valueSign_83 : decode cX7_valueSign 83 = .ok (.ifCond .eq 8, 3) := by decide +kernel
theorem dX7_valueSign_86 : decode cX7_valueSign 86 = .ok (.bipush (-6), 2) := by decide +kernel
theorem dX7_valueSign_88 : decode cX7_valueSign 88 = .ok (.goto 4, 3) := by decide +kernel
theorem dX7_valueSign_91 : decode cX7_valueSign 91 = .ok (.iconst 0, 1) := by decide +kernel
theorem dX7_valueSign_92 : decode cX7_valueSign 92 = .ok (.ireturn, 1) := by decide +kernel
theorem dX8_init_0 : decode cX8_init 0 = .ok (.aload_n 0, 1) := by decide +kernel
theorem dX8_init_1 : decode cX8_init 1 = .ok (.invokespecial 3, 3) := by decide +kernel
theorem dX8_init_4 : decode cX8_init 4 = .ok (.aload_n 0, 1) := by decide +kernel
theorem dX8_init_5 : decode cX8_init 5 = .ok (.sipush 700, 3) := by decide +kernel
theorem dX8_init_8 : decode cX8_init 8 = .ok (.newarray .int, 2) := by decide +kernel
theorem dX8_init_10 : decode cX8_init 10 = .ok (.putfield 9, 3) := by decide +kernel
theorem dX8_init_13 : decode cX8_init 13 = .ok (.aload_n 0, 1) := by decide +kernel
theorem dX8_init_14 : decode cX8_init 14 = .ok (.bipush 40, 2) := by decide +kernel
theorem dX8_init_16 : decode cX8_init 16 = .ok (.newarray .int, 2) := by decide +kernel
theorem dX8_init_18 : decode cX8_init 18 = .ok (.putfield 15, 3) := by decide +kernel
theorem dX8_init_21 : decode cX8_init 21 = .ok (.aload_n 0, 1) := by decide +kernel
theorem dX8_init_22 : decode cX8_init 22 = .ok (.iconst 0, 1) := by decide +kernel
theorem dX8_init_23 : decode cX8_init 23 = .ok (.putfield 18, 3) := by decide +kernel
theorem dX8_init_26 : decode cX8_init 26 = .ok (.aload_n 0, 1) := by decide +kernel
theorem dX8_init_27 : decode cX8_init 27 = .ok (.iconst 0, 1) := by decide +kernel
theorem dX8_init_28 : decode cX8_init 28 = .ok (.putfield 22, 3) := by decide +kernel
theorem dX8_init_31 : decode cX8_init 31 = .ok (.return_, 1) := by decide +kernel
theorem dX8_clear_0 : decode cX8_clear 0 = .ok (.aload_n 0, 1) := by decide +kernel
theorem dX8_clear_1 : decode cX8_clear 1 = .ok (.iconst 0, 1) := by decide +kernel
theorem dX8_clear_2 : decode cX8_clear 2 = .ok (.putfield 18, 3) := by decide +kernel
theorem dX8_clear_5 : decode cX8_clear 5 = .ok (.aload_n 0, 1) := by decide +kernel
theorem dX8_clear_6 : decode cX8_clear 6 = .ok (.iconst 0, 1) := by decide +kernel
theorem dX8_clear_7 : decode cX8_clear 7 = .ok (.putfield 22, 3) := by decide +kernel
theorem dX8_clear_10 : decode cX8_clear 10 = .ok (.return_, 1) := by decide +kernel
theorem dX8_add_0 : decode cX8_add 0 = .ok (.aload_n 0, 1) := by decide +kernel
theorem dX8_add_1 : decode cX8_add 1 = .ok (.getfield 18, 3) := by decide +kernel
theorem dX8_add_4 : decode cX8_add 4 = .ok (.aload_n 0, 1) := by decide +kernel
theorem dX8_add_5 : decode cX8_add 5 = .ok (.getfield 9, 3) := by decide +kernel
theorem dX8_add_8 : decode cX8_add 8 = .ok (.arraylength, 1) := by decide +kernel
theorem dX8_add_9 : decode cX8_add 9 = .ok (.if_icmp .ge 23, 3) := by decide +kernel
theorem dX8_add_12 : decode cX8_add 12 = .ok (.aload_n 0, 1) := by decide +kernel
theorem dX8_add_13 : decode cX8_add 13 = .ok (.getfield 9, 3) := by decide +kernel
theorem dX8_add_16 : decode cX8_add 16 = .ok (.aload_n 0, 1) := by decide +kernel
theorem dX8_add_17 : decode cX8_add 17 = .ok (.getfield 18, 3) := by decide +kernel
theorem dX8_add_20 : decode cX8_add 20 = .ok (.iload_n 1, 1) := by decide +kernel
theorem dX8_add_21 : decode cX8_add 21 = .ok (.iastore, 1) := by decide +kernel
theorem dX8_add_22 : decode cX8_add 22 = .ok (.aload_n 0, 1) := by decide +kernel
theorem dX8_add_23 : decode cX8_add 23 = .ok (.dup, 1) := by decide +kernel
theorem dX8_add_24 : decode cX8_add 24 = .ok (.getfield 18, 3) := by decide +kernel
theorem dX8_add_27 : decode cX8_add 27 = .ok (.iconst 1, 1) := by decide +kernel
theorem dX8_add_28 : decode cX8_add 28 = .ok (.iadd, 1) := by decide +kernel
theorem dX8_add_29 : decode cX8_add 29 = .ok (.putfield 18, 3) := by decide +kernel
theorem dX8_add_32 : decode cX8_add 32 = .ok (.return_, 1) := by decide +kernel
theorem dX8_value_0 : decode cX8_value 0 = .ok (.iconst 0, 1) := by decide +kernel
theorem dX8_value_1 : decode cX8_value 1 = .ok (.istore 4, 2) := by decide +kernel
theorem dX8_value_3 : decode cX8_value 3 = .ok (.aload_n 0, 1) := by decide +kernel
theorem dX8_value_4 : decode cX8_value 4 = .ok (.getfield 15, 3) := by decide +kernel
theorem dX8_value_7 : decode cX8_value 7 = .ok (.iconst 0, 1) := by decide +kernel
theorem dX8_value_8 : decode cX8_value 8 = .ok (.iconst 0, 1) := by decide +kernel
theorem dX8_value_9 : decode cX8_value 9 = .ok (.iastore, 1) := by decide +kernel
theorem dX8_value_10 : decode cX8_value 10 = .ok (.iconst 0, 1) := by decide +kernel
theorem dX8_value_11 : decode cX8_value 11 = .ok (.istore 5, 2) := by decide +kernel
theorem dX8_value_13 : decode cX8_value 13 = .ok (.iload 5, 2) := by decide +kernel
theorem dX8_value_15 : decode cX8_value 15 = .ok (.aload_n 0, 1) := by decide +kernel
theorem dX8_value_16 : decode cX8_value 16 = .ok (.getfield 18, 3) := by decide +kernel
theorem dX8_value_19 : decode cX8_value 19 = .ok (.if_icmp .ge 146, 3) := by decide +kernel
theorem dX8_value_22 : decode cX8_value 22 = .ok (.aload_n 0, 1) := by decide +kernel
theorem dX8_value_23 : decode cX8_value 23 = .ok (.getfield 9, 3) := by decide +kernel
theorem dX8_value_26 : decode cX8_value 26 = .ok (.iload 5, 2) := by decide +kernel
theorem dX8_value_28 : decode cX8_value 28 = .ok (.iaload, 1) := by decide +kernel
theorem dX8_value_29 : decode cX8_value 29 = .ok (.istore 6, 2) := by decide +kernel
theorem dX8_value_31 : decode cX8_value 31 = .ok (.iload 6, 2) := by decide +kernel
theorem dX8_value_33 : decode cX8_value 33 = .ok (.bipush (-7), 2) := by decide +kernel
theorem dX8_value_35 : decode cX8_value 35 = .ok (.if_icmp .le 44, 3) := by decide +kernel
theorem dX8_value_38 : decode cX8_value 38 = .ok (.iload 4, 2) := by decide +kernel
theorem dX8_value_40 : decode cX8_value 40 = .ok (.aload_n 0, 1) := by decide +kernel
theorem dX8_value_41 : decode cX8_value 41 = .ok (.getfield 15, 3) := by decide +kernel
theorem dX8_value_44 : decode cX8_value 44 = .ok (.arraylength, 1) := by decide +kernel
theorem dX8_value_45 : decode cX8_value 45 = .ok (.if_icmp .ge 114, 3) := by decide +kernel
theorem dX8_value_48 : decode cX8_value 48 = .ok (.aload_n 0, 1) := by decide +kernel
theorem dX8_value_49 : decode cX8_value 49 = .ok (.getfield 15, 3) := by decide +kernel
theorem dX8_value_52 : decode cX8_value 52 = .ok (.iload 4, 2) := by decide +kernel
theorem dX8_value_54 : decode cX8_value 54 = .ok (.iload 6, 2) := by decide +kernel
theorem dX8_value_56 : decode cX8_value 56 = .ok (.ifCond .lt 8, 3) := by decide +kernel
theorem dX8_value_59 : decode cX8_value 59 = .ok (.iload 6, 2) := by decide +kernel
theorem dX8_value_61 : decode cX8_value 61 = .ok (.goto 11, 3) := by decide +kernel
theorem dX8_value_64 : decode cX8_value 64 = .ok (.iload 6, 2) := by decide +kernel
theorem dX8_value_66 : decode cX8_value 66 = .ok (.aload_n 1, 1) := by decide +kernel
theorem dX8_value_67 : decode cX8_value 67 = .ok (.iload_n 2, 1) := by decide +kernel
theorem dX8_value_68 : decode cX8_value 68 = .ok (.iload_n 3, 1) := by decide +kernel
theorem dX8_value_69 : decode cX8_value 69 = .ok (.invokestatic 26, 3) := by decide +kernel
theorem dX8_value_72 : decode cX8_value 72 = .ok (.iastore, 1) := by decide +kernel
theorem dX8_value_73 : decode cX8_value 73 = .ok (.iinc 4 1, 3) := by decide +kernel
theorem dX8_value_76 : decode cX8_value 76 = .ok (.goto 83, 3) := by decide +kernel
theorem dX8_value_79 : decode cX8_value 79 = .ok (.iload 6, 2) := by decide +kernel
theorem dX8_value_81 : decode cX8_value 81 = .ok (.bipush (-7), 2) := by decide +kernel
theorem dX8_value_83 : decode cX8_value 83 = .ok (.if_icmp .ne 37, 3) := by decide +kernel
theorem dX8_value_86 : decode cX8_value 86 = .ok (.iload 4, 2) := by decide +kernel
theorem dX8_value_88 : decode cX8_value 88 = .ok (.ifCond .le 71, 3) := by decide +kernel
theorem dX8_value_91 : decode cX8_value 91 = .ok (.aload_n 0, 1) := by decide +kernel
theorem dX8_value_92 : decode cX8_value 92 = .ok (.getfield 15, 3) := by decide +kernel
theorem dX8_value_95 : decode cX8_value 95 = .ok (.iload 4, 2) := by decide +kernel
theorem dX8_value_97 : decode cX8_value 97 = .ok (.iconst 1, 1) := by decide +kernel
theorem dX8_value_98 : decode cX8_value 98 = .ok (.isub, 1) := by decide +kernel
theorem dX8_value_99 : decode cX8_value 99 = .ok (.aload_n 0, 1) := by decide +kernel
theorem dX8_value_100 : decode cX8_value 100 = .ok (.getfield 15, 3) := by decide +kernel
theorem dX8_value_103 : decode cX8_value 103 = .ok (.iload 4, 2) := by decide +kernel
theorem dX8_value_105 : decode cX8_value 105 = .ok (.iconst 1, 1) := by decide +kernel
theorem dX8_value_106 : decode cX8_value 106 = .ok (.isub, 1) := by decide +kernel
theorem dX8_value_107 : decode cX8_value 107 = .ok (.iaload, 1) := by decide +kernel
theorem dX8_value_108 : decode cX8_value 108 = .ok (.ifCond .ne 7, 3) := by decide +kernel
theorem dX8_value_111 : decode cX8_value 111 = .ok (.iconst 1, 1) := by decide +kernel
theorem dX8_value_112 : decode cX8_value 112 = .ok (.goto 4, 3) := by decide +kernel
theorem dX8_value_115 : decode cX8_value 115 = .ok (.iconst 0, 1) := by decide +kernel
theorem dX8_value_116 : decode cX8_value 116 = .ok (.iastore, 1) := by decide +kernel
theorem dX8_value_117 : decode cX8_value 117 = .ok (.goto 42, 3) := by decide +kernel
theorem dX8_value_120 : decode cX8_value 120 = .ok (.iload 4, 2) := by decide +kernel
theorem dX8_value_122 : decode cX8_value 122 = .ok (.iconst 1, 1) := by decide +kernel
theorem dX8_value_123 : decode cX8_value 123 = .ok (.if_icmp .le 36, 3) := by decide +kernel
theorem dX8_value_126 : decode cX8_value 126 = .ok (.iinc 4 (-1), 3) := by decide +kernel
theorem dX8_value_129 : decode cX8_value 129 = .ok (.aload_n 0, 1) := by decide +kernel
theorem dX8_value_130 : decode cX8_value 130 = .ok (.getfield 15, 3) := by decide +kernel
theorem dX8_value_133 : decode cX8_value 133 = .ok (.iload 4, 2) := by decide +kernel
theorem dX8_value_135 : decode cX8_value 135 = .ok (.iconst 1, 1) := by decide +kernel
theorem dX8_value_136 : decode cX8_value 136 = .ok (.isub, 1) := by decide +kernel
theorem dX8_value_137 : decode cX8_value 137 = .ok (.iload 6, 2) := by decide +kernel
theorem dX8_value_139 : decode cX8_value 139 = .ok (.aload_n 0, 1) := by decide +kernel
theorem dX8_value_140 : decode cX8_value 140 = .ok (.getfield 15, 3) := by decide +kernel
theorem dX8_value_143 : decode cX8_value 143 = .ok (.iload 4, 2) := by decide +kernel
theorem dX8_value_145 : decode cX8_value 145 = .ok (.iconst 1, 1) := by decide +kernel
theorem dX8_value_146 : decode cX8_value 146 = .ok (.isub, 1) := by decide +kernel
theorem dX8_value_147 : decode cX8_value 147 = .ok (.iaload, 1) := by decide +kernel
theorem dX8_value_148 : decode cX8_value 148 = .ok (.aload_n 0, 1) := by decide +kernel
theorem dX8_value_149 : decode cX8_value 149 = .ok (.getfield 15, 3) := by decide +kernel
theorem dX8_value_152 : decode cX8_value 152 = .ok (.iload 4, 2) := by decide +kernel
theorem dX8_value_154 : decode cX8_value 154 = .ok (.iaload, 1) := by decide +kernel
theorem dX8_value_155 : decode cX8_value 155 = .ok (.invokestatic 30, 3) := by decide +kernel
theorem dX8_value_158 : decode cX8_value 158 = .ok (.iastore, 1) := by decide +kernel
theorem dX8_value_159 : decode cX8_value 159 = .ok (.iinc 5 1, 3) := by decide +kernel
theorem dX8_value_162 : decode cX8_value 162 = .ok (.goto (-149), 3) := by decide +kernel
theorem dX8_value_165 : decode cX8_value 165 = .ok (.aload_n 0, 1) := by decide +kernel
theorem dX8_value_166 : decode cX8_value 166 = .ok (.getfield 15, 3) := by decide +kernel
theorem dX8_value_169 : decode cX8_value 169 = .ok (.iconst 0, 1) := by decide +kernel
theorem dX8_value_170 : decode cX8_value 170 = .ok (.iaload, 1) := by decide +kernel
theorem dX8_value_171 : decode cX8_value 171 = .ok (.ireturn, 1) := by decide +kernel
theorem dX8_valueOf_0 : decode cX8_valueOf 0 = .ok (.iload_n 0, 1) := by decide +kernel
theorem dX8_valueOf_1 : decode cX8_valueOf 1 = .ok (.tableswitch 60 (-5) (-1) #[58, 51, 49, 42, 35], 35) := by decide +kernel
theorem dX8_valueOf_36 : decode cX8_valueOf 36 = .ok (.aload_n 1, 1) := by decide +kernel
theorem dX8_valueOf_37 : decode cX8_valueOf 37 = .ok (.getfield 34, 3) := by decide +kernel
theorem dX8_valueOf_40 : decode cX8_valueOf 40 = .ok (.iload_n 2, 1) := by decide +kernel
theorem dX8_valueOf_41 : decode cX8_valueOf 41 = .ok (.iaload, 1) := by decide +kernel
theorem dX8_valueOf_42 : decode cX8_valueOf 42 = .ok (.ireturn, 1) := by decide +kernel
theorem dX8_valueOf_43 : decode cX8_valueOf 43 = .ok (.aload_n 1, 1) := by decide +kernel
theorem dX8_valueOf_44 : decode cX8_valueOf 44 = .ok (.getfield 39, 3) := by decide +kernel
theorem dX8_valueOf_47 : decode cX8_valueOf 47 = .ok (.iload_n 2, 1) := by decide +kernel
theorem dX8_valueOf_48 : decode cX8_valueOf 48 = .ok (.iaload, 1) := by decide +kernel
theorem dX8_valueOf_49 : decode cX8_valueOf 49 = .ok (.ireturn, 1) := by decide +kernel
theorem dX8_valueOf_50 : decode cX8_valueOf 50 = .ok (.iload_n 3, 1) := by decide +kernel
theorem dX8_valueOf_51 : decode cX8_valueOf 51 = .ok (.ireturn, 1) := by decide +kernel
theorem dX8_valueOf_52 : decode cX8_valueOf 52 = .ok (.aload_n 1, 1) := by decide +kernel
theorem dX8_valueOf_53 : decode cX8_valueOf 53 = .ok (.getfield 42, 3) := by decide +kernel
theorem dX8_valueOf_56 : decode cX8_valueOf 56 = .ok (.iload_n 2, 1) := by decide +kernel
theorem dX8_valueOf_57 : decode cX8_valueOf 57 = .ok (.iaload, 1) := by decide +kernel
theorem dX8_valueOf_58 : decode cX8_valueOf 58 = .ok (.ireturn, 1) := by decide +kernel
theorem dX8_valueOf_59 : decode cX8_valueOf 59 = .ok (.iload_n 2, 1) := by decide +kernel
theorem dX8_valueOf_60 : decode cX8_valueOf 60 = .ok (.ireturn, 1) := by decide +kernel
theorem dX8_valueOf_61 : decode cX8_valueOf 61 = .ok (.aload_n 1, 1) := by decide +kernel
theorem dX8_valueOf_62 : decode cX8_valueOf 62 = .ok (.getfield 45, 3) := by decide +kernel
theorem dX8_valueOf_65 : decode cX8_valueOf 65 = .ok (.ireturn, 1) := by decide +kernel
theorem dX8_joined_0 : decode cX8_joined 0 = .ok (.iload_n 0, 1) := by decide +kernel
theorem dX8_joined_1 : decode cX8_joined 1 = .ok (.tableswitch 105 (-14) (-8) #[101, 97, 93, 82, 71, 57, 43], 43) := by decide +kernel
theorem dX8_joined_44 : decode cX8_joined 44 = .ok (.iload_n 1, 1) := by decide +kernel
theorem dX8_joined_45 : decode cX8_joined 45 = .ok (.ifCond .ne 7, 3) := by decide +kernel
theorem dX8_joined_48 : decode cX8_joined 48 = .ok (.iload_n 2, 1) := by decide +kernel
theorem dX8_joined_49 : decode cX8_joined 49 = .ok (.ifCond .eq 7, 3) := by decide +kernel
theorem dX8_joined_52 : decode cX8_joined 52 = .ok (.iconst 1, 1) := by decide +kernel
theorem dX8_joined_53 : decode cX8_joined 53 = .ok (.goto 4, 3) := by decide +kernel
theorem dX8_joined_56 : decode cX8_joined 56 = .ok (.iconst 0, 1) := by decide +kernel
theorem dX8_joined_57 : decode cX8_joined 57 = .ok (.ireturn, 1) := by decide +kernel
theorem dX8_joined_58 : decode cX8_joined 58 = .ok (.iload_n 1, 1) := by decide +kernel
theorem dX8_joined_59 : decode cX8_joined 59 = .ok (.ifCond .eq 11, 3) := by decide +kernel
theorem dX8_joined_62 : decode cX8_joined 62 = .ok (.iload_n 2, 1) := by decide +kernel
theorem dX8_joined_63 : decode cX8_joined 63 = .ok (.ifCond .eq 7, 3) := by decide +kernel
theorem dX8_joined_66 : decode cX8_joined 66 = .ok (.iconst 1, 1) := by decide +kernel
theorem dX8_joined_67 : decode cX8_joined 67 = .ok (.goto 4, 3) := by decide +kernel
theorem dX8_joined_70 : decode cX8_joined 70 = .ok (.iconst 0, 1) := by decide +kernel
theorem dX8_joined_71 : decode cX8_joined 71 = .ok (.ireturn, 1) := by decide +kernel
theorem dX8_joined_72 : decode cX8_joined 72 = .ok (.iload_n 1, 1) := by decide +kernel
theorem dX8_joined_73 : decode cX8_joined 73 = .ok (.iload_n 2, 1) := by decide +kernel
theorem dX8_joined_74 : decode cX8_joined 74 = .ok (.if_icmp .ge 7, 3) := by decide +kernel
theorem dX8_joined_77 : decode cX8_joined 77 = .ok (.iconst 1, 1) := by decide +kernel
theorem dX8_joined_78 : decode cX8_joined 78 = .ok (.goto 4, 3) := by decide +kernel
theorem dX8_joined_81 : decode cX8_joined 81 = .ok (.iconst 0, 1) := by decide +kernel
theorem dX8_joined_82 : decode cX8_joined 82 = .ok (.ireturn, 1) := by decide +kernel
theorem dX8_joined_83 : decode cX8_joined 83 = .ok (.iload_n 1, 1) := by decide +kernel
theorem dX8_joined_84 : decode cX8_joined 84 = .ok (.iload_n 2, 1) := by decide +kernel
theorem dX8_joined_85 : decode cX8_joined 85 = .ok (.if_icmp .ne 7, 3) := by decide +kernel
theorem dX8_joined_88 : decode cX8_joined 88 = .ok (.iconst 1, 1) := by decide +kernel
theorem dX8_joined_89 : decode cX8_joined 89 = .ok (.goto 4, 3) := by decide +kernel
theorem dX8_joined_92 : decode cX8_joined 92 = .ok (.iconst 0, 1) := by decide +kernel
theorem dX8_joined_93 : decode cX8_joined 93 = .ok (.ireturn, 1) := by decide +kernel
theorem dX8_joined_94 : decode cX8_joined 94 = .ok (.iload_n 1, 1) := by decide +kernel
theorem dX8_joined_95 : decode cX8_joined 95 = .ok (.iload_n 2, 1) := by decide +kernel
theorem dX8_joined_96 : decode cX8_joined 96 = .ok (.iadd, 1) := by decide +kernel
theorem dX8_joined_97 : decode cX8_joined 97 = .ok (.ireturn, 1) := by decide +kernel
theorem dX8_joined_98 : decode cX8_joined 98 = .ok (.iload_n 1, 1) := by decide +kernel
theorem dX8_joined_99 : decode cX8_joined 99 = .ok (.iload_n 2, 1) := by decide +kernel
theorem dX8_joined_100 : decode cX8_joined 100 = .ok (.isub, 1) := by decide +kernel
theorem dX8_joined_101 : decode cX8_joined 101 = .ok (.ireturn, 1) := by decide +kernel
theorem dX8_joined_102 : decode cX8_joined 102 = .ok (.iload_n 1, 1) := by decide +kernel
theorem dX8_joined_103 : decode cX8_joined 103 = .ok (.iload_n 2, 1) := by decide +kernel
theorem dX8_joined_104 : decode cX8_joined 104 = .ok (.imul, 1) := by decide +kernel
theorem dX8_joined_105 : decode cX8_joined 105 = .ok (.ireturn, 1) := by decide +kernel
theorem dX8_joined_106 : decode cX8_joined 106 = .ok (.iload_n 2, 1) := by decide +kernel
theorem dX8_joined_107 : decode cX8_joined 107 = .ok (.ifCond .ne 7, 3) := by decide +kernel
theorem dX8_joined_110 : decode cX8_joined 110 = .ok (.iconst 0, 1) := by decide +kernel
theorem dX8_joined_111 : decode cX8_joined 111 = .ok (.goto 6, 3) := by decide +kernel
theorem dX8_joined_114 : decode cX8_joined 114 = .ok (.iload_n 1, 1) := by decide +kernel
theorem dX8_joined_115 : decode cX8_joined 115 = .ok (.iload_n 2, 1) := by decide +kernel
theorem dX8_joined_116 : decode cX8_joined 116 = .ok (.idiv, 1) := by decide +kernel
theorem dX8_joined_117 : decode cX8_joined 117 = .ok (.ireturn, 1) := by decide +kernel
theorem dX9_init_0 : decode cX9_init 0 = .ok (.aload_n 0, 1) := by decide +kernel
theorem dX9_init_1 : decode cX9_init 1 = .ok (.invokespecial 3, 3) := by decide +kernel
theorem dX9_init_4 : decode cX9_init 4 = .ok (.aload_n 0, 1) := by decide +kernel
theorem dX9_init_5 : decode cX9_init 5 = .ok (.bipush 40, 2) := by decide +kernel
theorem dX9_init_7 : decode cX9_init 7 = .ok (.newarray .int, 2) := by decide +kernel
theorem dX9_init_9 : decode cX9_init 9 = .ok (.putfield 9, 3) := by decide +kernel
theorem dX9_init_12 : decode cX9_init 12 = .ok (.aload_n 0, 1) := by decide +kernel
theorem dX9_init_13 : decode cX9_init 13 = .ok (.sipush 320, 3) := by decide +kernel
theorem dX9_init_16 : decode cX9_init 16 = .ok (.newarray .long, 2) := by decide +kernel
theorem dX9_init_18 : decode cX9_init 18 = .ok (.putfield 15, 3) := by decide +kernel
theorem dX9_init_21 : decode cX9_init 21 = .ok (.aload_n 0, 1) := by decide +kernel
theorem dX9_init_22 : decode cX9_init 22 = .ok (.iconst 0, 1) := by decide +kernel
theorem dX9_init_23 : decode cX9_init 23 = .ok (.putfield 19, 3) := by decide +kernel
theorem dX9_init_26 : decode cX9_init 26 = .ok (.aload_n 0, 1) := by decide +kernel
theorem dX9_init_27 : decode cX9_init 27 = .ok (.iconst (-1), 1) := by decide +kernel
theorem dX9_init_28 : decode cX9_init 28 = .ok (.putfield 23, 3) := by decide +kernel
theorem dX9_init_31 : decode cX9_init 31 = .ok (.return_, 1) := by decide +kernel
theorem dX9_fitsAsItIs_0 : decode cX9_fitsAsItIs 0 = .ok (.aload_n 1, 1) := by decide +kernel
theorem dX9_fitsAsItIs_1 : decode cX9_fitsAsItIs 1 = .ok (.aload_n 2, 1) := by decide +kernel
theorem dX9_fitsAsItIs_2 : decode cX9_fitsAsItIs 2 = .ok (.getfield 26, 3) := by decide +kernel
theorem dX9_fitsAsItIs_5 : decode cX9_fitsAsItIs 5 = .ok (.invokevirtual 32, 3) := by decide +kernel
theorem dX9_fitsAsItIs_8 : decode cX9_fitsAsItIs 8 = .ok (.aload_n 0, 1) := by decide +kernel
theorem dX9_fitsAsItIs_9 : decode cX9_fitsAsItIs 9 = .ok (.aload_n 1, 1) := by decide +kernel
theorem dX9_fitsAsItIs_10 : decode cX9_fitsAsItIs 10 = .ok (.aload_n 2, 1) := by decide +kernel
theorem dX9_fitsAsItIs_11 : decode cX9_fitsAsItIs 11 = .ok (.getfield 38, 3) := by decide +kernel
theorem dX9_fitsAsItIs_14 : decode cX9_fitsAsItIs 14 = .ok (.invokevirtual 42, 3) := by decide +kernel
theorem dX9_fitsAsItIs_17 : decode cX9_fitsAsItIs 17 = .ok (.ireturn, 1) := by decide +kernel
theorem dX9_search_0 : decode cX9_search 0 = .ok (.aload_n 1, 1) := by decide +kernel
theorem dX9_search_1 : decode cX9_search 1 = .ok (.getfield 46, 3) := by decide +kernel
theorem dX9_search_4 : decode cX9_search 4 = .ok (.getfield 50, 3) := by decide +kernel
theorem dX9_search_7 : decode cX9_search 7 = .ok (.istore_n 3, 1) := by decide +kernel
theorem dX9_search_8 : decode cX9_search 8 = .ok (.aload_n 0, 1) := by decide +kernel
theorem dX9_search_9 : decode cX9_search 9 = .ok (.iconst 0, 1) := by decide +kernel
theorem dX9_search_10 : decode cX9_search 10 = .ok (.putfield 19, 3) := by decide +kernel
theorem dX9_search_13 : decode cX9_search 13 = .ok (.aload_n 0, 1) := by decide +kernel
theorem dX9_search_14 : decode cX9_search 14 = .ok (.iconst (-1), 1) := by decide +kernel
theorem dX9_search_15 : decode cX9_search 15 = .ok (.putfield 23, 3) := by decide +kernel
theorem dX9_search_18 : decode cX9_search 18 = .ok (.aload_n 0, 1) := by decide +kernel
theorem dX9_search_19 : decode cX9_search 19 = .ok (.getfield 15, 3) := by decide +kernel
theorem dX9_search_22 : decode cX9_search 22 = .ok (.lconst 0, 1) := by decide +kernel
theorem dX9_search_23 : decode cX9_search 23 = .ok (.invokestatic 54, 3) := by decide +kernel
theorem dX9_search_26 : decode cX9_search 26 = .ok (.iconst 0, 1) := by decide +kernel
theorem dX9_search_27 : decode cX9_search 27 = .ok (.istore 4, 2) := by decide +kernel
theorem dX9_search_29 : decode cX9_search 29 = .ok (.iload 4, 2) := by decide +kernel
theorem dX9_search_31 : decode cX9_search 31 = .ok (.iload_n 3, 1) := by decide +kernel
theorem dX9_search_32 : decode cX9_search 32 = .ok (.if_icmp .ge 94, 3) := by decide +kernel
theorem dX9_search_35 : decode cX9_search 35 = .ok (.iload 4, 2) := by decide +kernel
theorem dX9_search_37 : decode cX9_search 37 = .ok (.iconst 1, 1) := by decide +kernel
theorem dX9_search_38 : decode cX9_search 38 = .ok (.iadd, 1) := by decide +kernel
theorem dX9_search_39 : decode cX9_search 39 = .ok (.istore 5, 2) := by decide +kernel
theorem dX9_search_41 : decode cX9_search 41 = .ok (.iload 5, 2) := by decide +kernel
theorem dX9_search_43 : decode cX9_search 43 = .ok (.iload_n 3, 1) := by decide +kernel
theorem dX9_search_44 : decode cX9_search 44 = .ok (.if_icmp .gt 76, 3) := by decide +kernel
theorem dX9_search_47 : decode cX9_search 47 = .ok (.iload 5, 2) := by decide +kernel
theorem dX9_search_49 : decode cX9_search 49 = .ok (.iload_n 3, 1) := by decide +kernel
theorem dX9_search_50 : decode cX9_search 50 = .ok (.if_icmp .ge 8, 3) := by decide +kernel
theorem dX9_search_53 : decode cX9_search 53 = .ok (.iload 5, 2) := by decide +kernel
theorem dX9_search_55 : decode cX9_search 55 = .ok (.goto 4, 3) := by decide +kernel
theorem dX9_search_58 : decode cX9_search 58 = .ok (.iconst (-1), 1) := by decide +kernel
theorem dX9_search_59 : decode cX9_search 59 = .ok (.istore 6, 2) := by decide +kernel
theorem dX9_search_61 : decode cX9_search 61 = .ok (.aload_n 1, 1) := by decide +kernel
theorem dX9_search_62 : decode cX9_search 62 = .ok (.aload_n 2, 1) := by decide +kernel
theorem dX9_search_63 : decode cX9_search 63 = .ok (.getfield 26, 3) := by decide +kernel
theorem dX9_search_66 : decode cX9_search 66 = .ok (.invokevirtual 32, 3) := by decide +kernel
theorem dX9_search_69 : decode cX9_search 69 = .ok (.aload_n 1, 1) := by decide +kernel
theorem dX9_search_70 : decode cX9_search 70 = .ok (.getfield 60, 3) := by decide +kernel
theorem dX9_search_73 : decode cX9_search 73 = .ok (.iload 4, 2) := by decide +kernel
theorem dX9_search_75 : decode cX9_search 75 = .ok (.iload 6, 2) := by decide +kernel
theorem dX9_search_77 : decode cX9_search 77 = .ok (.invokevirtual 61, 3) := by decide +kernel
theorem dX9_search_80 : decode cX9_search 80 = .ok (.aload_n 2, 1) := by decide +kernel
theorem dX9_search_81 : decode cX9_search 81 = .ok (.getfield 26, 3) := by decide +kernel
theorem dX9_search_84 : decode cX9_search 84 = .ok (.iload 4, 2) := by decide +kernel
theorem dX9_search_86 : decode cX9_search 86 = .ok (.iload 6, 2) := by decide +kernel
theorem dX9_search_88 : decode cX9_search 88 = .ok (.invokevirtual 67, 3) := by decide +kernel
theorem dX9_search_91 : decode cX9_search 91 = .ok (.ifCond .ne 23, 3) := by decide +kernel
theorem dX9_search_94 : decode cX9_search 94 = .ok (.aload_n 0, 1) := by decide +kernel
theorem dX9_search_95 : decode cX9_search 95 = .ok (.aload_n 1, 1) := by decide +kernel
theorem dX9_search_96 : decode cX9_search 96 = .ok (.aload_n 2, 1) := by decide +kernel
theorem dX9_search_97 : decode cX9_search 97 = .ok (.getfield 38, 3) := by decide +kernel
theorem dX9_search_100 : decode cX9_search 100 = .ok (.invokevirtual 42, 3) := by decide +kernel
theorem dX9_search_103 : decode cX9_search 103 = .ok (.ifCond .eq 11, 3) := by decide +kernel
theorem dX9_search_106 : decode cX9_search 106 = .ok (.aload_n 0, 1) := by decide +kernel
theorem dX9_search_107 : decode cX9_search 107 = .ok (.iload 4, 2) := by decide +kernel
theorem dX9_search_109 : decode cX9_search 109 = .ok (.iload 6, 2) := by decide +kernel
theorem dX9_search_111 : decode cX9_search 111 = .ok (.invokevirtual 71, 3) := by decide +kernel
theorem dX9_search_114 : decode cX9_search 114 = .ok (.iinc 5 1, 3) := by decide +kernel
theorem dX9_search_117 : decode cX9_search 117 = .ok (.goto (-76), 3) := by decide +kernel
theorem dX9_search_120 : decode cX9_search 120 = .ok (.iinc 4 1, 3) := by decide +kernel
theorem dX9_search_123 : decode cX9_search 123 = .ok (.goto (-94), 3) := by decide +kernel
theorem dX9_search_126 : decode cX9_search 126 = .ok (.return_, 1) := by decide +kernel
theorem dX9_keepFound_0 : decode cX9_keepFound 0 = .ok (.aload_n 0, 1) := by decide +kernel
theorem dX9_keepFound_1 : decode cX9_keepFound 1 = .ok (.getfield 19, 3) := by decide +kernel
theorem dX9_keepFound_4 : decode cX9_keepFound 4 = .ok (.ifCond .ne 23, 3) := by decide +kernel
theorem dX9_keepFound_7 : decode cX9_keepFound 7 = .ok (.aload_n 0, 1) := by decide +kernel
theorem dX9_keepFound_8 : decode cX9_keepFound 8 = .ok (.iload_n 1, 1) := by decide +kernel
theorem dX9_keepFound_9 : decode cX9_keepFound 9 = .ok (.bipush 10, 2) := by decide +kernel
theorem dX9_keepFound_11 : decode cX9_keepFound 11 = .ok (.imul, 1) := by decide +kernel
theorem dX9_keepFound_12 : decode cX9_keepFound 12 = .ok (.iload_n 2, 1) := by decide +kernel
theorem dX9_keepFound_13 : decode cX9_keepFound 13 = .ok (.iconst (-1), 1) := by decide +kernel
theorem dX9_keepFound_14 : decode cX9_keepFound 14 = .ok (.if_icmp .ne 8, 3) := by decide +kernel
theorem dX9_keepFound_17 : decode cX9_keepFound 17 = .ok (.bipush 9, 2) := by decide +kernel
theorem dX9_keepFound_19 : decode cX9_keepFound 19 = .ok (.goto 4, 3) := by decide +kernel
theorem dX9_keepFound_22 : decode cX9_keepFound 22 = .ok (.iload_n 2, 1) := by decide +kernel
theorem dX9_keepFound_23 : decode cX9_keepFound 23 = .ok (.iadd, 1) := by decide +kernel
theorem dX9_keepFound_24 : decode cX9_keepFound 24 = .ok (.putfield 23, 3) := by decide +kernel
theorem dX9_keepFound_27 : decode cX9_keepFound 27 = .ok (.aload_n 0, 1) := by decide +kernel
theorem dX9_keepFound_28 : decode cX9_keepFound 28 = .ok (.dup, 1) := by decide +kernel
theorem dX9_keepFound_29 : decode cX9_keepFound 29 = .ok (.getfield 19, 3) := by decide +kernel
theorem dX9_keepFound_32 : decode cX9_keepFound 32 = .ok (.iconst 1, 1) := by decide +kernel
theorem dX9_keepFound_33 : decode cX9_keepFound 33 = .ok (.iadd, 1) := by decide +kernel
theorem dX9_keepFound_34 : decode cX9_keepFound 34 = .ok (.putfield 19, 3) := by decide +kernel
theorem dX9_keepFound_37 : decode cX9_keepFound 37 = .ok (.aload_n 0, 1) := by decide +kernel
theorem dX9_keepFound_38 : decode cX9_keepFound 38 = .ok (.invokevirtual 74, 3) := by decide +kernel
theorem dX9_keepFound_41 : decode cX9_keepFound 41 = .ok (.return_, 1) := by decide +kernel
theorem dX9_fits_0 : decode cX9_fits 0 = .ok (.iconst 0, 1) := by decide +kernel
theorem dX9_fits_1 : decode cX9_fits 1 = .ok (.istore_n 3, 1) := by decide +kernel
theorem dX9_fits_2 : decode cX9_fits 2 = .ok (.iload_n 3, 1) := by decide +kernel
theorem dX9_fits_3 : decode cX9_fits 3 = .ok (.bipush 40, 2) := by decide +kernel
theorem dX9_fits_5 : decode cX9_fits 5 = .ok (.if_icmp .ge 40, 3) := by decide +kernel
theorem dX9_fits_8 : decode cX9_fits 8 = .ok (.aload_n 1, 1) := by decide +kernel
theorem dX9_fits_9 : decode cX9_fits 9 = .ok (.iconst 0, 1) := by decide +kernel
theorem dX9_fits_10 : decode cX9_fits 10 = .ok (.invokevirtual 77, 3) := by decide +kernel
theorem dX9_fits_13 : decode cX9_fits 13 = .ok (.aload_n 0, 1) := by decide +kernel
theorem dX9_fits_14 : decode cX9_fits 14 = .ok (.getfield 9, 3) := by decide +kernel
theorem dX9_fits_17 : decode cX9_fits 17 = .ok (.iload_n 3, 1) := by decide +kernel
theorem dX9_fits_18 : decode cX9_fits 18 = .ok (.aload_n 1, 1) := by decide +kernel
theorem dX9_fits_19 : decode cX9_fits 19 = .ok (.getfield 81, 3) := by decide +kernel
theorem dX9_fits_22 : decode cX9_fits 22 = .ok (.iastore, 1) := by decide +kernel
theorem dX9_fits_23 : decode cX9_fits 23 = .ok (.aload_n 2, 1) := by decide +kernel
theorem dX9_fits_24 : decode cX9_fits 24 = .ok (.iload_n 3, 1) := by decide +kernel
theorem dX9_fits_25 : decode cX9_fits 25 = .ok (.iconst 1, 1) := by decide +kernel
theorem dX9_fits_26 : decode cX9_fits 26 = .ok (.iadd, 1) := by decide +kernel
theorem dX9_fits_27 : decode cX9_fits 27 = .ok (.aload_n 1, 1) := by decide +kernel
theorem dX9_fits_28 : decode cX9_fits 28 = .ok (.getfield 81, 3) := by decide +kernel
theorem dX9_fits_31 : decode cX9_fits 31 = .ok (.invokevirtual 83, 3) := by decide +kernel
theorem dX9_fits_34 : decode cX9_fits 34 = .ok (.ifCond .ne 5, 3) := by decide +kernel
theorem dX9_fits_37 : decode cX9_fits 37 = .ok (.iconst 0, 1) := by decide +kernel
theorem dX9_fits_38 : decode cX9_fits 38 = .ok (.ireturn, 1) := by decide +kernel
theorem dX9_fits_39 : decode cX9_fits 39 = .ok (.iinc 3 1, 3) := by decide +kernel
theorem dX9_fits_42 : decode cX9_fits 42 = .ok (.goto (-40), 3) := by decide +kernel
theorem dX9_fits_45 : decode cX9_fits 45 = .ok (.iconst 1, 1) := by decide +kernel
theorem dX9_fits_46 : decode cX9_fits 46 = .ok (.ireturn, 1) := by decide +kernel
theorem dX9_keepSets_0 : decode cX9_keepSets 0 = .ok (.iconst 0, 1) := by decide +kernel
theorem dX9_keepSets_1 : decode cX9_keepSets 1 = .ok (.istore_n 1, 1) := by decide +kernel
theorem dX9_keepSets_2 : decode cX9_keepSets 2 = .ok (.iload_n 1, 1) := by decide +kernel
theorem dX9_keepSets_3 : decode cX9_keepSets 3 = .ok (.bipush 40, 2) := by decide +kernel
theorem dX9_keepSets_5 : decode cX9_keepSets 5 = .ok (.if_icmp .ge 50, 3) := by decide +kernel
theorem dX9_keepSets_8 : decode cX9_keepSets 8 = .ok (.aload_n 0, 1) := by decide +kernel
theorem dX9_keepSets_9 : decode cX9_keepSets 9 = .ok (.getfield 9, 3) := by decide +kernel
theorem dX9_keepSets_12 : decode cX9_keepSets 12 = .ok (.iload_n 1, 1) := by decide +kernel
theorem dX9_keepSets_13 : decode cX9_keepSets 13 = .ok (.iaload, 1) := by decide +kernel
theorem dX9_keepSets_14 : decode cX9_keepSets 14 = .ok (.istore_n 2, 1) := by decide +kernel
theorem dX9_keepSets_15 : decode cX9_keepSets 15 = .ok (.iload_n 2, 1) := by decide +kernel
theorem dX9_keepSets_16 : decode cX9_keepSets 16 = .ok (.ifCond .lt 33, 3) := by decide +kernel
theorem dX9_keepSets_19 : decode cX9_keepSets 19 = .ok (.iload_n 2, 1) := by decide +kernel
theorem dX9_keepSets_20 : decode cX9_keepSets 20 = .ok (.sipush 512, 3) := by decide +kernel
theorem dX9_keepSets_23 : decode cX9_keepSets 23 = .ok (.if_icmp .ge 26, 3) := by decide +kernel
theorem dX9_keepSets_26 : decode cX9_keepSets 26 = .ok (.aload_n 0, 1) := by decide +kernel
theorem dX9_keepSets_27 : decode cX9_keepSets 27 = .ok (.getfield 15, 3) := by decide +kernel
theorem dX9_keepSets_30 : decode cX9_keepSets 30 = .ok (.iload_n 1, 1) := by decide +kernel
theorem dX9_keepSets_31 : decode cX9_keepSets 31 = .ok (.bipush 8, 2) := by decide +kernel
theorem dX9_keepSets_33 : decode cX9_keepSets 33 = .ok (.imul, 1) := by decide +kernel
theorem dX9_keepSets_34 : decode cX9_keepSets 34 = .ok (.iload_n 2, 1) := by decide +kernel
theorem dX9_keepSets_35 : decode cX9_keepSets 35 = .ok (.bipush 64, 2) := by decide +kernel
theorem dX9_keepSets_37 : decode cX9_keepSets 37 = .ok (.idiv, 1) := by decide +kernel
theorem dX9_keepSets_38 : decode cX9_keepSets 38 = .ok (.iadd, 1) := by decide +kernel
theorem dX9_keepSets_39 : decode cX9_keepSets 39 = .ok (.dup2, 1) := by decide +kernel
theorem dX9_keepSets_40 : decode cX9_keepSets 40 = .ok (.laload, 1) := by decide +kernel
theorem dX9_keepSets_41 : decode cX9_keepSets 41 = .ok (.lconst 1, 1) := by decide +kernel
theorem dX9_keepSets_42 : decode cX9_keepSets 42 = .ok (.iload_n 2, 1) := by decide +kernel
theorem dX9_keepSets_43 : decode cX9_keepSets 43 = .ok (.bipush 64, 2) := by decide +kernel
theorem dX9_keepSets_45 : decode cX9_keepSets 45 = .ok (.irem, 1) := by decide +kernel
theorem dX9_keepSets_46 : decode cX9_keepSets 46 = .ok (.lshl, 1) := by decide +kernel
theorem dX9_keepSets_47 : decode cX9_keepSets 47 = .ok (.lor, 1) := by decide +kernel
theorem dX9_keepSets_48 : decode cX9_keepSets 48 = .ok (.lastore, 1) := by decide +kernel
theorem dX9_keepSets_49 : decode cX9_keepSets 49 = .ok (.iinc 1 1, 3) := by decide +kernel
theorem dX9_keepSets_52 : decode cX9_keepSets 52 = .ok (.goto (-50), 3) := by decide +kernel
theorem dX9_keepSets_55 : decode cX9_keepSets 55 = .ok (.return_, 1) := by decide +kernel
theorem dX9_unlikeIn_0 : decode cX9_unlikeIn 0 = .ok (.iconst 0, 1) := by decide +kernel
theorem dX9_unlikeIn_1 : decode cX9_unlikeIn 1 = .ok (.istore_n 2, 1) := by decide +kernel
theorem dX9_unlikeIn_2 : decode cX9_unlikeIn 2 = .ok (.iconst 0, 1) := by decide +kernel
theorem dX9_unlikeIn_3 : decode cX9_unlikeIn 3 = .ok (.istore_n 3, 1) := by decide +kernel
theorem dX9_unlikeIn_4 : decode cX9_unlikeIn 4 = .ok (.iload_n 3, 1) := by decide +kernel
theorem dX9_unlikeIn_5 : decode cX9_unlikeIn 5 = .ok (.bipush 8, 2) := by decide +kernel
theorem dX9_unlikeIn_7 : decode cX9_unlikeIn 7 = .ok (.if_icmp .ge 47, 3) := by decide +kernel
theorem dX9_unlikeIn_10 : decode cX9_unlikeIn 10 = .ok (.iload_n 1, 1) := by decide +kernel
theorem dX9_unlikeIn_11 : decode cX9_unlikeIn 11 = .ok (.iconst 1, 1) := by decide +kernel
theorem dX9_unlikeIn_12 : decode cX9_unlikeIn 12 = .ok (.isub, 1) := by decide +kernel
theorem dX9_unlikeIn_13 : decode cX9_unlikeIn 13 = .ok (.bipush 8, 2) := by decide +kernel
theorem dX9_unlikeIn_15 : decode cX9_unlikeIn 15 = .ok (.imul, 1) := by decide +kernel
theorem dX9_unlikeIn_16 : decode cX9_unlikeIn 16 = .ok (.iload_n 3, 1) := by decide +kernel
theorem dX9_unlikeIn_17 : decode cX9_unlikeIn 17 = .ok (.iadd, 1) := by decide +kernel
theorem dX9_unlikeIn_18 : decode cX9_unlikeIn 18 = .ok (.istore 4, 2) := by decide +kernel
theorem dX9_unlikeIn_20 : decode cX9_unlikeIn 20 = .ok (.iload 4, 2) := by decide +kernel
theorem dX9_unlikeIn_22 : decode cX9_unlikeIn 22 = .ok (.ifCond .lt 26, 3) := by decide +kernel
theorem dX9_unlikeIn_25 : decode cX9_unlikeIn 25 = .ok (.iload 4, 2) := by decide +kernel
theorem dX9_unlikeIn_27 : decode cX9_unlikeIn 27 = .ok (.aload_n 0, 1) := by decide +kernel
theorem dX9_unlikeIn_28 : decode cX9_unlikeIn 28 = .ok (.getfield 15, 3) := by decide +kernel
theorem dX9_unlikeIn_31 : decode cX9_unlikeIn 31 = .ok (.arraylength, 1) := by decide +kernel
theorem dX9_unlikeIn_32 : decode cX9_unlikeIn 32 = .ok (.if_icmp .ge 16, 3) := by decide +kernel
theorem dX9_unlikeIn_35 : decode cX9_unlikeIn 35 = .ok (.iload_n 2, 1) := by decide +kernel
theorem dX9_unlikeIn_36 : decode cX9_unlikeIn 36 = .ok (.aload_n 0, 1) := by decide +kernel
theorem dX9_unlikeIn_37 : decode cX9_unlikeIn 37 = .ok (.getfield 15, 3) := by decide +kernel
theorem dX9_unlikeIn_40 : decode cX9_unlikeIn 40 = .ok (.iload 4, 2) := by decide +kernel
theorem dX9_unlikeIn_42 : decode cX9_unlikeIn 42 = .ok (.laload, 1) := by decide +kernel
theorem dX9_unlikeIn_43 : decode cX9_unlikeIn 43 = .ok (.invokestatic 88, 3) := by decide +kernel
theorem dX9_unlikeIn_46 : decode cX9_unlikeIn 46 = .ok (.iadd, 1) := by decide +kernel
theorem dX9_unlikeIn_47 : decode cX9_unlikeIn 47 = .ok (.istore_n 2, 1) := by decide +kernel
theorem dX9_unlikeIn_48 : decode cX9_unlikeIn 48 = .ok (.iinc 3 1, 3) := by decide +kernel
theorem dX9_unlikeIn_51 : decode cX9_unlikeIn 51 = .ok (.goto (-47), 3) := by decide +kernel
theorem dX9_unlikeIn_54 : decode cX9_unlikeIn 54 = .ok (.iload_n 2, 1) := by decide +kernel
theorem dX9_unlikeIn_55 : decode cX9_unlikeIn 55 = .ok (.ireturn, 1) := by decide +kernel
theorem dX10_init_0 : decode cX10_init 0 = .ok (.aload_n 0, 1) := by decide +kernel
theorem dX10_init_1 : decode cX10_init 1 = .ok (.invokespecial 3, 3) := by decide +kernel
theorem dX10_init_4 : decode cX10_init 4 = .ok (.aload_n 0, 1) := by decide +kernel
theorem dX10_init_5 : decode cX10_init 5 = .ok (.sipush 700, 3) := by decide +kernel
theorem dX10_init_8 : decode cX10_init 8 = .ok (.newarray .byte, 2) := by decide +kernel
theorem dX10_init_10 : decode cX10_init 10 = .ok (.putfield 9, 3) := by decide +kernel
theorem dX10_init_13 : decode cX10_init 13 = .ok (.aload_n 0, 1) := by decide +kernel
theorem dX10_init_14 : decode cX10_init 14 = .ok (.iconst 0, 1) := by decide +kernel
theorem dX10_init_15 : decode cX10_init 15 = .ok (.putfield 15, 3) := by decide +kernel
theorem dX10_init_18 : decode cX10_init 18 = .ok (.aload_n 0, 1) := by decide +kernel
theorem dX10_init_19 : decode cX10_init 19 = .ok (.iconst 0, 1) := by decide +kernel
theorem dX10_init_20 : decode cX10_init 20 = .ok (.putfield 19, 3) := by decide +kernel
theorem dX10_init_23 : decode cX10_init 23 = .ok (.aload_n 0, 1) := by decide +kernel
theorem dX10_init_24 : decode cX10_init 24 = .ok (.iconst 0, 1) := by decide +kernel
theorem dX10_init_25 : decode cX10_init 25 = .ok (.putfield 22, 3) := by decide +kernel
theorem dX10_init_28 : decode cX10_init 28 = .ok (.aload_n 0, 1) := by decide +kernel
theorem dX10_init_29 : decode cX10_init 29 = .ok (.iconst 0, 1) := by decide +kernel
theorem dX10_init_30 : decode cX10_init 30 = .ok (.putfield 25, 3) := by decide +kernel
theorem dX10_init_33 : decode cX10_init 33 = .ok (.aload_n 0, 1) := by decide +kernel
theorem dX10_init_34 : decode cX10_init 34 = .ok (.iconst 0, 1) := by decide +kernel
theorem dX10_init_35 : decode cX10_init 35 = .ok (.putfield 28, 3) := by decide +kernel
theorem dX10_init_38 : decode cX10_init 38 = .ok (.aload_n 0, 1) := by decide +kernel
theorem dX10_init_39 : decode cX10_init 39 = .ok (.iconst 0, 1) := by decide +kernel
theorem dX10_init_40 : decode cX10_init 40 = .ok (.putfield 31, 3) := by decide +kernel
theorem dX10_init_43 : decode cX10_init 43 = .ok (.return_, 1) := by decide +kernel
theorem dX10_append_0 : decode cX10_append 0 = .ok (.bipush 24, 2) := by decide +kernel
theorem dX10_append_2 : decode cX10_append 2 = .ok (.istore_n 2, 1) := by decide +kernel
theorem dX10_append_3 : decode cX10_append 3 = .ok (.iload_n 2, 1) := by decide +kernel
theorem dX10_append_4 : decode cX10_append 4 = .ok (.ifCond .lt 44, 3) := by decide +kernel
theorem dX10_append_7 : decode cX10_append 7 = .ok (.aload_n 0, 1) := by decide +kernel
theorem dX10_append_8 : decode cX10_append 8 = .ok (.getfield 15, 3) := by decide +kernel
theorem dX10_append_11 : decode cX10_append 11 = .ok (.aload_n 0, 1) := by decide +kernel
theorem dX10_append_12 : decode cX10_append 12 = .ok (.getfield 9, 3) := by decide +kernel
theorem dX10_append_15 : decode cX10_append 15 = .ok (.arraylength, 1) := by decide +kernel
theorem dX10_append_16 : decode cX10_append 16 = .ok (.if_icmp .ge 26, 3) := by decide +kernel
theorem dX10_append_19 : decode cX10_append 19 = .ok (.aload_n 0, 1) := by decide +kernel
theorem dX10_append_20 : decode cX10_append 20 = .ok (.getfield 9, 3) := by decide +kernel
theorem dX10_append_23 : decode cX10_append 23 = .ok (.aload_n 0, 1) := by decide +kernel
theorem dX10_append_24 : decode cX10_append 24 = .ok (.getfield 15, 3) := by decide +kernel
theorem dX10_append_27 : decode cX10_append 27 = .ok (.iload_n 1, 1) := by decide +kernel
theorem dX10_append_28 : decode cX10_append 28 = .ok (.iload_n 2, 1) := by decide +kernel
theorem dX10_append_29 : decode cX10_append 29 = .ok (.ishr, 1) := by decide +kernel
theorem dX10_append_30 : decode cX10_append 30 = .ok (.i2b, 1) := by decide +kernel
theorem dX10_append_31 : decode cX10_append 31 = .ok (.bastore, 1) := by decide +kernel
theorem dX10_append_32 : decode cX10_append 32 = .ok (.aload_n 0, 1) := by decide +kernel
theorem dX10_append_33 : decode cX10_append 33 = .ok (.dup, 1) := by decide +kernel
theorem dX10_append_34 : decode cX10_append 34 = .ok (.getfield 15, 3) := by decide +kernel
theorem dX10_append_37 : decode cX10_append 37 = .ok (.iconst 1, 1) := by decide +kernel
theorem dX10_append_38 : decode cX10_append 38 = .ok (.iadd, 1) := by decide +kernel
theorem dX10_append_39 : decode cX10_append 39 = .ok (.putfield 15, 3) := by decide +kernel
theorem dX10_append_42 : decode cX10_append 42 = .ok (.iinc 2 (-8), 3) := by decide +kernel
theorem dX10_append_45 : decode cX10_append 45 = .ok (.goto (-42), 3) := by decide +kernel
theorem dX10_append_48 : decode cX10_append 48 = .ok (.return_, 1) := by decide +kernel
theorem dX10_begin_0 : decode cX10_begin 0 = .ok (.aload_n 0, 1) := by decide +kernel
theorem dX10_begin_1 : decode cX10_begin 1 = .ok (.iconst 0, 1) := by decide +kernel
theorem dX10_begin_2 : decode cX10_begin 2 = .ok (.iload_n 1, 1) := by decide +kernel
theorem dX10_begin_3 : decode cX10_begin 3 = .ok (.aload_n 0, 1) := by decide +kernel
theorem dX10_begin_4 : decode cX10_begin 4 = .ok (.getfield 9, 3) := by decide +kernel
theorem dX10_begin_7 : decode cX10_begin 7 = .ok (.arraylength, 1) := by decide +kernel
theorem dX10_begin_8 : decode cX10_begin 8 = .ok (.invokestatic 34, 3) := by decide +kernel
theorem dX10_begin_11 : decode cX10_begin 11 = .ok (.invokestatic 40, 3) := by decide +kernel
theorem dX10_begin_14 : decode cX10_begin 14 = .ok (.putfield 19, 3) := by decide +kernel
theorem dX10_begin_17 : decode cX10_begin 17 = .ok (.aload_n 0, 1) := by decide +kernel
theorem dX10_begin_18 : decode cX10_begin 18 = .ok (.iconst 0, 1) := by decide +kernel
theorem dX10_begin_19 : decode cX10_begin 19 = .ok (.putfield 25, 3) := by decide +kernel
theorem dX10_begin_22 : decode cX10_begin 22 = .ok (.aload_n 0, 1) := by decide +kernel
theorem dX10_begin_23 : decode cX10_begin 23 = .ok (.invokevirtual 43, 3) := by decide +kernel
theorem dX10_begin_26 : decode cX10_begin 26 = .ok (.return_, 1) := by decide +kernel
theorem dX10_take_0 : decode cX10_take 0 = .ok (.aload_n 0, 1) := by decide +kernel
theorem dX10_take_1 : decode cX10_take 1 = .ok (.aload_n 0, 1) := by decide +kernel
theorem dX10_take_2 : decode cX10_take 2 = .ok (.getfield 25, 3) := by decide +kernel
theorem dX10_take_5 : decode cX10_take 5 = .ok (.putfield 22, 3) := by decide +kernel
theorem dX10_take_8 : decode cX10_take 8 = .ok (.aload_n 0, 1) := by decide +kernel
theorem dX10_take_9 : decode cX10_take 9 = .ok (.getfield 22, 3) := by decide +kernel
theorem dX10_take_12 : decode cX10_take 12 = .ok (.aload_n 0, 1) := by decide +kernel
theorem dX10_take_13 : decode cX10_take 13 = .ok (.getfield 19, 3) := by decide +kernel
theorem dX10_take_16 : decode cX10_take 16 = .ok (.if_icmp .ge 31, 3) := by decide +kernel
theorem dX10_take_19 : decode cX10_take 19 = .ok (.aload_n 0, 1) := by decide +kernel
theorem dX10_take_20 : decode cX10_take 20 = .ok (.getfield 9, 3) := by decide +kernel
theorem dX10_take_23 : decode cX10_take 23 = .ok (.aload_n 0, 1) := by decide +kernel
theorem dX10_take_24 : decode cX10_take 24 = .ok (.getfield 22, 3) := by decide +kernel
theorem dX10_take_27 : decode cX10_take 27 = .ok (.baload, 1) := by decide +kernel
theorem dX10_take_28 : decode cX10_take 28 = .ok (.invokestatic 46, 3) := by decide +kernel
theorem dX10_take_31 : decode cX10_take 31 = .ok (.ifCond .eq 16, 3) := by decide +kernel
theorem dX10_take_34 : decode cX10_take 34 = .ok (.aload_n 0, 1) := by decide +kernel
theorem dX10_take_35 : decode cX10_take 35 = .ok (.dup, 1) := by decide +kernel
theorem dX10_take_36 : decode cX10_take 36 = .ok (.getfield 22, 3) := by decide +kernel
theorem dX10_take_39 : decode cX10_take 39 = .ok (.iconst 1, 1) := by decide +kernel
theorem dX10_take_40 : decode cX10_take 40 = .ok (.iadd, 1) := by decide +kernel
theorem dX10_take_41 : decode cX10_take 41 = .ok (.putfield 22, 3) := by decide +kernel
theorem dX10_take_44 : decode cX10_take 44 = .ok (.goto (-36), 3) := by decide +kernel
theorem dX10_take_47 : decode cX10_take 47 = .ok (.aload_n 0, 1) := by decide +kernel
theorem dX10_take_48 : decode cX10_take 48 = .ok (.aload_n 0, 1) := by decide +kernel
theorem dX10_take_49 : decode cX10_take 49 = .ok (.getfield 22, 3) := by decide +kernel
theorem dX10_take_52 : decode cX10_take 52 = .ok (.putfield 25, 3) := by decide +kernel
theorem dX10_take_55 : decode cX10_take 55 = .ok (.aload_n 0, 1) := by decide +kernel
theorem dX10_take_56 : decode cX10_take 56 = .ok (.getfield 22, 3) := by decide +kernel
theorem dX10_take_59 : decode cX10_take 59 = .ok (.aload_n 0, 1) := by decide +kernel
theorem dX10_take_60 : decode cX10_take 60 = .ok (.getfield 19, 3) := by decide +kernel
theorem dX10_take_63 : decode cX10_take 63 = .ok (.if_icmp .lt 11, 3) := by decide +kernel
theorem dX10_take_66 : decode cX10_take 66 = .ok (.aload_n 0, 1) := by decide +kernel
theorem dX10_take_67 : decode cX10_take 67 = .ok (.iconst 0, 1) := by decide +kernel
theorem dX10_take_68 : decode cX10_take 68 = .ok (.putfield 28, 3) := by decide +kernel
theorem dX10_take_71 : decode cX10_take 71 = .ok (.goto 185, 3) := by decide +kernel
theorem dX10_take_74 : decode cX10_take 74 = .ok (.aload_n 0, 1) := by decide +kernel
theorem dX10_take_75 : decode cX10_take 75 = .ok (.getfield 9, 3) := by decide +kernel
theorem dX10_take_78 : decode cX10_take 78 = .ok (.aload_n 0, 1) := by decide +kernel
theorem dX10_take_79 : decode cX10_take 79 = .ok (.getfield 22, 3) := by decide +kernel
theorem dX10_take_82 : decode cX10_take 82 = .ok (.baload, 1) := by decide +kernel
theorem dX10_take_83 : decode cX10_take 83 = .ok (.invokestatic 50, 3) := by decide +kernel
theorem dX10_take_86 : decode cX10_take 86 = .ok (.ifCond .eq 47, 3) := by decide +kernel
theorem dX10_take_89 : decode cX10_take 89 = .ok (.aload_n 0, 1) := by decide +kernel
theorem dX10_take_90 : decode cX10_take 90 = .ok (.iconst 1, 1) := by decide +kernel
theorem dX10_take_91 : decode cX10_take 91 = .ok (.putfield 28, 3) := by decide +kernel
theorem dX10_take_94 : decode cX10_take 94 = .ok (.aload_n 0, 1) := by decide +kernel
theorem dX10_take_95 : decode cX10_take 95 = .ok (.getfield 25, 3) := by decide +kernel
theorem dX10_take_98 : decode cX10_take 98 = .ok (.aload_n 0, 1) := by decide +kernel
theorem dX10_take_99 : decode cX10_take 99 = .ok (.getfield 19, 3) := by decide +kernel
theorem dX10_take_102 : decode cX10_take 102 = .ok (.if_icmp .ge 154, 3) := by decide +kernel
theorem dX10_take_105 : decode cX10_take 105 = .ok (.aload_n 0, 1) := by decide +kernel
theorem dX10_take_106 : decode cX10_take 106 = .ok (.getfield 9, 3) := by decide +kernel
theorem dX10_take_109 : decode cX10_take 109 = .ok (.aload_n 0, 1) := by decide +kernel
theorem dX10_take_110 : decode cX10_take 110 = .ok (.getfield 25, 3) := by decide +kernel
theorem dX10_take_113 : decode cX10_take 113 = .ok (.baload, 1) := by decide +kernel
theorem dX10_take_114 : decode cX10_take 114 = .ok (.invokestatic 50, 3) := by decide +kernel
theorem dX10_take_117 : decode cX10_take 117 = .ok (.ifCond .eq 139, 3) := by decide +kernel
theorem dX10_take_120 : decode cX10_take 120 = .ok (.aload_n 0, 1) := by decide +kernel
theorem dX10_take_121 : decode cX10_take 121 = .ok (.dup, 1) := by decide +kernel
theorem dX10_take_122 : decode cX10_take 122 = .ok (.getfield 25, 3) := by decide +kernel
theorem dX10_take_125 : decode cX10_take 125 = .ok (.iconst 1, 1) := by decide +kernel
theorem dX10_take_126 : decode cX10_take 126 = .ok (.iadd, 1) := by decide +kernel
theorem dX10_take_127 : decode cX10_take 127 = .ok (.putfield 25, 3) := by decide +kernel
theorem dX10_take_130 : decode cX10_take 130 = .ok (.goto (-36), 3) := by decide +kernel
theorem dX10_take_133 : decode cX10_take 133 = .ok (.aload_n 0, 1) := by decide +kernel
theorem dX10_take_134 : decode cX10_take 134 = .ok (.getfield 9, 3) := by decide +kernel
theorem dX10_take_137 : decode cX10_take 137 = .ok (.aload_n 0, 1) := by decide +kernel
theorem dX10_take_138 : decode cX10_take 138 = .ok (.getfield 22, 3) := by decide +kernel
theorem dX10_take_141 : decode cX10_take 141 = .ok (.baload, 1) := by decide +kernel
theorem dX10_take_142 : decode cX10_take 142 = .ok (.invokestatic 53, 3) := by decide +kernel
theorem dX10_take_145 : decode cX10_take 145 = .ok (.ifCond .eq 96, 3) := by decide +kernel
theorem dX10_take_148 : decode cX10_take 148 = .ok (.aload_n 0, 1) := by decide +kernel
theorem dX10_take_149 : decode cX10_take 149 = .ok (.iconst 2, 1) := by decide +kernel
theorem dX10_take_150 : decode cX10_take 150 = .ok (.putfield 28, 3) := by decide +kernel
theorem dX10_take_153 : decode cX10_take 153 = .ok (.aload_n 0, 1) := by decide +kernel
theorem dX10_take_154 : decode cX10_take 154 = .ok (.iconst 0, 1) := by decide +kernel
theorem dX10_take_155 : decode cX10_take 155 = .ok (.putfield 31, 3) := by decide +kernel
theorem dX10_take_158 : decode cX10_take 158 = .ok (.aload_n 0, 1) := by decide +kernel
theorem dX10_take_159 : decode cX10_take 159 = .ok (.getfield 25, 3) := by decide +kernel
theorem dX10_take_162 : decode cX10_take 162 = .ok (.aload_n 0, 1) := by decide +kernel
theorem dX10_take_163 : decode cX10_take 163 = .ok (.getfield 19, 3) := by decide +kernel
theorem dX10_take_166 : decode cX10_take 166 = .ok (.if_icmp .ge 90, 3) := by decide +kernel
theorem dX10_take_169 : decode cX10_take 169 = .ok (.aload_n 0, 1) := by decide +kernel
theorem dX10_take_170 : decode cX10_take 170 = .ok (.getfield 9, 3) := by decide +kernel
theorem dX10_take_173 : decode cX10_take 173 = .ok (.aload_n 0, 1) := by decide +kernel
theorem dX10_take_174 : decode cX10_take 174 = .ok (.getfield 25, 3) := by decide +kernel
theorem dX10_take_177 : decode cX10_take 177 = .ok (.baload, 1) := by decide +kernel
theorem dX10_take_178 : decode cX10_take 178 = .ok (.invokestatic 53, 3) := by decide +kernel
theorem dX10_take_181 : decode cX10_take 181 = .ok (.ifCond .eq 75, 3) := by decide +kernel
theorem dX10_take_184 : decode cX10_take 184 = .ok (.aload_n 0, 1) := by decide +kernel
theorem dX10_take_185 : decode cX10_take 185 = .ok (.aload_n 0, 1) := by decide +kernel
theorem dX10_take_186 : decode cX10_take 186 = .ok (.getfield 25, 3) := by decide +kernel
theorem dX10_take_189 : decode cX10_take 189 = .ok (.aload_n 0, 1) := by decide +kernel
theorem dX10_take_190 : decode cX10_take 190 = .ok (.getfield 22, 3) := by decide +kernel
theorem dX10_take_193 : decode cX10_take 193 = .ok (.isub, 1) := by decide +kernel
theorem dX10_take_194 : decode cX10_take 194 = .ok (.iconst 4, 1) := by decide +kernel
theorem dX10_take_195 : decode cX10_take 195 = .ok (.if_icmp .ge 26, 3) := by decide +kernel
theorem dX10_take_198 : decode cX10_take 198 = .ok (.aload_n 0, 1) := by decide +kernel
theorem dX10_take_199 : decode cX10_take 199 = .ok (.getfield 31, 3) := by decide +kernel
theorem dX10_take_202 : decode cX10_take 202 = .ok (.bipush 10, 2) := by decide +kernel
theorem dX10_take_204 : decode cX10_take 204 = .ok (.imul, 1) := by decide +kernel
theorem dX10_take_205 : decode cX10_take 205 = .ok (.aload_n 0, 1) := by decide +kernel
theorem dX10_take_206 : decode cX10_take 206 = .ok (.getfield 9, 3) := by decide +kernel
theorem dX10_take_209 : decode cX10_take 209 = .ok (.aload_n 0, 1) := by decide +kernel
theorem dX10_take_210 : decode cX10_take 210 = .ok (.getfield 25, 3) := by decide +kernel
theorem dX10_take_213 : decode cX10_take 213 = .ok (.baload, 1) := by decide +kernel
theorem dX10_take_214 : decode cX10_take 214 = .ok (.iadd, 1) := by decide +kernel
theorem dX10_take_215 : decode cX10_take 215 = .ok (.bipush 48, 2) := by decide +kernel
theorem dX10_take_217 : decode cX10_take 217 = .ok (.isub, 1) := by decide +kernel
theorem dX10_take_218 : decode cX10_take 218 = .ok (.goto 7, 3) := by decide +kernel
theorem dX10_take_221 : decode cX10_take 221 = .ok (.aload_n 0, 1) := by decide +kernel
theorem dX10_take_222 : decode cX10_take 222 = .ok (.getfield 31, 3) := by decide +kernel
theorem dX10_take_225 : decode cX10_take 225 = .ok (.putfield 31, 3) := by decide +kernel
theorem dX10_take_228 : decode cX10_take 228 = .ok (.aload_n 0, 1) := by decide +kernel
theorem dX10_take_229 : decode cX10_take 229 = .ok (.dup, 1) := by decide +kernel
theorem dX10_take_230 : decode cX10_take 230 = .ok (.getfield 25, 3) := by decide +kernel
theorem dX10_take_233 : decode cX10_take 233 = .ok (.iconst 1, 1) := by decide +kernel
theorem dX10_take_234 : decode cX10_take 234 = .ok (.iadd, 1) := by decide +kernel
theorem dX10_take_235 : decode cX10_take 235 = .ok (.putfield 25, 3) := by decide +kernel
theorem dX10_take_238 : decode cX10_take 238 = .ok (.goto (-80), 3) := by decide +kernel
theorem dX10_take_241 : decode cX10_take 241 = .ok (.aload_n 0, 1) := by decide +kernel
theorem dX10_take_242 : decode cX10_take 242 = .ok (.iconst 3, 1) := by decide +kernel
theorem dX10_take_243 : decode cX10_take 243 = .ok (.putfield 28, 3) := by decide +kernel
theorem dX10_take_246 : decode cX10_take 246 = .ok (.aload_n 0, 1) := by decide +kernel
theorem dX10_take_247 : decode cX10_take 247 = .ok (.dup, 1) := by decide +kernel
theorem dX10_take_248 : decode cX10_take 248 = .ok (.getfield 25, 3) := by decide +kernel
theorem dX10_take_251 : decode cX10_take 251 = .ok (.iconst 1, 1) := by decide +kernel
theorem dX10_take_252 : decode cX10_take 252 = .ok (.iadd, 1) := by decide +kernel
theorem dX10_take_253 : decode cX10_take 253 = .ok (.putfield 25, 3) := by decide +kernel
theorem dX10_take_256 : decode cX10_take 256 = .ok (.return_, 1) := by decide +kernel
theorem dX10_isTooLong_0 : decode cX10_isTooLong 0 = .ok (.aload_n 0, 1) := by decide +kernel
theorem dX10_isTooLong_1 : decode cX10_isTooLong 1 = .ok (.getfield 25, 3) := by decide +kernel
theorem dX10_isTooLong_4 : decode cX10_isTooLong 4 = .ok (.aload_n 0, 1) := by decide +kernel
theorem dX10_isTooLong_5 : decode cX10_isTooLong 5 = .ok (.getfield 22, 3) := by decide +kernel
theorem dX10_isTooLong_8 : decode cX10_isTooLong 8 = .ok (.isub, 1) := by decide +kernel
theorem dX10_isTooLong_9 : decode cX10_isTooLong 9 = .ok (.iconst 4, 1) := by decide +kernel
theorem dX10_isTooLong_10 : decode cX10_isTooLong 10 = .ok (.if_icmp .le 7, 3) := by decide +kernel
theorem dX10_isTooLong_13 : decode cX10_isTooLong 13 = .ok (.iconst 1, 1) := by decide +kernel
theorem dX10_isTooLong_14 : decode cX10_isTooLong 14 = .ok (.goto 4, 3) := by decide +kernel
theorem dX10_isTooLong_17 : decode cX10_isTooLong 17 = .ok (.iconst 0, 1) := by decide +kernel
theorem dX10_isTooLong_18 : decode cX10_isTooLong 18 = .ok (.ireturn, 1) := by decide +kernel
theorem dX10_isWord_0 : decode cX10_isWord 0 = .ok (.aload_n 0, 1) := by decide +kernel
theorem dX10_isWord_1 : decode cX10_isWord 1 = .ok (.getfield 28, 3) := by decide +kernel
theorem dX10_isWord_4 : decode cX10_isWord 4 = .ok (.iconst 1, 1) := by decide +kernel
theorem dX10_isWord_5 : decode cX10_isWord 5 = .ok (.if_icmp .ne 19, 3) := by decide +kernel
theorem dX10_isWord_8 : decode cX10_isWord 8 = .ok (.aload_n 1, 1) := by decide +kernel
theorem dX10_isWord_9 : decode cX10_isWord 9 = .ok (.invokevirtual 56, 3) := by decide +kernel
theorem dX10_isWord_12 : decode cX10_isWord 12 = .ok (.aload_n 0, 1) := by decide +kernel
theorem dX10_isWord_13 : decode cX10_isWord 13 = .ok (.getfield 25, 3) := by decide +kernel
theorem dX10_isWord_16 : decode cX10_isWord 16 = .ok (.aload_n 0, 1) := by decide +kernel
theorem dX10_isWord_17 : decode cX10_isWord 17 = .ok (.getfield 22, 3) := by decide +kernel
theorem dX10_isWord_20 : decode cX10_isWord 20 = .ok (.isub, 1) := by decide +kernel
theorem dX10_isWord_21 : decode cX10_isWord 21 = .ok (.if_icmp .eq 5, 3) := by decide +kernel
theorem dX10_isWord_24 : decode cX10_isWord 24 = .ok (.iconst 0, 1) := by decide +kernel
theorem dX10_isWord_25 : decode cX10_isWord 25 = .ok (.ireturn, 1) := by decide +kernel
theorem dX10_isWord_26 : decode cX10_isWord 26 = .ok (.aload_n 0, 1) := by decide +kernel
theorem dX10_isWord_27 : decode cX10_isWord 27 = .ok (.getfield 22, 3) := by decide +kernel
theorem dX10_isWord_30 : decode cX10_isWord 30 = .ok (.istore_n 2, 1) := by decide +kernel
theorem dX10_isWord_31 : decode cX10_isWord 31 = .ok (.iload_n 2, 1) := by decide +kernel
theorem dX10_isWord_32 : decode cX10_isWord 32 = .ok (.aload_n 0, 1) := by decide +kernel
theorem dX10_isWord_33 : decode cX10_isWord 33 = .ok (.getfield 25, 3) := by decide +kernel
theorem dX10_isWord_36 : decode cX10_isWord 36 = .ok (.if_icmp .ge 30, 3) := by decide +kernel
theorem dX10_isWord_39 : decode cX10_isWord 39 = .ok (.aload_n 0, 1) := by decide +kernel
theorem dX10_isWord_40 : decode cX10_isWord 40 = .ok (.getfield 9, 3) := by decide +kernel
theorem dX10_isWord_43 : decode cX10_isWord 43 = .ok (.iload_n 2, 1) := by decide +kernel
theorem dX10_isWord_44 : decode cX10_isWord 44 = .ok (.baload, 1) := by decide +kernel
theorem dX10_isWord_45 : decode cX10_isWord 45 = .ok (.aload_n 1, 1) := by decide +kernel
theorem dX10_isWord_46 : decode cX10_isWord 46 = .ok (.iload_n 2, 1) := by decide +kernel
theorem dX10_isWord_47 : decode cX10_isWord 47 = .ok (.aload_n 0, 1) := by decide +kernel
theorem dX10_isWord_48 : decode cX10_isWord 48 = .ok (.getfield 22, 3) := by decide +kernel
theorem dX10_isWord_51 : decode cX10_isWord 51 = .ok (.isub, 1) := by decide +kernel
theorem dX10_isWord_52 : decode cX10_isWord 52 = .ok (.invokevirtual 61, 3) := by decide +kernel
theorem dX10_isWord_55 : decode cX10_isWord 55 = .ok (.if_icmp .eq 5, 3) := by decide +kernel
theorem dX10_isWord_58 : decode cX10_isWord 58 = .ok (.iconst 0, 1) := by decide +kernel
theorem dX10_isWord_59 : decode cX10_isWord 59 = .ok (.ireturn, 1) := by decide +kernel
theorem dX10_isWord_60 : decode cX10_isWord 60 = .ok (.iinc 2 1, 3) := by decide +kernel
theorem dX10_isWord_63 : decode cX10_isWord 63 = .ok (.goto (-32), 3) := by decide +kernel
theorem dX10_isWord_66 : decode cX10_isWord 66 = .ok (.iconst 1, 1) := by decide +kernel
theorem dX10_isWord_67 : decode cX10_isWord 67 = .ok (.ireturn, 1) := by decide +kernel
theorem dX10_isSign_0 : decode cX10_isSign 0 = .ok (.aload_n 0, 1) := by decide +kernel
theorem dX10_isSign_1 : decode cX10_isSign 1 = .ok (.getfield 28, 3) := by decide +kernel
theorem dX10_isSign_4 : decode cX10_isSign 4 = .ok (.iconst 3, 1) := by decide +kernel
theorem dX10_isSign_5 : decode cX10_isSign 5 = .ok (.if_icmp .ne 31, 3) := by decide +kernel
theorem dX10_isSign_8 : decode cX10_isSign 8 = .ok (.aload_n 0, 1) := by decide +kernel
theorem dX10_isSign_9 : decode cX10_isSign 9 = .ok (.getfield 22, 3) := by decide +kernel
theorem dX10_isSign_12 : decode cX10_isSign 12 = .ok (.aload_n 0, 1) := by decide +kernel
theorem dX10_isSign_13 : decode cX10_isSign 13 = .ok (.getfield 19, 3) := by decide +kernel
theorem dX10_isSign_16 : decode cX10_isSign 16 = .ok (.if_icmp .ge 20, 3) := by decide +kernel
theorem dX10_isSign_19 : decode cX10_isSign 19 = .ok (.aload_n 0, 1) := by decide +kernel
theorem dX10_isSign_20 : decode cX10_isSign 20 = .ok (.getfield 9, 3) := by decide +kernel
theorem dX10_isSign_23 : decode cX10_isSign 23 = .ok (.aload_n 0, 1) := by decide +kernel
theorem dX10_isSign_24 : decode cX10_isSign 24 = .ok (.getfield 22, 3) := by decide +kernel
theorem dX10_isSign_27 : decode cX10_isSign 27 = .ok (.baload, 1) := by decide +kernel
theorem dX10_isSign_28 : decode cX10_isSign 28 = .ok (.iload_n 1, 1) := by decide +kernel
theorem dX10_isSign_29 : decode cX10_isSign 29 = .ok (.if_icmp .ne 7, 3) := by decide +kernel
theorem dX10_isSign_32 : decode cX10_isSign 32 = .ok (.iconst 1, 1) := by decide +kernel
theorem dX10_isSign_33 : decode cX10_isSign 33 = .ok (.goto 4, 3) := by decide +kernel
theorem dX10_isSign_36 : decode cX10_isSign 36 = .ok (.iconst 0, 1) := by decide +kernel
theorem dX10_isSign_37 : decode cX10_isSign 37 = .ok (.ireturn, 1) := by decide +kernel
theorem dX10_isBlank_0 : decode cX10_isBlank 0 = .ok (.iload_n 0, 1) := by decide +kernel
theorem dX10_isBlank_1 : decode cX10_isBlank 1 = .ok (.bipush 32, 2) := by decide +kernel
theorem dX10_isBlank_3 : decode cX10_isBlank 3 = .ok (.if_icmp .eq 9, 3) := by decide +kernel
theorem dX10_isBlank_6 : decode cX10_isBlank 6 = .ok (.iload_n 0, 1) := by decide +kernel
theorem dX10_isBlank_7 : decode cX10_isBlank 7 = .ok (.bipush 10, 2) := by decide +kernel
theorem dX10_isBlank_9 : decode cX10_isBlank 9 = .ok (.if_icmp .ne 7, 3) := by decide +kernel
theorem dX10_isBlank_12 : decode cX10_isBlank 12 = .ok (.iconst 1, 1) := by decide +kernel
theorem dX10_isBlank_13 : decode cX10_isBlank 13 = .ok (.goto 4, 3) := by decide +kernel
theorem dX10_isBlank_16 : decode cX10_isBlank 16 = .ok (.iconst 0, 1) := by decide +kernel
theorem dX10_isBlank_17 : decode cX10_isBlank 17 = .ok (.ireturn, 1) := by decide +kernel
theorem dX10_isLetter_0 : decode cX10_isLetter 0 = .ok (.iload_n 0, 1) := by decide +kernel
theorem dX10_isLetter_1 : decode cX10_isLetter 1 = .ok (.bipush 97, 2) := by decide +kernel
theorem dX10_isLetter_3 : decode cX10_isLetter 3 = .ok (.if_icmp .lt 13, 3) := by decide +kernel
theorem dX10_isLetter_6 : decode cX10_isLetter 6 = .ok (.iload_n 0, 1) := by decide +kernel
theorem dX10_isLetter_7 : decode cX10_isLetter 7 = .ok (.bipush 122, 2) := by decide +kernel
theorem dX10_isLetter_9 : decode cX10_isLetter 9 = .ok (.if_icmp .gt 7, 3) := by decide +kernel
theorem dX10_isLetter_12 : decode cX10_isLetter 12 = .ok (.iconst 1, 1) := by decide +kernel
theorem dX10_isLetter_13 : decode cX10_isLetter 13 = .ok (.goto 4, 3) := by decide +kernel
theorem dX10_isLetter_16 : decode cX10_isLetter 16 = .ok (.iconst 0, 1) := by decide +kernel
theorem dX10_isLetter_17 : decode cX10_isLetter 17 = .ok (.ireturn, 1) := by decide +kernel
theorem dX10_isDigit_0 : decode cX10_isDigit 0 = .ok (.iload_n 0, 1) := by decide +kernel
theorem dX10_isDigit_1 : decode cX10_isDigit 1 = .ok (.bipush 48, 2) := by decide +kernel
theorem dX10_isDigit_3 : decode cX10_isDigit 3 = .ok (.if_icmp .lt 13, 3) := by decide +kernel
theorem dX10_isDigit_6 : decode cX10_isDigit 6 = .ok (.iload_n 0, 1) := by decide +kernel
theorem dX10_isDigit_7 : decode cX10_isDigit 7 = .ok (.bipush 57, 2) := by decide +kernel
theorem dX10_isDigit_9 : decode cX10_isDigit 9 = .ok (.if_icmp .gt 7, 3) := by decide +kernel
theorem dX10_isDigit_12 : decode cX10_isDigit 12 = .ok (.iconst 1, 1) := by decide +kernel
theorem dX10_isDigit_13 : decode cX10_isDigit 13 = .ok (.goto 4, 3) := by decide +kernel
theorem dX10_isDigit_16 : decode cX10_isDigit 16 = .ok (.iconst 0, 1) := by decide +kernel
theorem dX10_isDigit_17 : decode cX10_isDigit 17 = .ok (.ireturn, 1) := by decide +kernel
theorem dX11_init_0 : decode cX11_init 0 = .ok (.aload_n 0, 1) := by decide +kernel
theorem dX11_init_1 : decode cX11_init 1 = .ok (.invokespecial 1, 3) := by decide +kernel
theorem dX11_init_4 : decode cX11_init 4 = .ok (.aload_n 0, 1) := by decide +kernel
theorem dX11_init_5 : decode cX11_init 5 = .ok (.new 7, 3) := by decide +kernel
theorem dX11_init_8 : decode cX11_init 8 = .ok (.dup, 1) := by decide +kernel
theorem dX11_init_9 : decode cX11_init 9 = .ok (.invokespecial 9, 3) := by decide +kernel
theorem dX11_init_12 : decode cX11_init 12 = .ok (.putfield 10, 3) := by decide +kernel
theorem dX11_init_15 : decode cX11_init 15 = .ok (.aload_n 0, 1) := by decide +kernel
theorem dX11_init_16 : decode cX11_init 16 = .ok (.new 16, 3) := by decide +kernel
theorem dX11_init_19 : decode cX11_init 19 = .ok (.dup, 1) := by decide +kernel
theorem dX11_init_20 : decode cX11_init 20 = .ok (.invokespecial 18, 3) := by decide +kernel
theorem dX11_init_23 : decode cX11_init 23 = .ok (.putfield 19, 3) := by decide +kernel
theorem dX11_init_26 : decode cX11_init 26 = .ok (.aload_n 0, 1) := by decide +kernel
theorem dX11_init_27 : decode cX11_init 27 = .ok (.new 16, 3) := by decide +kernel
theorem dX11_init_30 : decode cX11_init 30 = .ok (.dup, 1) := by decide +kernel
theorem dX11_init_31 : decode cX11_init 31 = .ok (.invokespecial 18, 3) := by decide +kernel
theorem dX11_init_34 : decode cX11_init 34 = .ok (.putfield 23, 3) := by decide +kernel
theorem dX11_init_37 : decode cX11_init 37 = .ok (.aload_n 0, 1) := by decide +kernel
theorem dX11_init_38 : decode cX11_init 38 = .ok (.new 26, 3) := by decide +kernel
theorem dX11_init_41 : decode cX11_init 41 = .ok (.dup, 1) := by decide +kernel
theorem dX11_init_42 : decode cX11_init 42 = .ok (.invokespecial 28, 3) := by decide +kernel
theorem dX11_init_45 : decode cX11_init 45 = .ok (.putfield 29, 3) := by decide +kernel
theorem dX11_init_48 : decode cX11_init 48 = .ok (.aload_n 0, 1) := by decide +kernel
theorem dX11_init_49 : decode cX11_init 49 = .ok (.new 33, 3) := by decide +kernel
theorem dX11_init_52 : decode cX11_init 52 = .ok (.dup, 1) := by decide +kernel
theorem dX11_init_53 : decode cX11_init 53 = .ok (.invokespecial 35, 3) := by decide +kernel
theorem dX11_init_56 : decode cX11_init 56 = .ok (.putfield 36, 3) := by decide +kernel
theorem dX11_init_59 : decode cX11_init 59 = .ok (.aload_n 0, 1) := by decide +kernel
theorem dX11_init_60 : decode cX11_init 60 = .ok (.new 40, 3) := by decide +kernel
theorem dX11_init_63 : decode cX11_init 63 = .ok (.dup, 1) := by decide +kernel
theorem dX11_init_64 : decode cX11_init 64 = .ok (.invokespecial 42, 3) := by decide +kernel
theorem dX11_init_67 : decode cX11_init 67 = .ok (.putfield 43, 3) := by decide +kernel
theorem dX11_init_70 : decode cX11_init 70 = .ok (.aload_n 0, 1) := by decide +kernel
theorem dX11_init_71 : decode cX11_init 71 = .ok (.iconst 3, 1) := by decide +kernel
theorem dX11_init_72 : decode cX11_init 72 = .ok (.newarray .int, 2) := by decide +kernel
theorem dX11_init_74 : decode cX11_init 74 = .ok (.putfield 47, 3) := by decide +kernel
theorem dX11_init_77 : decode cX11_init 77 = .ok (.aload_n 0, 1) := by decide +kernel
theorem dX11_init_78 : decode cX11_init 78 = .ok (.iconst 4, 1) := by decide +kernel
theorem dX11_init_79 : decode cX11_init 79 = .ok (.newarray .int, 2) := by decide +kernel
theorem dX11_init_81 : decode cX11_init 81 = .ok (.putfield 51, 3) := by decide +kernel
theorem dX11_init_84 : decode cX11_init 84 = .ok (.aload_n 0, 1) := by decide +kernel
theorem dX11_init_85 : decode cX11_init 85 = .ok (.iconst 4, 1) := by decide +kernel
theorem dX11_init_86 : decode cX11_init 86 = .ok (.newarray .int, 2) := by decide +kernel
theorem dX11_init_88 : decode cX11_init 88 = .ok (.putfield 54, 3) := by decide +kernel
theorem dX11_init_91 : decode cX11_init 91 = .ok (.aload_n 0, 1) := by decide +kernel
theorem dX11_init_92 : decode cX11_init 92 = .ok (.iconst 0, 1) := by decide +kernel
theorem dX11_init_93 : decode cX11_init 93 = .ok (.putfield 57, 3) := by decide +kernel
theorem dX11_init_96 : decode cX11_init 96 = .ok (.aload_n 0, 1) := by decide +kernel
theorem dX11_init_97 : decode cX11_init 97 = .ok (.iconst (-1), 1) := by decide +kernel
theorem dX11_init_98 : decode cX11_init 98 = .ok (.putfield 61, 3) := by decide +kernel
theorem dX11_init_101 : decode cX11_init 101 = .ok (.aload_n 0, 1) := by decide +kernel
theorem dX11_init_102 : decode cX11_init 102 = .ok (.iconst 0, 1) := by decide +kernel
theorem dX11_init_103 : decode cX11_init 103 = .ok (.putfield 65, 3) := by decide +kernel
theorem dX11_init_106 : decode cX11_init 106 = .ok (.return_, 1) := by decide +kernel
theorem dX11_feed_0 : decode cX11_feed 0 = .ok (.aload_n 0, 1) := by decide +kernel
theorem dX11_feed_1 : decode cX11_feed 1 = .ok (.getfield 10, 3) := by decide +kernel
theorem dX11_feed_4 : decode cX11_feed 4 = .ok (.getfield 68, 3) := by decide +kernel
theorem dX11_feed_7 : decode cX11_feed 7 = .ok (.astore 6, 2) := by decide +kernel
theorem dX11_feed_9 : decode cX11_feed 9 = .ok (.aload 6, 2) := by decide +kernel
theorem dX11_feed_11 : decode cX11_feed 11 = .ok (.getfield 72, 3) := by decide +kernel
theorem dX11_feed_14 : decode cX11_feed 14 = .ok (.bipush 20, 2) := by decide +kernel
theorem dX11_feed_16 : decode cX11_feed 16 = .ok (.iadd, 1) := by decide +kernel
theorem dX11_feed_17 : decode cX11_feed 17 = .ok (.sipush 700, 3) := by decide +kernel
theorem dX11_feed_20 : decode cX11_feed 20 = .ok (.if_icmp .le 5, 3) := by decide +kernel
theorem dX11_feed_23 : decode cX11_feed 23 = .ok (.iconst (-1), 1) := by decide +kernel
theorem dX11_feed_24 : decode cX11_feed 24 = .ok (.ireturn, 1) := by decide +kernel
theorem dX11_feed_25 : decode cX11_feed 25 = .ok (.aload 6, 2) := by decide +kernel
theorem dX11_feed_27 : decode cX11_feed 27 = .ok (.iload_n 1, 1) := by decide +kernel
theorem dX11_feed_28 : decode cX11_feed 28 = .ok (.invokevirtual 77, 3) := by decide +kernel
theorem dX11_feed_31 : decode cX11_feed 31 = .ok (.aload 6, 2) := by decide +kernel
theorem dX11_feed_33 : decode cX11_feed 33 = .ok (.iload_n 2, 1) := by decide +kernel
theorem dX11_feed_34 : decode cX11_feed 34 = .ok (.invokevirtual 77, 3) := by decide +kernel
theorem dX11_feed_37 : decode cX11_feed 37 = .ok (.aload 6, 2) := by decide +kernel
theorem dX11_feed_39 : decode cX11_feed 39 = .ok (.iload_n 3, 1) := by decide +kernel
theorem dX11_feed_40 : decode cX11_feed 40 = .ok (.invokevirtual 77, 3) := by decide +kernel
theorem dX11_feed_43 : decode cX11_feed 43 = .ok (.aload 6, 2) := by decide +kernel
theorem dX11_feed_45 : decode cX11_feed 45 = .ok (.iload 4, 2) := by decide +kernel
theorem dX11_feed_47 : decode cX11_feed 47 = .ok (.invokevirtual 77, 3) := by decide +kernel
theorem dX11_feed_50 : decode cX11_feed 50 = .ok (.aload 6, 2) := by decide +kernel
theorem dX11_feed_52 : decode cX11_feed 52 = .ok (.iload 5, 2) := by decide +kernel
theorem dX11_feed_54 : decode cX11_feed 54 = .ok (.invokevirtual 77, 3) := by decide +kernel
theorem dX11_feed_57 : decode cX11_feed 57 = .ok (.aload 6, 2) := by decide +kernel
theorem dX11_feed_59 : decode cX11_feed 59 = .ok (.getfield 72, 3) := by decide +kernel
theorem dX11_feed_62 : decode cX11_feed 62 = .ok (.ireturn, 1) := by decide +kernel
theorem dX11_cave_0 : decode cX11_cave 0 = .ok (.iload_n 1, 1) := by decide +kernel
theorem dX11_cave_1 : decode cX11_cave 1 = .ok (.iconst 0, 1) := by decide +kernel
theorem dX11_cave_2 : decode cX11_cave 2 = .ok (.aload_n 0, 1) := by decide +kernel
theorem dX11_cave_3 : decode cX11_cave 3 = .ok (.getfield 10, 3) := by decide +kernel
theorem dX11_cave_6 : decode cX11_cave 6 = .ok (.getfield 68, 3) := by decide +kernel
theorem dX11_cave_9 : decode cX11_cave 9 = .ok (.getfield 72, 3) := by decide +kernel
theorem dX11_cave_12 : decode cX11_cave 12 = .ok (.invokestatic 81, 3) := by decide +kernel
theorem dX11_cave_15 : decode cX11_cave 15 = .ok (.aload_n 0, 1) := by decide +kernel
theorem dX11_cave_16 : decode cX11_cave 16 = .ok (.getfield 10, 3) := by decide +kernel
theorem dX11_cave_19 : decode cX11_cave 19 = .ok (.iload_n 1, 1) := by decide +kernel
theorem dX11_cave_20 : decode cX11_cave 20 = .ok (.invokevirtual 85, 3) := by decide +kernel
theorem dX11_cave_23 : decode cX11_cave 23 = .ok (.istore_n 2, 1) := by decide +kernel
theorem dX11_cave_24 : decode cX11_cave 24 = .ok (.aload_n 0, 1) := by decide +kernel
theorem dX11_cave_25 : decode cX11_cave 25 = .ok (.getfield 10, 3) := by decide +kernel
theorem dX11_cave_28 : decode cX11_cave 28 = .ok (.getfield 68, 3) := by decide +kernel
theorem dX11_cave_31 : decode cX11_cave 31 = .ok (.iconst 0, 1) := by decide +kernel
theorem dX11_cave_32 : decode cX11_cave 32 = .ok (.putfield 72, 3) := by decide +kernel
theorem dX11_cave_35 : decode cX11_cave 35 = .ok (.iload_n 2, 1) := by decide +kernel
theorem dX11_cave_36 : decode cX11_cave 36 = .ok (.ifCond .eq 26, 3) := by decide +kernel
theorem dX11_cave_39 : decode cX11_cave 39 = .ok (.aload_n 0, 1) := by decide +kernel
theorem dX11_cave_40 : decode cX11_cave 40 = .ok (.aload_n 0, 1) := by decide +kernel
theorem dX11_cave_41 : decode cX11_cave 41 = .ok (.getfield 10, 3) := by decide +kernel
theorem dX11_cave_44 : decode cX11_cave 44 = .ok (.getfield 89, 3) := by decide +kernel
theorem dX11_cave_47 : decode cX11_cave 47 = .ok (.putfield 61, 3) := by decide +kernel
theorem dX11_cave_50 : decode cX11_cave 50 = .ok (.aload_n 0, 1) := by decide +kernel
theorem dX11_cave_51 : decode cX11_cave 51 = .ok (.getfield 47, 3) := by decide +kernel
theorem dX11_cave_54 : decode cX11_cave 54 = .ok (.iconst 0, 1) := by decide +kernel
theorem dX11_cave_55 : decode cX11_cave 55 = .ok (.dup2, 1) := by decide +kernel
theorem dX11_cave_56 : decode cX11_cave 56 = .ok (.iaload, 1) := by decide +kernel
theorem dX11_cave_57 : decode cX11_cave 57 = .ok (.iconst 1, 1) := by decide +kernel
theorem dX11_cave_58 : decode cX11_cave 58 = .ok (.iadd, 1) := by decide +kernel
theorem dX11_cave_59 : decode cX11_cave 59 = .ok (.iastore, 1) := by decide +kernel
theorem dX11_cave_60 : decode cX11_cave 60 = .ok (.iload_n 2, 1) := by decide +kernel
theorem dX11_cave_61 : decode cX11_cave 61 = .ok (.ireturn, 1) := by decide +kernel
theorem dX11_cave_62 : decode cX11_cave 62 = .ok (.aload_n 0, 1) := by decide +kernel
theorem dX11_cave_63 : decode cX11_cave 63 = .ok (.getfield 29, 3) := by decide +kernel
theorem dX11_cave_66 : decode cX11_cave 66 = .ok (.getfield 92, 3) := by decide +kernel
theorem dX11_cave_69 : decode cX11_cave 69 = .ok (.astore_n 3, 1) := by decide +kernel
theorem dX11_cave_70 : decode cX11_cave 70 = .ok (.aload_n 0, 1) := by decide +kernel
theorem dX11_cave_71 : decode cX11_cave 71 = .ok (.getfield 29, 3) := by decide +kernel
theorem dX11_cave_74 : decode cX11_cave 74 = .ok (.aload_n 0, 1) := by decide +kernel
theorem dX11_cave_75 : decode cX11_cave 75 = .ok (.getfield 10, 3) := by decide +kernel
theorem dX11_cave_78 : decode cX11_cave 78 = .ok (.getfield 96, 3) := by decide +kernel
theorem dX11_cave_81 : decode cX11_cave 81 = .ok (.putfield 92, 3) := by decide +kernel
theorem dX11_cave_84 : decode cX11_cave 84 = .ok (.aload_n 0, 1) := by decide +kernel
theorem dX11_cave_85 : decode cX11_cave 85 = .ok (.getfield 10, 3) := by decide +kernel
theorem dX11_cave_88 : decode cX11_cave 88 = .ok (.aload_n 3, 1) := by decide +kernel
theorem dX11_cave_89 : decode cX11_cave 89 = .ok (.putfield 96, 3) := by decide +kernel
theorem dX11_cave_92 : decode cX11_cave 92 = .ok (.aload_n 0, 1) := by decide +kernel
theorem dX11_cave_93 : decode cX11_cave 93 = .ok (.iconst (-1), 1) := by decide +kernel
theorem dX11_cave_94 : decode cX11_cave 94 = .ok (.putfield 61, 3) := by decide +kernel
theorem dX11_cave_97 : decode cX11_cave 97 = .ok (.aload_n 0, 1) := by decide +kernel
theorem dX11_cave_98 : decode cX11_cave 98 = .ok (.getfield 19, 3) := by decide +kernel
theorem dX11_cave_101 : decode cX11_cave 101 = .ok (.aload_n 0, 1) := by decide +kernel
theorem dX11_cave_102 : decode cX11_cave 102 = .ok (.getfield 29, 3) := by decide +kernel
theorem dX11_cave_105 : decode cX11_cave 105 = .ok (.getfield 92, 3) := by decide +kernel
theorem dX11_cave_108 : decode cX11_cave 108 = .ok (.getfield 99, 3) := by decide +kernel
theorem dX11_cave_111 : decode cX11_cave 111 = .ok (.invokevirtual 105, 3) := by decide +kernel
theorem dX11_cave_114 : decode cX11_cave 114 = .ok (.aload_n 0, 1) := by decide +kernel
theorem dX11_cave_115 : decode cX11_cave 115 = .ok (.iconst 0, 1) := by decide +kernel
theorem dX11_cave_116 : decode cX11_cave 116 = .ok (.putfield 57, 3) := by decide +kernel
theorem dX11_cave_119 : decode cX11_cave 119 = .ok (.iconst 0, 1) := by decide +kernel
theorem dX11_cave_120 : decode cX11_cave 120 = .ok (.ireturn, 1) := by decide +kernel
theorem dX11_fault_0 : decode cX11_fault 0 = .ok (.aload_n 0, 1) := by decide +kernel
theorem dX11_fault_1 : decode cX11_fault 1 = .ok (.getfield 61, 3) := by decide +kernel
theorem dX11_fault_4 : decode cX11_fault 4 = .ok (.ireturn, 1) := by decide +kernel
theorem dX11_count_0 : decode cX11_count 0 = .ok (.iload_n 1, 1) := by decide +kernel
theorem dX11_count_1 : decode cX11_count 1 = .ok (.bipush 12, 2) := by decide +kernel
theorem dX11_count_3 : decode cX11_count 3 = .ok (.invokestatic 109, 3) := by decide +kernel
theorem dX11_count_6 : decode cX11_count 6 = .ok (.iload_n 1, 1) := by decide +kernel
theorem dX11_count_7 : decode cX11_count 7 = .ok (.tableswitch 189 0 11 #[61, 72, 83, 94, 105, 116, 137, 142, 153, 164, 175, 182], 61) := by decide +kernel
theorem dX11_count_68 : decode cX11_count 68 = .ok (.aload_n 0, 1) := by decide +kernel
theorem dX11_count_69 : decode cX11_count 69 = .ok (.getfield 29, 3) := by decide +kernel
theorem dX11_count_72 : decode cX11_count 72 = .ok (.getfield 92, 3) := by decide +kernel
theorem dX11_count_75 : decode cX11_count 75 = .ok (.getfield 113, 3) := by decide +kernel
theorem dX11_count_78 : decode cX11_count 78 = .ok (.ireturn, 1) := by decide +kernel
theorem dX11_count_79 : decode cX11_count 79 = .ok (.aload_n 0, 1) := by decide +kernel
theorem dX11_count_80 : decode cX11_count 80 = .ok (.getfield 19, 3) := by decide +kernel
theorem dX11_count_83 : decode cX11_count 83 = .ok (.getfield 116, 3) := by decide +kernel
theorem dX11_count_86 : decode cX11_count 86 = .ok (.getfield 118, 3) := by decide +kernel
theorem dX11_count_89 : decode cX11_count 89 = .ok (.ireturn, 1) := by decide +kernel
theorem dX11_count_90 : decode cX11_count 90 = .ok (.aload_n 0, 1) := by decide +kernel
theorem dX11_count_91 : decode cX11_count 91 = .ok (.getfield 19, 3) := by decide +kernel
theorem dX11_count_94 : decode cX11_count 94 = .ok (.getfield 116, 3) := by decide +kernel
theorem dX11_count_97 : decode cX11_count 97 = .ok (.getfield 123, 3) := by decide +kernel
theorem dX11_count_100 : decode cX11_count 100 = .ok (.ireturn, 1) := by decide +kernel
theorem dX11_count_101 : decode cX11_count 101 = .ok (.aload_n 0, 1) := by decide +kernel
theorem dX11_count_102 : decode cX11_count 102 = .ok (.getfield 19, 3) := by decide +kernel
theorem dX11_count_105 : decode cX11_count 105 = .ok (.getfield 116, 3) := by decide +kernel
theorem dX11_count_108 : decode cX11_count 108 = .ok (.invokevirtual 126, 3) := by decide +kernel
theorem dX11_count_111 : decode cX11_count 111 = .ok (.ireturn, 1) := by decide +kernel
theorem dX11_count_112 : decode cX11_count 112 = .ok (.aload_n 0, 1) := by decide +kernel
theorem dX11_count_113 : decode cX11_count 113 = .ok (.getfield 19, 3) := by decide +kernel
theorem dX11_count_116 : decode cX11_count 116 = .ok (.getfield 116, 3) := by decide +kernel
theorem dX11_count_119 : decode cX11_count 119 = .ok (.invokevirtual 130, 3) := by decide +kernel
theorem dX11_count_122 : decode cX11_count 122 = .ok (.ireturn, 1) := by decide +kernel
theorem dX11_count_123 : decode cX11_count 123 = .ok (.aload_n 0, 1) := by decide +kernel
theorem dX11_count_124 : decode cX11_count 124 = .ok (.getfield 19, 3) := by decide +kernel
theorem dX11_count_127 : decode cX11_count 127 = .ok (.getfield 116, 3) := by decide +kernel
theorem dX11_count_130 : decode cX11_count 130 = .ok (.aload_n 0, 1) := by decide +kernel
theorem dX11_count_131 : decode cX11_count 131 = .ok (.getfield 29, 3) := by decide +kernel
theorem dX11_count_134 : decode cX11_count 134 = .ok (.getfield 92, 3) := by decide +kernel
theorem dX11_count_137 : decode cX11_count 137 = .ok (.getfield 113, 3) := by decide +kernel
theorem dX11_count_140 : decode cX11_count 140 = .ok (.invokevirtual 133, 3) := by decide +kernel
theorem dX11_count_143 : decode cX11_count 143 = .ok (.ireturn, 1) := by decide +kernel
theorem dX11_count_144 : decode cX11_count 144 = .ok (.aload_n 0, 1) := by decide +kernel
theorem dX11_count_145 : decode cX11_count 145 = .ok (.invokevirtual 136, 3) := by decide +kernel
theorem dX11_count_148 : decode cX11_count 148 = .ok (.ireturn, 1) := by decide +kernel
theorem dX11_count_149 : decode cX11_count 149 = .ok (.aload_n 0, 1) := by decide +kernel
theorem dX11_count_150 : decode cX11_count 150 = .ok (.getfield 19, 3) := by decide +kernel
theorem dX11_count_153 : decode cX11_count 153 = .ok (.getfield 139, 3) := by decide +kernel
theorem dX11_count_156 : decode cX11_count 156 = .ok (.getfield 143, 3) := by decide +kernel
theorem dX11_count_159 : decode cX11_count 159 = .ok (.ireturn, 1) := by decide +kernel
theorem dX11_count_160 : decode cX11_count 160 = .ok (.aload_n 0, 1) := by decide +kernel
theorem dX11_count_161 : decode cX11_count 161 = .ok (.getfield 19, 3) := by decide +kernel
theorem dX11_count_164 : decode cX11_count 164 = .ok (.getfield 147, 3) := by decide +kernel
theorem dX11_count_167 : decode cX11_count 167 = .ok (.getfield 151, 3) := by decide +kernel
theorem dX11_count_170 : decode cX11_count 170 = .ok (.ireturn, 1) := by decide +kernel
theorem dX11_count_171 : decode cX11_count 171 = .ok (.aload_n 0, 1) := by decide +kernel
theorem dX11_count_172 : decode cX11_count 172 = .ok (.getfield 10, 3) := by decide +kernel
theorem dX11_count_175 : decode cX11_count 175 = .ok (.getfield 68, 3) := by decide +kernel
theorem dX11_count_178 : decode cX11_count 178 = .ok (.getfield 72, 3) := by decide +kernel
theorem dX11_count_181 : decode cX11_count 181 = .ok (.ireturn, 1) := by decide +kernel
theorem dX11_count_182 : decode cX11_count 182 = .ok (.aload_n 0, 1) := by decide +kernel
theorem dX11_count_183 : decode cX11_count 183 = .ok (.getfield 47, 3) := by decide +kernel
theorem dX11_count_186 : decode cX11_count 186 = .ok (.iconst 0, 1) := by decide +kernel
theorem dX11_count_187 : decode cX11_count 187 = .ok (.iaload, 1) := by decide +kernel
theorem dX11_count_188 : decode cX11_count 188 = .ok (.ireturn, 1) := by decide +kernel
theorem dX11_count_189 : decode cX11_count 189 = .ok (.aload_n 0, 1) := by decide +kernel
theorem dX11_count_190 : decode cX11_count 190 = .ok (.getfield 47, 3) := by decide +kernel
theorem dX11_count_193 : decode cX11_count 193 = .ok (.iconst 1, 1) := by decide +kernel
theorem dX11_count_194 : decode cX11_count 194 = .ok (.iaload, 1) := by decide +kernel
theorem dX11_count_195 : decode cX11_count 195 = .ok (.ireturn, 1) := by decide +kernel
theorem dX11_count_196 : decode cX11_count 196 = .ok (.aload_n 0, 1) := by decide +kernel
theorem dX11_count_197 : decode cX11_count 197 = .ok (.getfield 47, 3) := by decide +kernel
theorem dX11_count_200 : decode cX11_count 200 = .ok (.iconst 2, 1) := by decide +kernel
theorem dX11_count_201 : decode cX11_count 201 = .ok (.iaload, 1) := by decide +kernel
theorem dX11_count_202 : decode cX11_count 202 = .ok (.ireturn, 1) := by decide +kernel
theorem dX11_cup_0 : decode cX11_cup 0 = .ok (.aload_n 0, 1) := by decide +kernel
theorem dX11_cup_1 : decode cX11_cup 1 = .ok (.iload_n 1, 1) := by decide +kernel
theorem dX11_cup_2 : decode cX11_cup 2 = .ok (.invokevirtual 156, 3) := by decide +kernel
theorem dX11_cup_5 : decode cX11_cup 5 = .ok (.iload_n 2, 1) := by decide +kernel
theorem dX11_cup_6 : decode cX11_cup 6 = .ok (.bipush 8, 2) := by decide +kernel
theorem dX11_cup_8 : decode cX11_cup 8 = .ok (.invokestatic 109, 3) := by decide +kernel
theorem dX11_cup_11 : decode cX11_cup 11 = .ok (.aload_n 0, 1) := by decide +kernel
theorem dX11_cup_12 : decode cX11_cup 12 = .ok (.getfield 19, 3) := by decide +kernel
theorem dX11_cup_15 : decode cX11_cup 15 = .ok (.getfield 116, 3) := by decide +kernel
theorem dX11_cup_18 : decode cX11_cup 18 = .ok (.astore_n 3, 1) := by decide +kernel
theorem dX11_cup_19 : decode cX11_cup 19 = .ok (.iload_n 2, 1) := by decide +kernel
theorem dX11_cup_20 : decode cX11_cup 20 = .ok (.tableswitch 116 0 7 #[48, 55, 62, 75, 82, 89, 96, 110], 48) := by decide +kernel
theorem dX11_cup_68 : decode cX11_cup 68 = .ok (.aload_n 3, 1) := by decide +kernel
theorem dX11_cup_69 : decode cX11_cup 69 = .ok (.getfield 159, 3) := by decide +kernel
theorem dX11_cup_72 : decode cX11_cup 72 = .ok (.iload_n 1, 1) := by decide +kernel
theorem dX11_cup_73 : decode cX11_cup 73 = .ok (.iaload, 1) := by decide +kernel
theorem dX11_cup_74 : decode cX11_cup 74 = .ok (.ireturn, 1) := by decide +kernel
theorem dX11_cup_75 : decode cX11_cup 75 = .ok (.aload_n 3, 1) := by decide +kernel
theorem dX11_cup_76 : decode cX11_cup 76 = .ok (.getfield 162, 3) := by decide +kernel
theorem dX11_cup_79 : decode cX11_cup 79 = .ok (.iload_n 1, 1) := by decide +kernel
theorem dX11_cup_80 : decode cX11_cup 80 = .ok (.iaload, 1) := by decide +kernel
theorem dX11_cup_81 : decode cX11_cup 81 = .ok (.ireturn, 1) := by decide +kernel
theorem dX11_cup_82 : decode cX11_cup 82 = .ok (.aload_n 0, 1) := by decide +kernel
theorem dX11_cup_83 : decode cX11_cup 83 = .ok (.getfield 29, 3) := by decide +kernel
theorem dX11_cup_86 : decode cX11_cup 86 = .ok (.getfield 92, 3) := by decide +kernel
theorem dX11_cup_89 : decode cX11_cup 89 = .ok (.getfield 165, 3) := by decide +kernel
theorem dX11_cup_92 : decode cX11_cup 92 = .ok (.iload_n 1, 1) := by decide +kernel
theorem dX11_cup_93 : decode cX11_cup 93 = .ok (.iaload, 1) := by decide +kernel
theorem dX11_cup_94 : decode cX11_cup 94 = .ok (.ireturn, 1) := by decide +kernel
theorem dX11_cup_95 : decode cX11_cup 95 = .ok (.aload_n 3, 1) := by decide +kernel
theorem dX11_cup_96 : decode cX11_cup 96 = .ok (.iload_n 1, 1) := by decide +kernel
theorem dX11_cup_97 : decode cX11_cup 97 = .ok (.iconst 0, 1) := by decide +kernel
theorem dX11_cup_98 : decode cX11_cup 98 = .ok (.invokevirtual 168, 3) := by decide +kernel
theorem dX11_cup_101 : decode cX11_cup 101 = .ok (.ireturn, 1) := by decide +kernel
theorem dX11_cup_102 : decode cX11_cup 102 = .ok (.aload_n 3, 1) := by decide +kernel
theorem dX11_cup_103 : decode cX11_cup 103 = .ok (.iload_n 1, 1) := by decide +kernel
theorem dX11_cup_104 : decode cX11_cup 104 = .ok (.iconst 1, 1) := by decide +kernel
theorem dX11_cup_105 : decode cX11_cup 105 = .ok (.invokevirtual 168, 3) := by decide +kernel
theorem dX11_cup_108 : decode cX11_cup 108 = .ok (.ireturn, 1) := by decide +kernel
theorem dX11_cup_109 : decode cX11_cup 109 = .ok (.aload_n 3, 1) := by decide +kernel
theorem dX11_cup_110 : decode cX11_cup 110 = .ok (.getfield 172, 3) := by decide +kernel
theorem dX11_cup_113 : decode cX11_cup 113 = .ok (.iload_n 1, 1) := by decide +kernel
theorem dX11_cup_114 : decode cX11_cup 114 = .ok (.iaload, 1) := by decide +kernel
theorem dX11_cup_115 : decode cX11_cup 115 = .ok (.ireturn, 1) := by decide +kernel
theorem dX11_cup_116 : decode cX11_cup 116 = .ok (.aload_n 3, 1) := by decide +kernel
theorem dX11_cup_117 : decode cX11_cup 117 = .ok (.iload_n 1, 1) := by decide +kernel
theorem dX11_cup_118 : decode cX11_cup 118 = .ok (.invokevirtual 175, 3) := by decide +kernel
theorem dX11_cup_121 : decode cX11_cup 121 = .ok (.ifCond .eq 7, 3) := by decide +kernel
theorem dX11_cup_124 : decode cX11_cup 124 = .ok (.iconst 1, 1) := by decide +kernel
theorem dX11_cup_125 : decode cX11_cup 125 = .ok (.goto 4, 3) := by decide +kernel
theorem dX11_cup_128 : decode cX11_cup 128 = .ok (.iconst 0, 1) := by decide +kernel
theorem dX11_cup_129 : decode cX11_cup 129 = .ok (.ireturn, 1) := by decide +kernel
theorem dX11_cup_130 : decode cX11_cup 130 = .ok (.aload_n 3, 1) := by decide +kernel
theorem dX11_cup_131 : decode cX11_cup 131 = .ok (.iload_n 1, 1) := by decide +kernel
theorem dX11_cup_132 : decode cX11_cup 132 = .ok (.invokevirtual 179, 3) := by decide +kernel
theorem dX11_cup_135 : decode cX11_cup 135 = .ok (.ireturn, 1) := by decide +kernel
theorem dX11_cup_136 : decode cX11_cup 136 = .ok (.aload_n 3, 1) := by decide +kernel
theorem dX11_cup_137 : decode cX11_cup 137 = .ok (.getfield 159, 3) := by decide +kernel
theorem dX11_cup_140 : decode cX11_cup 140 = .ok (.iload_n 1, 1) := by decide +kernel
theorem dX11_cup_141 : decode cX11_cup 141 = .ok (.iaload, 1) := by decide +kernel
theorem dX11_cup_142 : decode cX11_cup 142 = .ok (.aload_n 3, 1) := by decide +kernel
theorem dX11_cup_143 : decode cX11_cup 143 = .ok (.getfield 162, 3) := by decide +kernel
theorem dX11_cup_146 : decode cX11_cup 146 = .ok (.iload_n 1, 1) := by decide +kernel
theorem dX11_cup_147 : decode cX11_cup 147 = .ok (.iaload, 1) := by decide +kernel
theorem dX11_cup_148 : decode cX11_cup 148 = .ok (.isub, 1) := by decide +kernel
theorem dX11_cup_149 : decode cX11_cup 149 = .ok (.ireturn, 1) := by decide +kernel
theorem dX11_hours_0 : decode cX11_hours 0 = .ok (.iload_n 1, 1) := by decide +kernel
theorem dX11_hours_1 : decode cX11_hours 1 = .ok (.iconst 1, 1) := by decide +kernel
theorem dX11_hours_2 : decode cX11_hours 2 = .ok (.if_icmp .lt 27, 3) := by decide +kernel
theorem dX11_hours_5 : decode cX11_hours 5 = .ok (.iload_n 1, 1) := by decide +kernel
theorem dX11_hours_6 : decode cX11_hours 6 = .ok (.bipush 20, 2) := by decide +kernel
theorem dX11_hours_8 : decode cX11_hours 8 = .ok (.if_icmp .gt 21, 3) := by decide +kernel
theorem dX11_hours_11 : decode cX11_hours 11 = .ok (.aload_n 0, 1) := by decide +kernel
theorem dX11_hours_12 : decode cX11_hours 12 = .ok (.getfield 19, 3) := by decide +kernel
theorem dX11_hours_15 : decode cX11_hours 15 = .ok (.getfield 116, 3) := by decide +kernel
theorem dX11_hours_18 : decode cX11_hours 18 = .ok (.getfield 118, 3) := by decide +kernel
theorem dX11_hours_21 : decode cX11_hours 21 = .ok (.iload_n 1, 1) := by decide +kernel
theorem dX11_hours_22 : decode cX11_hours 22 = .ok (.iadd, 1) := by decide +kernel
theorem dX11_hours_23 : decode cX11_hours 23 = .ok (.sipush 9999, 3) := by decide +kernel
theorem dX11_hours_26 : decode cX11_hours 26 = .ok (.if_icmp .le 8, 3) := by decide +kernel
theorem dX11_hours_29 : decode cX11_hours 29 = .ok (.aload_n 0, 1) := by decide +kernel
theorem dX11_hours_30 : decode cX11_hours 30 = .ok (.invokevirtual 182, 3) := by decide +kernel
theorem dX11_hours_33 : decode cX11_hours 33 = .ok (.ireturn, 1) := by decide +kernel
theorem dX11_hours_34 : decode cX11_hours 34 = .ok (.aload_n 0, 1) := by decide +kernel
theorem dX11_hours_35 : decode cX11_hours 35 = .ok (.getfield 19, 3) := by decide +kernel
theorem dX11_hours_38 : decode cX11_hours 38 = .ok (.getfield 139, 3) := by decide +kernel
theorem dX11_hours_41 : decode cX11_hours 41 = .ok (.aload_n 0, 1) := by decide +kernel
theorem dX11_hours_42 : decode cX11_hours 42 = .ok (.getfield 19, 3) := by decide +kernel
theorem dX11_hours_45 : decode cX11_hours 45 = .ok (.getfield 116, 3) := by decide +kernel
theorem dX11_hours_48 : decode cX11_hours 48 = .ok (.invokevirtual 185, 3) := by decide +kernel
theorem dX11_hours_51 : decode cX11_hours 51 = .ok (.aload_n 0, 1) := by decide +kernel
theorem dX11_hours_52 : decode cX11_hours 52 = .ok (.getfield 29, 3) := by decide +kernel
theorem dX11_hours_55 : decode cX11_hours 55 = .ok (.aload_n 0, 1) := by decide +kernel
theorem dX11_hours_56 : decode cX11_hours 56 = .ok (.getfield 19, 3) := by decide +kernel
theorem dX11_hours_59 : decode cX11_hours 59 = .ok (.getfield 116, 3) := by decide +kernel
theorem dX11_hours_62 : decode cX11_hours 62 = .ok (.invokevirtual 188, 3) := by decide +kernel
theorem dX11_hours_65 : decode cX11_hours 65 = .ok (.aload_n 0, 1) := by decide +kernel
theorem dX11_hours_66 : decode cX11_hours 66 = .ok (.getfield 29, 3) := by decide +kernel
theorem dX11_hours_69 : decode cX11_hours 69 = .ok (.iload_n 1, 1) := by decide +kernel
theorem dX11_hours_70 : decode cX11_hours 70 = .ok (.invokevirtual 191, 3) := by decide +kernel
theorem dX11_hours_73 : decode cX11_hours 73 = .ok (.aload_n 0, 1) := by decide +kernel
theorem dX11_hours_74 : decode cX11_hours 74 = .ok (.getfield 19, 3) := by decide +kernel
theorem dX11_hours_77 : decode cX11_hours 77 = .ok (.getfield 116, 3) := by decide +kernel
theorem dX11_hours_80 : decode cX11_hours 80 = .ok (.getfield 118, 3) := by decide +kernel
theorem dX11_hours_83 : decode cX11_hours 83 = .ok (.ireturn, 1) := by decide +kernel
theorem dX11_lead_0 : decode cX11_lead 0 = .ok (.aload_n 0, 1) := by decide +kernel
theorem dX11_lead_1 : decode cX11_lead 1 = .ok (.iload_n 1, 1) := by decide +kernel
theorem dX11_lead_2 : decode cX11_lead 2 = .ok (.invokevirtual 156, 3) := by decide +kernel
theorem dX11_lead_5 : decode cX11_lead 5 = .ok (.iload_n 2, 1) := by decide +kernel
theorem dX11_lead_6 : decode cX11_lead 6 = .ok (.iconst (-1), 1) := by decide +kernel
theorem dX11_lead_7 : decode cX11_lead 7 = .ok (.if_icmp .eq 8, 3) := by decide +kernel
theorem dX11_lead_10 : decode cX11_lead 10 = .ok (.aload_n 0, 1) := by decide +kernel
theorem dX11_lead_11 : decode cX11_lead 11 = .ok (.iload_n 2, 1) := by decide +kernel
theorem dX11_lead_12 : decode cX11_lead 12 = .ok (.invokevirtual 156, 3) := by decide +kernel
theorem dX11_lead_15 : decode cX11_lead 15 = .ok (.aload_n 0, 1) := by decide +kernel
theorem dX11_lead_16 : decode cX11_lead 16 = .ok (.getfield 19, 3) := by decide +kernel
theorem dX11_lead_19 : decode cX11_lead 19 = .ok (.getfield 116, 3) := by decide +kernel
theorem dX11_lead_22 : decode cX11_lead 22 = .ok (.iload_n 1, 1) := by decide +kernel
theorem dX11_lead_23 : decode cX11_lead 23 = .ok (.iload_n 2, 1) := by decide +kernel
theorem dX11_lead_24 : decode cX11_lead 24 = .ok (.invokevirtual 194, 3) := by decide +kernel
theorem dX11_lead_27 : decode cX11_lead 27 = .ok (.ifCond .ne 13, 3) := by decide +kernel
theorem dX11_lead_30 : decode cX11_lead 30 = .ok (.iload_n 2, 1) := by decide +kernel
theorem dX11_lead_31 : decode cX11_lead 31 = .ok (.iconst (-1), 1) := by decide +kernel
theorem dX11_lead_32 : decode cX11_lead 32 = .ok (.if_icmp .eq 15, 3) := by decide +kernel
theorem dX11_lead_35 : decode cX11_lead 35 = .ok (.iload_n 2, 1) := by decide +kernel
theorem dX11_lead_36 : decode cX11_lead 36 = .ok (.iload_n 1, 1) := by decide +kernel
theorem dX11_lead_37 : decode cX11_lead 37 = .ok (.if_icmp .gt 10, 3) := by decide +kernel
theorem dX11_lead_40 : decode cX11_lead 40 = .ok (.aload_n 0, 1) := by decide +kernel
theorem dX11_lead_41 : decode cX11_lead 41 = .ok (.invokevirtual 182, 3) := by decide +kernel
theorem dX11_lead_44 : decode cX11_lead 44 = .ok (.pop, 1) := by decide +kernel
theorem dX11_lead_45 : decode cX11_lead 45 = .ok (.iconst 0, 1) := by decide +kernel
theorem dX11_lead_46 : decode cX11_lead 46 = .ok (.ireturn, 1) := by decide +kernel
theorem dX11_lead_47 : decode cX11_lead 47 = .ok (.aload_n 0, 1) := by decide +kernel
theorem dX11_lead_48 : decode cX11_lead 48 = .ok (.getfield 19, 3) := by decide +kernel
theorem dX11_lead_51 : decode cX11_lead 51 = .ok (.getfield 139, 3) := by decide +kernel
theorem dX11_lead_54 : decode cX11_lead 54 = .ok (.aload_n 0, 1) := by decide +kernel
theorem dX11_lead_55 : decode cX11_lead 55 = .ok (.getfield 19, 3) := by decide +kernel
theorem dX11_lead_58 : decode cX11_lead 58 = .ok (.getfield 116, 3) := by decide +kernel
theorem dX11_lead_61 : decode cX11_lead 61 = .ok (.invokevirtual 185, 3) := by decide +kernel
theorem dX11_lead_64 : decode cX11_lead 64 = .ok (.aload_n 0, 1) := by decide +kernel
theorem dX11_lead_65 : decode cX11_lead 65 = .ok (.getfield 19, 3) := by decide +kernel
theorem dX11_lead_68 : decode cX11_lead 68 = .ok (.getfield 116, 3) := by decide +kernel
theorem dX11_lead_71 : decode cX11_lead 71 = .ok (.iload_n 1, 1) := by decide +kernel
theorem dX11_lead_72 : decode cX11_lead 72 = .ok (.iload_n 2, 1) := by decide +kernel
theorem dX11_lead_73 : decode cX11_lead 73 = .ok (.invokevirtual 198, 3) := by decide +kernel
theorem dX11_lead_76 : decode cX11_lead 76 = .ok (.iconst 1, 1) := by decide +kernel
theorem dX11_lead_77 : decode cX11_lead 77 = .ok (.ireturn, 1) := by decide +kernel
theorem dX11_plug_0 : decode cX11_plug 0 = .ok (.aload_n 0, 1) := by decide +kernel
theorem dX11_plug_1 : decode cX11_plug 1 = .ok (.iload_n 1, 1) := by decide +kernel
theorem dX11_plug_2 : decode cX11_plug 2 = .ok (.invokevirtual 156, 3) := by decide +kernel
theorem dX11_plug_5 : decode cX11_plug 5 = .ok (.aload_n 0, 1) := by decide +kernel
theorem dX11_plug_6 : decode cX11_plug 6 = .ok (.getfield 19, 3) := by decide +kernel
theorem dX11_plug_9 : decode cX11_plug 9 = .ok (.getfield 116, 3) := by decide +kernel
theorem dX11_plug_12 : decode cX11_plug 12 = .ok (.iload_n 1, 1) := by decide +kernel
theorem dX11_plug_13 : decode cX11_plug 13 = .ok (.invokevirtual 175, 3) := by decide +kernel
theorem dX11_plug_16 : decode cX11_plug 16 = .ok (.iload_n 2, 1) := by decide +kernel
theorem dX11_plug_17 : decode cX11_plug 17 = .ok (.if_icmp .ne 10, 3) := by decide +kernel
theorem dX11_plug_20 : decode cX11_plug 20 = .ok (.aload_n 0, 1) := by decide +kernel
theorem dX11_plug_21 : decode cX11_plug 21 = .ok (.invokevirtual 182, 3) := by decide +kernel
theorem dX11_plug_24 : decode cX11_plug 24 = .ok (.pop, 1) := by decide +kernel
theorem dX11_plug_25 : decode cX11_plug 25 = .ok (.iconst 0, 1) := by decide +kernel
theorem dX11_plug_26 : decode cX11_plug 26 = .ok (.ireturn, 1) := by decide +kernel
theorem dX11_plug_27 : decode cX11_plug 27 = .ok (.aload_n 0, 1) := by decide +kernel
theorem dX11_plug_28 : decode cX11_plug 28 = .ok (.getfield 19, 3) := by decide +kernel
theorem dX11_plug_31 : decode cX11_plug 31 = .ok (.getfield 139, 3) := by decide +kernel
theorem dX11_plug_34 : decode cX11_plug 34 = .ok (.aload_n 0, 1) := by decide +kernel
theorem dX11_plug_35 : decode cX11_plug 35 = .ok (.getfield 19, 3) := by decide +kernel
theorem dX11_plug_38 : decode cX11_plug 38 = .ok (.getfield 116, 3) := by decide +kernel
theorem dX11_plug_41 : decode cX11_plug 41 = .ok (.invokevirtual 185, 3) := by decide +kernel
theorem dX11_plug_44 : decode cX11_plug 44 = .ok (.aload_n 0, 1) := by decide +kernel
theorem dX11_plug_45 : decode cX11_plug 45 = .ok (.getfield 19, 3) := by decide +kernel
theorem dX11_plug_48 : decode cX11_plug 48 = .ok (.getfield 116, 3) := by decide +kernel
theorem dX11_plug_51 : decode cX11_plug 51 = .ok (.iload_n 1, 1) := by decide +kernel
theorem dX11_plug_52 : decode cX11_plug 52 = .ok (.iload_n 2, 1) := by decide +kernel
theorem dX11_plug_53 : decode cX11_plug 53 = .ok (.invokevirtual 201, 3) := by decide +kernel
theorem dX11_plug_56 : decode cX11_plug 56 = .ok (.iconst 1, 1) := by decide +kernel
theorem dX11_plug_57 : decode cX11_plug 57 = .ok (.ireturn, 1) := by decide +kernel
theorem dX11_pour_0 : decode cX11_pour 0 = .ok (.aload_n 0, 1) := by decide +kernel
theorem dX11_pour_1 : decode cX11_pour 1 = .ok (.iload_n 1, 1) := by decide +kernel
theorem dX11_pour_2 : decode cX11_pour 2 = .ok (.invokevirtual 156, 3) := by decide +kernel
theorem dX11_pour_5 : decode cX11_pour 5 = .ok (.iload_n 2, 1) := by decide +kernel
theorem dX11_pour_6 : decode cX11_pour 6 = .ok (.iconst 1, 1) := by decide +kernel
theorem dX11_pour_7 : decode cX11_pour 7 = .ok (.if_icmp .lt 9, 3) := by decide +kernel
theorem dX11_pour_10 : decode cX11_pour 10 = .ok (.iload_n 2, 1) := by decide +kernel
theorem dX11_pour_11 : decode cX11_pour 11 = .ok (.bipush 50, 2) := by decide +kernel
theorem dX11_pour_13 : decode cX11_pour 13 = .ok (.if_icmp .le 8, 3) := by decide +kernel
theorem dX11_pour_16 : decode cX11_pour 16 = .ok (.aload_n 0, 1) := by decide +kernel
theorem dX11_pour_17 : decode cX11_pour 17 = .ok (.invokevirtual 182, 3) := by decide +kernel
theorem dX11_pour_20 : decode cX11_pour 20 = .ok (.ireturn, 1) := by decide +kernel
theorem dX11_pour_21 : decode cX11_pour 21 = .ok (.aload_n 0, 1) := by decide +kernel
theorem dX11_pour_22 : decode cX11_pour 22 = .ok (.getfield 19, 3) := by decide +kernel
theorem dX11_pour_25 : decode cX11_pour 25 = .ok (.getfield 139, 3) := by decide +kernel
theorem dX11_pour_28 : decode cX11_pour 28 = .ok (.aload_n 0, 1) := by decide +kernel
theorem dX11_pour_29 : decode cX11_pour 29 = .ok (.getfield 19, 3) := by decide +kernel
theorem dX11_pour_32 : decode cX11_pour 32 = .ok (.getfield 116, 3) := by decide +kernel
theorem dX11_pour_35 : decode cX11_pour 35 = .ok (.invokevirtual 185, 3) := by decide +kernel
theorem dX11_pour_38 : decode cX11_pour 38 = .ok (.aload_n 0, 1) := by decide +kernel
theorem dX11_pour_39 : decode cX11_pour 39 = .ok (.getfield 29, 3) := by decide +kernel
theorem dX11_pour_42 : decode cX11_pour 42 = .ok (.aload_n 0, 1) := by decide +kernel
theorem dX11_pour_43 : decode cX11_pour 43 = .ok (.getfield 19, 3) := by decide +kernel
theorem dX11_pour_46 : decode cX11_pour 46 = .ok (.getfield 116, 3) := by decide +kernel
theorem dX11_pour_49 : decode cX11_pour 49 = .ok (.invokevirtual 188, 3) := by decide +kernel
theorem dX11_pour_52 : decode cX11_pour 52 = .ok (.aload_n 0, 1) := by decide +kernel
theorem dX11_pour_53 : decode cX11_pour 53 = .ok (.getfield 29, 3) := by decide +kernel
theorem dX11_pour_56 : decode cX11_pour 56 = .ok (.iload_n 1, 1) := by decide +kernel
theorem dX11_pour_57 : decode cX11_pour 57 = .ok (.iload_n 2, 1) := by decide +kernel
theorem dX11_pour_58 : decode cX11_pour 58 = .ok (.invokevirtual 205, 3) := by decide +kernel
theorem dX11_pour_61 : decode cX11_pour 61 = .ok (.aload_n 0, 1) := by decide +kernel
theorem dX11_pour_62 : decode cX11_pour 62 = .ok (.getfield 29, 3) := by decide +kernel
theorem dX11_pour_65 : decode cX11_pour 65 = .ok (.getfield 208, 3) := by decide +kernel
theorem dX11_pour_68 : decode cX11_pour 68 = .ok (.iload_n 1, 1) := by decide +kernel
theorem dX11_pour_69 : decode cX11_pour 69 = .ok (.iaload, 1) := by decide +kernel
theorem dX11_pour_70 : decode cX11_pour 70 = .ok (.ireturn, 1) := by decide +kernel
theorem dX11_crack_0 : decode cX11_crack 0 = .ok (.aload_n 0, 1) := by decide +kernel
theorem dX11_crack_1 : decode cX11_crack 1 = .ok (.iload_n 1, 1) := by decide +kernel
theorem dX11_crack_2 : decode cX11_crack 2 = .ok (.invokevirtual 156, 3) := by decide +kernel
theorem dX11_crack_5 : decode cX11_crack 5 = .ok (.aload_n 0, 1) := by decide +kernel
theorem dX11_crack_6 : decode cX11_crack 6 = .ok (.getfield 19, 3) := by decide +kernel
theorem dX11_crack_9 : decode cX11_crack 9 = .ok (.getfield 116, 3) := by decide +kernel
theorem dX11_crack_12 : decode cX11_crack 12 = .ok (.getfield 159, 3) := by decide +kernel
theorem dX11_crack_15 : decode cX11_crack 15 = .ok (.iload_n 1, 1) := by decide +kernel
theorem dX11_crack_16 : decode cX11_crack 16 = .ok (.iaload, 1) := by decide +kernel
theorem dX11_crack_17 : decode cX11_crack 17 = .ok (.istore_n 3, 1) := by decide +kernel
theorem dX11_crack_18 : decode cX11_crack 18 = .ok (.iload_n 2, 1) := by decide +kernel
theorem dX11_crack_19 : decode cX11_crack 19 = .ok (.iconst 1, 1) := by decide +kernel
theorem dX11_crack_20 : decode cX11_crack 20 = .ok (.if_icmp .lt 14, 3) := by decide +kernel
theorem dX11_crack_23 : decode cX11_crack 23 = .ok (.iload_n 2, 1) := by decide +kernel
theorem dX11_crack_24 : decode cX11_crack 24 = .ok (.bipush 30, 2) := by decide +kernel
theorem dX11_crack_26 : decode cX11_crack 26 = .ok (.if_icmp .gt 8, 3) := by decide +kernel
theorem dX11_crack_29 : decode cX11_crack 29 = .ok (.iload_n 2, 1) := by decide +kernel
theorem dX11_crack_30 : decode cX11_crack 30 = .ok (.iload_n 3, 1) := by decide +kernel
theorem dX11_crack_31 : decode cX11_crack 31 = .ok (.if_icmp .ne 8, 3) := by decide +kernel
theorem dX11_crack_34 : decode cX11_crack 34 = .ok (.aload_n 0, 1) := by decide +kernel
theorem dX11_crack_35 : decode cX11_crack 35 = .ok (.invokevirtual 182, 3) := by decide +kernel
theorem dX11_crack_38 : decode cX11_crack 38 = .ok (.ireturn, 1) := by decide +kernel
theorem dX11_crack_39 : decode cX11_crack 39 = .ok (.aload_n 0, 1) := by decide +kernel
theorem dX11_crack_40 : decode cX11_crack 40 = .ok (.getfield 19, 3) := by decide +kernel
theorem dX11_crack_43 : decode cX11_crack 43 = .ok (.getfield 139, 3) := by decide +kernel
theorem dX11_crack_46 : decode cX11_crack 46 = .ok (.aload_n 0, 1) := by decide +kernel
theorem dX11_crack_47 : decode cX11_crack 47 = .ok (.getfield 19, 3) := by decide +kernel
theorem dX11_crack_50 : decode cX11_crack 50 = .ok (.getfield 116, 3) := by decide +kernel
theorem dX11_crack_53 : decode cX11_crack 53 = .ok (.invokevirtual 185, 3) := by decide +kernel
theorem dX11_crack_56 : decode cX11_crack 56 = .ok (.aload_n 0, 1) := by decide +kernel
theorem dX11_crack_57 : decode cX11_crack 57 = .ok (.getfield 19, 3) := by decide +kernel
theorem dX11_crack_60 : decode cX11_crack 60 = .ok (.getfield 116, 3) := by decide +kernel
theorem dX11_crack_63 : decode cX11_crack 63 = .ok (.iload_n 1, 1) := by decide +kernel
theorem dX11_crack_64 : decode cX11_crack 64 = .ok (.iload_n 2, 1) := by decide +kernel
theorem dX11_crack_65 : decode cX11_crack 65 = .ok (.invokevirtual 211, 3) := by decide +kernel
theorem dX11_crack_68 : decode cX11_crack 68 = .ok (.iload_n 3, 1) := by decide +kernel
theorem dX11_crack_69 : decode cX11_crack 69 = .ok (.ireturn, 1) := by decide +kernel
theorem dX11_undo_0 : decode cX11_undo 0 = .ok (.aload_n 0, 1) := by decide +kernel
theorem dX11_undo_1 : decode cX11_undo 1 = .ok (.getfield 19, 3) := by decide +kernel
theorem dX11_undo_4 : decode cX11_undo 4 = .ok (.getfield 139, 3) := by decide +kernel
theorem dX11_undo_7 : decode cX11_undo 7 = .ok (.getfield 143, 3) := by decide +kernel
theorem dX11_undo_10 : decode cX11_undo 10 = .ok (.ifCond .ne 5, 3) := by decide +kernel
theorem dX11_undo_13 : decode cX11_undo 13 = .ok (.iconst (-1), 1) := by decide +kernel
theorem dX11_undo_14 : decode cX11_undo 14 = .ok (.ireturn, 1) := by decide +kernel
theorem dX11_undo_15 : decode cX11_undo 15 = .ok (.aload_n 0, 1) := by decide +kernel
theorem dX11_undo_16 : decode cX11_undo 16 = .ok (.getfield 19, 3) := by decide +kernel
theorem dX11_undo_19 : decode cX11_undo 19 = .ok (.getfield 139, 3) := by decide +kernel
theorem dX11_undo_22 : decode cX11_undo 22 = .ok (.aload_n 0, 1) := by decide +kernel
theorem dX11_undo_23 : decode cX11_undo 23 = .ok (.getfield 19, 3) := by decide +kernel
theorem dX11_undo_26 : decode cX11_undo 26 = .ok (.getfield 116, 3) := by decide +kernel
theorem dX11_undo_29 : decode cX11_undo 29 = .ok (.invokevirtual 214, 3) := by decide +kernel
theorem dX11_undo_32 : decode cX11_undo 32 = .ok (.aload_n 0, 1) := by decide +kernel
theorem dX11_undo_33 : decode cX11_undo 33 = .ok (.getfield 19, 3) := by decide +kernel
theorem dX11_undo_36 : decode cX11_undo 36 = .ok (.getfield 139, 3) := by decide +kernel
theorem dX11_undo_39 : decode cX11_undo 39 = .ok (.getfield 143, 3) := by decide +kernel
theorem dX11_undo_42 : decode cX11_undo 42 = .ok (.ireturn, 1) := by decide +kernel
theorem dX11_then_0 : decode cX11_then 0 = .ok (.aload_n 0, 1) := by decide +kernel
theorem dX11_then_1 : decode cX11_then 1 = .ok (.iload_n 1, 1) := by decide +kernel
theorem dX11_then_2 : decode cX11_then 2 = .ok (.invokevirtual 156, 3) := by decide +kernel
theorem dX11_then_5 : decode cX11_then 5 = .ok (.iload_n 3, 1) := by decide +kernel
theorem dX11_then_6 : decode cX11_then 6 = .ok (.iconst 1, 1) := by decide +kernel
theorem dX11_then_7 : decode cX11_then 7 = .ok (.invokestatic 109, 3) := by decide +kernel
theorem dX11_then_10 : decode cX11_then 10 = .ok (.iload_n 2, 1) := by decide +kernel
theorem dX11_then_11 : decode cX11_then 11 = .ok (.iconst 0, 1) := by decide +kernel
theorem dX11_then_12 : decode cX11_then 12 = .ok (.sipush 200, 3) := by decide +kernel
theorem dX11_then_15 : decode cX11_then 15 = .ok (.invokestatic 81, 3) := by decide +kernel
theorem dX11_then_18 : decode cX11_then 18 = .ok (.aload_n 0, 1) := by decide +kernel
theorem dX11_then_19 : decode cX11_then 19 = .ok (.iload_n 2, 1) := by decide +kernel
theorem dX11_then_20 : decode cX11_then 20 = .ok (.invokevirtual 217, 3) := by decide +kernel
theorem dX11_then_23 : decode cX11_then 23 = .ok (.iload_n 3, 1) := by decide +kernel
theorem dX11_then_24 : decode cX11_then 24 = .ok (.ifCond .ne 18, 3) := by decide +kernel
theorem dX11_then_27 : decode cX11_then 27 = .ok (.aload_n 0, 1) := by decide +kernel
theorem dX11_then_28 : decode cX11_then 28 = .ok (.getfield 29, 3) := by decide +kernel
theorem dX11_then_31 : decode cX11_then 31 = .ok (.getfield 220, 3) := by decide +kernel
theorem dX11_then_34 : decode cX11_then 34 = .ok (.getfield 162, 3) := by decide +kernel
theorem dX11_then_37 : decode cX11_then 37 = .ok (.iload_n 1, 1) := by decide +kernel
theorem dX11_then_38 : decode cX11_then 38 = .ok (.iaload, 1) := by decide +kernel
theorem dX11_then_39 : decode cX11_then 39 = .ok (.goto 12, 3) := by decide +kernel
theorem dX11_then_42 : decode cX11_then 42 = .ok (.aload_n 0, 1) := by decide +kernel
theorem dX11_then_43 : decode cX11_then 43 = .ok (.getfield 29, 3) := by decide +kernel
theorem dX11_then_46 : decode cX11_then 46 = .ok (.getfield 208, 3) := by decide +kernel
theorem dX11_then_49 : decode cX11_then 49 = .ok (.iload_n 1, 1) := by decide +kernel
theorem dX11_then_50 : decode cX11_then 50 = .ok (.iaload, 1) := by decide +kernel
theorem dX11_then_51 : decode cX11_then 51 = .ok (.ireturn, 1) := by decide +kernel
theorem dX11_tipping_0 : decode cX11_tipping 0 = .ok (.iload_n 1, 1) := by decide +kernel
theorem dX11_tipping_1 : decode cX11_tipping 1 = .ok (.iconst 1, 1) := by decide +kernel
theorem dX11_tipping_2 : decode cX11_tipping 2 = .ok (.sipush 200, 3) := by decide +kernel
theorem dX11_tipping_5 : decode cX11_tipping 5 = .ok (.invokestatic 81, 3) := by decide +kernel
theorem dX11_tipping_8 : decode cX11_tipping 8 = .ok (.aload_n 0, 1) := by decide +kernel
theorem dX11_tipping_9 : decode cX11_tipping 9 = .ok (.iload_n 1, 1) := by decide +kernel
theorem dX11_tipping_10 : decode cX11_tipping 10 = .ok (.invokevirtual 217, 3) := by decide +kernel
theorem dX11_tipping_13 : decode cX11_tipping 13 = .ok (.aload_n 0, 1) := by decide +kernel
theorem dX11_tipping_14 : decode cX11_tipping 14 = .ok (.getfield 29, 3) := by decide +kernel
theorem dX11_tipping_17 : decode cX11_tipping 17 = .ok (.getfield 221, 3) := by decide +kernel
theorem dX11_tipping_20 : decode cX11_tipping 20 = .ok (.ireturn, 1) := by decide +kernel
theorem dX11_next_0 : decode cX11_next 0 = .ok (.aload_n 0, 1) := by decide +kernel
theorem dX11_next_1 : decode cX11_next 1 = .ok (.iload_n 1, 1) := by decide +kernel
theorem dX11_next_2 : decode cX11_next 2 = .ok (.invokevirtual 156, 3) := by decide +kernel
theorem dX11_next_5 : decode cX11_next 5 = .ok (.aload_n 0, 1) := by decide +kernel
theorem dX11_next_6 : decode cX11_next 6 = .ok (.iconst 1, 1) := by decide +kernel
theorem dX11_next_7 : decode cX11_next 7 = .ok (.iload_n 1, 1) := by decide +kernel
theorem dX11_next_8 : decode cX11_next 8 = .ok (.ishl, 1) := by decide +kernel
theorem dX11_next_9 : decode cX11_next 9 = .ok (.invokevirtual 224, 3) := by decide +kernel
theorem dX11_next_12 : decode cX11_next 12 = .ok (.ireturn, 1) := by decide +kernel
theorem dX11_together_0 : decode cX11_together 0 = .ok (.aload_n 0, 1) := by decide +kernel
theorem dX11_together_1 : decode cX11_together 1 = .ok (.iload_n 1, 1) := by decide +kernel
theorem dX11_together_2 : decode cX11_together 2 = .ok (.invokevirtual 227, 3) := by decide +kernel
theorem dX11_together_5 : decode cX11_together 5 = .ok (.aload_n 0, 1) := by decide +kernel
theorem dX11_together_6 : decode cX11_together 6 = .ok (.iload_n 1, 1) := by decide +kernel
theorem dX11_together_7 : decode cX11_together 7 = .ok (.invokevirtual 224, 3) := by decide +kernel
theorem dX11_together_10 : decode cX11_together 10 = .ok (.ireturn, 1) := by decide +kernel
theorem dX11_sound_0 : decode cX11_sound 0 = .ok (.iload_n 2, 1) := by decide +kernel
theorem dX11_sound_1 : decode cX11_sound 1 = .ok (.iconst 1, 1) := by decide +kernel
theorem dX11_sound_2 : decode cX11_sound 2 = .ok (.invokestatic 109, 3) := by decide +kernel
theorem dX11_sound_5 : decode cX11_sound 5 = .ok (.iload_n 1, 1) := by decide +kernel
theorem dX11_sound_6 : decode cX11_sound 6 = .ok (.iconst 1, 1) := by decide +kernel
theorem dX11_sound_7 : decode cX11_sound 7 = .ok (.sipush 200, 3) := by decide +kernel
theorem dX11_sound_10 : decode cX11_sound 10 = .ok (.invokestatic 81, 3) := by decide +kernel
theorem dX11_sound_13 : decode cX11_sound 13 = .ok (.iload_n 2, 1) := by decide +kernel
theorem dX11_sound_14 : decode cX11_sound 14 = .ok (.ifCond .ne 11, 3) := by decide +kernel
theorem dX11_sound_17 : decode cX11_sound 17 = .ok (.aload_n 0, 1) := by decide +kernel
theorem dX11_sound_18 : decode cX11_sound 18 = .ok (.iload_n 1, 1) := by decide +kernel
theorem dX11_sound_19 : decode cX11_sound 19 = .ok (.invokevirtual 230, 3) := by decide +kernel
theorem dX11_sound_22 : decode cX11_sound 22 = .ok (.goto 8, 3) := by decide +kernel
theorem dX11_sound_25 : decode cX11_sound 25 = .ok (.aload_n 0, 1) := by decide +kernel
theorem dX11_sound_26 : decode cX11_sound 26 = .ok (.iload_n 1, 1) := by decide +kernel
theorem dX11_sound_27 : decode cX11_sound 27 = .ok (.invokevirtual 233, 3) := by decide +kernel
theorem dX11_sound_30 : decode cX11_sound 30 = .ok (.ireturn, 1) := by decide +kernel
theorem dX11_fallen_0 : decode cX11_fallen 0 = .ok (.aload_n 0, 1) := by decide +kernel
theorem dX11_fallen_1 : decode cX11_fallen 1 = .ok (.iload_n 1, 1) := by decide +kernel
theorem dX11_fallen_2 : decode cX11_fallen 2 = .ok (.invokevirtual 156, 3) := by decide +kernel
theorem dX11_fallen_5 : decode cX11_fallen 5 = .ok (.iload_n 2, 1) := by decide +kernel
theorem dX11_fallen_6 : decode cX11_fallen 6 = .ok (.iconst 0, 1) := by decide +kernel
theorem dX11_fallen_7 : decode cX11_fallen 7 = .ok (.ldc 236, 2) := by decide +kernel
theorem dX11_fallen_9 : decode cX11_fallen 9 = .ok (.invokestatic 81, 3) := by decide +kernel
theorem dX11_fallen_12 : decode cX11_fallen 12 = .ok (.aload_n 0, 1) := by decide +kernel
theorem dX11_fallen_13 : decode cX11_fallen 13 = .ok (.getfield 36, 3) := by decide +kernel
theorem dX11_fallen_16 : decode cX11_fallen 16 = .ok (.aload_n 0, 1) := by decide +kernel
theorem dX11_fallen_17 : decode cX11_fallen 17 = .ok (.getfield 29, 3) := by decide +kernel
theorem dX11_fallen_20 : decode cX11_fallen 20 = .ok (.getfield 92, 3) := by decide +kernel
theorem dX11_fallen_23 : decode cX11_fallen 23 = .ok (.aload_n 0, 1) := by decide +kernel
theorem dX11_fallen_24 : decode cX11_fallen 24 = .ok (.getfield 19, 3) := by decide +kernel
theorem dX11_fallen_27 : decode cX11_fallen 27 = .ok (.getfield 116, 3) := by decide +kernel
theorem dX11_fallen_30 : decode cX11_fallen 30 = .ok (.iload_n 2, 1) := by decide +kernel
theorem dX11_fallen_31 : decode cX11_fallen 31 = .ok (.invokevirtual 237, 3) := by decide +kernel
theorem dX11_fallen_34 : decode cX11_fallen 34 = .ok (.aload_n 0, 1) := by decide +kernel
theorem dX11_fallen_35 : decode cX11_fallen 35 = .ok (.getfield 36, 3) := by decide +kernel
theorem dX11_fallen_38 : decode cX11_fallen 38 = .ok (.getfield 241, 3) := by decide +kernel
theorem dX11_fallen_41 : decode cX11_fallen 41 = .ok (.iload_n 1, 1) := by decide +kernel
theorem dX11_fallen_42 : decode cX11_fallen 42 = .ok (.iaload, 1) := by decide +kernel
theorem dX11_fallen_43 : decode cX11_fallen 43 = .ok (.ireturn, 1) := by decide +kernel
theorem dX11_nth_0 : decode cX11_nth 0 = .ok (.aload_n 0, 1) := by decide +kernel
theorem dX11_nth_1 : decode cX11_nth 1 = .ok (.iload_n 1, 1) := by decide +kernel
theorem dX11_nth_2 : decode cX11_nth 2 = .ok (.invokevirtual 156, 3) := by decide +kernel
theorem dX11_nth_5 : decode cX11_nth 5 = .ok (.iload_n 2, 1) := by decide +kernel
theorem dX11_nth_6 : decode cX11_nth 6 = .ok (.iconst 1, 1) := by decide +kernel
theorem dX11_nth_7 : decode cX11_nth 7 = .ok (.ldc 242, 2) := by decide +kernel
theorem dX11_nth_9 : decode cX11_nth 9 = .ok (.invokestatic 81, 3) := by decide +kernel
theorem dX11_nth_12 : decode cX11_nth 12 = .ok (.iconst 0, 1) := by decide +kernel
theorem dX11_nth_13 : decode cX11_nth 13 = .ok (.istore_n 3, 1) := by decide +kernel
theorem dX11_nth_14 : decode cX11_nth 14 = .ok (.ldc 243, 2) := by decide +kernel
theorem dX11_nth_16 : decode cX11_nth 16 = .ok (.istore 4, 2) := by decide +kernel
theorem dX11_nth_18 : decode cX11_nth 18 = .ok (.iload 4, 2) := by decide +kernel
theorem dX11_nth_20 : decode cX11_nth 20 = .ok (.ifCond .le 64, 3) := by decide +kernel
theorem dX11_nth_23 : decode cX11_nth 23 = .ok (.iload_n 3, 1) := by decide +kernel
theorem dX11_nth_24 : decode cX11_nth 24 = .ok (.iload 4, 2) := by decide +kernel
theorem dX11_nth_26 : decode cX11_nth 26 = .ok (.iadd, 1) := by decide +kernel
theorem dX11_nth_27 : decode cX11_nth 27 = .ok (.istore 5, 2) := by decide +kernel
theorem dX11_nth_29 : decode cX11_nth 29 = .ok (.iload 5, 2) := by decide +kernel
theorem dX11_nth_31 : decode cX11_nth 31 = .ok (.ldc 236, 2) := by decide +kernel
theorem dX11_nth_33 : decode cX11_nth 33 = .ok (.if_icmp .gt 42, 3) := by decide +kernel
theorem dX11_nth_36 : decode cX11_nth 36 = .ok (.aload_n 0, 1) := by decide +kernel
theorem dX11_nth_37 : decode cX11_nth 37 = .ok (.getfield 36, 3) := by decide +kernel
theorem dX11_nth_40 : decode cX11_nth 40 = .ok (.aload_n 0, 1) := by decide +kernel
theorem dX11_nth_41 : decode cX11_nth 41 = .ok (.getfield 29, 3) := by decide +kernel
theorem dX11_nth_44 : decode cX11_nth 44 = .ok (.getfield 92, 3) := by decide +kernel
theorem dX11_nth_47 : decode cX11_nth 47 = .ok (.aload_n 0, 1) := by decide +kernel
theorem dX11_nth_48 : decode cX11_nth 48 = .ok (.getfield 19, 3) := by decide +kernel
theorem dX11_nth_51 : decode cX11_nth 51 = .ok (.getfield 116, 3) := by decide +kernel
theorem dX11_nth_54 : decode cX11_nth 54 = .ok (.iload 5, 2) := by decide +kernel
theorem dX11_nth_56 : decode cX11_nth 56 = .ok (.invokevirtual 237, 3) := by decide +kernel
theorem dX11_nth_59 : decode cX11_nth 59 = .ok (.aload_n 0, 1) := by decide +kernel
theorem dX11_nth_60 : decode cX11_nth 60 = .ok (.getfield 36, 3) := by decide +kernel
theorem dX11_nth_63 : decode cX11_nth 63 = .ok (.getfield 241, 3) := by decide +kernel
theorem dX11_nth_66 : decode cX11_nth 66 = .ok (.iload_n 1, 1) := by decide +kernel
theorem dX11_nth_67 : decode cX11_nth 67 = .ok (.iaload, 1) := by decide +kernel
theorem dX11_nth_68 : decode cX11_nth 68 = .ok (.iload_n 2, 1) := by decide +kernel
theorem dX11_nth_69 : decode cX11_nth 69 = .ok (.if_icmp .ge 6, 3) := by decide +kernel
theorem dX11_nth_72 : decode cX11_nth 72 = .ok (.iload 5, 2) := by decide +kernel
theorem dX11_nth_74 : decode cX11_nth 74 = .ok (.istore_n 3, 1) := by decide +kernel
theorem dX11_nth_75 : decode cX11_nth 75 = .ok (.iload 4, 2) := by decide +kernel
theorem dX11_nth_77 : decode cX11_nth 77 = .ok (.iconst 1, 1) := by decide +kernel
theorem dX11_nth_78 : decode cX11_nth 78 = .ok (.ishr, 1) := by decide +kernel
theorem dX11_nth_79 : decode cX11_nth 79 = .ok (.istore 4, 2) := by decide +kernel
theorem dX11_nth_81 : decode cX11_nth 81 = .ok (.goto (-63), 3) := by decide +kernel
theorem dX11_nth_84 : decode cX11_nth 84 = .ok (.iload_n 3, 1) := by decide +kernel
theorem dX11_nth_85 : decode cX11_nth 85 = .ok (.ldc 236, 2) := by decide +kernel
theorem dX11_nth_87 : decode cX11_nth 87 = .ok (.if_icmp .ge 9, 3) := by decide +kernel
theorem dX11_nth_90 : decode cX11_nth 90 = .ok (.iload_n 3, 1) := by decide +kernel
theorem dX11_nth_91 : decode cX11_nth 91 = .ok (.iconst 1, 1) := by decide +kernel
theorem dX11_nth_92 : decode cX11_nth 92 = .ok (.iadd, 1) := by decide +kernel
theorem dX11_nth_93 : decode cX11_nth 93 = .ok (.goto 4, 3) := by decide +kernel
theorem dX11_nth_96 : decode cX11_nth 96 = .ok (.iconst (-1), 1) := by decide +kernel
theorem dX11_nth_97 : decode cX11_nth 97 = .ok (.ireturn, 1) := by decide +kernel
theorem dX11_meeting_0 : decode cX11_meeting 0 = .ok (.aload_n 0, 1) := by decide +kernel
theorem dX11_meeting_1 : decode cX11_meeting 1 = .ok (.iload_n 1, 1) := by decide +kernel
theorem dX11_meeting_2 : decode cX11_meeting 2 = .ok (.invokevirtual 227, 3) := by decide +kernel
theorem dX11_meeting_5 : decode cX11_meeting 5 = .ok (.aload_n 0, 1) := by decide +kernel
theorem dX11_meeting_6 : decode cX11_meeting 6 = .ok (.getfield 36, 3) := by decide +kernel
theorem dX11_meeting_9 : decode cX11_meeting 9 = .ok (.aload_n 0, 1) := by decide +kernel
theorem dX11_meeting_10 : decode cX11_meeting 10 = .ok (.getfield 29, 3) := by decide +kernel
theorem dX11_meeting_13 : decode cX11_meeting 13 = .ok (.getfield 92, 3) := by decide +kernel
theorem dX11_meeting_16 : decode cX11_meeting 16 = .ok (.aload_n 0, 1) := by decide +kernel
theorem dX11_meeting_17 : decode cX11_meeting 17 = .ok (.getfield 19, 3) := by decide +kernel
theorem dX11_meeting_20 : decode cX11_meeting 20 = .ok (.getfield 116, 3) := by decide +kernel
theorem dX11_meeting_23 : decode cX11_meeting 23 = .ok (.iconst 0, 1) := by decide +kernel
theorem dX11_meeting_24 : decode cX11_meeting 24 = .ok (.invokevirtual 237, 3) := by decide +kernel
theorem dX11_meeting_27 : decode cX11_meeting 27 = .ok (.iconst 1, 1) := by decide +kernel
theorem dX11_meeting_28 : decode cX11_meeting 28 = .ok (.istore_n 2, 1) := by decide +kernel
theorem dX11_meeting_29 : decode cX11_meeting 29 = .ok (.iload_n 2, 1) := by decide +kernel
theorem dX11_meeting_30 : decode cX11_meeting 30 = .ok (.sipush 5000, 3) := by decide +kernel
theorem dX11_meeting_33 : decode cX11_meeting 33 = .ok (.if_icmp .gt 51, 3) := by decide +kernel
theorem dX11_meeting_36 : decode cX11_meeting 36 = .ok (.aload_n 0, 1) := by decide +kernel
theorem dX11_meeting_37 : decode cX11_meeting 37 = .ok (.getfield 36, 3) := by decide +kernel
theorem dX11_meeting_40 : decode cX11_meeting 40 = .ok (.invokevirtual 244, 3) := by decide +kernel
theorem dX11_meeting_43 : decode cX11_meeting 43 = .ok (.aload_n 0, 1) := by decide +kernel
theorem dX11_meeting_44 : decode cX11_meeting 44 = .ok (.getfield 36, 3) := by decide +kernel
theorem dX11_meeting_47 : decode cX11_meeting 47 = .ok (.aload_n 0, 1) := by decide +kernel
theorem dX11_meeting_48 : decode cX11_meeting 48 = .ok (.getfield 29, 3) := by decide +kernel
theorem dX11_meeting_51 : decode cX11_meeting 51 = .ok (.getfield 92, 3) := by decide +kernel
theorem dX11_meeting_54 : decode cX11_meeting 54 = .ok (.aload_n 0, 1) := by decide +kernel
theorem dX11_meeting_55 : decode cX11_meeting 55 = .ok (.getfield 19, 3) := by decide +kernel
theorem dX11_meeting_58 : decode cX11_meeting 58 = .ok (.getfield 116, 3) := by decide +kernel
theorem dX11_meeting_61 : decode cX11_meeting 61 = .ok (.iload_n 2, 1) := by decide +kernel
theorem dX11_meeting_62 : decode cX11_meeting 62 = .ok (.invokevirtual 237, 3) := by decide +kernel
theorem dX11_meeting_65 : decode cX11_meeting 65 = .ok (.aload_n 0, 1) := by decide +kernel
theorem dX11_meeting_66 : decode cX11_meeting 66 = .ok (.getfield 36, 3) := by decide +kernel
theorem dX11_meeting_69 : decode cX11_meeting 69 = .ok (.iload_n 1, 1) := by decide +kernel
theorem dX11_meeting_70 : decode cX11_meeting 70 = .ok (.invokevirtual 247, 3) := by decide +kernel
theorem dX11_meeting_73 : decode cX11_meeting 73 = .ok (.ifCond .eq 5, 3) := by decide +kernel
theorem dX11_meeting_76 : decode cX11_meeting 76 = .ok (.iload_n 2, 1) := by decide +kernel
theorem dX11_meeting_77 : decode cX11_meeting 77 = .ok (.ireturn, 1) := by decide +kernel
theorem dX11_meeting_78 : decode cX11_meeting 78 = .ok (.iinc 2 1, 3) := by decide +kernel
theorem dX11_meeting_81 : decode cX11_meeting 81 = .ok (.goto (-52), 3) := by decide +kernel
theorem dX11_meeting_84 : decode cX11_meeting 84 = .ok (.iconst (-1), 1) := by decide +kernel
theorem dX11_meeting_85 : decode cX11_meeting 85 = .ok (.ireturn, 1) := by decide +kernel
theorem dX11_flow_0 : decode cX11_flow 0 = .ok (.aload_n 0, 1) := by decide +kernel
theorem dX11_flow_1 : decode cX11_flow 1 = .ok (.iload_n 1, 1) := by decide +kernel
theorem dX11_flow_2 : decode cX11_flow 2 = .ok (.invokevirtual 156, 3) := by decide +kernel
theorem dX11_flow_5 : decode cX11_flow 5 = .ok (.iload_n 2, 1) := by decide +kernel
theorem dX11_flow_6 : decode cX11_flow 6 = .ok (.iconst 0, 1) := by decide +kernel
theorem dX11_flow_7 : decode cX11_flow 7 = .ok (.ldc 236, 2) := by decide +kernel
theorem dX11_flow_9 : decode cX11_flow 9 = .ok (.invokestatic 81, 3) := by decide +kernel
theorem dX11_flow_12 : decode cX11_flow 12 = .ok (.aload_n 0, 1) := by decide +kernel
theorem dX11_flow_13 : decode cX11_flow 13 = .ok (.getfield 36, 3) := by decide +kernel
theorem dX11_flow_16 : decode cX11_flow 16 = .ok (.aload_n 0, 1) := by decide +kernel
theorem dX11_flow_17 : decode cX11_flow 17 = .ok (.getfield 29, 3) := by decide +kernel
theorem dX11_flow_20 : decode cX11_flow 20 = .ok (.getfield 92, 3) := by decide +kernel
theorem dX11_flow_23 : decode cX11_flow 23 = .ok (.aload_n 0, 1) := by decide +kernel
theorem dX11_flow_24 : decode cX11_flow 24 = .ok (.getfield 19, 3) := by decide +kernel
theorem dX11_flow_27 : decode cX11_flow 27 = .ok (.getfield 116, 3) := by decide +kernel
theorem dX11_flow_30 : decode cX11_flow 30 = .ok (.iload_n 2, 1) := by decide +kernel
theorem dX11_flow_31 : decode cX11_flow 31 = .ok (.invokevirtual 237, 3) := by decide +kernel
theorem dX11_flow_34 : decode cX11_flow 34 = .ok (.aload_n 0, 1) := by decide +kernel
theorem dX11_flow_35 : decode cX11_flow 35 = .ok (.getfield 36, 3) := by decide +kernel
theorem dX11_flow_38 : decode cX11_flow 38 = .ok (.getfield 250, 3) := by decide +kernel
theorem dX11_flow_41 : decode cX11_flow 41 = .ok (.iload_n 1, 1) := by decide +kernel
theorem dX11_flow_42 : decode cX11_flow 42 = .ok (.iaload, 1) := by decide +kernel
theorem dX11_flow_43 : decode cX11_flow 43 = .ok (.ireturn, 1) := by decide +kernel
theorem dX11_tier_0 : decode cX11_tier 0 = .ok (.aload_n 0, 1) := by decide +kernel
theorem dX11_tier_1 : decode cX11_tier 1 = .ok (.iload_n 1, 1) := by decide +kernel
theorem dX11_tier_2 : decode cX11_tier 2 = .ok (.invokevirtual 156, 3) := by decide +kernel
theorem dX11_tier_5 : decode cX11_tier 5 = .ok (.iload_n 2, 1) := by decide +kernel
theorem dX11_tier_6 : decode cX11_tier 6 = .ok (.iconst 1, 1) := by decide +kernel
theorem dX11_tier_7 : decode cX11_tier 7 = .ok (.invokestatic 109, 3) := by decide +kernel
theorem dX11_tier_10 : decode cX11_tier 10 = .ok (.iload_n 2, 1) := by decide +kernel
theorem dX11_tier_11 : decode cX11_tier 11 = .ok (.ifCond .ne 17, 3) := by decide +kernel
theorem dX11_tier_14 : decode cX11_tier 14 = .ok (.aload_n 0, 1) := by decide +kernel
theorem dX11_tier_15 : decode cX11_tier 15 = .ok (.getfield 19, 3) := by decide +kernel
theorem dX11_tier_18 : decode cX11_tier 18 = .ok (.getfield 116, 3) := by decide +kernel
theorem dX11_tier_21 : decode cX11_tier 21 = .ok (.iload_n 1, 1) := by decide +kernel
theorem dX11_tier_22 : decode cX11_tier 22 = .ok (.invokevirtual 253, 3) := by decide +kernel
theorem dX11_tier_25 : decode cX11_tier 25 = .ok (.goto 14, 3) := by decide +kernel
theorem dX11_tier_28 : decode cX11_tier 28 = .ok (.aload_n 0, 1) := by decide +kernel
theorem dX11_tier_29 : decode cX11_tier 29 = .ok (.getfield 19, 3) := by decide +kernel
theorem dX11_tier_32 : decode cX11_tier 32 = .ok (.getfield 116, 3) := by decide +kernel
theorem dX11_tier_35 : decode cX11_tier 35 = .ok (.iload_n 1, 1) := by decide +kernel
theorem dX11_tier_36 : decode cX11_tier 36 = .ok (.invokevirtual 256, 3) := by decide +kernel
theorem dX11_tier_39 : decode cX11_tier 39 = .ok (.ireturn, 1) := by decide +kernel
theorem dX11_toCrack_0 : decode cX11_toCrack 0 = .ok (.aload_n 0, 1) := by decide +kernel
theorem dX11_toCrack_1 : decode cX11_toCrack 1 = .ok (.iload_n 1, 1) := by decide +kernel
theorem dX11_toCrack_2 : decode cX11_toCrack 2 = .ok (.invokevirtual 156, 3) := by decide +kernel
theorem dX11_toCrack_5 : decode cX11_toCrack 5 = .ok (.iload 4, 2) := by decide +kernel
theorem dX11_toCrack_7 : decode cX11_toCrack 7 = .ok (.iconst 1, 1) := by decide +kernel
theorem dX11_toCrack_8 : decode cX11_toCrack 8 = .ok (.invokestatic 109, 3) := by decide +kernel
theorem dX11_toCrack_11 : decode cX11_toCrack 11 = .ok (.iload_n 3, 1) := by decide +kernel
theorem dX11_toCrack_12 : decode cX11_toCrack 12 = .ok (.iconst 1, 1) := by decide +kernel
theorem dX11_toCrack_13 : decode cX11_toCrack 13 = .ok (.bipush 60, 2) := by decide +kernel
theorem dX11_toCrack_15 : decode cX11_toCrack 15 = .ok (.invokestatic 81, 3) := by decide +kernel
theorem dX11_toCrack_18 : decode cX11_toCrack 18 = .ok (.iload_n 2, 1) := by decide +kernel
theorem dX11_toCrack_19 : decode cX11_toCrack 19 = .ok (.ifCond .ge 14, 3) := by decide +kernel
theorem dX11_toCrack_22 : decode cX11_toCrack 22 = .ok (.new 259, 3) := by decide +kernel
theorem dX11_toCrack_25 : decode cX11_toCrack 25 = .ok (.dup, 1) := by decide +kernel
theorem dX11_toCrack_26 : decode cX11_toCrack 26 = .ok (.ldc_w 261, 3) := by decide +kernel
theorem dX11_toCrack_29 : decode cX11_toCrack 29 = .ok (.invokespecial 263, 3) := by decide +kernel
theorem dX11_toCrack_32 : decode cX11_toCrack 32 = .ok (.athrow, 1) := by decide +kernel
theorem dX11_toCrack_33 : decode cX11_toCrack 33 = .ok (.iconst (-1), 1) := by decide +kernel
theorem dX11_toCrack_34 : decode cX11_toCrack 34 = .ok (.istore 5, 2) := by decide +kernel
theorem dX11_toCrack_36 : decode cX11_toCrack 36 = .ok (.iconst 0, 1) := by decide +kernel
theorem dX11_toCrack_37 : decode cX11_toCrack 37 = .ok (.istore 6, 2) := by decide +kernel
theorem dX11_toCrack_39 : decode cX11_toCrack 39 = .ok (.iconst 1, 1) := by decide +kernel
theorem dX11_toCrack_40 : decode cX11_toCrack 40 = .ok (.istore 7, 2) := by decide +kernel
theorem dX11_toCrack_42 : decode cX11_toCrack 42 = .ok (.iload 7, 2) := by decide +kernel
theorem dX11_toCrack_44 : decode cX11_toCrack 44 = .ok (.bipush 30, 2) := by decide +kernel
theorem dX11_toCrack_46 : decode cX11_toCrack 46 = .ok (.if_icmp .gt 72, 3) := by decide +kernel
theorem dX11_toCrack_49 : decode cX11_toCrack 49 = .ok (.aload_n 0, 1) := by decide +kernel
theorem dX11_toCrack_50 : decode cX11_toCrack 50 = .ok (.iconst 0, 1) := by decide +kernel
theorem dX11_toCrack_51 : decode cX11_toCrack 51 = .ok (.invokevirtual 217, 3) := by decide +kernel
theorem dX11_toCrack_54 : decode cX11_toCrack 54 = .ok (.aload_n 0, 1) := by decide +kernel
theorem dX11_toCrack_55 : decode cX11_toCrack 55 = .ok (.getfield 29, 3) := by decide +kernel
theorem dX11_toCrack_58 : decode cX11_toCrack 58 = .ok (.getfield 220, 3) := by decide +kernel
theorem dX11_toCrack_61 : decode cX11_toCrack 61 = .ok (.iload_n 1, 1) := by decide +kernel
theorem dX11_toCrack_62 : decode cX11_toCrack 62 = .ok (.iload 7, 2) := by decide +kernel
theorem dX11_toCrack_64 : decode cX11_toCrack 64 = .ok (.invokevirtual 211, 3) := by decide +kernel
theorem dX11_toCrack_67 : decode cX11_toCrack 67 = .ok (.aload_n 0, 1) := by decide +kernel
theorem dX11_toCrack_68 : decode cX11_toCrack 68 = .ok (.getfield 29, 3) := by decide +kernel
theorem dX11_toCrack_71 : decode cX11_toCrack 71 = .ok (.iload_n 3, 1) := by decide +kernel
theorem dX11_toCrack_72 : decode cX11_toCrack 72 = .ok (.invokevirtual 191, 3) := by decide +kernel
theorem dX11_toCrack_75 : decode cX11_toCrack 75 = .ok (.aload_n 0, 1) := by decide +kernel
theorem dX11_toCrack_76 : decode cX11_toCrack 76 = .ok (.getfield 29, 3) := by decide +kernel
theorem dX11_toCrack_79 : decode cX11_toCrack 79 = .ok (.getfield 208, 3) := by decide +kernel
theorem dX11_toCrack_82 : decode cX11_toCrack 82 = .ok (.iload_n 1, 1) := by decide +kernel
theorem dX11_toCrack_83 : decode cX11_toCrack 83 = .ok (.iaload, 1) := by decide +kernel
theorem dX11_toCrack_84 : decode cX11_toCrack 84 = .ok (.iload_n 2, 1) := by decide +kernel
theorem dX11_toCrack_85 : decode cX11_toCrack 85 = .ok (.isub, 1) := by decide +kernel
theorem dX11_toCrack_86 : decode cX11_toCrack 86 = .ok (.invokestatic 266, 3) := by decide +kernel
theorem dX11_toCrack_89 : decode cX11_toCrack 89 = .ok (.istore 8, 2) := by decide +kernel
theorem dX11_toCrack_91 : decode cX11_toCrack 91 = .ok (.iload 5, 2) := by decide +kernel
theorem dX11_toCrack_93 : decode cX11_toCrack 93 = .ok (.iconst (-1), 1) := by decide +kernel
theorem dX11_toCrack_94 : decode cX11_toCrack 94 = .ok (.if_icmp .eq 10, 3) := by decide +kernel
theorem dX11_toCrack_97 : decode cX11_toCrack 97 = .ok (.iload 8, 2) := by decide +kernel
theorem dX11_toCrack_99 : decode cX11_toCrack 99 = .ok (.iload 6, 2) := by decide +kernel
theorem dX11_toCrack_101 : decode cX11_toCrack 101 = .ok (.if_icmp .ge 11, 3) := by decide +kernel
theorem dX11_toCrack_104 : decode cX11_toCrack 104 = .ok (.iload 7, 2) := by decide +kernel
theorem dX11_toCrack_106 : decode cX11_toCrack 106 = .ok (.istore 5, 2) := by decide +kernel
theorem dX11_toCrack_108 : decode cX11_toCrack 108 = .ok (.iload 8, 2) := by decide +kernel
theorem dX11_toCrack_110 : decode cX11_toCrack 110 = .ok (.istore 6, 2) := by decide +kernel
theorem dX11_toCrack_112 : decode cX11_toCrack 112 = .ok (.iinc 7 1, 3) := by decide +kernel
theorem dX11_toCrack_115 : decode cX11_toCrack 115 = .ok (.goto (-73), 3) := by decide +kernel
theorem dX11_toCrack_118 : decode cX11_toCrack 118 = .ok (.iload 4, 2) := by decide +kernel
theorem dX11_toCrack_120 : decode cX11_toCrack 120 = .ok (.ifCond .ne 8, 3) := by decide +kernel
theorem dX11_toCrack_123 : decode cX11_toCrack 123 = .ok (.iload 5, 2) := by decide +kernel
theorem dX11_toCrack_125 : decode cX11_toCrack 125 = .ok (.goto 5, 3) := by decide +kernel
theorem dX11_toCrack_128 : decode cX11_toCrack 128 = .ok (.iload 6, 2) := by decide +kernel
theorem dX11_toCrack_130 : decode cX11_toCrack 130 = .ok (.ireturn, 1) := by decide +kernel
theorem dX11_office_0 : decode cX11_office 0 = .ok (.iload_n 2, 1) := by decide +kernel
theorem dX11_office_1 : decode cX11_office 1 = .ok (.iconst 1, 1) := by decide +kernel
theorem dX11_office_2 : decode cX11_office 2 = .ok (.invokestatic 109, 3) := by decide +kernel
theorem dX11_office_5 : decode cX11_office 5 = .ok (.iload_n 1, 1) := by decide +kernel
theorem dX11_office_6 : decode cX11_office 6 = .ok (.iconst 1, 1) := by decide +kernel
theorem dX11_office_7 : decode cX11_office 7 = .ok (.bipush 60, 2) := by decide +kernel
theorem dX11_office_9 : decode cX11_office 9 = .ok (.invokestatic 81, 3) := by decide +kernel
theorem dX11_office_12 : decode cX11_office 12 = .ok (.iconst (-1), 1) := by decide +kernel
theorem dX11_office_13 : decode cX11_office 13 = .ok (.istore_n 3, 1) := by decide +kernel
theorem dX11_office_14 : decode cX11_office 14 = .ok (.iconst 0, 1) := by decide +kernel
theorem dX11_office_15 : decode cX11_office 15 = .ok (.istore 4, 2) := by decide +kernel
theorem dX11_office_17 : decode cX11_office 17 = .ok (.aload_n 0, 1) := by decide +kernel
theorem dX11_office_18 : decode cX11_office 18 = .ok (.iconst 0, 1) := by decide +kernel
theorem dX11_office_19 : decode cX11_office 19 = .ok (.invokevirtual 217, 3) := by decide +kernel
theorem dX11_office_22 : decode cX11_office 22 = .ok (.iconst 1, 1) := by decide +kernel
theorem dX11_office_23 : decode cX11_office 23 = .ok (.istore 5, 2) := by decide +kernel
theorem dX11_office_25 : decode cX11_office 25 = .ok (.iload 5, 2) := by decide +kernel
theorem dX11_office_27 : decode cX11_office 27 = .ok (.bipush 120, 2) := by decide +kernel
theorem dX11_office_29 : decode cX11_office 29 = .ok (.if_icmp .gt 72, 3) := by decide +kernel
theorem dX11_office_32 : decode cX11_office 32 = .ok (.aload_n 0, 1) := by decide +kernel
theorem dX11_office_33 : decode cX11_office 33 = .ok (.getfield 29, 3) := by decide +kernel
theorem dX11_office_36 : decode cX11_office 36 = .ok (.iconst 1, 1) := by decide +kernel
theorem dX11_office_37 : decode cX11_office 37 = .ok (.invokevirtual 191, 3) := by decide +kernel
theorem dX11_office_40 : decode cX11_office 40 = .ok (.iload_n 3, 1) := by decide +kernel
theorem dX11_office_41 : decode cX11_office 41 = .ok (.iconst (-1), 1) := by decide +kernel
theorem dX11_office_42 : decode cX11_office 42 = .ok (.if_icmp .eq 19, 3) := by decide +kernel
theorem dX11_office_45 : decode cX11_office 45 = .ok (.iload 5, 2) := by decide +kernel
theorem dX11_office_47 : decode cX11_office 47 = .ok (.iload_n 1, 1) := by decide +kernel
theorem dX11_office_48 : decode cX11_office 48 = .ok (.isub, 1) := by decide +kernel
theorem dX11_office_49 : decode cX11_office 49 = .ok (.invokestatic 266, 3) := by decide +kernel
theorem dX11_office_52 : decode cX11_office 52 = .ok (.iload_n 3, 1) := by decide +kernel
theorem dX11_office_53 : decode cX11_office 53 = .ok (.iload_n 1, 1) := by decide +kernel
theorem dX11_office_54 : decode cX11_office 54 = .ok (.isub, 1) := by decide +kernel
theorem dX11_office_55 : decode cX11_office 55 = .ok (.invokestatic 266, 3) := by decide +kernel
theorem dX11_office_58 : decode cX11_office 58 = .ok (.if_icmp .ge 7, 3) := by decide +kernel
theorem dX11_office_61 : decode cX11_office 61 = .ok (.iconst 1, 1) := by decide +kernel
theorem dX11_office_62 : decode cX11_office 62 = .ok (.goto 4, 3) := by decide +kernel
theorem dX11_office_65 : decode cX11_office 65 = .ok (.iconst 0, 1) := by decide +kernel
theorem dX11_office_66 : decode cX11_office 66 = .ok (.istore 6, 2) := by decide +kernel
theorem dX11_office_68 : decode cX11_office 68 = .ok (.aload_n 0, 1) := by decide +kernel
theorem dX11_office_69 : decode cX11_office 69 = .ok (.getfield 29, 3) := by decide +kernel
theorem dX11_office_72 : decode cX11_office 72 = .ok (.getfield 221, 3) := by decide +kernel
theorem dX11_office_75 : decode cX11_office 75 = .ok (.ifCond .eq 20, 3) := by decide +kernel
theorem dX11_office_78 : decode cX11_office 78 = .ok (.iload 6, 2) := by decide +kernel
theorem dX11_office_80 : decode cX11_office 80 = .ok (.ifCond .eq 15, 3) := by decide +kernel
theorem dX11_office_83 : decode cX11_office 83 = .ok (.iload 5, 2) := by decide +kernel
theorem dX11_office_85 : decode cX11_office 85 = .ok (.istore_n 3, 1) := by decide +kernel
theorem dX11_office_86 : decode cX11_office 86 = .ok (.aload_n 0, 1) := by decide +kernel
theorem dX11_office_87 : decode cX11_office 87 = .ok (.getfield 29, 3) := by decide +kernel
theorem dX11_office_90 : decode cX11_office 90 = .ok (.getfield 221, 3) := by decide +kernel
theorem dX11_office_93 : decode cX11_office 93 = .ok (.istore 4, 2) := by decide +kernel
theorem dX11_office_95 : decode cX11_office 95 = .ok (.iinc 5 1, 3) := by decide +kernel
theorem dX11_office_98 : decode cX11_office 98 = .ok (.goto (-73), 3) := by decide +kernel
theorem dX11_office_101 : decode cX11_office 101 = .ok (.iload_n 2, 1) := by decide +kernel
theorem dX11_office_102 : decode cX11_office 102 = .ok (.ifCond .ne 11, 3) := by decide +kernel
theorem dX11_office_105 : decode cX11_office 105 = .ok (.iload 4, 2) := by decide +kernel
theorem dX11_office_107 : decode cX11_office 107 = .ok (.invokestatic 271, 3) := by decide +kernel
theorem dX11_office_110 : decode cX11_office 110 = .ok (.goto 4, 3) := by decide +kernel
theorem dX11_office_113 : decode cX11_office 113 = .ok (.iload_n 3, 1) := by decide +kernel
theorem dX11_office_114 : decode cX11_office 114 = .ok (.ireturn, 1) := by decide +kernel
theorem dX11_hear_0 : decode cX11_hear 0 = .ok (.aload_n 0, 1) := by decide +kernel
theorem dX11_hear_1 : decode cX11_hear 1 = .ok (.iload_n 1, 1) := by decide +kernel
theorem dX11_hear_2 : decode cX11_hear 2 = .ok (.invokevirtual 156, 3) := by decide +kernel
theorem dX11_hear_5 : decode cX11_hear 5 = .ok (.aload_n 0, 1) := by decide +kernel
theorem dX11_hear_6 : decode cX11_hear 6 = .ok (.getfield 19, 3) := by decide +kernel
theorem dX11_hear_9 : decode cX11_hear 9 = .ok (.getfield 147, 3) := by decide +kernel
theorem dX11_hear_12 : decode cX11_hear 12 = .ok (.getfield 151, 3) := by decide +kernel
theorem dX11_hear_15 : decode cX11_hear 15 = .ok (.bipush 8, 2) := by decide +kernel
theorem dX11_hear_17 : decode cX11_hear 17 = .ok (.if_icmp .ge 14, 3) := by decide +kernel
theorem dX11_hear_20 : decode cX11_hear 20 = .ok (.iload_n 2, 1) := by decide +kernel
theorem dX11_hear_21 : decode cX11_hear 21 = .ok (.iconst 1, 1) := by decide +kernel
theorem dX11_hear_22 : decode cX11_hear 22 = .ok (.if_icmp .lt 9, 3) := by decide +kernel
theorem dX11_hear_25 : decode cX11_hear 25 = .ok (.iload_n 2, 1) := by decide +kernel
theorem dX11_hear_26 : decode cX11_hear 26 = .ok (.bipush 40, 2) := by decide +kernel
theorem dX11_hear_28 : decode cX11_hear 28 = .ok (.if_icmp .le 15, 3) := by decide +kernel
theorem dX11_hear_31 : decode cX11_hear 31 = .ok (.aload_n 0, 1) := by decide +kernel
theorem dX11_hear_32 : decode cX11_hear 32 = .ok (.getfield 47, 3) := by decide +kernel
theorem dX11_hear_35 : decode cX11_hear 35 = .ok (.iconst 2, 1) := by decide +kernel
theorem dX11_hear_36 : decode cX11_hear 36 = .ok (.dup2, 1) := by decide +kernel
theorem dX11_hear_37 : decode cX11_hear 37 = .ok (.iaload, 1) := by decide +kernel
theorem dX11_hear_38 : decode cX11_hear 38 = .ok (.iconst 1, 1) := by decide +kernel
theorem dX11_hear_39 : decode cX11_hear 39 = .ok (.iadd, 1) := by decide +kernel
theorem dX11_hear_40 : decode cX11_hear 40 = .ok (.iastore, 1) := by decide +kernel
theorem dX11_hear_41 : decode cX11_hear 41 = .ok (.iconst (-1), 1) := by decide +kernel
theorem dX11_hear_42 : decode cX11_hear 42 = .ok (.ireturn, 1) := by decide +kernel
theorem dX11_hear_43 : decode cX11_hear 43 = .ok (.aload_n 0, 1) := by decide +kernel
theorem dX11_hear_44 : decode cX11_hear 44 = .ok (.getfield 19, 3) := by decide +kernel
theorem dX11_hear_47 : decode cX11_hear 47 = .ok (.getfield 147, 3) := by decide +kernel
theorem dX11_hear_50 : decode cX11_hear 50 = .ok (.iload_n 1, 1) := by decide +kernel
theorem dX11_hear_51 : decode cX11_hear 51 = .ok (.iload_n 2, 1) := by decide +kernel
theorem dX11_hear_52 : decode cX11_hear 52 = .ok (.iload_n 3, 1) := by decide +kernel
theorem dX11_hear_53 : decode cX11_hear 53 = .ok (.invokevirtual 274, 3) := by decide +kernel
theorem dX11_hear_56 : decode cX11_hear 56 = .ok (.aload_n 0, 1) := by decide +kernel
theorem dX11_hear_57 : decode cX11_hear 57 = .ok (.getfield 19, 3) := by decide +kernel
theorem dX11_hear_60 : decode cX11_hear 60 = .ok (.getfield 147, 3) := by decide +kernel
theorem dX11_hear_63 : decode cX11_hear 63 = .ok (.getfield 151, 3) := by decide +kernel
theorem dX11_hear_66 : decode cX11_hear 66 = .ok (.ireturn, 1) := by decide +kernel
theorem dX11_forget_0 : decode cX11_forget 0 = .ok (.aload_n 0, 1) := by decide +kernel
theorem dX11_forget_1 : decode cX11_forget 1 = .ok (.getfield 19, 3) := by decide +kernel
theorem dX11_forget_4 : decode cX11_forget 4 = .ok (.getfield 147, 3) := by decide +kernel
theorem dX11_forget_7 : decode cX11_forget 7 = .ok (.iconst 0, 1) := by decide +kernel
theorem dX11_forget_8 : decode cX11_forget 8 = .ok (.putfield 151, 3) := by decide +kernel
theorem dX11_forget_11 : decode cX11_forget 11 = .ok (.return_, 1) := by decide +kernel
theorem dX11_led_0 : decode cX11_led 0 = .ok (.iload_n 1, 1) := by decide +kernel
theorem dX11_led_1 : decode cX11_led 1 = .ok (.iconst 2, 1) := by decide +kernel
theorem dX11_led_2 : decode cX11_led 2 = .ok (.invokestatic 109, 3) := by decide +kernel
theorem dX11_led_5 : decode cX11_led 5 = .ok (.iload_n 1, 1) := by decide +kernel
theorem dX11_led_6 : decode cX11_led 6 = .ok (.iconst 2, 1) := by decide +kernel
theorem dX11_led_7 : decode cX11_led 7 = .ok (.if_icmp .ne 27, 3) := by decide +kernel
theorem dX11_led_10 : decode cX11_led 10 = .ok (.aload_n 0, 1) := by decide +kernel
theorem dX11_led_11 : decode cX11_led 11 = .ok (.getfield 43, 3) := by decide +kernel
theorem dX11_led_14 : decode cX11_led 14 = .ok (.aload_n 0, 1) := by decide +kernel
theorem dX11_led_15 : decode cX11_led 15 = .ok (.getfield 29, 3) := by decide +kernel
theorem dX11_led_18 : decode cX11_led 18 = .ok (.aload_n 0, 1) := by decide +kernel
theorem dX11_led_19 : decode cX11_led 19 = .ok (.getfield 19, 3) := by decide +kernel
theorem dX11_led_22 : decode cX11_led 22 = .ok (.invokevirtual 278, 3) := by decide +kernel
theorem dX11_led_25 : decode cX11_led 25 = .ok (.ifCond .eq 7, 3) := by decide +kernel
theorem dX11_led_28 : decode cX11_led 28 = .ok (.iconst 1, 1) := by decide +kernel
theorem dX11_led_29 : decode cX11_led 29 = .ok (.goto 4, 3) := by decide +kernel
theorem dX11_led_32 : decode cX11_led 32 = .ok (.iconst 0, 1) := by decide +kernel
theorem dX11_led_33 : decode cX11_led 33 = .ok (.ireturn, 1) := by decide +kernel
theorem dX11_led_34 : decode cX11_led 34 = .ok (.aload_n 0, 1) := by decide +kernel
theorem dX11_led_35 : decode cX11_led 35 = .ok (.getfield 43, 3) := by decide +kernel
theorem dX11_led_38 : decode cX11_led 38 = .ok (.aload_n 0, 1) := by decide +kernel
theorem dX11_led_39 : decode cX11_led 39 = .ok (.getfield 29, 3) := by decide +kernel
theorem dX11_led_42 : decode cX11_led 42 = .ok (.aload_n 0, 1) := by decide +kernel
theorem dX11_led_43 : decode cX11_led 43 = .ok (.getfield 19, 3) := by decide +kernel
theorem dX11_led_46 : decode cX11_led 46 = .ok (.invokevirtual 282, 3) := by decide +kernel
theorem dX11_led_49 : decode cX11_led 49 = .ok (.iload_n 1, 1) := by decide +kernel
theorem dX11_led_50 : decode cX11_led 50 = .ok (.ifCond .ne 13, 3) := by decide +kernel
theorem dX11_led_53 : decode cX11_led 53 = .ok (.aload_n 0, 1) := by decide +kernel
theorem dX11_led_54 : decode cX11_led 54 = .ok (.getfield 43, 3) := by decide +kernel
theorem dX11_led_57 : decode cX11_led 57 = .ok (.getfield 286, 3) := by decide +kernel
theorem dX11_led_60 : decode cX11_led 60 = .ok (.goto 10, 3) := by decide +kernel
theorem dX11_led_63 : decode cX11_led 63 = .ok (.aload_n 0, 1) := by decide +kernel
theorem dX11_led_64 : decode cX11_led 64 = .ok (.getfield 43, 3) := by decide +kernel
theorem dX11_led_67 : decode cX11_led 67 = .ok (.getfield 289, 3) := by decide +kernel
theorem dX11_led_70 : decode cX11_led 70 = .ok (.ireturn, 1) := by decide +kernel
theorem dX11_listen_0 : decode cX11_listen 0 = .ok (.iload_n 1, 1) := by decide +kernel
theorem dX11_listen_1 : decode cX11_listen 1 = .ok (.iconst 1, 1) := by decide +kernel
theorem dX11_listen_2 : decode cX11_listen 2 = .ok (.invokestatic 109, 3) := by decide +kernel
theorem dX11_listen_5 : decode cX11_listen 5 = .ok (.aload_n 0, 1) := by decide +kernel
theorem dX11_listen_6 : decode cX11_listen 6 = .ok (.getfield 43, 3) := by decide +kernel
theorem dX11_listen_9 : decode cX11_listen 9 = .ok (.aload_n 0, 1) := by decide +kernel
theorem dX11_listen_10 : decode cX11_listen 10 = .ok (.getfield 29, 3) := by decide +kernel
theorem dX11_listen_13 : decode cX11_listen 13 = .ok (.aload_n 0, 1) := by decide +kernel
theorem dX11_listen_14 : decode cX11_listen 14 = .ok (.getfield 19, 3) := by decide +kernel
theorem dX11_listen_17 : decode cX11_listen 17 = .ok (.invokevirtual 282, 3) := by decide +kernel
theorem dX11_listen_20 : decode cX11_listen 20 = .ok (.iconst (-1), 1) := by decide +kernel
theorem dX11_listen_21 : decode cX11_listen 21 = .ok (.istore_n 2, 1) := by decide +kernel
theorem dX11_listen_22 : decode cX11_listen 22 = .ok (.iconst 0, 1) := by decide +kernel
theorem dX11_listen_23 : decode cX11_listen 23 = .ok (.istore_n 3, 1) := by decide +kernel
theorem dX11_listen_24 : decode cX11_listen 24 = .ok (.iconst 1, 1) := by decide +kernel
theorem dX11_listen_25 : decode cX11_listen 25 = .ok (.istore 4, 2) := by decide +kernel
theorem dX11_listen_27 : decode cX11_listen 27 = .ok (.iload 4, 2) := by decide +kernel
theorem dX11_listen_29 : decode cX11_listen 29 = .ok (.bipush 40, 2) := by decide +kernel
theorem dX11_listen_31 : decode cX11_listen 31 = .ok (.if_icmp .gt 32, 3) := by decide +kernel
theorem dX11_listen_34 : decode cX11_listen 34 = .ok (.aload_n 0, 1) := by decide +kernel
theorem dX11_listen_35 : decode cX11_listen 35 = .ok (.getfield 43, 3) := by decide +kernel
theorem dX11_listen_38 : decode cX11_listen 38 = .ok (.iload 4, 2) := by decide +kernel
theorem dX11_listen_40 : decode cX11_listen 40 = .ok (.invokevirtual 292, 3) := by decide +kernel
theorem dX11_listen_43 : decode cX11_listen 43 = .ok (.istore 5, 2) := by decide +kernel
theorem dX11_listen_45 : decode cX11_listen 45 = .ok (.iload 5, 2) := by decide +kernel
theorem dX11_listen_47 : decode cX11_listen 47 = .ok (.iload_n 3, 1) := by decide +kernel
theorem dX11_listen_48 : decode cX11_listen 48 = .ok (.if_icmp .le 9, 3) := by decide +kernel
theorem dX11_listen_51 : decode cX11_listen 51 = .ok (.iload 4, 2) := by decide +kernel
theorem dX11_listen_53 : decode cX11_listen 53 = .ok (.istore_n 2, 1) := by decide +kernel
theorem dX11_listen_54 : decode cX11_listen 54 = .ok (.iload 5, 2) := by decide +kernel
theorem dX11_listen_56 : decode cX11_listen 56 = .ok (.istore_n 3, 1) := by decide +kernel
theorem dX11_listen_57 : decode cX11_listen 57 = .ok (.iinc 4 1, 3) := by decide +kernel
theorem dX11_listen_60 : decode cX11_listen 60 = .ok (.goto (-33), 3) := by decide +kernel
theorem dX11_listen_63 : decode cX11_listen 63 = .ok (.iload_n 1, 1) := by decide +kernel
theorem dX11_listen_64 : decode cX11_listen 64 = .ok (.ifCond .ne 7, 3) := by decide +kernel
theorem dX11_listen_67 : decode cX11_listen 67 = .ok (.iload_n 2, 1) := by decide +kernel
theorem dX11_listen_68 : decode cX11_listen 68 = .ok (.goto 4, 3) := by decide +kernel
theorem dX11_listen_71 : decode cX11_listen 71 = .ok (.iload_n 3, 1) := by decide +kernel
theorem dX11_listen_72 : decode cX11_listen 72 = .ok (.ireturn, 1) := by decide +kernel
theorem dX11_cold_0 : decode cX11_cold 0 = .ok (.aload_n 0, 1) := by decide +kernel
theorem dX11_cold_1 : decode cX11_cold 1 = .ok (.iload_n 1, 1) := by decide +kernel
theorem dX11_cold_2 : decode cX11_cold 2 = .ok (.invokevirtual 156, 3) := by decide +kernel
theorem dX11_cold_5 : decode cX11_cold 5 = .ok (.iload_n 2, 1) := by decide +kernel
theorem dX11_cold_6 : decode cX11_cold 6 = .ok (.iconst 1, 1) := by decide +kernel
theorem dX11_cold_7 : decode cX11_cold 7 = .ok (.iconst 5, 1) := by decide +kernel
theorem dX11_cold_8 : decode cX11_cold 8 = .ok (.invokestatic 81, 3) := by decide +kernel
theorem dX11_cold_11 : decode cX11_cold 11 = .ok (.iload_n 3, 1) := by decide +kernel
theorem dX11_cold_12 : decode cX11_cold 12 = .ok (.iconst 0, 1) := by decide +kernel
theorem dX11_cold_13 : decode cX11_cold 13 = .ok (.bipush 10, 2) := by decide +kernel
theorem dX11_cold_15 : decode cX11_cold 15 = .ok (.invokestatic 81, 3) := by decide +kernel
theorem dX11_cold_18 : decode cX11_cold 18 = .ok (.iconst 0, 1) := by decide +kernel
theorem dX11_cold_19 : decode cX11_cold 19 = .ok (.istore 4, 2) := by decide +kernel
theorem dX11_cold_21 : decode cX11_cold 21 = .ok (.iconst 0, 1) := by decide +kernel
theorem dX11_cold_22 : decode cX11_cold 22 = .ok (.istore 5, 2) := by decide +kernel
theorem dX11_cold_24 : decode cX11_cold 24 = .ok (.iload 5, 2) := by decide +kernel
theorem dX11_cold_26 : decode cX11_cold 26 = .ok (.iconst 1, 1) := by decide +kernel
theorem dX11_cold_27 : decode cX11_cold 27 = .ok (.iload_n 2, 1) := by decide +kernel
theorem dX11_cold_28 : decode cX11_cold 28 = .ok (.ishl, 1) := by decide +kernel
theorem dX11_cold_29 : decode cX11_cold 29 = .ok (.if_icmp .ge 104, 3) := by decide +kernel
theorem dX11_cold_32 : decode cX11_cold 32 = .ok (.iconst 1, 1) := by decide +kernel
theorem dX11_cold_33 : decode cX11_cold 33 = .ok (.istore 6, 2) := by decide +kernel
theorem dX11_cold_35 : decode cX11_cold 35 = .ok (.aload_n 0, 1) := by decide +kernel
theorem dX11_cold_36 : decode cX11_cold 36 = .ok (.iconst 0, 1) := by decide +kernel
theorem dX11_cold_37 : decode cX11_cold 37 = .ok (.invokevirtual 217, 3) := by decide +kernel
theorem dX11_cold_40 : decode cX11_cold 40 = .ok (.iconst 0, 1) := by decide +kernel
theorem dX11_cold_41 : decode cX11_cold 41 = .ok (.istore 7, 2) := by decide +kernel
theorem dX11_cold_43 : decode cX11_cold 43 = .ok (.iload 7, 2) := by decide +kernel
theorem dX11_cold_45 : decode cX11_cold 45 = .ok (.iload_n 2, 1) := by decide +kernel
theorem dX11_cold_46 : decode cX11_cold 46 = .ok (.if_icmp .ge 62, 3) := by decide +kernel
theorem dX11_cold_49 : decode cX11_cold 49 = .ok (.iload 5, 2) := by decide +kernel
theorem dX11_cold_51 : decode cX11_cold 51 = .ok (.iload 7, 2) := by decide +kernel
theorem dX11_cold_53 : decode cX11_cold 53 = .ok (.ishr, 1) := by decide +kernel
theorem dX11_cold_54 : decode cX11_cold 54 = .ok (.iconst 1, 1) := by decide +kernel
theorem dX11_cold_55 : decode cX11_cold 55 = .ok (.iand, 1) := by decide +kernel
theorem dX11_cold_56 : decode cX11_cold 56 = .ok (.iconst 1, 1) := by decide +kernel
theorem dX11_cold_57 : decode cX11_cold 57 = .ok (.if_icmp .ne 7, 3) := by decide +kernel
theorem dX11_cold_60 : decode cX11_cold 60 = .ok (.iconst 1, 1) := by decide +kernel
theorem dX11_cold_61 : decode cX11_cold 61 = .ok (.goto 4, 3) := by decide +kernel
theorem dX11_cold_64 : decode cX11_cold 64 = .ok (.iconst 0, 1) := by decide +kernel
theorem dX11_cold_65 : decode cX11_cold 65 = .ok (.istore 8, 2) := by decide +kernel
theorem dX11_cold_67 : decode cX11_cold 67 = .ok (.iload 6, 2) := by decide +kernel
theorem dX11_cold_69 : decode cX11_cold 69 = .ok (.iload 8, 2) := by decide +kernel
theorem dX11_cold_71 : decode cX11_cold 71 = .ok (.ifCond .eq 7, 3) := by decide +kernel
theorem dX11_cold_74 : decode cX11_cold 74 = .ok (.iload_n 3, 1) := by decide +kernel
theorem dX11_cold_75 : decode cX11_cold 75 = .ok (.goto 7, 3) := by decide +kernel
theorem dX11_cold_78 : decode cX11_cold 78 = .ok (.bipush 10, 2) := by decide +kernel
theorem dX11_cold_80 : decode cX11_cold 80 = .ok (.iload_n 3, 1) := by decide +kernel
theorem dX11_cold_81 : decode cX11_cold 81 = .ok (.isub, 1) := by decide +kernel
theorem dX11_cold_82 : decode cX11_cold 82 = .ok (.imul, 1) := by decide +kernel
theorem dX11_cold_83 : decode cX11_cold 83 = .ok (.istore 6, 2) := by decide +kernel
theorem dX11_cold_85 : decode cX11_cold 85 = .ok (.aload_n 0, 1) := by decide +kernel
theorem dX11_cold_86 : decode cX11_cold 86 = .ok (.getfield 29, 3) := by decide +kernel
theorem dX11_cold_89 : decode cX11_cold 89 = .ok (.iload 8, 2) := by decide +kernel
theorem dX11_cold_91 : decode cX11_cold 91 = .ok (.ifCond .eq 7, 3) := by decide +kernel
theorem dX11_cold_94 : decode cX11_cold 94 = .ok (.iconst 1, 1) := by decide +kernel
theorem dX11_cold_95 : decode cX11_cold 95 = .ok (.goto 4, 3) := by decide +kernel
theorem dX11_cold_98 : decode cX11_cold 98 = .ok (.iconst 2, 1) := by decide +kernel
theorem dX11_cold_99 : decode cX11_cold 99 = .ok (.invokevirtual 295, 3) := by decide +kernel
theorem dX11_cold_102 : decode cX11_cold 102 = .ok (.iinc 7 1, 3) := by decide +kernel
theorem dX11_cold_105 : decode cX11_cold 105 = .ok (.goto (-62), 3) := by decide +kernel
theorem dX11_cold_108 : decode cX11_cold 108 = .ok (.aload_n 0, 1) := by decide +kernel
theorem dX11_cold_109 : decode cX11_cold 109 = .ok (.getfield 29, 3) := by decide +kernel
theorem dX11_cold_112 : decode cX11_cold 112 = .ok (.getfield 208, 3) := by decide +kernel
theorem dX11_cold_115 : decode cX11_cold 115 = .ok (.iload_n 1, 1) := by decide +kernel
theorem dX11_cold_116 : decode cX11_cold 116 = .ok (.iaload, 1) := by decide +kernel
theorem dX11_cold_117 : decode cX11_cold 117 = .ok (.ifCond .le 10, 3) := by decide +kernel
theorem dX11_cold_120 : decode cX11_cold 120 = .ok (.iload 4, 2) := by decide +kernel
theorem dX11_cold_122 : decode cX11_cold 122 = .ok (.iload 6, 2) := by decide +kernel
theorem dX11_cold_124 : decode cX11_cold 124 = .ok (.iadd, 1) := by decide +kernel
theorem dX11_cold_125 : decode cX11_cold 125 = .ok (.istore 4, 2) := by decide +kernel
theorem dX11_cold_127 : decode cX11_cold 127 = .ok (.iinc 5 1, 3) := by decide +kernel
theorem dX11_cold_130 : decode cX11_cold 130 = .ok (.goto (-106), 3) := by decide +kernel
theorem dX11_cold_133 : decode cX11_cold 133 = .ok (.iload 4, 2) := by decide +kernel
theorem dX11_cold_135 : decode cX11_cold 135 = .ok (.ireturn, 1) := by decide +kernel
theorem dX11_game_0 : decode cX11_game 0 = .ok (.aload_n 0, 1) := by decide +kernel
theorem dX11_game_1 : decode cX11_game 1 = .ok (.iload_n 1, 1) := by decide +kernel
theorem dX11_game_2 : decode cX11_game 2 = .ok (.invokevirtual 156, 3) := by decide +kernel
theorem dX11_game_5 : decode cX11_game 5 = .ok (.aload_n 0, 1) := by decide +kernel
theorem dX11_game_6 : decode cX11_game 6 = .ok (.iload_n 2, 1) := by decide +kernel
theorem dX11_game_7 : decode cX11_game 7 = .ok (.invokevirtual 156, 3) := by decide +kernel
theorem dX11_game_10 : decode cX11_game 10 = .ok (.iload_n 3, 1) := by decide +kernel
theorem dX11_game_11 : decode cX11_game 11 = .ok (.iconst 1, 1) := by decide +kernel
theorem dX11_game_12 : decode cX11_game 12 = .ok (.invokestatic 109, 3) := by decide +kernel
theorem dX11_game_15 : decode cX11_game 15 = .ok (.iload_n 1, 1) := by decide +kernel
theorem dX11_game_16 : decode cX11_game 16 = .ok (.iload_n 2, 1) := by decide +kernel
theorem dX11_game_17 : decode cX11_game 17 = .ok (.if_icmp .ne 14, 3) := by decide +kernel
theorem dX11_game_20 : decode cX11_game 20 = .ok (.new 259, 3) := by decide +kernel
theorem dX11_game_23 : decode cX11_game 23 = .ok (.dup, 1) := by decide +kernel
theorem dX11_game_24 : decode cX11_game 24 = .ok (.ldc_w 298, 3) := by decide +kernel
theorem dX11_game_27 : decode cX11_game 27 = .ok (.invokespecial 263, 3) := by decide +kernel
theorem dX11_game_30 : decode cX11_game 30 = .ok (.athrow, 1) := by decide +kernel
theorem dX11_game_31 : decode cX11_game 31 = .ok (.aload_n 0, 1) := by decide +kernel
theorem dX11_game_32 : decode cX11_game 32 = .ok (.iload_n 1, 1) := by decide +kernel
theorem dX11_game_33 : decode cX11_game 33 = .ok (.iload_n 2, 1) := by decide +kernel
theorem dX11_game_34 : decode cX11_game 34 = .ok (.invokevirtual 300, 3) := by decide +kernel
theorem dX11_game_37 : decode cX11_game 37 = .ok (.iconst 0, 1) := by decide +kernel
theorem dX11_game_38 : decode cX11_game 38 = .ok (.istore 4, 2) := by decide +kernel
theorem dX11_game_40 : decode cX11_game 40 = .ok (.iconst (-1), 1) := by decide +kernel
theorem dX11_game_41 : decode cX11_game 41 = .ok (.istore 5, 2) := by decide +kernel
theorem dX11_game_43 : decode cX11_game 43 = .ok (.iconst 0, 1) := by decide +kernel
theorem dX11_game_44 : decode cX11_game 44 = .ok (.istore 6, 2) := by decide +kernel
theorem dX11_game_46 : decode cX11_game 46 = .ok (.iload 6, 2) := by decide +kernel
theorem dX11_game_48 : decode cX11_game 48 = .ok (.iconst 4, 1) := by decide +kernel
theorem dX11_game_49 : decode cX11_game 49 = .ok (.if_icmp .ge 70, 3) := by decide +kernel
theorem dX11_game_52 : decode cX11_game 52 = .ok (.aload_n 0, 1) := by decide +kernel
theorem dX11_game_53 : decode cX11_game 53 = .ok (.getfield 51, 3) := by decide +kernel
theorem dX11_game_56 : decode cX11_game 56 = .ok (.iload 6, 2) := by decide +kernel
theorem dX11_game_58 : decode cX11_game 58 = .ok (.iaload, 1) := by decide +kernel
theorem dX11_game_59 : decode cX11_game 59 = .ok (.aload_n 0, 1) := by decide +kernel
theorem dX11_game_60 : decode cX11_game 60 = .ok (.getfield 51, 3) := by decide +kernel
theorem dX11_game_63 : decode cX11_game 63 = .ok (.iload 6, 2) := by decide +kernel
theorem dX11_game_65 : decode cX11_game 65 = .ok (.iconst 2, 1) := by decide +kernel
theorem dX11_game_66 : decode cX11_game 66 = .ok (.ixor, 1) := by decide +kernel
theorem dX11_game_67 : decode cX11_game 67 = .ok (.iaload, 1) := by decide +kernel
theorem dX11_game_68 : decode cX11_game 68 = .ok (.if_icmp .lt 45, 3) := by decide +kernel
theorem dX11_game_71 : decode cX11_game 71 = .ok (.aload_n 0, 1) := by decide +kernel
theorem dX11_game_72 : decode cX11_game 72 = .ok (.getfield 54, 3) := by decide +kernel
theorem dX11_game_75 : decode cX11_game 75 = .ok (.iload 6, 2) := by decide +kernel
theorem dX11_game_77 : decode cX11_game 77 = .ok (.iaload, 1) := by decide +kernel
theorem dX11_game_78 : decode cX11_game 78 = .ok (.aload_n 0, 1) := by decide +kernel
theorem dX11_game_79 : decode cX11_game 79 = .ok (.getfield 54, 3) := by decide +kernel
theorem dX11_game_82 : decode cX11_game 82 = .ok (.iload 6, 2) := by decide +kernel
theorem dX11_game_84 : decode cX11_game 84 = .ok (.iconst 1, 1) := by decide +kernel
theorem dX11_game_85 : decode cX11_game 85 = .ok (.ixor, 1) := by decide +kernel
theorem dX11_game_86 : decode cX11_game 86 = .ok (.iaload, 1) := by decide +kernel
theorem dX11_game_87 : decode cX11_game 87 = .ok (.if_icmp .lt 26, 3) := by decide +kernel
theorem dX11_game_90 : decode cX11_game 90 = .ok (.iinc 4 1, 3) := by decide +kernel
theorem dX11_game_93 : decode cX11_game 93 = .ok (.iload 5, 2) := by decide +kernel
theorem dX11_game_95 : decode cX11_game 95 = .ok (.iconst (-1), 1) := by decide +kernel
theorem dX11_game_96 : decode cX11_game 96 = .ok (.if_icmp .ne 17, 3) := by decide +kernel
theorem dX11_game_99 : decode cX11_game 99 = .ok (.iload 6, 2) := by decide +kernel
theorem dX11_game_101 : decode cX11_game 101 = .ok (.iconst 1, 1) := by decide +kernel
theorem dX11_game_102 : decode cX11_game 102 = .ok (.ishr, 1) := by decide +kernel
theorem dX11_game_103 : decode cX11_game 103 = .ok (.bipush 10, 2) := by decide +kernel
theorem dX11_game_105 : decode cX11_game 105 = .ok (.imul, 1) := by decide +kernel
theorem dX11_game_106 : decode cX11_game 106 = .ok (.iload 6, 2) := by decide +kernel
theorem dX11_game_108 : decode cX11_game 108 = .ok (.iconst 1, 1) := by decide +kernel
theorem dX11_game_109 : decode cX11_game 109 = .ok (.iand, 1) := by decide +kernel
theorem dX11_game_110 : decode cX11_game 110 = .ok (.iadd, 1) := by decide +kernel
theorem dX11_game_111 : decode cX11_game 111 = .ok (.istore 5, 2) := by decide +kernel
theorem dX11_game_113 : decode cX11_game 113 = .ok (.iinc 6 1, 3) := by decide +kernel
theorem dX11_game_116 : decode cX11_game 116 = .ok (.goto (-70), 3) := by decide +kernel
theorem dX11_game_119 : decode cX11_game 119 = .ok (.iload_n 3, 1) := by decide +kernel
theorem dX11_game_120 : decode cX11_game 120 = .ok (.ifCond .ne 8, 3) := by decide +kernel
theorem dX11_game_123 : decode cX11_game 123 = .ok (.iload 4, 2) := by decide +kernel
theorem dX11_game_125 : decode cX11_game 125 = .ok (.goto 5, 3) := by decide +kernel
theorem dX11_game_128 : decode cX11_game 128 = .ok (.iload 5, 2) := by decide +kernel
theorem dX11_game_130 : decode cX11_game 130 = .ok (.ireturn, 1) := by decide +kernel
theorem dX11_years_0 : decode cX11_years 0 = .ok (.iload_n 3, 1) := by decide +kernel
theorem dX11_years_1 : decode cX11_years 1 = .ok (.iconst 2, 1) := by decide +kernel
theorem dX11_years_2 : decode cX11_years 2 = .ok (.invokestatic 109, 3) := by decide +kernel
theorem dX11_years_5 : decode cX11_years 5 = .ok (.iload_n 2, 1) := by decide +kernel
theorem dX11_years_6 : decode cX11_years 6 = .ok (.iconst 0, 1) := by decide +kernel
theorem dX11_years_7 : decode cX11_years 7 = .ok (.sipush 200, 3) := by decide +kernel
theorem dX11_years_10 : decode cX11_years 10 = .ok (.invokestatic 81, 3) := by decide +kernel
theorem dX11_years_13 : decode cX11_years 13 = .ok (.aload_n 0, 1) := by decide +kernel
theorem dX11_years_14 : decode cX11_years 14 = .ok (.iload_n 1, 1) := by decide +kernel
theorem dX11_years_15 : decode cX11_years 15 = .ok (.putfield 65, 3) := by decide +kernel
theorem dX11_years_18 : decode cX11_years 18 = .ok (.aload_n 0, 1) := by decide +kernel
theorem dX11_years_19 : decode cX11_years 19 = .ok (.iconst 0, 1) := by decide +kernel
theorem dX11_years_20 : decode cX11_years 20 = .ok (.invokevirtual 217, 3) := by decide +kernel
theorem dX11_years_23 : decode cX11_years 23 = .ok (.iconst 0, 1) := by decide +kernel
theorem dX11_years_24 : decode cX11_years 24 = .ok (.istore 4, 2) := by decide +kernel
theorem dX11_years_26 : decode cX11_years 26 = .ok (.iload 4, 2) := by decide +kernel
theorem dX11_years_28 : decode cX11_years 28 = .ok (.iload_n 2, 1) := by decide +kernel
theorem dX11_years_29 : decode cX11_years 29 = .ok (.if_icmp .ge 21, 3) := by decide +kernel
theorem dX11_years_32 : decode cX11_years 32 = .ok (.aload_n 0, 1) := by decide +kernel
theorem dX11_years_33 : decode cX11_years 33 = .ok (.invokevirtual 303, 3) := by decide +kernel
theorem dX11_years_36 : decode cX11_years 36 = .ok (.aload_n 0, 1) := by decide +kernel
theorem dX11_years_37 : decode cX11_years 37 = .ok (.getfield 29, 3) := by decide +kernel
theorem dX11_years_40 : decode cX11_years 40 = .ok (.iconst 1, 1) := by decide +kernel
theorem dX11_years_41 : decode cX11_years 41 = .ok (.invokevirtual 191, 3) := by decide +kernel
theorem dX11_years_44 : decode cX11_years 44 = .ok (.iinc 4 1, 3) := by decide +kernel
theorem dX11_years_47 : decode cX11_years 47 = .ok (.goto (-21), 3) := by decide +kernel
theorem dX11_years_50 : decode cX11_years 50 = .ok (.iload_n 3, 1) := by decide +kernel
theorem dX11_years_51 : decode cX11_years 51 = .ok (.lookupswitch 44 #[(0, 25), (1, 33)], 25) := by decide +kernel
theorem dX11_years_76 : decode cX11_years 76 = .ok (.aload_n 0, 1) := by decide +kernel
theorem dX11_years_77 : decode cX11_years 77 = .ok (.getfield 29, 3) := by decide +kernel
theorem dX11_years_80 : decode cX11_years 80 = .ok (.invokevirtual 306, 3) := by decide +kernel
theorem dX11_years_83 : decode cX11_years 83 = .ok (.ireturn, 1) := by decide +kernel
theorem dX11_years_84 : decode cX11_years 84 = .ok (.aload_n 0, 1) := by decide +kernel
theorem dX11_years_85 : decode cX11_years 85 = .ok (.getfield 29, 3) := by decide +kernel
theorem dX11_years_88 : decode cX11_years 88 = .ok (.getfield 220, 3) := by decide +kernel
theorem dX11_years_91 : decode cX11_years 91 = .ok (.invokevirtual 126, 3) := by decide +kernel
theorem dX11_years_94 : decode cX11_years 94 = .ok (.ireturn, 1) := by decide +kernel
theorem dX11_years_95 : decode cX11_years 95 = .ok (.aload_n 0, 1) := by decide +kernel
theorem dX11_years_96 : decode cX11_years 96 = .ok (.getfield 29, 3) := by decide +kernel
theorem dX11_years_99 : decode cX11_years 99 = .ok (.invokevirtual 309, 3) := by decide +kernel
theorem dX11_years_102 : decode cX11_years 102 = .ok (.invokestatic 312, 3) := by decide +kernel
theorem dX11_years_105 : decode cX11_years 105 = .ok (.ireturn, 1) := by decide +kernel
theorem dX11_later_0 : decode cX11_later 0 = .ok (.iload_n 2, 1) := by decide +kernel
theorem dX11_later_1 : decode cX11_later 1 = .ok (.iconst 2, 1) := by decide +kernel
theorem dX11_later_2 : decode cX11_later 2 = .ok (.invokestatic 109, 3) := by decide +kernel
theorem dX11_later_5 : decode cX11_later 5 = .ok (.iload_n 1, 1) := by decide +kernel
theorem dX11_later_6 : decode cX11_later 6 = .ok (.iconst 0, 1) := by decide +kernel
theorem dX11_later_7 : decode cX11_later 7 = .ok (.sipush 200, 3) := by decide +kernel
theorem dX11_later_10 : decode cX11_later 10 = .ok (.invokestatic 81, 3) := by decide +kernel
theorem dX11_later_13 : decode cX11_later 13 = .ok (.aload_n 0, 1) := by decide +kernel
theorem dX11_later_14 : decode cX11_later 14 = .ok (.iload_n 1, 1) := by decide +kernel
theorem dX11_later_15 : decode cX11_later 15 = .ok (.invokevirtual 217, 3) := by decide +kernel
theorem dX11_later_18 : decode cX11_later 18 = .ok (.iload_n 2, 1) := by decide +kernel
theorem dX11_later_19 : decode cX11_later 19 = .ok (.lookupswitch 52 #[(0, 25), (1, 40)], 25) := by decide +kernel
theorem dX11_later_44 : decode cX11_later 44 = .ok (.aload_n 0, 1) := by decide +kernel
theorem dX11_later_45 : decode cX11_later 45 = .ok (.aload_n 0, 1) := by decide +kernel
theorem dX11_later_46 : decode cX11_later 46 = .ok (.getfield 29, 3) := by decide +kernel
theorem dX11_later_49 : decode cX11_later 49 = .ok (.getfield 220, 3) := by decide +kernel
theorem dX11_later_52 : decode cX11_later 52 = .ok (.getfield 162, 3) := by decide +kernel
theorem dX11_later_55 : decode cX11_later 55 = .ok (.invokevirtual 317, 3) := by decide +kernel
theorem dX11_later_58 : decode cX11_later 58 = .ok (.ireturn, 1) := by decide +kernel
theorem dX11_later_59 : decode cX11_later 59 = .ok (.aload_n 0, 1) := by decide +kernel
theorem dX11_later_60 : decode cX11_later 60 = .ok (.aload_n 0, 1) := by decide +kernel
theorem dX11_later_61 : decode cX11_later 61 = .ok (.getfield 29, 3) := by decide +kernel
theorem dX11_later_64 : decode cX11_later 64 = .ok (.getfield 220, 3) := by decide +kernel
theorem dX11_later_67 : decode cX11_later 67 = .ok (.invokevirtual 321, 3) := by decide +kernel
theorem dX11_later_70 : decode cX11_later 70 = .ok (.ireturn, 1) := by decide +kernel
theorem dX11_later_71 : decode cX11_later 71 = .ok (.aload_n 0, 1) := by decide +kernel
theorem dX11_later_72 : decode cX11_later 72 = .ok (.getfield 29, 3) := by decide +kernel
theorem dX11_later_75 : decode cX11_later 75 = .ok (.getfield 325, 3) := by decide +kernel
theorem dX11_later_78 : decode cX11_later 78 = .ok (.ireturn, 1) := by decide +kernel
theorem dX11_oftenest_0 : decode cX11_oftenest 0 = .ok (.iload_n 1, 1) := by decide +kernel
theorem dX11_oftenest_1 : decode cX11_oftenest 1 = .ok (.iconst 1, 1) := by decide +kernel
theorem dX11_oftenest_2 : decode cX11_oftenest 2 = .ok (.sipush 200, 3) := by decide +kernel
theorem dX11_oftenest_5 : decode cX11_oftenest 5 = .ok (.invokestatic 81, 3) := by decide +kernel
theorem dX11_oftenest_8 : decode cX11_oftenest 8 = .ok (.aload_n 0, 1) := by decide +kernel
theorem dX11_oftenest_9 : decode cX11_oftenest 9 = .ok (.iload_n 1, 1) := by decide +kernel
theorem dX11_oftenest_10 : decode cX11_oftenest 10 = .ok (.invokevirtual 217, 3) := by decide +kernel
theorem dX11_oftenest_13 : decode cX11_oftenest 13 = .ok (.aload_n 0, 1) := by decide +kernel
theorem dX11_oftenest_14 : decode cX11_oftenest 14 = .ok (.aload_n 0, 1) := by decide +kernel
theorem dX11_oftenest_15 : decode cX11_oftenest 15 = .ok (.getfield 29, 3) := by decide +kernel
theorem dX11_oftenest_18 : decode cX11_oftenest 18 = .ok (.getfield 208, 3) := by decide +kernel
theorem dX11_oftenest_21 : decode cX11_oftenest 21 = .ok (.invokevirtual 317, 3) := by decide +kernel
theorem dX11_oftenest_24 : decode cX11_oftenest 24 = .ok (.ireturn, 1) := by decide +kernel
theorem dX11_round_0 : decode cX11_round 0 = .ok (.aload_n 0, 1) := by decide +kernel
theorem dX11_round_1 : decode cX11_round 1 = .ok (.iconst 0, 1) := by decide +kernel
theorem dX11_round_2 : decode cX11_round 2 = .ok (.invokevirtual 217, 3) := by decide +kernel
theorem dX11_round_5 : decode cX11_round 5 = .ok (.iconst 1, 1) := by decide +kernel
theorem dX11_round_6 : decode cX11_round 6 = .ok (.istore_n 1, 1) := by decide +kernel
theorem dX11_round_7 : decode cX11_round 7 = .ok (.iload_n 1, 1) := by decide +kernel
theorem dX11_round_8 : decode cX11_round 8 = .ok (.sipush 200, 3) := by decide +kernel
theorem dX11_round_11 : decode cX11_round 11 = .ok (.if_icmp .gt 39, 3) := by decide +kernel
theorem dX11_round_14 : decode cX11_round 14 = .ok (.aload_n 0, 1) := by decide +kernel
theorem dX11_round_15 : decode cX11_round 15 = .ok (.getfield 29, 3) := by decide +kernel
theorem dX11_round_18 : decode cX11_round 18 = .ok (.iconst 1, 1) := by decide +kernel
theorem dX11_round_19 : decode cX11_round 19 = .ok (.invokevirtual 191, 3) := by decide +kernel
theorem dX11_round_22 : decode cX11_round 22 = .ok (.aload_n 0, 1) := by decide +kernel
theorem dX11_round_23 : decode cX11_round 23 = .ok (.getfield 29, 3) := by decide +kernel
theorem dX11_round_26 : decode cX11_round 26 = .ok (.getfield 220, 3) := by decide +kernel
theorem dX11_round_29 : decode cX11_round 29 = .ok (.aload_n 0, 1) := by decide +kernel
theorem dX11_round_30 : decode cX11_round 30 = .ok (.getfield 19, 3) := by decide +kernel
theorem dX11_round_33 : decode cX11_round 33 = .ok (.getfield 116, 3) := by decide +kernel
theorem dX11_round_36 : decode cX11_round 36 = .ok (.invokevirtual 328, 3) := by decide +kernel
theorem dX11_round_39 : decode cX11_round 39 = .ok (.ifCond .eq 5, 3) := by decide +kernel
theorem dX11_round_42 : decode cX11_round 42 = .ok (.iload_n 1, 1) := by decide +kernel
theorem dX11_round_43 : decode cX11_round 43 = .ok (.ireturn, 1) := by decide +kernel
theorem dX11_round_44 : decode cX11_round 44 = .ok (.iinc 1 1, 3) := by decide +kernel
theorem dX11_round_47 : decode cX11_round 47 = .ok (.goto (-40), 3) := by decide +kernel
theorem dX11_round_50 : decode cX11_round 50 = .ok (.iconst (-1), 1) := by decide +kernel
theorem dX11_round_51 : decode cX11_round 51 = .ok (.ireturn, 1) := by decide +kernel
theorem dX11_pause_0 : decode cX11_pause 0 = .ok (.aload_n 0, 1) := by decide +kernel
theorem dX11_pause_1 : decode cX11_pause 1 = .ok (.iload_n 1, 1) := by decide +kernel
theorem dX11_pause_2 : decode cX11_pause 2 = .ok (.invokevirtual 156, 3) := by decide +kernel
theorem dX11_pause_5 : decode cX11_pause 5 = .ok (.iconst (-1), 1) := by decide +kernel
theorem dX11_pause_6 : decode cX11_pause 6 = .ok (.istore_n 2, 1) := by decide +kernel
theorem dX11_pause_7 : decode cX11_pause 7 = .ok (.aload_n 0, 1) := by decide +kernel
theorem dX11_pause_8 : decode cX11_pause 8 = .ok (.iconst 0, 1) := by decide +kernel
theorem dX11_pause_9 : decode cX11_pause 9 = .ok (.invokevirtual 217, 3) := by decide +kernel
theorem dX11_pause_12 : decode cX11_pause 12 = .ok (.iconst 1, 1) := by decide +kernel
theorem dX11_pause_13 : decode cX11_pause 13 = .ok (.istore_n 3, 1) := by decide +kernel
theorem dX11_pause_14 : decode cX11_pause 14 = .ok (.iload_n 3, 1) := by decide +kernel
theorem dX11_pause_15 : decode cX11_pause 15 = .ok (.sipush 200, 3) := by decide +kernel
theorem dX11_pause_18 : decode cX11_pause 18 = .ok (.if_icmp .gt 42, 3) := by decide +kernel
theorem dX11_pause_21 : decode cX11_pause 21 = .ok (.aload_n 0, 1) := by decide +kernel
theorem dX11_pause_22 : decode cX11_pause 22 = .ok (.getfield 29, 3) := by decide +kernel
theorem dX11_pause_25 : decode cX11_pause 25 = .ok (.iconst 1, 1) := by decide +kernel
theorem dX11_pause_26 : decode cX11_pause 26 = .ok (.invokevirtual 191, 3) := by decide +kernel
theorem dX11_pause_29 : decode cX11_pause 29 = .ok (.aload_n 0, 1) := by decide +kernel
theorem dX11_pause_30 : decode cX11_pause 30 = .ok (.getfield 29, 3) := by decide +kernel
theorem dX11_pause_33 : decode cX11_pause 33 = .ok (.getfield 221, 3) := by decide +kernel
theorem dX11_pause_36 : decode cX11_pause 36 = .ok (.iload_n 1, 1) := by decide +kernel
theorem dX11_pause_37 : decode cX11_pause 37 = .ok (.invokestatic 332, 3) := by decide +kernel
theorem dX11_pause_40 : decode cX11_pause 40 = .ok (.ifCond .eq 14, 3) := by decide +kernel
theorem dX11_pause_43 : decode cX11_pause 43 = .ok (.iload_n 2, 1) := by decide +kernel
theorem dX11_pause_44 : decode cX11_pause 44 = .ok (.iconst (-1), 1) := by decide +kernel
theorem dX11_pause_45 : decode cX11_pause 45 = .ok (.if_icmp .eq 7, 3) := by decide +kernel
theorem dX11_pause_48 : decode cX11_pause 48 = .ok (.iload_n 3, 1) := by decide +kernel
theorem dX11_pause_49 : decode cX11_pause 49 = .ok (.iload_n 2, 1) := by decide +kernel
theorem dX11_pause_50 : decode cX11_pause 50 = .ok (.isub, 1) := by decide +kernel
theorem dX11_pause_51 : decode cX11_pause 51 = .ok (.ireturn, 1) := by decide +kernel
theorem dX11_pause_52 : decode cX11_pause 52 = .ok (.iload_n 3, 1) := by decide +kernel
theorem dX11_pause_53 : decode cX11_pause 53 = .ok (.istore_n 2, 1) := by decide +kernel
theorem dX11_pause_54 : decode cX11_pause 54 = .ok (.iinc 3 1, 3) := by decide +kernel
theorem dX11_pause_57 : decode cX11_pause 57 = .ok (.goto (-43), 3) := by decide +kernel
theorem dX11_pause_60 : decode cX11_pause 60 = .ok (.iconst (-1), 1) := by decide +kernel
theorem dX11_pause_61 : decode cX11_pause 61 = .ok (.ireturn, 1) := by decide +kernel
theorem dX11_giver_0 : decode cX11_giver 0 = .ok (.aload_n 0, 1) := by decide +kernel
theorem dX11_giver_1 : decode cX11_giver 1 = .ok (.iload_n 1, 1) := by decide +kernel
theorem dX11_giver_2 : decode cX11_giver 2 = .ok (.invokevirtual 156, 3) := by decide +kernel
theorem dX11_giver_5 : decode cX11_giver 5 = .ok (.iload_n 2, 1) := by decide +kernel
theorem dX11_giver_6 : decode cX11_giver 6 = .ok (.iconst 0, 1) := by decide +kernel
theorem dX11_giver_7 : decode cX11_giver 7 = .ok (.ldc 236, 2) := by decide +kernel
theorem dX11_giver_9 : decode cX11_giver 9 = .ok (.invokestatic 81, 3) := by decide +kernel
theorem dX11_giver_12 : decode cX11_giver 12 = .ok (.aload_n 0, 1) := by decide +kernel
theorem dX11_giver_13 : decode cX11_giver 13 = .ok (.getfield 36, 3) := by decide +kernel
theorem dX11_giver_16 : decode cX11_giver 16 = .ok (.aload_n 0, 1) := by decide +kernel
theorem dX11_giver_17 : decode cX11_giver 17 = .ok (.getfield 29, 3) := by decide +kernel
theorem dX11_giver_20 : decode cX11_giver 20 = .ok (.getfield 92, 3) := by decide +kernel
theorem dX11_giver_23 : decode cX11_giver 23 = .ok (.aload_n 0, 1) := by decide +kernel
theorem dX11_giver_24 : decode cX11_giver 24 = .ok (.getfield 19, 3) := by decide +kernel
theorem dX11_giver_27 : decode cX11_giver 27 = .ok (.getfield 116, 3) := by decide +kernel
theorem dX11_giver_30 : decode cX11_giver 30 = .ok (.iload_n 2, 1) := by decide +kernel
theorem dX11_giver_31 : decode cX11_giver 31 = .ok (.invokevirtual 237, 3) := by decide +kernel
theorem dX11_giver_34 : decode cX11_giver 34 = .ok (.iconst (-1), 1) := by decide +kernel
theorem dX11_giver_35 : decode cX11_giver 35 = .ok (.istore_n 3, 1) := by decide +kernel
theorem dX11_giver_36 : decode cX11_giver 36 = .ok (.iconst 0, 1) := by decide +kernel
theorem dX11_giver_37 : decode cX11_giver 37 = .ok (.istore 4, 2) := by decide +kernel
theorem dX11_giver_39 : decode cX11_giver 39 = .ok (.iconst 0, 1) := by decide +kernel
theorem dX11_giver_40 : decode cX11_giver 40 = .ok (.istore 5, 2) := by decide +kernel
theorem dX11_giver_42 : decode cX11_giver 42 = .ok (.iload 5, 2) := by decide +kernel
theorem dX11_giver_44 : decode cX11_giver 44 = .ok (.iload_n 1, 1) := by decide +kernel
theorem dX11_giver_45 : decode cX11_giver 45 = .ok (.if_icmp .ge 72, 3) := by decide +kernel
theorem dX11_giver_48 : decode cX11_giver 48 = .ok (.aload_n 0, 1) := by decide +kernel
theorem dX11_giver_49 : decode cX11_giver 49 = .ok (.getfield 19, 3) := by decide +kernel
theorem dX11_giver_52 : decode cX11_giver 52 = .ok (.getfield 116, 3) := by decide +kernel
theorem dX11_giver_55 : decode cX11_giver 55 = .ok (.iload 5, 2) := by decide +kernel
theorem dX11_giver_57 : decode cX11_giver 57 = .ok (.invokevirtual 335, 3) := by decide +kernel
theorem dX11_giver_60 : decode cX11_giver 60 = .ok (.iload_n 1, 1) := by decide +kernel
theorem dX11_giver_61 : decode cX11_giver 61 = .ok (.invokestatic 332, 3) := by decide +kernel
theorem dX11_giver_64 : decode cX11_giver 64 = .ok (.ifCond .eq 47, 3) := by decide +kernel
theorem dX11_giver_67 : decode cX11_giver 67 = .ok (.aload_n 0, 1) := by decide +kernel
theorem dX11_giver_68 : decode cX11_giver 68 = .ok (.getfield 19, 3) := by decide +kernel
theorem dX11_giver_71 : decode cX11_giver 71 = .ok (.getfield 116, 3) := by decide +kernel
theorem dX11_giver_74 : decode cX11_giver 74 = .ok (.iload 5, 2) := by decide +kernel
theorem dX11_giver_76 : decode cX11_giver 76 = .ok (.iload_n 1, 1) := by decide +kernel
theorem dX11_giver_77 : decode cX11_giver 77 = .ok (.aload_n 0, 1) := by decide +kernel
theorem dX11_giver_78 : decode cX11_giver 78 = .ok (.getfield 36, 3) := by decide +kernel
theorem dX11_giver_81 : decode cX11_giver 81 = .ok (.getfield 241, 3) := by decide +kernel
theorem dX11_giver_84 : decode cX11_giver 84 = .ok (.iload 5, 2) := by decide +kernel
theorem dX11_giver_86 : decode cX11_giver 86 = .ok (.iaload, 1) := by decide +kernel
theorem dX11_giver_87 : decode cX11_giver 87 = .ok (.invokevirtual 338, 3) := by decide +kernel
theorem dX11_giver_90 : decode cX11_giver 90 = .ok (.istore 6, 2) := by decide +kernel
theorem dX11_giver_92 : decode cX11_giver 92 = .ok (.iload_n 3, 1) := by decide +kernel
theorem dX11_giver_93 : decode cX11_giver 93 = .ok (.iconst (-1), 1) := by decide +kernel
theorem dX11_giver_94 : decode cX11_giver 94 = .ok (.if_icmp .eq 10, 3) := by decide +kernel
theorem dX11_giver_97 : decode cX11_giver 97 = .ok (.iload 6, 2) := by decide +kernel
theorem dX11_giver_99 : decode cX11_giver 99 = .ok (.iload 4, 2) := by decide +kernel
theorem dX11_giver_101 : decode cX11_giver 101 = .ok (.if_icmp .le 10, 3) := by decide +kernel
theorem dX11_giver_104 : decode cX11_giver 104 = .ok (.iload 5, 2) := by decide +kernel
theorem dX11_giver_106 : decode cX11_giver 106 = .ok (.istore_n 3, 1) := by decide +kernel
theorem dX11_giver_107 : decode cX11_giver 107 = .ok (.iload 6, 2) := by decide +kernel
theorem dX11_giver_109 : decode cX11_giver 109 = .ok (.istore 4, 2) := by decide +kernel
theorem dX11_giver_111 : decode cX11_giver 111 = .ok (.iinc 5 1, 3) := by decide +kernel
theorem dX11_giver_114 : decode cX11_giver 114 = .ok (.goto (-72), 3) := by decide +kernel
theorem dX11_giver_117 : decode cX11_giver 117 = .ok (.iload_n 3, 1) := by decide +kernel
theorem dX11_giver_118 : decode cX11_giver 118 = .ok (.ireturn, 1) := by decide +kernel
theorem dX11_toPour_0 : decode cX11_toPour 0 = .ok (.aload_n 0, 1) := by decide +kernel
theorem dX11_toPour_1 : decode cX11_toPour 1 = .ok (.iload_n 1, 1) := by decide +kernel
theorem dX11_toPour_2 : decode cX11_toPour 2 = .ok (.invokevirtual 156, 3) := by decide +kernel
theorem dX11_toPour_5 : decode cX11_toPour 5 = .ok (.iload_n 2, 1) := by decide +kernel
theorem dX11_toPour_6 : decode cX11_toPour 6 = .ok (.iconst 1, 1) := by decide +kernel
theorem dX11_toPour_7 : decode cX11_toPour 7 = .ok (.bipush 60, 2) := by decide +kernel
theorem dX11_toPour_9 : decode cX11_toPour 9 = .ok (.invokestatic 81, 3) := by decide +kernel
theorem dX11_toPour_12 : decode cX11_toPour 12 = .ok (.iconst 0, 1) := by decide +kernel
theorem dX11_toPour_13 : decode cX11_toPour 13 = .ok (.istore_n 3, 1) := by decide +kernel
theorem dX11_toPour_14 : decode cX11_toPour 14 = .ok (.iload_n 3, 1) := by decide +kernel
theorem dX11_toPour_15 : decode cX11_toPour 15 = .ok (.bipush 50, 2) := by decide +kernel
theorem dX11_toPour_17 : decode cX11_toPour 17 = .ok (.if_icmp .gt 47, 3) := by decide +kernel
theorem dX11_toPour_20 : decode cX11_toPour 20 = .ok (.aload_n 0, 1) := by decide +kernel
theorem dX11_toPour_21 : decode cX11_toPour 21 = .ok (.iconst 0, 1) := by decide +kernel
theorem dX11_toPour_22 : decode cX11_toPour 22 = .ok (.invokevirtual 217, 3) := by decide +kernel
theorem dX11_toPour_25 : decode cX11_toPour 25 = .ok (.aload_n 0, 1) := by decide +kernel
theorem dX11_toPour_26 : decode cX11_toPour 26 = .ok (.getfield 29, 3) := by decide +kernel
theorem dX11_toPour_29 : decode cX11_toPour 29 = .ok (.iload_n 1, 1) := by decide +kernel
theorem dX11_toPour_30 : decode cX11_toPour 30 = .ok (.iload_n 3, 1) := by decide +kernel
theorem dX11_toPour_31 : decode cX11_toPour 31 = .ok (.invokevirtual 205, 3) := by decide +kernel
theorem dX11_toPour_34 : decode cX11_toPour 34 = .ok (.aload_n 0, 1) := by decide +kernel
theorem dX11_toPour_35 : decode cX11_toPour 35 = .ok (.getfield 29, 3) := by decide +kernel
theorem dX11_toPour_38 : decode cX11_toPour 38 = .ok (.iload_n 2, 1) := by decide +kernel
theorem dX11_toPour_39 : decode cX11_toPour 39 = .ok (.invokevirtual 191, 3) := by decide +kernel
theorem dX11_toPour_42 : decode cX11_toPour 42 = .ok (.aload_n 0, 1) := by decide +kernel
theorem dX11_toPour_43 : decode cX11_toPour 43 = .ok (.getfield 29, 3) := by decide +kernel
theorem dX11_toPour_46 : decode cX11_toPour 46 = .ok (.getfield 221, 3) := by decide +kernel
theorem dX11_toPour_49 : decode cX11_toPour 49 = .ok (.iload_n 1, 1) := by decide +kernel
theorem dX11_toPour_50 : decode cX11_toPour 50 = .ok (.invokestatic 332, 3) := by decide +kernel
theorem dX11_toPour_53 : decode cX11_toPour 53 = .ok (.ifCond .eq 5, 3) := by decide +kernel
theorem dX11_toPour_56 : decode cX11_toPour 56 = .ok (.iload_n 3, 1) := by decide +kernel
theorem dX11_toPour_57 : decode cX11_toPour 57 = .ok (.ireturn, 1) := by decide +kernel
theorem dX11_toPour_58 : decode cX11_toPour 58 = .ok (.iinc 3 1, 3) := by decide +kernel
theorem dX11_toPour_61 : decode cX11_toPour 61 = .ok (.goto (-47), 3) := by decide +kernel
theorem dX11_toPour_64 : decode cX11_toPour 64 = .ok (.iconst (-1), 1) := by decide +kernel
theorem dX11_toPour_65 : decode cX11_toPour 65 = .ok (.ireturn, 1) := by decide +kernel
theorem dX11_ways_0 : decode cX11_ways 0 = .ok (.aload_n 0, 1) := by decide +kernel
theorem dX11_ways_1 : decode cX11_ways 1 = .ok (.iload_n 1, 1) := by decide +kernel
theorem dX11_ways_2 : decode cX11_ways 2 = .ok (.invokevirtual 156, 3) := by decide +kernel
theorem dX11_ways_5 : decode cX11_ways 5 = .ok (.aload_n 0, 1) := by decide +kernel
theorem dX11_ways_6 : decode cX11_ways 6 = .ok (.iload_n 2, 1) := by decide +kernel
theorem dX11_ways_7 : decode cX11_ways 7 = .ok (.invokevirtual 156, 3) := by decide +kernel
theorem dX11_ways_10 : decode cX11_ways 10 = .ok (.aload_n 0, 1) := by decide +kernel
theorem dX11_ways_11 : decode cX11_ways 11 = .ok (.getfield 19, 3) := by decide +kernel
theorem dX11_ways_14 : decode cX11_ways 14 = .ok (.getfield 116, 3) := by decide +kernel
theorem dX11_ways_17 : decode cX11_ways 17 = .ok (.iload_n 1, 1) := by decide +kernel
theorem dX11_ways_18 : decode cX11_ways 18 = .ok (.iload_n 2, 1) := by decide +kernel
theorem dX11_ways_19 : decode cX11_ways 19 = .ok (.invokevirtual 342, 3) := by decide +kernel
theorem dX11_ways_22 : decode cX11_ways 22 = .ok (.ireturn, 1) := by decide +kernel
theorem dX11_chorus_0 : decode cX11_chorus 0 = .ok (.aload_n 0, 1) := by decide +kernel
theorem dX11_chorus_1 : decode cX11_chorus 1 = .ok (.iload_n 1, 1) := by decide +kernel
theorem dX11_chorus_2 : decode cX11_chorus 2 = .ok (.invokevirtual 227, 3) := by decide +kernel
theorem dX11_chorus_5 : decode cX11_chorus 5 = .ok (.iload_n 2, 1) := by decide +kernel
theorem dX11_chorus_6 : decode cX11_chorus 6 = .ok (.iconst 1, 1) := by decide +kernel
theorem dX11_chorus_7 : decode cX11_chorus 7 = .ok (.sipush 200, 3) := by decide +kernel
theorem dX11_chorus_10 : decode cX11_chorus 10 = .ok (.invokestatic 81, 3) := by decide +kernel
theorem dX11_chorus_13 : decode cX11_chorus 13 = .ok (.iconst 0, 1) := by decide +kernel
theorem dX11_chorus_14 : decode cX11_chorus 14 = .ok (.istore_n 3, 1) := by decide +kernel
theorem dX11_chorus_15 : decode cX11_chorus 15 = .ok (.aload_n 0, 1) := by decide +kernel
theorem dX11_chorus_16 : decode cX11_chorus 16 = .ok (.iconst 0, 1) := by decide +kernel
theorem dX11_chorus_17 : decode cX11_chorus 17 = .ok (.invokevirtual 217, 3) := by decide +kernel
theorem dX11_chorus_20 : decode cX11_chorus 20 = .ok (.iconst 0, 1) := by decide +kernel
theorem dX11_chorus_21 : decode cX11_chorus 21 = .ok (.istore 4, 2) := by decide +kernel
theorem dX11_chorus_23 : decode cX11_chorus 23 = .ok (.iload 4, 2) := by decide +kernel
theorem dX11_chorus_25 : decode cX11_chorus 25 = .ok (.iload_n 2, 1) := by decide +kernel
theorem dX11_chorus_26 : decode cX11_chorus 26 = .ok (.if_icmp .ge 33, 3) := by decide +kernel
theorem dX11_chorus_29 : decode cX11_chorus 29 = .ok (.aload_n 0, 1) := by decide +kernel
theorem dX11_chorus_30 : decode cX11_chorus 30 = .ok (.getfield 29, 3) := by decide +kernel
theorem dX11_chorus_33 : decode cX11_chorus 33 = .ok (.iconst 1, 1) := by decide +kernel
theorem dX11_chorus_34 : decode cX11_chorus 34 = .ok (.invokevirtual 191, 3) := by decide +kernel
theorem dX11_chorus_37 : decode cX11_chorus 37 = .ok (.aload_n 0, 1) := by decide +kernel
theorem dX11_chorus_38 : decode cX11_chorus 38 = .ok (.getfield 29, 3) := by decide +kernel
theorem dX11_chorus_41 : decode cX11_chorus 41 = .ok (.getfield 221, 3) := by decide +kernel
theorem dX11_chorus_44 : decode cX11_chorus 44 = .ok (.iload_n 1, 1) := by decide +kernel
theorem dX11_chorus_45 : decode cX11_chorus 45 = .ok (.iand, 1) := by decide +kernel
theorem dX11_chorus_46 : decode cX11_chorus 46 = .ok (.iload_n 1, 1) := by decide +kernel
theorem dX11_chorus_47 : decode cX11_chorus 47 = .ok (.if_icmp .ne 6, 3) := by decide +kernel
theorem dX11_chorus_50 : decode cX11_chorus 50 = .ok (.iinc 3 1, 3) := by decide +kernel
theorem dX11_chorus_53 : decode cX11_chorus 53 = .ok (.iinc 4 1, 3) := by decide +kernel
theorem dX11_chorus_56 : decode cX11_chorus 56 = .ok (.goto (-33), 3) := by decide +kernel
theorem dX11_chorus_59 : decode cX11_chorus 59 = .ok (.iload_n 3, 1) := by decide +kernel
theorem dX11_chorus_60 : decode cX11_chorus 60 = .ok (.ireturn, 1) := by decide +kernel
theorem dX11_never_0 : decode cX11_never 0 = .ok (.iload_n 1, 1) := by decide +kernel
theorem dX11_never_1 : decode cX11_never 1 = .ok (.iconst 1, 1) := by decide +kernel
theorem dX11_never_2 : decode cX11_never 2 = .ok (.sipush 200, 3) := by decide +kernel
theorem dX11_never_5 : decode cX11_never 5 = .ok (.invokestatic 81, 3) := by decide +kernel
theorem dX11_never_8 : decode cX11_never 8 = .ok (.aload_n 0, 1) := by decide +kernel
theorem dX11_never_9 : decode cX11_never 9 = .ok (.iload_n 1, 1) := by decide +kernel
theorem dX11_never_10 : decode cX11_never 10 = .ok (.invokevirtual 217, 3) := by decide +kernel
theorem dX11_never_13 : decode cX11_never 13 = .ok (.aload_n 0, 1) := by decide +kernel
theorem dX11_never_14 : decode cX11_never 14 = .ok (.getfield 29, 3) := by decide +kernel
theorem dX11_never_17 : decode cX11_never 17 = .ok (.invokevirtual 309, 3) := by decide +kernel
theorem dX11_never_20 : decode cX11_never 20 = .ok (.ireturn, 1) := by decide +kernel
theorem dX11_swell_0 : decode cX11_swell 0 = .ok (.aload_n 0, 1) := by decide +kernel
theorem dX11_swell_1 : decode cX11_swell 1 = .ok (.iload_n 1, 1) := by decide +kernel
theorem dX11_swell_2 : decode cX11_swell 2 = .ok (.invokevirtual 156, 3) := by decide +kernel
theorem dX11_swell_5 : decode cX11_swell 5 = .ok (.iload_n 2, 1) := by decide +kernel
theorem dX11_swell_6 : decode cX11_swell 6 = .ok (.iconst 0, 1) := by decide +kernel
theorem dX11_swell_7 : decode cX11_swell 7 = .ok (.sipush 200, 3) := by decide +kernel
theorem dX11_swell_10 : decode cX11_swell 10 = .ok (.invokestatic 81, 3) := by decide +kernel
theorem dX11_swell_13 : decode cX11_swell 13 = .ok (.aload_n 0, 1) := by decide +kernel
theorem dX11_swell_14 : decode cX11_swell 14 = .ok (.iconst 0, 1) := by decide +kernel
theorem dX11_swell_15 : decode cX11_swell 15 = .ok (.invokevirtual 217, 3) := by decide +kernel
theorem dX11_swell_18 : decode cX11_swell 18 = .ok (.aload_n 0, 1) := by decide +kernel
theorem dX11_swell_19 : decode cX11_swell 19 = .ok (.getfield 29, 3) := by decide +kernel
theorem dX11_swell_22 : decode cX11_swell 22 = .ok (.getfield 220, 3) := by decide +kernel
theorem dX11_swell_25 : decode cX11_swell 25 = .ok (.getfield 162, 3) := by decide +kernel
theorem dX11_swell_28 : decode cX11_swell 28 = .ok (.iload_n 1, 1) := by decide +kernel
theorem dX11_swell_29 : decode cX11_swell 29 = .ok (.iaload, 1) := by decide +kernel
theorem dX11_swell_30 : decode cX11_swell 30 = .ok (.istore_n 3, 1) := by decide +kernel
theorem dX11_swell_31 : decode cX11_swell 31 = .ok (.iconst 0, 1) := by decide +kernel
theorem dX11_swell_32 : decode cX11_swell 32 = .ok (.istore 4, 2) := by decide +kernel
theorem dX11_swell_34 : decode cX11_swell 34 = .ok (.iload 4, 2) := by decide +kernel
theorem dX11_swell_36 : decode cX11_swell 36 = .ok (.iload_n 2, 1) := by decide +kernel
theorem dX11_swell_37 : decode cX11_swell 37 = .ok (.if_icmp .ge 34, 3) := by decide +kernel
theorem dX11_swell_40 : decode cX11_swell 40 = .ok (.aload_n 0, 1) := by decide +kernel
theorem dX11_swell_41 : decode cX11_swell 41 = .ok (.getfield 29, 3) := by decide +kernel
theorem dX11_swell_44 : decode cX11_swell 44 = .ok (.iconst 1, 1) := by decide +kernel
theorem dX11_swell_45 : decode cX11_swell 45 = .ok (.invokevirtual 191, 3) := by decide +kernel
theorem dX11_swell_48 : decode cX11_swell 48 = .ok (.iload_n 3, 1) := by decide +kernel
theorem dX11_swell_49 : decode cX11_swell 49 = .ok (.aload_n 0, 1) := by decide +kernel
theorem dX11_swell_50 : decode cX11_swell 50 = .ok (.getfield 29, 3) := by decide +kernel
theorem dX11_swell_53 : decode cX11_swell 53 = .ok (.getfield 220, 3) := by decide +kernel
theorem dX11_swell_56 : decode cX11_swell 56 = .ok (.getfield 162, 3) := by decide +kernel
theorem dX11_swell_59 : decode cX11_swell 59 = .ok (.iload_n 1, 1) := by decide +kernel
theorem dX11_swell_60 : decode cX11_swell 60 = .ok (.iaload, 1) := by decide +kernel
theorem dX11_swell_61 : decode cX11_swell 61 = .ok (.invokestatic 345, 3) := by decide +kernel
theorem dX11_swell_64 : decode cX11_swell 64 = .ok (.istore_n 3, 1) := by decide +kernel
theorem dX11_swell_65 : decode cX11_swell 65 = .ok (.iinc 4 1, 3) := by decide +kernel
theorem dX11_swell_68 : decode cX11_swell 68 = .ok (.goto (-34), 3) := by decide +kernel
theorem dX11_swell_71 : decode cX11_swell 71 = .ok (.iload_n 3, 1) := by decide +kernel
theorem dX11_swell_72 : decode cX11_swell 72 = .ok (.ireturn, 1) := by decide +kernel
theorem dX11_image_0 : decode cX11_image 0 = .ok (.aload_n 0, 1) := by decide +kernel
theorem dX11_image_1 : decode cX11_image 1 = .ok (.getfield 23, 3) := by decide +kernel
theorem dX11_image_4 : decode cX11_image 4 = .ok (.aload_n 0, 1) := by decide +kernel
theorem dX11_image_5 : decode cX11_image 5 = .ok (.getfield 19, 3) := by decide +kernel
theorem dX11_image_8 : decode cX11_image 8 = .ok (.invokevirtual 348, 3) := by decide +kernel
theorem dX11_image_11 : decode cX11_image 11 = .ok (.aload_n 0, 1) := by decide +kernel
theorem dX11_image_12 : decode cX11_image 12 = .ok (.iconst 1, 1) := by decide +kernel
theorem dX11_image_13 : decode cX11_image 13 = .ok (.putfield 57, 3) := by decide +kernel
theorem dX11_image_16 : decode cX11_image 16 = .ok (.return_, 1) := by decide +kernel
theorem dX11_restore_0 : decode cX11_restore 0 = .ok (.aload_n 0, 1) := by decide +kernel
theorem dX11_restore_1 : decode cX11_restore 1 = .ok (.getfield 57, 3) := by decide +kernel
theorem dX11_restore_4 : decode cX11_restore 4 = .ok (.ifCond .ne 5, 3) := by decide +kernel
theorem dX11_restore_7 : decode cX11_restore 7 = .ok (.iconst 0, 1) := by decide +kernel
theorem dX11_restore_8 : decode cX11_restore 8 = .ok (.ireturn, 1) := by decide +kernel
theorem dX11_restore_9 : decode cX11_restore 9 = .ok (.aload_n 0, 1) := by decide +kernel
theorem dX11_restore_10 : decode cX11_restore 10 = .ok (.getfield 19, 3) := by decide +kernel
theorem dX11_restore_13 : decode cX11_restore 13 = .ok (.aload_n 0, 1) := by decide +kernel
theorem dX11_restore_14 : decode cX11_restore 14 = .ok (.getfield 23, 3) := by decide +kernel
theorem dX11_restore_17 : decode cX11_restore 17 = .ok (.invokevirtual 348, 3) := by decide +kernel
theorem dX11_restore_20 : decode cX11_restore 20 = .ok (.iconst 1, 1) := by decide +kernel
theorem dX11_restore_21 : decode cX11_restore 21 = .ok (.ireturn, 1) := by decide +kernel
theorem dX11_needCup_0 : decode cX11_needCup 0 = .ok (.iload_n 1, 1) := by decide +kernel
theorem dX11_needCup_1 : decode cX11_needCup 1 = .ok (.ifCond .lt 17, 3) := by decide +kernel
theorem dX11_needCup_4 : decode cX11_needCup 4 = .ok (.iload_n 1, 1) := by decide +kernel
theorem dX11_needCup_5 : decode cX11_needCup 5 = .ok (.aload_n 0, 1) := by decide +kernel
theorem dX11_needCup_6 : decode cX11_needCup 6 = .ok (.getfield 29, 3) := by decide +kernel
theorem dX11_needCup_9 : decode cX11_needCup 9 = .ok (.getfield 92, 3) := by decide +kernel
theorem dX11_needCup_12 : decode cX11_needCup 12 = .ok (.getfield 113, 3) := by decide +kernel
theorem dX11_needCup_15 : decode cX11_needCup 15 = .ok (.if_icmp .lt 14, 3) := by decide +kernel
theorem dX11_needCup_18 : decode cX11_needCup 18 = .ok (.new 352, 3) := by decide +kernel
theorem dX11_needCup_21 : decode cX11_needCup 21 = .ok (.dup, 1) := by decide +kernel
theorem dX11_needCup_22 : decode cX11_needCup 22 = .ok (.ldc_w 354, 3) := by decide +kernel
theorem dX11_needCup_25 : decode cX11_needCup 25 = .ok (.invokespecial 356, 3) := by decide +kernel
theorem dX11_needCup_28 : decode cX11_needCup 28 = .ok (.athrow, 1) := by decide +kernel
theorem dX11_needCup_29 : decode cX11_needCup 29 = .ok (.return_, 1) := by decide +kernel
theorem dX11_needWhat_0 : decode cX11_needWhat 0 = .ok (.iload_n 0, 1) := by decide +kernel
theorem dX11_needWhat_1 : decode cX11_needWhat 1 = .ok (.ifCond .lt 8, 3) := by decide +kernel
theorem dX11_needWhat_4 : decode cX11_needWhat 4 = .ok (.iload_n 0, 1) := by decide +kernel
theorem dX11_needWhat_5 : decode cX11_needWhat 5 = .ok (.iload_n 1, 1) := by decide +kernel
theorem dX11_needWhat_6 : decode cX11_needWhat 6 = .ok (.if_icmp .le 14, 3) := by decide +kernel
theorem dX11_needWhat_9 : decode cX11_needWhat 9 = .ok (.new 352, 3) := by decide +kernel
theorem dX11_needWhat_12 : decode cX11_needWhat 12 = .ok (.dup, 1) := by decide +kernel
theorem dX11_needWhat_13 : decode cX11_needWhat 13 = .ok (.ldc_w 357, 3) := by decide +kernel
theorem dX11_needWhat_16 : decode cX11_needWhat 16 = .ok (.invokespecial 356, 3) := by decide +kernel
theorem dX11_needWhat_19 : decode cX11_needWhat 19 = .ok (.athrow, 1) := by decide +kernel
theorem dX11_needWhat_20 : decode cX11_needWhat 20 = .ok (.return_, 1) := by decide +kernel
theorem dX11_needRange_0 : decode cX11_needRange 0 = .ok (.iload_n 0, 1) := by decide +kernel
theorem dX11_needRange_1 : decode cX11_needRange 1 = .ok (.iload_n 1, 1) := by decide +kernel
theorem dX11_needRange_2 : decode cX11_needRange 2 = .ok (.if_icmp .lt 8, 3) := by decide +kernel
theorem dX11_needRange_5 : decode cX11_needRange 5 = .ok (.iload_n 0, 1) := by decide +kernel
theorem dX11_needRange_6 : decode cX11_needRange 6 = .ok (.iload_n 2, 1) := by decide +kernel
theorem dX11_needRange_7 : decode cX11_needRange 7 = .ok (.if_icmp .le 14, 3) := by decide +kernel
theorem dX11_needRange_10 : decode cX11_needRange 10 = .ok (.new 259, 3) := by decide +kernel
theorem dX11_needRange_13 : decode cX11_needRange 13 = .ok (.dup, 1) := by decide +kernel
theorem dX11_needRange_14 : decode cX11_needRange 14 = .ok (.ldc_w 359, 3) := by decide +kernel
theorem dX11_needRange_17 : decode cX11_needRange 17 = .ok (.invokespecial 263, 3) := by decide +kernel
theorem dX11_needRange_20 : decode cX11_needRange 20 = .ok (.athrow, 1) := by decide +kernel
theorem dX11_needRange_21 : decode cX11_needRange 21 = .ok (.return_, 1) := by decide +kernel
theorem dX11_needCups_0 : decode cX11_needCups 0 = .ok (.iload_n 1, 1) := by decide +kernel
theorem dX11_needCups_1 : decode cX11_needCups 1 = .ok (.ifCond .lt 19, 3) := by decide +kernel
theorem dX11_needCups_4 : decode cX11_needCups 4 = .ok (.iload_n 1, 1) := by decide +kernel
theorem dX11_needCups_5 : decode cX11_needCups 5 = .ok (.iconst 1, 1) := by decide +kernel
theorem dX11_needCups_6 : decode cX11_needCups 6 = .ok (.aload_n 0, 1) := by decide +kernel
theorem dX11_needCups_7 : decode cX11_needCups 7 = .ok (.getfield 29, 3) := by decide +kernel
theorem dX11_needCups_10 : decode cX11_needCups 10 = .ok (.getfield 92, 3) := by decide +kernel
theorem dX11_needCups_13 : decode cX11_needCups 13 = .ok (.getfield 113, 3) := by decide +kernel
theorem dX11_needCups_16 : decode cX11_needCups 16 = .ok (.ishl, 1) := by decide +kernel
theorem dX11_needCups_17 : decode cX11_needCups 17 = .ok (.if_icmp .lt 14, 3) := by decide +kernel
theorem dX11_needCups_20 : decode cX11_needCups 20 = .ok (.new 259, 3) := by decide +kernel
theorem dX11_needCups_23 : decode cX11_needCups 23 = .ok (.dup, 1) := by decide +kernel
theorem dX11_needCups_24 : decode cX11_needCups 24 = .ok (.ldc_w 361, 3) := by decide +kernel
theorem dX11_needCups_27 : decode cX11_needCups 27 = .ok (.invokespecial 263, 3) := by decide +kernel
theorem dX11_needCups_30 : decode cX11_needCups 30 = .ok (.athrow, 1) := by decide +kernel
theorem dX11_needCups_31 : decode cX11_needCups 31 = .ok (.return_, 1) := by decide +kernel
theorem dX11_refuseAct_0 : decode cX11_refuseAct 0 = .ok (.aload_n 0, 1) := by decide +kernel
theorem dX11_refuseAct_1 : decode cX11_refuseAct 1 = .ok (.getfield 47, 3) := by decide +kernel
theorem dX11_refuseAct_4 : decode cX11_refuseAct 4 = .ok (.iconst 1, 1) := by decide +kernel
theorem dX11_refuseAct_5 : decode cX11_refuseAct 5 = .ok (.dup2, 1) := by decide +kernel
theorem dX11_refuseAct_6 : decode cX11_refuseAct 6 = .ok (.iaload, 1) := by decide +kernel
theorem dX11_refuseAct_7 : decode cX11_refuseAct 7 = .ok (.iconst 1, 1) := by decide +kernel
theorem dX11_refuseAct_8 : decode cX11_refuseAct 8 = .ok (.iadd, 1) := by decide +kernel
theorem dX11_refuseAct_9 : decode cX11_refuseAct 9 = .ok (.iastore, 1) := by decide +kernel
theorem dX11_refuseAct_10 : decode cX11_refuseAct 10 = .ok (.iconst (-1), 1) := by decide +kernel
theorem dX11_refuseAct_11 : decode cX11_refuseAct 11 = .ok (.ireturn, 1) := by decide +kernel
theorem dX11_lookAhead_0 : decode cX11_lookAhead 0 = .ok (.aload_n 0, 1) := by decide +kernel
theorem dX11_lookAhead_1 : decode cX11_lookAhead 1 = .ok (.getfield 29, 3) := by decide +kernel
theorem dX11_lookAhead_4 : decode cX11_lookAhead 4 = .ok (.aload_n 0, 1) := by decide +kernel
theorem dX11_lookAhead_5 : decode cX11_lookAhead 5 = .ok (.getfield 19, 3) := by decide +kernel
theorem dX11_lookAhead_8 : decode cX11_lookAhead 8 = .ok (.getfield 116, 3) := by decide +kernel
theorem dX11_lookAhead_11 : decode cX11_lookAhead 11 = .ok (.invokevirtual 363, 3) := by decide +kernel
theorem dX11_lookAhead_14 : decode cX11_lookAhead 14 = .ok (.aload_n 0, 1) := by decide +kernel
theorem dX11_lookAhead_15 : decode cX11_lookAhead 15 = .ok (.getfield 29, 3) := by decide +kernel
theorem dX11_lookAhead_18 : decode cX11_lookAhead 18 = .ok (.iload_n 1, 1) := by decide +kernel
theorem dX11_lookAhead_19 : decode cX11_lookAhead 19 = .ok (.invokevirtual 191, 3) := by decide +kernel
theorem dX11_lookAhead_22 : decode cX11_lookAhead 22 = .ok (.return_, 1) := by decide +kernel
theorem dX11_alikeCouples_0 : decode cX11_alikeCouples 0 = .ok (.aload_n 0, 1) := by decide +kernel
theorem dX11_alikeCouples_1 : decode cX11_alikeCouples 1 = .ok (.getfield 19, 3) := by decide +kernel
theorem dX11_alikeCouples_4 : decode cX11_alikeCouples 4 = .ok (.getfield 116, 3) := by decide +kernel
theorem dX11_alikeCouples_7 : decode cX11_alikeCouples 7 = .ok (.astore_n 1, 1) := by decide +kernel
theorem dX11_alikeCouples_8 : decode cX11_alikeCouples 8 = .ok (.iconst 0, 1) := by decide +kernel
theorem dX11_alikeCouples_9 : decode cX11_alikeCouples 9 = .ok (.istore_n 2, 1) := by decide +kernel
theorem dX11_alikeCouples_10 : decode cX11_alikeCouples 10 = .ok (.iconst 0, 1) := by decide +kernel
theorem dX11_alikeCouples_11 : decode cX11_alikeCouples 11 = .ok (.istore_n 3, 1) := by decide +kernel
theorem dX11_alikeCouples_12 : decode cX11_alikeCouples 12 = .ok (.iload_n 3, 1) := by decide +kernel
theorem dX11_alikeCouples_13 : decode cX11_alikeCouples 13 = .ok (.aload_n 0, 1) := by decide +kernel
theorem dX11_alikeCouples_14 : decode cX11_alikeCouples 14 = .ok (.getfield 29, 3) := by decide +kernel
theorem dX11_alikeCouples_17 : decode cX11_alikeCouples 17 = .ok (.getfield 92, 3) := by decide +kernel
theorem dX11_alikeCouples_20 : decode cX11_alikeCouples 20 = .ok (.getfield 113, 3) := by decide +kernel
theorem dX11_alikeCouples_23 : decode cX11_alikeCouples 23 = .ok (.if_icmp .ge 110, 3) := by decide +kernel
theorem dX11_alikeCouples_26 : decode cX11_alikeCouples 26 = .ok (.iload_n 3, 1) := by decide +kernel
theorem dX11_alikeCouples_27 : decode cX11_alikeCouples 27 = .ok (.iconst 1, 1) := by decide +kernel
theorem dX11_alikeCouples_28 : decode cX11_alikeCouples 28 = .ok (.iadd, 1) := by decide +kernel
theorem dX11_alikeCouples_29 : decode cX11_alikeCouples 29 = .ok (.istore 4, 2) := by decide +kernel
theorem dX11_alikeCouples_31 : decode cX11_alikeCouples 31 = .ok (.iload 4, 2) := by decide +kernel
theorem dX11_alikeCouples_33 : decode cX11_alikeCouples 33 = .ok (.aload_n 0, 1) := by decide +kernel
theorem dX11_alikeCouples_34 : decode cX11_alikeCouples 34 = .ok (.getfield 29, 3) := by decide +kernel
theorem dX11_alikeCouples_37 : decode cX11_alikeCouples 37 = .ok (.getfield 92, 3) := by decide +kernel
theorem dX11_alikeCouples_40 : decode cX11_alikeCouples 40 = .ok (.getfield 113, 3) := by decide +kernel
theorem dX11_alikeCouples_43 : decode cX11_alikeCouples 43 = .ok (.if_icmp .ge 84, 3) := by decide +kernel
theorem dX11_alikeCouples_46 : decode cX11_alikeCouples 46 = .ok (.aload_n 1, 1) := by decide +kernel
theorem dX11_alikeCouples_47 : decode cX11_alikeCouples 47 = .ok (.getfield 159, 3) := by decide +kernel
theorem dX11_alikeCouples_50 : decode cX11_alikeCouples 50 = .ok (.iload_n 3, 1) := by decide +kernel
theorem dX11_alikeCouples_51 : decode cX11_alikeCouples 51 = .ok (.iaload, 1) := by decide +kernel
theorem dX11_alikeCouples_52 : decode cX11_alikeCouples 52 = .ok (.aload_n 1, 1) := by decide +kernel
theorem dX11_alikeCouples_53 : decode cX11_alikeCouples 53 = .ok (.getfield 159, 3) := by decide +kernel
theorem dX11_alikeCouples_56 : decode cX11_alikeCouples 56 = .ok (.iload 4, 2) := by decide +kernel
theorem dX11_alikeCouples_58 : decode cX11_alikeCouples 58 = .ok (.iaload, 1) := by decide +kernel
theorem dX11_alikeCouples_59 : decode cX11_alikeCouples 59 = .ok (.if_icmp .ne 23, 3) := by decide +kernel
theorem dX11_alikeCouples_62 : decode cX11_alikeCouples 62 = .ok (.aload_n 1, 1) := by decide +kernel
theorem dX11_alikeCouples_63 : decode cX11_alikeCouples 63 = .ok (.getfield 162, 3) := by decide +kernel
theorem dX11_alikeCouples_66 : decode cX11_alikeCouples 66 = .ok (.iload_n 3, 1) := by decide +kernel
theorem dX11_alikeCouples_67 : decode cX11_alikeCouples 67 = .ok (.iaload, 1) := by decide +kernel
theorem dX11_alikeCouples_68 : decode cX11_alikeCouples 68 = .ok (.aload_n 1, 1) := by decide +kernel
theorem dX11_alikeCouples_69 : decode cX11_alikeCouples 69 = .ok (.getfield 162, 3) := by decide +kernel
theorem dX11_alikeCouples_72 : decode cX11_alikeCouples 72 = .ok (.iload 4, 2) := by decide +kernel
theorem dX11_alikeCouples_74 : decode cX11_alikeCouples 74 = .ok (.iaload, 1) := by decide +kernel
theorem dX11_alikeCouples_75 : decode cX11_alikeCouples 75 = .ok (.if_icmp .ne 7, 3) := by decide +kernel
theorem dX11_alikeCouples_78 : decode cX11_alikeCouples 78 = .ok (.iconst 1, 1) := by decide +kernel
theorem dX11_alikeCouples_79 : decode cX11_alikeCouples 79 = .ok (.goto 4, 3) := by decide +kernel
theorem dX11_alikeCouples_82 : decode cX11_alikeCouples 82 = .ok (.iconst 0, 1) := by decide +kernel
theorem dX11_alikeCouples_83 : decode cX11_alikeCouples 83 = .ok (.istore 5, 2) := by decide +kernel
theorem dX11_alikeCouples_85 : decode cX11_alikeCouples 85 = .ok (.iload 5, 2) := by decide +kernel
theorem dX11_alikeCouples_87 : decode cX11_alikeCouples 87 = .ok (.ifCond .eq 34, 3) := by decide +kernel
theorem dX11_alikeCouples_90 : decode cX11_alikeCouples 90 = .ok (.aload_n 0, 1) := by decide +kernel
theorem dX11_alikeCouples_91 : decode cX11_alikeCouples 91 = .ok (.getfield 29, 3) := by decide +kernel
theorem dX11_alikeCouples_94 : decode cX11_alikeCouples 94 = .ok (.getfield 92, 3) := by decide +kernel
theorem dX11_alikeCouples_97 : decode cX11_alikeCouples 97 = .ok (.getfield 165, 3) := by decide +kernel
theorem dX11_alikeCouples_100 : decode cX11_alikeCouples 100 = .ok (.iload_n 3, 1) := by decide +kernel
theorem dX11_alikeCouples_101 : decode cX11_alikeCouples 101 = .ok (.iaload, 1) := by decide +kernel
theorem dX11_alikeCouples_102 : decode cX11_alikeCouples 102 = .ok (.aload_n 0, 1) := by decide +kernel
theorem dX11_alikeCouples_103 : decode cX11_alikeCouples 103 = .ok (.getfield 29, 3) := by decide +kernel
theorem dX11_alikeCouples_106 : decode cX11_alikeCouples 106 = .ok (.getfield 92, 3) := by decide +kernel
theorem dX11_alikeCouples_109 : decode cX11_alikeCouples 109 = .ok (.getfield 165, 3) := by decide +kernel
theorem dX11_alikeCouples_112 : decode cX11_alikeCouples 112 = .ok (.iload 4, 2) := by decide +kernel
theorem dX11_alikeCouples_114 : decode cX11_alikeCouples 114 = .ok (.iaload, 1) := by decide +kernel
theorem dX11_alikeCouples_115 : decode cX11_alikeCouples 115 = .ok (.if_icmp .ne 6, 3) := by decide +kernel
theorem dX11_alikeCouples_118 : decode cX11_alikeCouples 118 = .ok (.iinc 2 1, 3) := by decide +kernel
theorem dX11_alikeCouples_121 : decode cX11_alikeCouples 121 = .ok (.iinc 4 1, 3) := by decide +kernel
theorem dX11_alikeCouples_124 : decode cX11_alikeCouples 124 = .ok (.goto (-93), 3) := by decide +kernel
theorem dX11_alikeCouples_127 : decode cX11_alikeCouples 127 = .ok (.iinc 3 1, 3) := by decide +kernel
theorem dX11_alikeCouples_130 : decode cX11_alikeCouples 130 = .ok (.goto (-118), 3) := by decide +kernel
theorem dX11_alikeCouples_133 : decode cX11_alikeCouples 133 = .ok (.iload_n 2, 1) := by decide +kernel
theorem dX11_alikeCouples_134 : decode cX11_alikeCouples 134 = .ok (.ireturn, 1) := by decide +kernel
theorem dX11_firstHourOfAll_0 : decode cX11_firstHourOfAll 0 = .ok (.aload_n 0, 1) := by decide +kernel
theorem dX11_firstHourOfAll_1 : decode cX11_firstHourOfAll 1 = .ok (.iconst 0, 1) := by decide +kernel
theorem dX11_firstHourOfAll_2 : decode cX11_firstHourOfAll 2 = .ok (.invokevirtual 217, 3) := by decide +kernel
theorem dX11_firstHourOfAll_5 : decode cX11_firstHourOfAll 5 = .ok (.iconst 1, 1) := by decide +kernel
theorem dX11_firstHourOfAll_6 : decode cX11_firstHourOfAll 6 = .ok (.istore_n 2, 1) := by decide +kernel
theorem dX11_firstHourOfAll_7 : decode cX11_firstHourOfAll 7 = .ok (.iload_n 2, 1) := by decide +kernel
theorem dX11_firstHourOfAll_8 : decode cX11_firstHourOfAll 8 = .ok (.sipush 200, 3) := by decide +kernel
theorem dX11_firstHourOfAll_11 : decode cX11_firstHourOfAll 11 = .ok (.if_icmp .gt 32, 3) := by decide +kernel
theorem dX11_firstHourOfAll_14 : decode cX11_firstHourOfAll 14 = .ok (.aload_n 0, 1) := by decide +kernel
theorem dX11_firstHourOfAll_15 : decode cX11_firstHourOfAll 15 = .ok (.getfield 29, 3) := by decide +kernel
theorem dX11_firstHourOfAll_18 : decode cX11_firstHourOfAll 18 = .ok (.iconst 1, 1) := by decide +kernel
theorem dX11_firstHourOfAll_19 : decode cX11_firstHourOfAll 19 = .ok (.invokevirtual 191, 3) := by decide +kernel
theorem dX11_firstHourOfAll_22 : decode cX11_firstHourOfAll 22 = .ok (.aload_n 0, 1) := by decide +kernel
theorem dX11_firstHourOfAll_23 : decode cX11_firstHourOfAll 23 = .ok (.getfield 29, 3) := by decide +kernel
theorem dX11_firstHourOfAll_26 : decode cX11_firstHourOfAll 26 = .ok (.getfield 221, 3) := by decide +kernel
theorem dX11_firstHourOfAll_29 : decode cX11_firstHourOfAll 29 = .ok (.iload_n 1, 1) := by decide +kernel
theorem dX11_firstHourOfAll_30 : decode cX11_firstHourOfAll 30 = .ok (.iand, 1) := by decide +kernel
theorem dX11_firstHourOfAll_31 : decode cX11_firstHourOfAll 31 = .ok (.iload_n 1, 1) := by decide +kernel
theorem dX11_firstHourOfAll_32 : decode cX11_firstHourOfAll 32 = .ok (.if_icmp .ne 5, 3) := by decide +kernel
theorem dX11_firstHourOfAll_35 : decode cX11_firstHourOfAll 35 = .ok (.iload_n 2, 1) := by decide +kernel
theorem dX11_firstHourOfAll_36 : decode cX11_firstHourOfAll 36 = .ok (.ireturn, 1) := by decide +kernel
theorem dX11_firstHourOfAll_37 : decode cX11_firstHourOfAll 37 = .ok (.iinc 2 1, 3) := by decide +kernel
theorem dX11_firstHourOfAll_40 : decode cX11_firstHourOfAll 40 = .ok (.goto (-33), 3) := by decide +kernel
theorem dX11_firstHourOfAll_43 : decode cX11_firstHourOfAll 43 = .ok (.iconst (-1), 1) := by decide +kernel
theorem dX11_firstHourOfAll_44 : decode cX11_firstHourOfAll 44 = .ok (.ireturn, 1) := by decide +kernel
theorem dX11_longestSilence_0 : decode cX11_longestSilence 0 = .ok (.iconst 0, 1) := by decide +kernel
theorem dX11_longestSilence_1 : decode cX11_longestSilence 1 = .ok (.istore_n 2, 1) := by decide +kernel
theorem dX11_longestSilence_2 : decode cX11_longestSilence 2 = .ok (.iconst 0, 1) := by decide +kernel
theorem dX11_longestSilence_3 : decode cX11_longestSilence 3 = .ok (.istore_n 3, 1) := by decide +kernel
theorem dX11_longestSilence_4 : decode cX11_longestSilence 4 = .ok (.aload_n 0, 1) := by decide +kernel
theorem dX11_longestSilence_5 : decode cX11_longestSilence 5 = .ok (.iconst 0, 1) := by decide +kernel
theorem dX11_longestSilence_6 : decode cX11_longestSilence 6 = .ok (.invokevirtual 217, 3) := by decide +kernel
theorem dX11_longestSilence_9 : decode cX11_longestSilence 9 = .ok (.iconst 0, 1) := by decide +kernel
theorem dX11_longestSilence_10 : decode cX11_longestSilence 10 = .ok (.istore 4, 2) := by decide +kernel
theorem dX11_longestSilence_12 : decode cX11_longestSilence 12 = .ok (.iload 4, 2) := by decide +kernel
theorem dX11_longestSilence_14 : decode cX11_longestSilence 14 = .ok (.iload_n 1, 1) := by decide +kernel
theorem dX11_longestSilence_15 : decode cX11_longestSilence 15 = .ok (.if_icmp .ge 41, 3) := by decide +kernel
theorem dX11_longestSilence_18 : decode cX11_longestSilence 18 = .ok (.aload_n 0, 1) := by decide +kernel
theorem dX11_longestSilence_19 : decode cX11_longestSilence 19 = .ok (.getfield 29, 3) := by decide +kernel
theorem dX11_longestSilence_22 : decode cX11_longestSilence 22 = .ok (.iconst 1, 1) := by decide +kernel
theorem dX11_longestSilence_23 : decode cX11_longestSilence 23 = .ok (.invokevirtual 191, 3) := by decide +kernel
theorem dX11_longestSilence_26 : decode cX11_longestSilence 26 = .ok (.aload_n 0, 1) := by decide +kernel
theorem dX11_longestSilence_27 : decode cX11_longestSilence 27 = .ok (.getfield 29, 3) := by decide +kernel
theorem dX11_longestSilence_30 : decode cX11_longestSilence 30 = .ok (.getfield 221, 3) := by decide +kernel
theorem dX11_longestSilence_33 : decode cX11_longestSilence 33 = .ok (.ifCond .ne 9, 3) := by decide +kernel
theorem dX11_longestSilence_36 : decode cX11_longestSilence 36 = .ok (.iload_n 3, 1) := by decide +kernel
theorem dX11_longestSilence_37 : decode cX11_longestSilence 37 = .ok (.iconst 1, 1) := by decide +kernel
theorem dX11_longestSilence_38 : decode cX11_longestSilence 38 = .ok (.iadd, 1) := by decide +kernel
theorem dX11_longestSilence_39 : decode cX11_longestSilence 39 = .ok (.goto 4, 3) := by decide +kernel
theorem dX11_longestSilence_42 : decode cX11_longestSilence 42 = .ok (.iconst 0, 1) := by decide +kernel
theorem dX11_longestSilence_43 : decode cX11_longestSilence 43 = .ok (.istore_n 3, 1) := by decide +kernel
theorem dX11_longestSilence_44 : decode cX11_longestSilence 44 = .ok (.iload_n 2, 1) := by decide +kernel
theorem dX11_longestSilence_45 : decode cX11_longestSilence 45 = .ok (.iload_n 3, 1) := by decide +kernel
theorem dX11_longestSilence_46 : decode cX11_longestSilence 46 = .ok (.invokestatic 345, 3) := by decide +kernel
theorem dX11_longestSilence_49 : decode cX11_longestSilence 49 = .ok (.istore_n 2, 1) := by decide +kernel
theorem dX11_longestSilence_50 : decode cX11_longestSilence 50 = .ok (.iinc 4 1, 3) := by decide +kernel
theorem dX11_longestSilence_53 : decode cX11_longestSilence 53 = .ok (.goto (-41), 3) := by decide +kernel
theorem dX11_longestSilence_56 : decode cX11_longestSilence 56 = .ok (.iload_n 2, 1) := by decide +kernel
theorem dX11_longestSilence_57 : decode cX11_longestSilence 57 = .ok (.ireturn, 1) := by decide +kernel
theorem dX11_loudestHour_0 : decode cX11_loudestHour 0 = .ok (.iconst (-1), 1) := by decide +kernel
theorem dX11_loudestHour_1 : decode cX11_loudestHour 1 = .ok (.istore_n 2, 1) := by decide +kernel
theorem dX11_loudestHour_2 : decode cX11_loudestHour 2 = .ok (.iconst (-1), 1) := by decide +kernel
theorem dX11_loudestHour_3 : decode cX11_loudestHour 3 = .ok (.istore_n 3, 1) := by decide +kernel
theorem dX11_loudestHour_4 : decode cX11_loudestHour 4 = .ok (.aload_n 0, 1) := by decide +kernel
theorem dX11_loudestHour_5 : decode cX11_loudestHour 5 = .ok (.iconst 0, 1) := by decide +kernel
theorem dX11_loudestHour_6 : decode cX11_loudestHour 6 = .ok (.invokevirtual 217, 3) := by decide +kernel
theorem dX11_loudestHour_9 : decode cX11_loudestHour 9 = .ok (.iconst 1, 1) := by decide +kernel
theorem dX11_loudestHour_10 : decode cX11_loudestHour 10 = .ok (.istore 4, 2) := by decide +kernel
theorem dX11_loudestHour_12 : decode cX11_loudestHour 12 = .ok (.iload 4, 2) := by decide +kernel
theorem dX11_loudestHour_14 : decode cX11_loudestHour 14 = .ok (.iload_n 1, 1) := by decide +kernel
theorem dX11_loudestHour_15 : decode cX11_loudestHour 15 = .ok (.if_icmp .gt 41, 3) := by decide +kernel
theorem dX11_loudestHour_18 : decode cX11_loudestHour 18 = .ok (.aload_n 0, 1) := by decide +kernel
theorem dX11_loudestHour_19 : decode cX11_loudestHour 19 = .ok (.getfield 29, 3) := by decide +kernel
theorem dX11_loudestHour_22 : decode cX11_loudestHour 22 = .ok (.iconst 1, 1) := by decide +kernel
theorem dX11_loudestHour_23 : decode cX11_loudestHour 23 = .ok (.invokevirtual 191, 3) := by decide +kernel
theorem dX11_loudestHour_26 : decode cX11_loudestHour 26 = .ok (.aload_n 0, 1) := by decide +kernel
theorem dX11_loudestHour_27 : decode cX11_loudestHour 27 = .ok (.getfield 29, 3) := by decide +kernel
theorem dX11_loudestHour_30 : decode cX11_loudestHour 30 = .ok (.getfield 221, 3) := by decide +kernel
theorem dX11_loudestHour_33 : decode cX11_loudestHour 33 = .ok (.invokestatic 312, 3) := by decide +kernel
theorem dX11_loudestHour_36 : decode cX11_loudestHour 36 = .ok (.istore 5, 2) := by decide +kernel
theorem dX11_loudestHour_38 : decode cX11_loudestHour 38 = .ok (.iload 5, 2) := by decide +kernel
theorem dX11_loudestHour_40 : decode cX11_loudestHour 40 = .ok (.iload_n 3, 1) := by decide +kernel
theorem dX11_loudestHour_41 : decode cX11_loudestHour 41 = .ok (.if_icmp .le 9, 3) := by decide +kernel
theorem dX11_loudestHour_44 : decode cX11_loudestHour 44 = .ok (.iload 4, 2) := by decide +kernel
theorem dX11_loudestHour_46 : decode cX11_loudestHour 46 = .ok (.istore_n 2, 1) := by decide +kernel
theorem dX11_loudestHour_47 : decode cX11_loudestHour 47 = .ok (.iload 5, 2) := by decide +kernel
theorem dX11_loudestHour_49 : decode cX11_loudestHour 49 = .ok (.istore_n 3, 1) := by decide +kernel
theorem dX11_loudestHour_50 : decode cX11_loudestHour 50 = .ok (.iinc 4 1, 3) := by decide +kernel
theorem dX11_loudestHour_53 : decode cX11_loudestHour 53 = .ok (.goto (-41), 3) := by decide +kernel
theorem dX11_loudestHour_56 : decode cX11_loudestHour 56 = .ok (.iload_n 2, 1) := by decide +kernel
theorem dX11_loudestHour_57 : decode cX11_loudestHour 57 = .ok (.ireturn, 1) := by decide +kernel
theorem dX11_playAll_0 : decode cX11_playAll 0 = .ok (.iconst 0, 1) := by decide +kernel
theorem dX11_playAll_1 : decode cX11_playAll 1 = .ok (.istore_n 3, 1) := by decide +kernel
theorem dX11_playAll_2 : decode cX11_playAll 2 = .ok (.iload_n 3, 1) := by decide +kernel
theorem dX11_playAll_3 : decode cX11_playAll 3 = .ok (.iconst 4, 1) := by decide +kernel
theorem dX11_playAll_4 : decode cX11_playAll 4 = .ok (.if_icmp .ge 117, 3) := by decide +kernel
theorem dX11_playAll_7 : decode cX11_playAll 7 = .ok (.iload_n 3, 1) := by decide +kernel
theorem dX11_playAll_8 : decode cX11_playAll 8 = .ok (.iconst 1, 1) := by decide +kernel
theorem dX11_playAll_9 : decode cX11_playAll 9 = .ok (.ishr, 1) := by decide +kernel
theorem dX11_playAll_10 : decode cX11_playAll 10 = .ok (.istore 4, 2) := by decide +kernel
theorem dX11_playAll_12 : decode cX11_playAll 12 = .ok (.iload_n 3, 1) := by decide +kernel
theorem dX11_playAll_13 : decode cX11_playAll 13 = .ok (.iconst 1, 1) := by decide +kernel
theorem dX11_playAll_14 : decode cX11_playAll 14 = .ok (.iand, 1) := by decide +kernel
theorem dX11_playAll_15 : decode cX11_playAll 15 = .ok (.istore 5, 2) := by decide +kernel
theorem dX11_playAll_17 : decode cX11_playAll 17 = .ok (.aload_n 0, 1) := by decide +kernel
theorem dX11_playAll_18 : decode cX11_playAll 18 = .ok (.iconst 0, 1) := by decide +kernel
theorem dX11_playAll_19 : decode cX11_playAll 19 = .ok (.invokevirtual 217, 3) := by decide +kernel
theorem dX11_playAll_22 : decode cX11_playAll 22 = .ok (.iload 4, 2) := by decide +kernel
theorem dX11_playAll_24 : decode cX11_playAll 24 = .ok (.iconst 1, 1) := by decide +kernel
theorem dX11_playAll_25 : decode cX11_playAll 25 = .ok (.if_icmp .ne 15, 3) := by decide +kernel
theorem dX11_playAll_28 : decode cX11_playAll 28 = .ok (.aload_n 0, 1) := by decide +kernel
theorem dX11_playAll_29 : decode cX11_playAll 29 = .ok (.getfield 29, 3) := by decide +kernel
theorem dX11_playAll_32 : decode cX11_playAll 32 = .ok (.getfield 220, 3) := by decide +kernel
theorem dX11_playAll_35 : decode cX11_playAll 35 = .ok (.iload_n 1, 1) := by decide +kernel
theorem dX11_playAll_36 : decode cX11_playAll 36 = .ok (.iconst 1, 1) := by decide +kernel
theorem dX11_playAll_37 : decode cX11_playAll 37 = .ok (.invokevirtual 201, 3) := by decide +kernel
theorem dX11_playAll_40 : decode cX11_playAll 40 = .ok (.iload 5, 2) := by decide +kernel
theorem dX11_playAll_42 : decode cX11_playAll 42 = .ok (.iconst 1, 1) := by decide +kernel
theorem dX11_playAll_43 : decode cX11_playAll 43 = .ok (.if_icmp .ne 15, 3) := by decide +kernel
theorem dX11_playAll_46 : decode cX11_playAll 46 = .ok (.aload_n 0, 1) := by decide +kernel
theorem dX11_playAll_47 : decode cX11_playAll 47 = .ok (.getfield 29, 3) := by decide +kernel
theorem dX11_playAll_50 : decode cX11_playAll 50 = .ok (.getfield 220, 3) := by decide +kernel
theorem dX11_playAll_53 : decode cX11_playAll 53 = .ok (.iload_n 2, 1) := by decide +kernel
theorem dX11_playAll_54 : decode cX11_playAll 54 = .ok (.iconst 1, 1) := by decide +kernel
theorem dX11_playAll_55 : decode cX11_playAll 55 = .ok (.invokevirtual 201, 3) := by decide +kernel
theorem dX11_playAll_58 : decode cX11_playAll 58 = .ok (.aload_n 0, 1) := by decide +kernel
theorem dX11_playAll_59 : decode cX11_playAll 59 = .ok (.getfield 29, 3) := by decide +kernel
theorem dX11_playAll_62 : decode cX11_playAll 62 = .ok (.bipush 12, 2) := by decide +kernel
theorem dX11_playAll_64 : decode cX11_playAll 64 = .ok (.invokevirtual 191, 3) := by decide +kernel
theorem dX11_playAll_67 : decode cX11_playAll 67 = .ok (.aload_n 0, 1) := by decide +kernel
theorem dX11_playAll_68 : decode cX11_playAll 68 = .ok (.getfield 29, 3) := by decide +kernel
theorem dX11_playAll_71 : decode cX11_playAll 71 = .ok (.getfield 208, 3) := by decide +kernel
theorem dX11_playAll_74 : decode cX11_playAll 74 = .ok (.iload_n 1, 1) := by decide +kernel
theorem dX11_playAll_75 : decode cX11_playAll 75 = .ok (.iaload, 1) := by decide +kernel
theorem dX11_playAll_76 : decode cX11_playAll 76 = .ok (.aload_n 0, 1) := by decide +kernel
theorem dX11_playAll_77 : decode cX11_playAll 77 = .ok (.getfield 29, 3) := by decide +kernel
theorem dX11_playAll_80 : decode cX11_playAll 80 = .ok (.getfield 208, 3) := by decide +kernel
theorem dX11_playAll_83 : decode cX11_playAll 83 = .ok (.iload_n 2, 1) := by decide +kernel
theorem dX11_playAll_84 : decode cX11_playAll 84 = .ok (.iaload, 1) := by decide +kernel
theorem dX11_playAll_85 : decode cX11_playAll 85 = .ok (.isub, 1) := by decide +kernel
theorem dX11_playAll_86 : decode cX11_playAll 86 = .ok (.istore 6, 2) := by decide +kernel
theorem dX11_playAll_88 : decode cX11_playAll 88 = .ok (.aload_n 0, 1) := by decide +kernel
theorem dX11_playAll_89 : decode cX11_playAll 89 = .ok (.getfield 51, 3) := by decide +kernel
theorem dX11_playAll_92 : decode cX11_playAll 92 = .ok (.iload_n 3, 1) := by decide +kernel
theorem dX11_playAll_93 : decode cX11_playAll 93 = .ok (.iload 6, 2) := by decide +kernel
theorem dX11_playAll_95 : decode cX11_playAll 95 = .ok (.iconst 2, 1) := by decide +kernel
theorem dX11_playAll_96 : decode cX11_playAll 96 = .ok (.idiv, 1) := by decide +kernel
theorem dX11_playAll_97 : decode cX11_playAll 97 = .ok (.iload 4, 2) := by decide +kernel
theorem dX11_playAll_99 : decode cX11_playAll 99 = .ok (.isub, 1) := by decide +kernel
theorem dX11_playAll_100 : decode cX11_playAll 100 = .ok (.iastore, 1) := by decide +kernel
theorem dX11_playAll_101 : decode cX11_playAll 101 = .ok (.aload_n 0, 1) := by decide +kernel
theorem dX11_playAll_102 : decode cX11_playAll 102 = .ok (.getfield 54, 3) := by decide +kernel
theorem dX11_playAll_105 : decode cX11_playAll 105 = .ok (.iload_n 3, 1) := by decide +kernel
theorem dX11_playAll_106 : decode cX11_playAll 106 = .ok (.iload 6, 2) := by decide +kernel
theorem dX11_playAll_108 : decode cX11_playAll 108 = .ok (.ineg, 1) := by decide +kernel
theorem dX11_playAll_109 : decode cX11_playAll 109 = .ok (.iconst 2, 1) := by decide +kernel
theorem dX11_playAll_110 : decode cX11_playAll 110 = .ok (.idiv, 1) := by decide +kernel
theorem dX11_playAll_111 : decode cX11_playAll 111 = .ok (.iload 5, 2) := by decide +kernel
theorem dX11_playAll_113 : decode cX11_playAll 113 = .ok (.isub, 1) := by decide +kernel
theorem dX11_playAll_114 : decode cX11_playAll 114 = .ok (.iastore, 1) := by decide +kernel
theorem dX11_playAll_115 : decode cX11_playAll 115 = .ok (.iinc 3 1, 3) := by decide +kernel
theorem dX11_playAll_118 : decode cX11_playAll 118 = .ok (.goto (-116), 3) := by decide +kernel
theorem dX11_playAll_121 : decode cX11_playAll 121 = .ok (.return_, 1) := by decide +kernel
theorem dX11_draw_0 : decode cX11_draw 0 = .ok (.aload_n 0, 1) := by decide +kernel
theorem dX11_draw_1 : decode cX11_draw 1 = .ok (.aload_n 0, 1) := by decide +kernel
theorem dX11_draw_2 : decode cX11_draw 2 = .ok (.getfield 65, 3) := by decide +kernel
theorem dX11_draw_5 : decode cX11_draw 5 = .ok (.ldc_w 366, 3) := by decide +kernel
theorem dX11_draw_8 : decode cX11_draw 8 = .ok (.imul, 1) := by decide +kernel
theorem dX11_draw_9 : decode cX11_draw 9 = .ok (.sipush 12345, 3) := by decide +kernel
theorem dX11_draw_12 : decode cX11_draw 12 = .ok (.iadd, 1) := by decide +kernel
theorem dX11_draw_13 : decode cX11_draw 13 = .ok (.putfield 65, 3) := by decide +kernel
theorem dX11_draw_16 : decode cX11_draw 16 = .ok (.iload_n 1, 1) := by decide +kernel
theorem dX11_draw_17 : decode cX11_draw 17 = .ok (.ifCond .le 19, 3) := by decide +kernel
theorem dX11_draw_20 : decode cX11_draw 20 = .ok (.aload_n 0, 1) := by decide +kernel
theorem dX11_draw_21 : decode cX11_draw 21 = .ok (.getfield 65, 3) := by decide +kernel
theorem dX11_draw_24 : decode cX11_draw 24 = .ok (.bipush 16, 2) := by decide +kernel
theorem dX11_draw_26 : decode cX11_draw 26 = .ok (.ishr, 1) := by decide +kernel
theorem dX11_draw_27 : decode cX11_draw 27 = .ok (.sipush 32767, 3) := by decide +kernel
theorem dX11_draw_30 : decode cX11_draw 30 = .ok (.iand, 1) := by decide +kernel
theorem dX11_draw_31 : decode cX11_draw 31 = .ok (.iload_n 1, 1) := by decide +kernel
theorem dX11_draw_32 : decode cX11_draw 32 = .ok (.irem, 1) := by decide +kernel
theorem dX11_draw_33 : decode cX11_draw 33 = .ok (.goto 4, 3) := by decide +kernel
theorem dX11_draw_36 : decode cX11_draw 36 = .ok (.iconst 0, 1) := by decide +kernel
theorem dX11_draw_37 : decode cX11_draw 37 = .ok (.ireturn, 1) := by decide +kernel
theorem dX11_drawAct_0 : decode cX11_drawAct 0 = .ok (.aload_n 0, 1) := by decide +kernel
theorem dX11_drawAct_1 : decode cX11_drawAct 1 = .ok (.bipush 6, 2) := by decide +kernel
theorem dX11_drawAct_3 : decode cX11_drawAct 3 = .ok (.invokevirtual 367, 3) := by decide +kernel
theorem dX11_drawAct_6 : decode cX11_drawAct 6 = .ok (.istore_n 1, 1) := by decide +kernel
theorem dX11_drawAct_7 : decode cX11_drawAct 7 = .ok (.iload_n 1, 1) := by decide +kernel
theorem dX11_drawAct_8 : decode cX11_drawAct 8 = .ok (.iconst 2, 1) := by decide +kernel
theorem dX11_drawAct_9 : decode cX11_drawAct 9 = .ok (.if_icmp .gt 16, 3) := by decide +kernel
theorem dX11_drawAct_12 : decode cX11_drawAct 12 = .ok (.aload_n 0, 1) := by decide +kernel
theorem dX11_drawAct_13 : decode cX11_drawAct 13 = .ok (.getfield 29, 3) := by decide +kernel
theorem dX11_drawAct_16 : decode cX11_drawAct 16 = .ok (.getfield 92, 3) := by decide +kernel
theorem dX11_drawAct_19 : decode cX11_drawAct 19 = .ok (.getfield 113, 3) := by decide +kernel
theorem dX11_drawAct_22 : decode cX11_drawAct 22 = .ok (.ifCond .ne 4, 3) := by decide +kernel
theorem dX11_drawAct_25 : decode cX11_drawAct 25 = .ok (.return_, 1) := by decide +kernel
theorem dX11_drawAct_26 : decode cX11_drawAct 26 = .ok (.aload_n 0, 1) := by decide +kernel
theorem dX11_drawAct_27 : decode cX11_drawAct 27 = .ok (.aload_n 0, 1) := by decide +kernel
theorem dX11_drawAct_28 : decode cX11_drawAct 28 = .ok (.getfield 29, 3) := by decide +kernel
theorem dX11_drawAct_31 : decode cX11_drawAct 31 = .ok (.getfield 92, 3) := by decide +kernel
theorem dX11_drawAct_34 : decode cX11_drawAct 34 = .ok (.getfield 113, 3) := by decide +kernel
theorem dX11_drawAct_37 : decode cX11_drawAct 37 = .ok (.invokevirtual 367, 3) := by decide +kernel
theorem dX11_drawAct_40 : decode cX11_drawAct 40 = .ok (.istore_n 2, 1) := by decide +kernel
theorem dX11_drawAct_41 : decode cX11_drawAct 41 = .ok (.iload_n 1, 1) := by decide +kernel
theorem dX11_drawAct_42 : decode cX11_drawAct 42 = .ok (.ifCond .ne 36, 3) := by decide +kernel
theorem dX11_drawAct_45 : decode cX11_drawAct 45 = .ok (.aload_n 0, 1) := by decide +kernel
theorem dX11_drawAct_46 : decode cX11_drawAct 46 = .ok (.getfield 29, 3) := by decide +kernel
theorem dX11_drawAct_49 : decode cX11_drawAct 49 = .ok (.getfield 220, 3) := by decide +kernel
theorem dX11_drawAct_52 : decode cX11_drawAct 52 = .ok (.iload_n 2, 1) := by decide +kernel
theorem dX11_drawAct_53 : decode cX11_drawAct 53 = .ok (.aload_n 0, 1) := by decide +kernel
theorem dX11_drawAct_54 : decode cX11_drawAct 54 = .ok (.getfield 29, 3) := by decide +kernel
theorem dX11_drawAct_57 : decode cX11_drawAct 57 = .ok (.getfield 220, 3) := by decide +kernel
theorem dX11_drawAct_60 : decode cX11_drawAct 60 = .ok (.iload_n 2, 1) := by decide +kernel
theorem dX11_drawAct_61 : decode cX11_drawAct 61 = .ok (.invokevirtual 175, 3) := by decide +kernel
theorem dX11_drawAct_64 : decode cX11_drawAct 64 = .ok (.ifCond .ne 7, 3) := by decide +kernel
theorem dX11_drawAct_67 : decode cX11_drawAct 67 = .ok (.iconst 1, 1) := by decide +kernel
theorem dX11_drawAct_68 : decode cX11_drawAct 68 = .ok (.goto 4, 3) := by decide +kernel
theorem dX11_drawAct_71 : decode cX11_drawAct 71 = .ok (.iconst 0, 1) := by decide +kernel
theorem dX11_drawAct_72 : decode cX11_drawAct 72 = .ok (.invokevirtual 201, 3) := by decide +kernel
theorem dX11_drawAct_75 : decode cX11_drawAct 75 = .ok (.goto 66, 3) := by decide +kernel
theorem dX11_drawAct_78 : decode cX11_drawAct 78 = .ok (.iload_n 1, 1) := by decide +kernel
theorem dX11_drawAct_79 : decode cX11_drawAct 79 = .ok (.iconst 1, 1) := by decide +kernel
theorem dX11_drawAct_80 : decode cX11_drawAct 80 = .ok (.if_icmp .ne 25, 3) := by decide +kernel
theorem dX11_drawAct_83 : decode cX11_drawAct 83 = .ok (.aload_n 0, 1) := by decide +kernel
theorem dX11_drawAct_84 : decode cX11_drawAct 84 = .ok (.getfield 29, 3) := by decide +kernel
theorem dX11_drawAct_87 : decode cX11_drawAct 87 = .ok (.getfield 220, 3) := by decide +kernel
theorem dX11_drawAct_90 : decode cX11_drawAct 90 = .ok (.iload_n 2, 1) := by decide +kernel
theorem dX11_drawAct_91 : decode cX11_drawAct 91 = .ok (.aload_n 0, 1) := by decide +kernel
theorem dX11_drawAct_92 : decode cX11_drawAct 92 = .ok (.bipush 30, 2) := by decide +kernel
theorem dX11_drawAct_94 : decode cX11_drawAct 94 = .ok (.invokevirtual 367, 3) := by decide +kernel
theorem dX11_drawAct_97 : decode cX11_drawAct 97 = .ok (.iconst 1, 1) := by decide +kernel
theorem dX11_drawAct_98 : decode cX11_drawAct 98 = .ok (.iadd, 1) := by decide +kernel
theorem dX11_drawAct_99 : decode cX11_drawAct 99 = .ok (.invokevirtual 211, 3) := by decide +kernel
theorem dX11_drawAct_102 : decode cX11_drawAct 102 = .ok (.goto 39, 3) := by decide +kernel
theorem dX11_drawAct_105 : decode cX11_drawAct 105 = .ok (.aload_n 0, 1) := by decide +kernel
theorem dX11_drawAct_106 : decode cX11_drawAct 106 = .ok (.aload_n 0, 1) := by decide +kernel
theorem dX11_drawAct_107 : decode cX11_drawAct 107 = .ok (.getfield 29, 3) := by decide +kernel
theorem dX11_drawAct_110 : decode cX11_drawAct 110 = .ok (.getfield 92, 3) := by decide +kernel
theorem dX11_drawAct_113 : decode cX11_drawAct 113 = .ok (.getfield 113, 3) := by decide +kernel
theorem dX11_drawAct_116 : decode cX11_drawAct 116 = .ok (.invokevirtual 367, 3) := by decide +kernel
theorem dX11_drawAct_119 : decode cX11_drawAct 119 = .ok (.istore_n 3, 1) := by decide +kernel
theorem dX11_drawAct_120 : decode cX11_drawAct 120 = .ok (.aload_n 0, 1) := by decide +kernel
theorem dX11_drawAct_121 : decode cX11_drawAct 121 = .ok (.getfield 29, 3) := by decide +kernel
theorem dX11_drawAct_124 : decode cX11_drawAct 124 = .ok (.getfield 220, 3) := by decide +kernel
theorem dX11_drawAct_127 : decode cX11_drawAct 127 = .ok (.iload_n 2, 1) := by decide +kernel
theorem dX11_drawAct_128 : decode cX11_drawAct 128 = .ok (.iload_n 3, 1) := by decide +kernel
theorem dX11_drawAct_129 : decode cX11_drawAct 129 = .ok (.iload_n 2, 1) := by decide +kernel
theorem dX11_drawAct_130 : decode cX11_drawAct 130 = .ok (.if_icmp .le 7, 3) := by decide +kernel
theorem dX11_drawAct_133 : decode cX11_drawAct 133 = .ok (.iload_n 3, 1) := by decide +kernel
theorem dX11_drawAct_134 : decode cX11_drawAct 134 = .ok (.goto 4, 3) := by decide +kernel
theorem dX11_drawAct_137 : decode cX11_drawAct 137 = .ok (.iconst (-1), 1) := by decide +kernel
theorem dX11_drawAct_138 : decode cX11_drawAct 138 = .ok (.invokevirtual 198, 3) := by decide +kernel
theorem dX11_drawAct_141 : decode cX11_drawAct 141 = .ok (.return_, 1) := by decide +kernel
theorem dX11_mostOf_0 : decode cX11_mostOf 0 = .ok (.iconst (-1), 1) := by decide +kernel
theorem dX11_mostOf_1 : decode cX11_mostOf 1 = .ok (.istore_n 2, 1) := by decide +kernel
theorem dX11_mostOf_2 : decode cX11_mostOf 2 = .ok (.iconst 0, 1) := by decide +kernel
theorem dX11_mostOf_3 : decode cX11_mostOf 3 = .ok (.istore_n 3, 1) := by decide +kernel
theorem dX11_mostOf_4 : decode cX11_mostOf 4 = .ok (.iload_n 3, 1) := by decide +kernel
theorem dX11_mostOf_5 : decode cX11_mostOf 5 = .ok (.aload_n 0, 1) := by decide +kernel
theorem dX11_mostOf_6 : decode cX11_mostOf 6 = .ok (.getfield 29, 3) := by decide +kernel
theorem dX11_mostOf_9 : decode cX11_mostOf 9 = .ok (.getfield 92, 3) := by decide +kernel
theorem dX11_mostOf_12 : decode cX11_mostOf 12 = .ok (.getfield 113, 3) := by decide +kernel
theorem dX11_mostOf_15 : decode cX11_mostOf 15 = .ok (.if_icmp .ge 25, 3) := by decide +kernel
theorem dX11_mostOf_18 : decode cX11_mostOf 18 = .ok (.iload_n 2, 1) := by decide +kernel
theorem dX11_mostOf_19 : decode cX11_mostOf 19 = .ok (.iconst (-1), 1) := by decide +kernel
theorem dX11_mostOf_20 : decode cX11_mostOf 20 = .ok (.if_icmp .eq 12, 3) := by decide +kernel
theorem dX11_mostOf_23 : decode cX11_mostOf 23 = .ok (.aload_n 1, 1) := by decide +kernel
theorem dX11_mostOf_24 : decode cX11_mostOf 24 = .ok (.iload_n 3, 1) := by decide +kernel
theorem dX11_mostOf_25 : decode cX11_mostOf 25 = .ok (.iaload, 1) := by decide +kernel
theorem dX11_mostOf_26 : decode cX11_mostOf 26 = .ok (.aload_n 1, 1) := by decide +kernel
theorem dX11_mostOf_27 : decode cX11_mostOf 27 = .ok (.iload_n 2, 1) := by decide +kernel
theorem dX11_mostOf_28 : decode cX11_mostOf 28 = .ok (.iaload, 1) := by decide +kernel
theorem dX11_mostOf_29 : decode cX11_mostOf 29 = .ok (.if_icmp .le 5, 3) := by decide +kernel
theorem dX11_mostOf_32 : decode cX11_mostOf 32 = .ok (.iload_n 3, 1) := by decide +kernel
theorem dX11_mostOf_33 : decode cX11_mostOf 33 = .ok (.istore_n 2, 1) := by decide +kernel
theorem dX11_mostOf_34 : decode cX11_mostOf 34 = .ok (.iinc 3 1, 3) := by decide +kernel
theorem dX11_mostOf_37 : decode cX11_mostOf 37 = .ok (.goto (-33), 3) := by decide +kernel
theorem dX11_mostOf_40 : decode cX11_mostOf 40 = .ok (.iload_n 2, 1) := by decide +kernel
theorem dX11_mostOf_41 : decode cX11_mostOf 41 = .ok (.ireturn, 1) := by decide +kernel
theorem dX11_dryCups_0 : decode cX11_dryCups 0 = .ok (.iconst 0, 1) := by decide +kernel
theorem dX11_dryCups_1 : decode cX11_dryCups 1 = .ok (.istore_n 2, 1) := by decide +kernel
theorem dX11_dryCups_2 : decode cX11_dryCups 2 = .ok (.iconst 0, 1) := by decide +kernel
theorem dX11_dryCups_3 : decode cX11_dryCups 3 = .ok (.istore_n 3, 1) := by decide +kernel
theorem dX11_dryCups_4 : decode cX11_dryCups 4 = .ok (.iload_n 3, 1) := by decide +kernel
theorem dX11_dryCups_5 : decode cX11_dryCups 5 = .ok (.aload_n 0, 1) := by decide +kernel
theorem dX11_dryCups_6 : decode cX11_dryCups 6 = .ok (.getfield 29, 3) := by decide +kernel
theorem dX11_dryCups_9 : decode cX11_dryCups 9 = .ok (.getfield 92, 3) := by decide +kernel
theorem dX11_dryCups_12 : decode cX11_dryCups 12 = .ok (.getfield 113, 3) := by decide +kernel
theorem dX11_dryCups_15 : decode cX11_dryCups 15 = .ok (.if_icmp .ge 24, 3) := by decide +kernel
theorem dX11_dryCups_18 : decode cX11_dryCups 18 = .ok (.aload_n 1, 1) := by decide +kernel
theorem dX11_dryCups_19 : decode cX11_dryCups 19 = .ok (.getfield 162, 3) := by decide +kernel
theorem dX11_dryCups_22 : decode cX11_dryCups 22 = .ok (.iload_n 3, 1) := by decide +kernel
theorem dX11_dryCups_23 : decode cX11_dryCups 23 = .ok (.iaload, 1) := by decide +kernel
theorem dX11_dryCups_24 : decode cX11_dryCups 24 = .ok (.ifCond .ne 9, 3) := by decide +kernel
theorem dX11_dryCups_27 : decode cX11_dryCups 27 = .ok (.iload_n 2, 1) := by decide +kernel
theorem dX11_dryCups_28 : decode cX11_dryCups 28 = .ok (.iconst 1, 1) := by decide +kernel
theorem dX11_dryCups_29 : decode cX11_dryCups 29 = .ok (.iload_n 3, 1) := by decide +kernel
theorem dX11_dryCups_30 : decode cX11_dryCups 30 = .ok (.ishl, 1) := by decide +kernel
theorem dX11_dryCups_31 : decode cX11_dryCups 31 = .ok (.ior, 1) := by decide +kernel
theorem dX11_dryCups_32 : decode cX11_dryCups 32 = .ok (.istore_n 2, 1) := by decide +kernel
theorem dX11_dryCups_33 : decode cX11_dryCups 33 = .ok (.iinc 3 1, 3) := by decide +kernel
theorem dX11_dryCups_36 : decode cX11_dryCups 36 = .ok (.goto (-32), 3) := by decide +kernel
theorem dX11_dryCups_39 : decode cX11_dryCups 39 = .ok (.iload_n 2, 1) := by decide +kernel
theorem dX11_dryCups_40 : decode cX11_dryCups 40 = .ok (.ireturn, 1) := by decide +kernel
theorem dX11_leastOf_0 : decode cX11_leastOf 0 = .ok (.iconst 0, 1) := by decide +kernel
theorem dX11_leastOf_1 : decode cX11_leastOf 1 = .ok (.istore_n 1, 1) := by decide +kernel
theorem dX11_leastOf_2 : decode cX11_leastOf 2 = .ok (.iload_n 1, 1) := by decide +kernel
theorem dX11_leastOf_3 : decode cX11_leastOf 3 = .ok (.bipush 9, 2) := by decide +kernel
theorem dX11_leastOf_5 : decode cX11_leastOf 5 = .ok (.if_icmp .ge 19, 3) := by decide +kernel
theorem dX11_leastOf_8 : decode cX11_leastOf 8 = .ok (.iload_n 0, 1) := by decide +kernel
theorem dX11_leastOf_9 : decode cX11_leastOf 9 = .ok (.iload_n 1, 1) := by decide +kernel
theorem dX11_leastOf_10 : decode cX11_leastOf 10 = .ok (.invokestatic 332, 3) := by decide +kernel
theorem dX11_leastOf_13 : decode cX11_leastOf 13 = .ok (.ifCond .eq 5, 3) := by decide +kernel
theorem dX11_leastOf_16 : decode cX11_leastOf 16 = .ok (.iload_n 1, 1) := by decide +kernel
theorem dX11_leastOf_17 : decode cX11_leastOf 17 = .ok (.ireturn, 1) := by decide +kernel
theorem dX11_leastOf_18 : decode cX11_leastOf 18 = .ok (.iinc 1 1, 3) := by decide +kernel
theorem dX11_leastOf_21 : decode cX11_leastOf 21 = .ok (.goto (-19), 3) := by decide +kernel
theorem dX11_leastOf_24 : decode cX11_leastOf 24 = .ok (.iconst (-1), 1) := by decide +kernel
theorem dX11_leastOf_25 : decode cX11_leastOf 25 = .ok (.ireturn, 1) := by decide +kernel
theorem dX11_has_0 : decode cX11_has 0 = .ok (.iload_n 0, 1) := by decide +kernel
theorem dX11_has_1 : decode cX11_has 1 = .ok (.iload_n 1, 1) := by decide +kernel
theorem dX11_has_2 : decode cX11_has 2 = .ok (.ishr, 1) := by decide +kernel
theorem dX11_has_3 : decode cX11_has 3 = .ok (.iconst 1, 1) := by decide +kernel
theorem dX11_has_4 : decode cX11_has 4 = .ok (.iand, 1) := by decide +kernel
theorem dX11_has_5 : decode cX11_has 5 = .ok (.iconst 1, 1) := by decide +kernel
theorem dX11_has_6 : decode cX11_has 6 = .ok (.if_icmp .ne 7, 3) := by decide +kernel
theorem dX11_has_9 : decode cX11_has 9 = .ok (.iconst 1, 1) := by decide +kernel
theorem dX11_has_10 : decode cX11_has 10 = .ok (.goto 4, 3) := by decide +kernel
theorem dX11_has_13 : decode cX11_has 13 = .ok (.iconst 0, 1) := by decide +kernel
theorem dX11_has_14 : decode cX11_has 14 = .ok (.ireturn, 1) := by decide +kernel
theorem dX11_bitOf_0 : decode cX11_bitOf 0 = .ok (.iload_n 0, 1) := by decide +kernel
theorem dX11_bitOf_1 : decode cX11_bitOf 1 = .ok (.ifCond .lt 15, 3) := by decide +kernel
theorem dX11_bitOf_4 : decode cX11_bitOf 4 = .ok (.iload_n 0, 1) := by decide +kernel
theorem dX11_bitOf_5 : decode cX11_bitOf 5 = .ok (.bipush 9, 2) := by decide +kernel
theorem dX11_bitOf_7 : decode cX11_bitOf 7 = .ok (.if_icmp .ge 9, 3) := by decide +kernel
theorem dX11_bitOf_10 : decode cX11_bitOf 10 = .ok (.iconst 1, 1) := by decide +kernel
theorem dX11_bitOf_11 : decode cX11_bitOf 11 = .ok (.iload_n 0, 1) := by decide +kernel
theorem dX11_bitOf_12 : decode cX11_bitOf 12 = .ok (.ishl, 1) := by decide +kernel
theorem dX11_bitOf_13 : decode cX11_bitOf 13 = .ok (.goto 4, 3) := by decide +kernel
theorem dX11_bitOf_16 : decode cX11_bitOf 16 = .ok (.iconst 0, 1) := by decide +kernel
theorem dX11_bitOf_17 : decode cX11_bitOf 17 = .ok (.ireturn, 1) := by decide +kernel
