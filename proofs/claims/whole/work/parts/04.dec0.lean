theorem dX0_init_0 : decode cX0_init 0 = .ok (.aload_n 0, 1) := by decide +kernel
theorem dX0_init_1 : decode cX0_init 1 = .ok (.invokespecial 3, 3) := by decide +kernel
theorem dX0_init_4 : decode cX0_init 4 = .ok (.aload_n 0, 1) := by decide +kernel
theorem dX0_init_5 : decode cX0_init 5 = .ok (.bipush 10, 2) := by decide +kernel
theorem dX0_init_7 : decode cX0_init 7 = .ok (.newarray .int, 2) := by decide +kernel
theorem dX0_init_9 : decode cX0_init 9 = .ok (.putfield 9, 3) := by decide +kernel
theorem dX0_init_12 : decode cX0_init 12 = .ok (.aload_n 0, 1) := by decide +kernel
theorem dX0_init_13 : decode cX0_init 13 = .ok (.bipush 10, 2) := by decide +kernel
theorem dX0_init_15 : decode cX0_init 15 = .ok (.newarray .int, 2) := by decide +kernel
theorem dX0_init_17 : decode cX0_init 17 = .ok (.putfield 15, 3) := by decide +kernel
theorem dX0_init_20 : decode cX0_init 20 = .ok (.aload_n 0, 1) := by decide +kernel
theorem dX0_init_21 : decode cX0_init 21 = .ok (.bipush 10, 2) := by decide +kernel
theorem dX0_init_23 : decode cX0_init 23 = .ok (.newarray .int, 2) := by decide +kernel
theorem dX0_init_25 : decode cX0_init 25 = .ok (.putfield 18, 3) := by decide +kernel
theorem dX0_init_28 : decode cX0_init 28 = .ok (.return_, 1) := by decide +kernel
theorem dX0_keep_0 : decode cX0_keep 0 = .ok (.aload_n 0, 1) := by decide +kernel
theorem dX0_keep_1 : decode cX0_keep 1 = .ok (.getfield 21, 3) := by decide +kernel
theorem dX0_keep_4 : decode cX0_keep 4 = .ok (.bipush 10, 2) := by decide +kernel
theorem dX0_keep_6 : decode cX0_keep 6 = .ok (.if_icmp .lt 7, 3) := by decide +kernel
theorem dX0_keep_9 : decode cX0_keep 9 = .ok (.aload_n 0, 1) := by decide +kernel
theorem dX0_keep_10 : decode cX0_keep 10 = .ok (.invokevirtual 25, 3) := by decide +kernel
theorem dX0_keep_13 : decode cX0_keep 13 = .ok (.aload_n 0, 1) := by decide +kernel
theorem dX0_keep_14 : decode cX0_keep 14 = .ok (.getfield 9, 3) := by decide +kernel
theorem dX0_keep_17 : decode cX0_keep 17 = .ok (.aload_n 0, 1) := by decide +kernel
theorem dX0_keep_18 : decode cX0_keep 18 = .ok (.getfield 21, 3) := by decide +kernel
theorem dX0_keep_21 : decode cX0_keep 21 = .ok (.iload_n 1, 1) := by decide +kernel
theorem dX0_keep_22 : decode cX0_keep 22 = .ok (.iastore, 1) := by decide +kernel
theorem dX0_keep_23 : decode cX0_keep 23 = .ok (.aload_n 0, 1) := by decide +kernel
theorem dX0_keep_24 : decode cX0_keep 24 = .ok (.getfield 15, 3) := by decide +kernel
theorem dX0_keep_27 : decode cX0_keep 27 = .ok (.aload_n 0, 1) := by decide +kernel
theorem dX0_keep_28 : decode cX0_keep 28 = .ok (.getfield 21, 3) := by decide +kernel
theorem dX0_keep_31 : decode cX0_keep 31 = .ok (.iload_n 2, 1) := by decide +kernel
theorem dX0_keep_32 : decode cX0_keep 32 = .ok (.iastore, 1) := by decide +kernel
theorem dX0_keep_33 : decode cX0_keep 33 = .ok (.aload_n 0, 1) := by decide +kernel
theorem dX0_keep_34 : decode cX0_keep 34 = .ok (.getfield 18, 3) := by decide +kernel
theorem dX0_keep_37 : decode cX0_keep 37 = .ok (.aload_n 0, 1) := by decide +kernel
theorem dX0_keep_38 : decode cX0_keep 38 = .ok (.getfield 21, 3) := by decide +kernel
theorem dX0_keep_41 : decode cX0_keep 41 = .ok (.iload_n 3, 1) := by decide +kernel
theorem dX0_keep_42 : decode cX0_keep 42 = .ok (.iastore, 1) := by decide +kernel
theorem dX0_keep_43 : decode cX0_keep 43 = .ok (.aload_n 0, 1) := by decide +kernel
theorem dX0_keep_44 : decode cX0_keep 44 = .ok (.dup, 1) := by decide +kernel
theorem dX0_keep_45 : decode cX0_keep 45 = .ok (.getfield 21, 3) := by decide +kernel
theorem dX0_keep_48 : decode cX0_keep 48 = .ok (.iconst 1, 1) := by decide +kernel
theorem dX0_keep_49 : decode cX0_keep 49 = .ok (.iadd, 1) := by decide +kernel
theorem dX0_keep_50 : decode cX0_keep 50 = .ok (.putfield 21, 3) := by decide +kernel
theorem dX0_keep_53 : decode cX0_keep 53 = .ok (.return_, 1) := by decide +kernel
theorem dX0_dropOldest_0 : decode cX0_dropOldest 0 = .ok (.iconst 1, 1) := by decide +kernel
theorem dX0_dropOldest_1 : decode cX0_dropOldest 1 = .ok (.istore_n 1, 1) := by decide +kernel
theorem dX0_dropOldest_2 : decode cX0_dropOldest 2 = .ok (.iload_n 1, 1) := by decide +kernel
theorem dX0_dropOldest_3 : decode cX0_dropOldest 3 = .ok (.bipush 10, 2) := by decide +kernel
theorem dX0_dropOldest_5 : decode cX0_dropOldest 5 = .ok (.if_icmp .ge 51, 3) := by decide +kernel
theorem dX0_dropOldest_8 : decode cX0_dropOldest 8 = .ok (.aload_n 0, 1) := by decide +kernel
theorem dX0_dropOldest_9 : decode cX0_dropOldest 9 = .ok (.getfield 9, 3) := by decide +kernel
theorem dX0_dropOldest_12 : decode cX0_dropOldest 12 = .ok (.iload_n 1, 1) := by decide +kernel
theorem dX0_dropOldest_13 : decode cX0_dropOldest 13 = .ok (.iconst 1, 1) := by decide +kernel
theorem dX0_dropOldest_14 : decode cX0_dropOldest 14 = .ok (.isub, 1) := by decide +kernel
theorem dX0_dropOldest_15 : decode cX0_dropOldest 15 = .ok (.aload_n 0, 1) := by decide +kernel
theorem dX0_dropOldest_16 : decode cX0_dropOldest 16 = .ok (.getfield 9, 3) := by decide +kernel
theorem dX0_dropOldest_19 : decode cX0_dropOldest 19 = .ok (.iload_n 1, 1) := by decide +kernel
theorem dX0_dropOldest_20 : decode cX0_dropOldest 20 = .ok (.iaload, 1) := by decide +kernel
theorem dX0_dropOldest_21 : decode cX0_dropOldest 21 = .ok (.iastore, 1) := by decide +kernel
theorem dX0_dropOldest_22 : decode cX0_dropOldest 22 = .ok (.aload_n 0, 1) := by decide +kernel
theorem dX0_dropOldest_23 : decode cX0_dropOldest 23 = .ok (.getfield 15, 3) := by decide +kernel
theorem dX0_dropOldest_26 : decode cX0_dropOldest 26 = .ok (.iload_n 1, 1) := by decide +kernel
theorem dX0_dropOldest_27 : decode cX0_dropOldest 27 = .ok (.iconst 1, 1) := by decide +kernel
theorem dX0_dropOldest_28 : decode cX0_dropOldest 28 = .ok (.isub, 1) := by decide +kernel
theorem dX0_dropOldest_29 : decode cX0_dropOldest 29 = .ok (.aload_n 0, 1) := by decide +kernel
theorem dX0_dropOldest_30 : decode cX0_dropOldest 30 = .ok (.getfield 15, 3) := by decide +kernel
theorem dX0_dropOldest_33 : decode cX0_dropOldest 33 = .ok (.iload_n 1, 1) := by decide +kernel
theorem dX0_dropOldest_34 : decode cX0_dropOldest 34 = .ok (.iaload, 1) := by decide +kernel
theorem dX0_dropOldest_35 : decode cX0_dropOldest 35 = .ok (.iastore, 1) := by decide +kernel
theorem dX0_dropOldest_36 : decode cX0_dropOldest 36 = .ok (.aload_n 0, 1) := by decide +kernel
theorem dX0_dropOldest_37 : decode cX0_dropOldest 37 = .ok (.getfield 18, 3) := by decide +kernel
theorem dX0_dropOldest_40 : decode cX0_dropOldest 40 = .ok (.iload_n 1, 1) := by decide +kernel
theorem dX0_dropOldest_41 : decode cX0_dropOldest 41 = .ok (.iconst 1, 1) := by decide +kernel
theorem dX0_dropOldest_42 : decode cX0_dropOldest 42 = .ok (.isub, 1) := by decide +kernel
theorem dX0_dropOldest_43 : decode cX0_dropOldest 43 = .ok (.aload_n 0, 1) := by decide +kernel
theorem dX0_dropOldest_44 : decode cX0_dropOldest 44 = .ok (.getfield 18, 3) := by decide +kernel
theorem dX0_dropOldest_47 : decode cX0_dropOldest 47 = .ok (.iload_n 1, 1) := by decide +kernel
theorem dX0_dropOldest_48 : decode cX0_dropOldest 48 = .ok (.iaload, 1) := by decide +kernel
theorem dX0_dropOldest_49 : decode cX0_dropOldest 49 = .ok (.iastore, 1) := by decide +kernel
theorem dX0_dropOldest_50 : decode cX0_dropOldest 50 = .ok (.iinc 1 1, 3) := by decide +kernel
theorem dX0_dropOldest_53 : decode cX0_dropOldest 53 = .ok (.goto (-51), 3) := by decide +kernel
theorem dX0_dropOldest_56 : decode cX0_dropOldest 56 = .ok (.aload_n 0, 1) := by decide +kernel
theorem dX0_dropOldest_57 : decode cX0_dropOldest 57 = .ok (.bipush 9, 2) := by decide +kernel
theorem dX0_dropOldest_59 : decode cX0_dropOldest 59 = .ok (.putfield 21, 3) := by decide +kernel
theorem dX0_dropOldest_62 : decode cX0_dropOldest 62 = .ok (.return_, 1) := by decide +kernel
theorem dX1_init_0 : decode cX1_init 0 = .ok (.aload_n 0, 1) := by decide +kernel
theorem dX1_init_1 : decode cX1_init 1 = .ok (.invokespecial 3, 3) := by decide +kernel
theorem dX1_init_4 : decode cX1_init 4 = .ok (.aload_n 0, 1) := by decide +kernel
theorem dX1_init_5 : decode cX1_init 5 = .ok (.iconst 5, 1) := by decide +kernel
theorem dX1_init_6 : decode cX1_init 6 = .ok (.newarray .int, 2) := by decide +kernel
theorem dX1_init_8 : decode cX1_init 8 = .ok (.putfield 9, 3) := by decide +kernel
theorem dX1_init_11 : decode cX1_init 11 = .ok (.aload_n 0, 1) := by decide +kernel
theorem dX1_init_12 : decode cX1_init 12 = .ok (.iconst 5, 1) := by decide +kernel
theorem dX1_init_13 : decode cX1_init 13 = .ok (.newarray .int, 2) := by decide +kernel
theorem dX1_init_15 : decode cX1_init 15 = .ok (.putfield 15, 3) := by decide +kernel
theorem dX1_init_18 : decode cX1_init 18 = .ok (.return_, 1) := by decide +kernel
theorem dX1_add_0 : decode cX1_add 0 = .ok (.aload_n 0, 1) := by decide +kernel
theorem dX1_add_1 : decode cX1_add 1 = .ok (.getfield 18, 3) := by decide +kernel
theorem dX1_add_4 : decode cX1_add 4 = .ok (.iconst 5, 1) := by decide +kernel
theorem dX1_add_5 : decode cX1_add 5 = .ok (.if_icmp .ge 33, 3) := by decide +kernel
theorem dX1_add_8 : decode cX1_add 8 = .ok (.aload_n 0, 1) := by decide +kernel
theorem dX1_add_9 : decode cX1_add 9 = .ok (.getfield 9, 3) := by decide +kernel
theorem dX1_add_12 : decode cX1_add 12 = .ok (.aload_n 0, 1) := by decide +kernel
theorem dX1_add_13 : decode cX1_add 13 = .ok (.getfield 18, 3) := by decide +kernel
theorem dX1_add_16 : decode cX1_add 16 = .ok (.iload_n 1, 1) := by decide +kernel
theorem dX1_add_17 : decode cX1_add 17 = .ok (.iastore, 1) := by decide +kernel
theorem dX1_add_18 : decode cX1_add 18 = .ok (.aload_n 0, 1) := by decide +kernel
theorem dX1_add_19 : decode cX1_add 19 = .ok (.getfield 15, 3) := by decide +kernel
theorem dX1_add_22 : decode cX1_add 22 = .ok (.aload_n 0, 1) := by decide +kernel
theorem dX1_add_23 : decode cX1_add 23 = .ok (.getfield 18, 3) := by decide +kernel
theorem dX1_add_26 : decode cX1_add 26 = .ok (.iload_n 2, 1) := by decide +kernel
theorem dX1_add_27 : decode cX1_add 27 = .ok (.iastore, 1) := by decide +kernel
theorem dX1_add_28 : decode cX1_add 28 = .ok (.aload_n 0, 1) := by decide +kernel
theorem dX1_add_29 : decode cX1_add 29 = .ok (.dup, 1) := by decide +kernel
theorem dX1_add_30 : decode cX1_add 30 = .ok (.getfield 18, 3) := by decide +kernel
theorem dX1_add_33 : decode cX1_add 33 = .ok (.iconst 1, 1) := by decide +kernel
theorem dX1_add_34 : decode cX1_add 34 = .ok (.iadd, 1) := by decide +kernel
theorem dX1_add_35 : decode cX1_add 35 = .ok (.putfield 18, 3) := by decide +kernel
theorem dX1_add_38 : decode cX1_add 38 = .ok (.return_, 1) := by decide +kernel
theorem dX1_hasVariant_0 : decode cX1_hasVariant 0 = .ok (.iconst 0, 1) := by decide +kernel
theorem dX1_hasVariant_1 : decode cX1_hasVariant 1 = .ok (.istore_n 2, 1) := by decide +kernel
theorem dX1_hasVariant_2 : decode cX1_hasVariant 2 = .ok (.iload_n 2, 1) := by decide +kernel
theorem dX1_hasVariant_3 : decode cX1_hasVariant 3 = .ok (.aload_n 0, 1) := by decide +kernel
theorem dX1_hasVariant_4 : decode cX1_hasVariant 4 = .ok (.getfield 18, 3) := by decide +kernel
theorem dX1_hasVariant_7 : decode cX1_hasVariant 7 = .ok (.if_icmp .ge 21, 3) := by decide +kernel
theorem dX1_hasVariant_10 : decode cX1_hasVariant 10 = .ok (.aload_n 0, 1) := by decide +kernel
theorem dX1_hasVariant_11 : decode cX1_hasVariant 11 = .ok (.getfield 9, 3) := by decide +kernel
theorem dX1_hasVariant_14 : decode cX1_hasVariant 14 = .ok (.iload_n 2, 1) := by decide +kernel
theorem dX1_hasVariant_15 : decode cX1_hasVariant 15 = .ok (.iaload, 1) := by decide +kernel
theorem dX1_hasVariant_16 : decode cX1_hasVariant 16 = .ok (.iload_n 1, 1) := by decide +kernel
theorem dX1_hasVariant_17 : decode cX1_hasVariant 17 = .ok (.if_icmp .ne 5, 3) := by decide +kernel
theorem dX1_hasVariant_20 : decode cX1_hasVariant 20 = .ok (.iconst 1, 1) := by decide +kernel
theorem dX1_hasVariant_21 : decode cX1_hasVariant 21 = .ok (.ireturn, 1) := by decide +kernel
theorem dX1_hasVariant_22 : decode cX1_hasVariant 22 = .ok (.iinc 2 1, 3) := by decide +kernel
theorem dX1_hasVariant_25 : decode cX1_hasVariant 25 = .ok (.goto (-23), 3) := by decide +kernel
theorem dX1_hasVariant_28 : decode cX1_hasVariant 28 = .ok (.iconst 0, 1) := by decide +kernel
theorem dX1_hasVariant_29 : decode cX1_hasVariant 29 = .ok (.ireturn, 1) := by decide +kernel
theorem dX2_init_0 : decode cX2_init 0 = .ok (.aload_n 0, 1) := by decide +kernel
theorem dX2_init_1 : decode cX2_init 1 = .ok (.invokespecial 3, 3) := by decide +kernel
theorem dX2_init_4 : decode cX2_init 4 = .ok (.aload_n 0, 1) := by decide +kernel
theorem dX2_init_5 : decode cX2_init 5 = .ok (.bipush 32, 2) := by decide +kernel
theorem dX2_init_7 : decode cX2_init 7 = .ok (.newarray .int, 2) := by decide +kernel
theorem dX2_init_9 : decode cX2_init 9 = .ok (.putfield 9, 3) := by decide +kernel
theorem dX2_init_12 : decode cX2_init 12 = .ok (.aload_n 0, 1) := by decide +kernel
theorem dX2_init_13 : decode cX2_init 13 = .ok (.iconst 5, 1) := by decide +kernel
theorem dX2_init_14 : decode cX2_init 14 = .ok (.newarray .int, 2) := by decide +kernel
theorem dX2_init_16 : decode cX2_init 16 = .ok (.putfield 15, 3) := by decide +kernel
theorem dX2_init_19 : decode cX2_init 19 = .ok (.aload_n 0, 1) := by decide +kernel
theorem dX2_init_20 : decode cX2_init 20 = .ok (.iconst 5, 1) := by decide +kernel
theorem dX2_init_21 : decode cX2_init 21 = .ok (.newarray .int, 2) := by decide +kernel
theorem dX2_init_23 : decode cX2_init 23 = .ok (.putfield 18, 3) := by decide +kernel
theorem dX2_init_26 : decode cX2_init 26 = .ok (.return_, 1) := by decide +kernel
theorem dX2_find_0 : decode cX2_find 0 = .ok (.aload_n 1, 1) := by decide +kernel
theorem dX2_find_1 : decode cX2_find 1 = .ok (.getfield 21, 3) := by decide +kernel
theorem dX2_find_4 : decode cX2_find 4 = .ok (.getfield 27, 3) := by decide +kernel
theorem dX2_find_7 : decode cX2_find 7 = .ok (.istore_n 3, 1) := by decide +kernel
theorem dX2_find_8 : decode cX2_find 8 = .ok (.aload_n 0, 1) := by decide +kernel
theorem dX2_find_9 : decode cX2_find 9 = .ok (.aload_n 1, 1) := by decide +kernel
theorem dX2_find_10 : decode cX2_find 10 = .ok (.invokevirtual 33, 3) := by decide +kernel
theorem dX2_find_13 : decode cX2_find 13 = .ok (.aload_n 0, 1) := by decide +kernel
theorem dX2_find_14 : decode cX2_find 14 = .ok (.getfield 15, 3) := by decide +kernel
theorem dX2_find_17 : decode cX2_find 17 = .ok (.iconst 0, 1) := by decide +kernel
theorem dX2_find_18 : decode cX2_find 18 = .ok (.invokestatic 37, 3) := by decide +kernel
theorem dX2_find_21 : decode cX2_find 21 = .ok (.aload_n 0, 1) := by decide +kernel
theorem dX2_find_22 : decode cX2_find 22 = .ok (.ldc 43, 2) := by decide +kernel
theorem dX2_find_24 : decode cX2_find 24 = .ok (.putfield 44, 3) := by decide +kernel
theorem dX2_find_27 : decode cX2_find 27 = .ok (.iconst 1, 1) := by decide +kernel
theorem dX2_find_28 : decode cX2_find 28 = .ok (.istore 4, 2) := by decide +kernel
theorem dX2_find_30 : decode cX2_find 30 = .ok (.iconst 0, 1) := by decide +kernel
theorem dX2_find_31 : decode cX2_find 31 = .ok (.istore 5, 2) := by decide +kernel
theorem dX2_find_33 : decode cX2_find 33 = .ok (.iload 5, 2) := by decide +kernel
theorem dX2_find_35 : decode cX2_find 35 = .ok (.bipush 52, 2) := by decide +kernel
theorem dX2_find_37 : decode cX2_find 37 = .ok (.if_icmp .ge 27, 3) := by decide +kernel
theorem dX2_find_40 : decode cX2_find 40 = .ok (.iload 4, 2) := by decide +kernel
theorem dX2_find_42 : decode cX2_find 42 = .ok (.ifCond .eq 22, 3) := by decide +kernel
theorem dX2_find_45 : decode cX2_find 45 = .ok (.aload_n 0, 1) := by decide +kernel
theorem dX2_find_46 : decode cX2_find 46 = .ok (.iload_n 3, 1) := by decide +kernel
theorem dX2_find_47 : decode cX2_find 47 = .ok (.invokevirtual 47, 3) := by decide +kernel
theorem dX2_find_50 : decode cX2_find 50 = .ok (.aload_n 0, 1) := by decide +kernel
theorem dX2_find_51 : decode cX2_find 51 = .ok (.iload_n 3, 1) := by decide +kernel
theorem dX2_find_52 : decode cX2_find 52 = .ok (.iload_n 2, 1) := by decide +kernel
theorem dX2_find_53 : decode cX2_find 53 = .ok (.invokevirtual 51, 3) := by decide +kernel
theorem dX2_find_56 : decode cX2_find 56 = .ok (.istore 4, 2) := by decide +kernel
theorem dX2_find_58 : decode cX2_find 58 = .ok (.iinc 5 1, 3) := by decide +kernel
theorem dX2_find_61 : decode cX2_find 61 = .ok (.goto (-28), 3) := by decide +kernel
theorem dX2_find_64 : decode cX2_find 64 = .ok (.return_, 1) := by decide +kernel
theorem dX2_countBest_0 : decode cX2_countBest 0 = .ok (.aload_n 0, 1) := by decide +kernel
theorem dX2_countBest_1 : decode cX2_countBest 1 = .ok (.getfield 18, 3) := by decide +kernel
theorem dX2_countBest_4 : decode cX2_countBest 4 = .ok (.iload_n 1, 1) := by decide +kernel
theorem dX2_countBest_5 : decode cX2_countBest 5 = .ok (.invokestatic 55, 3) := by decide +kernel
theorem dX2_countBest_8 : decode cX2_countBest 8 = .ok (.iconst 1, 1) := by decide +kernel
theorem dX2_countBest_9 : decode cX2_countBest 9 = .ok (.iadd, 1) := by decide +kernel
theorem dX2_countBest_10 : decode cX2_countBest 10 = .ok (.ireturn, 1) := by decide +kernel
theorem dX2_weighGroups_0 : decode cX2_weighGroups 0 = .ok (.iconst 1, 1) := by decide +kernel
theorem dX2_weighGroups_1 : decode cX2_weighGroups 1 = .ok (.istore_n 2, 1) := by decide +kernel
theorem dX2_weighGroups_2 : decode cX2_weighGroups 2 = .ok (.iload_n 2, 1) := by decide +kernel
theorem dX2_weighGroups_3 : decode cX2_weighGroups 3 = .ok (.iconst 1, 1) := by decide +kernel
theorem dX2_weighGroups_4 : decode cX2_weighGroups 4 = .ok (.aload_n 1, 1) := by decide +kernel
theorem dX2_weighGroups_5 : decode cX2_weighGroups 5 = .ok (.getfield 21, 3) := by decide +kernel
theorem dX2_weighGroups_8 : decode cX2_weighGroups 8 = .ok (.getfield 27, 3) := by decide +kernel
theorem dX2_weighGroups_11 : decode cX2_weighGroups 11 = .ok (.ishl, 1) := by decide +kernel
theorem dX2_weighGroups_12 : decode cX2_weighGroups 12 = .ok (.if_icmp .ge 26, 3) := by decide +kernel
theorem dX2_weighGroups_15 : decode cX2_weighGroups 15 = .ok (.aload_n 0, 1) := by decide +kernel
theorem dX2_weighGroups_16 : decode cX2_weighGroups 16 = .ok (.getfield 9, 3) := by decide +kernel
theorem dX2_weighGroups_19 : decode cX2_weighGroups 19 = .ok (.iload_n 2, 1) := by decide +kernel
theorem dX2_weighGroups_20 : decode cX2_weighGroups 20 = .ok (.aload_n 1, 1) := by decide +kernel
theorem dX2_weighGroups_21 : decode cX2_weighGroups 21 = .ok (.iload_n 2, 1) := by decide +kernel
theorem dX2_weighGroups_22 : decode cX2_weighGroups 22 = .ok (.invokestatic 59, 3) := by decide +kernel
theorem dX2_weighGroups_25 : decode cX2_weighGroups 25 = .ok (.aload_n 1, 1) := by decide +kernel
theorem dX2_weighGroups_26 : decode cX2_weighGroups 26 = .ok (.iload_n 2, 1) := by decide +kernel
theorem dX2_weighGroups_27 : decode cX2_weighGroups 27 = .ok (.invokestatic 63, 3) := by decide +kernel
theorem dX2_weighGroups_30 : decode cX2_weighGroups 30 = .ok (.imul, 1) := by decide +kernel
theorem dX2_weighGroups_31 : decode cX2_weighGroups 31 = .ok (.iastore, 1) := by decide +kernel
theorem dX2_weighGroups_32 : decode cX2_weighGroups 32 = .ok (.iinc 2 1, 3) := by decide +kernel
theorem dX2_weighGroups_35 : decode cX2_weighGroups 35 = .ok (.goto (-33), 3) := by decide +kernel
theorem dX2_weighGroups_38 : decode cX2_weighGroups 38 = .ok (.return_, 1) := by decide +kernel
theorem dX2_keepIfLess_0 : decode cX2_keepIfLess 0 = .ok (.iconst 0, 1) := by decide +kernel
theorem dX2_keepIfLess_1 : decode cX2_keepIfLess 1 = .ok (.istore_n 2, 1) := by decide +kernel
theorem dX2_keepIfLess_2 : decode cX2_keepIfLess 2 = .ok (.iconst 0, 1) := by decide +kernel
theorem dX2_keepIfLess_3 : decode cX2_keepIfLess 3 = .ok (.istore_n 3, 1) := by decide +kernel
theorem dX2_keepIfLess_4 : decode cX2_keepIfLess 4 = .ok (.iload_n 3, 1) := by decide +kernel
theorem dX2_keepIfLess_5 : decode cX2_keepIfLess 5 = .ok (.aload_n 0, 1) := by decide +kernel
theorem dX2_keepIfLess_6 : decode cX2_keepIfLess 6 = .ok (.getfield 15, 3) := by decide +kernel
theorem dX2_keepIfLess_9 : decode cX2_keepIfLess 9 = .ok (.iload_n 1, 1) := by decide +kernel
theorem dX2_keepIfLess_10 : decode cX2_keepIfLess 10 = .ok (.invokestatic 55, 3) := by decide +kernel
theorem dX2_keepIfLess_13 : decode cX2_keepIfLess 13 = .ok (.if_icmp .gt 23, 3) := by decide +kernel
theorem dX2_keepIfLess_16 : decode cX2_keepIfLess 16 = .ok (.iload_n 2, 1) := by decide +kernel
theorem dX2_keepIfLess_17 : decode cX2_keepIfLess 17 = .ok (.aload_n 0, 1) := by decide +kernel
theorem dX2_keepIfLess_18 : decode cX2_keepIfLess 18 = .ok (.getfield 9, 3) := by decide +kernel
theorem dX2_keepIfLess_21 : decode cX2_keepIfLess 21 = .ok (.aload_n 0, 1) := by decide +kernel
theorem dX2_keepIfLess_22 : decode cX2_keepIfLess 22 = .ok (.iload_n 3, 1) := by decide +kernel
theorem dX2_keepIfLess_23 : decode cX2_keepIfLess 23 = .ok (.iload_n 1, 1) := by decide +kernel
theorem dX2_keepIfLess_24 : decode cX2_keepIfLess 24 = .ok (.invokevirtual 66, 3) := by decide +kernel
theorem dX2_keepIfLess_27 : decode cX2_keepIfLess 27 = .ok (.iaload, 1) := by decide +kernel
theorem dX2_keepIfLess_28 : decode cX2_keepIfLess 28 = .ok (.iadd, 1) := by decide +kernel
theorem dX2_keepIfLess_29 : decode cX2_keepIfLess 29 = .ok (.istore_n 2, 1) := by decide +kernel
theorem dX2_keepIfLess_30 : decode cX2_keepIfLess 30 = .ok (.iinc 3 1, 3) := by decide +kernel
theorem dX2_keepIfLess_33 : decode cX2_keepIfLess 33 = .ok (.goto (-29), 3) := by decide +kernel
theorem dX2_keepIfLess_36 : decode cX2_keepIfLess 36 = .ok (.iload_n 2, 1) := by decide +kernel
theorem dX2_keepIfLess_37 : decode cX2_keepIfLess 37 = .ok (.aload_n 0, 1) := by decide +kernel
theorem dX2_keepIfLess_38 : decode cX2_keepIfLess 38 = .ok (.getfield 44, 3) := by decide +kernel
theorem dX2_keepIfLess_41 : decode cX2_keepIfLess 41 = .ok (.if_icmp .ge 33, 3) := by decide +kernel
theorem dX2_keepIfLess_44 : decode cX2_keepIfLess 44 = .ok (.aload_n 0, 1) := by decide +kernel
theorem dX2_keepIfLess_45 : decode cX2_keepIfLess 45 = .ok (.iload_n 2, 1) := by decide +kernel
theorem dX2_keepIfLess_46 : decode cX2_keepIfLess 46 = .ok (.putfield 44, 3) := by decide +kernel
theorem dX2_keepIfLess_49 : decode cX2_keepIfLess 49 = .ok (.iconst 0, 1) := by decide +kernel
theorem dX2_keepIfLess_50 : decode cX2_keepIfLess 50 = .ok (.istore_n 3, 1) := by decide +kernel
theorem dX2_keepIfLess_51 : decode cX2_keepIfLess 51 = .ok (.iload_n 3, 1) := by decide +kernel
theorem dX2_keepIfLess_52 : decode cX2_keepIfLess 52 = .ok (.iload_n 1, 1) := by decide +kernel
theorem dX2_keepIfLess_53 : decode cX2_keepIfLess 53 = .ok (.if_icmp .ge 21, 3) := by decide +kernel
theorem dX2_keepIfLess_56 : decode cX2_keepIfLess 56 = .ok (.aload_n 0, 1) := by decide +kernel
theorem dX2_keepIfLess_57 : decode cX2_keepIfLess 57 = .ok (.getfield 18, 3) := by decide +kernel
theorem dX2_keepIfLess_60 : decode cX2_keepIfLess 60 = .ok (.iload_n 3, 1) := by decide +kernel
theorem dX2_keepIfLess_61 : decode cX2_keepIfLess 61 = .ok (.aload_n 0, 1) := by decide +kernel
theorem dX2_keepIfLess_62 : decode cX2_keepIfLess 62 = .ok (.getfield 15, 3) := by decide +kernel
theorem dX2_keepIfLess_65 : decode cX2_keepIfLess 65 = .ok (.iload_n 3, 1) := by decide +kernel
theorem dX2_keepIfLess_66 : decode cX2_keepIfLess 66 = .ok (.iaload, 1) := by decide +kernel
theorem dX2_keepIfLess_67 : decode cX2_keepIfLess 67 = .ok (.iastore, 1) := by decide +kernel
theorem dX2_keepIfLess_68 : decode cX2_keepIfLess 68 = .ok (.iinc 3 1, 3) := by decide +kernel
theorem dX2_keepIfLess_71 : decode cX2_keepIfLess 71 = .ok (.goto (-20), 3) := by decide +kernel
theorem dX2_keepIfLess_74 : decode cX2_keepIfLess 74 = .ok (.return_, 1) := by decide +kernel
theorem dX2_buildsIn_0 : decode cX2_buildsIn 0 = .ok (.iconst 0, 1) := by decide +kernel
theorem dX2_buildsIn_1 : decode cX2_buildsIn 1 = .ok (.istore_n 3, 1) := by decide +kernel
theorem dX2_buildsIn_2 : decode cX2_buildsIn 2 = .ok (.iconst 0, 1) := by decide +kernel
theorem dX2_buildsIn_3 : decode cX2_buildsIn 3 = .ok (.istore 4, 2) := by decide +kernel
theorem dX2_buildsIn_5 : decode cX2_buildsIn 5 = .ok (.iload 4, 2) := by decide +kernel
theorem dX2_buildsIn_7 : decode cX2_buildsIn 7 = .ok (.iload_n 2, 1) := by decide +kernel
theorem dX2_buildsIn_8 : decode cX2_buildsIn 8 = .ok (.if_icmp .ge 27, 3) := by decide +kernel
theorem dX2_buildsIn_11 : decode cX2_buildsIn 11 = .ok (.aload_n 0, 1) := by decide +kernel
theorem dX2_buildsIn_12 : decode cX2_buildsIn 12 = .ok (.getfield 15, 3) := by decide +kernel
theorem dX2_buildsIn_15 : decode cX2_buildsIn 15 = .ok (.iload 4, 2) := by decide +kernel
theorem dX2_buildsIn_17 : decode cX2_buildsIn 17 = .ok (.iaload, 1) := by decide +kernel
theorem dX2_buildsIn_18 : decode cX2_buildsIn 18 = .ok (.iload_n 1, 1) := by decide +kernel
theorem dX2_buildsIn_19 : decode cX2_buildsIn 19 = .ok (.if_icmp .ne 10, 3) := by decide +kernel
theorem dX2_buildsIn_22 : decode cX2_buildsIn 22 = .ok (.iload_n 3, 1) := by decide +kernel
theorem dX2_buildsIn_23 : decode cX2_buildsIn 23 = .ok (.iconst 1, 1) := by decide +kernel
theorem dX2_buildsIn_24 : decode cX2_buildsIn 24 = .ok (.iload 4, 2) := by decide +kernel
theorem dX2_buildsIn_26 : decode cX2_buildsIn 26 = .ok (.ishl, 1) := by decide +kernel
theorem dX2_buildsIn_27 : decode cX2_buildsIn 27 = .ok (.ior, 1) := by decide +kernel
theorem dX2_buildsIn_28 : decode cX2_buildsIn 28 = .ok (.istore_n 3, 1) := by decide +kernel
theorem dX2_buildsIn_29 : decode cX2_buildsIn 29 = .ok (.iinc 4 1, 3) := by decide +kernel
theorem dX2_buildsIn_32 : decode cX2_buildsIn 32 = .ok (.goto (-27), 3) := by decide +kernel
theorem dX2_buildsIn_35 : decode cX2_buildsIn 35 = .ok (.iload_n 3, 1) := by decide +kernel
theorem dX2_buildsIn_36 : decode cX2_buildsIn 36 = .ok (.ireturn, 1) := by decide +kernel
theorem dX2_nextRow_0 : decode cX2_nextRow 0 = .ok (.iload_n 1, 1) := by decide +kernel
theorem dX2_nextRow_1 : decode cX2_nextRow 1 = .ok (.iconst 1, 1) := by decide +kernel
theorem dX2_nextRow_2 : decode cX2_nextRow 2 = .ok (.isub, 1) := by decide +kernel
theorem dX2_nextRow_3 : decode cX2_nextRow 3 = .ok (.istore_n 3, 1) := by decide +kernel
theorem dX2_nextRow_4 : decode cX2_nextRow 4 = .ok (.iload_n 3, 1) := by decide +kernel
theorem dX2_nextRow_5 : decode cX2_nextRow 5 = .ok (.ifCond .le 75, 3) := by decide +kernel
theorem dX2_nextRow_8 : decode cX2_nextRow 8 = .ok (.aload_n 0, 1) := by decide +kernel
theorem dX2_nextRow_9 : decode cX2_nextRow 9 = .ok (.getfield 15, 3) := by decide +kernel
theorem dX2_nextRow_12 : decode cX2_nextRow 12 = .ok (.iload_n 3, 1) := by decide +kernel
theorem dX2_nextRow_13 : decode cX2_nextRow 13 = .ok (.invokestatic 55, 3) := by decide +kernel
theorem dX2_nextRow_16 : decode cX2_nextRow 16 = .ok (.iconst 1, 1) := by decide +kernel
theorem dX2_nextRow_17 : decode cX2_nextRow 17 = .ok (.iadd, 1) := by decide +kernel
theorem dX2_nextRow_18 : decode cX2_nextRow 18 = .ok (.iload_n 2, 1) := by decide +kernel
theorem dX2_nextRow_19 : decode cX2_nextRow 19 = .ok (.iconst 1, 1) := by decide +kernel
theorem dX2_nextRow_20 : decode cX2_nextRow 20 = .ok (.isub, 1) := by decide +kernel
theorem dX2_nextRow_21 : decode cX2_nextRow 21 = .ok (.invokestatic 70, 3) := by decide +kernel
theorem dX2_nextRow_24 : decode cX2_nextRow 24 = .ok (.istore 4, 2) := by decide +kernel
theorem dX2_nextRow_26 : decode cX2_nextRow 26 = .ok (.aload_n 0, 1) := by decide +kernel
theorem dX2_nextRow_27 : decode cX2_nextRow 27 = .ok (.getfield 15, 3) := by decide +kernel
theorem dX2_nextRow_30 : decode cX2_nextRow 30 = .ok (.iload_n 3, 1) := by decide +kernel
theorem dX2_nextRow_31 : decode cX2_nextRow 31 = .ok (.iaload, 1) := by decide +kernel
theorem dX2_nextRow_32 : decode cX2_nextRow 32 = .ok (.iload 4, 2) := by decide +kernel
theorem dX2_nextRow_34 : decode cX2_nextRow 34 = .ok (.if_icmp .ge 40, 3) := by decide +kernel
theorem dX2_nextRow_37 : decode cX2_nextRow 37 = .ok (.aload_n 0, 1) := by decide +kernel
theorem dX2_nextRow_38 : decode cX2_nextRow 38 = .ok (.getfield 15, 3) := by decide +kernel
theorem dX2_nextRow_41 : decode cX2_nextRow 41 = .ok (.iload_n 3, 1) := by decide +kernel
theorem dX2_nextRow_42 : decode cX2_nextRow 42 = .ok (.dup2, 1) := by decide +kernel
theorem dX2_nextRow_43 : decode cX2_nextRow 43 = .ok (.iaload, 1) := by decide +kernel
theorem dX2_nextRow_44 : decode cX2_nextRow 44 = .ok (.iconst 1, 1) := by decide +kernel
theorem dX2_nextRow_45 : decode cX2_nextRow 45 = .ok (.iadd, 1) := by decide +kernel
theorem dX2_nextRow_46 : decode cX2_nextRow 46 = .ok (.iastore, 1) := by decide +kernel
theorem dX2_nextRow_47 : decode cX2_nextRow 47 = .ok (.iload_n 3, 1) := by decide +kernel
theorem dX2_nextRow_48 : decode cX2_nextRow 48 = .ok (.iconst 1, 1) := by decide +kernel
theorem dX2_nextRow_49 : decode cX2_nextRow 49 = .ok (.iadd, 1) := by decide +kernel
theorem dX2_nextRow_50 : decode cX2_nextRow 50 = .ok (.istore 5, 2) := by decide +kernel
theorem dX2_nextRow_52 : decode cX2_nextRow 52 = .ok (.iload 5, 2) := by decide +kernel
theorem dX2_nextRow_54 : decode cX2_nextRow 54 = .ok (.iload_n 1, 1) := by decide +kernel
theorem dX2_nextRow_55 : decode cX2_nextRow 55 = .ok (.if_icmp .ge 17, 3) := by decide +kernel
theorem dX2_nextRow_58 : decode cX2_nextRow 58 = .ok (.aload_n 0, 1) := by decide +kernel
theorem dX2_nextRow_59 : decode cX2_nextRow 59 = .ok (.getfield 15, 3) := by decide +kernel
theorem dX2_nextRow_62 : decode cX2_nextRow 62 = .ok (.iload 5, 2) := by decide +kernel
theorem dX2_nextRow_64 : decode cX2_nextRow 64 = .ok (.iconst 0, 1) := by decide +kernel
theorem dX2_nextRow_65 : decode cX2_nextRow 65 = .ok (.iastore, 1) := by decide +kernel
theorem dX2_nextRow_66 : decode cX2_nextRow 66 = .ok (.iinc 5 1, 3) := by decide +kernel
theorem dX2_nextRow_69 : decode cX2_nextRow 69 = .ok (.goto (-17), 3) := by decide +kernel
theorem dX2_nextRow_72 : decode cX2_nextRow 72 = .ok (.iconst 1, 1) := by decide +kernel
theorem dX2_nextRow_73 : decode cX2_nextRow 73 = .ok (.ireturn, 1) := by decide +kernel
theorem dX2_nextRow_74 : decode cX2_nextRow 74 = .ok (.iinc 3 (-1), 3) := by decide +kernel
theorem dX2_nextRow_77 : decode cX2_nextRow 77 = .ok (.goto (-73), 3) := by decide +kernel
theorem dX2_nextRow_80 : decode cX2_nextRow 80 = .ok (.iconst 0, 1) := by decide +kernel
theorem dX2_nextRow_81 : decode cX2_nextRow 81 = .ok (.ireturn, 1) := by decide +kernel
theorem dX2_greatest_0 : decode cX2_greatest 0 = .ok (.iconst 0, 1) := by decide +kernel
theorem dX2_greatest_1 : decode cX2_greatest 1 = .ok (.istore_n 2, 1) := by decide +kernel
theorem dX2_greatest_2 : decode cX2_greatest 2 = .ok (.iconst 0, 1) := by decide +kernel
theorem dX2_greatest_3 : decode cX2_greatest 3 = .ok (.istore_n 3, 1) := by decide +kernel
theorem dX2_greatest_4 : decode cX2_greatest 4 = .ok (.iload_n 3, 1) := by decide +kernel
theorem dX2_greatest_5 : decode cX2_greatest 5 = .ok (.iload_n 1, 1) := by decide +kernel
theorem dX2_greatest_6 : decode cX2_greatest 6 = .ok (.if_icmp .ge 17, 3) := by decide +kernel
theorem dX2_greatest_9 : decode cX2_greatest 9 = .ok (.iload_n 2, 1) := by decide +kernel
theorem dX2_greatest_10 : decode cX2_greatest 10 = .ok (.aload_n 0, 1) := by decide +kernel
theorem dX2_greatest_11 : decode cX2_greatest 11 = .ok (.iload_n 3, 1) := by decide +kernel
theorem dX2_greatest_12 : decode cX2_greatest 12 = .ok (.iaload, 1) := by decide +kernel
theorem dX2_greatest_13 : decode cX2_greatest 13 = .ok (.invokestatic 75, 3) := by decide +kernel
theorem dX2_greatest_16 : decode cX2_greatest 16 = .ok (.istore_n 2, 1) := by decide +kernel
theorem dX2_greatest_17 : decode cX2_greatest 17 = .ok (.iinc 3 1, 3) := by decide +kernel
theorem dX2_greatest_20 : decode cX2_greatest 20 = .ok (.goto (-16), 3) := by decide +kernel
theorem dX2_greatest_23 : decode cX2_greatest 23 = .ok (.iload_n 2, 1) := by decide +kernel
theorem dX2_greatest_24 : decode cX2_greatest 24 = .ok (.ireturn, 1) := by decide +kernel
theorem dX2_pinsFor_0 : decode cX2_pinsFor 0 = .ok (.iconst 0, 1) := by decide +kernel
theorem dX2_pinsFor_1 : decode cX2_pinsFor 1 = .ok (.istore_n 3, 1) := by decide +kernel
theorem dX2_pinsFor_2 : decode cX2_pinsFor 2 = .ok (.iconst 0, 1) := by decide +kernel
theorem dX2_pinsFor_3 : decode cX2_pinsFor 3 = .ok (.istore 4, 2) := by decide +kernel
theorem dX2_pinsFor_5 : decode cX2_pinsFor 5 = .ok (.iload 4, 2) := by decide +kernel
theorem dX2_pinsFor_7 : decode cX2_pinsFor 7 = .ok (.aload_n 0, 1) := by decide +kernel
theorem dX2_pinsFor_8 : decode cX2_pinsFor 8 = .ok (.getfield 21, 3) := by decide +kernel
theorem dX2_pinsFor_11 : decode cX2_pinsFor 11 = .ok (.getfield 27, 3) := by decide +kernel
theorem dX2_pinsFor_14 : decode cX2_pinsFor 14 = .ok (.if_icmp .ge 52, 3) := by decide +kernel
theorem dX2_pinsFor_17 : decode cX2_pinsFor 17 = .ok (.iload_n 1, 1) := by decide +kernel
theorem dX2_pinsFor_18 : decode cX2_pinsFor 18 = .ok (.iload 4, 2) := by decide +kernel
theorem dX2_pinsFor_20 : decode cX2_pinsFor 20 = .ok (.invokestatic 78, 3) := by decide +kernel
theorem dX2_pinsFor_23 : decode cX2_pinsFor 23 = .ok (.ifCond .eq 37, 3) := by decide +kernel
theorem dX2_pinsFor_26 : decode cX2_pinsFor 26 = .ok (.aload_n 0, 1) := by decide +kernel
theorem dX2_pinsFor_27 : decode cX2_pinsFor 27 = .ok (.aload_n 0, 1) := by decide +kernel
theorem dX2_pinsFor_28 : decode cX2_pinsFor 28 = .ok (.getfield 21, 3) := by decide +kernel
theorem dX2_pinsFor_31 : decode cX2_pinsFor 31 = .ok (.getfield 83, 3) := by decide +kernel
theorem dX2_pinsFor_34 : decode cX2_pinsFor 34 = .ok (.iload 4, 2) := by decide +kernel
theorem dX2_pinsFor_36 : decode cX2_pinsFor 36 = .ok (.iaload, 1) := by decide +kernel
theorem dX2_pinsFor_37 : decode cX2_pinsFor 37 = .ok (.iload_n 2, 1) := by decide +kernel
theorem dX2_pinsFor_38 : decode cX2_pinsFor 38 = .ok (.invokestatic 86, 3) := by decide +kernel
theorem dX2_pinsFor_41 : decode cX2_pinsFor 41 = .ok (.istore 5, 2) := by decide +kernel
theorem dX2_pinsFor_43 : decode cX2_pinsFor 43 = .ok (.iload_n 3, 1) := by decide +kernel
theorem dX2_pinsFor_44 : decode cX2_pinsFor 44 = .ok (.iload 5, 2) := by decide +kernel
theorem dX2_pinsFor_46 : decode cX2_pinsFor 46 = .ok (.invokestatic 90, 3) := by decide +kernel
theorem dX2_pinsFor_49 : decode cX2_pinsFor 49 = .ok (.ifCond .le 8, 3) := by decide +kernel
theorem dX2_pinsFor_52 : decode cX2_pinsFor 52 = .ok (.iload 5, 2) := by decide +kernel
theorem dX2_pinsFor_54 : decode cX2_pinsFor 54 = .ok (.goto 4, 3) := by decide +kernel
theorem dX2_pinsFor_57 : decode cX2_pinsFor 57 = .ok (.iconst 0, 1) := by decide +kernel
theorem dX2_pinsFor_58 : decode cX2_pinsFor 58 = .ok (.ior, 1) := by decide +kernel
theorem dX2_pinsFor_59 : decode cX2_pinsFor 59 = .ok (.istore_n 3, 1) := by decide +kernel
theorem dX2_pinsFor_60 : decode cX2_pinsFor 60 = .ok (.iinc 4 1, 3) := by decide +kernel
theorem dX2_pinsFor_63 : decode cX2_pinsFor 63 = .ok (.goto (-58), 3) := by decide +kernel
theorem dX2_pinsFor_66 : decode cX2_pinsFor 66 = .ok (.iload_n 3, 1) := by decide +kernel
theorem dX2_pinsFor_67 : decode cX2_pinsFor 67 = .ok (.ireturn, 1) := by decide +kernel
theorem dX2_lengthFor_0 : decode cX2_lengthFor 0 = .ok (.iconst 0, 1) := by decide +kernel
theorem dX2_lengthFor_1 : decode cX2_lengthFor 1 = .ok (.istore_n 2, 1) := by decide +kernel
theorem dX2_lengthFor_2 : decode cX2_lengthFor 2 = .ok (.iconst 0, 1) := by decide +kernel
theorem dX2_lengthFor_3 : decode cX2_lengthFor 3 = .ok (.istore_n 3, 1) := by decide +kernel
theorem dX2_lengthFor_4 : decode cX2_lengthFor 4 = .ok (.iload_n 3, 1) := by decide +kernel
theorem dX2_lengthFor_5 : decode cX2_lengthFor 5 = .ok (.aload_n 0, 1) := by decide +kernel
theorem dX2_lengthFor_6 : decode cX2_lengthFor 6 = .ok (.getfield 94, 3) := by decide +kernel
theorem dX2_lengthFor_9 : decode cX2_lengthFor 9 = .ok (.getfield 98, 3) := by decide +kernel
theorem dX2_lengthFor_12 : decode cX2_lengthFor 12 = .ok (.if_icmp .ge 23, 3) := by decide +kernel
theorem dX2_lengthFor_15 : decode cX2_lengthFor 15 = .ok (.iload_n 2, 1) := by decide +kernel
theorem dX2_lengthFor_16 : decode cX2_lengthFor 16 = .ok (.aload_n 0, 1) := by decide +kernel
theorem dX2_lengthFor_17 : decode cX2_lengthFor 17 = .ok (.iload_n 3, 1) := by decide +kernel
theorem dX2_lengthFor_18 : decode cX2_lengthFor 18 = .ok (.aload_n 0, 1) := by decide +kernel
theorem dX2_lengthFor_19 : decode cX2_lengthFor 19 = .ok (.iload_n 1, 1) := by decide +kernel
theorem dX2_lengthFor_20 : decode cX2_lengthFor 20 = .ok (.iload_n 3, 1) := by decide +kernel
theorem dX2_lengthFor_21 : decode cX2_lengthFor 21 = .ok (.invokestatic 101, 3) := by decide +kernel
theorem dX2_lengthFor_24 : decode cX2_lengthFor 24 = .ok (.invokestatic 104, 3) := by decide +kernel
theorem dX2_lengthFor_27 : decode cX2_lengthFor 27 = .ok (.iadd, 1) := by decide +kernel
theorem dX2_lengthFor_28 : decode cX2_lengthFor 28 = .ok (.istore_n 2, 1) := by decide +kernel
theorem dX2_lengthFor_29 : decode cX2_lengthFor 29 = .ok (.iinc 3 1, 3) := by decide +kernel
theorem dX2_lengthFor_32 : decode cX2_lengthFor 32 = .ok (.goto (-28), 3) := by decide +kernel
theorem dX2_lengthFor_35 : decode cX2_lengthFor 35 = .ok (.iload_n 2, 1) := by decide +kernel
theorem dX2_lengthFor_36 : decode cX2_lengthFor 36 = .ok (.ireturn, 1) := by decide +kernel
theorem dX2_givenBy_0 : decode cX2_givenBy 0 = .ok (.aload_n 0, 1) := by decide +kernel
theorem dX2_givenBy_1 : decode cX2_givenBy 1 = .ok (.iload_n 1, 1) := by decide +kernel
theorem dX2_givenBy_2 : decode cX2_givenBy 2 = .ok (.invokestatic 59, 3) := by decide +kernel
theorem dX2_givenBy_5 : decode cX2_givenBy 5 = .ok (.istore_n 2, 1) := by decide +kernel
theorem dX2_givenBy_6 : decode cX2_givenBy 6 = .ok (.iconst 0, 1) := by decide +kernel
theorem dX2_givenBy_7 : decode cX2_givenBy 7 = .ok (.istore_n 3, 1) := by decide +kernel
theorem dX2_givenBy_8 : decode cX2_givenBy 8 = .ok (.iconst 0, 1) := by decide +kernel
theorem dX2_givenBy_9 : decode cX2_givenBy 9 = .ok (.istore 4, 2) := by decide +kernel
theorem dX2_givenBy_11 : decode cX2_givenBy 11 = .ok (.iload 4, 2) := by decide +kernel
theorem dX2_givenBy_13 : decode cX2_givenBy 13 = .ok (.aload_n 0, 1) := by decide +kernel
theorem dX2_givenBy_14 : decode cX2_givenBy 14 = .ok (.getfield 21, 3) := by decide +kernel
theorem dX2_givenBy_17 : decode cX2_givenBy 17 = .ok (.getfield 27, 3) := by decide +kernel
theorem dX2_givenBy_20 : decode cX2_givenBy 20 = .ok (.if_icmp .ge 42, 3) := by decide +kernel
theorem dX2_givenBy_23 : decode cX2_givenBy 23 = .ok (.iload_n 1, 1) := by decide +kernel
theorem dX2_givenBy_24 : decode cX2_givenBy 24 = .ok (.iload 4, 2) := by decide +kernel
theorem dX2_givenBy_26 : decode cX2_givenBy 26 = .ok (.invokestatic 78, 3) := by decide +kernel
theorem dX2_givenBy_29 : decode cX2_givenBy 29 = .ok (.ifCond .eq 27, 3) := by decide +kernel
theorem dX2_givenBy_32 : decode cX2_givenBy 32 = .ok (.iload_n 3, 1) := by decide +kernel
theorem dX2_givenBy_33 : decode cX2_givenBy 33 = .ok (.iload_n 2, 1) := by decide +kernel
theorem dX2_givenBy_34 : decode cX2_givenBy 34 = .ok (.aload_n 0, 1) := by decide +kernel
theorem dX2_givenBy_35 : decode cX2_givenBy 35 = .ok (.iconst 1, 1) := by decide +kernel
theorem dX2_givenBy_36 : decode cX2_givenBy 36 = .ok (.iload 4, 2) := by decide +kernel
theorem dX2_givenBy_38 : decode cX2_givenBy 38 = .ok (.ishl, 1) := by decide +kernel
theorem dX2_givenBy_39 : decode cX2_givenBy 39 = .ok (.invokestatic 59, 3) := by decide +kernel
theorem dX2_givenBy_42 : decode cX2_givenBy 42 = .ok (.isub, 1) := by decide +kernel
theorem dX2_givenBy_43 : decode cX2_givenBy 43 = .ok (.aload_n 0, 1) := by decide +kernel
theorem dX2_givenBy_44 : decode cX2_givenBy 44 = .ok (.getfield 21, 3) := by decide +kernel
theorem dX2_givenBy_47 : decode cX2_givenBy 47 = .ok (.getfield 107, 3) := by decide +kernel
theorem dX2_givenBy_50 : decode cX2_givenBy 50 = .ok (.iload 4, 2) := by decide +kernel
theorem dX2_givenBy_52 : decode cX2_givenBy 52 = .ok (.iaload, 1) := by decide +kernel
theorem dX2_givenBy_53 : decode cX2_givenBy 53 = .ok (.imul, 1) := by decide +kernel
theorem dX2_givenBy_54 : decode cX2_givenBy 54 = .ok (.iadd, 1) := by decide +kernel
theorem dX2_givenBy_55 : decode cX2_givenBy 55 = .ok (.istore_n 3, 1) := by decide +kernel
theorem dX2_givenBy_56 : decode cX2_givenBy 56 = .ok (.iinc 4 1, 3) := by decide +kernel
theorem dX2_givenBy_59 : decode cX2_givenBy 59 = .ok (.goto (-48), 3) := by decide +kernel
theorem dX2_givenBy_62 : decode cX2_givenBy 62 = .ok (.iload_n 3, 1) := by decide +kernel
theorem dX2_givenBy_63 : decode cX2_givenBy 63 = .ok (.ireturn, 1) := by decide +kernel
theorem dX2_harnessesOf_0 : decode cX2_harnessesOf 0 = .ok (.iconst 0, 1) := by decide +kernel
theorem dX2_harnessesOf_1 : decode cX2_harnessesOf 1 = .ok (.istore_n 2, 1) := by decide +kernel
theorem dX2_harnessesOf_2 : decode cX2_harnessesOf 2 = .ok (.iconst 0, 1) := by decide +kernel
theorem dX2_harnessesOf_3 : decode cX2_harnessesOf 3 = .ok (.istore_n 3, 1) := by decide +kernel
theorem dX2_harnessesOf_4 : decode cX2_harnessesOf 4 = .ok (.iload_n 3, 1) := by decide +kernel
theorem dX2_harnessesOf_5 : decode cX2_harnessesOf 5 = .ok (.aload_n 0, 1) := by decide +kernel
theorem dX2_harnessesOf_6 : decode cX2_harnessesOf 6 = .ok (.getfield 21, 3) := by decide +kernel
theorem dX2_harnessesOf_9 : decode cX2_harnessesOf 9 = .ok (.getfield 27, 3) := by decide +kernel
theorem dX2_harnessesOf_12 : decode cX2_harnessesOf 12 = .ok (.if_icmp .ge 29, 3) := by decide +kernel
theorem dX2_harnessesOf_15 : decode cX2_harnessesOf 15 = .ok (.iload_n 1, 1) := by decide +kernel
theorem dX2_harnessesOf_16 : decode cX2_harnessesOf 16 = .ok (.iload_n 3, 1) := by decide +kernel
theorem dX2_harnessesOf_17 : decode cX2_harnessesOf 17 = .ok (.invokestatic 78, 3) := by decide +kernel
theorem dX2_harnessesOf_20 : decode cX2_harnessesOf 20 = .ok (.ifCond .eq 15, 3) := by decide +kernel
theorem dX2_harnessesOf_23 : decode cX2_harnessesOf 23 = .ok (.iload_n 2, 1) := by decide +kernel
theorem dX2_harnessesOf_24 : decode cX2_harnessesOf 24 = .ok (.aload_n 0, 1) := by decide +kernel
theorem dX2_harnessesOf_25 : decode cX2_harnessesOf 25 = .ok (.getfield 21, 3) := by decide +kernel
theorem dX2_harnessesOf_28 : decode cX2_harnessesOf 28 = .ok (.getfield 107, 3) := by decide +kernel
theorem dX2_harnessesOf_31 : decode cX2_harnessesOf 31 = .ok (.iload_n 3, 1) := by decide +kernel
theorem dX2_harnessesOf_32 : decode cX2_harnessesOf 32 = .ok (.iaload, 1) := by decide +kernel
theorem dX2_harnessesOf_33 : decode cX2_harnessesOf 33 = .ok (.iadd, 1) := by decide +kernel
theorem dX2_harnessesOf_34 : decode cX2_harnessesOf 34 = .ok (.istore_n 2, 1) := by decide +kernel
theorem dX2_harnessesOf_35 : decode cX2_harnessesOf 35 = .ok (.iinc 3 1, 3) := by decide +kernel
theorem dX2_harnessesOf_38 : decode cX2_harnessesOf 38 = .ok (.goto (-34), 3) := by decide +kernel
theorem dX2_harnessesOf_41 : decode cX2_harnessesOf 41 = .ok (.iload_n 2, 1) := by decide +kernel
theorem dX2_harnessesOf_42 : decode cX2_harnessesOf 42 = .ok (.ireturn, 1) := by decide +kernel
theorem dX2_isUsed_0 : decode cX2_isUsed 0 = .ok (.aload_n 0, 1) := by decide +kernel
theorem dX2_isUsed_1 : decode cX2_isUsed 1 = .ok (.iconst 1, 1) := by decide +kernel
theorem dX2_isUsed_2 : decode cX2_isUsed 2 = .ok (.aload_n 0, 1) := by decide +kernel
theorem dX2_isUsed_3 : decode cX2_isUsed 3 = .ok (.getfield 21, 3) := by decide +kernel
theorem dX2_isUsed_6 : decode cX2_isUsed 6 = .ok (.getfield 27, 3) := by decide +kernel
theorem dX2_isUsed_9 : decode cX2_isUsed 9 = .ok (.ishl, 1) := by decide +kernel
theorem dX2_isUsed_10 : decode cX2_isUsed 10 = .ok (.iconst 1, 1) := by decide +kernel
theorem dX2_isUsed_11 : decode cX2_isUsed 11 = .ok (.isub, 1) := by decide +kernel
theorem dX2_isUsed_12 : decode cX2_isUsed 12 = .ok (.iload_n 1, 1) := by decide +kernel
theorem dX2_isUsed_13 : decode cX2_isUsed 13 = .ok (.invokestatic 101, 3) := by decide +kernel
theorem dX2_isUsed_16 : decode cX2_isUsed 16 = .ok (.ifCond .eq 7, 3) := by decide +kernel
theorem dX2_isUsed_19 : decode cX2_isUsed 19 = .ok (.iconst 1, 1) := by decide +kernel
theorem dX2_isUsed_20 : decode cX2_isUsed 20 = .ok (.goto 4, 3) := by decide +kernel
theorem dX2_isUsed_23 : decode cX2_isUsed 23 = .ok (.iconst 0, 1) := by decide +kernel
theorem dX2_isUsed_24 : decode cX2_isUsed 24 = .ok (.ireturn, 1) := by decide +kernel
theorem dX3_init_0 : decode cX3_init 0 = .ok (.aload_n 0, 1) := by decide +kernel
theorem dX3_init_1 : decode cX3_init 1 = .ok (.invokespecial 3, 3) := by decide +kernel
theorem dX3_init_4 : decode cX3_init 4 = .ok (.aload_n 0, 1) := by decide +kernel
theorem dX3_init_5 : decode cX3_init 5 = .ok (.sipush 800, 3) := by decide +kernel
theorem dX3_init_8 : decode cX3_init 8 = .ok (.newarray .int, 2) := by decide +kernel
theorem dX3_init_10 : decode cX3_init 10 = .ok (.putfield 11, 3) := by decide +kernel
theorem dX3_init_13 : decode cX3_init 13 = .ok (.aload_n 0, 1) := by decide +kernel
theorem dX3_init_14 : decode cX3_init 14 = .ok (.bipush 10, 2) := by decide +kernel
theorem dX3_init_16 : decode cX3_init 16 = .ok (.newarray .int, 2) := by decide +kernel
theorem dX3_init_18 : decode cX3_init 18 = .ok (.putfield 15, 3) := by decide +kernel
theorem dX3_init_21 : decode cX3_init 21 = .ok (.return_, 1) := by decide +kernel
theorem dX3_list_0 : decode cX3_list 0 = .ok (.aload_n 0, 1) := by decide +kernel
theorem dX3_list_1 : decode cX3_list 1 = .ok (.iconst 0, 1) := by decide +kernel
theorem dX3_list_2 : decode cX3_list 2 = .ok (.putfield 18, 3) := by decide +kernel
theorem dX3_list_5 : decode cX3_list 5 = .ok (.iconst 0, 1) := by decide +kernel
theorem dX3_list_6 : decode cX3_list 6 = .ok (.istore_n 3, 1) := by decide +kernel
theorem dX3_list_7 : decode cX3_list 7 = .ok (.iload_n 3, 1) := by decide +kernel
theorem dX3_list_8 : decode cX3_list 8 = .ok (.aload_n 1, 1) := by decide +kernel
theorem dX3_list_9 : decode cX3_list 9 = .ok (.getfield 22, 3) := by decide +kernel
theorem dX3_list_12 : decode cX3_list 12 = .ok (.getfield 28, 3) := by decide +kernel
theorem dX3_list_15 : decode cX3_list 15 = .ok (.if_icmp .ge 21, 3) := by decide +kernel
theorem dX3_list_18 : decode cX3_list 18 = .ok (.aload_n 0, 1) := by decide +kernel
theorem dX3_list_19 : decode cX3_list 19 = .ok (.getfield 15, 3) := by decide +kernel
theorem dX3_list_22 : decode cX3_list 22 = .ok (.iload_n 3, 1) := by decide +kernel
theorem dX3_list_23 : decode cX3_list 23 = .ok (.aload_n 1, 1) := by decide +kernel
theorem dX3_list_24 : decode cX3_list 24 = .ok (.iload_n 2, 1) := by decide +kernel
theorem dX3_list_25 : decode cX3_list 25 = .ok (.iload_n 3, 1) := by decide +kernel
theorem dX3_list_26 : decode cX3_list 26 = .ok (.invokestatic 31, 3) := by decide +kernel
theorem dX3_list_29 : decode cX3_list 29 = .ok (.iastore, 1) := by decide +kernel
theorem dX3_list_30 : decode cX3_list 30 = .ok (.iinc 3 1, 3) := by decide +kernel
theorem dX3_list_33 : decode cX3_list 33 = .ok (.goto (-26), 3) := by decide +kernel
theorem dX3_list_36 : decode cX3_list 36 = .ok (.iconst 0, 1) := by decide +kernel
theorem dX3_list_37 : decode cX3_list 37 = .ok (.istore_n 3, 1) := by decide +kernel
theorem dX3_list_38 : decode cX3_list 38 = .ok (.iload_n 3, 1) := by decide +kernel
theorem dX3_list_39 : decode cX3_list 39 = .ok (.aload_n 1, 1) := by decide +kernel
theorem dX3_list_40 : decode cX3_list 40 = .ok (.getfield 22, 3) := by decide +kernel
theorem dX3_list_43 : decode cX3_list 43 = .ok (.getfield 28, 3) := by decide +kernel
theorem dX3_list_46 : decode cX3_list 46 = .ok (.if_icmp .ge 54, 3) := by decide +kernel
theorem dX3_list_49 : decode cX3_list 49 = .ok (.iconst 0, 1) := by decide +kernel
theorem dX3_list_50 : decode cX3_list 50 = .ok (.istore 4, 2) := by decide +kernel
theorem dX3_list_52 : decode cX3_list 52 = .ok (.iload 4, 2) := by decide +kernel
theorem dX3_list_54 : decode cX3_list 54 = .ok (.aload_n 1, 1) := by decide +kernel
theorem dX3_list_55 : decode cX3_list 55 = .ok (.getfield 22, 3) := by decide +kernel
theorem dX3_list_58 : decode cX3_list 58 = .ok (.getfield 37, 3) := by decide +kernel
theorem dX3_list_61 : decode cX3_list 61 = .ok (.iload_n 3, 1) := by decide +kernel
theorem dX3_list_62 : decode cX3_list 62 = .ok (.iaload, 1) := by decide +kernel
theorem dX3_list_63 : decode cX3_list 63 = .ok (.if_icmp .ge 31, 3) := by decide +kernel
theorem dX3_list_66 : decode cX3_list 66 = .ok (.aload_n 0, 1) := by decide +kernel
theorem dX3_list_67 : decode cX3_list 67 = .ok (.getfield 15, 3) := by decide +kernel
theorem dX3_list_70 : decode cX3_list 70 = .ok (.iload_n 3, 1) := by decide +kernel
theorem dX3_list_71 : decode cX3_list 71 = .ok (.iaload, 1) := by decide +kernel
theorem dX3_list_72 : decode cX3_list 72 = .ok (.iload 4, 2) := by decide +kernel
theorem dX3_list_74 : decode cX3_list 74 = .ok (.invokestatic 38, 3) := by decide +kernel
theorem dX3_list_77 : decode cX3_list 77 = .ok (.ifCond .eq 11, 3) := by decide +kernel
theorem dX3_list_80 : decode cX3_list 80 = .ok (.aload_n 0, 1) := by decide +kernel
theorem dX3_list_81 : decode cX3_list 81 = .ok (.aload_n 1, 1) := by decide +kernel
theorem dX3_list_82 : decode cX3_list 82 = .ok (.iload_n 3, 1) := by decide +kernel
theorem dX3_list_83 : decode cX3_list 83 = .ok (.iload 4, 2) := by decide +kernel
theorem dX3_list_85 : decode cX3_list 85 = .ok (.invokevirtual 42, 3) := by decide +kernel
theorem dX3_list_88 : decode cX3_list 88 = .ok (.iinc 4 1, 3) := by decide +kernel
theorem dX3_list_91 : decode cX3_list 91 = .ok (.goto (-39), 3) := by decide +kernel
theorem dX3_list_94 : decode cX3_list 94 = .ok (.iinc 3 1, 3) := by decide +kernel
theorem dX3_list_97 : decode cX3_list 97 = .ok (.goto (-59), 3) := by decide +kernel
theorem dX3_list_100 : decode cX3_list 100 = .ok (.aload_n 0, 1) := by decide +kernel
theorem dX3_list_101 : decode cX3_list 101 = .ok (.getfield 18, 3) := by decide +kernel
theorem dX3_list_104 : decode cX3_list 104 = .ok (.ireturn, 1) := by decide +kernel
theorem dX3_partOf_0 : decode cX3_partOf 0 = .ok (.aload_n 0, 1) := by decide +kernel
theorem dX3_partOf_1 : decode cX3_partOf 1 = .ok (.getfield 11, 3) := by decide +kernel
theorem dX3_partOf_4 : decode cX3_partOf 4 = .ok (.iload_n 1, 1) := by decide +kernel
theorem dX3_partOf_5 : decode cX3_partOf 5 = .ok (.iconst 5, 1) := by decide +kernel
theorem dX3_partOf_6 : decode cX3_partOf 6 = .ok (.imul, 1) := by decide +kernel
theorem dX3_partOf_7 : decode cX3_partOf 7 = .ok (.iload_n 2, 1) := by decide +kernel
theorem dX3_partOf_8 : decode cX3_partOf 8 = .ok (.iadd, 1) := by decide +kernel
theorem dX3_partOf_9 : decode cX3_partOf 9 = .ok (.iaload, 1) := by decide +kernel
theorem dX3_partOf_10 : decode cX3_partOf 10 = .ok (.ireturn, 1) := by decide +kernel
theorem dX3_listOfPin_0 : decode cX3_listOfPin 0 = .ok (.aload_n 1, 1) := by decide +kernel
theorem dX3_listOfPin_1 : decode cX3_listOfPin 1 = .ok (.getfield 22, 3) := by decide +kernel
theorem dX3_listOfPin_4 : decode cX3_listOfPin 4 = .ok (.getfield 46, 3) := by decide +kernel
theorem dX3_listOfPin_7 : decode cX3_listOfPin 7 = .ok (.iload_n 2, 1) := by decide +kernel
theorem dX3_listOfPin_8 : decode cX3_listOfPin 8 = .ok (.aaload, 1) := by decide +kernel
theorem dX3_listOfPin_9 : decode cX3_listOfPin 9 = .ok (.iload_n 3, 1) := by decide +kernel
theorem dX3_listOfPin_10 : decode cX3_listOfPin 10 = .ok (.iaload, 1) := by decide +kernel
theorem dX3_listOfPin_11 : decode cX3_listOfPin 11 = .ok (.istore 4, 2) := by decide +kernel
theorem dX3_listOfPin_13 : decode cX3_listOfPin 13 = .ok (.aload_n 1, 1) := by decide +kernel
theorem dX3_listOfPin_14 : decode cX3_listOfPin 14 = .ok (.getfield 22, 3) := by decide +kernel
theorem dX3_listOfPin_17 : decode cX3_listOfPin 17 = .ok (.getfield 50, 3) := by decide +kernel
theorem dX3_listOfPin_20 : decode cX3_listOfPin 20 = .ok (.iload_n 2, 1) := by decide +kernel
theorem dX3_listOfPin_21 : decode cX3_listOfPin 21 = .ok (.aaload, 1) := by decide +kernel
theorem dX3_listOfPin_22 : decode cX3_listOfPin 22 = .ok (.iload_n 3, 1) := by decide +kernel
theorem dX3_listOfPin_23 : decode cX3_listOfPin 23 = .ok (.iaload, 1) := by decide +kernel
theorem dX3_listOfPin_24 : decode cX3_listOfPin 24 = .ok (.istore 5, 2) := by decide +kernel
theorem dX3_listOfPin_26 : decode cX3_listOfPin 26 = .ok (.aload_n 1, 1) := by decide +kernel
theorem dX3_listOfPin_27 : decode cX3_listOfPin 27 = .ok (.getfield 22, 3) := by decide +kernel
theorem dX3_listOfPin_30 : decode cX3_listOfPin 30 = .ok (.getfield 53, 3) := by decide +kernel
theorem dX3_listOfPin_33 : decode cX3_listOfPin 33 = .ok (.iload_n 2, 1) := by decide +kernel
theorem dX3_listOfPin_34 : decode cX3_listOfPin 34 = .ok (.iaload, 1) := by decide +kernel
theorem dX3_listOfPin_35 : decode cX3_listOfPin 35 = .ok (.istore 6, 2) := by decide +kernel
theorem dX3_listOfPin_37 : decode cX3_listOfPin 37 = .ok (.aload_n 0, 1) := by decide +kernel
theorem dX3_listOfPin_38 : decode cX3_listOfPin 38 = .ok (.getfield 15, 3) := by decide +kernel
theorem dX3_listOfPin_41 : decode cX3_listOfPin 41 = .ok (.iload_n 2, 1) := by decide +kernel
theorem dX3_listOfPin_42 : decode cX3_listOfPin 42 = .ok (.iaload, 1) := by decide +kernel
theorem dX3_listOfPin_43 : decode cX3_listOfPin 43 = .ok (.invokestatic 56, 3) := by decide +kernel
theorem dX3_listOfPin_46 : decode cX3_listOfPin 46 = .ok (.iconst 1, 1) := by decide +kernel
theorem dX3_listOfPin_47 : decode cX3_listOfPin 47 = .ok (.if_icmp .ne 15, 3) := by decide +kernel
theorem dX3_listOfPin_50 : decode cX3_listOfPin 50 = .ok (.aload_n 0, 1) := by decide +kernel
theorem dX3_listOfPin_51 : decode cX3_listOfPin 51 = .ok (.iconst 1, 1) := by decide +kernel
theorem dX3_listOfPin_52 : decode cX3_listOfPin 52 = .ok (.iload_n 2, 1) := by decide +kernel
theorem dX3_listOfPin_53 : decode cX3_listOfPin 53 = .ok (.bipush (-2), 2) := by decide +kernel
theorem dX3_listOfPin_55 : decode cX3_listOfPin 55 = .ok (.iload 4, 2) := by decide +kernel
theorem dX3_listOfPin_57 : decode cX3_listOfPin 57 = .ok (.iload 5, 2) := by decide +kernel
theorem dX3_listOfPin_59 : decode cX3_listOfPin 59 = .ok (.invokevirtual 62, 3) := by decide +kernel
theorem dX3_listOfPin_62 : decode cX3_listOfPin 62 = .ok (.iload 6, 2) := by decide +kernel
theorem dX3_listOfPin_64 : decode cX3_listOfPin 64 = .ok (.aload_n 1, 1) := by decide +kernel
theorem dX3_listOfPin_65 : decode cX3_listOfPin 65 = .ok (.getfield 66, 3) := by decide +kernel
theorem dX3_listOfPin_68 : decode cX3_listOfPin 68 = .ok (.getfield 70, 3) := by decide +kernel
theorem dX3_listOfPin_71 : decode cX3_listOfPin 71 = .ok (.iload 4, 2) := by decide +kernel
theorem dX3_listOfPin_73 : decode cX3_listOfPin 73 = .ok (.iaload, 1) := by decide +kernel
theorem dX3_listOfPin_74 : decode cX3_listOfPin 74 = .ok (.if_icmp .lt 18, 3) := by decide +kernel
theorem dX3_listOfPin_77 : decode cX3_listOfPin 77 = .ok (.iload 6, 2) := by decide +kernel
theorem dX3_listOfPin_79 : decode cX3_listOfPin 79 = .ok (.aload_n 1, 1) := by decide +kernel
theorem dX3_listOfPin_80 : decode cX3_listOfPin 80 = .ok (.getfield 66, 3) := by decide +kernel
theorem dX3_listOfPin_83 : decode cX3_listOfPin 83 = .ok (.getfield 75, 3) := by decide +kernel
theorem dX3_listOfPin_86 : decode cX3_listOfPin 86 = .ok (.iload 4, 2) := by decide +kernel
theorem dX3_listOfPin_88 : decode cX3_listOfPin 88 = .ok (.iaload, 1) := by decide +kernel
theorem dX3_listOfPin_89 : decode cX3_listOfPin 89 = .ok (.if_icmp .le 15, 3) := by decide +kernel
theorem dX3_listOfPin_92 : decode cX3_listOfPin 92 = .ok (.aload_n 0, 1) := by decide +kernel
theorem dX3_listOfPin_93 : decode cX3_listOfPin 93 = .ok (.iconst 2, 1) := by decide +kernel
theorem dX3_listOfPin_94 : decode cX3_listOfPin 94 = .ok (.iload_n 2, 1) := by decide +kernel
theorem dX3_listOfPin_95 : decode cX3_listOfPin 95 = .ok (.bipush (-2), 2) := by decide +kernel
theorem dX3_listOfPin_97 : decode cX3_listOfPin 97 = .ok (.iload 4, 2) := by decide +kernel
theorem dX3_listOfPin_99 : decode cX3_listOfPin 99 = .ok (.iload 5, 2) := by decide +kernel
theorem dX3_listOfPin_101 : decode cX3_listOfPin 101 = .ok (.invokevirtual 62, 3) := by decide +kernel
theorem dX3_listOfPin_104 : decode cX3_listOfPin 104 = .ok (.aload_n 0, 1) := by decide +kernel
theorem dX3_listOfPin_105 : decode cX3_listOfPin 105 = .ok (.aload_n 1, 1) := by decide +kernel
theorem dX3_listOfPin_106 : decode cX3_listOfPin 106 = .ok (.iload_n 2, 1) := by decide +kernel
theorem dX3_listOfPin_107 : decode cX3_listOfPin 107 = .ok (.iload 4, 2) := by decide +kernel
theorem dX3_listOfPin_109 : decode cX3_listOfPin 109 = .ok (.iload 5, 2) := by decide +kernel
theorem dX3_listOfPin_111 : decode cX3_listOfPin 111 = .ok (.invokevirtual 78, 3) := by decide +kernel
theorem dX3_listOfPin_114 : decode cX3_listOfPin 114 = .ok (.istore 7, 2) := by decide +kernel
theorem dX3_listOfPin_116 : decode cX3_listOfPin 116 = .ok (.iload 7, 2) := by decide +kernel
theorem dX3_listOfPin_118 : decode cX3_listOfPin 118 = .ok (.ifCond .lt 15, 3) := by decide +kernel
theorem dX3_listOfPin_121 : decode cX3_listOfPin 121 = .ok (.aload_n 0, 1) := by decide +kernel
theorem dX3_listOfPin_122 : decode cX3_listOfPin 122 = .ok (.iconst 3, 1) := by decide +kernel
theorem dX3_listOfPin_123 : decode cX3_listOfPin 123 = .ok (.iload_n 2, 1) := by decide +kernel
theorem dX3_listOfPin_124 : decode cX3_listOfPin 124 = .ok (.iload 7, 2) := by decide +kernel
theorem dX3_listOfPin_126 : decode cX3_listOfPin 126 = .ok (.iload 4, 2) := by decide +kernel
theorem dX3_listOfPin_128 : decode cX3_listOfPin 128 = .ok (.iload 5, 2) := by decide +kernel
theorem dX3_listOfPin_130 : decode cX3_listOfPin 130 = .ok (.invokevirtual 62, 3) := by decide +kernel
theorem dX3_listOfPin_133 : decode cX3_listOfPin 133 = .ok (.aload_n 0, 1) := by decide +kernel
theorem dX3_listOfPin_134 : decode cX3_listOfPin 134 = .ok (.aload_n 1, 1) := by decide +kernel
theorem dX3_listOfPin_135 : decode cX3_listOfPin 135 = .ok (.iload_n 2, 1) := by decide +kernel
theorem dX3_listOfPin_136 : decode cX3_listOfPin 136 = .ok (.iload 4, 2) := by decide +kernel
theorem dX3_listOfPin_138 : decode cX3_listOfPin 138 = .ok (.iload 5, 2) := by decide +kernel
theorem dX3_listOfPin_140 : decode cX3_listOfPin 140 = .ok (.invokevirtual 82, 3) := by decide +kernel
theorem dX3_listOfPin_143 : decode cX3_listOfPin 143 = .ok (.istore 8, 2) := by decide +kernel
theorem dX3_listOfPin_145 : decode cX3_listOfPin 145 = .ok (.iload 8, 2) := by decide +kernel
theorem dX3_listOfPin_147 : decode cX3_listOfPin 147 = .ok (.ifCond .lt 15, 3) := by decide +kernel
theorem dX3_listOfPin_150 : decode cX3_listOfPin 150 = .ok (.aload_n 0, 1) := by decide +kernel
theorem dX3_listOfPin_151 : decode cX3_listOfPin 151 = .ok (.iconst 4, 1) := by decide +kernel
theorem dX3_listOfPin_152 : decode cX3_listOfPin 152 = .ok (.iload_n 2, 1) := by decide +kernel
theorem dX3_listOfPin_153 : decode cX3_listOfPin 153 = .ok (.iload 8, 2) := by decide +kernel
theorem dX3_listOfPin_155 : decode cX3_listOfPin 155 = .ok (.iload 4, 2) := by decide +kernel
theorem dX3_listOfPin_157 : decode cX3_listOfPin 157 = .ok (.iload 5, 2) := by decide +kernel
theorem dX3_listOfPin_159 : decode cX3_listOfPin 159 = .ok (.invokevirtual 62, 3) := by decide +kernel
theorem dX3_listOfPin_162 : decode cX3_listOfPin 162 = .ok (.return_, 1) := by decide +kernel
theorem dX3_firstAt_0 : decode cX3_firstAt 0 = .ok (.iconst 0, 1) := by decide +kernel
theorem dX3_firstAt_1 : decode cX3_firstAt 1 = .ok (.istore 5, 2) := by decide +kernel
theorem dX3_firstAt_3 : decode cX3_firstAt 3 = .ok (.iload 5, 2) := by decide +kernel
theorem dX3_firstAt_5 : decode cX3_firstAt 5 = .ok (.iload_n 2, 1) := by decide +kernel
theorem dX3_firstAt_6 : decode cX3_firstAt 6 = .ok (.if_icmp .ge 34, 3) := by decide +kernel
theorem dX3_firstAt_9 : decode cX3_firstAt 9 = .ok (.aload_n 1, 1) := by decide +kernel
theorem dX3_firstAt_10 : decode cX3_firstAt 10 = .ok (.getfield 22, 3) := by decide +kernel
theorem dX3_firstAt_13 : decode cX3_firstAt 13 = .ok (.iload 5, 2) := by decide +kernel
theorem dX3_firstAt_15 : decode cX3_firstAt 15 = .ok (.aload_n 0, 1) := by decide +kernel
theorem dX3_firstAt_16 : decode cX3_firstAt 16 = .ok (.getfield 15, 3) := by decide +kernel
theorem dX3_firstAt_19 : decode cX3_firstAt 19 = .ok (.iload 5, 2) := by decide +kernel
theorem dX3_firstAt_21 : decode cX3_firstAt 21 = .ok (.iaload, 1) := by decide +kernel
theorem dX3_firstAt_22 : decode cX3_firstAt 22 = .ok (.iload_n 3, 1) := by decide +kernel
theorem dX3_firstAt_23 : decode cX3_firstAt 23 = .ok (.iload 4, 2) := by decide +kernel
theorem dX3_firstAt_25 : decode cX3_firstAt 25 = .ok (.invokevirtual 85, 3) := by decide +kernel
theorem dX3_firstAt_28 : decode cX3_firstAt 28 = .ok (.ifCond .eq 6, 3) := by decide +kernel
theorem dX3_firstAt_31 : decode cX3_firstAt 31 = .ok (.iload 5, 2) := by decide +kernel
theorem dX3_firstAt_33 : decode cX3_firstAt 33 = .ok (.ireturn, 1) := by decide +kernel
theorem dX3_firstAt_34 : decode cX3_firstAt 34 = .ok (.iinc 5 1, 3) := by decide +kernel
theorem dX3_firstAt_37 : decode cX3_firstAt 37 = .ok (.goto (-34), 3) := by decide +kernel
theorem dX3_firstAt_40 : decode cX3_firstAt 40 = .ok (.iconst (-1), 1) := by decide +kernel
theorem dX3_firstAt_41 : decode cX3_firstAt 41 = .ok (.ireturn, 1) := by decide +kernel
theorem dX3_firstBeside_0 : decode cX3_firstBeside 0 = .ok (.aload_n 1, 1) := by decide +kernel
theorem dX3_firstBeside_1 : decode cX3_firstBeside 1 = .ok (.getfield 22, 3) := by decide +kernel
theorem dX3_firstBeside_4 : decode cX3_firstBeside 4 = .ok (.getfield 89, 3) := by decide +kernel
theorem dX3_firstBeside_7 : decode cX3_firstBeside 7 = .ok (.iload_n 2, 1) := by decide +kernel
theorem dX3_firstBeside_8 : decode cX3_firstBeside 8 = .ok (.iaload, 1) := by decide +kernel
theorem dX3_firstBeside_9 : decode cX3_firstBeside 9 = .ok (.istore 5, 2) := by decide +kernel
theorem dX3_firstBeside_11 : decode cX3_firstBeside 11 = .ok (.iload 5, 2) := by decide +kernel
theorem dX3_firstBeside_13 : decode cX3_firstBeside 13 = .ok (.ifCond .ne 7, 3) := by decide +kernel
theorem dX3_firstBeside_16 : decode cX3_firstBeside 16 = .ok (.iconst 1, 1) := by decide +kernel
theorem dX3_firstBeside_17 : decode cX3_firstBeside 17 = .ok (.goto 14, 3) := by decide +kernel
theorem dX3_firstBeside_20 : decode cX3_firstBeside 20 = .ok (.iload 5, 2) := by decide +kernel
theorem dX3_firstBeside_22 : decode cX3_firstBeside 22 = .ok (.iconst 1, 1) := by decide +kernel
theorem dX3_firstBeside_23 : decode cX3_firstBeside 23 = .ok (.if_icmp .ne 7, 3) := by decide +kernel
theorem dX3_firstBeside_26 : decode cX3_firstBeside 26 = .ok (.iconst 0, 1) := by decide +kernel
theorem dX3_firstBeside_27 : decode cX3_firstBeside 27 = .ok (.goto 4, 3) := by decide +kernel
theorem dX3_firstBeside_30 : decode cX3_firstBeside 30 = .ok (.iconst (-1), 1) := by decide +kernel
theorem dX3_firstBeside_31 : decode cX3_firstBeside 31 = .ok (.istore 6, 2) := by decide +kernel
theorem dX3_firstBeside_33 : decode cX3_firstBeside 33 = .ok (.iconst 0, 1) := by decide +kernel
theorem dX3_firstBeside_34 : decode cX3_firstBeside 34 = .ok (.istore 7, 2) := by decide +kernel
theorem dX3_firstBeside_36 : decode cX3_firstBeside 36 = .ok (.iload 7, 2) := by decide +kernel
theorem dX3_firstBeside_38 : decode cX3_firstBeside 38 = .ok (.aload_n 1, 1) := by decide +kernel
theorem dX3_firstBeside_39 : decode cX3_firstBeside 39 = .ok (.getfield 22, 3) := by decide +kernel
theorem dX3_firstBeside_42 : decode cX3_firstBeside 42 = .ok (.getfield 28, 3) := by decide +kernel
theorem dX3_firstBeside_45 : decode cX3_firstBeside 45 = .ok (.if_icmp .ge 75, 3) := by decide +kernel
theorem dX3_firstBeside_48 : decode cX3_firstBeside 48 = .ok (.aload_n 1, 1) := by decide +kernel
theorem dX3_firstBeside_49 : decode cX3_firstBeside 49 = .ok (.getfield 22, 3) := by decide +kernel
theorem dX3_firstBeside_52 : decode cX3_firstBeside 52 = .ok (.getfield 89, 3) := by decide +kernel
theorem dX3_firstBeside_55 : decode cX3_firstBeside 55 = .ok (.iload 7, 2) := by decide +kernel
theorem dX3_firstBeside_57 : decode cX3_firstBeside 57 = .ok (.iaload, 1) := by decide +kernel
theorem dX3_firstBeside_58 : decode cX3_firstBeside 58 = .ok (.iload 6, 2) := by decide +kernel
theorem dX3_firstBeside_60 : decode cX3_firstBeside 60 = .ok (.if_icmp .ne 54, 3) := by decide +kernel
theorem dX3_firstBeside_63 : decode cX3_firstBeside 63 = .ok (.aload_n 1, 1) := by decide +kernel
theorem dX3_firstBeside_64 : decode cX3_firstBeside 64 = .ok (.getfield 22, 3) := by decide +kernel
theorem dX3_firstBeside_67 : decode cX3_firstBeside 67 = .ok (.iload 7, 2) := by decide +kernel
theorem dX3_firstBeside_69 : decode cX3_firstBeside 69 = .ok (.aload_n 0, 1) := by decide +kernel
theorem dX3_firstBeside_70 : decode cX3_firstBeside 70 = .ok (.getfield 15, 3) := by decide +kernel
theorem dX3_firstBeside_73 : decode cX3_firstBeside 73 = .ok (.iload 7, 2) := by decide +kernel
theorem dX3_firstBeside_75 : decode cX3_firstBeside 75 = .ok (.iaload, 1) := by decide +kernel
theorem dX3_firstBeside_76 : decode cX3_firstBeside 76 = .ok (.iload_n 3, 1) := by decide +kernel
theorem dX3_firstBeside_77 : decode cX3_firstBeside 77 = .ok (.iload 4, 2) := by decide +kernel
theorem dX3_firstBeside_79 : decode cX3_firstBeside 79 = .ok (.iconst 1, 1) := by decide +kernel
theorem dX3_firstBeside_80 : decode cX3_firstBeside 80 = .ok (.isub, 1) := by decide +kernel
theorem dX3_firstBeside_81 : decode cX3_firstBeside 81 = .ok (.invokevirtual 85, 3) := by decide +kernel
theorem dX3_firstBeside_84 : decode cX3_firstBeside 84 = .ok (.ifCond .ne 27, 3) := by decide +kernel
theorem dX3_firstBeside_87 : decode cX3_firstBeside 87 = .ok (.aload_n 1, 1) := by decide +kernel
theorem dX3_firstBeside_88 : decode cX3_firstBeside 88 = .ok (.getfield 22, 3) := by decide +kernel
theorem dX3_firstBeside_91 : decode cX3_firstBeside 91 = .ok (.iload 7, 2) := by decide +kernel
theorem dX3_firstBeside_93 : decode cX3_firstBeside 93 = .ok (.aload_n 0, 1) := by decide +kernel
theorem dX3_firstBeside_94 : decode cX3_firstBeside 94 = .ok (.getfield 15, 3) := by decide +kernel
theorem dX3_firstBeside_97 : decode cX3_firstBeside 97 = .ok (.iload 7, 2) := by decide +kernel
theorem dX3_firstBeside_99 : decode cX3_firstBeside 99 = .ok (.iaload, 1) := by decide +kernel
theorem dX3_firstBeside_100 : decode cX3_firstBeside 100 = .ok (.iload_n 3, 1) := by decide +kernel
theorem dX3_firstBeside_101 : decode cX3_firstBeside 101 = .ok (.iload 4, 2) := by decide +kernel
theorem dX3_firstBeside_103 : decode cX3_firstBeside 103 = .ok (.iconst 1, 1) := by decide +kernel
theorem dX3_firstBeside_104 : decode cX3_firstBeside 104 = .ok (.iadd, 1) := by decide +kernel
theorem dX3_firstBeside_105 : decode cX3_firstBeside 105 = .ok (.invokevirtual 85, 3) := by decide +kernel
theorem dX3_firstBeside_108 : decode cX3_firstBeside 108 = .ok (.ifCond .eq 6, 3) := by decide +kernel
theorem dX3_firstBeside_111 : decode cX3_firstBeside 111 = .ok (.iload 7, 2) := by decide +kernel
theorem dX3_firstBeside_113 : decode cX3_firstBeside 113 = .ok (.ireturn, 1) := by decide +kernel
theorem dX3_firstBeside_114 : decode cX3_firstBeside 114 = .ok (.iinc 7 1, 3) := by decide +kernel
theorem dX3_firstBeside_117 : decode cX3_firstBeside 117 = .ok (.goto (-81), 3) := by decide +kernel
theorem dX3_firstBeside_120 : decode cX3_firstBeside 120 = .ok (.iconst (-1), 1) := by decide +kernel
theorem dX3_firstBeside_121 : decode cX3_firstBeside 121 = .ok (.ireturn, 1) := by decide +kernel
theorem dX3_add_0 : decode cX3_add 0 = .ok (.aload_n 0, 1) := by decide +kernel
theorem dX3_add_1 : decode cX3_add 1 = .ok (.getfield 18, 3) := by decide +kernel
theorem dX3_add_4 : decode cX3_add 4 = .ok (.sipush 160, 3) := by decide +kernel
theorem dX3_add_7 : decode cX3_add 7 = .ok (.if_icmp .ge 71, 3) := by decide +kernel
theorem dX3_add_10 : decode cX3_add 10 = .ok (.aload_n 0, 1) := by decide +kernel
theorem dX3_add_11 : decode cX3_add 11 = .ok (.getfield 18, 3) := by decide +kernel
theorem dX3_add_14 : decode cX3_add 14 = .ok (.iconst 5, 1) := by decide +kernel
theorem dX3_add_15 : decode cX3_add 15 = .ok (.imul, 1) := by decide +kernel
theorem dX3_add_16 : decode cX3_add 16 = .ok (.istore 6, 2) := by decide +kernel
theorem dX3_add_18 : decode cX3_add 18 = .ok (.aload_n 0, 1) := by decide +kernel
theorem dX3_add_19 : decode cX3_add 19 = .ok (.getfield 11, 3) := by decide +kernel
theorem dX3_add_22 : decode cX3_add 22 = .ok (.iload 6, 2) := by decide +kernel
theorem dX3_add_24 : decode cX3_add 24 = .ok (.iload_n 1, 1) := by decide +kernel
theorem dX3_add_25 : decode cX3_add 25 = .ok (.iastore, 1) := by decide +kernel
theorem dX3_add_26 : decode cX3_add 26 = .ok (.aload_n 0, 1) := by decide +kernel
theorem dX3_add_27 : decode cX3_add 27 = .ok (.getfield 11, 3) := by decide +kernel
theorem dX3_add_30 : decode cX3_add 30 = .ok (.iload 6, 2) := by decide +kernel
theorem dX3_add_32 : decode cX3_add 32 = .ok (.iconst 1, 1) := by decide +kernel
theorem dX3_add_33 : decode cX3_add 33 = .ok (.iadd, 1) := by decide +kernel
theorem dX3_add_34 : decode cX3_add 34 = .ok (.iload_n 2, 1) := by decide +kernel
theorem dX3_add_35 : decode cX3_add 35 = .ok (.iastore, 1) := by decide +kernel
theorem dX3_add_36 : decode cX3_add 36 = .ok (.aload_n 0, 1) := by decide +kernel
theorem dX3_add_37 : decode cX3_add 37 = .ok (.getfield 11, 3) := by decide +kernel
theorem dX3_add_40 : decode cX3_add 40 = .ok (.iload 6, 2) := by decide +kernel
theorem dX3_add_42 : decode cX3_add 42 = .ok (.iconst 2, 1) := by decide +kernel
theorem dX3_add_43 : decode cX3_add 43 = .ok (.iadd, 1) := by decide +kernel
theorem dX3_add_44 : decode cX3_add 44 = .ok (.iload_n 3, 1) := by decide +kernel
theorem dX3_add_45 : decode cX3_add 45 = .ok (.iastore, 1) := by decide +kernel
theorem dX3_add_46 : decode cX3_add 46 = .ok (.aload_n 0, 1) := by decide +kernel
theorem dX3_add_47 : decode cX3_add 47 = .ok (.getfield 11, 3) := by decide +kernel
theorem dX3_add_50 : decode cX3_add 50 = .ok (.iload 6, 2) := by decide +kernel
theorem dX3_add_52 : decode cX3_add 52 = .ok (.iconst 3, 1) := by decide +kernel
theorem dX3_add_53 : decode cX3_add 53 = .ok (.iadd, 1) := by decide +kernel
theorem dX3_add_54 : decode cX3_add 54 = .ok (.iload 4, 2) := by decide +kernel
theorem dX3_add_56 : decode cX3_add 56 = .ok (.iastore, 1) := by decide +kernel
theorem dX3_add_57 : decode cX3_add 57 = .ok (.aload_n 0, 1) := by decide +kernel
theorem dX3_add_58 : decode cX3_add 58 = .ok (.getfield 11, 3) := by decide +kernel
theorem dX3_add_61 : decode cX3_add 61 = .ok (.iload 6, 2) := by decide +kernel
theorem dX3_add_63 : decode cX3_add 63 = .ok (.iconst 4, 1) := by decide +kernel
theorem dX3_add_64 : decode cX3_add 64 = .ok (.iadd, 1) := by decide +kernel
theorem dX3_add_65 : decode cX3_add 65 = .ok (.iload 5, 2) := by decide +kernel
theorem dX3_add_67 : decode cX3_add 67 = .ok (.iastore, 1) := by decide +kernel
theorem dX3_add_68 : decode cX3_add 68 = .ok (.aload_n 0, 1) := by decide +kernel
theorem dX3_add_69 : decode cX3_add 69 = .ok (.dup, 1) := by decide +kernel
theorem dX3_add_70 : decode cX3_add 70 = .ok (.getfield 18, 3) := by decide +kernel
theorem dX3_add_73 : decode cX3_add 73 = .ok (.iconst 1, 1) := by decide +kernel
theorem dX3_add_74 : decode cX3_add 74 = .ok (.iadd, 1) := by decide +kernel
theorem dX3_add_75 : decode cX3_add 75 = .ok (.putfield 18, 3) := by decide +kernel
theorem dX3_add_78 : decode cX3_add 78 = .ok (.return_, 1) := by decide +kernel
theorem dX4_init_0 : decode cX4_init 0 = .ok (.aload_n 0, 1) := by decide +kernel
theorem dX4_init_1 : decode cX4_init 1 = .ok (.invokespecial 3, 3) := by decide +kernel
theorem dX4_init_4 : decode cX4_init 4 = .ok (.aload_n 0, 1) := by decide +kernel
theorem dX4_init_5 : decode cX4_init 5 = .ok (.bipush 36, 2) := by decide +kernel
theorem dX4_init_7 : decode cX4_init 7 = .ok (.newarray .long, 2) := by decide +kernel
theorem dX4_init_9 : decode cX4_init 9 = .ok (.putfield 9, 3) := by decide +kernel
theorem dX4_init_12 : decode cX4_init 12 = .ok (.aload_n 0, 1) := by decide +kernel
theorem dX4_init_13 : decode cX4_init 13 = .ok (.bipush 36, 2) := by decide +kernel
theorem dX4_init_15 : decode cX4_init 15 = .ok (.newarray .int, 2) := by decide +kernel
theorem dX4_init_17 : decode cX4_init 17 = .ok (.putfield 15, 3) := by decide +kernel
theorem dX4_init_20 : decode cX4_init 20 = .ok (.aload_n 0, 1) := by decide +kernel
theorem dX4_init_21 : decode cX4_init 21 = .ok (.new 19, 3) := by decide +kernel
theorem dX4_init_24 : decode cX4_init 24 = .ok (.dup, 1) := by decide +kernel
theorem dX4_init_25 : decode cX4_init 25 = .ok (.invokespecial 21, 3) := by decide +kernel
theorem dX4_init_28 : decode cX4_init 28 = .ok (.putfield 22, 3) := by decide +kernel
theorem dX4_init_31 : decode cX4_init 31 = .ok (.aload_n 0, 1) := by decide +kernel
theorem dX4_init_32 : decode cX4_init 32 = .ok (.new 26, 3) := by decide +kernel
theorem dX4_init_35 : decode cX4_init 35 = .ok (.dup, 1) := by decide +kernel
theorem dX4_init_36 : decode cX4_init 36 = .ok (.invokespecial 28, 3) := by decide +kernel
theorem dX4_init_39 : decode cX4_init 39 = .ok (.putfield 29, 3) := by decide +kernel
theorem dX4_init_42 : decode cX4_init 42 = .ok (.aload_n 0, 1) := by decide +kernel
theorem dX4_init_43 : decode cX4_init 43 = .ok (.new 33, 3) := by decide +kernel
theorem dX4_init_46 : decode cX4_init 46 = .ok (.dup, 1) := by decide +kernel
theorem dX4_init_47 : decode cX4_init 47 = .ok (.invokespecial 35, 3) := by decide +kernel
theorem dX4_init_50 : decode cX4_init 50 = .ok (.putfield 36, 3) := by decide +kernel
theorem dX4_init_53 : decode cX4_init 53 = .ok (.aload_n 0, 1) := by decide +kernel
theorem dX4_init_54 : decode cX4_init 54 = .ok (.new 40, 3) := by decide +kernel
theorem dX4_init_57 : decode cX4_init 57 = .ok (.dup, 1) := by decide +kernel
theorem dX4_init_58 : decode cX4_init 58 = .ok (.invokespecial 42, 3) := by decide +kernel
theorem dX4_init_61 : decode cX4_init 61 = .ok (.putfield 43, 3) := by decide +kernel
theorem dX4_init_64 : decode cX4_init 64 = .ok (.return_, 1) := by decide +kernel
theorem dX4_clear_0 : decode cX4_clear 0 = .ok (.aload_n 0, 1) := by decide +kernel
theorem dX4_clear_1 : decode cX4_clear 1 = .ok (.iconst 0, 1) := by decide +kernel
theorem dX4_clear_2 : decode cX4_clear 2 = .ok (.putfield 47, 3) := by decide +kernel
theorem dX4_clear_5 : decode cX4_clear 5 = .ok (.aload_n 0, 1) := by decide +kernel
theorem dX4_clear_6 : decode cX4_clear 6 = .ok (.iconst 0, 1) := by decide +kernel
theorem dX4_clear_7 : decode cX4_clear 7 = .ok (.putfield 51, 3) := by decide +kernel
theorem dX4_clear_10 : decode cX4_clear 10 = .ok (.aload_n 0, 1) := by decide +kernel
theorem dX4_clear_11 : decode cX4_clear 11 = .ok (.iconst 0, 1) := by decide +kernel
theorem dX4_clear_12 : decode cX4_clear 12 = .ok (.putfield 54, 3) := by decide +kernel
theorem dX4_clear_15 : decode cX4_clear 15 = .ok (.aload_n 0, 1) := by decide +kernel
theorem dX4_clear_16 : decode cX4_clear 16 = .ok (.iconst 0, 1) := by decide +kernel
theorem dX4_clear_17 : decode cX4_clear 17 = .ok (.putfield 57, 3) := by decide +kernel
theorem dX4_clear_20 : decode cX4_clear 20 = .ok (.aload_n 0, 1) := by decide +kernel
theorem dX4_clear_21 : decode cX4_clear 21 = .ok (.getfield 22, 3) := by decide +kernel
theorem dX4_clear_24 : decode cX4_clear 24 = .ok (.iconst 0, 1) := by decide +kernel
theorem dX4_clear_25 : decode cX4_clear 25 = .ok (.putfield 60, 3) := by decide +kernel
theorem dX4_clear_28 : decode cX4_clear 28 = .ok (.aload_n 0, 1) := by decide +kernel
theorem dX4_clear_29 : decode cX4_clear 29 = .ok (.getfield 29, 3) := by decide +kernel
theorem dX4_clear_32 : decode cX4_clear 32 = .ok (.iconst 0, 1) := by decide +kernel
theorem dX4_clear_33 : decode cX4_clear 33 = .ok (.putfield 63, 3) := by decide +kernel
theorem dX4_clear_36 : decode cX4_clear 36 = .ok (.aload_n 0, 1) := by decide +kernel
theorem dX4_clear_37 : decode cX4_clear 37 = .ok (.getfield 36, 3) := by decide +kernel
theorem dX4_clear_40 : decode cX4_clear 40 = .ok (.iconst 0, 1) := by decide +kernel
theorem dX4_clear_41 : decode cX4_clear 41 = .ok (.putfield 64, 3) := by decide +kernel
theorem dX4_clear_44 : decode cX4_clear 44 = .ok (.aload_n 0, 1) := by decide +kernel
theorem dX4_clear_45 : decode cX4_clear 45 = .ok (.getfield 43, 3) := by decide +kernel
theorem dX4_clear_48 : decode cX4_clear 48 = .ok (.iconst 0, 1) := by decide +kernel
theorem dX4_clear_49 : decode cX4_clear 49 = .ok (.putfield 65, 3) := by decide +kernel
theorem dX4_clear_52 : decode cX4_clear 52 = .ok (.return_, 1) := by decide +kernel
theorem dX4_addName_0 : decode cX4_addName 0 = .ok (.aload_n 0, 1) := by decide +kernel
theorem dX4_addName_1 : decode cX4_addName 1 = .ok (.getfield 57, 3) := by decide +kernel
theorem dX4_addName_4 : decode cX4_addName 4 = .ok (.bipush 36, 2) := by decide +kernel
theorem dX4_addName_6 : decode cX4_addName 6 = .ok (.if_icmp .ge 33, 3) := by decide +kernel
theorem dX4_addName_9 : decode cX4_addName 9 = .ok (.aload_n 0, 1) := by decide +kernel
theorem dX4_addName_10 : decode cX4_addName 10 = .ok (.getfield 9, 3) := by decide +kernel
theorem dX4_addName_13 : decode cX4_addName 13 = .ok (.aload_n 0, 1) := by decide +kernel
theorem dX4_addName_14 : decode cX4_addName 14 = .ok (.getfield 57, 3) := by decide +kernel
theorem dX4_addName_17 : decode cX4_addName 17 = .ok (.lload_n 1, 1) := by decide +kernel
theorem dX4_addName_18 : decode cX4_addName 18 = .ok (.lastore, 1) := by decide +kernel
theorem dX4_addName_19 : decode cX4_addName 19 = .ok (.aload_n 0, 1) := by decide +kernel
theorem dX4_addName_20 : decode cX4_addName 20 = .ok (.getfield 15, 3) := by decide +kernel
theorem dX4_addName_23 : decode cX4_addName 23 = .ok (.aload_n 0, 1) := by decide +kernel
theorem dX4_addName_24 : decode cX4_addName 24 = .ok (.getfield 57, 3) := by decide +kernel
theorem dX4_addName_27 : decode cX4_addName 27 = .ok (.iload_n 3, 1) := by decide +kernel
theorem dX4_addName_28 : decode cX4_addName 28 = .ok (.iastore, 1) := by decide +kernel
theorem dX4_addName_29 : decode cX4_addName 29 = .ok (.aload_n 0, 1) := by decide +kernel
theorem dX4_addName_30 : decode cX4_addName 30 = .ok (.dup, 1) := by decide +kernel
theorem dX4_addName_31 : decode cX4_addName 31 = .ok (.getfield 57, 3) := by decide +kernel
theorem dX4_addName_34 : decode cX4_addName 34 = .ok (.iconst 1, 1) := by decide +kernel
theorem dX4_addName_35 : decode cX4_addName 35 = .ok (.iadd, 1) := by decide +kernel
theorem dX4_addName_36 : decode cX4_addName 36 = .ok (.putfield 57, 3) := by decide +kernel
theorem dX4_addName_39 : decode cX4_addName 39 = .ok (.return_, 1) := by decide +kernel
theorem dX4_meaningOf_0 : decode cX4_meaningOf 0 = .ok (.iconst 0, 1) := by decide +kernel
theorem dX4_meaningOf_1 : decode cX4_meaningOf 1 = .ok (.istore_n 3, 1) := by decide +kernel
theorem dX4_meaningOf_2 : decode cX4_meaningOf 2 = .ok (.iload_n 3, 1) := by decide +kernel
theorem dX4_meaningOf_3 : decode cX4_meaningOf 3 = .ok (.aload_n 0, 1) := by decide +kernel
theorem dX4_meaningOf_4 : decode cX4_meaningOf 4 = .ok (.getfield 57, 3) := by decide +kernel
theorem dX4_meaningOf_7 : decode cX4_meaningOf 7 = .ok (.if_icmp .ge 27, 3) := by decide +kernel
theorem dX4_meaningOf_10 : decode cX4_meaningOf 10 = .ok (.aload_n 0, 1) := by decide +kernel
theorem dX4_meaningOf_11 : decode cX4_meaningOf 11 = .ok (.getfield 9, 3) := by decide +kernel
theorem dX4_meaningOf_14 : decode cX4_meaningOf 14 = .ok (.iload_n 3, 1) := by decide +kernel
theorem dX4_meaningOf_15 : decode cX4_meaningOf 15 = .ok (.laload, 1) := by decide +kernel
theorem dX4_meaningOf_16 : decode cX4_meaningOf 16 = .ok (.lload_n 1, 1) := by decide +kernel
theorem dX4_meaningOf_17 : decode cX4_meaningOf 17 = .ok (.lcmp, 1) := by decide +kernel
theorem dX4_meaningOf_18 : decode cX4_meaningOf 18 = .ok (.ifCond .ne 10, 3) := by decide +kernel
theorem dX4_meaningOf_21 : decode cX4_meaningOf 21 = .ok (.aload_n 0, 1) := by decide +kernel
theorem dX4_meaningOf_22 : decode cX4_meaningOf 22 = .ok (.getfield 15, 3) := by decide +kernel
theorem dX4_meaningOf_25 : decode cX4_meaningOf 25 = .ok (.iload_n 3, 1) := by decide +kernel
theorem dX4_meaningOf_26 : decode cX4_meaningOf 26 = .ok (.iaload, 1) := by decide +kernel
theorem dX4_meaningOf_27 : decode cX4_meaningOf 27 = .ok (.ireturn, 1) := by decide +kernel
theorem dX4_meaningOf_28 : decode cX4_meaningOf 28 = .ok (.iinc 3 1, 3) := by decide +kernel
theorem dX4_meaningOf_31 : decode cX4_meaningOf 31 = .ok (.goto (-29), 3) := by decide +kernel
theorem dX4_meaningOf_34 : decode cX4_meaningOf 34 = .ok (.iconst (-1), 1) := by decide +kernel
theorem dX4_meaningOf_35 : decode cX4_meaningOf 35 = .ok (.ireturn, 1) := by decide +kernel
theorem dX5_init_0 : decode cX5_init 0 = .ok (.aload_n 0, 1) := by decide +kernel
theorem dX5_init_1 : decode cX5_init 1 = .ok (.invokespecial 3, 3) := by decide +kernel
theorem dX5_init_4 : decode cX5_init 4 = .ok (.aload_n 0, 1) := by decide +kernel
theorem dX5_init_5 : decode cX5_init 5 = .ok (.bipush 10, 2) := by decide +kernel
theorem dX5_init_7 : decode cX5_init 7 = .ok (.newarray .int, 2) := by decide +kernel
theorem dX5_init_9 : decode cX5_init 9 = .ok (.putfield 9, 3) := by decide +kernel
theorem dX5_init_12 : decode cX5_init 12 = .ok (.aload_n 0, 1) := by decide +kernel
theorem dX5_init_13 : decode cX5_init 13 = .ok (.bipush 10, 2) := by decide +kernel
theorem dX5_init_15 : decode cX5_init 15 = .ok (.newarray .int, 2) := by decide +kernel
theorem dX5_init_17 : decode cX5_init 17 = .ok (.putfield 15, 3) := by decide +kernel
theorem dX5_init_20 : decode cX5_init 20 = .ok (.aload_n 0, 1) := by decide +kernel
theorem dX5_init_21 : decode cX5_init 21 = .ok (.bipush 10, 2) := by decide +kernel
theorem dX5_init_23 : decode cX5_init 23 = .ok (.newarray .int, 2) := by decide +kernel
theorem dX5_init_25 : decode cX5_init 25 = .ok (.putfield 18, 3) := by decide +kernel
theorem dX5_init_28 : decode cX5_init 28 = .ok (.aload_n 0, 1) := by decide +kernel
theorem dX5_init_29 : decode cX5_init 29 = .ok (.bipush 10, 2) := by decide +kernel
theorem dX5_init_31 : decode cX5_init 31 = .ok (.newarray .int, 2) := by decide +kernel
theorem dX5_init_33 : decode cX5_init 33 = .ok (.putfield 21, 3) := by decide +kernel
theorem dX5_init_36 : decode cX5_init 36 = .ok (.aload_n 0, 1) := by decide +kernel
theorem dX5_init_37 : decode cX5_init 37 = .ok (.bipush 10, 2) := by decide +kernel
theorem dX5_init_39 : decode cX5_init 39 = .ok (.newarray .int, 2) := by decide +kernel
theorem dX5_init_41 : decode cX5_init 41 = .ok (.putfield 24, 3) := by decide +kernel
theorem dX5_init_44 : decode cX5_init 44 = .ok (.aload_n 0, 1) := by decide +kernel
theorem dX5_init_45 : decode cX5_init 45 = .ok (.bipush 10, 2) := by decide +kernel
theorem dX5_init_47 : decode cX5_init 47 = .ok (.newarray .int, 2) := by decide +kernel
theorem dX5_init_49 : decode cX5_init 49 = .ok (.putfield 27, 3) := by decide +kernel
theorem dX5_init_52 : decode cX5_init 52 = .ok (.aload_n 0, 1) := by decide +kernel
theorem dX5_init_53 : decode cX5_init 53 = .ok (.bipush 10, 2) := by decide +kernel
theorem dX5_init_55 : decode cX5_init 55 = .ok (.iconst 5, 1) := by decide +kernel
theorem dX5_init_56 : decode cX5_init 56 = .ok (.multianewarray 30 2, 4) := by decide +kernel
theorem dX5_init_60 : decode cX5_init 60 = .ok (.putfield 32, 3) := by decide +kernel
theorem dX5_init_63 : decode cX5_init 63 = .ok (.aload_n 0, 1) := by decide +kernel
theorem dX5_init_64 : decode cX5_init 64 = .ok (.bipush 10, 2) := by decide +kernel
theorem dX5_init_66 : decode cX5_init 66 = .ok (.iconst 5, 1) := by decide +kernel
theorem dX5_init_67 : decode cX5_init 67 = .ok (.multianewarray 30 2, 4) := by decide +kernel
theorem dX5_init_71 : decode cX5_init 71 = .ok (.putfield 35, 3) := by decide +kernel
theorem dX5_init_74 : decode cX5_init 74 = .ok (.aload_n 0, 1) := by decide +kernel
theorem dX5_init_75 : decode cX5_init 75 = .ok (.bipush 10, 2) := by decide +kernel
theorem dX5_init_77 : decode cX5_init 77 = .ok (.iconst 5, 1) := by decide +kernel
theorem dX5_init_78 : decode cX5_init 78 = .ok (.multianewarray 30 2, 4) := by decide +kernel
theorem dX5_init_82 : decode cX5_init 82 = .ok (.putfield 38, 3) := by decide +kernel
theorem dX5_init_85 : decode cX5_init 85 = .ok (.return_, 1) := by decide +kernel
theorem dX5_add_0 : decode cX5_add 0 = .ok (.aload_n 0, 1) := by decide +kernel
theorem dX5_add_1 : decode cX5_add 1 = .ok (.getfield 41, 3) := by decide +kernel
theorem dX5_add_4 : decode cX5_add 4 = .ok (.bipush 10, 2) := by decide +kernel
theorem dX5_add_6 : decode cX5_add 6 = .ok (.if_icmp .ge 75, 3) := by decide +kernel
theorem dX5_add_9 : decode cX5_add 9 = .ok (.aload_n 0, 1) := by decide +kernel
theorem dX5_add_10 : decode cX5_add 10 = .ok (.getfield 9, 3) := by decide +kernel
theorem dX5_add_13 : decode cX5_add 13 = .ok (.aload_n 0, 1) := by decide +kernel
theorem dX5_add_14 : decode cX5_add 14 = .ok (.getfield 41, 3) := by decide +kernel
theorem dX5_add_17 : decode cX5_add 17 = .ok (.iload_n 1, 1) := by decide +kernel
theorem dX5_add_18 : decode cX5_add 18 = .ok (.iastore, 1) := by decide +kernel
theorem dX5_add_19 : decode cX5_add 19 = .ok (.aload_n 0, 1) := by decide +kernel
theorem dX5_add_20 : decode cX5_add 20 = .ok (.getfield 15, 3) := by decide +kernel
theorem dX5_add_23 : decode cX5_add 23 = .ok (.aload_n 0, 1) := by decide +kernel
theorem dX5_add_24 : decode cX5_add 24 = .ok (.getfield 41, 3) := by decide +kernel
theorem dX5_add_27 : decode cX5_add 27 = .ok (.iload_n 2, 1) := by decide +kernel
theorem dX5_add_28 : decode cX5_add 28 = .ok (.iastore, 1) := by decide +kernel
theorem dX5_add_29 : decode cX5_add 29 = .ok (.aload_n 0, 1) := by decide +kernel
theorem dX5_add_30 : decode cX5_add 30 = .ok (.getfield 18, 3) := by decide +kernel
theorem dX5_add_33 : decode cX5_add 33 = .ok (.aload_n 0, 1) := by decide +kernel
theorem dX5_add_34 : decode cX5_add 34 = .ok (.getfield 41, 3) := by decide +kernel
theorem dX5_add_37 : decode cX5_add 37 = .ok (.iconst 0, 1) := by decide +kernel
theorem dX5_add_38 : decode cX5_add 38 = .ok (.iastore, 1) := by decide +kernel
theorem dX5_add_39 : decode cX5_add 39 = .ok (.aload_n 0, 1) := by decide +kernel
theorem dX5_add_40 : decode cX5_add 40 = .ok (.getfield 21, 3) := by decide +kernel
theorem dX5_add_43 : decode cX5_add 43 = .ok (.aload_n 0, 1) := by decide +kernel
theorem dX5_add_44 : decode cX5_add 44 = .ok (.getfield 41, 3) := by decide +kernel
theorem dX5_add_47 : decode cX5_add 47 = .ok (.iload_n 3, 1) := by decide +kernel
theorem dX5_add_48 : decode cX5_add 48 = .ok (.iastore, 1) := by decide +kernel
theorem dX5_add_49 : decode cX5_add 49 = .ok (.aload_n 0, 1) := by decide +kernel
theorem dX5_add_50 : decode cX5_add 50 = .ok (.getfield 24, 3) := by decide +kernel
theorem dX5_add_53 : decode cX5_add 53 = .ok (.aload_n 0, 1) := by decide +kernel
theorem dX5_add_54 : decode cX5_add 54 = .ok (.getfield 41, 3) := by decide +kernel
theorem dX5_add_57 : decode cX5_add 57 = .ok (.iload 4, 2) := by decide +kernel
theorem dX5_add_59 : decode cX5_add 59 = .ok (.iastore, 1) := by decide +kernel
theorem dX5_add_60 : decode cX5_add 60 = .ok (.aload_n 0, 1) := by decide +kernel
theorem dX5_add_61 : decode cX5_add 61 = .ok (.getfield 27, 3) := by decide +kernel
theorem dX5_add_64 : decode cX5_add 64 = .ok (.aload_n 0, 1) := by decide +kernel
theorem dX5_add_65 : decode cX5_add 65 = .ok (.getfield 41, 3) := by decide +kernel
theorem dX5_add_68 : decode cX5_add 68 = .ok (.bipush (-2), 2) := by decide +kernel
theorem dX5_add_70 : decode cX5_add 70 = .ok (.iastore, 1) := by decide +kernel
theorem dX5_add_71 : decode cX5_add 71 = .ok (.aload_n 0, 1) := by decide +kernel
theorem dX5_add_72 : decode cX5_add 72 = .ok (.dup, 1) := by decide +kernel
theorem dX5_add_73 : decode cX5_add 73 = .ok (.getfield 41, 3) := by decide +kernel
theorem dX5_add_76 : decode cX5_add 76 = .ok (.iconst 1, 1) := by decide +kernel
theorem dX5_add_77 : decode cX5_add 77 = .ok (.iadd, 1) := by decide +kernel
theorem dX5_add_78 : decode cX5_add 78 = .ok (.putfield 41, 3) := by decide +kernel
theorem dX5_add_81 : decode cX5_add 81 = .ok (.return_, 1) := by decide +kernel
theorem dX5_addPin_0 : decode cX5_addPin 0 = .ok (.aload_n 0, 1) := by decide +kernel
theorem dX5_addPin_1 : decode cX5_addPin 1 = .ok (.getfield 18, 3) := by decide +kernel
theorem dX5_addPin_4 : decode cX5_addPin 4 = .ok (.iload_n 1, 1) := by decide +kernel
theorem dX5_addPin_5 : decode cX5_addPin 5 = .ok (.iaload, 1) := by decide +kernel
theorem dX5_addPin_6 : decode cX5_addPin 6 = .ok (.istore 5, 2) := by decide +kernel
theorem dX5_addPin_8 : decode cX5_addPin 8 = .ok (.iload 5, 2) := by decide +kernel
theorem dX5_addPin_10 : decode cX5_addPin 10 = .ok (.iconst 5, 1) := by decide +kernel
theorem dX5_addPin_11 : decode cX5_addPin 11 = .ok (.if_icmp .ge 44, 3) := by decide +kernel
theorem dX5_addPin_14 : decode cX5_addPin 14 = .ok (.aload_n 0, 1) := by decide +kernel
theorem dX5_addPin_15 : decode cX5_addPin 15 = .ok (.getfield 32, 3) := by decide +kernel
theorem dX5_addPin_18 : decode cX5_addPin 18 = .ok (.iload_n 1, 1) := by decide +kernel
theorem dX5_addPin_19 : decode cX5_addPin 19 = .ok (.aaload, 1) := by decide +kernel
theorem dX5_addPin_20 : decode cX5_addPin 20 = .ok (.iload 5, 2) := by decide +kernel
theorem dX5_addPin_22 : decode cX5_addPin 22 = .ok (.iload_n 2, 1) := by decide +kernel
theorem dX5_addPin_23 : decode cX5_addPin 23 = .ok (.iastore, 1) := by decide +kernel
theorem dX5_addPin_24 : decode cX5_addPin 24 = .ok (.aload_n 0, 1) := by decide +kernel
theorem dX5_addPin_25 : decode cX5_addPin 25 = .ok (.getfield 35, 3) := by decide +kernel
theorem dX5_addPin_28 : decode cX5_addPin 28 = .ok (.iload_n 1, 1) := by decide +kernel
theorem dX5_addPin_29 : decode cX5_addPin 29 = .ok (.aaload, 1) := by decide +kernel
theorem dX5_addPin_30 : decode cX5_addPin 30 = .ok (.iload 5, 2) := by decide +kernel
theorem dX5_addPin_32 : decode cX5_addPin 32 = .ok (.iload_n 3, 1) := by decide +kernel
theorem dX5_addPin_33 : decode cX5_addPin 33 = .ok (.iastore, 1) := by decide +kernel
theorem dX5_addPin_34 : decode cX5_addPin 34 = .ok (.aload_n 0, 1) := by decide +kernel
theorem dX5_addPin_35 : decode cX5_addPin 35 = .ok (.getfield 38, 3) := by decide +kernel
theorem dX5_addPin_38 : decode cX5_addPin 38 = .ok (.iload_n 1, 1) := by decide +kernel
theorem dX5_addPin_39 : decode cX5_addPin 39 = .ok (.aaload, 1) := by decide +kernel
theorem dX5_addPin_40 : decode cX5_addPin 40 = .ok (.iload 5, 2) := by decide +kernel
theorem dX5_addPin_42 : decode cX5_addPin 42 = .ok (.iload 4, 2) := by decide +kernel
theorem dX5_addPin_44 : decode cX5_addPin 44 = .ok (.iastore, 1) := by decide +kernel
theorem dX5_addPin_45 : decode cX5_addPin 45 = .ok (.aload_n 0, 1) := by decide +kernel
theorem dX5_addPin_46 : decode cX5_addPin 46 = .ok (.getfield 18, 3) := by decide +kernel
theorem dX5_addPin_49 : decode cX5_addPin 49 = .ok (.iload_n 1, 1) := by decide +kernel
theorem dX5_addPin_50 : decode cX5_addPin 50 = .ok (.iload 5, 2) := by decide +kernel
theorem dX5_addPin_52 : decode cX5_addPin 52 = .ok (.iconst 1, 1) := by decide +kernel
theorem dX5_addPin_53 : decode cX5_addPin 53 = .ok (.iadd, 1) := by decide +kernel
theorem dX5_addPin_54 : decode cX5_addPin 54 = .ok (.iastore, 1) := by decide +kernel
theorem dX5_addPin_55 : decode cX5_addPin 55 = .ok (.return_, 1) := by decide +kernel
theorem dX5_hasPinAt_0 : decode cX5_hasPinAt 0 = .ok (.iconst 0, 1) := by decide +kernel
theorem dX5_hasPinAt_1 : decode cX5_hasPinAt 1 = .ok (.istore 5, 2) := by decide +kernel
theorem dX5_hasPinAt_3 : decode cX5_hasPinAt 3 = .ok (.iload 5, 2) := by decide +kernel
theorem dX5_hasPinAt_5 : decode cX5_hasPinAt 5 = .ok (.aload_n 0, 1) := by decide +kernel
theorem dX5_hasPinAt_6 : decode cX5_hasPinAt 6 = .ok (.getfield 18, 3) := by decide +kernel
theorem dX5_hasPinAt_9 : decode cX5_hasPinAt 9 = .ok (.iload_n 1, 1) := by decide +kernel
theorem dX5_hasPinAt_10 : decode cX5_hasPinAt 10 = .ok (.iaload, 1) := by decide +kernel
theorem dX5_hasPinAt_11 : decode cX5_hasPinAt 11 = .ok (.if_icmp .ge 47, 3) := by decide +kernel
theorem dX5_hasPinAt_14 : decode cX5_hasPinAt 14 = .ok (.iload_n 2, 1) := by decide +kernel
theorem dX5_hasPinAt_15 : decode cX5_hasPinAt 15 = .ok (.iload 5, 2) := by decide +kernel
theorem dX5_hasPinAt_17 : decode cX5_hasPinAt 17 = .ok (.invokestatic 45, 3) := by decide +kernel
theorem dX5_hasPinAt_20 : decode cX5_hasPinAt 20 = .ok (.ifCond .eq 32, 3) := by decide +kernel
theorem dX5_hasPinAt_23 : decode cX5_hasPinAt 23 = .ok (.aload_n 0, 1) := by decide +kernel
theorem dX5_hasPinAt_24 : decode cX5_hasPinAt 24 = .ok (.getfield 32, 3) := by decide +kernel
theorem dX5_hasPinAt_27 : decode cX5_hasPinAt 27 = .ok (.iload_n 1, 1) := by decide +kernel
theorem dX5_hasPinAt_28 : decode cX5_hasPinAt 28 = .ok (.aaload, 1) := by decide +kernel
theorem dX5_hasPinAt_29 : decode cX5_hasPinAt 29 = .ok (.iload 5, 2) := by decide +kernel
theorem dX5_hasPinAt_31 : decode cX5_hasPinAt 31 = .ok (.iaload, 1) := by decide +kernel
theorem dX5_hasPinAt_32 : decode cX5_hasPinAt 32 = .ok (.iload_n 3, 1) := by decide +kernel
theorem dX5_hasPinAt_33 : decode cX5_hasPinAt 33 = .ok (.if_icmp .ne 19, 3) := by decide +kernel
theorem dX5_hasPinAt_36 : decode cX5_hasPinAt 36 = .ok (.aload_n 0, 1) := by decide +kernel
theorem dX5_hasPinAt_37 : decode cX5_hasPinAt 37 = .ok (.getfield 35, 3) := by decide +kernel
theorem dX5_hasPinAt_40 : decode cX5_hasPinAt 40 = .ok (.iload_n 1, 1) := by decide +kernel
theorem dX5_hasPinAt_41 : decode cX5_hasPinAt 41 = .ok (.aaload, 1) := by decide +kernel
theorem dX5_hasPinAt_42 : decode cX5_hasPinAt 42 = .ok (.iload 5, 2) := by decide +kernel
theorem dX5_hasPinAt_44 : decode cX5_hasPinAt 44 = .ok (.iaload, 1) := by decide +kernel
theorem dX5_hasPinAt_45 : decode cX5_hasPinAt 45 = .ok (.iload 4, 2) := by decide +kernel
theorem dX5_hasPinAt_47 : decode cX5_hasPinAt 47 = .ok (.if_icmp .ne 5, 3) := by decide +kernel
theorem dX5_hasPinAt_50 : decode cX5_hasPinAt 50 = .ok (.iconst 1, 1) := by decide +kernel
theorem dX5_hasPinAt_51 : decode cX5_hasPinAt 51 = .ok (.ireturn, 1) := by decide +kernel
theorem dX5_hasPinAt_52 : decode cX5_hasPinAt 52 = .ok (.iinc 5 1, 3) := by decide +kernel
theorem dX5_hasPinAt_55 : decode cX5_hasPinAt 55 = .ok (.goto (-52), 3) := by decide +kernel
theorem dX5_hasPinAt_58 : decode cX5_hasPinAt 58 = .ok (.iconst 0, 1) := by decide +kernel
theorem dX5_hasPinAt_59 : decode cX5_hasPinAt 59 = .ok (.ireturn, 1) := by decide +kernel
theorem dX5_countByHand_0 : decode cX5_countByHand 0 = .ok (.iconst 0, 1) := by decide +kernel
theorem dX5_countByHand_1 : decode cX5_countByHand 1 = .ok (.istore_n 1, 1) := by decide +kernel
theorem dX5_countByHand_2 : decode cX5_countByHand 2 = .ok (.iconst 0, 1) := by decide +kernel
theorem dX5_countByHand_3 : decode cX5_countByHand 3 = .ok (.istore_n 2, 1) := by decide +kernel
theorem dX5_countByHand_4 : decode cX5_countByHand 4 = .ok (.iload_n 2, 1) := by decide +kernel
theorem dX5_countByHand_5 : decode cX5_countByHand 5 = .ok (.aload_n 0, 1) := by decide +kernel
theorem dX5_countByHand_6 : decode cX5_countByHand 6 = .ok (.getfield 41, 3) := by decide +kernel
theorem dX5_countByHand_9 : decode cX5_countByHand 9 = .ok (.if_icmp .ge 23, 3) := by decide +kernel
theorem dX5_countByHand_12 : decode cX5_countByHand 12 = .ok (.aload_n 0, 1) := by decide +kernel
theorem dX5_countByHand_13 : decode cX5_countByHand 13 = .ok (.getfield 27, 3) := by decide +kernel
theorem dX5_countByHand_16 : decode cX5_countByHand 16 = .ok (.iload_n 2, 1) := by decide +kernel
theorem dX5_countByHand_17 : decode cX5_countByHand 17 = .ok (.iaload, 1) := by decide +kernel
theorem dX5_countByHand_18 : decode cX5_countByHand 18 = .ok (.bipush (-2), 2) := by decide +kernel
theorem dX5_countByHand_20 : decode cX5_countByHand 20 = .ok (.if_icmp .eq 6, 3) := by decide +kernel
theorem dX5_countByHand_23 : decode cX5_countByHand 23 = .ok (.iinc 1 1, 3) := by decide +kernel
theorem dX5_countByHand_26 : decode cX5_countByHand 26 = .ok (.iinc 2 1, 3) := by decide +kernel
theorem dX5_countByHand_29 : decode cX5_countByHand 29 = .ok (.goto (-25), 3) := by decide +kernel
theorem dX5_countByHand_32 : decode cX5_countByHand 32 = .ok (.iload_n 1, 1) := by decide +kernel
theorem dX5_countByHand_33 : decode cX5_countByHand 33 = .ok (.ireturn, 1) := by decide +kernel
theorem dX6_init_0 : decode cX6_init 0 = .ok (.aload_n 0, 1) := by decide +kernel
theorem dX6_init_1 : decode cX6_init 1 = .ok (.invokespecial 3, 3) := by decide +kernel
theorem dX6_init_4 : decode cX6_init 4 = .ok (.aload_n 0, 1) := by decide +kernel
theorem dX6_init_5 : decode cX6_init 5 = .ok (.bipush 8, 2) := by decide +kernel
theorem dX6_init_7 : decode cX6_init 7 = .ok (.newarray .int, 2) := by decide +kernel
theorem dX6_init_9 : decode cX6_init 9 = .ok (.putfield 9, 3) := by decide +kernel
theorem dX6_init_12 : decode cX6_init 12 = .ok (.aload_n 0, 1) := by decide +kernel
theorem dX6_init_13 : decode cX6_init 13 = .ok (.bipush 8, 2) := by decide +kernel
theorem dX6_init_15 : decode cX6_init 15 = .ok (.newarray .int, 2) := by decide +kernel
theorem dX6_init_17 : decode cX6_init 17 = .ok (.putfield 15, 3) := by decide +kernel
theorem dX6_init_20 : decode cX6_init 20 = .ok (.aload_n 0, 1) := by decide +kernel
theorem dX6_init_21 : decode cX6_init 21 = .ok (.bipush 8, 2) := by decide +kernel
theorem dX6_init_23 : decode cX6_init 23 = .ok (.newarray .int, 2) := by decide +kernel
theorem dX6_init_25 : decode cX6_init 25 = .ok (.putfield 18, 3) := by decide +kernel
theorem dX6_init_28 : decode cX6_init 28 = .ok (.aload_n 0, 1) := by decide +kernel
theorem dX6_init_29 : decode cX6_init 29 = .ok (.bipush 8, 2) := by decide +kernel
theorem dX6_init_31 : decode cX6_init 31 = .ok (.newarray .int, 2) := by decide +kernel
theorem dX6_init_33 : decode cX6_init 33 = .ok (.putfield 21, 3) := by decide +kernel
theorem dX6_init_36 : decode cX6_init 36 = .ok (.aload_n 0, 1) := by decide +kernel
theorem dX6_init_37 : decode cX6_init 37 = .ok (.bipush 8, 2) := by decide +kernel
theorem dX6_init_39 : decode cX6_init 39 = .ok (.newarray .int, 2) := by decide +kernel
theorem dX6_init_41 : decode cX6_init 41 = .ok (.putfield 24, 3) := by decide +kernel
theorem dX6_init_44 : decode cX6_init 44 = .ok (.aload_n 0, 1) := by decide +kernel
theorem dX6_init_45 : decode cX6_init 45 = .ok (.bipush 8, 2) := by decide +kernel
theorem dX6_init_47 : decode cX6_init 47 = .ok (.newarray .int, 2) := by decide +kernel
theorem dX6_init_49 : decode cX6_init 49 = .ok (.putfield 27, 3) := by decide +kernel
theorem dX6_init_52 : decode cX6_init 52 = .ok (.return_, 1) := by decide +kernel
theorem dX6_add_0 : decode cX6_add 0 = .ok (.aload_n 0, 1) := by decide +kernel
theorem dX6_add_1 : decode cX6_add 1 = .ok (.getfield 30, 3) := by decide +kernel
theorem dX6_add_4 : decode cX6_add 4 = .ok (.bipush 8, 2) := by decide +kernel
theorem dX6_add_6 : decode cX6_add 6 = .ok (.if_icmp .ge 76, 3) := by decide +kernel
theorem dX6_add_9 : decode cX6_add 9 = .ok (.aload_n 0, 1) := by decide +kernel
theorem dX6_add_10 : decode cX6_add 10 = .ok (.getfield 9, 3) := by decide +kernel
theorem dX6_add_13 : decode cX6_add 13 = .ok (.aload_n 0, 1) := by decide +kernel
theorem dX6_add_14 : decode cX6_add 14 = .ok (.getfield 30, 3) := by decide +kernel
theorem dX6_add_17 : decode cX6_add 17 = .ok (.iload_n 1, 1) := by decide +kernel
theorem dX6_add_18 : decode cX6_add 18 = .ok (.iastore, 1) := by decide +kernel
theorem dX6_add_19 : decode cX6_add 19 = .ok (.aload_n 0, 1) := by decide +kernel
theorem dX6_add_20 : decode cX6_add 20 = .ok (.getfield 15, 3) := by decide +kernel
theorem dX6_add_23 : decode cX6_add 23 = .ok (.aload_n 0, 1) := by decide +kernel
theorem dX6_add_24 : decode cX6_add 24 = .ok (.getfield 30, 3) := by decide +kernel
theorem dX6_add_27 : decode cX6_add 27 = .ok (.iload_n 2, 1) := by decide +kernel
theorem dX6_add_28 : decode cX6_add 28 = .ok (.iastore, 1) := by decide +kernel
theorem dX6_add_29 : decode cX6_add 29 = .ok (.aload_n 0, 1) := by decide +kernel
theorem dX6_add_30 : decode cX6_add 30 = .ok (.getfield 18, 3) := by decide +kernel
theorem dX6_add_33 : decode cX6_add 33 = .ok (.aload_n 0, 1) := by decide +kernel
theorem dX6_add_34 : decode cX6_add 34 = .ok (.getfield 30, 3) := by decide +kernel
theorem dX6_add_37 : decode cX6_add 37 = .ok (.iload_n 3, 1) := by decide +kernel
theorem dX6_add_38 : decode cX6_add 38 = .ok (.iastore, 1) := by decide +kernel
theorem dX6_add_39 : decode cX6_add 39 = .ok (.aload_n 0, 1) := by decide +kernel
theorem dX6_add_40 : decode cX6_add 40 = .ok (.getfield 21, 3) := by decide +kernel
theorem dX6_add_43 : decode cX6_add 43 = .ok (.aload_n 0, 1) := by decide +kernel
theorem dX6_add_44 : decode cX6_add 44 = .ok (.getfield 30, 3) := by decide +kernel
theorem dX6_add_47 : decode cX6_add 47 = .ok (.iload 4, 2) := by decide +kernel
theorem dX6_add_49 : decode cX6_add 49 = .ok (.iastore, 1) := by decide +kernel
theorem dX6_add_50 : decode cX6_add 50 = .ok (.aload_n 0, 1) := by decide +kernel
theorem dX6_add_51 : decode cX6_add 51 = .ok (.getfield 24, 3) := by decide +kernel
theorem dX6_add_54 : decode cX6_add 54 = .ok (.aload_n 0, 1) := by decide +kernel
theorem dX6_add_55 : decode cX6_add 55 = .ok (.getfield 30, 3) := by decide +kernel
theorem dX6_add_58 : decode cX6_add 58 = .ok (.iload 5, 2) := by decide +kernel
theorem dX6_add_60 : decode cX6_add 60 = .ok (.iastore, 1) := by decide +kernel
theorem dX6_add_61 : decode cX6_add 61 = .ok (.aload_n 0, 1) := by decide +kernel
theorem dX6_add_62 : decode cX6_add 62 = .ok (.getfield 27, 3) := by decide +kernel
theorem dX6_add_65 : decode cX6_add 65 = .ok (.aload_n 0, 1) := by decide +kernel
theorem dX6_add_66 : decode cX6_add 66 = .ok (.getfield 30, 3) := by decide +kernel
theorem dX6_add_69 : decode cX6_add 69 = .ok (.iload 6, 2) := by decide +kernel
theorem dX6_add_71 : decode cX6_add 71 = .ok (.iastore, 1) := by decide +kernel
theorem dX6_add_72 : decode cX6_add 72 = .ok (.aload_n 0, 1) := by decide +kernel
theorem dX6_add_73 : decode cX6_add 73 = .ok (.dup, 1) := by decide +kernel
theorem dX6_add_74 : decode cX6_add 74 = .ok (.getfield 30, 3) := by decide +kernel
theorem dX6_add_77 : decode cX6_add 77 = .ok (.iconst 1, 1) := by decide +kernel
theorem dX6_add_78 : decode cX6_add 78 = .ok (.iadd, 1) := by decide +kernel
theorem dX6_add_79 : decode cX6_add 79 = .ok (.putfield 30, 3) := by decide +kernel
theorem dX6_add_82 : decode cX6_add 82 = .ok (.return_, 1) := by decide +kernel
theorem dX7_init_0 : decode cX7_init 0 = .ok (.aload_n 0, 1) := by decide +kernel
theorem dX7_init_1 : decode cX7_init 1 = .ok (.invokespecial 3, 3) := by decide +kernel
theorem dX7_init_4 : decode cX7_init 4 = .ok (.aload_n 0, 1) := by decide +kernel
theorem dX7_init_5 : decode cX7_init 5 = .ok (.aload_n 1, 1) := by decide +kernel
theorem dX7_init_6 : decode cX7_init 6 = .ok (.putfield 9, 3) := by decide +kernel
theorem dX7_init_9 : decode cX7_init 9 = .ok (.aload_n 0, 1) := by decide +kernel
theorem dX7_init_10 : decode cX7_init 10 = .ok (.aload_n 2, 1) := by decide +kernel
theorem dX7_init_11 : decode cX7_init 11 = .ok (.putfield 15, 3) := by decide +kernel
theorem dX7_init_14 : decode cX7_init 14 = .ok (.return_, 1) := by decide +kernel
theorem dX7_readAll_0 : decode cX7_readAll 0 = .ok (.iconst 0, 1) := by decide +kernel
theorem dX7_readAll_1 : decode cX7_readAll 1 = .ok (.istore_n 1, 1) := by decide +kernel
theorem dX7_readAll_2 : decode cX7_readAll 2 = .ok (.iload_n 1, 1) := by decide +kernel
theorem dX7_readAll_3 : decode cX7_readAll 3 = .ok (.sipush 1000, 3) := by decide +kernel
theorem dX7_readAll_6 : decode cX7_readAll 6 = .ok (.if_icmp .gt 65, 3) := by decide +kernel
theorem dX7_readAll_9 : decode cX7_readAll 9 = .ok (.aload_n 0, 1) := by decide +kernel
theorem dX7_readAll_10 : decode cX7_readAll 10 = .ok (.invokevirtual 19, 3) := by decide +kernel
theorem dX7_readAll_13 : decode cX7_readAll 13 = .ok (.ifCond .ne 5, 3) := by decide +kernel
theorem dX7_readAll_16 : decode cX7_readAll 16 = .ok (.iconst 0, 1) := by decide +kernel
theorem dX7_readAll_17 : decode cX7_readAll 17 = .ok (.ireturn, 1) := by decide +kernel
theorem dX7_readAll_18 : decode cX7_readAll 18 = .ok (.aload_n 0, 1) := by decide +kernel
theorem dX7_readAll_19 : decode cX7_readAll 19 = .ok (.bipush 6, 2) := by decide +kernel
theorem dX7_readAll_21 : decode cX7_readAll 21 = .ok (.invokevirtual 25, 3) := by decide +kernel
theorem dX7_readAll_24 : decode cX7_readAll 24 = .ok (.ifCond .eq 31, 3) := by decide +kernel
theorem dX7_readAll_27 : decode cX7_readAll 27 = .ok (.aload_n 0, 1) := by decide +kernel
theorem dX7_readAll_28 : decode cX7_readAll 28 = .ok (.getfield 15, 3) := by decide +kernel
theorem dX7_readAll_31 : decode cX7_readAll 31 = .ok (.getfield 29, 3) := by decide +kernel
theorem dX7_readAll_34 : decode cX7_readAll 34 = .ok (.getfield 35, 3) := by decide +kernel
theorem dX7_readAll_37 : decode cX7_readAll 37 = .ok (.ifCond .gt 12, 3) := by decide +kernel
theorem dX7_readAll_40 : decode cX7_readAll 40 = .ok (.aload_n 0, 1) := by decide +kernel
theorem dX7_readAll_41 : decode cX7_readAll 41 = .ok (.bipush 6, 2) := by decide +kernel
theorem dX7_readAll_43 : decode cX7_readAll 43 = .ok (.invokevirtual 41, 3) := by decide +kernel
theorem dX7_readAll_46 : decode cX7_readAll 46 = .ok (.ifCond .eq 7, 3) := by decide +kernel
theorem dX7_readAll_49 : decode cX7_readAll 49 = .ok (.iconst 1, 1) := by decide +kernel
theorem dX7_readAll_50 : decode cX7_readAll 50 = .ok (.goto 4, 3) := by decide +kernel
theorem dX7_readAll_53 : decode cX7_readAll 53 = .ok (.iconst 0, 1) := by decide +kernel
theorem dX7_readAll_54 : decode cX7_readAll 54 = .ok (.ireturn, 1) := by decide +kernel
theorem dX7_readAll_55 : decode cX7_readAll 55 = .ok (.aload_n 0, 1) := by decide +kernel
theorem dX7_readAll_56 : decode cX7_readAll 56 = .ok (.dup, 1) := by decide +kernel
theorem dX7_readAll_57 : decode cX7_readAll 57 = .ok (.getfield 44, 3) := by decide +kernel
theorem dX7_readAll_60 : decode cX7_readAll 60 = .ok (.iconst 1, 1) := by decide +kernel
theorem dX7_readAll_61 : decode cX7_readAll 61 = .ok (.iadd, 1) := by decide +kernel
theorem dX7_readAll_62 : decode cX7_readAll 62 = .ok (.putfield 44, 3) := by decide +kernel
theorem dX7_readAll_65 : decode cX7_readAll 65 = .ok (.iinc 1 1, 3) := by decide +kernel
theorem dX7_readAll_68 : decode cX7_readAll 68 = .ok (.goto (-66), 3) := by decide +kernel
theorem dX7_readAll_71 : decode cX7_readAll 71 = .ok (.aload_n 0, 1) := by decide +kernel
theorem dX7_readAll_72 : decode cX7_readAll 72 = .ok (.iconst 1, 1) := by decide +kernel
theorem dX7_readAll_73 : decode cX7_readAll 73 = .ok (.invokevirtual 41, 3) := by decide +kernel
theorem dX7_readAll_76 : decode cX7_readAll 76 = .ok (.ireturn, 1) := by decide +kernel
theorem dX7_placeOfFault_0 : decode cX7_placeOfFault 0 = .ok (.aload_n 0, 1) := by decide +kernel
theorem dX7_placeOfFault_1 : decode cX7_placeOfFault 1 = .ok (.getfield 9, 3) := by decide +kernel
theorem dX7_placeOfFault_4 : decode cX7_placeOfFault 4 = .ok (.aload_n 0, 1) := by decide +kernel
theorem dX7_placeOfFault_5 : decode cX7_placeOfFault 5 = .ok (.getfield 44, 3) := by decide +kernel
theorem dX7_placeOfFault_8 : decode cX7_placeOfFault 8 = .ok (.invokevirtual 47, 3) := by decide +kernel
theorem dX7_placeOfFault_11 : decode cX7_placeOfFault 11 = .ok (.ireturn, 1) := by decide +kernel
theorem dX7_fail_0 : decode cX7_fail 0 = .ok (.aload_n 0, 1) := by decide +kernel
theorem dX7_fail_1 : decode cX7_fail 1 = .ok (.iload_n 1, 1) := by decide +kernel
theorem dX7_fail_2 : decode cX7_fail 2 = .ok (.putfield 51, 3) := by decide +kernel
theorem dX7_fail_5 : decode cX7_fail 5 = .ok (.iconst 0, 1) := by decide +kernel
theorem dX7_fail_6 : decode cX7_fail 6 = .ok (.ireturn, 1) := by decide +kernel
theorem dX7_sees_0 : decode cX7_sees 0 = .ok (.aload_n 0, 1) := by decide +kernel
theorem dX7_sees_1 : decode cX7_sees 1 = .ok (.getfield 9, 3) := by decide +kernel
theorem dX7_sees_4 : decode cX7_sees 4 = .ok (.aload_n 0, 1) := by decide +kernel
theorem dX7_sees_5 : decode cX7_sees 5 = .ok (.getfield 44, 3) := by decide +kernel
theorem dX7_sees_8 : decode cX7_sees 8 = .ok (.invokevirtual 54, 3) := by decide +kernel
theorem dX7_sees_11 : decode cX7_sees 11 = .ok (.iload_n 1, 1) := by decide +kernel
theorem dX7_sees_12 : decode cX7_sees 12 = .ok (.if_icmp .ne 7, 3) := by decide +kernel
theorem dX7_sees_15 : decode cX7_sees 15 = .ok (.iconst 1, 1) := by decide +kernel
theorem dX7_sees_16 : decode cX7_sees 16 = .ok (.goto 4, 3) := by decide +kernel
theorem dX7_sees_19 : decode cX7_sees 19 = .ok (.iconst 0, 1) := by decide +kernel
theorem dX7_sees_20 : decode cX7_sees 20 = .ok (.ireturn, 1) := by decide +kernel
theorem dX7_reads_0 : decode cX7_reads 0 = .ok (.aload_n 0, 1) := by decide +kernel
theorem dX7_reads_1 : decode cX7_reads 1 = .ok (.getfield 9, 3) := by decide +kernel
theorem dX7_reads_4 : decode cX7_reads 4 = .ok (.aload_n 0, 1) := by decide +kernel
theorem dX7_reads_5 : decode cX7_reads 5 = .ok (.getfield 44, 3) := by decide +kernel
theorem dX7_reads_8 : decode cX7_reads 8 = .ok (.invokevirtual 54, 3) := by decide +kernel
theorem dX7_reads_11 : decode cX7_reads 11 = .ok (.istore_n 2, 1) := by decide +kernel
theorem dX7_reads_12 : decode cX7_reads 12 = .ok (.iload_n 2, 1) := by decide +kernel
theorem dX7_reads_13 : decode cX7_reads 13 = .ok (.iconst 1, 1) := by decide +kernel
theorem dX7_reads_14 : decode cX7_reads 14 = .ok (.if_icmp .eq 8, 3) := by decide +kernel
theorem dX7_reads_17 : decode cX7_reads 17 = .ok (.iload_n 2, 1) := by decide +kernel
theorem dX7_reads_18 : decode cX7_reads 18 = .ok (.iconst 2, 1) := by decide +kernel
theorem dX7_reads_19 : decode cX7_reads 19 = .ok (.if_icmp .ne 26, 3) := by decide +kernel
theorem dX7_reads_22 : decode cX7_reads 22 = .ok (.aload_n 0, 1) := by decide +kernel
theorem dX7_reads_23 : decode cX7_reads 23 = .ok (.getfield 9, 3) := by decide +kernel
theorem dX7_reads_26 : decode cX7_reads 26 = .ok (.aload_n 0, 1) := by decide +kernel
theorem dX7_reads_27 : decode cX7_reads 27 = .ok (.getfield 44, 3) := by decide +kernel
theorem dX7_reads_30 : decode cX7_reads 30 = .ok (.invokevirtual 57, 3) := by decide +kernel
theorem dX7_reads_33 : decode cX7_reads 33 = .ok (.aload_n 1, 1) := by decide +kernel
theorem dX7_reads_34 : decode cX7_reads 34 = .ok (.invokestatic 61, 3) := by decide +kernel
theorem dX7_reads_37 : decode cX7_reads 37 = .ok (.lcmp, 1) := by decide +kernel
theorem dX7_reads_38 : decode cX7_reads 38 = .ok (.ifCond .ne 7, 3) := by decide +kernel
theorem dX7_reads_41 : decode cX7_reads 41 = .ok (.iconst 1, 1) := by decide +kernel
theorem dX7_reads_42 : decode cX7_reads 42 = .ok (.goto 4, 3) := by decide +kernel
theorem dX7_reads_45 : decode cX7_reads 45 = .ok (.iconst 0, 1) := by decide +kernel
theorem dX7_reads_46 : decode cX7_reads 46 = .ok (.ireturn, 1) := by decide +kernel
theorem dX7_take_0 : decode cX7_take 0 = .ok (.aload_n 0, 1) := by decide +kernel
theorem dX7_take_1 : decode cX7_take 1 = .ok (.aload_n 1, 1) := by decide +kernel
theorem dX7_take_2 : decode cX7_take 2 = .ok (.invokevirtual 65, 3) := by decide +kernel
theorem dX7_take_5 : decode cX7_take 5 = .ok (.ifCond .ne 9, 3) := by decide +kernel
theorem dX7_take_8 : decode cX7_take 8 = .ok (.aload_n 0, 1) := by decide +kernel
theorem dX7_take_9 : decode cX7_take 9 = .ok (.iconst 1, 1) := by decide +kernel
theorem dX7_take_10 : decode cX7_take 10 = .ok (.invokevirtual 41, 3) := by decide +kernel
theorem dX7_take_13 : decode cX7_take 13 = .ok (.ireturn, 1) := by decide +kernel
theorem dX7_take_14 : decode cX7_take 14 = .ok (.aload_n 0, 1) := by decide +kernel
theorem dX7_take_15 : decode cX7_take 15 = .ok (.dup, 1) := by decide +kernel
theorem dX7_take_16 : decode cX7_take 16 = .ok (.getfield 44, 3) := by decide +kernel
theorem dX7_take_19 : decode cX7_take 19 = .ok (.iconst 1, 1) := by decide +kernel
theorem dX7_take_20 : decode cX7_take 20 = .ok (.iadd, 1) := by decide +kernel
theorem dX7_take_21 : decode cX7_take 21 = .ok (.putfield 44, 3) := by decide +kernel
theorem dX7_take_24 : decode cX7_take 24 = .ok (.iconst 1, 1) := by decide +kernel
theorem dX7_take_25 : decode cX7_take 25 = .ok (.ireturn, 1) := by decide +kernel
theorem dX7_takeWhole_0 : decode cX7_takeWhole 0 = .ok (.aload_n 0, 1) := by decide +kernel
theorem dX7_takeWhole_1 : decode cX7_takeWhole 1 = .ok (.iconst 3, 1) := by decide +kernel
theorem dX7_takeWhole_2 : decode cX7_takeWhole 2 = .ok (.invokevirtual 25, 3) := by decide +kernel
theorem dX7_takeWhole_5 : decode cX7_takeWhole 5 = .ok (.ifCond .ne 11, 3) := by decide +kernel
theorem dX7_takeWhole_8 : decode cX7_takeWhole 8 = .ok (.aload_n 0, 1) := by decide +kernel
theorem dX7_takeWhole_9 : decode cX7_takeWhole 9 = .ok (.iconst 1, 1) := by decide +kernel
theorem dX7_takeWhole_10 : decode cX7_takeWhole 10 = .ok (.invokevirtual 41, 3) := by decide +kernel
theorem dX7_takeWhole_13 : decode cX7_takeWhole 13 = .ok (.pop, 1) := by decide +kernel
theorem dX7_takeWhole_14 : decode cX7_takeWhole 14 = .ok (.iconst (-1), 1) := by decide +kernel
theorem dX7_takeWhole_15 : decode cX7_takeWhole 15 = .ok (.ireturn, 1) := by decide +kernel
theorem dX7_takeWhole_16 : decode cX7_takeWhole 16 = .ok (.aload_n 0, 1) := by decide +kernel
theorem dX7_takeWhole_17 : decode cX7_takeWhole 17 = .ok (.getfield 9, 3) := by decide +kernel
theorem dX7_takeWhole_20 : decode cX7_takeWhole 20 = .ok (.aload_n 0, 1) := by decide +kernel
theorem dX7_takeWhole_21 : decode cX7_takeWhole 21 = .ok (.getfield 44, 3) := by decide +kernel
theorem dX7_takeWhole_24 : decode cX7_takeWhole 24 = .ok (.invokevirtual 57, 3) := by decide +kernel
theorem dX7_takeWhole_27 : decode cX7_takeWhole 27 = .ok (.l2i, 1) := by decide +kernel
theorem dX7_takeWhole_28 : decode cX7_takeWhole 28 = .ok (.istore_n 3, 1) := by decide +kernel
theorem dX7_takeWhole_29 : decode cX7_takeWhole 29 = .ok (.iload_n 3, 1) := by decide +kernel
theorem dX7_takeWhole_30 : decode cX7_takeWhole 30 = .ok (.iload_n 1, 1) := by decide +kernel
theorem dX7_takeWhole_31 : decode cX7_takeWhole 31 = .ok (.if_icmp .lt 8, 3) := by decide +kernel
theorem dX7_takeWhole_34 : decode cX7_takeWhole 34 = .ok (.iload_n 3, 1) := by decide +kernel
theorem dX7_takeWhole_35 : decode cX7_takeWhole 35 = .ok (.iload_n 2, 1) := by decide +kernel
theorem dX7_takeWhole_36 : decode cX7_takeWhole 36 = .ok (.if_icmp .le 11, 3) := by decide +kernel
theorem dX7_takeWhole_39 : decode cX7_takeWhole 39 = .ok (.aload_n 0, 1) := by decide +kernel
theorem dX7_takeWhole_40 : decode cX7_takeWhole 40 = .ok (.iconst 4, 1) := by decide +kernel
theorem dX7_takeWhole_41 : decode cX7_takeWhole 41 = .ok (.invokevirtual 41, 3) := by decide +kernel
theorem dX7_takeWhole_44 : decode cX7_takeWhole 44 = .ok (.pop, 1) := by decide +kernel
theorem dX7_takeWhole_45 : decode cX7_takeWhole 45 = .ok (.iconst (-1), 1) := by decide +kernel
theorem dX7_takeWhole_46 : decode cX7_takeWhole 46 = .ok (.ireturn, 1) := by decide +kernel
theorem dX7_takeWhole_47 : decode cX7_takeWhole 47 = .ok (.aload_n 0, 1) := by decide +kernel
theorem dX7_takeWhole_48 : decode cX7_takeWhole 48 = .ok (.dup, 1) := by decide +kernel
theorem dX7_takeWhole_49 : decode cX7_takeWhole 49 = .ok (.getfield 44, 3) := by decide +kernel
theorem dX7_takeWhole_52 : decode cX7_takeWhole 52 = .ok (.iconst 1, 1) := by decide +kernel
theorem dX7_takeWhole_53 : decode cX7_takeWhole 53 = .ok (.iadd, 1) := by decide +kernel
theorem dX7_takeWhole_54 : decode cX7_takeWhole 54 = .ok (.putfield 44, 3) := by decide +kernel
theorem dX7_takeWhole_57 : decode cX7_takeWhole 57 = .ok (.iload_n 3, 1) := by decide +kernel
theorem dX7_takeWhole_58 : decode cX7_takeWhole 58 = .ok (.ireturn, 1) := by decide +kernel
theorem dX7_takeNewName_0 : decode cX7_takeNewName 0 = .ok (.aload_n 0, 1) := by decide +kernel
theorem dX7_takeNewName_1 : decode cX7_takeNewName 1 = .ok (.iconst 1, 1) := by decide +kernel
theorem dX7_takeNewName_2 : decode cX7_takeNewName 2 = .ok (.invokevirtual 25, 3) := by decide +kernel
theorem dX7_takeNewName_5 : decode cX7_takeNewName 5 = .ok (.ifCond .ne 11, 3) := by decide +kernel
theorem dX7_takeNewName_8 : decode cX7_takeNewName 8 = .ok (.aload_n 0, 1) := by decide +kernel
theorem dX7_takeNewName_9 : decode cX7_takeNewName 9 = .ok (.iconst 1, 1) := by decide +kernel
theorem dX7_takeNewName_10 : decode cX7_takeNewName 10 = .ok (.invokevirtual 41, 3) := by decide +kernel
theorem dX7_takeNewName_13 : decode cX7_takeNewName 13 = .ok (.pop, 1) := by decide +kernel
theorem dX7_takeNewName_14 : decode cX7_takeNewName 14 = .ok (.lconst 0, 1) := by decide +kernel
theorem dX7_takeNewName_15 : decode cX7_takeNewName 15 = .ok (.lreturn, 1) := by decide +kernel
theorem dX7_takeNewName_16 : decode cX7_takeNewName 16 = .ok (.aload_n 0, 1) := by decide +kernel
theorem dX7_takeNewName_17 : decode cX7_takeNewName 17 = .ok (.getfield 9, 3) := by decide +kernel
theorem dX7_takeNewName_20 : decode cX7_takeNewName 20 = .ok (.aload_n 0, 1) := by decide +kernel
theorem dX7_takeNewName_21 : decode cX7_takeNewName 21 = .ok (.getfield 44, 3) := by decide +kernel
theorem dX7_takeNewName_24 : decode cX7_takeNewName 24 = .ok (.invokevirtual 57, 3) := by decide +kernel
theorem dX7_takeNewName_27 : decode cX7_takeNewName 27 = .ok (.lstore_n 1, 1) := by decide +kernel
theorem dX7_takeNewName_28 : decode cX7_takeNewName 28 = .ok (.aload_n 0, 1) := by decide +kernel
theorem dX7_takeNewName_29 : decode cX7_takeNewName 29 = .ok (.getfield 15, 3) := by decide +kernel
theorem dX7_takeNewName_32 : decode cX7_takeNewName 32 = .ok (.lload_n 1, 1) := by decide +kernel
theorem dX7_takeNewName_33 : decode cX7_takeNewName 33 = .ok (.invokevirtual 69, 3) := by decide +kernel
theorem dX7_takeNewName_36 : decode cX7_takeNewName 36 = .ok (.ifCond .lt 11, 3) := by decide +kernel
theorem dX7_takeNewName_39 : decode cX7_takeNewName 39 = .ok (.aload_n 0, 1) := by decide +kernel
theorem dX7_takeNewName_40 : decode cX7_takeNewName 40 = .ok (.iconst 3, 1) := by decide +kernel
theorem dX7_takeNewName_41 : decode cX7_takeNewName 41 = .ok (.invokevirtual 41, 3) := by decide +kernel
theorem dX7_takeNewName_44 : decode cX7_takeNewName 44 = .ok (.pop, 1) := by decide +kernel
theorem dX7_takeNewName_45 : decode cX7_takeNewName 45 = .ok (.lconst 0, 1) := by decide +kernel
theorem dX7_takeNewName_46 : decode cX7_takeNewName 46 = .ok (.lreturn, 1) := by decide +kernel
theorem dX7_takeNewName_47 : decode cX7_takeNewName 47 = .ok (.aload_n 0, 1) := by decide +kernel
theorem dX7_takeNewName_48 : decode cX7_takeNewName 48 = .ok (.dup, 1) := by decide +kernel
theorem dX7_takeNewName_49 : decode cX7_takeNewName 49 = .ok (.getfield 44, 3) := by decide +kernel
theorem dX7_takeNewName_52 : decode cX7_takeNewName 52 = .ok (.iconst 1, 1) := by decide +kernel
theorem dX7_takeNewName_53 : decode cX7_takeNewName 53 = .ok (.iadd, 1) := by decide +kernel
theorem dX7_takeNewName_54 : decode cX7_takeNewName 54 = .ok (.putfield 44, 3) := by decide +kernel
theorem dX7_takeNewName_57 : decode cX7_takeNewName 57 = .ok (.lload_n 1, 1) := by decide +kernel
theorem dX7_takeNewName_58 : decode cX7_takeNewName 58 = .ok (.lreturn, 1) := by decide +kernel
theorem dX7_takeNamed_0 : decode cX7_takeNamed 0 = .ok (.aload_n 0, 1) := by decide +kernel
theorem dX7_takeNamed_1 : decode cX7_takeNamed 1 = .ok (.iconst 1, 1) := by decide +kernel
theorem dX7_takeNamed_2 : decode cX7_takeNamed 2 = .ok (.invokevirtual 25, 3) := by decide +kernel
theorem dX7_takeNamed_5 : decode cX7_takeNamed 5 = .ok (.ifCond .ne 11, 3) := by decide +kernel
theorem dX7_takeNamed_8 : decode cX7_takeNamed 8 = .ok (.aload_n 0, 1) := by decide +kernel
theorem dX7_takeNamed_9 : decode cX7_takeNamed 9 = .ok (.iconst 1, 1) := by decide +kernel
theorem dX7_takeNamed_10 : decode cX7_takeNamed 10 = .ok (.invokevirtual 41, 3) := by decide +kernel
theorem dX7_takeNamed_13 : decode cX7_takeNamed 13 = .ok (.pop, 1) := by decide +kernel
theorem dX7_takeNamed_14 : decode cX7_takeNamed 14 = .ok (.iconst (-1), 1) := by decide +kernel
theorem dX7_takeNamed_15 : decode cX7_takeNamed 15 = .ok (.ireturn, 1) := by decide +kernel
theorem dX7_takeNamed_16 : decode cX7_takeNamed 16 = .ok (.aload_n 0, 1) := by decide +kernel
theorem dX7_takeNamed_17 : decode cX7_takeNamed 17 = .ok (.getfield 15, 3) := by decide +kernel
theorem dX7_takeNamed_20 : decode cX7_takeNamed 20 = .ok (.aload_n 0, 1) := by decide +kernel
theorem dX7_takeNamed_21 : decode cX7_takeNamed 21 = .ok (.getfield 9, 3) := by decide +kernel
theorem dX7_takeNamed_24 : decode cX7_takeNamed 24 = .ok (.aload_n 0, 1) := by decide +kernel
theorem dX7_takeNamed_25 : decode cX7_takeNamed 25 = .ok (.getfield 44, 3) := by decide +kernel
theorem dX7_takeNamed_28 : decode cX7_takeNamed 28 = .ok (.invokevirtual 57, 3) := by decide +kernel
theorem dX7_takeNamed_31 : decode cX7_takeNamed 31 = .ok (.invokevirtual 69, 3) := by decide +kernel
theorem dX7_takeNamed_34 : decode cX7_takeNamed 34 = .ok (.istore_n 2, 1) := by decide +kernel
theorem dX7_takeNamed_35 : decode cX7_takeNamed 35 = .ok (.iload_n 2, 1) := by decide +kernel
theorem dX7_takeNamed_36 : decode cX7_takeNamed 36 = .ok (.iload_n 1, 1) := by decide +kernel
theorem dX7_takeNamed_37 : decode cX7_takeNamed 37 = .ok (.if_icmp .lt 11, 3) := by decide +kernel
theorem dX7_takeNamed_40 : decode cX7_takeNamed 40 = .ok (.iload_n 2, 1) := by decide +kernel
theorem dX7_takeNamed_41 : decode cX7_takeNamed 41 = .ok (.iload_n 1, 1) := by decide +kernel
theorem dX7_takeNamed_42 : decode cX7_takeNamed 42 = .ok (.bipush 100, 2) := by decide +kernel
theorem dX7_takeNamed_44 : decode cX7_takeNamed 44 = .ok (.iadd, 1) := by decide +kernel
theorem dX7_takeNamed_45 : decode cX7_takeNamed 45 = .ok (.if_icmp .lt 11, 3) := by decide +kernel
theorem dX7_takeNamed_48 : decode cX7_takeNamed 48 = .ok (.aload_n 0, 1) := by decide +kernel
theorem dX7_takeNamed_49 : decode cX7_takeNamed 49 = .ok (.iconst 2, 1) := by decide +kernel
theorem dX7_takeNamed_50 : decode cX7_takeNamed 50 = .ok (.invokevirtual 41, 3) := by decide +kernel
theorem dX7_takeNamed_53 : decode cX7_takeNamed 53 = .ok (.pop, 1) := by decide +kernel
theorem dX7_takeNamed_54 : decode cX7_takeNamed 54 = .ok (.iconst (-1), 1) := by decide +kernel
theorem dX7_takeNamed_55 : decode cX7_takeNamed 55 = .ok (.ireturn, 1) := by decide +kernel
theorem dX7_takeNamed_56 : decode cX7_takeNamed 56 = .ok (.aload_n 0, 1) := by decide +kernel
theorem dX7_takeNamed_57 : decode cX7_takeNamed 57 = .ok (.dup, 1) := by decide +kernel
theorem dX7_takeNamed_58 : decode cX7_takeNamed 58 = .ok (.getfield 44, 3) := by decide +kernel
theorem dX7_takeNamed_61 : decode cX7_takeNamed 61 = .ok (.iconst 1, 1) := by decide +kernel
theorem dX7_takeNamed_62 : decode cX7_takeNamed 62 = .ok (.iadd, 1) := by decide +kernel
theorem dX7_takeNamed_63 : decode cX7_takeNamed 63 = .ok (.putfield 44, 3) := by decide +kernel
theorem dX7_takeNamed_66 : decode cX7_takeNamed 66 = .ok (.iload_n 2, 1) := by decide +kernel
theorem dX7_takeNamed_67 : decode cX7_takeNamed 67 = .ok (.iload_n 1, 1) := by decide +kernel
theorem dX7_takeNamed_68 : decode cX7_takeNamed 68 = .ok (.isub, 1) := by decide +kernel
theorem dX7_takeNamed_69 : decode cX7_takeNamed 69 = .ok (.ireturn, 1) := by decide +kernel
theorem dX7_takeSide_0 : decode cX7_takeSide 0 = .ok (.aload_n 0, 1) := by decide +kernel
theorem dX7_takeSide_1 : decode cX7_takeSide 1 = .ok (.ldc 73, 2) := by decide +kernel
theorem dX7_takeSide_3 : decode cX7_takeSide 3 = .ok (.invokevirtual 65, 3) := by decide +kernel
theorem dX7_takeSide_6 : decode cX7_takeSide 6 = .ok (.ifCond .eq 7, 3) := by decide +kernel
theorem dX7_takeSide_9 : decode cX7_takeSide 9 = .ok (.iconst 0, 1) := by decide +kernel
theorem dX7_takeSide_10 : decode cX7_takeSide 10 = .ok (.goto 43, 3) := by decide +kernel
theorem dX7_takeSide_13 : decode cX7_takeSide 13 = .ok (.aload_n 0, 1) := by decide +kernel
theorem dX7_takeSide_14 : decode cX7_takeSide 14 = .ok (.ldc 75, 2) := by decide +kernel
theorem dX7_takeSide_16 : decode cX7_takeSide 16 = .ok (.invokevirtual 65, 3) := by decide +kernel
theorem dX7_takeSide_19 : decode cX7_takeSide 19 = .ok (.ifCond .eq 7, 3) := by decide +kernel
theorem dX7_takeSide_22 : decode cX7_takeSide 22 = .ok (.iconst 1, 1) := by decide +kernel
theorem dX7_takeSide_23 : decode cX7_takeSide 23 = .ok (.goto 30, 3) := by decide +kernel
theorem dX7_takeSide_26 : decode cX7_takeSide 26 = .ok (.aload_n 0, 1) := by decide +kernel
theorem dX7_takeSide_27 : decode cX7_takeSide 27 = .ok (.ldc 77, 2) := by decide +kernel
theorem dX7_takeSide_29 : decode cX7_takeSide 29 = .ok (.invokevirtual 65, 3) := by decide +kernel
theorem dX7_takeSide_32 : decode cX7_takeSide 32 = .ok (.ifCond .eq 7, 3) := by decide +kernel
theorem dX7_takeSide_35 : decode cX7_takeSide 35 = .ok (.iconst 2, 1) := by decide +kernel
theorem dX7_takeSide_36 : decode cX7_takeSide 36 = .ok (.goto 17, 3) := by decide +kernel
theorem dX7_takeSide_39 : decode cX7_takeSide 39 = .ok (.aload_n 0, 1) := by decide +kernel
theorem dX7_takeSide_40 : decode cX7_takeSide 40 = .ok (.ldc 79, 2) := by decide +kernel
theorem dX7_takeSide_42 : decode cX7_takeSide 42 = .ok (.invokevirtual 65, 3) := by decide +kernel
theorem dX7_takeSide_45 : decode cX7_takeSide 45 = .ok (.ifCond .eq 7, 3) := by decide +kernel
theorem dX7_takeSide_48 : decode cX7_takeSide 48 = .ok (.iconst 3, 1) := by decide +kernel
theorem dX7_takeSide_49 : decode cX7_takeSide 49 = .ok (.goto 4, 3) := by decide +kernel
theorem dX7_takeSide_52 : decode cX7_takeSide 52 = .ok (.iconst (-1), 1) := by decide +kernel
theorem dX7_takeSide_53 : decode cX7_takeSide 53 = .ok (.istore_n 1, 1) := by decide +kernel
theorem dX7_takeSide_54 : decode cX7_takeSide 54 = .ok (.aload_n 0, 1) := by decide +kernel
theorem dX7_takeSide_55 : decode cX7_takeSide 55 = .ok (.iload_n 1, 1) := by decide +kernel
theorem dX7_takeSide_56 : decode cX7_takeSide 56 = .ok (.invokevirtual 81, 3) := by decide +kernel
theorem dX7_takeSide_59 : decode cX7_takeSide 59 = .ok (.ireturn, 1) := by decide +kernel
theorem dX7_takeKind_0 : decode cX7_takeKind 0 = .ok (.aload_n 0, 1) := by decide +kernel
theorem dX7_takeKind_1 : decode cX7_takeKind 1 = .ok (.ldc 84, 2) := by decide +kernel
theorem dX7_takeKind_3 : decode cX7_takeKind 3 = .ok (.invokevirtual 65, 3) := by decide +kernel
theorem dX7_takeKind_6 : decode cX7_takeKind 6 = .ok (.ifCond .eq 7, 3) := by decide +kernel
theorem dX7_takeKind_9 : decode cX7_takeKind 9 = .ok (.iconst 0, 1) := by decide +kernel
theorem dX7_takeKind_10 : decode cX7_takeKind 10 = .ok (.goto 30, 3) := by decide +kernel
theorem dX7_takeKind_13 : decode cX7_takeKind 13 = .ok (.aload_n 0, 1) := by decide +kernel
theorem dX7_takeKind_14 : decode cX7_takeKind 14 = .ok (.ldc 86, 2) := by decide +kernel
theorem dX7_takeKind_16 : decode cX7_takeKind 16 = .ok (.invokevirtual 65, 3) := by decide +kernel
theorem dX7_takeKind_19 : decode cX7_takeKind 19 = .ok (.ifCond .eq 7, 3) := by decide +kernel
theorem dX7_takeKind_22 : decode cX7_takeKind 22 = .ok (.iconst 1, 1) := by decide +kernel
theorem dX7_takeKind_23 : decode cX7_takeKind 23 = .ok (.goto 17, 3) := by decide +kernel
theorem dX7_takeKind_26 : decode cX7_takeKind 26 = .ok (.aload_n 0, 1) := by decide +kernel
theorem dX7_takeKind_27 : decode cX7_takeKind 27 = .ok (.ldc 88, 2) := by decide +kernel
theorem dX7_takeKind_29 : decode cX7_takeKind 29 = .ok (.invokevirtual 65, 3) := by decide +kernel
theorem dX7_takeKind_32 : decode cX7_takeKind 32 = .ok (.ifCond .eq 7, 3) := by decide +kernel
theorem dX7_takeKind_35 : decode cX7_takeKind 35 = .ok (.iconst 2, 1) := by decide +kernel
theorem dX7_takeKind_36 : decode cX7_takeKind 36 = .ok (.goto 4, 3) := by decide +kernel
theorem dX7_takeKind_39 : decode cX7_takeKind 39 = .ok (.iconst (-1), 1) := by decide +kernel
theorem dX7_takeKind_40 : decode cX7_takeKind 40 = .ok (.istore_n 1, 1) := by decide +kernel
theorem dX7_takeKind_41 : decode cX7_takeKind 41 = .ok (.aload_n 0, 1) := by decide +kernel
theorem dX7_takeKind_42 : decode cX7_takeKind 42 = .ok (.iload_n 1, 1) := by decide +kernel
theorem dX7_takeKind_43 : decode cX7_takeKind 43 = .ok (.invokevirtual 81, 3) := by decide +kernel
theorem dX7_takeKind_46 : decode cX7_takeKind 46 = .ok (.ireturn, 1) := by decide +kernel
theorem dX7_takeChoice_0 : decode cX7_takeChoice 0 = .ok (.iload_n 1, 1) := by decide +kernel
theorem dX7_takeChoice_1 : decode cX7_takeChoice 1 = .ok (.ifCond .ge 12, 3) := by decide +kernel
theorem dX7_takeChoice_4 : decode cX7_takeChoice 4 = .ok (.aload_n 0, 1) := by decide +kernel
theorem dX7_takeChoice_5 : decode cX7_takeChoice 5 = .ok (.iconst 1, 1) := by decide +kernel
theorem dX7_takeChoice_6 : decode cX7_takeChoice 6 = .ok (.invokevirtual 41, 3) := by decide +kernel
theorem dX7_takeChoice_9 : decode cX7_takeChoice 9 = .ok (.pop, 1) := by decide +kernel
theorem dX7_takeChoice_10 : decode cX7_takeChoice 10 = .ok (.goto 13, 3) := by decide +kernel
theorem dX7_takeChoice_13 : decode cX7_takeChoice 13 = .ok (.aload_n 0, 1) := by decide +kernel
theorem dX7_takeChoice_14 : decode cX7_takeChoice 14 = .ok (.dup, 1) := by decide +kernel
theorem dX7_takeChoice_15 : decode cX7_takeChoice 15 = .ok (.getfield 44, 3) := by decide +kernel
theorem dX7_takeChoice_18 : decode cX7_takeChoice 18 = .ok (.iconst 1, 1) := by decide +kernel
theorem dX7_takeChoice_19 : decode cX7_takeChoice 19 = .ok (.iadd, 1) := by decide +kernel
theorem dX7_takeChoice_20 : decode cX7_takeChoice 20 = .ok (.putfield 44, 3) := by decide +kernel
theorem dX7_takeChoice_23 : decode cX7_takeChoice 23 = .ok (.iload_n 1, 1) := by decide +kernel
theorem dX7_takeChoice_24 : decode cX7_takeChoice 24 = .ok (.ireturn, 1) := by decide +kernel
theorem dX7_takeWhen_0 : decode cX7_takeWhen 0 = .ok (.aload_n 0, 1) := by decide +kernel
theorem dX7_takeWhen_1 : decode cX7_takeWhen 1 = .ok (.bipush (-2), 2) := by decide +kernel
theorem dX7_takeWhen_3 : decode cX7_takeWhen 3 = .ok (.putfield 90, 3) := by decide +kernel
theorem dX7_takeWhen_6 : decode cX7_takeWhen 6 = .ok (.aload_n 0, 1) := by decide +kernel
theorem dX7_takeWhen_7 : decode cX7_takeWhen 7 = .ok (.bipush (-2), 2) := by decide +kernel
theorem dX7_takeWhen_9 : decode cX7_takeWhen 9 = .ok (.putfield 93, 3) := by decide +kernel
theorem dX7_takeWhen_12 : decode cX7_takeWhen 12 = .ok (.aload_n 0, 1) := by decide +kernel
theorem dX7_takeWhen_13 : decode cX7_takeWhen 13 = .ok (.ldc 96, 2) := by decide +kernel
theorem dX7_takeWhen_15 : decode cX7_takeWhen 15 = .ok (.invokevirtual 65, 3) := by decide +kernel
theorem dX7_takeWhen_18 : decode cX7_takeWhen 18 = .ok (.istore_n 1, 1) := by decide +kernel
theorem dX7_takeWhen_19 : decode cX7_takeWhen 19 = .ok (.iload_n 1, 1) := by decide +kernel
theorem dX7_takeWhen_20 : decode cX7_takeWhen 20 = .ok (.ifCond .ne 14, 3) := by decide +kernel
theorem dX7_takeWhen_23 : decode cX7_takeWhen 23 = .ok (.aload_n 0, 1) := by decide +kernel
theorem dX7_takeWhen_24 : decode cX7_takeWhen 24 = .ok (.ldc 98, 2) := by decide +kernel
theorem dX7_takeWhen_26 : decode cX7_takeWhen 26 = .ok (.invokevirtual 65, 3) := by decide +kernel
theorem dX7_takeWhen_29 : decode cX7_takeWhen 29 = .ok (.ifCond .ne 5, 3) := by decide +kernel
theorem dX7_takeWhen_32 : decode cX7_takeWhen 32 = .ok (.iconst 1, 1) := by decide +kernel
theorem dX7_takeWhen_33 : decode cX7_takeWhen 33 = .ok (.ireturn, 1) := by decide +kernel
theorem dX7_takeWhen_34 : decode cX7_takeWhen 34 = .ok (.aload_n 0, 1) := by decide +kernel
theorem dX7_takeWhen_35 : decode cX7_takeWhen 35 = .ok (.dup, 1) := by decide +kernel
theorem dX7_takeWhen_36 : decode cX7_takeWhen 36 = .ok (.getfield 44, 3) := by decide +kernel
theorem dX7_takeWhen_39 : decode cX7_takeWhen 39 = .ok (.iconst 1, 1) := by decide +kernel
theorem dX7_takeWhen_40 : decode cX7_takeWhen 40 = .ok (.iadd, 1) := by decide +kernel
theorem dX7_takeWhen_41 : decode cX7_takeWhen 41 = .ok (.putfield 44, 3) := by decide +kernel
theorem dX7_takeWhen_44 : decode cX7_takeWhen 44 = .ok (.aload_n 0, 1) := by decide +kernel
theorem dX7_takeWhen_45 : decode cX7_takeWhen 45 = .ok (.aload_n 0, 1) := by decide +kernel
theorem dX7_takeWhen_46 : decode cX7_takeWhen 46 = .ok (.bipush 100, 2) := by decide +kernel
theorem dX7_takeWhen_48 : decode cX7_takeWhen 48 = .ok (.invokevirtual 100, 3) := by decide +kernel
theorem dX7_takeWhen_51 : decode cX7_takeWhen 51 = .ok (.putfield 90, 3) := by decide +kernel
theorem dX7_takeWhen_54 : decode cX7_takeWhen 54 = .ok (.aload_n 0, 1) := by decide +kernel
theorem dX7_takeWhen_55 : decode cX7_takeWhen 55 = .ok (.iload_n 1, 1) := by decide +kernel
theorem dX7_takeWhen_56 : decode cX7_takeWhen 56 = .ok (.ifCond .eq 7, 3) := by decide +kernel
theorem dX7_takeWhen_59 : decode cX7_takeWhen 59 = .ok (.iconst 1, 1) := by decide +kernel
theorem dX7_takeWhen_60 : decode cX7_takeWhen 60 = .ok (.goto 4, 3) := by decide +kernel
theorem dX7_takeWhen_63 : decode cX7_takeWhen 63 = .ok (.iconst 0, 1) := by decide +kernel
theorem dX7_takeWhen_64 : decode cX7_takeWhen 64 = .ok (.putfield 93, 3) := by decide +kernel
theorem dX7_takeWhen_67 : decode cX7_takeWhen 67 = .ok (.aload_n 0, 1) := by decide +kernel
theorem dX7_takeWhen_68 : decode cX7_takeWhen 68 = .ok (.getfield 90, 3) := by decide +kernel
theorem dX7_takeWhen_71 : decode cX7_takeWhen 71 = .ok (.ifCond .lt 7, 3) := by decide +kernel
theorem dX7_takeWhen_74 : decode cX7_takeWhen 74 = .ok (.iconst 1, 1) := by decide +kernel
theorem dX7_takeWhen_75 : decode cX7_takeWhen 75 = .ok (.goto 4, 3) := by decide +kernel
theorem dX7_takeWhen_78 : decode cX7_takeWhen 78 = .ok (.iconst 0, 1) := by decide +kernel
theorem dX7_takeWhen_79 : decode cX7_takeWhen 79 = .ok (.ireturn, 1) := by decide +kernel
theorem dX7_lineEnds_0 : decode cX7_lineEnds 0 = .ok (.aload_n 0, 1) := by decide +kernel
theorem dX7_lineEnds_1 : decode cX7_lineEnds 1 = .ok (.iconst 5, 1) := by decide +kernel
theorem dX7_lineEnds_2 : decode cX7_lineEnds 2 = .ok (.invokevirtual 25, 3) := by decide +kernel
theorem dX7_lineEnds_5 : decode cX7_lineEnds 5 = .ok (.ifCond .ne 20, 3) := by decide +kernel
theorem dX7_lineEnds_8 : decode cX7_lineEnds 8 = .ok (.aload_n 0, 1) := by decide +kernel
theorem dX7_lineEnds_9 : decode cX7_lineEnds 9 = .ok (.bipush 6, 2) := by decide +kernel
theorem dX7_lineEnds_11 : decode cX7_lineEnds 11 = .ok (.invokevirtual 25, 3) := by decide +kernel
theorem dX7_lineEnds_14 : decode cX7_lineEnds 14 = .ok (.ifCond .ne 11, 3) := by decide +kernel
theorem dX7_lineEnds_17 : decode cX7_lineEnds 17 = .ok (.aload_n 0, 1) := by decide +kernel
theorem dX7_lineEnds_18 : decode cX7_lineEnds 18 = .ok (.iconst 1, 1) := by decide +kernel
theorem dX7_lineEnds_19 : decode cX7_lineEnds 19 = .ok (.invokevirtual 41, 3) := by decide +kernel
theorem dX7_lineEnds_22 : decode cX7_lineEnds 22 = .ok (.ifCond .eq 7, 3) := by decide +kernel
theorem dX7_lineEnds_25 : decode cX7_lineEnds 25 = .ok (.iconst 1, 1) := by decide +kernel
theorem dX7_lineEnds_26 : decode cX7_lineEnds 26 = .ok (.goto 4, 3) := by decide +kernel
theorem dX7_lineEnds_29 : decode cX7_lineEnds 29 = .ok (.iconst 0, 1) := by decide +kernel
theorem dX7_lineEnds_30 : decode cX7_lineEnds 30 = .ok (.ireturn, 1) := by decide +kernel
theorem dX7_readLine_0 : decode cX7_readLine 0 = .ok (.aload_n 0, 1) := by decide +kernel
theorem dX7_readLine_1 : decode cX7_readLine 1 = .ok (.ldc 103, 2) := by decide +kernel
theorem dX7_readLine_3 : decode cX7_readLine 3 = .ok (.invokevirtual 65, 3) := by decide +kernel
theorem dX7_readLine_6 : decode cX7_readLine 6 = .ok (.ifCond .eq 23, 3) := by decide +kernel
theorem dX7_readLine_9 : decode cX7_readLine 9 = .ok (.aload_n 0, 1) := by decide +kernel
theorem dX7_readLine_10 : decode cX7_readLine 10 = .ok (.getfield 105, 3) := by decide +kernel
theorem dX7_readLine_13 : decode cX7_readLine 13 = .ok (.ifCond .eq 11, 3) := by decide +kernel
theorem dX7_readLine_16 : decode cX7_readLine 16 = .ok (.aload_n 0, 1) := by decide +kernel
theorem dX7_readLine_17 : decode cX7_readLine 17 = .ok (.iconst 3, 1) := by decide +kernel
theorem dX7_readLine_18 : decode cX7_readLine 18 = .ok (.invokevirtual 41, 3) := by decide +kernel
theorem dX7_readLine_21 : decode cX7_readLine 21 = .ok (.goto 7, 3) := by decide +kernel
theorem dX7_readLine_24 : decode cX7_readLine 24 = .ok (.aload_n 0, 1) := by decide +kernel
theorem dX7_readLine_25 : decode cX7_readLine 25 = .ok (.invokevirtual 109, 3) := by decide +kernel
theorem dX7_readLine_28 : decode cX7_readLine 28 = .ok (.ireturn, 1) := by decide +kernel
theorem dX7_readLine_29 : decode cX7_readLine 29 = .ok (.aload_n 0, 1) := by decide +kernel
theorem dX7_readLine_30 : decode cX7_readLine 30 = .ok (.ldc 112, 2) := by decide +kernel
theorem dX7_readLine_32 : decode cX7_readLine 32 = .ok (.invokevirtual 65, 3) := by decide +kernel
theorem dX7_readLine_35 : decode cX7_readLine 35 = .ok (.ifCond .eq 35, 3) := by decide +kernel
theorem dX7_readLine_38 : decode cX7_readLine 38 = .ok (.aload_n 0, 1) := by decide +kernel
theorem dX7_readLine_39 : decode cX7_readLine 39 = .ok (.aload_n 0, 1) := by decide +kernel
theorem dX7_readLine_40 : decode cX7_readLine 40 = .ok (.getfield 15, 3) := by decide +kernel
theorem dX7_readLine_43 : decode cX7_readLine 43 = .ok (.getfield 114, 3) := by decide +kernel
theorem dX7_readLine_46 : decode cX7_readLine 46 = .ok (.getfield 118, 3) := by decide +kernel
theorem dX7_readLine_49 : decode cX7_readLine 49 = .ok (.bipush 14, 2) := by decide +kernel
theorem dX7_readLine_51 : decode cX7_readLine 51 = .ok (.invokevirtual 121, 3) := by decide +kernel
theorem dX7_readLine_54 : decode cX7_readLine 54 = .ok (.ifCond .eq 14, 3) := by decide +kernel
theorem dX7_readLine_57 : decode cX7_readLine 57 = .ok (.aload_n 0, 1) := by decide +kernel
theorem dX7_readLine_58 : decode cX7_readLine 58 = .ok (.invokevirtual 125, 3) := by decide +kernel
theorem dX7_readLine_61 : decode cX7_readLine 61 = .ok (.ifCond .eq 7, 3) := by decide +kernel
theorem dX7_readLine_64 : decode cX7_readLine 64 = .ok (.iconst 1, 1) := by decide +kernel
theorem dX7_readLine_65 : decode cX7_readLine 65 = .ok (.goto 4, 3) := by decide +kernel
theorem dX7_readLine_68 : decode cX7_readLine 68 = .ok (.iconst 0, 1) := by decide +kernel
theorem dX7_readLine_69 : decode cX7_readLine 69 = .ok (.ireturn, 1) := by decide +kernel
theorem dX7_readLine_70 : decode cX7_readLine 70 = .ok (.aload_n 0, 1) := by decide +kernel
theorem dX7_readLine_71 : decode cX7_readLine 71 = .ok (.ldc 128, 2) := by decide +kernel
theorem dX7_readLine_73 : decode cX7_readLine 73 = .ok (.invokevirtual 65, 3) := by decide +kernel
theorem dX7_readLine_76 : decode cX7_readLine 76 = .ok (.ifCond .eq 31, 3) := by decide +kernel
theorem dX7_readLine_79 : decode cX7_readLine 79 = .ok (.aload_n 0, 1) := by decide +kernel
theorem dX7_readLine_80 : decode cX7_readLine 80 = .ok (.aload_n 0, 1) := by decide +kernel
theorem dX7_readLine_81 : decode cX7_readLine 81 = .ok (.getfield 15, 3) := by decide +kernel
theorem dX7_readLine_84 : decode cX7_readLine 84 = .ok (.getfield 130, 3) := by decide +kernel
theorem dX7_readLine_87 : decode cX7_readLine 87 = .ok (.iconst 4, 1) := by decide +kernel
theorem dX7_readLine_88 : decode cX7_readLine 88 = .ok (.invokevirtual 121, 3) := by decide +kernel
theorem dX7_readLine_91 : decode cX7_readLine 91 = .ok (.ifCond .eq 14, 3) := by decide +kernel
theorem dX7_readLine_94 : decode cX7_readLine 94 = .ok (.aload_n 0, 1) := by decide +kernel
theorem dX7_readLine_95 : decode cX7_readLine 95 = .ok (.invokevirtual 133, 3) := by decide +kernel
theorem dX7_readLine_98 : decode cX7_readLine 98 = .ok (.ifCond .eq 7, 3) := by decide +kernel
theorem dX7_readLine_101 : decode cX7_readLine 101 = .ok (.iconst 1, 1) := by decide +kernel
theorem dX7_readLine_102 : decode cX7_readLine 102 = .ok (.goto 4, 3) := by decide +kernel
theorem dX7_readLine_105 : decode cX7_readLine 105 = .ok (.iconst 0, 1) := by decide +kernel
theorem dX7_readLine_106 : decode cX7_readLine 106 = .ok (.ireturn, 1) := by decide +kernel
theorem dX7_readLine_107 : decode cX7_readLine 107 = .ok (.aload_n 0, 1) := by decide +kernel
theorem dX7_readLine_108 : decode cX7_readLine 108 = .ok (.ldc 136, 2) := by decide +kernel
theorem dX7_readLine_110 : decode cX7_readLine 110 = .ok (.invokevirtual 65, 3) := by decide +kernel
theorem dX7_readLine_113 : decode cX7_readLine 113 = .ok (.ifCond .eq 35, 3) := by decide +kernel
theorem dX7_readLine_116 : decode cX7_readLine 116 = .ok (.aload_n 0, 1) := by decide +kernel
theorem dX7_readLine_117 : decode cX7_readLine 117 = .ok (.aload_n 0, 1) := by decide +kernel
theorem dX7_readLine_118 : decode cX7_readLine 118 = .ok (.getfield 15, 3) := by decide +kernel
theorem dX7_readLine_121 : decode cX7_readLine 121 = .ok (.getfield 138, 3) := by decide +kernel
theorem dX7_readLine_124 : decode cX7_readLine 124 = .ok (.getfield 142, 3) := by decide +kernel
theorem dX7_readLine_127 : decode cX7_readLine 127 = .ok (.bipush 8, 2) := by decide +kernel
theorem dX7_readLine_129 : decode cX7_readLine 129 = .ok (.invokevirtual 121, 3) := by decide +kernel
theorem dX7_readLine_132 : decode cX7_readLine 132 = .ok (.ifCond .eq 14, 3) := by decide +kernel
theorem dX7_readLine_135 : decode cX7_readLine 135 = .ok (.aload_n 0, 1) := by decide +kernel
theorem dX7_readLine_136 : decode cX7_readLine 136 = .ok (.invokevirtual 145, 3) := by decide +kernel
theorem dX7_readLine_139 : decode cX7_readLine 139 = .ok (.ifCond .eq 7, 3) := by decide +kernel
theorem dX7_readLine_142 : decode cX7_readLine 142 = .ok (.iconst 1, 1) := by decide +kernel
theorem dX7_readLine_143 : decode cX7_readLine 143 = .ok (.goto 4, 3) := by decide +kernel
theorem dX7_readLine_146 : decode cX7_readLine 146 = .ok (.iconst 0, 1) := by decide +kernel
theorem dX7_readLine_147 : decode cX7_readLine 147 = .ok (.ireturn, 1) := by decide +kernel
theorem dX7_readLine_148 : decode cX7_readLine 148 = .ok (.aload_n 0, 1) := by decide +kernel
theorem dX7_readLine_149 : decode cX7_readLine 149 = .ok (.ldc 148, 2) := by decide +kernel
theorem dX7_readLine_151 : decode cX7_readLine 151 = .ok (.invokevirtual 65, 3) := by decide +kernel
theorem dX7_readLine_154 : decode cX7_readLine 154 = .ok (.ifCond .eq 35, 3) := by decide +kernel
theorem dX7_readLine_157 : decode cX7_readLine 157 = .ok (.aload_n 0, 1) := by decide +kernel
theorem dX7_readLine_158 : decode cX7_readLine 158 = .ok (.aload_n 0, 1) := by decide +kernel
theorem dX7_readLine_159 : decode cX7_readLine 159 = .ok (.getfield 15, 3) := by decide +kernel
theorem dX7_readLine_162 : decode cX7_readLine 162 = .ok (.getfield 29, 3) := by decide +kernel
theorem dX7_readLine_165 : decode cX7_readLine 165 = .ok (.getfield 35, 3) := by decide +kernel
theorem dX7_readLine_168 : decode cX7_readLine 168 = .ok (.bipush 10, 2) := by decide +kernel
theorem dX7_readLine_170 : decode cX7_readLine 170 = .ok (.invokevirtual 121, 3) := by decide +kernel
theorem dX7_readLine_173 : decode cX7_readLine 173 = .ok (.ifCond .eq 14, 3) := by decide +kernel
theorem dX7_readLine_176 : decode cX7_readLine 176 = .ok (.aload_n 0, 1) := by decide +kernel
theorem dX7_readLine_177 : decode cX7_readLine 177 = .ok (.invokevirtual 150, 3) := by decide +kernel
theorem dX7_readLine_180 : decode cX7_readLine 180 = .ok (.ifCond .eq 7, 3) := by decide +kernel
theorem dX7_readLine_183 : decode cX7_readLine 183 = .ok (.iconst 1, 1) := by decide +kernel
theorem dX7_readLine_184 : decode cX7_readLine 184 = .ok (.goto 4, 3) := by decide +kernel
theorem dX7_readLine_187 : decode cX7_readLine 187 = .ok (.iconst 0, 1) := by decide +kernel
theorem dX7_readLine_188 : decode cX7_readLine 188 = .ok (.ireturn, 1) := by decide +kernel
theorem dX7_readLine_189 : decode cX7_readLine 189 = .ok (.aload_n 0, 1) := by decide +kernel
theorem dX7_readLine_190 : decode cX7_readLine 190 = .ok (.ldc 153, 2) := by decide +kernel
theorem dX7_readLine_192 : decode cX7_readLine 192 = .ok (.invokevirtual 65, 3) := by decide +kernel
theorem dX7_readLine_195 : decode cX7_readLine 195 = .ok (.ifCond .eq 34, 3) := by decide +kernel
theorem dX7_readLine_198 : decode cX7_readLine 198 = .ok (.aload_n 0, 1) := by decide +kernel
theorem dX7_readLine_199 : decode cX7_readLine 199 = .ok (.aload_n 0, 1) := by decide +kernel
theorem dX7_readLine_200 : decode cX7_readLine 200 = .ok (.getfield 15, 3) := by decide +kernel
theorem dX7_readLine_203 : decode cX7_readLine 203 = .ok (.getfield 155, 3) := by decide +kernel
theorem dX7_readLine_206 : decode cX7_readLine 206 = .ok (.getfield 159, 3) := by decide +kernel
theorem dX7_readLine_209 : decode cX7_readLine 209 = .ok (.iconst 5, 1) := by decide +kernel
theorem dX7_readLine_210 : decode cX7_readLine 210 = .ok (.invokevirtual 121, 3) := by decide +kernel
theorem dX7_readLine_213 : decode cX7_readLine 213 = .ok (.ifCond .eq 14, 3) := by decide +kernel
theorem dX7_readLine_216 : decode cX7_readLine 216 = .ok (.aload_n 0, 1) := by decide +kernel
theorem dX7_readLine_217 : decode cX7_readLine 217 = .ok (.invokevirtual 162, 3) := by decide +kernel
theorem dX7_readLine_220 : decode cX7_readLine 220 = .ok (.ifCond .eq 7, 3) := by decide +kernel
theorem dX7_readLine_223 : decode cX7_readLine 223 = .ok (.iconst 1, 1) := by decide +kernel
theorem dX7_readLine_224 : decode cX7_readLine 224 = .ok (.goto 4, 3) := by decide +kernel
theorem dX7_readLine_227 : decode cX7_readLine 227 = .ok (.iconst 0, 1) := by decide +kernel
theorem dX7_readLine_228 : decode cX7_readLine 228 = .ok (.ireturn, 1) := by decide +kernel
theorem dX7_readLine_229 : decode cX7_readLine 229 = .ok (.aload_n 0, 1) := by decide +kernel
theorem dX7_readLine_230 : decode cX7_readLine 230 = .ok (.iconst 1, 1) := by decide +kernel
theorem dX7_readLine_231 : decode cX7_readLine 231 = .ok (.invokevirtual 41, 3) := by decide +kernel
theorem dX7_readLine_234 : decode cX7_readLine 234 = .ok (.ireturn, 1) := by decide +kernel
theorem dX7_opens_0 : decode cX7_opens 0 = .ok (.aload_n 0, 1) := by decide +kernel
theorem dX7_opens_1 : decode cX7_opens 1 = .ok (.getfield 105, 3) := by decide +kernel
theorem dX7_opens_4 : decode cX7_opens 4 = .ok (.ifCond .ne 10, 3) := by decide +kernel
theorem dX7_opens_7 : decode cX7_opens 7 = .ok (.aload_n 0, 1) := by decide +kernel
theorem dX7_opens_8 : decode cX7_opens 8 = .ok (.bipush 6, 2) := by decide +kernel
theorem dX7_opens_10 : decode cX7_opens 10 = .ok (.invokevirtual 41, 3) := by decide +kernel
theorem dX7_opens_13 : decode cX7_opens 13 = .ok (.ireturn, 1) := by decide +kernel
theorem dX7_opens_14 : decode cX7_opens 14 = .ok (.iload_n 1, 1) := by decide +kernel
theorem dX7_opens_15 : decode cX7_opens 15 = .ok (.iload_n 2, 1) := by decide +kernel
theorem dX7_opens_16 : decode cX7_opens 16 = .ok (.if_icmp .lt 9, 3) := by decide +kernel
theorem dX7_opens_19 : decode cX7_opens 19 = .ok (.aload_n 0, 1) := by decide +kernel
theorem dX7_opens_20 : decode cX7_opens 20 = .ok (.iconst 5, 1) := by decide +kernel
theorem dX7_opens_21 : decode cX7_opens 21 = .ok (.invokevirtual 41, 3) := by decide +kernel
theorem dX7_opens_24 : decode cX7_opens 24 = .ok (.ireturn, 1) := by decide +kernel
theorem dX7_opens_25 : decode cX7_opens 25 = .ok (.aload_n 0, 1) := by decide +kernel
theorem dX7_opens_26 : decode cX7_opens 26 = .ok (.dup, 1) := by decide +kernel
theorem dX7_opens_27 : decode cX7_opens 27 = .ok (.getfield 44, 3) := by decide +kernel
theorem dX7_opens_30 : decode cX7_opens 30 = .ok (.iconst 1, 1) := by decide +kernel
theorem dX7_opens_31 : decode cX7_opens 31 = .ok (.iadd, 1) := by decide +kernel
theorem dX7_opens_32 : decode cX7_opens 32 = .ok (.putfield 44, 3) := by decide +kernel
theorem dX7_opens_35 : decode cX7_opens 35 = .ok (.iconst 1, 1) := by decide +kernel
theorem dX7_opens_36 : decode cX7_opens 36 = .ok (.ireturn, 1) := by decide +kernel
theorem dX7_readBoard_0 : decode cX7_readBoard 0 = .ok (.aload_n 0, 1) := by decide +kernel
theorem dX7_readBoard_1 : decode cX7_readBoard 1 = .ok (.dup, 1) := by decide +kernel
theorem dX7_readBoard_2 : decode cX7_readBoard 2 = .ok (.getfield 44, 3) := by decide +kernel
theorem dX7_readBoard_5 : decode cX7_readBoard 5 = .ok (.iconst 1, 1) := by decide +kernel
theorem dX7_readBoard_6 : decode cX7_readBoard 6 = .ok (.iadd, 1) := by decide +kernel
theorem dX7_readBoard_7 : decode cX7_readBoard 7 = .ok (.putfield 44, 3) := by decide +kernel
theorem dX7_readBoard_10 : decode cX7_readBoard 10 = .ok (.aload_n 0, 1) := by decide +kernel
theorem dX7_readBoard_11 : decode cX7_readBoard 11 = .ok (.ldc 165, 2) := by decide +kernel
theorem dX7_readBoard_13 : decode cX7_readBoard 13 = .ok (.invokevirtual 167, 3) := by decide +kernel
theorem dX7_readBoard_16 : decode cX7_readBoard 16 = .ok (.ifCond .ne 5, 3) := by decide +kernel
theorem dX7_readBoard_19 : decode cX7_readBoard 19 = .ok (.iconst 0, 1) := by decide +kernel
theorem dX7_readBoard_20 : decode cX7_readBoard 20 = .ok (.ireturn, 1) := by decide +kernel
theorem dX7_readBoard_21 : decode cX7_readBoard 21 = .ok (.aload_n 0, 1) := by decide +kernel
theorem dX7_readBoard_22 : decode cX7_readBoard 22 = .ok (.iconst 0, 1) := by decide +kernel
theorem dX7_readBoard_23 : decode cX7_readBoard 23 = .ok (.bipush 99, 2) := by decide +kernel
theorem dX7_readBoard_25 : decode cX7_readBoard 25 = .ok (.invokevirtual 170, 3) := by decide +kernel
theorem dX7_readBoard_28 : decode cX7_readBoard 28 = .ok (.istore_n 1, 1) := by decide +kernel
theorem dX7_readBoard_29 : decode cX7_readBoard 29 = .ok (.iload_n 1, 1) := by decide +kernel
theorem dX7_readBoard_30 : decode cX7_readBoard 30 = .ok (.ifCond .lt 12, 3) := by decide +kernel
theorem dX7_readBoard_33 : decode cX7_readBoard 33 = .ok (.aload_n 0, 1) := by decide +kernel
theorem dX7_readBoard_34 : decode cX7_readBoard 34 = .ok (.ldc 174, 2) := by decide +kernel
theorem dX7_readBoard_36 : decode cX7_readBoard 36 = .ok (.invokevirtual 167, 3) := by decide +kernel
theorem dX7_readBoard_39 : decode cX7_readBoard 39 = .ok (.ifCond .ne 5, 3) := by decide +kernel
theorem dX7_readBoard_42 : decode cX7_readBoard 42 = .ok (.iconst 0, 1) := by decide +kernel
theorem dX7_readBoard_43 : decode cX7_readBoard 43 = .ok (.ireturn, 1) := by decide +kernel
theorem dX7_readBoard_44 : decode cX7_readBoard 44 = .ok (.aload_n 0, 1) := by decide +kernel
theorem dX7_readBoard_45 : decode cX7_readBoard 45 = .ok (.iconst 0, 1) := by decide +kernel
theorem dX7_readBoard_46 : decode cX7_readBoard 46 = .ok (.bipush 99, 2) := by decide +kernel
theorem dX7_readBoard_48 : decode cX7_readBoard 48 = .ok (.invokevirtual 170, 3) := by decide +kernel
theorem dX7_readBoard_51 : decode cX7_readBoard 51 = .ok (.istore_n 2, 1) := by decide +kernel
theorem dX7_readBoard_52 : decode cX7_readBoard 52 = .ok (.iload_n 2, 1) := by decide +kernel
theorem dX7_readBoard_53 : decode cX7_readBoard 53 = .ok (.ifCond .ge 5, 3) := by decide +kernel
theorem dX7_readBoard_56 : decode cX7_readBoard 56 = .ok (.iconst 0, 1) := by decide +kernel
theorem dX7_readBoard_57 : decode cX7_readBoard 57 = .ok (.ireturn, 1) := by decide +kernel
theorem dX7_readBoard_58 : decode cX7_readBoard 58 = .ok (.aload_n 0, 1) := by decide +kernel
theorem dX7_readBoard_59 : decode cX7_readBoard 59 = .ok (.getfield 15, 3) := by decide +kernel
theorem dX7_readBoard_62 : decode cX7_readBoard 62 = .ok (.iload_n 1, 1) := by decide +kernel
theorem dX7_readBoard_63 : decode cX7_readBoard 63 = .ok (.putfield 176, 3) := by decide +kernel
theorem dX7_readBoard_66 : decode cX7_readBoard 66 = .ok (.aload_n 0, 1) := by decide +kernel
theorem dX7_readBoard_67 : decode cX7_readBoard 67 = .ok (.getfield 15, 3) := by decide +kernel
theorem dX7_readBoard_70 : decode cX7_readBoard 70 = .ok (.iload_n 2, 1) := by decide +kernel
theorem dX7_readBoard_71 : decode cX7_readBoard 71 = .ok (.putfield 178, 3) := by decide +kernel
theorem dX7_readBoard_74 : decode cX7_readBoard 74 = .ok (.aload_n 0, 1) := by decide +kernel
theorem dX7_readBoard_75 : decode cX7_readBoard 75 = .ok (.iconst 1, 1) := by decide +kernel
theorem dX7_readBoard_76 : decode cX7_readBoard 76 = .ok (.putfield 105, 3) := by decide +kernel
theorem dX7_readBoard_79 : decode cX7_readBoard 79 = .ok (.aload_n 0, 1) := by decide +kernel
theorem dX7_readBoard_80 : decode cX7_readBoard 80 = .ok (.invokevirtual 180, 3) := by decide +kernel
theorem dX7_readBoard_83 : decode cX7_readBoard 83 = .ok (.ireturn, 1) := by decide +kernel
theorem dX7_readNode_0 : decode cX7_readNode 0 = .ok (.aload_n 0, 1) := by decide +kernel
theorem dX7_readNode_1 : decode cX7_readNode 1 = .ok (.getfield 15, 3) := by decide +kernel
theorem dX7_readNode_4 : decode cX7_readNode 4 = .ok (.getfield 114, 3) := by decide +kernel
theorem dX7_readNode_7 : decode cX7_readNode 7 = .ok (.getfield 118, 3) := by decide +kernel
theorem dX7_readNode_10 : decode cX7_readNode 10 = .ok (.istore_n 1, 1) := by decide +kernel
theorem dX7_readNode_11 : decode cX7_readNode 11 = .ok (.aload_n 0, 1) := by decide +kernel
theorem dX7_readNode_12 : decode cX7_readNode 12 = .ok (.invokevirtual 183, 3) := by decide +kernel
theorem dX7_readNode_15 : decode cX7_readNode 15 = .ok (.lstore_n 2, 1) := by decide +kernel
theorem dX7_readNode_16 : decode cX7_readNode 16 = .ok (.lload_n 2, 1) := by decide +kernel
theorem dX7_readNode_17 : decode cX7_readNode 17 = .ok (.lconst 0, 1) := by decide +kernel
theorem dX7_readNode_18 : decode cX7_readNode 18 = .ok (.lcmp, 1) := by decide +kernel
theorem dX7_readNode_19 : decode cX7_readNode 19 = .ok (.ifCond .ne 5, 3) := by decide +kernel
theorem dX7_readNode_22 : decode cX7_readNode 22 = .ok (.iconst 0, 1) := by decide +kernel
theorem dX7_readNode_23 : decode cX7_readNode 23 = .ok (.ireturn, 1) := by decide +kernel
theorem dX7_readNode_24 : decode cX7_readNode 24 = .ok (.iload_n 1, 1) := by decide +kernel
theorem dX7_readNode_25 : decode cX7_readNode 25 = .ok (.ifCond .ne 20, 3) := by decide +kernel
theorem dX7_readNode_28 : decode cX7_readNode 28 = .ok (.aload_n 0, 1) := by decide +kernel
theorem dX7_readNode_29 : decode cX7_readNode 29 = .ok (.getfield 15, 3) := by decide +kernel
theorem dX7_readNode_32 : decode cX7_readNode 32 = .ok (.getfield 114, 3) := by decide +kernel
theorem dX7_readNode_35 : decode cX7_readNode 35 = .ok (.bipush (-2), 2) := by decide +kernel
theorem dX7_readNode_37 : decode cX7_readNode 37 = .ok (.iconst 0, 1) := by decide +kernel
theorem dX7_readNode_38 : decode cX7_readNode 38 = .ok (.iconst 0, 1) := by decide +kernel
theorem dX7_readNode_39 : decode cX7_readNode 39 = .ok (.invokevirtual 187, 3) := by decide +kernel
theorem dX7_readNode_42 : decode cX7_readNode 42 = .ok (.goto 12, 3) := by decide +kernel
theorem dX7_readNode_45 : decode cX7_readNode 45 = .ok (.aload_n 0, 1) := by decide +kernel
theorem dX7_readNode_46 : decode cX7_readNode 46 = .ok (.invokevirtual 191, 3) := by decide +kernel
theorem dX7_readNode_49 : decode cX7_readNode 49 = .ok (.ifCond .ne 5, 3) := by decide +kernel
theorem dX7_readNode_52 : decode cX7_readNode 52 = .ok (.iconst 0, 1) := by decide +kernel
theorem dX7_readNode_53 : decode cX7_readNode 53 = .ok (.ireturn, 1) := by decide +kernel
theorem dX7_readNode_54 : decode cX7_readNode 54 = .ok (.aload_n 0, 1) := by decide +kernel
theorem dX7_readNode_55 : decode cX7_readNode 55 = .ok (.getfield 15, 3) := by decide +kernel
theorem dX7_readNode_58 : decode cX7_readNode 58 = .ok (.lload_n 2, 1) := by decide +kernel
theorem dX7_readNode_59 : decode cX7_readNode 59 = .ok (.iconst 0, 1) := by decide +kernel
theorem dX7_readNode_60 : decode cX7_readNode 60 = .ok (.iload_n 1, 1) := by decide +kernel
theorem dX7_readNode_61 : decode cX7_readNode 61 = .ok (.iadd, 1) := by decide +kernel
theorem dX7_readNode_62 : decode cX7_readNode 62 = .ok (.invokevirtual 194, 3) := by decide +kernel
theorem dX7_readNode_65 : decode cX7_readNode 65 = .ok (.aload_n 0, 1) := by decide +kernel
theorem dX7_readNode_66 : decode cX7_readNode 66 = .ok (.invokevirtual 180, 3) := by decide +kernel
theorem dX7_readNode_69 : decode cX7_readNode 69 = .ok (.ireturn, 1) := by decide +kernel
theorem dX7_readBranch_0 : decode cX7_readBranch 0 = .ok (.aload_n 0, 1) := by decide +kernel
theorem dX7_readBranch_1 : decode cX7_readBranch 1 = .ok (.ldc 198, 2) := by decide +kernel
theorem dX7_readBranch_3 : decode cX7_readBranch 3 = .ok (.invokevirtual 167, 3) := by decide +kernel
theorem dX7_readBranch_6 : decode cX7_readBranch 6 = .ok (.ifCond .ne 5, 3) := by decide +kernel
theorem dX7_readBranch_9 : decode cX7_readBranch 9 = .ok (.iconst 0, 1) := by decide +kernel
theorem dX7_readBranch_10 : decode cX7_readBranch 10 = .ok (.ireturn, 1) := by decide +kernel
theorem dX7_readBranch_11 : decode cX7_readBranch 11 = .ok (.aload_n 0, 1) := by decide +kernel
theorem dX7_readBranch_12 : decode cX7_readBranch 12 = .ok (.iconst 0, 1) := by decide +kernel
theorem dX7_readBranch_13 : decode cX7_readBranch 13 = .ok (.invokevirtual 100, 3) := by decide +kernel
theorem dX7_readBranch_16 : decode cX7_readBranch 16 = .ok (.istore_n 1, 1) := by decide +kernel
theorem dX7_readBranch_17 : decode cX7_readBranch 17 = .ok (.iload_n 1, 1) := by decide +kernel
theorem dX7_readBranch_18 : decode cX7_readBranch 18 = .ok (.ifCond .ge 5, 3) := by decide +kernel
theorem dX7_readBranch_21 : decode cX7_readBranch 21 = .ok (.iconst 0, 1) := by decide +kernel
theorem dX7_readBranch_22 : decode cX7_readBranch 22 = .ok (.ireturn, 1) := by decide +kernel
theorem dX7_readBranch_23 : decode cX7_readBranch 23 = .ok (.aload_n 0, 1) := by decide +kernel
theorem dX7_readBranch_24 : decode cX7_readBranch 24 = .ok (.invokevirtual 200, 3) := by decide +kernel
theorem dX7_readBranch_27 : decode cX7_readBranch 27 = .ok (.istore_n 2, 1) := by decide +kernel
theorem dX7_readBranch_28 : decode cX7_readBranch 28 = .ok (.iload_n 2, 1) := by decide +kernel
theorem dX7_readBranch_29 : decode cX7_readBranch 29 = .ok (.ifCond .lt 12, 3) := by decide +kernel
theorem dX7_readBranch_32 : decode cX7_readBranch 32 = .ok (.aload_n 0, 1) := by decide +kernel
theorem dX7_readBranch_33 : decode cX7_readBranch 33 = .ok (.ldc 204, 2) := by decide +kernel
theorem dX7_readBranch_35 : decode cX7_readBranch 35 = .ok (.invokevirtual 167, 3) := by decide +kernel
theorem dX7_readBranch_38 : decode cX7_readBranch 38 = .ok (.ifCond .ne 5, 3) := by decide +kernel
theorem dX7_readBranch_41 : decode cX7_readBranch 41 = .ok (.iconst 0, 1) := by decide +kernel
theorem dX7_readBranch_42 : decode cX7_readBranch 42 = .ok (.ireturn, 1) := by decide +kernel
theorem dX7_readBranch_43 : decode cX7_readBranch 43 = .ok (.aload_n 0, 1) := by decide +kernel
theorem dX7_readBranch_44 : decode cX7_readBranch 44 = .ok (.iconst 1, 1) := by decide +kernel
theorem dX7_readBranch_45 : decode cX7_readBranch 45 = .ok (.sipush 999, 3) := by decide +kernel
theorem dX7_readBranch_48 : decode cX7_readBranch 48 = .ok (.invokevirtual 170, 3) := by decide +kernel
theorem dX7_readBranch_51 : decode cX7_readBranch 51 = .ok (.istore_n 3, 1) := by decide +kernel
theorem dX7_readBranch_52 : decode cX7_readBranch 52 = .ok (.iload_n 3, 1) := by decide +kernel
theorem dX7_readBranch_53 : decode cX7_readBranch 53 = .ok (.ifCond .ge 5, 3) := by decide +kernel
theorem dX7_readBranch_56 : decode cX7_readBranch 56 = .ok (.iconst 0, 1) := by decide +kernel
theorem dX7_readBranch_57 : decode cX7_readBranch 57 = .ok (.ireturn, 1) := by decide +kernel
theorem dX7_readBranch_58 : decode cX7_readBranch 58 = .ok (.aload_n 0, 1) := by decide +kernel
theorem dX7_readBranch_59 : decode cX7_readBranch 59 = .ok (.getfield 15, 3) := by decide +kernel
theorem dX7_readBranch_62 : decode cX7_readBranch 62 = .ok (.getfield 114, 3) := by decide +kernel
theorem dX7_readBranch_65 : decode cX7_readBranch 65 = .ok (.iload_n 1, 1) := by decide +kernel
theorem dX7_readBranch_66 : decode cX7_readBranch 66 = .ok (.iload_n 2, 1) := by decide +kernel
theorem dX7_readBranch_67 : decode cX7_readBranch 67 = .ok (.iload_n 3, 1) := by decide +kernel
theorem dX7_readBranch_68 : decode cX7_readBranch 68 = .ok (.invokevirtual 187, 3) := by decide +kernel
theorem dX7_readBranch_71 : decode cX7_readBranch 71 = .ok (.iconst 1, 1) := by decide +kernel
theorem dX7_readBranch_72 : decode cX7_readBranch 72 = .ok (.ireturn, 1) := by decide +kernel
theorem dX7_readOption_0 : decode cX7_readOption 0 = .ok (.aload_n 0, 1) := by decide +kernel
theorem dX7_readOption_1 : decode cX7_readOption 1 = .ok (.invokevirtual 183, 3) := by decide +kernel
theorem dX7_readOption_4 : decode cX7_readOption 4 = .ok (.lstore_n 1, 1) := by decide +kernel
theorem dX7_readOption_5 : decode cX7_readOption 5 = .ok (.lload_n 1, 1) := by decide +kernel
theorem dX7_readOption_6 : decode cX7_readOption 6 = .ok (.lconst 0, 1) := by decide +kernel
theorem dX7_readOption_7 : decode cX7_readOption 7 = .ok (.lcmp, 1) := by decide +kernel
theorem dX7_readOption_8 : decode cX7_readOption 8 = .ok (.ifCond .ne 5, 3) := by decide +kernel
theorem dX7_readOption_11 : decode cX7_readOption 11 = .ok (.iconst 0, 1) := by decide +kernel
theorem dX7_readOption_12 : decode cX7_readOption 12 = .ok (.ireturn, 1) := by decide +kernel
theorem dX7_readOption_13 : decode cX7_readOption 13 = .ok (.aload_n 0, 1) := by decide +kernel
theorem dX7_readOption_14 : decode cX7_readOption 14 = .ok (.getfield 15, 3) := by decide +kernel
theorem dX7_readOption_17 : decode cX7_readOption 17 = .ok (.lload_n 1, 1) := by decide +kernel
theorem dX7_readOption_18 : decode cX7_readOption 18 = .ok (.bipush 100, 2) := by decide +kernel
theorem dX7_readOption_20 : decode cX7_readOption 20 = .ok (.aload_n 0, 1) := by decide +kernel
theorem dX7_readOption_21 : decode cX7_readOption 21 = .ok (.getfield 15, 3) := by decide +kernel
theorem dX7_readOption_24 : decode cX7_readOption 24 = .ok (.getfield 130, 3) := by decide +kernel
theorem dX7_readOption_27 : decode cX7_readOption 27 = .ok (.iadd, 1) := by decide +kernel
theorem dX7_readOption_28 : decode cX7_readOption 28 = .ok (.invokevirtual 194, 3) := by decide +kernel
theorem dX7_readOption_31 : decode cX7_readOption 31 = .ok (.aload_n 0, 1) := by decide +kernel
theorem dX7_readOption_32 : decode cX7_readOption 32 = .ok (.getfield 15, 3) := by decide +kernel
theorem dX7_readOption_35 : decode cX7_readOption 35 = .ok (.dup, 1) := by decide +kernel
theorem dX7_readOption_36 : decode cX7_readOption 36 = .ok (.getfield 130, 3) := by decide +kernel
theorem dX7_readOption_39 : decode cX7_readOption 39 = .ok (.iconst 1, 1) := by decide +kernel
theorem dX7_readOption_40 : decode cX7_readOption 40 = .ok (.iadd, 1) := by decide +kernel
theorem dX7_readOption_41 : decode cX7_readOption 41 = .ok (.putfield 130, 3) := by decide +kernel
theorem dX7_readOption_44 : decode cX7_readOption 44 = .ok (.aload_n 0, 1) := by decide +kernel
theorem dX7_readOption_45 : decode cX7_readOption 45 = .ok (.invokevirtual 180, 3) := by decide +kernel
theorem dX7_readOption_48 : decode cX7_readOption 48 = .ok (.ireturn, 1) := by decide +kernel
theorem dX7_readPlug_0 : decode cX7_readPlug 0 = .ok (.aload_n 0, 1) := by decide +kernel
theorem dX7_readPlug_1 : decode cX7_readPlug 1 = .ok (.invokevirtual 183, 3) := by decide +kernel
theorem dX7_readPlug_4 : decode cX7_readPlug 4 = .ok (.lstore_n 1, 1) := by decide +kernel
theorem dX7_readPlug_5 : decode cX7_readPlug 5 = .ok (.lload_n 1, 1) := by decide +kernel
theorem dX7_readPlug_6 : decode cX7_readPlug 6 = .ok (.lconst 0, 1) := by decide +kernel
theorem dX7_readPlug_7 : decode cX7_readPlug 7 = .ok (.lcmp, 1) := by decide +kernel
theorem dX7_readPlug_8 : decode cX7_readPlug 8 = .ok (.ifCond .eq 12, 3) := by decide +kernel
theorem dX7_readPlug_11 : decode cX7_readPlug 11 = .ok (.aload_n 0, 1) := by decide +kernel
theorem dX7_readPlug_12 : decode cX7_readPlug 12 = .ok (.ldc 206, 2) := by decide +kernel
theorem dX7_readPlug_14 : decode cX7_readPlug 14 = .ok (.invokevirtual 167, 3) := by decide +kernel
theorem dX7_readPlug_17 : decode cX7_readPlug 17 = .ok (.ifCond .ne 5, 3) := by decide +kernel
theorem dX7_readPlug_20 : decode cX7_readPlug 20 = .ok (.iconst 0, 1) := by decide +kernel
theorem dX7_readPlug_21 : decode cX7_readPlug 21 = .ok (.ireturn, 1) := by decide +kernel
theorem dX7_readPlug_22 : decode cX7_readPlug 22 = .ok (.aload_n 0, 1) := by decide +kernel
theorem dX7_readPlug_23 : decode cX7_readPlug 23 = .ok (.iconst 0, 1) := by decide +kernel
theorem dX7_readPlug_24 : decode cX7_readPlug 24 = .ok (.invokevirtual 100, 3) := by decide +kernel
theorem dX7_readPlug_27 : decode cX7_readPlug 27 = .ok (.istore_n 3, 1) := by decide +kernel
theorem dX7_readPlug_28 : decode cX7_readPlug 28 = .ok (.iload_n 3, 1) := by decide +kernel
theorem dX7_readPlug_29 : decode cX7_readPlug 29 = .ok (.ifCond .lt 12, 3) := by decide +kernel
theorem dX7_readPlug_32 : decode cX7_readPlug 32 = .ok (.aload_n 0, 1) := by decide +kernel
theorem dX7_readPlug_33 : decode cX7_readPlug 33 = .ok (.ldc 208, 2) := by decide +kernel
theorem dX7_readPlug_35 : decode cX7_readPlug 35 = .ok (.invokevirtual 167, 3) := by decide +kernel
theorem dX7_readPlug_38 : decode cX7_readPlug 38 = .ok (.ifCond .ne 5, 3) := by decide +kernel
theorem dX7_readPlug_41 : decode cX7_readPlug 41 = .ok (.iconst 0, 1) := by decide +kernel
theorem dX7_readPlug_42 : decode cX7_readPlug 42 = .ok (.ireturn, 1) := by decide +kernel
theorem dX7_readPlug_43 : decode cX7_readPlug 43 = .ok (.aload_n 0, 1) := by decide +kernel
theorem dX7_readPlug_44 : decode cX7_readPlug 44 = .ok (.iconst 1, 1) := by decide +kernel
theorem dX7_readPlug_45 : decode cX7_readPlug 45 = .ok (.bipush 12, 2) := by decide +kernel
theorem dX7_readPlug_47 : decode cX7_readPlug 47 = .ok (.invokevirtual 170, 3) := by decide +kernel
theorem dX7_readPlug_50 : decode cX7_readPlug 50 = .ok (.istore 4, 2) := by decide +kernel
theorem dX7_readPlug_52 : decode cX7_readPlug 52 = .ok (.iload 4, 2) := by decide +kernel
theorem dX7_readPlug_54 : decode cX7_readPlug 54 = .ok (.ifCond .lt 12, 3) := by decide +kernel
theorem dX7_readPlug_57 : decode cX7_readPlug 57 = .ok (.aload_n 0, 1) := by decide +kernel
theorem dX7_readPlug_58 : decode cX7_readPlug 58 = .ok (.ldc 210, 2) := by decide +kernel
theorem dX7_readPlug_60 : decode cX7_readPlug 60 = .ok (.invokevirtual 167, 3) := by decide +kernel
theorem dX7_readPlug_63 : decode cX7_readPlug 63 = .ok (.ifCond .ne 5, 3) := by decide +kernel
theorem dX7_readPlug_66 : decode cX7_readPlug 66 = .ok (.iconst 0, 1) := by decide +kernel
theorem dX7_readPlug_67 : decode cX7_readPlug 67 = .ok (.ireturn, 1) := by decide +kernel
theorem dX7_readPlug_68 : decode cX7_readPlug 68 = .ok (.aload_n 0, 1) := by decide +kernel
theorem dX7_readPlug_69 : decode cX7_readPlug 69 = .ok (.iconst 1, 1) := by decide +kernel
theorem dX7_readPlug_70 : decode cX7_readPlug 70 = .ok (.bipush 9, 2) := by decide +kernel
theorem dX7_readPlug_72 : decode cX7_readPlug 72 = .ok (.invokevirtual 170, 3) := by decide +kernel
theorem dX7_readPlug_75 : decode cX7_readPlug 75 = .ok (.istore 5, 2) := by decide +kernel
theorem dX7_readPlug_77 : decode cX7_readPlug 77 = .ok (.iload 5, 2) := by decide +kernel
theorem dX7_readPlug_79 : decode cX7_readPlug 79 = .ok (.ifCond .lt 12, 3) := by decide +kernel
theorem dX7_readPlug_82 : decode cX7_readPlug 82 = .ok (.aload_n 0, 1) := by decide +kernel
theorem dX7_readPlug_83 : decode cX7_readPlug 83 = .ok (.ldc 212, 2) := by decide +kernel
theorem dX7_readPlug_85 : decode cX7_readPlug 85 = .ok (.invokevirtual 167, 3) := by decide +kernel
theorem dX7_readPlug_88 : decode cX7_readPlug 88 = .ok (.ifCond .ne 5, 3) := by decide +kernel
theorem dX7_readPlug_91 : decode cX7_readPlug 91 = .ok (.iconst 0, 1) := by decide +kernel
theorem dX7_readPlug_92 : decode cX7_readPlug 92 = .ok (.ireturn, 1) := by decide +kernel
theorem dX7_readPlug_93 : decode cX7_readPlug 93 = .ok (.aload_n 0, 1) := by decide +kernel
theorem dX7_readPlug_94 : decode cX7_readPlug 94 = .ok (.iload 5, 2) := by decide +kernel
theorem dX7_readPlug_96 : decode cX7_readPlug 96 = .ok (.bipush 9, 2) := by decide +kernel
theorem dX7_readPlug_98 : decode cX7_readPlug 98 = .ok (.invokevirtual 170, 3) := by decide +kernel
theorem dX7_readPlug_101 : decode cX7_readPlug 101 = .ok (.istore 6, 2) := by decide +kernel
theorem dX7_readPlug_103 : decode cX7_readPlug 103 = .ok (.iload 6, 2) := by decide +kernel
theorem dX7_readPlug_105 : decode cX7_readPlug 105 = .ok (.ifCond .lt 10, 3) := by decide +kernel
theorem dX7_readPlug_108 : decode cX7_readPlug 108 = .ok (.aload_n 0, 1) := by decide +kernel
theorem dX7_readPlug_109 : decode cX7_readPlug 109 = .ok (.invokevirtual 214, 3) := by decide +kernel
theorem dX7_readPlug_112 : decode cX7_readPlug 112 = .ok (.ifCond .ne 5, 3) := by decide +kernel
theorem dX7_readPlug_115 : decode cX7_readPlug 115 = .ok (.iconst 0, 1) := by decide +kernel
theorem dX7_readPlug_116 : decode cX7_readPlug 116 = .ok (.ireturn, 1) := by decide +kernel
theorem dX7_readPlug_117 : decode cX7_readPlug 117 = .ok (.aload_n 0, 1) := by decide +kernel
theorem dX7_readPlug_118 : decode cX7_readPlug 118 = .ok (.getfield 15, 3) := by decide +kernel
theorem dX7_readPlug_121 : decode cX7_readPlug 121 = .ok (.lload_n 1, 1) := by decide +kernel
theorem dX7_readPlug_122 : decode cX7_readPlug 122 = .ok (.sipush 200, 3) := by decide +kernel
theorem dX7_readPlug_125 : decode cX7_readPlug 125 = .ok (.aload_n 0, 1) := by decide +kernel
theorem dX7_readPlug_126 : decode cX7_readPlug 126 = .ok (.getfield 15, 3) := by decide +kernel
theorem dX7_readPlug_129 : decode cX7_readPlug 129 = .ok (.getfield 138, 3) := by decide +kernel
theorem dX7_readPlug_132 : decode cX7_readPlug 132 = .ok (.getfield 142, 3) := by decide +kernel
theorem dX7_readPlug_135 : decode cX7_readPlug 135 = .ok (.iadd, 1) := by decide +kernel
theorem dX7_readPlug_136 : decode cX7_readPlug 136 = .ok (.invokevirtual 194, 3) := by decide +kernel
theorem dX7_readPlug_139 : decode cX7_readPlug 139 = .ok (.aload_n 0, 1) := by decide +kernel
theorem dX7_readPlug_140 : decode cX7_readPlug 140 = .ok (.getfield 15, 3) := by decide +kernel
theorem dX7_readPlug_143 : decode cX7_readPlug 143 = .ok (.getfield 138, 3) := by decide +kernel
theorem dX7_readPlug_146 : decode cX7_readPlug 146 = .ok (.iload_n 3, 1) := by decide +kernel
theorem dX7_readPlug_147 : decode cX7_readPlug 147 = .ok (.iload 4, 2) := by decide +kernel
theorem dX7_readPlug_149 : decode cX7_readPlug 149 = .ok (.iload 5, 2) := by decide +kernel
theorem dX7_readPlug_151 : decode cX7_readPlug 151 = .ok (.iload 6, 2) := by decide +kernel
theorem dX7_readPlug_153 : decode cX7_readPlug 153 = .ok (.aload_n 0, 1) := by decide +kernel
theorem dX7_readPlug_154 : decode cX7_readPlug 154 = .ok (.getfield 90, 3) := by decide +kernel
theorem dX7_readPlug_157 : decode cX7_readPlug 157 = .ok (.aload_n 0, 1) := by decide +kernel
theorem dX7_readPlug_158 : decode cX7_readPlug 158 = .ok (.getfield 93, 3) := by decide +kernel
theorem dX7_readPlug_161 : decode cX7_readPlug 161 = .ok (.invokevirtual 217, 3) := by decide +kernel
theorem dX7_readPlug_164 : decode cX7_readPlug 164 = .ok (.aload_n 0, 1) := by decide +kernel
theorem dX7_readPlug_165 : decode cX7_readPlug 165 = .ok (.invokevirtual 180, 3) := by decide +kernel
theorem dX7_readPlug_168 : decode cX7_readPlug 168 = .ok (.ireturn, 1) := by decide +kernel
theorem dX7_readNet_0 : decode cX7_readNet 0 = .ok (.aload_n 0, 1) := by decide +kernel
theorem dX7_readNet_1 : decode cX7_readNet 1 = .ok (.getfield 15, 3) := by decide +kernel
theorem dX7_readNet_4 : decode cX7_readNet 4 = .ok (.getfield 29, 3) := by decide +kernel
theorem dX7_readNet_7 : decode cX7_readNet 7 = .ok (.getfield 35, 3) := by decide +kernel
theorem dX7_readNet_10 : decode cX7_readNet 10 = .ok (.istore_n 1, 1) := by decide +kernel
theorem dX7_readNet_11 : decode cX7_readNet 11 = .ok (.aload_n 0, 1) := by decide +kernel
theorem dX7_readNet_12 : decode cX7_readNet 12 = .ok (.invokevirtual 183, 3) := by decide +kernel
theorem dX7_readNet_15 : decode cX7_readNet 15 = .ok (.lstore_n 2, 1) := by decide +kernel
theorem dX7_readNet_16 : decode cX7_readNet 16 = .ok (.lload_n 2, 1) := by decide +kernel
theorem dX7_readNet_17 : decode cX7_readNet 17 = .ok (.lconst 0, 1) := by decide +kernel
theorem dX7_readNet_18 : decode cX7_readNet 18 = .ok (.lcmp, 1) := by decide +kernel
theorem dX7_readNet_19 : decode cX7_readNet 19 = .ok (.ifCond .ne 5, 3) := by decide +kernel
theorem dX7_readNet_22 : decode cX7_readNet 22 = .ok (.iconst 0, 1) := by decide +kernel
theorem dX7_readNet_23 : decode cX7_readNet 23 = .ok (.ireturn, 1) := by decide +kernel
theorem dX7_readNet_24 : decode cX7_readNet 24 = .ok (.aload_n 0, 1) := by decide +kernel
theorem dX7_readNet_25 : decode cX7_readNet 25 = .ok (.invokevirtual 220, 3) := by decide +kernel
theorem dX7_readNet_28 : decode cX7_readNet 28 = .ok (.istore 4, 2) := by decide +kernel
theorem dX7_readNet_30 : decode cX7_readNet 30 = .ok (.iload 4, 2) := by decide +kernel
theorem dX7_readNet_32 : decode cX7_readNet 32 = .ok (.ifCond .lt 12, 3) := by decide +kernel
theorem dX7_readNet_35 : decode cX7_readNet 35 = .ok (.aload_n 0, 1) := by decide +kernel
theorem dX7_readNet_36 : decode cX7_readNet 36 = .ok (.ldc 210, 2) := by decide +kernel
theorem dX7_readNet_38 : decode cX7_readNet 38 = .ok (.invokevirtual 167, 3) := by decide +kernel
theorem dX7_readNet_41 : decode cX7_readNet 41 = .ok (.ifCond .ne 5, 3) := by decide +kernel
theorem dX7_readNet_44 : decode cX7_readNet 44 = .ok (.iconst 0, 1) := by decide +kernel
theorem dX7_readNet_45 : decode cX7_readNet 45 = .ok (.ireturn, 1) := by decide +kernel
theorem dX7_readNet_46 : decode cX7_readNet 46 = .ok (.aload_n 0, 1) := by decide +kernel
theorem dX7_readNet_47 : decode cX7_readNet 47 = .ok (.iconst 1, 1) := by decide +kernel
theorem dX7_readNet_48 : decode cX7_readNet 48 = .ok (.bipush 9, 2) := by decide +kernel
theorem dX7_readNet_50 : decode cX7_readNet 50 = .ok (.invokevirtual 170, 3) := by decide +kernel
theorem dX7_readNet_53 : decode cX7_readNet 53 = .ok (.istore 5, 2) := by decide +kernel
theorem dX7_readNet_55 : decode cX7_readNet 55 = .ok (.iload 5, 2) := by decide +kernel
theorem dX7_readNet_57 : decode cX7_readNet 57 = .ok (.ifCond .lt 19, 3) := by decide +kernel
theorem dX7_readNet_60 : decode cX7_readNet 60 = .ok (.aload_n 0, 1) := by decide +kernel
theorem dX7_readNet_61 : decode cX7_readNet 61 = .ok (.invokevirtual 214, 3) := by decide +kernel
theorem dX7_readNet_64 : decode cX7_readNet 64 = .ok (.ifCond .eq 12, 3) := by decide +kernel
theorem dX7_readNet_67 : decode cX7_readNet 67 = .ok (.aload_n 0, 1) := by decide +kernel
theorem dX7_readNet_68 : decode cX7_readNet 68 = .ok (.ldc 223, 2) := by decide +kernel
theorem dX7_readNet_70 : decode cX7_readNet 70 = .ok (.invokevirtual 167, 3) := by decide +kernel
theorem dX7_readNet_73 : decode cX7_readNet 73 = .ok (.ifCond .ne 5, 3) := by decide +kernel
theorem dX7_readNet_76 : decode cX7_readNet 76 = .ok (.iconst 0, 1) := by decide +kernel
theorem dX7_readNet_77 : decode cX7_readNet 77 = .ok (.ireturn, 1) := by decide +kernel
theorem dX7_readNet_78 : decode cX7_readNet 78 = .ok (.aload_n 0, 1) := by decide +kernel
theorem dX7_readNet_79 : decode cX7_readNet 79 = .ok (.getfield 15, 3) := by decide +kernel
theorem dX7_readNet_82 : decode cX7_readNet 82 = .ok (.lload_n 2, 1) := by decide +kernel
theorem dX7_readNet_83 : decode cX7_readNet 83 = .ok (.sipush 300, 3) := by decide +kernel
theorem dX7_readNet_86 : decode cX7_readNet 86 = .ok (.iload_n 1, 1) := by decide +kernel
theorem dX7_readNet_87 : decode cX7_readNet 87 = .ok (.iadd, 1) := by decide +kernel
theorem dX7_readNet_88 : decode cX7_readNet 88 = .ok (.invokevirtual 194, 3) := by decide +kernel
theorem dX7_readNet_91 : decode cX7_readNet 91 = .ok (.aload_n 0, 1) := by decide +kernel
theorem dX7_readNet_92 : decode cX7_readNet 92 = .ok (.getfield 15, 3) := by decide +kernel
theorem dX7_readNet_95 : decode cX7_readNet 95 = .ok (.getfield 29, 3) := by decide +kernel
theorem dX7_readNet_98 : decode cX7_readNet 98 = .ok (.iload 4, 2) := by decide +kernel
theorem dX7_readNet_100 : decode cX7_readNet 100 = .ok (.iload 5, 2) := by decide +kernel
theorem dX7_readNet_102 : decode cX7_readNet 102 = .ok (.aload_n 0, 1) := by decide +kernel
theorem dX7_readNet_103 : decode cX7_readNet 103 = .ok (.getfield 90, 3) := by decide +kernel
theorem dX7_readNet_106 : decode cX7_readNet 106 = .ok (.aload_n 0, 1) := by decide +kernel
theorem dX7_readNet_107 : decode cX7_readNet 107 = .ok (.getfield 93, 3) := by decide +kernel
theorem dX7_readNet_110 : decode cX7_readNet 110 = .ok (.invokevirtual 225, 3) := by decide +kernel
theorem dX7_readNet_113 : decode cX7_readNet 113 = .ok (.aload_n 0, 1) := by decide +kernel
theorem dX7_readNet_114 : decode cX7_readNet 114 = .ok (.iload_n 1, 1) := by decide +kernel
theorem dX7_readNet_115 : decode cX7_readNet 115 = .ok (.invokevirtual 228, 3) := by decide +kernel
theorem dX7_readNet_118 : decode cX7_readNet 118 = .ok (.ifCond .eq 14, 3) := by decide +kernel
theorem dX7_readNet_121 : decode cX7_readNet 121 = .ok (.aload_n 0, 1) := by decide +kernel
theorem dX7_readNet_122 : decode cX7_readNet 122 = .ok (.invokevirtual 180, 3) := by decide +kernel
theorem dX7_readNet_125 : decode cX7_readNet 125 = .ok (.ifCond .eq 7, 3) := by decide +kernel
theorem dX7_readNet_128 : decode cX7_readNet 128 = .ok (.iconst 1, 1) := by decide +kernel
theorem dX7_readNet_129 : decode cX7_readNet 129 = .ok (.goto 4, 3) := by decide +kernel
theorem dX7_readNet_132 : decode cX7_readNet 132 = .ok (.iconst 0, 1) := by decide +kernel
theorem dX7_readNet_133 : decode cX7_readNet 133 = .ok (.ireturn, 1) := by decide +kernel
theorem dX7_readPins_0 : decode cX7_readPins 0 = .ok (.iconst 0, 1) := by decide +kernel
theorem dX7_readPins_1 : decode cX7_readPins 1 = .ok (.istore_n 2, 1) := by decide +kernel
theorem dX7_readPins_2 : decode cX7_readPins 2 = .ok (.iload_n 2, 1) := by decide +kernel
theorem dX7_readPins_3 : decode cX7_readPins 3 = .ok (.iconst 5, 1) := by decide +kernel
theorem dX7_readPins_4 : decode cX7_readPins 4 = .ok (.if_icmp .ge 170, 3) := by decide +kernel
theorem dX7_readPins_7 : decode cX7_readPins 7 = .ok (.iload_n 2, 1) := by decide +kernel
theorem dX7_readPins_8 : decode cX7_readPins 8 = .ok (.iconst 1, 1) := by decide +kernel
theorem dX7_readPins_9 : decode cX7_readPins 9 = .ok (.if_icmp .le 13, 3) := by decide +kernel
theorem dX7_readPins_12 : decode cX7_readPins 12 = .ok (.aload_n 0, 1) := by decide +kernel
theorem dX7_readPins_13 : decode cX7_readPins 13 = .ok (.iconst 4, 1) := by decide +kernel
theorem dX7_readPins_14 : decode cX7_readPins 14 = .ok (.invokevirtual 25, 3) := by decide +kernel
theorem dX7_readPins_17 : decode cX7_readPins 17 = .ok (.ifCond .ne 5, 3) := by decide +kernel
theorem dX7_readPins_20 : decode cX7_readPins 20 = .ok (.iconst 1, 1) := by decide +kernel
theorem dX7_readPins_21 : decode cX7_readPins 21 = .ok (.ireturn, 1) := by decide +kernel
theorem dX7_readPins_22 : decode cX7_readPins 22 = .ok (.iload_n 2, 1) := by decide +kernel
theorem dX7_readPins_23 : decode cX7_readPins 23 = .ok (.ifCond .le 17, 3) := by decide +kernel
theorem dX7_readPins_26 : decode cX7_readPins 26 = .ok (.aload_n 0, 1) := by decide +kernel
theorem dX7_readPins_27 : decode cX7_readPins 27 = .ok (.iconst 4, 1) := by decide +kernel
theorem dX7_readPins_28 : decode cX7_readPins 28 = .ok (.invokevirtual 25, 3) := by decide +kernel
theorem dX7_readPins_31 : decode cX7_readPins 31 = .ok (.ifCond .ne 9, 3) := by decide +kernel
theorem dX7_readPins_34 : decode cX7_readPins 34 = .ok (.aload_n 0, 1) := by decide +kernel
theorem dX7_readPins_35 : decode cX7_readPins 35 = .ok (.iconst 1, 1) := by decide +kernel
theorem dX7_readPins_36 : decode cX7_readPins 36 = .ok (.invokevirtual 41, 3) := by decide +kernel
theorem dX7_readPins_39 : decode cX7_readPins 39 = .ok (.ireturn, 1) := by decide +kernel
theorem dX7_readPins_40 : decode cX7_readPins 40 = .ok (.aload_n 0, 1) := by decide +kernel
theorem dX7_readPins_41 : decode cX7_readPins 41 = .ok (.dup, 1) := by decide +kernel
theorem dX7_readPins_42 : decode cX7_readPins 42 = .ok (.getfield 44, 3) := by decide +kernel
theorem dX7_readPins_45 : decode cX7_readPins 45 = .ok (.iload_n 2, 1) := by decide +kernel
theorem dX7_readPins_46 : decode cX7_readPins 46 = .ok (.ifCond .le 7, 3) := by decide +kernel
theorem dX7_readPins_49 : decode cX7_readPins 49 = .ok (.iconst 1, 1) := by decide +kernel
theorem dX7_readPins_50 : decode cX7_readPins 50 = .ok (.goto 4, 3) := by decide +kernel
theorem dX7_readPins_53 : decode cX7_readPins 53 = .ok (.iconst 0, 1) := by decide +kernel
theorem dX7_readPins_54 : decode cX7_readPins 54 = .ok (.iadd, 1) := by decide +kernel
theorem dX7_readPins_55 : decode cX7_readPins 55 = .ok (.putfield 44, 3) := by decide +kernel
theorem dX7_readPins_58 : decode cX7_readPins 58 = .ok (.aload_n 0, 1) := by decide +kernel
theorem dX7_readPins_59 : decode cX7_readPins 59 = .ok (.sipush 200, 3) := by decide +kernel
theorem dX7_readPins_62 : decode cX7_readPins 62 = .ok (.invokevirtual 100, 3) := by decide +kernel
theorem dX7_readPins_65 : decode cX7_readPins 65 = .ok (.istore_n 3, 1) := by decide +kernel
theorem dX7_readPins_66 : decode cX7_readPins 66 = .ok (.iload_n 3, 1) := by decide +kernel
theorem dX7_readPins_67 : decode cX7_readPins 67 = .ok (.ifCond .ge 5, 3) := by decide +kernel
theorem dX7_readPins_70 : decode cX7_readPins 70 = .ok (.iconst 0, 1) := by decide +kernel
theorem dX7_readPins_71 : decode cX7_readPins 71 = .ok (.ireturn, 1) := by decide +kernel
theorem dX7_readPins_72 : decode cX7_readPins 72 = .ok (.aload_n 0, 1) := by decide +kernel
theorem dX7_readPins_73 : decode cX7_readPins 73 = .ok (.iconst 3, 1) := by decide +kernel
theorem dX7_readPins_74 : decode cX7_readPins 74 = .ok (.invokevirtual 25, 3) := by decide +kernel
theorem dX7_readPins_77 : decode cX7_readPins 77 = .ok (.ifCond .eq 37, 3) := by decide +kernel
theorem dX7_readPins_80 : decode cX7_readPins 80 = .ok (.aload_n 0, 1) := by decide +kernel
theorem dX7_readPins_81 : decode cX7_readPins 81 = .ok (.getfield 15, 3) := by decide +kernel
theorem dX7_readPins_84 : decode cX7_readPins 84 = .ok (.getfield 29, 3) := by decide +kernel
theorem dX7_readPins_87 : decode cX7_readPins 87 = .ok (.iload_n 1, 1) := by decide +kernel
theorem dX7_readPins_88 : decode cX7_readPins 88 = .ok (.iconst (-1), 1) := by decide +kernel
theorem dX7_readPins_89 : decode cX7_readPins 89 = .ok (.iload_n 3, 1) := by decide +kernel
theorem dX7_readPins_90 : decode cX7_readPins 90 = .ok (.aload_n 0, 1) := by decide +kernel
theorem dX7_readPins_91 : decode cX7_readPins 91 = .ok (.getfield 9, 3) := by decide +kernel
theorem dX7_readPins_94 : decode cX7_readPins 94 = .ok (.aload_n 0, 1) := by decide +kernel
theorem dX7_readPins_95 : decode cX7_readPins 95 = .ok (.getfield 44, 3) := by decide +kernel
theorem dX7_readPins_98 : decode cX7_readPins 98 = .ok (.invokevirtual 57, 3) := by decide +kernel
theorem dX7_readPins_101 : decode cX7_readPins 101 = .ok (.l2i, 1) := by decide +kernel
theorem dX7_readPins_102 : decode cX7_readPins 102 = .ok (.invokevirtual 231, 3) := by decide +kernel
theorem dX7_readPins_105 : decode cX7_readPins 105 = .ok (.ifCond .eq 9, 3) := by decide +kernel
theorem dX7_readPins_108 : decode cX7_readPins 108 = .ok (.aload_n 0, 1) := by decide +kernel
theorem dX7_readPins_109 : decode cX7_readPins 109 = .ok (.iconst 3, 1) := by decide +kernel
theorem dX7_readPins_110 : decode cX7_readPins 110 = .ok (.invokevirtual 41, 3) := by decide +kernel
theorem dX7_readPins_113 : decode cX7_readPins 113 = .ok (.ireturn, 1) := by decide +kernel
theorem dX7_readPins_114 : decode cX7_readPins 114 = .ok (.aload_n 0, 1) := by decide +kernel
theorem dX7_readPins_115 : decode cX7_readPins 115 = .ok (.iconst 0, 1) := by decide +kernel
theorem dX7_readPins_116 : decode cX7_readPins 116 = .ok (.aload_n 0, 1) := by decide +kernel
theorem dX7_readPins_117 : decode cX7_readPins 117 = .ok (.getfield 15, 3) := by decide +kernel
theorem dX7_readPins_120 : decode cX7_readPins 120 = .ok (.getfield 138, 3) := by decide +kernel
theorem dX7_readPins_123 : decode cX7_readPins 123 = .ok (.getfield 235, 3) := by decide +kernel
theorem dX7_readPins_126 : decode cX7_readPins 126 = .ok (.iload_n 3, 1) := by decide +kernel
theorem dX7_readPins_127 : decode cX7_readPins 127 = .ok (.iaload, 1) := by decide +kernel
theorem dX7_readPins_128 : decode cX7_readPins 128 = .ok (.iconst 1, 1) := by decide +kernel
theorem dX7_readPins_129 : decode cX7_readPins 129 = .ok (.isub, 1) := by decide +kernel
theorem dX7_readPins_130 : decode cX7_readPins 130 = .ok (.invokevirtual 170, 3) := by decide +kernel
theorem dX7_readPins_133 : decode cX7_readPins 133 = .ok (.istore 4, 2) := by decide +kernel
theorem dX7_readPins_135 : decode cX7_readPins 135 = .ok (.iload 4, 2) := by decide +kernel
theorem dX7_readPins_137 : decode cX7_readPins 137 = .ok (.ifCond .ge 5, 3) := by decide +kernel
theorem dX7_readPins_140 : decode cX7_readPins 140 = .ok (.iconst 0, 1) := by decide +kernel
theorem dX7_readPins_141 : decode cX7_readPins 141 = .ok (.ireturn, 1) := by decide +kernel
theorem dX7_readPins_142 : decode cX7_readPins 142 = .ok (.aload_n 0, 1) := by decide +kernel
theorem dX7_readPins_143 : decode cX7_readPins 143 = .ok (.getfield 15, 3) := by decide +kernel
theorem dX7_readPins_146 : decode cX7_readPins 146 = .ok (.getfield 29, 3) := by decide +kernel
theorem dX7_readPins_149 : decode cX7_readPins 149 = .ok (.iload_n 1, 1) := by decide +kernel
theorem dX7_readPins_150 : decode cX7_readPins 150 = .ok (.iload_n 3, 1) := by decide +kernel
theorem dX7_readPins_151 : decode cX7_readPins 151 = .ok (.iload 4, 2) := by decide +kernel
theorem dX7_readPins_153 : decode cX7_readPins 153 = .ok (.aload_n 0, 1) := by decide +kernel
theorem dX7_readPins_154 : decode cX7_readPins 154 = .ok (.getfield 15, 3) := by decide +kernel
theorem dX7_readPins_157 : decode cX7_readPins 157 = .ok (.getfield 138, 3) := by decide +kernel
theorem dX7_readPins_160 : decode cX7_readPins 160 = .ok (.getfield 238, 3) := by decide +kernel
theorem dX7_readPins_163 : decode cX7_readPins 163 = .ok (.iload_n 3, 1) := by decide +kernel
theorem dX7_readPins_164 : decode cX7_readPins 164 = .ok (.iaload, 1) := by decide +kernel
theorem dX7_readPins_165 : decode cX7_readPins 165 = .ok (.invokevirtual 240, 3) := by decide +kernel
theorem dX7_readPins_168 : decode cX7_readPins 168 = .ok (.iinc 2 1, 3) := by decide +kernel
theorem dX7_readPins_171 : decode cX7_readPins 171 = .ok (.goto (-169), 3) := by decide +kernel
theorem dX7_readPins_174 : decode cX7_readPins 174 = .ok (.iconst 1, 1) := by decide +kernel
theorem dX7_readPins_175 : decode cX7_readPins 175 = .ok (.ireturn, 1) := by decide +kernel
theorem dX7_readBuild_0 : decode cX7_readBuild 0 = .ok (.aload_n 0, 1) := by decide +kernel
theorem dX7_readBuild_1 : decode cX7_readBuild 1 = .ok (.iconst 1, 1) := by decide +kernel
theorem dX7_readBuild_2 : decode cX7_readBuild 2 = .ok (.bipush 99, 2) := by decide +kernel
theorem dX7_readBuild_4 : decode cX7_readBuild 4 = .ok (.invokevirtual 170, 3) := by decide +kernel
theorem dX7_readBuild_7 : decode cX7_readBuild 7 = .ok (.istore_n 1, 1) := by decide +kernel
theorem dX7_readBuild_8 : decode cX7_readBuild 8 = .ok (.iload_n 1, 1) := by decide +kernel
theorem dX7_readBuild_9 : decode cX7_readBuild 9 = .ok (.ifCond .ge 5, 3) := by decide +kernel
theorem dX7_readBuild_12 : decode cX7_readBuild 12 = .ok (.iconst 0, 1) := by decide +kernel
theorem dX7_readBuild_13 : decode cX7_readBuild 13 = .ok (.ireturn, 1) := by decide +kernel
theorem dX7_readBuild_14 : decode cX7_readBuild 14 = .ok (.iconst 0, 1) := by decide +kernel
theorem dX7_readBuild_15 : decode cX7_readBuild 15 = .ok (.istore_n 2, 1) := by decide +kernel
theorem dX7_readBuild_16 : decode cX7_readBuild 16 = .ok (.iconst 0, 1) := by decide +kernel
theorem dX7_readBuild_17 : decode cX7_readBuild 17 = .ok (.istore_n 3, 1) := by decide +kernel
theorem dX7_readBuild_18 : decode cX7_readBuild 18 = .ok (.iload_n 3, 1) := by decide +kernel
theorem dX7_readBuild_19 : decode cX7_readBuild 19 = .ok (.iconst 4, 1) := by decide +kernel
theorem dX7_readBuild_20 : decode cX7_readBuild 20 = .ok (.if_icmp .gt 64, 3) := by decide +kernel
theorem dX7_readBuild_23 : decode cX7_readBuild 23 = .ok (.aload_n 0, 1) := by decide +kernel
theorem dX7_readBuild_24 : decode cX7_readBuild 24 = .ok (.iconst 1, 1) := by decide +kernel
theorem dX7_readBuild_25 : decode cX7_readBuild 25 = .ok (.invokevirtual 25, 3) := by decide +kernel
theorem dX7_readBuild_28 : decode cX7_readBuild 28 = .ok (.ifCond .eq 56, 3) := by decide +kernel
theorem dX7_readBuild_31 : decode cX7_readBuild 31 = .ok (.aload_n 0, 1) := by decide +kernel
theorem dX7_readBuild_32 : decode cX7_readBuild 32 = .ok (.bipush 100, 2) := by decide +kernel
theorem dX7_readBuild_34 : decode cX7_readBuild 34 = .ok (.invokevirtual 100, 3) := by decide +kernel
theorem dX7_readBuild_37 : decode cX7_readBuild 37 = .ok (.istore 4, 2) := by decide +kernel
theorem dX7_readBuild_39 : decode cX7_readBuild 39 = .ok (.iload 4, 2) := by decide +kernel
theorem dX7_readBuild_41 : decode cX7_readBuild 41 = .ok (.ifCond .ge 5, 3) := by decide +kernel
theorem dX7_readBuild_44 : decode cX7_readBuild 44 = .ok (.iconst 0, 1) := by decide +kernel
theorem dX7_readBuild_45 : decode cX7_readBuild 45 = .ok (.ireturn, 1) := by decide +kernel
theorem dX7_readBuild_46 : decode cX7_readBuild 46 = .ok (.iload_n 2, 1) := by decide +kernel
theorem dX7_readBuild_47 : decode cX7_readBuild 47 = .ok (.iload 4, 2) := by decide +kernel
theorem dX7_readBuild_49 : decode cX7_readBuild 49 = .ok (.invokestatic 243, 3) := by decide +kernel
theorem dX7_readBuild_52 : decode cX7_readBuild 52 = .ok (.ifCond .eq 19, 3) := by decide +kernel
theorem dX7_readBuild_55 : decode cX7_readBuild 55 = .ok (.aload_n 0, 1) := by decide +kernel
theorem dX7_readBuild_56 : decode cX7_readBuild 56 = .ok (.dup, 1) := by decide +kernel
theorem dX7_readBuild_57 : decode cX7_readBuild 57 = .ok (.getfield 44, 3) := by decide +kernel
theorem dX7_readBuild_60 : decode cX7_readBuild 60 = .ok (.iconst 1, 1) := by decide +kernel
theorem dX7_readBuild_61 : decode cX7_readBuild 61 = .ok (.isub, 1) := by decide +kernel
theorem dX7_readBuild_62 : decode cX7_readBuild 62 = .ok (.putfield 44, 3) := by decide +kernel
theorem dX7_readBuild_65 : decode cX7_readBuild 65 = .ok (.aload_n 0, 1) := by decide +kernel
theorem dX7_readBuild_66 : decode cX7_readBuild 66 = .ok (.iconst 3, 1) := by decide +kernel
theorem dX7_readBuild_67 : decode cX7_readBuild 67 = .ok (.invokevirtual 41, 3) := by decide +kernel
theorem dX7_readBuild_70 : decode cX7_readBuild 70 = .ok (.ireturn, 1) := by decide +kernel
theorem dX7_readBuild_71 : decode cX7_readBuild 71 = .ok (.iload_n 2, 1) := by decide +kernel
theorem dX7_readBuild_72 : decode cX7_readBuild 72 = .ok (.iconst 1, 1) := by decide +kernel
theorem dX7_readBuild_73 : decode cX7_readBuild 73 = .ok (.iload 4, 2) := by decide +kernel
theorem dX7_readBuild_75 : decode cX7_readBuild 75 = .ok (.ishl, 1) := by decide +kernel
theorem dX7_readBuild_76 : decode cX7_readBuild 76 = .ok (.ior, 1) := by decide +kernel
theorem dX7_readBuild_77 : decode cX7_readBuild 77 = .ok (.istore_n 2, 1) := by decide +kernel
theorem dX7_readBuild_78 : decode cX7_readBuild 78 = .ok (.iinc 3 1, 3) := by decide +kernel
theorem dX7_readBuild_81 : decode cX7_readBuild 81 = .ok (.goto (-63), 3) := by decide +kernel
theorem dX7_readBuild_84 : decode cX7_readBuild 84 = .ok (.aload_n 0, 1) := by decide +kernel
theorem dX7_readBuild_85 : decode cX7_readBuild 85 = .ok (.invokevirtual 180, 3) := by decide +kernel
theorem dX7_readBuild_88 : decode cX7_readBuild 88 = .ok (.ifCond .ne 5, 3) := by decide +kernel
theorem dX7_readBuild_91 : decode cX7_readBuild 91 = .ok (.iconst 0, 1) := by decide +kernel
theorem dX7_readBuild_92 : decode cX7_readBuild 92 = .ok (.ireturn, 1) := by decide +kernel
theorem dX7_readBuild_93 : decode cX7_readBuild 93 = .ok (.aload_n 0, 1) := by decide +kernel
theorem dX7_readBuild_94 : decode cX7_readBuild 94 = .ok (.getfield 15, 3) := by decide +kernel
theorem dX7_readBuild_97 : decode cX7_readBuild 97 = .ok (.getfield 155, 3) := by decide +kernel
theorem dX7_readBuild_100 : decode cX7_readBuild 100 = .ok (.iload_n 2, 1) := by decide +kernel
theorem dX7_readBuild_101 : decode cX7_readBuild 101 = .ok (.invokevirtual 248, 3) := by decide +kernel
theorem dX7_readBuild_104 : decode cX7_readBuild 104 = .ok (.ifCond .eq 10, 3) := by decide +kernel
theorem dX7_readBuild_107 : decode cX7_readBuild 107 = .ok (.aload_n 0, 1) := by decide +kernel
theorem dX7_readBuild_108 : decode cX7_readBuild 108 = .ok (.bipush 7, 2) := by decide +kernel
theorem dX7_readBuild_110 : decode cX7_readBuild 110 = .ok (.invokevirtual 41, 3) := by decide +kernel
theorem dX7_readBuild_113 : decode cX7_readBuild 113 = .ok (.ireturn, 1) := by decide +kernel
theorem dX7_readBuild_114 : decode cX7_readBuild 114 = .ok (.aload_n 0, 1) := by decide +kernel
theorem dX7_readBuild_115 : decode cX7_readBuild 115 = .ok (.getfield 15, 3) := by decide +kernel
theorem dX7_readBuild_118 : decode cX7_readBuild 118 = .ok (.getfield 155, 3) := by decide +kernel
theorem dX7_readBuild_121 : decode cX7_readBuild 121 = .ok (.iload_n 2, 1) := by decide +kernel
theorem dX7_readBuild_122 : decode cX7_readBuild 122 = .ok (.iload_n 1, 1) := by decide +kernel
theorem dX7_readBuild_123 : decode cX7_readBuild 123 = .ok (.invokevirtual 251, 3) := by decide +kernel
theorem dX7_readBuild_126 : decode cX7_readBuild 126 = .ok (.iconst 1, 1) := by decide +kernel
theorem dX7_readBuild_127 : decode cX7_readBuild 127 = .ok (.ireturn, 1) := by decide +kernel
theorem dX8_init_0 : decode cX8_init 0 = .ok (.aload_n 0, 1) := by decide +kernel
theorem dX8_init_1 : decode cX8_init 1 = .ok (.invokespecial 3, 3) := by decide +kernel
theorem dX8_init_4 : decode cX8_init 4 = .ok (.aload_n 0, 1) := by decide +kernel
theorem dX8_init_5 : decode cX8_init 5 = .ok (.sipush 1000, 3) := by decide +kernel
theorem dX8_init_8 : decode cX8_init 8 = .ok (.newarray .int, 2) := by decide +kernel
theorem dX8_init_10 : decode cX8_init 10 = .ok (.putfield 9, 3) := by decide +kernel
theorem dX8_init_13 : decode cX8_init 13 = .ok (.aload_n 0, 1) := by decide +kernel
theorem dX8_init_14 : decode cX8_init 14 = .ok (.sipush 1000, 3) := by decide +kernel
theorem dX8_init_17 : decode cX8_init 17 = .ok (.newarray .int, 2) := by decide +kernel
theorem dX8_init_19 : decode cX8_init 19 = .ok (.putfield 15, 3) := by decide +kernel
theorem dX8_init_22 : decode cX8_init 22 = .ok (.aload_n 0, 1) := by decide +kernel
theorem dX8_init_23 : decode cX8_init 23 = .ok (.sipush 1000, 3) := by decide +kernel
theorem dX8_init_26 : decode cX8_init 26 = .ok (.newarray .long, 2) := by decide +kernel
theorem dX8_init_28 : decode cX8_init 28 = .ok (.putfield 18, 3) := by decide +kernel
theorem dX8_init_31 : decode cX8_init 31 = .ok (.return_, 1) := by decide +kernel
theorem dX8_kindOf_0 : decode cX8_kindOf 0 = .ok (.iload_n 1, 1) := by decide +kernel
theorem dX8_kindOf_1 : decode cX8_kindOf 1 = .ok (.ifCond .lt 20, 3) := by decide +kernel
theorem dX8_kindOf_4 : decode cX8_kindOf 4 = .ok (.iload_n 1, 1) := by decide +kernel
theorem dX8_kindOf_5 : decode cX8_kindOf 5 = .ok (.aload_n 0, 1) := by decide +kernel
theorem dX8_kindOf_6 : decode cX8_kindOf 6 = .ok (.getfield 22, 3) := by decide +kernel
theorem dX8_kindOf_9 : decode cX8_kindOf 9 = .ok (.if_icmp .ge 12, 3) := by decide +kernel
theorem dX8_kindOf_12 : decode cX8_kindOf 12 = .ok (.aload_n 0, 1) := by decide +kernel
theorem dX8_kindOf_13 : decode cX8_kindOf 13 = .ok (.getfield 9, 3) := by decide +kernel
theorem dX8_kindOf_16 : decode cX8_kindOf 16 = .ok (.iload_n 1, 1) := by decide +kernel
theorem dX8_kindOf_17 : decode cX8_kindOf 17 = .ok (.iaload, 1) := by decide +kernel
theorem dX8_kindOf_18 : decode cX8_kindOf 18 = .ok (.goto 5, 3) := by decide +kernel
theorem dX8_kindOf_21 : decode cX8_kindOf 21 = .ok (.bipush 6, 2) := by decide +kernel
theorem dX8_kindOf_23 : decode cX8_kindOf 23 = .ok (.ireturn, 1) := by decide +kernel
theorem dX8_placeOf_0 : decode cX8_placeOf 0 = .ok (.iload_n 1, 1) := by decide +kernel
theorem dX8_placeOf_1 : decode cX8_placeOf 1 = .ok (.ifCond .lt 20, 3) := by decide +kernel
theorem dX8_placeOf_4 : decode cX8_placeOf 4 = .ok (.iload_n 1, 1) := by decide +kernel
theorem dX8_placeOf_5 : decode cX8_placeOf 5 = .ok (.aload_n 0, 1) := by decide +kernel
theorem dX8_placeOf_6 : decode cX8_placeOf 6 = .ok (.getfield 22, 3) := by decide +kernel
theorem dX8_placeOf_9 : decode cX8_placeOf 9 = .ok (.if_icmp .ge 12, 3) := by decide +kernel
theorem dX8_placeOf_12 : decode cX8_placeOf 12 = .ok (.aload_n 0, 1) := by decide +kernel
theorem dX8_placeOf_13 : decode cX8_placeOf 13 = .ok (.getfield 15, 3) := by decide +kernel
theorem dX8_placeOf_16 : decode cX8_placeOf 16 = .ok (.iload_n 1, 1) := by decide +kernel
theorem dX8_placeOf_17 : decode cX8_placeOf 17 = .ok (.iaload, 1) := by decide +kernel
theorem dX8_placeOf_18 : decode cX8_placeOf 18 = .ok (.goto 7, 3) := by decide +kernel
theorem dX8_placeOf_21 : decode cX8_placeOf 21 = .ok (.aload_n 0, 1) := by decide +kernel
theorem dX8_placeOf_22 : decode cX8_placeOf 22 = .ok (.getfield 26, 3) := by decide +kernel
theorem dX8_placeOf_25 : decode cX8_placeOf 25 = .ok (.ireturn, 1) := by decide +kernel
theorem dX8_valueOf_0 : decode cX8_valueOf 0 = .ok (.iload_n 1, 1) := by decide +kernel
theorem dX8_valueOf_1 : decode cX8_valueOf 1 = .ok (.ifCond .lt 20, 3) := by decide +kernel
theorem dX8_valueOf_4 : decode cX8_valueOf 4 = .ok (.iload_n 1, 1) := by decide +kernel
theorem dX8_valueOf_5 : decode cX8_valueOf 5 = .ok (.aload_n 0, 1) := by decide +kernel
theorem dX8_valueOf_6 : decode cX8_valueOf 6 = .ok (.getfield 22, 3) := by decide +kernel
theorem dX8_valueOf_9 : decode cX8_valueOf 9 = .ok (.if_icmp .ge 12, 3) := by decide +kernel
theorem dX8_valueOf_12 : decode cX8_valueOf 12 = .ok (.aload_n 0, 1) := by decide +kernel
theorem dX8_valueOf_13 : decode cX8_valueOf 13 = .ok (.getfield 18, 3) := by decide +kernel
theorem dX8_valueOf_16 : decode cX8_valueOf 16 = .ok (.iload_n 1, 1) := by decide +kernel
theorem dX8_valueOf_17 : decode cX8_valueOf 17 = .ok (.laload, 1) := by decide +kernel
theorem dX8_valueOf_18 : decode cX8_valueOf 18 = .ok (.goto 4, 3) := by decide +kernel
theorem dX8_valueOf_21 : decode cX8_valueOf 21 = .ok (.lconst 0, 1) := by decide +kernel
theorem dX8_valueOf_22 : decode cX8_valueOf 22 = .ok (.lreturn, 1) := by decide +kernel
theorem dX8_cut_0 : decode cX8_cut 0 = .ok (.aload_n 0, 1) := by decide +kernel
theorem dX8_cut_1 : decode cX8_cut 1 = .ok (.iconst 0, 1) := by decide +kernel
theorem dX8_cut_2 : decode cX8_cut 2 = .ok (.putfield 22, 3) := by decide +kernel
theorem dX8_cut_5 : decode cX8_cut 5 = .ok (.aload_n 0, 1) := by decide +kernel
theorem dX8_cut_6 : decode cX8_cut 6 = .ok (.iload_n 2, 1) := by decide +kernel
theorem dX8_cut_7 : decode cX8_cut 7 = .ok (.aload_n 1, 1) := by decide +kernel
theorem dX8_cut_8 : decode cX8_cut 8 = .ok (.arraylength, 1) := by decide +kernel
theorem dX8_cut_9 : decode cX8_cut 9 = .ok (.invokestatic 29, 3) := by decide +kernel
theorem dX8_cut_12 : decode cX8_cut 12 = .ok (.putfield 26, 3) := by decide +kernel
theorem dX8_cut_15 : decode cX8_cut 15 = .ok (.iconst 0, 1) := by decide +kernel
theorem dX8_cut_16 : decode cX8_cut 16 = .ok (.istore_n 3, 1) := by decide +kernel
theorem dX8_cut_17 : decode cX8_cut 17 = .ok (.iconst 0, 1) := by decide +kernel
theorem dX8_cut_18 : decode cX8_cut 18 = .ok (.istore 4, 2) := by decide +kernel
theorem dX8_cut_20 : decode cX8_cut 20 = .ok (.iload 4, 2) := by decide +kernel
theorem dX8_cut_22 : decode cX8_cut 22 = .ok (.sipush 1000, 3) := by decide +kernel
theorem dX8_cut_25 : decode cX8_cut 25 = .ok (.if_icmp .ge 103, 3) := by decide +kernel
theorem dX8_cut_28 : decode cX8_cut 28 = .ok (.iload_n 3, 1) := by decide +kernel
theorem dX8_cut_29 : decode cX8_cut 29 = .ok (.aload_n 0, 1) := by decide +kernel
theorem dX8_cut_30 : decode cX8_cut 30 = .ok (.getfield 26, 3) := by decide +kernel
theorem dX8_cut_33 : decode cX8_cut 33 = .ok (.if_icmp .ge 95, 3) := by decide +kernel
theorem dX8_cut_36 : decode cX8_cut 36 = .ok (.aload_n 1, 1) := by decide +kernel
theorem dX8_cut_37 : decode cX8_cut 37 = .ok (.iload_n 3, 1) := by decide +kernel
theorem dX8_cut_38 : decode cX8_cut 38 = .ok (.baload, 1) := by decide +kernel
theorem dX8_cut_39 : decode cX8_cut 39 = .ok (.istore 5, 2) := by decide +kernel
theorem dX8_cut_41 : decode cX8_cut 41 = .ok (.iload 5, 2) := by decide +kernel
theorem dX8_cut_43 : decode cX8_cut 43 = .ok (.bipush 32, 2) := by decide +kernel
theorem dX8_cut_45 : decode cX8_cut 45 = .ok (.if_icmp .ne 9, 3) := by decide +kernel
theorem dX8_cut_48 : decode cX8_cut 48 = .ok (.iinc 3 1, 3) := by decide +kernel
theorem dX8_cut_51 : decode cX8_cut 51 = .ok (.goto 71, 3) := by decide +kernel
theorem dX8_cut_54 : decode cX8_cut 54 = .ok (.iload 5, 2) := by decide +kernel
theorem dX8_cut_56 : decode cX8_cut 56 = .ok (.invokestatic 35, 3) := by decide +kernel
theorem dX8_cut_59 : decode cX8_cut 59 = .ok (.ifCond .eq 13, 3) := by decide +kernel
theorem dX8_cut_62 : decode cX8_cut 62 = .ok (.aload_n 0, 1) := by decide +kernel
theorem dX8_cut_63 : decode cX8_cut 63 = .ok (.aload_n 1, 1) := by decide +kernel
theorem dX8_cut_64 : decode cX8_cut 64 = .ok (.iload_n 3, 1) := by decide +kernel
theorem dX8_cut_65 : decode cX8_cut 65 = .ok (.invokevirtual 39, 3) := by decide +kernel
theorem dX8_cut_68 : decode cX8_cut 68 = .ok (.istore_n 3, 1) := by decide +kernel
theorem dX8_cut_69 : decode cX8_cut 69 = .ok (.goto 53, 3) := by decide +kernel
theorem dX8_cut_72 : decode cX8_cut 72 = .ok (.iload 5, 2) := by decide +kernel
theorem dX8_cut_74 : decode cX8_cut 74 = .ok (.invokestatic 43, 3) := by decide +kernel
theorem dX8_cut_77 : decode cX8_cut 77 = .ok (.ifCond .eq 13, 3) := by decide +kernel
theorem dX8_cut_80 : decode cX8_cut 80 = .ok (.aload_n 0, 1) := by decide +kernel
theorem dX8_cut_81 : decode cX8_cut 81 = .ok (.aload_n 1, 1) := by decide +kernel
theorem dX8_cut_82 : decode cX8_cut 82 = .ok (.iload_n 3, 1) := by decide +kernel
theorem dX8_cut_83 : decode cX8_cut 83 = .ok (.invokevirtual 46, 3) := by decide +kernel
theorem dX8_cut_86 : decode cX8_cut 86 = .ok (.istore_n 3, 1) := by decide +kernel
theorem dX8_cut_87 : decode cX8_cut 87 = .ok (.goto 35, 3) := by decide +kernel
theorem dX8_cut_90 : decode cX8_cut 90 = .ok (.aload_n 0, 1) := by decide +kernel
theorem dX8_cut_91 : decode cX8_cut 91 = .ok (.iload 5, 2) := by decide +kernel
theorem dX8_cut_93 : decode cX8_cut 93 = .ok (.bipush 44, 2) := by decide +kernel
theorem dX8_cut_95 : decode cX8_cut 95 = .ok (.if_icmp .ne 7, 3) := by decide +kernel
theorem dX8_cut_98 : decode cX8_cut 98 = .ok (.iconst 4, 1) := by decide +kernel
theorem dX8_cut_99 : decode cX8_cut 99 = .ok (.goto 15, 3) := by decide +kernel
theorem dX8_cut_102 : decode cX8_cut 102 = .ok (.iload 5, 2) := by decide +kernel
theorem dX8_cut_104 : decode cX8_cut 104 = .ok (.bipush 59, 2) := by decide +kernel
theorem dX8_cut_106 : decode cX8_cut 106 = .ok (.if_icmp .ne 7, 3) := by decide +kernel
theorem dX8_cut_109 : decode cX8_cut 109 = .ok (.iconst 5, 1) := by decide +kernel
theorem dX8_cut_110 : decode cX8_cut 110 = .ok (.goto 4, 3) := by decide +kernel
theorem dX8_cut_113 : decode cX8_cut 113 = .ok (.iconst 0, 1) := by decide +kernel
theorem dX8_cut_114 : decode cX8_cut 114 = .ok (.iload_n 3, 1) := by decide +kernel
theorem dX8_cut_115 : decode cX8_cut 115 = .ok (.lconst 0, 1) := by decide +kernel
theorem dX8_cut_116 : decode cX8_cut 116 = .ok (.invokevirtual 49, 3) := by decide +kernel
theorem dX8_cut_119 : decode cX8_cut 119 = .ok (.iinc 3 1, 3) := by decide +kernel
theorem dX8_cut_122 : decode cX8_cut 122 = .ok (.iinc 4 1, 3) := by decide +kernel
theorem dX8_cut_125 : decode cX8_cut 125 = .ok (.goto (-105), 3) := by decide +kernel
theorem dX8_cut_128 : decode cX8_cut 128 = .ok (.return_, 1) := by decide +kernel
theorem dX8_cutLetters_0 : decode cX8_cutLetters 0 = .ok (.lconst 0, 1) := by decide +kernel
theorem dX8_cutLetters_1 : decode cX8_cutLetters 1 = .ok (.lstore_n 3, 1) := by decide +kernel
theorem dX8_cutLetters_2 : decode cX8_cutLetters 2 = .ok (.iload_n 2, 1) := by decide +kernel
theorem dX8_cutLetters_3 : decode cX8_cutLetters 3 = .ok (.istore 5, 2) := by decide +kernel
theorem dX8_cutLetters_5 : decode cX8_cutLetters 5 = .ok (.iload 5, 2) := by decide +kernel
theorem dX8_cutLetters_7 : decode cX8_cutLetters 7 = .ok (.aload_n 0, 1) := by decide +kernel
theorem dX8_cutLetters_8 : decode cX8_cutLetters 8 = .ok (.getfield 26, 3) := by decide +kernel
theorem dX8_cutLetters_11 : decode cX8_cutLetters 11 = .ok (.if_icmp .ge 30, 3) := by decide +kernel
theorem dX8_cutLetters_14 : decode cX8_cutLetters 14 = .ok (.aload_n 1, 1) := by decide +kernel
theorem dX8_cutLetters_15 : decode cX8_cutLetters 15 = .ok (.iload 5, 2) := by decide +kernel
theorem dX8_cutLetters_17 : decode cX8_cutLetters 17 = .ok (.baload, 1) := by decide +kernel
theorem dX8_cutLetters_18 : decode cX8_cutLetters 18 = .ok (.invokestatic 35, 3) := by decide +kernel
theorem dX8_cutLetters_21 : decode cX8_cutLetters 21 = .ok (.ifCond .eq 20, 3) := by decide +kernel
theorem dX8_cutLetters_24 : decode cX8_cutLetters 24 = .ok (.lload_n 3, 1) := by decide +kernel
theorem dX8_cutLetters_25 : decode cX8_cutLetters 25 = .ok (.bipush 8, 2) := by decide +kernel
theorem dX8_cutLetters_27 : decode cX8_cutLetters 27 = .ok (.lshl, 1) := by decide +kernel
theorem dX8_cutLetters_28 : decode cX8_cutLetters 28 = .ok (.aload_n 1, 1) := by decide +kernel
theorem dX8_cutLetters_29 : decode cX8_cutLetters 29 = .ok (.iload 5, 2) := by decide +kernel
theorem dX8_cutLetters_31 : decode cX8_cutLetters 31 = .ok (.baload, 1) := by decide +kernel
theorem dX8_cutLetters_32 : decode cX8_cutLetters 32 = .ok (.i2l, 1) := by decide +kernel
theorem dX8_cutLetters_33 : decode cX8_cutLetters 33 = .ok (.lor, 1) := by decide +kernel
theorem dX8_cutLetters_34 : decode cX8_cutLetters 34 = .ok (.lstore_n 3, 1) := by decide +kernel
theorem dX8_cutLetters_35 : decode cX8_cutLetters 35 = .ok (.iinc 5 1, 3) := by decide +kernel
theorem dX8_cutLetters_38 : decode cX8_cutLetters 38 = .ok (.goto (-33), 3) := by decide +kernel
theorem dX8_cutLetters_41 : decode cX8_cutLetters 41 = .ok (.aload_n 0, 1) := by decide +kernel
theorem dX8_cutLetters_42 : decode cX8_cutLetters 42 = .ok (.iload 5, 2) := by decide +kernel
theorem dX8_cutLetters_44 : decode cX8_cutLetters 44 = .ok (.iload_n 2, 1) := by decide +kernel
theorem dX8_cutLetters_45 : decode cX8_cutLetters 45 = .ok (.isub, 1) := by decide +kernel
theorem dX8_cutLetters_46 : decode cX8_cutLetters 46 = .ok (.bipush 7, 2) := by decide +kernel
theorem dX8_cutLetters_48 : decode cX8_cutLetters 48 = .ok (.if_icmp .le 7, 3) := by decide +kernel
theorem dX8_cutLetters_51 : decode cX8_cutLetters 51 = .ok (.iconst 0, 1) := by decide +kernel
theorem dX8_cutLetters_52 : decode cX8_cutLetters 52 = .ok (.goto 15, 3) := by decide +kernel
theorem dX8_cutLetters_55 : decode cX8_cutLetters 55 = .ok (.lload_n 3, 1) := by decide +kernel
theorem dX8_cutLetters_56 : decode cX8_cutLetters 56 = .ok (.invokestatic 53, 3) := by decide +kernel
theorem dX8_cutLetters_59 : decode cX8_cutLetters 59 = .ok (.ifCond .eq 7, 3) := by decide +kernel
theorem dX8_cutLetters_62 : decode cX8_cutLetters 62 = .ok (.iconst 2, 1) := by decide +kernel
theorem dX8_cutLetters_63 : decode cX8_cutLetters 63 = .ok (.goto 4, 3) := by decide +kernel
theorem dX8_cutLetters_66 : decode cX8_cutLetters 66 = .ok (.iconst 1, 1) := by decide +kernel
theorem dX8_cutLetters_67 : decode cX8_cutLetters 67 = .ok (.iload_n 2, 1) := by decide +kernel
theorem dX8_cutLetters_68 : decode cX8_cutLetters 68 = .ok (.lload_n 3, 1) := by decide +kernel
theorem dX8_cutLetters_69 : decode cX8_cutLetters 69 = .ok (.invokevirtual 49, 3) := by decide +kernel
theorem dX8_cutLetters_72 : decode cX8_cutLetters 72 = .ok (.iload 5, 2) := by decide +kernel
theorem dX8_cutLetters_74 : decode cX8_cutLetters 74 = .ok (.ireturn, 1) := by decide +kernel
theorem dX8_cutDigits_0 : decode cX8_cutDigits 0 = .ok (.lconst 0, 1) := by decide +kernel
theorem dX8_cutDigits_1 : decode cX8_cutDigits 1 = .ok (.lstore_n 3, 1) := by decide +kernel
theorem dX8_cutDigits_2 : decode cX8_cutDigits 2 = .ok (.iload_n 2, 1) := by decide +kernel
theorem dX8_cutDigits_3 : decode cX8_cutDigits 3 = .ok (.istore 5, 2) := by decide +kernel
theorem dX8_cutDigits_5 : decode cX8_cutDigits 5 = .ok (.iload 5, 2) := by decide +kernel
theorem dX8_cutDigits_7 : decode cX8_cutDigits 7 = .ok (.aload_n 0, 1) := by decide +kernel
theorem dX8_cutDigits_8 : decode cX8_cutDigits 8 = .ok (.getfield 26, 3) := by decide +kernel
theorem dX8_cutDigits_11 : decode cX8_cutDigits 11 = .ok (.if_icmp .ge 35, 3) := by decide +kernel
theorem dX8_cutDigits_14 : decode cX8_cutDigits 14 = .ok (.aload_n 1, 1) := by decide +kernel
theorem dX8_cutDigits_15 : decode cX8_cutDigits 15 = .ok (.iload 5, 2) := by decide +kernel
theorem dX8_cutDigits_17 : decode cX8_cutDigits 17 = .ok (.baload, 1) := by decide +kernel
theorem dX8_cutDigits_18 : decode cX8_cutDigits 18 = .ok (.invokestatic 43, 3) := by decide +kernel
theorem dX8_cutDigits_21 : decode cX8_cutDigits 21 = .ok (.ifCond .eq 25, 3) := by decide +kernel
theorem dX8_cutDigits_24 : decode cX8_cutDigits 24 = .ok (.lload_n 3, 1) := by decide +kernel
theorem dX8_cutDigits_25 : decode cX8_cutDigits 25 = .ok (.ldc2_w 57, 3) := by decide +kernel
theorem dX8_cutDigits_28 : decode cX8_cutDigits 28 = .ok (.lmul, 1) := by decide +kernel
theorem dX8_cutDigits_29 : decode cX8_cutDigits 29 = .ok (.aload_n 1, 1) := by decide +kernel
theorem dX8_cutDigits_30 : decode cX8_cutDigits 30 = .ok (.iload 5, 2) := by decide +kernel
theorem dX8_cutDigits_32 : decode cX8_cutDigits 32 = .ok (.baload, 1) := by decide +kernel
theorem dX8_cutDigits_33 : decode cX8_cutDigits 33 = .ok (.i2l, 1) := by decide +kernel
theorem dX8_cutDigits_34 : decode cX8_cutDigits 34 = .ok (.ladd, 1) := by decide +kernel
theorem dX8_cutDigits_35 : decode cX8_cutDigits 35 = .ok (.ldc2_w 59, 3) := by decide +kernel
theorem dX8_cutDigits_38 : decode cX8_cutDigits 38 = .ok (.lsub, 1) := by decide +kernel
theorem dX8_cutDigits_39 : decode cX8_cutDigits 39 = .ok (.lstore_n 3, 1) := by decide +kernel
theorem dX8_cutDigits_40 : decode cX8_cutDigits 40 = .ok (.iinc 5 1, 3) := by decide +kernel
theorem dX8_cutDigits_43 : decode cX8_cutDigits 43 = .ok (.goto (-38), 3) := by decide +kernel
theorem dX8_cutDigits_46 : decode cX8_cutDigits 46 = .ok (.aload_n 0, 1) := by decide +kernel
theorem dX8_cutDigits_47 : decode cX8_cutDigits 47 = .ok (.iload 5, 2) := by decide +kernel
theorem dX8_cutDigits_49 : decode cX8_cutDigits 49 = .ok (.iload_n 2, 1) := by decide +kernel
theorem dX8_cutDigits_50 : decode cX8_cutDigits 50 = .ok (.isub, 1) := by decide +kernel
theorem dX8_cutDigits_51 : decode cX8_cutDigits 51 = .ok (.iconst 3, 1) := by decide +kernel
theorem dX8_cutDigits_52 : decode cX8_cutDigits 52 = .ok (.if_icmp .le 7, 3) := by decide +kernel
theorem dX8_cutDigits_55 : decode cX8_cutDigits 55 = .ok (.iconst 0, 1) := by decide +kernel
theorem dX8_cutDigits_56 : decode cX8_cutDigits 56 = .ok (.goto 4, 3) := by decide +kernel
theorem dX8_cutDigits_59 : decode cX8_cutDigits 59 = .ok (.iconst 3, 1) := by decide +kernel
theorem dX8_cutDigits_60 : decode cX8_cutDigits 60 = .ok (.iload_n 2, 1) := by decide +kernel
theorem dX8_cutDigits_61 : decode cX8_cutDigits 61 = .ok (.lload_n 3, 1) := by decide +kernel
theorem dX8_cutDigits_62 : decode cX8_cutDigits 62 = .ok (.invokevirtual 49, 3) := by decide +kernel
theorem dX8_cutDigits_65 : decode cX8_cutDigits 65 = .ok (.iload 5, 2) := by decide +kernel
theorem dX8_cutDigits_67 : decode cX8_cutDigits 67 = .ok (.ireturn, 1) := by decide +kernel
theorem dX8_add_0 : decode cX8_add 0 = .ok (.aload_n 0, 1) := by decide +kernel
theorem dX8_add_1 : decode cX8_add 1 = .ok (.getfield 22, 3) := by decide +kernel
theorem dX8_add_4 : decode cX8_add 4 = .ok (.sipush 1000, 3) := by decide +kernel
theorem dX8_add_7 : decode cX8_add 7 = .ok (.if_icmp .ge 43, 3) := by decide +kernel
theorem dX8_add_10 : decode cX8_add 10 = .ok (.aload_n 0, 1) := by decide +kernel
theorem dX8_add_11 : decode cX8_add 11 = .ok (.getfield 9, 3) := by decide +kernel
theorem dX8_add_14 : decode cX8_add 14 = .ok (.aload_n 0, 1) := by decide +kernel
theorem dX8_add_15 : decode cX8_add 15 = .ok (.getfield 22, 3) := by decide +kernel
theorem dX8_add_18 : decode cX8_add 18 = .ok (.iload_n 1, 1) := by decide +kernel
theorem dX8_add_19 : decode cX8_add 19 = .ok (.iastore, 1) := by decide +kernel
theorem dX8_add_20 : decode cX8_add 20 = .ok (.aload_n 0, 1) := by decide +kernel
theorem dX8_add_21 : decode cX8_add 21 = .ok (.getfield 15, 3) := by decide +kernel
theorem dX8_add_24 : decode cX8_add 24 = .ok (.aload_n 0, 1) := by decide +kernel
theorem dX8_add_25 : decode cX8_add 25 = .ok (.getfield 22, 3) := by decide +kernel
theorem dX8_add_28 : decode cX8_add 28 = .ok (.iload_n 2, 1) := by decide +kernel
theorem dX8_add_29 : decode cX8_add 29 = .ok (.iastore, 1) := by decide +kernel
theorem dX8_add_30 : decode cX8_add 30 = .ok (.aload_n 0, 1) := by decide +kernel
theorem dX8_add_31 : decode cX8_add 31 = .ok (.getfield 18, 3) := by decide +kernel
theorem dX8_add_34 : decode cX8_add 34 = .ok (.aload_n 0, 1) := by decide +kernel
theorem dX8_add_35 : decode cX8_add 35 = .ok (.getfield 22, 3) := by decide +kernel
theorem dX8_add_38 : decode cX8_add 38 = .ok (.lload_n 3, 1) := by decide +kernel
theorem dX8_add_39 : decode cX8_add 39 = .ok (.lastore, 1) := by decide +kernel
theorem dX8_add_40 : decode cX8_add 40 = .ok (.aload_n 0, 1) := by decide +kernel
theorem dX8_add_41 : decode cX8_add 41 = .ok (.dup, 1) := by decide +kernel
theorem dX8_add_42 : decode cX8_add 42 = .ok (.getfield 22, 3) := by decide +kernel
theorem dX8_add_45 : decode cX8_add 45 = .ok (.iconst 1, 1) := by decide +kernel
theorem dX8_add_46 : decode cX8_add 46 = .ok (.iadd, 1) := by decide +kernel
theorem dX8_add_47 : decode cX8_add 47 = .ok (.putfield 22, 3) := by decide +kernel
theorem dX8_add_50 : decode cX8_add 50 = .ok (.return_, 1) := by decide +kernel
theorem dX8_isLetter_0 : decode cX8_isLetter 0 = .ok (.iload_n 0, 1) := by decide +kernel
theorem dX8_isLetter_1 : decode cX8_isLetter 1 = .ok (.bipush 97, 2) := by decide +kernel
theorem dX8_isLetter_3 : decode cX8_isLetter 3 = .ok (.if_icmp .lt 13, 3) := by decide +kernel
theorem dX8_isLetter_6 : decode cX8_isLetter 6 = .ok (.iload_n 0, 1) := by decide +kernel
theorem dX8_isLetter_7 : decode cX8_isLetter 7 = .ok (.bipush 122, 2) := by decide +kernel
theorem dX8_isLetter_9 : decode cX8_isLetter 9 = .ok (.if_icmp .gt 7, 3) := by decide +kernel
theorem dX8_isLetter_12 : decode cX8_isLetter 12 = .ok (.iconst 1, 1) := by decide +kernel
theorem dX8_isLetter_13 : decode cX8_isLetter 13 = .ok (.goto 4, 3) := by decide +kernel
theorem dX8_isLetter_16 : decode cX8_isLetter 16 = .ok (.iconst 0, 1) := by decide +kernel
theorem dX8_isLetter_17 : decode cX8_isLetter 17 = .ok (.ireturn, 1) := by decide +kernel
theorem dX8_isDigit_0 : decode cX8_isDigit 0 = .ok (.iload_n 0, 1) := by decide +kernel
theorem dX8_isDigit_1 : decode cX8_isDigit 1 = .ok (.bipush 48, 2) := by decide +kernel
theorem dX8_isDigit_3 : decode cX8_isDigit 3 = .ok (.if_icmp .lt 13, 3) := by decide +kernel
theorem dX8_isDigit_6 : decode cX8_isDigit 6 = .ok (.iload_n 0, 1) := by decide +kernel
theorem dX8_isDigit_7 : decode cX8_isDigit 7 = .ok (.bipush 57, 2) := by decide +kernel
theorem dX8_isDigit_9 : decode cX8_isDigit 9 = .ok (.if_icmp .gt 7, 3) := by decide +kernel
theorem dX8_isDigit_12 : decode cX8_isDigit 12 = .ok (.iconst 1, 1) := by decide +kernel
theorem dX8_isDigit_13 : decode cX8_isDigit 13 = .ok (.goto 4, 3) := by decide +kernel
theorem dX8_isDigit_16 : decode cX8_isDigit 16 = .ok (.iconst 0, 1) := by decide +kernel
theorem dX8_isDigit_17 : decode cX8_isDigit 17 = .ok (.ireturn, 1) := by decide +kernel
theorem dX8_isReserved_0 : decode cX8_isReserved 0 = .ok (.lload_n 0, 1) := by decide +kernel
theorem dX8_isReserved_1 : decode cX8_isReserved 1 = .ok (.ldc 61, 2) := by decide +kernel
theorem dX8_isReserved_3 : decode cX8_isReserved 3 = .ok (.invokestatic 63, 3) := by decide +kernel
theorem dX8_isReserved_6 : decode cX8_isReserved 6 = .ok (.lcmp, 1) := by decide +kernel
theorem dX8_isReserved_7 : decode cX8_isReserved 7 = .ok (.ifCond .eq 93, 3) := by decide +kernel
theorem dX8_isReserved_10 : decode cX8_isReserved 10 = .ok (.lload_n 0, 1) := by decide +kernel
theorem dX8_isReserved_11 : decode cX8_isReserved 11 = .ok (.ldc 67, 2) := by decide +kernel
theorem dX8_isReserved_13 : decode cX8_isReserved 13 = .ok (.invokestatic 63, 3) := by decide +kernel
theorem dX8_isReserved_16 : decode cX8_isReserved 16 = .ok (.lcmp, 1) := by decide +kernel
theorem dX8_isReserved_17 : decode cX8_isReserved 17 = .ok (.ifCond .eq 83, 3) := by decide +kernel
theorem dX8_isReserved_20 : decode cX8_isReserved 20 = .ok (.lload_n 0, 1) := by decide +kernel
theorem dX8_isReserved_21 : decode cX8_isReserved 21 = .ok (.ldc 69, 2) := by decide +kernel
theorem dX8_isReserved_23 : decode cX8_isReserved 23 = .ok (.invokestatic 63, 3) := by decide +kernel
theorem dX8_isReserved_26 : decode cX8_isReserved 26 = .ok (.lcmp, 1) := by decide +kernel
theorem dX8_isReserved_27 : decode cX8_isReserved 27 = .ok (.ifCond .eq 73, 3) := by decide +kernel
theorem dX8_isReserved_30 : decode cX8_isReserved 30 = .ok (.lload_n 0, 1) := by decide +kernel
theorem dX8_isReserved_31 : decode cX8_isReserved 31 = .ok (.ldc 71, 2) := by decide +kernel
theorem dX8_isReserved_33 : decode cX8_isReserved 33 = .ok (.invokestatic 63, 3) := by decide +kernel
theorem dX8_isReserved_36 : decode cX8_isReserved 36 = .ok (.lcmp, 1) := by decide +kernel
theorem dX8_isReserved_37 : decode cX8_isReserved 37 = .ok (.ifCond .eq 63, 3) := by decide +kernel
theorem dX8_isReserved_40 : decode cX8_isReserved 40 = .ok (.lload_n 0, 1) := by decide +kernel
theorem dX8_isReserved_41 : decode cX8_isReserved 41 = .ok (.ldc 73, 2) := by decide +kernel
theorem dX8_isReserved_43 : decode cX8_isReserved 43 = .ok (.invokestatic 63, 3) := by decide +kernel
theorem dX8_isReserved_46 : decode cX8_isReserved 46 = .ok (.lcmp, 1) := by decide +kernel
theorem dX8_isReserved_47 : decode cX8_isReserved 47 = .ok (.ifCond .eq 53, 3) := by decide +kernel
theorem dX8_isReserved_50 : decode cX8_isReserved 50 = .ok (.lload_n 0, 1) := by decide +kernel
theorem dX8_isReserved_51 : decode cX8_isReserved 51 = .ok (.ldc 75, 2) := by decide +kernel
theorem dX8_isReserved_53 : decode cX8_isReserved 53 = .ok (.invokestatic 63, 3) := by decide +kernel
theorem dX8_isReserved_56 : decode cX8_isReserved 56 = .ok (.lcmp, 1) := by decide +kernel
theorem dX8_isReserved_57 : decode cX8_isReserved 57 = .ok (.ifCond .eq 43, 3) := by decide +kernel
theorem dX8_isReserved_60 : decode cX8_isReserved 60 = .ok (.lload_n 0, 1) := by decide +kernel
theorem dX8_isReserved_61 : decode cX8_isReserved 61 = .ok (.ldc 77, 2) := by decide +kernel
theorem dX8_isReserved_63 : decode cX8_isReserved 63 = .ok (.invokestatic 63, 3) := by decide +kernel
theorem dX8_isReserved_66 : decode cX8_isReserved 66 = .ok (.lcmp, 1) := by decide +kernel
theorem dX8_isReserved_67 : decode cX8_isReserved 67 = .ok (.ifCond .eq 33, 3) := by decide +kernel
theorem dX8_isReserved_70 : decode cX8_isReserved 70 = .ok (.lload_n 0, 1) := by decide +kernel
theorem dX8_isReserved_71 : decode cX8_isReserved 71 = .ok (.ldc 79, 2) := by decide +kernel
theorem dX8_isReserved_73 : decode cX8_isReserved 73 = .ok (.invokestatic 63, 3) := by decide +kernel
theorem dX8_isReserved_76 : decode cX8_isReserved 76 = .ok (.lcmp, 1) := by decide +kernel
theorem dX8_isReserved_77 : decode cX8_isReserved 77 = .ok (.ifCond .eq 23, 3) := by decide +kernel
theorem dX8_isReserved_80 : decode cX8_isReserved 80 = .ok (.lload_n 0, 1) := by decide +kernel
theorem dX8_isReserved_81 : decode cX8_isReserved 81 = .ok (.ldc 81, 2) := by decide +kernel
theorem dX8_isReserved_83 : decode cX8_isReserved 83 = .ok (.invokestatic 63, 3) := by decide +kernel
theorem dX8_isReserved_86 : decode cX8_isReserved 86 = .ok (.lcmp, 1) := by decide +kernel
theorem dX8_isReserved_87 : decode cX8_isReserved 87 = .ok (.ifCond .eq 13, 3) := by decide +kernel
theorem dX8_isReserved_90 : decode cX8_isReserved 90 = .ok (.lload_n 0, 1) := by decide +kernel
theorem dX8_isReserved_91 : decode cX8_isReserved 91 = .ok (.ldc 83, 2) := by decide +kernel
theorem dX8_isReserved_93 : decode cX8_isReserved 93 = .ok (.invokestatic 63, 3) := by decide +kernel
theorem dX8_isReserved_96 : decode cX8_isReserved 96 = .ok (.lcmp, 1) := by decide +kernel
theorem dX8_isReserved_97 : decode cX8_isReserved 97 = .ok (.ifCond .ne 7, 3) := by decide +kernel
theorem dX8_isReserved_100 : decode cX8_isReserved 100 = .ok (.iconst 1, 1) := by decide +kernel
theorem dX8_isReserved_101 : decode cX8_isReserved 101 = .ok (.goto 4, 3) := by decide +kernel
theorem dX8_isReserved_104 : decode cX8_isReserved 104 = .ok (.iconst 0, 1) := by decide +kernel
theorem dX8_isReserved_105 : decode cX8_isReserved 105 = .ok (.ireturn, 1) := by decide +kernel
theorem dX8_packed_0 : decode cX8_packed 0 = .ok (.lconst 0, 1) := by decide +kernel
theorem dX8_packed_1 : decode cX8_packed 1 = .ok (.lstore_n 1, 1) := by decide +kernel
theorem dX8_packed_2 : decode cX8_packed 2 = .ok (.iconst 0, 1) := by decide +kernel
theorem dX8_packed_3 : decode cX8_packed 3 = .ok (.istore_n 3, 1) := by decide +kernel
theorem dX8_packed_4 : decode cX8_packed 4 = .ok (.iload_n 3, 1) := by decide +kernel
theorem dX8_packed_5 : decode cX8_packed 5 = .ok (.aload_n 0, 1) := by decide +kernel
theorem dX8_packed_6 : decode cX8_packed 6 = .ok (.invokevirtual 85, 3) := by decide +kernel
theorem dX8_packed_9 : decode cX8_packed 9 = .ok (.if_icmp .ge 21, 3) := by decide +kernel
theorem dX8_packed_12 : decode cX8_packed 12 = .ok (.lload_n 1, 1) := by decide +kernel
theorem dX8_packed_13 : decode cX8_packed 13 = .ok (.bipush 8, 2) := by decide +kernel
theorem dX8_packed_15 : decode cX8_packed 15 = .ok (.lshl, 1) := by decide +kernel
theorem dX8_packed_16 : decode cX8_packed 16 = .ok (.aload_n 0, 1) := by decide +kernel
theorem dX8_packed_17 : decode cX8_packed 17 = .ok (.iload_n 3, 1) := by decide +kernel
theorem dX8_packed_18 : decode cX8_packed 18 = .ok (.invokevirtual 91, 3) := by decide +kernel
theorem dX8_packed_21 : decode cX8_packed 21 = .ok (.i2l, 1) := by decide +kernel
theorem dX8_packed_22 : decode cX8_packed 22 = .ok (.lor, 1) := by decide +kernel
theorem dX8_packed_23 : decode cX8_packed 23 = .ok (.lstore_n 1, 1) := by decide +kernel
theorem dX8_packed_24 : decode cX8_packed 24 = .ok (.iinc 3 1, 3) := by decide +kernel
theorem dX8_packed_27 : decode cX8_packed 27 = .ok (.goto (-23), 3) := by decide +kernel
theorem dX8_packed_30 : decode cX8_packed 30 = .ok (.lload_n 1, 1) := by decide +kernel
theorem dX8_packed_31 : decode cX8_packed 31 = .ok (.lreturn, 1) := by decide +kernel
theorem dX9_init_0 : decode cX9_init 0 = .ok (.aload_n 0, 1) := by decide +kernel
theorem dX9_init_1 : decode cX9_init 1 = .ok (.invokespecial 3, 3) := by decide +kernel
theorem dX9_init_4 : decode cX9_init 4 = .ok (.aload_n 0, 1) := by decide +kernel
theorem dX9_init_5 : decode cX9_init 5 = .ok (.bipush 14, 2) := by decide +kernel
theorem dX9_init_7 : decode cX9_init 7 = .ok (.newarray .int, 2) := by decide +kernel
theorem dX9_init_9 : decode cX9_init 9 = .ok (.putfield 9, 3) := by decide +kernel
theorem dX9_init_12 : decode cX9_init 12 = .ok (.aload_n 0, 1) := by decide +kernel
theorem dX9_init_13 : decode cX9_init 13 = .ok (.bipush 14, 2) := by decide +kernel
theorem dX9_init_15 : decode cX9_init 15 = .ok (.newarray .int, 2) := by decide +kernel
theorem dX9_init_17 : decode cX9_init 17 = .ok (.putfield 15, 3) := by decide +kernel
theorem dX9_init_20 : decode cX9_init 20 = .ok (.aload_n 0, 1) := by decide +kernel
theorem dX9_init_21 : decode cX9_init 21 = .ok (.bipush 14, 2) := by decide +kernel
theorem dX9_init_23 : decode cX9_init 23 = .ok (.newarray .int, 2) := by decide +kernel
theorem dX9_init_25 : decode cX9_init 25 = .ok (.putfield 18, 3) := by decide +kernel
theorem dX9_init_28 : decode cX9_init 28 = .ok (.aload_n 0, 1) := by decide +kernel
theorem dX9_init_29 : decode cX9_init 29 = .ok (.bipush 14, 2) := by decide +kernel
theorem dX9_init_31 : decode cX9_init 31 = .ok (.newarray .int, 2) := by decide +kernel
theorem dX9_init_33 : decode cX9_init 33 = .ok (.putfield 21, 3) := by decide +kernel
theorem dX9_init_36 : decode cX9_init 36 = .ok (.aload_n 0, 1) := by decide +kernel
theorem dX9_init_37 : decode cX9_init 37 = .ok (.bipush 14, 2) := by decide +kernel
theorem dX9_init_39 : decode cX9_init 39 = .ok (.newarray .int, 2) := by decide +kernel
theorem dX9_init_41 : decode cX9_init 41 = .ok (.putfield 24, 3) := by decide +kernel
theorem dX9_init_44 : decode cX9_init 44 = .ok (.aload_n 0, 1) := by decide +kernel
theorem dX9_init_45 : decode cX9_init 45 = .ok (.bipush 14, 2) := by decide +kernel
theorem dX9_init_47 : decode cX9_init 47 = .ok (.newarray .int, 2) := by decide +kernel
theorem dX9_init_49 : decode cX9_init 49 = .ok (.putfield 27, 3) := by decide +kernel
theorem dX9_init_52 : decode cX9_init 52 = .ok (.aload_n 0, 1) := by decide +kernel
theorem dX9_init_53 : decode cX9_init 53 = .ok (.bipush 14, 2) := by decide +kernel
theorem dX9_init_55 : decode cX9_init 55 = .ok (.bipush 14, 2) := by decide +kernel
theorem dX9_init_57 : decode cX9_init 57 = .ok (.multianewarray 30 2, 4) := by decide +kernel
theorem dX9_init_61 : decode cX9_init 61 = .ok (.putfield 32, 3) := by decide +kernel
theorem dX9_init_64 : decode cX9_init 64 = .ok (.return_, 1) := by decide +kernel
theorem dX9_add_0 : decode cX9_add 0 = .ok (.aload_n 0, 1) := by decide +kernel
theorem dX9_add_1 : decode cX9_add 1 = .ok (.getfield 35, 3) := by decide +kernel
theorem dX9_add_4 : decode cX9_add 4 = .ok (.bipush 14, 2) := by decide +kernel
theorem dX9_add_6 : decode cX9_add 6 = .ok (.if_icmp .ge 43, 3) := by decide +kernel
theorem dX9_add_9 : decode cX9_add 9 = .ok (.aload_n 0, 1) := by decide +kernel
theorem dX9_add_10 : decode cX9_add 10 = .ok (.getfield 9, 3) := by decide +kernel
theorem dX9_add_13 : decode cX9_add 13 = .ok (.aload_n 0, 1) := by decide +kernel
theorem dX9_add_14 : decode cX9_add 14 = .ok (.getfield 35, 3) := by decide +kernel
theorem dX9_add_17 : decode cX9_add 17 = .ok (.iload_n 1, 1) := by decide +kernel
theorem dX9_add_18 : decode cX9_add 18 = .ok (.iastore, 1) := by decide +kernel
theorem dX9_add_19 : decode cX9_add 19 = .ok (.aload_n 0, 1) := by decide +kernel
theorem dX9_add_20 : decode cX9_add 20 = .ok (.getfield 18, 3) := by decide +kernel
theorem dX9_add_23 : decode cX9_add 23 = .ok (.aload_n 0, 1) := by decide +kernel
theorem dX9_add_24 : decode cX9_add 24 = .ok (.getfield 35, 3) := by decide +kernel
theorem dX9_add_27 : decode cX9_add 27 = .ok (.iload_n 2, 1) := by decide +kernel
theorem dX9_add_28 : decode cX9_add 28 = .ok (.iastore, 1) := by decide +kernel
theorem dX9_add_29 : decode cX9_add 29 = .ok (.aload_n 0, 1) := by decide +kernel
theorem dX9_add_30 : decode cX9_add 30 = .ok (.getfield 15, 3) := by decide +kernel
theorem dX9_add_33 : decode cX9_add 33 = .ok (.aload_n 0, 1) := by decide +kernel
theorem dX9_add_34 : decode cX9_add 34 = .ok (.getfield 35, 3) := by decide +kernel
theorem dX9_add_37 : decode cX9_add 37 = .ok (.iload_n 3, 1) := by decide +kernel
theorem dX9_add_38 : decode cX9_add 38 = .ok (.iastore, 1) := by decide +kernel
theorem dX9_add_39 : decode cX9_add 39 = .ok (.aload_n 0, 1) := by decide +kernel
theorem dX9_add_40 : decode cX9_add 40 = .ok (.dup, 1) := by decide +kernel
theorem dX9_add_41 : decode cX9_add 41 = .ok (.getfield 35, 3) := by decide +kernel
theorem dX9_add_44 : decode cX9_add 44 = .ok (.iconst 1, 1) := by decide +kernel
theorem dX9_add_45 : decode cX9_add 45 = .ok (.iadd, 1) := by decide +kernel
theorem dX9_add_46 : decode cX9_add 46 = .ok (.putfield 35, 3) := by decide +kernel
theorem dX9_add_49 : decode cX9_add 49 = .ok (.return_, 1) := by decide +kernel
theorem dX9_setLength_0 : decode cX9_setLength 0 = .ok (.aload_n 0, 1) := by decide +kernel
theorem dX9_setLength_1 : decode cX9_setLength 1 = .ok (.getfield 15, 3) := by decide +kernel
theorem dX9_setLength_4 : decode cX9_setLength 4 = .ok (.iload_n 1, 1) := by decide +kernel
theorem dX9_setLength_5 : decode cX9_setLength 5 = .ok (.iload_n 2, 1) := by decide +kernel
theorem dX9_setLength_6 : decode cX9_setLength 6 = .ok (.iastore, 1) := by decide +kernel
theorem dX9_setLength_7 : decode cX9_setLength 7 = .ok (.aload_n 0, 1) := by decide +kernel
theorem dX9_setLength_8 : decode cX9_setLength 8 = .ok (.invokevirtual 39, 3) := by decide +kernel
theorem dX9_setLength_11 : decode cX9_setLength 11 = .ok (.return_, 1) := by decide +kernel
theorem dX9_measure_0 : decode cX9_measure 0 = .ok (.iconst 0, 1) := by decide +kernel
theorem dX9_measure_1 : decode cX9_measure 1 = .ok (.istore_n 1, 1) := by decide +kernel
theorem dX9_measure_2 : decode cX9_measure 2 = .ok (.iload_n 1, 1) := by decide +kernel
theorem dX9_measure_3 : decode cX9_measure 3 = .ok (.aload_n 0, 1) := by decide +kernel
theorem dX9_measure_4 : decode cX9_measure 4 = .ok (.getfield 35, 3) := by decide +kernel
theorem dX9_measure_7 : decode cX9_measure 7 = .ok (.if_icmp .ge 59, 3) := by decide +kernel
theorem dX9_measure_10 : decode cX9_measure 10 = .ok (.aload_n 0, 1) := by decide +kernel
theorem dX9_measure_11 : decode cX9_measure 11 = .ok (.getfield 27, 3) := by decide +kernel
theorem dX9_measure_14 : decode cX9_measure 14 = .ok (.iload_n 1, 1) := by decide +kernel
theorem dX9_measure_15 : decode cX9_measure 15 = .ok (.iconst 1, 1) := by decide +kernel
theorem dX9_measure_16 : decode cX9_measure 16 = .ok (.iload_n 1, 1) := by decide +kernel
theorem dX9_measure_17 : decode cX9_measure 17 = .ok (.ishl, 1) := by decide +kernel
theorem dX9_measure_18 : decode cX9_measure 18 = .ok (.iastore, 1) := by decide +kernel
theorem dX9_measure_19 : decode cX9_measure 19 = .ok (.aload_n 0, 1) := by decide +kernel
theorem dX9_measure_20 : decode cX9_measure 20 = .ok (.getfield 32, 3) := by decide +kernel
theorem dX9_measure_23 : decode cX9_measure 23 = .ok (.iload_n 1, 1) := by decide +kernel
theorem dX9_measure_24 : decode cX9_measure 24 = .ok (.aaload, 1) := by decide +kernel
theorem dX9_measure_25 : decode cX9_measure 25 = .ok (.iload_n 1, 1) := by decide +kernel
theorem dX9_measure_26 : decode cX9_measure 26 = .ok (.iconst 0, 1) := by decide +kernel
theorem dX9_measure_27 : decode cX9_measure 27 = .ok (.iastore, 1) := by decide +kernel
theorem dX9_measure_28 : decode cX9_measure 28 = .ok (.iload_n 1, 1) := by decide +kernel
theorem dX9_measure_29 : decode cX9_measure 29 = .ok (.ifCond .ne 20, 3) := by decide +kernel
theorem dX9_measure_32 : decode cX9_measure 32 = .ok (.aload_n 0, 1) := by decide +kernel
theorem dX9_measure_33 : decode cX9_measure 33 = .ok (.getfield 21, 3) := by decide +kernel
theorem dX9_measure_36 : decode cX9_measure 36 = .ok (.iload_n 1, 1) := by decide +kernel
theorem dX9_measure_37 : decode cX9_measure 37 = .ok (.iconst 0, 1) := by decide +kernel
theorem dX9_measure_38 : decode cX9_measure 38 = .ok (.iastore, 1) := by decide +kernel
theorem dX9_measure_39 : decode cX9_measure 39 = .ok (.aload_n 0, 1) := by decide +kernel
theorem dX9_measure_40 : decode cX9_measure 40 = .ok (.getfield 24, 3) := by decide +kernel
theorem dX9_measure_43 : decode cX9_measure 43 = .ok (.iload_n 1, 1) := by decide +kernel
theorem dX9_measure_44 : decode cX9_measure 44 = .ok (.iconst 0, 1) := by decide +kernel
theorem dX9_measure_45 : decode cX9_measure 45 = .ok (.iastore, 1) := by decide +kernel
theorem dX9_measure_46 : decode cX9_measure 46 = .ok (.goto 14, 3) := by decide +kernel
theorem dX9_measure_49 : decode cX9_measure 49 = .ok (.aload_n 0, 1) := by decide +kernel
theorem dX9_measure_50 : decode cX9_measure 50 = .ok (.iload_n 1, 1) := by decide +kernel
theorem dX9_measure_51 : decode cX9_measure 51 = .ok (.aload_n 0, 1) := by decide +kernel
theorem dX9_measure_52 : decode cX9_measure 52 = .ok (.getfield 9, 3) := by decide +kernel
theorem dX9_measure_55 : decode cX9_measure 55 = .ok (.iload_n 1, 1) := by decide +kernel
theorem dX9_measure_56 : decode cX9_measure 56 = .ok (.iaload, 1) := by decide +kernel
theorem dX9_measure_57 : decode cX9_measure 57 = .ok (.invokevirtual 42, 3) := by decide +kernel
theorem dX9_measure_60 : decode cX9_measure 60 = .ok (.iinc 1 1, 3) := by decide +kernel
theorem dX9_measure_63 : decode cX9_measure 63 = .ok (.goto (-61), 3) := by decide +kernel
theorem dX9_measure_66 : decode cX9_measure 66 = .ok (.aload_n 0, 1) := by decide +kernel
theorem dX9_measure_67 : decode cX9_measure 67 = .ok (.getfield 35, 3) := by decide +kernel
theorem dX9_measure_70 : decode cX9_measure 70 = .ok (.iconst 1, 1) := by decide +kernel
theorem dX9_measure_71 : decode cX9_measure 71 = .ok (.isub, 1) := by decide +kernel
theorem dX9_measure_72 : decode cX9_measure 72 = .ok (.istore_n 1, 1) := by decide +kernel
theorem dX9_measure_73 : decode cX9_measure 73 = .ok (.iload_n 1, 1) := by decide +kernel
theorem dX9_measure_74 : decode cX9_measure 74 = .ok (.ifCond .le 29, 3) := by decide +kernel
theorem dX9_measure_77 : decode cX9_measure 77 = .ok (.aload_n 0, 1) := by decide +kernel
theorem dX9_measure_78 : decode cX9_measure 78 = .ok (.getfield 27, 3) := by decide +kernel
theorem dX9_measure_81 : decode cX9_measure 81 = .ok (.aload_n 0, 1) := by decide +kernel
theorem dX9_measure_82 : decode cX9_measure 82 = .ok (.getfield 9, 3) := by decide +kernel
theorem dX9_measure_85 : decode cX9_measure 85 = .ok (.iload_n 1, 1) := by decide +kernel
theorem dX9_measure_86 : decode cX9_measure 86 = .ok (.iaload, 1) := by decide +kernel
theorem dX9_measure_87 : decode cX9_measure 87 = .ok (.dup2, 1) := by decide +kernel
theorem dX9_measure_88 : decode cX9_measure 88 = .ok (.iaload, 1) := by decide +kernel
theorem dX9_measure_89 : decode cX9_measure 89 = .ok (.aload_n 0, 1) := by decide +kernel
theorem dX9_measure_90 : decode cX9_measure 90 = .ok (.getfield 27, 3) := by decide +kernel
theorem dX9_measure_93 : decode cX9_measure 93 = .ok (.iload_n 1, 1) := by decide +kernel
theorem dX9_measure_94 : decode cX9_measure 94 = .ok (.iaload, 1) := by decide +kernel
theorem dX9_measure_95 : decode cX9_measure 95 = .ok (.ior, 1) := by decide +kernel
theorem dX9_measure_96 : decode cX9_measure 96 = .ok (.iastore, 1) := by decide +kernel
theorem dX9_measure_97 : decode cX9_measure 97 = .ok (.iinc 1 (-1), 3) := by decide +kernel
theorem dX9_measure_100 : decode cX9_measure 100 = .ok (.goto (-27), 3) := by decide +kernel
theorem dX9_measure_103 : decode cX9_measure 103 = .ok (.return_, 1) := by decide +kernel
theorem dX9_measureFrom_0 : decode cX9_measureFrom 0 = .ok (.aload_n 0, 1) := by decide +kernel
theorem dX9_measureFrom_1 : decode cX9_measureFrom 1 = .ok (.getfield 21, 3) := by decide +kernel
theorem dX9_measureFrom_4 : decode cX9_measureFrom 4 = .ok (.iload_n 1, 1) := by decide +kernel
theorem dX9_measureFrom_5 : decode cX9_measureFrom 5 = .ok (.aload_n 0, 1) := by decide +kernel
theorem dX9_measureFrom_6 : decode cX9_measureFrom 6 = .ok (.getfield 21, 3) := by decide +kernel
theorem dX9_measureFrom_9 : decode cX9_measureFrom 9 = .ok (.iload_n 2, 1) := by decide +kernel
theorem dX9_measureFrom_10 : decode cX9_measureFrom 10 = .ok (.iaload, 1) := by decide +kernel
theorem dX9_measureFrom_11 : decode cX9_measureFrom 11 = .ok (.getstatic 46, 3) := by decide +kernel
theorem dX9_measureFrom_14 : decode cX9_measureFrom 14 = .ok (.aload_n 0, 1) := by decide +kernel
theorem dX9_measureFrom_15 : decode cX9_measureFrom 15 = .ok (.getfield 18, 3) := by decide +kernel
theorem dX9_measureFrom_18 : decode cX9_measureFrom 18 = .ok (.iload_n 1, 1) := by decide +kernel
theorem dX9_measureFrom_19 : decode cX9_measureFrom 19 = .ok (.iaload, 1) := by decide +kernel
theorem dX9_measureFrom_20 : decode cX9_measureFrom 20 = .ok (.iaload, 1) := by decide +kernel
theorem dX9_measureFrom_21 : decode cX9_measureFrom 21 = .ok (.aload_n 0, 1) := by decide +kernel
theorem dX9_measureFrom_22 : decode cX9_measureFrom 22 = .ok (.getfield 15, 3) := by decide +kernel
theorem dX9_measureFrom_25 : decode cX9_measureFrom 25 = .ok (.iload_n 1, 1) := by decide +kernel
theorem dX9_measureFrom_26 : decode cX9_measureFrom 26 = .ok (.iaload, 1) := by decide +kernel
theorem dX9_measureFrom_27 : decode cX9_measureFrom 27 = .ok (.imul, 1) := by decide +kernel
theorem dX9_measureFrom_28 : decode cX9_measureFrom 28 = .ok (.iadd, 1) := by decide +kernel
theorem dX9_measureFrom_29 : decode cX9_measureFrom 29 = .ok (.iastore, 1) := by decide +kernel
theorem dX9_measureFrom_30 : decode cX9_measureFrom 30 = .ok (.aload_n 0, 1) := by decide +kernel
theorem dX9_measureFrom_31 : decode cX9_measureFrom 31 = .ok (.getfield 24, 3) := by decide +kernel
theorem dX9_measureFrom_34 : decode cX9_measureFrom 34 = .ok (.iload_n 1, 1) := by decide +kernel
theorem dX9_measureFrom_35 : decode cX9_measureFrom 35 = .ok (.aload_n 0, 1) := by decide +kernel
theorem dX9_measureFrom_36 : decode cX9_measureFrom 36 = .ok (.getfield 24, 3) := by decide +kernel
theorem dX9_measureFrom_39 : decode cX9_measureFrom 39 = .ok (.iload_n 2, 1) := by decide +kernel
theorem dX9_measureFrom_40 : decode cX9_measureFrom 40 = .ok (.iaload, 1) := by decide +kernel
theorem dX9_measureFrom_41 : decode cX9_measureFrom 41 = .ok (.getstatic 49, 3) := by decide +kernel
theorem dX9_measureFrom_44 : decode cX9_measureFrom 44 = .ok (.aload_n 0, 1) := by decide +kernel
theorem dX9_measureFrom_45 : decode cX9_measureFrom 45 = .ok (.getfield 18, 3) := by decide +kernel
theorem dX9_measureFrom_48 : decode cX9_measureFrom 48 = .ok (.iload_n 1, 1) := by decide +kernel
theorem dX9_measureFrom_49 : decode cX9_measureFrom 49 = .ok (.iaload, 1) := by decide +kernel
theorem dX9_measureFrom_50 : decode cX9_measureFrom 50 = .ok (.iaload, 1) := by decide +kernel
theorem dX9_measureFrom_51 : decode cX9_measureFrom 51 = .ok (.aload_n 0, 1) := by decide +kernel
theorem dX9_measureFrom_52 : decode cX9_measureFrom 52 = .ok (.getfield 15, 3) := by decide +kernel
theorem dX9_measureFrom_55 : decode cX9_measureFrom 55 = .ok (.iload_n 1, 1) := by decide +kernel
theorem dX9_measureFrom_56 : decode cX9_measureFrom 56 = .ok (.iaload, 1) := by decide +kernel
theorem dX9_measureFrom_57 : decode cX9_measureFrom 57 = .ok (.imul, 1) := by decide +kernel
theorem dX9_measureFrom_58 : decode cX9_measureFrom 58 = .ok (.iadd, 1) := by decide +kernel
theorem dX9_measureFrom_59 : decode cX9_measureFrom 59 = .ok (.iastore, 1) := by decide +kernel
theorem dX9_measureFrom_60 : decode cX9_measureFrom 60 = .ok (.iconst 0, 1) := by decide +kernel
theorem dX9_measureFrom_61 : decode cX9_measureFrom 61 = .ok (.istore_n 3, 1) := by decide +kernel
theorem dX9_measureFrom_62 : decode cX9_measureFrom 62 = .ok (.iload_n 3, 1) := by decide +kernel
theorem dX9_measureFrom_63 : decode cX9_measureFrom 63 = .ok (.iload_n 1, 1) := by decide +kernel
theorem dX9_measureFrom_64 : decode cX9_measureFrom 64 = .ok (.if_icmp .ge 48, 3) := by decide +kernel
theorem dX9_measureFrom_67 : decode cX9_measureFrom 67 = .ok (.aload_n 0, 1) := by decide +kernel
theorem dX9_measureFrom_68 : decode cX9_measureFrom 68 = .ok (.getfield 32, 3) := by decide +kernel
theorem dX9_measureFrom_71 : decode cX9_measureFrom 71 = .ok (.iload_n 1, 1) := by decide +kernel
theorem dX9_measureFrom_72 : decode cX9_measureFrom 72 = .ok (.aaload, 1) := by decide +kernel
theorem dX9_measureFrom_73 : decode cX9_measureFrom 73 = .ok (.iload_n 3, 1) := by decide +kernel
theorem dX9_measureFrom_74 : decode cX9_measureFrom 74 = .ok (.aload_n 0, 1) := by decide +kernel
theorem dX9_measureFrom_75 : decode cX9_measureFrom 75 = .ok (.getfield 32, 3) := by decide +kernel
theorem dX9_measureFrom_78 : decode cX9_measureFrom 78 = .ok (.iload_n 2, 1) := by decide +kernel
theorem dX9_measureFrom_79 : decode cX9_measureFrom 79 = .ok (.aaload, 1) := by decide +kernel
theorem dX9_measureFrom_80 : decode cX9_measureFrom 80 = .ok (.iload_n 3, 1) := by decide +kernel
theorem dX9_measureFrom_81 : decode cX9_measureFrom 81 = .ok (.iaload, 1) := by decide +kernel
theorem dX9_measureFrom_82 : decode cX9_measureFrom 82 = .ok (.aload_n 0, 1) := by decide +kernel
theorem dX9_measureFrom_83 : decode cX9_measureFrom 83 = .ok (.getfield 15, 3) := by decide +kernel
theorem dX9_measureFrom_86 : decode cX9_measureFrom 86 = .ok (.iload_n 1, 1) := by decide +kernel
theorem dX9_measureFrom_87 : decode cX9_measureFrom 87 = .ok (.iaload, 1) := by decide +kernel
theorem dX9_measureFrom_88 : decode cX9_measureFrom 88 = .ok (.iadd, 1) := by decide +kernel
theorem dX9_measureFrom_89 : decode cX9_measureFrom 89 = .ok (.iastore, 1) := by decide +kernel
theorem dX9_measureFrom_90 : decode cX9_measureFrom 90 = .ok (.aload_n 0, 1) := by decide +kernel
theorem dX9_measureFrom_91 : decode cX9_measureFrom 91 = .ok (.getfield 32, 3) := by decide +kernel
theorem dX9_measureFrom_94 : decode cX9_measureFrom 94 = .ok (.iload_n 3, 1) := by decide +kernel
theorem dX9_measureFrom_95 : decode cX9_measureFrom 95 = .ok (.aaload, 1) := by decide +kernel
theorem dX9_measureFrom_96 : decode cX9_measureFrom 96 = .ok (.iload_n 1, 1) := by decide +kernel
theorem dX9_measureFrom_97 : decode cX9_measureFrom 97 = .ok (.aload_n 0, 1) := by decide +kernel
theorem dX9_measureFrom_98 : decode cX9_measureFrom 98 = .ok (.getfield 32, 3) := by decide +kernel
theorem dX9_measureFrom_101 : decode cX9_measureFrom 101 = .ok (.iload_n 1, 1) := by decide +kernel
theorem dX9_measureFrom_102 : decode cX9_measureFrom 102 = .ok (.aaload, 1) := by decide +kernel
theorem dX9_measureFrom_103 : decode cX9_measureFrom 103 = .ok (.iload_n 3, 1) := by decide +kernel
theorem dX9_measureFrom_104 : decode cX9_measureFrom 104 = .ok (.iaload, 1) := by decide +kernel
theorem dX9_measureFrom_105 : decode cX9_measureFrom 105 = .ok (.iastore, 1) := by decide +kernel
theorem dX9_measureFrom_106 : decode cX9_measureFrom 106 = .ok (.iinc 3 1, 3) := by decide +kernel
theorem dX9_measureFrom_109 : decode cX9_measureFrom 109 = .ok (.goto (-47), 3) := by decide +kernel
theorem dX9_measureFrom_112 : decode cX9_measureFrom 112 = .ok (.return_, 1) := by decide +kernel
theorem dX9_countOff_0 : decode cX9_countOff 0 = .ok (.iconst 0, 1) := by decide +kernel
theorem dX9_countOff_1 : decode cX9_countOff 1 = .ok (.istore_n 2, 1) := by decide +kernel
theorem dX9_countOff_2 : decode cX9_countOff 2 = .ok (.iconst 1, 1) := by decide +kernel
theorem dX9_countOff_3 : decode cX9_countOff 3 = .ok (.istore_n 3, 1) := by decide +kernel
theorem dX9_countOff_4 : decode cX9_countOff 4 = .ok (.iload_n 3, 1) := by decide +kernel
theorem dX9_countOff_5 : decode cX9_countOff 5 = .ok (.aload_n 0, 1) := by decide +kernel
theorem dX9_countOff_6 : decode cX9_countOff 6 = .ok (.getfield 35, 3) := by decide +kernel
theorem dX9_countOff_9 : decode cX9_countOff 9 = .ok (.if_icmp .ge 22, 3) := by decide +kernel
theorem dX9_countOff_12 : decode cX9_countOff 12 = .ok (.aload_n 0, 1) := by decide +kernel
theorem dX9_countOff_13 : decode cX9_countOff 13 = .ok (.getfield 9, 3) := by decide +kernel
theorem dX9_countOff_16 : decode cX9_countOff 16 = .ok (.iload_n 3, 1) := by decide +kernel
theorem dX9_countOff_17 : decode cX9_countOff 17 = .ok (.iaload, 1) := by decide +kernel
theorem dX9_countOff_18 : decode cX9_countOff 18 = .ok (.iload_n 1, 1) := by decide +kernel
theorem dX9_countOff_19 : decode cX9_countOff 19 = .ok (.if_icmp .ne 6, 3) := by decide +kernel
theorem dX9_countOff_22 : decode cX9_countOff 22 = .ok (.iinc 2 1, 3) := by decide +kernel
theorem dX9_countOff_25 : decode cX9_countOff 25 = .ok (.iinc 3 1, 3) := by decide +kernel
theorem dX9_countOff_28 : decode cX9_countOff 28 = .ok (.goto (-24), 3) := by decide +kernel
theorem dX9_countOff_31 : decode cX9_countOff 31 = .ok (.iload_n 2, 1) := by decide +kernel
theorem dX9_countOff_32 : decode cX9_countOff 32 = .ok (.ireturn, 1) := by decide +kernel
theorem dX9_isBeyond_0 : decode cX9_isBeyond 0 = .ok (.aload_n 0, 1) := by decide +kernel
theorem dX9_isBeyond_1 : decode cX9_isBeyond 1 = .ok (.getfield 27, 3) := by decide +kernel
theorem dX9_isBeyond_4 : decode cX9_isBeyond 4 = .ok (.iload_n 1, 1) := by decide +kernel
theorem dX9_isBeyond_5 : decode cX9_isBeyond 5 = .ok (.iaload, 1) := by decide +kernel
theorem dX9_isBeyond_6 : decode cX9_isBeyond 6 = .ok (.iload_n 2, 1) := by decide +kernel
theorem dX9_isBeyond_7 : decode cX9_isBeyond 7 = .ok (.ishr, 1) := by decide +kernel
theorem dX9_isBeyond_8 : decode cX9_isBeyond 8 = .ok (.iconst 1, 1) := by decide +kernel
theorem dX9_isBeyond_9 : decode cX9_isBeyond 9 = .ok (.iand, 1) := by decide +kernel
theorem dX9_isBeyond_10 : decode cX9_isBeyond 10 = .ok (.iconst 1, 1) := by decide +kernel
theorem dX9_isBeyond_11 : decode cX9_isBeyond 11 = .ok (.if_icmp .ne 7, 3) := by decide +kernel
theorem dX9_isBeyond_14 : decode cX9_isBeyond 14 = .ok (.iconst 1, 1) := by decide +kernel
theorem dX9_isBeyond_15 : decode cX9_isBeyond 15 = .ok (.goto 4, 3) := by decide +kernel
theorem dX9_isBeyond_18 : decode cX9_isBeyond 18 = .ok (.iconst 0, 1) := by decide +kernel
theorem dX9_isBeyond_19 : decode cX9_isBeyond 19 = .ok (.ireturn, 1) := by decide +kernel
theorem dX9_parts_0 : decode cX9_parts 0 = .ok (.aload_n 0, 1) := by decide +kernel
theorem dX9_parts_1 : decode cX9_parts 1 = .ok (.iload_n 1, 1) := by decide +kernel
theorem dX9_parts_2 : decode cX9_parts 2 = .ok (.iload_n 2, 1) := by decide +kernel
theorem dX9_parts_3 : decode cX9_parts 3 = .ok (.invokevirtual 52, 3) := by decide +kernel
theorem dX9_parts_6 : decode cX9_parts 6 = .ok (.aload_n 0, 1) := by decide +kernel
theorem dX9_parts_7 : decode cX9_parts 7 = .ok (.iload_n 1, 1) := by decide +kernel
theorem dX9_parts_8 : decode cX9_parts 8 = .ok (.iload_n 3, 1) := by decide +kernel
theorem dX9_parts_9 : decode cX9_parts 9 = .ok (.invokevirtual 52, 3) := by decide +kernel
