theorem dX9_parts_12 : decode cX9_parts 12 = .ok (.if_icmp .eq 7, 3) := by decide +kernel
theorem dX9_parts_15 : decode cX9_parts 15 = .ok (.iconst 1, 1) := by decide +kernel
theorem dX9_parts_16 : decode cX9_parts 16 = .ok (.goto 4, 3) := by decide +kernel
theorem dX9_parts_19 : decode cX9_parts 19 = .ok (.iconst 0, 1) := by decide +kernel
theorem dX9_parts_20 : decode cX9_parts 20 = .ok (.ireturn, 1) := by decide +kernel
theorem dX9_onTheWay_0 : decode cX9_onTheWay 0 = .ok (.iload_n 3, 1) := by decide +kernel
theorem dX9_onTheWay_1 : decode cX9_onTheWay 1 = .ok (.ifCond .lt 11, 3) := by decide +kernel
theorem dX9_onTheWay_4 : decode cX9_onTheWay 4 = .ok (.iload_n 3, 1) := by decide +kernel
theorem dX9_onTheWay_5 : decode cX9_onTheWay 5 = .ok (.aload_n 0, 1) := by decide +kernel
theorem dX9_onTheWay_6 : decode cX9_onTheWay 6 = .ok (.getfield 35, 3) := by decide +kernel
theorem dX9_onTheWay_9 : decode cX9_onTheWay 9 = .ok (.if_icmp .lt 5, 3) := by decide +kernel
theorem dX9_onTheWay_12 : decode cX9_onTheWay 12 = .ok (.iconst (-1), 1) := by decide +kernel
theorem dX9_onTheWay_13 : decode cX9_onTheWay 13 = .ok (.ireturn, 1) := by decide +kernel
theorem dX9_onTheWay_14 : decode cX9_onTheWay 14 = .ok (.iload_n 1, 1) := by decide +kernel
theorem dX9_onTheWay_15 : decode cX9_onTheWay 15 = .ok (.istore 4, 2) := by decide +kernel
theorem dX9_onTheWay_17 : decode cX9_onTheWay 17 = .ok (.iconst 0, 1) := by decide +kernel
theorem dX9_onTheWay_18 : decode cX9_onTheWay 18 = .ok (.istore 5, 2) := by decide +kernel
theorem dX9_onTheWay_20 : decode cX9_onTheWay 20 = .ok (.iload 5, 2) := by decide +kernel
theorem dX9_onTheWay_22 : decode cX9_onTheWay 22 = .ok (.iload_n 3, 1) := by decide +kernel
theorem dX9_onTheWay_23 : decode cX9_onTheWay 23 = .ok (.if_icmp .ge 26, 3) := by decide +kernel
theorem dX9_onTheWay_26 : decode cX9_onTheWay 26 = .ok (.iload 4, 2) := by decide +kernel
theorem dX9_onTheWay_28 : decode cX9_onTheWay 28 = .ok (.iload_n 2, 1) := by decide +kernel
theorem dX9_onTheWay_29 : decode cX9_onTheWay 29 = .ok (.if_icmp .ne 5, 3) := by decide +kernel
theorem dX9_onTheWay_32 : decode cX9_onTheWay 32 = .ok (.iconst (-1), 1) := by decide +kernel
theorem dX9_onTheWay_33 : decode cX9_onTheWay 33 = .ok (.ireturn, 1) := by decide +kernel
theorem dX9_onTheWay_34 : decode cX9_onTheWay 34 = .ok (.aload_n 0, 1) := by decide +kernel
theorem dX9_onTheWay_35 : decode cX9_onTheWay 35 = .ok (.iload 4, 2) := by decide +kernel
theorem dX9_onTheWay_37 : decode cX9_onTheWay 37 = .ok (.iload_n 2, 1) := by decide +kernel
theorem dX9_onTheWay_38 : decode cX9_onTheWay 38 = .ok (.invokevirtual 56, 3) := by decide +kernel
theorem dX9_onTheWay_41 : decode cX9_onTheWay 41 = .ok (.istore 4, 2) := by decide +kernel
theorem dX9_onTheWay_43 : decode cX9_onTheWay 43 = .ok (.iinc 5 1, 3) := by decide +kernel
theorem dX9_onTheWay_46 : decode cX9_onTheWay 46 = .ok (.goto (-26), 3) := by decide +kernel
theorem dX9_onTheWay_49 : decode cX9_onTheWay 49 = .ok (.iload 4, 2) := by decide +kernel
theorem dX9_onTheWay_51 : decode cX9_onTheWay 51 = .ok (.ireturn, 1) := by decide +kernel
theorem dX9_nextTowards_0 : decode cX9_nextTowards 0 = .ok (.iload_n 1, 1) := by decide +kernel
theorem dX9_nextTowards_1 : decode cX9_nextTowards 1 = .ok (.iconst 1, 1) := by decide +kernel
theorem dX9_nextTowards_2 : decode cX9_nextTowards 2 = .ok (.iadd, 1) := by decide +kernel
theorem dX9_nextTowards_3 : decode cX9_nextTowards 3 = .ok (.istore_n 3, 1) := by decide +kernel
theorem dX9_nextTowards_4 : decode cX9_nextTowards 4 = .ok (.iload_n 3, 1) := by decide +kernel
theorem dX9_nextTowards_5 : decode cX9_nextTowards 5 = .ok (.aload_n 0, 1) := by decide +kernel
theorem dX9_nextTowards_6 : decode cX9_nextTowards 6 = .ok (.getfield 35, 3) := by decide +kernel
theorem dX9_nextTowards_9 : decode cX9_nextTowards 9 = .ok (.if_icmp .ge 30, 3) := by decide +kernel
theorem dX9_nextTowards_12 : decode cX9_nextTowards 12 = .ok (.aload_n 0, 1) := by decide +kernel
theorem dX9_nextTowards_13 : decode cX9_nextTowards 13 = .ok (.getfield 9, 3) := by decide +kernel
theorem dX9_nextTowards_16 : decode cX9_nextTowards 16 = .ok (.iload_n 3, 1) := by decide +kernel
theorem dX9_nextTowards_17 : decode cX9_nextTowards 17 = .ok (.iaload, 1) := by decide +kernel
theorem dX9_nextTowards_18 : decode cX9_nextTowards 18 = .ok (.iload_n 1, 1) := by decide +kernel
theorem dX9_nextTowards_19 : decode cX9_nextTowards 19 = .ok (.if_icmp .ne 14, 3) := by decide +kernel
theorem dX9_nextTowards_22 : decode cX9_nextTowards 22 = .ok (.aload_n 0, 1) := by decide +kernel
theorem dX9_nextTowards_23 : decode cX9_nextTowards 23 = .ok (.iload_n 3, 1) := by decide +kernel
theorem dX9_nextTowards_24 : decode cX9_nextTowards 24 = .ok (.iload_n 2, 1) := by decide +kernel
theorem dX9_nextTowards_25 : decode cX9_nextTowards 25 = .ok (.invokevirtual 52, 3) := by decide +kernel
theorem dX9_nextTowards_28 : decode cX9_nextTowards 28 = .ok (.ifCond .eq 5, 3) := by decide +kernel
theorem dX9_nextTowards_31 : decode cX9_nextTowards 31 = .ok (.iload_n 3, 1) := by decide +kernel
theorem dX9_nextTowards_32 : decode cX9_nextTowards 32 = .ok (.ireturn, 1) := by decide +kernel
theorem dX9_nextTowards_33 : decode cX9_nextTowards 33 = .ok (.iinc 3 1, 3) := by decide +kernel
theorem dX9_nextTowards_36 : decode cX9_nextTowards 36 = .ok (.goto (-32), 3) := by decide +kernel
theorem dX9_nextTowards_39 : decode cX9_nextTowards 39 = .ok (.iload_n 1, 1) := by decide +kernel
theorem dX9_nextTowards_40 : decode cX9_nextTowards 40 = .ok (.ifCond .le 12, 3) := by decide +kernel
theorem dX9_nextTowards_43 : decode cX9_nextTowards 43 = .ok (.aload_n 0, 1) := by decide +kernel
theorem dX9_nextTowards_44 : decode cX9_nextTowards 44 = .ok (.getfield 9, 3) := by decide +kernel
theorem dX9_nextTowards_47 : decode cX9_nextTowards 47 = .ok (.iload_n 1, 1) := by decide +kernel
theorem dX9_nextTowards_48 : decode cX9_nextTowards 48 = .ok (.iaload, 1) := by decide +kernel
theorem dX9_nextTowards_49 : decode cX9_nextTowards 49 = .ok (.goto 4, 3) := by decide +kernel
theorem dX9_nextTowards_52 : decode cX9_nextTowards 52 = .ok (.iload_n 1, 1) := by decide +kernel
theorem dX9_nextTowards_53 : decode cX9_nextTowards 53 = .ok (.ireturn, 1) := by decide +kernel
theorem dX9_crosses_0 : decode cX9_crosses 0 = .ok (.aload_n 0, 1) := by decide +kernel
theorem dX9_crosses_1 : decode cX9_crosses 1 = .ok (.getfield 21, 3) := by decide +kernel
theorem dX9_crosses_4 : decode cX9_crosses 4 = .ok (.iload_n 1, 1) := by decide +kernel
theorem dX9_crosses_5 : decode cX9_crosses 5 = .ok (.iaload, 1) := by decide +kernel
theorem dX9_crosses_6 : decode cX9_crosses 6 = .ok (.aload_n 0, 1) := by decide +kernel
theorem dX9_crosses_7 : decode cX9_crosses 7 = .ok (.getfield 21, 3) := by decide +kernel
theorem dX9_crosses_10 : decode cX9_crosses 10 = .ok (.aload_n 0, 1) := by decide +kernel
theorem dX9_crosses_11 : decode cX9_crosses 11 = .ok (.getfield 9, 3) := by decide +kernel
theorem dX9_crosses_14 : decode cX9_crosses 14 = .ok (.iload_n 1, 1) := by decide +kernel
theorem dX9_crosses_15 : decode cX9_crosses 15 = .ok (.iaload, 1) := by decide +kernel
theorem dX9_crosses_16 : decode cX9_crosses 16 = .ok (.iaload, 1) := by decide +kernel
theorem dX9_crosses_17 : decode cX9_crosses 17 = .ok (.aload_n 0, 1) := by decide +kernel
theorem dX9_crosses_18 : decode cX9_crosses 18 = .ok (.getfield 21, 3) := by decide +kernel
theorem dX9_crosses_21 : decode cX9_crosses 21 = .ok (.iload_n 2, 1) := by decide +kernel
theorem dX9_crosses_22 : decode cX9_crosses 22 = .ok (.iaload, 1) := by decide +kernel
theorem dX9_crosses_23 : decode cX9_crosses 23 = .ok (.aload_n 0, 1) := by decide +kernel
theorem dX9_crosses_24 : decode cX9_crosses 24 = .ok (.getfield 21, 3) := by decide +kernel
theorem dX9_crosses_27 : decode cX9_crosses 27 = .ok (.aload_n 0, 1) := by decide +kernel
theorem dX9_crosses_28 : decode cX9_crosses 28 = .ok (.getfield 9, 3) := by decide +kernel
theorem dX9_crosses_31 : decode cX9_crosses 31 = .ok (.iload_n 2, 1) := by decide +kernel
theorem dX9_crosses_32 : decode cX9_crosses 32 = .ok (.iaload, 1) := by decide +kernel
theorem dX9_crosses_33 : decode cX9_crosses 33 = .ok (.iaload, 1) := by decide +kernel
theorem dX9_crosses_34 : decode cX9_crosses 34 = .ok (.invokestatic 60, 3) := by decide +kernel
theorem dX9_crosses_37 : decode cX9_crosses 37 = .ok (.istore_n 3, 1) := by decide +kernel
theorem dX9_crosses_38 : decode cX9_crosses 38 = .ok (.aload_n 0, 1) := by decide +kernel
theorem dX9_crosses_39 : decode cX9_crosses 39 = .ok (.getfield 24, 3) := by decide +kernel
theorem dX9_crosses_42 : decode cX9_crosses 42 = .ok (.iload_n 1, 1) := by decide +kernel
theorem dX9_crosses_43 : decode cX9_crosses 43 = .ok (.iaload, 1) := by decide +kernel
theorem dX9_crosses_44 : decode cX9_crosses 44 = .ok (.aload_n 0, 1) := by decide +kernel
theorem dX9_crosses_45 : decode cX9_crosses 45 = .ok (.getfield 24, 3) := by decide +kernel
theorem dX9_crosses_48 : decode cX9_crosses 48 = .ok (.aload_n 0, 1) := by decide +kernel
theorem dX9_crosses_49 : decode cX9_crosses 49 = .ok (.getfield 9, 3) := by decide +kernel
theorem dX9_crosses_52 : decode cX9_crosses 52 = .ok (.iload_n 1, 1) := by decide +kernel
theorem dX9_crosses_53 : decode cX9_crosses 53 = .ok (.iaload, 1) := by decide +kernel
theorem dX9_crosses_54 : decode cX9_crosses 54 = .ok (.iaload, 1) := by decide +kernel
theorem dX9_crosses_55 : decode cX9_crosses 55 = .ok (.aload_n 0, 1) := by decide +kernel
theorem dX9_crosses_56 : decode cX9_crosses 56 = .ok (.getfield 24, 3) := by decide +kernel
theorem dX9_crosses_59 : decode cX9_crosses 59 = .ok (.iload_n 2, 1) := by decide +kernel
theorem dX9_crosses_60 : decode cX9_crosses 60 = .ok (.iaload, 1) := by decide +kernel
theorem dX9_crosses_61 : decode cX9_crosses 61 = .ok (.aload_n 0, 1) := by decide +kernel
theorem dX9_crosses_62 : decode cX9_crosses 62 = .ok (.getfield 24, 3) := by decide +kernel
theorem dX9_crosses_65 : decode cX9_crosses 65 = .ok (.aload_n 0, 1) := by decide +kernel
theorem dX9_crosses_66 : decode cX9_crosses 66 = .ok (.getfield 9, 3) := by decide +kernel
theorem dX9_crosses_69 : decode cX9_crosses 69 = .ok (.iload_n 2, 1) := by decide +kernel
theorem dX9_crosses_70 : decode cX9_crosses 70 = .ok (.iaload, 1) := by decide +kernel
theorem dX9_crosses_71 : decode cX9_crosses 71 = .ok (.iaload, 1) := by decide +kernel
theorem dX9_crosses_72 : decode cX9_crosses 72 = .ok (.invokestatic 60, 3) := by decide +kernel
theorem dX9_crosses_75 : decode cX9_crosses 75 = .ok (.istore 4, 2) := by decide +kernel
theorem dX9_crosses_77 : decode cX9_crosses 77 = .ok (.iload_n 3, 1) := by decide +kernel
theorem dX9_crosses_78 : decode cX9_crosses 78 = .ok (.iload 4, 2) := by decide +kernel
theorem dX9_crosses_80 : decode cX9_crosses 80 = .ok (.imul, 1) := by decide +kernel
theorem dX9_crosses_81 : decode cX9_crosses 81 = .ok (.istore 5, 2) := by decide +kernel
theorem dX9_crosses_83 : decode cX9_crosses 83 = .ok (.aload_n 0, 1) := by decide +kernel
theorem dX9_crosses_84 : decode cX9_crosses 84 = .ok (.iload_n 1, 1) := by decide +kernel
theorem dX9_crosses_85 : decode cX9_crosses 85 = .ok (.iload_n 2, 1) := by decide +kernel
theorem dX9_crosses_86 : decode cX9_crosses 86 = .ok (.invokevirtual 64, 3) := by decide +kernel
theorem dX9_crosses_89 : decode cX9_crosses 89 = .ok (.ifCond .eq 17, 3) := by decide +kernel
theorem dX9_crosses_92 : decode cX9_crosses 92 = .ok (.iload 5, 2) := by decide +kernel
theorem dX9_crosses_94 : decode cX9_crosses 94 = .ok (.iconst 1, 1) := by decide +kernel
theorem dX9_crosses_95 : decode cX9_crosses 95 = .ok (.if_icmp .le 7, 3) := by decide +kernel
theorem dX9_crosses_98 : decode cX9_crosses 98 = .ok (.iconst 1, 1) := by decide +kernel
theorem dX9_crosses_99 : decode cX9_crosses 99 = .ok (.goto 17, 3) := by decide +kernel
theorem dX9_crosses_102 : decode cX9_crosses 102 = .ok (.iconst 0, 1) := by decide +kernel
theorem dX9_crosses_103 : decode cX9_crosses 103 = .ok (.goto 13, 3) := by decide +kernel
theorem dX9_crosses_106 : decode cX9_crosses 106 = .ok (.iload 5, 2) := by decide +kernel
theorem dX9_crosses_108 : decode cX9_crosses 108 = .ok (.ifCond .le 7, 3) := by decide +kernel
theorem dX9_crosses_111 : decode cX9_crosses 111 = .ok (.iconst 1, 1) := by decide +kernel
theorem dX9_crosses_112 : decode cX9_crosses 112 = .ok (.goto 4, 3) := by decide +kernel
theorem dX9_crosses_115 : decode cX9_crosses 115 = .ok (.iconst 0, 1) := by decide +kernel
theorem dX9_crosses_116 : decode cX9_crosses 116 = .ok (.ireturn, 1) := by decide +kernel
theorem dX9_endTogether_0 : decode cX9_endTogether 0 = .ok (.aload_n 0, 1) := by decide +kernel
theorem dX9_endTogether_1 : decode cX9_endTogether 1 = .ok (.getfield 9, 3) := by decide +kernel
theorem dX9_endTogether_4 : decode cX9_endTogether 4 = .ok (.iload_n 1, 1) := by decide +kernel
theorem dX9_endTogether_5 : decode cX9_endTogether 5 = .ok (.iaload, 1) := by decide +kernel
theorem dX9_endTogether_6 : decode cX9_endTogether 6 = .ok (.aload_n 0, 1) := by decide +kernel
theorem dX9_endTogether_7 : decode cX9_endTogether 7 = .ok (.getfield 9, 3) := by decide +kernel
theorem dX9_endTogether_10 : decode cX9_endTogether 10 = .ok (.iload_n 2, 1) := by decide +kernel
theorem dX9_endTogether_11 : decode cX9_endTogether 11 = .ok (.iaload, 1) := by decide +kernel
theorem dX9_endTogether_12 : decode cX9_endTogether 12 = .ok (.if_icmp .eq 23, 3) := by decide +kernel
theorem dX9_endTogether_15 : decode cX9_endTogether 15 = .ok (.aload_n 0, 1) := by decide +kernel
theorem dX9_endTogether_16 : decode cX9_endTogether 16 = .ok (.getfield 9, 3) := by decide +kernel
theorem dX9_endTogether_19 : decode cX9_endTogether 19 = .ok (.iload_n 1, 1) := by decide +kernel
theorem dX9_endTogether_20 : decode cX9_endTogether 20 = .ok (.iaload, 1) := by decide +kernel
theorem dX9_endTogether_21 : decode cX9_endTogether 21 = .ok (.iload_n 2, 1) := by decide +kernel
theorem dX9_endTogether_22 : decode cX9_endTogether 22 = .ok (.if_icmp .eq 13, 3) := by decide +kernel
theorem dX9_endTogether_25 : decode cX9_endTogether 25 = .ok (.aload_n 0, 1) := by decide +kernel
theorem dX9_endTogether_26 : decode cX9_endTogether 26 = .ok (.getfield 9, 3) := by decide +kernel
theorem dX9_endTogether_29 : decode cX9_endTogether 29 = .ok (.iload_n 2, 1) := by decide +kernel
theorem dX9_endTogether_30 : decode cX9_endTogether 30 = .ok (.iaload, 1) := by decide +kernel
theorem dX9_endTogether_31 : decode cX9_endTogether 31 = .ok (.iload_n 1, 1) := by decide +kernel
theorem dX9_endTogether_32 : decode cX9_endTogether 32 = .ok (.if_icmp .ne 7, 3) := by decide +kernel
theorem dX9_endTogether_35 : decode cX9_endTogether 35 = .ok (.iconst 1, 1) := by decide +kernel
theorem dX9_endTogether_36 : decode cX9_endTogether 36 = .ok (.goto 4, 3) := by decide +kernel
theorem dX9_endTogether_39 : decode cX9_endTogether 39 = .ok (.iconst 0, 1) := by decide +kernel
theorem dX9_endTogether_40 : decode cX9_endTogether 40 = .ok (.ireturn, 1) := by decide +kernel
theorem dX9_overlap_0 : decode cX9_overlap 0 = .ok (.iload_n 0, 1) := by decide +kernel
theorem dX9_overlap_1 : decode cX9_overlap 1 = .ok (.iload_n 1, 1) := by decide +kernel
theorem dX9_overlap_2 : decode cX9_overlap 2 = .ok (.invokestatic 67, 3) := by decide +kernel
theorem dX9_overlap_5 : decode cX9_overlap 5 = .ok (.iload_n 2, 1) := by decide +kernel
theorem dX9_overlap_6 : decode cX9_overlap 6 = .ok (.iload_n 3, 1) := by decide +kernel
theorem dX9_overlap_7 : decode cX9_overlap 7 = .ok (.invokestatic 67, 3) := by decide +kernel
theorem dX9_overlap_10 : decode cX9_overlap 10 = .ok (.invokestatic 72, 3) := by decide +kernel
theorem dX9_overlap_13 : decode cX9_overlap 13 = .ok (.istore 4, 2) := by decide +kernel
theorem dX9_overlap_15 : decode cX9_overlap 15 = .ok (.iload_n 0, 1) := by decide +kernel
theorem dX9_overlap_16 : decode cX9_overlap 16 = .ok (.iload_n 1, 1) := by decide +kernel
theorem dX9_overlap_17 : decode cX9_overlap 17 = .ok (.invokestatic 72, 3) := by decide +kernel
theorem dX9_overlap_20 : decode cX9_overlap 20 = .ok (.iload_n 2, 1) := by decide +kernel
theorem dX9_overlap_21 : decode cX9_overlap 21 = .ok (.iload_n 3, 1) := by decide +kernel
theorem dX9_overlap_22 : decode cX9_overlap 22 = .ok (.invokestatic 72, 3) := by decide +kernel
theorem dX9_overlap_25 : decode cX9_overlap 25 = .ok (.invokestatic 67, 3) := by decide +kernel
theorem dX9_overlap_28 : decode cX9_overlap 28 = .ok (.istore 5, 2) := by decide +kernel
theorem dX9_overlap_30 : decode cX9_overlap 30 = .ok (.iload 5, 2) := by decide +kernel
theorem dX9_overlap_32 : decode cX9_overlap 32 = .ok (.iload 4, 2) := by decide +kernel
theorem dX9_overlap_34 : decode cX9_overlap 34 = .ok (.if_icmp .ge 7, 3) := by decide +kernel
theorem dX9_overlap_37 : decode cX9_overlap 37 = .ok (.iconst 0, 1) := by decide +kernel
theorem dX9_overlap_38 : decode cX9_overlap 38 = .ok (.goto 10, 3) := by decide +kernel
theorem dX9_overlap_41 : decode cX9_overlap 41 = .ok (.iload 5, 2) := by decide +kernel
theorem dX9_overlap_43 : decode cX9_overlap 43 = .ok (.iload 4, 2) := by decide +kernel
theorem dX9_overlap_45 : decode cX9_overlap 45 = .ok (.isub, 1) := by decide +kernel
theorem dX9_overlap_46 : decode cX9_overlap 46 = .ok (.iconst 1, 1) := by decide +kernel
theorem dX9_overlap_47 : decode cX9_overlap 47 = .ok (.iadd, 1) := by decide +kernel
theorem dX9_overlap_48 : decode cX9_overlap 48 = .ok (.ireturn, 1) := by decide +kernel
theorem dX9_countCrossings_0 : decode cX9_countCrossings 0 = .ok (.iconst 0, 1) := by decide +kernel
theorem dX9_countCrossings_1 : decode cX9_countCrossings 1 = .ok (.istore_n 1, 1) := by decide +kernel
theorem dX9_countCrossings_2 : decode cX9_countCrossings 2 = .ok (.iconst 1, 1) := by decide +kernel
theorem dX9_countCrossings_3 : decode cX9_countCrossings 3 = .ok (.istore_n 2, 1) := by decide +kernel
theorem dX9_countCrossings_4 : decode cX9_countCrossings 4 = .ok (.iload_n 2, 1) := by decide +kernel
theorem dX9_countCrossings_5 : decode cX9_countCrossings 5 = .ok (.aload_n 0, 1) := by decide +kernel
theorem dX9_countCrossings_6 : decode cX9_countCrossings 6 = .ok (.getfield 35, 3) := by decide +kernel
theorem dX9_countCrossings_9 : decode cX9_countCrossings 9 = .ok (.if_icmp .ge 39, 3) := by decide +kernel
theorem dX9_countCrossings_12 : decode cX9_countCrossings 12 = .ok (.iload_n 2, 1) := by decide +kernel
theorem dX9_countCrossings_13 : decode cX9_countCrossings 13 = .ok (.iconst 1, 1) := by decide +kernel
theorem dX9_countCrossings_14 : decode cX9_countCrossings 14 = .ok (.iadd, 1) := by decide +kernel
theorem dX9_countCrossings_15 : decode cX9_countCrossings 15 = .ok (.istore_n 3, 1) := by decide +kernel
theorem dX9_countCrossings_16 : decode cX9_countCrossings 16 = .ok (.iload_n 3, 1) := by decide +kernel
theorem dX9_countCrossings_17 : decode cX9_countCrossings 17 = .ok (.aload_n 0, 1) := by decide +kernel
theorem dX9_countCrossings_18 : decode cX9_countCrossings 18 = .ok (.getfield 35, 3) := by decide +kernel
theorem dX9_countCrossings_21 : decode cX9_countCrossings 21 = .ok (.if_icmp .ge 21, 3) := by decide +kernel
theorem dX9_countCrossings_24 : decode cX9_countCrossings 24 = .ok (.aload_n 0, 1) := by decide +kernel
theorem dX9_countCrossings_25 : decode cX9_countCrossings 25 = .ok (.iload_n 2, 1) := by decide +kernel
theorem dX9_countCrossings_26 : decode cX9_countCrossings 26 = .ok (.iload_n 3, 1) := by decide +kernel
theorem dX9_countCrossings_27 : decode cX9_countCrossings 27 = .ok (.invokevirtual 75, 3) := by decide +kernel
theorem dX9_countCrossings_30 : decode cX9_countCrossings 30 = .ok (.ifCond .eq 6, 3) := by decide +kernel
theorem dX9_countCrossings_33 : decode cX9_countCrossings 33 = .ok (.iinc 1 1, 3) := by decide +kernel
theorem dX9_countCrossings_36 : decode cX9_countCrossings 36 = .ok (.iinc 3 1, 3) := by decide +kernel
theorem dX9_countCrossings_39 : decode cX9_countCrossings 39 = .ok (.goto (-23), 3) := by decide +kernel
theorem dX9_countCrossings_42 : decode cX9_countCrossings 42 = .ok (.iinc 2 1, 3) := by decide +kernel
theorem dX9_countCrossings_45 : decode cX9_countCrossings 45 = .ok (.goto (-41), 3) := by decide +kernel
theorem dX9_countCrossings_48 : decode cX9_countCrossings 48 = .ok (.iload_n 1, 1) := by decide +kernel
theorem dX9_countCrossings_49 : decode cX9_countCrossings 49 = .ok (.ireturn, 1) := by decide +kernel
theorem dX9_bundlesOn_0 : decode cX9_bundlesOn 0 = .ok (.iconst 0, 1) := by decide +kernel
theorem dX9_bundlesOn_1 : decode cX9_bundlesOn 1 = .ok (.istore_n 3, 1) := by decide +kernel
theorem dX9_bundlesOn_2 : decode cX9_bundlesOn 2 = .ok (.iconst 1, 1) := by decide +kernel
theorem dX9_bundlesOn_3 : decode cX9_bundlesOn 3 = .ok (.istore 4, 2) := by decide +kernel
theorem dX9_bundlesOn_5 : decode cX9_bundlesOn 5 = .ok (.iload 4, 2) := by decide +kernel
theorem dX9_bundlesOn_7 : decode cX9_bundlesOn 7 = .ok (.aload_n 0, 1) := by decide +kernel
theorem dX9_bundlesOn_8 : decode cX9_bundlesOn 8 = .ok (.getfield 35, 3) := by decide +kernel
theorem dX9_bundlesOn_11 : decode cX9_bundlesOn 11 = .ok (.if_icmp .ge 70, 3) := by decide +kernel
theorem dX9_bundlesOn_14 : decode cX9_bundlesOn 14 = .ok (.aload_n 0, 1) := by decide +kernel
theorem dX9_bundlesOn_15 : decode cX9_bundlesOn 15 = .ok (.getfield 21, 3) := by decide +kernel
theorem dX9_bundlesOn_18 : decode cX9_bundlesOn 18 = .ok (.iload 4, 2) := by decide +kernel
theorem dX9_bundlesOn_20 : decode cX9_bundlesOn 20 = .ok (.iaload, 1) := by decide +kernel
theorem dX9_bundlesOn_21 : decode cX9_bundlesOn 21 = .ok (.aload_n 0, 1) := by decide +kernel
theorem dX9_bundlesOn_22 : decode cX9_bundlesOn 22 = .ok (.getfield 21, 3) := by decide +kernel
theorem dX9_bundlesOn_25 : decode cX9_bundlesOn 25 = .ok (.aload_n 0, 1) := by decide +kernel
theorem dX9_bundlesOn_26 : decode cX9_bundlesOn 26 = .ok (.getfield 9, 3) := by decide +kernel
theorem dX9_bundlesOn_29 : decode cX9_bundlesOn 29 = .ok (.iload 4, 2) := by decide +kernel
theorem dX9_bundlesOn_31 : decode cX9_bundlesOn 31 = .ok (.iaload, 1) := by decide +kernel
theorem dX9_bundlesOn_32 : decode cX9_bundlesOn 32 = .ok (.iaload, 1) := by decide +kernel
theorem dX9_bundlesOn_33 : decode cX9_bundlesOn 33 = .ok (.iload_n 1, 1) := by decide +kernel
theorem dX9_bundlesOn_34 : decode cX9_bundlesOn 34 = .ok (.iload_n 1, 1) := by decide +kernel
theorem dX9_bundlesOn_35 : decode cX9_bundlesOn 35 = .ok (.invokestatic 60, 3) := by decide +kernel
theorem dX9_bundlesOn_38 : decode cX9_bundlesOn 38 = .ok (.ifCond .le 37, 3) := by decide +kernel
theorem dX9_bundlesOn_41 : decode cX9_bundlesOn 41 = .ok (.aload_n 0, 1) := by decide +kernel
theorem dX9_bundlesOn_42 : decode cX9_bundlesOn 42 = .ok (.getfield 24, 3) := by decide +kernel
theorem dX9_bundlesOn_45 : decode cX9_bundlesOn 45 = .ok (.iload 4, 2) := by decide +kernel
theorem dX9_bundlesOn_47 : decode cX9_bundlesOn 47 = .ok (.iaload, 1) := by decide +kernel
theorem dX9_bundlesOn_48 : decode cX9_bundlesOn 48 = .ok (.aload_n 0, 1) := by decide +kernel
theorem dX9_bundlesOn_49 : decode cX9_bundlesOn 49 = .ok (.getfield 24, 3) := by decide +kernel
theorem dX9_bundlesOn_52 : decode cX9_bundlesOn 52 = .ok (.aload_n 0, 1) := by decide +kernel
theorem dX9_bundlesOn_53 : decode cX9_bundlesOn 53 = .ok (.getfield 9, 3) := by decide +kernel
theorem dX9_bundlesOn_56 : decode cX9_bundlesOn 56 = .ok (.iload 4, 2) := by decide +kernel
theorem dX9_bundlesOn_58 : decode cX9_bundlesOn 58 = .ok (.iaload, 1) := by decide +kernel
theorem dX9_bundlesOn_59 : decode cX9_bundlesOn 59 = .ok (.iaload, 1) := by decide +kernel
theorem dX9_bundlesOn_60 : decode cX9_bundlesOn 60 = .ok (.iload_n 2, 1) := by decide +kernel
theorem dX9_bundlesOn_61 : decode cX9_bundlesOn 61 = .ok (.iload_n 2, 1) := by decide +kernel
theorem dX9_bundlesOn_62 : decode cX9_bundlesOn 62 = .ok (.invokestatic 60, 3) := by decide +kernel
theorem dX9_bundlesOn_65 : decode cX9_bundlesOn 65 = .ok (.ifCond .le 10, 3) := by decide +kernel
theorem dX9_bundlesOn_68 : decode cX9_bundlesOn 68 = .ok (.iload_n 3, 1) := by decide +kernel
theorem dX9_bundlesOn_69 : decode cX9_bundlesOn 69 = .ok (.iconst 1, 1) := by decide +kernel
theorem dX9_bundlesOn_70 : decode cX9_bundlesOn 70 = .ok (.iload 4, 2) := by decide +kernel
theorem dX9_bundlesOn_72 : decode cX9_bundlesOn 72 = .ok (.ishl, 1) := by decide +kernel
theorem dX9_bundlesOn_73 : decode cX9_bundlesOn 73 = .ok (.ior, 1) := by decide +kernel
theorem dX9_bundlesOn_74 : decode cX9_bundlesOn 74 = .ok (.istore_n 3, 1) := by decide +kernel
theorem dX9_bundlesOn_75 : decode cX9_bundlesOn 75 = .ok (.iinc 4 1, 3) := by decide +kernel
theorem dX9_bundlesOn_78 : decode cX9_bundlesOn 78 = .ok (.goto (-73), 3) := by decide +kernel
theorem dX9_bundlesOn_81 : decode cX9_bundlesOn 81 = .ok (.iload_n 3, 1) := by decide +kernel
theorem dX9_bundlesOn_82 : decode cX9_bundlesOn 82 = .ok (.ireturn, 1) := by decide +kernel
theorem dX9_leastOf_0 : decode cX9_leastOf 0 = .ok (.iconst 0, 1) := by decide +kernel
theorem dX9_leastOf_1 : decode cX9_leastOf 1 = .ok (.istore_n 2, 1) := by decide +kernel
theorem dX9_leastOf_2 : decode cX9_leastOf 2 = .ok (.iconst 0, 1) := by decide +kernel
theorem dX9_leastOf_3 : decode cX9_leastOf 3 = .ok (.istore_n 3, 1) := by decide +kernel
theorem dX9_leastOf_4 : decode cX9_leastOf 4 = .ok (.iload_n 3, 1) := by decide +kernel
theorem dX9_leastOf_5 : decode cX9_leastOf 5 = .ok (.aload_n 0, 1) := by decide +kernel
theorem dX9_leastOf_6 : decode cX9_leastOf 6 = .ok (.getfield 35, 3) := by decide +kernel
theorem dX9_leastOf_9 : decode cX9_leastOf 9 = .ok (.if_icmp .ge 17, 3) := by decide +kernel
theorem dX9_leastOf_12 : decode cX9_leastOf 12 = .ok (.iload_n 2, 1) := by decide +kernel
theorem dX9_leastOf_13 : decode cX9_leastOf 13 = .ok (.aload_n 1, 1) := by decide +kernel
theorem dX9_leastOf_14 : decode cX9_leastOf 14 = .ok (.iload_n 3, 1) := by decide +kernel
theorem dX9_leastOf_15 : decode cX9_leastOf 15 = .ok (.iaload, 1) := by decide +kernel
theorem dX9_leastOf_16 : decode cX9_leastOf 16 = .ok (.invokestatic 67, 3) := by decide +kernel
theorem dX9_leastOf_19 : decode cX9_leastOf 19 = .ok (.istore_n 2, 1) := by decide +kernel
theorem dX9_leastOf_20 : decode cX9_leastOf 20 = .ok (.iinc 3 1, 3) := by decide +kernel
theorem dX9_leastOf_23 : decode cX9_leastOf 23 = .ok (.goto (-19), 3) := by decide +kernel
theorem dX9_leastOf_26 : decode cX9_leastOf 26 = .ok (.iload_n 2, 1) := by decide +kernel
theorem dX9_leastOf_27 : decode cX9_leastOf 27 = .ok (.ireturn, 1) := by decide +kernel
theorem dX9_greatestOf_0 : decode cX9_greatestOf 0 = .ok (.iconst 0, 1) := by decide +kernel
theorem dX9_greatestOf_1 : decode cX9_greatestOf 1 = .ok (.istore_n 2, 1) := by decide +kernel
theorem dX9_greatestOf_2 : decode cX9_greatestOf 2 = .ok (.iconst 0, 1) := by decide +kernel
theorem dX9_greatestOf_3 : decode cX9_greatestOf 3 = .ok (.istore_n 3, 1) := by decide +kernel
theorem dX9_greatestOf_4 : decode cX9_greatestOf 4 = .ok (.iload_n 3, 1) := by decide +kernel
theorem dX9_greatestOf_5 : decode cX9_greatestOf 5 = .ok (.aload_n 0, 1) := by decide +kernel
theorem dX9_greatestOf_6 : decode cX9_greatestOf 6 = .ok (.getfield 35, 3) := by decide +kernel
theorem dX9_greatestOf_9 : decode cX9_greatestOf 9 = .ok (.if_icmp .ge 17, 3) := by decide +kernel
theorem dX9_greatestOf_12 : decode cX9_greatestOf 12 = .ok (.iload_n 2, 1) := by decide +kernel
theorem dX9_greatestOf_13 : decode cX9_greatestOf 13 = .ok (.aload_n 1, 1) := by decide +kernel
theorem dX9_greatestOf_14 : decode cX9_greatestOf 14 = .ok (.iload_n 3, 1) := by decide +kernel
theorem dX9_greatestOf_15 : decode cX9_greatestOf 15 = .ok (.iaload, 1) := by decide +kernel
theorem dX9_greatestOf_16 : decode cX9_greatestOf 16 = .ok (.invokestatic 72, 3) := by decide +kernel
theorem dX9_greatestOf_19 : decode cX9_greatestOf 19 = .ok (.istore_n 2, 1) := by decide +kernel
theorem dX9_greatestOf_20 : decode cX9_greatestOf 20 = .ok (.iinc 3 1, 3) := by decide +kernel
theorem dX9_greatestOf_23 : decode cX9_greatestOf 23 = .ok (.goto (-19), 3) := by decide +kernel
theorem dX9_greatestOf_26 : decode cX9_greatestOf 26 = .ok (.iload_n 2, 1) := by decide +kernel
theorem dX9_greatestOf_27 : decode cX9_greatestOf 27 = .ok (.ireturn, 1) := by decide +kernel
theorem dX9_greatestApart_0 : decode cX9_greatestApart 0 = .ok (.iconst 0, 1) := by decide +kernel
theorem dX9_greatestApart_1 : decode cX9_greatestApart 1 = .ok (.istore_n 1, 1) := by decide +kernel
theorem dX9_greatestApart_2 : decode cX9_greatestApart 2 = .ok (.iconst 0, 1) := by decide +kernel
theorem dX9_greatestApart_3 : decode cX9_greatestApart 3 = .ok (.istore_n 2, 1) := by decide +kernel
theorem dX9_greatestApart_4 : decode cX9_greatestApart 4 = .ok (.iload_n 2, 1) := by decide +kernel
theorem dX9_greatestApart_5 : decode cX9_greatestApart 5 = .ok (.aload_n 0, 1) := by decide +kernel
theorem dX9_greatestApart_6 : decode cX9_greatestApart 6 = .ok (.getfield 35, 3) := by decide +kernel
theorem dX9_greatestApart_9 : decode cX9_greatestApart 9 = .ok (.if_icmp .ge 24, 3) := by decide +kernel
theorem dX9_greatestApart_12 : decode cX9_greatestApart 12 = .ok (.iload_n 1, 1) := by decide +kernel
theorem dX9_greatestApart_13 : decode cX9_greatestApart 13 = .ok (.aload_n 0, 1) := by decide +kernel
theorem dX9_greatestApart_14 : decode cX9_greatestApart 14 = .ok (.aload_n 0, 1) := by decide +kernel
theorem dX9_greatestApart_15 : decode cX9_greatestApart 15 = .ok (.getfield 32, 3) := by decide +kernel
theorem dX9_greatestApart_18 : decode cX9_greatestApart 18 = .ok (.iload_n 2, 1) := by decide +kernel
theorem dX9_greatestApart_19 : decode cX9_greatestApart 19 = .ok (.aaload, 1) := by decide +kernel
theorem dX9_greatestApart_20 : decode cX9_greatestApart 20 = .ok (.invokevirtual 78, 3) := by decide +kernel
theorem dX9_greatestApart_23 : decode cX9_greatestApart 23 = .ok (.invokestatic 72, 3) := by decide +kernel
theorem dX9_greatestApart_26 : decode cX9_greatestApart 26 = .ok (.istore_n 1, 1) := by decide +kernel
theorem dX9_greatestApart_27 : decode cX9_greatestApart 27 = .ok (.iinc 2 1, 3) := by decide +kernel
theorem dX9_greatestApart_30 : decode cX9_greatestApart 30 = .ok (.goto (-26), 3) := by decide +kernel
theorem dX9_greatestApart_33 : decode cX9_greatestApart 33 = .ok (.iload_n 1, 1) := by decide +kernel
theorem dX9_greatestApart_34 : decode cX9_greatestApart 34 = .ok (.ireturn, 1) := by decide +kernel
theorem dX10_has_0 : decode cX10_has 0 = .ok (.iload_n 0, 1) := by decide +kernel
theorem dX10_has_1 : decode cX10_has 1 = .ok (.iload_n 1, 1) := by decide +kernel
theorem dX10_has_2 : decode cX10_has 2 = .ok (.ishr, 1) := by decide +kernel
theorem dX10_has_3 : decode cX10_has 3 = .ok (.iconst 1, 1) := by decide +kernel
theorem dX10_has_4 : decode cX10_has 4 = .ok (.iand, 1) := by decide +kernel
theorem dX10_has_5 : decode cX10_has 5 = .ok (.iconst 1, 1) := by decide +kernel
theorem dX10_has_6 : decode cX10_has 6 = .ok (.if_icmp .ne 7, 3) := by decide +kernel
theorem dX10_has_9 : decode cX10_has 9 = .ok (.iconst 1, 1) := by decide +kernel
theorem dX10_has_10 : decode cX10_has 10 = .ok (.goto 4, 3) := by decide +kernel
theorem dX10_has_13 : decode cX10_has 13 = .ok (.iconst 0, 1) := by decide +kernel
theorem dX10_has_14 : decode cX10_has 14 = .ok (.ireturn, 1) := by decide +kernel
theorem dX10_isThere_0 : decode cX10_isThere 0 = .ok (.iload_n 0, 1) := by decide +kernel
theorem dX10_isThere_1 : decode cX10_isThere 1 = .ok (.ifCond .lt 21, 3) := by decide +kernel
theorem dX10_isThere_4 : decode cX10_isThere 4 = .ok (.iload_n 2, 1) := by decide +kernel
theorem dX10_isThere_5 : decode cX10_isThere 5 = .ok (.iload_n 0, 1) := by decide +kernel
theorem dX10_isThere_6 : decode cX10_isThere 6 = .ok (.invokestatic 9, 3) := by decide +kernel
theorem dX10_isThere_9 : decode cX10_isThere 9 = .ok (.iload_n 1, 1) := by decide +kernel
theorem dX10_isThere_10 : decode cX10_isThere 10 = .ok (.iconst 1, 1) := by decide +kernel
theorem dX10_isThere_11 : decode cX10_isThere 11 = .ok (.if_icmp .ne 7, 3) := by decide +kernel
theorem dX10_isThere_14 : decode cX10_isThere 14 = .ok (.iconst 1, 1) := by decide +kernel
theorem dX10_isThere_15 : decode cX10_isThere 15 = .ok (.goto 4, 3) := by decide +kernel
theorem dX10_isThere_18 : decode cX10_isThere 18 = .ok (.iconst 0, 1) := by decide +kernel
theorem dX10_isThere_19 : decode cX10_isThere 19 = .ok (.if_icmp .ne 7, 3) := by decide +kernel
theorem dX10_isThere_22 : decode cX10_isThere 22 = .ok (.iconst 1, 1) := by decide +kernel
theorem dX10_isThere_23 : decode cX10_isThere 23 = .ok (.goto 4, 3) := by decide +kernel
theorem dX10_isThere_26 : decode cX10_isThere 26 = .ok (.iconst 0, 1) := by decide +kernel
theorem dX10_isThere_27 : decode cX10_isThere 27 = .ok (.ireturn, 1) := by decide +kernel
theorem dX10_plugsThere_0 : decode cX10_plugsThere 0 = .ok (.iconst 0, 1) := by decide +kernel
theorem dX10_plugsThere_1 : decode cX10_plugsThere 1 = .ok (.istore_n 2, 1) := by decide +kernel
theorem dX10_plugsThere_2 : decode cX10_plugsThere 2 = .ok (.iconst 0, 1) := by decide +kernel
theorem dX10_plugsThere_3 : decode cX10_plugsThere 3 = .ok (.istore_n 3, 1) := by decide +kernel
theorem dX10_plugsThere_4 : decode cX10_plugsThere 4 = .ok (.iload_n 3, 1) := by decide +kernel
theorem dX10_plugsThere_5 : decode cX10_plugsThere 5 = .ok (.aload_n 0, 1) := by decide +kernel
theorem dX10_plugsThere_6 : decode cX10_plugsThere 6 = .ok (.getfield 15, 3) := by decide +kernel
theorem dX10_plugsThere_9 : decode cX10_plugsThere 9 = .ok (.getfield 21, 3) := by decide +kernel
theorem dX10_plugsThere_12 : decode cX10_plugsThere 12 = .ok (.if_icmp .ge 40, 3) := by decide +kernel
theorem dX10_plugsThere_15 : decode cX10_plugsThere 15 = .ok (.aload_n 0, 1) := by decide +kernel
theorem dX10_plugsThere_16 : decode cX10_plugsThere 16 = .ok (.getfield 15, 3) := by decide +kernel
theorem dX10_plugsThere_19 : decode cX10_plugsThere 19 = .ok (.getfield 27, 3) := by decide +kernel
theorem dX10_plugsThere_22 : decode cX10_plugsThere 22 = .ok (.iload_n 3, 1) := by decide +kernel
theorem dX10_plugsThere_23 : decode cX10_plugsThere 23 = .ok (.iaload, 1) := by decide +kernel
theorem dX10_plugsThere_24 : decode cX10_plugsThere 24 = .ok (.aload_n 0, 1) := by decide +kernel
theorem dX10_plugsThere_25 : decode cX10_plugsThere 25 = .ok (.getfield 15, 3) := by decide +kernel
theorem dX10_plugsThere_28 : decode cX10_plugsThere 28 = .ok (.getfield 31, 3) := by decide +kernel
theorem dX10_plugsThere_31 : decode cX10_plugsThere 31 = .ok (.iload_n 3, 1) := by decide +kernel
theorem dX10_plugsThere_32 : decode cX10_plugsThere 32 = .ok (.iaload, 1) := by decide +kernel
theorem dX10_plugsThere_33 : decode cX10_plugsThere 33 = .ok (.iload_n 1, 1) := by decide +kernel
theorem dX10_plugsThere_34 : decode cX10_plugsThere 34 = .ok (.invokestatic 34, 3) := by decide +kernel
theorem dX10_plugsThere_37 : decode cX10_plugsThere 37 = .ok (.ifCond .eq 9, 3) := by decide +kernel
theorem dX10_plugsThere_40 : decode cX10_plugsThere 40 = .ok (.iload_n 2, 1) := by decide +kernel
theorem dX10_plugsThere_41 : decode cX10_plugsThere 41 = .ok (.iconst 1, 1) := by decide +kernel
theorem dX10_plugsThere_42 : decode cX10_plugsThere 42 = .ok (.iload_n 3, 1) := by decide +kernel
theorem dX10_plugsThere_43 : decode cX10_plugsThere 43 = .ok (.ishl, 1) := by decide +kernel
theorem dX10_plugsThere_44 : decode cX10_plugsThere 44 = .ok (.ior, 1) := by decide +kernel
theorem dX10_plugsThere_45 : decode cX10_plugsThere 45 = .ok (.istore_n 2, 1) := by decide +kernel
theorem dX10_plugsThere_46 : decode cX10_plugsThere 46 = .ok (.iinc 3 1, 3) := by decide +kernel
theorem dX10_plugsThere_49 : decode cX10_plugsThere 49 = .ok (.goto (-45), 3) := by decide +kernel
theorem dX10_plugsThere_52 : decode cX10_plugsThere 52 = .ok (.iload_n 2, 1) := by decide +kernel
theorem dX10_plugsThere_53 : decode cX10_plugsThere 53 = .ok (.ireturn, 1) := by decide +kernel
theorem dX10_pinsThere_0 : decode cX10_pinsThere 0 = .ok (.aload_n 0, 1) := by decide +kernel
theorem dX10_pinsThere_1 : decode cX10_pinsThere 1 = .ok (.getfield 38, 3) := by decide +kernel
theorem dX10_pinsThere_4 : decode cX10_pinsThere 4 = .ok (.astore_n 3, 1) := by decide +kernel
theorem dX10_pinsThere_5 : decode cX10_pinsThere 5 = .ok (.aload_n 3, 1) := by decide +kernel
theorem dX10_pinsThere_6 : decode cX10_pinsThere 6 = .ok (.getfield 42, 3) := by decide +kernel
theorem dX10_pinsThere_9 : decode cX10_pinsThere 9 = .ok (.iload_n 2, 1) := by decide +kernel
theorem dX10_pinsThere_10 : decode cX10_pinsThere 10 = .ok (.iaload, 1) := by decide +kernel
theorem dX10_pinsThere_11 : decode cX10_pinsThere 11 = .ok (.aload_n 3, 1) := by decide +kernel
theorem dX10_pinsThere_12 : decode cX10_pinsThere 12 = .ok (.getfield 45, 3) := by decide +kernel
theorem dX10_pinsThere_15 : decode cX10_pinsThere 15 = .ok (.iload_n 2, 1) := by decide +kernel
theorem dX10_pinsThere_16 : decode cX10_pinsThere 16 = .ok (.iaload, 1) := by decide +kernel
theorem dX10_pinsThere_17 : decode cX10_pinsThere 17 = .ok (.iload_n 1, 1) := by decide +kernel
theorem dX10_pinsThere_18 : decode cX10_pinsThere 18 = .ok (.invokestatic 34, 3) := by decide +kernel
theorem dX10_pinsThere_21 : decode cX10_pinsThere 21 = .ok (.ifCond .ne 5, 3) := by decide +kernel
theorem dX10_pinsThere_24 : decode cX10_pinsThere 24 = .ok (.iconst 0, 1) := by decide +kernel
theorem dX10_pinsThere_25 : decode cX10_pinsThere 25 = .ok (.ireturn, 1) := by decide +kernel
theorem dX10_pinsThere_26 : decode cX10_pinsThere 26 = .ok (.iconst 0, 1) := by decide +kernel
theorem dX10_pinsThere_27 : decode cX10_pinsThere 27 = .ok (.istore 4, 2) := by decide +kernel
theorem dX10_pinsThere_29 : decode cX10_pinsThere 29 = .ok (.iconst 0, 1) := by decide +kernel
theorem dX10_pinsThere_30 : decode cX10_pinsThere 30 = .ok (.istore 5, 2) := by decide +kernel
theorem dX10_pinsThere_32 : decode cX10_pinsThere 32 = .ok (.iload 5, 2) := by decide +kernel
theorem dX10_pinsThere_34 : decode cX10_pinsThere 34 = .ok (.aload_n 3, 1) := by decide +kernel
theorem dX10_pinsThere_35 : decode cX10_pinsThere 35 = .ok (.getfield 46, 3) := by decide +kernel
theorem dX10_pinsThere_38 : decode cX10_pinsThere 38 = .ok (.iload_n 2, 1) := by decide +kernel
theorem dX10_pinsThere_39 : decode cX10_pinsThere 39 = .ok (.iaload, 1) := by decide +kernel
theorem dX10_pinsThere_40 : decode cX10_pinsThere 40 = .ok (.if_icmp .ge 56, 3) := by decide +kernel
theorem dX10_pinsThere_43 : decode cX10_pinsThere 43 = .ok (.aload_n 3, 1) := by decide +kernel
theorem dX10_pinsThere_44 : decode cX10_pinsThere 44 = .ok (.getfield 49, 3) := by decide +kernel
theorem dX10_pinsThere_47 : decode cX10_pinsThere 47 = .ok (.iload_n 2, 1) := by decide +kernel
theorem dX10_pinsThere_48 : decode cX10_pinsThere 48 = .ok (.aaload, 1) := by decide +kernel
theorem dX10_pinsThere_49 : decode cX10_pinsThere 49 = .ok (.iload 5, 2) := by decide +kernel
theorem dX10_pinsThere_51 : decode cX10_pinsThere 51 = .ok (.iaload, 1) := by decide +kernel
theorem dX10_pinsThere_52 : decode cX10_pinsThere 52 = .ok (.istore 6, 2) := by decide +kernel
theorem dX10_pinsThere_54 : decode cX10_pinsThere 54 = .ok (.aload_n 0, 1) := by decide +kernel
theorem dX10_pinsThere_55 : decode cX10_pinsThere 55 = .ok (.getfield 15, 3) := by decide +kernel
theorem dX10_pinsThere_58 : decode cX10_pinsThere 58 = .ok (.getfield 27, 3) := by decide +kernel
theorem dX10_pinsThere_61 : decode cX10_pinsThere 61 = .ok (.iload 6, 2) := by decide +kernel
theorem dX10_pinsThere_63 : decode cX10_pinsThere 63 = .ok (.iaload, 1) := by decide +kernel
theorem dX10_pinsThere_64 : decode cX10_pinsThere 64 = .ok (.aload_n 0, 1) := by decide +kernel
theorem dX10_pinsThere_65 : decode cX10_pinsThere 65 = .ok (.getfield 15, 3) := by decide +kernel
theorem dX10_pinsThere_68 : decode cX10_pinsThere 68 = .ok (.getfield 31, 3) := by decide +kernel
theorem dX10_pinsThere_71 : decode cX10_pinsThere 71 = .ok (.iload 6, 2) := by decide +kernel
theorem dX10_pinsThere_73 : decode cX10_pinsThere 73 = .ok (.iaload, 1) := by decide +kernel
theorem dX10_pinsThere_74 : decode cX10_pinsThere 74 = .ok (.iload_n 1, 1) := by decide +kernel
theorem dX10_pinsThere_75 : decode cX10_pinsThere 75 = .ok (.invokestatic 34, 3) := by decide +kernel
theorem dX10_pinsThere_78 : decode cX10_pinsThere 78 = .ok (.ifCond .eq 12, 3) := by decide +kernel
theorem dX10_pinsThere_81 : decode cX10_pinsThere 81 = .ok (.iload 4, 2) := by decide +kernel
theorem dX10_pinsThere_83 : decode cX10_pinsThere 83 = .ok (.iconst 1, 1) := by decide +kernel
theorem dX10_pinsThere_84 : decode cX10_pinsThere 84 = .ok (.iload 5, 2) := by decide +kernel
theorem dX10_pinsThere_86 : decode cX10_pinsThere 86 = .ok (.ishl, 1) := by decide +kernel
theorem dX10_pinsThere_87 : decode cX10_pinsThere 87 = .ok (.ior, 1) := by decide +kernel
theorem dX10_pinsThere_88 : decode cX10_pinsThere 88 = .ok (.istore 4, 2) := by decide +kernel
theorem dX10_pinsThere_90 : decode cX10_pinsThere 90 = .ok (.iinc 5 1, 3) := by decide +kernel
theorem dX10_pinsThere_93 : decode cX10_pinsThere 93 = .ok (.goto (-61), 3) := by decide +kernel
theorem dX10_pinsThere_96 : decode cX10_pinsThere 96 = .ok (.iload 4, 2) := by decide +kernel
theorem dX10_pinsThere_98 : decode cX10_pinsThere 98 = .ok (.ireturn, 1) := by decide +kernel
theorem dX10_countFor_0 : decode cX10_countFor 0 = .ok (.iload_n 0, 1) := by decide +kernel
theorem dX10_countFor_1 : decode cX10_countFor 1 = .ok (.invokestatic 53, 3) := by decide +kernel
theorem dX10_countFor_4 : decode cX10_countFor 4 = .ok (.istore_n 1, 1) := by decide +kernel
theorem dX10_countFor_5 : decode cX10_countFor 5 = .ok (.iload_n 1, 1) := by decide +kernel
theorem dX10_countFor_6 : decode cX10_countFor 6 = .ok (.iconst 2, 1) := by decide +kernel
theorem dX10_countFor_7 : decode cX10_countFor 7 = .ok (.if_icmp .ge 7, 3) := by decide +kernel
theorem dX10_countFor_10 : decode cX10_countFor 10 = .ok (.iconst 0, 1) := by decide +kernel
theorem dX10_countFor_11 : decode cX10_countFor 11 = .ok (.goto 13, 3) := by decide +kernel
theorem dX10_countFor_14 : decode cX10_countFor 14 = .ok (.iload_n 1, 1) := by decide +kernel
theorem dX10_countFor_15 : decode cX10_countFor 15 = .ok (.iconst 2, 1) := by decide +kernel
theorem dX10_countFor_16 : decode cX10_countFor 16 = .ok (.if_icmp .ne 7, 3) := by decide +kernel
theorem dX10_countFor_19 : decode cX10_countFor 19 = .ok (.iconst 1, 1) := by decide +kernel
theorem dX10_countFor_20 : decode cX10_countFor 20 = .ok (.goto 4, 3) := by decide +kernel
theorem dX10_countFor_23 : decode cX10_countFor 23 = .ok (.iload_n 1, 1) := by decide +kernel
theorem dX10_countFor_24 : decode cX10_countFor 24 = .ok (.ireturn, 1) := by decide +kernel
theorem dX10_needsSplice_0 : decode cX10_needsSplice 0 = .ok (.iload_n 0, 1) := by decide +kernel
theorem dX10_needsSplice_1 : decode cX10_needsSplice 1 = .ok (.invokestatic 53, 3) := by decide +kernel
theorem dX10_needsSplice_4 : decode cX10_needsSplice 4 = .ok (.iconst 2, 1) := by decide +kernel
theorem dX10_needsSplice_5 : decode cX10_needsSplice 5 = .ok (.if_icmp .le 7, 3) := by decide +kernel
theorem dX10_needsSplice_8 : decode cX10_needsSplice 8 = .ok (.iconst 1, 1) := by decide +kernel
theorem dX10_needsSplice_9 : decode cX10_needsSplice 9 = .ok (.goto 4, 3) := by decide +kernel
theorem dX10_needsSplice_12 : decode cX10_needsSplice 12 = .ok (.iconst 0, 1) := by decide +kernel
theorem dX10_needsSplice_13 : decode cX10_needsSplice 13 = .ok (.ireturn, 1) := by decide +kernel
theorem dX10_reachOf_0 : decode cX10_reachOf 0 = .ok (.iconst 0, 1) := by decide +kernel
theorem dX10_reachOf_1 : decode cX10_reachOf 1 = .ok (.istore 4, 2) := by decide +kernel
theorem dX10_reachOf_3 : decode cX10_reachOf 3 = .ok (.iconst 0, 1) := by decide +kernel
theorem dX10_reachOf_4 : decode cX10_reachOf 4 = .ok (.istore 5, 2) := by decide +kernel
theorem dX10_reachOf_6 : decode cX10_reachOf 6 = .ok (.iload 5, 2) := by decide +kernel
theorem dX10_reachOf_8 : decode cX10_reachOf 8 = .ok (.aload_n 0, 1) := by decide +kernel
theorem dX10_reachOf_9 : decode cX10_reachOf 9 = .ok (.getfield 38, 3) := by decide +kernel
theorem dX10_reachOf_12 : decode cX10_reachOf 12 = .ok (.getfield 46, 3) := by decide +kernel
theorem dX10_reachOf_15 : decode cX10_reachOf 15 = .ok (.iload_n 1, 1) := by decide +kernel
theorem dX10_reachOf_16 : decode cX10_reachOf 16 = .ok (.iaload, 1) := by decide +kernel
theorem dX10_reachOf_17 : decode cX10_reachOf 17 = .ok (.if_icmp .ge 45, 3) := by decide +kernel
theorem dX10_reachOf_20 : decode cX10_reachOf 20 = .ok (.iload_n 2, 1) := by decide +kernel
theorem dX10_reachOf_21 : decode cX10_reachOf 21 = .ok (.iload 5, 2) := by decide +kernel
theorem dX10_reachOf_23 : decode cX10_reachOf 23 = .ok (.invokestatic 9, 3) := by decide +kernel
theorem dX10_reachOf_26 : decode cX10_reachOf 26 = .ok (.ifCond .eq 30, 3) := by decide +kernel
theorem dX10_reachOf_29 : decode cX10_reachOf 29 = .ok (.iload 4, 2) := by decide +kernel
theorem dX10_reachOf_31 : decode cX10_reachOf 31 = .ok (.aload_n 0, 1) := by decide +kernel
theorem dX10_reachOf_32 : decode cX10_reachOf 32 = .ok (.getfield 59, 3) := by decide +kernel
theorem dX10_reachOf_35 : decode cX10_reachOf 35 = .ok (.getfield 63, 3) := by decide +kernel
theorem dX10_reachOf_38 : decode cX10_reachOf 38 = .ok (.iload_n 3, 1) := by decide +kernel
theorem dX10_reachOf_39 : decode cX10_reachOf 39 = .ok (.aaload, 1) := by decide +kernel
theorem dX10_reachOf_40 : decode cX10_reachOf 40 = .ok (.aload_n 0, 1) := by decide +kernel
theorem dX10_reachOf_41 : decode cX10_reachOf 41 = .ok (.getfield 38, 3) := by decide +kernel
theorem dX10_reachOf_44 : decode cX10_reachOf 44 = .ok (.getfield 68, 3) := by decide +kernel
theorem dX10_reachOf_47 : decode cX10_reachOf 47 = .ok (.iload_n 1, 1) := by decide +kernel
theorem dX10_reachOf_48 : decode cX10_reachOf 48 = .ok (.aaload, 1) := by decide +kernel
theorem dX10_reachOf_49 : decode cX10_reachOf 49 = .ok (.iload 5, 2) := by decide +kernel
theorem dX10_reachOf_51 : decode cX10_reachOf 51 = .ok (.iaload, 1) := by decide +kernel
theorem dX10_reachOf_52 : decode cX10_reachOf 52 = .ok (.iaload, 1) := by decide +kernel
theorem dX10_reachOf_53 : decode cX10_reachOf 53 = .ok (.iadd, 1) := by decide +kernel
theorem dX10_reachOf_54 : decode cX10_reachOf 54 = .ok (.istore 4, 2) := by decide +kernel
theorem dX10_reachOf_56 : decode cX10_reachOf 56 = .ok (.iinc 5 1, 3) := by decide +kernel
theorem dX10_reachOf_59 : decode cX10_reachOf 59 = .ok (.goto (-53), 3) := by decide +kernel
theorem dX10_reachOf_62 : decode cX10_reachOf 62 = .ok (.iload 4, 2) := by decide +kernel
theorem dX10_reachOf_64 : decode cX10_reachOf 64 = .ok (.ireturn, 1) := by decide +kernel
theorem dX10_hubOf_0 : decode cX10_hubOf 0 = .ok (.iload_n 2, 1) := by decide +kernel
theorem dX10_hubOf_1 : decode cX10_hubOf 1 = .ok (.invokestatic 71, 3) := by decide +kernel
theorem dX10_hubOf_4 : decode cX10_hubOf 4 = .ok (.ifCond .ne 10, 3) := by decide +kernel
theorem dX10_hubOf_7 : decode cX10_hubOf 7 = .ok (.aload_n 0, 1) := by decide +kernel
theorem dX10_hubOf_8 : decode cX10_hubOf 8 = .ok (.iload_n 1, 1) := by decide +kernel
theorem dX10_hubOf_9 : decode cX10_hubOf 9 = .ok (.iload_n 2, 1) := by decide +kernel
theorem dX10_hubOf_10 : decode cX10_hubOf 10 = .ok (.invokestatic 75, 3) := by decide +kernel
theorem dX10_hubOf_13 : decode cX10_hubOf 13 = .ok (.ireturn, 1) := by decide +kernel
theorem dX10_hubOf_14 : decode cX10_hubOf 14 = .ok (.aload_n 0, 1) := by decide +kernel
theorem dX10_hubOf_15 : decode cX10_hubOf 15 = .ok (.getfield 38, 3) := by decide +kernel
theorem dX10_hubOf_18 : decode cX10_hubOf 18 = .ok (.getfield 79, 3) := by decide +kernel
theorem dX10_hubOf_21 : decode cX10_hubOf 21 = .ok (.iload_n 1, 1) := by decide +kernel
theorem dX10_hubOf_22 : decode cX10_hubOf 22 = .ok (.iaload, 1) := by decide +kernel
theorem dX10_hubOf_23 : decode cX10_hubOf 23 = .ok (.ifCond .lt 13, 3) := by decide +kernel
theorem dX10_hubOf_26 : decode cX10_hubOf 26 = .ok (.aload_n 0, 1) := by decide +kernel
theorem dX10_hubOf_27 : decode cX10_hubOf 27 = .ok (.getfield 38, 3) := by decide +kernel
theorem dX10_hubOf_30 : decode cX10_hubOf 30 = .ok (.getfield 79, 3) := by decide +kernel
theorem dX10_hubOf_33 : decode cX10_hubOf 33 = .ok (.iload_n 1, 1) := by decide +kernel
theorem dX10_hubOf_34 : decode cX10_hubOf 34 = .ok (.iaload, 1) := by decide +kernel
theorem dX10_hubOf_35 : decode cX10_hubOf 35 = .ok (.ireturn, 1) := by decide +kernel
theorem dX10_hubOf_36 : decode cX10_hubOf 36 = .ok (.iconst 0, 1) := by decide +kernel
theorem dX10_hubOf_37 : decode cX10_hubOf 37 = .ok (.istore_n 3, 1) := by decide +kernel
theorem dX10_hubOf_38 : decode cX10_hubOf 38 = .ok (.ldc 82, 2) := by decide +kernel
theorem dX10_hubOf_40 : decode cX10_hubOf 40 = .ok (.istore 4, 2) := by decide +kernel
theorem dX10_hubOf_42 : decode cX10_hubOf 42 = .ok (.iconst 0, 1) := by decide +kernel
theorem dX10_hubOf_43 : decode cX10_hubOf 43 = .ok (.istore 5, 2) := by decide +kernel
theorem dX10_hubOf_45 : decode cX10_hubOf 45 = .ok (.iload 5, 2) := by decide +kernel
theorem dX10_hubOf_47 : decode cX10_hubOf 47 = .ok (.aload_n 0, 1) := by decide +kernel
theorem dX10_hubOf_48 : decode cX10_hubOf 48 = .ok (.getfield 59, 3) := by decide +kernel
theorem dX10_hubOf_51 : decode cX10_hubOf 51 = .ok (.getfield 83, 3) := by decide +kernel
theorem dX10_hubOf_54 : decode cX10_hubOf 54 = .ok (.if_icmp .ge 33, 3) := by decide +kernel
theorem dX10_hubOf_57 : decode cX10_hubOf 57 = .ok (.aload_n 0, 1) := by decide +kernel
theorem dX10_hubOf_58 : decode cX10_hubOf 58 = .ok (.iload_n 1, 1) := by decide +kernel
theorem dX10_hubOf_59 : decode cX10_hubOf 59 = .ok (.iload_n 2, 1) := by decide +kernel
theorem dX10_hubOf_60 : decode cX10_hubOf 60 = .ok (.iload 5, 2) := by decide +kernel
theorem dX10_hubOf_62 : decode cX10_hubOf 62 = .ok (.invokestatic 84, 3) := by decide +kernel
theorem dX10_hubOf_65 : decode cX10_hubOf 65 = .ok (.istore 6, 2) := by decide +kernel
theorem dX10_hubOf_67 : decode cX10_hubOf 67 = .ok (.iload 6, 2) := by decide +kernel
theorem dX10_hubOf_69 : decode cX10_hubOf 69 = .ok (.iload 4, 2) := by decide +kernel
theorem dX10_hubOf_71 : decode cX10_hubOf 71 = .ok (.if_icmp .ge 10, 3) := by decide +kernel
theorem dX10_hubOf_74 : decode cX10_hubOf 74 = .ok (.iload 6, 2) := by decide +kernel
theorem dX10_hubOf_76 : decode cX10_hubOf 76 = .ok (.istore 4, 2) := by decide +kernel
theorem dX10_hubOf_78 : decode cX10_hubOf 78 = .ok (.iload 5, 2) := by decide +kernel
theorem dX10_hubOf_80 : decode cX10_hubOf 80 = .ok (.istore_n 3, 1) := by decide +kernel
theorem dX10_hubOf_81 : decode cX10_hubOf 81 = .ok (.iinc 5 1, 3) := by decide +kernel
theorem dX10_hubOf_84 : decode cX10_hubOf 84 = .ok (.goto (-39), 3) := by decide +kernel
theorem dX10_hubOf_87 : decode cX10_hubOf 87 = .ok (.iload_n 3, 1) := by decide +kernel
theorem dX10_hubOf_88 : decode cX10_hubOf 88 = .ok (.ireturn, 1) := by decide +kernel
theorem dX10_firstNode_0 : decode cX10_firstNode 0 = .ok (.iconst 0, 1) := by decide +kernel
theorem dX10_firstNode_1 : decode cX10_firstNode 1 = .ok (.istore_n 3, 1) := by decide +kernel
theorem dX10_firstNode_2 : decode cX10_firstNode 2 = .ok (.iload_n 3, 1) := by decide +kernel
theorem dX10_firstNode_3 : decode cX10_firstNode 3 = .ok (.aload_n 0, 1) := by decide +kernel
theorem dX10_firstNode_4 : decode cX10_firstNode 4 = .ok (.getfield 38, 3) := by decide +kernel
theorem dX10_firstNode_7 : decode cX10_firstNode 7 = .ok (.getfield 46, 3) := by decide +kernel
theorem dX10_firstNode_10 : decode cX10_firstNode 10 = .ok (.iload_n 1, 1) := by decide +kernel
theorem dX10_firstNode_11 : decode cX10_firstNode 11 = .ok (.iaload, 1) := by decide +kernel
theorem dX10_firstNode_12 : decode cX10_firstNode 12 = .ok (.if_icmp .ge 29, 3) := by decide +kernel
theorem dX10_firstNode_15 : decode cX10_firstNode 15 = .ok (.iload_n 2, 1) := by decide +kernel
theorem dX10_firstNode_16 : decode cX10_firstNode 16 = .ok (.iload_n 3, 1) := by decide +kernel
theorem dX10_firstNode_17 : decode cX10_firstNode 17 = .ok (.invokestatic 9, 3) := by decide +kernel
theorem dX10_firstNode_20 : decode cX10_firstNode 20 = .ok (.ifCond .eq 15, 3) := by decide +kernel
theorem dX10_firstNode_23 : decode cX10_firstNode 23 = .ok (.aload_n 0, 1) := by decide +kernel
theorem dX10_firstNode_24 : decode cX10_firstNode 24 = .ok (.getfield 38, 3) := by decide +kernel
theorem dX10_firstNode_27 : decode cX10_firstNode 27 = .ok (.getfield 68, 3) := by decide +kernel
theorem dX10_firstNode_30 : decode cX10_firstNode 30 = .ok (.iload_n 1, 1) := by decide +kernel
theorem dX10_firstNode_31 : decode cX10_firstNode 31 = .ok (.aaload, 1) := by decide +kernel
theorem dX10_firstNode_32 : decode cX10_firstNode 32 = .ok (.iload_n 3, 1) := by decide +kernel
theorem dX10_firstNode_33 : decode cX10_firstNode 33 = .ok (.iaload, 1) := by decide +kernel
theorem dX10_firstNode_34 : decode cX10_firstNode 34 = .ok (.ireturn, 1) := by decide +kernel
theorem dX10_firstNode_35 : decode cX10_firstNode 35 = .ok (.iinc 3 1, 3) := by decide +kernel
theorem dX10_firstNode_38 : decode cX10_firstNode 38 = .ok (.goto (-36), 3) := by decide +kernel
theorem dX10_firstNode_41 : decode cX10_firstNode 41 = .ok (.iconst 0, 1) := by decide +kernel
theorem dX10_firstNode_42 : decode cX10_firstNode 42 = .ok (.ireturn, 1) := by decide +kernel
theorem dX10_lengthTo_0 : decode cX10_lengthTo 0 = .ok (.aload_n 0, 1) := by decide +kernel
theorem dX10_lengthTo_1 : decode cX10_lengthTo 1 = .ok (.iload_n 1, 1) := by decide +kernel
theorem dX10_lengthTo_2 : decode cX10_lengthTo 2 = .ok (.iload_n 2, 1) := by decide +kernel
theorem dX10_lengthTo_3 : decode cX10_lengthTo 3 = .ok (.invokestatic 88, 3) := by decide +kernel
theorem dX10_lengthTo_6 : decode cX10_lengthTo 6 = .ok (.istore 4, 2) := by decide +kernel
theorem dX10_lengthTo_8 : decode cX10_lengthTo 8 = .ok (.iload_n 2, 1) := by decide +kernel
theorem dX10_lengthTo_9 : decode cX10_lengthTo 9 = .ok (.invokestatic 91, 3) := by decide +kernel
theorem dX10_lengthTo_12 : decode cX10_lengthTo 12 = .ok (.iconst 1, 1) := by decide +kernel
theorem dX10_lengthTo_13 : decode cX10_lengthTo 13 = .ok (.if_icmp .ne 19, 3) := by decide +kernel
theorem dX10_lengthTo_16 : decode cX10_lengthTo 16 = .ok (.aload_n 0, 1) := by decide +kernel
theorem dX10_lengthTo_17 : decode cX10_lengthTo 17 = .ok (.iload_n 1, 1) := by decide +kernel
theorem dX10_lengthTo_18 : decode cX10_lengthTo 18 = .ok (.iload_n 2, 1) := by decide +kernel
theorem dX10_lengthTo_19 : decode cX10_lengthTo 19 = .ok (.iload 4, 2) := by decide +kernel
theorem dX10_lengthTo_21 : decode cX10_lengthTo 21 = .ok (.invokestatic 84, 3) := by decide +kernel
theorem dX10_lengthTo_24 : decode cX10_lengthTo 24 = .ok (.iconst 2, 1) := by decide +kernel
theorem dX10_lengthTo_25 : decode cX10_lengthTo 25 = .ok (.aload_n 0, 1) := by decide +kernel
theorem dX10_lengthTo_26 : decode cX10_lengthTo 26 = .ok (.getfield 94, 3) := by decide +kernel
theorem dX10_lengthTo_29 : decode cX10_lengthTo 29 = .ok (.imul, 1) := by decide +kernel
theorem dX10_lengthTo_30 : decode cX10_lengthTo 30 = .ok (.iadd, 1) := by decide +kernel
theorem dX10_lengthTo_31 : decode cX10_lengthTo 31 = .ok (.ireturn, 1) := by decide +kernel
theorem dX10_lengthTo_32 : decode cX10_lengthTo 32 = .ok (.aload_n 0, 1) := by decide +kernel
theorem dX10_lengthTo_33 : decode cX10_lengthTo 33 = .ok (.getfield 59, 3) := by decide +kernel
theorem dX10_lengthTo_36 : decode cX10_lengthTo 36 = .ok (.getfield 63, 3) := by decide +kernel
theorem dX10_lengthTo_39 : decode cX10_lengthTo 39 = .ok (.iload 4, 2) := by decide +kernel
theorem dX10_lengthTo_41 : decode cX10_lengthTo 41 = .ok (.aaload, 1) := by decide +kernel
theorem dX10_lengthTo_42 : decode cX10_lengthTo 42 = .ok (.aload_n 0, 1) := by decide +kernel
theorem dX10_lengthTo_43 : decode cX10_lengthTo 43 = .ok (.getfield 38, 3) := by decide +kernel
theorem dX10_lengthTo_46 : decode cX10_lengthTo 46 = .ok (.getfield 68, 3) := by decide +kernel
theorem dX10_lengthTo_49 : decode cX10_lengthTo 49 = .ok (.iload_n 1, 1) := by decide +kernel
theorem dX10_lengthTo_50 : decode cX10_lengthTo 50 = .ok (.aaload, 1) := by decide +kernel
theorem dX10_lengthTo_51 : decode cX10_lengthTo 51 = .ok (.iload_n 3, 1) := by decide +kernel
theorem dX10_lengthTo_52 : decode cX10_lengthTo 52 = .ok (.iaload, 1) := by decide +kernel
theorem dX10_lengthTo_53 : decode cX10_lengthTo 53 = .ok (.iaload, 1) := by decide +kernel
theorem dX10_lengthTo_54 : decode cX10_lengthTo 54 = .ok (.aload_n 0, 1) := by decide +kernel
theorem dX10_lengthTo_55 : decode cX10_lengthTo 55 = .ok (.getfield 94, 3) := by decide +kernel
theorem dX10_lengthTo_58 : decode cX10_lengthTo 58 = .ok (.iadd, 1) := by decide +kernel
theorem dX10_lengthTo_59 : decode cX10_lengthTo 59 = .ok (.aload_n 0, 1) := by decide +kernel
theorem dX10_lengthTo_60 : decode cX10_lengthTo 60 = .ok (.getfield 97, 3) := by decide +kernel
theorem dX10_lengthTo_63 : decode cX10_lengthTo 63 = .ok (.iadd, 1) := by decide +kernel
theorem dX10_lengthTo_64 : decode cX10_lengthTo 64 = .ok (.ireturn, 1) := by decide +kernel
theorem dX10_lengthOf_0 : decode cX10_lengthOf 0 = .ok (.iload_n 2, 1) := by decide +kernel
theorem dX10_lengthOf_1 : decode cX10_lengthOf 1 = .ok (.invokestatic 91, 3) := by decide +kernel
theorem dX10_lengthOf_4 : decode cX10_lengthOf 4 = .ok (.istore_n 3, 1) := by decide +kernel
theorem dX10_lengthOf_5 : decode cX10_lengthOf 5 = .ok (.iload_n 3, 1) := by decide +kernel
theorem dX10_lengthOf_6 : decode cX10_lengthOf 6 = .ok (.ifCond .ne 5, 3) := by decide +kernel
theorem dX10_lengthOf_9 : decode cX10_lengthOf 9 = .ok (.iconst 0, 1) := by decide +kernel
theorem dX10_lengthOf_10 : decode cX10_lengthOf 10 = .ok (.ireturn, 1) := by decide +kernel
theorem dX10_lengthOf_11 : decode cX10_lengthOf 11 = .ok (.iload_n 3, 1) := by decide +kernel
theorem dX10_lengthOf_12 : decode cX10_lengthOf 12 = .ok (.iconst 1, 1) := by decide +kernel
theorem dX10_lengthOf_13 : decode cX10_lengthOf 13 = .ok (.if_icmp .ne 12, 3) := by decide +kernel
theorem dX10_lengthOf_16 : decode cX10_lengthOf 16 = .ok (.iconst 2, 1) := by decide +kernel
theorem dX10_lengthOf_17 : decode cX10_lengthOf 17 = .ok (.aload_n 0, 1) := by decide +kernel
theorem dX10_lengthOf_18 : decode cX10_lengthOf 18 = .ok (.getfield 94, 3) := by decide +kernel
theorem dX10_lengthOf_21 : decode cX10_lengthOf 21 = .ok (.imul, 1) := by decide +kernel
theorem dX10_lengthOf_22 : decode cX10_lengthOf 22 = .ok (.goto 14, 3) := by decide +kernel
theorem dX10_lengthOf_25 : decode cX10_lengthOf 25 = .ok (.iload_n 3, 1) := by decide +kernel
theorem dX10_lengthOf_26 : decode cX10_lengthOf 26 = .ok (.aload_n 0, 1) := by decide +kernel
theorem dX10_lengthOf_27 : decode cX10_lengthOf 27 = .ok (.getfield 94, 3) := by decide +kernel
theorem dX10_lengthOf_30 : decode cX10_lengthOf 30 = .ok (.aload_n 0, 1) := by decide +kernel
theorem dX10_lengthOf_31 : decode cX10_lengthOf 31 = .ok (.getfield 97, 3) := by decide +kernel
theorem dX10_lengthOf_34 : decode cX10_lengthOf 34 = .ok (.iadd, 1) := by decide +kernel
theorem dX10_lengthOf_35 : decode cX10_lengthOf 35 = .ok (.imul, 1) := by decide +kernel
theorem dX10_lengthOf_36 : decode cX10_lengthOf 36 = .ok (.istore 4, 2) := by decide +kernel
theorem dX10_lengthOf_38 : decode cX10_lengthOf 38 = .ok (.aload_n 0, 1) := by decide +kernel
theorem dX10_lengthOf_39 : decode cX10_lengthOf 39 = .ok (.iload_n 1, 1) := by decide +kernel
theorem dX10_lengthOf_40 : decode cX10_lengthOf 40 = .ok (.iload_n 2, 1) := by decide +kernel
theorem dX10_lengthOf_41 : decode cX10_lengthOf 41 = .ok (.aload_n 0, 1) := by decide +kernel
theorem dX10_lengthOf_42 : decode cX10_lengthOf 42 = .ok (.iload_n 1, 1) := by decide +kernel
theorem dX10_lengthOf_43 : decode cX10_lengthOf 43 = .ok (.iload_n 2, 1) := by decide +kernel
theorem dX10_lengthOf_44 : decode cX10_lengthOf 44 = .ok (.invokestatic 88, 3) := by decide +kernel
theorem dX10_lengthOf_47 : decode cX10_lengthOf 47 = .ok (.invokestatic 84, 3) := by decide +kernel
theorem dX10_lengthOf_50 : decode cX10_lengthOf 50 = .ok (.iload 4, 2) := by decide +kernel
theorem dX10_lengthOf_52 : decode cX10_lengthOf 52 = .ok (.iadd, 1) := by decide +kernel
theorem dX10_lengthOf_53 : decode cX10_lengthOf 53 = .ok (.ireturn, 1) := by decide +kernel
theorem dX10_lengthOfGauge_0 : decode cX10_lengthOfGauge 0 = .ok (.iconst 0, 1) := by decide +kernel
theorem dX10_lengthOfGauge_1 : decode cX10_lengthOfGauge 1 = .ok (.istore_n 3, 1) := by decide +kernel
theorem dX10_lengthOfGauge_2 : decode cX10_lengthOfGauge 2 = .ok (.iconst 0, 1) := by decide +kernel
theorem dX10_lengthOfGauge_3 : decode cX10_lengthOfGauge 3 = .ok (.istore 4, 2) := by decide +kernel
theorem dX10_lengthOfGauge_5 : decode cX10_lengthOfGauge 5 = .ok (.iload 4, 2) := by decide +kernel
theorem dX10_lengthOfGauge_7 : decode cX10_lengthOfGauge 7 = .ok (.aload_n 0, 1) := by decide +kernel
theorem dX10_lengthOfGauge_8 : decode cX10_lengthOfGauge 8 = .ok (.getfield 38, 3) := by decide +kernel
theorem dX10_lengthOfGauge_11 : decode cX10_lengthOfGauge 11 = .ok (.getfield 100, 3) := by decide +kernel
theorem dX10_lengthOfGauge_14 : decode cX10_lengthOfGauge 14 = .ok (.if_icmp .ge 43, 3) := by decide +kernel
theorem dX10_lengthOfGauge_17 : decode cX10_lengthOfGauge 17 = .ok (.iload_n 2, 1) := by decide +kernel
theorem dX10_lengthOfGauge_18 : decode cX10_lengthOfGauge 18 = .ok (.ifCond .eq 17, 3) := by decide +kernel
theorem dX10_lengthOfGauge_21 : decode cX10_lengthOfGauge 21 = .ok (.aload_n 0, 1) := by decide +kernel
theorem dX10_lengthOfGauge_22 : decode cX10_lengthOfGauge 22 = .ok (.getfield 38, 3) := by decide +kernel
theorem dX10_lengthOfGauge_25 : decode cX10_lengthOfGauge 25 = .ok (.getfield 101, 3) := by decide +kernel
theorem dX10_lengthOfGauge_28 : decode cX10_lengthOfGauge 28 = .ok (.iload 4, 2) := by decide +kernel
theorem dX10_lengthOfGauge_30 : decode cX10_lengthOfGauge 30 = .ok (.iaload, 1) := by decide +kernel
theorem dX10_lengthOfGauge_31 : decode cX10_lengthOfGauge 31 = .ok (.iload_n 2, 1) := by decide +kernel
theorem dX10_lengthOfGauge_32 : decode cX10_lengthOfGauge 32 = .ok (.if_icmp .ne 19, 3) := by decide +kernel
theorem dX10_lengthOfGauge_35 : decode cX10_lengthOfGauge 35 = .ok (.iload_n 3, 1) := by decide +kernel
theorem dX10_lengthOfGauge_36 : decode cX10_lengthOfGauge 36 = .ok (.aload_n 0, 1) := by decide +kernel
theorem dX10_lengthOfGauge_37 : decode cX10_lengthOfGauge 37 = .ok (.iload 4, 2) := by decide +kernel
theorem dX10_lengthOfGauge_39 : decode cX10_lengthOfGauge 39 = .ok (.aload_n 0, 1) := by decide +kernel
theorem dX10_lengthOfGauge_40 : decode cX10_lengthOfGauge 40 = .ok (.iload_n 1, 1) := by decide +kernel
theorem dX10_lengthOfGauge_41 : decode cX10_lengthOfGauge 41 = .ok (.iload 4, 2) := by decide +kernel
theorem dX10_lengthOfGauge_43 : decode cX10_lengthOfGauge 43 = .ok (.invokestatic 104, 3) := by decide +kernel
theorem dX10_lengthOfGauge_46 : decode cX10_lengthOfGauge 46 = .ok (.invokestatic 107, 3) := by decide +kernel
theorem dX10_lengthOfGauge_49 : decode cX10_lengthOfGauge 49 = .ok (.iadd, 1) := by decide +kernel
theorem dX10_lengthOfGauge_50 : decode cX10_lengthOfGauge 50 = .ok (.istore_n 3, 1) := by decide +kernel
theorem dX10_lengthOfGauge_51 : decode cX10_lengthOfGauge 51 = .ok (.iinc 4 1, 3) := by decide +kernel
theorem dX10_lengthOfGauge_54 : decode cX10_lengthOfGauge 54 = .ok (.goto (-49), 3) := by decide +kernel
theorem dX10_lengthOfGauge_57 : decode cX10_lengthOfGauge 57 = .ok (.iload_n 3, 1) := by decide +kernel
theorem dX10_lengthOfGauge_58 : decode cX10_lengthOfGauge 58 = .ok (.ireturn, 1) := by decide +kernel
theorem dX10_runsThrough_0 : decode cX10_runsThrough 0 = .ok (.aload_n 0, 1) := by decide +kernel
theorem dX10_runsThrough_1 : decode cX10_runsThrough 1 = .ok (.iload_n 1, 1) := by decide +kernel
theorem dX10_runsThrough_2 : decode cX10_runsThrough 2 = .ok (.iload_n 2, 1) := by decide +kernel
theorem dX10_runsThrough_3 : decode cX10_runsThrough 3 = .ok (.invokestatic 104, 3) := by decide +kernel
theorem dX10_runsThrough_6 : decode cX10_runsThrough 6 = .ok (.istore 4, 2) := by decide +kernel
theorem dX10_runsThrough_8 : decode cX10_runsThrough 8 = .ok (.iload 4, 2) := by decide +kernel
theorem dX10_runsThrough_10 : decode cX10_runsThrough 10 = .ok (.invokestatic 91, 3) := by decide +kernel
theorem dX10_runsThrough_13 : decode cX10_runsThrough 13 = .ok (.ifCond .ne 5, 3) := by decide +kernel
theorem dX10_runsThrough_16 : decode cX10_runsThrough 16 = .ok (.iconst 0, 1) := by decide +kernel
theorem dX10_runsThrough_17 : decode cX10_runsThrough 17 = .ok (.ireturn, 1) := by decide +kernel
theorem dX10_runsThrough_18 : decode cX10_runsThrough 18 = .ok (.aload_n 0, 1) := by decide +kernel
theorem dX10_runsThrough_19 : decode cX10_runsThrough 19 = .ok (.iload_n 2, 1) := by decide +kernel
theorem dX10_runsThrough_20 : decode cX10_runsThrough 20 = .ok (.iload 4, 2) := by decide +kernel
theorem dX10_runsThrough_22 : decode cX10_runsThrough 22 = .ok (.invokestatic 88, 3) := by decide +kernel
theorem dX10_runsThrough_25 : decode cX10_runsThrough 25 = .ok (.istore 5, 2) := by decide +kernel
theorem dX10_runsThrough_27 : decode cX10_runsThrough 27 = .ok (.iconst 0, 1) := by decide +kernel
theorem dX10_runsThrough_28 : decode cX10_runsThrough 28 = .ok (.istore 6, 2) := by decide +kernel
theorem dX10_runsThrough_30 : decode cX10_runsThrough 30 = .ok (.iconst 0, 1) := by decide +kernel
theorem dX10_runsThrough_31 : decode cX10_runsThrough 31 = .ok (.istore 7, 2) := by decide +kernel
theorem dX10_runsThrough_33 : decode cX10_runsThrough 33 = .ok (.iload 7, 2) := by decide +kernel
theorem dX10_runsThrough_35 : decode cX10_runsThrough 35 = .ok (.aload_n 0, 1) := by decide +kernel
theorem dX10_runsThrough_36 : decode cX10_runsThrough 36 = .ok (.getfield 38, 3) := by decide +kernel
theorem dX10_runsThrough_39 : decode cX10_runsThrough 39 = .ok (.getfield 46, 3) := by decide +kernel
theorem dX10_runsThrough_42 : decode cX10_runsThrough 42 = .ok (.iload_n 2, 1) := by decide +kernel
theorem dX10_runsThrough_43 : decode cX10_runsThrough 43 = .ok (.iaload, 1) := by decide +kernel
theorem dX10_runsThrough_44 : decode cX10_runsThrough 44 = .ok (.if_icmp .ge 47, 3) := by decide +kernel
theorem dX10_runsThrough_47 : decode cX10_runsThrough 47 = .ok (.iload 4, 2) := by decide +kernel
theorem dX10_runsThrough_49 : decode cX10_runsThrough 49 = .ok (.iload 7, 2) := by decide +kernel
theorem dX10_runsThrough_51 : decode cX10_runsThrough 51 = .ok (.invokestatic 9, 3) := by decide +kernel
theorem dX10_runsThrough_54 : decode cX10_runsThrough 54 = .ok (.ifCond .eq 31, 3) := by decide +kernel
theorem dX10_runsThrough_57 : decode cX10_runsThrough 57 = .ok (.aload_n 0, 1) := by decide +kernel
theorem dX10_runsThrough_58 : decode cX10_runsThrough 58 = .ok (.getfield 59, 3) := by decide +kernel
theorem dX10_runsThrough_61 : decode cX10_runsThrough 61 = .ok (.iload_n 3, 1) := by decide +kernel
theorem dX10_runsThrough_62 : decode cX10_runsThrough 62 = .ok (.iload 5, 2) := by decide +kernel
theorem dX10_runsThrough_64 : decode cX10_runsThrough 64 = .ok (.aload_n 0, 1) := by decide +kernel
theorem dX10_runsThrough_65 : decode cX10_runsThrough 65 = .ok (.getfield 38, 3) := by decide +kernel
theorem dX10_runsThrough_68 : decode cX10_runsThrough 68 = .ok (.getfield 68, 3) := by decide +kernel
theorem dX10_runsThrough_71 : decode cX10_runsThrough 71 = .ok (.iload_n 2, 1) := by decide +kernel
theorem dX10_runsThrough_72 : decode cX10_runsThrough 72 = .ok (.aaload, 1) := by decide +kernel
theorem dX10_runsThrough_73 : decode cX10_runsThrough 73 = .ok (.iload 7, 2) := by decide +kernel
theorem dX10_runsThrough_75 : decode cX10_runsThrough 75 = .ok (.iaload, 1) := by decide +kernel
theorem dX10_runsThrough_76 : decode cX10_runsThrough 76 = .ok (.invokevirtual 110, 3) := by decide +kernel
theorem dX10_runsThrough_79 : decode cX10_runsThrough 79 = .ok (.ifCond .eq 6, 3) := by decide +kernel
theorem dX10_runsThrough_82 : decode cX10_runsThrough 82 = .ok (.iinc 6 1, 3) := by decide +kernel
theorem dX10_runsThrough_85 : decode cX10_runsThrough 85 = .ok (.iinc 7 1, 3) := by decide +kernel
theorem dX10_runsThrough_88 : decode cX10_runsThrough 88 = .ok (.goto (-55), 3) := by decide +kernel
theorem dX10_runsThrough_91 : decode cX10_runsThrough 91 = .ok (.iload 6, 2) := by decide +kernel
theorem dX10_runsThrough_93 : decode cX10_runsThrough 93 = .ok (.ireturn, 1) := by decide +kernel
theorem dX10_countThrough_0 : decode cX10_countThrough 0 = .ok (.iconst 0, 1) := by decide +kernel
theorem dX10_countThrough_1 : decode cX10_countThrough 1 = .ok (.istore_n 3, 1) := by decide +kernel
theorem dX10_countThrough_2 : decode cX10_countThrough 2 = .ok (.iconst 0, 1) := by decide +kernel
theorem dX10_countThrough_3 : decode cX10_countThrough 3 = .ok (.istore 4, 2) := by decide +kernel
theorem dX10_countThrough_5 : decode cX10_countThrough 5 = .ok (.iload 4, 2) := by decide +kernel
theorem dX10_countThrough_7 : decode cX10_countThrough 7 = .ok (.aload_n 0, 1) := by decide +kernel
theorem dX10_countThrough_8 : decode cX10_countThrough 8 = .ok (.getfield 38, 3) := by decide +kernel
theorem dX10_countThrough_11 : decode cX10_countThrough 11 = .ok (.getfield 100, 3) := by decide +kernel
theorem dX10_countThrough_14 : decode cX10_countThrough 14 = .ok (.if_icmp .ge 20, 3) := by decide +kernel
theorem dX10_countThrough_17 : decode cX10_countThrough 17 = .ok (.iload_n 3, 1) := by decide +kernel
theorem dX10_countThrough_18 : decode cX10_countThrough 18 = .ok (.aload_n 0, 1) := by decide +kernel
theorem dX10_countThrough_19 : decode cX10_countThrough 19 = .ok (.iload_n 1, 1) := by decide +kernel
theorem dX10_countThrough_20 : decode cX10_countThrough 20 = .ok (.iload 4, 2) := by decide +kernel
theorem dX10_countThrough_22 : decode cX10_countThrough 22 = .ok (.iload_n 2, 1) := by decide +kernel
theorem dX10_countThrough_23 : decode cX10_countThrough 23 = .ok (.invokestatic 113, 3) := by decide +kernel
theorem dX10_countThrough_26 : decode cX10_countThrough 26 = .ok (.iadd, 1) := by decide +kernel
theorem dX10_countThrough_27 : decode cX10_countThrough 27 = .ok (.istore_n 3, 1) := by decide +kernel
theorem dX10_countThrough_28 : decode cX10_countThrough 28 = .ok (.iinc 4 1, 3) := by decide +kernel
theorem dX10_countThrough_31 : decode cX10_countThrough 31 = .ok (.goto (-26), 3) := by decide +kernel
theorem dX10_countThrough_34 : decode cX10_countThrough 34 = .ok (.iload_n 3, 1) := by decide +kernel
theorem dX10_countThrough_35 : decode cX10_countThrough 35 = .ok (.ireturn, 1) := by decide +kernel
theorem dX10_bodyThrough_0 : decode cX10_bodyThrough 0 = .ok (.iconst 0, 1) := by decide +kernel
theorem dX10_bodyThrough_1 : decode cX10_bodyThrough 1 = .ok (.istore_n 3, 1) := by decide +kernel
theorem dX10_bodyThrough_2 : decode cX10_bodyThrough 2 = .ok (.iconst 0, 1) := by decide +kernel
theorem dX10_bodyThrough_3 : decode cX10_bodyThrough 3 = .ok (.istore 4, 2) := by decide +kernel
theorem dX10_bodyThrough_5 : decode cX10_bodyThrough 5 = .ok (.iload 4, 2) := by decide +kernel
theorem dX10_bodyThrough_7 : decode cX10_bodyThrough 7 = .ok (.aload_n 0, 1) := by decide +kernel
theorem dX10_bodyThrough_8 : decode cX10_bodyThrough 8 = .ok (.getfield 38, 3) := by decide +kernel
theorem dX10_bodyThrough_11 : decode cX10_bodyThrough 11 = .ok (.getfield 100, 3) := by decide +kernel
theorem dX10_bodyThrough_14 : decode cX10_bodyThrough 14 = .ok (.if_icmp .ge 38, 3) := by decide +kernel
theorem dX10_bodyThrough_17 : decode cX10_bodyThrough 17 = .ok (.aload_n 0, 1) := by decide +kernel
theorem dX10_bodyThrough_18 : decode cX10_bodyThrough 18 = .ok (.getfield 38, 3) := by decide +kernel
theorem dX10_bodyThrough_21 : decode cX10_bodyThrough 21 = .ok (.getfield 101, 3) := by decide +kernel
theorem dX10_bodyThrough_24 : decode cX10_bodyThrough 24 = .ok (.iload 4, 2) := by decide +kernel
theorem dX10_bodyThrough_26 : decode cX10_bodyThrough 26 = .ok (.iaload, 1) := by decide +kernel
theorem dX10_bodyThrough_27 : decode cX10_bodyThrough 27 = .ok (.istore 5, 2) := by decide +kernel
theorem dX10_bodyThrough_29 : decode cX10_bodyThrough 29 = .ok (.iload_n 3, 1) := by decide +kernel
theorem dX10_bodyThrough_30 : decode cX10_bodyThrough 30 = .ok (.aload_n 0, 1) := by decide +kernel
theorem dX10_bodyThrough_31 : decode cX10_bodyThrough 31 = .ok (.iload_n 1, 1) := by decide +kernel
theorem dX10_bodyThrough_32 : decode cX10_bodyThrough 32 = .ok (.iload 4, 2) := by decide +kernel
theorem dX10_bodyThrough_34 : decode cX10_bodyThrough 34 = .ok (.iload_n 2, 1) := by decide +kernel
theorem dX10_bodyThrough_35 : decode cX10_bodyThrough 35 = .ok (.invokestatic 113, 3) := by decide +kernel
theorem dX10_bodyThrough_38 : decode cX10_bodyThrough 38 = .ok (.iload 5, 2) := by decide +kernel
theorem dX10_bodyThrough_40 : decode cX10_bodyThrough 40 = .ok (.imul, 1) := by decide +kernel
theorem dX10_bodyThrough_41 : decode cX10_bodyThrough 41 = .ok (.iload 5, 2) := by decide +kernel
theorem dX10_bodyThrough_43 : decode cX10_bodyThrough 43 = .ok (.imul, 1) := by decide +kernel
theorem dX10_bodyThrough_44 : decode cX10_bodyThrough 44 = .ok (.iadd, 1) := by decide +kernel
theorem dX10_bodyThrough_45 : decode cX10_bodyThrough 45 = .ok (.istore_n 3, 1) := by decide +kernel
theorem dX10_bodyThrough_46 : decode cX10_bodyThrough 46 = .ok (.iinc 4 1, 3) := by decide +kernel
theorem dX10_bodyThrough_49 : decode cX10_bodyThrough 49 = .ok (.goto (-44), 3) := by decide +kernel
theorem dX10_bodyThrough_52 : decode cX10_bodyThrough 52 = .ok (.iload_n 3, 1) := by decide +kernel
theorem dX10_bodyThrough_53 : decode cX10_bodyThrough 53 = .ok (.ireturn, 1) := by decide +kernel
theorem dX10_netsThrough_0 : decode cX10_netsThrough 0 = .ok (.iconst 0, 1) := by decide +kernel
theorem dX10_netsThrough_1 : decode cX10_netsThrough 1 = .ok (.istore_n 3, 1) := by decide +kernel
theorem dX10_netsThrough_2 : decode cX10_netsThrough 2 = .ok (.iconst 0, 1) := by decide +kernel
theorem dX10_netsThrough_3 : decode cX10_netsThrough 3 = .ok (.istore 4, 2) := by decide +kernel
theorem dX10_netsThrough_5 : decode cX10_netsThrough 5 = .ok (.iload 4, 2) := by decide +kernel
theorem dX10_netsThrough_7 : decode cX10_netsThrough 7 = .ok (.aload_n 0, 1) := by decide +kernel
theorem dX10_netsThrough_8 : decode cX10_netsThrough 8 = .ok (.getfield 38, 3) := by decide +kernel
theorem dX10_netsThrough_11 : decode cX10_netsThrough 11 = .ok (.getfield 100, 3) := by decide +kernel
theorem dX10_netsThrough_14 : decode cX10_netsThrough 14 = .ok (.if_icmp .ge 27, 3) := by decide +kernel
theorem dX10_netsThrough_17 : decode cX10_netsThrough 17 = .ok (.aload_n 0, 1) := by decide +kernel
theorem dX10_netsThrough_18 : decode cX10_netsThrough 18 = .ok (.iload_n 1, 1) := by decide +kernel
theorem dX10_netsThrough_19 : decode cX10_netsThrough 19 = .ok (.iload 4, 2) := by decide +kernel
theorem dX10_netsThrough_21 : decode cX10_netsThrough 21 = .ok (.iload_n 2, 1) := by decide +kernel
theorem dX10_netsThrough_22 : decode cX10_netsThrough 22 = .ok (.invokestatic 113, 3) := by decide +kernel
theorem dX10_netsThrough_25 : decode cX10_netsThrough 25 = .ok (.ifCond .le 10, 3) := by decide +kernel
theorem dX10_netsThrough_28 : decode cX10_netsThrough 28 = .ok (.iload_n 3, 1) := by decide +kernel
theorem dX10_netsThrough_29 : decode cX10_netsThrough 29 = .ok (.iconst 1, 1) := by decide +kernel
theorem dX10_netsThrough_30 : decode cX10_netsThrough 30 = .ok (.iload 4, 2) := by decide +kernel
theorem dX10_netsThrough_32 : decode cX10_netsThrough 32 = .ok (.ishl, 1) := by decide +kernel
theorem dX10_netsThrough_33 : decode cX10_netsThrough 33 = .ok (.ior, 1) := by decide +kernel
theorem dX10_netsThrough_34 : decode cX10_netsThrough 34 = .ok (.istore_n 3, 1) := by decide +kernel
theorem dX10_netsThrough_35 : decode cX10_netsThrough 35 = .ok (.iinc 4 1, 3) := by decide +kernel
theorem dX10_netsThrough_38 : decode cX10_netsThrough 38 = .ok (.goto (-33), 3) := by decide +kernel
theorem dX10_netsThrough_41 : decode cX10_netsThrough 41 = .ok (.iload_n 3, 1) := by decide +kernel
theorem dX10_netsThrough_42 : decode cX10_netsThrough 42 = .ok (.ireturn, 1) := by decide +kernel
theorem dX10_roundOf_0 : decode cX10_roundOf 0 = .ok (.iconst 0, 1) := by decide +kernel
theorem dX10_roundOf_1 : decode cX10_roundOf 1 = .ok (.istore_n 1, 1) := by decide +kernel
theorem dX10_roundOf_2 : decode cX10_roundOf 2 = .ok (.iload_n 1, 1) := by decide +kernel
theorem dX10_roundOf_3 : decode cX10_roundOf 3 = .ok (.iload_n 0, 1) := by decide +kernel
theorem dX10_roundOf_4 : decode cX10_roundOf 4 = .ok (.if_icmp .gt 22, 3) := by decide +kernel
theorem dX10_roundOf_7 : decode cX10_roundOf 7 = .ok (.iload_n 1, 1) := by decide +kernel
theorem dX10_roundOf_8 : decode cX10_roundOf 8 = .ok (.iload_n 1, 1) := by decide +kernel
theorem dX10_roundOf_9 : decode cX10_roundOf 9 = .ok (.imul, 1) := by decide +kernel
theorem dX10_roundOf_10 : decode cX10_roundOf 10 = .ok (.bipush 10, 2) := by decide +kernel
theorem dX10_roundOf_12 : decode cX10_roundOf 12 = .ok (.imul, 1) := by decide +kernel
theorem dX10_roundOf_13 : decode cX10_roundOf 13 = .ok (.bipush 12, 2) := by decide +kernel
theorem dX10_roundOf_15 : decode cX10_roundOf 15 = .ok (.iload_n 0, 1) := by decide +kernel
theorem dX10_roundOf_16 : decode cX10_roundOf 16 = .ok (.imul, 1) := by decide +kernel
theorem dX10_roundOf_17 : decode cX10_roundOf 17 = .ok (.if_icmp .ge 9, 3) := by decide +kernel
theorem dX10_roundOf_20 : decode cX10_roundOf 20 = .ok (.iinc 1 1, 3) := by decide +kernel
theorem dX10_roundOf_23 : decode cX10_roundOf 23 = .ok (.goto (-21), 3) := by decide +kernel
theorem dX10_roundOf_26 : decode cX10_roundOf 26 = .ok (.iload_n 1, 1) := by decide +kernel
theorem dX10_roundOf_27 : decode cX10_roundOf 27 = .ok (.ireturn, 1) := by decide +kernel
theorem dX10_thickestOf_0 : decode cX10_thickestOf 0 = .ok (.bipush (-2), 2) := by decide +kernel
theorem dX10_thickestOf_2 : decode cX10_thickestOf 2 = .ok (.istore_n 2, 1) := by decide +kernel
theorem dX10_thickestOf_3 : decode cX10_thickestOf 3 = .ok (.iconst (-1), 1) := by decide +kernel
theorem dX10_thickestOf_4 : decode cX10_thickestOf 4 = .ok (.istore_n 3, 1) := by decide +kernel
theorem dX10_thickestOf_5 : decode cX10_thickestOf 5 = .ok (.iconst 1, 1) := by decide +kernel
theorem dX10_thickestOf_6 : decode cX10_thickestOf 6 = .ok (.istore 4, 2) := by decide +kernel
theorem dX10_thickestOf_8 : decode cX10_thickestOf 8 = .ok (.iload 4, 2) := by decide +kernel
theorem dX10_thickestOf_10 : decode cX10_thickestOf 10 = .ok (.aload_n 0, 1) := by decide +kernel
theorem dX10_thickestOf_11 : decode cX10_thickestOf 11 = .ok (.getfield 59, 3) := by decide +kernel
theorem dX10_thickestOf_14 : decode cX10_thickestOf 14 = .ok (.getfield 83, 3) := by decide +kernel
theorem dX10_thickestOf_17 : decode cX10_thickestOf 17 = .ok (.if_icmp .ge 30, 3) := by decide +kernel
theorem dX10_thickestOf_20 : decode cX10_thickestOf 20 = .ok (.aload_n 0, 1) := by decide +kernel
theorem dX10_thickestOf_21 : decode cX10_thickestOf 21 = .ok (.iload_n 1, 1) := by decide +kernel
theorem dX10_thickestOf_22 : decode cX10_thickestOf 22 = .ok (.iload 4, 2) := by decide +kernel
theorem dX10_thickestOf_24 : decode cX10_thickestOf 24 = .ok (.invokestatic 116, 3) := by decide +kernel
theorem dX10_thickestOf_27 : decode cX10_thickestOf 27 = .ok (.istore 5, 2) := by decide +kernel
theorem dX10_thickestOf_29 : decode cX10_thickestOf 29 = .ok (.iload 5, 2) := by decide +kernel
theorem dX10_thickestOf_31 : decode cX10_thickestOf 31 = .ok (.iload_n 3, 1) := by decide +kernel
theorem dX10_thickestOf_32 : decode cX10_thickestOf 32 = .ok (.if_icmp .le 9, 3) := by decide +kernel
theorem dX10_thickestOf_35 : decode cX10_thickestOf 35 = .ok (.iload 5, 2) := by decide +kernel
theorem dX10_thickestOf_37 : decode cX10_thickestOf 37 = .ok (.istore_n 3, 1) := by decide +kernel
theorem dX10_thickestOf_38 : decode cX10_thickestOf 38 = .ok (.iload 4, 2) := by decide +kernel
theorem dX10_thickestOf_40 : decode cX10_thickestOf 40 = .ok (.istore_n 2, 1) := by decide +kernel
theorem dX10_thickestOf_41 : decode cX10_thickestOf 41 = .ok (.iinc 4 1, 3) := by decide +kernel
theorem dX10_thickestOf_44 : decode cX10_thickestOf 44 = .ok (.goto (-36), 3) := by decide +kernel
theorem dX10_thickestOf_47 : decode cX10_thickestOf 47 = .ok (.iload_n 2, 1) := by decide +kernel
theorem dX10_thickestOf_48 : decode cX10_thickestOf 48 = .ok (.ireturn, 1) := by decide +kernel
theorem dX11_init_0 : decode cX11_init 0 = .ok (.aload_n 0, 1) := by decide +kernel
theorem dX11_init_1 : decode cX11_init 1 = .ok (.invokespecial 3, 3) := by decide +kernel
theorem dX11_init_4 : decode cX11_init 4 = .ok (.aload_n 0, 1) := by decide +kernel
theorem dX11_init_5 : decode cX11_init 5 = .ok (.sipush 1000, 3) := by decide +kernel
theorem dX11_init_8 : decode cX11_init 8 = .ok (.newarray .byte, 2) := by decide +kernel
theorem dX11_init_10 : decode cX11_init 10 = .ok (.putfield 9, 3) := by decide +kernel
theorem dX11_init_13 : decode cX11_init 13 = .ok (.aload_n 0, 1) := by decide +kernel
theorem dX11_init_14 : decode cX11_init 14 = .ok (.new 13, 3) := by decide +kernel
theorem dX11_init_17 : decode cX11_init 17 = .ok (.dup, 1) := by decide +kernel
theorem dX11_init_18 : decode cX11_init 18 = .ok (.invokespecial 15, 3) := by decide +kernel
theorem dX11_init_21 : decode cX11_init 21 = .ok (.putfield 16, 3) := by decide +kernel
theorem dX11_init_24 : decode cX11_init 24 = .ok (.aload_n 0, 1) := by decide +kernel
theorem dX11_init_25 : decode cX11_init 25 = .ok (.new 13, 3) := by decide +kernel
theorem dX11_init_28 : decode cX11_init 28 = .ok (.dup, 1) := by decide +kernel
theorem dX11_init_29 : decode cX11_init 29 = .ok (.invokespecial 15, 3) := by decide +kernel
theorem dX11_init_32 : decode cX11_init 32 = .ok (.putfield 20, 3) := by decide +kernel
theorem dX11_init_35 : decode cX11_init 35 = .ok (.aload_n 0, 1) := by decide +kernel
theorem dX11_init_36 : decode cX11_init 36 = .ok (.new 23, 3) := by decide +kernel
theorem dX11_init_39 : decode cX11_init 39 = .ok (.dup, 1) := by decide +kernel
theorem dX11_init_40 : decode cX11_init 40 = .ok (.invokespecial 25, 3) := by decide +kernel
theorem dX11_init_43 : decode cX11_init 43 = .ok (.putfield 26, 3) := by decide +kernel
theorem dX11_init_46 : decode cX11_init 46 = .ok (.aload_n 0, 1) := by decide +kernel
theorem dX11_init_47 : decode cX11_init 47 = .ok (.new 30, 3) := by decide +kernel
theorem dX11_init_50 : decode cX11_init 50 = .ok (.dup, 1) := by decide +kernel
theorem dX11_init_51 : decode cX11_init 51 = .ok (.invokespecial 32, 3) := by decide +kernel
theorem dX11_init_54 : decode cX11_init 54 = .ok (.putfield 33, 3) := by decide +kernel
theorem dX11_init_57 : decode cX11_init 57 = .ok (.aload_n 0, 1) := by decide +kernel
theorem dX11_init_58 : decode cX11_init 58 = .ok (.new 37, 3) := by decide +kernel
theorem dX11_init_61 : decode cX11_init 61 = .ok (.dup, 1) := by decide +kernel
theorem dX11_init_62 : decode cX11_init 62 = .ok (.invokespecial 39, 3) := by decide +kernel
theorem dX11_init_65 : decode cX11_init 65 = .ok (.putfield 40, 3) := by decide +kernel
theorem dX11_init_68 : decode cX11_init 68 = .ok (.aload_n 0, 1) := by decide +kernel
theorem dX11_init_69 : decode cX11_init 69 = .ok (.new 44, 3) := by decide +kernel
theorem dX11_init_72 : decode cX11_init 72 = .ok (.dup, 1) := by decide +kernel
theorem dX11_init_73 : decode cX11_init 73 = .ok (.invokespecial 46, 3) := by decide +kernel
theorem dX11_init_76 : decode cX11_init 76 = .ok (.putfield 47, 3) := by decide +kernel
theorem dX11_init_79 : decode cX11_init 79 = .ok (.return_, 1) := by decide +kernel
theorem dX11_feed_0 : decode cX11_feed 0 = .ok (.aload_n 0, 1) := by decide +kernel
theorem dX11_feed_1 : decode cX11_feed 1 = .ok (.getfield 51, 3) := by decide +kernel
theorem dX11_feed_4 : decode cX11_feed 4 = .ok (.sipush 980, 3) := by decide +kernel
theorem dX11_feed_7 : decode cX11_feed 7 = .ok (.if_icmp .le 5, 3) := by decide +kernel
theorem dX11_feed_10 : decode cX11_feed 10 = .ok (.iconst (-1), 1) := by decide +kernel
theorem dX11_feed_11 : decode cX11_feed 11 = .ok (.ireturn, 1) := by decide +kernel
theorem dX11_feed_12 : decode cX11_feed 12 = .ok (.aload_n 0, 1) := by decide +kernel
theorem dX11_feed_13 : decode cX11_feed 13 = .ok (.iload_n 1, 1) := by decide +kernel
theorem dX11_feed_14 : decode cX11_feed 14 = .ok (.invokevirtual 55, 3) := by decide +kernel
theorem dX11_feed_17 : decode cX11_feed 17 = .ok (.aload_n 0, 1) := by decide +kernel
theorem dX11_feed_18 : decode cX11_feed 18 = .ok (.iload_n 2, 1) := by decide +kernel
theorem dX11_feed_19 : decode cX11_feed 19 = .ok (.invokevirtual 55, 3) := by decide +kernel
theorem dX11_feed_22 : decode cX11_feed 22 = .ok (.aload_n 0, 1) := by decide +kernel
theorem dX11_feed_23 : decode cX11_feed 23 = .ok (.iload_n 3, 1) := by decide +kernel
theorem dX11_feed_24 : decode cX11_feed 24 = .ok (.invokevirtual 55, 3) := by decide +kernel
theorem dX11_feed_27 : decode cX11_feed 27 = .ok (.aload_n 0, 1) := by decide +kernel
theorem dX11_feed_28 : decode cX11_feed 28 = .ok (.iload 4, 2) := by decide +kernel
theorem dX11_feed_30 : decode cX11_feed 30 = .ok (.invokevirtual 55, 3) := by decide +kernel
theorem dX11_feed_33 : decode cX11_feed 33 = .ok (.aload_n 0, 1) := by decide +kernel
theorem dX11_feed_34 : decode cX11_feed 34 = .ok (.iload 5, 2) := by decide +kernel
theorem dX11_feed_36 : decode cX11_feed 36 = .ok (.invokevirtual 55, 3) := by decide +kernel
theorem dX11_feed_39 : decode cX11_feed 39 = .ok (.aload_n 0, 1) := by decide +kernel
theorem dX11_feed_40 : decode cX11_feed 40 = .ok (.getfield 51, 3) := by decide +kernel
theorem dX11_feed_43 : decode cX11_feed 43 = .ok (.ireturn, 1) := by decide +kernel
theorem dX11_harness_0 : decode cX11_harness 0 = .ok (.iload_n 1, 1) := by decide +kernel
theorem dX11_harness_1 : decode cX11_harness 1 = .ok (.ifCond .lt 11, 3) := by decide +kernel
theorem dX11_harness_4 : decode cX11_harness 4 = .ok (.iload_n 1, 1) := by decide +kernel
theorem dX11_harness_5 : decode cX11_harness 5 = .ok (.aload_n 0, 1) := by decide +kernel
theorem dX11_harness_6 : decode cX11_harness 6 = .ok (.getfield 51, 3) := by decide +kernel
theorem dX11_harness_9 : decode cX11_harness 9 = .ok (.if_icmp .le 9, 3) := by decide +kernel
theorem dX11_harness_12 : decode cX11_harness 12 = .ok (.aload_n 0, 1) := by decide +kernel
theorem dX11_harness_13 : decode cX11_harness 13 = .ok (.iconst 2, 1) := by decide +kernel
theorem dX11_harness_14 : decode cX11_harness 14 = .ok (.invokevirtual 59, 3) := by decide +kernel
theorem dX11_harness_17 : decode cX11_harness 17 = .ok (.ireturn, 1) := by decide +kernel
theorem dX11_harness_18 : decode cX11_harness 18 = .ok (.aload_n 0, 1) := by decide +kernel
theorem dX11_harness_19 : decode cX11_harness 19 = .ok (.iconst 0, 1) := by decide +kernel
theorem dX11_harness_20 : decode cX11_harness 20 = .ok (.putfield 51, 3) := by decide +kernel
theorem dX11_harness_23 : decode cX11_harness 23 = .ok (.aload_n 0, 1) := by decide +kernel
theorem dX11_harness_24 : decode cX11_harness 24 = .ok (.getfield 20, 3) := by decide +kernel
theorem dX11_harness_27 : decode cX11_harness 27 = .ok (.invokevirtual 63, 3) := by decide +kernel
theorem dX11_harness_30 : decode cX11_harness 30 = .ok (.aload_n 0, 1) := by decide +kernel
theorem dX11_harness_31 : decode cX11_harness 31 = .ok (.getfield 26, 3) := by decide +kernel
theorem dX11_harness_34 : decode cX11_harness 34 = .ok (.aload_n 0, 1) := by decide +kernel
theorem dX11_harness_35 : decode cX11_harness 35 = .ok (.getfield 9, 3) := by decide +kernel
theorem dX11_harness_38 : decode cX11_harness 38 = .ok (.iload_n 1, 1) := by decide +kernel
theorem dX11_harness_39 : decode cX11_harness 39 = .ok (.invokevirtual 66, 3) := by decide +kernel
theorem dX11_harness_42 : decode cX11_harness 42 = .ok (.new 70, 3) := by decide +kernel
theorem dX11_harness_45 : decode cX11_harness 45 = .ok (.dup, 1) := by decide +kernel
theorem dX11_harness_46 : decode cX11_harness 46 = .ok (.aload_n 0, 1) := by decide +kernel
theorem dX11_harness_47 : decode cX11_harness 47 = .ok (.getfield 26, 3) := by decide +kernel
theorem dX11_harness_50 : decode cX11_harness 50 = .ok (.aload_n 0, 1) := by decide +kernel
theorem dX11_harness_51 : decode cX11_harness 51 = .ok (.getfield 20, 3) := by decide +kernel
theorem dX11_harness_54 : decode cX11_harness 54 = .ok (.invokespecial 72, 3) := by decide +kernel
theorem dX11_harness_57 : decode cX11_harness 57 = .ok (.astore_n 2, 1) := by decide +kernel
theorem dX11_harness_58 : decode cX11_harness 58 = .ok (.aload_n 2, 1) := by decide +kernel
theorem dX11_harness_59 : decode cX11_harness 59 = .ok (.invokevirtual 75, 3) := by decide +kernel
theorem dX11_harness_62 : decode cX11_harness 62 = .ok (.istore_n 3, 1) := by decide +kernel
theorem dX11_harness_63 : decode cX11_harness 63 = .ok (.aload_n 0, 1) := by decide +kernel
theorem dX11_harness_64 : decode cX11_harness 64 = .ok (.iload_n 3, 1) := by decide +kernel
theorem dX11_harness_65 : decode cX11_harness 65 = .ok (.ifCond .eq 7, 3) := by decide +kernel
theorem dX11_harness_68 : decode cX11_harness 68 = .ok (.iconst 0, 1) := by decide +kernel
theorem dX11_harness_69 : decode cX11_harness 69 = .ok (.goto 7, 3) := by decide +kernel
theorem dX11_harness_72 : decode cX11_harness 72 = .ok (.aload_n 2, 1) := by decide +kernel
theorem dX11_harness_73 : decode cX11_harness 73 = .ok (.getfield 79, 3) := by decide +kernel
theorem dX11_harness_76 : decode cX11_harness 76 = .ok (.putfield 82, 3) := by decide +kernel
theorem dX11_harness_79 : decode cX11_harness 79 = .ok (.aload_n 0, 1) := by decide +kernel
theorem dX11_harness_80 : decode cX11_harness 80 = .ok (.iload_n 3, 1) := by decide +kernel
theorem dX11_harness_81 : decode cX11_harness 81 = .ok (.ifCond .eq 7, 3) := by decide +kernel
theorem dX11_harness_84 : decode cX11_harness 84 = .ok (.iconst (-1), 1) := by decide +kernel
theorem dX11_harness_85 : decode cX11_harness 85 = .ok (.goto 7, 3) := by decide +kernel
theorem dX11_harness_88 : decode cX11_harness 88 = .ok (.aload_n 2, 1) := by decide +kernel
theorem dX11_harness_89 : decode cX11_harness 89 = .ok (.invokevirtual 85, 3) := by decide +kernel
theorem dX11_harness_92 : decode cX11_harness 92 = .ok (.putfield 89, 3) := by decide +kernel
theorem dX11_harness_95 : decode cX11_harness 95 = .ok (.iload_n 3, 1) := by decide +kernel
theorem dX11_harness_96 : decode cX11_harness 96 = .ok (.ifCond .ne 9, 3) := by decide +kernel
theorem dX11_harness_99 : decode cX11_harness 99 = .ok (.aload_n 0, 1) := by decide +kernel
theorem dX11_harness_100 : decode cX11_harness 100 = .ok (.iconst 4, 1) := by decide +kernel
theorem dX11_harness_101 : decode cX11_harness 101 = .ok (.invokevirtual 59, 3) := by decide +kernel
theorem dX11_harness_104 : decode cX11_harness 104 = .ok (.ireturn, 1) := by decide +kernel
theorem dX11_harness_105 : decode cX11_harness 105 = .ok (.aload_n 0, 1) := by decide +kernel
theorem dX11_harness_106 : decode cX11_harness 106 = .ok (.invokevirtual 92, 3) := by decide +kernel
theorem dX11_harness_109 : decode cX11_harness 109 = .ok (.aload_n 0, 1) := by decide +kernel
theorem dX11_harness_110 : decode cX11_harness 110 = .ok (.aload_n 0, 1) := by decide +kernel
theorem dX11_harness_111 : decode cX11_harness 111 = .ok (.getfield 16, 3) := by decide +kernel
theorem dX11_harness_114 : decode cX11_harness 114 = .ok (.getfield 95, 3) := by decide +kernel
theorem dX11_harness_117 : decode cX11_harness 117 = .ok (.getfield 99, 3) := by decide +kernel
theorem dX11_harness_120 : decode cX11_harness 120 = .ok (.invokevirtual 104, 3) := by decide +kernel
theorem dX11_harness_123 : decode cX11_harness 123 = .ok (.ireturn, 1) := by decide +kernel
theorem dX11_fault_0 : decode cX11_fault 0 = .ok (.aload_n 0, 1) := by decide +kernel
theorem dX11_fault_1 : decode cX11_fault 1 = .ok (.getfield 82, 3) := by decide +kernel
theorem dX11_fault_4 : decode cX11_fault 4 = .ok (.ireturn, 1) := by decide +kernel
theorem dX11_where_0 : decode cX11_where 0 = .ok (.aload_n 0, 1) := by decide +kernel
theorem dX11_where_1 : decode cX11_where 1 = .ok (.getfield 107, 3) := by decide +kernel
theorem dX11_where_4 : decode cX11_where 4 = .ok (.iconst 4, 1) := by decide +kernel
theorem dX11_where_5 : decode cX11_where 5 = .ok (.if_icmp .ne 10, 3) := by decide +kernel
theorem dX11_where_8 : decode cX11_where 8 = .ok (.aload_n 0, 1) := by decide +kernel
theorem dX11_where_9 : decode cX11_where 9 = .ok (.getfield 89, 3) := by decide +kernel
theorem dX11_where_12 : decode cX11_where 12 = .ok (.goto 4, 3) := by decide +kernel
theorem dX11_where_15 : decode cX11_where 15 = .ok (.iconst (-1), 1) := by decide +kernel
theorem dX11_where_16 : decode cX11_where 16 = .ok (.ireturn, 1) := by decide +kernel
theorem dX11_about_0 : decode cX11_about 0 = .ok (.aload_n 0, 1) := by decide +kernel
theorem dX11_about_1 : decode cX11_about 1 = .ok (.getfield 110, 3) := by decide +kernel
theorem dX11_about_4 : decode cX11_about 4 = .ok (.ifCond .ne 9, 3) := by decide +kernel
theorem dX11_about_7 : decode cX11_about 7 = .ok (.aload_n 0, 1) := by decide +kernel
theorem dX11_about_8 : decode cX11_about 8 = .ok (.iconst 1, 1) := by decide +kernel
theorem dX11_about_9 : decode cX11_about 9 = .ok (.invokevirtual 59, 3) := by decide +kernel
theorem dX11_about_12 : decode cX11_about 12 = .ok (.ireturn, 1) := by decide +kernel
theorem dX11_about_13 : decode cX11_about 13 = .ok (.iload_n 1, 1) := by decide +kernel
theorem dX11_about_14 : decode cX11_about 14 = .ok (.tableswitch 138 0 6 #[42, 54, 66, 81, 93, 108, 123], 42) := by decide +kernel
theorem dX11_about_56 : decode cX11_about 56 = .ok (.aload_n 0, 1) := by decide +kernel
theorem dX11_about_57 : decode cX11_about 57 = .ok (.aload_n 0, 1) := by decide +kernel
theorem dX11_about_58 : decode cX11_about 58 = .ok (.getfield 16, 3) := by decide +kernel
theorem dX11_about_61 : decode cX11_about 61 = .ok (.getfield 114, 3) := by decide +kernel
theorem dX11_about_64 : decode cX11_about 64 = .ok (.invokevirtual 104, 3) := by decide +kernel
theorem dX11_about_67 : decode cX11_about 67 = .ok (.ireturn, 1) := by decide +kernel
theorem dX11_about_68 : decode cX11_about 68 = .ok (.aload_n 0, 1) := by decide +kernel
theorem dX11_about_69 : decode cX11_about 69 = .ok (.aload_n 0, 1) := by decide +kernel
theorem dX11_about_70 : decode cX11_about 70 = .ok (.getfield 16, 3) := by decide +kernel
theorem dX11_about_73 : decode cX11_about 73 = .ok (.getfield 117, 3) := by decide +kernel
theorem dX11_about_76 : decode cX11_about 76 = .ok (.invokevirtual 104, 3) := by decide +kernel
theorem dX11_about_79 : decode cX11_about 79 = .ok (.ireturn, 1) := by decide +kernel
theorem dX11_about_80 : decode cX11_about 80 = .ok (.aload_n 0, 1) := by decide +kernel
theorem dX11_about_81 : decode cX11_about 81 = .ok (.aload_n 0, 1) := by decide +kernel
theorem dX11_about_82 : decode cX11_about 82 = .ok (.getfield 16, 3) := by decide +kernel
theorem dX11_about_85 : decode cX11_about 85 = .ok (.getfield 120, 3) := by decide +kernel
theorem dX11_about_88 : decode cX11_about 88 = .ok (.getfield 124, 3) := by decide +kernel
theorem dX11_about_91 : decode cX11_about 91 = .ok (.invokevirtual 104, 3) := by decide +kernel
theorem dX11_about_94 : decode cX11_about 94 = .ok (.ireturn, 1) := by decide +kernel
theorem dX11_about_95 : decode cX11_about 95 = .ok (.aload_n 0, 1) := by decide +kernel
theorem dX11_about_96 : decode cX11_about 96 = .ok (.aload_n 0, 1) := by decide +kernel
theorem dX11_about_97 : decode cX11_about 97 = .ok (.getfield 16, 3) := by decide +kernel
theorem dX11_about_100 : decode cX11_about 100 = .ok (.getfield 127, 3) := by decide +kernel
theorem dX11_about_103 : decode cX11_about 103 = .ok (.invokevirtual 104, 3) := by decide +kernel
theorem dX11_about_106 : decode cX11_about 106 = .ok (.ireturn, 1) := by decide +kernel
theorem dX11_about_107 : decode cX11_about 107 = .ok (.aload_n 0, 1) := by decide +kernel
theorem dX11_about_108 : decode cX11_about 108 = .ok (.aload_n 0, 1) := by decide +kernel
theorem dX11_about_109 : decode cX11_about 109 = .ok (.getfield 16, 3) := by decide +kernel
theorem dX11_about_112 : decode cX11_about 112 = .ok (.getfield 130, 3) := by decide +kernel
theorem dX11_about_115 : decode cX11_about 115 = .ok (.getfield 134, 3) := by decide +kernel
theorem dX11_about_118 : decode cX11_about 118 = .ok (.invokevirtual 104, 3) := by decide +kernel
theorem dX11_about_121 : decode cX11_about 121 = .ok (.ireturn, 1) := by decide +kernel
theorem dX11_about_122 : decode cX11_about 122 = .ok (.aload_n 0, 1) := by decide +kernel
theorem dX11_about_123 : decode cX11_about 123 = .ok (.aload_n 0, 1) := by decide +kernel
theorem dX11_about_124 : decode cX11_about 124 = .ok (.getfield 16, 3) := by decide +kernel
theorem dX11_about_127 : decode cX11_about 127 = .ok (.getfield 95, 3) := by decide +kernel
theorem dX11_about_130 : decode cX11_about 130 = .ok (.getfield 99, 3) := by decide +kernel
theorem dX11_about_133 : decode cX11_about 133 = .ok (.invokevirtual 104, 3) := by decide +kernel
theorem dX11_about_136 : decode cX11_about 136 = .ok (.ireturn, 1) := by decide +kernel
theorem dX11_about_137 : decode cX11_about 137 = .ok (.aload_n 0, 1) := by decide +kernel
theorem dX11_about_138 : decode cX11_about 138 = .ok (.aload_n 0, 1) := by decide +kernel
theorem dX11_about_139 : decode cX11_about 139 = .ok (.getfield 16, 3) := by decide +kernel
theorem dX11_about_142 : decode cX11_about 142 = .ok (.getfield 137, 3) := by decide +kernel
theorem dX11_about_145 : decode cX11_about 145 = .ok (.getfield 141, 3) := by decide +kernel
theorem dX11_about_148 : decode cX11_about 148 = .ok (.invokevirtual 104, 3) := by decide +kernel
theorem dX11_about_151 : decode cX11_about 151 = .ok (.ireturn, 1) := by decide +kernel
theorem dX11_about_152 : decode cX11_about 152 = .ok (.aload_n 0, 1) := by decide +kernel
theorem dX11_about_153 : decode cX11_about 153 = .ok (.iconst 1, 1) := by decide +kernel
theorem dX11_about_154 : decode cX11_about 154 = .ok (.invokevirtual 59, 3) := by decide +kernel
theorem dX11_about_157 : decode cX11_about 157 = .ok (.ireturn, 1) := by decide +kernel
theorem dX11_named_0 : decode cX11_named 0 = .ok (.aload_n 0, 1) := by decide +kernel
theorem dX11_named_1 : decode cX11_named 1 = .ok (.getfield 16, 3) := by decide +kernel
theorem dX11_named_4 : decode cX11_named 4 = .ok (.lload_n 1, 1) := by decide +kernel
theorem dX11_named_5 : decode cX11_named 5 = .ok (.invokevirtual 144, 3) := by decide +kernel
theorem dX11_named_8 : decode cX11_named 8 = .ok (.istore_n 3, 1) := by decide +kernel
theorem dX11_named_9 : decode cX11_named 9 = .ok (.iload_n 3, 1) := by decide +kernel
theorem dX11_named_10 : decode cX11_named 10 = .ok (.ifCond .ge 11, 3) := by decide +kernel
theorem dX11_named_13 : decode cX11_named 13 = .ok (.aload_n 0, 1) := by decide +kernel
theorem dX11_named_14 : decode cX11_named 14 = .ok (.iconst 1, 1) := by decide +kernel
theorem dX11_named_15 : decode cX11_named 15 = .ok (.invokevirtual 59, 3) := by decide +kernel
theorem dX11_named_18 : decode cX11_named 18 = .ok (.goto 8, 3) := by decide +kernel
theorem dX11_named_21 : decode cX11_named 21 = .ok (.aload_n 0, 1) := by decide +kernel
theorem dX11_named_22 : decode cX11_named 22 = .ok (.iload_n 3, 1) := by decide +kernel
theorem dX11_named_23 : decode cX11_named 23 = .ok (.invokevirtual 104, 3) := by decide +kernel
theorem dX11_named_26 : decode cX11_named 26 = .ok (.ireturn, 1) := by decide +kernel
theorem dX11_node_0 : decode cX11_node 0 = .ok (.aload_n 0, 1) := by decide +kernel
theorem dX11_node_1 : decode cX11_node 1 = .ok (.iload_n 1, 1) := by decide +kernel
theorem dX11_node_2 : decode cX11_node 2 = .ok (.invokevirtual 148, 3) := by decide +kernel
theorem dX11_node_5 : decode cX11_node 5 = .ok (.ifCond .ne 9, 3) := by decide +kernel
theorem dX11_node_8 : decode cX11_node 8 = .ok (.aload_n 0, 1) := by decide +kernel
theorem dX11_node_9 : decode cX11_node 9 = .ok (.iconst 1, 1) := by decide +kernel
theorem dX11_node_10 : decode cX11_node 10 = .ok (.invokevirtual 59, 3) := by decide +kernel
theorem dX11_node_13 : decode cX11_node 13 = .ok (.ireturn, 1) := by decide +kernel
theorem dX11_node_14 : decode cX11_node 14 = .ok (.iload_n 2, 1) := by decide +kernel
theorem dX11_node_15 : decode cX11_node 15 = .ok (.tableswitch 75 0 2 #[25, 42, 59], 25) := by decide +kernel
theorem dX11_node_40 : decode cX11_node 40 = .ok (.aload_n 0, 1) := by decide +kernel
theorem dX11_node_41 : decode cX11_node 41 = .ok (.aload_n 0, 1) := by decide +kernel
theorem dX11_node_42 : decode cX11_node 42 = .ok (.getfield 16, 3) := by decide +kernel
theorem dX11_node_45 : decode cX11_node 45 = .ok (.getfield 120, 3) := by decide +kernel
theorem dX11_node_48 : decode cX11_node 48 = .ok (.getfield 152, 3) := by decide +kernel
theorem dX11_node_51 : decode cX11_node 51 = .ok (.iload_n 1, 1) := by decide +kernel
theorem dX11_node_52 : decode cX11_node 52 = .ok (.iaload, 1) := by decide +kernel
theorem dX11_node_53 : decode cX11_node 53 = .ok (.invokevirtual 104, 3) := by decide +kernel
theorem dX11_node_56 : decode cX11_node 56 = .ok (.ireturn, 1) := by decide +kernel
theorem dX11_node_57 : decode cX11_node 57 = .ok (.aload_n 0, 1) := by decide +kernel
theorem dX11_node_58 : decode cX11_node 58 = .ok (.aload_n 0, 1) := by decide +kernel
theorem dX11_node_59 : decode cX11_node 59 = .ok (.getfield 16, 3) := by decide +kernel
theorem dX11_node_62 : decode cX11_node 62 = .ok (.getfield 120, 3) := by decide +kernel
theorem dX11_node_65 : decode cX11_node 65 = .ok (.getfield 156, 3) := by decide +kernel
theorem dX11_node_68 : decode cX11_node 68 = .ok (.iload_n 1, 1) := by decide +kernel
theorem dX11_node_69 : decode cX11_node 69 = .ok (.iaload, 1) := by decide +kernel
theorem dX11_node_70 : decode cX11_node 70 = .ok (.invokevirtual 104, 3) := by decide +kernel
theorem dX11_node_73 : decode cX11_node 73 = .ok (.ireturn, 1) := by decide +kernel
theorem dX11_node_74 : decode cX11_node 74 = .ok (.aload_n 0, 1) := by decide +kernel
theorem dX11_node_75 : decode cX11_node 75 = .ok (.aload_n 0, 1) := by decide +kernel
theorem dX11_node_76 : decode cX11_node 76 = .ok (.getfield 16, 3) := by decide +kernel
theorem dX11_node_79 : decode cX11_node 79 = .ok (.getfield 120, 3) := by decide +kernel
theorem dX11_node_82 : decode cX11_node 82 = .ok (.iload_n 1, 1) := by decide +kernel
theorem dX11_node_83 : decode cX11_node 83 = .ok (.invokevirtual 159, 3) := by decide +kernel
theorem dX11_node_86 : decode cX11_node 86 = .ok (.invokevirtual 104, 3) := by decide +kernel
theorem dX11_node_89 : decode cX11_node 89 = .ok (.ireturn, 1) := by decide +kernel
theorem dX11_node_90 : decode cX11_node 90 = .ok (.aload_n 0, 1) := by decide +kernel
theorem dX11_node_91 : decode cX11_node 91 = .ok (.iconst 1, 1) := by decide +kernel
theorem dX11_node_92 : decode cX11_node 92 = .ok (.invokevirtual 59, 3) := by decide +kernel
theorem dX11_node_95 : decode cX11_node 95 = .ok (.ireturn, 1) := by decide +kernel
theorem dX11_far_0 : decode cX11_far 0 = .ok (.aload_n 0, 1) := by decide +kernel
theorem dX11_far_1 : decode cX11_far 1 = .ok (.iload_n 1, 1) := by decide +kernel
theorem dX11_far_2 : decode cX11_far 2 = .ok (.invokevirtual 148, 3) := by decide +kernel
theorem dX11_far_5 : decode cX11_far 5 = .ok (.ifCond .eq 11, 3) := by decide +kernel
theorem dX11_far_8 : decode cX11_far 8 = .ok (.aload_n 0, 1) := by decide +kernel
theorem dX11_far_9 : decode cX11_far 9 = .ok (.iload_n 2, 1) := by decide +kernel
theorem dX11_far_10 : decode cX11_far 10 = .ok (.invokevirtual 148, 3) := by decide +kernel
theorem dX11_far_13 : decode cX11_far 13 = .ok (.ifCond .ne 9, 3) := by decide +kernel
theorem dX11_far_16 : decode cX11_far 16 = .ok (.aload_n 0, 1) := by decide +kernel
theorem dX11_far_17 : decode cX11_far 17 = .ok (.iconst 1, 1) := by decide +kernel
theorem dX11_far_18 : decode cX11_far 18 = .ok (.invokevirtual 59, 3) := by decide +kernel
theorem dX11_far_21 : decode cX11_far 21 = .ok (.ireturn, 1) := by decide +kernel
theorem dX11_far_22 : decode cX11_far 22 = .ok (.aload_n 0, 1) := by decide +kernel
theorem dX11_far_23 : decode cX11_far 23 = .ok (.aload_n 0, 1) := by decide +kernel
theorem dX11_far_24 : decode cX11_far 24 = .ok (.getfield 16, 3) := by decide +kernel
theorem dX11_far_27 : decode cX11_far 27 = .ok (.getfield 120, 3) := by decide +kernel
theorem dX11_far_30 : decode cX11_far 30 = .ok (.getfield 162, 3) := by decide +kernel
theorem dX11_far_33 : decode cX11_far 33 = .ok (.iload_n 1, 1) := by decide +kernel
theorem dX11_far_34 : decode cX11_far 34 = .ok (.aaload, 1) := by decide +kernel
theorem dX11_far_35 : decode cX11_far 35 = .ok (.iload_n 2, 1) := by decide +kernel
theorem dX11_far_36 : decode cX11_far 36 = .ok (.iaload, 1) := by decide +kernel
theorem dX11_far_37 : decode cX11_far 37 = .ok (.invokevirtual 104, 3) := by decide +kernel
theorem dX11_far_40 : decode cX11_far 40 = .ok (.ireturn, 1) := by decide +kernel
theorem dX11_way_0 : decode cX11_way 0 = .ok (.aload_n 0, 1) := by decide +kernel
theorem dX11_way_1 : decode cX11_way 1 = .ok (.iload_n 1, 1) := by decide +kernel
theorem dX11_way_2 : decode cX11_way 2 = .ok (.invokevirtual 148, 3) := by decide +kernel
theorem dX11_way_5 : decode cX11_way 5 = .ok (.ifCond .eq 11, 3) := by decide +kernel
theorem dX11_way_8 : decode cX11_way 8 = .ok (.aload_n 0, 1) := by decide +kernel
theorem dX11_way_9 : decode cX11_way 9 = .ok (.iload_n 2, 1) := by decide +kernel
theorem dX11_way_10 : decode cX11_way 10 = .ok (.invokevirtual 148, 3) := by decide +kernel
theorem dX11_way_13 : decode cX11_way 13 = .ok (.ifCond .ne 9, 3) := by decide +kernel
theorem dX11_way_16 : decode cX11_way 16 = .ok (.aload_n 0, 1) := by decide +kernel
theorem dX11_way_17 : decode cX11_way 17 = .ok (.iconst 1, 1) := by decide +kernel
theorem dX11_way_18 : decode cX11_way 18 = .ok (.invokevirtual 59, 3) := by decide +kernel
theorem dX11_way_21 : decode cX11_way 21 = .ok (.ireturn, 1) := by decide +kernel
theorem dX11_way_22 : decode cX11_way 22 = .ok (.aload_n 0, 1) := by decide +kernel
theorem dX11_way_23 : decode cX11_way 23 = .ok (.getfield 16, 3) := by decide +kernel
theorem dX11_way_26 : decode cX11_way 26 = .ok (.getfield 120, 3) := by decide +kernel
theorem dX11_way_29 : decode cX11_way 29 = .ok (.iload_n 1, 1) := by decide +kernel
theorem dX11_way_30 : decode cX11_way 30 = .ok (.iload_n 2, 1) := by decide +kernel
theorem dX11_way_31 : decode cX11_way 31 = .ok (.iload_n 3, 1) := by decide +kernel
theorem dX11_way_32 : decode cX11_way 32 = .ok (.invokevirtual 166, 3) := by decide +kernel
theorem dX11_way_35 : decode cX11_way 35 = .ok (.istore 4, 2) := by decide +kernel
theorem dX11_way_37 : decode cX11_way 37 = .ok (.iload 4, 2) := by decide +kernel
theorem dX11_way_39 : decode cX11_way 39 = .ok (.ifCond .ge 11, 3) := by decide +kernel
theorem dX11_way_42 : decode cX11_way 42 = .ok (.aload_n 0, 1) := by decide +kernel
theorem dX11_way_43 : decode cX11_way 43 = .ok (.iconst 1, 1) := by decide +kernel
theorem dX11_way_44 : decode cX11_way 44 = .ok (.invokevirtual 59, 3) := by decide +kernel
theorem dX11_way_47 : decode cX11_way 47 = .ok (.goto 9, 3) := by decide +kernel
theorem dX11_way_50 : decode cX11_way 50 = .ok (.aload_n 0, 1) := by decide +kernel
theorem dX11_way_51 : decode cX11_way 51 = .ok (.iload 4, 2) := by decide +kernel
theorem dX11_way_53 : decode cX11_way 53 = .ok (.invokevirtual 104, 3) := by decide +kernel
theorem dX11_way_56 : decode cX11_way 56 = .ok (.ireturn, 1) := by decide +kernel
theorem dX11_side_0 : decode cX11_side 0 = .ok (.aload_n 0, 1) := by decide +kernel
theorem dX11_side_1 : decode cX11_side 1 = .ok (.iload_n 1, 1) := by decide +kernel
theorem dX11_side_2 : decode cX11_side 2 = .ok (.invokevirtual 170, 3) := by decide +kernel
theorem dX11_side_5 : decode cX11_side 5 = .ok (.ifCond .eq 22, 3) := by decide +kernel
theorem dX11_side_8 : decode cX11_side 8 = .ok (.aload_n 0, 1) := by decide +kernel
theorem dX11_side_9 : decode cX11_side 9 = .ok (.aload_n 0, 1) := by decide +kernel
theorem dX11_side_10 : decode cX11_side 10 = .ok (.getfield 16, 3) := by decide +kernel
theorem dX11_side_13 : decode cX11_side 13 = .ok (.getfield 120, 3) := by decide +kernel
theorem dX11_side_16 : decode cX11_side 16 = .ok (.getfield 173, 3) := by decide +kernel
theorem dX11_side_19 : decode cX11_side 19 = .ok (.iload_n 1, 1) := by decide +kernel
theorem dX11_side_20 : decode cX11_side 20 = .ok (.iaload, 1) := by decide +kernel
theorem dX11_side_21 : decode cX11_side 21 = .ok (.invokevirtual 104, 3) := by decide +kernel
theorem dX11_side_24 : decode cX11_side 24 = .ok (.goto 8, 3) := by decide +kernel
theorem dX11_side_27 : decode cX11_side 27 = .ok (.aload_n 0, 1) := by decide +kernel
theorem dX11_side_28 : decode cX11_side 28 = .ok (.iconst 1, 1) := by decide +kernel
theorem dX11_side_29 : decode cX11_side 29 = .ok (.invokevirtual 59, 3) := by decide +kernel
theorem dX11_side_32 : decode cX11_side 32 = .ok (.ireturn, 1) := by decide +kernel
theorem dX11_place_0 : decode cX11_place 0 = .ok (.aload_n 0, 1) := by decide +kernel
theorem dX11_place_1 : decode cX11_place 1 = .ok (.iload_n 1, 1) := by decide +kernel
theorem dX11_place_2 : decode cX11_place 2 = .ok (.invokevirtual 148, 3) := by decide +kernel
theorem dX11_place_5 : decode cX11_place 5 = .ok (.ifCond .eq 12, 3) := by decide +kernel
theorem dX11_place_8 : decode cX11_place 8 = .ok (.iload_n 2, 1) := by decide +kernel
theorem dX11_place_9 : decode cX11_place 9 = .ok (.ifCond .lt 8, 3) := by decide +kernel
theorem dX11_place_12 : decode cX11_place 12 = .ok (.iload_n 2, 1) := by decide +kernel
theorem dX11_place_13 : decode cX11_place 13 = .ok (.iconst 1, 1) := by decide +kernel
theorem dX11_place_14 : decode cX11_place 14 = .ok (.if_icmp .le 9, 3) := by decide +kernel
theorem dX11_place_17 : decode cX11_place 17 = .ok (.aload_n 0, 1) := by decide +kernel
theorem dX11_place_18 : decode cX11_place 18 = .ok (.iconst 1, 1) := by decide +kernel
theorem dX11_place_19 : decode cX11_place 19 = .ok (.invokevirtual 176, 3) := by decide +kernel
theorem dX11_place_22 : decode cX11_place 22 = .ok (.ireturn, 1) := by decide +kernel
theorem dX11_place_23 : decode cX11_place 23 = .ok (.aload_n 0, 1) := by decide +kernel
theorem dX11_place_24 : decode cX11_place 24 = .ok (.iload_n 2, 1) := by decide +kernel
theorem dX11_place_25 : decode cX11_place 25 = .ok (.ifCond .ne 18, 3) := by decide +kernel
theorem dX11_place_28 : decode cX11_place 28 = .ok (.aload_n 0, 1) := by decide +kernel
theorem dX11_place_29 : decode cX11_place 29 = .ok (.getfield 16, 3) := by decide +kernel
theorem dX11_place_32 : decode cX11_place 32 = .ok (.getfield 120, 3) := by decide +kernel
theorem dX11_place_35 : decode cX11_place 35 = .ok (.getfield 179, 3) := by decide +kernel
theorem dX11_place_38 : decode cX11_place 38 = .ok (.iload_n 1, 1) := by decide +kernel
theorem dX11_place_39 : decode cX11_place 39 = .ok (.iaload, 1) := by decide +kernel
theorem dX11_place_40 : decode cX11_place 40 = .ok (.goto 15, 3) := by decide +kernel
theorem dX11_place_43 : decode cX11_place 43 = .ok (.aload_n 0, 1) := by decide +kernel
theorem dX11_place_44 : decode cX11_place 44 = .ok (.getfield 16, 3) := by decide +kernel
theorem dX11_place_47 : decode cX11_place 47 = .ok (.getfield 120, 3) := by decide +kernel
theorem dX11_place_50 : decode cX11_place 50 = .ok (.getfield 182, 3) := by decide +kernel
theorem dX11_place_53 : decode cX11_place 53 = .ok (.iload_n 1, 1) := by decide +kernel
theorem dX11_place_54 : decode cX11_place 54 = .ok (.iaload, 1) := by decide +kernel
theorem dX11_place_55 : decode cX11_place 55 = .ok (.invokevirtual 104, 3) := by decide +kernel
theorem dX11_place_58 : decode cX11_place 58 = .ok (.ireturn, 1) := by decide +kernel
theorem dX11_meet_0 : decode cX11_meet 0 = .ok (.aload_n 0, 1) := by decide +kernel
theorem dX11_meet_1 : decode cX11_meet 1 = .ok (.iload_n 1, 1) := by decide +kernel
theorem dX11_meet_2 : decode cX11_meet 2 = .ok (.invokevirtual 170, 3) := by decide +kernel
theorem dX11_meet_5 : decode cX11_meet 5 = .ok (.ifCond .eq 16, 3) := by decide +kernel
theorem dX11_meet_8 : decode cX11_meet 8 = .ok (.aload_n 0, 1) := by decide +kernel
theorem dX11_meet_9 : decode cX11_meet 9 = .ok (.iload_n 2, 1) := by decide +kernel
theorem dX11_meet_10 : decode cX11_meet 10 = .ok (.invokevirtual 170, 3) := by decide +kernel
theorem dX11_meet_13 : decode cX11_meet 13 = .ok (.ifCond .eq 8, 3) := by decide +kernel
theorem dX11_meet_16 : decode cX11_meet 16 = .ok (.iload_n 1, 1) := by decide +kernel
theorem dX11_meet_17 : decode cX11_meet 17 = .ok (.iload_n 2, 1) := by decide +kernel
theorem dX11_meet_18 : decode cX11_meet 18 = .ok (.if_icmp .ne 9, 3) := by decide +kernel
theorem dX11_meet_21 : decode cX11_meet 21 = .ok (.aload_n 0, 1) := by decide +kernel
theorem dX11_meet_22 : decode cX11_meet 22 = .ok (.iconst 1, 1) := by decide +kernel
theorem dX11_meet_23 : decode cX11_meet 23 = .ok (.invokevirtual 59, 3) := by decide +kernel
theorem dX11_meet_26 : decode cX11_meet 26 = .ok (.ireturn, 1) := by decide +kernel
theorem dX11_meet_27 : decode cX11_meet 27 = .ok (.aload_n 0, 1) := by decide +kernel
theorem dX11_meet_28 : decode cX11_meet 28 = .ok (.aload_n 0, 1) := by decide +kernel
theorem dX11_meet_29 : decode cX11_meet 29 = .ok (.getfield 16, 3) := by decide +kernel
theorem dX11_meet_32 : decode cX11_meet 32 = .ok (.getfield 120, 3) := by decide +kernel
theorem dX11_meet_35 : decode cX11_meet 35 = .ok (.iload_n 1, 1) := by decide +kernel
theorem dX11_meet_36 : decode cX11_meet 36 = .ok (.iload_n 2, 1) := by decide +kernel
theorem dX11_meet_37 : decode cX11_meet 37 = .ok (.invokevirtual 185, 3) := by decide +kernel
theorem dX11_meet_40 : decode cX11_meet 40 = .ok (.ifCond .eq 7, 3) := by decide +kernel
theorem dX11_meet_43 : decode cX11_meet 43 = .ok (.iconst 1, 1) := by decide +kernel
theorem dX11_meet_44 : decode cX11_meet 44 = .ok (.goto 4, 3) := by decide +kernel
theorem dX11_meet_47 : decode cX11_meet 47 = .ok (.iconst 0, 1) := by decide +kernel
theorem dX11_meet_48 : decode cX11_meet 48 = .ok (.invokevirtual 104, 3) := by decide +kernel
theorem dX11_meet_51 : decode cX11_meet 51 = .ok (.ireturn, 1) := by decide +kernel
theorem dX11_meetings_0 : decode cX11_meetings 0 = .ok (.aload_n 0, 1) := by decide +kernel
theorem dX11_meetings_1 : decode cX11_meetings 1 = .ok (.getfield 110, 3) := by decide +kernel
theorem dX11_meetings_4 : decode cX11_meetings 4 = .ok (.ifCond .eq 20, 3) := by decide +kernel
theorem dX11_meetings_7 : decode cX11_meetings 7 = .ok (.aload_n 0, 1) := by decide +kernel
theorem dX11_meetings_8 : decode cX11_meetings 8 = .ok (.aload_n 0, 1) := by decide +kernel
theorem dX11_meetings_9 : decode cX11_meetings 9 = .ok (.getfield 16, 3) := by decide +kernel
theorem dX11_meetings_12 : decode cX11_meetings 12 = .ok (.getfield 120, 3) := by decide +kernel
theorem dX11_meetings_15 : decode cX11_meetings 15 = .ok (.invokevirtual 189, 3) := by decide +kernel
theorem dX11_meetings_18 : decode cX11_meetings 18 = .ok (.invokevirtual 104, 3) := by decide +kernel
theorem dX11_meetings_21 : decode cX11_meetings 21 = .ok (.goto 8, 3) := by decide +kernel
theorem dX11_meetings_24 : decode cX11_meetings 24 = .ok (.aload_n 0, 1) := by decide +kernel
theorem dX11_meetings_25 : decode cX11_meetings 25 = .ok (.iconst 1, 1) := by decide +kernel
theorem dX11_meetings_26 : decode cX11_meetings 26 = .ok (.invokevirtual 59, 3) := by decide +kernel
theorem dX11_meetings_29 : decode cX11_meetings 29 = .ok (.ireturn, 1) := by decide +kernel
theorem dX11_lying_0 : decode cX11_lying 0 = .ok (.aload_n 0, 1) := by decide +kernel
theorem dX11_lying_1 : decode cX11_lying 1 = .ok (.getfield 110, 3) := by decide +kernel
theorem dX11_lying_4 : decode cX11_lying 4 = .ok (.ifCond .eq 22, 3) := by decide +kernel
theorem dX11_lying_7 : decode cX11_lying 7 = .ok (.aload_n 0, 1) := by decide +kernel
theorem dX11_lying_8 : decode cX11_lying 8 = .ok (.aload_n 0, 1) := by decide +kernel
theorem dX11_lying_9 : decode cX11_lying 9 = .ok (.getfield 16, 3) := by decide +kernel
theorem dX11_lying_12 : decode cX11_lying 12 = .ok (.getfield 120, 3) := by decide +kernel
theorem dX11_lying_15 : decode cX11_lying 15 = .ok (.iload_n 1, 1) := by decide +kernel
theorem dX11_lying_16 : decode cX11_lying 16 = .ok (.iload_n 2, 1) := by decide +kernel
theorem dX11_lying_17 : decode cX11_lying 17 = .ok (.invokevirtual 192, 3) := by decide +kernel
theorem dX11_lying_20 : decode cX11_lying 20 = .ok (.invokevirtual 104, 3) := by decide +kernel
theorem dX11_lying_23 : decode cX11_lying 23 = .ok (.goto 8, 3) := by decide +kernel
theorem dX11_lying_26 : decode cX11_lying 26 = .ok (.aload_n 0, 1) := by decide +kernel
theorem dX11_lying_27 : decode cX11_lying 27 = .ok (.iconst 1, 1) := by decide +kernel
theorem dX11_lying_28 : decode cX11_lying 28 = .ok (.invokevirtual 59, 3) := by decide +kernel
theorem dX11_lying_31 : decode cX11_lying 31 = .ok (.ireturn, 1) := by decide +kernel
theorem dX11_extent_0 : decode cX11_extent 0 = .ok (.aload_n 0, 1) := by decide +kernel
theorem dX11_extent_1 : decode cX11_extent 1 = .ok (.getfield 110, 3) := by decide +kernel
theorem dX11_extent_4 : decode cX11_extent 4 = .ok (.ifCond .ne 9, 3) := by decide +kernel
theorem dX11_extent_7 : decode cX11_extent 7 = .ok (.aload_n 0, 1) := by decide +kernel
theorem dX11_extent_8 : decode cX11_extent 8 = .ok (.iconst 1, 1) := by decide +kernel
theorem dX11_extent_9 : decode cX11_extent 9 = .ok (.invokevirtual 176, 3) := by decide +kernel
theorem dX11_extent_12 : decode cX11_extent 12 = .ok (.ireturn, 1) := by decide +kernel
theorem dX11_extent_13 : decode cX11_extent 13 = .ok (.aload_n 0, 1) := by decide +kernel
theorem dX11_extent_14 : decode cX11_extent 14 = .ok (.getfield 16, 3) := by decide +kernel
theorem dX11_extent_17 : decode cX11_extent 17 = .ok (.getfield 120, 3) := by decide +kernel
theorem dX11_extent_20 : decode cX11_extent 20 = .ok (.astore_n 2, 1) := by decide +kernel
theorem dX11_extent_21 : decode cX11_extent 21 = .ok (.iload_n 1, 1) := by decide +kernel
theorem dX11_extent_22 : decode cX11_extent 22 = .ok (.tableswitch 82 0 3 #[30, 43, 56, 69], 30) := by decide +kernel
theorem dX11_extent_52 : decode cX11_extent 52 = .ok (.aload_n 0, 1) := by decide +kernel
theorem dX11_extent_53 : decode cX11_extent 53 = .ok (.aload_n 2, 1) := by decide +kernel
theorem dX11_extent_54 : decode cX11_extent 54 = .ok (.aload_n 2, 1) := by decide +kernel
theorem dX11_extent_55 : decode cX11_extent 55 = .ok (.getfield 179, 3) := by decide +kernel
theorem dX11_extent_58 : decode cX11_extent 58 = .ok (.invokevirtual 196, 3) := by decide +kernel
theorem dX11_extent_61 : decode cX11_extent 61 = .ok (.invokevirtual 104, 3) := by decide +kernel
theorem dX11_extent_64 : decode cX11_extent 64 = .ok (.ireturn, 1) := by decide +kernel
theorem dX11_extent_65 : decode cX11_extent 65 = .ok (.aload_n 0, 1) := by decide +kernel
theorem dX11_extent_66 : decode cX11_extent 66 = .ok (.aload_n 2, 1) := by decide +kernel
theorem dX11_extent_67 : decode cX11_extent 67 = .ok (.aload_n 2, 1) := by decide +kernel
theorem dX11_extent_68 : decode cX11_extent 68 = .ok (.getfield 179, 3) := by decide +kernel
theorem dX11_extent_71 : decode cX11_extent 71 = .ok (.invokevirtual 200, 3) := by decide +kernel
theorem dX11_extent_74 : decode cX11_extent 74 = .ok (.invokevirtual 104, 3) := by decide +kernel
theorem dX11_extent_77 : decode cX11_extent 77 = .ok (.ireturn, 1) := by decide +kernel
theorem dX11_extent_78 : decode cX11_extent 78 = .ok (.aload_n 0, 1) := by decide +kernel
theorem dX11_extent_79 : decode cX11_extent 79 = .ok (.aload_n 2, 1) := by decide +kernel
theorem dX11_extent_80 : decode cX11_extent 80 = .ok (.aload_n 2, 1) := by decide +kernel
theorem dX11_extent_81 : decode cX11_extent 81 = .ok (.getfield 182, 3) := by decide +kernel
theorem dX11_extent_84 : decode cX11_extent 84 = .ok (.invokevirtual 196, 3) := by decide +kernel
theorem dX11_extent_87 : decode cX11_extent 87 = .ok (.invokevirtual 104, 3) := by decide +kernel
theorem dX11_extent_90 : decode cX11_extent 90 = .ok (.ireturn, 1) := by decide +kernel
theorem dX11_extent_91 : decode cX11_extent 91 = .ok (.aload_n 0, 1) := by decide +kernel
theorem dX11_extent_92 : decode cX11_extent 92 = .ok (.aload_n 2, 1) := by decide +kernel
theorem dX11_extent_93 : decode cX11_extent 93 = .ok (.aload_n 2, 1) := by decide +kernel
theorem dX11_extent_94 : decode cX11_extent 94 = .ok (.getfield 182, 3) := by decide +kernel
theorem dX11_extent_97 : decode cX11_extent 97 = .ok (.invokevirtual 200, 3) := by decide +kernel
theorem dX11_extent_100 : decode cX11_extent 100 = .ok (.invokevirtual 104, 3) := by decide +kernel
theorem dX11_extent_103 : decode cX11_extent 103 = .ok (.ireturn, 1) := by decide +kernel
theorem dX11_extent_104 : decode cX11_extent 104 = .ok (.aload_n 0, 1) := by decide +kernel
theorem dX11_extent_105 : decode cX11_extent 105 = .ok (.iconst 1, 1) := by decide +kernel
theorem dX11_extent_106 : decode cX11_extent 106 = .ok (.invokevirtual 176, 3) := by decide +kernel
theorem dX11_extent_109 : decode cX11_extent 109 = .ok (.ireturn, 1) := by decide +kernel
theorem dX11_span_0 : decode cX11_span 0 = .ok (.aload_n 0, 1) := by decide +kernel
theorem dX11_span_1 : decode cX11_span 1 = .ok (.getfield 110, 3) := by decide +kernel
theorem dX11_span_4 : decode cX11_span 4 = .ok (.ifCond .eq 20, 3) := by decide +kernel
theorem dX11_span_7 : decode cX11_span 7 = .ok (.aload_n 0, 1) := by decide +kernel
theorem dX11_span_8 : decode cX11_span 8 = .ok (.aload_n 0, 1) := by decide +kernel
theorem dX11_span_9 : decode cX11_span 9 = .ok (.getfield 16, 3) := by decide +kernel
theorem dX11_span_12 : decode cX11_span 12 = .ok (.getfield 120, 3) := by decide +kernel
theorem dX11_span_15 : decode cX11_span 15 = .ok (.invokevirtual 203, 3) := by decide +kernel
theorem dX11_span_18 : decode cX11_span 18 = .ok (.invokevirtual 104, 3) := by decide +kernel
theorem dX11_span_21 : decode cX11_span 21 = .ok (.goto 8, 3) := by decide +kernel
theorem dX11_span_24 : decode cX11_span 24 = .ok (.aload_n 0, 1) := by decide +kernel
theorem dX11_span_25 : decode cX11_span 25 = .ok (.iconst 1, 1) := by decide +kernel
theorem dX11_span_26 : decode cX11_span 26 = .ok (.invokevirtual 59, 3) := by decide +kernel
theorem dX11_span_29 : decode cX11_span 29 = .ok (.ireturn, 1) := by decide +kernel
theorem dX11_plug_0 : decode cX11_plug 0 = .ok (.aload_n 0, 1) := by decide +kernel
theorem dX11_plug_1 : decode cX11_plug 1 = .ok (.iload_n 1, 1) := by decide +kernel
theorem dX11_plug_2 : decode cX11_plug 2 = .ok (.invokevirtual 206, 3) := by decide +kernel
theorem dX11_plug_5 : decode cX11_plug 5 = .ok (.ifCond .ne 9, 3) := by decide +kernel
theorem dX11_plug_8 : decode cX11_plug 8 = .ok (.aload_n 0, 1) := by decide +kernel
theorem dX11_plug_9 : decode cX11_plug 9 = .ok (.iconst 1, 1) := by decide +kernel
theorem dX11_plug_10 : decode cX11_plug 10 = .ok (.invokevirtual 59, 3) := by decide +kernel
theorem dX11_plug_13 : decode cX11_plug 13 = .ok (.ireturn, 1) := by decide +kernel
theorem dX11_plug_14 : decode cX11_plug 14 = .ok (.aload_n 0, 1) := by decide +kernel
theorem dX11_plug_15 : decode cX11_plug 15 = .ok (.getfield 16, 3) := by decide +kernel
theorem dX11_plug_18 : decode cX11_plug 18 = .ok (.getfield 130, 3) := by decide +kernel
theorem dX11_plug_21 : decode cX11_plug 21 = .ok (.astore_n 3, 1) := by decide +kernel
theorem dX11_plug_22 : decode cX11_plug 22 = .ok (.iload_n 2, 1) := by decide +kernel
theorem dX11_plug_23 : decode cX11_plug 23 = .ok (.tableswitch 103 0 5 #[37, 48, 59, 70, 81, 92], 37) := by decide +kernel
theorem dX11_plug_60 : decode cX11_plug 60 = .ok (.aload_n 0, 1) := by decide +kernel
theorem dX11_plug_61 : decode cX11_plug 61 = .ok (.aload_n 3, 1) := by decide +kernel
theorem dX11_plug_62 : decode cX11_plug 62 = .ok (.getfield 209, 3) := by decide +kernel
theorem dX11_plug_65 : decode cX11_plug 65 = .ok (.iload_n 1, 1) := by decide +kernel
theorem dX11_plug_66 : decode cX11_plug 66 = .ok (.iaload, 1) := by decide +kernel
theorem dX11_plug_67 : decode cX11_plug 67 = .ok (.invokevirtual 104, 3) := by decide +kernel
theorem dX11_plug_70 : decode cX11_plug 70 = .ok (.ireturn, 1) := by decide +kernel
theorem dX11_plug_71 : decode cX11_plug 71 = .ok (.aload_n 0, 1) := by decide +kernel
theorem dX11_plug_72 : decode cX11_plug 72 = .ok (.aload_n 3, 1) := by decide +kernel
theorem dX11_plug_73 : decode cX11_plug 73 = .ok (.getfield 212, 3) := by decide +kernel
theorem dX11_plug_76 : decode cX11_plug 76 = .ok (.iload_n 1, 1) := by decide +kernel
theorem dX11_plug_77 : decode cX11_plug 77 = .ok (.iaload, 1) := by decide +kernel
theorem dX11_plug_78 : decode cX11_plug 78 = .ok (.invokevirtual 104, 3) := by decide +kernel
theorem dX11_plug_81 : decode cX11_plug 81 = .ok (.ireturn, 1) := by decide +kernel
theorem dX11_plug_82 : decode cX11_plug 82 = .ok (.aload_n 0, 1) := by decide +kernel
theorem dX11_plug_83 : decode cX11_plug 83 = .ok (.aload_n 3, 1) := by decide +kernel
theorem dX11_plug_84 : decode cX11_plug 84 = .ok (.getfield 215, 3) := by decide +kernel
theorem dX11_plug_87 : decode cX11_plug 87 = .ok (.iload_n 1, 1) := by decide +kernel
theorem dX11_plug_88 : decode cX11_plug 88 = .ok (.iaload, 1) := by decide +kernel
theorem dX11_plug_89 : decode cX11_plug 89 = .ok (.invokevirtual 104, 3) := by decide +kernel
theorem dX11_plug_92 : decode cX11_plug 92 = .ok (.ireturn, 1) := by decide +kernel
theorem dX11_plug_93 : decode cX11_plug 93 = .ok (.aload_n 0, 1) := by decide +kernel
theorem dX11_plug_94 : decode cX11_plug 94 = .ok (.aload_n 3, 1) := by decide +kernel
theorem dX11_plug_95 : decode cX11_plug 95 = .ok (.getfield 218, 3) := by decide +kernel
theorem dX11_plug_98 : decode cX11_plug 98 = .ok (.iload_n 1, 1) := by decide +kernel
theorem dX11_plug_99 : decode cX11_plug 99 = .ok (.iaload, 1) := by decide +kernel
theorem dX11_plug_100 : decode cX11_plug 100 = .ok (.invokevirtual 104, 3) := by decide +kernel
theorem dX11_plug_103 : decode cX11_plug 103 = .ok (.ireturn, 1) := by decide +kernel
theorem dX11_plug_104 : decode cX11_plug 104 = .ok (.aload_n 0, 1) := by decide +kernel
theorem dX11_plug_105 : decode cX11_plug 105 = .ok (.aload_n 3, 1) := by decide +kernel
theorem dX11_plug_106 : decode cX11_plug 106 = .ok (.getfield 221, 3) := by decide +kernel
theorem dX11_plug_109 : decode cX11_plug 109 = .ok (.iload_n 1, 1) := by decide +kernel
theorem dX11_plug_110 : decode cX11_plug 110 = .ok (.iaload, 1) := by decide +kernel
theorem dX11_plug_111 : decode cX11_plug 111 = .ok (.invokevirtual 104, 3) := by decide +kernel
theorem dX11_plug_114 : decode cX11_plug 114 = .ok (.ireturn, 1) := by decide +kernel
theorem dX11_plug_115 : decode cX11_plug 115 = .ok (.aload_n 0, 1) := by decide +kernel
theorem dX11_plug_116 : decode cX11_plug 116 = .ok (.aload_n 3, 1) := by decide +kernel
theorem dX11_plug_117 : decode cX11_plug 117 = .ok (.getfield 224, 3) := by decide +kernel
theorem dX11_plug_120 : decode cX11_plug 120 = .ok (.iload_n 1, 1) := by decide +kernel
theorem dX11_plug_121 : decode cX11_plug 121 = .ok (.iaload, 1) := by decide +kernel
theorem dX11_plug_122 : decode cX11_plug 122 = .ok (.invokevirtual 104, 3) := by decide +kernel
theorem dX11_plug_125 : decode cX11_plug 125 = .ok (.ireturn, 1) := by decide +kernel
theorem dX11_plug_126 : decode cX11_plug 126 = .ok (.aload_n 0, 1) := by decide +kernel
theorem dX11_plug_127 : decode cX11_plug 127 = .ok (.iconst 1, 1) := by decide +kernel
theorem dX11_plug_128 : decode cX11_plug 128 = .ok (.invokevirtual 59, 3) := by decide +kernel
theorem dX11_plug_131 : decode cX11_plug 131 = .ok (.ireturn, 1) := by decide +kernel
theorem dX11_net_0 : decode cX11_net 0 = .ok (.aload_n 0, 1) := by decide +kernel
theorem dX11_net_1 : decode cX11_net 1 = .ok (.iload_n 1, 1) := by decide +kernel
theorem dX11_net_2 : decode cX11_net 2 = .ok (.invokevirtual 227, 3) := by decide +kernel
theorem dX11_net_5 : decode cX11_net 5 = .ok (.ifCond .ne 9, 3) := by decide +kernel
theorem dX11_net_8 : decode cX11_net 8 = .ok (.aload_n 0, 1) := by decide +kernel
theorem dX11_net_9 : decode cX11_net 9 = .ok (.iconst 1, 1) := by decide +kernel
theorem dX11_net_10 : decode cX11_net 10 = .ok (.invokevirtual 59, 3) := by decide +kernel
theorem dX11_net_13 : decode cX11_net 13 = .ok (.ireturn, 1) := by decide +kernel
theorem dX11_net_14 : decode cX11_net 14 = .ok (.aload_n 0, 1) := by decide +kernel
theorem dX11_net_15 : decode cX11_net 15 = .ok (.getfield 16, 3) := by decide +kernel
theorem dX11_net_18 : decode cX11_net 18 = .ok (.getfield 95, 3) := by decide +kernel
theorem dX11_net_21 : decode cX11_net 21 = .ok (.astore_n 3, 1) := by decide +kernel
theorem dX11_net_22 : decode cX11_net 22 = .ok (.iload_n 2, 1) := by decide +kernel
theorem dX11_net_23 : decode cX11_net 23 = .ok (.tableswitch 103 0 5 #[37, 48, 59, 70, 81, 92], 37) := by decide +kernel
theorem dX11_net_60 : decode cX11_net 60 = .ok (.aload_n 0, 1) := by decide +kernel
theorem dX11_net_61 : decode cX11_net 61 = .ok (.aload_n 3, 1) := by decide +kernel
theorem dX11_net_62 : decode cX11_net 62 = .ok (.getfield 230, 3) := by decide +kernel
theorem dX11_net_65 : decode cX11_net 65 = .ok (.iload_n 1, 1) := by decide +kernel
theorem dX11_net_66 : decode cX11_net 66 = .ok (.iaload, 1) := by decide +kernel
theorem dX11_net_67 : decode cX11_net 67 = .ok (.invokevirtual 104, 3) := by decide +kernel
theorem dX11_net_70 : decode cX11_net 70 = .ok (.ireturn, 1) := by decide +kernel
theorem dX11_net_71 : decode cX11_net 71 = .ok (.aload_n 0, 1) := by decide +kernel
theorem dX11_net_72 : decode cX11_net 72 = .ok (.aload_n 3, 1) := by decide +kernel
theorem dX11_net_73 : decode cX11_net 73 = .ok (.getfield 233, 3) := by decide +kernel
theorem dX11_net_76 : decode cX11_net 76 = .ok (.iload_n 1, 1) := by decide +kernel
theorem dX11_net_77 : decode cX11_net 77 = .ok (.iaload, 1) := by decide +kernel
theorem dX11_net_78 : decode cX11_net 78 = .ok (.invokevirtual 104, 3) := by decide +kernel
theorem dX11_net_81 : decode cX11_net 81 = .ok (.ireturn, 1) := by decide +kernel
theorem dX11_net_82 : decode cX11_net 82 = .ok (.aload_n 0, 1) := by decide +kernel
theorem dX11_net_83 : decode cX11_net 83 = .ok (.aload_n 3, 1) := by decide +kernel
theorem dX11_net_84 : decode cX11_net 84 = .ok (.getfield 236, 3) := by decide +kernel
theorem dX11_net_87 : decode cX11_net 87 = .ok (.iload_n 1, 1) := by decide +kernel
theorem dX11_net_88 : decode cX11_net 88 = .ok (.iaload, 1) := by decide +kernel
theorem dX11_net_89 : decode cX11_net 89 = .ok (.invokevirtual 104, 3) := by decide +kernel
theorem dX11_net_92 : decode cX11_net 92 = .ok (.ireturn, 1) := by decide +kernel
theorem dX11_net_93 : decode cX11_net 93 = .ok (.aload_n 0, 1) := by decide +kernel
theorem dX11_net_94 : decode cX11_net 94 = .ok (.aload_n 3, 1) := by decide +kernel
theorem dX11_net_95 : decode cX11_net 95 = .ok (.getfield 239, 3) := by decide +kernel
theorem dX11_net_98 : decode cX11_net 98 = .ok (.iload_n 1, 1) := by decide +kernel
theorem dX11_net_99 : decode cX11_net 99 = .ok (.iaload, 1) := by decide +kernel
theorem dX11_net_100 : decode cX11_net 100 = .ok (.invokevirtual 104, 3) := by decide +kernel
theorem dX11_net_103 : decode cX11_net 103 = .ok (.ireturn, 1) := by decide +kernel
theorem dX11_net_104 : decode cX11_net 104 = .ok (.aload_n 0, 1) := by decide +kernel
theorem dX11_net_105 : decode cX11_net 105 = .ok (.aload_n 3, 1) := by decide +kernel
theorem dX11_net_106 : decode cX11_net 106 = .ok (.getfield 240, 3) := by decide +kernel
theorem dX11_net_109 : decode cX11_net 109 = .ok (.iload_n 1, 1) := by decide +kernel
theorem dX11_net_110 : decode cX11_net 110 = .ok (.iaload, 1) := by decide +kernel
theorem dX11_net_111 : decode cX11_net 111 = .ok (.invokevirtual 104, 3) := by decide +kernel
theorem dX11_net_114 : decode cX11_net 114 = .ok (.ireturn, 1) := by decide +kernel
theorem dX11_net_115 : decode cX11_net 115 = .ok (.aload_n 0, 1) := by decide +kernel
theorem dX11_net_116 : decode cX11_net 116 = .ok (.aload_n 3, 1) := by decide +kernel
theorem dX11_net_117 : decode cX11_net 117 = .ok (.getfield 241, 3) := by decide +kernel
theorem dX11_net_120 : decode cX11_net 120 = .ok (.iload_n 1, 1) := by decide +kernel
theorem dX11_net_121 : decode cX11_net 121 = .ok (.iaload, 1) := by decide +kernel
theorem dX11_net_122 : decode cX11_net 122 = .ok (.invokevirtual 104, 3) := by decide +kernel
theorem dX11_net_125 : decode cX11_net 125 = .ok (.ireturn, 1) := by decide +kernel
theorem dX11_net_126 : decode cX11_net 126 = .ok (.aload_n 0, 1) := by decide +kernel
theorem dX11_net_127 : decode cX11_net 127 = .ok (.iconst 1, 1) := by decide +kernel
theorem dX11_net_128 : decode cX11_net 128 = .ok (.invokevirtual 59, 3) := by decide +kernel
theorem dX11_net_131 : decode cX11_net 131 = .ok (.ireturn, 1) := by decide +kernel
theorem dX11_pin_0 : decode cX11_pin 0 = .ok (.aload_n 0, 1) := by decide +kernel
theorem dX11_pin_1 : decode cX11_pin 1 = .ok (.iload_n 1, 1) := by decide +kernel
theorem dX11_pin_2 : decode cX11_pin 2 = .ok (.iload_n 2, 1) := by decide +kernel
theorem dX11_pin_3 : decode cX11_pin 3 = .ok (.invokevirtual 244, 3) := by decide +kernel
theorem dX11_pin_6 : decode cX11_pin 6 = .ok (.ifCond .eq 12, 3) := by decide +kernel
theorem dX11_pin_9 : decode cX11_pin 9 = .ok (.iload_n 3, 1) := by decide +kernel
theorem dX11_pin_10 : decode cX11_pin 10 = .ok (.ifCond .lt 8, 3) := by decide +kernel
theorem dX11_pin_13 : decode cX11_pin 13 = .ok (.iload_n 3, 1) := by decide +kernel
theorem dX11_pin_14 : decode cX11_pin 14 = .ok (.iconst 1, 1) := by decide +kernel
theorem dX11_pin_15 : decode cX11_pin 15 = .ok (.if_icmp .le 9, 3) := by decide +kernel
theorem dX11_pin_18 : decode cX11_pin 18 = .ok (.aload_n 0, 1) := by decide +kernel
theorem dX11_pin_19 : decode cX11_pin 19 = .ok (.iconst 1, 1) := by decide +kernel
theorem dX11_pin_20 : decode cX11_pin 20 = .ok (.invokevirtual 59, 3) := by decide +kernel
theorem dX11_pin_23 : decode cX11_pin 23 = .ok (.ireturn, 1) := by decide +kernel
theorem dX11_pin_24 : decode cX11_pin 24 = .ok (.aload_n 0, 1) := by decide +kernel
theorem dX11_pin_25 : decode cX11_pin 25 = .ok (.iload_n 3, 1) := by decide +kernel
theorem dX11_pin_26 : decode cX11_pin 26 = .ok (.ifCond .ne 20, 3) := by decide +kernel
theorem dX11_pin_29 : decode cX11_pin 29 = .ok (.aload_n 0, 1) := by decide +kernel
theorem dX11_pin_30 : decode cX11_pin 30 = .ok (.getfield 16, 3) := by decide +kernel
theorem dX11_pin_33 : decode cX11_pin 33 = .ok (.getfield 95, 3) := by decide +kernel
theorem dX11_pin_36 : decode cX11_pin 36 = .ok (.getfield 247, 3) := by decide +kernel
theorem dX11_pin_39 : decode cX11_pin 39 = .ok (.iload_n 1, 1) := by decide +kernel
theorem dX11_pin_40 : decode cX11_pin 40 = .ok (.aaload, 1) := by decide +kernel
theorem dX11_pin_41 : decode cX11_pin 41 = .ok (.iload_n 2, 1) := by decide +kernel
theorem dX11_pin_42 : decode cX11_pin 42 = .ok (.iaload, 1) := by decide +kernel
theorem dX11_pin_43 : decode cX11_pin 43 = .ok (.goto 17, 3) := by decide +kernel
theorem dX11_pin_46 : decode cX11_pin 46 = .ok (.aload_n 0, 1) := by decide +kernel
theorem dX11_pin_47 : decode cX11_pin 47 = .ok (.getfield 16, 3) := by decide +kernel
theorem dX11_pin_50 : decode cX11_pin 50 = .ok (.getfield 95, 3) := by decide +kernel
theorem dX11_pin_53 : decode cX11_pin 53 = .ok (.getfield 250, 3) := by decide +kernel
theorem dX11_pin_56 : decode cX11_pin 56 = .ok (.iload_n 1, 1) := by decide +kernel
theorem dX11_pin_57 : decode cX11_pin 57 = .ok (.aaload, 1) := by decide +kernel
theorem dX11_pin_58 : decode cX11_pin 58 = .ok (.iload_n 2, 1) := by decide +kernel
theorem dX11_pin_59 : decode cX11_pin 59 = .ok (.iaload, 1) := by decide +kernel
theorem dX11_pin_60 : decode cX11_pin 60 = .ok (.invokevirtual 104, 3) := by decide +kernel
theorem dX11_pin_63 : decode cX11_pin 63 = .ok (.ireturn, 1) := by decide +kernel
theorem dX11_plugs_0 : decode cX11_plugs 0 = .ok (.aload_n 0, 1) := by decide +kernel
theorem dX11_plugs_1 : decode cX11_plugs 1 = .ok (.aload_n 0, 1) := by decide +kernel
theorem dX11_plugs_2 : decode cX11_plugs 2 = .ok (.getfield 110, 3) := by decide +kernel
theorem dX11_plugs_5 : decode cX11_plugs 5 = .ok (.iload_n 1, 1) := by decide +kernel
theorem dX11_plugs_6 : decode cX11_plugs 6 = .ok (.invokevirtual 253, 3) := by decide +kernel
theorem dX11_plugs_9 : decode cX11_plugs 9 = .ok (.istore_n 2, 1) := by decide +kernel
theorem dX11_plugs_10 : decode cX11_plugs 10 = .ok (.iload_n 2, 1) := by decide +kernel
theorem dX11_plugs_11 : decode cX11_plugs 11 = .ok (.ifCond .eq 11, 3) := by decide +kernel
theorem dX11_plugs_14 : decode cX11_plugs 14 = .ok (.aload_n 0, 1) := by decide +kernel
theorem dX11_plugs_15 : decode cX11_plugs 15 = .ok (.iload_n 2, 1) := by decide +kernel
theorem dX11_plugs_16 : decode cX11_plugs 16 = .ok (.invokevirtual 59, 3) := by decide +kernel
theorem dX11_plugs_19 : decode cX11_plugs 19 = .ok (.goto 15, 3) := by decide +kernel
theorem dX11_plugs_22 : decode cX11_plugs 22 = .ok (.aload_n 0, 1) := by decide +kernel
theorem dX11_plugs_23 : decode cX11_plugs 23 = .ok (.aload_n 0, 1) := by decide +kernel
theorem dX11_plugs_24 : decode cX11_plugs 24 = .ok (.getfield 16, 3) := by decide +kernel
theorem dX11_plugs_27 : decode cX11_plugs 27 = .ok (.iload_n 1, 1) := by decide +kernel
theorem dX11_plugs_28 : decode cX11_plugs 28 = .ok (.invokestatic 257, 3) := by decide +kernel
theorem dX11_plugs_31 : decode cX11_plugs 31 = .ok (.invokevirtual 104, 3) := by decide +kernel
theorem dX11_plugs_34 : decode cX11_plugs 34 = .ok (.ireturn, 1) := by decide +kernel
theorem dX11_pins_0 : decode cX11_pins 0 = .ok (.aload_n 0, 1) := by decide +kernel
theorem dX11_pins_1 : decode cX11_pins 1 = .ok (.aload_n 0, 1) := by decide +kernel
theorem dX11_pins_2 : decode cX11_pins 2 = .ok (.iload_n 2, 1) := by decide +kernel
theorem dX11_pins_3 : decode cX11_pins 3 = .ok (.invokevirtual 227, 3) := by decide +kernel
theorem dX11_pins_6 : decode cX11_pins 6 = .ok (.iload_n 1, 1) := by decide +kernel
theorem dX11_pins_7 : decode cX11_pins 7 = .ok (.invokevirtual 253, 3) := by decide +kernel
theorem dX11_pins_10 : decode cX11_pins 10 = .ok (.istore_n 3, 1) := by decide +kernel
theorem dX11_pins_11 : decode cX11_pins 11 = .ok (.iload_n 3, 1) := by decide +kernel
theorem dX11_pins_12 : decode cX11_pins 12 = .ok (.ifCond .eq 11, 3) := by decide +kernel
theorem dX11_pins_15 : decode cX11_pins 15 = .ok (.aload_n 0, 1) := by decide +kernel
theorem dX11_pins_16 : decode cX11_pins 16 = .ok (.iload_n 3, 1) := by decide +kernel
theorem dX11_pins_17 : decode cX11_pins 17 = .ok (.invokevirtual 59, 3) := by decide +kernel
theorem dX11_pins_20 : decode cX11_pins 20 = .ok (.goto 16, 3) := by decide +kernel
theorem dX11_pins_23 : decode cX11_pins 23 = .ok (.aload_n 0, 1) := by decide +kernel
theorem dX11_pins_24 : decode cX11_pins 24 = .ok (.aload_n 0, 1) := by decide +kernel
theorem dX11_pins_25 : decode cX11_pins 25 = .ok (.getfield 16, 3) := by decide +kernel
theorem dX11_pins_28 : decode cX11_pins 28 = .ok (.iload_n 1, 1) := by decide +kernel
theorem dX11_pins_29 : decode cX11_pins 29 = .ok (.iload_n 2, 1) := by decide +kernel
theorem dX11_pins_30 : decode cX11_pins 30 = .ok (.invokestatic 263, 3) := by decide +kernel
theorem dX11_pins_33 : decode cX11_pins 33 = .ok (.invokevirtual 104, 3) := by decide +kernel
theorem dX11_pins_36 : decode cX11_pins 36 = .ok (.ireturn, 1) := by decide +kernel
theorem dX11_splice_0 : decode cX11_splice 0 = .ok (.aload_n 0, 1) := by decide +kernel
theorem dX11_splice_1 : decode cX11_splice 1 = .ok (.aload_n 0, 1) := by decide +kernel
theorem dX11_splice_2 : decode cX11_splice 2 = .ok (.iload_n 2, 1) := by decide +kernel
theorem dX11_splice_3 : decode cX11_splice 3 = .ok (.invokevirtual 227, 3) := by decide +kernel
theorem dX11_splice_6 : decode cX11_splice 6 = .ok (.iload_n 1, 1) := by decide +kernel
theorem dX11_splice_7 : decode cX11_splice 7 = .ok (.invokevirtual 253, 3) := by decide +kernel
theorem dX11_splice_10 : decode cX11_splice 10 = .ok (.istore_n 3, 1) := by decide +kernel
theorem dX11_splice_11 : decode cX11_splice 11 = .ok (.iload_n 3, 1) := by decide +kernel
theorem dX11_splice_12 : decode cX11_splice 12 = .ok (.ifCond .eq 9, 3) := by decide +kernel
theorem dX11_splice_15 : decode cX11_splice 15 = .ok (.aload_n 0, 1) := by decide +kernel
theorem dX11_splice_16 : decode cX11_splice 16 = .ok (.iload_n 3, 1) := by decide +kernel
theorem dX11_splice_17 : decode cX11_splice 17 = .ok (.invokevirtual 59, 3) := by decide +kernel
theorem dX11_splice_20 : decode cX11_splice 20 = .ok (.ireturn, 1) := by decide +kernel
theorem dX11_splice_21 : decode cX11_splice 21 = .ok (.aload_n 0, 1) := by decide +kernel
theorem dX11_splice_22 : decode cX11_splice 22 = .ok (.getfield 16, 3) := by decide +kernel
theorem dX11_splice_25 : decode cX11_splice 25 = .ok (.iload_n 1, 1) := by decide +kernel
theorem dX11_splice_26 : decode cX11_splice 26 = .ok (.iload_n 2, 1) := by decide +kernel
theorem dX11_splice_27 : decode cX11_splice 27 = .ok (.invokestatic 263, 3) := by decide +kernel
theorem dX11_splice_30 : decode cX11_splice 30 = .ok (.istore 4, 2) := by decide +kernel
theorem dX11_splice_32 : decode cX11_splice 32 = .ok (.aload_n 0, 1) := by decide +kernel
theorem dX11_splice_33 : decode cX11_splice 33 = .ok (.iload 4, 2) := by decide +kernel
theorem dX11_splice_35 : decode cX11_splice 35 = .ok (.invokestatic 267, 3) := by decide +kernel
theorem dX11_splice_38 : decode cX11_splice 38 = .ok (.ifCond .eq 16, 3) := by decide +kernel
theorem dX11_splice_41 : decode cX11_splice 41 = .ok (.aload_n 0, 1) := by decide +kernel
theorem dX11_splice_42 : decode cX11_splice 42 = .ok (.getfield 16, 3) := by decide +kernel
theorem dX11_splice_45 : decode cX11_splice 45 = .ok (.iload_n 2, 1) := by decide +kernel
theorem dX11_splice_46 : decode cX11_splice 46 = .ok (.iload 4, 2) := by decide +kernel
theorem dX11_splice_48 : decode cX11_splice 48 = .ok (.invokestatic 270, 3) := by decide +kernel
theorem dX11_splice_51 : decode cX11_splice 51 = .ok (.goto 5, 3) := by decide +kernel
theorem dX11_splice_54 : decode cX11_splice 54 = .ok (.bipush (-2), 2) := by decide +kernel
theorem dX11_splice_56 : decode cX11_splice 56 = .ok (.invokevirtual 104, 3) := by decide +kernel
theorem dX11_splice_59 : decode cX11_splice 59 = .ok (.ireturn, 1) := by decide +kernel
theorem dX11_wires_0 : decode cX11_wires 0 = .ok (.aload_n 0, 1) := by decide +kernel
theorem dX11_wires_1 : decode cX11_wires 1 = .ok (.aload_n 0, 1) := by decide +kernel
theorem dX11_wires_2 : decode cX11_wires 2 = .ok (.iload_n 2, 1) := by decide +kernel
theorem dX11_wires_3 : decode cX11_wires 3 = .ok (.invokevirtual 227, 3) := by decide +kernel
theorem dX11_wires_6 : decode cX11_wires 6 = .ok (.iload_n 1, 1) := by decide +kernel
theorem dX11_wires_7 : decode cX11_wires 7 = .ok (.invokevirtual 253, 3) := by decide +kernel
theorem dX11_wires_10 : decode cX11_wires 10 = .ok (.istore_n 3, 1) := by decide +kernel
theorem dX11_wires_11 : decode cX11_wires 11 = .ok (.iload_n 3, 1) := by decide +kernel
theorem dX11_wires_12 : decode cX11_wires 12 = .ok (.ifCond .eq 9, 3) := by decide +kernel
theorem dX11_wires_15 : decode cX11_wires 15 = .ok (.aload_n 0, 1) := by decide +kernel
theorem dX11_wires_16 : decode cX11_wires 16 = .ok (.iload_n 3, 1) := by decide +kernel
theorem dX11_wires_17 : decode cX11_wires 17 = .ok (.invokevirtual 59, 3) := by decide +kernel
theorem dX11_wires_20 : decode cX11_wires 20 = .ok (.ireturn, 1) := by decide +kernel
theorem dX11_wires_21 : decode cX11_wires 21 = .ok (.aload_n 0, 1) := by decide +kernel
theorem dX11_wires_22 : decode cX11_wires 22 = .ok (.aload_n 0, 1) := by decide +kernel
theorem dX11_wires_23 : decode cX11_wires 23 = .ok (.getfield 16, 3) := by decide +kernel
theorem dX11_wires_26 : decode cX11_wires 26 = .ok (.iload_n 1, 1) := by decide +kernel
theorem dX11_wires_27 : decode cX11_wires 27 = .ok (.iload_n 2, 1) := by decide +kernel
theorem dX11_wires_28 : decode cX11_wires 28 = .ok (.invokestatic 263, 3) := by decide +kernel
theorem dX11_wires_31 : decode cX11_wires 31 = .ok (.invokestatic 273, 3) := by decide +kernel
theorem dX11_wires_34 : decode cX11_wires 34 = .ok (.invokevirtual 104, 3) := by decide +kernel
theorem dX11_wires_37 : decode cX11_wires 37 = .ok (.ireturn, 1) := by decide +kernel
theorem dX11_wire_0 : decode cX11_wire 0 = .ok (.aload_n 0, 1) := by decide +kernel
theorem dX11_wire_1 : decode cX11_wire 1 = .ok (.aload_n 0, 1) := by decide +kernel
theorem dX11_wire_2 : decode cX11_wire 2 = .ok (.iload_n 2, 1) := by decide +kernel
theorem dX11_wire_3 : decode cX11_wire 3 = .ok (.iload_n 3, 1) := by decide +kernel
theorem dX11_wire_4 : decode cX11_wire 4 = .ok (.invokevirtual 244, 3) := by decide +kernel
theorem dX11_wire_7 : decode cX11_wire 7 = .ok (.iload_n 1, 1) := by decide +kernel
theorem dX11_wire_8 : decode cX11_wire 8 = .ok (.invokevirtual 253, 3) := by decide +kernel
theorem dX11_wire_11 : decode cX11_wire 11 = .ok (.istore 4, 2) := by decide +kernel
theorem dX11_wire_13 : decode cX11_wire 13 = .ok (.iload 4, 2) := by decide +kernel
theorem dX11_wire_15 : decode cX11_wire 15 = .ok (.ifCond .eq 10, 3) := by decide +kernel
theorem dX11_wire_18 : decode cX11_wire 18 = .ok (.aload_n 0, 1) := by decide +kernel
theorem dX11_wire_19 : decode cX11_wire 19 = .ok (.iload 4, 2) := by decide +kernel
theorem dX11_wire_21 : decode cX11_wire 21 = .ok (.invokevirtual 59, 3) := by decide +kernel
theorem dX11_wire_24 : decode cX11_wire 24 = .ok (.ireturn, 1) := by decide +kernel
theorem dX11_wire_25 : decode cX11_wire 25 = .ok (.aload_n 0, 1) := by decide +kernel
theorem dX11_wire_26 : decode cX11_wire 26 = .ok (.getfield 16, 3) := by decide +kernel
theorem dX11_wire_29 : decode cX11_wire 29 = .ok (.iload_n 1, 1) := by decide +kernel
theorem dX11_wire_30 : decode cX11_wire 30 = .ok (.iload_n 2, 1) := by decide +kernel
theorem dX11_wire_31 : decode cX11_wire 31 = .ok (.invokestatic 263, 3) := by decide +kernel
theorem dX11_wire_34 : decode cX11_wire 34 = .ok (.istore 5, 2) := by decide +kernel
theorem dX11_wire_36 : decode cX11_wire 36 = .ok (.iload 5, 2) := by decide +kernel
theorem dX11_wire_38 : decode cX11_wire 38 = .ok (.iload_n 3, 1) := by decide +kernel
theorem dX11_wire_39 : decode cX11_wire 39 = .ok (.invokestatic 276, 3) := by decide +kernel
theorem dX11_wire_42 : decode cX11_wire 42 = .ok (.ifCond .eq 11, 3) := by decide +kernel
theorem dX11_wire_45 : decode cX11_wire 45 = .ok (.iload 5, 2) := by decide +kernel
theorem dX11_wire_47 : decode cX11_wire 47 = .ok (.invokestatic 273, 3) := by decide +kernel
theorem dX11_wire_50 : decode cX11_wire 50 = .ok (.ifCond .ne 9, 3) := by decide +kernel
theorem dX11_wire_53 : decode cX11_wire 53 = .ok (.aload_n 0, 1) := by decide +kernel
theorem dX11_wire_54 : decode cX11_wire 54 = .ok (.iconst 5, 1) := by decide +kernel
theorem dX11_wire_55 : decode cX11_wire 55 = .ok (.invokevirtual 59, 3) := by decide +kernel
theorem dX11_wire_58 : decode cX11_wire 58 = .ok (.ireturn, 1) := by decide +kernel
theorem dX11_wire_59 : decode cX11_wire 59 = .ok (.aload_n 0, 1) := by decide +kernel
theorem dX11_wire_60 : decode cX11_wire 60 = .ok (.aload_n 0, 1) := by decide +kernel
theorem dX11_wire_61 : decode cX11_wire 61 = .ok (.getfield 16, 3) := by decide +kernel
theorem dX11_wire_64 : decode cX11_wire 64 = .ok (.iload_n 2, 1) := by decide +kernel
theorem dX11_wire_65 : decode cX11_wire 65 = .ok (.iload 5, 2) := by decide +kernel
theorem dX11_wire_67 : decode cX11_wire 67 = .ok (.iload_n 3, 1) := by decide +kernel
theorem dX11_wire_68 : decode cX11_wire 68 = .ok (.invokestatic 279, 3) := by decide +kernel
theorem dX11_wire_71 : decode cX11_wire 71 = .ok (.invokevirtual 104, 3) := by decide +kernel
theorem dX11_wire_74 : decode cX11_wire 74 = .ok (.ireturn, 1) := by decide +kernel
theorem dX11_reach_0 : decode cX11_reach 0 = .ok (.aload_n 0, 1) := by decide +kernel
theorem dX11_reach_1 : decode cX11_reach 1 = .ok (.aload_n 0, 1) := by decide +kernel
theorem dX11_reach_2 : decode cX11_reach 2 = .ok (.iload_n 2, 1) := by decide +kernel
theorem dX11_reach_3 : decode cX11_reach 3 = .ok (.invokevirtual 227, 3) := by decide +kernel
theorem dX11_reach_6 : decode cX11_reach 6 = .ok (.ifCond .eq 15, 3) := by decide +kernel
theorem dX11_reach_9 : decode cX11_reach 9 = .ok (.aload_n 0, 1) := by decide +kernel
theorem dX11_reach_10 : decode cX11_reach 10 = .ok (.iload_n 3, 1) := by decide +kernel
theorem dX11_reach_11 : decode cX11_reach 11 = .ok (.invokevirtual 148, 3) := by decide +kernel
theorem dX11_reach_14 : decode cX11_reach 14 = .ok (.ifCond .eq 7, 3) := by decide +kernel
theorem dX11_reach_17 : decode cX11_reach 17 = .ok (.iconst 1, 1) := by decide +kernel
theorem dX11_reach_18 : decode cX11_reach 18 = .ok (.goto 4, 3) := by decide +kernel
theorem dX11_reach_21 : decode cX11_reach 21 = .ok (.iconst 0, 1) := by decide +kernel
theorem dX11_reach_22 : decode cX11_reach 22 = .ok (.iload_n 1, 1) := by decide +kernel
theorem dX11_reach_23 : decode cX11_reach 23 = .ok (.invokevirtual 253, 3) := by decide +kernel
theorem dX11_reach_26 : decode cX11_reach 26 = .ok (.istore 4, 2) := by decide +kernel
theorem dX11_reach_28 : decode cX11_reach 28 = .ok (.iload 4, 2) := by decide +kernel
theorem dX11_reach_30 : decode cX11_reach 30 = .ok (.ifCond .eq 10, 3) := by decide +kernel
theorem dX11_reach_33 : decode cX11_reach 33 = .ok (.aload_n 0, 1) := by decide +kernel
theorem dX11_reach_34 : decode cX11_reach 34 = .ok (.iload 4, 2) := by decide +kernel
theorem dX11_reach_36 : decode cX11_reach 36 = .ok (.invokevirtual 59, 3) := by decide +kernel
theorem dX11_reach_39 : decode cX11_reach 39 = .ok (.ireturn, 1) := by decide +kernel
theorem dX11_reach_40 : decode cX11_reach 40 = .ok (.aload_n 0, 1) := by decide +kernel
theorem dX11_reach_41 : decode cX11_reach 41 = .ok (.aload_n 0, 1) := by decide +kernel
theorem dX11_reach_42 : decode cX11_reach 42 = .ok (.getfield 16, 3) := by decide +kernel
theorem dX11_reach_45 : decode cX11_reach 45 = .ok (.iload_n 2, 1) := by decide +kernel
theorem dX11_reach_46 : decode cX11_reach 46 = .ok (.aload_n 0, 1) := by decide +kernel
theorem dX11_reach_47 : decode cX11_reach 47 = .ok (.getfield 16, 3) := by decide +kernel
theorem dX11_reach_50 : decode cX11_reach 50 = .ok (.iload_n 1, 1) := by decide +kernel
theorem dX11_reach_51 : decode cX11_reach 51 = .ok (.iload_n 2, 1) := by decide +kernel
theorem dX11_reach_52 : decode cX11_reach 52 = .ok (.invokestatic 263, 3) := by decide +kernel
theorem dX11_reach_55 : decode cX11_reach 55 = .ok (.iload_n 3, 1) := by decide +kernel
theorem dX11_reach_56 : decode cX11_reach 56 = .ok (.invokestatic 283, 3) := by decide +kernel
theorem dX11_reach_59 : decode cX11_reach 59 = .ok (.invokevirtual 104, 3) := by decide +kernel
theorem dX11_reach_62 : decode cX11_reach 62 = .ok (.ireturn, 1) := by decide +kernel
theorem dX11_total_0 : decode cX11_total 0 = .ok (.aload_n 0, 1) := by decide +kernel
theorem dX11_total_1 : decode cX11_total 1 = .ok (.aload_n 0, 1) := by decide +kernel
theorem dX11_total_2 : decode cX11_total 2 = .ok (.getfield 110, 3) := by decide +kernel
theorem dX11_total_5 : decode cX11_total 5 = .ok (.ifCond .eq 17, 3) := by decide +kernel
theorem dX11_total_8 : decode cX11_total 8 = .ok (.iload_n 2, 1) := by decide +kernel
theorem dX11_total_9 : decode cX11_total 9 = .ok (.ifCond .lt 13, 3) := by decide +kernel
theorem dX11_total_12 : decode cX11_total 12 = .ok (.iload_n 2, 1) := by decide +kernel
theorem dX11_total_13 : decode cX11_total 13 = .ok (.bipush 9, 2) := by decide +kernel
theorem dX11_total_15 : decode cX11_total 15 = .ok (.if_icmp .gt 7, 3) := by decide +kernel
theorem dX11_total_18 : decode cX11_total 18 = .ok (.iconst 1, 1) := by decide +kernel
theorem dX11_total_19 : decode cX11_total 19 = .ok (.goto 4, 3) := by decide +kernel
theorem dX11_total_22 : decode cX11_total 22 = .ok (.iconst 0, 1) := by decide +kernel
theorem dX11_total_23 : decode cX11_total 23 = .ok (.iload_n 1, 1) := by decide +kernel
theorem dX11_total_24 : decode cX11_total 24 = .ok (.invokevirtual 253, 3) := by decide +kernel
theorem dX11_total_27 : decode cX11_total 27 = .ok (.istore_n 3, 1) := by decide +kernel
theorem dX11_total_28 : decode cX11_total 28 = .ok (.iload_n 3, 1) := by decide +kernel
theorem dX11_total_29 : decode cX11_total 29 = .ok (.ifCond .eq 11, 3) := by decide +kernel
theorem dX11_total_32 : decode cX11_total 32 = .ok (.aload_n 0, 1) := by decide +kernel
theorem dX11_total_33 : decode cX11_total 33 = .ok (.iload_n 3, 1) := by decide +kernel
theorem dX11_total_34 : decode cX11_total 34 = .ok (.invokevirtual 59, 3) := by decide +kernel
theorem dX11_total_37 : decode cX11_total 37 = .ok (.goto 16, 3) := by decide +kernel
theorem dX11_total_40 : decode cX11_total 40 = .ok (.aload_n 0, 1) := by decide +kernel
theorem dX11_total_41 : decode cX11_total 41 = .ok (.aload_n 0, 1) := by decide +kernel
theorem dX11_total_42 : decode cX11_total 42 = .ok (.getfield 16, 3) := by decide +kernel
theorem dX11_total_45 : decode cX11_total 45 = .ok (.iload_n 1, 1) := by decide +kernel
theorem dX11_total_46 : decode cX11_total 46 = .ok (.iload_n 2, 1) := by decide +kernel
theorem dX11_total_47 : decode cX11_total 47 = .ok (.invokestatic 286, 3) := by decide +kernel
theorem dX11_total_50 : decode cX11_total 50 = .ok (.invokevirtual 104, 3) := by decide +kernel
theorem dX11_total_53 : decode cX11_total 53 = .ok (.ireturn, 1) := by decide +kernel
theorem dX11_bundle_0 : decode cX11_bundle 0 = .ok (.aload_n 0, 1) := by decide +kernel
theorem dX11_bundle_1 : decode cX11_bundle 1 = .ok (.aload_n 0, 1) := by decide +kernel
theorem dX11_bundle_2 : decode cX11_bundle 2 = .ok (.iload_n 2, 1) := by decide +kernel
theorem dX11_bundle_3 : decode cX11_bundle 3 = .ok (.invokevirtual 170, 3) := by decide +kernel
theorem dX11_bundle_6 : decode cX11_bundle 6 = .ok (.ifCond .eq 16, 3) := by decide +kernel
theorem dX11_bundle_9 : decode cX11_bundle 9 = .ok (.iload_n 3, 1) := by decide +kernel
theorem dX11_bundle_10 : decode cX11_bundle 10 = .ok (.ifCond .lt 12, 3) := by decide +kernel
theorem dX11_bundle_13 : decode cX11_bundle 13 = .ok (.iload_n 3, 1) := by decide +kernel
theorem dX11_bundle_14 : decode cX11_bundle 14 = .ok (.iconst 2, 1) := by decide +kernel
theorem dX11_bundle_15 : decode cX11_bundle 15 = .ok (.if_icmp .gt 7, 3) := by decide +kernel
theorem dX11_bundle_18 : decode cX11_bundle 18 = .ok (.iconst 1, 1) := by decide +kernel
theorem dX11_bundle_19 : decode cX11_bundle 19 = .ok (.goto 4, 3) := by decide +kernel
theorem dX11_bundle_22 : decode cX11_bundle 22 = .ok (.iconst 0, 1) := by decide +kernel
theorem dX11_bundle_23 : decode cX11_bundle 23 = .ok (.iload_n 1, 1) := by decide +kernel
theorem dX11_bundle_24 : decode cX11_bundle 24 = .ok (.invokevirtual 253, 3) := by decide +kernel
theorem dX11_bundle_27 : decode cX11_bundle 27 = .ok (.istore 4, 2) := by decide +kernel
theorem dX11_bundle_29 : decode cX11_bundle 29 = .ok (.iload 4, 2) := by decide +kernel
theorem dX11_bundle_31 : decode cX11_bundle 31 = .ok (.ifCond .eq 10, 3) := by decide +kernel
theorem dX11_bundle_34 : decode cX11_bundle 34 = .ok (.aload_n 0, 1) := by decide +kernel
theorem dX11_bundle_35 : decode cX11_bundle 35 = .ok (.iload 4, 2) := by decide +kernel
theorem dX11_bundle_37 : decode cX11_bundle 37 = .ok (.invokevirtual 59, 3) := by decide +kernel
theorem dX11_bundle_40 : decode cX11_bundle 40 = .ok (.ireturn, 1) := by decide +kernel
theorem dX11_bundle_41 : decode cX11_bundle 41 = .ok (.iload_n 3, 1) := by decide +kernel
theorem dX11_bundle_42 : decode cX11_bundle 42 = .ok (.ifCond .ne 17, 3) := by decide +kernel
theorem dX11_bundle_45 : decode cX11_bundle 45 = .ok (.aload_n 0, 1) := by decide +kernel
theorem dX11_bundle_46 : decode cX11_bundle 46 = .ok (.aload_n 0, 1) := by decide +kernel
theorem dX11_bundle_47 : decode cX11_bundle 47 = .ok (.getfield 16, 3) := by decide +kernel
theorem dX11_bundle_50 : decode cX11_bundle 50 = .ok (.iload_n 1, 1) := by decide +kernel
theorem dX11_bundle_51 : decode cX11_bundle 51 = .ok (.iload_n 2, 1) := by decide +kernel
theorem dX11_bundle_52 : decode cX11_bundle 52 = .ok (.invokestatic 289, 3) := by decide +kernel
theorem dX11_bundle_55 : decode cX11_bundle 55 = .ok (.invokevirtual 104, 3) := by decide +kernel
theorem dX11_bundle_58 : decode cX11_bundle 58 = .ok (.ireturn, 1) := by decide +kernel
theorem dX11_bundle_59 : decode cX11_bundle 59 = .ok (.aload_n 0, 1) := by decide +kernel
theorem dX11_bundle_60 : decode cX11_bundle 60 = .ok (.getfield 16, 3) := by decide +kernel
theorem dX11_bundle_63 : decode cX11_bundle 63 = .ok (.iload_n 1, 1) := by decide +kernel
theorem dX11_bundle_64 : decode cX11_bundle 64 = .ok (.iload_n 2, 1) := by decide +kernel
theorem dX11_bundle_65 : decode cX11_bundle 65 = .ok (.invokestatic 292, 3) := by decide +kernel
theorem dX11_bundle_68 : decode cX11_bundle 68 = .ok (.istore 5, 2) := by decide +kernel
theorem dX11_bundle_70 : decode cX11_bundle 70 = .ok (.aload_n 0, 1) := by decide +kernel
theorem dX11_bundle_71 : decode cX11_bundle 71 = .ok (.iload_n 3, 1) := by decide +kernel
theorem dX11_bundle_72 : decode cX11_bundle 72 = .ok (.iconst 1, 1) := by decide +kernel
theorem dX11_bundle_73 : decode cX11_bundle 73 = .ok (.if_icmp .ne 8, 3) := by decide +kernel
theorem dX11_bundle_76 : decode cX11_bundle 76 = .ok (.iload 5, 2) := by decide +kernel
theorem dX11_bundle_78 : decode cX11_bundle 78 = .ok (.goto 8, 3) := by decide +kernel
theorem dX11_bundle_81 : decode cX11_bundle 81 = .ok (.iload 5, 2) := by decide +kernel
theorem dX11_bundle_83 : decode cX11_bundle 83 = .ok (.invokestatic 295, 3) := by decide +kernel
theorem dX11_bundle_86 : decode cX11_bundle 86 = .ok (.invokevirtual 104, 3) := by decide +kernel
theorem dX11_bundle_89 : decode cX11_bundle 89 = .ok (.ireturn, 1) := by decide +kernel
theorem dX11_thickest_0 : decode cX11_thickest 0 = .ok (.aload_n 0, 1) := by decide +kernel
theorem dX11_thickest_1 : decode cX11_thickest 1 = .ok (.aload_n 0, 1) := by decide +kernel
theorem dX11_thickest_2 : decode cX11_thickest 2 = .ok (.getfield 110, 3) := by decide +kernel
theorem dX11_thickest_5 : decode cX11_thickest 5 = .ok (.iload_n 1, 1) := by decide +kernel
theorem dX11_thickest_6 : decode cX11_thickest 6 = .ok (.invokevirtual 253, 3) := by decide +kernel
theorem dX11_thickest_9 : decode cX11_thickest 9 = .ok (.istore_n 2, 1) := by decide +kernel
theorem dX11_thickest_10 : decode cX11_thickest 10 = .ok (.iload_n 2, 1) := by decide +kernel
theorem dX11_thickest_11 : decode cX11_thickest 11 = .ok (.ifCond .eq 11, 3) := by decide +kernel
theorem dX11_thickest_14 : decode cX11_thickest 14 = .ok (.aload_n 0, 1) := by decide +kernel
theorem dX11_thickest_15 : decode cX11_thickest 15 = .ok (.iload_n 2, 1) := by decide +kernel
theorem dX11_thickest_16 : decode cX11_thickest 16 = .ok (.invokevirtual 59, 3) := by decide +kernel
theorem dX11_thickest_19 : decode cX11_thickest 19 = .ok (.goto 15, 3) := by decide +kernel
theorem dX11_thickest_22 : decode cX11_thickest 22 = .ok (.aload_n 0, 1) := by decide +kernel
theorem dX11_thickest_23 : decode cX11_thickest 23 = .ok (.aload_n 0, 1) := by decide +kernel
theorem dX11_thickest_24 : decode cX11_thickest 24 = .ok (.getfield 16, 3) := by decide +kernel
theorem dX11_thickest_27 : decode cX11_thickest 27 = .ok (.iload_n 1, 1) := by decide +kernel
theorem dX11_thickest_28 : decode cX11_thickest 28 = .ok (.invokestatic 298, 3) := by decide +kernel
theorem dX11_thickest_31 : decode cX11_thickest 31 = .ok (.invokevirtual 104, 3) := by decide +kernel
theorem dX11_thickest_34 : decode cX11_thickest 34 = .ok (.ireturn, 1) := by decide +kernel
theorem dX11_through_0 : decode cX11_through 0 = .ok (.aload_n 0, 1) := by decide +kernel
theorem dX11_through_1 : decode cX11_through 1 = .ok (.aload_n 0, 1) := by decide +kernel
theorem dX11_through_2 : decode cX11_through 2 = .ok (.iload_n 2, 1) := by decide +kernel
theorem dX11_through_3 : decode cX11_through 3 = .ok (.invokevirtual 170, 3) := by decide +kernel
theorem dX11_through_6 : decode cX11_through 6 = .ok (.iload_n 1, 1) := by decide +kernel
theorem dX11_through_7 : decode cX11_through 7 = .ok (.invokevirtual 253, 3) := by decide +kernel
theorem dX11_through_10 : decode cX11_through 10 = .ok (.istore_n 3, 1) := by decide +kernel
theorem dX11_through_11 : decode cX11_through 11 = .ok (.iload_n 3, 1) := by decide +kernel
theorem dX11_through_12 : decode cX11_through 12 = .ok (.ifCond .eq 11, 3) := by decide +kernel
theorem dX11_through_15 : decode cX11_through 15 = .ok (.aload_n 0, 1) := by decide +kernel
theorem dX11_through_16 : decode cX11_through 16 = .ok (.iload_n 3, 1) := by decide +kernel
theorem dX11_through_17 : decode cX11_through 17 = .ok (.invokevirtual 59, 3) := by decide +kernel
theorem dX11_through_20 : decode cX11_through 20 = .ok (.goto 16, 3) := by decide +kernel
theorem dX11_through_23 : decode cX11_through 23 = .ok (.aload_n 0, 1) := by decide +kernel
theorem dX11_through_24 : decode cX11_through 24 = .ok (.aload_n 0, 1) := by decide +kernel
theorem dX11_through_25 : decode cX11_through 25 = .ok (.getfield 16, 3) := by decide +kernel
theorem dX11_through_28 : decode cX11_through 28 = .ok (.iload_n 1, 1) := by decide +kernel
theorem dX11_through_29 : decode cX11_through 29 = .ok (.iload_n 2, 1) := by decide +kernel
theorem dX11_through_30 : decode cX11_through 30 = .ok (.invokestatic 301, 3) := by decide +kernel
theorem dX11_through_33 : decode cX11_through 33 = .ok (.invokevirtual 104, 3) := by decide +kernel
theorem dX11_through_36 : decode cX11_through 36 = .ok (.ireturn, 1) := by decide +kernel
theorem dX11_flaws_0 : decode cX11_flaws 0 = .ok (.aload_n 0, 1) := by decide +kernel
theorem dX11_flaws_1 : decode cX11_flaws 1 = .ok (.aload_n 0, 1) := by decide +kernel
theorem dX11_flaws_2 : decode cX11_flaws 2 = .ok (.getfield 110, 3) := by decide +kernel
theorem dX11_flaws_5 : decode cX11_flaws 5 = .ok (.iload_n 1, 1) := by decide +kernel
theorem dX11_flaws_6 : decode cX11_flaws 6 = .ok (.invokevirtual 253, 3) := by decide +kernel
theorem dX11_flaws_9 : decode cX11_flaws 9 = .ok (.istore_n 2, 1) := by decide +kernel
theorem dX11_flaws_10 : decode cX11_flaws 10 = .ok (.iload_n 2, 1) := by decide +kernel
theorem dX11_flaws_11 : decode cX11_flaws 11 = .ok (.ifCond .eq 11, 3) := by decide +kernel
theorem dX11_flaws_14 : decode cX11_flaws 14 = .ok (.aload_n 0, 1) := by decide +kernel
theorem dX11_flaws_15 : decode cX11_flaws 15 = .ok (.iload_n 2, 1) := by decide +kernel
theorem dX11_flaws_16 : decode cX11_flaws 16 = .ok (.invokevirtual 59, 3) := by decide +kernel
theorem dX11_flaws_19 : decode cX11_flaws 19 = .ok (.goto 19, 3) := by decide +kernel
theorem dX11_flaws_22 : decode cX11_flaws 22 = .ok (.aload_n 0, 1) := by decide +kernel
theorem dX11_flaws_23 : decode cX11_flaws 23 = .ok (.aload_n 0, 1) := by decide +kernel
theorem dX11_flaws_24 : decode cX11_flaws 24 = .ok (.getfield 40, 3) := by decide +kernel
theorem dX11_flaws_27 : decode cX11_flaws 27 = .ok (.aload_n 0, 1) := by decide +kernel
theorem dX11_flaws_28 : decode cX11_flaws 28 = .ok (.getfield 16, 3) := by decide +kernel
theorem dX11_flaws_31 : decode cX11_flaws 31 = .ok (.iload_n 1, 1) := by decide +kernel
theorem dX11_flaws_32 : decode cX11_flaws 32 = .ok (.invokevirtual 304, 3) := by decide +kernel
theorem dX11_flaws_35 : decode cX11_flaws 35 = .ok (.invokevirtual 104, 3) := by decide +kernel
theorem dX11_flaws_38 : decode cX11_flaws 38 = .ok (.ireturn, 1) := by decide +kernel
theorem dX11_flaw_0 : decode cX11_flaw 0 = .ok (.aload_n 0, 1) := by decide +kernel
theorem dX11_flaw_1 : decode cX11_flaw 1 = .ok (.aload_n 0, 1) := by decide +kernel
theorem dX11_flaw_2 : decode cX11_flaw 2 = .ok (.getfield 110, 3) := by decide +kernel
theorem dX11_flaw_5 : decode cX11_flaw 5 = .ok (.ifCond .eq 16, 3) := by decide +kernel
theorem dX11_flaw_8 : decode cX11_flaw 8 = .ok (.iload_n 3, 1) := by decide +kernel
theorem dX11_flaw_9 : decode cX11_flaw 9 = .ok (.ifCond .lt 12, 3) := by decide +kernel
theorem dX11_flaw_12 : decode cX11_flaw 12 = .ok (.iload_n 3, 1) := by decide +kernel
theorem dX11_flaw_13 : decode cX11_flaw 13 = .ok (.iconst 5, 1) := by decide +kernel
theorem dX11_flaw_14 : decode cX11_flaw 14 = .ok (.if_icmp .ge 7, 3) := by decide +kernel
theorem dX11_flaw_17 : decode cX11_flaw 17 = .ok (.iconst 1, 1) := by decide +kernel
theorem dX11_flaw_18 : decode cX11_flaw 18 = .ok (.goto 4, 3) := by decide +kernel
theorem dX11_flaw_21 : decode cX11_flaw 21 = .ok (.iconst 0, 1) := by decide +kernel
theorem dX11_flaw_22 : decode cX11_flaw 22 = .ok (.iload_n 1, 1) := by decide +kernel
theorem dX11_flaw_23 : decode cX11_flaw 23 = .ok (.invokevirtual 253, 3) := by decide +kernel
theorem dX11_flaw_26 : decode cX11_flaw 26 = .ok (.istore 4, 2) := by decide +kernel
theorem dX11_flaw_28 : decode cX11_flaw 28 = .ok (.iload 4, 2) := by decide +kernel
theorem dX11_flaw_30 : decode cX11_flaw 30 = .ok (.ifCond .eq 10, 3) := by decide +kernel
theorem dX11_flaw_33 : decode cX11_flaw 33 = .ok (.aload_n 0, 1) := by decide +kernel
theorem dX11_flaw_34 : decode cX11_flaw 34 = .ok (.iload 4, 2) := by decide +kernel
theorem dX11_flaw_36 : decode cX11_flaw 36 = .ok (.invokevirtual 59, 3) := by decide +kernel
theorem dX11_flaw_39 : decode cX11_flaw 39 = .ok (.ireturn, 1) := by decide +kernel
theorem dX11_flaw_40 : decode cX11_flaw 40 = .ok (.aload_n 0, 1) := by decide +kernel
theorem dX11_flaw_41 : decode cX11_flaw 41 = .ok (.getfield 40, 3) := by decide +kernel
theorem dX11_flaw_44 : decode cX11_flaw 44 = .ok (.aload_n 0, 1) := by decide +kernel
theorem dX11_flaw_45 : decode cX11_flaw 45 = .ok (.getfield 16, 3) := by decide +kernel
theorem dX11_flaw_48 : decode cX11_flaw 48 = .ok (.iload_n 1, 1) := by decide +kernel
theorem dX11_flaw_49 : decode cX11_flaw 49 = .ok (.invokevirtual 304, 3) := by decide +kernel
theorem dX11_flaw_52 : decode cX11_flaw 52 = .ok (.istore 5, 2) := by decide +kernel
theorem dX11_flaw_54 : decode cX11_flaw 54 = .ok (.iload_n 2, 1) := by decide +kernel
theorem dX11_flaw_55 : decode cX11_flaw 55 = .ok (.ifCond .lt 9, 3) := by decide +kernel
theorem dX11_flaw_58 : decode cX11_flaw 58 = .ok (.iload_n 2, 1) := by decide +kernel
theorem dX11_flaw_59 : decode cX11_flaw 59 = .ok (.iload 5, 2) := by decide +kernel
theorem dX11_flaw_61 : decode cX11_flaw 61 = .ok (.if_icmp .lt 9, 3) := by decide +kernel
theorem dX11_flaw_64 : decode cX11_flaw 64 = .ok (.aload_n 0, 1) := by decide +kernel
theorem dX11_flaw_65 : decode cX11_flaw 65 = .ok (.iconst 1, 1) := by decide +kernel
theorem dX11_flaw_66 : decode cX11_flaw 66 = .ok (.invokevirtual 59, 3) := by decide +kernel
theorem dX11_flaw_69 : decode cX11_flaw 69 = .ok (.ireturn, 1) := by decide +kernel
theorem dX11_flaw_70 : decode cX11_flaw 70 = .ok (.aload_n 0, 1) := by decide +kernel
theorem dX11_flaw_71 : decode cX11_flaw 71 = .ok (.aload_n 0, 1) := by decide +kernel
theorem dX11_flaw_72 : decode cX11_flaw 72 = .ok (.getfield 40, 3) := by decide +kernel
theorem dX11_flaw_75 : decode cX11_flaw 75 = .ok (.iload_n 2, 1) := by decide +kernel
theorem dX11_flaw_76 : decode cX11_flaw 76 = .ok (.iload_n 3, 1) := by decide +kernel
theorem dX11_flaw_77 : decode cX11_flaw 77 = .ok (.invokevirtual 307, 3) := by decide +kernel
theorem dX11_flaw_80 : decode cX11_flaw 80 = .ok (.invokevirtual 104, 3) := by decide +kernel
theorem dX11_flaw_83 : decode cX11_flaw 83 = .ok (.ireturn, 1) := by decide +kernel
theorem dX11_sound_0 : decode cX11_sound 0 = .ok (.aload_n 0, 1) := by decide +kernel
theorem dX11_sound_1 : decode cX11_sound 1 = .ok (.getfield 110, 3) := by decide +kernel
theorem dX11_sound_4 : decode cX11_sound 4 = .ok (.ifCond .ne 9, 3) := by decide +kernel
theorem dX11_sound_7 : decode cX11_sound 7 = .ok (.aload_n 0, 1) := by decide +kernel
theorem dX11_sound_8 : decode cX11_sound 8 = .ok (.iconst 1, 1) := by decide +kernel
theorem dX11_sound_9 : decode cX11_sound 9 = .ok (.invokevirtual 59, 3) := by decide +kernel
theorem dX11_sound_12 : decode cX11_sound 12 = .ok (.ireturn, 1) := by decide +kernel
theorem dX11_sound_13 : decode cX11_sound 13 = .ok (.iconst 0, 1) := by decide +kernel
theorem dX11_sound_14 : decode cX11_sound 14 = .ok (.istore_n 1, 1) := by decide +kernel
theorem dX11_sound_15 : decode cX11_sound 15 = .ok (.iconst 0, 1) := by decide +kernel
theorem dX11_sound_16 : decode cX11_sound 16 = .ok (.istore_n 2, 1) := by decide +kernel
theorem dX11_sound_17 : decode cX11_sound 17 = .ok (.iload_n 2, 1) := by decide +kernel
theorem dX11_sound_18 : decode cX11_sound 18 = .ok (.iconst 1, 1) := by decide +kernel
theorem dX11_sound_19 : decode cX11_sound 19 = .ok (.aload_n 0, 1) := by decide +kernel
theorem dX11_sound_20 : decode cX11_sound 20 = .ok (.getfield 16, 3) := by decide +kernel
theorem dX11_sound_23 : decode cX11_sound 23 = .ok (.getfield 127, 3) := by decide +kernel
theorem dX11_sound_26 : decode cX11_sound 26 = .ok (.ishl, 1) := by decide +kernel
theorem dX11_sound_27 : decode cX11_sound 27 = .ok (.if_icmp .ge 30, 3) := by decide +kernel
theorem dX11_sound_30 : decode cX11_sound 30 = .ok (.aload_n 0, 1) := by decide +kernel
theorem dX11_sound_31 : decode cX11_sound 31 = .ok (.getfield 40, 3) := by decide +kernel
theorem dX11_sound_34 : decode cX11_sound 34 = .ok (.aload_n 0, 1) := by decide +kernel
theorem dX11_sound_35 : decode cX11_sound 35 = .ok (.getfield 16, 3) := by decide +kernel
theorem dX11_sound_38 : decode cX11_sound 38 = .ok (.iload_n 2, 1) := by decide +kernel
theorem dX11_sound_39 : decode cX11_sound 39 = .ok (.invokevirtual 304, 3) := by decide +kernel
theorem dX11_sound_42 : decode cX11_sound 42 = .ok (.ifCond .ne 9, 3) := by decide +kernel
theorem dX11_sound_45 : decode cX11_sound 45 = .ok (.iload_n 1, 1) := by decide +kernel
theorem dX11_sound_46 : decode cX11_sound 46 = .ok (.iconst 1, 1) := by decide +kernel
theorem dX11_sound_47 : decode cX11_sound 47 = .ok (.iload_n 2, 1) := by decide +kernel
theorem dX11_sound_48 : decode cX11_sound 48 = .ok (.ishl, 1) := by decide +kernel
theorem dX11_sound_49 : decode cX11_sound 49 = .ok (.ior, 1) := by decide +kernel
theorem dX11_sound_50 : decode cX11_sound 50 = .ok (.istore_n 1, 1) := by decide +kernel
theorem dX11_sound_51 : decode cX11_sound 51 = .ok (.iinc 2 1, 3) := by decide +kernel
theorem dX11_sound_54 : decode cX11_sound 54 = .ok (.goto (-37), 3) := by decide +kernel
theorem dX11_sound_57 : decode cX11_sound 57 = .ok (.aload_n 0, 1) := by decide +kernel
theorem dX11_sound_58 : decode cX11_sound 58 = .ok (.iload_n 1, 1) := by decide +kernel
theorem dX11_sound_59 : decode cX11_sound 59 = .ok (.invokevirtual 104, 3) := by decide +kernel
theorem dX11_sound_62 : decode cX11_sound 62 = .ok (.ireturn, 1) := by decide +kernel
theorem dX11_flawed_0 : decode cX11_flawed 0 = .ok (.aload_n 0, 1) := by decide +kernel
theorem dX11_flawed_1 : decode cX11_flawed 1 = .ok (.getfield 110, 3) := by decide +kernel
theorem dX11_flawed_4 : decode cX11_flawed 4 = .ok (.ifCond .ne 9, 3) := by decide +kernel
theorem dX11_flawed_7 : decode cX11_flawed 7 = .ok (.aload_n 0, 1) := by decide +kernel
theorem dX11_flawed_8 : decode cX11_flawed 8 = .ok (.iconst 1, 1) := by decide +kernel
theorem dX11_flawed_9 : decode cX11_flawed 9 = .ok (.invokevirtual 59, 3) := by decide +kernel
theorem dX11_flawed_12 : decode cX11_flawed 12 = .ok (.ireturn, 1) := by decide +kernel
theorem dX11_flawed_13 : decode cX11_flawed 13 = .ok (.iconst 0, 1) := by decide +kernel
theorem dX11_flawed_14 : decode cX11_flawed 14 = .ok (.istore_n 1, 1) := by decide +kernel
theorem dX11_flawed_15 : decode cX11_flawed 15 = .ok (.iconst 0, 1) := by decide +kernel
theorem dX11_flawed_16 : decode cX11_flawed 16 = .ok (.istore_n 2, 1) := by decide +kernel
theorem dX11_flawed_17 : decode cX11_flawed 17 = .ok (.iload_n 2, 1) := by decide +kernel
theorem dX11_flawed_18 : decode cX11_flawed 18 = .ok (.aload_n 0, 1) := by decide +kernel
theorem dX11_flawed_19 : decode cX11_flawed 19 = .ok (.getfield 16, 3) := by decide +kernel
theorem dX11_flawed_22 : decode cX11_flawed 22 = .ok (.getfield 137, 3) := by decide +kernel
theorem dX11_flawed_25 : decode cX11_flawed 25 = .ok (.getfield 141, 3) := by decide +kernel
theorem dX11_flawed_28 : decode cX11_flawed 28 = .ok (.if_icmp .ge 35, 3) := by decide +kernel
theorem dX11_flawed_31 : decode cX11_flawed 31 = .ok (.iload_n 1, 1) := by decide +kernel
theorem dX11_flawed_32 : decode cX11_flawed 32 = .ok (.aload_n 0, 1) := by decide +kernel
theorem dX11_flawed_33 : decode cX11_flawed 33 = .ok (.getfield 40, 3) := by decide +kernel
theorem dX11_flawed_36 : decode cX11_flawed 36 = .ok (.aload_n 0, 1) := by decide +kernel
theorem dX11_flawed_37 : decode cX11_flawed 37 = .ok (.getfield 16, 3) := by decide +kernel
theorem dX11_flawed_40 : decode cX11_flawed 40 = .ok (.aload_n 0, 1) := by decide +kernel
theorem dX11_flawed_41 : decode cX11_flawed 41 = .ok (.getfield 16, 3) := by decide +kernel
theorem dX11_flawed_44 : decode cX11_flawed 44 = .ok (.getfield 137, 3) := by decide +kernel
theorem dX11_flawed_47 : decode cX11_flawed 47 = .ok (.getfield 310, 3) := by decide +kernel
theorem dX11_flawed_50 : decode cX11_flawed 50 = .ok (.iload_n 2, 1) := by decide +kernel
theorem dX11_flawed_51 : decode cX11_flawed 51 = .ok (.iaload, 1) := by decide +kernel
theorem dX11_flawed_52 : decode cX11_flawed 52 = .ok (.invokevirtual 304, 3) := by decide +kernel
theorem dX11_flawed_55 : decode cX11_flawed 55 = .ok (.iadd, 1) := by decide +kernel
theorem dX11_flawed_56 : decode cX11_flawed 56 = .ok (.istore_n 1, 1) := by decide +kernel
theorem dX11_flawed_57 : decode cX11_flawed 57 = .ok (.iinc 2 1, 3) := by decide +kernel
theorem dX11_flawed_60 : decode cX11_flawed 60 = .ok (.goto (-43), 3) := by decide +kernel
theorem dX11_flawed_63 : decode cX11_flawed 63 = .ok (.aload_n 0, 1) := by decide +kernel
theorem dX11_flawed_64 : decode cX11_flawed 64 = .ok (.iload_n 1, 1) := by decide +kernel
theorem dX11_flawed_65 : decode cX11_flawed 65 = .ok (.invokevirtual 104, 3) := by decide +kernel
theorem dX11_flawed_68 : decode cX11_flawed 68 = .ok (.ireturn, 1) := by decide +kernel
theorem dX11_build_0 : decode cX11_build 0 = .ok (.aload_n 0, 1) := by decide +kernel
theorem dX11_build_1 : decode cX11_build 1 = .ok (.iload_n 1, 1) := by decide +kernel
theorem dX11_build_2 : decode cX11_build 2 = .ok (.invokevirtual 313, 3) := by decide +kernel
theorem dX11_build_5 : decode cX11_build 5 = .ok (.ifCond .eq 12, 3) := by decide +kernel
theorem dX11_build_8 : decode cX11_build 8 = .ok (.iload_n 2, 1) := by decide +kernel
theorem dX11_build_9 : decode cX11_build 9 = .ok (.ifCond .lt 8, 3) := by decide +kernel
theorem dX11_build_12 : decode cX11_build 12 = .ok (.iload_n 2, 1) := by decide +kernel
theorem dX11_build_13 : decode cX11_build 13 = .ok (.iconst 1, 1) := by decide +kernel
theorem dX11_build_14 : decode cX11_build 14 = .ok (.if_icmp .le 9, 3) := by decide +kernel
theorem dX11_build_17 : decode cX11_build 17 = .ok (.aload_n 0, 1) := by decide +kernel
theorem dX11_build_18 : decode cX11_build 18 = .ok (.iconst 1, 1) := by decide +kernel
theorem dX11_build_19 : decode cX11_build 19 = .ok (.invokevirtual 59, 3) := by decide +kernel
theorem dX11_build_22 : decode cX11_build 22 = .ok (.ireturn, 1) := by decide +kernel
theorem dX11_build_23 : decode cX11_build 23 = .ok (.aload_n 0, 1) := by decide +kernel
theorem dX11_build_24 : decode cX11_build 24 = .ok (.iload_n 2, 1) := by decide +kernel
theorem dX11_build_25 : decode cX11_build 25 = .ok (.ifCond .ne 18, 3) := by decide +kernel
theorem dX11_build_28 : decode cX11_build 28 = .ok (.aload_n 0, 1) := by decide +kernel
theorem dX11_build_29 : decode cX11_build 29 = .ok (.getfield 16, 3) := by decide +kernel
theorem dX11_build_32 : decode cX11_build 32 = .ok (.getfield 137, 3) := by decide +kernel
theorem dX11_build_35 : decode cX11_build 35 = .ok (.getfield 310, 3) := by decide +kernel
theorem dX11_build_38 : decode cX11_build 38 = .ok (.iload_n 1, 1) := by decide +kernel
theorem dX11_build_39 : decode cX11_build 39 = .ok (.iaload, 1) := by decide +kernel
theorem dX11_build_40 : decode cX11_build 40 = .ok (.goto 15, 3) := by decide +kernel
theorem dX11_build_43 : decode cX11_build 43 = .ok (.aload_n 0, 1) := by decide +kernel
theorem dX11_build_44 : decode cX11_build 44 = .ok (.getfield 16, 3) := by decide +kernel
theorem dX11_build_47 : decode cX11_build 47 = .ok (.getfield 137, 3) := by decide +kernel
theorem dX11_build_50 : decode cX11_build 50 = .ok (.getfield 316, 3) := by decide +kernel
theorem dX11_build_53 : decode cX11_build 53 = .ok (.iload_n 1, 1) := by decide +kernel
theorem dX11_build_54 : decode cX11_build 54 = .ok (.iaload, 1) := by decide +kernel
theorem dX11_build_55 : decode cX11_build 55 = .ok (.invokevirtual 104, 3) := by decide +kernel
theorem dX11_build_58 : decode cX11_build 58 = .ok (.ireturn, 1) := by decide +kernel
theorem dX11_common_0 : decode cX11_common 0 = .ok (.aload_n 0, 1) := by decide +kernel
theorem dX11_common_1 : decode cX11_common 1 = .ok (.aload_n 0, 1) := by decide +kernel
theorem dX11_common_2 : decode cX11_common 2 = .ok (.getfield 110, 3) := by decide +kernel
theorem dX11_common_5 : decode cX11_common 5 = .ok (.iload_n 1, 1) := by decide +kernel
theorem dX11_common_6 : decode cX11_common 6 = .ok (.invokevirtual 319, 3) := by decide +kernel
theorem dX11_common_9 : decode cX11_common 9 = .ok (.istore_n 2, 1) := by decide +kernel
theorem dX11_common_10 : decode cX11_common 10 = .ok (.iload_n 2, 1) := by decide +kernel
theorem dX11_common_11 : decode cX11_common 11 = .ok (.ifCond .eq 11, 3) := by decide +kernel
theorem dX11_common_14 : decode cX11_common 14 = .ok (.aload_n 0, 1) := by decide +kernel
theorem dX11_common_15 : decode cX11_common 15 = .ok (.iload_n 2, 1) := by decide +kernel
theorem dX11_common_16 : decode cX11_common 16 = .ok (.invokevirtual 59, 3) := by decide +kernel
theorem dX11_common_19 : decode cX11_common 19 = .ok (.goto 15, 3) := by decide +kernel
theorem dX11_common_22 : decode cX11_common 22 = .ok (.aload_n 0, 1) := by decide +kernel
theorem dX11_common_23 : decode cX11_common 23 = .ok (.aload_n 0, 1) := by decide +kernel
theorem dX11_common_24 : decode cX11_common 24 = .ok (.getfield 16, 3) := by decide +kernel
theorem dX11_common_27 : decode cX11_common 27 = .ok (.iload_n 1, 1) := by decide +kernel
theorem dX11_common_28 : decode cX11_common 28 = .ok (.invokestatic 322, 3) := by decide +kernel
theorem dX11_common_31 : decode cX11_common 31 = .ok (.invokevirtual 104, 3) := by decide +kernel
theorem dX11_common_34 : decode cX11_common 34 = .ok (.ireturn, 1) := by decide +kernel
theorem dX11_commonPins_0 : decode cX11_commonPins 0 = .ok (.aload_n 0, 1) := by decide +kernel
theorem dX11_commonPins_1 : decode cX11_commonPins 1 = .ok (.aload_n 0, 1) := by decide +kernel
theorem dX11_commonPins_2 : decode cX11_commonPins 2 = .ok (.iload_n 2, 1) := by decide +kernel
theorem dX11_commonPins_3 : decode cX11_commonPins 3 = .ok (.invokevirtual 227, 3) := by decide +kernel
theorem dX11_commonPins_6 : decode cX11_commonPins 6 = .ok (.iload_n 1, 1) := by decide +kernel
theorem dX11_commonPins_7 : decode cX11_commonPins 7 = .ok (.invokevirtual 319, 3) := by decide +kernel
theorem dX11_commonPins_10 : decode cX11_commonPins 10 = .ok (.istore_n 3, 1) := by decide +kernel
theorem dX11_commonPins_11 : decode cX11_commonPins 11 = .ok (.iload_n 3, 1) := by decide +kernel
theorem dX11_commonPins_12 : decode cX11_commonPins 12 = .ok (.ifCond .eq 11, 3) := by decide +kernel
theorem dX11_commonPins_15 : decode cX11_commonPins 15 = .ok (.aload_n 0, 1) := by decide +kernel
theorem dX11_commonPins_16 : decode cX11_commonPins 16 = .ok (.iload_n 3, 1) := by decide +kernel
theorem dX11_commonPins_17 : decode cX11_commonPins 17 = .ok (.invokevirtual 59, 3) := by decide +kernel
theorem dX11_commonPins_20 : decode cX11_commonPins 20 = .ok (.goto 16, 3) := by decide +kernel
theorem dX11_commonPins_23 : decode cX11_commonPins 23 = .ok (.aload_n 0, 1) := by decide +kernel
theorem dX11_commonPins_24 : decode cX11_commonPins 24 = .ok (.aload_n 0, 1) := by decide +kernel
theorem dX11_commonPins_25 : decode cX11_commonPins 25 = .ok (.getfield 16, 3) := by decide +kernel
theorem dX11_commonPins_28 : decode cX11_commonPins 28 = .ok (.iload_n 1, 1) := by decide +kernel
theorem dX11_commonPins_29 : decode cX11_commonPins 29 = .ok (.iload_n 2, 1) := by decide +kernel
theorem dX11_commonPins_30 : decode cX11_commonPins 30 = .ok (.invokestatic 325, 3) := by decide +kernel
theorem dX11_commonPins_33 : decode cX11_commonPins 33 = .ok (.invokevirtual 104, 3) := by decide +kernel
theorem dX11_commonPins_36 : decode cX11_commonPins 36 = .ok (.ireturn, 1) := by decide +kernel
theorem dX11_given_0 : decode cX11_given 0 = .ok (.aload_n 0, 1) := by decide +kernel
theorem dX11_given_1 : decode cX11_given 1 = .ok (.aload_n 0, 1) := by decide +kernel
theorem dX11_given_2 : decode cX11_given 2 = .ok (.getfield 110, 3) := by decide +kernel
theorem dX11_given_5 : decode cX11_given 5 = .ok (.iload_n 1, 1) := by decide +kernel
theorem dX11_given_6 : decode cX11_given 6 = .ok (.invokevirtual 319, 3) := by decide +kernel
theorem dX11_given_9 : decode cX11_given 9 = .ok (.istore_n 2, 1) := by decide +kernel
theorem dX11_given_10 : decode cX11_given 10 = .ok (.iload_n 2, 1) := by decide +kernel
theorem dX11_given_11 : decode cX11_given 11 = .ok (.ifCond .eq 11, 3) := by decide +kernel
theorem dX11_given_14 : decode cX11_given 14 = .ok (.aload_n 0, 1) := by decide +kernel
theorem dX11_given_15 : decode cX11_given 15 = .ok (.iload_n 2, 1) := by decide +kernel
theorem dX11_given_16 : decode cX11_given 16 = .ok (.invokevirtual 176, 3) := by decide +kernel
theorem dX11_given_19 : decode cX11_given 19 = .ok (.goto 15, 3) := by decide +kernel
theorem dX11_given_22 : decode cX11_given 22 = .ok (.aload_n 0, 1) := by decide +kernel
theorem dX11_given_23 : decode cX11_given 23 = .ok (.aload_n 0, 1) := by decide +kernel
theorem dX11_given_24 : decode cX11_given 24 = .ok (.getfield 16, 3) := by decide +kernel
theorem dX11_given_27 : decode cX11_given 27 = .ok (.iload_n 1, 1) := by decide +kernel
theorem dX11_given_28 : decode cX11_given 28 = .ok (.invokestatic 328, 3) := by decide +kernel
theorem dX11_given_31 : decode cX11_given 31 = .ok (.invokevirtual 104, 3) := by decide +kernel
theorem dX11_given_34 : decode cX11_given 34 = .ok (.ireturn, 1) := by decide +kernel
theorem dX11_families_0 : decode cX11_families 0 = .ok (.aload_n 0, 1) := by decide +kernel
theorem dX11_families_1 : decode cX11_families 1 = .ok (.iload_n 1, 1) := by decide +kernel
theorem dX11_families_2 : decode cX11_families 2 = .ok (.invokevirtual 331, 3) := by decide +kernel
theorem dX11_families_5 : decode cX11_families 5 = .ok (.istore_n 2, 1) := by decide +kernel
theorem dX11_families_6 : decode cX11_families 6 = .ok (.iload_n 2, 1) := by decide +kernel
theorem dX11_families_7 : decode cX11_families 7 = .ok (.ifCond .eq 9, 3) := by decide +kernel
theorem dX11_families_10 : decode cX11_families 10 = .ok (.aload_n 0, 1) := by decide +kernel
theorem dX11_families_11 : decode cX11_families 11 = .ok (.iload_n 2, 1) := by decide +kernel
theorem dX11_families_12 : decode cX11_families 12 = .ok (.invokevirtual 59, 3) := by decide +kernel
theorem dX11_families_15 : decode cX11_families 15 = .ok (.ireturn, 1) := by decide +kernel
theorem dX11_families_16 : decode cX11_families 16 = .ok (.aload_n 0, 1) := by decide +kernel
theorem dX11_families_17 : decode cX11_families 17 = .ok (.getfield 47, 3) := by decide +kernel
theorem dX11_families_20 : decode cX11_families 20 = .ok (.aload_n 0, 1) := by decide +kernel
theorem dX11_families_21 : decode cX11_families 21 = .ok (.getfield 16, 3) := by decide +kernel
theorem dX11_families_24 : decode cX11_families 24 = .ok (.iload_n 1, 1) := by decide +kernel
theorem dX11_families_25 : decode cX11_families 25 = .ok (.invokevirtual 334, 3) := by decide +kernel
theorem dX11_families_28 : decode cX11_families 28 = .ok (.aload_n 0, 1) := by decide +kernel
theorem dX11_families_29 : decode cX11_families 29 = .ok (.aload_n 0, 1) := by decide +kernel
theorem dX11_families_30 : decode cX11_families 30 = .ok (.getfield 47, 3) := by decide +kernel
theorem dX11_families_33 : decode cX11_families 33 = .ok (.getfield 338, 3) := by decide +kernel
theorem dX11_families_36 : decode cX11_families 36 = .ok (.invokevirtual 104, 3) := by decide +kernel
theorem dX11_families_39 : decode cX11_families 39 = .ok (.ireturn, 1) := by decide +kernel
theorem dX11_groups_0 : decode cX11_groups 0 = .ok (.aload_n 0, 1) := by decide +kernel
theorem dX11_groups_1 : decode cX11_groups 1 = .ok (.iload_n 1, 1) := by decide +kernel
theorem dX11_groups_2 : decode cX11_groups 2 = .ok (.invokevirtual 331, 3) := by decide +kernel
theorem dX11_groups_5 : decode cX11_groups 5 = .ok (.istore_n 2, 1) := by decide +kernel
theorem dX11_groups_6 : decode cX11_groups 6 = .ok (.iload_n 2, 1) := by decide +kernel
theorem dX11_groups_7 : decode cX11_groups 7 = .ok (.ifCond .eq 9, 3) := by decide +kernel
theorem dX11_groups_10 : decode cX11_groups 10 = .ok (.aload_n 0, 1) := by decide +kernel
theorem dX11_groups_11 : decode cX11_groups 11 = .ok (.iload_n 2, 1) := by decide +kernel
theorem dX11_groups_12 : decode cX11_groups 12 = .ok (.invokevirtual 59, 3) := by decide +kernel
theorem dX11_groups_15 : decode cX11_groups 15 = .ok (.ireturn, 1) := by decide +kernel
theorem dX11_groups_16 : decode cX11_groups 16 = .ok (.aload_n 0, 1) := by decide +kernel
theorem dX11_groups_17 : decode cX11_groups 17 = .ok (.getfield 47, 3) := by decide +kernel
theorem dX11_groups_20 : decode cX11_groups 20 = .ok (.aload_n 0, 1) := by decide +kernel
theorem dX11_groups_21 : decode cX11_groups 21 = .ok (.getfield 16, 3) := by decide +kernel
theorem dX11_groups_24 : decode cX11_groups 24 = .ok (.iload_n 1, 1) := by decide +kernel
theorem dX11_groups_25 : decode cX11_groups 25 = .ok (.invokevirtual 334, 3) := by decide +kernel
theorem dX11_groups_28 : decode cX11_groups 28 = .ok (.aload_n 0, 1) := by decide +kernel
theorem dX11_groups_29 : decode cX11_groups 29 = .ok (.aload_n 0, 1) := by decide +kernel
theorem dX11_groups_30 : decode cX11_groups 30 = .ok (.getfield 47, 3) := by decide +kernel
theorem dX11_groups_33 : decode cX11_groups 33 = .ok (.aload_n 0, 1) := by decide +kernel
theorem dX11_groups_34 : decode cX11_groups 34 = .ok (.getfield 16, 3) := by decide +kernel
theorem dX11_groups_37 : decode cX11_groups 37 = .ok (.getfield 137, 3) := by decide +kernel
theorem dX11_groups_40 : decode cX11_groups 40 = .ok (.getfield 141, 3) := by decide +kernel
theorem dX11_groups_43 : decode cX11_groups 43 = .ok (.invokevirtual 341, 3) := by decide +kernel
theorem dX11_groups_46 : decode cX11_groups 46 = .ok (.invokevirtual 104, 3) := by decide +kernel
theorem dX11_groups_49 : decode cX11_groups 49 = .ok (.ireturn, 1) := by decide +kernel
theorem dX11_group_0 : decode cX11_group 0 = .ok (.aload_n 0, 1) := by decide +kernel
theorem dX11_group_1 : decode cX11_group 1 = .ok (.iload_n 2, 1) := by decide +kernel
theorem dX11_group_2 : decode cX11_group 2 = .ok (.invokevirtual 313, 3) := by decide +kernel
theorem dX11_group_5 : decode cX11_group 5 = .ok (.ifCond .ne 9, 3) := by decide +kernel
theorem dX11_group_8 : decode cX11_group 8 = .ok (.aload_n 0, 1) := by decide +kernel
theorem dX11_group_9 : decode cX11_group 9 = .ok (.iconst 1, 1) := by decide +kernel
theorem dX11_group_10 : decode cX11_group 10 = .ok (.invokevirtual 59, 3) := by decide +kernel
theorem dX11_group_13 : decode cX11_group 13 = .ok (.ireturn, 1) := by decide +kernel
theorem dX11_group_14 : decode cX11_group 14 = .ok (.aload_n 0, 1) := by decide +kernel
theorem dX11_group_15 : decode cX11_group 15 = .ok (.iload_n 1, 1) := by decide +kernel
theorem dX11_group_16 : decode cX11_group 16 = .ok (.invokevirtual 344, 3) := by decide +kernel
theorem dX11_group_19 : decode cX11_group 19 = .ok (.ifCond .ne 9, 3) := by decide +kernel
theorem dX11_group_22 : decode cX11_group 22 = .ok (.aload_n 0, 1) := by decide +kernel
theorem dX11_group_23 : decode cX11_group 23 = .ok (.iconst 2, 1) := by decide +kernel
theorem dX11_group_24 : decode cX11_group 24 = .ok (.invokevirtual 59, 3) := by decide +kernel
theorem dX11_group_27 : decode cX11_group 27 = .ok (.ireturn, 1) := by decide +kernel
theorem dX11_group_28 : decode cX11_group 28 = .ok (.aload_n 0, 1) := by decide +kernel
theorem dX11_group_29 : decode cX11_group 29 = .ok (.getfield 47, 3) := by decide +kernel
theorem dX11_group_32 : decode cX11_group 32 = .ok (.aload_n 0, 1) := by decide +kernel
theorem dX11_group_33 : decode cX11_group 33 = .ok (.getfield 16, 3) := by decide +kernel
theorem dX11_group_36 : decode cX11_group 36 = .ok (.iload_n 1, 1) := by decide +kernel
theorem dX11_group_37 : decode cX11_group 37 = .ok (.invokevirtual 334, 3) := by decide +kernel
theorem dX11_group_40 : decode cX11_group 40 = .ok (.aload_n 0, 1) := by decide +kernel
theorem dX11_group_41 : decode cX11_group 41 = .ok (.aload_n 0, 1) := by decide +kernel
theorem dX11_group_42 : decode cX11_group 42 = .ok (.getfield 47, 3) := by decide +kernel
theorem dX11_group_45 : decode cX11_group 45 = .ok (.getfield 347, 3) := by decide +kernel
theorem dX11_group_48 : decode cX11_group 48 = .ok (.iload_n 2, 1) := by decide +kernel
theorem dX11_group_49 : decode cX11_group 49 = .ok (.iaload, 1) := by decide +kernel
theorem dX11_group_50 : decode cX11_group 50 = .ok (.invokevirtual 104, 3) := by decide +kernel
theorem dX11_group_53 : decode cX11_group 53 = .ok (.ireturn, 1) := by decide +kernel
theorem dX11_splices_0 : decode cX11_splices 0 = .ok (.aload_n 0, 1) := by decide +kernel
theorem dX11_splices_1 : decode cX11_splices 1 = .ok (.iload_n 1, 1) := by decide +kernel
theorem dX11_splices_2 : decode cX11_splices 2 = .ok (.invokevirtual 227, 3) := by decide +kernel
theorem dX11_splices_5 : decode cX11_splices 5 = .ok (.ifCond .ne 9, 3) := by decide +kernel
theorem dX11_splices_8 : decode cX11_splices 8 = .ok (.aload_n 0, 1) := by decide +kernel
theorem dX11_splices_9 : decode cX11_splices 9 = .ok (.iconst 1, 1) := by decide +kernel
theorem dX11_splices_10 : decode cX11_splices 10 = .ok (.invokevirtual 59, 3) := by decide +kernel
theorem dX11_splices_13 : decode cX11_splices 13 = .ok (.ireturn, 1) := by decide +kernel
theorem dX11_splices_14 : decode cX11_splices 14 = .ok (.iload_n 2, 1) := by decide +kernel
theorem dX11_splices_15 : decode cX11_splices 15 = .ok (.iconst (-1), 1) := by decide +kernel
theorem dX11_splices_16 : decode cX11_splices 16 = .ok (.if_icmp .eq 17, 3) := by decide +kernel
theorem dX11_splices_19 : decode cX11_splices 19 = .ok (.aload_n 0, 1) := by decide +kernel
theorem dX11_splices_20 : decode cX11_splices 20 = .ok (.iload_n 2, 1) := by decide +kernel
theorem dX11_splices_21 : decode cX11_splices 21 = .ok (.invokevirtual 148, 3) := by decide +kernel
theorem dX11_splices_24 : decode cX11_splices 24 = .ok (.ifCond .ne 9, 3) := by decide +kernel
theorem dX11_splices_27 : decode cX11_splices 27 = .ok (.aload_n 0, 1) := by decide +kernel
theorem dX11_splices_28 : decode cX11_splices 28 = .ok (.iconst 2, 1) := by decide +kernel
theorem dX11_splices_29 : decode cX11_splices 29 = .ok (.invokevirtual 59, 3) := by decide +kernel
theorem dX11_splices_32 : decode cX11_splices 32 = .ok (.ireturn, 1) := by decide +kernel
theorem dX11_splices_33 : decode cX11_splices 33 = .ok (.aload_n 0, 1) := by decide +kernel
theorem dX11_splices_34 : decode cX11_splices 34 = .ok (.getfield 16, 3) := by decide +kernel
theorem dX11_splices_37 : decode cX11_splices 37 = .ok (.getfield 95, 3) := by decide +kernel
theorem dX11_splices_40 : decode cX11_splices 40 = .ok (.getfield 241, 3) := by decide +kernel
theorem dX11_splices_43 : decode cX11_splices 43 = .ok (.iload_n 1, 1) := by decide +kernel
theorem dX11_splices_44 : decode cX11_splices 44 = .ok (.iaload, 1) := by decide +kernel
theorem dX11_splices_45 : decode cX11_splices 45 = .ok (.istore_n 3, 1) := by decide +kernel
theorem dX11_splices_46 : decode cX11_splices 46 = .ok (.aload_n 0, 1) := by decide +kernel
theorem dX11_splices_47 : decode cX11_splices 47 = .ok (.getfield 33, 3) := by decide +kernel
theorem dX11_splices_50 : decode cX11_splices 50 = .ok (.iconst 0, 1) := by decide +kernel
theorem dX11_splices_51 : decode cX11_splices 51 = .ok (.iload_n 1, 1) := by decide +kernel
theorem dX11_splices_52 : decode cX11_splices 52 = .ok (.iload_n 3, 1) := by decide +kernel
theorem dX11_splices_53 : decode cX11_splices 53 = .ok (.invokevirtual 350, 3) := by decide +kernel
theorem dX11_splices_56 : decode cX11_splices 56 = .ok (.aload_n 0, 1) := by decide +kernel
theorem dX11_splices_57 : decode cX11_splices 57 = .ok (.getfield 16, 3) := by decide +kernel
theorem dX11_splices_60 : decode cX11_splices 60 = .ok (.getfield 95, 3) := by decide +kernel
theorem dX11_splices_63 : decode cX11_splices 63 = .ok (.getfield 241, 3) := by decide +kernel
theorem dX11_splices_66 : decode cX11_splices 66 = .ok (.iload_n 1, 1) := by decide +kernel
theorem dX11_splices_67 : decode cX11_splices 67 = .ok (.iload_n 2, 1) := by decide +kernel
theorem dX11_splices_68 : decode cX11_splices 68 = .ok (.iconst (-1), 1) := by decide +kernel
theorem dX11_splices_69 : decode cX11_splices 69 = .ok (.if_icmp .ne 8, 3) := by decide +kernel
theorem dX11_splices_72 : decode cX11_splices 72 = .ok (.bipush (-2), 2) := by decide +kernel
theorem dX11_splices_74 : decode cX11_splices 74 = .ok (.goto 4, 3) := by decide +kernel
theorem dX11_splices_77 : decode cX11_splices 77 = .ok (.iload_n 2, 1) := by decide +kernel
theorem dX11_splices_78 : decode cX11_splices 78 = .ok (.iastore, 1) := by decide +kernel
theorem dX11_splices_79 : decode cX11_splices 79 = .ok (.aload_n 0, 1) := by decide +kernel
theorem dX11_splices_80 : decode cX11_splices 80 = .ok (.iload_n 3, 1) := by decide +kernel
theorem dX11_splices_81 : decode cX11_splices 81 = .ok (.invokevirtual 104, 3) := by decide +kernel
theorem dX11_splices_84 : decode cX11_splices 84 = .ok (.ireturn, 1) := by decide +kernel
theorem dX11_stretch_0 : decode cX11_stretch 0 = .ok (.aload_n 0, 1) := by decide +kernel
theorem dX11_stretch_1 : decode cX11_stretch 1 = .ok (.iload_n 1, 1) := by decide +kernel
theorem dX11_stretch_2 : decode cX11_stretch 2 = .ok (.invokevirtual 170, 3) := by decide +kernel
theorem dX11_stretch_5 : decode cX11_stretch 5 = .ok (.ifCond .ne 9, 3) := by decide +kernel
theorem dX11_stretch_8 : decode cX11_stretch 8 = .ok (.aload_n 0, 1) := by decide +kernel
theorem dX11_stretch_9 : decode cX11_stretch 9 = .ok (.iconst 1, 1) := by decide +kernel
theorem dX11_stretch_10 : decode cX11_stretch 10 = .ok (.invokevirtual 59, 3) := by decide +kernel
theorem dX11_stretch_13 : decode cX11_stretch 13 = .ok (.ireturn, 1) := by decide +kernel
theorem dX11_stretch_14 : decode cX11_stretch 14 = .ok (.iload_n 2, 1) := by decide +kernel
theorem dX11_stretch_15 : decode cX11_stretch 15 = .ok (.iconst 1, 1) := by decide +kernel
theorem dX11_stretch_16 : decode cX11_stretch 16 = .ok (.if_icmp .lt 10, 3) := by decide +kernel
theorem dX11_stretch_19 : decode cX11_stretch 19 = .ok (.iload_n 2, 1) := by decide +kernel
theorem dX11_stretch_20 : decode cX11_stretch 20 = .ok (.sipush 999, 3) := by decide +kernel
theorem dX11_stretch_23 : decode cX11_stretch 23 = .ok (.if_icmp .le 9, 3) := by decide +kernel
theorem dX11_stretch_26 : decode cX11_stretch 26 = .ok (.aload_n 0, 1) := by decide +kernel
theorem dX11_stretch_27 : decode cX11_stretch 27 = .ok (.iconst 2, 1) := by decide +kernel
theorem dX11_stretch_28 : decode cX11_stretch 28 = .ok (.invokevirtual 59, 3) := by decide +kernel
theorem dX11_stretch_31 : decode cX11_stretch 31 = .ok (.ireturn, 1) := by decide +kernel
theorem dX11_stretch_32 : decode cX11_stretch 32 = .ok (.aload_n 0, 1) := by decide +kernel
theorem dX11_stretch_33 : decode cX11_stretch 33 = .ok (.getfield 16, 3) := by decide +kernel
theorem dX11_stretch_36 : decode cX11_stretch 36 = .ok (.getfield 120, 3) := by decide +kernel
theorem dX11_stretch_39 : decode cX11_stretch 39 = .ok (.getfield 156, 3) := by decide +kernel
theorem dX11_stretch_42 : decode cX11_stretch 42 = .ok (.iload_n 1, 1) := by decide +kernel
theorem dX11_stretch_43 : decode cX11_stretch 43 = .ok (.iaload, 1) := by decide +kernel
theorem dX11_stretch_44 : decode cX11_stretch 44 = .ok (.istore_n 3, 1) := by decide +kernel
theorem dX11_stretch_45 : decode cX11_stretch 45 = .ok (.aload_n 0, 1) := by decide +kernel
theorem dX11_stretch_46 : decode cX11_stretch 46 = .ok (.getfield 33, 3) := by decide +kernel
theorem dX11_stretch_49 : decode cX11_stretch 49 = .ok (.iconst 1, 1) := by decide +kernel
theorem dX11_stretch_50 : decode cX11_stretch 50 = .ok (.iload_n 1, 1) := by decide +kernel
theorem dX11_stretch_51 : decode cX11_stretch 51 = .ok (.iload_n 3, 1) := by decide +kernel
theorem dX11_stretch_52 : decode cX11_stretch 52 = .ok (.invokevirtual 350, 3) := by decide +kernel
theorem dX11_stretch_55 : decode cX11_stretch 55 = .ok (.aload_n 0, 1) := by decide +kernel
theorem dX11_stretch_56 : decode cX11_stretch 56 = .ok (.getfield 16, 3) := by decide +kernel
theorem dX11_stretch_59 : decode cX11_stretch 59 = .ok (.getfield 120, 3) := by decide +kernel
theorem dX11_stretch_62 : decode cX11_stretch 62 = .ok (.iload_n 1, 1) := by decide +kernel
theorem dX11_stretch_63 : decode cX11_stretch 63 = .ok (.iload_n 2, 1) := by decide +kernel
theorem dX11_stretch_64 : decode cX11_stretch 64 = .ok (.invokevirtual 354, 3) := by decide +kernel
theorem dX11_stretch_67 : decode cX11_stretch 67 = .ok (.aload_n 0, 1) := by decide +kernel
theorem dX11_stretch_68 : decode cX11_stretch 68 = .ok (.iload_n 3, 1) := by decide +kernel
theorem dX11_stretch_69 : decode cX11_stretch 69 = .ok (.invokevirtual 104, 3) := by decide +kernel
theorem dX11_stretch_72 : decode cX11_stretch 72 = .ok (.ireturn, 1) := by decide +kernel
theorem dX11_undo_0 : decode cX11_undo 0 = .ok (.aload_n 0, 1) := by decide +kernel
theorem dX11_undo_1 : decode cX11_undo 1 = .ok (.getfield 33, 3) := by decide +kernel
theorem dX11_undo_4 : decode cX11_undo 4 = .ok (.getfield 358, 3) := by decide +kernel
theorem dX11_undo_7 : decode cX11_undo 7 = .ok (.iconst 1, 1) := by decide +kernel
theorem dX11_undo_8 : decode cX11_undo 8 = .ok (.if_icmp .ge 11, 3) := by decide +kernel
theorem dX11_undo_11 : decode cX11_undo 11 = .ok (.aload_n 0, 1) := by decide +kernel
theorem dX11_undo_12 : decode cX11_undo 12 = .ok (.iconst 1, 1) := by decide +kernel
theorem dX11_undo_13 : decode cX11_undo 13 = .ok (.invokevirtual 59, 3) := by decide +kernel
theorem dX11_undo_16 : decode cX11_undo 16 = .ok (.pop, 1) := by decide +kernel
theorem dX11_undo_17 : decode cX11_undo 17 = .ok (.iconst 0, 1) := by decide +kernel
theorem dX11_undo_18 : decode cX11_undo 18 = .ok (.ireturn, 1) := by decide +kernel
theorem dX11_undo_19 : decode cX11_undo 19 = .ok (.aload_n 0, 1) := by decide +kernel
theorem dX11_undo_20 : decode cX11_undo 20 = .ok (.getfield 33, 3) := by decide +kernel
theorem dX11_undo_23 : decode cX11_undo 23 = .ok (.dup, 1) := by decide +kernel
theorem dX11_undo_24 : decode cX11_undo 24 = .ok (.getfield 358, 3) := by decide +kernel
theorem dX11_undo_27 : decode cX11_undo 27 = .ok (.iconst 1, 1) := by decide +kernel
theorem dX11_undo_28 : decode cX11_undo 28 = .ok (.isub, 1) := by decide +kernel
theorem dX11_undo_29 : decode cX11_undo 29 = .ok (.putfield 358, 3) := by decide +kernel
theorem dX11_undo_32 : decode cX11_undo 32 = .ok (.aload_n 0, 1) := by decide +kernel
theorem dX11_undo_33 : decode cX11_undo 33 = .ok (.getfield 33, 3) := by decide +kernel
theorem dX11_undo_36 : decode cX11_undo 36 = .ok (.getfield 359, 3) := by decide +kernel
theorem dX11_undo_39 : decode cX11_undo 39 = .ok (.aload_n 0, 1) := by decide +kernel
theorem dX11_undo_40 : decode cX11_undo 40 = .ok (.getfield 33, 3) := by decide +kernel
theorem dX11_undo_43 : decode cX11_undo 43 = .ok (.getfield 358, 3) := by decide +kernel
theorem dX11_undo_46 : decode cX11_undo 46 = .ok (.iaload, 1) := by decide +kernel
theorem dX11_undo_47 : decode cX11_undo 47 = .ok (.istore_n 1, 1) := by decide +kernel
theorem dX11_undo_48 : decode cX11_undo 48 = .ok (.aload_n 0, 1) := by decide +kernel
theorem dX11_undo_49 : decode cX11_undo 49 = .ok (.getfield 33, 3) := by decide +kernel
theorem dX11_undo_52 : decode cX11_undo 52 = .ok (.getfield 362, 3) := by decide +kernel
theorem dX11_undo_55 : decode cX11_undo 55 = .ok (.aload_n 0, 1) := by decide +kernel
theorem dX11_undo_56 : decode cX11_undo 56 = .ok (.getfield 33, 3) := by decide +kernel
theorem dX11_undo_59 : decode cX11_undo 59 = .ok (.getfield 358, 3) := by decide +kernel
theorem dX11_undo_62 : decode cX11_undo 62 = .ok (.iaload, 1) := by decide +kernel
theorem dX11_undo_63 : decode cX11_undo 63 = .ok (.istore_n 2, 1) := by decide +kernel
theorem dX11_undo_64 : decode cX11_undo 64 = .ok (.aload_n 0, 1) := by decide +kernel
theorem dX11_undo_65 : decode cX11_undo 65 = .ok (.getfield 33, 3) := by decide +kernel
theorem dX11_undo_68 : decode cX11_undo 68 = .ok (.getfield 365, 3) := by decide +kernel
theorem dX11_undo_71 : decode cX11_undo 71 = .ok (.aload_n 0, 1) := by decide +kernel
theorem dX11_undo_72 : decode cX11_undo 72 = .ok (.getfield 33, 3) := by decide +kernel
theorem dX11_undo_75 : decode cX11_undo 75 = .ok (.getfield 358, 3) := by decide +kernel
theorem dX11_undo_78 : decode cX11_undo 78 = .ok (.iaload, 1) := by decide +kernel
theorem dX11_undo_79 : decode cX11_undo 79 = .ok (.iconst 1, 1) := by decide +kernel
theorem dX11_undo_80 : decode cX11_undo 80 = .ok (.if_icmp .ne 18, 3) := by decide +kernel
theorem dX11_undo_83 : decode cX11_undo 83 = .ok (.aload_n 0, 1) := by decide +kernel
theorem dX11_undo_84 : decode cX11_undo 84 = .ok (.getfield 16, 3) := by decide +kernel
theorem dX11_undo_87 : decode cX11_undo 87 = .ok (.getfield 120, 3) := by decide +kernel
theorem dX11_undo_90 : decode cX11_undo 90 = .ok (.iload_n 1, 1) := by decide +kernel
theorem dX11_undo_91 : decode cX11_undo 91 = .ok (.iload_n 2, 1) := by decide +kernel
theorem dX11_undo_92 : decode cX11_undo 92 = .ok (.invokevirtual 354, 3) := by decide +kernel
theorem dX11_undo_95 : decode cX11_undo 95 = .ok (.goto 16, 3) := by decide +kernel
theorem dX11_undo_98 : decode cX11_undo 98 = .ok (.aload_n 0, 1) := by decide +kernel
theorem dX11_undo_99 : decode cX11_undo 99 = .ok (.getfield 16, 3) := by decide +kernel
theorem dX11_undo_102 : decode cX11_undo 102 = .ok (.getfield 95, 3) := by decide +kernel
theorem dX11_undo_105 : decode cX11_undo 105 = .ok (.getfield 241, 3) := by decide +kernel
theorem dX11_undo_108 : decode cX11_undo 108 = .ok (.iload_n 1, 1) := by decide +kernel
theorem dX11_undo_109 : decode cX11_undo 109 = .ok (.iload_n 2, 1) := by decide +kernel
theorem dX11_undo_110 : decode cX11_undo 110 = .ok (.iastore, 1) := by decide +kernel
theorem dX11_undo_111 : decode cX11_undo 111 = .ok (.aload_n 0, 1) := by decide +kernel
theorem dX11_undo_112 : decode cX11_undo 112 = .ok (.iconst 0, 1) := by decide +kernel
theorem dX11_undo_113 : decode cX11_undo 113 = .ok (.putfield 107, 3) := by decide +kernel
theorem dX11_undo_116 : decode cX11_undo 116 = .ok (.iconst 1, 1) := by decide +kernel
theorem dX11_undo_117 : decode cX11_undo 117 = .ok (.ireturn, 1) := by decide +kernel
theorem dX11_unused_0 : decode cX11_unused 0 = .ok (.iconst 0, 1) := by decide +kernel
theorem dX11_unused_1 : decode cX11_unused 1 = .ok (.istore_n 2, 1) := by decide +kernel
theorem dX11_unused_2 : decode cX11_unused 2 = .ok (.iconst 0, 1) := by decide +kernel
theorem dX11_unused_3 : decode cX11_unused 3 = .ok (.istore_n 3, 1) := by decide +kernel
theorem dX11_unused_4 : decode cX11_unused 4 = .ok (.iload_n 3, 1) := by decide +kernel
theorem dX11_unused_5 : decode cX11_unused 5 = .ok (.aload_n 0, 1) := by decide +kernel
theorem dX11_unused_6 : decode cX11_unused 6 = .ok (.getfield 16, 3) := by decide +kernel
theorem dX11_unused_9 : decode cX11_unused 9 = .ok (.getfield 95, 3) := by decide +kernel
theorem dX11_unused_12 : decode cX11_unused 12 = .ok (.getfield 99, 3) := by decide +kernel
theorem dX11_unused_15 : decode cX11_unused 15 = .ok (.if_icmp .ge 30, 3) := by decide +kernel
theorem dX11_unused_18 : decode cX11_unused 18 = .ok (.aload_n 0, 1) := by decide +kernel
theorem dX11_unused_19 : decode cX11_unused 19 = .ok (.getfield 16, 3) := by decide +kernel
theorem dX11_unused_22 : decode cX11_unused 22 = .ok (.iload_n 3, 1) := by decide +kernel
theorem dX11_unused_23 : decode cX11_unused 23 = .ok (.invokestatic 368, 3) := by decide +kernel
theorem dX11_unused_26 : decode cX11_unused 26 = .ok (.ifCond .ne 13, 3) := by decide +kernel
theorem dX11_unused_29 : decode cX11_unused 29 = .ok (.iload_n 2, 1) := by decide +kernel
theorem dX11_unused_30 : decode cX11_unused 30 = .ok (.iload_n 1, 1) := by decide +kernel
theorem dX11_unused_31 : decode cX11_unused 31 = .ok (.if_icmp .ne 5, 3) := by decide +kernel
theorem dX11_unused_34 : decode cX11_unused 34 = .ok (.iload_n 3, 1) := by decide +kernel
theorem dX11_unused_35 : decode cX11_unused 35 = .ok (.ireturn, 1) := by decide +kernel
theorem dX11_unused_36 : decode cX11_unused 36 = .ok (.iinc 2 1, 3) := by decide +kernel
theorem dX11_unused_39 : decode cX11_unused 39 = .ok (.iinc 3 1, 3) := by decide +kernel
theorem dX11_unused_42 : decode cX11_unused 42 = .ok (.goto (-38), 3) := by decide +kernel
theorem dX11_unused_45 : decode cX11_unused 45 = .ok (.new 372, 3) := by decide +kernel
theorem dX11_unused_48 : decode cX11_unused 48 = .ok (.dup, 1) := by decide +kernel
theorem dX11_unused_49 : decode cX11_unused 49 = .ok (.ldc_w 374, 3) := by decide +kernel
theorem dX11_unused_52 : decode cX11_unused 52 = .ok (.invokespecial 376, 3) := by decide +kernel
theorem dX11_unused_55 : decode cX11_unused 55 = .ok (.athrow, 1) := by decide +kernel
theorem dX11_size_0 : decode cX11_size 0 = .ok (.iload_n 1, 1) := by decide +kernel
theorem dX11_size_1 : decode cX11_size 1 = .ok (.tableswitch 51 0 2 #[27, 32, 40], 27) := by decide +kernel
theorem dX11_size_28 : decode cX11_size 28 = .ok (.aload_n 0, 1) := by decide +kernel
theorem dX11_size_29 : decode cX11_size 29 = .ok (.getfield 51, 3) := by decide +kernel
theorem dX11_size_32 : decode cX11_size 32 = .ok (.ireturn, 1) := by decide +kernel
theorem dX11_size_33 : decode cX11_size 33 = .ok (.aload_n 0, 1) := by decide +kernel
theorem dX11_size_34 : decode cX11_size 34 = .ok (.getfield 33, 3) := by decide +kernel
theorem dX11_size_37 : decode cX11_size 37 = .ok (.getfield 358, 3) := by decide +kernel
theorem dX11_size_40 : decode cX11_size 40 = .ok (.ireturn, 1) := by decide +kernel
theorem dX11_size_41 : decode cX11_size 41 = .ok (.aload_n 0, 1) := by decide +kernel
theorem dX11_size_42 : decode cX11_size 42 = .ok (.getfield 16, 3) := by decide +kernel
theorem dX11_size_45 : decode cX11_size 45 = .ok (.getfield 95, 3) := by decide +kernel
theorem dX11_size_48 : decode cX11_size 48 = .ok (.invokevirtual 379, 3) := by decide +kernel
theorem dX11_size_51 : decode cX11_size 51 = .ok (.ireturn, 1) := by decide +kernel
theorem dX11_size_52 : decode cX11_size 52 = .ok (.iconst (-1), 1) := by decide +kernel
theorem dX11_size_53 : decode cX11_size 53 = .ok (.ireturn, 1) := by decide +kernel
theorem dX11_trouble_0 : decode cX11_trouble 0 = .ok (.aload_n 0, 1) := by decide +kernel
theorem dX11_trouble_1 : decode cX11_trouble 1 = .ok (.getfield 107, 3) := by decide +kernel
theorem dX11_trouble_4 : decode cX11_trouble 4 = .ok (.ireturn, 1) := by decide +kernel
theorem dX11_answer_0 : decode cX11_answer 0 = .ok (.aload_n 0, 1) := by decide +kernel
theorem dX11_answer_1 : decode cX11_answer 1 = .ok (.iconst 0, 1) := by decide +kernel
theorem dX11_answer_2 : decode cX11_answer 2 = .ok (.putfield 107, 3) := by decide +kernel
theorem dX11_answer_5 : decode cX11_answer 5 = .ok (.iload_n 1, 1) := by decide +kernel
theorem dX11_answer_6 : decode cX11_answer 6 = .ok (.ireturn, 1) := by decide +kernel
theorem dX11_refuse_0 : decode cX11_refuse 0 = .ok (.aload_n 0, 1) := by decide +kernel
theorem dX11_refuse_1 : decode cX11_refuse 1 = .ok (.iload_n 1, 1) := by decide +kernel
theorem dX11_refuse_2 : decode cX11_refuse 2 = .ok (.putfield 107, 3) := by decide +kernel
theorem dX11_refuse_5 : decode cX11_refuse 5 = .ok (.iconst (-1), 1) := by decide +kernel
theorem dX11_refuse_6 : decode cX11_refuse 6 = .ok (.ireturn, 1) := by decide +kernel
theorem dX11_refuseNumber_0 : decode cX11_refuseNumber 0 = .ok (.aload_n 0, 1) := by decide +kernel
theorem dX11_refuseNumber_1 : decode cX11_refuseNumber 1 = .ok (.iload_n 1, 1) := by decide +kernel
theorem dX11_refuseNumber_2 : decode cX11_refuseNumber 2 = .ok (.putfield 107, 3) := by decide +kernel
theorem dX11_refuseNumber_5 : decode cX11_refuseNumber 5 = .ok (.ldc_w 382, 3) := by decide +kernel
theorem dX11_refuseNumber_8 : decode cX11_refuseNumber 8 = .ok (.ireturn, 1) := by decide +kernel
theorem dX11_putBytes_0 : decode cX11_putBytes 0 = .ok (.bipush 24, 2) := by decide +kernel
theorem dX11_putBytes_2 : decode cX11_putBytes 2 = .ok (.istore_n 2, 1) := by decide +kernel
theorem dX11_putBytes_3 : decode cX11_putBytes 3 = .ok (.iload_n 2, 1) := by decide +kernel
theorem dX11_putBytes_4 : decode cX11_putBytes 4 = .ok (.ifCond .lt 42, 3) := by decide +kernel
theorem dX11_putBytes_7 : decode cX11_putBytes 7 = .ok (.aload_n 0, 1) := by decide +kernel
theorem dX11_putBytes_8 : decode cX11_putBytes 8 = .ok (.getfield 51, 3) := by decide +kernel
theorem dX11_putBytes_11 : decode cX11_putBytes 11 = .ok (.sipush 1000, 3) := by decide +kernel
theorem dX11_putBytes_14 : decode cX11_putBytes 14 = .ok (.if_icmp .ge 26, 3) := by decide +kernel
theorem dX11_putBytes_17 : decode cX11_putBytes 17 = .ok (.aload_n 0, 1) := by decide +kernel
theorem dX11_putBytes_18 : decode cX11_putBytes 18 = .ok (.getfield 9, 3) := by decide +kernel
theorem dX11_putBytes_21 : decode cX11_putBytes 21 = .ok (.aload_n 0, 1) := by decide +kernel
theorem dX11_putBytes_22 : decode cX11_putBytes 22 = .ok (.getfield 51, 3) := by decide +kernel
theorem dX11_putBytes_25 : decode cX11_putBytes 25 = .ok (.iload_n 1, 1) := by decide +kernel
theorem dX11_putBytes_26 : decode cX11_putBytes 26 = .ok (.iload_n 2, 1) := by decide +kernel
theorem dX11_putBytes_27 : decode cX11_putBytes 27 = .ok (.ishr, 1) := by decide +kernel
theorem dX11_putBytes_28 : decode cX11_putBytes 28 = .ok (.i2b, 1) := by decide +kernel
theorem dX11_putBytes_29 : decode cX11_putBytes 29 = .ok (.bastore, 1) := by decide +kernel
theorem dX11_putBytes_30 : decode cX11_putBytes 30 = .ok (.aload_n 0, 1) := by decide +kernel
theorem dX11_putBytes_31 : decode cX11_putBytes 31 = .ok (.dup, 1) := by decide +kernel
theorem dX11_putBytes_32 : decode cX11_putBytes 32 = .ok (.getfield 51, 3) := by decide +kernel
theorem dX11_putBytes_35 : decode cX11_putBytes 35 = .ok (.iconst 1, 1) := by decide +kernel
theorem dX11_putBytes_36 : decode cX11_putBytes 36 = .ok (.iadd, 1) := by decide +kernel
theorem dX11_putBytes_37 : decode cX11_putBytes 37 = .ok (.putfield 51, 3) := by decide +kernel
theorem dX11_putBytes_40 : decode cX11_putBytes 40 = .ok (.iinc 2 (-8), 3) := by decide +kernel
theorem dX11_putBytes_43 : decode cX11_putBytes 43 = .ok (.goto (-40), 3) := by decide +kernel
theorem dX11_putBytes_46 : decode cX11_putBytes 46 = .ok (.return_, 1) := by decide +kernel
theorem dX11_takeSpare_0 : decode cX11_takeSpare 0 = .ok (.aload_n 0, 1) := by decide +kernel
theorem dX11_takeSpare_1 : decode cX11_takeSpare 1 = .ok (.getfield 16, 3) := by decide +kernel
theorem dX11_takeSpare_4 : decode cX11_takeSpare 4 = .ok (.astore_n 1, 1) := by decide +kernel
theorem dX11_takeSpare_5 : decode cX11_takeSpare 5 = .ok (.aload_n 0, 1) := by decide +kernel
theorem dX11_takeSpare_6 : decode cX11_takeSpare 6 = .ok (.aload_n 0, 1) := by decide +kernel
theorem dX11_takeSpare_7 : decode cX11_takeSpare 7 = .ok (.getfield 20, 3) := by decide +kernel
theorem dX11_takeSpare_10 : decode cX11_takeSpare 10 = .ok (.putfield 16, 3) := by decide +kernel
theorem dX11_takeSpare_13 : decode cX11_takeSpare 13 = .ok (.aload_n 0, 1) := by decide +kernel
theorem dX11_takeSpare_14 : decode cX11_takeSpare 14 = .ok (.aload_n 1, 1) := by decide +kernel
theorem dX11_takeSpare_15 : decode cX11_takeSpare 15 = .ok (.putfield 20, 3) := by decide +kernel
theorem dX11_takeSpare_18 : decode cX11_takeSpare 18 = .ok (.aload_n 0, 1) := by decide +kernel
theorem dX11_takeSpare_19 : decode cX11_takeSpare 19 = .ok (.getfield 16, 3) := by decide +kernel
theorem dX11_takeSpare_22 : decode cX11_takeSpare 22 = .ok (.getfield 120, 3) := by decide +kernel
theorem dX11_takeSpare_25 : decode cX11_takeSpare 25 = .ok (.invokevirtual 383, 3) := by decide +kernel
theorem dX11_takeSpare_28 : decode cX11_takeSpare 28 = .ok (.aload_n 0, 1) := by decide +kernel
theorem dX11_takeSpare_29 : decode cX11_takeSpare 29 = .ok (.iconst 1, 1) := by decide +kernel
theorem dX11_takeSpare_30 : decode cX11_takeSpare 30 = .ok (.putfield 110, 3) := by decide +kernel
theorem dX11_takeSpare_33 : decode cX11_takeSpare 33 = .ok (.aload_n 0, 1) := by decide +kernel
theorem dX11_takeSpare_34 : decode cX11_takeSpare 34 = .ok (.getfield 33, 3) := by decide +kernel
theorem dX11_takeSpare_37 : decode cX11_takeSpare 37 = .ok (.iconst 0, 1) := by decide +kernel
theorem dX11_takeSpare_38 : decode cX11_takeSpare 38 = .ok (.putfield 358, 3) := by decide +kernel
theorem dX11_takeSpare_41 : decode cX11_takeSpare 41 = .ok (.return_, 1) := by decide +kernel
theorem dX11_isNode_0 : decode cX11_isNode 0 = .ok (.iload_n 1, 1) := by decide +kernel
theorem dX11_isNode_1 : decode cX11_isNode 1 = .ok (.ifCond .lt 21, 3) := by decide +kernel
theorem dX11_isNode_4 : decode cX11_isNode 4 = .ok (.iload_n 1, 1) := by decide +kernel
theorem dX11_isNode_5 : decode cX11_isNode 5 = .ok (.aload_n 0, 1) := by decide +kernel
theorem dX11_isNode_6 : decode cX11_isNode 6 = .ok (.getfield 16, 3) := by decide +kernel
theorem dX11_isNode_9 : decode cX11_isNode 9 = .ok (.getfield 120, 3) := by decide +kernel
theorem dX11_isNode_12 : decode cX11_isNode 12 = .ok (.getfield 124, 3) := by decide +kernel
theorem dX11_isNode_15 : decode cX11_isNode 15 = .ok (.if_icmp .ge 7, 3) := by decide +kernel
theorem dX11_isNode_18 : decode cX11_isNode 18 = .ok (.iconst 1, 1) := by decide +kernel
theorem dX11_isNode_19 : decode cX11_isNode 19 = .ok (.goto 4, 3) := by decide +kernel
theorem dX11_isNode_22 : decode cX11_isNode 22 = .ok (.iconst 0, 1) := by decide +kernel
theorem dX11_isNode_23 : decode cX11_isNode 23 = .ok (.ireturn, 1) := by decide +kernel
theorem dX11_isBundle_0 : decode cX11_isBundle 0 = .ok (.iload_n 1, 1) := by decide +kernel
theorem dX11_isBundle_1 : decode cX11_isBundle 1 = .ok (.ifCond .le 15, 3) := by decide +kernel
theorem dX11_isBundle_4 : decode cX11_isBundle 4 = .ok (.aload_n 0, 1) := by decide +kernel
theorem dX11_isBundle_5 : decode cX11_isBundle 5 = .ok (.iload_n 1, 1) := by decide +kernel
theorem dX11_isBundle_6 : decode cX11_isBundle 6 = .ok (.invokevirtual 148, 3) := by decide +kernel
theorem dX11_isBundle_9 : decode cX11_isBundle 9 = .ok (.ifCond .eq 7, 3) := by decide +kernel
theorem dX11_isBundle_12 : decode cX11_isBundle 12 = .ok (.iconst 1, 1) := by decide +kernel
theorem dX11_isBundle_13 : decode cX11_isBundle 13 = .ok (.goto 4, 3) := by decide +kernel
theorem dX11_isBundle_16 : decode cX11_isBundle 16 = .ok (.iconst 0, 1) := by decide +kernel
theorem dX11_isBundle_17 : decode cX11_isBundle 17 = .ok (.ireturn, 1) := by decide +kernel
theorem dX11_isPlug_0 : decode cX11_isPlug 0 = .ok (.iload_n 1, 1) := by decide +kernel
theorem dX11_isPlug_1 : decode cX11_isPlug 1 = .ok (.ifCond .lt 21, 3) := by decide +kernel
theorem dX11_isPlug_4 : decode cX11_isPlug 4 = .ok (.iload_n 1, 1) := by decide +kernel
theorem dX11_isPlug_5 : decode cX11_isPlug 5 = .ok (.aload_n 0, 1) := by decide +kernel
theorem dX11_isPlug_6 : decode cX11_isPlug 6 = .ok (.getfield 16, 3) := by decide +kernel
theorem dX11_isPlug_9 : decode cX11_isPlug 9 = .ok (.getfield 130, 3) := by decide +kernel
theorem dX11_isPlug_12 : decode cX11_isPlug 12 = .ok (.getfield 134, 3) := by decide +kernel
theorem dX11_isPlug_15 : decode cX11_isPlug 15 = .ok (.if_icmp .ge 7, 3) := by decide +kernel
theorem dX11_isPlug_18 : decode cX11_isPlug 18 = .ok (.iconst 1, 1) := by decide +kernel
theorem dX11_isPlug_19 : decode cX11_isPlug 19 = .ok (.goto 4, 3) := by decide +kernel
theorem dX11_isPlug_22 : decode cX11_isPlug 22 = .ok (.iconst 0, 1) := by decide +kernel
theorem dX11_isPlug_23 : decode cX11_isPlug 23 = .ok (.ireturn, 1) := by decide +kernel
theorem dX11_isNet_0 : decode cX11_isNet 0 = .ok (.iload_n 1, 1) := by decide +kernel
theorem dX11_isNet_1 : decode cX11_isNet 1 = .ok (.ifCond .lt 21, 3) := by decide +kernel
theorem dX11_isNet_4 : decode cX11_isNet 4 = .ok (.iload_n 1, 1) := by decide +kernel
theorem dX11_isNet_5 : decode cX11_isNet 5 = .ok (.aload_n 0, 1) := by decide +kernel
theorem dX11_isNet_6 : decode cX11_isNet 6 = .ok (.getfield 16, 3) := by decide +kernel
theorem dX11_isNet_9 : decode cX11_isNet 9 = .ok (.getfield 95, 3) := by decide +kernel
theorem dX11_isNet_12 : decode cX11_isNet 12 = .ok (.getfield 99, 3) := by decide +kernel
theorem dX11_isNet_15 : decode cX11_isNet 15 = .ok (.if_icmp .ge 7, 3) := by decide +kernel
theorem dX11_isNet_18 : decode cX11_isNet 18 = .ok (.iconst 1, 1) := by decide +kernel
theorem dX11_isNet_19 : decode cX11_isNet 19 = .ok (.goto 4, 3) := by decide +kernel
theorem dX11_isNet_22 : decode cX11_isNet 22 = .ok (.iconst 0, 1) := by decide +kernel
theorem dX11_isNet_23 : decode cX11_isNet 23 = .ok (.ireturn, 1) := by decide +kernel
theorem dX11_isPin_0 : decode cX11_isPin 0 = .ok (.aload_n 0, 1) := by decide +kernel
theorem dX11_isPin_1 : decode cX11_isPin 1 = .ok (.iload_n 1, 1) := by decide +kernel
theorem dX11_isPin_2 : decode cX11_isPin 2 = .ok (.invokevirtual 227, 3) := by decide +kernel
theorem dX11_isPin_5 : decode cX11_isPin 5 = .ok (.ifCond .eq 27, 3) := by decide +kernel
theorem dX11_isPin_8 : decode cX11_isPin 8 = .ok (.iload_n 2, 1) := by decide +kernel
theorem dX11_isPin_9 : decode cX11_isPin 9 = .ok (.ifCond .lt 23, 3) := by decide +kernel
theorem dX11_isPin_12 : decode cX11_isPin 12 = .ok (.iload_n 2, 1) := by decide +kernel
theorem dX11_isPin_13 : decode cX11_isPin 13 = .ok (.aload_n 0, 1) := by decide +kernel
theorem dX11_isPin_14 : decode cX11_isPin 14 = .ok (.getfield 16, 3) := by decide +kernel
theorem dX11_isPin_17 : decode cX11_isPin 17 = .ok (.getfield 95, 3) := by decide +kernel
theorem dX11_isPin_20 : decode cX11_isPin 20 = .ok (.getfield 236, 3) := by decide +kernel
theorem dX11_isPin_23 : decode cX11_isPin 23 = .ok (.iload_n 1, 1) := by decide +kernel
theorem dX11_isPin_24 : decode cX11_isPin 24 = .ok (.iaload, 1) := by decide +kernel
theorem dX11_isPin_25 : decode cX11_isPin 25 = .ok (.if_icmp .ge 7, 3) := by decide +kernel
theorem dX11_isPin_28 : decode cX11_isPin 28 = .ok (.iconst 1, 1) := by decide +kernel
theorem dX11_isPin_29 : decode cX11_isPin 29 = .ok (.goto 4, 3) := by decide +kernel
theorem dX11_isPin_32 : decode cX11_isPin 32 = .ok (.iconst 0, 1) := by decide +kernel
theorem dX11_isPin_33 : decode cX11_isPin 33 = .ok (.ireturn, 1) := by decide +kernel
theorem dX11_isBuild_0 : decode cX11_isBuild 0 = .ok (.iload_n 1, 1) := by decide +kernel
theorem dX11_isBuild_1 : decode cX11_isBuild 1 = .ok (.ifCond .lt 21, 3) := by decide +kernel
theorem dX11_isBuild_4 : decode cX11_isBuild 4 = .ok (.iload_n 1, 1) := by decide +kernel
theorem dX11_isBuild_5 : decode cX11_isBuild 5 = .ok (.aload_n 0, 1) := by decide +kernel
theorem dX11_isBuild_6 : decode cX11_isBuild 6 = .ok (.getfield 16, 3) := by decide +kernel
theorem dX11_isBuild_9 : decode cX11_isBuild 9 = .ok (.getfield 137, 3) := by decide +kernel
theorem dX11_isBuild_12 : decode cX11_isBuild 12 = .ok (.getfield 141, 3) := by decide +kernel
theorem dX11_isBuild_15 : decode cX11_isBuild 15 = .ok (.if_icmp .ge 7, 3) := by decide +kernel
theorem dX11_isBuild_18 : decode cX11_isBuild 18 = .ok (.iconst 1, 1) := by decide +kernel
theorem dX11_isBuild_19 : decode cX11_isBuild 19 = .ok (.goto 4, 3) := by decide +kernel
theorem dX11_isBuild_22 : decode cX11_isBuild 22 = .ok (.iconst 0, 1) := by decide +kernel
theorem dX11_isBuild_23 : decode cX11_isBuild 23 = .ok (.ireturn, 1) := by decide +kernel
theorem dX11_isFamilyCount_0 : decode cX11_isFamilyCount 0 = .ok (.iload_n 1, 1) := by decide +kernel
theorem dX11_isFamilyCount_1 : decode cX11_isFamilyCount 1 = .ok (.iconst 1, 1) := by decide +kernel
theorem dX11_isFamilyCount_2 : decode cX11_isFamilyCount 2 = .ok (.if_icmp .lt 12, 3) := by decide +kernel
theorem dX11_isFamilyCount_5 : decode cX11_isFamilyCount 5 = .ok (.iload_n 1, 1) := by decide +kernel
theorem dX11_isFamilyCount_6 : decode cX11_isFamilyCount 6 = .ok (.iconst 5, 1) := by decide +kernel
theorem dX11_isFamilyCount_7 : decode cX11_isFamilyCount 7 = .ok (.if_icmp .gt 7, 3) := by decide +kernel
theorem dX11_isFamilyCount_10 : decode cX11_isFamilyCount 10 = .ok (.iconst 1, 1) := by decide +kernel
theorem dX11_isFamilyCount_11 : decode cX11_isFamilyCount 11 = .ok (.goto 4, 3) := by decide +kernel
theorem dX11_isFamilyCount_14 : decode cX11_isFamilyCount 14 = .ok (.iconst 0, 1) := by decide +kernel
theorem dX11_isFamilyCount_15 : decode cX11_isFamilyCount 15 = .ok (.ireturn, 1) := by decide +kernel
theorem dX11_troubleOf_0 : decode cX11_troubleOf 0 = .ok (.iload_n 1, 1) := by decide +kernel
theorem dX11_troubleOf_1 : decode cX11_troubleOf 1 = .ok (.ifCond .ne 5, 3) := by decide +kernel
theorem dX11_troubleOf_4 : decode cX11_troubleOf 4 = .ok (.iconst 1, 1) := by decide +kernel
theorem dX11_troubleOf_5 : decode cX11_troubleOf 5 = .ok (.ireturn, 1) := by decide +kernel
theorem dX11_troubleOf_6 : decode cX11_troubleOf 6 = .ok (.iload_n 2, 1) := by decide +kernel
theorem dX11_troubleOf_7 : decode cX11_troubleOf 7 = .ok (.ifCond .lt 16, 3) := by decide +kernel
theorem dX11_troubleOf_10 : decode cX11_troubleOf 10 = .ok (.iload_n 2, 1) := by decide +kernel
theorem dX11_troubleOf_11 : decode cX11_troubleOf 11 = .ok (.iconst 1, 1) := by decide +kernel
theorem dX11_troubleOf_12 : decode cX11_troubleOf 12 = .ok (.aload_n 0, 1) := by decide +kernel
theorem dX11_troubleOf_13 : decode cX11_troubleOf 13 = .ok (.getfield 16, 3) := by decide +kernel
theorem dX11_troubleOf_16 : decode cX11_troubleOf 16 = .ok (.getfield 127, 3) := by decide +kernel
theorem dX11_troubleOf_19 : decode cX11_troubleOf 19 = .ok (.ishl, 1) := by decide +kernel
theorem dX11_troubleOf_20 : decode cX11_troubleOf 20 = .ok (.if_icmp .lt 7, 3) := by decide +kernel
theorem dX11_troubleOf_23 : decode cX11_troubleOf 23 = .ok (.iconst 2, 1) := by decide +kernel
theorem dX11_troubleOf_24 : decode cX11_troubleOf 24 = .ok (.goto 4, 3) := by decide +kernel
theorem dX11_troubleOf_27 : decode cX11_troubleOf 27 = .ok (.iconst 0, 1) := by decide +kernel
theorem dX11_troubleOf_28 : decode cX11_troubleOf 28 = .ok (.ireturn, 1) := by decide +kernel
theorem dX11_troubleOfBuilds_0 : decode cX11_troubleOfBuilds 0 = .ok (.iload_n 1, 1) := by decide +kernel
theorem dX11_troubleOfBuilds_1 : decode cX11_troubleOfBuilds 1 = .ok (.ifCond .ne 5, 3) := by decide +kernel
theorem dX11_troubleOfBuilds_4 : decode cX11_troubleOfBuilds 4 = .ok (.iconst 1, 1) := by decide +kernel
theorem dX11_troubleOfBuilds_5 : decode cX11_troubleOfBuilds 5 = .ok (.ireturn, 1) := by decide +kernel
theorem dX11_troubleOfBuilds_6 : decode cX11_troubleOfBuilds 6 = .ok (.iload_n 2, 1) := by decide +kernel
theorem dX11_troubleOfBuilds_7 : decode cX11_troubleOfBuilds 7 = .ok (.iconst 1, 1) := by decide +kernel
theorem dX11_troubleOfBuilds_8 : decode cX11_troubleOfBuilds 8 = .ok (.if_icmp .lt 19, 3) := by decide +kernel
theorem dX11_troubleOfBuilds_11 : decode cX11_troubleOfBuilds 11 = .ok (.iload_n 2, 1) := by decide +kernel
theorem dX11_troubleOfBuilds_12 : decode cX11_troubleOfBuilds 12 = .ok (.iconst 1, 1) := by decide +kernel
theorem dX11_troubleOfBuilds_13 : decode cX11_troubleOfBuilds 13 = .ok (.aload_n 0, 1) := by decide +kernel
theorem dX11_troubleOfBuilds_14 : decode cX11_troubleOfBuilds 14 = .ok (.getfield 16, 3) := by decide +kernel
theorem dX11_troubleOfBuilds_17 : decode cX11_troubleOfBuilds 17 = .ok (.getfield 137, 3) := by decide +kernel
theorem dX11_troubleOfBuilds_20 : decode cX11_troubleOfBuilds 20 = .ok (.getfield 141, 3) := by decide +kernel
theorem dX11_troubleOfBuilds_23 : decode cX11_troubleOfBuilds 23 = .ok (.ishl, 1) := by decide +kernel
theorem dX11_troubleOfBuilds_24 : decode cX11_troubleOfBuilds 24 = .ok (.if_icmp .lt 7, 3) := by decide +kernel
theorem dX11_troubleOfBuilds_27 : decode cX11_troubleOfBuilds 27 = .ok (.iconst 2, 1) := by decide +kernel
theorem dX11_troubleOfBuilds_28 : decode cX11_troubleOfBuilds 28 = .ok (.goto 4, 3) := by decide +kernel
theorem dX11_troubleOfBuilds_31 : decode cX11_troubleOfBuilds 31 = .ok (.iconst 0, 1) := by decide +kernel
theorem dX11_troubleOfBuilds_32 : decode cX11_troubleOfBuilds 32 = .ok (.ireturn, 1) := by decide +kernel
theorem dX11_troubleOfFamilies_0 : decode cX11_troubleOfFamilies 0 = .ok (.aload_n 0, 1) := by decide +kernel
theorem dX11_troubleOfFamilies_1 : decode cX11_troubleOfFamilies 1 = .ok (.getfield 110, 3) := by decide +kernel
theorem dX11_troubleOfFamilies_4 : decode cX11_troubleOfFamilies 4 = .ok (.ifCond .ne 5, 3) := by decide +kernel
theorem dX11_troubleOfFamilies_7 : decode cX11_troubleOfFamilies 7 = .ok (.iconst 1, 1) := by decide +kernel
theorem dX11_troubleOfFamilies_8 : decode cX11_troubleOfFamilies 8 = .ok (.ireturn, 1) := by decide +kernel
theorem dX11_troubleOfFamilies_9 : decode cX11_troubleOfFamilies 9 = .ok (.aload_n 0, 1) := by decide +kernel
theorem dX11_troubleOfFamilies_10 : decode cX11_troubleOfFamilies 10 = .ok (.iload_n 1, 1) := by decide +kernel
theorem dX11_troubleOfFamilies_11 : decode cX11_troubleOfFamilies 11 = .ok (.invokevirtual 344, 3) := by decide +kernel
theorem dX11_troubleOfFamilies_14 : decode cX11_troubleOfFamilies 14 = .ok (.ifCond .ne 5, 3) := by decide +kernel
theorem dX11_troubleOfFamilies_17 : decode cX11_troubleOfFamilies 17 = .ok (.iconst 2, 1) := by decide +kernel
theorem dX11_troubleOfFamilies_18 : decode cX11_troubleOfFamilies 18 = .ok (.ireturn, 1) := by decide +kernel
theorem dX11_troubleOfFamilies_19 : decode cX11_troubleOfFamilies 19 = .ok (.aload_n 0, 1) := by decide +kernel
theorem dX11_troubleOfFamilies_20 : decode cX11_troubleOfFamilies 20 = .ok (.getfield 16, 3) := by decide +kernel
theorem dX11_troubleOfFamilies_23 : decode cX11_troubleOfFamilies 23 = .ok (.getfield 137, 3) := by decide +kernel
theorem dX11_troubleOfFamilies_26 : decode cX11_troubleOfFamilies 26 = .ok (.getfield 141, 3) := by decide +kernel
theorem dX11_troubleOfFamilies_29 : decode cX11_troubleOfFamilies 29 = .ok (.ifCond .ne 7, 3) := by decide +kernel
theorem dX11_troubleOfFamilies_32 : decode cX11_troubleOfFamilies 32 = .ok (.iconst 5, 1) := by decide +kernel
theorem dX11_troubleOfFamilies_33 : decode cX11_troubleOfFamilies 33 = .ok (.goto 4, 3) := by decide +kernel
theorem dX11_troubleOfFamilies_36 : decode cX11_troubleOfFamilies 36 = .ok (.iconst 0, 1) := by decide +kernel
theorem dX11_troubleOfFamilies_37 : decode cX11_troubleOfFamilies 37 = .ok (.ireturn, 1) := by decide +kernel
theorem dX12_init_0 : decode cX12_init 0 = .ok (.aload_n 0, 1) := by decide +kernel
theorem dX12_init_1 : decode cX12_init 1 = .ok (.invokespecial 3, 3) := by decide +kernel
theorem dX12_init_4 : decode cX12_init 4 = .ok (.aload_n 0, 1) := by decide +kernel
theorem dX12_init_5 : decode cX12_init 5 = .ok (.iconst (-1), 1) := by decide +kernel
theorem dX12_init_6 : decode cX12_init 6 = .ok (.putfield 9, 3) := by decide +kernel
theorem dX12_init_9 : decode cX12_init 9 = .ok (.aload_n 0, 1) := by decide +kernel
theorem dX12_init_10 : decode cX12_init 10 = .ok (.sipush 1000, 3) := by decide +kernel
theorem dX12_init_13 : decode cX12_init 13 = .ok (.newarray .int, 2) := by decide +kernel
theorem dX12_init_15 : decode cX12_init 15 = .ok (.putfield 13, 3) := by decide +kernel
theorem dX12_init_18 : decode cX12_init 18 = .ok (.aload_n 0, 1) := by decide +kernel
theorem dX12_init_19 : decode cX12_init 19 = .ok (.sipush 267, 3) := by decide +kernel
theorem dX12_init_22 : decode cX12_init 22 = .ok (.newarray .int, 2) := by decide +kernel
theorem dX12_init_24 : decode cX12_init 24 = .ok (.putfield 17, 3) := by decide +kernel
theorem dX12_init_27 : decode cX12_init 27 = .ok (.aload_n 0, 1) := by decide +kernel
theorem dX12_init_28 : decode cX12_init 28 = .ok (.sipush 267, 3) := by decide +kernel
theorem dX12_init_31 : decode cX12_init 31 = .ok (.newarray .int, 2) := by decide +kernel
theorem dX12_init_33 : decode cX12_init 33 = .ok (.putfield 20, 3) := by decide +kernel
theorem dX12_init_36 : decode cX12_init 36 = .ok (.aload_n 0, 1) := by decide +kernel
theorem dX12_init_37 : decode cX12_init 37 = .ok (.bipush 36, 2) := by decide +kernel
theorem dX12_init_39 : decode cX12_init 39 = .ok (.newarray .long, 2) := by decide +kernel
theorem dX12_init_41 : decode cX12_init 41 = .ok (.putfield 23, 3) := by decide +kernel
theorem dX12_init_44 : decode cX12_init 44 = .ok (.aload_n 0, 1) := by decide +kernel
theorem dX12_init_45 : decode cX12_init 45 = .ok (.bipush 36, 2) := by decide +kernel
theorem dX12_init_47 : decode cX12_init 47 = .ok (.newarray .int, 2) := by decide +kernel
theorem dX12_init_49 : decode cX12_init 49 = .ok (.putfield 27, 3) := by decide +kernel
theorem dX12_init_52 : decode cX12_init 52 = .ok (.aload_n 0, 1) := by decide +kernel
theorem dX12_init_53 : decode cX12_init 53 = .ok (.bipush 36, 2) := by decide +kernel
theorem dX12_init_55 : decode cX12_init 55 = .ok (.newarray .long, 2) := by decide +kernel
theorem dX12_init_57 : decode cX12_init 57 = .ok (.putfield 30, 3) := by decide +kernel
theorem dX12_init_60 : decode cX12_init 60 = .ok (.aload_n 0, 1) := by decide +kernel
theorem dX12_init_61 : decode cX12_init 61 = .ok (.bipush 36, 2) := by decide +kernel
theorem dX12_init_63 : decode cX12_init 63 = .ok (.newarray .int, 2) := by decide +kernel
theorem dX12_init_65 : decode cX12_init 65 = .ok (.putfield 33, 3) := by decide +kernel
theorem dX12_init_68 : decode cX12_init 68 = .ok (.aload_n 0, 1) := by decide +kernel
theorem dX12_init_69 : decode cX12_init 69 = .ok (.bipush 14, 2) := by decide +kernel
theorem dX12_init_71 : decode cX12_init 71 = .ok (.newarray .int, 2) := by decide +kernel
theorem dX12_init_73 : decode cX12_init 73 = .ok (.putfield 36, 3) := by decide +kernel
theorem dX12_init_76 : decode cX12_init 76 = .ok (.aload_n 0, 1) := by decide +kernel
theorem dX12_init_77 : decode cX12_init 77 = .ok (.bipush 14, 2) := by decide +kernel
theorem dX12_init_79 : decode cX12_init 79 = .ok (.newarray .int, 2) := by decide +kernel
theorem dX12_init_81 : decode cX12_init 81 = .ok (.putfield 39, 3) := by decide +kernel
theorem dX12_init_84 : decode cX12_init 84 = .ok (.aload_n 0, 1) := by decide +kernel
theorem dX12_init_85 : decode cX12_init 85 = .ok (.sipush 800, 3) := by decide +kernel
theorem dX12_init_88 : decode cX12_init 88 = .ok (.newarray .int, 2) := by decide +kernel
theorem dX12_init_90 : decode cX12_init 90 = .ok (.putfield 42, 3) := by decide +kernel
theorem dX12_init_93 : decode cX12_init 93 = .ok (.aload_n 0, 1) := by decide +kernel
theorem dX12_init_94 : decode cX12_init 94 = .ok (.iconst 5, 1) := by decide +kernel
theorem dX12_init_95 : decode cX12_init 95 = .ok (.newarray .int, 2) := by decide +kernel
theorem dX12_init_97 : decode cX12_init 97 = .ok (.putfield 45, 3) := by decide +kernel
theorem dX12_init_100 : decode cX12_init 100 = .ok (.aload_n 0, 1) := by decide +kernel
theorem dX12_init_101 : decode cX12_init 101 = .ok (.iconst 5, 1) := by decide +kernel
theorem dX12_init_102 : decode cX12_init 102 = .ok (.newarray .int, 2) := by decide +kernel
theorem dX12_init_104 : decode cX12_init 104 = .ok (.putfield 48, 3) := by decide +kernel
theorem dX12_init_107 : decode cX12_init 107 = .ok (.aload_n 0, 1) := by decide +kernel
theorem dX12_init_108 : decode cX12_init 108 = .ok (.bipush 10, 2) := by decide +kernel
theorem dX12_init_110 : decode cX12_init 110 = .ok (.newarray .int, 2) := by decide +kernel
theorem dX12_init_112 : decode cX12_init 112 = .ok (.putfield 51, 3) := by decide +kernel
theorem dX12_init_115 : decode cX12_init 115 = .ok (.aload_n 0, 1) := by decide +kernel
theorem dX12_init_116 : decode cX12_init 116 = .ok (.bipush 10, 2) := by decide +kernel
theorem dX12_init_118 : decode cX12_init 118 = .ok (.newarray .int, 2) := by decide +kernel
theorem dX12_init_120 : decode cX12_init 120 = .ok (.putfield 54, 3) := by decide +kernel
theorem dX12_init_123 : decode cX12_init 123 = .ok (.return_, 1) := by decide +kernel
theorem dX12_thrown_0 : decode cX12_thrown 0 = .ok (.aload_n 0, 1) := by decide +kernel
theorem dX12_thrown_1 : decode cX12_thrown 1 = .ok (.getfield 57, 3) := by decide +kernel
theorem dX12_thrown_4 : decode cX12_thrown 4 = .ok (.ireturn, 1) := by decide +kernel
theorem dX12_in_0 : decode cX12_in 0 = .ok (.iload_n 0, 1) := by decide +kernel
theorem dX12_in_1 : decode cX12_in 1 = .ok (.iload_n 1, 1) := by decide +kernel
theorem dX12_in_2 : decode cX12_in 2 = .ok (.if_icmp .lt 12, 3) := by decide +kernel
theorem dX12_in_5 : decode cX12_in 5 = .ok (.iload_n 0, 1) := by decide +kernel
theorem dX12_in_6 : decode cX12_in 6 = .ok (.iload_n 2, 1) := by decide +kernel
theorem dX12_in_7 : decode cX12_in 7 = .ok (.if_icmp .gt 7, 3) := by decide +kernel
theorem dX12_in_10 : decode cX12_in 10 = .ok (.iconst 1, 1) := by decide +kernel
theorem dX12_in_11 : decode cX12_in 11 = .ok (.goto 4, 3) := by decide +kernel
theorem dX12_in_14 : decode cX12_in 14 = .ok (.iconst 0, 1) := by decide +kernel
theorem dX12_in_15 : decode cX12_in 15 = .ok (.ireturn, 1) := by decide +kernel
theorem dX12_no_0 : decode cX12_no 0 = .ok (.aload_n 0, 1) := by decide +kernel
theorem dX12_no_1 : decode cX12_no 1 = .ok (.iload_n 1, 1) := by decide +kernel
theorem dX12_no_2 : decode cX12_no 2 = .ok (.putfield 60, 3) := by decide +kernel
theorem dX12_no_5 : decode cX12_no 5 = .ok (.iconst (-1), 1) := by decide +kernel
theorem dX12_no_6 : decode cX12_no 6 = .ok (.ireturn, 1) := by decide +kernel
theorem dX12_isRefused_0 : decode cX12_isRefused 0 = .ok (.aload_n 0, 1) := by decide +kernel
theorem dX12_isRefused_1 : decode cX12_isRefused 1 = .ok (.iconst 0, 1) := by decide +kernel
theorem dX12_isRefused_2 : decode cX12_isRefused 2 = .ok (.putfield 57, 3) := by decide +kernel
theorem dX12_isRefused_5 : decode cX12_isRefused 5 = .ok (.aload_n 0, 1) := by decide +kernel
theorem dX12_isRefused_6 : decode cX12_isRefused 6 = .ok (.iconst (-1), 1) := by decide +kernel
theorem dX12_isRefused_7 : decode cX12_isRefused 7 = .ok (.putfield 9, 3) := by decide +kernel
theorem dX12_isRefused_10 : decode cX12_isRefused 10 = .ok (.aload_n 0, 1) := by decide +kernel
theorem dX12_isRefused_11 : decode cX12_isRefused 11 = .ok (.iload_n 1, 1) := by decide +kernel
theorem dX12_isRefused_12 : decode cX12_isRefused 12 = .ok (.putfield 60, 3) := by decide +kernel
theorem dX12_isRefused_15 : decode cX12_isRefused 15 = .ok (.iload_n 1, 1) := by decide +kernel
theorem dX12_isRefused_16 : decode cX12_isRefused 16 = .ok (.ifCond .eq 7, 3) := by decide +kernel
theorem dX12_isRefused_19 : decode cX12_isRefused 19 = .ok (.iconst 1, 1) := by decide +kernel
theorem dX12_isRefused_20 : decode cX12_isRefused 20 = .ok (.goto 4, 3) := by decide +kernel
theorem dX12_isRefused_23 : decode cX12_isRefused 23 = .ok (.iconst 0, 1) := by decide +kernel
theorem dX12_isRefused_24 : decode cX12_isRefused 24 = .ok (.ireturn, 1) := by decide +kernel
theorem dX12_unless_0 : decode cX12_unless 0 = .ok (.iload_n 0, 1) := by decide +kernel
theorem dX12_unless_1 : decode cX12_unless 1 = .ok (.ifCond .eq 7, 3) := by decide +kernel
theorem dX12_unless_4 : decode cX12_unless 4 = .ok (.iconst 0, 1) := by decide +kernel
theorem dX12_unless_5 : decode cX12_unless 5 = .ok (.goto 4, 3) := by decide +kernel
theorem dX12_unless_8 : decode cX12_unless 8 = .ok (.iconst 1, 1) := by decide +kernel
theorem dX12_unless_9 : decode cX12_unless 9 = .ok (.ireturn, 1) := by decide +kernel
theorem dX12_feed_0 : decode cX12_feed 0 = .ok (.aload_n 0, 1) := by decide +kernel
theorem dX12_feed_1 : decode cX12_feed 1 = .ok (.iconst 0, 1) := by decide +kernel
theorem dX12_feed_2 : decode cX12_feed 2 = .ok (.putfield 57, 3) := by decide +kernel
theorem dX12_feed_5 : decode cX12_feed 5 = .ok (.aload_n 0, 1) := by decide +kernel
theorem dX12_feed_6 : decode cX12_feed 6 = .ok (.getfield 63, 3) := by decide +kernel
theorem dX12_feed_9 : decode cX12_feed 9 = .ok (.sipush 980, 3) := by decide +kernel
theorem dX12_feed_12 : decode cX12_feed 12 = .ok (.if_icmp .le 5, 3) := by decide +kernel
theorem dX12_feed_15 : decode cX12_feed 15 = .ok (.iconst (-1), 1) := by decide +kernel
theorem dX12_feed_16 : decode cX12_feed 16 = .ok (.ireturn, 1) := by decide +kernel
theorem dX12_feed_17 : decode cX12_feed 17 = .ok (.aload_n 0, 1) := by decide +kernel
theorem dX12_feed_18 : decode cX12_feed 18 = .ok (.iload_n 1, 1) := by decide +kernel
theorem dX12_feed_19 : decode cX12_feed 19 = .ok (.invokevirtual 66, 3) := by decide +kernel
theorem dX12_feed_22 : decode cX12_feed 22 = .ok (.aload_n 0, 1) := by decide +kernel
theorem dX12_feed_23 : decode cX12_feed 23 = .ok (.iload_n 2, 1) := by decide +kernel
theorem dX12_feed_24 : decode cX12_feed 24 = .ok (.invokevirtual 66, 3) := by decide +kernel
theorem dX12_feed_27 : decode cX12_feed 27 = .ok (.aload_n 0, 1) := by decide +kernel
theorem dX12_feed_28 : decode cX12_feed 28 = .ok (.iload_n 3, 1) := by decide +kernel
theorem dX12_feed_29 : decode cX12_feed 29 = .ok (.invokevirtual 66, 3) := by decide +kernel
theorem dX12_feed_32 : decode cX12_feed 32 = .ok (.aload_n 0, 1) := by decide +kernel
theorem dX12_feed_33 : decode cX12_feed 33 = .ok (.iload 4, 2) := by decide +kernel
theorem dX12_feed_35 : decode cX12_feed 35 = .ok (.invokevirtual 66, 3) := by decide +kernel
theorem dX12_feed_38 : decode cX12_feed 38 = .ok (.aload_n 0, 1) := by decide +kernel
theorem dX12_feed_39 : decode cX12_feed 39 = .ok (.iload 5, 2) := by decide +kernel
theorem dX12_feed_41 : decode cX12_feed 41 = .ok (.invokevirtual 66, 3) := by decide +kernel
theorem dX12_feed_44 : decode cX12_feed 44 = .ok (.aload_n 0, 1) := by decide +kernel
theorem dX12_feed_45 : decode cX12_feed 45 = .ok (.getfield 63, 3) := by decide +kernel
theorem dX12_feed_48 : decode cX12_feed 48 = .ok (.ireturn, 1) := by decide +kernel
theorem dX12_laysWord_0 : decode cX12_laysWord 0 = .ok (.iconst 0, 1) := by decide +kernel
theorem dX12_laysWord_1 : decode cX12_laysWord 1 = .ok (.istore_n 2, 1) := by decide +kernel
theorem dX12_laysWord_2 : decode cX12_laysWord 2 = .ok (.iload_n 2, 1) := by decide +kernel
theorem dX12_laysWord_3 : decode cX12_laysWord 3 = .ok (.iconst 4, 1) := by decide +kernel
theorem dX12_laysWord_4 : decode cX12_laysWord 4 = .ok (.if_icmp .ge 33, 3) := by decide +kernel
theorem dX12_laysWord_7 : decode cX12_laysWord 7 = .ok (.aload_n 0, 1) := by decide +kernel
theorem dX12_laysWord_8 : decode cX12_laysWord 8 = .ok (.getfield 13, 3) := by decide +kernel
theorem dX12_laysWord_11 : decode cX12_laysWord 11 = .ok (.aload_n 0, 1) := by decide +kernel
theorem dX12_laysWord_12 : decode cX12_laysWord 12 = .ok (.getfield 63, 3) := by decide +kernel
theorem dX12_laysWord_15 : decode cX12_laysWord 15 = .ok (.iload_n 2, 1) := by decide +kernel
theorem dX12_laysWord_16 : decode cX12_laysWord 16 = .ok (.iadd, 1) := by decide +kernel
theorem dX12_laysWord_17 : decode cX12_laysWord 17 = .ok (.iload_n 1, 1) := by decide +kernel
theorem dX12_laysWord_18 : decode cX12_laysWord 18 = .ok (.bipush 24, 2) := by decide +kernel
theorem dX12_laysWord_20 : decode cX12_laysWord 20 = .ok (.bipush 8, 2) := by decide +kernel
theorem dX12_laysWord_22 : decode cX12_laysWord 22 = .ok (.iload_n 2, 1) := by decide +kernel
theorem dX12_laysWord_23 : decode cX12_laysWord 23 = .ok (.imul, 1) := by decide +kernel
theorem dX12_laysWord_24 : decode cX12_laysWord 24 = .ok (.isub, 1) := by decide +kernel
theorem dX12_laysWord_25 : decode cX12_laysWord 25 = .ok (.ishr, 1) := by decide +kernel
theorem dX12_laysWord_26 : decode cX12_laysWord 26 = .ok (.sipush 255, 3) := by decide +kernel
theorem dX12_laysWord_29 : decode cX12_laysWord 29 = .ok (.iand, 1) := by decide +kernel
theorem dX12_laysWord_30 : decode cX12_laysWord 30 = .ok (.iastore, 1) := by decide +kernel
theorem dX12_laysWord_31 : decode cX12_laysWord 31 = .ok (.iinc 2 1, 3) := by decide +kernel
theorem dX12_laysWord_34 : decode cX12_laysWord 34 = .ok (.goto (-32), 3) := by decide +kernel
theorem dX12_laysWord_37 : decode cX12_laysWord 37 = .ok (.aload_n 0, 1) := by decide +kernel
theorem dX12_laysWord_38 : decode cX12_laysWord 38 = .ok (.dup, 1) := by decide +kernel
theorem dX12_laysWord_39 : decode cX12_laysWord 39 = .ok (.getfield 63, 3) := by decide +kernel
theorem dX12_laysWord_42 : decode cX12_laysWord 42 = .ok (.iconst 4, 1) := by decide +kernel
theorem dX12_laysWord_43 : decode cX12_laysWord 43 = .ok (.iadd, 1) := by decide +kernel
theorem dX12_laysWord_44 : decode cX12_laysWord 44 = .ok (.putfield 63, 3) := by decide +kernel
theorem dX12_laysWord_47 : decode cX12_laysWord 47 = .ok (.return_, 1) := by decide +kernel
theorem dX12_see_0 : decode cX12_see 0 = .ok (.iload_n 1, 1) := by decide +kernel
theorem dX12_see_1 : decode cX12_see 1 = .ok (.aload_n 0, 1) := by decide +kernel
theorem dX12_see_2 : decode cX12_see 2 = .ok (.getfield 70, 3) := by decide +kernel
theorem dX12_see_5 : decode cX12_see 5 = .ok (.if_icmp .ge 12, 3) := by decide +kernel
theorem dX12_see_8 : decode cX12_see 8 = .ok (.aload_n 0, 1) := by decide +kernel
theorem dX12_see_9 : decode cX12_see 9 = .ok (.getfield 13, 3) := by decide +kernel
theorem dX12_see_12 : decode cX12_see 12 = .ok (.iload_n 1, 1) := by decide +kernel
theorem dX12_see_13 : decode cX12_see 13 = .ok (.iaload, 1) := by decide +kernel
theorem dX12_see_14 : decode cX12_see 14 = .ok (.goto 4, 3) := by decide +kernel
theorem dX12_see_17 : decode cX12_see 17 = .ok (.iconst (-1), 1) := by decide +kernel
theorem dX12_see_18 : decode cX12_see 18 = .ok (.ireturn, 1) := by decide +kernel
theorem dX12_goesOn_0 : decode cX12_goesOn 0 = .ok (.aload_n 0, 1) := by decide +kernel
theorem dX12_goesOn_1 : decode cX12_goesOn 1 = .ok (.aload_n 0, 1) := by decide +kernel
theorem dX12_goesOn_2 : decode cX12_goesOn 2 = .ok (.getfield 73, 3) := by decide +kernel
theorem dX12_goesOn_5 : decode cX12_goesOn 5 = .ok (.invokevirtual 76, 3) := by decide +kernel
theorem dX12_goesOn_8 : decode cX12_goesOn 8 = .ok (.bipush 32, 2) := by decide +kernel
theorem dX12_goesOn_10 : decode cX12_goesOn 10 = .ok (.if_icmp .ne 16, 3) := by decide +kernel
theorem dX12_goesOn_13 : decode cX12_goesOn 13 = .ok (.aload_n 0, 1) := by decide +kernel
theorem dX12_goesOn_14 : decode cX12_goesOn 14 = .ok (.dup, 1) := by decide +kernel
theorem dX12_goesOn_15 : decode cX12_goesOn 15 = .ok (.getfield 73, 3) := by decide +kernel
theorem dX12_goesOn_18 : decode cX12_goesOn 18 = .ok (.iconst 1, 1) := by decide +kernel
theorem dX12_goesOn_19 : decode cX12_goesOn 19 = .ok (.iadd, 1) := by decide +kernel
theorem dX12_goesOn_20 : decode cX12_goesOn 20 = .ok (.putfield 73, 3) := by decide +kernel
theorem dX12_goesOn_23 : decode cX12_goesOn 23 = .ok (.goto (-23), 3) := by decide +kernel
theorem dX12_goesOn_26 : decode cX12_goesOn 26 = .ok (.aload_n 0, 1) := by decide +kernel
theorem dX12_goesOn_27 : decode cX12_goesOn 27 = .ok (.aload_n 0, 1) := by decide +kernel
theorem dX12_goesOn_28 : decode cX12_goesOn 28 = .ok (.getfield 73, 3) := by decide +kernel
theorem dX12_goesOn_31 : decode cX12_goesOn 31 = .ok (.putfield 80, 3) := by decide +kernel
theorem dX12_goesOn_34 : decode cX12_goesOn 34 = .ok (.aload_n 0, 1) := by decide +kernel
theorem dX12_goesOn_35 : decode cX12_goesOn 35 = .ok (.aload_n 0, 1) := by decide +kernel
theorem dX12_goesOn_36 : decode cX12_goesOn 36 = .ok (.getfield 73, 3) := by decide +kernel
theorem dX12_goesOn_39 : decode cX12_goesOn 39 = .ok (.invokevirtual 76, 3) := by decide +kernel
theorem dX12_goesOn_42 : decode cX12_goesOn 42 = .ok (.istore_n 1, 1) := by decide +kernel
theorem dX12_goesOn_43 : decode cX12_goesOn 43 = .ok (.iload_n 1, 1) := by decide +kernel
theorem dX12_goesOn_44 : decode cX12_goesOn 44 = .ok (.iconst (-1), 1) := by decide +kernel
theorem dX12_goesOn_45 : decode cX12_goesOn 45 = .ok (.if_icmp .ne 9, 3) := by decide +kernel
theorem dX12_goesOn_48 : decode cX12_goesOn 48 = .ok (.aload_n 0, 1) := by decide +kernel
theorem dX12_goesOn_49 : decode cX12_goesOn 49 = .ok (.iconst 0, 1) := by decide +kernel
theorem dX12_goesOn_50 : decode cX12_goesOn 50 = .ok (.putfield 83, 3) := by decide +kernel
theorem dX12_goesOn_53 : decode cX12_goesOn 53 = .ok (.return_, 1) := by decide +kernel
theorem dX12_goesOn_54 : decode cX12_goesOn 54 = .ok (.iload_n 1, 1) := by decide +kernel
theorem dX12_goesOn_55 : decode cX12_goesOn 55 = .ok (.bipush 97, 2) := by decide +kernel
theorem dX12_goesOn_57 : decode cX12_goesOn 57 = .ok (.bipush 122, 2) := by decide +kernel
theorem dX12_goesOn_59 : decode cX12_goesOn 59 = .ok (.invokestatic 86, 3) := by decide +kernel
theorem dX12_goesOn_62 : decode cX12_goesOn 62 = .ok (.ifCond .eq 58, 3) := by decide +kernel
theorem dX12_goesOn_65 : decode cX12_goesOn 65 = .ok (.aload_n 0, 1) := by decide +kernel
theorem dX12_goesOn_66 : decode cX12_goesOn 66 = .ok (.aload_n 0, 1) := by decide +kernel
theorem dX12_goesOn_67 : decode cX12_goesOn 67 = .ok (.getfield 73, 3) := by decide +kernel
theorem dX12_goesOn_70 : decode cX12_goesOn 70 = .ok (.invokevirtual 76, 3) := by decide +kernel
theorem dX12_goesOn_73 : decode cX12_goesOn 73 = .ok (.bipush 97, 2) := by decide +kernel
theorem dX12_goesOn_75 : decode cX12_goesOn 75 = .ok (.bipush 122, 2) := by decide +kernel
theorem dX12_goesOn_77 : decode cX12_goesOn 77 = .ok (.invokestatic 86, 3) := by decide +kernel
theorem dX12_goesOn_80 : decode cX12_goesOn 80 = .ok (.ifCond .eq 16, 3) := by decide +kernel
theorem dX12_goesOn_83 : decode cX12_goesOn 83 = .ok (.aload_n 0, 1) := by decide +kernel
theorem dX12_goesOn_84 : decode cX12_goesOn 84 = .ok (.dup, 1) := by decide +kernel
theorem dX12_goesOn_85 : decode cX12_goesOn 85 = .ok (.getfield 73, 3) := by decide +kernel
theorem dX12_goesOn_88 : decode cX12_goesOn 88 = .ok (.iconst 1, 1) := by decide +kernel
theorem dX12_goesOn_89 : decode cX12_goesOn 89 = .ok (.iadd, 1) := by decide +kernel
theorem dX12_goesOn_90 : decode cX12_goesOn 90 = .ok (.putfield 73, 3) := by decide +kernel
theorem dX12_goesOn_93 : decode cX12_goesOn 93 = .ok (.goto (-28), 3) := by decide +kernel
theorem dX12_goesOn_96 : decode cX12_goesOn 96 = .ok (.aload_n 0, 1) := by decide +kernel
theorem dX12_goesOn_97 : decode cX12_goesOn 97 = .ok (.aload_n 0, 1) := by decide +kernel
theorem dX12_goesOn_98 : decode cX12_goesOn 98 = .ok (.getfield 73, 3) := by decide +kernel
theorem dX12_goesOn_101 : decode cX12_goesOn 101 = .ok (.aload_n 0, 1) := by decide +kernel
theorem dX12_goesOn_102 : decode cX12_goesOn 102 = .ok (.getfield 80, 3) := by decide +kernel
theorem dX12_goesOn_105 : decode cX12_goesOn 105 = .ok (.isub, 1) := by decide +kernel
theorem dX12_goesOn_106 : decode cX12_goesOn 106 = .ok (.bipush 7, 2) := by decide +kernel
theorem dX12_goesOn_108 : decode cX12_goesOn 108 = .ok (.if_icmp .le 7, 3) := by decide +kernel
theorem dX12_goesOn_111 : decode cX12_goesOn 111 = .ok (.iconst 1, 1) := by decide +kernel
theorem dX12_goesOn_112 : decode cX12_goesOn 112 = .ok (.goto 4, 3) := by decide +kernel
theorem dX12_goesOn_115 : decode cX12_goesOn 115 = .ok (.iconst 2, 1) := by decide +kernel
theorem dX12_goesOn_116 : decode cX12_goesOn 116 = .ok (.putfield 83, 3) := by decide +kernel
theorem dX12_goesOn_119 : decode cX12_goesOn 119 = .ok (.return_, 1) := by decide +kernel
theorem dX12_goesOn_120 : decode cX12_goesOn 120 = .ok (.iload_n 1, 1) := by decide +kernel
theorem dX12_goesOn_121 : decode cX12_goesOn 121 = .ok (.bipush 48, 2) := by decide +kernel
theorem dX12_goesOn_123 : decode cX12_goesOn 123 = .ok (.bipush 57, 2) := by decide +kernel
theorem dX12_goesOn_125 : decode cX12_goesOn 125 = .ok (.invokestatic 86, 3) := by decide +kernel
theorem dX12_goesOn_128 : decode cX12_goesOn 128 = .ok (.ifCond .eq 105, 3) := by decide +kernel
