theorem dX12_bodyOf_49 : decode cX12_bodyOf 49 = .ok (.iinc 4 1, 3) := by decide +kernel
theorem dX12_bodyOf_52 : decode cX12_bodyOf 52 = .ok (.goto (-47), 3) := by decide +kernel
theorem dX12_bodyOf_55 : decode cX12_bodyOf 55 = .ok (.iload_n 3, 1) := by decide +kernel
theorem dX12_bodyOf_56 : decode cX12_bodyOf 56 = .ok (.ireturn, 1) := by decide +kernel
theorem dX12_plugs_0 : decode cX12_plugs 0 = .ok (.aload_n 0, 1) := by decide +kernel
theorem dX12_plugs_1 : decode cX12_plugs 1 = .ok (.aload_n 0, 1) := by decide +kernel
theorem dX12_plugs_2 : decode cX12_plugs 2 = .ok (.iconst 1, 1) := by decide +kernel
theorem dX12_plugs_3 : decode cX12_plugs 3 = .ok (.iload_n 1, 1) := by decide +kernel
theorem dX12_plugs_4 : decode cX12_plugs 4 = .ok (.invokevirtual 368, 3) := by decide +kernel
theorem dX12_plugs_7 : decode cX12_plugs 7 = .ok (.invokevirtual 254, 3) := by decide +kernel
theorem dX12_plugs_10 : decode cX12_plugs 10 = .ok (.ifCond .eq 5, 3) := by decide +kernel
theorem dX12_plugs_13 : decode cX12_plugs 13 = .ok (.iconst (-1), 1) := by decide +kernel
theorem dX12_plugs_14 : decode cX12_plugs 14 = .ok (.ireturn, 1) := by decide +kernel
theorem dX12_plugs_15 : decode cX12_plugs 15 = .ok (.iconst 0, 1) := by decide +kernel
theorem dX12_plugs_16 : decode cX12_plugs 16 = .ok (.istore_n 2, 1) := by decide +kernel
theorem dX12_plugs_17 : decode cX12_plugs 17 = .ok (.iconst 0, 1) := by decide +kernel
theorem dX12_plugs_18 : decode cX12_plugs 18 = .ok (.istore_n 3, 1) := by decide +kernel
theorem dX12_plugs_19 : decode cX12_plugs 19 = .ok (.iload_n 3, 1) := by decide +kernel
theorem dX12_plugs_20 : decode cX12_plugs 20 = .ok (.aload_n 0, 1) := by decide +kernel
theorem dX12_plugs_21 : decode cX12_plugs 21 = .ok (.getfield 17, 3) := by decide +kernel
theorem dX12_plugs_24 : decode cX12_plugs 24 = .ok (.iconst 4, 1) := by decide +kernel
theorem dX12_plugs_25 : decode cX12_plugs 25 = .ok (.iaload, 1) := by decide +kernel
theorem dX12_plugs_26 : decode cX12_plugs 26 = .ok (.if_icmp .ge 28, 3) := by decide +kernel
theorem dX12_plugs_29 : decode cX12_plugs 29 = .ok (.iload_n 2, 1) := by decide +kernel
theorem dX12_plugs_30 : decode cX12_plugs 30 = .ok (.aload_n 0, 1) := by decide +kernel
theorem dX12_plugs_31 : decode cX12_plugs 31 = .ok (.iload_n 3, 1) := by decide +kernel
theorem dX12_plugs_32 : decode cX12_plugs 32 = .ok (.iload_n 1, 1) := by decide +kernel
theorem dX12_plugs_33 : decode cX12_plugs 33 = .ok (.invokevirtual 340, 3) := by decide +kernel
theorem dX12_plugs_36 : decode cX12_plugs 36 = .ok (.ifCond .eq 9, 3) := by decide +kernel
theorem dX12_plugs_39 : decode cX12_plugs 39 = .ok (.iconst 1, 1) := by decide +kernel
theorem dX12_plugs_40 : decode cX12_plugs 40 = .ok (.iload_n 3, 1) := by decide +kernel
theorem dX12_plugs_41 : decode cX12_plugs 41 = .ok (.ishl, 1) := by decide +kernel
theorem dX12_plugs_42 : decode cX12_plugs 42 = .ok (.goto 4, 3) := by decide +kernel
theorem dX12_plugs_45 : decode cX12_plugs 45 = .ok (.iconst 0, 1) := by decide +kernel
theorem dX12_plugs_46 : decode cX12_plugs 46 = .ok (.ior, 1) := by decide +kernel
theorem dX12_plugs_47 : decode cX12_plugs 47 = .ok (.istore_n 2, 1) := by decide +kernel
theorem dX12_plugs_48 : decode cX12_plugs 48 = .ok (.iinc 3 1, 3) := by decide +kernel
theorem dX12_plugs_51 : decode cX12_plugs 51 = .ok (.goto (-32), 3) := by decide +kernel
theorem dX12_plugs_54 : decode cX12_plugs 54 = .ok (.iload_n 2, 1) := by decide +kernel
theorem dX12_plugs_55 : decode cX12_plugs 55 = .ok (.ireturn, 1) := by decide +kernel
theorem dX12_pins_0 : decode cX12_pins 0 = .ok (.aload_n 0, 1) := by decide +kernel
theorem dX12_pins_1 : decode cX12_pins 1 = .ok (.aload_n 0, 1) := by decide +kernel
theorem dX12_pins_2 : decode cX12_pins 2 = .ok (.aload_n 0, 1) := by decide +kernel
theorem dX12_pins_3 : decode cX12_pins 3 = .ok (.iload_n 2, 1) := by decide +kernel
theorem dX12_pins_4 : decode cX12_pins 4 = .ok (.invokevirtual 328, 3) := by decide +kernel
theorem dX12_pins_7 : decode cX12_pins 7 = .ok (.iload_n 1, 1) := by decide +kernel
theorem dX12_pins_8 : decode cX12_pins 8 = .ok (.invokevirtual 368, 3) := by decide +kernel
theorem dX12_pins_11 : decode cX12_pins 11 = .ok (.invokevirtual 254, 3) := by decide +kernel
theorem dX12_pins_14 : decode cX12_pins 14 = .ok (.ifCond .eq 7, 3) := by decide +kernel
theorem dX12_pins_17 : decode cX12_pins 17 = .ok (.iconst (-1), 1) := by decide +kernel
theorem dX12_pins_18 : decode cX12_pins 18 = .ok (.goto 9, 3) := by decide +kernel
theorem dX12_pins_21 : decode cX12_pins 21 = .ok (.aload_n 0, 1) := by decide +kernel
theorem dX12_pins_22 : decode cX12_pins 22 = .ok (.iload_n 1, 1) := by decide +kernel
theorem dX12_pins_23 : decode cX12_pins 23 = .ok (.iload_n 2, 1) := by decide +kernel
theorem dX12_pins_24 : decode cX12_pins 24 = .ok (.invokevirtual 362, 3) := by decide +kernel
theorem dX12_pins_27 : decode cX12_pins 27 = .ok (.ireturn, 1) := by decide +kernel
theorem dX12_splice_0 : decode cX12_splice 0 = .ok (.aload_n 0, 1) := by decide +kernel
theorem dX12_splice_1 : decode cX12_splice 1 = .ok (.aload_n 0, 1) := by decide +kernel
theorem dX12_splice_2 : decode cX12_splice 2 = .ok (.aload_n 0, 1) := by decide +kernel
theorem dX12_splice_3 : decode cX12_splice 3 = .ok (.iload_n 2, 1) := by decide +kernel
theorem dX12_splice_4 : decode cX12_splice 4 = .ok (.invokevirtual 328, 3) := by decide +kernel
theorem dX12_splice_7 : decode cX12_splice 7 = .ok (.iload_n 1, 1) := by decide +kernel
theorem dX12_splice_8 : decode cX12_splice 8 = .ok (.invokevirtual 368, 3) := by decide +kernel
theorem dX12_splice_11 : decode cX12_splice 11 = .ok (.invokevirtual 254, 3) := by decide +kernel
theorem dX12_splice_14 : decode cX12_splice 14 = .ok (.ifCond .eq 7, 3) := by decide +kernel
theorem dX12_splice_17 : decode cX12_splice 17 = .ok (.iconst (-1), 1) := by decide +kernel
theorem dX12_splice_18 : decode cX12_splice 18 = .ok (.goto 14, 3) := by decide +kernel
theorem dX12_splice_21 : decode cX12_splice 21 = .ok (.aload_n 0, 1) := by decide +kernel
theorem dX12_splice_22 : decode cX12_splice 22 = .ok (.iload_n 2, 1) := by decide +kernel
theorem dX12_splice_23 : decode cX12_splice 23 = .ok (.aload_n 0, 1) := by decide +kernel
theorem dX12_splice_24 : decode cX12_splice 24 = .ok (.iload_n 1, 1) := by decide +kernel
theorem dX12_splice_25 : decode cX12_splice 25 = .ok (.iload_n 2, 1) := by decide +kernel
theorem dX12_splice_26 : decode cX12_splice 26 = .ok (.invokevirtual 362, 3) := by decide +kernel
theorem dX12_splice_29 : decode cX12_splice 29 = .ok (.invokevirtual 359, 3) := by decide +kernel
theorem dX12_splice_32 : decode cX12_splice 32 = .ok (.ireturn, 1) := by decide +kernel
theorem dX12_wires_0 : decode cX12_wires 0 = .ok (.aload_n 0, 1) := by decide +kernel
theorem dX12_wires_1 : decode cX12_wires 1 = .ok (.aload_n 0, 1) := by decide +kernel
theorem dX12_wires_2 : decode cX12_wires 2 = .ok (.aload_n 0, 1) := by decide +kernel
theorem dX12_wires_3 : decode cX12_wires 3 = .ok (.iload_n 2, 1) := by decide +kernel
theorem dX12_wires_4 : decode cX12_wires 4 = .ok (.invokevirtual 328, 3) := by decide +kernel
theorem dX12_wires_7 : decode cX12_wires 7 = .ok (.iload_n 1, 1) := by decide +kernel
theorem dX12_wires_8 : decode cX12_wires 8 = .ok (.invokevirtual 368, 3) := by decide +kernel
theorem dX12_wires_11 : decode cX12_wires 11 = .ok (.invokevirtual 254, 3) := by decide +kernel
theorem dX12_wires_14 : decode cX12_wires 14 = .ok (.ifCond .eq 7, 3) := by decide +kernel
theorem dX12_wires_17 : decode cX12_wires 17 = .ok (.iconst (-1), 1) := by decide +kernel
theorem dX12_wires_18 : decode cX12_wires 18 = .ok (.goto 12, 3) := by decide +kernel
theorem dX12_wires_21 : decode cX12_wires 21 = .ok (.aload_n 0, 1) := by decide +kernel
theorem dX12_wires_22 : decode cX12_wires 22 = .ok (.iload_n 1, 1) := by decide +kernel
theorem dX12_wires_23 : decode cX12_wires 23 = .ok (.iload_n 2, 1) := by decide +kernel
theorem dX12_wires_24 : decode cX12_wires 24 = .ok (.invokevirtual 362, 3) := by decide +kernel
theorem dX12_wires_27 : decode cX12_wires 27 = .ok (.invokestatic 372, 3) := by decide +kernel
theorem dX12_wires_30 : decode cX12_wires 30 = .ok (.ireturn, 1) := by decide +kernel
theorem dX12_wire_0 : decode cX12_wire 0 = .ok (.aload_n 0, 1) := by decide +kernel
theorem dX12_wire_1 : decode cX12_wire 1 = .ok (.aload_n 0, 1) := by decide +kernel
theorem dX12_wire_2 : decode cX12_wire 2 = .ok (.aload_n 0, 1) := by decide +kernel
theorem dX12_wire_3 : decode cX12_wire 3 = .ok (.iload_n 2, 1) := by decide +kernel
theorem dX12_wire_4 : decode cX12_wire 4 = .ok (.iload_n 3, 1) := by decide +kernel
theorem dX12_wire_5 : decode cX12_wire 5 = .ok (.invokevirtual 334, 3) := by decide +kernel
theorem dX12_wire_8 : decode cX12_wire 8 = .ok (.iload_n 1, 1) := by decide +kernel
theorem dX12_wire_9 : decode cX12_wire 9 = .ok (.invokevirtual 368, 3) := by decide +kernel
theorem dX12_wire_12 : decode cX12_wire 12 = .ok (.invokevirtual 254, 3) := by decide +kernel
theorem dX12_wire_15 : decode cX12_wire 15 = .ok (.ifCond .eq 5, 3) := by decide +kernel
theorem dX12_wire_18 : decode cX12_wire 18 = .ok (.iconst (-1), 1) := by decide +kernel
theorem dX12_wire_19 : decode cX12_wire 19 = .ok (.ireturn, 1) := by decide +kernel
theorem dX12_wire_20 : decode cX12_wire 20 = .ok (.aload_n 0, 1) := by decide +kernel
theorem dX12_wire_21 : decode cX12_wire 21 = .ok (.iload_n 1, 1) := by decide +kernel
theorem dX12_wire_22 : decode cX12_wire 22 = .ok (.iload_n 2, 1) := by decide +kernel
theorem dX12_wire_23 : decode cX12_wire 23 = .ok (.invokevirtual 362, 3) := by decide +kernel
theorem dX12_wire_26 : decode cX12_wire 26 = .ok (.istore 4, 2) := by decide +kernel
theorem dX12_wire_28 : decode cX12_wire 28 = .ok (.iload 4, 2) := by decide +kernel
theorem dX12_wire_30 : decode cX12_wire 30 = .ok (.iload_n 3, 1) := by decide +kernel
theorem dX12_wire_31 : decode cX12_wire 31 = .ok (.invokestatic 343, 3) := by decide +kernel
theorem dX12_wire_34 : decode cX12_wire 34 = .ok (.ifCond .eq 12, 3) := by decide +kernel
theorem dX12_wire_37 : decode cX12_wire 37 = .ok (.iload 4, 2) := by decide +kernel
theorem dX12_wire_39 : decode cX12_wire 39 = .ok (.invokestatic 349, 3) := by decide +kernel
theorem dX12_wire_42 : decode cX12_wire 42 = .ok (.iconst 2, 1) := by decide +kernel
theorem dX12_wire_43 : decode cX12_wire 43 = .ok (.if_icmp .ge 9, 3) := by decide +kernel
theorem dX12_wire_46 : decode cX12_wire 46 = .ok (.aload_n 0, 1) := by decide +kernel
theorem dX12_wire_47 : decode cX12_wire 47 = .ok (.iconst 5, 1) := by decide +kernel
theorem dX12_wire_48 : decode cX12_wire 48 = .ok (.invokevirtual 263, 3) := by decide +kernel
theorem dX12_wire_51 : decode cX12_wire 51 = .ok (.ireturn, 1) := by decide +kernel
theorem dX12_wire_52 : decode cX12_wire 52 = .ok (.iload 4, 2) := by decide +kernel
theorem dX12_wire_54 : decode cX12_wire 54 = .ok (.invokestatic 349, 3) := by decide +kernel
theorem dX12_wire_57 : decode cX12_wire 57 = .ok (.iconst 2, 1) := by decide +kernel
theorem dX12_wire_58 : decode cX12_wire 58 = .ok (.if_icmp .ne 13, 3) := by decide +kernel
theorem dX12_wire_61 : decode cX12_wire 61 = .ok (.aload_n 0, 1) := by decide +kernel
theorem dX12_wire_62 : decode cX12_wire 62 = .ok (.iload_n 2, 1) := by decide +kernel
theorem dX12_wire_63 : decode cX12_wire 63 = .ok (.iload 4, 2) := by decide +kernel
theorem dX12_wire_65 : decode cX12_wire 65 = .ok (.invokevirtual 375, 3) := by decide +kernel
theorem dX12_wire_68 : decode cX12_wire 68 = .ok (.goto 34, 3) := by decide +kernel
theorem dX12_wire_71 : decode cX12_wire 71 = .ok (.aload_n 0, 1) := by decide +kernel
theorem dX12_wire_72 : decode cX12_wire 72 = .ok (.aload_n 0, 1) := by decide +kernel
theorem dX12_wire_73 : decode cX12_wire 73 = .ok (.iload_n 2, 1) := by decide +kernel
theorem dX12_wire_74 : decode cX12_wire 74 = .ok (.iload 4, 2) := by decide +kernel
theorem dX12_wire_76 : decode cX12_wire 76 = .ok (.invokevirtual 359, 3) := by decide +kernel
theorem dX12_wire_79 : decode cX12_wire 79 = .ok (.aload_n 0, 1) := by decide +kernel
theorem dX12_wire_80 : decode cX12_wire 80 = .ok (.iload_n 2, 1) := by decide +kernel
theorem dX12_wire_81 : decode cX12_wire 81 = .ok (.iload_n 3, 1) := by decide +kernel
theorem dX12_wire_82 : decode cX12_wire 82 = .ok (.invokevirtual 346, 3) := by decide +kernel
theorem dX12_wire_85 : decode cX12_wire 85 = .ok (.invokevirtual 288, 3) := by decide +kernel
theorem dX12_wire_88 : decode cX12_wire 88 = .ok (.aload_n 0, 1) := by decide +kernel
theorem dX12_wire_89 : decode cX12_wire 89 = .ok (.getfield 17, 3) := by decide +kernel
theorem dX12_wire_92 : decode cX12_wire 92 = .ok (.iconst 0, 1) := by decide +kernel
theorem dX12_wire_93 : decode cX12_wire 93 = .ok (.iaload, 1) := by decide +kernel
theorem dX12_wire_94 : decode cX12_wire 94 = .ok (.iadd, 1) := by decide +kernel
theorem dX12_wire_95 : decode cX12_wire 95 = .ok (.aload_n 0, 1) := by decide +kernel
theorem dX12_wire_96 : decode cX12_wire 96 = .ok (.getfield 17, 3) := by decide +kernel
theorem dX12_wire_99 : decode cX12_wire 99 = .ok (.iconst 1, 1) := by decide +kernel
theorem dX12_wire_100 : decode cX12_wire 100 = .ok (.iaload, 1) := by decide +kernel
theorem dX12_wire_101 : decode cX12_wire 101 = .ok (.iadd, 1) := by decide +kernel
theorem dX12_wire_102 : decode cX12_wire 102 = .ok (.ireturn, 1) := by decide +kernel
theorem dX12_reach_0 : decode cX12_reach 0 = .ok (.aload_n 0, 1) := by decide +kernel
theorem dX12_reach_1 : decode cX12_reach 1 = .ok (.aload_n 0, 1) := by decide +kernel
theorem dX12_reach_2 : decode cX12_reach 2 = .ok (.aload_n 0, 1) := by decide +kernel
theorem dX12_reach_3 : decode cX12_reach 3 = .ok (.iload_n 2, 1) := by decide +kernel
theorem dX12_reach_4 : decode cX12_reach 4 = .ok (.invokevirtual 328, 3) := by decide +kernel
theorem dX12_reach_7 : decode cX12_reach 7 = .ok (.ifCond .eq 15, 3) := by decide +kernel
theorem dX12_reach_10 : decode cX12_reach 10 = .ok (.aload_n 0, 1) := by decide +kernel
theorem dX12_reach_11 : decode cX12_reach 11 = .ok (.iload_n 3, 1) := by decide +kernel
theorem dX12_reach_12 : decode cX12_reach 12 = .ok (.invokevirtual 285, 3) := by decide +kernel
theorem dX12_reach_15 : decode cX12_reach 15 = .ok (.ifCond .eq 7, 3) := by decide +kernel
theorem dX12_reach_18 : decode cX12_reach 18 = .ok (.iconst 1, 1) := by decide +kernel
theorem dX12_reach_19 : decode cX12_reach 19 = .ok (.goto 4, 3) := by decide +kernel
theorem dX12_reach_22 : decode cX12_reach 22 = .ok (.iconst 0, 1) := by decide +kernel
theorem dX12_reach_23 : decode cX12_reach 23 = .ok (.iload_n 1, 1) := by decide +kernel
theorem dX12_reach_24 : decode cX12_reach 24 = .ok (.invokevirtual 368, 3) := by decide +kernel
theorem dX12_reach_27 : decode cX12_reach 27 = .ok (.invokevirtual 254, 3) := by decide +kernel
theorem dX12_reach_30 : decode cX12_reach 30 = .ok (.ifCond .eq 7, 3) := by decide +kernel
theorem dX12_reach_33 : decode cX12_reach 33 = .ok (.iconst (-1), 1) := by decide +kernel
theorem dX12_reach_34 : decode cX12_reach 34 = .ok (.goto 15, 3) := by decide +kernel
theorem dX12_reach_37 : decode cX12_reach 37 = .ok (.aload_n 0, 1) := by decide +kernel
theorem dX12_reach_38 : decode cX12_reach 38 = .ok (.iload_n 2, 1) := by decide +kernel
theorem dX12_reach_39 : decode cX12_reach 39 = .ok (.aload_n 0, 1) := by decide +kernel
theorem dX12_reach_40 : decode cX12_reach 40 = .ok (.iload_n 1, 1) := by decide +kernel
theorem dX12_reach_41 : decode cX12_reach 41 = .ok (.iload_n 2, 1) := by decide +kernel
theorem dX12_reach_42 : decode cX12_reach 42 = .ok (.invokevirtual 362, 3) := by decide +kernel
theorem dX12_reach_45 : decode cX12_reach 45 = .ok (.iload_n 3, 1) := by decide +kernel
theorem dX12_reach_46 : decode cX12_reach 46 = .ok (.invokevirtual 352, 3) := by decide +kernel
theorem dX12_reach_49 : decode cX12_reach 49 = .ok (.ireturn, 1) := by decide +kernel
theorem dX12_total_0 : decode cX12_total 0 = .ok (.aload_n 0, 1) := by decide +kernel
theorem dX12_total_1 : decode cX12_total 1 = .ok (.aload_n 0, 1) := by decide +kernel
theorem dX12_total_2 : decode cX12_total 2 = .ok (.iload_n 2, 1) := by decide +kernel
theorem dX12_total_3 : decode cX12_total 3 = .ok (.iconst 0, 1) := by decide +kernel
theorem dX12_total_4 : decode cX12_total 4 = .ok (.bipush 9, 2) := by decide +kernel
theorem dX12_total_6 : decode cX12_total 6 = .ok (.invokestatic 86, 3) := by decide +kernel
theorem dX12_total_9 : decode cX12_total 9 = .ok (.iload_n 1, 1) := by decide +kernel
theorem dX12_total_10 : decode cX12_total 10 = .ok (.invokevirtual 368, 3) := by decide +kernel
theorem dX12_total_13 : decode cX12_total 13 = .ok (.invokevirtual 254, 3) := by decide +kernel
theorem dX12_total_16 : decode cX12_total 16 = .ok (.ifCond .eq 5, 3) := by decide +kernel
theorem dX12_total_19 : decode cX12_total 19 = .ok (.iconst (-1), 1) := by decide +kernel
theorem dX12_total_20 : decode cX12_total 20 = .ok (.ireturn, 1) := by decide +kernel
theorem dX12_total_21 : decode cX12_total 21 = .ok (.iconst 0, 1) := by decide +kernel
theorem dX12_total_22 : decode cX12_total 22 = .ok (.istore_n 3, 1) := by decide +kernel
theorem dX12_total_23 : decode cX12_total 23 = .ok (.iconst 0, 1) := by decide +kernel
theorem dX12_total_24 : decode cX12_total 24 = .ok (.istore 4, 2) := by decide +kernel
theorem dX12_total_26 : decode cX12_total 26 = .ok (.iload 4, 2) := by decide +kernel
theorem dX12_total_28 : decode cX12_total 28 = .ok (.aload_n 0, 1) := by decide +kernel
theorem dX12_total_29 : decode cX12_total 29 = .ok (.getfield 17, 3) := by decide +kernel
theorem dX12_total_32 : decode cX12_total 32 = .ok (.iconst 5, 1) := by decide +kernel
theorem dX12_total_33 : decode cX12_total 33 = .ok (.iaload, 1) := by decide +kernel
theorem dX12_total_34 : decode cX12_total 34 = .ok (.if_icmp .ge 44, 3) := by decide +kernel
theorem dX12_total_37 : decode cX12_total 37 = .ok (.iload_n 3, 1) := by decide +kernel
theorem dX12_total_38 : decode cX12_total 38 = .ok (.iload_n 2, 1) := by decide +kernel
theorem dX12_total_39 : decode cX12_total 39 = .ok (.ifCond .eq 14, 3) := by decide +kernel
theorem dX12_total_42 : decode cX12_total 42 = .ok (.aload_n 0, 1) := by decide +kernel
theorem dX12_total_43 : decode cX12_total 43 = .ok (.iload 4, 2) := by decide +kernel
theorem dX12_total_45 : decode cX12_total 45 = .ok (.iconst 1, 1) := by decide +kernel
theorem dX12_total_46 : decode cX12_total 46 = .ok (.invokevirtual 319, 3) := by decide +kernel
theorem dX12_total_49 : decode cX12_total 49 = .ok (.iload_n 2, 1) := by decide +kernel
theorem dX12_total_50 : decode cX12_total 50 = .ok (.if_icmp .ne 19, 3) := by decide +kernel
theorem dX12_total_53 : decode cX12_total 53 = .ok (.aload_n 0, 1) := by decide +kernel
theorem dX12_total_54 : decode cX12_total 54 = .ok (.iload 4, 2) := by decide +kernel
theorem dX12_total_56 : decode cX12_total 56 = .ok (.aload_n 0, 1) := by decide +kernel
theorem dX12_total_57 : decode cX12_total 57 = .ok (.iload_n 1, 1) := by decide +kernel
theorem dX12_total_58 : decode cX12_total 58 = .ok (.iload 4, 2) := by decide +kernel
theorem dX12_total_60 : decode cX12_total 60 = .ok (.invokevirtual 362, 3) := by decide +kernel
theorem dX12_total_63 : decode cX12_total 63 = .ok (.invokevirtual 375, 3) := by decide +kernel
theorem dX12_total_66 : decode cX12_total 66 = .ok (.goto 4, 3) := by decide +kernel
theorem dX12_total_69 : decode cX12_total 69 = .ok (.iconst 0, 1) := by decide +kernel
theorem dX12_total_70 : decode cX12_total 70 = .ok (.iadd, 1) := by decide +kernel
theorem dX12_total_71 : decode cX12_total 71 = .ok (.istore_n 3, 1) := by decide +kernel
theorem dX12_total_72 : decode cX12_total 72 = .ok (.iinc 4 1, 3) := by decide +kernel
theorem dX12_total_75 : decode cX12_total 75 = .ok (.goto (-49), 3) := by decide +kernel
theorem dX12_total_78 : decode cX12_total 78 = .ok (.iload_n 3, 1) := by decide +kernel
theorem dX12_total_79 : decode cX12_total 79 = .ok (.ireturn, 1) := by decide +kernel
theorem dX12_isBundle_0 : decode cX12_isBundle 0 = .ok (.aload_n 0, 1) := by decide +kernel
theorem dX12_isBundle_1 : decode cX12_isBundle 1 = .ok (.iload_n 1, 1) := by decide +kernel
theorem dX12_isBundle_2 : decode cX12_isBundle 2 = .ok (.invokevirtual 285, 3) := by decide +kernel
theorem dX12_isBundle_5 : decode cX12_isBundle 5 = .ok (.ifCond .eq 11, 3) := by decide +kernel
theorem dX12_isBundle_8 : decode cX12_isBundle 8 = .ok (.iload_n 1, 1) := by decide +kernel
theorem dX12_isBundle_9 : decode cX12_isBundle 9 = .ok (.ifCond .le 7, 3) := by decide +kernel
theorem dX12_isBundle_12 : decode cX12_isBundle 12 = .ok (.iconst 1, 1) := by decide +kernel
theorem dX12_isBundle_13 : decode cX12_isBundle 13 = .ok (.goto 4, 3) := by decide +kernel
theorem dX12_isBundle_16 : decode cX12_isBundle 16 = .ok (.iconst 0, 1) := by decide +kernel
theorem dX12_isBundle_17 : decode cX12_isBundle 17 = .ok (.ireturn, 1) := by decide +kernel
theorem dX12_bundle_0 : decode cX12_bundle 0 = .ok (.aload_n 0, 1) := by decide +kernel
theorem dX12_bundle_1 : decode cX12_bundle 1 = .ok (.aload_n 0, 1) := by decide +kernel
theorem dX12_bundle_2 : decode cX12_bundle 2 = .ok (.aload_n 0, 1) := by decide +kernel
theorem dX12_bundle_3 : decode cX12_bundle 3 = .ok (.iload_n 2, 1) := by decide +kernel
theorem dX12_bundle_4 : decode cX12_bundle 4 = .ok (.invokevirtual 307, 3) := by decide +kernel
theorem dX12_bundle_7 : decode cX12_bundle 7 = .ok (.ifCond .eq 16, 3) := by decide +kernel
theorem dX12_bundle_10 : decode cX12_bundle 10 = .ok (.iload_n 3, 1) := by decide +kernel
theorem dX12_bundle_11 : decode cX12_bundle 11 = .ok (.iconst 0, 1) := by decide +kernel
theorem dX12_bundle_12 : decode cX12_bundle 12 = .ok (.iconst 2, 1) := by decide +kernel
theorem dX12_bundle_13 : decode cX12_bundle 13 = .ok (.invokestatic 86, 3) := by decide +kernel
theorem dX12_bundle_16 : decode cX12_bundle 16 = .ok (.ifCond .eq 7, 3) := by decide +kernel
theorem dX12_bundle_19 : decode cX12_bundle 19 = .ok (.iconst 1, 1) := by decide +kernel
theorem dX12_bundle_20 : decode cX12_bundle 20 = .ok (.goto 4, 3) := by decide +kernel
theorem dX12_bundle_23 : decode cX12_bundle 23 = .ok (.iconst 0, 1) := by decide +kernel
theorem dX12_bundle_24 : decode cX12_bundle 24 = .ok (.iload_n 1, 1) := by decide +kernel
theorem dX12_bundle_25 : decode cX12_bundle 25 = .ok (.invokevirtual 368, 3) := by decide +kernel
theorem dX12_bundle_28 : decode cX12_bundle 28 = .ok (.invokevirtual 254, 3) := by decide +kernel
theorem dX12_bundle_31 : decode cX12_bundle 31 = .ok (.ifCond .eq 5, 3) := by decide +kernel
theorem dX12_bundle_34 : decode cX12_bundle 34 = .ok (.iconst (-1), 1) := by decide +kernel
theorem dX12_bundle_35 : decode cX12_bundle 35 = .ok (.ireturn, 1) := by decide +kernel
theorem dX12_bundle_36 : decode cX12_bundle 36 = .ok (.aload_n 0, 1) := by decide +kernel
theorem dX12_bundle_37 : decode cX12_bundle 37 = .ok (.iload_n 1, 1) := by decide +kernel
theorem dX12_bundle_38 : decode cX12_bundle 38 = .ok (.iload_n 2, 1) := by decide +kernel
theorem dX12_bundle_39 : decode cX12_bundle 39 = .ok (.invokevirtual 378, 3) := by decide +kernel
theorem dX12_bundle_42 : decode cX12_bundle 42 = .ok (.istore 4, 2) := by decide +kernel
theorem dX12_bundle_44 : decode cX12_bundle 44 = .ok (.iload_n 3, 1) := by decide +kernel
theorem dX12_bundle_45 : decode cX12_bundle 45 = .ok (.iconst 1, 1) := by decide +kernel
theorem dX12_bundle_46 : decode cX12_bundle 46 = .ok (.if_icmp .ne 6, 3) := by decide +kernel
theorem dX12_bundle_49 : decode cX12_bundle 49 = .ok (.iload 4, 2) := by decide +kernel
theorem dX12_bundle_51 : decode cX12_bundle 51 = .ok (.ireturn, 1) := by decide +kernel
theorem dX12_bundle_52 : decode cX12_bundle 52 = .ok (.iconst 0, 1) := by decide +kernel
theorem dX12_bundle_53 : decode cX12_bundle 53 = .ok (.istore 5, 2) := by decide +kernel
theorem dX12_bundle_55 : decode cX12_bundle 55 = .ok (.iload_n 3, 1) := by decide +kernel
theorem dX12_bundle_56 : decode cX12_bundle 56 = .ok (.ifCond .ne 45, 3) := by decide +kernel
theorem dX12_bundle_59 : decode cX12_bundle 59 = .ok (.iconst 0, 1) := by decide +kernel
theorem dX12_bundle_60 : decode cX12_bundle 60 = .ok (.istore 6, 2) := by decide +kernel
theorem dX12_bundle_62 : decode cX12_bundle 62 = .ok (.iload 6, 2) := by decide +kernel
theorem dX12_bundle_64 : decode cX12_bundle 64 = .ok (.aload_n 0, 1) := by decide +kernel
theorem dX12_bundle_65 : decode cX12_bundle 65 = .ok (.getfield 17, 3) := by decide +kernel
theorem dX12_bundle_68 : decode cX12_bundle 68 = .ok (.iconst 5, 1) := by decide +kernel
theorem dX12_bundle_69 : decode cX12_bundle 69 = .ok (.iaload, 1) := by decide +kernel
theorem dX12_bundle_70 : decode cX12_bundle 70 = .ok (.if_icmp .ge 28, 3) := by decide +kernel
theorem dX12_bundle_73 : decode cX12_bundle 73 = .ok (.iload 5, 2) := by decide +kernel
theorem dX12_bundle_75 : decode cX12_bundle 75 = .ok (.aload_n 0, 1) := by decide +kernel
theorem dX12_bundle_76 : decode cX12_bundle 76 = .ok (.iload 6, 2) := by decide +kernel
theorem dX12_bundle_78 : decode cX12_bundle 78 = .ok (.aload_n 0, 1) := by decide +kernel
theorem dX12_bundle_79 : decode cX12_bundle 79 = .ok (.iload_n 1, 1) := by decide +kernel
theorem dX12_bundle_80 : decode cX12_bundle 80 = .ok (.iload 6, 2) := by decide +kernel
theorem dX12_bundle_82 : decode cX12_bundle 82 = .ok (.invokevirtual 362, 3) := by decide +kernel
theorem dX12_bundle_85 : decode cX12_bundle 85 = .ok (.iload_n 2, 1) := by decide +kernel
theorem dX12_bundle_86 : decode cX12_bundle 86 = .ok (.invokevirtual 365, 3) := by decide +kernel
theorem dX12_bundle_89 : decode cX12_bundle 89 = .ok (.iadd, 1) := by decide +kernel
theorem dX12_bundle_90 : decode cX12_bundle 90 = .ok (.istore 5, 2) := by decide +kernel
theorem dX12_bundle_92 : decode cX12_bundle 92 = .ok (.iinc 6 1, 3) := by decide +kernel
theorem dX12_bundle_95 : decode cX12_bundle 95 = .ok (.goto (-33), 3) := by decide +kernel
theorem dX12_bundle_98 : decode cX12_bundle 98 = .ok (.iload 5, 2) := by decide +kernel
theorem dX12_bundle_100 : decode cX12_bundle 100 = .ok (.ireturn, 1) := by decide +kernel
theorem dX12_bundle_101 : decode cX12_bundle 101 = .ok (.bipush 10, 2) := by decide +kernel
theorem dX12_bundle_103 : decode cX12_bundle 103 = .ok (.iload 5, 2) := by decide +kernel
theorem dX12_bundle_105 : decode cX12_bundle 105 = .ok (.imul, 1) := by decide +kernel
theorem dX12_bundle_106 : decode cX12_bundle 106 = .ok (.iload 5, 2) := by decide +kernel
theorem dX12_bundle_108 : decode cX12_bundle 108 = .ok (.imul, 1) := by decide +kernel
theorem dX12_bundle_109 : decode cX12_bundle 109 = .ok (.bipush 12, 2) := by decide +kernel
theorem dX12_bundle_111 : decode cX12_bundle 111 = .ok (.iload 4, 2) := by decide +kernel
theorem dX12_bundle_113 : decode cX12_bundle 113 = .ok (.imul, 1) := by decide +kernel
theorem dX12_bundle_114 : decode cX12_bundle 114 = .ok (.if_icmp .ge 9, 3) := by decide +kernel
theorem dX12_bundle_117 : decode cX12_bundle 117 = .ok (.iinc 5 1, 3) := by decide +kernel
theorem dX12_bundle_120 : decode cX12_bundle 120 = .ok (.goto (-19), 3) := by decide +kernel
theorem dX12_bundle_123 : decode cX12_bundle 123 = .ok (.iload 5, 2) := by decide +kernel
theorem dX12_bundle_125 : decode cX12_bundle 125 = .ok (.ireturn, 1) := by decide +kernel
theorem dX12_thickest_0 : decode cX12_thickest 0 = .ok (.aload_n 0, 1) := by decide +kernel
theorem dX12_thickest_1 : decode cX12_thickest 1 = .ok (.aload_n 0, 1) := by decide +kernel
theorem dX12_thickest_2 : decode cX12_thickest 2 = .ok (.iconst 1, 1) := by decide +kernel
theorem dX12_thickest_3 : decode cX12_thickest 3 = .ok (.iload_n 1, 1) := by decide +kernel
theorem dX12_thickest_4 : decode cX12_thickest 4 = .ok (.invokevirtual 368, 3) := by decide +kernel
theorem dX12_thickest_7 : decode cX12_thickest 7 = .ok (.invokevirtual 254, 3) := by decide +kernel
theorem dX12_thickest_10 : decode cX12_thickest 10 = .ok (.ifCond .eq 5, 3) := by decide +kernel
theorem dX12_thickest_13 : decode cX12_thickest 13 = .ok (.iconst (-1), 1) := by decide +kernel
theorem dX12_thickest_14 : decode cX12_thickest 14 = .ok (.ireturn, 1) := by decide +kernel
theorem dX12_thickest_15 : decode cX12_thickest 15 = .ok (.bipush (-2), 2) := by decide +kernel
theorem dX12_thickest_17 : decode cX12_thickest 17 = .ok (.istore_n 2, 1) := by decide +kernel
theorem dX12_thickest_18 : decode cX12_thickest 18 = .ok (.iconst 1, 1) := by decide +kernel
theorem dX12_thickest_19 : decode cX12_thickest 19 = .ok (.istore_n 3, 1) := by decide +kernel
theorem dX12_thickest_20 : decode cX12_thickest 20 = .ok (.iload_n 3, 1) := by decide +kernel
theorem dX12_thickest_21 : decode cX12_thickest 21 = .ok (.aload_n 0, 1) := by decide +kernel
theorem dX12_thickest_22 : decode cX12_thickest 22 = .ok (.getfield 17, 3) := by decide +kernel
theorem dX12_thickest_25 : decode cX12_thickest 25 = .ok (.iconst 2, 1) := by decide +kernel
theorem dX12_thickest_26 : decode cX12_thickest 26 = .ok (.iaload, 1) := by decide +kernel
theorem dX12_thickest_27 : decode cX12_thickest 27 = .ok (.if_icmp .ge 36, 3) := by decide +kernel
theorem dX12_thickest_30 : decode cX12_thickest 30 = .ok (.iload_n 2, 1) := by decide +kernel
theorem dX12_thickest_31 : decode cX12_thickest 31 = .ok (.bipush (-2), 2) := by decide +kernel
theorem dX12_thickest_33 : decode cX12_thickest 33 = .ok (.if_icmp .eq 18, 3) := by decide +kernel
theorem dX12_thickest_36 : decode cX12_thickest 36 = .ok (.aload_n 0, 1) := by decide +kernel
theorem dX12_thickest_37 : decode cX12_thickest 37 = .ok (.iload_n 1, 1) := by decide +kernel
theorem dX12_thickest_38 : decode cX12_thickest 38 = .ok (.iload_n 3, 1) := by decide +kernel
theorem dX12_thickest_39 : decode cX12_thickest 39 = .ok (.invokevirtual 378, 3) := by decide +kernel
theorem dX12_thickest_42 : decode cX12_thickest 42 = .ok (.aload_n 0, 1) := by decide +kernel
theorem dX12_thickest_43 : decode cX12_thickest 43 = .ok (.iload_n 1, 1) := by decide +kernel
theorem dX12_thickest_44 : decode cX12_thickest 44 = .ok (.iload_n 2, 1) := by decide +kernel
theorem dX12_thickest_45 : decode cX12_thickest 45 = .ok (.invokevirtual 378, 3) := by decide +kernel
theorem dX12_thickest_48 : decode cX12_thickest 48 = .ok (.if_icmp .le 7, 3) := by decide +kernel
theorem dX12_thickest_51 : decode cX12_thickest 51 = .ok (.iload_n 3, 1) := by decide +kernel
theorem dX12_thickest_52 : decode cX12_thickest 52 = .ok (.goto 4, 3) := by decide +kernel
theorem dX12_thickest_55 : decode cX12_thickest 55 = .ok (.iload_n 2, 1) := by decide +kernel
theorem dX12_thickest_56 : decode cX12_thickest 56 = .ok (.istore_n 2, 1) := by decide +kernel
theorem dX12_thickest_57 : decode cX12_thickest 57 = .ok (.iinc 3 1, 3) := by decide +kernel
theorem dX12_thickest_60 : decode cX12_thickest 60 = .ok (.goto (-40), 3) := by decide +kernel
theorem dX12_thickest_63 : decode cX12_thickest 63 = .ok (.iload_n 2, 1) := by decide +kernel
theorem dX12_thickest_64 : decode cX12_thickest 64 = .ok (.ireturn, 1) := by decide +kernel
theorem dX12_through_0 : decode cX12_through 0 = .ok (.aload_n 0, 1) := by decide +kernel
theorem dX12_through_1 : decode cX12_through 1 = .ok (.aload_n 0, 1) := by decide +kernel
theorem dX12_through_2 : decode cX12_through 2 = .ok (.aload_n 0, 1) := by decide +kernel
theorem dX12_through_3 : decode cX12_through 3 = .ok (.iload_n 2, 1) := by decide +kernel
theorem dX12_through_4 : decode cX12_through 4 = .ok (.invokevirtual 307, 3) := by decide +kernel
theorem dX12_through_7 : decode cX12_through 7 = .ok (.iload_n 1, 1) := by decide +kernel
theorem dX12_through_8 : decode cX12_through 8 = .ok (.invokevirtual 368, 3) := by decide +kernel
theorem dX12_through_11 : decode cX12_through 11 = .ok (.invokevirtual 254, 3) := by decide +kernel
theorem dX12_through_14 : decode cX12_through 14 = .ok (.ifCond .eq 5, 3) := by decide +kernel
theorem dX12_through_17 : decode cX12_through 17 = .ok (.iconst (-1), 1) := by decide +kernel
theorem dX12_through_18 : decode cX12_through 18 = .ok (.ireturn, 1) := by decide +kernel
theorem dX12_through_19 : decode cX12_through 19 = .ok (.iconst 0, 1) := by decide +kernel
theorem dX12_through_20 : decode cX12_through 20 = .ok (.istore_n 3, 1) := by decide +kernel
theorem dX12_through_21 : decode cX12_through 21 = .ok (.iconst 0, 1) := by decide +kernel
theorem dX12_through_22 : decode cX12_through 22 = .ok (.istore 4, 2) := by decide +kernel
theorem dX12_through_24 : decode cX12_through 24 = .ok (.iload 4, 2) := by decide +kernel
theorem dX12_through_26 : decode cX12_through 26 = .ok (.aload_n 0, 1) := by decide +kernel
theorem dX12_through_27 : decode cX12_through 27 = .ok (.getfield 17, 3) := by decide +kernel
theorem dX12_through_30 : decode cX12_through 30 = .ok (.iconst 5, 1) := by decide +kernel
theorem dX12_through_31 : decode cX12_through 31 = .ok (.iaload, 1) := by decide +kernel
theorem dX12_through_32 : decode cX12_through 32 = .ok (.if_icmp .ge 37, 3) := by decide +kernel
theorem dX12_through_35 : decode cX12_through 35 = .ok (.iload_n 3, 1) := by decide +kernel
theorem dX12_through_36 : decode cX12_through 36 = .ok (.aload_n 0, 1) := by decide +kernel
theorem dX12_through_37 : decode cX12_through 37 = .ok (.iload 4, 2) := by decide +kernel
theorem dX12_through_39 : decode cX12_through 39 = .ok (.aload_n 0, 1) := by decide +kernel
theorem dX12_through_40 : decode cX12_through 40 = .ok (.iload_n 1, 1) := by decide +kernel
theorem dX12_through_41 : decode cX12_through 41 = .ok (.iload 4, 2) := by decide +kernel
theorem dX12_through_43 : decode cX12_through 43 = .ok (.invokevirtual 362, 3) := by decide +kernel
theorem dX12_through_46 : decode cX12_through 46 = .ok (.iload_n 2, 1) := by decide +kernel
theorem dX12_through_47 : decode cX12_through 47 = .ok (.invokevirtual 365, 3) := by decide +kernel
theorem dX12_through_50 : decode cX12_through 50 = .ok (.ifCond .le 10, 3) := by decide +kernel
theorem dX12_through_53 : decode cX12_through 53 = .ok (.iconst 1, 1) := by decide +kernel
theorem dX12_through_54 : decode cX12_through 54 = .ok (.iload 4, 2) := by decide +kernel
theorem dX12_through_56 : decode cX12_through 56 = .ok (.ishl, 1) := by decide +kernel
theorem dX12_through_57 : decode cX12_through 57 = .ok (.goto 4, 3) := by decide +kernel
theorem dX12_through_60 : decode cX12_through 60 = .ok (.iconst 0, 1) := by decide +kernel
theorem dX12_through_61 : decode cX12_through 61 = .ok (.ior, 1) := by decide +kernel
theorem dX12_through_62 : decode cX12_through 62 = .ok (.istore_n 3, 1) := by decide +kernel
theorem dX12_through_63 : decode cX12_through 63 = .ok (.iinc 4 1, 3) := by decide +kernel
theorem dX12_through_66 : decode cX12_through 66 = .ok (.goto (-42), 3) := by decide +kernel
theorem dX12_through_69 : decode cX12_through 69 = .ok (.iload_n 3, 1) := by decide +kernel
theorem dX12_through_70 : decode cX12_through 70 = .ok (.ireturn, 1) := by decide +kernel
theorem dX12_isFlaw_0 : decode cX12_isFlaw 0 = .ok (.iconst 5, 1) := by decide +kernel
theorem dX12_isFlaw_1 : decode cX12_isFlaw 1 = .ok (.aload_n 0, 1) := by decide +kernel
theorem dX12_isFlaw_2 : decode cX12_isFlaw 2 = .ok (.getfield 381, 3) := by decide +kernel
theorem dX12_isFlaw_5 : decode cX12_isFlaw 5 = .ok (.imul, 1) := by decide +kernel
theorem dX12_isFlaw_6 : decode cX12_isFlaw 6 = .ok (.istore 5, 2) := by decide +kernel
theorem dX12_isFlaw_8 : decode cX12_isFlaw 8 = .ok (.aload_n 0, 1) := by decide +kernel
theorem dX12_isFlaw_9 : decode cX12_isFlaw 9 = .ok (.getfield 42, 3) := by decide +kernel
theorem dX12_isFlaw_12 : decode cX12_isFlaw 12 = .ok (.iload 5, 2) := by decide +kernel
theorem dX12_isFlaw_14 : decode cX12_isFlaw 14 = .ok (.iload_n 1, 1) := by decide +kernel
theorem dX12_isFlaw_15 : decode cX12_isFlaw 15 = .ok (.iastore, 1) := by decide +kernel
theorem dX12_isFlaw_16 : decode cX12_isFlaw 16 = .ok (.aload_n 0, 1) := by decide +kernel
theorem dX12_isFlaw_17 : decode cX12_isFlaw 17 = .ok (.getfield 42, 3) := by decide +kernel
theorem dX12_isFlaw_20 : decode cX12_isFlaw 20 = .ok (.iload 5, 2) := by decide +kernel
theorem dX12_isFlaw_22 : decode cX12_isFlaw 22 = .ok (.iconst 1, 1) := by decide +kernel
theorem dX12_isFlaw_23 : decode cX12_isFlaw 23 = .ok (.iadd, 1) := by decide +kernel
theorem dX12_isFlaw_24 : decode cX12_isFlaw 24 = .ok (.iload_n 2, 1) := by decide +kernel
theorem dX12_isFlaw_25 : decode cX12_isFlaw 25 = .ok (.iastore, 1) := by decide +kernel
theorem dX12_isFlaw_26 : decode cX12_isFlaw 26 = .ok (.aload_n 0, 1) := by decide +kernel
theorem dX12_isFlaw_27 : decode cX12_isFlaw 27 = .ok (.getfield 42, 3) := by decide +kernel
theorem dX12_isFlaw_30 : decode cX12_isFlaw 30 = .ok (.iload 5, 2) := by decide +kernel
theorem dX12_isFlaw_32 : decode cX12_isFlaw 32 = .ok (.iconst 2, 1) := by decide +kernel
theorem dX12_isFlaw_33 : decode cX12_isFlaw 33 = .ok (.iadd, 1) := by decide +kernel
theorem dX12_isFlaw_34 : decode cX12_isFlaw 34 = .ok (.iload_n 3, 1) := by decide +kernel
theorem dX12_isFlaw_35 : decode cX12_isFlaw 35 = .ok (.iastore, 1) := by decide +kernel
theorem dX12_isFlaw_36 : decode cX12_isFlaw 36 = .ok (.aload_n 0, 1) := by decide +kernel
theorem dX12_isFlaw_37 : decode cX12_isFlaw 37 = .ok (.getfield 42, 3) := by decide +kernel
theorem dX12_isFlaw_40 : decode cX12_isFlaw 40 = .ok (.iload 5, 2) := by decide +kernel
theorem dX12_isFlaw_42 : decode cX12_isFlaw 42 = .ok (.iconst 3, 1) := by decide +kernel
theorem dX12_isFlaw_43 : decode cX12_isFlaw 43 = .ok (.iadd, 1) := by decide +kernel
theorem dX12_isFlaw_44 : decode cX12_isFlaw 44 = .ok (.aload_n 0, 1) := by decide +kernel
theorem dX12_isFlaw_45 : decode cX12_isFlaw 45 = .ok (.iload_n 2, 1) := by decide +kernel
theorem dX12_isFlaw_46 : decode cX12_isFlaw 46 = .ok (.iload 4, 2) := by decide +kernel
theorem dX12_isFlaw_48 : decode cX12_isFlaw 48 = .ok (.invokevirtual 322, 3) := by decide +kernel
theorem dX12_isFlaw_51 : decode cX12_isFlaw 51 = .ok (.iastore, 1) := by decide +kernel
theorem dX12_isFlaw_52 : decode cX12_isFlaw 52 = .ok (.aload_n 0, 1) := by decide +kernel
theorem dX12_isFlaw_53 : decode cX12_isFlaw 53 = .ok (.getfield 42, 3) := by decide +kernel
theorem dX12_isFlaw_56 : decode cX12_isFlaw 56 = .ok (.iload 5, 2) := by decide +kernel
theorem dX12_isFlaw_58 : decode cX12_isFlaw 58 = .ok (.iconst 4, 1) := by decide +kernel
theorem dX12_isFlaw_59 : decode cX12_isFlaw 59 = .ok (.iadd, 1) := by decide +kernel
theorem dX12_isFlaw_60 : decode cX12_isFlaw 60 = .ok (.aload_n 0, 1) := by decide +kernel
theorem dX12_isFlaw_61 : decode cX12_isFlaw 61 = .ok (.iload_n 2, 1) := by decide +kernel
theorem dX12_isFlaw_62 : decode cX12_isFlaw 62 = .ok (.iload 4, 2) := by decide +kernel
theorem dX12_isFlaw_64 : decode cX12_isFlaw 64 = .ok (.invokevirtual 384, 3) := by decide +kernel
theorem dX12_isFlaw_67 : decode cX12_isFlaw 67 = .ok (.iastore, 1) := by decide +kernel
theorem dX12_isFlaw_68 : decode cX12_isFlaw 68 = .ok (.aload_n 0, 1) := by decide +kernel
theorem dX12_isFlaw_69 : decode cX12_isFlaw 69 = .ok (.dup, 1) := by decide +kernel
theorem dX12_isFlaw_70 : decode cX12_isFlaw 70 = .ok (.getfield 381, 3) := by decide +kernel
theorem dX12_isFlaw_73 : decode cX12_isFlaw 73 = .ok (.iconst 1, 1) := by decide +kernel
theorem dX12_isFlaw_74 : decode cX12_isFlaw 74 = .ok (.iadd, 1) := by decide +kernel
theorem dX12_isFlaw_75 : decode cX12_isFlaw 75 = .ok (.putfield 381, 3) := by decide +kernel
theorem dX12_isFlaw_78 : decode cX12_isFlaw 78 = .ok (.return_, 1) := by decide +kernel
theorem dX12_hasPin_0 : decode cX12_hasPin 0 = .ok (.aload_n 0, 1) := by decide +kernel
theorem dX12_hasPin_1 : decode cX12_hasPin 1 = .ok (.iload_n 1, 1) := by decide +kernel
theorem dX12_hasPin_2 : decode cX12_hasPin 2 = .ok (.iload_n 2, 1) := by decide +kernel
theorem dX12_hasPin_3 : decode cX12_hasPin 3 = .ok (.invokevirtual 362, 3) := by decide +kernel
theorem dX12_hasPin_6 : decode cX12_hasPin 6 = .ok (.istore 5, 2) := by decide +kernel
theorem dX12_hasPin_8 : decode cX12_hasPin 8 = .ok (.iconst 0, 1) := by decide +kernel
theorem dX12_hasPin_9 : decode cX12_hasPin 9 = .ok (.istore 6, 2) := by decide +kernel
theorem dX12_hasPin_11 : decode cX12_hasPin 11 = .ok (.iload 6, 2) := by decide +kernel
theorem dX12_hasPin_13 : decode cX12_hasPin 13 = .ok (.iconst 5, 1) := by decide +kernel
theorem dX12_hasPin_14 : decode cX12_hasPin 14 = .ok (.if_icmp .ge 44, 3) := by decide +kernel
theorem dX12_hasPin_17 : decode cX12_hasPin 17 = .ok (.iload 5, 2) := by decide +kernel
theorem dX12_hasPin_19 : decode cX12_hasPin 19 = .ok (.iload 6, 2) := by decide +kernel
theorem dX12_hasPin_21 : decode cX12_hasPin 21 = .ok (.invokestatic 343, 3) := by decide +kernel
theorem dX12_hasPin_24 : decode cX12_hasPin 24 = .ok (.ifCond .eq 28, 3) := by decide +kernel
theorem dX12_hasPin_27 : decode cX12_hasPin 27 = .ok (.aload_n 0, 1) := by decide +kernel
theorem dX12_hasPin_28 : decode cX12_hasPin 28 = .ok (.iload_n 2, 1) := by decide +kernel
theorem dX12_hasPin_29 : decode cX12_hasPin 29 = .ok (.iload 6, 2) := by decide +kernel
theorem dX12_hasPin_31 : decode cX12_hasPin 31 = .ok (.invokevirtual 322, 3) := by decide +kernel
theorem dX12_hasPin_34 : decode cX12_hasPin 34 = .ok (.iload_n 3, 1) := by decide +kernel
theorem dX12_hasPin_35 : decode cX12_hasPin 35 = .ok (.if_icmp .ne 17, 3) := by decide +kernel
theorem dX12_hasPin_38 : decode cX12_hasPin 38 = .ok (.aload_n 0, 1) := by decide +kernel
theorem dX12_hasPin_39 : decode cX12_hasPin 39 = .ok (.iload_n 2, 1) := by decide +kernel
theorem dX12_hasPin_40 : decode cX12_hasPin 40 = .ok (.iload 6, 2) := by decide +kernel
theorem dX12_hasPin_42 : decode cX12_hasPin 42 = .ok (.invokevirtual 384, 3) := by decide +kernel
theorem dX12_hasPin_45 : decode cX12_hasPin 45 = .ok (.iload 4, 2) := by decide +kernel
theorem dX12_hasPin_47 : decode cX12_hasPin 47 = .ok (.if_icmp .ne 5, 3) := by decide +kernel
theorem dX12_hasPin_50 : decode cX12_hasPin 50 = .ok (.iconst 1, 1) := by decide +kernel
theorem dX12_hasPin_51 : decode cX12_hasPin 51 = .ok (.ireturn, 1) := by decide +kernel
theorem dX12_hasPin_52 : decode cX12_hasPin 52 = .ok (.iinc 6 1, 3) := by decide +kernel
theorem dX12_hasPin_55 : decode cX12_hasPin 55 = .ok (.goto (-44), 3) := by decide +kernel
theorem dX12_hasPin_58 : decode cX12_hasPin 58 = .ok (.iconst 0, 1) := by decide +kernel
theorem dX12_hasPin_59 : decode cX12_hasPin 59 = .ok (.ireturn, 1) := by decide +kernel
theorem dX12_clashing_0 : decode cX12_clashing 0 = .ok (.iconst 0, 1) := by decide +kernel
theorem dX12_clashing_1 : decode cX12_clashing 1 = .ok (.istore 4, 2) := by decide +kernel
theorem dX12_clashing_3 : decode cX12_clashing 3 = .ok (.iload 4, 2) := by decide +kernel
theorem dX12_clashing_5 : decode cX12_clashing 5 = .ok (.iload_n 2, 1) := by decide +kernel
theorem dX12_clashing_6 : decode cX12_clashing 6 = .ok (.if_icmp .ge 34, 3) := by decide +kernel
theorem dX12_clashing_9 : decode cX12_clashing 9 = .ok (.aload_n 0, 1) := by decide +kernel
theorem dX12_clashing_10 : decode cX12_clashing 10 = .ok (.iload_n 1, 1) := by decide +kernel
theorem dX12_clashing_11 : decode cX12_clashing 11 = .ok (.iload 4, 2) := by decide +kernel
theorem dX12_clashing_13 : decode cX12_clashing 13 = .ok (.aload_n 0, 1) := by decide +kernel
theorem dX12_clashing_14 : decode cX12_clashing 14 = .ok (.iload_n 2, 1) := by decide +kernel
theorem dX12_clashing_15 : decode cX12_clashing 15 = .ok (.iload_n 3, 1) := by decide +kernel
theorem dX12_clashing_16 : decode cX12_clashing 16 = .ok (.invokevirtual 322, 3) := by decide +kernel
theorem dX12_clashing_19 : decode cX12_clashing 19 = .ok (.aload_n 0, 1) := by decide +kernel
theorem dX12_clashing_20 : decode cX12_clashing 20 = .ok (.iload_n 2, 1) := by decide +kernel
theorem dX12_clashing_21 : decode cX12_clashing 21 = .ok (.iload_n 3, 1) := by decide +kernel
theorem dX12_clashing_22 : decode cX12_clashing 22 = .ok (.invokevirtual 384, 3) := by decide +kernel
theorem dX12_clashing_25 : decode cX12_clashing 25 = .ok (.invokevirtual 387, 3) := by decide +kernel
theorem dX12_clashing_28 : decode cX12_clashing 28 = .ok (.ifCond .eq 6, 3) := by decide +kernel
theorem dX12_clashing_31 : decode cX12_clashing 31 = .ok (.iload 4, 2) := by decide +kernel
theorem dX12_clashing_33 : decode cX12_clashing 33 = .ok (.ireturn, 1) := by decide +kernel
theorem dX12_clashing_34 : decode cX12_clashing 34 = .ok (.iinc 4 1, 3) := by decide +kernel
theorem dX12_clashing_37 : decode cX12_clashing 37 = .ok (.goto (-34), 3) := by decide +kernel
theorem dX12_clashing_40 : decode cX12_clashing 40 = .ok (.iconst (-1), 1) := by decide +kernel
theorem dX12_clashing_41 : decode cX12_clashing 41 = .ok (.ireturn, 1) := by decide +kernel
theorem dX12_beside_0 : decode cX12_beside 0 = .ok (.aload_n 0, 1) := by decide +kernel
theorem dX12_beside_1 : decode cX12_beside 1 = .ok (.iload_n 2, 1) := by decide +kernel
theorem dX12_beside_2 : decode cX12_beside 2 = .ok (.iconst 0, 1) := by decide +kernel
theorem dX12_beside_3 : decode cX12_beside 3 = .ok (.invokevirtual 319, 3) := by decide +kernel
theorem dX12_beside_6 : decode cX12_beside 6 = .ok (.istore 4, 2) := by decide +kernel
theorem dX12_beside_8 : decode cX12_beside 8 = .ok (.iconst 0, 1) := by decide +kernel
theorem dX12_beside_9 : decode cX12_beside 9 = .ok (.istore 5, 2) := by decide +kernel
theorem dX12_beside_11 : decode cX12_beside 11 = .ok (.iload 5, 2) := by decide +kernel
theorem dX12_beside_13 : decode cX12_beside 13 = .ok (.aload_n 0, 1) := by decide +kernel
theorem dX12_beside_14 : decode cX12_beside 14 = .ok (.getfield 17, 3) := by decide +kernel
theorem dX12_beside_17 : decode cX12_beside 17 = .ok (.iconst 5, 1) := by decide +kernel
theorem dX12_beside_18 : decode cX12_beside 18 = .ok (.iaload, 1) := by decide +kernel
theorem dX12_beside_19 : decode cX12_beside 19 = .ok (.if_icmp .ge 92, 3) := by decide +kernel
theorem dX12_beside_22 : decode cX12_beside 22 = .ok (.iload 4, 2) := by decide +kernel
theorem dX12_beside_24 : decode cX12_beside 24 = .ok (.iconst 2, 1) := by decide +kernel
theorem dX12_beside_25 : decode cX12_beside 25 = .ok (.if_icmp .ge 86, 3) := by decide +kernel
theorem dX12_beside_28 : decode cX12_beside 28 = .ok (.aload_n 0, 1) := by decide +kernel
theorem dX12_beside_29 : decode cX12_beside 29 = .ok (.iload_n 1, 1) := by decide +kernel
theorem dX12_beside_30 : decode cX12_beside 30 = .ok (.iload 5, 2) := by decide +kernel
theorem dX12_beside_32 : decode cX12_beside 32 = .ok (.aload_n 0, 1) := by decide +kernel
theorem dX12_beside_33 : decode cX12_beside 33 = .ok (.iload_n 2, 1) := by decide +kernel
theorem dX12_beside_34 : decode cX12_beside 34 = .ok (.iload_n 3, 1) := by decide +kernel
theorem dX12_beside_35 : decode cX12_beside 35 = .ok (.invokevirtual 322, 3) := by decide +kernel
theorem dX12_beside_38 : decode cX12_beside 38 = .ok (.aload_n 0, 1) := by decide +kernel
theorem dX12_beside_39 : decode cX12_beside 39 = .ok (.iload_n 2, 1) := by decide +kernel
theorem dX12_beside_40 : decode cX12_beside 40 = .ok (.iload_n 3, 1) := by decide +kernel
theorem dX12_beside_41 : decode cX12_beside 41 = .ok (.invokevirtual 384, 3) := by decide +kernel
theorem dX12_beside_44 : decode cX12_beside 44 = .ok (.iconst 1, 1) := by decide +kernel
theorem dX12_beside_45 : decode cX12_beside 45 = .ok (.isub, 1) := by decide +kernel
theorem dX12_beside_46 : decode cX12_beside 46 = .ok (.invokevirtual 387, 3) := by decide +kernel
theorem dX12_beside_49 : decode cX12_beside 49 = .ok (.ifCond .ne 27, 3) := by decide +kernel
theorem dX12_beside_52 : decode cX12_beside 52 = .ok (.aload_n 0, 1) := by decide +kernel
theorem dX12_beside_53 : decode cX12_beside 53 = .ok (.iload_n 1, 1) := by decide +kernel
theorem dX12_beside_54 : decode cX12_beside 54 = .ok (.iload 5, 2) := by decide +kernel
theorem dX12_beside_56 : decode cX12_beside 56 = .ok (.aload_n 0, 1) := by decide +kernel
theorem dX12_beside_57 : decode cX12_beside 57 = .ok (.iload_n 2, 1) := by decide +kernel
theorem dX12_beside_58 : decode cX12_beside 58 = .ok (.iload_n 3, 1) := by decide +kernel
theorem dX12_beside_59 : decode cX12_beside 59 = .ok (.invokevirtual 322, 3) := by decide +kernel
theorem dX12_beside_62 : decode cX12_beside 62 = .ok (.aload_n 0, 1) := by decide +kernel
theorem dX12_beside_63 : decode cX12_beside 63 = .ok (.iload_n 2, 1) := by decide +kernel
theorem dX12_beside_64 : decode cX12_beside 64 = .ok (.iload_n 3, 1) := by decide +kernel
theorem dX12_beside_65 : decode cX12_beside 65 = .ok (.invokevirtual 384, 3) := by decide +kernel
theorem dX12_beside_68 : decode cX12_beside 68 = .ok (.iconst 1, 1) := by decide +kernel
theorem dX12_beside_69 : decode cX12_beside 69 = .ok (.iadd, 1) := by decide +kernel
theorem dX12_beside_70 : decode cX12_beside 70 = .ok (.invokevirtual 387, 3) := by decide +kernel
theorem dX12_beside_73 : decode cX12_beside 73 = .ok (.ifCond .eq 7, 3) := by decide +kernel
theorem dX12_beside_76 : decode cX12_beside 76 = .ok (.iconst 1, 1) := by decide +kernel
theorem dX12_beside_77 : decode cX12_beside 77 = .ok (.goto 4, 3) := by decide +kernel
theorem dX12_beside_80 : decode cX12_beside 80 = .ok (.iconst 0, 1) := by decide +kernel
theorem dX12_beside_81 : decode cX12_beside 81 = .ok (.istore 6, 2) := by decide +kernel
theorem dX12_beside_83 : decode cX12_beside 83 = .ok (.aload_n 0, 1) := by decide +kernel
theorem dX12_beside_84 : decode cX12_beside 84 = .ok (.iload 5, 2) := by decide +kernel
theorem dX12_beside_86 : decode cX12_beside 86 = .ok (.iconst 0, 1) := by decide +kernel
theorem dX12_beside_87 : decode cX12_beside 87 = .ok (.invokevirtual 319, 3) := by decide +kernel
theorem dX12_beside_90 : decode cX12_beside 90 = .ok (.iconst 1, 1) := by decide +kernel
theorem dX12_beside_91 : decode cX12_beside 91 = .ok (.iload 4, 2) := by decide +kernel
theorem dX12_beside_93 : decode cX12_beside 93 = .ok (.isub, 1) := by decide +kernel
theorem dX12_beside_94 : decode cX12_beside 94 = .ok (.if_icmp .ne 11, 3) := by decide +kernel
theorem dX12_beside_97 : decode cX12_beside 97 = .ok (.iload 6, 2) := by decide +kernel
theorem dX12_beside_99 : decode cX12_beside 99 = .ok (.ifCond .eq 6, 3) := by decide +kernel
theorem dX12_beside_102 : decode cX12_beside 102 = .ok (.iload 5, 2) := by decide +kernel
theorem dX12_beside_104 : decode cX12_beside 104 = .ok (.ireturn, 1) := by decide +kernel
theorem dX12_beside_105 : decode cX12_beside 105 = .ok (.iinc 5 1, 3) := by decide +kernel
theorem dX12_beside_108 : decode cX12_beside 108 = .ok (.goto (-97), 3) := by decide +kernel
theorem dX12_beside_111 : decode cX12_beside 111 = .ok (.iconst (-1), 1) := by decide +kernel
theorem dX12_beside_112 : decode cX12_beside 112 = .ok (.ireturn, 1) := by decide +kernel
theorem dX12_flawsOfPin_0 : decode cX12_flawsOfPin 0 = .ok (.aload_n 0, 1) := by decide +kernel
theorem dX12_flawsOfPin_1 : decode cX12_flawsOfPin 1 = .ok (.iload_n 2, 1) := by decide +kernel
theorem dX12_flawsOfPin_2 : decode cX12_flawsOfPin 2 = .ok (.iload_n 3, 1) := by decide +kernel
theorem dX12_flawsOfPin_3 : decode cX12_flawsOfPin 3 = .ok (.invokevirtual 322, 3) := by decide +kernel
theorem dX12_flawsOfPin_6 : decode cX12_flawsOfPin 6 = .ok (.istore 4, 2) := by decide +kernel
theorem dX12_flawsOfPin_8 : decode cX12_flawsOfPin 8 = .ok (.aload_n 0, 1) := by decide +kernel
theorem dX12_flawsOfPin_9 : decode cX12_flawsOfPin 9 = .ok (.iload_n 2, 1) := by decide +kernel
theorem dX12_flawsOfPin_10 : decode cX12_flawsOfPin 10 = .ok (.iconst 1, 1) := by decide +kernel
theorem dX12_flawsOfPin_11 : decode cX12_flawsOfPin 11 = .ok (.invokevirtual 319, 3) := by decide +kernel
theorem dX12_flawsOfPin_14 : decode cX12_flawsOfPin 14 = .ok (.aload_n 0, 1) := by decide +kernel
theorem dX12_flawsOfPin_15 : decode cX12_flawsOfPin 15 = .ok (.iload 4, 2) := by decide +kernel
theorem dX12_flawsOfPin_17 : decode cX12_flawsOfPin 17 = .ok (.iconst 2, 1) := by decide +kernel
theorem dX12_flawsOfPin_18 : decode cX12_flawsOfPin 18 = .ok (.invokevirtual 325, 3) := by decide +kernel
theorem dX12_flawsOfPin_21 : decode cX12_flawsOfPin 21 = .ok (.aload_n 0, 1) := by decide +kernel
theorem dX12_flawsOfPin_22 : decode cX12_flawsOfPin 22 = .ok (.iload 4, 2) := by decide +kernel
theorem dX12_flawsOfPin_24 : decode cX12_flawsOfPin 24 = .ok (.iconst 3, 1) := by decide +kernel
theorem dX12_flawsOfPin_25 : decode cX12_flawsOfPin 25 = .ok (.invokevirtual 325, 3) := by decide +kernel
theorem dX12_flawsOfPin_28 : decode cX12_flawsOfPin 28 = .ok (.invokestatic 86, 3) := by decide +kernel
theorem dX12_flawsOfPin_31 : decode cX12_flawsOfPin 31 = .ok (.ifCond .ne 12, 3) := by decide +kernel
theorem dX12_flawsOfPin_34 : decode cX12_flawsOfPin 34 = .ok (.aload_n 0, 1) := by decide +kernel
theorem dX12_flawsOfPin_35 : decode cX12_flawsOfPin 35 = .ok (.iconst 2, 1) := by decide +kernel
theorem dX12_flawsOfPin_36 : decode cX12_flawsOfPin 36 = .ok (.iload_n 2, 1) := by decide +kernel
theorem dX12_flawsOfPin_37 : decode cX12_flawsOfPin 37 = .ok (.bipush (-2), 2) := by decide +kernel
theorem dX12_flawsOfPin_39 : decode cX12_flawsOfPin 39 = .ok (.iload_n 3, 1) := by decide +kernel
theorem dX12_flawsOfPin_40 : decode cX12_flawsOfPin 40 = .ok (.invokevirtual 391, 3) := by decide +kernel
theorem dX12_flawsOfPin_43 : decode cX12_flawsOfPin 43 = .ok (.aload_n 0, 1) := by decide +kernel
theorem dX12_flawsOfPin_44 : decode cX12_flawsOfPin 44 = .ok (.iload_n 1, 1) := by decide +kernel
theorem dX12_flawsOfPin_45 : decode cX12_flawsOfPin 45 = .ok (.iload_n 2, 1) := by decide +kernel
theorem dX12_flawsOfPin_46 : decode cX12_flawsOfPin 46 = .ok (.iload_n 3, 1) := by decide +kernel
theorem dX12_flawsOfPin_47 : decode cX12_flawsOfPin 47 = .ok (.invokevirtual 395, 3) := by decide +kernel
theorem dX12_flawsOfPin_50 : decode cX12_flawsOfPin 50 = .ok (.istore 5, 2) := by decide +kernel
theorem dX12_flawsOfPin_52 : decode cX12_flawsOfPin 52 = .ok (.iload 5, 2) := by decide +kernel
theorem dX12_flawsOfPin_54 : decode cX12_flawsOfPin 54 = .ok (.iconst (-1), 1) := by decide +kernel
theorem dX12_flawsOfPin_55 : decode cX12_flawsOfPin 55 = .ok (.if_icmp .eq 12, 3) := by decide +kernel
theorem dX12_flawsOfPin_58 : decode cX12_flawsOfPin 58 = .ok (.aload_n 0, 1) := by decide +kernel
theorem dX12_flawsOfPin_59 : decode cX12_flawsOfPin 59 = .ok (.iconst 3, 1) := by decide +kernel
theorem dX12_flawsOfPin_60 : decode cX12_flawsOfPin 60 = .ok (.iload_n 2, 1) := by decide +kernel
theorem dX12_flawsOfPin_61 : decode cX12_flawsOfPin 61 = .ok (.iload 5, 2) := by decide +kernel
theorem dX12_flawsOfPin_63 : decode cX12_flawsOfPin 63 = .ok (.iload_n 3, 1) := by decide +kernel
theorem dX12_flawsOfPin_64 : decode cX12_flawsOfPin 64 = .ok (.invokevirtual 391, 3) := by decide +kernel
theorem dX12_flawsOfPin_67 : decode cX12_flawsOfPin 67 = .ok (.aload_n 0, 1) := by decide +kernel
theorem dX12_flawsOfPin_68 : decode cX12_flawsOfPin 68 = .ok (.iload_n 1, 1) := by decide +kernel
theorem dX12_flawsOfPin_69 : decode cX12_flawsOfPin 69 = .ok (.iload_n 2, 1) := by decide +kernel
theorem dX12_flawsOfPin_70 : decode cX12_flawsOfPin 70 = .ok (.iload_n 3, 1) := by decide +kernel
theorem dX12_flawsOfPin_71 : decode cX12_flawsOfPin 71 = .ok (.invokevirtual 398, 3) := by decide +kernel
theorem dX12_flawsOfPin_74 : decode cX12_flawsOfPin 74 = .ok (.istore 5, 2) := by decide +kernel
theorem dX12_flawsOfPin_76 : decode cX12_flawsOfPin 76 = .ok (.iload 5, 2) := by decide +kernel
theorem dX12_flawsOfPin_78 : decode cX12_flawsOfPin 78 = .ok (.iconst (-1), 1) := by decide +kernel
theorem dX12_flawsOfPin_79 : decode cX12_flawsOfPin 79 = .ok (.if_icmp .eq 12, 3) := by decide +kernel
theorem dX12_flawsOfPin_82 : decode cX12_flawsOfPin 82 = .ok (.aload_n 0, 1) := by decide +kernel
theorem dX12_flawsOfPin_83 : decode cX12_flawsOfPin 83 = .ok (.iconst 4, 1) := by decide +kernel
theorem dX12_flawsOfPin_84 : decode cX12_flawsOfPin 84 = .ok (.iload_n 2, 1) := by decide +kernel
theorem dX12_flawsOfPin_85 : decode cX12_flawsOfPin 85 = .ok (.iload 5, 2) := by decide +kernel
theorem dX12_flawsOfPin_87 : decode cX12_flawsOfPin 87 = .ok (.iload_n 3, 1) := by decide +kernel
theorem dX12_flawsOfPin_88 : decode cX12_flawsOfPin 88 = .ok (.invokevirtual 391, 3) := by decide +kernel
theorem dX12_flawsOfPin_91 : decode cX12_flawsOfPin 91 = .ok (.return_, 1) := by decide +kernel
theorem dX12_laysFlaws_0 : decode cX12_laysFlaws 0 = .ok (.aload_n 0, 1) := by decide +kernel
theorem dX12_laysFlaws_1 : decode cX12_laysFlaws 1 = .ok (.iconst 0, 1) := by decide +kernel
theorem dX12_laysFlaws_2 : decode cX12_laysFlaws 2 = .ok (.putfield 381, 3) := by decide +kernel
theorem dX12_laysFlaws_5 : decode cX12_laysFlaws 5 = .ok (.iconst 0, 1) := by decide +kernel
theorem dX12_laysFlaws_6 : decode cX12_laysFlaws 6 = .ok (.istore_n 2, 1) := by decide +kernel
theorem dX12_laysFlaws_7 : decode cX12_laysFlaws 7 = .ok (.iload_n 2, 1) := by decide +kernel
theorem dX12_laysFlaws_8 : decode cX12_laysFlaws 8 = .ok (.aload_n 0, 1) := by decide +kernel
theorem dX12_laysFlaws_9 : decode cX12_laysFlaws 9 = .ok (.getfield 17, 3) := by decide +kernel
theorem dX12_laysFlaws_12 : decode cX12_laysFlaws 12 = .ok (.iconst 5, 1) := by decide +kernel
theorem dX12_laysFlaws_13 : decode cX12_laysFlaws 13 = .ok (.iaload, 1) := by decide +kernel
theorem dX12_laysFlaws_14 : decode cX12_laysFlaws 14 = .ok (.if_icmp .ge 68, 3) := by decide +kernel
theorem dX12_laysFlaws_17 : decode cX12_laysFlaws 17 = .ok (.aload_n 0, 1) := by decide +kernel
theorem dX12_laysFlaws_18 : decode cX12_laysFlaws 18 = .ok (.iload_n 1, 1) := by decide +kernel
theorem dX12_laysFlaws_19 : decode cX12_laysFlaws 19 = .ok (.iload_n 2, 1) := by decide +kernel
theorem dX12_laysFlaws_20 : decode cX12_laysFlaws 20 = .ok (.invokevirtual 362, 3) := by decide +kernel
theorem dX12_laysFlaws_23 : decode cX12_laysFlaws 23 = .ok (.istore_n 3, 1) := by decide +kernel
theorem dX12_laysFlaws_24 : decode cX12_laysFlaws 24 = .ok (.iload_n 3, 1) := by decide +kernel
theorem dX12_laysFlaws_25 : decode cX12_laysFlaws 25 = .ok (.invokestatic 349, 3) := by decide +kernel
theorem dX12_laysFlaws_28 : decode cX12_laysFlaws 28 = .ok (.iconst 1, 1) := by decide +kernel
theorem dX12_laysFlaws_29 : decode cX12_laysFlaws 29 = .ok (.if_icmp .ne 15, 3) := by decide +kernel
theorem dX12_laysFlaws_32 : decode cX12_laysFlaws 32 = .ok (.aload_n 0, 1) := by decide +kernel
theorem dX12_laysFlaws_33 : decode cX12_laysFlaws 33 = .ok (.iconst 1, 1) := by decide +kernel
theorem dX12_laysFlaws_34 : decode cX12_laysFlaws 34 = .ok (.iload_n 2, 1) := by decide +kernel
theorem dX12_laysFlaws_35 : decode cX12_laysFlaws 35 = .ok (.bipush (-2), 2) := by decide +kernel
theorem dX12_laysFlaws_37 : decode cX12_laysFlaws 37 = .ok (.iload_n 3, 1) := by decide +kernel
theorem dX12_laysFlaws_38 : decode cX12_laysFlaws 38 = .ok (.invokestatic 356, 3) := by decide +kernel
theorem dX12_laysFlaws_41 : decode cX12_laysFlaws 41 = .ok (.invokevirtual 391, 3) := by decide +kernel
theorem dX12_laysFlaws_44 : decode cX12_laysFlaws 44 = .ok (.iconst 0, 1) := by decide +kernel
theorem dX12_laysFlaws_45 : decode cX12_laysFlaws 45 = .ok (.istore 4, 2) := by decide +kernel
theorem dX12_laysFlaws_47 : decode cX12_laysFlaws 47 = .ok (.iload 4, 2) := by decide +kernel
theorem dX12_laysFlaws_49 : decode cX12_laysFlaws 49 = .ok (.iconst 5, 1) := by decide +kernel
theorem dX12_laysFlaws_50 : decode cX12_laysFlaws 50 = .ok (.if_icmp .ge 26, 3) := by decide +kernel
theorem dX12_laysFlaws_53 : decode cX12_laysFlaws 53 = .ok (.iload_n 3, 1) := by decide +kernel
theorem dX12_laysFlaws_54 : decode cX12_laysFlaws 54 = .ok (.iload 4, 2) := by decide +kernel
theorem dX12_laysFlaws_56 : decode cX12_laysFlaws 56 = .ok (.invokestatic 343, 3) := by decide +kernel
theorem dX12_laysFlaws_59 : decode cX12_laysFlaws 59 = .ok (.ifCond .eq 11, 3) := by decide +kernel
theorem dX12_laysFlaws_62 : decode cX12_laysFlaws 62 = .ok (.aload_n 0, 1) := by decide +kernel
theorem dX12_laysFlaws_63 : decode cX12_laysFlaws 63 = .ok (.iload_n 1, 1) := by decide +kernel
theorem dX12_laysFlaws_64 : decode cX12_laysFlaws 64 = .ok (.iload_n 2, 1) := by decide +kernel
theorem dX12_laysFlaws_65 : decode cX12_laysFlaws 65 = .ok (.iload 4, 2) := by decide +kernel
theorem dX12_laysFlaws_67 : decode cX12_laysFlaws 67 = .ok (.invokevirtual 401, 3) := by decide +kernel
theorem dX12_laysFlaws_70 : decode cX12_laysFlaws 70 = .ok (.iinc 4 1, 3) := by decide +kernel
theorem dX12_laysFlaws_73 : decode cX12_laysFlaws 73 = .ok (.goto (-26), 3) := by decide +kernel
theorem dX12_laysFlaws_76 : decode cX12_laysFlaws 76 = .ok (.iinc 2 1, 3) := by decide +kernel
theorem dX12_laysFlaws_79 : decode cX12_laysFlaws 79 = .ok (.goto (-72), 3) := by decide +kernel
theorem dX12_laysFlaws_82 : decode cX12_laysFlaws 82 = .ok (.aload_n 0, 1) := by decide +kernel
theorem dX12_laysFlaws_83 : decode cX12_laysFlaws 83 = .ok (.getfield 381, 3) := by decide +kernel
theorem dX12_laysFlaws_86 : decode cX12_laysFlaws 86 = .ok (.ireturn, 1) := by decide +kernel
theorem dX12_flaws_0 : decode cX12_flaws 0 = .ok (.aload_n 0, 1) := by decide +kernel
theorem dX12_flaws_1 : decode cX12_flaws 1 = .ok (.aload_n 0, 1) := by decide +kernel
theorem dX12_flaws_2 : decode cX12_flaws 2 = .ok (.iconst 1, 1) := by decide +kernel
theorem dX12_flaws_3 : decode cX12_flaws 3 = .ok (.iload_n 1, 1) := by decide +kernel
theorem dX12_flaws_4 : decode cX12_flaws 4 = .ok (.invokevirtual 368, 3) := by decide +kernel
theorem dX12_flaws_7 : decode cX12_flaws 7 = .ok (.invokevirtual 254, 3) := by decide +kernel
theorem dX12_flaws_10 : decode cX12_flaws 10 = .ok (.ifCond .eq 7, 3) := by decide +kernel
theorem dX12_flaws_13 : decode cX12_flaws 13 = .ok (.iconst (-1), 1) := by decide +kernel
theorem dX12_flaws_14 : decode cX12_flaws 14 = .ok (.goto 8, 3) := by decide +kernel
theorem dX12_flaws_17 : decode cX12_flaws 17 = .ok (.aload_n 0, 1) := by decide +kernel
theorem dX12_flaws_18 : decode cX12_flaws 18 = .ok (.iload_n 1, 1) := by decide +kernel
theorem dX12_flaws_19 : decode cX12_flaws 19 = .ok (.invokevirtual 405, 3) := by decide +kernel
theorem dX12_flaws_22 : decode cX12_flaws 22 = .ok (.ireturn, 1) := by decide +kernel
theorem dX12_flaw_0 : decode cX12_flaw 0 = .ok (.aload_n 0, 1) := by decide +kernel
theorem dX12_flaw_1 : decode cX12_flaw 1 = .ok (.aload_n 0, 1) := by decide +kernel
theorem dX12_flaw_2 : decode cX12_flaw 2 = .ok (.iload_n 3, 1) := by decide +kernel
theorem dX12_flaw_3 : decode cX12_flaw 3 = .ok (.iconst 0, 1) := by decide +kernel
theorem dX12_flaw_4 : decode cX12_flaw 4 = .ok (.iconst 4, 1) := by decide +kernel
theorem dX12_flaw_5 : decode cX12_flaw 5 = .ok (.invokestatic 86, 3) := by decide +kernel
theorem dX12_flaw_8 : decode cX12_flaw 8 = .ok (.iload_n 1, 1) := by decide +kernel
theorem dX12_flaw_9 : decode cX12_flaw 9 = .ok (.invokevirtual 368, 3) := by decide +kernel
theorem dX12_flaw_12 : decode cX12_flaw 12 = .ok (.invokevirtual 254, 3) := by decide +kernel
theorem dX12_flaw_15 : decode cX12_flaw 15 = .ok (.ifCond .eq 5, 3) := by decide +kernel
theorem dX12_flaw_18 : decode cX12_flaw 18 = .ok (.iconst (-1), 1) := by decide +kernel
theorem dX12_flaw_19 : decode cX12_flaw 19 = .ok (.ireturn, 1) := by decide +kernel
theorem dX12_flaw_20 : decode cX12_flaw 20 = .ok (.iload_n 2, 1) := by decide +kernel
theorem dX12_flaw_21 : decode cX12_flaw 21 = .ok (.iconst 0, 1) := by decide +kernel
theorem dX12_flaw_22 : decode cX12_flaw 22 = .ok (.aload_n 0, 1) := by decide +kernel
theorem dX12_flaw_23 : decode cX12_flaw 23 = .ok (.iload_n 1, 1) := by decide +kernel
theorem dX12_flaw_24 : decode cX12_flaw 24 = .ok (.invokevirtual 405, 3) := by decide +kernel
theorem dX12_flaw_27 : decode cX12_flaw 27 = .ok (.iconst 1, 1) := by decide +kernel
theorem dX12_flaw_28 : decode cX12_flaw 28 = .ok (.isub, 1) := by decide +kernel
theorem dX12_flaw_29 : decode cX12_flaw 29 = .ok (.invokestatic 86, 3) := by decide +kernel
theorem dX12_flaw_32 : decode cX12_flaw 32 = .ok (.ifCond .eq 16, 3) := by decide +kernel
theorem dX12_flaw_35 : decode cX12_flaw 35 = .ok (.aload_n 0, 1) := by decide +kernel
theorem dX12_flaw_36 : decode cX12_flaw 36 = .ok (.getfield 42, 3) := by decide +kernel
theorem dX12_flaw_39 : decode cX12_flaw 39 = .ok (.iconst 5, 1) := by decide +kernel
theorem dX12_flaw_40 : decode cX12_flaw 40 = .ok (.iload_n 2, 1) := by decide +kernel
theorem dX12_flaw_41 : decode cX12_flaw 41 = .ok (.imul, 1) := by decide +kernel
theorem dX12_flaw_42 : decode cX12_flaw 42 = .ok (.iload_n 3, 1) := by decide +kernel
theorem dX12_flaw_43 : decode cX12_flaw 43 = .ok (.iadd, 1) := by decide +kernel
theorem dX12_flaw_44 : decode cX12_flaw 44 = .ok (.iaload, 1) := by decide +kernel
theorem dX12_flaw_45 : decode cX12_flaw 45 = .ok (.goto 8, 3) := by decide +kernel
theorem dX12_flaw_48 : decode cX12_flaw 48 = .ok (.aload_n 0, 1) := by decide +kernel
theorem dX12_flaw_49 : decode cX12_flaw 49 = .ok (.iconst 1, 1) := by decide +kernel
theorem dX12_flaw_50 : decode cX12_flaw 50 = .ok (.invokevirtual 263, 3) := by decide +kernel
theorem dX12_flaw_53 : decode cX12_flaw 53 = .ok (.ireturn, 1) := by decide +kernel
theorem dX12_sound_0 : decode cX12_sound 0 = .ok (.aload_n 0, 1) := by decide +kernel
theorem dX12_sound_1 : decode cX12_sound 1 = .ok (.aload_n 0, 1) := by decide +kernel
theorem dX12_sound_2 : decode cX12_sound 2 = .ok (.getfield 269, 3) := by decide +kernel
theorem dX12_sound_5 : decode cX12_sound 5 = .ok (.invokestatic 275, 3) := by decide +kernel
theorem dX12_sound_8 : decode cX12_sound 8 = .ok (.invokevirtual 254, 3) := by decide +kernel
theorem dX12_sound_11 : decode cX12_sound 11 = .ok (.ifCond .eq 5, 3) := by decide +kernel
theorem dX12_sound_14 : decode cX12_sound 14 = .ok (.iconst (-1), 1) := by decide +kernel
theorem dX12_sound_15 : decode cX12_sound 15 = .ok (.ireturn, 1) := by decide +kernel
theorem dX12_sound_16 : decode cX12_sound 16 = .ok (.iconst 0, 1) := by decide +kernel
theorem dX12_sound_17 : decode cX12_sound 17 = .ok (.istore_n 1, 1) := by decide +kernel
theorem dX12_sound_18 : decode cX12_sound 18 = .ok (.iconst 0, 1) := by decide +kernel
theorem dX12_sound_19 : decode cX12_sound 19 = .ok (.istore_n 2, 1) := by decide +kernel
theorem dX12_sound_20 : decode cX12_sound 20 = .ok (.iload_n 2, 1) := by decide +kernel
theorem dX12_sound_21 : decode cX12_sound 21 = .ok (.iconst 1, 1) := by decide +kernel
theorem dX12_sound_22 : decode cX12_sound 22 = .ok (.aload_n 0, 1) := by decide +kernel
theorem dX12_sound_23 : decode cX12_sound 23 = .ok (.getfield 17, 3) := by decide +kernel
theorem dX12_sound_26 : decode cX12_sound 26 = .ok (.iconst 3, 1) := by decide +kernel
theorem dX12_sound_27 : decode cX12_sound 27 = .ok (.iaload, 1) := by decide +kernel
theorem dX12_sound_28 : decode cX12_sound 28 = .ok (.ishl, 1) := by decide +kernel
theorem dX12_sound_29 : decode cX12_sound 29 = .ok (.if_icmp .ge 27, 3) := by decide +kernel
theorem dX12_sound_32 : decode cX12_sound 32 = .ok (.iload_n 1, 1) := by decide +kernel
theorem dX12_sound_33 : decode cX12_sound 33 = .ok (.aload_n 0, 1) := by decide +kernel
theorem dX12_sound_34 : decode cX12_sound 34 = .ok (.iload_n 2, 1) := by decide +kernel
theorem dX12_sound_35 : decode cX12_sound 35 = .ok (.invokevirtual 405, 3) := by decide +kernel
theorem dX12_sound_38 : decode cX12_sound 38 = .ok (.ifCond .ne 9, 3) := by decide +kernel
theorem dX12_sound_41 : decode cX12_sound 41 = .ok (.iconst 1, 1) := by decide +kernel
theorem dX12_sound_42 : decode cX12_sound 42 = .ok (.iload_n 2, 1) := by decide +kernel
theorem dX12_sound_43 : decode cX12_sound 43 = .ok (.ishl, 1) := by decide +kernel
theorem dX12_sound_44 : decode cX12_sound 44 = .ok (.goto 4, 3) := by decide +kernel
theorem dX12_sound_47 : decode cX12_sound 47 = .ok (.iconst 0, 1) := by decide +kernel
theorem dX12_sound_48 : decode cX12_sound 48 = .ok (.ior, 1) := by decide +kernel
theorem dX12_sound_49 : decode cX12_sound 49 = .ok (.istore_n 1, 1) := by decide +kernel
theorem dX12_sound_50 : decode cX12_sound 50 = .ok (.iinc 2 1, 3) := by decide +kernel
theorem dX12_sound_53 : decode cX12_sound 53 = .ok (.goto (-33), 3) := by decide +kernel
theorem dX12_sound_56 : decode cX12_sound 56 = .ok (.iload_n 1, 1) := by decide +kernel
theorem dX12_sound_57 : decode cX12_sound 57 = .ok (.ireturn, 1) := by decide +kernel
theorem dX12_flawed_0 : decode cX12_flawed 0 = .ok (.aload_n 0, 1) := by decide +kernel
theorem dX12_flawed_1 : decode cX12_flawed 1 = .ok (.aload_n 0, 1) := by decide +kernel
theorem dX12_flawed_2 : decode cX12_flawed 2 = .ok (.getfield 269, 3) := by decide +kernel
theorem dX12_flawed_5 : decode cX12_flawed 5 = .ok (.invokestatic 275, 3) := by decide +kernel
theorem dX12_flawed_8 : decode cX12_flawed 8 = .ok (.invokevirtual 254, 3) := by decide +kernel
theorem dX12_flawed_11 : decode cX12_flawed 11 = .ok (.ifCond .eq 5, 3) := by decide +kernel
theorem dX12_flawed_14 : decode cX12_flawed 14 = .ok (.iconst (-1), 1) := by decide +kernel
theorem dX12_flawed_15 : decode cX12_flawed 15 = .ok (.ireturn, 1) := by decide +kernel
theorem dX12_flawed_16 : decode cX12_flawed 16 = .ok (.iconst 0, 1) := by decide +kernel
theorem dX12_flawed_17 : decode cX12_flawed 17 = .ok (.istore_n 1, 1) := by decide +kernel
theorem dX12_flawed_18 : decode cX12_flawed 18 = .ok (.iconst 0, 1) := by decide +kernel
theorem dX12_flawed_19 : decode cX12_flawed 19 = .ok (.istore_n 2, 1) := by decide +kernel
theorem dX12_flawed_20 : decode cX12_flawed 20 = .ok (.iload_n 2, 1) := by decide +kernel
theorem dX12_flawed_21 : decode cX12_flawed 21 = .ok (.aload_n 0, 1) := by decide +kernel
theorem dX12_flawed_22 : decode cX12_flawed 22 = .ok (.getfield 17, 3) := by decide +kernel
theorem dX12_flawed_25 : decode cX12_flawed 25 = .ok (.bipush 6, 2) := by decide +kernel
theorem dX12_flawed_27 : decode cX12_flawed 27 = .ok (.iaload, 1) := by decide +kernel
theorem dX12_flawed_28 : decode cX12_flawed 28 = .ok (.if_icmp .ge 21, 3) := by decide +kernel
theorem dX12_flawed_31 : decode cX12_flawed 31 = .ok (.iload_n 1, 1) := by decide +kernel
theorem dX12_flawed_32 : decode cX12_flawed 32 = .ok (.aload_n 0, 1) := by decide +kernel
theorem dX12_flawed_33 : decode cX12_flawed 33 = .ok (.aload_n 0, 1) := by decide +kernel
theorem dX12_flawed_34 : decode cX12_flawed 34 = .ok (.iload_n 2, 1) := by decide +kernel
theorem dX12_flawed_35 : decode cX12_flawed 35 = .ok (.invokevirtual 408, 3) := by decide +kernel
theorem dX12_flawed_38 : decode cX12_flawed 38 = .ok (.invokevirtual 405, 3) := by decide +kernel
theorem dX12_flawed_41 : decode cX12_flawed 41 = .ok (.iadd, 1) := by decide +kernel
theorem dX12_flawed_42 : decode cX12_flawed 42 = .ok (.istore_n 1, 1) := by decide +kernel
theorem dX12_flawed_43 : decode cX12_flawed 43 = .ok (.iinc 2 1, 3) := by decide +kernel
theorem dX12_flawed_46 : decode cX12_flawed 46 = .ok (.goto (-26), 3) := by decide +kernel
theorem dX12_flawed_49 : decode cX12_flawed 49 = .ok (.iload_n 1, 1) := by decide +kernel
theorem dX12_flawed_50 : decode cX12_flawed 50 = .ok (.ireturn, 1) := by decide +kernel
theorem dX12_variantOf_0 : decode cX12_variantOf 0 = .ok (.aload_n 0, 1) := by decide +kernel
theorem dX12_variantOf_1 : decode cX12_variantOf 1 = .ok (.getfield 17, 3) := by decide +kernel
theorem dX12_variantOf_4 : decode cX12_variantOf 4 = .ok (.sipush 257, 3) := by decide +kernel
theorem dX12_variantOf_7 : decode cX12_variantOf 7 = .ok (.iconst 2, 1) := by decide +kernel
theorem dX12_variantOf_8 : decode cX12_variantOf 8 = .ok (.iload_n 1, 1) := by decide +kernel
theorem dX12_variantOf_9 : decode cX12_variantOf 9 = .ok (.imul, 1) := by decide +kernel
theorem dX12_variantOf_10 : decode cX12_variantOf 10 = .ok (.iadd, 1) := by decide +kernel
theorem dX12_variantOf_11 : decode cX12_variantOf 11 = .ok (.iaload, 1) := by decide +kernel
theorem dX12_variantOf_12 : decode cX12_variantOf 12 = .ok (.ireturn, 1) := by decide +kernel
theorem dX12_manyOf_0 : decode cX12_manyOf 0 = .ok (.aload_n 0, 1) := by decide +kernel
theorem dX12_manyOf_1 : decode cX12_manyOf 1 = .ok (.getfield 17, 3) := by decide +kernel
theorem dX12_manyOf_4 : decode cX12_manyOf 4 = .ok (.sipush 257, 3) := by decide +kernel
theorem dX12_manyOf_7 : decode cX12_manyOf 7 = .ok (.iconst 2, 1) := by decide +kernel
theorem dX12_manyOf_8 : decode cX12_manyOf 8 = .ok (.iload_n 1, 1) := by decide +kernel
theorem dX12_manyOf_9 : decode cX12_manyOf 9 = .ok (.imul, 1) := by decide +kernel
theorem dX12_manyOf_10 : decode cX12_manyOf 10 = .ok (.iadd, 1) := by decide +kernel
theorem dX12_manyOf_11 : decode cX12_manyOf 11 = .ok (.iconst 1, 1) := by decide +kernel
theorem dX12_manyOf_12 : decode cX12_manyOf 12 = .ok (.iadd, 1) := by decide +kernel
theorem dX12_manyOf_13 : decode cX12_manyOf 13 = .ok (.iaload, 1) := by decide +kernel
theorem dX12_manyOf_14 : decode cX12_manyOf 14 = .ok (.ireturn, 1) := by decide +kernel
theorem dX12_isBuild_0 : decode cX12_isBuild 0 = .ok (.aload_n 0, 1) := by decide +kernel
theorem dX12_isBuild_1 : decode cX12_isBuild 1 = .ok (.getfield 269, 3) := by decide +kernel
theorem dX12_isBuild_4 : decode cX12_isBuild 4 = .ok (.ifCond .eq 24, 3) := by decide +kernel
theorem dX12_isBuild_7 : decode cX12_isBuild 7 = .ok (.iload_n 1, 1) := by decide +kernel
theorem dX12_isBuild_8 : decode cX12_isBuild 8 = .ok (.iconst 0, 1) := by decide +kernel
theorem dX12_isBuild_9 : decode cX12_isBuild 9 = .ok (.aload_n 0, 1) := by decide +kernel
theorem dX12_isBuild_10 : decode cX12_isBuild 10 = .ok (.getfield 17, 3) := by decide +kernel
theorem dX12_isBuild_13 : decode cX12_isBuild 13 = .ok (.bipush 6, 2) := by decide +kernel
theorem dX12_isBuild_15 : decode cX12_isBuild 15 = .ok (.iaload, 1) := by decide +kernel
theorem dX12_isBuild_16 : decode cX12_isBuild 16 = .ok (.iconst 1, 1) := by decide +kernel
theorem dX12_isBuild_17 : decode cX12_isBuild 17 = .ok (.isub, 1) := by decide +kernel
theorem dX12_isBuild_18 : decode cX12_isBuild 18 = .ok (.invokestatic 86, 3) := by decide +kernel
theorem dX12_isBuild_21 : decode cX12_isBuild 21 = .ok (.ifCond .eq 7, 3) := by decide +kernel
theorem dX12_isBuild_24 : decode cX12_isBuild 24 = .ok (.iconst 1, 1) := by decide +kernel
theorem dX12_isBuild_25 : decode cX12_isBuild 25 = .ok (.goto 4, 3) := by decide +kernel
theorem dX12_isBuild_28 : decode cX12_isBuild 28 = .ok (.iconst 0, 1) := by decide +kernel
theorem dX12_isBuild_29 : decode cX12_isBuild 29 = .ok (.ireturn, 1) := by decide +kernel
theorem dX12_commonPinsOf_0 : decode cX12_commonPinsOf 0 = .ok (.iconst 0, 1) := by decide +kernel
theorem dX12_commonPinsOf_1 : decode cX12_commonPinsOf 1 = .ok (.istore_n 3, 1) := by decide +kernel
theorem dX12_commonPinsOf_2 : decode cX12_commonPinsOf 2 = .ok (.iconst 0, 1) := by decide +kernel
theorem dX12_commonPinsOf_3 : decode cX12_commonPinsOf 3 = .ok (.istore 4, 2) := by decide +kernel
theorem dX12_commonPinsOf_5 : decode cX12_commonPinsOf 5 = .ok (.iload 4, 2) := by decide +kernel
theorem dX12_commonPinsOf_7 : decode cX12_commonPinsOf 7 = .ok (.aload_n 0, 1) := by decide +kernel
theorem dX12_commonPinsOf_8 : decode cX12_commonPinsOf 8 = .ok (.getfield 17, 3) := by decide +kernel
theorem dX12_commonPinsOf_11 : decode cX12_commonPinsOf 11 = .ok (.bipush 6, 2) := by decide +kernel
theorem dX12_commonPinsOf_13 : decode cX12_commonPinsOf 13 = .ok (.iaload, 1) := by decide +kernel
theorem dX12_commonPinsOf_14 : decode cX12_commonPinsOf 14 = .ok (.if_icmp .ge 53, 3) := by decide +kernel
theorem dX12_commonPinsOf_17 : decode cX12_commonPinsOf 17 = .ok (.iload_n 1, 1) := by decide +kernel
theorem dX12_commonPinsOf_18 : decode cX12_commonPinsOf 18 = .ok (.iload 4, 2) := by decide +kernel
theorem dX12_commonPinsOf_20 : decode cX12_commonPinsOf 20 = .ok (.invokestatic 343, 3) := by decide +kernel
theorem dX12_commonPinsOf_23 : decode cX12_commonPinsOf 23 = .ok (.ifCond .eq 17, 3) := by decide +kernel
theorem dX12_commonPinsOf_26 : decode cX12_commonPinsOf 26 = .ok (.aload_n 0, 1) := by decide +kernel
theorem dX12_commonPinsOf_27 : decode cX12_commonPinsOf 27 = .ok (.aload_n 0, 1) := by decide +kernel
theorem dX12_commonPinsOf_28 : decode cX12_commonPinsOf 28 = .ok (.iload 4, 2) := by decide +kernel
theorem dX12_commonPinsOf_30 : decode cX12_commonPinsOf 30 = .ok (.invokevirtual 408, 3) := by decide +kernel
theorem dX12_commonPinsOf_33 : decode cX12_commonPinsOf 33 = .ok (.iload_n 2, 1) := by decide +kernel
theorem dX12_commonPinsOf_34 : decode cX12_commonPinsOf 34 = .ok (.invokevirtual 362, 3) := by decide +kernel
theorem dX12_commonPinsOf_37 : decode cX12_commonPinsOf 37 = .ok (.goto 4, 3) := by decide +kernel
theorem dX12_commonPinsOf_40 : decode cX12_commonPinsOf 40 = .ok (.iconst 0, 1) := by decide +kernel
theorem dX12_commonPinsOf_41 : decode cX12_commonPinsOf 41 = .ok (.istore 5, 2) := by decide +kernel
theorem dX12_commonPinsOf_43 : decode cX12_commonPinsOf 43 = .ok (.iload_n 3, 1) := by decide +kernel
theorem dX12_commonPinsOf_44 : decode cX12_commonPinsOf 44 = .ok (.iload 5, 2) := by decide +kernel
theorem dX12_commonPinsOf_46 : decode cX12_commonPinsOf 46 = .ok (.invokestatic 349, 3) := by decide +kernel
theorem dX12_commonPinsOf_49 : decode cX12_commonPinsOf 49 = .ok (.iconst 1, 1) := by decide +kernel
theorem dX12_commonPinsOf_50 : decode cX12_commonPinsOf 50 = .ok (.if_icmp .le 8, 3) := by decide +kernel
theorem dX12_commonPinsOf_53 : decode cX12_commonPinsOf 53 = .ok (.iload 5, 2) := by decide +kernel
theorem dX12_commonPinsOf_55 : decode cX12_commonPinsOf 55 = .ok (.goto 4, 3) := by decide +kernel
theorem dX12_commonPinsOf_58 : decode cX12_commonPinsOf 58 = .ok (.iconst 0, 1) := by decide +kernel
theorem dX12_commonPinsOf_59 : decode cX12_commonPinsOf 59 = .ok (.ior, 1) := by decide +kernel
theorem dX12_commonPinsOf_60 : decode cX12_commonPinsOf 60 = .ok (.istore_n 3, 1) := by decide +kernel
theorem dX12_commonPinsOf_61 : decode cX12_commonPinsOf 61 = .ok (.iinc 4 1, 3) := by decide +kernel
theorem dX12_commonPinsOf_64 : decode cX12_commonPinsOf 64 = .ok (.goto (-59), 3) := by decide +kernel
theorem dX12_commonPinsOf_67 : decode cX12_commonPinsOf 67 = .ok (.iload_n 3, 1) := by decide +kernel
theorem dX12_commonPinsOf_68 : decode cX12_commonPinsOf 68 = .ok (.ireturn, 1) := by decide +kernel
theorem dX12_commonOf_0 : decode cX12_commonOf 0 = .ok (.iconst 0, 1) := by decide +kernel
theorem dX12_commonOf_1 : decode cX12_commonOf 1 = .ok (.istore_n 2, 1) := by decide +kernel
theorem dX12_commonOf_2 : decode cX12_commonOf 2 = .ok (.iconst 0, 1) := by decide +kernel
theorem dX12_commonOf_3 : decode cX12_commonOf 3 = .ok (.istore_n 3, 1) := by decide +kernel
theorem dX12_commonOf_4 : decode cX12_commonOf 4 = .ok (.iload_n 3, 1) := by decide +kernel
theorem dX12_commonOf_5 : decode cX12_commonOf 5 = .ok (.aload_n 0, 1) := by decide +kernel
theorem dX12_commonOf_6 : decode cX12_commonOf 6 = .ok (.getfield 17, 3) := by decide +kernel
theorem dX12_commonOf_9 : decode cX12_commonOf 9 = .ok (.iconst 5, 1) := by decide +kernel
theorem dX12_commonOf_10 : decode cX12_commonOf 10 = .ok (.iaload, 1) := by decide +kernel
theorem dX12_commonOf_11 : decode cX12_commonOf 11 = .ok (.if_icmp .ge 23, 3) := by decide +kernel
theorem dX12_commonOf_14 : decode cX12_commonOf 14 = .ok (.iload_n 2, 1) := by decide +kernel
theorem dX12_commonOf_15 : decode cX12_commonOf 15 = .ok (.aload_n 0, 1) := by decide +kernel
theorem dX12_commonOf_16 : decode cX12_commonOf 16 = .ok (.iload_n 3, 1) := by decide +kernel
theorem dX12_commonOf_17 : decode cX12_commonOf 17 = .ok (.aload_n 0, 1) := by decide +kernel
theorem dX12_commonOf_18 : decode cX12_commonOf 18 = .ok (.iload_n 1, 1) := by decide +kernel
theorem dX12_commonOf_19 : decode cX12_commonOf 19 = .ok (.iload_n 3, 1) := by decide +kernel
theorem dX12_commonOf_20 : decode cX12_commonOf 20 = .ok (.invokevirtual 411, 3) := by decide +kernel
theorem dX12_commonOf_23 : decode cX12_commonOf 23 = .ok (.invokevirtual 375, 3) := by decide +kernel
theorem dX12_commonOf_26 : decode cX12_commonOf 26 = .ok (.iadd, 1) := by decide +kernel
theorem dX12_commonOf_27 : decode cX12_commonOf 27 = .ok (.istore_n 2, 1) := by decide +kernel
theorem dX12_commonOf_28 : decode cX12_commonOf 28 = .ok (.iinc 3 1, 3) := by decide +kernel
theorem dX12_commonOf_31 : decode cX12_commonOf 31 = .ok (.goto (-27), 3) := by decide +kernel
theorem dX12_commonOf_34 : decode cX12_commonOf 34 = .ok (.iload_n 2, 1) := by decide +kernel
theorem dX12_commonOf_35 : decode cX12_commonOf 35 = .ok (.ireturn, 1) := by decide +kernel
theorem dX12_buildsWhy_0 : decode cX12_buildsWhy 0 = .ok (.aload_n 0, 1) := by decide +kernel
theorem dX12_buildsWhy_1 : decode cX12_buildsWhy 1 = .ok (.getfield 269, 3) := by decide +kernel
theorem dX12_buildsWhy_4 : decode cX12_buildsWhy 4 = .ok (.ifCond .eq 7, 3) := by decide +kernel
theorem dX12_buildsWhy_7 : decode cX12_buildsWhy 7 = .ok (.iload_n 1, 1) := by decide +kernel
theorem dX12_buildsWhy_8 : decode cX12_buildsWhy 8 = .ok (.ifCond .ne 7, 3) := by decide +kernel
theorem dX12_buildsWhy_11 : decode cX12_buildsWhy 11 = .ok (.iconst 1, 1) := by decide +kernel
theorem dX12_buildsWhy_12 : decode cX12_buildsWhy 12 = .ok (.goto 27, 3) := by decide +kernel
theorem dX12_buildsWhy_15 : decode cX12_buildsWhy 15 = .ok (.iload_n 2, 1) := by decide +kernel
theorem dX12_buildsWhy_16 : decode cX12_buildsWhy 16 = .ok (.iconst 1, 1) := by decide +kernel
theorem dX12_buildsWhy_17 : decode cX12_buildsWhy 17 = .ok (.iconst 1, 1) := by decide +kernel
theorem dX12_buildsWhy_18 : decode cX12_buildsWhy 18 = .ok (.aload_n 0, 1) := by decide +kernel
theorem dX12_buildsWhy_19 : decode cX12_buildsWhy 19 = .ok (.getfield 17, 3) := by decide +kernel
theorem dX12_buildsWhy_22 : decode cX12_buildsWhy 22 = .ok (.bipush 6, 2) := by decide +kernel
theorem dX12_buildsWhy_24 : decode cX12_buildsWhy 24 = .ok (.iaload, 1) := by decide +kernel
theorem dX12_buildsWhy_25 : decode cX12_buildsWhy 25 = .ok (.ishl, 1) := by decide +kernel
theorem dX12_buildsWhy_26 : decode cX12_buildsWhy 26 = .ok (.iconst 1, 1) := by decide +kernel
theorem dX12_buildsWhy_27 : decode cX12_buildsWhy 27 = .ok (.isub, 1) := by decide +kernel
theorem dX12_buildsWhy_28 : decode cX12_buildsWhy 28 = .ok (.invokestatic 86, 3) := by decide +kernel
theorem dX12_buildsWhy_31 : decode cX12_buildsWhy 31 = .ok (.ifCond .eq 7, 3) := by decide +kernel
theorem dX12_buildsWhy_34 : decode cX12_buildsWhy 34 = .ok (.iconst 0, 1) := by decide +kernel
theorem dX12_buildsWhy_35 : decode cX12_buildsWhy 35 = .ok (.goto 4, 3) := by decide +kernel
theorem dX12_buildsWhy_38 : decode cX12_buildsWhy 38 = .ok (.iconst 2, 1) := by decide +kernel
theorem dX12_buildsWhy_39 : decode cX12_buildsWhy 39 = .ok (.ireturn, 1) := by decide +kernel
theorem dX12_build_0 : decode cX12_build 0 = .ok (.aload_n 0, 1) := by decide +kernel
theorem dX12_build_1 : decode cX12_build 1 = .ok (.aload_n 0, 1) := by decide +kernel
theorem dX12_build_2 : decode cX12_build 2 = .ok (.iload_n 1, 1) := by decide +kernel
theorem dX12_build_3 : decode cX12_build 3 = .ok (.invokevirtual 414, 3) := by decide +kernel
theorem dX12_build_6 : decode cX12_build 6 = .ok (.ifCond .eq 16, 3) := by decide +kernel
theorem dX12_build_9 : decode cX12_build 9 = .ok (.iload_n 2, 1) := by decide +kernel
theorem dX12_build_10 : decode cX12_build 10 = .ok (.iconst 0, 1) := by decide +kernel
theorem dX12_build_11 : decode cX12_build 11 = .ok (.iconst 1, 1) := by decide +kernel
theorem dX12_build_12 : decode cX12_build 12 = .ok (.invokestatic 86, 3) := by decide +kernel
theorem dX12_build_15 : decode cX12_build 15 = .ok (.ifCond .eq 7, 3) := by decide +kernel
theorem dX12_build_18 : decode cX12_build 18 = .ok (.iconst 1, 1) := by decide +kernel
theorem dX12_build_19 : decode cX12_build 19 = .ok (.goto 4, 3) := by decide +kernel
theorem dX12_build_22 : decode cX12_build 22 = .ok (.iconst 0, 1) := by decide +kernel
theorem dX12_build_23 : decode cX12_build 23 = .ok (.invokestatic 275, 3) := by decide +kernel
theorem dX12_build_26 : decode cX12_build 26 = .ok (.invokevirtual 254, 3) := by decide +kernel
theorem dX12_build_29 : decode cX12_build 29 = .ok (.ifCond .eq 7, 3) := by decide +kernel
theorem dX12_build_32 : decode cX12_build 32 = .ok (.iconst (-1), 1) := by decide +kernel
theorem dX12_build_33 : decode cX12_build 33 = .ok (.goto 17, 3) := by decide +kernel
theorem dX12_build_36 : decode cX12_build 36 = .ok (.aload_n 0, 1) := by decide +kernel
theorem dX12_build_37 : decode cX12_build 37 = .ok (.getfield 17, 3) := by decide +kernel
theorem dX12_build_40 : decode cX12_build 40 = .ok (.sipush 257, 3) := by decide +kernel
theorem dX12_build_43 : decode cX12_build 43 = .ok (.iconst 2, 1) := by decide +kernel
theorem dX12_build_44 : decode cX12_build 44 = .ok (.iload_n 1, 1) := by decide +kernel
theorem dX12_build_45 : decode cX12_build 45 = .ok (.imul, 1) := by decide +kernel
theorem dX12_build_46 : decode cX12_build 46 = .ok (.iadd, 1) := by decide +kernel
theorem dX12_build_47 : decode cX12_build 47 = .ok (.iload_n 2, 1) := by decide +kernel
theorem dX12_build_48 : decode cX12_build 48 = .ok (.iadd, 1) := by decide +kernel
theorem dX12_build_49 : decode cX12_build 49 = .ok (.iaload, 1) := by decide +kernel
theorem dX12_build_50 : decode cX12_build 50 = .ok (.ireturn, 1) := by decide +kernel
theorem dX12_common_0 : decode cX12_common 0 = .ok (.aload_n 0, 1) := by decide +kernel
theorem dX12_common_1 : decode cX12_common 1 = .ok (.aload_n 0, 1) := by decide +kernel
theorem dX12_common_2 : decode cX12_common 2 = .ok (.iconst 1, 1) := by decide +kernel
theorem dX12_common_3 : decode cX12_common 3 = .ok (.iload_n 1, 1) := by decide +kernel
theorem dX12_common_4 : decode cX12_common 4 = .ok (.invokevirtual 417, 3) := by decide +kernel
theorem dX12_common_7 : decode cX12_common 7 = .ok (.invokevirtual 254, 3) := by decide +kernel
theorem dX12_common_10 : decode cX12_common 10 = .ok (.ifCond .eq 7, 3) := by decide +kernel
theorem dX12_common_13 : decode cX12_common 13 = .ok (.iconst (-1), 1) := by decide +kernel
theorem dX12_common_14 : decode cX12_common 14 = .ok (.goto 8, 3) := by decide +kernel
theorem dX12_common_17 : decode cX12_common 17 = .ok (.aload_n 0, 1) := by decide +kernel
theorem dX12_common_18 : decode cX12_common 18 = .ok (.iload_n 1, 1) := by decide +kernel
theorem dX12_common_19 : decode cX12_common 19 = .ok (.invokevirtual 420, 3) := by decide +kernel
theorem dX12_common_22 : decode cX12_common 22 = .ok (.ireturn, 1) := by decide +kernel
theorem dX12_commonPins_0 : decode cX12_commonPins 0 = .ok (.aload_n 0, 1) := by decide +kernel
theorem dX12_commonPins_1 : decode cX12_commonPins 1 = .ok (.aload_n 0, 1) := by decide +kernel
theorem dX12_commonPins_2 : decode cX12_commonPins 2 = .ok (.aload_n 0, 1) := by decide +kernel
theorem dX12_commonPins_3 : decode cX12_commonPins 3 = .ok (.iload_n 2, 1) := by decide +kernel
theorem dX12_commonPins_4 : decode cX12_commonPins 4 = .ok (.invokevirtual 328, 3) := by decide +kernel
theorem dX12_commonPins_7 : decode cX12_commonPins 7 = .ok (.iload_n 1, 1) := by decide +kernel
theorem dX12_commonPins_8 : decode cX12_commonPins 8 = .ok (.invokevirtual 417, 3) := by decide +kernel
theorem dX12_commonPins_11 : decode cX12_commonPins 11 = .ok (.invokevirtual 254, 3) := by decide +kernel
theorem dX12_commonPins_14 : decode cX12_commonPins 14 = .ok (.ifCond .eq 7, 3) := by decide +kernel
theorem dX12_commonPins_17 : decode cX12_commonPins 17 = .ok (.iconst (-1), 1) := by decide +kernel
theorem dX12_commonPins_18 : decode cX12_commonPins 18 = .ok (.goto 9, 3) := by decide +kernel
theorem dX12_commonPins_21 : decode cX12_commonPins 21 = .ok (.aload_n 0, 1) := by decide +kernel
theorem dX12_commonPins_22 : decode cX12_commonPins 22 = .ok (.iload_n 1, 1) := by decide +kernel
theorem dX12_commonPins_23 : decode cX12_commonPins 23 = .ok (.iload_n 2, 1) := by decide +kernel
theorem dX12_commonPins_24 : decode cX12_commonPins 24 = .ok (.invokevirtual 411, 3) := by decide +kernel
theorem dX12_commonPins_27 : decode cX12_commonPins 27 = .ok (.ireturn, 1) := by decide +kernel
theorem dX12_given_0 : decode cX12_given 0 = .ok (.aload_n 0, 1) := by decide +kernel
theorem dX12_given_1 : decode cX12_given 1 = .ok (.aload_n 0, 1) := by decide +kernel
theorem dX12_given_2 : decode cX12_given 2 = .ok (.iconst 1, 1) := by decide +kernel
theorem dX12_given_3 : decode cX12_given 3 = .ok (.iload_n 1, 1) := by decide +kernel
theorem dX12_given_4 : decode cX12_given 4 = .ok (.invokevirtual 417, 3) := by decide +kernel
theorem dX12_given_7 : decode cX12_given 7 = .ok (.invokevirtual 254, 3) := by decide +kernel
theorem dX12_given_10 : decode cX12_given 10 = .ok (.ifCond .eq 7, 3) := by decide +kernel
theorem dX12_given_13 : decode cX12_given 13 = .ok (.ldc_w 312, 3) := by decide +kernel
theorem dX12_given_16 : decode cX12_given 16 = .ok (.ireturn, 1) := by decide +kernel
theorem dX12_given_17 : decode cX12_given 17 = .ok (.aload_n 0, 1) := by decide +kernel
theorem dX12_given_18 : decode cX12_given 18 = .ok (.iload_n 1, 1) := by decide +kernel
theorem dX12_given_19 : decode cX12_given 19 = .ok (.invokevirtual 420, 3) := by decide +kernel
theorem dX12_given_22 : decode cX12_given 22 = .ok (.istore_n 2, 1) := by decide +kernel
theorem dX12_given_23 : decode cX12_given 23 = .ok (.iconst 0, 1) := by decide +kernel
theorem dX12_given_24 : decode cX12_given 24 = .ok (.istore_n 3, 1) := by decide +kernel
theorem dX12_given_25 : decode cX12_given 25 = .ok (.iconst 0, 1) := by decide +kernel
theorem dX12_given_26 : decode cX12_given 26 = .ok (.istore 4, 2) := by decide +kernel
theorem dX12_given_28 : decode cX12_given 28 = .ok (.iload 4, 2) := by decide +kernel
theorem dX12_given_30 : decode cX12_given 30 = .ok (.aload_n 0, 1) := by decide +kernel
theorem dX12_given_31 : decode cX12_given 31 = .ok (.getfield 17, 3) := by decide +kernel
theorem dX12_given_34 : decode cX12_given 34 = .ok (.bipush 6, 2) := by decide +kernel
theorem dX12_given_36 : decode cX12_given 36 = .ok (.iaload, 1) := by decide +kernel
theorem dX12_given_37 : decode cX12_given 37 = .ok (.if_icmp .ge 42, 3) := by decide +kernel
theorem dX12_given_40 : decode cX12_given 40 = .ok (.iload_n 3, 1) := by decide +kernel
theorem dX12_given_41 : decode cX12_given 41 = .ok (.iload_n 1, 1) := by decide +kernel
theorem dX12_given_42 : decode cX12_given 42 = .ok (.iload 4, 2) := by decide +kernel
theorem dX12_given_44 : decode cX12_given 44 = .ok (.invokestatic 343, 3) := by decide +kernel
theorem dX12_given_47 : decode cX12_given 47 = .ok (.ifCond .eq 23, 3) := by decide +kernel
theorem dX12_given_50 : decode cX12_given 50 = .ok (.iload_n 2, 1) := by decide +kernel
theorem dX12_given_51 : decode cX12_given 51 = .ok (.aload_n 0, 1) := by decide +kernel
theorem dX12_given_52 : decode cX12_given 52 = .ok (.iconst 1, 1) := by decide +kernel
theorem dX12_given_53 : decode cX12_given 53 = .ok (.iload 4, 2) := by decide +kernel
theorem dX12_given_55 : decode cX12_given 55 = .ok (.ishl, 1) := by decide +kernel
theorem dX12_given_56 : decode cX12_given 56 = .ok (.invokevirtual 420, 3) := by decide +kernel
theorem dX12_given_59 : decode cX12_given 59 = .ok (.isub, 1) := by decide +kernel
theorem dX12_given_60 : decode cX12_given 60 = .ok (.aload_n 0, 1) := by decide +kernel
theorem dX12_given_61 : decode cX12_given 61 = .ok (.iload 4, 2) := by decide +kernel
theorem dX12_given_63 : decode cX12_given 63 = .ok (.invokevirtual 423, 3) := by decide +kernel
theorem dX12_given_66 : decode cX12_given 66 = .ok (.imul, 1) := by decide +kernel
theorem dX12_given_67 : decode cX12_given 67 = .ok (.goto 4, 3) := by decide +kernel
theorem dX12_given_70 : decode cX12_given 70 = .ok (.iconst 0, 1) := by decide +kernel
theorem dX12_given_71 : decode cX12_given 71 = .ok (.iadd, 1) := by decide +kernel
theorem dX12_given_72 : decode cX12_given 72 = .ok (.istore_n 3, 1) := by decide +kernel
theorem dX12_given_73 : decode cX12_given 73 = .ok (.iinc 4 1, 3) := by decide +kernel
theorem dX12_given_76 : decode cX12_given 76 = .ok (.goto (-48), 3) := by decide +kernel
theorem dX12_given_79 : decode cX12_given 79 = .ok (.iload_n 3, 1) := by decide +kernel
theorem dX12_given_80 : decode cX12_given 80 = .ok (.ireturn, 1) := by decide +kernel
theorem dX12_wireOfGroups_0 : decode cX12_wireOfGroups 0 = .ok (.iconst 0, 1) := by decide +kernel
theorem dX12_wireOfGroups_1 : decode cX12_wireOfGroups 1 = .ok (.istore_n 2, 1) := by decide +kernel
theorem dX12_wireOfGroups_2 : decode cX12_wireOfGroups 2 = .ok (.iconst 0, 1) := by decide +kernel
theorem dX12_wireOfGroups_3 : decode cX12_wireOfGroups 3 = .ok (.istore_n 3, 1) := by decide +kernel
theorem dX12_wireOfGroups_4 : decode cX12_wireOfGroups 4 = .ok (.iload_n 3, 1) := by decide +kernel
theorem dX12_wireOfGroups_5 : decode cX12_wireOfGroups 5 = .ok (.iload_n 1, 1) := by decide +kernel
theorem dX12_wireOfGroups_6 : decode cX12_wireOfGroups 6 = .ok (.if_icmp .ge 98, 3) := by decide +kernel
theorem dX12_wireOfGroups_9 : decode cX12_wireOfGroups 9 = .ok (.iconst 0, 1) := by decide +kernel
theorem dX12_wireOfGroups_10 : decode cX12_wireOfGroups 10 = .ok (.istore 4, 2) := by decide +kernel
theorem dX12_wireOfGroups_12 : decode cX12_wireOfGroups 12 = .ok (.iconst 0, 1) := by decide +kernel
theorem dX12_wireOfGroups_13 : decode cX12_wireOfGroups 13 = .ok (.istore 5, 2) := by decide +kernel
theorem dX12_wireOfGroups_15 : decode cX12_wireOfGroups 15 = .ok (.iconst 0, 1) := by decide +kernel
theorem dX12_wireOfGroups_16 : decode cX12_wireOfGroups 16 = .ok (.istore 6, 2) := by decide +kernel
theorem dX12_wireOfGroups_18 : decode cX12_wireOfGroups 18 = .ok (.iload 6, 2) := by decide +kernel
theorem dX12_wireOfGroups_20 : decode cX12_wireOfGroups 20 = .ok (.aload_n 0, 1) := by decide +kernel
theorem dX12_wireOfGroups_21 : decode cX12_wireOfGroups 21 = .ok (.getfield 17, 3) := by decide +kernel
theorem dX12_wireOfGroups_24 : decode cX12_wireOfGroups 24 = .ok (.bipush 6, 2) := by decide +kernel
theorem dX12_wireOfGroups_26 : decode cX12_wireOfGroups 26 = .ok (.iaload, 1) := by decide +kernel
theorem dX12_wireOfGroups_27 : decode cX12_wireOfGroups 27 = .ok (.if_icmp .ge 59, 3) := by decide +kernel
theorem dX12_wireOfGroups_30 : decode cX12_wireOfGroups 30 = .ok (.iload 4, 2) := by decide +kernel
theorem dX12_wireOfGroups_32 : decode cX12_wireOfGroups 32 = .ok (.aload_n 0, 1) := by decide +kernel
theorem dX12_wireOfGroups_33 : decode cX12_wireOfGroups 33 = .ok (.getfield 45, 3) := by decide +kernel
theorem dX12_wireOfGroups_36 : decode cX12_wireOfGroups 36 = .ok (.iload 6, 2) := by decide +kernel
theorem dX12_wireOfGroups_38 : decode cX12_wireOfGroups 38 = .ok (.iaload, 1) := by decide +kernel
theorem dX12_wireOfGroups_39 : decode cX12_wireOfGroups 39 = .ok (.iload_n 3, 1) := by decide +kernel
theorem dX12_wireOfGroups_40 : decode cX12_wireOfGroups 40 = .ok (.if_icmp .ne 10, 3) := by decide +kernel
theorem dX12_wireOfGroups_43 : decode cX12_wireOfGroups 43 = .ok (.iconst 1, 1) := by decide +kernel
theorem dX12_wireOfGroups_44 : decode cX12_wireOfGroups 44 = .ok (.iload 6, 2) := by decide +kernel
theorem dX12_wireOfGroups_46 : decode cX12_wireOfGroups 46 = .ok (.ishl, 1) := by decide +kernel
theorem dX12_wireOfGroups_47 : decode cX12_wireOfGroups 47 = .ok (.goto 4, 3) := by decide +kernel
theorem dX12_wireOfGroups_50 : decode cX12_wireOfGroups 50 = .ok (.iconst 0, 1) := by decide +kernel
theorem dX12_wireOfGroups_51 : decode cX12_wireOfGroups 51 = .ok (.ior, 1) := by decide +kernel
theorem dX12_wireOfGroups_52 : decode cX12_wireOfGroups 52 = .ok (.istore 4, 2) := by decide +kernel
theorem dX12_wireOfGroups_54 : decode cX12_wireOfGroups 54 = .ok (.iload 5, 2) := by decide +kernel
theorem dX12_wireOfGroups_56 : decode cX12_wireOfGroups 56 = .ok (.aload_n 0, 1) := by decide +kernel
theorem dX12_wireOfGroups_57 : decode cX12_wireOfGroups 57 = .ok (.getfield 45, 3) := by decide +kernel
theorem dX12_wireOfGroups_60 : decode cX12_wireOfGroups 60 = .ok (.iload 6, 2) := by decide +kernel
theorem dX12_wireOfGroups_62 : decode cX12_wireOfGroups 62 = .ok (.iaload, 1) := by decide +kernel
theorem dX12_wireOfGroups_63 : decode cX12_wireOfGroups 63 = .ok (.iload_n 3, 1) := by decide +kernel
theorem dX12_wireOfGroups_64 : decode cX12_wireOfGroups 64 = .ok (.if_icmp .ne 12, 3) := by decide +kernel
theorem dX12_wireOfGroups_67 : decode cX12_wireOfGroups 67 = .ok (.aload_n 0, 1) := by decide +kernel
theorem dX12_wireOfGroups_68 : decode cX12_wireOfGroups 68 = .ok (.iload 6, 2) := by decide +kernel
theorem dX12_wireOfGroups_70 : decode cX12_wireOfGroups 70 = .ok (.invokevirtual 423, 3) := by decide +kernel
theorem dX12_wireOfGroups_73 : decode cX12_wireOfGroups 73 = .ok (.goto 4, 3) := by decide +kernel
theorem dX12_wireOfGroups_76 : decode cX12_wireOfGroups 76 = .ok (.iconst 0, 1) := by decide +kernel
theorem dX12_wireOfGroups_77 : decode cX12_wireOfGroups 77 = .ok (.iadd, 1) := by decide +kernel
theorem dX12_wireOfGroups_78 : decode cX12_wireOfGroups 78 = .ok (.istore 5, 2) := by decide +kernel
theorem dX12_wireOfGroups_80 : decode cX12_wireOfGroups 80 = .ok (.iinc 6 1, 3) := by decide +kernel
theorem dX12_wireOfGroups_83 : decode cX12_wireOfGroups 83 = .ok (.goto (-65), 3) := by decide +kernel
theorem dX12_wireOfGroups_86 : decode cX12_wireOfGroups 86 = .ok (.iload_n 2, 1) := by decide +kernel
theorem dX12_wireOfGroups_87 : decode cX12_wireOfGroups 87 = .ok (.aload_n 0, 1) := by decide +kernel
theorem dX12_wireOfGroups_88 : decode cX12_wireOfGroups 88 = .ok (.iload 4, 2) := by decide +kernel
theorem dX12_wireOfGroups_90 : decode cX12_wireOfGroups 90 = .ok (.invokevirtual 420, 3) := by decide +kernel
theorem dX12_wireOfGroups_93 : decode cX12_wireOfGroups 93 = .ok (.iload 5, 2) := by decide +kernel
theorem dX12_wireOfGroups_95 : decode cX12_wireOfGroups 95 = .ok (.imul, 1) := by decide +kernel
theorem dX12_wireOfGroups_96 : decode cX12_wireOfGroups 96 = .ok (.iadd, 1) := by decide +kernel
theorem dX12_wireOfGroups_97 : decode cX12_wireOfGroups 97 = .ok (.istore_n 2, 1) := by decide +kernel
theorem dX12_wireOfGroups_98 : decode cX12_wireOfGroups 98 = .ok (.iinc 3 1, 3) := by decide +kernel
theorem dX12_wireOfGroups_101 : decode cX12_wireOfGroups 101 = .ok (.goto (-97), 3) := by decide +kernel
theorem dX12_wireOfGroups_104 : decode cX12_wireOfGroups 104 = .ok (.iload_n 2, 1) := by decide +kernel
theorem dX12_wireOfGroups_105 : decode cX12_wireOfGroups 105 = .ok (.ireturn, 1) := by decide +kernel
theorem dX12_tries_0 : decode cX12_tries 0 = .ok (.iload_n 1, 1) := by decide +kernel
theorem dX12_tries_1 : decode cX12_tries 1 = .ok (.aload_n 0, 1) := by decide +kernel
theorem dX12_tries_2 : decode cX12_tries 2 = .ok (.getfield 17, 3) := by decide +kernel
theorem dX12_tries_5 : decode cX12_tries 5 = .ok (.bipush 6, 2) := by decide +kernel
theorem dX12_tries_7 : decode cX12_tries 7 = .ok (.iaload, 1) := by decide +kernel
theorem dX12_tries_8 : decode cX12_tries 8 = .ok (.if_icmp .ne 67, 3) := by decide +kernel
theorem dX12_tries_11 : decode cX12_tries 11 = .ok (.aload_n 0, 1) := by decide +kernel
theorem dX12_tries_12 : decode cX12_tries 12 = .ok (.iload_n 2, 1) := by decide +kernel
theorem dX12_tries_13 : decode cX12_tries 13 = .ok (.invokevirtual 426, 3) := by decide +kernel
theorem dX12_tries_16 : decode cX12_tries 16 = .ok (.istore 4, 2) := by decide +kernel
theorem dX12_tries_18 : decode cX12_tries 18 = .ok (.aload_n 0, 1) := by decide +kernel
theorem dX12_tries_19 : decode cX12_tries 19 = .ok (.getfield 429, 3) := by decide +kernel
theorem dX12_tries_22 : decode cX12_tries 22 = .ok (.ifCond .eq 12, 3) := by decide +kernel
theorem dX12_tries_25 : decode cX12_tries 25 = .ok (.iload 4, 2) := by decide +kernel
theorem dX12_tries_27 : decode cX12_tries 27 = .ok (.aload_n 0, 1) := by decide +kernel
theorem dX12_tries_28 : decode cX12_tries 28 = .ok (.getfield 432, 3) := by decide +kernel
theorem dX12_tries_31 : decode cX12_tries 31 = .ok (.if_icmp .ge 43, 3) := by decide +kernel
theorem dX12_tries_34 : decode cX12_tries 34 = .ok (.aload_n 0, 1) := by decide +kernel
theorem dX12_tries_35 : decode cX12_tries 35 = .ok (.iload 4, 2) := by decide +kernel
theorem dX12_tries_37 : decode cX12_tries 37 = .ok (.putfield 432, 3) := by decide +kernel
theorem dX12_tries_40 : decode cX12_tries 40 = .ok (.aload_n 0, 1) := by decide +kernel
theorem dX12_tries_41 : decode cX12_tries 41 = .ok (.iload_n 2, 1) := by decide +kernel
theorem dX12_tries_42 : decode cX12_tries 42 = .ok (.putfield 429, 3) := by decide +kernel
theorem dX12_tries_45 : decode cX12_tries 45 = .ok (.iconst 0, 1) := by decide +kernel
theorem dX12_tries_46 : decode cX12_tries 46 = .ok (.istore 5, 2) := by decide +kernel
theorem dX12_tries_48 : decode cX12_tries 48 = .ok (.iload 5, 2) := by decide +kernel
theorem dX12_tries_50 : decode cX12_tries 50 = .ok (.iconst 5, 1) := by decide +kernel
theorem dX12_tries_51 : decode cX12_tries 51 = .ok (.if_icmp .ge 23, 3) := by decide +kernel
theorem dX12_tries_54 : decode cX12_tries 54 = .ok (.aload_n 0, 1) := by decide +kernel
theorem dX12_tries_55 : decode cX12_tries 55 = .ok (.getfield 48, 3) := by decide +kernel
theorem dX12_tries_58 : decode cX12_tries 58 = .ok (.iload 5, 2) := by decide +kernel
theorem dX12_tries_60 : decode cX12_tries 60 = .ok (.aload_n 0, 1) := by decide +kernel
theorem dX12_tries_61 : decode cX12_tries 61 = .ok (.getfield 45, 3) := by decide +kernel
theorem dX12_tries_64 : decode cX12_tries 64 = .ok (.iload 5, 2) := by decide +kernel
theorem dX12_tries_66 : decode cX12_tries 66 = .ok (.iaload, 1) := by decide +kernel
theorem dX12_tries_67 : decode cX12_tries 67 = .ok (.iastore, 1) := by decide +kernel
theorem dX12_tries_68 : decode cX12_tries 68 = .ok (.iinc 5 1, 3) := by decide +kernel
theorem dX12_tries_71 : decode cX12_tries 71 = .ok (.goto (-23), 3) := by decide +kernel
theorem dX12_tries_74 : decode cX12_tries 74 = .ok (.return_, 1) := by decide +kernel
theorem dX12_tries_75 : decode cX12_tries 75 = .ok (.iconst 0, 1) := by decide +kernel
theorem dX12_tries_76 : decode cX12_tries 76 = .ok (.istore 4, 2) := by decide +kernel
theorem dX12_tries_78 : decode cX12_tries 78 = .ok (.iload 4, 2) := by decide +kernel
theorem dX12_tries_80 : decode cX12_tries 80 = .ok (.iload_n 2, 1) := by decide +kernel
theorem dX12_tries_81 : decode cX12_tries 81 = .ok (.if_icmp .gt 44, 3) := by decide +kernel
theorem dX12_tries_84 : decode cX12_tries 84 = .ok (.iload 4, 2) := by decide +kernel
theorem dX12_tries_86 : decode cX12_tries 86 = .ok (.iload_n 3, 1) := by decide +kernel
theorem dX12_tries_87 : decode cX12_tries 87 = .ok (.if_icmp .ge 38, 3) := by decide +kernel
theorem dX12_tries_90 : decode cX12_tries 90 = .ok (.aload_n 0, 1) := by decide +kernel
theorem dX12_tries_91 : decode cX12_tries 91 = .ok (.getfield 45, 3) := by decide +kernel
theorem dX12_tries_94 : decode cX12_tries 94 = .ok (.iload_n 1, 1) := by decide +kernel
theorem dX12_tries_95 : decode cX12_tries 95 = .ok (.iload 4, 2) := by decide +kernel
theorem dX12_tries_97 : decode cX12_tries 97 = .ok (.iastore, 1) := by decide +kernel
theorem dX12_tries_98 : decode cX12_tries 98 = .ok (.aload_n 0, 1) := by decide +kernel
theorem dX12_tries_99 : decode cX12_tries 99 = .ok (.iload_n 1, 1) := by decide +kernel
theorem dX12_tries_100 : decode cX12_tries 100 = .ok (.iconst 1, 1) := by decide +kernel
theorem dX12_tries_101 : decode cX12_tries 101 = .ok (.iadd, 1) := by decide +kernel
theorem dX12_tries_102 : decode cX12_tries 102 = .ok (.iload 4, 2) := by decide +kernel
theorem dX12_tries_104 : decode cX12_tries 104 = .ok (.iload_n 2, 1) := by decide +kernel
theorem dX12_tries_105 : decode cX12_tries 105 = .ok (.if_icmp .ne 9, 3) := by decide +kernel
theorem dX12_tries_108 : decode cX12_tries 108 = .ok (.iload_n 2, 1) := by decide +kernel
theorem dX12_tries_109 : decode cX12_tries 109 = .ok (.iconst 1, 1) := by decide +kernel
theorem dX12_tries_110 : decode cX12_tries 110 = .ok (.iadd, 1) := by decide +kernel
theorem dX12_tries_111 : decode cX12_tries 111 = .ok (.goto 4, 3) := by decide +kernel
theorem dX12_tries_114 : decode cX12_tries 114 = .ok (.iload_n 2, 1) := by decide +kernel
theorem dX12_tries_115 : decode cX12_tries 115 = .ok (.iload_n 3, 1) := by decide +kernel
theorem dX12_tries_116 : decode cX12_tries 116 = .ok (.invokevirtual 435, 3) := by decide +kernel
theorem dX12_tries_119 : decode cX12_tries 119 = .ok (.iinc 4 1, 3) := by decide +kernel
theorem dX12_tries_122 : decode cX12_tries 122 = .ok (.goto (-44), 3) := by decide +kernel
theorem dX12_tries_125 : decode cX12_tries 125 = .ok (.return_, 1) := by decide +kernel
theorem dX12_laysFamilies_0 : decode cX12_laysFamilies 0 = .ok (.aload_n 0, 1) := by decide +kernel
theorem dX12_laysFamilies_1 : decode cX12_laysFamilies 1 = .ok (.iconst 0, 1) := by decide +kernel
theorem dX12_laysFamilies_2 : decode cX12_laysFamilies 2 = .ok (.putfield 429, 3) := by decide +kernel
theorem dX12_laysFamilies_5 : decode cX12_laysFamilies 5 = .ok (.aload_n 0, 1) := by decide +kernel
theorem dX12_laysFamilies_6 : decode cX12_laysFamilies 6 = .ok (.iconst 0, 1) := by decide +kernel
theorem dX12_laysFamilies_7 : decode cX12_laysFamilies 7 = .ok (.iconst 0, 1) := by decide +kernel
theorem dX12_laysFamilies_8 : decode cX12_laysFamilies 8 = .ok (.iload_n 1, 1) := by decide +kernel
theorem dX12_laysFamilies_9 : decode cX12_laysFamilies 9 = .ok (.invokevirtual 435, 3) := by decide +kernel
theorem dX12_laysFamilies_12 : decode cX12_laysFamilies 12 = .ok (.return_, 1) := by decide +kernel
theorem dX12_familiesWhy_0 : decode cX12_familiesWhy 0 = .ok (.aload_n 0, 1) := by decide +kernel
theorem dX12_familiesWhy_1 : decode cX12_familiesWhy 1 = .ok (.getfield 269, 3) := by decide +kernel
theorem dX12_familiesWhy_4 : decode cX12_familiesWhy 4 = .ok (.ifCond .ne 7, 3) := by decide +kernel
theorem dX12_familiesWhy_7 : decode cX12_familiesWhy 7 = .ok (.iconst 1, 1) := by decide +kernel
theorem dX12_familiesWhy_8 : decode cX12_familiesWhy 8 = .ok (.goto 31, 3) := by decide +kernel
theorem dX12_familiesWhy_11 : decode cX12_familiesWhy 11 = .ok (.iload_n 1, 1) := by decide +kernel
theorem dX12_familiesWhy_12 : decode cX12_familiesWhy 12 = .ok (.iconst 1, 1) := by decide +kernel
theorem dX12_familiesWhy_13 : decode cX12_familiesWhy 13 = .ok (.iconst 5, 1) := by decide +kernel
theorem dX12_familiesWhy_14 : decode cX12_familiesWhy 14 = .ok (.invokestatic 86, 3) := by decide +kernel
theorem dX12_familiesWhy_17 : decode cX12_familiesWhy 17 = .ok (.ifCond .ne 7, 3) := by decide +kernel
theorem dX12_familiesWhy_20 : decode cX12_familiesWhy 20 = .ok (.iconst 2, 1) := by decide +kernel
theorem dX12_familiesWhy_21 : decode cX12_familiesWhy 21 = .ok (.goto 18, 3) := by decide +kernel
theorem dX12_familiesWhy_24 : decode cX12_familiesWhy 24 = .ok (.aload_n 0, 1) := by decide +kernel
theorem dX12_familiesWhy_25 : decode cX12_familiesWhy 25 = .ok (.getfield 17, 3) := by decide +kernel
theorem dX12_familiesWhy_28 : decode cX12_familiesWhy 28 = .ok (.bipush 6, 2) := by decide +kernel
theorem dX12_familiesWhy_30 : decode cX12_familiesWhy 30 = .ok (.iaload, 1) := by decide +kernel
theorem dX12_familiesWhy_31 : decode cX12_familiesWhy 31 = .ok (.ifCond .ne 7, 3) := by decide +kernel
theorem dX12_familiesWhy_34 : decode cX12_familiesWhy 34 = .ok (.iconst 5, 1) := by decide +kernel
theorem dX12_familiesWhy_35 : decode cX12_familiesWhy 35 = .ok (.goto 4, 3) := by decide +kernel
theorem dX12_familiesWhy_38 : decode cX12_familiesWhy 38 = .ok (.iconst 0, 1) := by decide +kernel
theorem dX12_familiesWhy_39 : decode cX12_familiesWhy 39 = .ok (.ireturn, 1) := by decide +kernel
theorem dX12_families_0 : decode cX12_families 0 = .ok (.aload_n 0, 1) := by decide +kernel
theorem dX12_families_1 : decode cX12_families 1 = .ok (.aload_n 0, 1) := by decide +kernel
theorem dX12_families_2 : decode cX12_families 2 = .ok (.iload_n 1, 1) := by decide +kernel
theorem dX12_families_3 : decode cX12_families 3 = .ok (.invokevirtual 438, 3) := by decide +kernel
theorem dX12_families_6 : decode cX12_families 6 = .ok (.invokevirtual 254, 3) := by decide +kernel
theorem dX12_families_9 : decode cX12_families 9 = .ok (.ifCond .eq 5, 3) := by decide +kernel
theorem dX12_families_12 : decode cX12_families 12 = .ok (.iconst (-1), 1) := by decide +kernel
theorem dX12_families_13 : decode cX12_families 13 = .ok (.ireturn, 1) := by decide +kernel
theorem dX12_families_14 : decode cX12_families 14 = .ok (.aload_n 0, 1) := by decide +kernel
theorem dX12_families_15 : decode cX12_families 15 = .ok (.iload_n 1, 1) := by decide +kernel
theorem dX12_families_16 : decode cX12_families 16 = .ok (.invokevirtual 441, 3) := by decide +kernel
theorem dX12_families_19 : decode cX12_families 19 = .ok (.aload_n 0, 1) := by decide +kernel
theorem dX12_families_20 : decode cX12_families 20 = .ok (.getfield 432, 3) := by decide +kernel
theorem dX12_families_23 : decode cX12_families 23 = .ok (.ireturn, 1) := by decide +kernel
theorem dX12_groups_0 : decode cX12_groups 0 = .ok (.aload_n 0, 1) := by decide +kernel
theorem dX12_groups_1 : decode cX12_groups 1 = .ok (.aload_n 0, 1) := by decide +kernel
theorem dX12_groups_2 : decode cX12_groups 2 = .ok (.iload_n 1, 1) := by decide +kernel
theorem dX12_groups_3 : decode cX12_groups 3 = .ok (.invokevirtual 438, 3) := by decide +kernel
theorem dX12_groups_6 : decode cX12_groups 6 = .ok (.invokevirtual 254, 3) := by decide +kernel
theorem dX12_groups_9 : decode cX12_groups 9 = .ok (.ifCond .eq 5, 3) := by decide +kernel
theorem dX12_groups_12 : decode cX12_groups 12 = .ok (.iconst (-1), 1) := by decide +kernel
theorem dX12_groups_13 : decode cX12_groups 13 = .ok (.ireturn, 1) := by decide +kernel
theorem dX12_groups_14 : decode cX12_groups 14 = .ok (.aload_n 0, 1) := by decide +kernel
theorem dX12_groups_15 : decode cX12_groups 15 = .ok (.iload_n 1, 1) := by decide +kernel
theorem dX12_groups_16 : decode cX12_groups 16 = .ok (.invokevirtual 441, 3) := by decide +kernel
theorem dX12_groups_19 : decode cX12_groups 19 = .ok (.aload_n 0, 1) := by decide +kernel
theorem dX12_groups_20 : decode cX12_groups 20 = .ok (.getfield 429, 3) := by decide +kernel
theorem dX12_groups_23 : decode cX12_groups 23 = .ok (.ireturn, 1) := by decide +kernel
theorem dX12_group_0 : decode cX12_group 0 = .ok (.aload_n 0, 1) := by decide +kernel
theorem dX12_group_1 : decode cX12_group 1 = .ok (.aload_n 0, 1) := by decide +kernel
theorem dX12_group_2 : decode cX12_group 2 = .ok (.iload_n 2, 1) := by decide +kernel
theorem dX12_group_3 : decode cX12_group 3 = .ok (.invokevirtual 414, 3) := by decide +kernel
theorem dX12_group_6 : decode cX12_group 6 = .ok (.ifCond .ne 7, 3) := by decide +kernel
theorem dX12_group_9 : decode cX12_group 9 = .ok (.iconst 1, 1) := by decide +kernel
theorem dX12_group_10 : decode cX12_group 10 = .ok (.goto 17, 3) := by decide +kernel
theorem dX12_group_13 : decode cX12_group 13 = .ok (.iload_n 1, 1) := by decide +kernel
theorem dX12_group_14 : decode cX12_group 14 = .ok (.iconst 1, 1) := by decide +kernel
theorem dX12_group_15 : decode cX12_group 15 = .ok (.iconst 5, 1) := by decide +kernel
theorem dX12_group_16 : decode cX12_group 16 = .ok (.invokestatic 86, 3) := by decide +kernel
theorem dX12_group_19 : decode cX12_group 19 = .ok (.ifCond .eq 7, 3) := by decide +kernel
theorem dX12_group_22 : decode cX12_group 22 = .ok (.iconst 0, 1) := by decide +kernel
theorem dX12_group_23 : decode cX12_group 23 = .ok (.goto 4, 3) := by decide +kernel
theorem dX12_group_26 : decode cX12_group 26 = .ok (.iconst 2, 1) := by decide +kernel
theorem dX12_group_27 : decode cX12_group 27 = .ok (.invokevirtual 254, 3) := by decide +kernel
theorem dX12_group_30 : decode cX12_group 30 = .ok (.ifCond .eq 5, 3) := by decide +kernel
theorem dX12_group_33 : decode cX12_group 33 = .ok (.iconst (-1), 1) := by decide +kernel
theorem dX12_group_34 : decode cX12_group 34 = .ok (.ireturn, 1) := by decide +kernel
theorem dX12_group_35 : decode cX12_group 35 = .ok (.aload_n 0, 1) := by decide +kernel
theorem dX12_group_36 : decode cX12_group 36 = .ok (.iload_n 1, 1) := by decide +kernel
theorem dX12_group_37 : decode cX12_group 37 = .ok (.invokevirtual 441, 3) := by decide +kernel
theorem dX12_group_40 : decode cX12_group 40 = .ok (.aload_n 0, 1) := by decide +kernel
theorem dX12_group_41 : decode cX12_group 41 = .ok (.getfield 48, 3) := by decide +kernel
theorem dX12_group_44 : decode cX12_group 44 = .ok (.iload_n 2, 1) := by decide +kernel
theorem dX12_group_45 : decode cX12_group 45 = .ok (.iaload, 1) := by decide +kernel
theorem dX12_group_46 : decode cX12_group 46 = .ok (.ireturn, 1) := by decide +kernel
theorem dX12_changes_0 : decode cX12_changes 0 = .ok (.aload_n 0, 1) := by decide +kernel
theorem dX12_changes_1 : decode cX12_changes 1 = .ok (.getfield 272, 3) := by decide +kernel
theorem dX12_changes_4 : decode cX12_changes 4 = .ok (.bipush 10, 2) := by decide +kernel
theorem dX12_changes_6 : decode cX12_changes 6 = .ok (.if_icmp .ne 55, 3) := by decide +kernel
theorem dX12_changes_9 : decode cX12_changes 9 = .ok (.iconst 1, 1) := by decide +kernel
theorem dX12_changes_10 : decode cX12_changes 10 = .ok (.istore_n 3, 1) := by decide +kernel
theorem dX12_changes_11 : decode cX12_changes 11 = .ok (.iload_n 3, 1) := by decide +kernel
theorem dX12_changes_12 : decode cX12_changes 12 = .ok (.bipush 10, 2) := by decide +kernel
theorem dX12_changes_14 : decode cX12_changes 14 = .ok (.if_icmp .ge 37, 3) := by decide +kernel
theorem dX12_changes_17 : decode cX12_changes 17 = .ok (.aload_n 0, 1) := by decide +kernel
theorem dX12_changes_18 : decode cX12_changes 18 = .ok (.getfield 51, 3) := by decide +kernel
theorem dX12_changes_21 : decode cX12_changes 21 = .ok (.iload_n 3, 1) := by decide +kernel
theorem dX12_changes_22 : decode cX12_changes 22 = .ok (.iconst 1, 1) := by decide +kernel
theorem dX12_changes_23 : decode cX12_changes 23 = .ok (.isub, 1) := by decide +kernel
theorem dX12_changes_24 : decode cX12_changes 24 = .ok (.aload_n 0, 1) := by decide +kernel
theorem dX12_changes_25 : decode cX12_changes 25 = .ok (.getfield 51, 3) := by decide +kernel
theorem dX12_changes_28 : decode cX12_changes 28 = .ok (.iload_n 3, 1) := by decide +kernel
theorem dX12_changes_29 : decode cX12_changes 29 = .ok (.iaload, 1) := by decide +kernel
theorem dX12_changes_30 : decode cX12_changes 30 = .ok (.iastore, 1) := by decide +kernel
theorem dX12_changes_31 : decode cX12_changes 31 = .ok (.aload_n 0, 1) := by decide +kernel
theorem dX12_changes_32 : decode cX12_changes 32 = .ok (.getfield 54, 3) := by decide +kernel
theorem dX12_changes_35 : decode cX12_changes 35 = .ok (.iload_n 3, 1) := by decide +kernel
theorem dX12_changes_36 : decode cX12_changes 36 = .ok (.iconst 1, 1) := by decide +kernel
theorem dX12_changes_37 : decode cX12_changes 37 = .ok (.isub, 1) := by decide +kernel
theorem dX12_changes_38 : decode cX12_changes 38 = .ok (.aload_n 0, 1) := by decide +kernel
theorem dX12_changes_39 : decode cX12_changes 39 = .ok (.getfield 54, 3) := by decide +kernel
theorem dX12_changes_42 : decode cX12_changes 42 = .ok (.iload_n 3, 1) := by decide +kernel
theorem dX12_changes_43 : decode cX12_changes 43 = .ok (.iaload, 1) := by decide +kernel
theorem dX12_changes_44 : decode cX12_changes 44 = .ok (.iastore, 1) := by decide +kernel
theorem dX12_changes_45 : decode cX12_changes 45 = .ok (.iinc 3 1, 3) := by decide +kernel
theorem dX12_changes_48 : decode cX12_changes 48 = .ok (.goto (-37), 3) := by decide +kernel
theorem dX12_changes_51 : decode cX12_changes 51 = .ok (.aload_n 0, 1) := by decide +kernel
theorem dX12_changes_52 : decode cX12_changes 52 = .ok (.dup, 1) := by decide +kernel
theorem dX12_changes_53 : decode cX12_changes 53 = .ok (.getfield 272, 3) := by decide +kernel
theorem dX12_changes_56 : decode cX12_changes 56 = .ok (.iconst 1, 1) := by decide +kernel
theorem dX12_changes_57 : decode cX12_changes 57 = .ok (.isub, 1) := by decide +kernel
theorem dX12_changes_58 : decode cX12_changes 58 = .ok (.putfield 272, 3) := by decide +kernel
theorem dX12_changes_61 : decode cX12_changes 61 = .ok (.aload_n 0, 1) := by decide +kernel
theorem dX12_changes_62 : decode cX12_changes 62 = .ok (.getfield 17, 3) := by decide +kernel
theorem dX12_changes_65 : decode cX12_changes 65 = .ok (.iload_n 1, 1) := by decide +kernel
theorem dX12_changes_66 : decode cX12_changes 66 = .ok (.iaload, 1) := by decide +kernel
theorem dX12_changes_67 : decode cX12_changes 67 = .ok (.istore_n 3, 1) := by decide +kernel
theorem dX12_changes_68 : decode cX12_changes 68 = .ok (.aload_n 0, 1) := by decide +kernel
theorem dX12_changes_69 : decode cX12_changes 69 = .ok (.getfield 51, 3) := by decide +kernel
theorem dX12_changes_72 : decode cX12_changes 72 = .ok (.aload_n 0, 1) := by decide +kernel
theorem dX12_changes_73 : decode cX12_changes 73 = .ok (.getfield 272, 3) := by decide +kernel
theorem dX12_changes_76 : decode cX12_changes 76 = .ok (.iload_n 1, 1) := by decide +kernel
theorem dX12_changes_77 : decode cX12_changes 77 = .ok (.iastore, 1) := by decide +kernel
theorem dX12_changes_78 : decode cX12_changes 78 = .ok (.aload_n 0, 1) := by decide +kernel
theorem dX12_changes_79 : decode cX12_changes 79 = .ok (.getfield 54, 3) := by decide +kernel
theorem dX12_changes_82 : decode cX12_changes 82 = .ok (.aload_n 0, 1) := by decide +kernel
theorem dX12_changes_83 : decode cX12_changes 83 = .ok (.getfield 272, 3) := by decide +kernel
theorem dX12_changes_86 : decode cX12_changes 86 = .ok (.iload_n 3, 1) := by decide +kernel
theorem dX12_changes_87 : decode cX12_changes 87 = .ok (.iastore, 1) := by decide +kernel
theorem dX12_changes_88 : decode cX12_changes 88 = .ok (.aload_n 0, 1) := by decide +kernel
theorem dX12_changes_89 : decode cX12_changes 89 = .ok (.dup, 1) := by decide +kernel
theorem dX12_changes_90 : decode cX12_changes 90 = .ok (.getfield 272, 3) := by decide +kernel
theorem dX12_changes_93 : decode cX12_changes 93 = .ok (.iconst 1, 1) := by decide +kernel
theorem dX12_changes_94 : decode cX12_changes 94 = .ok (.iadd, 1) := by decide +kernel
theorem dX12_changes_95 : decode cX12_changes 95 = .ok (.putfield 272, 3) := by decide +kernel
theorem dX12_changes_98 : decode cX12_changes 98 = .ok (.aload_n 0, 1) := by decide +kernel
theorem dX12_changes_99 : decode cX12_changes 99 = .ok (.getfield 17, 3) := by decide +kernel
theorem dX12_changes_102 : decode cX12_changes 102 = .ok (.iload_n 1, 1) := by decide +kernel
theorem dX12_changes_103 : decode cX12_changes 103 = .ok (.iload_n 2, 1) := by decide +kernel
theorem dX12_changes_104 : decode cX12_changes 104 = .ok (.iastore, 1) := by decide +kernel
theorem dX12_changes_105 : decode cX12_changes 105 = .ok (.iload_n 3, 1) := by decide +kernel
theorem dX12_changes_106 : decode cX12_changes 106 = .ok (.ireturn, 1) := by decide +kernel
theorem dX12_splices_0 : decode cX12_splices 0 = .ok (.aload_n 0, 1) := by decide +kernel
theorem dX12_splices_1 : decode cX12_splices 1 = .ok (.aload_n 0, 1) := by decide +kernel
theorem dX12_splices_2 : decode cX12_splices 2 = .ok (.iload_n 1, 1) := by decide +kernel
theorem dX12_splices_3 : decode cX12_splices 3 = .ok (.invokevirtual 328, 3) := by decide +kernel
theorem dX12_splices_6 : decode cX12_splices 6 = .ok (.ifCond .ne 7, 3) := by decide +kernel
theorem dX12_splices_9 : decode cX12_splices 9 = .ok (.iconst 1, 1) := by decide +kernel
theorem dX12_splices_10 : decode cX12_splices 10 = .ok (.goto 21, 3) := by decide +kernel
theorem dX12_splices_13 : decode cX12_splices 13 = .ok (.iload_n 2, 1) := by decide +kernel
theorem dX12_splices_14 : decode cX12_splices 14 = .ok (.iconst (-1), 1) := by decide +kernel
theorem dX12_splices_15 : decode cX12_splices 15 = .ok (.if_icmp .eq 11, 3) := by decide +kernel
theorem dX12_splices_18 : decode cX12_splices 18 = .ok (.aload_n 0, 1) := by decide +kernel
theorem dX12_splices_19 : decode cX12_splices 19 = .ok (.iload_n 2, 1) := by decide +kernel
theorem dX12_splices_20 : decode cX12_splices 20 = .ok (.invokevirtual 285, 3) := by decide +kernel
theorem dX12_splices_23 : decode cX12_splices 23 = .ok (.ifCond .eq 7, 3) := by decide +kernel
theorem dX12_splices_26 : decode cX12_splices 26 = .ok (.iconst 0, 1) := by decide +kernel
theorem dX12_splices_27 : decode cX12_splices 27 = .ok (.goto 4, 3) := by decide +kernel
theorem dX12_splices_30 : decode cX12_splices 30 = .ok (.iconst 2, 1) := by decide +kernel
theorem dX12_splices_31 : decode cX12_splices 31 = .ok (.invokevirtual 254, 3) := by decide +kernel
theorem dX12_splices_34 : decode cX12_splices 34 = .ok (.ifCond .eq 5, 3) := by decide +kernel
theorem dX12_splices_37 : decode cX12_splices 37 = .ok (.iconst (-1), 1) := by decide +kernel
theorem dX12_splices_38 : decode cX12_splices 38 = .ok (.ireturn, 1) := by decide +kernel
theorem dX12_splices_39 : decode cX12_splices 39 = .ok (.aload_n 0, 1) := by decide +kernel
theorem dX12_splices_40 : decode cX12_splices 40 = .ok (.bipush 97, 2) := by decide +kernel
theorem dX12_splices_42 : decode cX12_splices 42 = .ok (.bipush 16, 2) := by decide +kernel
theorem dX12_splices_44 : decode cX12_splices 44 = .ok (.iload_n 1, 1) := by decide +kernel
theorem dX12_splices_45 : decode cX12_splices 45 = .ok (.imul, 1) := by decide +kernel
theorem dX12_splices_46 : decode cX12_splices 46 = .ok (.iadd, 1) := by decide +kernel
theorem dX12_splices_47 : decode cX12_splices 47 = .ok (.iconst 5, 1) := by decide +kernel
theorem dX12_splices_48 : decode cX12_splices 48 = .ok (.iadd, 1) := by decide +kernel
theorem dX12_splices_49 : decode cX12_splices 49 = .ok (.iload_n 2, 1) := by decide +kernel
theorem dX12_splices_50 : decode cX12_splices 50 = .ok (.iconst (-1), 1) := by decide +kernel
theorem dX12_splices_51 : decode cX12_splices 51 = .ok (.if_icmp .ne 8, 3) := by decide +kernel
theorem dX12_splices_54 : decode cX12_splices 54 = .ok (.bipush (-2), 2) := by decide +kernel
theorem dX12_splices_56 : decode cX12_splices 56 = .ok (.goto 4, 3) := by decide +kernel
theorem dX12_splices_59 : decode cX12_splices 59 = .ok (.iload_n 2, 1) := by decide +kernel
theorem dX12_splices_60 : decode cX12_splices 60 = .ok (.invokevirtual 444, 3) := by decide +kernel
theorem dX12_splices_63 : decode cX12_splices 63 = .ok (.ireturn, 1) := by decide +kernel
theorem dX12_stretch_0 : decode cX12_stretch 0 = .ok (.aload_n 0, 1) := by decide +kernel
theorem dX12_stretch_1 : decode cX12_stretch 1 = .ok (.aload_n 0, 1) := by decide +kernel
theorem dX12_stretch_2 : decode cX12_stretch 2 = .ok (.iload_n 1, 1) := by decide +kernel
theorem dX12_stretch_3 : decode cX12_stretch 3 = .ok (.invokevirtual 307, 3) := by decide +kernel
theorem dX12_stretch_6 : decode cX12_stretch 6 = .ok (.ifCond .ne 7, 3) := by decide +kernel
theorem dX12_stretch_9 : decode cX12_stretch 9 = .ok (.iconst 1, 1) := by decide +kernel
theorem dX12_stretch_10 : decode cX12_stretch 10 = .ok (.goto 19, 3) := by decide +kernel
theorem dX12_stretch_13 : decode cX12_stretch 13 = .ok (.iload_n 2, 1) := by decide +kernel
theorem dX12_stretch_14 : decode cX12_stretch 14 = .ok (.iconst 1, 1) := by decide +kernel
theorem dX12_stretch_15 : decode cX12_stretch 15 = .ok (.sipush 999, 3) := by decide +kernel
theorem dX12_stretch_18 : decode cX12_stretch 18 = .ok (.invokestatic 86, 3) := by decide +kernel
theorem dX12_stretch_21 : decode cX12_stretch 21 = .ok (.ifCond .eq 7, 3) := by decide +kernel
theorem dX12_stretch_24 : decode cX12_stretch 24 = .ok (.iconst 0, 1) := by decide +kernel
theorem dX12_stretch_25 : decode cX12_stretch 25 = .ok (.goto 4, 3) := by decide +kernel
theorem dX12_stretch_28 : decode cX12_stretch 28 = .ok (.iconst 2, 1) := by decide +kernel
theorem dX12_stretch_29 : decode cX12_stretch 29 = .ok (.invokevirtual 254, 3) := by decide +kernel
theorem dX12_stretch_32 : decode cX12_stretch 32 = .ok (.ifCond .eq 5, 3) := by decide +kernel
theorem dX12_stretch_35 : decode cX12_stretch 35 = .ok (.iconst (-1), 1) := by decide +kernel
theorem dX12_stretch_36 : decode cX12_stretch 36 = .ok (.ireturn, 1) := by decide +kernel
theorem dX12_stretch_37 : decode cX12_stretch 37 = .ok (.aload_n 0, 1) := by decide +kernel
theorem dX12_stretch_38 : decode cX12_stretch 38 = .ok (.bipush 21, 2) := by decide +kernel
theorem dX12_stretch_40 : decode cX12_stretch 40 = .ok (.iload_n 1, 1) := by decide +kernel
theorem dX12_stretch_41 : decode cX12_stretch 41 = .ok (.iadd, 1) := by decide +kernel
theorem dX12_stretch_42 : decode cX12_stretch 42 = .ok (.iload_n 2, 1) := by decide +kernel
theorem dX12_stretch_43 : decode cX12_stretch 43 = .ok (.invokevirtual 444, 3) := by decide +kernel
theorem dX12_stretch_46 : decode cX12_stretch 46 = .ok (.ireturn, 1) := by decide +kernel
theorem dX12_undo_0 : decode cX12_undo 0 = .ok (.aload_n 0, 1) := by decide +kernel
theorem dX12_undo_1 : decode cX12_undo 1 = .ok (.aload_n 0, 1) := by decide +kernel
theorem dX12_undo_2 : decode cX12_undo 2 = .ok (.getfield 272, 3) := by decide +kernel
theorem dX12_undo_5 : decode cX12_undo 5 = .ok (.ifCond .le 7, 3) := by decide +kernel
theorem dX12_undo_8 : decode cX12_undo 8 = .ok (.iconst 1, 1) := by decide +kernel
theorem dX12_undo_9 : decode cX12_undo 9 = .ok (.goto 4, 3) := by decide +kernel
theorem dX12_undo_12 : decode cX12_undo 12 = .ok (.iconst 0, 1) := by decide +kernel
theorem dX12_undo_13 : decode cX12_undo 13 = .ok (.invokestatic 275, 3) := by decide +kernel
theorem dX12_undo_16 : decode cX12_undo 16 = .ok (.invokevirtual 254, 3) := by decide +kernel
theorem dX12_undo_19 : decode cX12_undo 19 = .ok (.ifCond .eq 5, 3) := by decide +kernel
theorem dX12_undo_22 : decode cX12_undo 22 = .ok (.iconst 0, 1) := by decide +kernel
theorem dX12_undo_23 : decode cX12_undo 23 = .ok (.ireturn, 1) := by decide +kernel
theorem dX12_undo_24 : decode cX12_undo 24 = .ok (.aload_n 0, 1) := by decide +kernel
theorem dX12_undo_25 : decode cX12_undo 25 = .ok (.dup, 1) := by decide +kernel
theorem dX12_undo_26 : decode cX12_undo 26 = .ok (.getfield 272, 3) := by decide +kernel
theorem dX12_undo_29 : decode cX12_undo 29 = .ok (.iconst 1, 1) := by decide +kernel
theorem dX12_undo_30 : decode cX12_undo 30 = .ok (.isub, 1) := by decide +kernel
theorem dX12_undo_31 : decode cX12_undo 31 = .ok (.putfield 272, 3) := by decide +kernel
theorem dX12_undo_34 : decode cX12_undo 34 = .ok (.aload_n 0, 1) := by decide +kernel
theorem dX12_undo_35 : decode cX12_undo 35 = .ok (.getfield 17, 3) := by decide +kernel
theorem dX12_undo_38 : decode cX12_undo 38 = .ok (.aload_n 0, 1) := by decide +kernel
theorem dX12_undo_39 : decode cX12_undo 39 = .ok (.getfield 51, 3) := by decide +kernel
theorem dX12_undo_42 : decode cX12_undo 42 = .ok (.aload_n 0, 1) := by decide +kernel
theorem dX12_undo_43 : decode cX12_undo 43 = .ok (.getfield 272, 3) := by decide +kernel
theorem dX12_undo_46 : decode cX12_undo 46 = .ok (.iaload, 1) := by decide +kernel
theorem dX12_undo_47 : decode cX12_undo 47 = .ok (.aload_n 0, 1) := by decide +kernel
theorem dX12_undo_48 : decode cX12_undo 48 = .ok (.getfield 54, 3) := by decide +kernel
theorem dX12_undo_51 : decode cX12_undo 51 = .ok (.aload_n 0, 1) := by decide +kernel
theorem dX12_undo_52 : decode cX12_undo 52 = .ok (.getfield 272, 3) := by decide +kernel
theorem dX12_undo_55 : decode cX12_undo 55 = .ok (.iaload, 1) := by decide +kernel
theorem dX12_undo_56 : decode cX12_undo 56 = .ok (.iastore, 1) := by decide +kernel
theorem dX12_undo_57 : decode cX12_undo 57 = .ok (.iconst 1, 1) := by decide +kernel
theorem dX12_undo_58 : decode cX12_undo 58 = .ok (.ireturn, 1) := by decide +kernel
theorem dX12_isUnused_0 : decode cX12_isUnused 0 = .ok (.iconst 0, 1) := by decide +kernel
theorem dX12_isUnused_1 : decode cX12_isUnused 1 = .ok (.istore_n 2, 1) := by decide +kernel
theorem dX12_isUnused_2 : decode cX12_isUnused 2 = .ok (.iload_n 2, 1) := by decide +kernel
theorem dX12_isUnused_3 : decode cX12_isUnused 3 = .ok (.aload_n 0, 1) := by decide +kernel
theorem dX12_isUnused_4 : decode cX12_isUnused 4 = .ok (.getfield 17, 3) := by decide +kernel
theorem dX12_isUnused_7 : decode cX12_isUnused 7 = .ok (.bipush 6, 2) := by decide +kernel
theorem dX12_isUnused_9 : decode cX12_isUnused 9 = .ok (.iaload, 1) := by decide +kernel
theorem dX12_isUnused_10 : decode cX12_isUnused 10 = .ok (.if_icmp .ge 27, 3) := by decide +kernel
theorem dX12_isUnused_13 : decode cX12_isUnused 13 = .ok (.aload_n 0, 1) := by decide +kernel
theorem dX12_isUnused_14 : decode cX12_isUnused 14 = .ok (.aload_n 0, 1) := by decide +kernel
theorem dX12_isUnused_15 : decode cX12_isUnused 15 = .ok (.iload_n 2, 1) := by decide +kernel
theorem dX12_isUnused_16 : decode cX12_isUnused 16 = .ok (.invokevirtual 408, 3) := by decide +kernel
theorem dX12_isUnused_19 : decode cX12_isUnused 19 = .ok (.iload_n 1, 1) := by decide +kernel
theorem dX12_isUnused_20 : decode cX12_isUnused 20 = .ok (.invokevirtual 362, 3) := by decide +kernel
theorem dX12_isUnused_23 : decode cX12_isUnused 23 = .ok (.invokestatic 372, 3) := by decide +kernel
theorem dX12_isUnused_26 : decode cX12_isUnused 26 = .ok (.ifCond .le 5, 3) := by decide +kernel
theorem dX12_isUnused_29 : decode cX12_isUnused 29 = .ok (.iconst 0, 1) := by decide +kernel
theorem dX12_isUnused_30 : decode cX12_isUnused 30 = .ok (.ireturn, 1) := by decide +kernel
theorem dX12_isUnused_31 : decode cX12_isUnused 31 = .ok (.iinc 2 1, 3) := by decide +kernel
theorem dX12_isUnused_34 : decode cX12_isUnused 34 = .ok (.goto (-32), 3) := by decide +kernel
theorem dX12_isUnused_37 : decode cX12_isUnused 37 = .ok (.iconst 1, 1) := by decide +kernel
theorem dX12_isUnused_38 : decode cX12_isUnused 38 = .ok (.ireturn, 1) := by decide +kernel
theorem dX12_unused_0 : decode cX12_unused 0 = .ok (.aload_n 0, 1) := by decide +kernel
theorem dX12_unused_1 : decode cX12_unused 1 = .ok (.iconst 0, 1) := by decide +kernel
theorem dX12_unused_2 : decode cX12_unused 2 = .ok (.putfield 57, 3) := by decide +kernel
theorem dX12_unused_5 : decode cX12_unused 5 = .ok (.iconst 0, 1) := by decide +kernel
theorem dX12_unused_6 : decode cX12_unused 6 = .ok (.istore_n 2, 1) := by decide +kernel
theorem dX12_unused_7 : decode cX12_unused 7 = .ok (.iconst 0, 1) := by decide +kernel
theorem dX12_unused_8 : decode cX12_unused 8 = .ok (.istore_n 3, 1) := by decide +kernel
theorem dX12_unused_9 : decode cX12_unused 9 = .ok (.aload_n 0, 1) := by decide +kernel
theorem dX12_unused_10 : decode cX12_unused 10 = .ok (.getfield 269, 3) := by decide +kernel
theorem dX12_unused_13 : decode cX12_unused 13 = .ok (.ifCond .eq 37, 3) := by decide +kernel
theorem dX12_unused_16 : decode cX12_unused 16 = .ok (.iload_n 3, 1) := by decide +kernel
theorem dX12_unused_17 : decode cX12_unused 17 = .ok (.aload_n 0, 1) := by decide +kernel
theorem dX12_unused_18 : decode cX12_unused 18 = .ok (.getfield 17, 3) := by decide +kernel
theorem dX12_unused_21 : decode cX12_unused 21 = .ok (.iconst 5, 1) := by decide +kernel
theorem dX12_unused_22 : decode cX12_unused 22 = .ok (.iaload, 1) := by decide +kernel
theorem dX12_unused_23 : decode cX12_unused 23 = .ok (.if_icmp .ge 27, 3) := by decide +kernel
theorem dX12_unused_26 : decode cX12_unused 26 = .ok (.aload_n 0, 1) := by decide +kernel
theorem dX12_unused_27 : decode cX12_unused 27 = .ok (.iload_n 3, 1) := by decide +kernel
theorem dX12_unused_28 : decode cX12_unused 28 = .ok (.invokevirtual 447, 3) := by decide +kernel
theorem dX12_unused_31 : decode cX12_unused 31 = .ok (.ifCond .eq 13, 3) := by decide +kernel
theorem dX12_unused_34 : decode cX12_unused 34 = .ok (.iload_n 2, 1) := by decide +kernel
theorem dX12_unused_35 : decode cX12_unused 35 = .ok (.iload_n 1, 1) := by decide +kernel
theorem dX12_unused_36 : decode cX12_unused 36 = .ok (.if_icmp .ne 5, 3) := by decide +kernel
theorem dX12_unused_39 : decode cX12_unused 39 = .ok (.iload_n 3, 1) := by decide +kernel
theorem dX12_unused_40 : decode cX12_unused 40 = .ok (.ireturn, 1) := by decide +kernel
theorem dX12_unused_41 : decode cX12_unused 41 = .ok (.iinc 2 1, 3) := by decide +kernel
theorem dX12_unused_44 : decode cX12_unused 44 = .ok (.iinc 3 1, 3) := by decide +kernel
theorem dX12_unused_47 : decode cX12_unused 47 = .ok (.goto (-38), 3) := by decide +kernel
theorem dX12_unused_50 : decode cX12_unused 50 = .ok (.aload_n 0, 1) := by decide +kernel
theorem dX12_unused_51 : decode cX12_unused 51 = .ok (.iconst 1, 1) := by decide +kernel
theorem dX12_unused_52 : decode cX12_unused 52 = .ok (.putfield 57, 3) := by decide +kernel
theorem dX12_unused_55 : decode cX12_unused 55 = .ok (.iconst 0, 1) := by decide +kernel
theorem dX12_unused_56 : decode cX12_unused 56 = .ok (.ireturn, 1) := by decide +kernel
theorem dX12_handMany_0 : decode cX12_handMany 0 = .ok (.iconst 0, 1) := by decide +kernel
theorem dX12_handMany_1 : decode cX12_handMany 1 = .ok (.istore_n 1, 1) := by decide +kernel
theorem dX12_handMany_2 : decode cX12_handMany 2 = .ok (.iconst 0, 1) := by decide +kernel
theorem dX12_handMany_3 : decode cX12_handMany 3 = .ok (.istore_n 2, 1) := by decide +kernel
theorem dX12_handMany_4 : decode cX12_handMany 4 = .ok (.aload_n 0, 1) := by decide +kernel
theorem dX12_handMany_5 : decode cX12_handMany 5 = .ok (.getfield 269, 3) := by decide +kernel
theorem dX12_handMany_8 : decode cX12_handMany 8 = .ok (.ifCond .eq 38, 3) := by decide +kernel
theorem dX12_handMany_11 : decode cX12_handMany 11 = .ok (.iload_n 2, 1) := by decide +kernel
theorem dX12_handMany_12 : decode cX12_handMany 12 = .ok (.aload_n 0, 1) := by decide +kernel
theorem dX12_handMany_13 : decode cX12_handMany 13 = .ok (.getfield 17, 3) := by decide +kernel
theorem dX12_handMany_16 : decode cX12_handMany 16 = .ok (.iconst 5, 1) := by decide +kernel
theorem dX12_handMany_17 : decode cX12_handMany 17 = .ok (.iaload, 1) := by decide +kernel
theorem dX12_handMany_18 : decode cX12_handMany 18 = .ok (.if_icmp .ge 28, 3) := by decide +kernel
theorem dX12_handMany_21 : decode cX12_handMany 21 = .ok (.iload_n 1, 1) := by decide +kernel
theorem dX12_handMany_22 : decode cX12_handMany 22 = .ok (.aload_n 0, 1) := by decide +kernel
theorem dX12_handMany_23 : decode cX12_handMany 23 = .ok (.iload_n 2, 1) := by decide +kernel
theorem dX12_handMany_24 : decode cX12_handMany 24 = .ok (.iconst 5, 1) := by decide +kernel
theorem dX12_handMany_25 : decode cX12_handMany 25 = .ok (.invokevirtual 319, 3) := by decide +kernel
theorem dX12_handMany_28 : decode cX12_handMany 28 = .ok (.bipush (-2), 2) := by decide +kernel
theorem dX12_handMany_30 : decode cX12_handMany 30 = .ok (.if_icmp .ne 7, 3) := by decide +kernel
theorem dX12_handMany_33 : decode cX12_handMany 33 = .ok (.iconst 0, 1) := by decide +kernel
theorem dX12_handMany_34 : decode cX12_handMany 34 = .ok (.goto 4, 3) := by decide +kernel
theorem dX12_handMany_37 : decode cX12_handMany 37 = .ok (.iconst 1, 1) := by decide +kernel
theorem dX12_handMany_38 : decode cX12_handMany 38 = .ok (.iadd, 1) := by decide +kernel
theorem dX12_handMany_39 : decode cX12_handMany 39 = .ok (.istore_n 1, 1) := by decide +kernel
theorem dX12_handMany_40 : decode cX12_handMany 40 = .ok (.iinc 2 1, 3) := by decide +kernel
theorem dX12_handMany_43 : decode cX12_handMany 43 = .ok (.goto (-39), 3) := by decide +kernel
theorem dX12_handMany_46 : decode cX12_handMany 46 = .ok (.iload_n 1, 1) := by decide +kernel
theorem dX12_handMany_47 : decode cX12_handMany 47 = .ok (.ireturn, 1) := by decide +kernel
theorem dX12_size_0 : decode cX12_size 0 = .ok (.aload_n 0, 1) := by decide +kernel
theorem dX12_size_1 : decode cX12_size 1 = .ok (.iconst 0, 1) := by decide +kernel
theorem dX12_size_2 : decode cX12_size 2 = .ok (.putfield 57, 3) := by decide +kernel
theorem dX12_size_5 : decode cX12_size 5 = .ok (.iload_n 1, 1) := by decide +kernel
theorem dX12_size_6 : decode cX12_size 6 = .ok (.tableswitch 41 0 2 #[26, 31, 36], 26) := by decide +kernel
theorem dX12_size_32 : decode cX12_size 32 = .ok (.aload_n 0, 1) := by decide +kernel
theorem dX12_size_33 : decode cX12_size 33 = .ok (.getfield 63, 3) := by decide +kernel
theorem dX12_size_36 : decode cX12_size 36 = .ok (.ireturn, 1) := by decide +kernel
theorem dX12_size_37 : decode cX12_size 37 = .ok (.aload_n 0, 1) := by decide +kernel
theorem dX12_size_38 : decode cX12_size 38 = .ok (.getfield 272, 3) := by decide +kernel
theorem dX12_size_41 : decode cX12_size 41 = .ok (.ireturn, 1) := by decide +kernel
theorem dX12_size_42 : decode cX12_size 42 = .ok (.aload_n 0, 1) := by decide +kernel
theorem dX12_size_43 : decode cX12_size 43 = .ok (.invokevirtual 450, 3) := by decide +kernel
theorem dX12_size_46 : decode cX12_size 46 = .ok (.ireturn, 1) := by decide +kernel
theorem dX12_size_47 : decode cX12_size 47 = .ok (.iconst (-1), 1) := by decide +kernel
theorem dX12_size_48 : decode cX12_size 48 = .ok (.ireturn, 1) := by decide +kernel
theorem dX12_trouble_0 : decode cX12_trouble 0 = .ok (.aload_n 0, 1) := by decide +kernel
theorem dX12_trouble_1 : decode cX12_trouble 1 = .ok (.iconst 0, 1) := by decide +kernel
theorem dX12_trouble_2 : decode cX12_trouble 2 = .ok (.putfield 57, 3) := by decide +kernel
theorem dX12_trouble_5 : decode cX12_trouble 5 = .ok (.aload_n 0, 1) := by decide +kernel
theorem dX12_trouble_6 : decode cX12_trouble 6 = .ok (.getfield 60, 3) := by decide +kernel
theorem dX12_trouble_9 : decode cX12_trouble 9 = .ok (.ireturn, 1) := by decide +kernel
theorem dJ6_bitCount_0f7a4_0 : decode cJ6_bitCount_0f7a4 0 = .ok (.iload_n 0, 1) := by decide +kernel
theorem dJ6_bitCount_0f7a4_1 : decode cJ6_bitCount_0f7a4 1 = .ok (.iload_n 0, 1) := by decide +kernel
theorem dJ6_bitCount_0f7a4_2 : decode cJ6_bitCount_0f7a4 2 = .ok (.iconst 1, 1) := by decide +kernel
theorem dJ6_bitCount_0f7a4_3 : decode cJ6_bitCount_0f7a4 3 = .ok (.iushr, 1) := by decide +kernel
theorem dJ6_bitCount_0f7a4_4 : decode cJ6_bitCount_0f7a4 4 = .ok (.ldc_w 265, 3) := by decide +kernel
theorem dJ6_bitCount_0f7a4_7 : decode cJ6_bitCount_0f7a4 7 = .ok (.iand, 1) := by decide +kernel
theorem dJ6_bitCount_0f7a4_8 : decode cJ6_bitCount_0f7a4 8 = .ok (.isub, 1) := by decide +kernel
theorem dJ6_bitCount_0f7a4_9 : decode cJ6_bitCount_0f7a4 9 = .ok (.istore_n 0, 1) := by decide +kernel
theorem dJ6_bitCount_0f7a4_10 : decode cJ6_bitCount_0f7a4 10 = .ok (.iload_n 0, 1) := by decide +kernel
theorem dJ6_bitCount_0f7a4_11 : decode cJ6_bitCount_0f7a4 11 = .ok (.ldc_w 266, 3) := by decide +kernel
theorem dJ6_bitCount_0f7a4_14 : decode cJ6_bitCount_0f7a4 14 = .ok (.iand, 1) := by decide +kernel
theorem dJ6_bitCount_0f7a4_15 : decode cJ6_bitCount_0f7a4 15 = .ok (.iload_n 0, 1) := by decide +kernel
theorem dJ6_bitCount_0f7a4_16 : decode cJ6_bitCount_0f7a4 16 = .ok (.iconst 2, 1) := by decide +kernel
theorem dJ6_bitCount_0f7a4_17 : decode cJ6_bitCount_0f7a4 17 = .ok (.iushr, 1) := by decide +kernel
theorem dJ6_bitCount_0f7a4_18 : decode cJ6_bitCount_0f7a4 18 = .ok (.ldc_w 266, 3) := by decide +kernel
theorem dJ6_bitCount_0f7a4_21 : decode cJ6_bitCount_0f7a4 21 = .ok (.iand, 1) := by decide +kernel
theorem dJ6_bitCount_0f7a4_22 : decode cJ6_bitCount_0f7a4 22 = .ok (.iadd, 1) := by decide +kernel
theorem dJ6_bitCount_0f7a4_23 : decode cJ6_bitCount_0f7a4 23 = .ok (.istore_n 0, 1) := by decide +kernel
theorem dJ6_bitCount_0f7a4_24 : decode cJ6_bitCount_0f7a4 24 = .ok (.iload_n 0, 1) := by decide +kernel
theorem dJ6_bitCount_0f7a4_25 : decode cJ6_bitCount_0f7a4 25 = .ok (.iload_n 0, 1) := by decide +kernel
theorem dJ6_bitCount_0f7a4_26 : decode cJ6_bitCount_0f7a4 26 = .ok (.iconst 4, 1) := by decide +kernel
theorem dJ6_bitCount_0f7a4_27 : decode cJ6_bitCount_0f7a4 27 = .ok (.iushr, 1) := by decide +kernel
theorem dJ6_bitCount_0f7a4_28 : decode cJ6_bitCount_0f7a4 28 = .ok (.iadd, 1) := by decide +kernel
theorem dJ6_bitCount_0f7a4_29 : decode cJ6_bitCount_0f7a4 29 = .ok (.ldc_w 267, 3) := by decide +kernel
theorem dJ6_bitCount_0f7a4_32 : decode cJ6_bitCount_0f7a4 32 = .ok (.iand, 1) := by decide +kernel
theorem dJ6_bitCount_0f7a4_33 : decode cJ6_bitCount_0f7a4 33 = .ok (.istore_n 0, 1) := by decide +kernel
theorem dJ6_bitCount_0f7a4_34 : decode cJ6_bitCount_0f7a4 34 = .ok (.iload_n 0, 1) := by decide +kernel
theorem dJ6_bitCount_0f7a4_35 : decode cJ6_bitCount_0f7a4 35 = .ok (.iload_n 0, 1) := by decide +kernel
theorem dJ6_bitCount_0f7a4_36 : decode cJ6_bitCount_0f7a4 36 = .ok (.bipush 8, 2) := by decide +kernel
theorem dJ6_bitCount_0f7a4_38 : decode cJ6_bitCount_0f7a4 38 = .ok (.iushr, 1) := by decide +kernel
theorem dJ6_bitCount_0f7a4_39 : decode cJ6_bitCount_0f7a4 39 = .ok (.iadd, 1) := by decide +kernel
theorem dJ6_bitCount_0f7a4_40 : decode cJ6_bitCount_0f7a4 40 = .ok (.istore_n 0, 1) := by decide +kernel
theorem dJ6_bitCount_0f7a4_41 : decode cJ6_bitCount_0f7a4 41 = .ok (.iload_n 0, 1) := by decide +kernel
theorem dJ6_bitCount_0f7a4_42 : decode cJ6_bitCount_0f7a4 42 = .ok (.iload_n 0, 1) := by decide +kernel
theorem dJ6_bitCount_0f7a4_43 : decode cJ6_bitCount_0f7a4 43 = .ok (.bipush 16, 2) := by decide +kernel
theorem dJ6_bitCount_0f7a4_45 : decode cJ6_bitCount_0f7a4 45 = .ok (.iushr, 1) := by decide +kernel
theorem dJ6_bitCount_0f7a4_46 : decode cJ6_bitCount_0f7a4 46 = .ok (.iadd, 1) := by decide +kernel
theorem dJ6_bitCount_0f7a4_47 : decode cJ6_bitCount_0f7a4 47 = .ok (.istore_n 0, 1) := by decide +kernel
theorem dJ6_bitCount_0f7a4_48 : decode cJ6_bitCount_0f7a4 48 = .ok (.iload_n 0, 1) := by decide +kernel
theorem dJ6_bitCount_0f7a4_49 : decode cJ6_bitCount_0f7a4 49 = .ok (.bipush 63, 2) := by decide +kernel
theorem dJ6_bitCount_0f7a4_51 : decode cJ6_bitCount_0f7a4 51 = .ok (.iand, 1) := by decide +kernel
theorem dJ6_bitCount_0f7a4_52 : decode cJ6_bitCount_0f7a4 52 = .ok (.ireturn, 1) := by decide +kernel
theorem dJ9_max_7cf53_0 : decode cJ9_max_7cf53 0 = .ok (.iload_n 0, 1) := by decide +kernel
theorem dJ9_max_7cf53_1 : decode cJ9_max_7cf53 1 = .ok (.iload_n 1, 1) := by decide +kernel
theorem dJ9_max_7cf53_2 : decode cJ9_max_7cf53 2 = .ok (.if_icmp .lt 7, 3) := by decide +kernel
theorem dJ9_max_7cf53_5 : decode cJ9_max_7cf53 5 = .ok (.iload_n 0, 1) := by decide +kernel
theorem dJ9_max_7cf53_6 : decode cJ9_max_7cf53 6 = .ok (.goto 4, 3) := by decide +kernel
theorem dJ9_max_7cf53_9 : decode cJ9_max_7cf53 9 = .ok (.iload_n 1, 1) := by decide +kernel
theorem dJ9_max_7cf53_10 : decode cJ9_max_7cf53 10 = .ok (.ireturn, 1) := by decide +kernel
theorem dJ9_min_7cf53_0 : decode cJ9_min_7cf53 0 = .ok (.iload_n 0, 1) := by decide +kernel
theorem dJ9_min_7cf53_1 : decode cJ9_min_7cf53 1 = .ok (.iload_n 1, 1) := by decide +kernel
theorem dJ9_min_7cf53_2 : decode cJ9_min_7cf53 2 = .ok (.if_icmp .gt 7, 3) := by decide +kernel
theorem dJ9_min_7cf53_5 : decode cJ9_min_7cf53 5 = .ok (.iload_n 0, 1) := by decide +kernel
theorem dJ9_min_7cf53_6 : decode cJ9_min_7cf53 6 = .ok (.goto 4, 3) := by decide +kernel
theorem dJ9_min_7cf53_9 : decode cJ9_min_7cf53 9 = .ok (.iload_n 1, 1) := by decide +kernel
theorem dJ9_min_7cf53_10 : decode cJ9_min_7cf53 10 = .ok (.ireturn, 1) := by decide +kernel
theorem dJ0_length_8abf5_0 : decode cJ0_length_8abf5 0 = .ok (.aload_n 0, 1) := by decide +kernel
theorem dJ0_length_8abf5_1 : decode cJ0_length_8abf5 1 = .ok (.getfield 9, 3) := by decide +kernel
theorem dJ0_length_8abf5_4 : decode cJ0_length_8abf5 4 = .ok (.arraylength, 1) := by decide +kernel
theorem dJ0_length_8abf5_5 : decode cJ0_length_8abf5 5 = .ok (.aload_n 0, 1) := by decide +kernel
theorem dJ0_length_8abf5_6 : decode cJ0_length_8abf5 6 = .ok (.invokevirtual 335, 3) := by decide +kernel
theorem dJ0_length_8abf5_9 : decode cJ0_length_8abf5 9 = .ok (.ishr, 1) := by decide +kernel
theorem dJ0_length_8abf5_10 : decode cJ0_length_8abf5 10 = .ok (.ireturn, 1) := by decide +kernel
theorem dJ0_charAt_5068e_0 : decode cJ0_charAt_5068e 0 = .ok (.aload_n 0, 1) := by decide +kernel
theorem dJ0_charAt_5068e_1 : decode cJ0_charAt_5068e 1 = .ok (.invokevirtual 492, 3) := by decide +kernel
theorem dJ0_charAt_5068e_4 : decode cJ0_charAt_5068e 4 = .ok (.ifCond .eq 12, 3) := by decide +kernel
theorem dJ0_charAt_5068e_7 : decode cJ0_charAt_5068e 7 = .ok (.aload_n 0, 1) := by decide +kernel
theorem dJ0_charAt_5068e_8 : decode cJ0_charAt_5068e 8 = .ok (.getfield 9, 3) := by decide +kernel
theorem dJ0_charAt_5068e_11 : decode cJ0_charAt_5068e 11 = .ok (.iload_n 1, 1) := by decide +kernel
theorem dJ0_charAt_5068e_12 : decode cJ0_charAt_5068e 12 = .ok (.invokestatic 495, 3) := by decide +kernel
theorem dJ0_charAt_5068e_15 : decode cJ0_charAt_5068e 15 = .ok (.ireturn, 1) := by decide +kernel
theorem dJ0_charAt_5068e_16 : decode cJ0_charAt_5068e 16 = .ok (.aload_n 0, 1) := by decide +kernel
theorem dJ0_charAt_5068e_17 : decode cJ0_charAt_5068e 17 = .ok (.getfield 9, 3) := by decide +kernel
theorem dJ0_charAt_5068e_20 : decode cJ0_charAt_5068e 20 = .ok (.iload_n 1, 1) := by decide +kernel
theorem dJ0_charAt_5068e_21 : decode cJ0_charAt_5068e 21 = .ok (.invokestatic 498, 3) := by decide +kernel
theorem dJ0_charAt_5068e_24 : decode cJ0_charAt_5068e 24 = .ok (.ireturn, 1) := by decide +kernel
theorem dJ0_coder_7d493_0 : decode cJ0_coder_7d493 0 = .ok (.getstatic 38, 3) := by decide +kernel
theorem dJ0_coder_7d493_3 : decode cJ0_coder_7d493 3 = .ok (.ifCond .eq 10, 3) := by decide +kernel
theorem dJ0_coder_7d493_6 : decode cJ0_coder_7d493 6 = .ok (.aload_n 0, 1) := by decide +kernel
theorem dJ0_coder_7d493_7 : decode cJ0_coder_7d493 7 = .ok (.getfield 15, 3) := by decide +kernel
theorem dJ0_coder_7d493_10 : decode cJ0_coder_7d493 10 = .ok (.goto 4, 3) := by decide +kernel
theorem dJ0_coder_7d493_13 : decode cJ0_coder_7d493 13 = .ok (.iconst 1, 1) := by decide +kernel
theorem dJ0_coder_7d493_14 : decode cJ0_coder_7d493 14 = .ok (.ireturn, 1) := by decide +kernel
theorem dJ0_isLatin1_aae02_0 : decode cJ0_isLatin1_aae02 0 = .ok (.getstatic 38, 3) := by decide +kernel
theorem dJ0_isLatin1_aae02_3 : decode cJ0_isLatin1_aae02 3 = .ok (.ifCond .eq 14, 3) := by decide +kernel
theorem dJ0_isLatin1_aae02_6 : decode cJ0_isLatin1_aae02 6 = .ok (.aload_n 0, 1) := by decide +kernel
theorem dJ0_isLatin1_aae02_7 : decode cJ0_isLatin1_aae02 7 = .ok (.getfield 15, 3) := by decide +kernel
theorem dJ0_isLatin1_aae02_10 : decode cJ0_isLatin1_aae02 10 = .ok (.ifCond .ne 7, 3) := by decide +kernel
theorem dJ0_isLatin1_aae02_13 : decode cJ0_isLatin1_aae02 13 = .ok (.iconst 1, 1) := by decide +kernel
theorem dJ0_isLatin1_aae02_14 : decode cJ0_isLatin1_aae02 14 = .ok (.goto 4, 3) := by decide +kernel
theorem dJ0_isLatin1_aae02_17 : decode cJ0_isLatin1_aae02 17 = .ok (.iconst 0, 1) := by decide +kernel
theorem dJ0_isLatin1_aae02_18 : decode cJ0_isLatin1_aae02 18 = .ok (.ireturn, 1) := by decide +kernel
theorem dJ0_checkIndex_df160_0 : decode cJ0_checkIndex_df160 0 = .ok (.iload_n 0, 1) := by decide +kernel
theorem dJ0_checkIndex_df160_1 : decode cJ0_checkIndex_df160 1 = .ok (.iload_n 1, 1) := by decide +kernel
theorem dJ0_checkIndex_df160_2 : decode cJ0_checkIndex_df160 2 = .ok (.getstatic 1053, 3) := by decide +kernel
theorem dJ0_checkIndex_df160_5 : decode cJ0_checkIndex_df160 5 = .ok (.invokestatic 1059, 3) := by decide +kernel
theorem dJ0_checkIndex_df160_8 : decode cJ0_checkIndex_df160 8 = .ok (.pop, 1) := by decide +kernel
theorem dJ0_checkIndex_df160_9 : decode cJ0_checkIndex_df160 9 = .ok (.return_, 1) := by decide +kernel
theorem dJ1_charAt_3b067_0 : decode cJ1_charAt_3b067 0 = .ok (.iload_n 1, 1) := by decide +kernel
theorem dJ1_charAt_3b067_1 : decode cJ1_charAt_3b067 1 = .ok (.aload_n 0, 1) := by decide +kernel
theorem dJ1_charAt_3b067_2 : decode cJ1_charAt_3b067 2 = .ok (.arraylength, 1) := by decide +kernel
theorem dJ1_charAt_3b067_3 : decode cJ1_charAt_3b067 3 = .ok (.invokestatic 9, 3) := by decide +kernel
theorem dJ1_charAt_3b067_6 : decode cJ1_charAt_3b067 6 = .ok (.aload_n 0, 1) := by decide +kernel
theorem dJ1_charAt_3b067_7 : decode cJ1_charAt_3b067 7 = .ok (.iload_n 1, 1) := by decide +kernel
theorem dJ1_charAt_3b067_8 : decode cJ1_charAt_3b067 8 = .ok (.baload, 1) := by decide +kernel
theorem dJ1_charAt_3b067_9 : decode cJ1_charAt_3b067 9 = .ok (.sipush 255, 3) := by decide +kernel
theorem dJ1_charAt_3b067_12 : decode cJ1_charAt_3b067 12 = .ok (.iand, 1) := by decide +kernel
theorem dJ1_charAt_3b067_13 : decode cJ1_charAt_3b067 13 = .ok (.i2c, 1) := by decide +kernel
theorem dJ1_charAt_3b067_14 : decode cJ1_charAt_3b067 14 = .ok (.ireturn, 1) := by decide +kernel
theorem dJ2_getChar_3b067_0 : decode cJ2_getChar_3b067 0 = .ok (.getstatic 44, 3) := by decide +kernel
theorem dJ2_getChar_3b067_3 : decode cJ2_getChar_3b067 3 = .ok (.ifCond .ne 25, 3) := by decide +kernel
theorem dJ2_getChar_3b067_6 : decode cJ2_getChar_3b067 6 = .ok (.iload_n 1, 1) := by decide +kernel
theorem dJ2_getChar_3b067_7 : decode cJ2_getChar_3b067 7 = .ok (.ifCond .lt 11, 3) := by decide +kernel
theorem dJ2_getChar_3b067_10 : decode cJ2_getChar_3b067 10 = .ok (.iload_n 1, 1) := by decide +kernel
theorem dJ2_getChar_3b067_11 : decode cJ2_getChar_3b067 11 = .ok (.aload_n 0, 1) := by decide +kernel
theorem dJ2_getChar_3b067_12 : decode cJ2_getChar_3b067 12 = .ok (.invokestatic 48, 3) := by decide +kernel
theorem dJ2_getChar_3b067_15 : decode cJ2_getChar_3b067 15 = .ok (.if_icmp .lt 13, 3) := by decide +kernel
theorem dJ2_getChar_3b067_18 : decode cJ2_getChar_3b067 18 = .ok (.new 52, 3) := by decide +kernel
theorem dJ2_getChar_3b067_21 : decode cJ2_getChar_3b067 21 = .ok (.dup, 1) := by decide +kernel
theorem dJ2_getChar_3b067_22 : decode cJ2_getChar_3b067 22 = .ok (.ldc 54, 2) := by decide +kernel
theorem dJ2_getChar_3b067_24 : decode cJ2_getChar_3b067 24 = .ok (.invokespecial 56, 3) := by decide +kernel
theorem dJ2_getChar_3b067_27 : decode cJ2_getChar_3b067 27 = .ok (.athrow, 1) := by decide +kernel
theorem dJ2_getChar_3b067_28 : decode cJ2_getChar_3b067 28 = .ok (.iload_n 1, 1) := by decide +kernel
theorem dJ2_getChar_3b067_29 : decode cJ2_getChar_3b067 29 = .ok (.iconst 1, 1) := by decide +kernel
theorem dJ2_getChar_3b067_30 : decode cJ2_getChar_3b067 30 = .ok (.ishl, 1) := by decide +kernel
theorem dJ2_getChar_3b067_31 : decode cJ2_getChar_3b067 31 = .ok (.istore_n 1, 1) := by decide +kernel
theorem dJ2_getChar_3b067_32 : decode cJ2_getChar_3b067 32 = .ok (.aload_n 0, 1) := by decide +kernel
theorem dJ2_getChar_3b067_33 : decode cJ2_getChar_3b067 33 = .ok (.iload_n 1, 1) := by decide +kernel
theorem dJ2_getChar_3b067_34 : decode cJ2_getChar_3b067 34 = .ok (.iinc 1 1, 3) := by decide +kernel
theorem dJ2_getChar_3b067_37 : decode cJ2_getChar_3b067 37 = .ok (.baload, 1) := by decide +kernel
theorem dJ2_getChar_3b067_38 : decode cJ2_getChar_3b067 38 = .ok (.sipush 255, 3) := by decide +kernel
theorem dJ2_getChar_3b067_41 : decode cJ2_getChar_3b067 41 = .ok (.iand, 1) := by decide +kernel
theorem dJ2_getChar_3b067_42 : decode cJ2_getChar_3b067 42 = .ok (.getstatic 59, 3) := by decide +kernel
theorem dJ2_getChar_3b067_45 : decode cJ2_getChar_3b067 45 = .ok (.ishl, 1) := by decide +kernel
theorem dJ2_getChar_3b067_46 : decode cJ2_getChar_3b067 46 = .ok (.aload_n 0, 1) := by decide +kernel
theorem dJ2_getChar_3b067_47 : decode cJ2_getChar_3b067 47 = .ok (.iload_n 1, 1) := by decide +kernel
theorem dJ2_getChar_3b067_48 : decode cJ2_getChar_3b067 48 = .ok (.baload, 1) := by decide +kernel
theorem dJ2_getChar_3b067_49 : decode cJ2_getChar_3b067 49 = .ok (.sipush 255, 3) := by decide +kernel
theorem dJ2_getChar_3b067_52 : decode cJ2_getChar_3b067 52 = .ok (.iand, 1) := by decide +kernel
theorem dJ2_getChar_3b067_53 : decode cJ2_getChar_3b067 53 = .ok (.getstatic 63, 3) := by decide +kernel
theorem dJ2_getChar_3b067_56 : decode cJ2_getChar_3b067 56 = .ok (.ishl, 1) := by decide +kernel
theorem dJ2_getChar_3b067_57 : decode cJ2_getChar_3b067 57 = .ok (.ior, 1) := by decide +kernel
theorem dJ2_getChar_3b067_58 : decode cJ2_getChar_3b067 58 = .ok (.i2c, 1) := by decide +kernel
theorem dJ2_getChar_3b067_59 : decode cJ2_getChar_3b067 59 = .ok (.ireturn, 1) := by decide +kernel
theorem dJ2_length_9d52b_0 : decode cJ2_length_9d52b 0 = .ok (.aload_n 0, 1) := by decide +kernel
theorem dJ2_length_9d52b_1 : decode cJ2_length_9d52b 1 = .ok (.arraylength, 1) := by decide +kernel
theorem dJ2_length_9d52b_2 : decode cJ2_length_9d52b 2 = .ok (.iconst 1, 1) := by decide +kernel
theorem dJ2_length_9d52b_3 : decode cJ2_length_9d52b 3 = .ok (.ishr, 1) := by decide +kernel
theorem dJ2_length_9d52b_4 : decode cJ2_length_9d52b 4 = .ok (.ireturn, 1) := by decide +kernel
theorem dJ2_charAt_3b067_0 : decode cJ2_charAt_3b067 0 = .ok (.iload_n 1, 1) := by decide +kernel
theorem dJ2_charAt_3b067_1 : decode cJ2_charAt_3b067 1 = .ok (.aload_n 0, 1) := by decide +kernel
theorem dJ2_charAt_3b067_2 : decode cJ2_charAt_3b067 2 = .ok (.invokestatic 67, 3) := by decide +kernel
theorem dJ2_charAt_3b067_5 : decode cJ2_charAt_3b067 5 = .ok (.aload_n 0, 1) := by decide +kernel
theorem dJ2_charAt_3b067_6 : decode cJ2_charAt_3b067 6 = .ok (.iload_n 1, 1) := by decide +kernel
theorem dJ2_charAt_3b067_7 : decode cJ2_charAt_3b067 7 = .ok (.invokestatic 71, 3) := by decide +kernel
theorem dJ2_charAt_3b067_10 : decode cJ2_charAt_3b067 10 = .ok (.ireturn, 1) := by decide +kernel
theorem dJ2_checkIndex_2214a_0 : decode cJ2_checkIndex_2214a 0 = .ok (.iload_n 0, 1) := by decide +kernel
theorem dJ2_checkIndex_2214a_1 : decode cJ2_checkIndex_2214a 1 = .ok (.aload_n 1, 1) := by decide +kernel
theorem dJ2_checkIndex_2214a_2 : decode cJ2_checkIndex_2214a 2 = .ok (.invokestatic 48, 3) := by decide +kernel
theorem dJ2_checkIndex_2214a_5 : decode cJ2_checkIndex_2214a 5 = .ok (.invokestatic 414, 3) := by decide +kernel
theorem dJ2_checkIndex_2214a_8 : decode cJ2_checkIndex_2214a 8 = .ok (.return_, 1) := by decide +kernel
theorem dJ7_fill_53178_0 : decode cJ7_fill_53178 0 = .ok (.iconst 0, 1) := by decide +kernel
theorem dJ7_fill_53178_1 : decode cJ7_fill_53178 1 = .ok (.istore_n 2, 1) := by decide +kernel
theorem dJ7_fill_53178_2 : decode cJ7_fill_53178 2 = .ok (.aload_n 0, 1) := by decide +kernel
theorem dJ7_fill_53178_3 : decode cJ7_fill_53178 3 = .ok (.arraylength, 1) := by decide +kernel
theorem dJ7_fill_53178_4 : decode cJ7_fill_53178 4 = .ok (.istore_n 3, 1) := by decide +kernel
theorem dJ7_fill_53178_5 : decode cJ7_fill_53178 5 = .ok (.iload_n 2, 1) := by decide +kernel
theorem dJ7_fill_53178_6 : decode cJ7_fill_53178 6 = .ok (.iload_n 3, 1) := by decide +kernel
theorem dJ7_fill_53178_7 : decode cJ7_fill_53178 7 = .ok (.if_icmp .ge 13, 3) := by decide +kernel
theorem dJ7_fill_53178_10 : decode cJ7_fill_53178 10 = .ok (.aload_n 0, 1) := by decide +kernel
theorem dJ7_fill_53178_11 : decode cJ7_fill_53178 11 = .ok (.iload_n 2, 1) := by decide +kernel
theorem dJ7_fill_53178_12 : decode cJ7_fill_53178 12 = .ok (.iload_n 1, 1) := by decide +kernel
theorem dJ7_fill_53178_13 : decode cJ7_fill_53178 13 = .ok (.iastore, 1) := by decide +kernel
theorem dJ7_fill_53178_14 : decode cJ7_fill_53178 14 = .ok (.iinc 2 1, 3) := by decide +kernel
theorem dJ7_fill_53178_17 : decode cJ7_fill_53178 17 = .ok (.goto (-12), 3) := by decide +kernel
theorem dJ7_fill_53178_20 : decode cJ7_fill_53178 20 = .ok (.return_, 1) := by decide +kernel
theorem dJ3_checkIndex_8e157_0 : decode cJ3_checkIndex_8e157 0 = .ok (.iload_n 0, 1) := by decide +kernel
theorem dJ3_checkIndex_8e157_1 : decode cJ3_checkIndex_8e157 1 = .ok (.ifCond .lt 8, 3) := by decide +kernel
theorem dJ3_checkIndex_8e157_4 : decode cJ3_checkIndex_8e157 4 = .ok (.iload_n 0, 1) := by decide +kernel
theorem dJ3_checkIndex_8e157_5 : decode cJ3_checkIndex_8e157 5 = .ok (.iload_n 1, 1) := by decide +kernel
theorem dJ3_checkIndex_8e157_6 : decode cJ3_checkIndex_8e157 6 = .ok (.if_icmp .lt 10, 3) := by decide +kernel
theorem dJ3_checkIndex_8e157_9 : decode cJ3_checkIndex_8e157 9 = .ok (.aload_n 2, 1) := by decide +kernel
theorem dJ3_checkIndex_8e157_10 : decode cJ3_checkIndex_8e157 10 = .ok (.iload_n 0, 1) := by decide +kernel
theorem dJ3_checkIndex_8e157_11 : decode cJ3_checkIndex_8e157 11 = .ok (.iload_n 1, 1) := by decide +kernel
theorem dJ3_checkIndex_8e157_12 : decode cJ3_checkIndex_8e157 12 = .ok (.invokestatic 95, 3) := by decide +kernel
theorem dJ3_checkIndex_8e157_15 : decode cJ3_checkIndex_8e157 15 = .ok (.athrow, 1) := by decide +kernel
theorem dJ3_checkIndex_8e157_16 : decode cJ3_checkIndex_8e157 16 = .ok (.iload_n 0, 1) := by decide +kernel
theorem dJ3_checkIndex_8e157_17 : decode cJ3_checkIndex_8e157 17 = .ok (.ireturn, 1) := by decide +kernel
theorem dL_unused_0 : decode cL_unused 0 = .ok (.aload_n 2, 1) := by decide +kernel
theorem dL_unused_1 : decode cL_unused 1 = .ok (.iconst 0, 1) := by decide +kernel
theorem dL_unused_2 : decode cL_unused 2 = .ok (.aload_n 0, 1) := by decide +kernel
theorem dL_unused_3 : decode cL_unused 3 = .ok (.iload_n 1, 1) := by decide +kernel
theorem dL_unused_4 : decode cL_unused 4 = .ok (.invokevirtual 7, 3) := by decide +kernel
theorem dL_unused_7 : decode cL_unused 7 = .ok (.i2l, 1) := by decide +kernel
theorem dL_unused_8 : decode cL_unused 8 = .ok (.lastore, 1) := by decide +kernel
theorem dL_unused_9 : decode cL_unused 9 = .ok (.goto 6, 3) := by decide +kernel
theorem dL_unused_12 : decode cL_unused 12 = .ok (.astore_n 3, 1) := by decide +kernel
theorem dL_unused_13 : decode cL_unused 13 = .ok (.iconst 1, 1) := by decide +kernel
theorem dL_unused_14 : decode cL_unused 14 = .ok (.ireturn, 1) := by decide +kernel
theorem dL_unused_15 : decode cL_unused 15 = .ok (.iconst 0, 1) := by decide +kernel
theorem dL_unused_16 : decode cL_unused 16 = .ok (.ireturn, 1) := by decide +kernel
theorem dL_law_0 : decode cL_law 0 = .ok (.new 8, 3) := by decide +kernel
theorem dL_law_3 : decode cL_law 3 = .ok (.dup, 1) := by decide +kernel
theorem dL_law_4 : decode cL_law 4 = .ok (.invokespecial 15, 3) := by decide +kernel
theorem dL_law_7 : decode cL_law 7 = .ok (.astore_n 1, 1) := by decide +kernel
theorem dL_law_8 : decode cL_law 8 = .ok (.new 16, 3) := by decide +kernel
theorem dL_law_11 : decode cL_law 11 = .ok (.dup, 1) := by decide +kernel
theorem dL_law_12 : decode cL_law 12 = .ok (.invokespecial 18, 3) := by decide +kernel
theorem dL_law_15 : decode cL_law 15 = .ok (.astore_n 2, 1) := by decide +kernel
theorem dL_law_16 : decode cL_law 16 = .ok (.iconst 1, 1) := by decide +kernel
theorem dL_law_17 : decode cL_law 17 = .ok (.newarray .long, 2) := by decide +kernel
theorem dL_law_19 : decode cL_law 19 = .ok (.astore_n 3, 1) := by decide +kernel
theorem dL_law_20 : decode cL_law 20 = .ok (.iconst 0, 1) := by decide +kernel
theorem dL_law_21 : decode cL_law 21 = .ok (.istore 4, 2) := by decide +kernel
theorem dL_law_23 : decode cL_law 23 = .ok (.iload 4, 2) := by decide +kernel
theorem dL_law_25 : decode cL_law 25 = .ok (.aload_n 0, 1) := by decide +kernel
theorem dL_law_26 : decode cL_law 26 = .ok (.arraylength, 1) := by decide +kernel
theorem dL_law_27 : decode cL_law 27 = .ok (.bipush 6, 2) := by decide +kernel
theorem dL_law_29 : decode cL_law 29 = .ok (.isub, 1) := by decide +kernel
theorem dL_law_30 : decode cL_law 30 = .ok (.if_icmp .gt 1729, 3) := by decide +kernel
theorem dL_law_33 : decode cL_law 33 = .ok (.aload_n 0, 1) := by decide +kernel
theorem dL_law_34 : decode cL_law 34 = .ok (.iload 4, 2) := by decide +kernel
theorem dL_law_36 : decode cL_law 36 = .ok (.iaload, 1) := by decide +kernel
theorem dL_law_37 : decode cL_law 37 = .ok (.bipush 63, 2) := by decide +kernel
theorem dL_law_39 : decode cL_law 39 = .ok (.iand, 1) := by decide +kernel
theorem dL_law_40 : decode cL_law 40 = .ok (.tableswitch 1713 0 45 #[200, 273, 298, 311, 324, 349, 406, 443, 480, 529, 554, 591, 628, 641, 678, 703, 716, 753, 790, 839, 864, 901, 938, 975, 1024, 1073, 1110, 1159, 1184, 1221, 1246, 1295, 1308, 1321, 1358, 1383, 1420, 1445, 1470, 1495, 1532, 1569, 1606, 1619, 1675, 1700], 200) := by decide +kernel
theorem dL_law_240 : decode cL_law 240 = .ok (.aload_n 1, 1) := by decide +kernel
theorem dL_law_241 : decode cL_law 241 = .ok (.aload_n 0, 1) := by decide +kernel
theorem dL_law_242 : decode cL_law 242 = .ok (.iload 4, 2) := by decide +kernel
theorem dL_law_244 : decode cL_law 244 = .ok (.iconst 1, 1) := by decide +kernel
theorem dL_law_245 : decode cL_law 245 = .ok (.iadd, 1) := by decide +kernel
theorem dL_law_246 : decode cL_law 246 = .ok (.iaload, 1) := by decide +kernel
theorem dL_law_247 : decode cL_law 247 = .ok (.aload_n 0, 1) := by decide +kernel
theorem dL_law_248 : decode cL_law 248 = .ok (.iload 4, 2) := by decide +kernel
theorem dL_law_250 : decode cL_law 250 = .ok (.iconst 2, 1) := by decide +kernel
theorem dL_law_251 : decode cL_law 251 = .ok (.iadd, 1) := by decide +kernel
theorem dL_law_252 : decode cL_law 252 = .ok (.iaload, 1) := by decide +kernel
theorem dL_law_253 : decode cL_law 253 = .ok (.aload_n 0, 1) := by decide +kernel
theorem dL_law_254 : decode cL_law 254 = .ok (.iload 4, 2) := by decide +kernel
theorem dL_law_256 : decode cL_law 256 = .ok (.iconst 3, 1) := by decide +kernel
theorem dL_law_257 : decode cL_law 257 = .ok (.iadd, 1) := by decide +kernel
theorem dL_law_258 : decode cL_law 258 = .ok (.iaload, 1) := by decide +kernel
theorem dL_law_259 : decode cL_law 259 = .ok (.aload_n 0, 1) := by decide +kernel
theorem dL_law_260 : decode cL_law 260 = .ok (.iload 4, 2) := by decide +kernel
theorem dL_law_262 : decode cL_law 262 = .ok (.iconst 4, 1) := by decide +kernel
theorem dL_law_263 : decode cL_law 263 = .ok (.iadd, 1) := by decide +kernel
theorem dL_law_264 : decode cL_law 264 = .ok (.iaload, 1) := by decide +kernel
theorem dL_law_265 : decode cL_law 265 = .ok (.aload_n 0, 1) := by decide +kernel
theorem dL_law_266 : decode cL_law 266 = .ok (.iload 4, 2) := by decide +kernel
theorem dL_law_268 : decode cL_law 268 = .ok (.iconst 5, 1) := by decide +kernel
theorem dL_law_269 : decode cL_law 269 = .ok (.iadd, 1) := by decide +kernel
theorem dL_law_270 : decode cL_law 270 = .ok (.iaload, 1) := by decide +kernel
theorem dL_law_271 : decode cL_law 271 = .ok (.invokevirtual 19, 3) := by decide +kernel
theorem dL_law_274 : decode cL_law 274 = .ok (.aload_n 2, 1) := by decide +kernel
theorem dL_law_275 : decode cL_law 275 = .ok (.aload_n 0, 1) := by decide +kernel
theorem dL_law_276 : decode cL_law 276 = .ok (.iload 4, 2) := by decide +kernel
theorem dL_law_278 : decode cL_law 278 = .ok (.iconst 1, 1) := by decide +kernel
theorem dL_law_279 : decode cL_law 279 = .ok (.iadd, 1) := by decide +kernel
theorem dL_law_280 : decode cL_law 280 = .ok (.iaload, 1) := by decide +kernel
theorem dL_law_281 : decode cL_law 281 = .ok (.aload_n 0, 1) := by decide +kernel
theorem dL_law_282 : decode cL_law 282 = .ok (.iload 4, 2) := by decide +kernel
theorem dL_law_284 : decode cL_law 284 = .ok (.iconst 2, 1) := by decide +kernel
theorem dL_law_285 : decode cL_law 285 = .ok (.iadd, 1) := by decide +kernel
theorem dL_law_286 : decode cL_law 286 = .ok (.iaload, 1) := by decide +kernel
theorem dL_law_287 : decode cL_law 287 = .ok (.aload_n 0, 1) := by decide +kernel
theorem dL_law_288 : decode cL_law 288 = .ok (.iload 4, 2) := by decide +kernel
theorem dL_law_290 : decode cL_law 290 = .ok (.iconst 3, 1) := by decide +kernel
theorem dL_law_291 : decode cL_law 291 = .ok (.iadd, 1) := by decide +kernel
theorem dL_law_292 : decode cL_law 292 = .ok (.iaload, 1) := by decide +kernel
theorem dL_law_293 : decode cL_law 293 = .ok (.aload_n 0, 1) := by decide +kernel
theorem dL_law_294 : decode cL_law 294 = .ok (.iload 4, 2) := by decide +kernel
theorem dL_law_296 : decode cL_law 296 = .ok (.iconst 4, 1) := by decide +kernel
theorem dL_law_297 : decode cL_law 297 = .ok (.iadd, 1) := by decide +kernel
theorem dL_law_298 : decode cL_law 298 = .ok (.iaload, 1) := by decide +kernel
theorem dL_law_299 : decode cL_law 299 = .ok (.aload_n 0, 1) := by decide +kernel
theorem dL_law_300 : decode cL_law 300 = .ok (.iload 4, 2) := by decide +kernel
theorem dL_law_302 : decode cL_law 302 = .ok (.iconst 5, 1) := by decide +kernel
theorem dL_law_303 : decode cL_law 303 = .ok (.iadd, 1) := by decide +kernel
theorem dL_law_304 : decode cL_law 304 = .ok (.iaload, 1) := by decide +kernel
theorem dL_law_305 : decode cL_law 305 = .ok (.invokevirtual 23, 3) := by decide +kernel
theorem dL_law_308 : decode cL_law 308 = .ok (.if_icmp .eq 1445, 3) := by decide +kernel
theorem dL_law_311 : decode cL_law 311 = .ok (.iconst 0, 1) := by decide +kernel
theorem dL_law_312 : decode cL_law 312 = .ok (.ireturn, 1) := by decide +kernel
theorem dL_law_313 : decode cL_law 313 = .ok (.aload_n 1, 1) := by decide +kernel
theorem dL_law_314 : decode cL_law 314 = .ok (.aload_n 0, 1) := by decide +kernel
theorem dL_law_315 : decode cL_law 315 = .ok (.iload 4, 2) := by decide +kernel
theorem dL_law_317 : decode cL_law 317 = .ok (.iconst 1, 1) := by decide +kernel
theorem dL_law_318 : decode cL_law 318 = .ok (.iadd, 1) := by decide +kernel
theorem dL_law_319 : decode cL_law 319 = .ok (.iaload, 1) := by decide +kernel
theorem dL_law_320 : decode cL_law 320 = .ok (.invokevirtual 24, 3) := by decide +kernel
theorem dL_law_323 : decode cL_law 323 = .ok (.aload_n 2, 1) := by decide +kernel
theorem dL_law_324 : decode cL_law 324 = .ok (.aload_n 0, 1) := by decide +kernel
theorem dL_law_325 : decode cL_law 325 = .ok (.iload 4, 2) := by decide +kernel
theorem dL_law_327 : decode cL_law 327 = .ok (.iconst 1, 1) := by decide +kernel
theorem dL_law_328 : decode cL_law 328 = .ok (.iadd, 1) := by decide +kernel
theorem dL_law_329 : decode cL_law 329 = .ok (.iaload, 1) := by decide +kernel
theorem dL_law_330 : decode cL_law 330 = .ok (.invokevirtual 27, 3) := by decide +kernel
theorem dL_law_333 : decode cL_law 333 = .ok (.if_icmp .eq 1420, 3) := by decide +kernel
theorem dL_law_336 : decode cL_law 336 = .ok (.iconst 0, 1) := by decide +kernel
theorem dL_law_337 : decode cL_law 337 = .ok (.ireturn, 1) := by decide +kernel
theorem dL_law_338 : decode cL_law 338 = .ok (.aload_n 1, 1) := by decide +kernel
theorem dL_law_339 : decode cL_law 339 = .ok (.invokevirtual 28, 3) := by decide +kernel
theorem dL_law_342 : decode cL_law 342 = .ok (.aload_n 2, 1) := by decide +kernel
theorem dL_law_343 : decode cL_law 343 = .ok (.invokevirtual 32, 3) := by decide +kernel
theorem dL_law_346 : decode cL_law 346 = .ok (.if_icmp .eq 1407, 3) := by decide +kernel
theorem dL_law_349 : decode cL_law 349 = .ok (.iconst 0, 1) := by decide +kernel
theorem dL_law_350 : decode cL_law 350 = .ok (.ireturn, 1) := by decide +kernel
theorem dL_law_351 : decode cL_law 351 = .ok (.aload_n 1, 1) := by decide +kernel
theorem dL_law_352 : decode cL_law 352 = .ok (.invokevirtual 33, 3) := by decide +kernel
theorem dL_law_355 : decode cL_law 355 = .ok (.aload_n 2, 1) := by decide +kernel
theorem dL_law_356 : decode cL_law 356 = .ok (.invokevirtual 36, 3) := by decide +kernel
theorem dL_law_359 : decode cL_law 359 = .ok (.if_icmp .eq 1394, 3) := by decide +kernel
theorem dL_law_362 : decode cL_law 362 = .ok (.iconst 0, 1) := by decide +kernel
theorem dL_law_363 : decode cL_law 363 = .ok (.ireturn, 1) := by decide +kernel
theorem dL_law_364 : decode cL_law 364 = .ok (.aload_n 1, 1) := by decide +kernel
theorem dL_law_365 : decode cL_law 365 = .ok (.aload_n 0, 1) := by decide +kernel
theorem dL_law_366 : decode cL_law 366 = .ok (.iload 4, 2) := by decide +kernel
theorem dL_law_368 : decode cL_law 368 = .ok (.iconst 1, 1) := by decide +kernel
theorem dL_law_369 : decode cL_law 369 = .ok (.iadd, 1) := by decide +kernel
theorem dL_law_370 : decode cL_law 370 = .ok (.iaload, 1) := by decide +kernel
theorem dL_law_371 : decode cL_law 371 = .ok (.invokevirtual 37, 3) := by decide +kernel
theorem dL_law_374 : decode cL_law 374 = .ok (.aload_n 2, 1) := by decide +kernel
theorem dL_law_375 : decode cL_law 375 = .ok (.aload_n 0, 1) := by decide +kernel
theorem dL_law_376 : decode cL_law 376 = .ok (.iload 4, 2) := by decide +kernel
theorem dL_law_378 : decode cL_law 378 = .ok (.iconst 1, 1) := by decide +kernel
theorem dL_law_379 : decode cL_law 379 = .ok (.iadd, 1) := by decide +kernel
theorem dL_law_380 : decode cL_law 380 = .ok (.iaload, 1) := by decide +kernel
theorem dL_law_381 : decode cL_law 381 = .ok (.invokevirtual 40, 3) := by decide +kernel
theorem dL_law_384 : decode cL_law 384 = .ok (.if_icmp .eq 1369, 3) := by decide +kernel
theorem dL_law_387 : decode cL_law 387 = .ok (.iconst 0, 1) := by decide +kernel
theorem dL_law_388 : decode cL_law 388 = .ok (.ireturn, 1) := by decide +kernel
theorem dL_law_389 : decode cL_law 389 = .ok (.aload_n 1, 1) := by decide +kernel
theorem dL_law_390 : decode cL_law 390 = .ok (.aload_n 0, 1) := by decide +kernel
theorem dL_law_391 : decode cL_law 391 = .ok (.iload 4, 2) := by decide +kernel
theorem dL_law_393 : decode cL_law 393 = .ok (.iconst 1, 1) := by decide +kernel
theorem dL_law_394 : decode cL_law 394 = .ok (.iadd, 1) := by decide +kernel
theorem dL_law_395 : decode cL_law 395 = .ok (.iaload, 1) := by decide +kernel
theorem dL_law_396 : decode cL_law 396 = .ok (.i2l, 1) := by decide +kernel
theorem dL_law_397 : decode cL_law 397 = .ok (.bipush 32, 2) := by decide +kernel
theorem dL_law_399 : decode cL_law 399 = .ok (.lshl, 1) := by decide +kernel
theorem dL_law_400 : decode cL_law 400 = .ok (.aload_n 0, 1) := by decide +kernel
theorem dL_law_401 : decode cL_law 401 = .ok (.iload 4, 2) := by decide +kernel
theorem dL_law_403 : decode cL_law 403 = .ok (.iconst 2, 1) := by decide +kernel
theorem dL_law_404 : decode cL_law 404 = .ok (.iadd, 1) := by decide +kernel
theorem dL_law_405 : decode cL_law 405 = .ok (.iaload, 1) := by decide +kernel
theorem dL_law_406 : decode cL_law 406 = .ok (.i2l, 1) := by decide +kernel
theorem dL_law_407 : decode cL_law 407 = .ok (.ldc2_w 41, 3) := by decide +kernel
theorem dL_law_410 : decode cL_law 410 = .ok (.land, 1) := by decide +kernel
theorem dL_law_411 : decode cL_law 411 = .ok (.lor, 1) := by decide +kernel
theorem dL_law_412 : decode cL_law 412 = .ok (.invokevirtual 43, 3) := by decide +kernel
theorem dL_law_415 : decode cL_law 415 = .ok (.aload_n 2, 1) := by decide +kernel
theorem dL_law_416 : decode cL_law 416 = .ok (.aload_n 0, 1) := by decide +kernel
theorem dL_law_417 : decode cL_law 417 = .ok (.iload 4, 2) := by decide +kernel
theorem dL_law_419 : decode cL_law 419 = .ok (.iconst 1, 1) := by decide +kernel
theorem dL_law_420 : decode cL_law 420 = .ok (.iadd, 1) := by decide +kernel
theorem dL_law_421 : decode cL_law 421 = .ok (.iaload, 1) := by decide +kernel
theorem dL_law_422 : decode cL_law 422 = .ok (.i2l, 1) := by decide +kernel
theorem dL_law_423 : decode cL_law 423 = .ok (.bipush 32, 2) := by decide +kernel
theorem dL_law_425 : decode cL_law 425 = .ok (.lshl, 1) := by decide +kernel
theorem dL_law_426 : decode cL_law 426 = .ok (.aload_n 0, 1) := by decide +kernel
theorem dL_law_427 : decode cL_law 427 = .ok (.iload 4, 2) := by decide +kernel
theorem dL_law_429 : decode cL_law 429 = .ok (.iconst 2, 1) := by decide +kernel
theorem dL_law_430 : decode cL_law 430 = .ok (.iadd, 1) := by decide +kernel
theorem dL_law_431 : decode cL_law 431 = .ok (.iaload, 1) := by decide +kernel
theorem dL_law_432 : decode cL_law 432 = .ok (.i2l, 1) := by decide +kernel
theorem dL_law_433 : decode cL_law 433 = .ok (.ldc2_w 41, 3) := by decide +kernel
theorem dL_law_436 : decode cL_law 436 = .ok (.land, 1) := by decide +kernel
theorem dL_law_437 : decode cL_law 437 = .ok (.lor, 1) := by decide +kernel
theorem dL_law_438 : decode cL_law 438 = .ok (.invokevirtual 47, 3) := by decide +kernel
theorem dL_law_441 : decode cL_law 441 = .ok (.if_icmp .eq 1312, 3) := by decide +kernel
theorem dL_law_444 : decode cL_law 444 = .ok (.iconst 0, 1) := by decide +kernel
theorem dL_law_445 : decode cL_law 445 = .ok (.ireturn, 1) := by decide +kernel
theorem dL_law_446 : decode cL_law 446 = .ok (.aload_n 1, 1) := by decide +kernel
theorem dL_law_447 : decode cL_law 447 = .ok (.aload_n 0, 1) := by decide +kernel
theorem dL_law_448 : decode cL_law 448 = .ok (.iload 4, 2) := by decide +kernel
theorem dL_law_450 : decode cL_law 450 = .ok (.iconst 1, 1) := by decide +kernel
theorem dL_law_451 : decode cL_law 451 = .ok (.iadd, 1) := by decide +kernel
theorem dL_law_452 : decode cL_law 452 = .ok (.iaload, 1) := by decide +kernel
theorem dL_law_453 : decode cL_law 453 = .ok (.aload_n 0, 1) := by decide +kernel
theorem dL_law_454 : decode cL_law 454 = .ok (.iload 4, 2) := by decide +kernel
theorem dL_law_456 : decode cL_law 456 = .ok (.iconst 2, 1) := by decide +kernel
theorem dL_law_457 : decode cL_law 457 = .ok (.iadd, 1) := by decide +kernel
theorem dL_law_458 : decode cL_law 458 = .ok (.iaload, 1) := by decide +kernel
theorem dL_law_459 : decode cL_law 459 = .ok (.invokevirtual 48, 3) := by decide +kernel
theorem dL_law_462 : decode cL_law 462 = .ok (.aload_n 2, 1) := by decide +kernel
theorem dL_law_463 : decode cL_law 463 = .ok (.aload_n 0, 1) := by decide +kernel
theorem dL_law_464 : decode cL_law 464 = .ok (.iload 4, 2) := by decide +kernel
theorem dL_law_466 : decode cL_law 466 = .ok (.iconst 1, 1) := by decide +kernel
theorem dL_law_467 : decode cL_law 467 = .ok (.iadd, 1) := by decide +kernel
theorem dL_law_468 : decode cL_law 468 = .ok (.iaload, 1) := by decide +kernel
theorem dL_law_469 : decode cL_law 469 = .ok (.aload_n 0, 1) := by decide +kernel
theorem dL_law_470 : decode cL_law 470 = .ok (.iload 4, 2) := by decide +kernel
theorem dL_law_472 : decode cL_law 472 = .ok (.iconst 2, 1) := by decide +kernel
theorem dL_law_473 : decode cL_law 473 = .ok (.iadd, 1) := by decide +kernel
theorem dL_law_474 : decode cL_law 474 = .ok (.iaload, 1) := by decide +kernel
theorem dL_law_475 : decode cL_law 475 = .ok (.invokevirtual 52, 3) := by decide +kernel
theorem dL_law_478 : decode cL_law 478 = .ok (.if_icmp .eq 1275, 3) := by decide +kernel
theorem dL_law_481 : decode cL_law 481 = .ok (.iconst 0, 1) := by decide +kernel
theorem dL_law_482 : decode cL_law 482 = .ok (.ireturn, 1) := by decide +kernel
theorem dL_law_483 : decode cL_law 483 = .ok (.aload_n 1, 1) := by decide +kernel
theorem dL_law_484 : decode cL_law 484 = .ok (.aload_n 0, 1) := by decide +kernel
theorem dL_law_485 : decode cL_law 485 = .ok (.iload 4, 2) := by decide +kernel
theorem dL_law_487 : decode cL_law 487 = .ok (.iconst 1, 1) := by decide +kernel
theorem dL_law_488 : decode cL_law 488 = .ok (.iadd, 1) := by decide +kernel
theorem dL_law_489 : decode cL_law 489 = .ok (.iaload, 1) := by decide +kernel
theorem dL_law_490 : decode cL_law 490 = .ok (.aload_n 0, 1) := by decide +kernel
theorem dL_law_491 : decode cL_law 491 = .ok (.iload 4, 2) := by decide +kernel
theorem dL_law_493 : decode cL_law 493 = .ok (.iconst 2, 1) := by decide +kernel
theorem dL_law_494 : decode cL_law 494 = .ok (.iadd, 1) := by decide +kernel
theorem dL_law_495 : decode cL_law 495 = .ok (.iaload, 1) := by decide +kernel
theorem dL_law_496 : decode cL_law 496 = .ok (.invokevirtual 53, 3) := by decide +kernel
theorem dL_law_499 : decode cL_law 499 = .ok (.aload_n 2, 1) := by decide +kernel
theorem dL_law_500 : decode cL_law 500 = .ok (.aload_n 0, 1) := by decide +kernel
theorem dL_law_501 : decode cL_law 501 = .ok (.iload 4, 2) := by decide +kernel
theorem dL_law_503 : decode cL_law 503 = .ok (.iconst 1, 1) := by decide +kernel
theorem dL_law_504 : decode cL_law 504 = .ok (.iadd, 1) := by decide +kernel
theorem dL_law_505 : decode cL_law 505 = .ok (.iaload, 1) := by decide +kernel
theorem dL_law_506 : decode cL_law 506 = .ok (.aload_n 0, 1) := by decide +kernel
theorem dL_law_507 : decode cL_law 507 = .ok (.iload 4, 2) := by decide +kernel
theorem dL_law_509 : decode cL_law 509 = .ok (.iconst 2, 1) := by decide +kernel
theorem dL_law_510 : decode cL_law 510 = .ok (.iadd, 1) := by decide +kernel
theorem dL_law_511 : decode cL_law 511 = .ok (.iaload, 1) := by decide +kernel
theorem dL_law_512 : decode cL_law 512 = .ok (.invokevirtual 56, 3) := by decide +kernel
theorem dL_law_515 : decode cL_law 515 = .ok (.if_icmp .eq 1238, 3) := by decide +kernel
theorem dL_law_518 : decode cL_law 518 = .ok (.iconst 0, 1) := by decide +kernel
theorem dL_law_519 : decode cL_law 519 = .ok (.ireturn, 1) := by decide +kernel
theorem dL_law_520 : decode cL_law 520 = .ok (.aload_n 1, 1) := by decide +kernel
theorem dL_law_521 : decode cL_law 521 = .ok (.aload_n 0, 1) := by decide +kernel
theorem dL_law_522 : decode cL_law 522 = .ok (.iload 4, 2) := by decide +kernel
theorem dL_law_524 : decode cL_law 524 = .ok (.iconst 1, 1) := by decide +kernel
theorem dL_law_525 : decode cL_law 525 = .ok (.iadd, 1) := by decide +kernel
theorem dL_law_526 : decode cL_law 526 = .ok (.iaload, 1) := by decide +kernel
theorem dL_law_527 : decode cL_law 527 = .ok (.aload_n 0, 1) := by decide +kernel
theorem dL_law_528 : decode cL_law 528 = .ok (.iload 4, 2) := by decide +kernel
theorem dL_law_530 : decode cL_law 530 = .ok (.iconst 2, 1) := by decide +kernel
theorem dL_law_531 : decode cL_law 531 = .ok (.iadd, 1) := by decide +kernel
theorem dL_law_532 : decode cL_law 532 = .ok (.iaload, 1) := by decide +kernel
theorem dL_law_533 : decode cL_law 533 = .ok (.aload_n 0, 1) := by decide +kernel
theorem dL_law_534 : decode cL_law 534 = .ok (.iload 4, 2) := by decide +kernel
theorem dL_law_536 : decode cL_law 536 = .ok (.iconst 3, 1) := by decide +kernel
theorem dL_law_537 : decode cL_law 537 = .ok (.iadd, 1) := by decide +kernel
theorem dL_law_538 : decode cL_law 538 = .ok (.iaload, 1) := by decide +kernel
theorem dL_law_539 : decode cL_law 539 = .ok (.invokevirtual 57, 3) := by decide +kernel
theorem dL_law_542 : decode cL_law 542 = .ok (.aload_n 2, 1) := by decide +kernel
theorem dL_law_543 : decode cL_law 543 = .ok (.aload_n 0, 1) := by decide +kernel
theorem dL_law_544 : decode cL_law 544 = .ok (.iload 4, 2) := by decide +kernel
theorem dL_law_546 : decode cL_law 546 = .ok (.iconst 1, 1) := by decide +kernel
theorem dL_law_547 : decode cL_law 547 = .ok (.iadd, 1) := by decide +kernel
theorem dL_law_548 : decode cL_law 548 = .ok (.iaload, 1) := by decide +kernel
theorem dL_law_549 : decode cL_law 549 = .ok (.aload_n 0, 1) := by decide +kernel
theorem dL_law_550 : decode cL_law 550 = .ok (.iload 4, 2) := by decide +kernel
theorem dL_law_552 : decode cL_law 552 = .ok (.iconst 2, 1) := by decide +kernel
theorem dL_law_553 : decode cL_law 553 = .ok (.iadd, 1) := by decide +kernel
theorem dL_law_554 : decode cL_law 554 = .ok (.iaload, 1) := by decide +kernel
theorem dL_law_555 : decode cL_law 555 = .ok (.aload_n 0, 1) := by decide +kernel
theorem dL_law_556 : decode cL_law 556 = .ok (.iload 4, 2) := by decide +kernel
theorem dL_law_558 : decode cL_law 558 = .ok (.iconst 3, 1) := by decide +kernel
theorem dL_law_559 : decode cL_law 559 = .ok (.iadd, 1) := by decide +kernel
theorem dL_law_560 : decode cL_law 560 = .ok (.iaload, 1) := by decide +kernel
theorem dL_law_561 : decode cL_law 561 = .ok (.invokevirtual 61, 3) := by decide +kernel
theorem dL_law_564 : decode cL_law 564 = .ok (.if_icmp .eq 1189, 3) := by decide +kernel
theorem dL_law_567 : decode cL_law 567 = .ok (.iconst 0, 1) := by decide +kernel
theorem dL_law_568 : decode cL_law 568 = .ok (.ireturn, 1) := by decide +kernel
theorem dL_law_569 : decode cL_law 569 = .ok (.aload_n 1, 1) := by decide +kernel
theorem dL_law_570 : decode cL_law 570 = .ok (.aload_n 0, 1) := by decide +kernel
theorem dL_law_571 : decode cL_law 571 = .ok (.iload 4, 2) := by decide +kernel
theorem dL_law_573 : decode cL_law 573 = .ok (.iconst 1, 1) := by decide +kernel
theorem dL_law_574 : decode cL_law 574 = .ok (.iadd, 1) := by decide +kernel
theorem dL_law_575 : decode cL_law 575 = .ok (.iaload, 1) := by decide +kernel
theorem dL_law_576 : decode cL_law 576 = .ok (.invokevirtual 62, 3) := by decide +kernel
theorem dL_law_579 : decode cL_law 579 = .ok (.aload_n 2, 1) := by decide +kernel
theorem dL_law_580 : decode cL_law 580 = .ok (.aload_n 0, 1) := by decide +kernel
theorem dL_law_581 : decode cL_law 581 = .ok (.iload 4, 2) := by decide +kernel
theorem dL_law_583 : decode cL_law 583 = .ok (.iconst 1, 1) := by decide +kernel
theorem dL_law_584 : decode cL_law 584 = .ok (.iadd, 1) := by decide +kernel
theorem dL_law_585 : decode cL_law 585 = .ok (.iaload, 1) := by decide +kernel
theorem dL_law_586 : decode cL_law 586 = .ok (.invokevirtual 65, 3) := by decide +kernel
theorem dL_law_589 : decode cL_law 589 = .ok (.if_icmp .eq 1164, 3) := by decide +kernel
theorem dL_law_592 : decode cL_law 592 = .ok (.iconst 0, 1) := by decide +kernel
theorem dL_law_593 : decode cL_law 593 = .ok (.ireturn, 1) := by decide +kernel
theorem dL_law_594 : decode cL_law 594 = .ok (.aload_n 1, 1) := by decide +kernel
theorem dL_law_595 : decode cL_law 595 = .ok (.aload_n 0, 1) := by decide +kernel
theorem dL_law_596 : decode cL_law 596 = .ok (.iload 4, 2) := by decide +kernel
theorem dL_law_598 : decode cL_law 598 = .ok (.iconst 1, 1) := by decide +kernel
theorem dL_law_599 : decode cL_law 599 = .ok (.iadd, 1) := by decide +kernel
theorem dL_law_600 : decode cL_law 600 = .ok (.iaload, 1) := by decide +kernel
theorem dL_law_601 : decode cL_law 601 = .ok (.aload_n 0, 1) := by decide +kernel
theorem dL_law_602 : decode cL_law 602 = .ok (.iload 4, 2) := by decide +kernel
theorem dL_law_604 : decode cL_law 604 = .ok (.iconst 2, 1) := by decide +kernel
theorem dL_law_605 : decode cL_law 605 = .ok (.iadd, 1) := by decide +kernel
theorem dL_law_606 : decode cL_law 606 = .ok (.iaload, 1) := by decide +kernel
theorem dL_law_607 : decode cL_law 607 = .ok (.invokevirtual 66, 3) := by decide +kernel
theorem dL_law_610 : decode cL_law 610 = .ok (.aload_n 2, 1) := by decide +kernel
theorem dL_law_611 : decode cL_law 611 = .ok (.aload_n 0, 1) := by decide +kernel
theorem dL_law_612 : decode cL_law 612 = .ok (.iload 4, 2) := by decide +kernel
theorem dL_law_614 : decode cL_law 614 = .ok (.iconst 1, 1) := by decide +kernel
theorem dL_law_615 : decode cL_law 615 = .ok (.iadd, 1) := by decide +kernel
theorem dL_law_616 : decode cL_law 616 = .ok (.iaload, 1) := by decide +kernel
theorem dL_law_617 : decode cL_law 617 = .ok (.aload_n 0, 1) := by decide +kernel
theorem dL_law_618 : decode cL_law 618 = .ok (.iload 4, 2) := by decide +kernel
theorem dL_law_620 : decode cL_law 620 = .ok (.iconst 2, 1) := by decide +kernel
theorem dL_law_621 : decode cL_law 621 = .ok (.iadd, 1) := by decide +kernel
theorem dL_law_622 : decode cL_law 622 = .ok (.iaload, 1) := by decide +kernel
theorem dL_law_623 : decode cL_law 623 = .ok (.invokevirtual 69, 3) := by decide +kernel
theorem dL_law_626 : decode cL_law 626 = .ok (.if_icmp .eq 1127, 3) := by decide +kernel
theorem dL_law_629 : decode cL_law 629 = .ok (.iconst 0, 1) := by decide +kernel
theorem dL_law_630 : decode cL_law 630 = .ok (.ireturn, 1) := by decide +kernel
theorem dL_law_631 : decode cL_law 631 = .ok (.aload_n 1, 1) := by decide +kernel
theorem dL_law_632 : decode cL_law 632 = .ok (.aload_n 0, 1) := by decide +kernel
theorem dL_law_633 : decode cL_law 633 = .ok (.iload 4, 2) := by decide +kernel
theorem dL_law_635 : decode cL_law 635 = .ok (.iconst 1, 1) := by decide +kernel
theorem dL_law_636 : decode cL_law 636 = .ok (.iadd, 1) := by decide +kernel
theorem dL_law_637 : decode cL_law 637 = .ok (.iaload, 1) := by decide +kernel
theorem dL_law_638 : decode cL_law 638 = .ok (.aload_n 0, 1) := by decide +kernel
theorem dL_law_639 : decode cL_law 639 = .ok (.iload 4, 2) := by decide +kernel
theorem dL_law_641 : decode cL_law 641 = .ok (.iconst 2, 1) := by decide +kernel
theorem dL_law_642 : decode cL_law 642 = .ok (.iadd, 1) := by decide +kernel
theorem dL_law_643 : decode cL_law 643 = .ok (.iaload, 1) := by decide +kernel
theorem dL_law_644 : decode cL_law 644 = .ok (.invokevirtual 70, 3) := by decide +kernel
theorem dL_law_647 : decode cL_law 647 = .ok (.aload_n 2, 1) := by decide +kernel
theorem dL_law_648 : decode cL_law 648 = .ok (.aload_n 0, 1) := by decide +kernel
theorem dL_law_649 : decode cL_law 649 = .ok (.iload 4, 2) := by decide +kernel
theorem dL_law_651 : decode cL_law 651 = .ok (.iconst 1, 1) := by decide +kernel
theorem dL_law_652 : decode cL_law 652 = .ok (.iadd, 1) := by decide +kernel
theorem dL_law_653 : decode cL_law 653 = .ok (.iaload, 1) := by decide +kernel
theorem dL_law_654 : decode cL_law 654 = .ok (.aload_n 0, 1) := by decide +kernel
theorem dL_law_655 : decode cL_law 655 = .ok (.iload 4, 2) := by decide +kernel
theorem dL_law_657 : decode cL_law 657 = .ok (.iconst 2, 1) := by decide +kernel
theorem dL_law_658 : decode cL_law 658 = .ok (.iadd, 1) := by decide +kernel
theorem dL_law_659 : decode cL_law 659 = .ok (.iaload, 1) := by decide +kernel
theorem dL_law_660 : decode cL_law 660 = .ok (.invokevirtual 73, 3) := by decide +kernel
theorem dL_law_663 : decode cL_law 663 = .ok (.if_icmp .eq 1090, 3) := by decide +kernel
theorem dL_law_666 : decode cL_law 666 = .ok (.iconst 0, 1) := by decide +kernel
theorem dL_law_667 : decode cL_law 667 = .ok (.ireturn, 1) := by decide +kernel
theorem dL_law_668 : decode cL_law 668 = .ok (.aload_n 1, 1) := by decide +kernel
theorem dL_law_669 : decode cL_law 669 = .ok (.invokevirtual 74, 3) := by decide +kernel
theorem dL_law_672 : decode cL_law 672 = .ok (.aload_n 2, 1) := by decide +kernel
theorem dL_law_673 : decode cL_law 673 = .ok (.invokevirtual 77, 3) := by decide +kernel
theorem dL_law_676 : decode cL_law 676 = .ok (.if_icmp .eq 1077, 3) := by decide +kernel
theorem dL_law_679 : decode cL_law 679 = .ok (.iconst 0, 1) := by decide +kernel
theorem dL_law_680 : decode cL_law 680 = .ok (.ireturn, 1) := by decide +kernel
theorem dL_law_681 : decode cL_law 681 = .ok (.aload_n 1, 1) := by decide +kernel
theorem dL_law_682 : decode cL_law 682 = .ok (.aload_n 0, 1) := by decide +kernel
theorem dL_law_683 : decode cL_law 683 = .ok (.iload 4, 2) := by decide +kernel
theorem dL_law_685 : decode cL_law 685 = .ok (.iconst 1, 1) := by decide +kernel
theorem dL_law_686 : decode cL_law 686 = .ok (.iadd, 1) := by decide +kernel
theorem dL_law_687 : decode cL_law 687 = .ok (.iaload, 1) := by decide +kernel
theorem dL_law_688 : decode cL_law 688 = .ok (.aload_n 0, 1) := by decide +kernel
theorem dL_law_689 : decode cL_law 689 = .ok (.iload 4, 2) := by decide +kernel
theorem dL_law_691 : decode cL_law 691 = .ok (.iconst 2, 1) := by decide +kernel
theorem dL_law_692 : decode cL_law 692 = .ok (.iadd, 1) := by decide +kernel
theorem dL_law_693 : decode cL_law 693 = .ok (.iaload, 1) := by decide +kernel
theorem dL_law_694 : decode cL_law 694 = .ok (.invokevirtual 78, 3) := by decide +kernel
theorem dL_law_697 : decode cL_law 697 = .ok (.aload_n 2, 1) := by decide +kernel
theorem dL_law_698 : decode cL_law 698 = .ok (.aload_n 0, 1) := by decide +kernel
theorem dL_law_699 : decode cL_law 699 = .ok (.iload 4, 2) := by decide +kernel
theorem dL_law_701 : decode cL_law 701 = .ok (.iconst 1, 1) := by decide +kernel
theorem dL_law_702 : decode cL_law 702 = .ok (.iadd, 1) := by decide +kernel
theorem dL_law_703 : decode cL_law 703 = .ok (.iaload, 1) := by decide +kernel
theorem dL_law_704 : decode cL_law 704 = .ok (.aload_n 0, 1) := by decide +kernel
theorem dL_law_705 : decode cL_law 705 = .ok (.iload 4, 2) := by decide +kernel
theorem dL_law_707 : decode cL_law 707 = .ok (.iconst 2, 1) := by decide +kernel
theorem dL_law_708 : decode cL_law 708 = .ok (.iadd, 1) := by decide +kernel
theorem dL_law_709 : decode cL_law 709 = .ok (.iaload, 1) := by decide +kernel
theorem dL_law_710 : decode cL_law 710 = .ok (.invokevirtual 81, 3) := by decide +kernel
theorem dL_law_713 : decode cL_law 713 = .ok (.if_icmp .eq 1040, 3) := by decide +kernel
theorem dL_law_716 : decode cL_law 716 = .ok (.iconst 0, 1) := by decide +kernel
theorem dL_law_717 : decode cL_law 717 = .ok (.ireturn, 1) := by decide +kernel
theorem dL_law_718 : decode cL_law 718 = .ok (.aload_n 1, 1) := by decide +kernel
theorem dL_law_719 : decode cL_law 719 = .ok (.aload_n 0, 1) := by decide +kernel
theorem dL_law_720 : decode cL_law 720 = .ok (.iload 4, 2) := by decide +kernel
theorem dL_law_722 : decode cL_law 722 = .ok (.iconst 1, 1) := by decide +kernel
theorem dL_law_723 : decode cL_law 723 = .ok (.iadd, 1) := by decide +kernel
theorem dL_law_724 : decode cL_law 724 = .ok (.iaload, 1) := by decide +kernel
theorem dL_law_725 : decode cL_law 725 = .ok (.invokevirtual 82, 3) := by decide +kernel
theorem dL_law_728 : decode cL_law 728 = .ok (.aload_n 2, 1) := by decide +kernel
theorem dL_law_729 : decode cL_law 729 = .ok (.aload_n 0, 1) := by decide +kernel
theorem dL_law_730 : decode cL_law 730 = .ok (.iload 4, 2) := by decide +kernel
theorem dL_law_732 : decode cL_law 732 = .ok (.iconst 1, 1) := by decide +kernel
theorem dL_law_733 : decode cL_law 733 = .ok (.iadd, 1) := by decide +kernel
theorem dL_law_734 : decode cL_law 734 = .ok (.iaload, 1) := by decide +kernel
theorem dL_law_735 : decode cL_law 735 = .ok (.invokevirtual 85, 3) := by decide +kernel
theorem dL_law_738 : decode cL_law 738 = .ok (.if_icmp .eq 1015, 3) := by decide +kernel
theorem dL_law_741 : decode cL_law 741 = .ok (.iconst 0, 1) := by decide +kernel
theorem dL_law_742 : decode cL_law 742 = .ok (.ireturn, 1) := by decide +kernel
theorem dL_law_743 : decode cL_law 743 = .ok (.aload_n 1, 1) := by decide +kernel
theorem dL_law_744 : decode cL_law 744 = .ok (.invokevirtual 86, 3) := by decide +kernel
theorem dL_law_747 : decode cL_law 747 = .ok (.aload_n 2, 1) := by decide +kernel
theorem dL_law_748 : decode cL_law 748 = .ok (.invokevirtual 89, 3) := by decide +kernel
theorem dL_law_751 : decode cL_law 751 = .ok (.if_icmp .eq 1002, 3) := by decide +kernel
theorem dL_law_754 : decode cL_law 754 = .ok (.iconst 0, 1) := by decide +kernel
theorem dL_law_755 : decode cL_law 755 = .ok (.ireturn, 1) := by decide +kernel
theorem dL_law_756 : decode cL_law 756 = .ok (.aload_n 1, 1) := by decide +kernel
theorem dL_law_757 : decode cL_law 757 = .ok (.aload_n 0, 1) := by decide +kernel
theorem dL_law_758 : decode cL_law 758 = .ok (.iload 4, 2) := by decide +kernel
theorem dL_law_760 : decode cL_law 760 = .ok (.iconst 1, 1) := by decide +kernel
theorem dL_law_761 : decode cL_law 761 = .ok (.iadd, 1) := by decide +kernel
theorem dL_law_762 : decode cL_law 762 = .ok (.iaload, 1) := by decide +kernel
theorem dL_law_763 : decode cL_law 763 = .ok (.aload_n 0, 1) := by decide +kernel
theorem dL_law_764 : decode cL_law 764 = .ok (.iload 4, 2) := by decide +kernel
theorem dL_law_766 : decode cL_law 766 = .ok (.iconst 2, 1) := by decide +kernel
theorem dL_law_767 : decode cL_law 767 = .ok (.iadd, 1) := by decide +kernel
theorem dL_law_768 : decode cL_law 768 = .ok (.iaload, 1) := by decide +kernel
theorem dL_law_769 : decode cL_law 769 = .ok (.invokevirtual 90, 3) := by decide +kernel
theorem dL_law_772 : decode cL_law 772 = .ok (.aload_n 2, 1) := by decide +kernel
theorem dL_law_773 : decode cL_law 773 = .ok (.aload_n 0, 1) := by decide +kernel
theorem dL_law_774 : decode cL_law 774 = .ok (.iload 4, 2) := by decide +kernel
theorem dL_law_776 : decode cL_law 776 = .ok (.iconst 1, 1) := by decide +kernel
theorem dL_law_777 : decode cL_law 777 = .ok (.iadd, 1) := by decide +kernel
theorem dL_law_778 : decode cL_law 778 = .ok (.iaload, 1) := by decide +kernel
theorem dL_law_779 : decode cL_law 779 = .ok (.aload_n 0, 1) := by decide +kernel
theorem dL_law_780 : decode cL_law 780 = .ok (.iload 4, 2) := by decide +kernel
theorem dL_law_782 : decode cL_law 782 = .ok (.iconst 2, 1) := by decide +kernel
theorem dL_law_783 : decode cL_law 783 = .ok (.iadd, 1) := by decide +kernel
theorem dL_law_784 : decode cL_law 784 = .ok (.iaload, 1) := by decide +kernel
theorem dL_law_785 : decode cL_law 785 = .ok (.invokevirtual 93, 3) := by decide +kernel
theorem dL_law_788 : decode cL_law 788 = .ok (.if_icmp .eq 965, 3) := by decide +kernel
theorem dL_law_791 : decode cL_law 791 = .ok (.iconst 0, 1) := by decide +kernel
theorem dL_law_792 : decode cL_law 792 = .ok (.ireturn, 1) := by decide +kernel
theorem dL_law_793 : decode cL_law 793 = .ok (.aload_n 1, 1) := by decide +kernel
theorem dL_law_794 : decode cL_law 794 = .ok (.aload_n 0, 1) := by decide +kernel
theorem dL_law_795 : decode cL_law 795 = .ok (.iload 4, 2) := by decide +kernel
theorem dL_law_797 : decode cL_law 797 = .ok (.iconst 1, 1) := by decide +kernel
theorem dL_law_798 : decode cL_law 798 = .ok (.iadd, 1) := by decide +kernel
theorem dL_law_799 : decode cL_law 799 = .ok (.iaload, 1) := by decide +kernel
theorem dL_law_800 : decode cL_law 800 = .ok (.aload_n 0, 1) := by decide +kernel
theorem dL_law_801 : decode cL_law 801 = .ok (.iload 4, 2) := by decide +kernel
theorem dL_law_803 : decode cL_law 803 = .ok (.iconst 2, 1) := by decide +kernel
theorem dL_law_804 : decode cL_law 804 = .ok (.iadd, 1) := by decide +kernel
theorem dL_law_805 : decode cL_law 805 = .ok (.iaload, 1) := by decide +kernel
theorem dL_law_806 : decode cL_law 806 = .ok (.invokevirtual 94, 3) := by decide +kernel
theorem dL_law_809 : decode cL_law 809 = .ok (.aload_n 2, 1) := by decide +kernel
theorem dL_law_810 : decode cL_law 810 = .ok (.aload_n 0, 1) := by decide +kernel
theorem dL_law_811 : decode cL_law 811 = .ok (.iload 4, 2) := by decide +kernel
theorem dL_law_813 : decode cL_law 813 = .ok (.iconst 1, 1) := by decide +kernel
theorem dL_law_814 : decode cL_law 814 = .ok (.iadd, 1) := by decide +kernel
theorem dL_law_815 : decode cL_law 815 = .ok (.iaload, 1) := by decide +kernel
theorem dL_law_816 : decode cL_law 816 = .ok (.aload_n 0, 1) := by decide +kernel
theorem dL_law_817 : decode cL_law 817 = .ok (.iload 4, 2) := by decide +kernel
theorem dL_law_819 : decode cL_law 819 = .ok (.iconst 2, 1) := by decide +kernel
theorem dL_law_820 : decode cL_law 820 = .ok (.iadd, 1) := by decide +kernel
theorem dL_law_821 : decode cL_law 821 = .ok (.iaload, 1) := by decide +kernel
theorem dL_law_822 : decode cL_law 822 = .ok (.invokevirtual 97, 3) := by decide +kernel
theorem dL_law_825 : decode cL_law 825 = .ok (.if_icmp .eq 928, 3) := by decide +kernel
theorem dL_law_828 : decode cL_law 828 = .ok (.iconst 0, 1) := by decide +kernel
theorem dL_law_829 : decode cL_law 829 = .ok (.ireturn, 1) := by decide +kernel
theorem dL_law_830 : decode cL_law 830 = .ok (.aload_n 1, 1) := by decide +kernel
theorem dL_law_831 : decode cL_law 831 = .ok (.aload_n 0, 1) := by decide +kernel
theorem dL_law_832 : decode cL_law 832 = .ok (.iload 4, 2) := by decide +kernel
theorem dL_law_834 : decode cL_law 834 = .ok (.iconst 1, 1) := by decide +kernel
theorem dL_law_835 : decode cL_law 835 = .ok (.iadd, 1) := by decide +kernel
theorem dL_law_836 : decode cL_law 836 = .ok (.iaload, 1) := by decide +kernel
theorem dL_law_837 : decode cL_law 837 = .ok (.aload_n 0, 1) := by decide +kernel
theorem dL_law_838 : decode cL_law 838 = .ok (.iload 4, 2) := by decide +kernel
theorem dL_law_840 : decode cL_law 840 = .ok (.iconst 2, 1) := by decide +kernel
theorem dL_law_841 : decode cL_law 841 = .ok (.iadd, 1) := by decide +kernel
theorem dL_law_842 : decode cL_law 842 = .ok (.iaload, 1) := by decide +kernel
theorem dL_law_843 : decode cL_law 843 = .ok (.aload_n 0, 1) := by decide +kernel
theorem dL_law_844 : decode cL_law 844 = .ok (.iload 4, 2) := by decide +kernel
theorem dL_law_846 : decode cL_law 846 = .ok (.iconst 3, 1) := by decide +kernel
theorem dL_law_847 : decode cL_law 847 = .ok (.iadd, 1) := by decide +kernel
theorem dL_law_848 : decode cL_law 848 = .ok (.iaload, 1) := by decide +kernel
theorem dL_law_849 : decode cL_law 849 = .ok (.invokevirtual 98, 3) := by decide +kernel
theorem dL_law_852 : decode cL_law 852 = .ok (.aload_n 2, 1) := by decide +kernel
theorem dL_law_853 : decode cL_law 853 = .ok (.aload_n 0, 1) := by decide +kernel
theorem dL_law_854 : decode cL_law 854 = .ok (.iload 4, 2) := by decide +kernel
theorem dL_law_856 : decode cL_law 856 = .ok (.iconst 1, 1) := by decide +kernel
theorem dL_law_857 : decode cL_law 857 = .ok (.iadd, 1) := by decide +kernel
theorem dL_law_858 : decode cL_law 858 = .ok (.iaload, 1) := by decide +kernel
theorem dL_law_859 : decode cL_law 859 = .ok (.aload_n 0, 1) := by decide +kernel
theorem dL_law_860 : decode cL_law 860 = .ok (.iload 4, 2) := by decide +kernel
theorem dL_law_862 : decode cL_law 862 = .ok (.iconst 2, 1) := by decide +kernel
theorem dL_law_863 : decode cL_law 863 = .ok (.iadd, 1) := by decide +kernel
theorem dL_law_864 : decode cL_law 864 = .ok (.iaload, 1) := by decide +kernel
theorem dL_law_865 : decode cL_law 865 = .ok (.aload_n 0, 1) := by decide +kernel
theorem dL_law_866 : decode cL_law 866 = .ok (.iload 4, 2) := by decide +kernel
theorem dL_law_868 : decode cL_law 868 = .ok (.iconst 3, 1) := by decide +kernel
theorem dL_law_869 : decode cL_law 869 = .ok (.iadd, 1) := by decide +kernel
theorem dL_law_870 : decode cL_law 870 = .ok (.iaload, 1) := by decide +kernel
theorem dL_law_871 : decode cL_law 871 = .ok (.invokevirtual 101, 3) := by decide +kernel
theorem dL_law_874 : decode cL_law 874 = .ok (.if_icmp .eq 879, 3) := by decide +kernel
theorem dL_law_877 : decode cL_law 877 = .ok (.iconst 0, 1) := by decide +kernel
theorem dL_law_878 : decode cL_law 878 = .ok (.ireturn, 1) := by decide +kernel
theorem dL_law_879 : decode cL_law 879 = .ok (.aload_n 1, 1) := by decide +kernel
theorem dL_law_880 : decode cL_law 880 = .ok (.aload_n 0, 1) := by decide +kernel
theorem dL_law_881 : decode cL_law 881 = .ok (.iload 4, 2) := by decide +kernel
theorem dL_law_883 : decode cL_law 883 = .ok (.iconst 1, 1) := by decide +kernel
theorem dL_law_884 : decode cL_law 884 = .ok (.iadd, 1) := by decide +kernel
theorem dL_law_885 : decode cL_law 885 = .ok (.iaload, 1) := by decide +kernel
theorem dL_law_886 : decode cL_law 886 = .ok (.invokevirtual 102, 3) := by decide +kernel
theorem dL_law_889 : decode cL_law 889 = .ok (.aload_n 2, 1) := by decide +kernel
theorem dL_law_890 : decode cL_law 890 = .ok (.aload_n 0, 1) := by decide +kernel
theorem dL_law_891 : decode cL_law 891 = .ok (.iload 4, 2) := by decide +kernel
theorem dL_law_893 : decode cL_law 893 = .ok (.iconst 1, 1) := by decide +kernel
theorem dL_law_894 : decode cL_law 894 = .ok (.iadd, 1) := by decide +kernel
theorem dL_law_895 : decode cL_law 895 = .ok (.iaload, 1) := by decide +kernel
theorem dL_law_896 : decode cL_law 896 = .ok (.invokevirtual 105, 3) := by decide +kernel
theorem dL_law_899 : decode cL_law 899 = .ok (.if_icmp .eq 854, 3) := by decide +kernel
theorem dL_law_902 : decode cL_law 902 = .ok (.iconst 0, 1) := by decide +kernel
theorem dL_law_903 : decode cL_law 903 = .ok (.ireturn, 1) := by decide +kernel
theorem dL_law_904 : decode cL_law 904 = .ok (.aload_n 1, 1) := by decide +kernel
theorem dL_law_905 : decode cL_law 905 = .ok (.aload_n 0, 1) := by decide +kernel
theorem dL_law_906 : decode cL_law 906 = .ok (.iload 4, 2) := by decide +kernel
theorem dL_law_908 : decode cL_law 908 = .ok (.iconst 1, 1) := by decide +kernel
theorem dL_law_909 : decode cL_law 909 = .ok (.iadd, 1) := by decide +kernel
theorem dL_law_910 : decode cL_law 910 = .ok (.iaload, 1) := by decide +kernel
theorem dL_law_911 : decode cL_law 911 = .ok (.aload_n 0, 1) := by decide +kernel
theorem dL_law_912 : decode cL_law 912 = .ok (.iload 4, 2) := by decide +kernel
theorem dL_law_914 : decode cL_law 914 = .ok (.iconst 2, 1) := by decide +kernel
theorem dL_law_915 : decode cL_law 915 = .ok (.iadd, 1) := by decide +kernel
theorem dL_law_916 : decode cL_law 916 = .ok (.iaload, 1) := by decide +kernel
theorem dL_law_917 : decode cL_law 917 = .ok (.invokevirtual 106, 3) := by decide +kernel
theorem dL_law_920 : decode cL_law 920 = .ok (.aload_n 2, 1) := by decide +kernel
theorem dL_law_921 : decode cL_law 921 = .ok (.aload_n 0, 1) := by decide +kernel
theorem dL_law_922 : decode cL_law 922 = .ok (.iload 4, 2) := by decide +kernel
theorem dL_law_924 : decode cL_law 924 = .ok (.iconst 1, 1) := by decide +kernel
theorem dL_law_925 : decode cL_law 925 = .ok (.iadd, 1) := by decide +kernel
theorem dL_law_926 : decode cL_law 926 = .ok (.iaload, 1) := by decide +kernel
theorem dL_law_927 : decode cL_law 927 = .ok (.aload_n 0, 1) := by decide +kernel
theorem dL_law_928 : decode cL_law 928 = .ok (.iload 4, 2) := by decide +kernel
theorem dL_law_930 : decode cL_law 930 = .ok (.iconst 2, 1) := by decide +kernel
theorem dL_law_931 : decode cL_law 931 = .ok (.iadd, 1) := by decide +kernel
theorem dL_law_932 : decode cL_law 932 = .ok (.iaload, 1) := by decide +kernel
theorem dL_law_933 : decode cL_law 933 = .ok (.invokevirtual 109, 3) := by decide +kernel
theorem dL_law_936 : decode cL_law 936 = .ok (.if_icmp .eq 817, 3) := by decide +kernel
theorem dL_law_939 : decode cL_law 939 = .ok (.iconst 0, 1) := by decide +kernel
theorem dL_law_940 : decode cL_law 940 = .ok (.ireturn, 1) := by decide +kernel
theorem dL_law_941 : decode cL_law 941 = .ok (.aload_n 1, 1) := by decide +kernel
theorem dL_law_942 : decode cL_law 942 = .ok (.aload_n 0, 1) := by decide +kernel
theorem dL_law_943 : decode cL_law 943 = .ok (.iload 4, 2) := by decide +kernel
theorem dL_law_945 : decode cL_law 945 = .ok (.iconst 1, 1) := by decide +kernel
theorem dL_law_946 : decode cL_law 946 = .ok (.iadd, 1) := by decide +kernel
theorem dL_law_947 : decode cL_law 947 = .ok (.iaload, 1) := by decide +kernel
theorem dL_law_948 : decode cL_law 948 = .ok (.aload_n 0, 1) := by decide +kernel
theorem dL_law_949 : decode cL_law 949 = .ok (.iload 4, 2) := by decide +kernel
theorem dL_law_951 : decode cL_law 951 = .ok (.iconst 2, 1) := by decide +kernel
theorem dL_law_952 : decode cL_law 952 = .ok (.iadd, 1) := by decide +kernel
theorem dL_law_953 : decode cL_law 953 = .ok (.iaload, 1) := by decide +kernel
theorem dL_law_954 : decode cL_law 954 = .ok (.invokevirtual 110, 3) := by decide +kernel
theorem dL_law_957 : decode cL_law 957 = .ok (.aload_n 2, 1) := by decide +kernel
theorem dL_law_958 : decode cL_law 958 = .ok (.aload_n 0, 1) := by decide +kernel
theorem dL_law_959 : decode cL_law 959 = .ok (.iload 4, 2) := by decide +kernel
theorem dL_law_961 : decode cL_law 961 = .ok (.iconst 1, 1) := by decide +kernel
theorem dL_law_962 : decode cL_law 962 = .ok (.iadd, 1) := by decide +kernel
theorem dL_law_963 : decode cL_law 963 = .ok (.iaload, 1) := by decide +kernel
theorem dL_law_964 : decode cL_law 964 = .ok (.aload_n 0, 1) := by decide +kernel
theorem dL_law_965 : decode cL_law 965 = .ok (.iload 4, 2) := by decide +kernel
theorem dL_law_967 : decode cL_law 967 = .ok (.iconst 2, 1) := by decide +kernel
theorem dL_law_968 : decode cL_law 968 = .ok (.iadd, 1) := by decide +kernel
theorem dL_law_969 : decode cL_law 969 = .ok (.iaload, 1) := by decide +kernel
theorem dL_law_970 : decode cL_law 970 = .ok (.invokevirtual 113, 3) := by decide +kernel
theorem dL_law_973 : decode cL_law 973 = .ok (.if_icmp .eq 780, 3) := by decide +kernel
theorem dL_law_976 : decode cL_law 976 = .ok (.iconst 0, 1) := by decide +kernel
theorem dL_law_977 : decode cL_law 977 = .ok (.ireturn, 1) := by decide +kernel
theorem dL_law_978 : decode cL_law 978 = .ok (.aload_n 1, 1) := by decide +kernel
theorem dL_law_979 : decode cL_law 979 = .ok (.aload_n 0, 1) := by decide +kernel
theorem dL_law_980 : decode cL_law 980 = .ok (.iload 4, 2) := by decide +kernel
theorem dL_law_982 : decode cL_law 982 = .ok (.iconst 1, 1) := by decide +kernel
theorem dL_law_983 : decode cL_law 983 = .ok (.iadd, 1) := by decide +kernel
theorem dL_law_984 : decode cL_law 984 = .ok (.iaload, 1) := by decide +kernel
theorem dL_law_985 : decode cL_law 985 = .ok (.aload_n 0, 1) := by decide +kernel
theorem dL_law_986 : decode cL_law 986 = .ok (.iload 4, 2) := by decide +kernel
theorem dL_law_988 : decode cL_law 988 = .ok (.iconst 2, 1) := by decide +kernel
theorem dL_law_989 : decode cL_law 989 = .ok (.iadd, 1) := by decide +kernel
theorem dL_law_990 : decode cL_law 990 = .ok (.iaload, 1) := by decide +kernel
theorem dL_law_991 : decode cL_law 991 = .ok (.invokevirtual 114, 3) := by decide +kernel
theorem dL_law_994 : decode cL_law 994 = .ok (.aload_n 2, 1) := by decide +kernel
theorem dL_law_995 : decode cL_law 995 = .ok (.aload_n 0, 1) := by decide +kernel
theorem dL_law_996 : decode cL_law 996 = .ok (.iload 4, 2) := by decide +kernel
theorem dL_law_998 : decode cL_law 998 = .ok (.iconst 1, 1) := by decide +kernel
theorem dL_law_999 : decode cL_law 999 = .ok (.iadd, 1) := by decide +kernel
theorem dL_law_1000 : decode cL_law 1000 = .ok (.iaload, 1) := by decide +kernel
theorem dL_law_1001 : decode cL_law 1001 = .ok (.aload_n 0, 1) := by decide +kernel
theorem dL_law_1002 : decode cL_law 1002 = .ok (.iload 4, 2) := by decide +kernel
theorem dL_law_1004 : decode cL_law 1004 = .ok (.iconst 2, 1) := by decide +kernel
theorem dL_law_1005 : decode cL_law 1005 = .ok (.iadd, 1) := by decide +kernel
theorem dL_law_1006 : decode cL_law 1006 = .ok (.iaload, 1) := by decide +kernel
theorem dL_law_1007 : decode cL_law 1007 = .ok (.invokevirtual 117, 3) := by decide +kernel
theorem dL_law_1010 : decode cL_law 1010 = .ok (.if_icmp .eq 743, 3) := by decide +kernel
theorem dL_law_1013 : decode cL_law 1013 = .ok (.iconst 0, 1) := by decide +kernel
theorem dL_law_1014 : decode cL_law 1014 = .ok (.ireturn, 1) := by decide +kernel
theorem dL_law_1015 : decode cL_law 1015 = .ok (.aload_n 1, 1) := by decide +kernel
theorem dL_law_1016 : decode cL_law 1016 = .ok (.aload_n 0, 1) := by decide +kernel
theorem dL_law_1017 : decode cL_law 1017 = .ok (.iload 4, 2) := by decide +kernel
theorem dL_law_1019 : decode cL_law 1019 = .ok (.iconst 1, 1) := by decide +kernel
theorem dL_law_1020 : decode cL_law 1020 = .ok (.iadd, 1) := by decide +kernel
theorem dL_law_1021 : decode cL_law 1021 = .ok (.iaload, 1) := by decide +kernel
theorem dL_law_1022 : decode cL_law 1022 = .ok (.aload_n 0, 1) := by decide +kernel
theorem dL_law_1023 : decode cL_law 1023 = .ok (.iload 4, 2) := by decide +kernel
theorem dL_law_1025 : decode cL_law 1025 = .ok (.iconst 2, 1) := by decide +kernel
theorem dL_law_1026 : decode cL_law 1026 = .ok (.iadd, 1) := by decide +kernel
theorem dL_law_1027 : decode cL_law 1027 = .ok (.iaload, 1) := by decide +kernel
theorem dL_law_1028 : decode cL_law 1028 = .ok (.aload_n 0, 1) := by decide +kernel
theorem dL_law_1029 : decode cL_law 1029 = .ok (.iload 4, 2) := by decide +kernel
theorem dL_law_1031 : decode cL_law 1031 = .ok (.iconst 3, 1) := by decide +kernel
theorem dL_law_1032 : decode cL_law 1032 = .ok (.iadd, 1) := by decide +kernel
theorem dL_law_1033 : decode cL_law 1033 = .ok (.iaload, 1) := by decide +kernel
theorem dL_law_1034 : decode cL_law 1034 = .ok (.invokevirtual 118, 3) := by decide +kernel
theorem dL_law_1037 : decode cL_law 1037 = .ok (.aload_n 2, 1) := by decide +kernel
theorem dL_law_1038 : decode cL_law 1038 = .ok (.aload_n 0, 1) := by decide +kernel
theorem dL_law_1039 : decode cL_law 1039 = .ok (.iload 4, 2) := by decide +kernel
theorem dL_law_1041 : decode cL_law 1041 = .ok (.iconst 1, 1) := by decide +kernel
theorem dL_law_1042 : decode cL_law 1042 = .ok (.iadd, 1) := by decide +kernel
theorem dL_law_1043 : decode cL_law 1043 = .ok (.iaload, 1) := by decide +kernel
theorem dL_law_1044 : decode cL_law 1044 = .ok (.aload_n 0, 1) := by decide +kernel
theorem dL_law_1045 : decode cL_law 1045 = .ok (.iload 4, 2) := by decide +kernel
theorem dL_law_1047 : decode cL_law 1047 = .ok (.iconst 2, 1) := by decide +kernel
theorem dL_law_1048 : decode cL_law 1048 = .ok (.iadd, 1) := by decide +kernel
theorem dL_law_1049 : decode cL_law 1049 = .ok (.iaload, 1) := by decide +kernel
theorem dL_law_1050 : decode cL_law 1050 = .ok (.aload_n 0, 1) := by decide +kernel
theorem dL_law_1051 : decode cL_law 1051 = .ok (.iload 4, 2) := by decide +kernel
theorem dL_law_1053 : decode cL_law 1053 = .ok (.iconst 3, 1) := by decide +kernel
theorem dL_law_1054 : decode cL_law 1054 = .ok (.iadd, 1) := by decide +kernel
theorem dL_law_1055 : decode cL_law 1055 = .ok (.iaload, 1) := by decide +kernel
theorem dL_law_1056 : decode cL_law 1056 = .ok (.invokevirtual 121, 3) := by decide +kernel
theorem dL_law_1059 : decode cL_law 1059 = .ok (.if_icmp .eq 694, 3) := by decide +kernel
theorem dL_law_1062 : decode cL_law 1062 = .ok (.iconst 0, 1) := by decide +kernel
theorem dL_law_1063 : decode cL_law 1063 = .ok (.ireturn, 1) := by decide +kernel
theorem dL_law_1064 : decode cL_law 1064 = .ok (.aload_n 1, 1) := by decide +kernel
theorem dL_law_1065 : decode cL_law 1065 = .ok (.aload_n 0, 1) := by decide +kernel
theorem dL_law_1066 : decode cL_law 1066 = .ok (.iload 4, 2) := by decide +kernel
theorem dL_law_1068 : decode cL_law 1068 = .ok (.iconst 1, 1) := by decide +kernel
theorem dL_law_1069 : decode cL_law 1069 = .ok (.iadd, 1) := by decide +kernel
theorem dL_law_1070 : decode cL_law 1070 = .ok (.iaload, 1) := by decide +kernel
theorem dL_law_1071 : decode cL_law 1071 = .ok (.aload_n 0, 1) := by decide +kernel
theorem dL_law_1072 : decode cL_law 1072 = .ok (.iload 4, 2) := by decide +kernel
theorem dL_law_1074 : decode cL_law 1074 = .ok (.iconst 2, 1) := by decide +kernel
theorem dL_law_1075 : decode cL_law 1075 = .ok (.iadd, 1) := by decide +kernel
theorem dL_law_1076 : decode cL_law 1076 = .ok (.iaload, 1) := by decide +kernel
theorem dL_law_1077 : decode cL_law 1077 = .ok (.aload_n 0, 1) := by decide +kernel
theorem dL_law_1078 : decode cL_law 1078 = .ok (.iload 4, 2) := by decide +kernel
theorem dL_law_1080 : decode cL_law 1080 = .ok (.iconst 3, 1) := by decide +kernel
theorem dL_law_1081 : decode cL_law 1081 = .ok (.iadd, 1) := by decide +kernel
theorem dL_law_1082 : decode cL_law 1082 = .ok (.iaload, 1) := by decide +kernel
theorem dL_law_1083 : decode cL_law 1083 = .ok (.invokevirtual 122, 3) := by decide +kernel
theorem dL_law_1086 : decode cL_law 1086 = .ok (.aload_n 2, 1) := by decide +kernel
theorem dL_law_1087 : decode cL_law 1087 = .ok (.aload_n 0, 1) := by decide +kernel
theorem dL_law_1088 : decode cL_law 1088 = .ok (.iload 4, 2) := by decide +kernel
theorem dL_law_1090 : decode cL_law 1090 = .ok (.iconst 1, 1) := by decide +kernel
theorem dL_law_1091 : decode cL_law 1091 = .ok (.iadd, 1) := by decide +kernel
theorem dL_law_1092 : decode cL_law 1092 = .ok (.iaload, 1) := by decide +kernel
theorem dL_law_1093 : decode cL_law 1093 = .ok (.aload_n 0, 1) := by decide +kernel
theorem dL_law_1094 : decode cL_law 1094 = .ok (.iload 4, 2) := by decide +kernel
theorem dL_law_1096 : decode cL_law 1096 = .ok (.iconst 2, 1) := by decide +kernel
theorem dL_law_1097 : decode cL_law 1097 = .ok (.iadd, 1) := by decide +kernel
theorem dL_law_1098 : decode cL_law 1098 = .ok (.iaload, 1) := by decide +kernel
theorem dL_law_1099 : decode cL_law 1099 = .ok (.aload_n 0, 1) := by decide +kernel
theorem dL_law_1100 : decode cL_law 1100 = .ok (.iload 4, 2) := by decide +kernel
theorem dL_law_1102 : decode cL_law 1102 = .ok (.iconst 3, 1) := by decide +kernel
theorem dL_law_1103 : decode cL_law 1103 = .ok (.iadd, 1) := by decide +kernel
theorem dL_law_1104 : decode cL_law 1104 = .ok (.iaload, 1) := by decide +kernel
theorem dL_law_1105 : decode cL_law 1105 = .ok (.invokevirtual 125, 3) := by decide +kernel
theorem dL_law_1108 : decode cL_law 1108 = .ok (.if_icmp .eq 645, 3) := by decide +kernel
theorem dL_law_1111 : decode cL_law 1111 = .ok (.iconst 0, 1) := by decide +kernel
theorem dL_law_1112 : decode cL_law 1112 = .ok (.ireturn, 1) := by decide +kernel
theorem dL_law_1113 : decode cL_law 1113 = .ok (.aload_n 1, 1) := by decide +kernel
theorem dL_law_1114 : decode cL_law 1114 = .ok (.aload_n 0, 1) := by decide +kernel
theorem dL_law_1115 : decode cL_law 1115 = .ok (.iload 4, 2) := by decide +kernel
theorem dL_law_1117 : decode cL_law 1117 = .ok (.iconst 1, 1) := by decide +kernel
theorem dL_law_1118 : decode cL_law 1118 = .ok (.iadd, 1) := by decide +kernel
theorem dL_law_1119 : decode cL_law 1119 = .ok (.iaload, 1) := by decide +kernel
theorem dL_law_1120 : decode cL_law 1120 = .ok (.aload_n 0, 1) := by decide +kernel
theorem dL_law_1121 : decode cL_law 1121 = .ok (.iload 4, 2) := by decide +kernel
theorem dL_law_1123 : decode cL_law 1123 = .ok (.iconst 2, 1) := by decide +kernel
theorem dL_law_1124 : decode cL_law 1124 = .ok (.iadd, 1) := by decide +kernel
theorem dL_law_1125 : decode cL_law 1125 = .ok (.iaload, 1) := by decide +kernel
theorem dL_law_1126 : decode cL_law 1126 = .ok (.invokevirtual 126, 3) := by decide +kernel
theorem dL_law_1129 : decode cL_law 1129 = .ok (.aload_n 2, 1) := by decide +kernel
theorem dL_law_1130 : decode cL_law 1130 = .ok (.aload_n 0, 1) := by decide +kernel
theorem dL_law_1131 : decode cL_law 1131 = .ok (.iload 4, 2) := by decide +kernel
theorem dL_law_1133 : decode cL_law 1133 = .ok (.iconst 1, 1) := by decide +kernel
theorem dL_law_1134 : decode cL_law 1134 = .ok (.iadd, 1) := by decide +kernel
theorem dL_law_1135 : decode cL_law 1135 = .ok (.iaload, 1) := by decide +kernel
theorem dL_law_1136 : decode cL_law 1136 = .ok (.aload_n 0, 1) := by decide +kernel
theorem dL_law_1137 : decode cL_law 1137 = .ok (.iload 4, 2) := by decide +kernel
theorem dL_law_1139 : decode cL_law 1139 = .ok (.iconst 2, 1) := by decide +kernel
theorem dL_law_1140 : decode cL_law 1140 = .ok (.iadd, 1) := by decide +kernel
theorem dL_law_1141 : decode cL_law 1141 = .ok (.iaload, 1) := by decide +kernel
theorem dL_law_1142 : decode cL_law 1142 = .ok (.invokevirtual 129, 3) := by decide +kernel
theorem dL_law_1145 : decode cL_law 1145 = .ok (.if_icmp .eq 608, 3) := by decide +kernel
theorem dL_law_1148 : decode cL_law 1148 = .ok (.iconst 0, 1) := by decide +kernel
theorem dL_law_1149 : decode cL_law 1149 = .ok (.ireturn, 1) := by decide +kernel
theorem dL_law_1150 : decode cL_law 1150 = .ok (.aload_n 1, 1) := by decide +kernel
theorem dL_law_1151 : decode cL_law 1151 = .ok (.aload_n 0, 1) := by decide +kernel
theorem dL_law_1152 : decode cL_law 1152 = .ok (.iload 4, 2) := by decide +kernel
theorem dL_law_1154 : decode cL_law 1154 = .ok (.iconst 1, 1) := by decide +kernel
theorem dL_law_1155 : decode cL_law 1155 = .ok (.iadd, 1) := by decide +kernel
theorem dL_law_1156 : decode cL_law 1156 = .ok (.iaload, 1) := by decide +kernel
theorem dL_law_1157 : decode cL_law 1157 = .ok (.aload_n 0, 1) := by decide +kernel
theorem dL_law_1158 : decode cL_law 1158 = .ok (.iload 4, 2) := by decide +kernel
theorem dL_law_1160 : decode cL_law 1160 = .ok (.iconst 2, 1) := by decide +kernel
theorem dL_law_1161 : decode cL_law 1161 = .ok (.iadd, 1) := by decide +kernel
theorem dL_law_1162 : decode cL_law 1162 = .ok (.iaload, 1) := by decide +kernel
theorem dL_law_1163 : decode cL_law 1163 = .ok (.aload_n 0, 1) := by decide +kernel
theorem dL_law_1164 : decode cL_law 1164 = .ok (.iload 4, 2) := by decide +kernel
theorem dL_law_1166 : decode cL_law 1166 = .ok (.iconst 3, 1) := by decide +kernel
theorem dL_law_1167 : decode cL_law 1167 = .ok (.iadd, 1) := by decide +kernel
theorem dL_law_1168 : decode cL_law 1168 = .ok (.iaload, 1) := by decide +kernel
theorem dL_law_1169 : decode cL_law 1169 = .ok (.invokevirtual 130, 3) := by decide +kernel
theorem dL_law_1172 : decode cL_law 1172 = .ok (.aload_n 2, 1) := by decide +kernel
theorem dL_law_1173 : decode cL_law 1173 = .ok (.aload_n 0, 1) := by decide +kernel
theorem dL_law_1174 : decode cL_law 1174 = .ok (.iload 4, 2) := by decide +kernel
theorem dL_law_1176 : decode cL_law 1176 = .ok (.iconst 1, 1) := by decide +kernel
theorem dL_law_1177 : decode cL_law 1177 = .ok (.iadd, 1) := by decide +kernel
theorem dL_law_1178 : decode cL_law 1178 = .ok (.iaload, 1) := by decide +kernel
theorem dL_law_1179 : decode cL_law 1179 = .ok (.aload_n 0, 1) := by decide +kernel
theorem dL_law_1180 : decode cL_law 1180 = .ok (.iload 4, 2) := by decide +kernel
theorem dL_law_1182 : decode cL_law 1182 = .ok (.iconst 2, 1) := by decide +kernel
theorem dL_law_1183 : decode cL_law 1183 = .ok (.iadd, 1) := by decide +kernel
theorem dL_law_1184 : decode cL_law 1184 = .ok (.iaload, 1) := by decide +kernel
theorem dL_law_1185 : decode cL_law 1185 = .ok (.aload_n 0, 1) := by decide +kernel
theorem dL_law_1186 : decode cL_law 1186 = .ok (.iload 4, 2) := by decide +kernel
theorem dL_law_1188 : decode cL_law 1188 = .ok (.iconst 3, 1) := by decide +kernel
theorem dL_law_1189 : decode cL_law 1189 = .ok (.iadd, 1) := by decide +kernel
theorem dL_law_1190 : decode cL_law 1190 = .ok (.iaload, 1) := by decide +kernel
theorem dL_law_1191 : decode cL_law 1191 = .ok (.invokevirtual 133, 3) := by decide +kernel
theorem dL_law_1194 : decode cL_law 1194 = .ok (.if_icmp .eq 559, 3) := by decide +kernel
theorem dL_law_1197 : decode cL_law 1197 = .ok (.iconst 0, 1) := by decide +kernel
theorem dL_law_1198 : decode cL_law 1198 = .ok (.ireturn, 1) := by decide +kernel
theorem dL_law_1199 : decode cL_law 1199 = .ok (.aload_n 1, 1) := by decide +kernel
theorem dL_law_1200 : decode cL_law 1200 = .ok (.aload_n 0, 1) := by decide +kernel
theorem dL_law_1201 : decode cL_law 1201 = .ok (.iload 4, 2) := by decide +kernel
theorem dL_law_1203 : decode cL_law 1203 = .ok (.iconst 1, 1) := by decide +kernel
theorem dL_law_1204 : decode cL_law 1204 = .ok (.iadd, 1) := by decide +kernel
theorem dL_law_1205 : decode cL_law 1205 = .ok (.iaload, 1) := by decide +kernel
theorem dL_law_1206 : decode cL_law 1206 = .ok (.invokevirtual 134, 3) := by decide +kernel
theorem dL_law_1209 : decode cL_law 1209 = .ok (.aload_n 2, 1) := by decide +kernel
theorem dL_law_1210 : decode cL_law 1210 = .ok (.aload_n 0, 1) := by decide +kernel
theorem dL_law_1211 : decode cL_law 1211 = .ok (.iload 4, 2) := by decide +kernel
theorem dL_law_1213 : decode cL_law 1213 = .ok (.iconst 1, 1) := by decide +kernel
theorem dL_law_1214 : decode cL_law 1214 = .ok (.iadd, 1) := by decide +kernel
theorem dL_law_1215 : decode cL_law 1215 = .ok (.iaload, 1) := by decide +kernel
theorem dL_law_1216 : decode cL_law 1216 = .ok (.invokevirtual 137, 3) := by decide +kernel
theorem dL_law_1219 : decode cL_law 1219 = .ok (.if_icmp .eq 534, 3) := by decide +kernel
theorem dL_law_1222 : decode cL_law 1222 = .ok (.iconst 0, 1) := by decide +kernel
theorem dL_law_1223 : decode cL_law 1223 = .ok (.ireturn, 1) := by decide +kernel
theorem dL_law_1224 : decode cL_law 1224 = .ok (.aload_n 1, 1) := by decide +kernel
theorem dL_law_1225 : decode cL_law 1225 = .ok (.aload_n 0, 1) := by decide +kernel
theorem dL_law_1226 : decode cL_law 1226 = .ok (.iload 4, 2) := by decide +kernel
theorem dL_law_1228 : decode cL_law 1228 = .ok (.iconst 1, 1) := by decide +kernel
theorem dL_law_1229 : decode cL_law 1229 = .ok (.iadd, 1) := by decide +kernel
theorem dL_law_1230 : decode cL_law 1230 = .ok (.iaload, 1) := by decide +kernel
theorem dL_law_1231 : decode cL_law 1231 = .ok (.aload_n 0, 1) := by decide +kernel
theorem dL_law_1232 : decode cL_law 1232 = .ok (.iload 4, 2) := by decide +kernel
theorem dL_law_1234 : decode cL_law 1234 = .ok (.iconst 2, 1) := by decide +kernel
theorem dL_law_1235 : decode cL_law 1235 = .ok (.iadd, 1) := by decide +kernel
theorem dL_law_1236 : decode cL_law 1236 = .ok (.iaload, 1) := by decide +kernel
theorem dL_law_1237 : decode cL_law 1237 = .ok (.invokevirtual 138, 3) := by decide +kernel
theorem dL_law_1240 : decode cL_law 1240 = .ok (.aload_n 2, 1) := by decide +kernel
theorem dL_law_1241 : decode cL_law 1241 = .ok (.aload_n 0, 1) := by decide +kernel
theorem dL_law_1242 : decode cL_law 1242 = .ok (.iload 4, 2) := by decide +kernel
theorem dL_law_1244 : decode cL_law 1244 = .ok (.iconst 1, 1) := by decide +kernel
theorem dL_law_1245 : decode cL_law 1245 = .ok (.iadd, 1) := by decide +kernel
theorem dL_law_1246 : decode cL_law 1246 = .ok (.iaload, 1) := by decide +kernel
theorem dL_law_1247 : decode cL_law 1247 = .ok (.aload_n 0, 1) := by decide +kernel
theorem dL_law_1248 : decode cL_law 1248 = .ok (.iload 4, 2) := by decide +kernel
theorem dL_law_1250 : decode cL_law 1250 = .ok (.iconst 2, 1) := by decide +kernel
theorem dL_law_1251 : decode cL_law 1251 = .ok (.iadd, 1) := by decide +kernel
theorem dL_law_1252 : decode cL_law 1252 = .ok (.iaload, 1) := by decide +kernel
theorem dL_law_1253 : decode cL_law 1253 = .ok (.invokevirtual 141, 3) := by decide +kernel
theorem dL_law_1256 : decode cL_law 1256 = .ok (.if_icmp .eq 497, 3) := by decide +kernel
theorem dL_law_1259 : decode cL_law 1259 = .ok (.iconst 0, 1) := by decide +kernel
theorem dL_law_1260 : decode cL_law 1260 = .ok (.ireturn, 1) := by decide +kernel
theorem dL_law_1261 : decode cL_law 1261 = .ok (.aload_n 1, 1) := by decide +kernel
theorem dL_law_1262 : decode cL_law 1262 = .ok (.aload_n 0, 1) := by decide +kernel
theorem dL_law_1263 : decode cL_law 1263 = .ok (.iload 4, 2) := by decide +kernel
theorem dL_law_1265 : decode cL_law 1265 = .ok (.iconst 1, 1) := by decide +kernel
theorem dL_law_1266 : decode cL_law 1266 = .ok (.iadd, 1) := by decide +kernel
theorem dL_law_1267 : decode cL_law 1267 = .ok (.iaload, 1) := by decide +kernel
theorem dL_law_1268 : decode cL_law 1268 = .ok (.invokevirtual 142, 3) := by decide +kernel
theorem dL_law_1271 : decode cL_law 1271 = .ok (.aload_n 2, 1) := by decide +kernel
theorem dL_law_1272 : decode cL_law 1272 = .ok (.aload_n 0, 1) := by decide +kernel
theorem dL_law_1273 : decode cL_law 1273 = .ok (.iload 4, 2) := by decide +kernel
theorem dL_law_1275 : decode cL_law 1275 = .ok (.iconst 1, 1) := by decide +kernel
theorem dL_law_1276 : decode cL_law 1276 = .ok (.iadd, 1) := by decide +kernel
theorem dL_law_1277 : decode cL_law 1277 = .ok (.iaload, 1) := by decide +kernel
theorem dL_law_1278 : decode cL_law 1278 = .ok (.invokevirtual 145, 3) := by decide +kernel
theorem dL_law_1281 : decode cL_law 1281 = .ok (.if_icmp .eq 472, 3) := by decide +kernel
theorem dL_law_1284 : decode cL_law 1284 = .ok (.iconst 0, 1) := by decide +kernel
theorem dL_law_1285 : decode cL_law 1285 = .ok (.ireturn, 1) := by decide +kernel
theorem dL_law_1286 : decode cL_law 1286 = .ok (.aload_n 1, 1) := by decide +kernel
theorem dL_law_1287 : decode cL_law 1287 = .ok (.aload_n 0, 1) := by decide +kernel
theorem dL_law_1288 : decode cL_law 1288 = .ok (.iload 4, 2) := by decide +kernel
theorem dL_law_1290 : decode cL_law 1290 = .ok (.iconst 1, 1) := by decide +kernel
theorem dL_law_1291 : decode cL_law 1291 = .ok (.iadd, 1) := by decide +kernel
theorem dL_law_1292 : decode cL_law 1292 = .ok (.iaload, 1) := by decide +kernel
theorem dL_law_1293 : decode cL_law 1293 = .ok (.aload_n 0, 1) := by decide +kernel
theorem dL_law_1294 : decode cL_law 1294 = .ok (.iload 4, 2) := by decide +kernel
theorem dL_law_1296 : decode cL_law 1296 = .ok (.iconst 2, 1) := by decide +kernel
theorem dL_law_1297 : decode cL_law 1297 = .ok (.iadd, 1) := by decide +kernel
theorem dL_law_1298 : decode cL_law 1298 = .ok (.iaload, 1) := by decide +kernel
theorem dL_law_1299 : decode cL_law 1299 = .ok (.aload_n 0, 1) := by decide +kernel
theorem dL_law_1300 : decode cL_law 1300 = .ok (.iload 4, 2) := by decide +kernel
theorem dL_law_1302 : decode cL_law 1302 = .ok (.iconst 3, 1) := by decide +kernel
theorem dL_law_1303 : decode cL_law 1303 = .ok (.iadd, 1) := by decide +kernel
theorem dL_law_1304 : decode cL_law 1304 = .ok (.iaload, 1) := by decide +kernel
theorem dL_law_1305 : decode cL_law 1305 = .ok (.invokevirtual 146, 3) := by decide +kernel
theorem dL_law_1308 : decode cL_law 1308 = .ok (.aload_n 2, 1) := by decide +kernel
theorem dL_law_1309 : decode cL_law 1309 = .ok (.aload_n 0, 1) := by decide +kernel
theorem dL_law_1310 : decode cL_law 1310 = .ok (.iload 4, 2) := by decide +kernel
theorem dL_law_1312 : decode cL_law 1312 = .ok (.iconst 1, 1) := by decide +kernel
theorem dL_law_1313 : decode cL_law 1313 = .ok (.iadd, 1) := by decide +kernel
theorem dL_law_1314 : decode cL_law 1314 = .ok (.iaload, 1) := by decide +kernel
theorem dL_law_1315 : decode cL_law 1315 = .ok (.aload_n 0, 1) := by decide +kernel
theorem dL_law_1316 : decode cL_law 1316 = .ok (.iload 4, 2) := by decide +kernel
theorem dL_law_1318 : decode cL_law 1318 = .ok (.iconst 2, 1) := by decide +kernel
theorem dL_law_1319 : decode cL_law 1319 = .ok (.iadd, 1) := by decide +kernel
theorem dL_law_1320 : decode cL_law 1320 = .ok (.iaload, 1) := by decide +kernel
theorem dL_law_1321 : decode cL_law 1321 = .ok (.aload_n 0, 1) := by decide +kernel
theorem dL_law_1322 : decode cL_law 1322 = .ok (.iload 4, 2) := by decide +kernel
theorem dL_law_1324 : decode cL_law 1324 = .ok (.iconst 3, 1) := by decide +kernel
theorem dL_law_1325 : decode cL_law 1325 = .ok (.iadd, 1) := by decide +kernel
theorem dL_law_1326 : decode cL_law 1326 = .ok (.iaload, 1) := by decide +kernel
theorem dL_law_1327 : decode cL_law 1327 = .ok (.invokevirtual 149, 3) := by decide +kernel
theorem dL_law_1330 : decode cL_law 1330 = .ok (.if_icmp .eq 423, 3) := by decide +kernel
theorem dL_law_1333 : decode cL_law 1333 = .ok (.iconst 0, 1) := by decide +kernel
theorem dL_law_1334 : decode cL_law 1334 = .ok (.ireturn, 1) := by decide +kernel
theorem dL_law_1335 : decode cL_law 1335 = .ok (.aload_n 1, 1) := by decide +kernel
theorem dL_law_1336 : decode cL_law 1336 = .ok (.invokevirtual 150, 3) := by decide +kernel
theorem dL_law_1339 : decode cL_law 1339 = .ok (.aload_n 2, 1) := by decide +kernel
theorem dL_law_1340 : decode cL_law 1340 = .ok (.invokevirtual 153, 3) := by decide +kernel
theorem dL_law_1343 : decode cL_law 1343 = .ok (.if_icmp .eq 410, 3) := by decide +kernel
theorem dL_law_1346 : decode cL_law 1346 = .ok (.iconst 0, 1) := by decide +kernel
theorem dL_law_1347 : decode cL_law 1347 = .ok (.ireturn, 1) := by decide +kernel
theorem dL_law_1348 : decode cL_law 1348 = .ok (.aload_n 1, 1) := by decide +kernel
theorem dL_law_1349 : decode cL_law 1349 = .ok (.invokevirtual 154, 3) := by decide +kernel
theorem dL_law_1352 : decode cL_law 1352 = .ok (.aload_n 2, 1) := by decide +kernel
theorem dL_law_1353 : decode cL_law 1353 = .ok (.invokevirtual 157, 3) := by decide +kernel
theorem dL_law_1356 : decode cL_law 1356 = .ok (.if_icmp .eq 397, 3) := by decide +kernel
theorem dL_law_1359 : decode cL_law 1359 = .ok (.iconst 0, 1) := by decide +kernel
theorem dL_law_1360 : decode cL_law 1360 = .ok (.ireturn, 1) := by decide +kernel
theorem dL_law_1361 : decode cL_law 1361 = .ok (.aload_n 1, 1) := by decide +kernel
theorem dL_law_1362 : decode cL_law 1362 = .ok (.aload_n 0, 1) := by decide +kernel
theorem dL_law_1363 : decode cL_law 1363 = .ok (.iload 4, 2) := by decide +kernel
theorem dL_law_1365 : decode cL_law 1365 = .ok (.iconst 1, 1) := by decide +kernel
theorem dL_law_1366 : decode cL_law 1366 = .ok (.iadd, 1) := by decide +kernel
theorem dL_law_1367 : decode cL_law 1367 = .ok (.iaload, 1) := by decide +kernel
theorem dL_law_1368 : decode cL_law 1368 = .ok (.aload_n 0, 1) := by decide +kernel
theorem dL_law_1369 : decode cL_law 1369 = .ok (.iload 4, 2) := by decide +kernel
theorem dL_law_1371 : decode cL_law 1371 = .ok (.iconst 2, 1) := by decide +kernel
theorem dL_law_1372 : decode cL_law 1372 = .ok (.iadd, 1) := by decide +kernel
theorem dL_law_1373 : decode cL_law 1373 = .ok (.iaload, 1) := by decide +kernel
theorem dL_law_1374 : decode cL_law 1374 = .ok (.invokevirtual 158, 3) := by decide +kernel
theorem dL_law_1377 : decode cL_law 1377 = .ok (.aload_n 2, 1) := by decide +kernel
theorem dL_law_1378 : decode cL_law 1378 = .ok (.aload_n 0, 1) := by decide +kernel
theorem dL_law_1379 : decode cL_law 1379 = .ok (.iload 4, 2) := by decide +kernel
theorem dL_law_1381 : decode cL_law 1381 = .ok (.iconst 1, 1) := by decide +kernel
theorem dL_law_1382 : decode cL_law 1382 = .ok (.iadd, 1) := by decide +kernel
theorem dL_law_1383 : decode cL_law 1383 = .ok (.iaload, 1) := by decide +kernel
theorem dL_law_1384 : decode cL_law 1384 = .ok (.aload_n 0, 1) := by decide +kernel
theorem dL_law_1385 : decode cL_law 1385 = .ok (.iload 4, 2) := by decide +kernel
theorem dL_law_1387 : decode cL_law 1387 = .ok (.iconst 2, 1) := by decide +kernel
theorem dL_law_1388 : decode cL_law 1388 = .ok (.iadd, 1) := by decide +kernel
theorem dL_law_1389 : decode cL_law 1389 = .ok (.iaload, 1) := by decide +kernel
theorem dL_law_1390 : decode cL_law 1390 = .ok (.invokevirtual 161, 3) := by decide +kernel
theorem dL_law_1393 : decode cL_law 1393 = .ok (.if_icmp .eq 360, 3) := by decide +kernel
theorem dL_law_1396 : decode cL_law 1396 = .ok (.iconst 0, 1) := by decide +kernel
theorem dL_law_1397 : decode cL_law 1397 = .ok (.ireturn, 1) := by decide +kernel
theorem dL_law_1398 : decode cL_law 1398 = .ok (.aload_n 1, 1) := by decide +kernel
theorem dL_law_1399 : decode cL_law 1399 = .ok (.aload_n 0, 1) := by decide +kernel
theorem dL_law_1400 : decode cL_law 1400 = .ok (.iload 4, 2) := by decide +kernel
theorem dL_law_1402 : decode cL_law 1402 = .ok (.iconst 1, 1) := by decide +kernel
theorem dL_law_1403 : decode cL_law 1403 = .ok (.iadd, 1) := by decide +kernel
theorem dL_law_1404 : decode cL_law 1404 = .ok (.iaload, 1) := by decide +kernel
theorem dL_law_1405 : decode cL_law 1405 = .ok (.invokevirtual 162, 3) := by decide +kernel
theorem dL_law_1408 : decode cL_law 1408 = .ok (.aload_n 2, 1) := by decide +kernel
theorem dL_law_1409 : decode cL_law 1409 = .ok (.aload_n 0, 1) := by decide +kernel
theorem dL_law_1410 : decode cL_law 1410 = .ok (.iload 4, 2) := by decide +kernel
theorem dL_law_1412 : decode cL_law 1412 = .ok (.iconst 1, 1) := by decide +kernel
theorem dL_law_1413 : decode cL_law 1413 = .ok (.iadd, 1) := by decide +kernel
theorem dL_law_1414 : decode cL_law 1414 = .ok (.iaload, 1) := by decide +kernel
theorem dL_law_1415 : decode cL_law 1415 = .ok (.invokevirtual 165, 3) := by decide +kernel
theorem dL_law_1418 : decode cL_law 1418 = .ok (.if_icmp .eq 335, 3) := by decide +kernel
theorem dL_law_1421 : decode cL_law 1421 = .ok (.iconst 0, 1) := by decide +kernel
theorem dL_law_1422 : decode cL_law 1422 = .ok (.ireturn, 1) := by decide +kernel
theorem dL_law_1423 : decode cL_law 1423 = .ok (.aload_n 1, 1) := by decide +kernel
theorem dL_law_1424 : decode cL_law 1424 = .ok (.aload_n 0, 1) := by decide +kernel
theorem dL_law_1425 : decode cL_law 1425 = .ok (.iload 4, 2) := by decide +kernel
theorem dL_law_1427 : decode cL_law 1427 = .ok (.iconst 1, 1) := by decide +kernel
theorem dL_law_1428 : decode cL_law 1428 = .ok (.iadd, 1) := by decide +kernel
theorem dL_law_1429 : decode cL_law 1429 = .ok (.iaload, 1) := by decide +kernel
theorem dL_law_1430 : decode cL_law 1430 = .ok (.aload_n 0, 1) := by decide +kernel
theorem dL_law_1431 : decode cL_law 1431 = .ok (.iload 4, 2) := by decide +kernel
theorem dL_law_1433 : decode cL_law 1433 = .ok (.iconst 2, 1) := by decide +kernel
theorem dL_law_1434 : decode cL_law 1434 = .ok (.iadd, 1) := by decide +kernel
theorem dL_law_1435 : decode cL_law 1435 = .ok (.iaload, 1) := by decide +kernel
theorem dL_law_1436 : decode cL_law 1436 = .ok (.invokevirtual 166, 3) := by decide +kernel
theorem dL_law_1439 : decode cL_law 1439 = .ok (.aload_n 2, 1) := by decide +kernel
theorem dL_law_1440 : decode cL_law 1440 = .ok (.aload_n 0, 1) := by decide +kernel
theorem dL_law_1441 : decode cL_law 1441 = .ok (.iload 4, 2) := by decide +kernel
theorem dL_law_1443 : decode cL_law 1443 = .ok (.iconst 1, 1) := by decide +kernel
theorem dL_law_1444 : decode cL_law 1444 = .ok (.iadd, 1) := by decide +kernel
theorem dL_law_1445 : decode cL_law 1445 = .ok (.iaload, 1) := by decide +kernel
theorem dL_law_1446 : decode cL_law 1446 = .ok (.aload_n 0, 1) := by decide +kernel
theorem dL_law_1447 : decode cL_law 1447 = .ok (.iload 4, 2) := by decide +kernel
theorem dL_law_1449 : decode cL_law 1449 = .ok (.iconst 2, 1) := by decide +kernel
theorem dL_law_1450 : decode cL_law 1450 = .ok (.iadd, 1) := by decide +kernel
theorem dL_law_1451 : decode cL_law 1451 = .ok (.iaload, 1) := by decide +kernel
theorem dL_law_1452 : decode cL_law 1452 = .ok (.invokevirtual 169, 3) := by decide +kernel
theorem dL_law_1455 : decode cL_law 1455 = .ok (.if_icmp .eq 298, 3) := by decide +kernel
theorem dL_law_1458 : decode cL_law 1458 = .ok (.iconst 0, 1) := by decide +kernel
theorem dL_law_1459 : decode cL_law 1459 = .ok (.ireturn, 1) := by decide +kernel
theorem dL_law_1460 : decode cL_law 1460 = .ok (.aload_n 1, 1) := by decide +kernel
theorem dL_law_1461 : decode cL_law 1461 = .ok (.aload_n 0, 1) := by decide +kernel
theorem dL_law_1462 : decode cL_law 1462 = .ok (.iload 4, 2) := by decide +kernel
theorem dL_law_1464 : decode cL_law 1464 = .ok (.iconst 1, 1) := by decide +kernel
theorem dL_law_1465 : decode cL_law 1465 = .ok (.iadd, 1) := by decide +kernel
theorem dL_law_1466 : decode cL_law 1466 = .ok (.iaload, 1) := by decide +kernel
theorem dL_law_1467 : decode cL_law 1467 = .ok (.invokevirtual 170, 3) := by decide +kernel
theorem dL_law_1470 : decode cL_law 1470 = .ok (.aload_n 2, 1) := by decide +kernel
theorem dL_law_1471 : decode cL_law 1471 = .ok (.aload_n 0, 1) := by decide +kernel
theorem dL_law_1472 : decode cL_law 1472 = .ok (.iload 4, 2) := by decide +kernel
theorem dL_law_1474 : decode cL_law 1474 = .ok (.iconst 1, 1) := by decide +kernel
theorem dL_law_1475 : decode cL_law 1475 = .ok (.iadd, 1) := by decide +kernel
theorem dL_law_1476 : decode cL_law 1476 = .ok (.iaload, 1) := by decide +kernel
theorem dL_law_1477 : decode cL_law 1477 = .ok (.invokevirtual 173, 3) := by decide +kernel
theorem dL_law_1480 : decode cL_law 1480 = .ok (.if_icmp .eq 273, 3) := by decide +kernel
theorem dL_law_1483 : decode cL_law 1483 = .ok (.iconst 0, 1) := by decide +kernel
theorem dL_law_1484 : decode cL_law 1484 = .ok (.ireturn, 1) := by decide +kernel
theorem dL_law_1485 : decode cL_law 1485 = .ok (.aload_n 1, 1) := by decide +kernel
theorem dL_law_1486 : decode cL_law 1486 = .ok (.aload_n 0, 1) := by decide +kernel
theorem dL_law_1487 : decode cL_law 1487 = .ok (.iload 4, 2) := by decide +kernel
theorem dL_law_1489 : decode cL_law 1489 = .ok (.iconst 1, 1) := by decide +kernel
theorem dL_law_1490 : decode cL_law 1490 = .ok (.iadd, 1) := by decide +kernel
theorem dL_law_1491 : decode cL_law 1491 = .ok (.iaload, 1) := by decide +kernel
theorem dL_law_1492 : decode cL_law 1492 = .ok (.invokevirtual 174, 3) := by decide +kernel
theorem dL_law_1495 : decode cL_law 1495 = .ok (.aload_n 2, 1) := by decide +kernel
theorem dL_law_1496 : decode cL_law 1496 = .ok (.aload_n 0, 1) := by decide +kernel
theorem dL_law_1497 : decode cL_law 1497 = .ok (.iload 4, 2) := by decide +kernel
theorem dL_law_1499 : decode cL_law 1499 = .ok (.iconst 1, 1) := by decide +kernel
theorem dL_law_1500 : decode cL_law 1500 = .ok (.iadd, 1) := by decide +kernel
theorem dL_law_1501 : decode cL_law 1501 = .ok (.iaload, 1) := by decide +kernel
theorem dL_law_1502 : decode cL_law 1502 = .ok (.invokevirtual 177, 3) := by decide +kernel
theorem dL_law_1505 : decode cL_law 1505 = .ok (.if_icmp .eq 248, 3) := by decide +kernel
theorem dL_law_1508 : decode cL_law 1508 = .ok (.iconst 0, 1) := by decide +kernel
theorem dL_law_1509 : decode cL_law 1509 = .ok (.ireturn, 1) := by decide +kernel
theorem dL_law_1510 : decode cL_law 1510 = .ok (.aload_n 1, 1) := by decide +kernel
theorem dL_law_1511 : decode cL_law 1511 = .ok (.aload_n 0, 1) := by decide +kernel
theorem dL_law_1512 : decode cL_law 1512 = .ok (.iload 4, 2) := by decide +kernel
theorem dL_law_1514 : decode cL_law 1514 = .ok (.iconst 1, 1) := by decide +kernel
theorem dL_law_1515 : decode cL_law 1515 = .ok (.iadd, 1) := by decide +kernel
theorem dL_law_1516 : decode cL_law 1516 = .ok (.iaload, 1) := by decide +kernel
theorem dL_law_1517 : decode cL_law 1517 = .ok (.invokevirtual 178, 3) := by decide +kernel
theorem dL_law_1520 : decode cL_law 1520 = .ok (.aload_n 2, 1) := by decide +kernel
theorem dL_law_1521 : decode cL_law 1521 = .ok (.aload_n 0, 1) := by decide +kernel
theorem dL_law_1522 : decode cL_law 1522 = .ok (.iload 4, 2) := by decide +kernel
theorem dL_law_1524 : decode cL_law 1524 = .ok (.iconst 1, 1) := by decide +kernel
theorem dL_law_1525 : decode cL_law 1525 = .ok (.iadd, 1) := by decide +kernel
theorem dL_law_1526 : decode cL_law 1526 = .ok (.iaload, 1) := by decide +kernel
theorem dL_law_1527 : decode cL_law 1527 = .ok (.invokevirtual 181, 3) := by decide +kernel
theorem dL_law_1530 : decode cL_law 1530 = .ok (.if_icmp .eq 223, 3) := by decide +kernel
theorem dL_law_1533 : decode cL_law 1533 = .ok (.iconst 0, 1) := by decide +kernel
theorem dL_law_1534 : decode cL_law 1534 = .ok (.ireturn, 1) := by decide +kernel
theorem dL_law_1535 : decode cL_law 1535 = .ok (.aload_n 1, 1) := by decide +kernel
theorem dL_law_1536 : decode cL_law 1536 = .ok (.aload_n 0, 1) := by decide +kernel
theorem dL_law_1537 : decode cL_law 1537 = .ok (.iload 4, 2) := by decide +kernel
theorem dL_law_1539 : decode cL_law 1539 = .ok (.iconst 1, 1) := by decide +kernel
theorem dL_law_1540 : decode cL_law 1540 = .ok (.iadd, 1) := by decide +kernel
theorem dL_law_1541 : decode cL_law 1541 = .ok (.iaload, 1) := by decide +kernel
theorem dL_law_1542 : decode cL_law 1542 = .ok (.aload_n 0, 1) := by decide +kernel
theorem dL_law_1543 : decode cL_law 1543 = .ok (.iload 4, 2) := by decide +kernel
theorem dL_law_1545 : decode cL_law 1545 = .ok (.iconst 2, 1) := by decide +kernel
theorem dL_law_1546 : decode cL_law 1546 = .ok (.iadd, 1) := by decide +kernel
theorem dL_law_1547 : decode cL_law 1547 = .ok (.iaload, 1) := by decide +kernel
theorem dL_law_1548 : decode cL_law 1548 = .ok (.invokevirtual 182, 3) := by decide +kernel
theorem dL_law_1551 : decode cL_law 1551 = .ok (.aload_n 2, 1) := by decide +kernel
theorem dL_law_1552 : decode cL_law 1552 = .ok (.aload_n 0, 1) := by decide +kernel
theorem dL_law_1553 : decode cL_law 1553 = .ok (.iload 4, 2) := by decide +kernel
theorem dL_law_1555 : decode cL_law 1555 = .ok (.iconst 1, 1) := by decide +kernel
theorem dL_law_1556 : decode cL_law 1556 = .ok (.iadd, 1) := by decide +kernel
theorem dL_law_1557 : decode cL_law 1557 = .ok (.iaload, 1) := by decide +kernel
theorem dL_law_1558 : decode cL_law 1558 = .ok (.aload_n 0, 1) := by decide +kernel
theorem dL_law_1559 : decode cL_law 1559 = .ok (.iload 4, 2) := by decide +kernel
theorem dL_law_1561 : decode cL_law 1561 = .ok (.iconst 2, 1) := by decide +kernel
theorem dL_law_1562 : decode cL_law 1562 = .ok (.iadd, 1) := by decide +kernel
theorem dL_law_1563 : decode cL_law 1563 = .ok (.iaload, 1) := by decide +kernel
theorem dL_law_1564 : decode cL_law 1564 = .ok (.invokevirtual 185, 3) := by decide +kernel
theorem dL_law_1567 : decode cL_law 1567 = .ok (.if_icmp .eq 186, 3) := by decide +kernel
theorem dL_law_1570 : decode cL_law 1570 = .ok (.iconst 0, 1) := by decide +kernel
theorem dL_law_1571 : decode cL_law 1571 = .ok (.ireturn, 1) := by decide +kernel
theorem dL_law_1572 : decode cL_law 1572 = .ok (.aload_n 1, 1) := by decide +kernel
theorem dL_law_1573 : decode cL_law 1573 = .ok (.aload_n 0, 1) := by decide +kernel
theorem dL_law_1574 : decode cL_law 1574 = .ok (.iload 4, 2) := by decide +kernel
theorem dL_law_1576 : decode cL_law 1576 = .ok (.iconst 1, 1) := by decide +kernel
theorem dL_law_1577 : decode cL_law 1577 = .ok (.iadd, 1) := by decide +kernel
theorem dL_law_1578 : decode cL_law 1578 = .ok (.iaload, 1) := by decide +kernel
theorem dL_law_1579 : decode cL_law 1579 = .ok (.aload_n 0, 1) := by decide +kernel
theorem dL_law_1580 : decode cL_law 1580 = .ok (.iload 4, 2) := by decide +kernel
theorem dL_law_1582 : decode cL_law 1582 = .ok (.iconst 2, 1) := by decide +kernel
theorem dL_law_1583 : decode cL_law 1583 = .ok (.iadd, 1) := by decide +kernel
theorem dL_law_1584 : decode cL_law 1584 = .ok (.iaload, 1) := by decide +kernel
theorem dL_law_1585 : decode cL_law 1585 = .ok (.invokevirtual 186, 3) := by decide +kernel
theorem dL_law_1588 : decode cL_law 1588 = .ok (.aload_n 2, 1) := by decide +kernel
theorem dL_law_1589 : decode cL_law 1589 = .ok (.aload_n 0, 1) := by decide +kernel
theorem dL_law_1590 : decode cL_law 1590 = .ok (.iload 4, 2) := by decide +kernel
theorem dL_law_1592 : decode cL_law 1592 = .ok (.iconst 1, 1) := by decide +kernel
theorem dL_law_1593 : decode cL_law 1593 = .ok (.iadd, 1) := by decide +kernel
theorem dL_law_1594 : decode cL_law 1594 = .ok (.iaload, 1) := by decide +kernel
theorem dL_law_1595 : decode cL_law 1595 = .ok (.aload_n 0, 1) := by decide +kernel
theorem dL_law_1596 : decode cL_law 1596 = .ok (.iload 4, 2) := by decide +kernel
theorem dL_law_1598 : decode cL_law 1598 = .ok (.iconst 2, 1) := by decide +kernel
theorem dL_law_1599 : decode cL_law 1599 = .ok (.iadd, 1) := by decide +kernel
theorem dL_law_1600 : decode cL_law 1600 = .ok (.iaload, 1) := by decide +kernel
theorem dL_law_1601 : decode cL_law 1601 = .ok (.invokevirtual 189, 3) := by decide +kernel
theorem dL_law_1604 : decode cL_law 1604 = .ok (.if_icmp .eq 149, 3) := by decide +kernel
theorem dL_law_1607 : decode cL_law 1607 = .ok (.iconst 0, 1) := by decide +kernel
theorem dL_law_1608 : decode cL_law 1608 = .ok (.ireturn, 1) := by decide +kernel
theorem dL_law_1609 : decode cL_law 1609 = .ok (.aload_n 1, 1) := by decide +kernel
theorem dL_law_1610 : decode cL_law 1610 = .ok (.aload_n 0, 1) := by decide +kernel
theorem dL_law_1611 : decode cL_law 1611 = .ok (.iload 4, 2) := by decide +kernel
theorem dL_law_1613 : decode cL_law 1613 = .ok (.iconst 1, 1) := by decide +kernel
theorem dL_law_1614 : decode cL_law 1614 = .ok (.iadd, 1) := by decide +kernel
theorem dL_law_1615 : decode cL_law 1615 = .ok (.iaload, 1) := by decide +kernel
theorem dL_law_1616 : decode cL_law 1616 = .ok (.aload_n 0, 1) := by decide +kernel
