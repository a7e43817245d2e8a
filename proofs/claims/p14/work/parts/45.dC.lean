theorem dM_58_0 : decode prog_8_method_3_code 0 = .ok (.aload_n 0, 1) := by decide +kernel
theorem dM_58_1 : decode prog_8_method_3_code 1 = .ok (.iconst 0, 1) := by decide +kernel
theorem dM_58_2 : decode prog_8_method_3_code 2 = .ok (.putfield 21, 3) := by decide +kernel
theorem dM_58_5 : decode prog_8_method_3_code 5 = .ok (.aload_n 0, 1) := by decide +kernel
theorem dM_58_6 : decode prog_8_method_3_code 6 = .ok (.iconst 0, 1) := by decide +kernel
theorem dM_58_7 : decode prog_8_method_3_code 7 = .ok (.putfield 28, 3) := by decide +kernel
theorem dM_58_10 : decode prog_8_method_3_code 10 = .ok (.aload_n 0, 1) := by decide +kernel
theorem dM_58_11 : decode prog_8_method_3_code 11 = .ok (.getfield 18, 3) := by decide +kernel
theorem dM_58_14 : decode prog_8_method_3_code 14 = .ok (.iconst (-1), 1) := by decide +kernel
theorem dM_58_15 : decode prog_8_method_3_code 15 = .ok (.invokestatic 31, 3) := by decide +kernel
theorem dM_58_18 : decode prog_8_method_3_code 18 = .ok (.aload_n 0, 1) := by decide +kernel
theorem dM_58_19 : decode prog_8_method_3_code 19 = .ok (.iconst 0, 1) := by decide +kernel
theorem dM_58_20 : decode prog_8_method_3_code 20 = .ok (.putfield 25, 3) := by decide +kernel
theorem dM_58_23 : decode prog_8_method_3_code 23 = .ok (.aload_n 0, 1) := by decide +kernel
theorem dM_58_24 : decode prog_8_method_3_code 24 = .ok (.iload_n 3, 1) := by decide +kernel
theorem dM_58_25 : decode prog_8_method_3_code 25 = .ok (.invokevirtual 37, 3) := by decide +kernel
theorem dM_58_28 : decode prog_8_method_3_code 28 = .ok (.iconst 0, 1) := by decide +kernel
theorem dM_58_29 : decode prog_8_method_3_code 29 = .ok (.istore 4, 2) := by decide +kernel
theorem dM_58_31 : decode prog_8_method_3_code 31 = .ok (.iload 4, 2) := by decide +kernel
theorem dM_58_33 : decode prog_8_method_3_code 33 = .ok (.sipush 200, 3) := by decide +kernel
theorem dM_58_36 : decode prog_8_method_3_code 36 = .ok (.if_icmp .ge 76, 3) := by decide +kernel
theorem dM_58_39 : decode prog_8_method_3_code 39 = .ok (.aload_n 0, 1) := by decide +kernel
theorem dM_58_40 : decode prog_8_method_3_code 40 = .ok (.getfield 25, 3) := by decide +kernel
theorem dM_58_43 : decode prog_8_method_3_code 43 = .ok (.ifCond .le 69, 3) := by decide +kernel
theorem dM_58_46 : decode prog_8_method_3_code 46 = .ok (.aload_n 0, 1) := by decide +kernel
theorem dM_58_47 : decode prog_8_method_3_code 47 = .ok (.getfield 25, 3) := by decide +kernel
theorem dM_58_50 : decode prog_8_method_3_code 50 = .ok (.sipush 604, 3) := by decide +kernel
theorem dM_58_53 : decode prog_8_method_3_code 53 = .ok (.if_icmp .gt 59, 3) := by decide +kernel
theorem dM_58_56 : decode prog_8_method_3_code 56 = .ok (.aload_n 0, 1) := by decide +kernel
theorem dM_58_57 : decode prog_8_method_3_code 57 = .ok (.dup, 1) := by decide +kernel
theorem dM_58_58 : decode prog_8_method_3_code 58 = .ok (.getfield 25, 3) := by decide +kernel
theorem dM_58_61 : decode prog_8_method_3_code 61 = .ok (.iconst 1, 1) := by decide +kernel
theorem dM_58_62 : decode prog_8_method_3_code 62 = .ok (.isub, 1) := by decide +kernel
theorem dM_58_63 : decode prog_8_method_3_code 63 = .ok (.putfield 25, 3) := by decide +kernel
theorem dM_58_66 : decode prog_8_method_3_code 66 = .ok (.aload_n 0, 1) := by decide +kernel
theorem dM_58_67 : decode prog_8_method_3_code 67 = .ok (.getfield 15, 3) := by decide +kernel
theorem dM_58_70 : decode prog_8_method_3_code 70 = .ok (.aload_n 0, 1) := by decide +kernel
theorem dM_58_71 : decode prog_8_method_3_code 71 = .ok (.getfield 25, 3) := by decide +kernel
theorem dM_58_74 : decode prog_8_method_3_code 74 = .ok (.iaload, 1) := by decide +kernel
theorem dM_58_75 : decode prog_8_method_3_code 75 = .ok (.istore 5, 2) := by decide +kernel
theorem dM_58_77 : decode prog_8_method_3_code 77 = .ok (.iload 5, 2) := by decide +kernel
theorem dM_58_79 : decode prog_8_method_3_code 79 = .ok (.ifCond .ge 13, 3) := by decide +kernel
theorem dM_58_82 : decode prog_8_method_3_code 82 = .ok (.aload_n 0, 1) := by decide +kernel
theorem dM_58_83 : decode prog_8_method_3_code 83 = .ok (.iload 5, 2) := by decide +kernel
theorem dM_58_85 : decode prog_8_method_3_code 85 = .ok (.ineg, 1) := by decide +kernel
theorem dM_58_86 : decode prog_8_method_3_code 86 = .ok (.invokevirtual 41, 3) := by decide +kernel
theorem dM_58_89 : decode prog_8_method_3_code 89 = .ok (.goto 17, 3) := by decide +kernel
theorem dM_58_92 : decode prog_8_method_3_code 92 = .ok (.aload_n 0, 1) := by decide +kernel
theorem dM_58_93 : decode prog_8_method_3_code 93 = .ok (.aload_n 1, 1) := by decide +kernel
theorem dM_58_94 : decode prog_8_method_3_code 94 = .ok (.aload_n 2, 1) := by decide +kernel
theorem dM_58_95 : decode prog_8_method_3_code 95 = .ok (.getfield 44, 3) := by decide +kernel
theorem dM_58_98 : decode prog_8_method_3_code 98 = .ok (.iload 5, 2) := by decide +kernel
theorem dM_58_100 : decode prog_8_method_3_code 100 = .ok (.invokestatic 49, 3) := by decide +kernel
theorem dM_58_103 : decode prog_8_method_3_code 103 = .ok (.invokevirtual 53, 3) := by decide +kernel
theorem dM_58_106 : decode prog_8_method_3_code 106 = .ok (.iinc 4 1, 3) := by decide +kernel
theorem dM_58_109 : decode prog_8_method_3_code 109 = .ok (.goto (-78), 3) := by decide +kernel
theorem dM_58_112 : decode prog_8_method_3_code 112 = .ok (.return_, 1) := by decide +kernel
theorem dM_59_0 : decode prog_8_method_7_code 0 = .ok (.aload_n 0, 1) := by decide +kernel
theorem dM_59_1 : decode prog_8_method_7_code 1 = .ok (.getfield 25, 3) := by decide +kernel
theorem dM_59_4 : decode prog_8_method_7_code 4 = .ok (.ifCond .lt 33, 3) := by decide +kernel
theorem dM_59_7 : decode prog_8_method_7_code 7 = .ok (.aload_n 0, 1) := by decide +kernel
theorem dM_59_8 : decode prog_8_method_7_code 8 = .ok (.getfield 25, 3) := by decide +kernel
theorem dM_59_11 : decode prog_8_method_7_code 11 = .ok (.sipush 604, 3) := by decide +kernel
theorem dM_59_14 : decode prog_8_method_7_code 14 = .ok (.if_icmp .ge 23, 3) := by decide +kernel
theorem dM_59_17 : decode prog_8_method_7_code 17 = .ok (.aload_n 0, 1) := by decide +kernel
theorem dM_59_18 : decode prog_8_method_7_code 18 = .ok (.getfield 15, 3) := by decide +kernel
theorem dM_59_21 : decode prog_8_method_7_code 21 = .ok (.aload_n 0, 1) := by decide +kernel
theorem dM_59_22 : decode prog_8_method_7_code 22 = .ok (.getfield 25, 3) := by decide +kernel
theorem dM_59_25 : decode prog_8_method_7_code 25 = .ok (.iload_n 1, 1) := by decide +kernel
theorem dM_59_26 : decode prog_8_method_7_code 26 = .ok (.iastore, 1) := by decide +kernel
theorem dM_59_27 : decode prog_8_method_7_code 27 = .ok (.aload_n 0, 1) := by decide +kernel
theorem dM_59_28 : decode prog_8_method_7_code 28 = .ok (.dup, 1) := by decide +kernel
theorem dM_59_29 : decode prog_8_method_7_code 29 = .ok (.getfield 25, 3) := by decide +kernel
theorem dM_59_32 : decode prog_8_method_7_code 32 = .ok (.iconst 1, 1) := by decide +kernel
theorem dM_59_33 : decode prog_8_method_7_code 33 = .ok (.iadd, 1) := by decide +kernel
theorem dM_59_34 : decode prog_8_method_7_code 34 = .ok (.putfield 25, 3) := by decide +kernel
theorem dM_59_37 : decode prog_8_method_7_code 37 = .ok (.return_, 1) := by decide +kernel
theorem dM_60_0 : decode prog_8_method_6_code 0 = .ok (.aload_n 0, 1) := by decide +kernel
theorem dM_60_1 : decode prog_8_method_6_code 1 = .ok (.getfield 21, 3) := by decide +kernel
theorem dM_60_4 : decode prog_8_method_6_code 4 = .ok (.ifCond .lt 33, 3) := by decide +kernel
theorem dM_60_7 : decode prog_8_method_6_code 7 = .ok (.aload_n 0, 1) := by decide +kernel
theorem dM_60_8 : decode prog_8_method_6_code 8 = .ok (.getfield 21, 3) := by decide +kernel
theorem dM_60_11 : decode prog_8_method_6_code 11 = .ok (.sipush 200, 3) := by decide +kernel
theorem dM_60_14 : decode prog_8_method_6_code 14 = .ok (.if_icmp .ge 23, 3) := by decide +kernel
theorem dM_60_17 : decode prog_8_method_6_code 17 = .ok (.aload_n 0, 1) := by decide +kernel
theorem dM_60_18 : decode prog_8_method_6_code 18 = .ok (.getfield 9, 3) := by decide +kernel
theorem dM_60_21 : decode prog_8_method_6_code 21 = .ok (.aload_n 0, 1) := by decide +kernel
theorem dM_60_22 : decode prog_8_method_6_code 22 = .ok (.getfield 21, 3) := by decide +kernel
theorem dM_60_25 : decode prog_8_method_6_code 25 = .ok (.iload_n 1, 1) := by decide +kernel
theorem dM_60_26 : decode prog_8_method_6_code 26 = .ok (.iastore, 1) := by decide +kernel
theorem dM_60_27 : decode prog_8_method_6_code 27 = .ok (.aload_n 0, 1) := by decide +kernel
theorem dM_60_28 : decode prog_8_method_6_code 28 = .ok (.dup, 1) := by decide +kernel
theorem dM_60_29 : decode prog_8_method_6_code 29 = .ok (.getfield 21, 3) := by decide +kernel
theorem dM_60_32 : decode prog_8_method_6_code 32 = .ok (.iconst 1, 1) := by decide +kernel
theorem dM_60_33 : decode prog_8_method_6_code 33 = .ok (.iadd, 1) := by decide +kernel
theorem dM_60_34 : decode prog_8_method_6_code 34 = .ok (.putfield 21, 3) := by decide +kernel
theorem dM_60_37 : decode prog_8_method_6_code 37 = .ok (.return_, 1) := by decide +kernel
theorem dM_61_0 : decode prog_8_method_4_code 0 = .ok (.iload_n 2, 1) := by decide +kernel
theorem dM_61_1 : decode prog_8_method_4_code 1 = .ok (.invokestatic 57, 3) := by decide +kernel
theorem dM_61_4 : decode prog_8_method_4_code 4 = .ok (.ifCond .eq 44, 3) := by decide +kernel
theorem dM_61_7 : decode prog_8_method_4_code 7 = .ok (.aload_n 0, 1) := by decide +kernel
theorem dM_61_8 : decode prog_8_method_4_code 8 = .ok (.bipush 40, 2) := by decide +kernel
theorem dM_61_10 : decode prog_8_method_4_code 10 = .ok (.invokevirtual 41, 3) := by decide +kernel
theorem dM_61_13 : decode prog_8_method_4_code 13 = .ok (.aload_n 0, 1) := by decide +kernel
theorem dM_61_14 : decode prog_8_method_4_code 14 = .ok (.bipush (-41), 2) := by decide +kernel
theorem dM_61_16 : decode prog_8_method_4_code 16 = .ok (.invokevirtual 37, 3) := by decide +kernel
theorem dM_61_19 : decode prog_8_method_4_code 19 = .ok (.aload_n 0, 1) := by decide +kernel
theorem dM_61_20 : decode prog_8_method_4_code 20 = .ok (.aload_n 1, 1) := by decide +kernel
theorem dM_61_21 : decode prog_8_method_4_code 21 = .ok (.iload_n 2, 1) := by decide +kernel
theorem dM_61_22 : decode prog_8_method_4_code 22 = .ok (.iconst 1, 1) := by decide +kernel
theorem dM_61_23 : decode prog_8_method_4_code 23 = .ok (.invokevirtual 61, 3) := by decide +kernel
theorem dM_61_26 : decode prog_8_method_4_code 26 = .ok (.invokevirtual 37, 3) := by decide +kernel
theorem dM_61_29 : decode prog_8_method_4_code 29 = .ok (.aload_n 0, 1) := by decide +kernel
theorem dM_61_30 : decode prog_8_method_4_code 30 = .ok (.bipush (-46), 2) := by decide +kernel
theorem dM_61_32 : decode prog_8_method_4_code 32 = .ok (.invokevirtual 37, 3) := by decide +kernel
theorem dM_61_35 : decode prog_8_method_4_code 35 = .ok (.aload_n 0, 1) := by decide +kernel
theorem dM_61_36 : decode prog_8_method_4_code 36 = .ok (.aload_n 1, 1) := by decide +kernel
theorem dM_61_37 : decode prog_8_method_4_code 37 = .ok (.iload_n 2, 1) := by decide +kernel
theorem dM_61_38 : decode prog_8_method_4_code 38 = .ok (.iconst 0, 1) := by decide +kernel
theorem dM_61_39 : decode prog_8_method_4_code 39 = .ok (.invokevirtual 61, 3) := by decide +kernel
theorem dM_61_42 : decode prog_8_method_4_code 42 = .ok (.invokevirtual 37, 3) := by decide +kernel
theorem dM_61_45 : decode prog_8_method_4_code 45 = .ok (.goto 62, 3) := by decide +kernel
theorem dM_61_48 : decode prog_8_method_4_code 48 = .ok (.iload_n 2, 1) := by decide +kernel
theorem dM_61_49 : decode prog_8_method_4_code 49 = .ok (.sipush 138, 3) := by decide +kernel
theorem dM_61_52 : decode prog_8_method_4_code 52 = .ok (.if_icmp .ne 12, 3) := by decide +kernel
theorem dM_61_55 : decode prog_8_method_4_code 55 = .ok (.aload_n 0, 1) := by decide +kernel
theorem dM_61_56 : decode prog_8_method_4_code 56 = .ok (.bipush 110, 2) := by decide +kernel
theorem dM_61_58 : decode prog_8_method_4_code 58 = .ok (.invokevirtual 41, 3) := by decide +kernel
theorem dM_61_61 : decode prog_8_method_4_code 61 = .ok (.goto 46, 3) := by decide +kernel
theorem dM_61_64 : decode prog_8_method_4_code 64 = .ok (.iload_n 2, 1) := by decide +kernel
theorem dM_61_65 : decode prog_8_method_4_code 65 = .ok (.invokestatic 67, 3) := by decide +kernel
theorem dM_61_68 : decode prog_8_method_4_code 68 = .ok (.ifCond .eq 27, 3) := by decide +kernel
theorem dM_61_71 : decode prog_8_method_4_code 71 = .ok (.aload_n 0, 1) := by decide +kernel
theorem dM_61_72 : decode prog_8_method_4_code 72 = .ok (.bipush 95, 2) := by decide +kernel
theorem dM_61_74 : decode prog_8_method_4_code 74 = .ok (.invokevirtual 41, 3) := by decide +kernel
theorem dM_61_77 : decode prog_8_method_4_code 77 = .ok (.aload_n 0, 1) := by decide +kernel
theorem dM_61_78 : decode prog_8_method_4_code 78 = .ok (.bipush 48, 2) := by decide +kernel
theorem dM_61_80 : decode prog_8_method_4_code 80 = .ok (.aload_n 0, 1) := by decide +kernel
theorem dM_61_81 : decode prog_8_method_4_code 81 = .ok (.iload_n 2, 1) := by decide +kernel
theorem dM_61_82 : decode prog_8_method_4_code 82 = .ok (.invokevirtual 70, 3) := by decide +kernel
theorem dM_61_85 : decode prog_8_method_4_code 85 = .ok (.bipush 10, 2) := by decide +kernel
theorem dM_61_87 : decode prog_8_method_4_code 87 = .ok (.irem, 1) := by decide +kernel
theorem dM_61_88 : decode prog_8_method_4_code 88 = .ok (.iadd, 1) := by decide +kernel
theorem dM_61_89 : decode prog_8_method_4_code 89 = .ok (.invokevirtual 41, 3) := by decide +kernel
theorem dM_61_92 : decode prog_8_method_4_code 92 = .ok (.goto 15, 3) := by decide +kernel
theorem dM_61_95 : decode prog_8_method_4_code 95 = .ok (.aload_n 0, 1) := by decide +kernel
theorem dM_61_96 : decode prog_8_method_4_code 96 = .ok (.bipush 48, 2) := by decide +kernel
theorem dM_61_98 : decode prog_8_method_4_code 98 = .ok (.iload_n 2, 1) := by decide +kernel
theorem dM_61_99 : decode prog_8_method_4_code 99 = .ok (.iadd, 1) := by decide +kernel
theorem dM_61_100 : decode prog_8_method_4_code 100 = .ok (.sipush 128, 3) := by decide +kernel
theorem dM_61_103 : decode prog_8_method_4_code 103 = .ok (.isub, 1) := by decide +kernel
theorem dM_61_104 : decode prog_8_method_4_code 104 = .ok (.invokevirtual 41, 3) := by decide +kernel
theorem dM_61_107 : decode prog_8_method_4_code 107 = .ok (.return_, 1) := by decide +kernel
theorem dM_62_0 : decode prog_8_method_5_code 0 = .ok (.iload_n 1, 1) := by decide +kernel
theorem dM_62_1 : decode prog_8_method_5_code 1 = .ok (.ifCond .lt 12, 3) := by decide +kernel
theorem dM_62_4 : decode prog_8_method_5_code 4 = .ok (.iload_n 1, 1) := by decide +kernel
theorem dM_62_5 : decode prog_8_method_5_code 5 = .ok (.aload_n 0, 1) := by decide +kernel
theorem dM_62_6 : decode prog_8_method_5_code 6 = .ok (.getfield 18, 3) := by decide +kernel
theorem dM_62_9 : decode prog_8_method_5_code 9 = .ok (.arraylength, 1) := by decide +kernel
theorem dM_62_10 : decode prog_8_method_5_code 10 = .ok (.if_icmp .lt 5, 3) := by decide +kernel
theorem dM_62_13 : decode prog_8_method_5_code 13 = .ok (.iconst 0, 1) := by decide +kernel
theorem dM_62_14 : decode prog_8_method_5_code 14 = .ok (.ireturn, 1) := by decide +kernel
theorem dM_62_15 : decode prog_8_method_5_code 15 = .ok (.aload_n 0, 1) := by decide +kernel
theorem dM_62_16 : decode prog_8_method_5_code 16 = .ok (.getfield 18, 3) := by decide +kernel
theorem dM_62_19 : decode prog_8_method_5_code 19 = .ok (.iload_n 1, 1) := by decide +kernel
theorem dM_62_20 : decode prog_8_method_5_code 20 = .ok (.iaload, 1) := by decide +kernel
theorem dM_62_21 : decode prog_8_method_5_code 21 = .ok (.iconst (-1), 1) := by decide +kernel
theorem dM_62_22 : decode prog_8_method_5_code 22 = .ok (.if_icmp .ne 23, 3) := by decide +kernel
theorem dM_62_25 : decode prog_8_method_5_code 25 = .ok (.aload_n 0, 1) := by decide +kernel
theorem dM_62_26 : decode prog_8_method_5_code 26 = .ok (.getfield 18, 3) := by decide +kernel
theorem dM_62_29 : decode prog_8_method_5_code 29 = .ok (.iload_n 1, 1) := by decide +kernel
theorem dM_62_30 : decode prog_8_method_5_code 30 = .ok (.aload_n 0, 1) := by decide +kernel
theorem dM_62_31 : decode prog_8_method_5_code 31 = .ok (.getfield 28, 3) := by decide +kernel
theorem dM_62_34 : decode prog_8_method_5_code 34 = .ok (.iastore, 1) := by decide +kernel
theorem dM_62_35 : decode prog_8_method_5_code 35 = .ok (.aload_n 0, 1) := by decide +kernel
theorem dM_62_36 : decode prog_8_method_5_code 36 = .ok (.dup, 1) := by decide +kernel
theorem dM_62_37 : decode prog_8_method_5_code 37 = .ok (.getfield 28, 3) := by decide +kernel
theorem dM_62_40 : decode prog_8_method_5_code 40 = .ok (.iconst 1, 1) := by decide +kernel
theorem dM_62_41 : decode prog_8_method_5_code 41 = .ok (.iadd, 1) := by decide +kernel
theorem dM_62_42 : decode prog_8_method_5_code 42 = .ok (.putfield 28, 3) := by decide +kernel
theorem dM_62_45 : decode prog_8_method_5_code 45 = .ok (.aload_n 0, 1) := by decide +kernel
theorem dM_62_46 : decode prog_8_method_5_code 46 = .ok (.getfield 18, 3) := by decide +kernel
theorem dM_62_49 : decode prog_8_method_5_code 49 = .ok (.iload_n 1, 1) := by decide +kernel
theorem dM_62_50 : decode prog_8_method_5_code 50 = .ok (.iaload, 1) := by decide +kernel
theorem dM_62_51 : decode prog_8_method_5_code 51 = .ok (.ireturn, 1) := by decide +kernel
theorem dM_63_0 : decode prog_8_method_2_code 0 = .ok (.iload_n 1, 1) := by decide +kernel
theorem dM_63_1 : decode prog_8_method_2_code 1 = .ok (.ifCond .lt 27, 3) := by decide +kernel
theorem dM_63_4 : decode prog_8_method_2_code 4 = .ok (.iload_n 1, 1) := by decide +kernel
theorem dM_63_5 : decode prog_8_method_2_code 5 = .ok (.aload_n 0, 1) := by decide +kernel
theorem dM_63_6 : decode prog_8_method_2_code 6 = .ok (.getfield 21, 3) := by decide +kernel
theorem dM_63_9 : decode prog_8_method_2_code 9 = .ok (.if_icmp .ge 19, 3) := by decide +kernel
theorem dM_63_12 : decode prog_8_method_2_code 12 = .ok (.iload_n 1, 1) := by decide +kernel
theorem dM_63_13 : decode prog_8_method_2_code 13 = .ok (.sipush 200, 3) := by decide +kernel
theorem dM_63_16 : decode prog_8_method_2_code 16 = .ok (.if_icmp .ge 12, 3) := by decide +kernel
theorem dM_63_19 : decode prog_8_method_2_code 19 = .ok (.aload_n 0, 1) := by decide +kernel
theorem dM_63_20 : decode prog_8_method_2_code 20 = .ok (.getfield 9, 3) := by decide +kernel
theorem dM_63_23 : decode prog_8_method_2_code 23 = .ok (.iload_n 1, 1) := by decide +kernel
theorem dM_63_24 : decode prog_8_method_2_code 24 = .ok (.iaload, 1) := by decide +kernel
theorem dM_63_25 : decode prog_8_method_2_code 25 = .ok (.goto 5, 3) := by decide +kernel
theorem dM_63_28 : decode prog_8_method_2_code 28 = .ok (.bipush (-9), 2) := by decide +kernel
theorem dM_63_30 : decode prog_8_method_2_code 30 = .ok (.ireturn, 1) := by decide +kernel
theorem dM_65_0 : decode prog_9_method_2_code 0 = .ok (.aload_n 0, 1) := by decide +kernel
theorem dM_65_1 : decode prog_9_method_2_code 1 = .ok (.iconst 0, 1) := by decide +kernel
theorem dM_65_2 : decode prog_9_method_2_code 2 = .ok (.putfield 28, 3) := by decide +kernel
theorem dM_65_5 : decode prog_9_method_2_code 5 = .ok (.aload_n 0, 1) := by decide +kernel
theorem dM_65_6 : decode prog_9_method_2_code 6 = .ok (.iconst 0, 1) := by decide +kernel
theorem dM_65_7 : decode prog_9_method_2_code 7 = .ok (.putfield 31, 3) := by decide +kernel
theorem dM_65_10 : decode prog_9_method_2_code 10 = .ok (.aload_n 0, 1) := by decide +kernel
theorem dM_65_11 : decode prog_9_method_2_code 11 = .ok (.iload_n 3, 1) := by decide +kernel
theorem dM_65_12 : decode prog_9_method_2_code 12 = .ok (.iload 4, 2) := by decide +kernel
theorem dM_65_14 : decode prog_9_method_2_code 14 = .ok (.invokevirtual 34, 3) := by decide +kernel
theorem dM_65_17 : decode prog_9_method_2_code 17 = .ok (.istore 5, 2) := by decide +kernel
theorem dM_65_19 : decode prog_9_method_2_code 19 = .ok (.iconst 0, 1) := by decide +kernel
theorem dM_65_20 : decode prog_9_method_2_code 20 = .ok (.istore 6, 2) := by decide +kernel
theorem dM_65_22 : decode prog_9_method_2_code 22 = .ok (.iload 6, 2) := by decide +kernel
theorem dM_65_24 : decode prog_9_method_2_code 24 = .ok (.ldc 38, 2) := by decide +kernel
theorem dM_65_26 : decode prog_9_method_2_code 26 = .ok (.if_icmp .ge 235, 3) := by decide +kernel
theorem dM_65_29 : decode prog_9_method_2_code 29 = .ok (.iload 5, 2) := by decide +kernel
theorem dM_65_31 : decode prog_9_method_2_code 31 = .ok (.ifCond .eq 230, 3) := by decide +kernel
theorem dM_65_34 : decode prog_9_method_2_code 34 = .ok (.aload_n 0, 1) := by decide +kernel
theorem dM_65_35 : decode prog_9_method_2_code 35 = .ok (.getfield 28, 3) := by decide +kernel
theorem dM_65_38 : decode prog_9_method_2_code 38 = .ok (.iconst 1, 1) := by decide +kernel
theorem dM_65_39 : decode prog_9_method_2_code 39 = .ok (.if_icmp .le 222, 3) := by decide +kernel
theorem dM_65_42 : decode prog_9_method_2_code 42 = .ok (.aload_n 0, 1) := by decide +kernel
theorem dM_65_43 : decode prog_9_method_2_code 43 = .ok (.getfield 28, 3) := by decide +kernel
theorem dM_65_46 : decode prog_9_method_2_code 46 = .ok (.sipush 1024, 3) := by decide +kernel
theorem dM_65_49 : decode prog_9_method_2_code 49 = .ok (.if_icmp .gt 212, 3) := by decide +kernel
theorem dM_65_52 : decode prog_9_method_2_code 52 = .ok (.aload_n 0, 1) := by decide +kernel
theorem dM_65_53 : decode prog_9_method_2_code 53 = .ok (.dup, 1) := by decide +kernel
theorem dM_65_54 : decode prog_9_method_2_code 54 = .ok (.getfield 28, 3) := by decide +kernel
theorem dM_65_57 : decode prog_9_method_2_code 57 = .ok (.iconst 2, 1) := by decide +kernel
theorem dM_65_58 : decode prog_9_method_2_code 58 = .ok (.isub, 1) := by decide +kernel
theorem dM_65_59 : decode prog_9_method_2_code 59 = .ok (.putfield 28, 3) := by decide +kernel
theorem dM_65_62 : decode prog_9_method_2_code 62 = .ok (.aload_n 2, 1) := by decide +kernel
theorem dM_65_63 : decode prog_9_method_2_code 63 = .ok (.aload_n 0, 1) := by decide +kernel
theorem dM_65_64 : decode prog_9_method_2_code 64 = .ok (.getfield 9, 3) := by decide +kernel
theorem dM_65_67 : decode prog_9_method_2_code 67 = .ok (.aload_n 0, 1) := by decide +kernel
theorem dM_65_68 : decode prog_9_method_2_code 68 = .ok (.getfield 28, 3) := by decide +kernel
theorem dM_65_71 : decode prog_9_method_2_code 71 = .ok (.iaload, 1) := by decide +kernel
theorem dM_65_72 : decode prog_9_method_2_code 72 = .ok (.invokestatic 39, 3) := by decide +kernel
theorem dM_65_75 : decode prog_9_method_2_code 75 = .ok (.istore 7, 2) := by decide +kernel
theorem dM_65_77 : decode prog_9_method_2_code 77 = .ok (.aload_n 2, 1) := by decide +kernel
theorem dM_65_78 : decode prog_9_method_2_code 78 = .ok (.aload_n 0, 1) := by decide +kernel
theorem dM_65_79 : decode prog_9_method_2_code 79 = .ok (.getfield 9, 3) := by decide +kernel
theorem dM_65_82 : decode prog_9_method_2_code 82 = .ok (.aload_n 0, 1) := by decide +kernel
theorem dM_65_83 : decode prog_9_method_2_code 83 = .ok (.getfield 28, 3) := by decide +kernel
theorem dM_65_86 : decode prog_9_method_2_code 86 = .ok (.iconst 1, 1) := by decide +kernel
theorem dM_65_87 : decode prog_9_method_2_code 87 = .ok (.iadd, 1) := by decide +kernel
theorem dM_65_88 : decode prog_9_method_2_code 88 = .ok (.iaload, 1) := by decide +kernel
theorem dM_65_89 : decode prog_9_method_2_code 89 = .ok (.invokestatic 39, 3) := by decide +kernel
theorem dM_65_92 : decode prog_9_method_2_code 92 = .ok (.istore 8, 2) := by decide +kernel
theorem dM_65_94 : decode prog_9_method_2_code 94 = .ok (.iload 7, 2) := by decide +kernel
theorem dM_65_96 : decode prog_9_method_2_code 96 = .ok (.iload 8, 2) := by decide +kernel
theorem dM_65_98 : decode prog_9_method_2_code 98 = .ok (.if_icmp .ne 6, 3) := by decide +kernel
theorem dM_65_101 : decode prog_9_method_2_code 101 = .ok (.goto 154, 3) := by decide +kernel
theorem dM_65_104 : decode prog_9_method_2_code 104 = .ok (.iload 7, 2) := by decide +kernel
theorem dM_65_106 : decode prog_9_method_2_code 106 = .ok (.invokestatic 43, 3) := by decide +kernel
theorem dM_65_109 : decode prog_9_method_2_code 109 = .ok (.ifCond .eq 38, 3) := by decide +kernel
theorem dM_65_112 : decode prog_9_method_2_code 112 = .ok (.aload_n 0, 1) := by decide +kernel
theorem dM_65_113 : decode prog_9_method_2_code 113 = .ok (.aload_n 1, 1) := by decide +kernel
theorem dM_65_114 : decode prog_9_method_2_code 114 = .ok (.aload_n 2, 1) := by decide +kernel
theorem dM_65_115 : decode prog_9_method_2_code 115 = .ok (.iload 7, 2) := by decide +kernel
theorem dM_65_117 : decode prog_9_method_2_code 117 = .ok (.iload 8, 2) := by decide +kernel
theorem dM_65_119 : decode prog_9_method_2_code 119 = .ok (.invokevirtual 47, 3) := by decide +kernel
theorem dM_65_122 : decode prog_9_method_2_code 122 = .ok (.ifCond .ne 19, 3) := by decide +kernel
theorem dM_65_125 : decode prog_9_method_2_code 125 = .ok (.aload_n 0, 1) := by decide +kernel
theorem dM_65_126 : decode prog_9_method_2_code 126 = .ok (.aload_n 2, 1) := by decide +kernel
theorem dM_65_127 : decode prog_9_method_2_code 127 = .ok (.iload 7, 2) := by decide +kernel
theorem dM_65_129 : decode prog_9_method_2_code 129 = .ok (.iload 8, 2) := by decide +kernel
theorem dM_65_131 : decode prog_9_method_2_code 131 = .ok (.invokevirtual 51, 3) := by decide +kernel
theorem dM_65_134 : decode prog_9_method_2_code 134 = .ok (.ifCond .eq 7, 3) := by decide +kernel
theorem dM_65_137 : decode prog_9_method_2_code 137 = .ok (.iconst 1, 1) := by decide +kernel
theorem dM_65_138 : decode prog_9_method_2_code 138 = .ok (.goto 4, 3) := by decide +kernel
theorem dM_65_141 : decode prog_9_method_2_code 141 = .ok (.iconst 0, 1) := by decide +kernel
theorem dM_65_142 : decode prog_9_method_2_code 142 = .ok (.istore 5, 2) := by decide +kernel
theorem dM_65_144 : decode prog_9_method_2_code 144 = .ok (.goto 111, 3) := by decide +kernel
theorem dM_65_147 : decode prog_9_method_2_code 147 = .ok (.iload 8, 2) := by decide +kernel
theorem dM_65_149 : decode prog_9_method_2_code 149 = .ok (.invokestatic 43, 3) := by decide +kernel
theorem dM_65_152 : decode prog_9_method_2_code 152 = .ok (.ifCond .eq 38, 3) := by decide +kernel
theorem dM_65_155 : decode prog_9_method_2_code 155 = .ok (.aload_n 0, 1) := by decide +kernel
theorem dM_65_156 : decode prog_9_method_2_code 156 = .ok (.aload_n 1, 1) := by decide +kernel
theorem dM_65_157 : decode prog_9_method_2_code 157 = .ok (.aload_n 2, 1) := by decide +kernel
theorem dM_65_158 : decode prog_9_method_2_code 158 = .ok (.iload 8, 2) := by decide +kernel
theorem dM_65_160 : decode prog_9_method_2_code 160 = .ok (.iload 7, 2) := by decide +kernel
theorem dM_65_162 : decode prog_9_method_2_code 162 = .ok (.invokevirtual 47, 3) := by decide +kernel
theorem dM_65_165 : decode prog_9_method_2_code 165 = .ok (.ifCond .ne 19, 3) := by decide +kernel
theorem dM_65_168 : decode prog_9_method_2_code 168 = .ok (.aload_n 0, 1) := by decide +kernel
theorem dM_65_169 : decode prog_9_method_2_code 169 = .ok (.aload_n 2, 1) := by decide +kernel
theorem dM_65_170 : decode prog_9_method_2_code 170 = .ok (.iload 8, 2) := by decide +kernel
theorem dM_65_172 : decode prog_9_method_2_code 172 = .ok (.iload 7, 2) := by decide +kernel
theorem dM_65_174 : decode prog_9_method_2_code 174 = .ok (.invokevirtual 51, 3) := by decide +kernel
theorem dM_65_177 : decode prog_9_method_2_code 177 = .ok (.ifCond .eq 7, 3) := by decide +kernel
theorem dM_65_180 : decode prog_9_method_2_code 180 = .ok (.iconst 1, 1) := by decide +kernel
theorem dM_65_181 : decode prog_9_method_2_code 181 = .ok (.goto 4, 3) := by decide +kernel
theorem dM_65_184 : decode prog_9_method_2_code 184 = .ok (.iconst 0, 1) := by decide +kernel
theorem dM_65_185 : decode prog_9_method_2_code 185 = .ok (.istore 5, 2) := by decide +kernel
theorem dM_65_187 : decode prog_9_method_2_code 187 = .ok (.goto 68, 3) := by decide +kernel
theorem dM_65_190 : decode prog_9_method_2_code 190 = .ok (.iload 7, 2) := by decide +kernel
theorem dM_65_192 : decode prog_9_method_2_code 192 = .ok (.invokestatic 55, 3) := by decide +kernel
theorem dM_65_195 : decode prog_9_method_2_code 195 = .ok (.ifCond .eq 57, 3) := by decide +kernel
theorem dM_65_198 : decode prog_9_method_2_code 198 = .ok (.iload 8, 2) := by decide +kernel
theorem dM_65_200 : decode prog_9_method_2_code 200 = .ok (.invokestatic 55, 3) := by decide +kernel
theorem dM_65_203 : decode prog_9_method_2_code 203 = .ok (.ifCond .eq 49, 3) := by decide +kernel
theorem dM_65_206 : decode prog_9_method_2_code 206 = .ok (.aload_n 0, 1) := by decide +kernel
theorem dM_65_207 : decode prog_9_method_2_code 207 = .ok (.aload_n 1, 1) := by decide +kernel
theorem dM_65_208 : decode prog_9_method_2_code 208 = .ok (.iload 7, 2) := by decide +kernel
theorem dM_65_210 : decode prog_9_method_2_code 210 = .ok (.iconst 1, 1) := by decide +kernel
theorem dM_65_211 : decode prog_9_method_2_code 211 = .ok (.invokevirtual 58, 3) := by decide +kernel
theorem dM_65_214 : decode prog_9_method_2_code 214 = .ok (.aload_n 1, 1) := by decide +kernel
theorem dM_65_215 : decode prog_9_method_2_code 215 = .ok (.iload 8, 2) := by decide +kernel
theorem dM_65_217 : decode prog_9_method_2_code 217 = .ok (.iconst 1, 1) := by decide +kernel
theorem dM_65_218 : decode prog_9_method_2_code 218 = .ok (.invokevirtual 58, 3) := by decide +kernel
theorem dM_65_221 : decode prog_9_method_2_code 221 = .ok (.invokevirtual 34, 3) := by decide +kernel
theorem dM_65_224 : decode prog_9_method_2_code 224 = .ok (.ifCond .eq 28, 3) := by decide +kernel
theorem dM_65_227 : decode prog_9_method_2_code 227 = .ok (.aload_n 0, 1) := by decide +kernel
theorem dM_65_228 : decode prog_9_method_2_code 228 = .ok (.aload_n 1, 1) := by decide +kernel
theorem dM_65_229 : decode prog_9_method_2_code 229 = .ok (.iload 7, 2) := by decide +kernel
theorem dM_65_231 : decode prog_9_method_2_code 231 = .ok (.iconst 0, 1) := by decide +kernel
theorem dM_65_232 : decode prog_9_method_2_code 232 = .ok (.invokevirtual 58, 3) := by decide +kernel
theorem dM_65_235 : decode prog_9_method_2_code 235 = .ok (.aload_n 1, 1) := by decide +kernel
theorem dM_65_236 : decode prog_9_method_2_code 236 = .ok (.iload 8, 2) := by decide +kernel
theorem dM_65_238 : decode prog_9_method_2_code 238 = .ok (.iconst 0, 1) := by decide +kernel
theorem dM_65_239 : decode prog_9_method_2_code 239 = .ok (.invokevirtual 58, 3) := by decide +kernel
theorem dM_65_242 : decode prog_9_method_2_code 242 = .ok (.invokevirtual 34, 3) := by decide +kernel
theorem dM_65_245 : decode prog_9_method_2_code 245 = .ok (.ifCond .eq 7, 3) := by decide +kernel
theorem dM_65_248 : decode prog_9_method_2_code 248 = .ok (.iconst 1, 1) := by decide +kernel
theorem dM_65_249 : decode prog_9_method_2_code 249 = .ok (.goto 4, 3) := by decide +kernel
theorem dM_65_252 : decode prog_9_method_2_code 252 = .ok (.iconst 0, 1) := by decide +kernel
theorem dM_65_253 : decode prog_9_method_2_code 253 = .ok (.istore 5, 2) := by decide +kernel
theorem dM_65_255 : decode prog_9_method_2_code 255 = .ok (.iinc 6 1, 3) := by decide +kernel
theorem dM_65_258 : decode prog_9_method_2_code 258 = .ok (.goto (-236), 3) := by decide +kernel
theorem dM_65_261 : decode prog_9_method_2_code 261 = .ok (.iload 5, 2) := by decide +kernel
theorem dM_65_263 : decode prog_9_method_2_code 263 = .ok (.ifCond .eq 14, 3) := by decide +kernel
theorem dM_65_266 : decode prog_9_method_2_code 266 = .ok (.aload_n 0, 1) := by decide +kernel
theorem dM_65_267 : decode prog_9_method_2_code 267 = .ok (.getfield 28, 3) := by decide +kernel
theorem dM_65_270 : decode prog_9_method_2_code 270 = .ok (.ifCond .ne 7, 3) := by decide +kernel
theorem dM_65_273 : decode prog_9_method_2_code 273 = .ok (.iconst 1, 1) := by decide +kernel
theorem dM_65_274 : decode prog_9_method_2_code 274 = .ok (.goto 4, 3) := by decide +kernel
theorem dM_65_277 : decode prog_9_method_2_code 277 = .ok (.iconst 0, 1) := by decide +kernel
theorem dM_65_278 : decode prog_9_method_2_code 278 = .ok (.ireturn, 1) := by decide +kernel
theorem dM_66_0 : decode prog_9_method_4_code 0 = .ok (.aload_n 0, 1) := by decide +kernel
theorem dM_66_1 : decode prog_9_method_4_code 1 = .ok (.getfield 28, 3) := by decide +kernel
theorem dM_66_4 : decode prog_9_method_4_code 4 = .ok (.ifCond .lt 13, 3) := by decide +kernel
theorem dM_66_7 : decode prog_9_method_4_code 7 = .ok (.aload_n 0, 1) := by decide +kernel
theorem dM_66_8 : decode prog_9_method_4_code 8 = .ok (.getfield 28, 3) := by decide +kernel
theorem dM_66_11 : decode prog_9_method_4_code 11 = .ok (.sipush 1022, 3) := by decide +kernel
theorem dM_66_14 : decode prog_9_method_4_code 14 = .ok (.if_icmp .le 5, 3) := by decide +kernel
theorem dM_66_17 : decode prog_9_method_4_code 17 = .ok (.iconst 0, 1) := by decide +kernel
theorem dM_66_18 : decode prog_9_method_4_code 18 = .ok (.ireturn, 1) := by decide +kernel
theorem dM_66_19 : decode prog_9_method_4_code 19 = .ok (.aload_n 0, 1) := by decide +kernel
theorem dM_66_20 : decode prog_9_method_4_code 20 = .ok (.getfield 9, 3) := by decide +kernel
theorem dM_66_23 : decode prog_9_method_4_code 23 = .ok (.aload_n 0, 1) := by decide +kernel
theorem dM_66_24 : decode prog_9_method_4_code 24 = .ok (.getfield 28, 3) := by decide +kernel
theorem dM_66_27 : decode prog_9_method_4_code 27 = .ok (.iload_n 1, 1) := by decide +kernel
theorem dM_66_28 : decode prog_9_method_4_code 28 = .ok (.iastore, 1) := by decide +kernel
theorem dM_66_29 : decode prog_9_method_4_code 29 = .ok (.aload_n 0, 1) := by decide +kernel
theorem dM_66_30 : decode prog_9_method_4_code 30 = .ok (.getfield 9, 3) := by decide +kernel
theorem dM_66_33 : decode prog_9_method_4_code 33 = .ok (.aload_n 0, 1) := by decide +kernel
theorem dM_66_34 : decode prog_9_method_4_code 34 = .ok (.getfield 28, 3) := by decide +kernel
theorem dM_66_37 : decode prog_9_method_4_code 37 = .ok (.iconst 1, 1) := by decide +kernel
theorem dM_66_38 : decode prog_9_method_4_code 38 = .ok (.iadd, 1) := by decide +kernel
theorem dM_66_39 : decode prog_9_method_4_code 39 = .ok (.iload_n 2, 1) := by decide +kernel
theorem dM_66_40 : decode prog_9_method_4_code 40 = .ok (.iastore, 1) := by decide +kernel
theorem dM_66_41 : decode prog_9_method_4_code 41 = .ok (.aload_n 0, 1) := by decide +kernel
theorem dM_66_42 : decode prog_9_method_4_code 42 = .ok (.dup, 1) := by decide +kernel
theorem dM_66_43 : decode prog_9_method_4_code 43 = .ok (.getfield 28, 3) := by decide +kernel
theorem dM_66_46 : decode prog_9_method_4_code 46 = .ok (.iconst 2, 1) := by decide +kernel
theorem dM_66_47 : decode prog_9_method_4_code 47 = .ok (.iadd, 1) := by decide +kernel
theorem dM_66_48 : decode prog_9_method_4_code 48 = .ok (.putfield 28, 3) := by decide +kernel
theorem dM_66_51 : decode prog_9_method_4_code 51 = .ok (.iconst 1, 1) := by decide +kernel
theorem dM_66_52 : decode prog_9_method_4_code 52 = .ok (.ireturn, 1) := by decide +kernel
theorem dM_67_0 : decode prog_9_method_6_code 0 = .ok (.aload_n 0, 1) := by decide +kernel
theorem dM_67_1 : decode prog_9_method_6_code 1 = .ok (.dup, 1) := by decide +kernel
theorem dM_67_2 : decode prog_9_method_6_code 2 = .ok (.getfield 24, 3) := by decide +kernel
theorem dM_67_5 : decode prog_9_method_6_code 5 = .ok (.iconst 1, 1) := by decide +kernel
theorem dM_67_6 : decode prog_9_method_6_code 6 = .ok (.iadd, 1) := by decide +kernel
theorem dM_67_7 : decode prog_9_method_6_code 7 = .ok (.putfield 24, 3) := by decide +kernel
theorem dM_67_10 : decode prog_9_method_6_code 10 = .ok (.aload_n 0, 1) := by decide +kernel
theorem dM_67_11 : decode prog_9_method_6_code 11 = .ok (.getfield 15, 3) := by decide +kernel
theorem dM_67_14 : decode prog_9_method_6_code 14 = .ok (.iconst 0, 1) := by decide +kernel
theorem dM_67_15 : decode prog_9_method_6_code 15 = .ok (.iload 4, 2) := by decide +kernel
theorem dM_67_17 : decode prog_9_method_6_code 17 = .ok (.iastore, 1) := by decide +kernel
theorem dM_67_18 : decode prog_9_method_6_code 18 = .ok (.iconst 1, 1) := by decide +kernel
theorem dM_67_19 : decode prog_9_method_6_code 19 = .ok (.istore 5, 2) := by decide +kernel
theorem dM_67_21 : decode prog_9_method_6_code 21 = .ok (.iconst 0, 1) := by decide +kernel
theorem dM_67_22 : decode prog_9_method_6_code 22 = .ok (.istore 6, 2) := by decide +kernel
theorem dM_67_24 : decode prog_9_method_6_code 24 = .ok (.iload 6, 2) := by decide +kernel
theorem dM_67_26 : decode prog_9_method_6_code 26 = .ok (.ldc 38, 2) := by decide +kernel
theorem dM_67_28 : decode prog_9_method_6_code 28 = .ok (.if_icmp .ge 155, 3) := by decide +kernel
theorem dM_67_31 : decode prog_9_method_6_code 31 = .ok (.iload 5, 2) := by decide +kernel
theorem dM_67_33 : decode prog_9_method_6_code 33 = .ok (.ifCond .le 150, 3) := by decide +kernel
theorem dM_67_36 : decode prog_9_method_6_code 36 = .ok (.iinc 5 (-1), 3) := by decide +kernel
theorem dM_67_39 : decode prog_9_method_6_code 39 = .ok (.aload_n 0, 1) := by decide +kernel
theorem dM_67_40 : decode prog_9_method_6_code 40 = .ok (.getfield 15, 3) := by decide +kernel
theorem dM_67_43 : decode prog_9_method_6_code 43 = .ok (.iload 5, 2) := by decide +kernel
theorem dM_67_45 : decode prog_9_method_6_code 45 = .ok (.iaload, 1) := by decide +kernel
theorem dM_67_46 : decode prog_9_method_6_code 46 = .ok (.istore 7, 2) := by decide +kernel
theorem dM_67_48 : decode prog_9_method_6_code 48 = .ok (.iload 7, 2) := by decide +kernel
theorem dM_67_50 : decode prog_9_method_6_code 50 = .ok (.iload_n 3, 1) := by decide +kernel
theorem dM_67_51 : decode prog_9_method_6_code 51 = .ok (.if_icmp .eq 11, 3) := by decide +kernel
theorem dM_67_54 : decode prog_9_method_6_code 54 = .ok (.iload 5, 2) := by decide +kernel
theorem dM_67_56 : decode prog_9_method_6_code 56 = .ok (.sipush 1022, 3) := by decide +kernel
theorem dM_67_59 : decode prog_9_method_6_code 59 = .ok (.if_icmp .le 5, 3) := by decide +kernel
theorem dM_67_62 : decode prog_9_method_6_code 62 = .ok (.iconst 1, 1) := by decide +kernel
theorem dM_67_63 : decode prog_9_method_6_code 63 = .ok (.ireturn, 1) := by decide +kernel
theorem dM_67_64 : decode prog_9_method_6_code 64 = .ok (.iload 7, 2) := by decide +kernel
theorem dM_67_66 : decode prog_9_method_6_code 66 = .ok (.sipush 256, 3) := by decide +kernel
theorem dM_67_69 : decode prog_9_method_6_code 69 = .ok (.if_icmp .lt 39, 3) := by decide +kernel
theorem dM_67_72 : decode prog_9_method_6_code 72 = .ok (.aload_n 0, 1) := by decide +kernel
theorem dM_67_73 : decode prog_9_method_6_code 73 = .ok (.getfield 15, 3) := by decide +kernel
theorem dM_67_76 : decode prog_9_method_6_code 76 = .ok (.iload 5, 2) := by decide +kernel
theorem dM_67_78 : decode prog_9_method_6_code 78 = .ok (.aload_n 1, 1) := by decide +kernel
theorem dM_67_79 : decode prog_9_method_6_code 79 = .ok (.iload 7, 2) := by decide +kernel
theorem dM_67_81 : decode prog_9_method_6_code 81 = .ok (.iconst 1, 1) := by decide +kernel
theorem dM_67_82 : decode prog_9_method_6_code 82 = .ok (.invokevirtual 58, 3) := by decide +kernel
theorem dM_67_85 : decode prog_9_method_6_code 85 = .ok (.iastore, 1) := by decide +kernel
theorem dM_67_86 : decode prog_9_method_6_code 86 = .ok (.aload_n 0, 1) := by decide +kernel
theorem dM_67_87 : decode prog_9_method_6_code 87 = .ok (.getfield 15, 3) := by decide +kernel
theorem dM_67_90 : decode prog_9_method_6_code 90 = .ok (.iload 5, 2) := by decide +kernel
theorem dM_67_92 : decode prog_9_method_6_code 92 = .ok (.iconst 1, 1) := by decide +kernel
theorem dM_67_93 : decode prog_9_method_6_code 93 = .ok (.iadd, 1) := by decide +kernel
theorem dM_67_94 : decode prog_9_method_6_code 94 = .ok (.aload_n 1, 1) := by decide +kernel
theorem dM_67_95 : decode prog_9_method_6_code 95 = .ok (.iload 7, 2) := by decide +kernel
theorem dM_67_97 : decode prog_9_method_6_code 97 = .ok (.iconst 0, 1) := by decide +kernel
theorem dM_67_98 : decode prog_9_method_6_code 98 = .ok (.invokevirtual 58, 3) := by decide +kernel
theorem dM_67_101 : decode prog_9_method_6_code 101 = .ok (.iastore, 1) := by decide +kernel
theorem dM_67_102 : decode prog_9_method_6_code 102 = .ok (.iinc 5 2, 3) := by decide +kernel
theorem dM_67_105 : decode prog_9_method_6_code 105 = .ok (.goto 72, 3) := by decide +kernel
theorem dM_67_108 : decode prog_9_method_6_code 108 = .ok (.iload 7, 2) := by decide +kernel
theorem dM_67_110 : decode prog_9_method_6_code 110 = .ok (.ifCond .lt 67, 3) := by decide +kernel
theorem dM_67_113 : decode prog_9_method_6_code 113 = .ok (.iload 7, 2) := by decide +kernel
theorem dM_67_115 : decode prog_9_method_6_code 115 = .ok (.aload_n 0, 1) := by decide +kernel
theorem dM_67_116 : decode prog_9_method_6_code 116 = .ok (.getfield 21, 3) := by decide +kernel
theorem dM_67_119 : decode prog_9_method_6_code 119 = .ok (.arraylength, 1) := by decide +kernel
theorem dM_67_120 : decode prog_9_method_6_code 120 = .ok (.if_icmp .ge 57, 3) := by decide +kernel
theorem dM_67_123 : decode prog_9_method_6_code 123 = .ok (.iload 7, 2) := by decide +kernel
theorem dM_67_125 : decode prog_9_method_6_code 125 = .ok (.aload_n 2, 1) := by decide +kernel
theorem dM_67_126 : decode prog_9_method_6_code 126 = .ok (.arraylength, 1) := by decide +kernel
theorem dM_67_127 : decode prog_9_method_6_code 127 = .ok (.if_icmp .ge 50, 3) := by decide +kernel
theorem dM_67_130 : decode prog_9_method_6_code 130 = .ok (.aload_n 0, 1) := by decide +kernel
theorem dM_67_131 : decode prog_9_method_6_code 131 = .ok (.getfield 21, 3) := by decide +kernel
theorem dM_67_134 : decode prog_9_method_6_code 134 = .ok (.iload 7, 2) := by decide +kernel
theorem dM_67_136 : decode prog_9_method_6_code 136 = .ok (.iaload, 1) := by decide +kernel
theorem dM_67_137 : decode prog_9_method_6_code 137 = .ok (.aload_n 0, 1) := by decide +kernel
theorem dM_67_138 : decode prog_9_method_6_code 138 = .ok (.getfield 24, 3) := by decide +kernel
theorem dM_67_141 : decode prog_9_method_6_code 141 = .ok (.if_icmp .eq 36, 3) := by decide +kernel
theorem dM_67_144 : decode prog_9_method_6_code 144 = .ok (.aload_n 0, 1) := by decide +kernel
theorem dM_67_145 : decode prog_9_method_6_code 145 = .ok (.getfield 21, 3) := by decide +kernel
theorem dM_67_148 : decode prog_9_method_6_code 148 = .ok (.iload 7, 2) := by decide +kernel
theorem dM_67_150 : decode prog_9_method_6_code 150 = .ok (.aload_n 0, 1) := by decide +kernel
theorem dM_67_151 : decode prog_9_method_6_code 151 = .ok (.getfield 24, 3) := by decide +kernel
theorem dM_67_154 : decode prog_9_method_6_code 154 = .ok (.iastore, 1) := by decide +kernel
theorem dM_67_155 : decode prog_9_method_6_code 155 = .ok (.aload_n 2, 1) := by decide +kernel
theorem dM_67_156 : decode prog_9_method_6_code 156 = .ok (.iload 7, 2) := by decide +kernel
theorem dM_67_158 : decode prog_9_method_6_code 158 = .ok (.iaload, 1) := by decide +kernel
theorem dM_67_159 : decode prog_9_method_6_code 159 = .ok (.iconst (-1), 1) := by decide +kernel
theorem dM_67_160 : decode prog_9_method_6_code 160 = .ok (.if_icmp .eq 17, 3) := by decide +kernel
theorem dM_67_163 : decode prog_9_method_6_code 163 = .ok (.aload_n 0, 1) := by decide +kernel
theorem dM_67_164 : decode prog_9_method_6_code 164 = .ok (.getfield 15, 3) := by decide +kernel
theorem dM_67_167 : decode prog_9_method_6_code 167 = .ok (.iload 5, 2) := by decide +kernel
theorem dM_67_169 : decode prog_9_method_6_code 169 = .ok (.aload_n 2, 1) := by decide +kernel
theorem dM_67_170 : decode prog_9_method_6_code 170 = .ok (.iload 7, 2) := by decide +kernel
theorem dM_67_172 : decode prog_9_method_6_code 172 = .ok (.iaload, 1) := by decide +kernel
theorem dM_67_173 : decode prog_9_method_6_code 173 = .ok (.iastore, 1) := by decide +kernel
theorem dM_67_174 : decode prog_9_method_6_code 174 = .ok (.iinc 5 1, 3) := by decide +kernel
theorem dM_67_177 : decode prog_9_method_6_code 177 = .ok (.iinc 6 1, 3) := by decide +kernel
theorem dM_67_180 : decode prog_9_method_6_code 180 = .ok (.goto (-156), 3) := by decide +kernel
theorem dM_67_183 : decode prog_9_method_6_code 183 = .ok (.iload 5, 2) := by decide +kernel
theorem dM_67_185 : decode prog_9_method_6_code 185 = .ok (.ifCond .le 7, 3) := by decide +kernel
theorem dM_67_188 : decode prog_9_method_6_code 188 = .ok (.iconst 1, 1) := by decide +kernel
theorem dM_67_189 : decode prog_9_method_6_code 189 = .ok (.goto 4, 3) := by decide +kernel
theorem dM_67_192 : decode prog_9_method_6_code 192 = .ok (.iconst 0, 1) := by decide +kernel
theorem dM_67_193 : decode prog_9_method_6_code 193 = .ok (.ireturn, 1) := by decide +kernel
theorem dM_68_0 : decode prog_9_method_5_code 0 = .ok (.iload_n 2, 1) := by decide +kernel
theorem dM_68_1 : decode prog_9_method_5_code 1 = .ok (.ifCond .lt 28, 3) := by decide +kernel
theorem dM_68_4 : decode prog_9_method_5_code 4 = .ok (.iload_n 2, 1) := by decide +kernel
theorem dM_68_5 : decode prog_9_method_5_code 5 = .ok (.aload_n 1, 1) := by decide +kernel
theorem dM_68_6 : decode prog_9_method_5_code 6 = .ok (.arraylength, 1) := by decide +kernel
theorem dM_68_7 : decode prog_9_method_5_code 7 = .ok (.if_icmp .ge 22, 3) := by decide +kernel
theorem dM_68_10 : decode prog_9_method_5_code 10 = .ok (.aload_n 0, 1) := by decide +kernel
theorem dM_68_11 : decode prog_9_method_5_code 11 = .ok (.getfield 31, 3) := by decide +kernel
theorem dM_68_14 : decode prog_9_method_5_code 14 = .ok (.ifCond .lt 15, 3) := by decide +kernel
theorem dM_68_17 : decode prog_9_method_5_code 17 = .ok (.aload_n 0, 1) := by decide +kernel
theorem dM_68_18 : decode prog_9_method_5_code 18 = .ok (.getfield 31, 3) := by decide +kernel
theorem dM_68_21 : decode prog_9_method_5_code 21 = .ok (.aload_n 0, 1) := by decide +kernel
theorem dM_68_22 : decode prog_9_method_5_code 22 = .ok (.getfield 18, 3) := by decide +kernel
theorem dM_68_25 : decode prog_9_method_5_code 25 = .ok (.arraylength, 1) := by decide +kernel
theorem dM_68_26 : decode prog_9_method_5_code 26 = .ok (.if_icmp .lt 5, 3) := by decide +kernel
theorem dM_68_29 : decode prog_9_method_5_code 29 = .ok (.iconst 0, 1) := by decide +kernel
theorem dM_68_30 : decode prog_9_method_5_code 30 = .ok (.ireturn, 1) := by decide +kernel
theorem dM_68_31 : decode prog_9_method_5_code 31 = .ok (.aload_n 1, 1) := by decide +kernel
theorem dM_68_32 : decode prog_9_method_5_code 32 = .ok (.iload_n 2, 1) := by decide +kernel
theorem dM_68_33 : decode prog_9_method_5_code 33 = .ok (.iload_n 3, 1) := by decide +kernel
theorem dM_68_34 : decode prog_9_method_5_code 34 = .ok (.iastore, 1) := by decide +kernel
theorem dM_68_35 : decode prog_9_method_5_code 35 = .ok (.aload_n 0, 1) := by decide +kernel
theorem dM_68_36 : decode prog_9_method_5_code 36 = .ok (.getfield 18, 3) := by decide +kernel
theorem dM_68_39 : decode prog_9_method_5_code 39 = .ok (.aload_n 0, 1) := by decide +kernel
theorem dM_68_40 : decode prog_9_method_5_code 40 = .ok (.getfield 31, 3) := by decide +kernel
theorem dM_68_43 : decode prog_9_method_5_code 43 = .ok (.iload_n 2, 1) := by decide +kernel
theorem dM_68_44 : decode prog_9_method_5_code 44 = .ok (.iastore, 1) := by decide +kernel
theorem dM_68_45 : decode prog_9_method_5_code 45 = .ok (.aload_n 0, 1) := by decide +kernel
theorem dM_68_46 : decode prog_9_method_5_code 46 = .ok (.dup, 1) := by decide +kernel
theorem dM_68_47 : decode prog_9_method_5_code 47 = .ok (.getfield 31, 3) := by decide +kernel
theorem dM_68_50 : decode prog_9_method_5_code 50 = .ok (.iconst 1, 1) := by decide +kernel
theorem dM_68_51 : decode prog_9_method_5_code 51 = .ok (.iadd, 1) := by decide +kernel
theorem dM_68_52 : decode prog_9_method_5_code 52 = .ok (.putfield 31, 3) := by decide +kernel
theorem dM_68_55 : decode prog_9_method_5_code 55 = .ok (.iconst 1, 1) := by decide +kernel
theorem dM_68_56 : decode prog_9_method_5_code 56 = .ok (.ireturn, 1) := by decide +kernel
theorem dM_69_0 : decode prog_9_method_3_code 0 = .ok (.iconst 0, 1) := by decide +kernel
theorem dM_69_1 : decode prog_9_method_3_code 1 = .ok (.istore_n 2, 1) := by decide +kernel
theorem dM_69_2 : decode prog_9_method_3_code 2 = .ok (.iload_n 2, 1) := by decide +kernel
theorem dM_69_3 : decode prog_9_method_3_code 3 = .ok (.aload_n 0, 1) := by decide +kernel
theorem dM_69_4 : decode prog_9_method_3_code 4 = .ok (.getfield 31, 3) := by decide +kernel
theorem dM_69_7 : decode prog_9_method_3_code 7 = .ok (.if_icmp .ge 39, 3) := by decide +kernel
theorem dM_69_10 : decode prog_9_method_3_code 10 = .ok (.iload_n 2, 1) := by decide +kernel
theorem dM_69_11 : decode prog_9_method_3_code 11 = .ok (.aload_n 0, 1) := by decide +kernel
theorem dM_69_12 : decode prog_9_method_3_code 12 = .ok (.getfield 18, 3) := by decide +kernel
theorem dM_69_15 : decode prog_9_method_3_code 15 = .ok (.arraylength, 1) := by decide +kernel
theorem dM_69_16 : decode prog_9_method_3_code 16 = .ok (.if_icmp .ge 30, 3) := by decide +kernel
theorem dM_69_19 : decode prog_9_method_3_code 19 = .ok (.aload_n 0, 1) := by decide +kernel
theorem dM_69_20 : decode prog_9_method_3_code 20 = .ok (.getfield 18, 3) := by decide +kernel
theorem dM_69_23 : decode prog_9_method_3_code 23 = .ok (.iload_n 2, 1) := by decide +kernel
theorem dM_69_24 : decode prog_9_method_3_code 24 = .ok (.iaload, 1) := by decide +kernel
theorem dM_69_25 : decode prog_9_method_3_code 25 = .ok (.istore_n 3, 1) := by decide +kernel
theorem dM_69_26 : decode prog_9_method_3_code 26 = .ok (.iload_n 3, 1) := by decide +kernel
theorem dM_69_27 : decode prog_9_method_3_code 27 = .ok (.ifCond .lt 13, 3) := by decide +kernel
theorem dM_69_30 : decode prog_9_method_3_code 30 = .ok (.iload_n 3, 1) := by decide +kernel
theorem dM_69_31 : decode prog_9_method_3_code 31 = .ok (.aload_n 1, 1) := by decide +kernel
theorem dM_69_32 : decode prog_9_method_3_code 32 = .ok (.arraylength, 1) := by decide +kernel
theorem dM_69_33 : decode prog_9_method_3_code 33 = .ok (.if_icmp .ge 7, 3) := by decide +kernel
theorem dM_69_36 : decode prog_9_method_3_code 36 = .ok (.aload_n 1, 1) := by decide +kernel
theorem dM_69_37 : decode prog_9_method_3_code 37 = .ok (.iload_n 3, 1) := by decide +kernel
theorem dM_69_38 : decode prog_9_method_3_code 38 = .ok (.iconst (-1), 1) := by decide +kernel
theorem dM_69_39 : decode prog_9_method_3_code 39 = .ok (.iastore, 1) := by decide +kernel
theorem dM_69_40 : decode prog_9_method_3_code 40 = .ok (.iinc 2 1, 3) := by decide +kernel
theorem dM_69_43 : decode prog_9_method_3_code 43 = .ok (.goto (-41), 3) := by decide +kernel
theorem dM_69_46 : decode prog_9_method_3_code 46 = .ok (.aload_n 0, 1) := by decide +kernel
theorem dM_69_47 : decode prog_9_method_3_code 47 = .ok (.iconst 0, 1) := by decide +kernel
theorem dM_69_48 : decode prog_9_method_3_code 48 = .ok (.putfield 31, 3) := by decide +kernel
theorem dM_69_51 : decode prog_9_method_3_code 51 = .ok (.return_, 1) := by decide +kernel
theorem dM_71_0 : decode prog_1_method_2_code 0 = .ok (.iload_n 1, 1) := by decide +kernel
theorem dM_71_1 : decode prog_1_method_2_code 1 = .ok (.ifCond .ge 10, 3) := by decide +kernel
theorem dM_71_4 : decode prog_1_method_2_code 4 = .ok (.aload_n 0, 1) := by decide +kernel
theorem dM_71_5 : decode prog_1_method_2_code 5 = .ok (.bipush (-4), 2) := by decide +kernel
theorem dM_71_7 : decode prog_1_method_2_code 7 = .ok (.invokevirtual 89, 3) := by decide +kernel
theorem dM_71_10 : decode prog_1_method_2_code 10 = .ok (.ireturn, 1) := by decide +kernel
theorem dM_71_11 : decode prog_1_method_2_code 11 = .ok (.iload_n 1, 1) := by decide +kernel
theorem dM_71_12 : decode prog_1_method_2_code 12 = .ok (.sipush 255, 3) := by decide +kernel
theorem dM_71_15 : decode prog_1_method_2_code 15 = .ok (.if_icmp .gt 13, 3) := by decide +kernel
theorem dM_71_18 : decode prog_1_method_2_code 18 = .ok (.aload_n 0, 1) := by decide +kernel
theorem dM_71_19 : decode prog_1_method_2_code 19 = .ok (.getfield 63, 3) := by decide +kernel
theorem dM_71_22 : decode prog_1_method_2_code 22 = .ok (.invokevirtual 93, 3) := by decide +kernel
theorem dM_71_25 : decode prog_1_method_2_code 25 = .ok (.ifCond .eq 10, 3) := by decide +kernel
theorem dM_71_28 : decode prog_1_method_2_code 28 = .ok (.aload_n 0, 1) := by decide +kernel
theorem dM_71_29 : decode prog_1_method_2_code 29 = .ok (.bipush (-6), 2) := by decide +kernel
theorem dM_71_31 : decode prog_1_method_2_code 31 = .ok (.invokevirtual 89, 3) := by decide +kernel
theorem dM_71_34 : decode prog_1_method_2_code 34 = .ok (.ireturn, 1) := by decide +kernel
theorem dM_71_35 : decode prog_1_method_2_code 35 = .ok (.aload_n 0, 1) := by decide +kernel
theorem dM_71_36 : decode prog_1_method_2_code 36 = .ok (.getfield 63, 3) := by decide +kernel
theorem dM_71_39 : decode prog_1_method_2_code 39 = .ok (.iload_n 1, 1) := by decide +kernel
theorem dM_71_40 : decode prog_1_method_2_code 40 = .ok (.invokevirtual 97, 3) := by decide +kernel
theorem dM_71_43 : decode prog_1_method_2_code 43 = .ok (.ireturn, 1) := by decide +kernel
theorem dM_72_0 : decode prog_1_method_28_code 0 = .ok (.iload_n 1, 1) := by decide +kernel
theorem dM_72_1 : decode prog_1_method_28_code 1 = .ok (.ineg, 1) := by decide +kernel
theorem dM_72_2 : decode prog_1_method_28_code 2 = .ok (.istore_n 2, 1) := by decide +kernel
theorem dM_72_3 : decode prog_1_method_28_code 3 = .ok (.iload_n 2, 1) := by decide +kernel
theorem dM_72_4 : decode prog_1_method_28_code 4 = .ok (.ifCond .lt 22, 3) := by decide +kernel
theorem dM_72_7 : decode prog_1_method_28_code 7 = .ok (.iload_n 2, 1) := by decide +kernel
theorem dM_72_8 : decode prog_1_method_28_code 8 = .ok (.aload_n 0, 1) := by decide +kernel
theorem dM_72_9 : decode prog_1_method_28_code 9 = .ok (.getfield 70, 3) := by decide +kernel
theorem dM_72_12 : decode prog_1_method_28_code 12 = .ok (.arraylength, 1) := by decide +kernel
theorem dM_72_13 : decode prog_1_method_28_code 13 = .ok (.if_icmp .ge 13, 3) := by decide +kernel
theorem dM_72_16 : decode prog_1_method_28_code 16 = .ok (.aload_n 0, 1) := by decide +kernel
theorem dM_72_17 : decode prog_1_method_28_code 17 = .ok (.getfield 70, 3) := by decide +kernel
theorem dM_72_20 : decode prog_1_method_28_code 20 = .ok (.iload_n 2, 1) := by decide +kernel
theorem dM_72_21 : decode prog_1_method_28_code 21 = .ok (.dup2, 1) := by decide +kernel
theorem dM_72_22 : decode prog_1_method_28_code 22 = .ok (.iaload, 1) := by decide +kernel
theorem dM_72_23 : decode prog_1_method_28_code 23 = .ok (.iconst 1, 1) := by decide +kernel
theorem dM_72_24 : decode prog_1_method_28_code 24 = .ok (.iadd, 1) := by decide +kernel
theorem dM_72_25 : decode prog_1_method_28_code 25 = .ok (.iastore, 1) := by decide +kernel
theorem dM_72_26 : decode prog_1_method_28_code 26 = .ok (.iload_n 1, 1) := by decide +kernel
theorem dM_72_27 : decode prog_1_method_28_code 27 = .ok (.ireturn, 1) := by decide +kernel
theorem dM_73_0 : decode prog_1_method_3_code 0 = .ok (.aload_n 0, 1) := by decide +kernel
theorem dM_73_1 : decode prog_1_method_3_code 1 = .ok (.getfield 40, 3) := by decide +kernel
theorem dM_73_4 : decode prog_1_method_3_code 4 = .ok (.aload_n 0, 1) := by decide +kernel
theorem dM_73_5 : decode prog_1_method_3_code 5 = .ok (.getfield 63, 3) := by decide +kernel
theorem dM_73_8 : decode prog_1_method_3_code 8 = .ok (.invokevirtual 100, 3) := by decide +kernel
theorem dM_73_11 : decode prog_1_method_3_code 11 = .ok (.istore_n 1, 1) := by decide +kernel
theorem dM_73_12 : decode prog_1_method_3_code 12 = .ok (.aload_n 0, 1) := by decide +kernel
theorem dM_73_13 : decode prog_1_method_3_code 13 = .ok (.getfield 63, 3) := by decide +kernel
theorem dM_73_16 : decode prog_1_method_3_code 16 = .ok (.invokevirtual 104, 3) := by decide +kernel
theorem dM_73_19 : decode prog_1_method_3_code 19 = .ok (.iload_n 1, 1) := by decide +kernel
theorem dM_73_20 : decode prog_1_method_3_code 20 = .ok (.ifCond .ge 5, 3) := by decide +kernel
theorem dM_73_23 : decode prog_1_method_3_code 23 = .ok (.iload_n 1, 1) := by decide +kernel
theorem dM_73_24 : decode prog_1_method_3_code 24 = .ok (.ireturn, 1) := by decide +kernel
theorem dM_73_25 : decode prog_1_method_3_code 25 = .ok (.aload_n 0, 1) := by decide +kernel
theorem dM_73_26 : decode prog_1_method_3_code 26 = .ok (.getfield 21, 3) := by decide +kernel
theorem dM_73_29 : decode prog_1_method_3_code 29 = .ok (.getfield 33, 3) := by decide +kernel
theorem dM_73_32 : decode prog_1_method_3_code 32 = .ok (.aload_n 0, 1) := by decide +kernel
theorem dM_73_33 : decode prog_1_method_3_code 33 = .ok (.getfield 25, 3) := by decide +kernel
theorem dM_73_36 : decode prog_1_method_3_code 36 = .ok (.getfield 33, 3) := by decide +kernel
theorem dM_73_39 : decode prog_1_method_3_code 39 = .ok (.invokevirtual 107, 3) := by decide +kernel
theorem dM_73_42 : decode prog_1_method_3_code 42 = .ok (.aload_n 0, 1) := by decide +kernel
theorem dM_73_43 : decode prog_1_method_3_code 43 = .ok (.getfield 21, 3) := by decide +kernel
theorem dM_73_46 : decode prog_1_method_3_code 46 = .ok (.invokevirtual 112, 3) := by decide +kernel
theorem dM_73_49 : decode prog_1_method_3_code 49 = .ok (.iload_n 1, 1) := by decide +kernel
theorem dM_73_50 : decode prog_1_method_3_code 50 = .ok (.ireturn, 1) := by decide +kernel
theorem dM_74_0 : decode prog_1_method_32_code 0 = .ok (.iload_n 0, 1) := by decide +kernel
theorem dM_74_1 : decode prog_1_method_32_code 1 = .ok (.sipush 256, 3) := by decide +kernel
theorem dM_74_4 : decode prog_1_method_32_code 4 = .ok (.if_icmp .lt 7, 3) := by decide +kernel
theorem dM_74_7 : decode prog_1_method_32_code 7 = .ok (.iconst 1, 1) := by decide +kernel
theorem dM_74_8 : decode prog_1_method_32_code 8 = .ok (.goto 4, 3) := by decide +kernel
theorem dM_74_11 : decode prog_1_method_32_code 11 = .ok (.iconst 0, 1) := by decide +kernel
theorem dM_74_12 : decode prog_1_method_32_code 12 = .ok (.ireturn, 1) := by decide +kernel
theorem dM_75_0 : decode prog_1_method_4_code 0 = .ok (.iload_n 1, 1) := by decide +kernel
theorem dM_75_1 : decode prog_1_method_4_code 1 = .ok (.iconst 1, 1) := by decide +kernel
theorem dM_75_2 : decode prog_1_method_4_code 2 = .ok (.if_icmp .ge 10, 3) := by decide +kernel
theorem dM_75_5 : decode prog_1_method_4_code 5 = .ok (.aload_n 0, 1) := by decide +kernel
theorem dM_75_6 : decode prog_1_method_4_code 6 = .ok (.bipush (-4), 2) := by decide +kernel
theorem dM_75_8 : decode prog_1_method_4_code 8 = .ok (.invokevirtual 89, 3) := by decide +kernel
theorem dM_75_11 : decode prog_1_method_4_code 11 = .ok (.ireturn, 1) := by decide +kernel
theorem dM_75_12 : decode prog_1_method_4_code 12 = .ok (.iload_n 1, 1) := by decide +kernel
theorem dM_75_13 : decode prog_1_method_4_code 13 = .ok (.bipush 100, 2) := by decide +kernel
theorem dM_75_15 : decode prog_1_method_4_code 15 = .ok (.if_icmp .gt 18, 3) := by decide +kernel
theorem dM_75_18 : decode prog_1_method_4_code 18 = .ok (.aload_n 0, 1) := by decide +kernel
theorem dM_75_19 : decode prog_1_method_4_code 19 = .ok (.getfield 21, 3) := by decide +kernel
theorem dM_75_22 : decode prog_1_method_4_code 22 = .ok (.getfield 115, 3) := by decide +kernel
theorem dM_75_25 : decode prog_1_method_4_code 25 = .ok (.iload_n 1, 1) := by decide +kernel
theorem dM_75_26 : decode prog_1_method_4_code 26 = .ok (.iadd, 1) := by decide +kernel
theorem dM_75_27 : decode prog_1_method_4_code 27 = .ok (.sipush 300, 3) := by decide +kernel
theorem dM_75_30 : decode prog_1_method_4_code 30 = .ok (.if_icmp .le 10, 3) := by decide +kernel
theorem dM_75_33 : decode prog_1_method_4_code 33 = .ok (.aload_n 0, 1) := by decide +kernel
theorem dM_75_34 : decode prog_1_method_4_code 34 = .ok (.bipush (-6), 2) := by decide +kernel
theorem dM_75_36 : decode prog_1_method_4_code 36 = .ok (.invokevirtual 89, 3) := by decide +kernel
theorem dM_75_39 : decode prog_1_method_4_code 39 = .ok (.ireturn, 1) := by decide +kernel
theorem dM_75_40 : decode prog_1_method_4_code 40 = .ok (.aload_n 0, 1) := by decide +kernel
theorem dM_75_41 : decode prog_1_method_4_code 41 = .ok (.getfield 21, 3) := by decide +kernel
theorem dM_75_44 : decode prog_1_method_4_code 44 = .ok (.iload_n 1, 1) := by decide +kernel
theorem dM_75_45 : decode prog_1_method_4_code 45 = .ok (.bipush 30, 2) := by decide +kernel
theorem dM_75_47 : decode prog_1_method_4_code 47 = .ok (.invokevirtual 119, 3) := by decide +kernel
theorem dM_75_50 : decode prog_1_method_4_code 50 = .ok (.aload_n 0, 1) := by decide +kernel
theorem dM_75_51 : decode prog_1_method_4_code 51 = .ok (.getfield 21, 3) := by decide +kernel
theorem dM_75_54 : decode prog_1_method_4_code 54 = .ok (.getfield 123, 3) := by decide +kernel
theorem dM_75_57 : decode prog_1_method_4_code 57 = .ok (.ireturn, 1) := by decide +kernel
theorem dM_76_0 : decode prog_1_method_33_code 0 = .ok (.iload_n 1, 1) := by decide +kernel
theorem dM_76_1 : decode prog_1_method_33_code 1 = .ok (.istore_n 2, 1) := by decide +kernel
theorem dM_76_2 : decode prog_1_method_33_code 2 = .ok (.iconst 0, 1) := by decide +kernel
theorem dM_76_3 : decode prog_1_method_33_code 3 = .ok (.istore_n 3, 1) := by decide +kernel
theorem dM_76_4 : decode prog_1_method_33_code 4 = .ok (.iload_n 3, 1) := by decide +kernel
theorem dM_76_5 : decode prog_1_method_33_code 5 = .ok (.sipush 128, 3) := by decide +kernel
theorem dM_76_8 : decode prog_1_method_33_code 8 = .ok (.if_icmp .ge 39, 3) := by decide +kernel
theorem dM_76_11 : decode prog_1_method_33_code 11 = .ok (.iload_n 2, 1) := by decide +kernel
theorem dM_76_12 : decode prog_1_method_33_code 12 = .ok (.ifCond .lt 23, 3) := by decide +kernel
theorem dM_76_15 : decode prog_1_method_33_code 15 = .ok (.iload_n 2, 1) := by decide +kernel
theorem dM_76_16 : decode prog_1_method_33_code 16 = .ok (.sipush 128, 3) := by decide +kernel
theorem dM_76_19 : decode prog_1_method_33_code 19 = .ok (.if_icmp .ge 16, 3) := by decide +kernel
theorem dM_76_22 : decode prog_1_method_33_code 22 = .ok (.iload_n 2, 1) := by decide +kernel
theorem dM_76_23 : decode prog_1_method_33_code 23 = .ok (.aload_n 0, 1) := by decide +kernel
theorem dM_76_24 : decode prog_1_method_33_code 24 = .ok (.arraylength, 1) := by decide +kernel
theorem dM_76_25 : decode prog_1_method_33_code 25 = .ok (.if_icmp .ge 10, 3) := by decide +kernel
theorem dM_76_28 : decode prog_1_method_33_code 28 = .ok (.aload_n 0, 1) := by decide +kernel
theorem dM_76_29 : decode prog_1_method_33_code 29 = .ok (.iload_n 2, 1) := by decide +kernel
theorem dM_76_30 : decode prog_1_method_33_code 30 = .ok (.iaload, 1) := by decide +kernel
theorem dM_76_31 : decode prog_1_method_33_code 31 = .ok (.iconst (-1), 1) := by decide +kernel
theorem dM_76_32 : decode prog_1_method_33_code 32 = .ok (.if_icmp .ne 5, 3) := by decide +kernel
theorem dM_76_35 : decode prog_1_method_33_code 35 = .ok (.iload_n 2, 1) := by decide +kernel
theorem dM_76_36 : decode prog_1_method_33_code 36 = .ok (.ireturn, 1) := by decide +kernel
theorem dM_76_37 : decode prog_1_method_33_code 37 = .ok (.aload_n 0, 1) := by decide +kernel
theorem dM_76_38 : decode prog_1_method_33_code 38 = .ok (.iload_n 2, 1) := by decide +kernel
theorem dM_76_39 : decode prog_1_method_33_code 39 = .ok (.iaload, 1) := by decide +kernel
theorem dM_76_40 : decode prog_1_method_33_code 40 = .ok (.istore_n 2, 1) := by decide +kernel
theorem dM_76_41 : decode prog_1_method_33_code 41 = .ok (.iinc 3 1, 3) := by decide +kernel
theorem dM_76_44 : decode prog_1_method_33_code 44 = .ok (.goto (-40), 3) := by decide +kernel
theorem dM_76_47 : decode prog_1_method_33_code 47 = .ok (.iload_n 2, 1) := by decide +kernel
theorem dM_76_48 : decode prog_1_method_33_code 48 = .ok (.ireturn, 1) := by decide +kernel
theorem dM_77_0 : decode prog_1_method_31_code 0 = .ok (.iload_n 0, 1) := by decide +kernel
theorem dM_77_1 : decode prog_1_method_31_code 1 = .ok (.ifCond .lt 14, 3) := by decide +kernel
theorem dM_77_4 : decode prog_1_method_31_code 4 = .ok (.iload_n 0, 1) := by decide +kernel
theorem dM_77_5 : decode prog_1_method_31_code 5 = .ok (.sipush 128, 3) := by decide +kernel
theorem dM_77_8 : decode prog_1_method_31_code 8 = .ok (.if_icmp .ge 7, 3) := by decide +kernel
theorem dM_77_11 : decode prog_1_method_31_code 11 = .ok (.iconst 1, 1) := by decide +kernel
theorem dM_77_12 : decode prog_1_method_31_code 12 = .ok (.goto 4, 3) := by decide +kernel
theorem dM_77_15 : decode prog_1_method_31_code 15 = .ok (.iconst 0, 1) := by decide +kernel
theorem dM_77_16 : decode prog_1_method_31_code 16 = .ok (.ireturn, 1) := by decide +kernel
theorem dM_78_0 : decode prog_1_method_34_code 0 = .ok (.iload_n 0, 1) := by decide +kernel
theorem dM_78_1 : decode prog_1_method_34_code 1 = .ok (.sipush 256, 3) := by decide +kernel
theorem dM_78_4 : decode prog_1_method_34_code 4 = .ok (.if_icmp .lt 13, 3) := by decide +kernel
theorem dM_78_7 : decode prog_1_method_34_code 7 = .ok (.iload_n 0, 1) := by decide +kernel
theorem dM_78_8 : decode prog_1_method_34_code 8 = .ok (.sipush 1280, 3) := by decide +kernel
theorem dM_78_11 : decode prog_1_method_34_code 11 = .ok (.iadd, 1) := by decide +kernel
theorem dM_78_12 : decode prog_1_method_34_code 12 = .ok (.sipush 256, 3) := by decide +kernel
theorem dM_78_15 : decode prog_1_method_34_code 15 = .ok (.isub, 1) := by decide +kernel
theorem dM_78_16 : decode prog_1_method_34_code 16 = .ok (.ireturn, 1) := by decide +kernel
theorem dM_78_17 : decode prog_1_method_34_code 17 = .ok (.iload_n 0, 1) := by decide +kernel
theorem dM_78_18 : decode prog_1_method_34_code 18 = .ok (.ifCond .lt 17, 3) := by decide +kernel
theorem dM_78_21 : decode prog_1_method_34_code 21 = .ok (.iload_n 0, 1) := by decide +kernel
theorem dM_78_22 : decode prog_1_method_34_code 22 = .ok (.sipush 128, 3) := by decide +kernel
theorem dM_78_25 : decode prog_1_method_34_code 25 = .ok (.if_icmp .ge 10, 3) := by decide +kernel
theorem dM_78_28 : decode prog_1_method_34_code 28 = .ok (.iload_n 0, 1) := by decide +kernel
theorem dM_78_29 : decode prog_1_method_34_code 29 = .ok (.bipush 64, 2) := by decide +kernel
theorem dM_78_31 : decode prog_1_method_34_code 31 = .ok (.iadd, 1) := by decide +kernel
theorem dM_78_32 : decode prog_1_method_34_code 32 = .ok (.goto 4, 3) := by decide +kernel
theorem dM_78_35 : decode prog_1_method_34_code 35 = .ok (.iload_n 0, 1) := by decide +kernel
theorem dM_78_36 : decode prog_1_method_34_code 36 = .ok (.ireturn, 1) := by decide +kernel
theorem dM_79_0 : decode prog_1_method_5_code 0 = .ok (.aload_n 0, 1) := by decide +kernel
theorem dM_79_1 : decode prog_1_method_5_code 1 = .ok (.getfield 21, 3) := by decide +kernel
theorem dM_79_4 : decode prog_1_method_5_code 4 = .ok (.getfield 123, 3) := by decide +kernel
theorem dM_79_7 : decode prog_1_method_5_code 7 = .ok (.ireturn, 1) := by decide +kernel
def g_58_31 (s : Nat) (k : Nat) (y4 : Int32) (sg : rSg) (P : Option rv → rSg → Prop) : Prop := GoS rSkel 3 6 6 none false prog_8_method_3_code 31 [(0, .inr (.inr (some 682))), (1, .inr (.inr (some s))), (2, .inr (.inr (some k))), (4, .inl y4)] [] sg P
set_option maxRecDepth 100000 in
theorem w_58_31 (sg : rSg) (s : Nat) (hs : isScr s) (k : Nat) (hk : isSt k) (y4 : Int32) {P : Option rv → rSg → Prop} (h :
    (200 ≤ y4 → 
      P none sg) ∧
    (¬ (200 ≤ y4) → 
      ((sg 682 4) ≤ 0 → 
        P none sg) ∧
      (¬ ((sg 682 4) ≤ 0) → 
        (604 < (sg 682 4) → 
          P none sg) ∧
        (¬ (604 < (sg 682 4)) → 
          (rIn ((sg 682 4) - 1) 604 = true ∧
          (0 ≤ (sg 684 (((sg 682 4) - 1).toNatClampNeg)) → 
            EvS rSkel 1 76 [.inr (.inr (some (k + 1))), .inl (sg 684 (((sg 682 4) - 1).toNatClampNeg))] (up2 sg 682 4 ((sg 682 4) - 1)) (fun v11 t12 => ∃ n14, v11 = some (.inl n14) ∧
              EvS rSkel 3 61 [.inr (.inr (some 682)), .inr (.inr (some s)), .inl n14] t12 (fun v15 t16 => v15 = none ∧
                g_58_31 s k (y4 + 1) t16 P))) ∧
          (¬ (0 ≤ (sg 684 (((sg 682 4) - 1).toNatClampNeg))) → 
            EvS rSkel 1 60 [.inr (.inr (some 682)), .inl (-(sg 684 (((sg 682 4) - 1).toNatClampNeg)))] (up2 sg 682 4 ((sg 682 4) - 1)) (fun v18 t19 => v18 = none ∧
              g_58_31 s k (y4 + 1) t19 P))))))) : g_58_31 s k y4 sg P := by
  show GoS rSkel 3 6 6 none false prog_8_method_3_code 31 [(0, .inr (.inr (some 682))), (1, .inr (.inr (some s))), (2, .inr (.inr (some k))), (4, .inl y4)] [] sg P
  have b_s := hs.1
  have b_k := hk.1
  refine gs0 33 [(0, .inr (.inr (some 682))), (1, .inr (.inr (some s))), (2, .inr (.inr (some k))), (4, .inl y4)] [.inl y4] dM_58_31 (fun _ => rfl) (Or.inr rfl) ?_
  refine gs0 36 [(0, .inr (.inr (some 682))), (1, .inr (.inr (some s))), (2, .inr (.inr (some k))), (4, .inl y4)] [.inl 200, .inl y4] dM_58_33 (fun _ => rfl) (Or.inr rfl) ?_
  refine gsIf (t := 112) (C := 200 ≤ y4) (r := []) dM_58_36 (fun _ => rfl) (Or.inr rfl) (rTest_iff .ge y4 200) (fun c7 => ?_) (fun c7 => ?_)
  · replace h := h.1 c7
    refine gsRet (r := none) dM_58_112 (fun _ => rfl) (Or.inr rfl) ?_
    exact h
  · replace h := h.2 c7
    refine gs0 40 [(0, .inr (.inr (some 682))), (1, .inr (.inr (some s))), (2, .inr (.inr (some k))), (4, .inl y4)] [.inr (.inr (some 682))] dM_58_39 (fun _ => rfl) (Or.inr rfl) ?_
    refine gsGetE (sg 682 4) dM_58_40 sk_682 rfl rfl rfl ?_
    refine gsIf (t := 112) (C := (sg 682 4) ≤ 0) (r := []) dM_58_43 (fun _ => rfl) (Or.inr rfl) (rTest_iff .le (sg 682 4) 0) (fun c8 => ?_) (fun c8 => ?_)
    · replace h := h.1 c8
      refine gsRet (r := none) dM_58_112 (fun _ => rfl) (Or.inr rfl) ?_
      exact h
    · replace h := h.2 c8
      refine gs0 47 [(0, .inr (.inr (some 682))), (1, .inr (.inr (some s))), (2, .inr (.inr (some k))), (4, .inl y4)] [.inr (.inr (some 682))] dM_58_46 (fun _ => rfl) (Or.inr rfl) ?_
      refine gsGetE (sg 682 4) dM_58_47 sk_682 rfl rfl rfl ?_
      refine gs0 53 [(0, .inr (.inr (some 682))), (1, .inr (.inr (some s))), (2, .inr (.inr (some k))), (4, .inl y4)] [.inl 604, .inl (sg 682 4)] dM_58_50 (fun _ => rfl) (Or.inr rfl) ?_
      refine gsIf (t := 112) (C := 604 < (sg 682 4)) (r := []) dM_58_53 (fun _ => rfl) (Or.inr rfl) (rTest_iff .gt (sg 682 4) 604) (fun c9 => ?_) (fun c9 => ?_)
      · replace h := h.1 c9
        refine gsRet (r := none) dM_58_112 (fun _ => rfl) (Or.inr rfl) ?_
        exact h
      · replace h := h.2 c9
        refine gs0 57 [(0, .inr (.inr (some 682))), (1, .inr (.inr (some s))), (2, .inr (.inr (some k))), (4, .inl y4)] [.inr (.inr (some 682))] dM_58_56 (fun _ => rfl) (Or.inr rfl) ?_
        refine gs0 58 [(0, .inr (.inr (some 682))), (1, .inr (.inr (some s))), (2, .inr (.inr (some k))), (4, .inl y4)] [.inr (.inr (some 682)), .inr (.inr (some 682))] dM_58_57 (fun _ => rfl) (Or.inr rfl) ?_
        refine gsGetE (sg 682 4) dM_58_58 sk_682 rfl rfl rfl ?_
        refine gs0 62 [(0, .inr (.inr (some 682))), (1, .inr (.inr (some s))), (2, .inr (.inr (some k))), (4, .inl y4)] [.inl 1, .inl (sg 682 4), .inr (.inr (some 682))] dM_58_61 (fun _ => rfl) (Or.inr rfl) ?_
        refine gs0 63 [(0, .inr (.inr (some 682))), (1, .inr (.inr (some s))), (2, .inr (.inr (some k))), (4, .inl y4)] [.inl ((sg 682 4) - 1), .inr (.inr (some 682))] dM_58_62 (fun _ => rfl) (Or.inr rfl) ?_
        refine gsPut dM_58_63 sk_682 rfl rfl rfl (by decide) ?_
        refine gs0 67 [(0, .inr (.inr (some 682))), (1, .inr (.inr (some s))), (2, .inr (.inr (some k))), (4, .inl y4)] [.inr (.inr (some 682))] dM_58_66 (fun _ => rfl) (Or.inr rfl) ?_
        refine gsGetR (some 684) dM_58_67 sk_682 rfl rfl ?_
        refine gs0 71 [(0, .inr (.inr (some 682))), (1, .inr (.inr (some s))), (2, .inr (.inr (some k))), (4, .inl y4)] [.inr (.inr (some 682)), .inr (.inr (some 684))] dM_58_70 (fun _ => rfl) (Or.inr rfl) ?_
        refine gsGetE ((sg 682 4) - 1) dM_58_71 sk_682 rfl rfl (up2_same _ _ _ _) ?_
        refine gsIaldN (((sg 682 4) - 1).toNatClampNeg) (sg 684 (((sg 682 4) - 1).toNatClampNeg)) dM_58_74 sk_684 h.1 rfl (congrFun (up2_nk _ _ _ (by decide)) _) ?_
        replace h := h.2
        refine gs0 77 [(5, .inl (sg 684 (((sg 682 4) - 1).toNatClampNeg))), (0, .inr (.inr (some 682))), (1, .inr (.inr (some s))), (2, .inr (.inr (some k))), (4, .inl y4)] [] dM_58_75 (fun _ => rfl) (Or.inr rfl) ?_
        refine gs0 79 [(5, .inl (sg 684 (((sg 682 4) - 1).toNatClampNeg))), (0, .inr (.inr (some 682))), (1, .inr (.inr (some s))), (2, .inr (.inr (some k))), (4, .inl y4)] [.inl (sg 684 (((sg 682 4) - 1).toNatClampNeg))] dM_58_77 (fun _ => rfl) (Or.inr rfl) ?_
        refine gsIf (t := 92) (C := 0 ≤ (sg 684 (((sg 682 4) - 1).toNatClampNeg))) (r := []) dM_58_79 (fun _ => rfl) (Or.inr rfl) (rTest_iff .ge (sg 684 (((sg 682 4) - 1).toNatClampNeg)) 0) (fun c10 => ?_) (fun c10 => ?_)
        · replace h := h.1 c10
          refine gs0 93 [(5, .inl (sg 684 (((sg 682 4) - 1).toNatClampNeg))), (0, .inr (.inr (some 682))), (1, .inr (.inr (some s))), (2, .inr (.inr (some k))), (4, .inl y4)] [.inr (.inr (some 682))] dM_58_92 (fun _ => rfl) (Or.inr rfl) ?_
          refine gs0 94 [(5, .inl (sg 684 (((sg 682 4) - 1).toNatClampNeg))), (0, .inr (.inr (some 682))), (1, .inr (.inr (some s))), (2, .inr (.inr (some k))), (4, .inl y4)] [.inr (.inr (some s)), .inr (.inr (some 682))] dM_58_93 (fun _ => rfl) (Or.inr rfl) ?_
          refine gs0 95 [(5, .inl (sg 684 (((sg 682 4) - 1).toNatClampNeg))), (0, .inr (.inr (some 682))), (1, .inr (.inr (some s))), (2, .inr (.inr (some k))), (4, .inl y4)] [.inr (.inr (some k)), .inr (.inr (some s)), .inr (.inr (some 682))] dM_58_94 (fun _ => rfl) (Or.inr rfl) ?_
          refine gsGetR (some (k + 1)) dM_58_95 hk.2.1 rfl rfl ?_
          refine gs0 100 [(5, .inl (sg 684 (((sg 682 4) - 1).toNatClampNeg))), (0, .inr (.inr (some 682))), (1, .inr (.inr (some s))), (2, .inr (.inr (some k))), (4, .inl y4)] [.inl (sg 684 (((sg 682 4) - 1).toNatClampNeg)), .inr (.inr (some (k + 1))), .inr (.inr (some s)), .inr (.inr (some 682))] dM_58_98 (fun _ => rfl) (Or.inr rfl) ?_
          refine gsCallS (y := 76) (as := [.inr (.inr (some (k + 1))), .inl (sg 684 (((sg 682 4) - 1).toNatClampNeg))]) (r := [.inr (.inr (some s)), .inr (.inr (some 682))]) dM_58_100 rfl (Or.inr rfl) rfl rfl (Nat.le_of_ble_eq_true rfl) (EvS.up h (Nat.le_of_ble_eq_true rfl)) (fun v11 t12 hv13 => ?_)
          obtain ⟨n14, rfl, hn⟩ := hv13
          clear h
          show GoS _ _ _ _ _ _ _ _ [(5, .inl (sg 684 (((sg 682 4) - 1).toNatClampNeg))), (0, .inr (.inr (some 682))), (1, .inr (.inr (some s))), (2, .inr (.inr (some k))), (4, .inl y4)] [.inl n14, .inr (.inr (some s)), .inr (.inr (some 682))] t12 _
          refine gsCallV (y := 61) (k := 682) (as := [.inr (.inr (some 682)), .inr (.inr (some s)), .inl n14]) (r := []) dM_58_103 rfl rfl rfl (Nat.le_of_ble_eq_true rfl) sk_682 rfl (Nat.le_of_ble_eq_true rfl) (EvS.up hn (Nat.le_of_ble_eq_true rfl)) (fun v15 t16 hv17 => ?_)
          obtain ⟨rfl, hnn⟩ := hv17
          clear hn
          show GoS _ _ _ _ _ _ _ _ [(5, .inl (sg 684 (((sg 682 4) - 1).toNatClampNeg))), (0, .inr (.inr (some 682))), (1, .inr (.inr (some s))), (2, .inr (.inr (some k))), (4, .inl y4)] [] t16 _
          refine gs0 109 [(4, .inl (y4 + 1)), (5, .inl (sg 684 (((sg 682 4) - 1).toNatClampNeg))), (0, .inr (.inr (some 682))), (1, .inr (.inr (some s))), (2, .inr (.inr (some k)))] [] dM_58_106 (fun _ => rfl) (Or.inr rfl) ?_
          refine gs0 31 [(4, .inl (y4 + 1)), (5, .inl (sg 684 (((sg 682 4) - 1).toNatClampNeg))), (0, .inr (.inr (some 682))), (1, .inr (.inr (some s))), (2, .inr (.inr (some k)))] [] dM_58_109 (fun _ => rfl) (Or.inr rfl) ?_
          exact GoS.sub (Lnd_keys (ks := [0, 1, 2, 4]) rfl (by decide)) (Lsub_cons rfl (Lsub_cons rfl (Lsub_cons rfl (Lsub_cons rfl Lsub_nil)))) hnn
        · replace h := h.2 c10
          refine gs0 83 [(5, .inl (sg 684 (((sg 682 4) - 1).toNatClampNeg))), (0, .inr (.inr (some 682))), (1, .inr (.inr (some s))), (2, .inr (.inr (some k))), (4, .inl y4)] [.inr (.inr (some 682))] dM_58_82 (fun _ => rfl) (Or.inr rfl) ?_
          refine gs0 85 [(5, .inl (sg 684 (((sg 682 4) - 1).toNatClampNeg))), (0, .inr (.inr (some 682))), (1, .inr (.inr (some s))), (2, .inr (.inr (some k))), (4, .inl y4)] [.inl (sg 684 (((sg 682 4) - 1).toNatClampNeg)), .inr (.inr (some 682))] dM_58_83 (fun _ => rfl) (Or.inr rfl) ?_
          refine gs0 86 [(5, .inl (sg 684 (((sg 682 4) - 1).toNatClampNeg))), (0, .inr (.inr (some 682))), (1, .inr (.inr (some s))), (2, .inr (.inr (some k))), (4, .inl y4)] [.inl (-(sg 684 (((sg 682 4) - 1).toNatClampNeg))), .inr (.inr (some 682))] dM_58_85 (fun _ => rfl) (Or.inr rfl) ?_
          refine gsCallV (y := 60) (k := 682) (as := [.inr (.inr (some 682)), .inl (-(sg 684 (((sg 682 4) - 1).toNatClampNeg)))]) (r := []) dM_58_86 rfl rfl rfl (Nat.le_of_ble_eq_true rfl) sk_682 rfl (Nat.le_of_ble_eq_true rfl) (EvS.up h (Nat.le_of_ble_eq_true rfl)) (fun v18 t19 hv20 => ?_)
          obtain ⟨rfl, hn⟩ := hv20
          clear h
          show GoS _ _ _ _ _ _ _ _ [(5, .inl (sg 684 (((sg 682 4) - 1).toNatClampNeg))), (0, .inr (.inr (some 682))), (1, .inr (.inr (some s))), (2, .inr (.inr (some k))), (4, .inl y4)] [] t19 _
          refine gs0 106 [(5, .inl (sg 684 (((sg 682 4) - 1).toNatClampNeg))), (0, .inr (.inr (some 682))), (1, .inr (.inr (some s))), (2, .inr (.inr (some k))), (4, .inl y4)] [] dM_58_89 (fun _ => rfl) (Or.inr rfl) ?_
          refine gs0 109 [(4, .inl (y4 + 1)), (5, .inl (sg 684 (((sg 682 4) - 1).toNatClampNeg))), (0, .inr (.inr (some 682))), (1, .inr (.inr (some s))), (2, .inr (.inr (some k)))] [] dM_58_106 (fun _ => rfl) (Or.inr rfl) ?_
          refine gs0 31 [(4, .inl (y4 + 1)), (5, .inl (sg 684 (((sg 682 4) - 1).toNatClampNeg))), (0, .inr (.inr (some 682))), (1, .inr (.inr (some s))), (2, .inr (.inr (some k)))] [] dM_58_109 (fun _ => rfl) (Or.inr rfl) ?_
          exact GoS.sub (Lnd_keys (ks := [0, 1, 2, 4]) rfl (by decide)) (Lsub_cons rfl (Lsub_cons rfl (Lsub_cons rfl (Lsub_cons rfl Lsub_nil)))) hn
set_option maxRecDepth 100000 in
/-- GoalsInAQueue$Teller.tell -/
theorem w_58 (sg : rSg) (s : Nat) (hs : isScr s) (k : Nat) (hk : isSt k) (x3 : Int32) {P : Option rv → rSg → Prop} (h :
    EvS rSkel 1 209 [.inr (.inr (some 685)), .inl ((-1))] (up2 (up2 sg 682 3 0) 682 5 0) (fun v1 t2 => v1 = none ∧
      EvS rSkel 1 59 [.inr (.inr (some 682)), .inl x3] (up2 t2 682 4 0) (fun v4 t5 => v4 = none ∧
        g_58_31 s k 0 t5 P))) : EvS rSkel 4 58 [.inr (.inr (some 682)), .inr (.inr (some s)), .inr (.inr (some k)), .inl x3] sg P := by
  refine EvS.of (ini := false) rfl ⟨rfl, Nat.le_of_ble_eq_true rfl⟩ rfl ?_
  show GoS rSkel 3 6 6 none false prog_8_method_3_code 0 [(0, .inr (.inr (some 682))), (1, .inr (.inr (some s))), (2, .inr (.inr (some k))), (3, .inl x3)] [] sg _
  have b_s := hs.1
  have b_k := hk.1
  refine gs0 1 [(0, .inr (.inr (some 682))), (1, .inr (.inr (some s))), (2, .inr (.inr (some k))), (3, .inl x3)] [.inr (.inr (some 682))] dM_58_0 (fun _ => rfl) (Or.inr rfl) ?_
  refine gs0 2 [(0, .inr (.inr (some 682))), (1, .inr (.inr (some s))), (2, .inr (.inr (some k))), (3, .inl x3)] [.inl 0, .inr (.inr (some 682))] dM_58_1 (fun _ => rfl) (Or.inr rfl) ?_
  refine gsPut dM_58_2 sk_682 rfl rfl rfl (by decide) ?_
  refine gs0 6 [(0, .inr (.inr (some 682))), (1, .inr (.inr (some s))), (2, .inr (.inr (some k))), (3, .inl x3)] [.inr (.inr (some 682))] dM_58_5 (fun _ => rfl) (Or.inr rfl) ?_
  refine gs0 7 [(0, .inr (.inr (some 682))), (1, .inr (.inr (some s))), (2, .inr (.inr (some k))), (3, .inl x3)] [.inl 0, .inr (.inr (some 682))] dM_58_6 (fun _ => rfl) (Or.inr rfl) ?_
  refine gsPut dM_58_7 sk_682 rfl rfl rfl (by decide) ?_
  refine gs0 11 [(0, .inr (.inr (some 682))), (1, .inr (.inr (some s))), (2, .inr (.inr (some k))), (3, .inl x3)] [.inr (.inr (some 682))] dM_58_10 (fun _ => rfl) (Or.inr rfl) ?_
  refine gsGetR (some 685) dM_58_11 sk_682 rfl rfl ?_
  refine gs0 15 [(0, .inr (.inr (some 682))), (1, .inr (.inr (some s))), (2, .inr (.inr (some k))), (3, .inl x3)] [.inl ((-1)), .inr (.inr (some 685))] dM_58_14 (fun _ => rfl) (Or.inr rfl) ?_
  refine gsCallS (y := 209) (as := [.inr (.inr (some 685)), .inl ((-1))]) (r := []) dM_58_15 rfl (Or.inl rfl) rfl rfl (Nat.le_of_ble_eq_true rfl) (EvS.up h (Nat.le_of_ble_eq_true rfl)) (fun v1 t2 hv3 => ?_)
  obtain ⟨rfl, hn⟩ := hv3
  clear h
  show GoS _ _ _ _ _ _ _ _ [(0, .inr (.inr (some 682))), (1, .inr (.inr (some s))), (2, .inr (.inr (some k))), (3, .inl x3)] [] t2 _
  refine gs0 19 [(0, .inr (.inr (some 682))), (1, .inr (.inr (some s))), (2, .inr (.inr (some k))), (3, .inl x3)] [.inr (.inr (some 682))] dM_58_18 (fun _ => rfl) (Or.inr rfl) ?_
  refine gs0 20 [(0, .inr (.inr (some 682))), (1, .inr (.inr (some s))), (2, .inr (.inr (some k))), (3, .inl x3)] [.inl 0, .inr (.inr (some 682))] dM_58_19 (fun _ => rfl) (Or.inr rfl) ?_
  refine gsPut dM_58_20 sk_682 rfl rfl rfl (by decide) ?_
  refine gs0 24 [(0, .inr (.inr (some 682))), (1, .inr (.inr (some s))), (2, .inr (.inr (some k))), (3, .inl x3)] [.inr (.inr (some 682))] dM_58_23 (fun _ => rfl) (Or.inr rfl) ?_
  refine gs0 25 [(0, .inr (.inr (some 682))), (1, .inr (.inr (some s))), (2, .inr (.inr (some k))), (3, .inl x3)] [.inl x3, .inr (.inr (some 682))] dM_58_24 (fun _ => rfl) (Or.inr rfl) ?_
  refine gsCallV (y := 59) (k := 682) (as := [.inr (.inr (some 682)), .inl x3]) (r := []) dM_58_25 rfl rfl rfl (Nat.le_of_ble_eq_true rfl) sk_682 rfl (Nat.le_of_ble_eq_true rfl) (EvS.up hn (Nat.le_of_ble_eq_true rfl)) (fun v4 t5 hv6 => ?_)
  obtain ⟨rfl, hnn⟩ := hv6
  clear hn
  show GoS _ _ _ _ _ _ _ _ [(0, .inr (.inr (some 682))), (1, .inr (.inr (some s))), (2, .inr (.inr (some k))), (3, .inl x3)] [] t5 _
  refine gs0 29 [(0, .inr (.inr (some 682))), (1, .inr (.inr (some s))), (2, .inr (.inr (some k))), (3, .inl x3)] [.inl 0] dM_58_28 (fun _ => rfl) (Or.inr rfl) ?_
  refine gs0 31 [(4, .inl 0), (0, .inr (.inr (some 682))), (1, .inr (.inr (some s))), (2, .inr (.inr (some k))), (3, .inl x3)] [] dM_58_29 (fun _ => rfl) (Or.inr rfl) ?_
  exact GoS.sub (Lnd_keys (ks := [0, 1, 2, 4]) rfl (by decide)) (Lsub_cons rfl (Lsub_cons rfl (Lsub_cons rfl (Lsub_cons rfl Lsub_nil)))) hnn
set_option maxRecDepth 100000 in
/-- GoalsInAQueue$Teller.push -/
theorem w_59 (sg : rSg) (x1 : Int32) {P : Option rv → rSg → Prop} (h :
    ((sg 682 4) < 0 → 
      P none sg) ∧
    (¬ ((sg 682 4) < 0) → 
      (604 ≤ (sg 682 4) → 
        P none sg) ∧
      (¬ (604 ≤ (sg 682 4)) → 
        (rIn (sg 682 4) 604 = true ∧
        P none (up2 (up2 sg 684 ((sg 682 4).toNatClampNeg) x1) 682 4 ((sg 682 4) + 1)))))) : EvS rSkel 1 59 [.inr (.inr (some 682)), .inl x1] sg P := by
  refine EvS.of (ini := false) rfl ⟨rfl, Nat.le_of_ble_eq_true rfl⟩ rfl ?_
  show GoS rSkel 0 6 2 none false prog_8_method_7_code 0 [(0, .inr (.inr (some 682))), (1, .inl x1)] [] sg _
  refine gs0 1 [(0, .inr (.inr (some 682))), (1, .inl x1)] [.inr (.inr (some 682))] dM_59_0 (fun _ => rfl) (Or.inr rfl) ?_
  refine gsGetE (sg 682 4) dM_59_1 sk_682 rfl rfl rfl ?_
  refine gsIf (t := 37) (C := (sg 682 4) < 0) (r := []) dM_59_4 (fun _ => rfl) (Or.inr rfl) (rTest_iff .lt (sg 682 4) 0) (fun c1 => ?_) (fun c1 => ?_)
  · replace h := h.1 c1
    refine gsRet (r := none) dM_59_37 (fun _ => rfl) (Or.inr rfl) ?_
    exact h
  · replace h := h.2 c1
    refine gs0 8 [(0, .inr (.inr (some 682))), (1, .inl x1)] [.inr (.inr (some 682))] dM_59_7 (fun _ => rfl) (Or.inr rfl) ?_
    refine gsGetE (sg 682 4) dM_59_8 sk_682 rfl rfl rfl ?_
    refine gs0 14 [(0, .inr (.inr (some 682))), (1, .inl x1)] [.inl 604, .inl (sg 682 4)] dM_59_11 (fun _ => rfl) (Or.inr rfl) ?_
    refine gsIf (t := 37) (C := 604 ≤ (sg 682 4)) (r := []) dM_59_14 (fun _ => rfl) (Or.inr rfl) (rTest_iff .ge (sg 682 4) 604) (fun c2 => ?_) (fun c2 => ?_)
    · replace h := h.1 c2
      refine gsRet (r := none) dM_59_37 (fun _ => rfl) (Or.inr rfl) ?_
      exact h
    · replace h := h.2 c2
      refine gs0 18 [(0, .inr (.inr (some 682))), (1, .inl x1)] [.inr (.inr (some 682))] dM_59_17 (fun _ => rfl) (Or.inr rfl) ?_
      refine gsGetR (some 684) dM_59_18 sk_682 rfl rfl ?_
      refine gs0 22 [(0, .inr (.inr (some 682))), (1, .inl x1)] [.inr (.inr (some 682)), .inr (.inr (some 684))] dM_59_21 (fun _ => rfl) (Or.inr rfl) ?_
      refine gsGetE (sg 682 4) dM_59_22 sk_682 rfl rfl rfl ?_
      refine gs0 26 [(0, .inr (.inr (some 682))), (1, .inl x1)] [.inl x1, .inl (sg 682 4), .inr (.inr (some 684))] dM_59_25 (fun _ => rfl) (Or.inr rfl) ?_
      refine gsIastN ((sg 682 4).toNatClampNeg) dM_59_26 sk_684 h.1 rfl ?_
      replace h := h.2
      refine gs0 28 [(0, .inr (.inr (some 682))), (1, .inl x1)] [.inr (.inr (some 682))] dM_59_27 (fun _ => rfl) (Or.inr rfl) ?_
      refine gs0 29 [(0, .inr (.inr (some 682))), (1, .inl x1)] [.inr (.inr (some 682)), .inr (.inr (some 682))] dM_59_28 (fun _ => rfl) (Or.inr rfl) ?_
      refine gsGetE (sg 682 4) dM_59_29 sk_682 rfl rfl (congrFun (up2_nk _ _ _ (by decide)) _) ?_
      refine gs0 33 [(0, .inr (.inr (some 682))), (1, .inl x1)] [.inl 1, .inl (sg 682 4), .inr (.inr (some 682))] dM_59_32 (fun _ => rfl) (Or.inr rfl) ?_
      refine gs0 34 [(0, .inr (.inr (some 682))), (1, .inl x1)] [.inl ((sg 682 4) + 1), .inr (.inr (some 682))] dM_59_33 (fun _ => rfl) (Or.inr rfl) ?_
      refine gsPut dM_59_34 sk_682 rfl rfl rfl (by decide) ?_
      refine gsRet (r := none) dM_59_37 (fun _ => rfl) (Or.inr rfl) ?_
      exact h
set_option maxRecDepth 100000 in
/-- GoalsInAQueue$Teller.put -/
theorem w_60 (sg : rSg) (x1 : Int32) {P : Option rv → rSg → Prop} (h :
    ((sg 682 3) < 0 → 
      P none sg) ∧
    (¬ ((sg 682 3) < 0) → 
      (200 ≤ (sg 682 3) → 
        P none sg) ∧
      (¬ (200 ≤ (sg 682 3)) → 
        (rIn (sg 682 3) 200 = true ∧
        P none (up2 (up2 sg 683 ((sg 682 3).toNatClampNeg) x1) 682 3 ((sg 682 3) + 1)))))) : EvS rSkel 1 60 [.inr (.inr (some 682)), .inl x1] sg P := by
  refine EvS.of (ini := false) rfl ⟨rfl, Nat.le_of_ble_eq_true rfl⟩ rfl ?_
  show GoS rSkel 0 6 2 none false prog_8_method_6_code 0 [(0, .inr (.inr (some 682))), (1, .inl x1)] [] sg _
  refine gs0 1 [(0, .inr (.inr (some 682))), (1, .inl x1)] [.inr (.inr (some 682))] dM_60_0 (fun _ => rfl) (Or.inr rfl) ?_
  refine gsGetE (sg 682 3) dM_60_1 sk_682 rfl rfl rfl ?_
  refine gsIf (t := 37) (C := (sg 682 3) < 0) (r := []) dM_60_4 (fun _ => rfl) (Or.inr rfl) (rTest_iff .lt (sg 682 3) 0) (fun c1 => ?_) (fun c1 => ?_)
  · replace h := h.1 c1
    refine gsRet (r := none) dM_60_37 (fun _ => rfl) (Or.inr rfl) ?_
    exact h
  · replace h := h.2 c1
    refine gs0 8 [(0, .inr (.inr (some 682))), (1, .inl x1)] [.inr (.inr (some 682))] dM_60_7 (fun _ => rfl) (Or.inr rfl) ?_
    refine gsGetE (sg 682 3) dM_60_8 sk_682 rfl rfl rfl ?_
    refine gs0 14 [(0, .inr (.inr (some 682))), (1, .inl x1)] [.inl 200, .inl (sg 682 3)] dM_60_11 (fun _ => rfl) (Or.inr rfl) ?_
    refine gsIf (t := 37) (C := 200 ≤ (sg 682 3)) (r := []) dM_60_14 (fun _ => rfl) (Or.inr rfl) (rTest_iff .ge (sg 682 3) 200) (fun c2 => ?_) (fun c2 => ?_)
    · replace h := h.1 c2
      refine gsRet (r := none) dM_60_37 (fun _ => rfl) (Or.inr rfl) ?_
      exact h
    · replace h := h.2 c2
      refine gs0 18 [(0, .inr (.inr (some 682))), (1, .inl x1)] [.inr (.inr (some 682))] dM_60_17 (fun _ => rfl) (Or.inr rfl) ?_
      refine gsGetR (some 683) dM_60_18 sk_682 rfl rfl ?_
      refine gs0 22 [(0, .inr (.inr (some 682))), (1, .inl x1)] [.inr (.inr (some 682)), .inr (.inr (some 683))] dM_60_21 (fun _ => rfl) (Or.inr rfl) ?_
      refine gsGetE (sg 682 3) dM_60_22 sk_682 rfl rfl rfl ?_
      refine gs0 26 [(0, .inr (.inr (some 682))), (1, .inl x1)] [.inl x1, .inl (sg 682 3), .inr (.inr (some 683))] dM_60_25 (fun _ => rfl) (Or.inr rfl) ?_
      refine gsIastN ((sg 682 3).toNatClampNeg) dM_60_26 sk_683 h.1 rfl ?_
      replace h := h.2
      refine gs0 28 [(0, .inr (.inr (some 682))), (1, .inl x1)] [.inr (.inr (some 682))] dM_60_27 (fun _ => rfl) (Or.inr rfl) ?_
      refine gs0 29 [(0, .inr (.inr (some 682))), (1, .inl x1)] [.inr (.inr (some 682)), .inr (.inr (some 682))] dM_60_28 (fun _ => rfl) (Or.inr rfl) ?_
      refine gsGetE (sg 682 3) dM_60_29 sk_682 rfl rfl (congrFun (up2_nk _ _ _ (by decide)) _) ?_
      refine gs0 33 [(0, .inr (.inr (some 682))), (1, .inl x1)] [.inl 1, .inl (sg 682 3), .inr (.inr (some 682))] dM_60_32 (fun _ => rfl) (Or.inr rfl) ?_
      refine gs0 34 [(0, .inr (.inr (some 682))), (1, .inl x1)] [.inl ((sg 682 3) + 1), .inr (.inr (some 682))] dM_60_33 (fun _ => rfl) (Or.inr rfl) ?_
      refine gsPut dM_60_34 sk_682 rfl rfl rfl (by decide) ?_
      refine gsRet (r := none) dM_60_37 (fun _ => rfl) (Or.inr rfl) ?_
      exact h
set_option maxRecDepth 100000 in
/-- GoalsInAQueue$Teller.tellTerm -/
theorem w_61 (sg : rSg) (s : Nat) (hs : isScr s) (x2 : Int32) {P : Option rv → rSg → Prop} (h :
    EvS rSkel 1 74 [.inl x2] sg (fun v1 t2 => ∃ n4, v1 = some (.inl n4) ∧
      (n4 = 0 → 
        (¬ x2 = 138 → 
          EvS rSkel 1 77 [.inl x2] t2 (fun v7 t8 => ∃ n10, v7 = some (.inl n10) ∧
            (n10 = 0 → 
              EvS rSkel 1 60 [.inr (.inr (some 682)), .inl ((48 + x2) - 128)] t8 (fun v12 t13 => v12 = none ∧
                P none t13)) ∧
            (¬ (n10 = 0) → 
              EvS rSkel 1 60 [.inr (.inr (some 682)), .inl 95] t8 (fun v15 t16 => v15 = none ∧
                EvS rSkel 1 62 [.inr (.inr (some 682)), .inl x2] t16 (fun v18 t19 => ∃ n21, v18 = some (.inl n21) ∧
                  EvS rSkel 1 60 [.inr (.inr (some 682)), .inl (48 + (irem n21 10))] t19 (fun v22 t23 => v22 = none ∧
                    P none t23)))))) ∧
        (¬ (¬ x2 = 138) → 
          EvS rSkel 1 60 [.inr (.inr (some 682)), .inl 110] t2 (fun v25 t26 => v25 = none ∧
            P none t26))) ∧
      (¬ (n4 = 0) → 
        EvS rSkel 1 60 [.inr (.inr (some 682)), .inl 40] t2 (fun v28 t29 => v28 = none ∧
          EvS rSkel 1 59 [.inr (.inr (some 682)), .inl ((-41))] t29 (fun v31 t32 => v31 = none ∧
            EvS rSkel 2 30 [.inr (.inr (some s)), .inl x2, .inl 1] t32 (fun v34 t35 => ∃ n37, v34 = some (.inl n37) ∧
              EvS rSkel 1 59 [.inr (.inr (some 682)), .inl n37] t35 (fun v38 t39 => v38 = none ∧
                EvS rSkel 1 59 [.inr (.inr (some 682)), .inl ((-46))] t39 (fun v41 t42 => v41 = none ∧
                  EvS rSkel 2 30 [.inr (.inr (some s)), .inl x2, .inl 0] t42 (fun v44 t45 => ∃ n47, v44 = some (.inl n47) ∧
                    EvS rSkel 1 59 [.inr (.inr (some 682)), .inl n47] t45 (fun v48 t49 => v48 = none ∧
                      P none t49)))))))))) : EvS rSkel 3 61 [.inr (.inr (some 682)), .inr (.inr (some s)), .inl x2] sg P := by
  refine EvS.of (ini := false) rfl ⟨rfl, Nat.le_of_ble_eq_true rfl⟩ rfl ?_
  show GoS rSkel 2 6 3 none false prog_8_method_4_code 0 [(0, .inr (.inr (some 682))), (1, .inr (.inr (some s))), (2, .inl x2)] [] sg _
  have b_s := hs.1
  refine gs0 1 [(0, .inr (.inr (some 682))), (1, .inr (.inr (some s))), (2, .inl x2)] [.inl x2] dM_61_0 (fun _ => rfl) (Or.inr rfl) ?_
  refine gsCallS (y := 74) (as := [.inl x2]) (r := []) dM_61_1 rfl (Or.inr rfl) rfl rfl (Nat.le_of_ble_eq_true rfl) (EvS.up h (Nat.le_of_ble_eq_true rfl)) (fun v1 t2 hv3 => ?_)
  obtain ⟨n4, rfl, hn⟩ := hv3
  clear h
  show GoS _ _ _ _ _ _ _ _ [(0, .inr (.inr (some 682))), (1, .inr (.inr (some s))), (2, .inl x2)] [.inl n4] t2 _
  refine gsIf (t := 48) (C := n4 = 0) (r := []) dM_61_4 (fun _ => rfl) (Or.inr rfl) (rTest_iff .eq n4 0) (fun c5 => ?_) (fun c5 => ?_)
  · replace hn := hn.1 c5
    refine gs0 49 [(0, .inr (.inr (some 682))), (1, .inr (.inr (some s))), (2, .inl x2)] [.inl x2] dM_61_48 (fun _ => rfl) (Or.inr rfl) ?_
    refine gs0 52 [(0, .inr (.inr (some 682))), (1, .inr (.inr (some s))), (2, .inl x2)] [.inl 138, .inl x2] dM_61_49 (fun _ => rfl) (Or.inr rfl) ?_
    refine gsIf (t := 64) (C := ¬ x2 = 138) (r := []) dM_61_52 (fun _ => rfl) (Or.inr rfl) (rTest_iff .ne x2 138) (fun c6 => ?_) (fun c6 => ?_)
    · replace hn := hn.1 c6
      refine gs0 65 [(0, .inr (.inr (some 682))), (1, .inr (.inr (some s))), (2, .inl x2)] [.inl x2] dM_61_64 (fun _ => rfl) (Or.inr rfl) ?_
      refine gsCallS (y := 77) (as := [.inl x2]) (r := []) dM_61_65 rfl (Or.inr rfl) rfl rfl (Nat.le_of_ble_eq_true rfl) (EvS.up hn (Nat.le_of_ble_eq_true rfl)) (fun v7 t8 hv9 => ?_)
      obtain ⟨n10, rfl, hnn⟩ := hv9
      clear hn
      show GoS _ _ _ _ _ _ _ _ [(0, .inr (.inr (some 682))), (1, .inr (.inr (some s))), (2, .inl x2)] [.inl n10] t8 _
      refine gsIf (t := 95) (C := n10 = 0) (r := []) dM_61_68 (fun _ => rfl) (Or.inr rfl) (rTest_iff .eq n10 0) (fun c11 => ?_) (fun c11 => ?_)
      · replace hnn := hnn.1 c11
        refine gs0 96 [(0, .inr (.inr (some 682))), (1, .inr (.inr (some s))), (2, .inl x2)] [.inr (.inr (some 682))] dM_61_95 (fun _ => rfl) (Or.inr rfl) ?_
        refine gs0 98 [(0, .inr (.inr (some 682))), (1, .inr (.inr (some s))), (2, .inl x2)] [.inl 48, .inr (.inr (some 682))] dM_61_96 (fun _ => rfl) (Or.inr rfl) ?_
        refine gs0 99 [(0, .inr (.inr (some 682))), (1, .inr (.inr (some s))), (2, .inl x2)] [.inl x2, .inl 48, .inr (.inr (some 682))] dM_61_98 (fun _ => rfl) (Or.inr rfl) ?_
        refine gs0 100 [(0, .inr (.inr (some 682))), (1, .inr (.inr (some s))), (2, .inl x2)] [.inl (48 + x2), .inr (.inr (some 682))] dM_61_99 (fun _ => rfl) (Or.inr rfl) ?_
        refine gs0 103 [(0, .inr (.inr (some 682))), (1, .inr (.inr (some s))), (2, .inl x2)] [.inl 128, .inl (48 + x2), .inr (.inr (some 682))] dM_61_100 (fun _ => rfl) (Or.inr rfl) ?_
        refine gs0 104 [(0, .inr (.inr (some 682))), (1, .inr (.inr (some s))), (2, .inl x2)] [.inl ((48 + x2) - 128), .inr (.inr (some 682))] dM_61_103 (fun _ => rfl) (Or.inr rfl) ?_
        refine gsCallV (y := 60) (k := 682) (as := [.inr (.inr (some 682)), .inl ((48 + x2) - 128)]) (r := []) dM_61_104 rfl rfl rfl (Nat.le_of_ble_eq_true rfl) sk_682 rfl (Nat.le_of_ble_eq_true rfl) (EvS.up hnn (Nat.le_of_ble_eq_true rfl)) (fun v12 t13 hv14 => ?_)
        obtain ⟨rfl, hnnn⟩ := hv14
        clear hnn
        show GoS _ _ _ _ _ _ _ _ [(0, .inr (.inr (some 682))), (1, .inr (.inr (some s))), (2, .inl x2)] [] t13 _
        refine gsRet (r := none) dM_61_107 (fun _ => rfl) (Or.inr rfl) ?_
        exact hnnn
      · replace hnn := hnn.2 c11
        refine gs0 72 [(0, .inr (.inr (some 682))), (1, .inr (.inr (some s))), (2, .inl x2)] [.inr (.inr (some 682))] dM_61_71 (fun _ => rfl) (Or.inr rfl) ?_
        refine gs0 74 [(0, .inr (.inr (some 682))), (1, .inr (.inr (some s))), (2, .inl x2)] [.inl 95, .inr (.inr (some 682))] dM_61_72 (fun _ => rfl) (Or.inr rfl) ?_
        refine gsCallV (y := 60) (k := 682) (as := [.inr (.inr (some 682)), .inl 95]) (r := []) dM_61_74 rfl rfl rfl (Nat.le_of_ble_eq_true rfl) sk_682 rfl (Nat.le_of_ble_eq_true rfl) (EvS.up hnn (Nat.le_of_ble_eq_true rfl)) (fun v15 t16 hv17 => ?_)
        obtain ⟨rfl, hnnn⟩ := hv17
        clear hnn
        show GoS _ _ _ _ _ _ _ _ [(0, .inr (.inr (some 682))), (1, .inr (.inr (some s))), (2, .inl x2)] [] t16 _
        refine gs0 78 [(0, .inr (.inr (some 682))), (1, .inr (.inr (some s))), (2, .inl x2)] [.inr (.inr (some 682))] dM_61_77 (fun _ => rfl) (Or.inr rfl) ?_
        refine gs0 80 [(0, .inr (.inr (some 682))), (1, .inr (.inr (some s))), (2, .inl x2)] [.inl 48, .inr (.inr (some 682))] dM_61_78 (fun _ => rfl) (Or.inr rfl) ?_
        refine gs0 81 [(0, .inr (.inr (some 682))), (1, .inr (.inr (some s))), (2, .inl x2)] [.inr (.inr (some 682)), .inl 48, .inr (.inr (some 682))] dM_61_80 (fun _ => rfl) (Or.inr rfl) ?_
        refine gs0 82 [(0, .inr (.inr (some 682))), (1, .inr (.inr (some s))), (2, .inl x2)] [.inl x2, .inr (.inr (some 682)), .inl 48, .inr (.inr (some 682))] dM_61_81 (fun _ => rfl) (Or.inr rfl) ?_
        refine gsCallV (y := 62) (k := 682) (as := [.inr (.inr (some 682)), .inl x2]) (r := [.inl 48, .inr (.inr (some 682))]) dM_61_82 rfl rfl rfl (Nat.le_of_ble_eq_true rfl) sk_682 rfl (Nat.le_of_ble_eq_true rfl) (EvS.up hnnn (Nat.le_of_ble_eq_true rfl)) (fun v18 t19 hv20 => ?_)
        obtain ⟨n21, rfl, hnnnn⟩ := hv20
        clear hnnn
        show GoS _ _ _ _ _ _ _ _ [(0, .inr (.inr (some 682))), (1, .inr (.inr (some s))), (2, .inl x2)] [.inl n21, .inl 48, .inr (.inr (some 682))] t19 _
        refine gs0 87 [(0, .inr (.inr (some 682))), (1, .inr (.inr (some s))), (2, .inl x2)] [.inl 10, .inl n21, .inl 48, .inr (.inr (some 682))] dM_61_85 (fun _ => rfl) (Or.inr rfl) ?_
        refine gs0 88 [(0, .inr (.inr (some 682))), (1, .inr (.inr (some s))), (2, .inl x2)] [.inl (irem n21 10), .inl 48, .inr (.inr (some 682))] dM_61_87 (fun _ => rfl) (Or.inr rfl) ?_
        refine gs0 89 [(0, .inr (.inr (some 682))), (1, .inr (.inr (some s))), (2, .inl x2)] [.inl (48 + (irem n21 10)), .inr (.inr (some 682))] dM_61_88 (fun _ => rfl) (Or.inr rfl) ?_
        refine gsCallV (y := 60) (k := 682) (as := [.inr (.inr (some 682)), .inl (48 + (irem n21 10))]) (r := []) dM_61_89 rfl rfl rfl (Nat.le_of_ble_eq_true rfl) sk_682 rfl (Nat.le_of_ble_eq_true rfl) (EvS.up hnnnn (Nat.le_of_ble_eq_true rfl)) (fun v22 t23 hv24 => ?_)
        obtain ⟨rfl, hnnnnn⟩ := hv24
        clear hnnnn
        show GoS _ _ _ _ _ _ _ _ [(0, .inr (.inr (some 682))), (1, .inr (.inr (some s))), (2, .inl x2)] [] t23 _
        refine gs0 107 [(0, .inr (.inr (some 682))), (1, .inr (.inr (some s))), (2, .inl x2)] [] dM_61_92 (fun _ => rfl) (Or.inr rfl) ?_
        refine gsRet (r := none) dM_61_107 (fun _ => rfl) (Or.inr rfl) ?_
        exact hnnnnn
    · replace hn := hn.2 c6
      refine gs0 56 [(0, .inr (.inr (some 682))), (1, .inr (.inr (some s))), (2, .inl x2)] [.inr (.inr (some 682))] dM_61_55 (fun _ => rfl) (Or.inr rfl) ?_
      refine gs0 58 [(0, .inr (.inr (some 682))), (1, .inr (.inr (some s))), (2, .inl x2)] [.inl 110, .inr (.inr (some 682))] dM_61_56 (fun _ => rfl) (Or.inr rfl) ?_
      refine gsCallV (y := 60) (k := 682) (as := [.inr (.inr (some 682)), .inl 110]) (r := []) dM_61_58 rfl rfl rfl (Nat.le_of_ble_eq_true rfl) sk_682 rfl (Nat.le_of_ble_eq_true rfl) (EvS.up hn (Nat.le_of_ble_eq_true rfl)) (fun v25 t26 hv27 => ?_)
      obtain ⟨rfl, hnn⟩ := hv27
      clear hn
      show GoS _ _ _ _ _ _ _ _ [(0, .inr (.inr (some 682))), (1, .inr (.inr (some s))), (2, .inl x2)] [] t26 _
      refine gs0 107 [(0, .inr (.inr (some 682))), (1, .inr (.inr (some s))), (2, .inl x2)] [] dM_61_61 (fun _ => rfl) (Or.inr rfl) ?_
      refine gsRet (r := none) dM_61_107 (fun _ => rfl) (Or.inr rfl) ?_
      exact hnn
  · replace hn := hn.2 c5
    refine gs0 8 [(0, .inr (.inr (some 682))), (1, .inr (.inr (some s))), (2, .inl x2)] [.inr (.inr (some 682))] dM_61_7 (fun _ => rfl) (Or.inr rfl) ?_
    refine gs0 10 [(0, .inr (.inr (some 682))), (1, .inr (.inr (some s))), (2, .inl x2)] [.inl 40, .inr (.inr (some 682))] dM_61_8 (fun _ => rfl) (Or.inr rfl) ?_
    refine gsCallV (y := 60) (k := 682) (as := [.inr (.inr (some 682)), .inl 40]) (r := []) dM_61_10 rfl rfl rfl (Nat.le_of_ble_eq_true rfl) sk_682 rfl (Nat.le_of_ble_eq_true rfl) (EvS.up hn (Nat.le_of_ble_eq_true rfl)) (fun v28 t29 hv30 => ?_)
    obtain ⟨rfl, hnn⟩ := hv30
    clear hn
    show GoS _ _ _ _ _ _ _ _ [(0, .inr (.inr (some 682))), (1, .inr (.inr (some s))), (2, .inl x2)] [] t29 _
    refine gs0 14 [(0, .inr (.inr (some 682))), (1, .inr (.inr (some s))), (2, .inl x2)] [.inr (.inr (some 682))] dM_61_13 (fun _ => rfl) (Or.inr rfl) ?_
    refine gs0 16 [(0, .inr (.inr (some 682))), (1, .inr (.inr (some s))), (2, .inl x2)] [.inl ((-41)), .inr (.inr (some 682))] dM_61_14 (fun _ => rfl) (Or.inr rfl) ?_
    refine gsCallV (y := 59) (k := 682) (as := [.inr (.inr (some 682)), .inl ((-41))]) (r := []) dM_61_16 rfl rfl rfl (Nat.le_of_ble_eq_true rfl) sk_682 rfl (Nat.le_of_ble_eq_true rfl) (EvS.up hnn (Nat.le_of_ble_eq_true rfl)) (fun v31 t32 hv33 => ?_)
    obtain ⟨rfl, hnnn⟩ := hv33
    clear hnn
    show GoS _ _ _ _ _ _ _ _ [(0, .inr (.inr (some 682))), (1, .inr (.inr (some s))), (2, .inl x2)] [] t32 _
    refine gs0 20 [(0, .inr (.inr (some 682))), (1, .inr (.inr (some s))), (2, .inl x2)] [.inr (.inr (some 682))] dM_61_19 (fun _ => rfl) (Or.inr rfl) ?_
    refine gs0 21 [(0, .inr (.inr (some 682))), (1, .inr (.inr (some s))), (2, .inl x2)] [.inr (.inr (some s)), .inr (.inr (some 682))] dM_61_20 (fun _ => rfl) (Or.inr rfl) ?_
    refine gs0 22 [(0, .inr (.inr (some 682))), (1, .inr (.inr (some s))), (2, .inl x2)] [.inl x2, .inr (.inr (some s)), .inr (.inr (some 682))] dM_61_21 (fun _ => rfl) (Or.inr rfl) ?_
    refine gs0 23 [(0, .inr (.inr (some 682))), (1, .inr (.inr (some s))), (2, .inl x2)] [.inl 1, .inl x2, .inr (.inr (some s)), .inr (.inr (some 682))] dM_61_22 (fun _ => rfl) (Or.inr rfl) ?_
    refine gsCallV (y := 30) (k := s) (as := [.inr (.inr (some s)), .inl x2, .inl 1]) (r := [.inr (.inr (some 682))]) dM_61_23 rfl rfl rfl (Nat.le_of_ble_eq_true rfl) hs.2.1 rfl (Nat.le_of_ble_eq_true rfl) (EvS.up hnnn (Nat.le_of_ble_eq_true rfl)) (fun v34 t35 hv36 => ?_)
    obtain ⟨n37, rfl, hnnnn⟩ := hv36
    clear hnnn
    show GoS _ _ _ _ _ _ _ _ [(0, .inr (.inr (some 682))), (1, .inr (.inr (some s))), (2, .inl x2)] [.inl n37, .inr (.inr (some 682))] t35 _
    refine gsCallV (y := 59) (k := 682) (as := [.inr (.inr (some 682)), .inl n37]) (r := []) dM_61_26 rfl rfl rfl (Nat.le_of_ble_eq_true rfl) sk_682 rfl (Nat.le_of_ble_eq_true rfl) (EvS.up hnnnn (Nat.le_of_ble_eq_true rfl)) (fun v38 t39 hv40 => ?_)
    obtain ⟨rfl, hnnnnn⟩ := hv40
    clear hnnnn
    show GoS _ _ _ _ _ _ _ _ [(0, .inr (.inr (some 682))), (1, .inr (.inr (some s))), (2, .inl x2)] [] t39 _
    refine gs0 30 [(0, .inr (.inr (some 682))), (1, .inr (.inr (some s))), (2, .inl x2)] [.inr (.inr (some 682))] dM_61_29 (fun _ => rfl) (Or.inr rfl) ?_
    refine gs0 32 [(0, .inr (.inr (some 682))), (1, .inr (.inr (some s))), (2, .inl x2)] [.inl ((-46)), .inr (.inr (some 682))] dM_61_30 (fun _ => rfl) (Or.inr rfl) ?_
    refine gsCallV (y := 59) (k := 682) (as := [.inr (.inr (some 682)), .inl ((-46))]) (r := []) dM_61_32 rfl rfl rfl (Nat.le_of_ble_eq_true rfl) sk_682 rfl (Nat.le_of_ble_eq_true rfl) (EvS.up hnnnnn (Nat.le_of_ble_eq_true rfl)) (fun v41 t42 hv43 => ?_)
    obtain ⟨rfl, hnnnnnn⟩ := hv43
    clear hnnnnn
    show GoS _ _ _ _ _ _ _ _ [(0, .inr (.inr (some 682))), (1, .inr (.inr (some s))), (2, .inl x2)] [] t42 _
    refine gs0 36 [(0, .inr (.inr (some 682))), (1, .inr (.inr (some s))), (2, .inl x2)] [.inr (.inr (some 682))] dM_61_35 (fun _ => rfl) (Or.inr rfl) ?_
    refine gs0 37 [(0, .inr (.inr (some 682))), (1, .inr (.inr (some s))), (2, .inl x2)] [.inr (.inr (some s)), .inr (.inr (some 682))] dM_61_36 (fun _ => rfl) (Or.inr rfl) ?_
    refine gs0 38 [(0, .inr (.inr (some 682))), (1, .inr (.inr (some s))), (2, .inl x2)] [.inl x2, .inr (.inr (some s)), .inr (.inr (some 682))] dM_61_37 (fun _ => rfl) (Or.inr rfl) ?_
    refine gs0 39 [(0, .inr (.inr (some 682))), (1, .inr (.inr (some s))), (2, .inl x2)] [.inl 0, .inl x2, .inr (.inr (some s)), .inr (.inr (some 682))] dM_61_38 (fun _ => rfl) (Or.inr rfl) ?_
    refine gsCallV (y := 30) (k := s) (as := [.inr (.inr (some s)), .inl x2, .inl 0]) (r := [.inr (.inr (some 682))]) dM_61_39 rfl rfl rfl (Nat.le_of_ble_eq_true rfl) hs.2.1 rfl (Nat.le_of_ble_eq_true rfl) (EvS.up hnnnnnn (Nat.le_of_ble_eq_true rfl)) (fun v44 t45 hv46 => ?_)
    obtain ⟨n47, rfl, hnnnnnnn⟩ := hv46
    clear hnnnnnn
    show GoS _ _ _ _ _ _ _ _ [(0, .inr (.inr (some 682))), (1, .inr (.inr (some s))), (2, .inl x2)] [.inl n47, .inr (.inr (some 682))] t45 _
    refine gsCallV (y := 59) (k := 682) (as := [.inr (.inr (some 682)), .inl n47]) (r := []) dM_61_42 rfl rfl rfl (Nat.le_of_ble_eq_true rfl) sk_682 rfl (Nat.le_of_ble_eq_true rfl) (EvS.up hnnnnnnn (Nat.le_of_ble_eq_true rfl)) (fun v48 t49 hv50 => ?_)
    obtain ⟨rfl, hnnnnnnnn⟩ := hv50
    clear hnnnnnnn
    show GoS _ _ _ _ _ _ _ _ [(0, .inr (.inr (some 682))), (1, .inr (.inr (some s))), (2, .inl x2)] [] t49 _
    refine gs0 107 [(0, .inr (.inr (some 682))), (1, .inr (.inr (some s))), (2, .inl x2)] [] dM_61_45 (fun _ => rfl) (Or.inr rfl) ?_
    refine gsRet (r := none) dM_61_107 (fun _ => rfl) (Or.inr rfl) ?_
    exact hnnnnnnnn
set_option maxRecDepth 100000 in
/-- GoalsInAQueue$Teller.nameOf -/
theorem w_62 (sg : rSg) (x1 : Int32) {P : Option rv → rSg → Prop} (h :
    (x1 < 0 → 
      P (some (.inl 0)) sg) ∧
    (¬ (x1 < 0) → 
      (x1 < (Int32.ofNat 64) → 
        (rIn x1 64 = true ∧
        (¬ (sg 685 x1.toNatClampNeg) = ((-1)) → 
          (rIn x1 64 = true ∧
          P (some (.inl (sg 685 x1.toNatClampNeg))) sg)) ∧
        (¬ (¬ (sg 685 x1.toNatClampNeg) = ((-1))) → 
          (rIn x1 64 = true ∧
          rIn x1 64 = true ∧
          P (some (.inl (sg 682 5))) (up2 (up2 sg 685 x1.toNatClampNeg (sg 682 5)) 682 5 ((sg 682 5) + 1)))))) ∧
      (¬ (x1 < (Int32.ofNat 64)) → 
        P (some (.inl 0)) sg))) : EvS rSkel 1 62 [.inr (.inr (some 682)), .inl x1] sg P := by
  refine EvS.of (ini := false) rfl ⟨rfl, Nat.le_of_ble_eq_true rfl⟩ rfl ?_
  show GoS rSkel 0 6 2 (some .int) false prog_8_method_5_code 0 [(0, .inr (.inr (some 682))), (1, .inl x1)] [] sg _
  refine gs0 1 [(0, .inr (.inr (some 682))), (1, .inl x1)] [.inl x1] dM_62_0 (fun _ => rfl) (Or.inr rfl) ?_
  refine gsIf (t := 13) (C := x1 < 0) (r := []) dM_62_1 (fun _ => rfl) (Or.inr rfl) (rTest_iff .lt x1 0) (fun c1 => ?_) (fun c1 => ?_)
  · replace h := h.1 c1
    refine gs0 14 [(0, .inr (.inr (some 682))), (1, .inl x1)] [.inl 0] dM_62_13 (fun _ => rfl) (Or.inr rfl) ?_
    refine gsRet (r := some (.inl 0)) dM_62_14 (fun _ => rfl) (Or.inr rfl) ?_
    exact h
  · replace h := h.2 c1
    refine gs0 5 [(0, .inr (.inr (some 682))), (1, .inl x1)] [.inl x1] dM_62_4 (fun _ => rfl) (Or.inr rfl) ?_
    refine gs0 6 [(0, .inr (.inr (some 682))), (1, .inl x1)] [.inr (.inr (some 682)), .inl x1] dM_62_5 (fun _ => rfl) (Or.inr rfl) ?_
    refine gsGetR (some 685) dM_62_6 sk_682 rfl rfl ?_
    refine gsAlen dM_62_9 sk_685 ?_
    refine gsIf (t := 15) (C := x1 < (Int32.ofNat 64)) (r := []) dM_62_10 (fun _ => rfl) (Or.inr rfl) (rTest_iff .lt x1 (Int32.ofNat 64)) (fun c2 => ?_) (fun c2 => ?_)
    · replace h := h.1 c2
      refine gs0 16 [(0, .inr (.inr (some 682))), (1, .inl x1)] [.inr (.inr (some 682))] dM_62_15 (fun _ => rfl) (Or.inr rfl) ?_
      refine gsGetR (some 685) dM_62_16 sk_682 rfl rfl ?_
      refine gs0 20 [(0, .inr (.inr (some 682))), (1, .inl x1)] [.inl x1, .inr (.inr (some 685))] dM_62_19 (fun _ => rfl) (Or.inr rfl) ?_
      refine gsIaldN x1.toNatClampNeg (sg 685 x1.toNatClampNeg) dM_62_20 sk_685 h.1 rfl rfl ?_
      replace h := h.2
      refine gs0 22 [(0, .inr (.inr (some 682))), (1, .inl x1)] [.inl ((-1)), .inl (sg 685 x1.toNatClampNeg)] dM_62_21 (fun _ => rfl) (Or.inr rfl) ?_
      refine gsIf (t := 45) (C := ¬ (sg 685 x1.toNatClampNeg) = ((-1))) (r := []) dM_62_22 (fun _ => rfl) (Or.inr rfl) (rTest_iff .ne (sg 685 x1.toNatClampNeg) ((-1))) (fun c3 => ?_) (fun c3 => ?_)
      · replace h := h.1 c3
        refine gs0 46 [(0, .inr (.inr (some 682))), (1, .inl x1)] [.inr (.inr (some 682))] dM_62_45 (fun _ => rfl) (Or.inr rfl) ?_
        refine gsGetR (some 685) dM_62_46 sk_682 rfl rfl ?_
        refine gs0 50 [(0, .inr (.inr (some 682))), (1, .inl x1)] [.inl x1, .inr (.inr (some 685))] dM_62_49 (fun _ => rfl) (Or.inr rfl) ?_
        refine gsIaldN x1.toNatClampNeg (sg 685 x1.toNatClampNeg) dM_62_50 sk_685 h.1 rfl rfl ?_
        replace h := h.2
        refine gsRet (r := some (.inl (sg 685 x1.toNatClampNeg))) dM_62_51 (fun _ => rfl) (Or.inr rfl) ?_
        exact h
      · replace h := h.2 c3
        refine gs0 26 [(0, .inr (.inr (some 682))), (1, .inl x1)] [.inr (.inr (some 682))] dM_62_25 (fun _ => rfl) (Or.inr rfl) ?_
        refine gsGetR (some 685) dM_62_26 sk_682 rfl rfl ?_
        refine gs0 30 [(0, .inr (.inr (some 682))), (1, .inl x1)] [.inl x1, .inr (.inr (some 685))] dM_62_29 (fun _ => rfl) (Or.inr rfl) ?_
        refine gs0 31 [(0, .inr (.inr (some 682))), (1, .inl x1)] [.inr (.inr (some 682)), .inl x1, .inr (.inr (some 685))] dM_62_30 (fun _ => rfl) (Or.inr rfl) ?_
        refine gsGetE (sg 682 5) dM_62_31 sk_682 rfl rfl rfl ?_
        refine gsIastN x1.toNatClampNeg dM_62_34 sk_685 h.1 rfl ?_
        replace h := h.2
        refine gs0 36 [(0, .inr (.inr (some 682))), (1, .inl x1)] [.inr (.inr (some 682))] dM_62_35 (fun _ => rfl) (Or.inr rfl) ?_
        refine gs0 37 [(0, .inr (.inr (some 682))), (1, .inl x1)] [.inr (.inr (some 682)), .inr (.inr (some 682))] dM_62_36 (fun _ => rfl) (Or.inr rfl) ?_
        refine gsGetE (sg 682 5) dM_62_37 sk_682 rfl rfl (congrFun (up2_nk _ _ _ (by decide)) _) ?_
        refine gs0 41 [(0, .inr (.inr (some 682))), (1, .inl x1)] [.inl 1, .inl (sg 682 5), .inr (.inr (some 682))] dM_62_40 (fun _ => rfl) (Or.inr rfl) ?_
        refine gs0 42 [(0, .inr (.inr (some 682))), (1, .inl x1)] [.inl ((sg 682 5) + 1), .inr (.inr (some 682))] dM_62_41 (fun _ => rfl) (Or.inr rfl) ?_
        refine gsPut dM_62_42 sk_682 rfl rfl rfl (by decide) ?_
        refine gs0 46 [(0, .inr (.inr (some 682))), (1, .inl x1)] [.inr (.inr (some 682))] dM_62_45 (fun _ => rfl) (Or.inr rfl) ?_
        refine gsGetR (some 685) dM_62_46 sk_682 rfl rfl ?_
        refine gs0 50 [(0, .inr (.inr (some 682))), (1, .inl x1)] [.inl x1, .inr (.inr (some 685))] dM_62_49 (fun _ => rfl) (Or.inr rfl) ?_
        refine gsIaldN x1.toNatClampNeg (sg 682 5) dM_62_50 sk_685 h.1 rfl ((congrFun (up2_nk _ _ _ (by decide)) _).trans (up2_same _ _ _ _)) ?_
        replace h := h.2
        refine gsRet (r := some (.inl (sg 682 5))) dM_62_51 (fun _ => rfl) (Or.inr rfl) ?_
        exact h
    · replace h := h.2 c2
      refine gs0 14 [(0, .inr (.inr (some 682))), (1, .inl x1)] [.inl 0] dM_62_13 (fun _ => rfl) (Or.inr rfl) ?_
      refine gsRet (r := some (.inl 0)) dM_62_14 (fun _ => rfl) (Or.inr rfl) ?_
      exact h
set_option maxRecDepth 100000 in
/-- GoalsInAQueue$Teller.signAt -/
theorem w_63 (sg : rSg) (x1 : Int32) {P : Option rv → rSg → Prop} (h :
    (x1 < 0 → 
      P (some (.inl ((-9)))) sg) ∧
    (¬ (x1 < 0) → 
      ((sg 682 3) ≤ x1 → 
        P (some (.inl ((-9)))) sg) ∧
      (¬ ((sg 682 3) ≤ x1) → 
        (200 ≤ x1 → 
          P (some (.inl ((-9)))) sg) ∧
        (¬ (200 ≤ x1) → 
          (rIn x1 200 = true ∧
          P (some (.inl (sg 683 x1.toNatClampNeg))) sg))))) : EvS rSkel 1 63 [.inr (.inr (some 682)), .inl x1] sg P := by
  refine EvS.of (ini := false) rfl ⟨rfl, Nat.le_of_ble_eq_true rfl⟩ rfl ?_
  show GoS rSkel 0 6 2 (some .int) false prog_8_method_2_code 0 [(0, .inr (.inr (some 682))), (1, .inl x1)] [] sg _
  refine gs0 1 [(0, .inr (.inr (some 682))), (1, .inl x1)] [.inl x1] dM_63_0 (fun _ => rfl) (Or.inr rfl) ?_
  refine gsIf (t := 28) (C := x1 < 0) (r := []) dM_63_1 (fun _ => rfl) (Or.inr rfl) (rTest_iff .lt x1 0) (fun c1 => ?_) (fun c1 => ?_)
  · replace h := h.1 c1
    refine gs0 30 [(0, .inr (.inr (some 682))), (1, .inl x1)] [.inl ((-9))] dM_63_28 (fun _ => rfl) (Or.inr rfl) ?_
    refine gsRet (r := some (.inl ((-9)))) dM_63_30 (fun _ => rfl) (Or.inr rfl) ?_
    exact h
  · replace h := h.2 c1
    refine gs0 5 [(0, .inr (.inr (some 682))), (1, .inl x1)] [.inl x1] dM_63_4 (fun _ => rfl) (Or.inr rfl) ?_
    refine gs0 6 [(0, .inr (.inr (some 682))), (1, .inl x1)] [.inr (.inr (some 682)), .inl x1] dM_63_5 (fun _ => rfl) (Or.inr rfl) ?_
    refine gsGetE (sg 682 3) dM_63_6 sk_682 rfl rfl rfl ?_
    refine gsIf (t := 28) (C := (sg 682 3) ≤ x1) (r := []) dM_63_9 (fun _ => rfl) (Or.inr rfl) (rTest_iff .ge x1 (sg 682 3)) (fun c2 => ?_) (fun c2 => ?_)
    · replace h := h.1 c2
      refine gs0 30 [(0, .inr (.inr (some 682))), (1, .inl x1)] [.inl ((-9))] dM_63_28 (fun _ => rfl) (Or.inr rfl) ?_
      refine gsRet (r := some (.inl ((-9)))) dM_63_30 (fun _ => rfl) (Or.inr rfl) ?_
      exact h
    · replace h := h.2 c2
      refine gs0 13 [(0, .inr (.inr (some 682))), (1, .inl x1)] [.inl x1] dM_63_12 (fun _ => rfl) (Or.inr rfl) ?_
      refine gs0 16 [(0, .inr (.inr (some 682))), (1, .inl x1)] [.inl 200, .inl x1] dM_63_13 (fun _ => rfl) (Or.inr rfl) ?_
      refine gsIf (t := 28) (C := 200 ≤ x1) (r := []) dM_63_16 (fun _ => rfl) (Or.inr rfl) (rTest_iff .ge x1 200) (fun c3 => ?_) (fun c3 => ?_)
      · replace h := h.1 c3
        refine gs0 30 [(0, .inr (.inr (some 682))), (1, .inl x1)] [.inl ((-9))] dM_63_28 (fun _ => rfl) (Or.inr rfl) ?_
        refine gsRet (r := some (.inl ((-9)))) dM_63_30 (fun _ => rfl) (Or.inr rfl) ?_
        exact h
      · replace h := h.2 c3
        refine gs0 20 [(0, .inr (.inr (some 682))), (1, .inl x1)] [.inr (.inr (some 682))] dM_63_19 (fun _ => rfl) (Or.inr rfl) ?_
        refine gsGetR (some 683) dM_63_20 sk_682 rfl rfl ?_
        refine gs0 24 [(0, .inr (.inr (some 682))), (1, .inl x1)] [.inl x1, .inr (.inr (some 683))] dM_63_23 (fun _ => rfl) (Or.inr rfl) ?_
        refine gsIaldN x1.toNatClampNeg (sg 683 x1.toNatClampNeg) dM_63_24 sk_683 h.1 rfl rfl ?_
        replace h := h.2
        refine gs0 30 [(0, .inr (.inr (some 682))), (1, .inl x1)] [.inl (sg 683 x1.toNatClampNeg)] dM_63_25 (fun _ => rfl) (Or.inr rfl) ?_
        refine gsRet (r := some (.inl (sg 683 x1.toNatClampNeg))) dM_63_30 (fun _ => rfl) (Or.inr rfl) ?_
        exact h
def g_65_22 (s : Nat) (kb : Nat) (nb : Nat) (y5 : Int32) (y6 : Int32) (sg : rSg) (P : Option rv → rSg → Prop) : Prop := GoS rSkel 3 7 9 (some .boolean) false prog_9_method_2_code 22 [(0, .inr (.inr (some 1))), (1, .inr (.inr (some s))), (2, .inr (.inr (some kb))), (5, .inl y5), (6, .inl y6)] [] sg P
set_option maxRecDepth 100000 in
theorem w_65_22 (sg : rSg) (s : Nat) (hs : isScr s) (kb nb : Nat) (hkb : isArr kb nb) (y5 : Int32) (y6 : Int32) {P : Option rv → rSg → Prop} (h :
    (1000000 ≤ y6 → 
      (y5 = 0 → 
        P (some (.inl 0)) sg) ∧
      (¬ (y5 = 0) → 
        (¬ (sg 1 5) = 0 → 
          P (some (.inl 0)) sg) ∧
        (¬ (¬ (sg 1 5) = 0) → 
          P (some (.inl 1)) sg))) ∧
    (¬ (1000000 ≤ y6) → 
      (y5 = 0 → 
        (y5 = 0 → 
          P (some (.inl 0)) sg) ∧
        (¬ (y5 = 0) → 
          (¬ (sg 1 5) = 0 → 
            P (some (.inl 0)) sg) ∧
          (¬ (¬ (sg 1 5) = 0) → 
            P (some (.inl 1)) sg))) ∧
      (¬ (y5 = 0) → 
        ((sg 1 5) ≤ 1 → 
          (y5 = 0 → 
            P (some (.inl 0)) sg) ∧
          (¬ (y5 = 0) → 
            (¬ (sg 1 5) = 0 → 
              P (some (.inl 0)) sg) ∧
            (¬ (¬ (sg 1 5) = 0) → 
              P (some (.inl 1)) sg))) ∧
        (¬ ((sg 1 5) ≤ 1) → 
          (1024 < (sg 1 5) → 
            (y5 = 0 → 
              P (some (.inl 0)) sg) ∧
            (¬ (y5 = 0) → 
              (¬ (sg 1 5) = 0 → 
                P (some (.inl 0)) sg) ∧
              (¬ (¬ (sg 1 5) = 0) → 
                P (some (.inl 1)) sg))) ∧
          (¬ (1024 < (sg 1 5)) → 
            (rIn ((sg 1 5) - 2) 1024 = true ∧
            EvS rSkel 1 76 [.inr (.inr (some kb)), .inl (sg 2 (((sg 1 5) - 2).toNatClampNeg))] (up2 sg 1 5 ((sg 1 5) - 2)) (fun v17 t18 => ∃ n20, v17 = some (.inl n20) ∧
              (rIn ((t18 1 5) + 1) 1024 = true ∧
              EvS rSkel 1 76 [.inr (.inr (some kb)), .inl (t18 2 (((t18 1 5) + 1).toNatClampNeg))] t18 (fun v21 t22 => ∃ n24, v21 = some (.inl n24) ∧
                (¬ n20 = n24 → 
                  EvS rSkel 1 77 [.inl n20] t22 (fun v26 t27 => ∃ n29, v26 = some (.inl n29) ∧
                    (n29 = 0 → 
                      EvS rSkel 1 77 [.inl n24] t27 (fun v31 t32 => ∃ n34, v31 = some (.inl n34) ∧
                        (n34 = 0 → 
                          EvS rSkel 1 74 [.inl n20] t32 (fun v36 t37 => ∃ n39, v36 = some (.inl n39) ∧
                            (n39 = 0 → 
                              g_65_22 s kb nb 0 (y6 + 1) t37 P) ∧
                            (¬ (n39 = 0) → 
                              EvS rSkel 1 74 [.inl n24] t37 (fun v41 t42 => ∃ n44, v41 = some (.inl n44) ∧
                                (n44 = 0 → 
                                  g_65_22 s kb nb 0 (y6 + 1) t42 P) ∧
                                (¬ (n44 = 0) → 
                                  EvS rSkel 2 30 [.inr (.inr (some s)), .inl n20, .inl 1] t42 (fun v46 t47 => ∃ n49, v46 = some (.inl n49) ∧
                                    EvS rSkel 2 30 [.inr (.inr (some s)), .inl n24, .inl 1] t47 (fun v50 t51 => ∃ n53, v50 = some (.inl n53) ∧
                                      EvS rSkel 1 66 [.inr (.inr (some 1)), .inl n49, .inl n53] t51 (fun v54 t55 => ∃ n57, v54 = some (.inl n57) ∧
                                        (n57 = 0 → 
                                          g_65_22 s kb nb 0 (y6 + 1) t55 P) ∧
                                        (¬ (n57 = 0) → 
                                          EvS rSkel 2 30 [.inr (.inr (some s)), .inl n20, .inl 0] t55 (fun v59 t60 => ∃ n62, v59 = some (.inl n62) ∧
                                            EvS rSkel 2 30 [.inr (.inr (some s)), .inl n24, .inl 0] t60 (fun v63 t64 => ∃ n66, v63 = some (.inl n66) ∧
                                              EvS rSkel 1 66 [.inr (.inr (some 1)), .inl n62, .inl n66] t64 (fun v67 t68 => ∃ n70, v67 = some (.inl n70) ∧
                                                (n70 = 0 → 
                                                  g_65_22 s kb nb 0 (y6 + 1) t68 P) ∧
                                                (¬ (n70 = 0) → 
                                                  g_65_22 s kb nb 1 (y6 + 1) t68 P))))))))))))) ∧
                        (¬ (n34 = 0) → 
                          EvS rSkel 3 67 [.inr (.inr (some 1)), .inr (.inr (some s)), .inr (.inr (some kb)), .inl n24, .inl n20] t32 (fun v72 t73 => ∃ n75, v72 = some (.inl n75) ∧
                            (¬ n75 = 0 → 
                              g_65_22 s kb nb 0 (y6 + 1) t73 P) ∧
                            (¬ (¬ n75 = 0) → 
                              EvS rSkel 1 68 [.inr (.inr (some 1)), .inr (.inr (some kb)), .inl n24, .inl n20] t73 (fun v77 t78 => ∃ n80, v77 = some (.inl n80) ∧
                                (n80 = 0 → 
                                  g_65_22 s kb nb 0 (y6 + 1) t78 P) ∧
                                (¬ (n80 = 0) → 
                                  g_65_22 s kb nb 1 (y6 + 1) t78 P))))))) ∧
                    (¬ (n29 = 0) → 
                      EvS rSkel 3 67 [.inr (.inr (some 1)), .inr (.inr (some s)), .inr (.inr (some kb)), .inl n20, .inl n24] t27 (fun v82 t83 => ∃ n85, v82 = some (.inl n85) ∧
                        (¬ n85 = 0 → 
                          g_65_22 s kb nb 0 (y6 + 1) t83 P) ∧
                        (¬ (¬ n85 = 0) → 
                          EvS rSkel 1 68 [.inr (.inr (some 1)), .inr (.inr (some kb)), .inl n20, .inl n24] t83 (fun v87 t88 => ∃ n90, v87 = some (.inl n90) ∧
                            (n90 = 0 → 
                              g_65_22 s kb nb 0 (y6 + 1) t88 P) ∧
                            (¬ (n90 = 0) → 
                              g_65_22 s kb nb 1 (y6 + 1) t88 P))))))) ∧
                (¬ (¬ n20 = n24) → 
                  g_65_22 s kb nb y5 (y6 + 1) t22 P)))))))))) : g_65_22 s kb nb y5 y6 sg P := by
  show GoS rSkel 3 7 9 (some .boolean) false prog_9_method_2_code 22 [(0, .inr (.inr (some 1))), (1, .inr (.inr (some s))), (2, .inr (.inr (some kb))), (5, .inl y5), (6, .inl y6)] [] sg P
  have b_s := hs.1
  have b_kb := hkb.1
  refine gs0 24 [(0, .inr (.inr (some 1))), (1, .inr (.inr (some s))), (2, .inr (.inr (some kb))), (5, .inl y5), (6, .inl y6)] [.inl y6] dM_65_22 (fun _ => rfl) (Or.inr rfl) ?_
  refine gs0 26 [(0, .inr (.inr (some 1))), (1, .inr (.inr (some s))), (2, .inr (.inr (some kb))), (5, .inl y5), (6, .inl y6)] [.inl 1000000, .inl y6] dM_65_24 (fun _ => rfl) (Or.inr rfl) ?_
  refine gsIf (t := 261) (C := 1000000 ≤ y6) (r := []) dM_65_26 (fun _ => rfl) (Or.inr rfl) (rTest_iff .ge y6 1000000) (fun c5 => ?_) (fun c5 => ?_)
  · replace h := h.1 c5
    refine gs0 263 [(0, .inr (.inr (some 1))), (1, .inr (.inr (some s))), (2, .inr (.inr (some kb))), (5, .inl y5), (6, .inl y6)] [.inl y5] dM_65_261 (fun _ => rfl) (Or.inr rfl) ?_
    refine gsIf (t := 277) (C := y5 = 0) (r := []) dM_65_263 (fun _ => rfl) (Or.inr rfl) (rTest_iff .eq y5 0) (fun c6 => ?_) (fun c6 => ?_)
    · replace h := h.1 c6
      refine gs0 278 [(0, .inr (.inr (some 1))), (1, .inr (.inr (some s))), (2, .inr (.inr (some kb))), (5, .inl y5), (6, .inl y6)] [.inl 0] dM_65_277 (fun _ => rfl) (Or.inr rfl) ?_
      refine gsRet (r := some (.inl 0)) dM_65_278 (fun _ => rfl) (Or.inr rfl) ?_
      exact h
    · replace h := h.2 c6
      refine gs0 267 [(0, .inr (.inr (some 1))), (1, .inr (.inr (some s))), (2, .inr (.inr (some kb))), (5, .inl y5), (6, .inl y6)] [.inr (.inr (some 1))] dM_65_266 (fun _ => rfl) (Or.inr rfl) ?_
      refine gsGetE (sg 1 5) dM_65_267 sk_1 rfl rfl rfl ?_
      refine gsIf (t := 277) (C := ¬ (sg 1 5) = 0) (r := []) dM_65_270 (fun _ => rfl) (Or.inr rfl) (rTest_iff .ne (sg 1 5) 0) (fun c7 => ?_) (fun c7 => ?_)
      · replace h := h.1 c7
        refine gs0 278 [(0, .inr (.inr (some 1))), (1, .inr (.inr (some s))), (2, .inr (.inr (some kb))), (5, .inl y5), (6, .inl y6)] [.inl 0] dM_65_277 (fun _ => rfl) (Or.inr rfl) ?_
        refine gsRet (r := some (.inl 0)) dM_65_278 (fun _ => rfl) (Or.inr rfl) ?_
        exact h
      · replace h := h.2 c7
        refine gs0 274 [(0, .inr (.inr (some 1))), (1, .inr (.inr (some s))), (2, .inr (.inr (some kb))), (5, .inl y5), (6, .inl y6)] [.inl 1] dM_65_273 (fun _ => rfl) (Or.inr rfl) ?_
        refine gs0 278 [(0, .inr (.inr (some 1))), (1, .inr (.inr (some s))), (2, .inr (.inr (some kb))), (5, .inl y5), (6, .inl y6)] [.inl 1] dM_65_274 (fun _ => rfl) (Or.inr rfl) ?_
        refine gsRet (r := some (.inl 1)) dM_65_278 (fun _ => rfl) (Or.inr rfl) ?_
        exact h
  · replace h := h.2 c5
    refine gs0 31 [(0, .inr (.inr (some 1))), (1, .inr (.inr (some s))), (2, .inr (.inr (some kb))), (5, .inl y5), (6, .inl y6)] [.inl y5] dM_65_29 (fun _ => rfl) (Or.inr rfl) ?_
    refine gsIf (t := 261) (C := y5 = 0) (r := []) dM_65_31 (fun _ => rfl) (Or.inr rfl) (rTest_iff .eq y5 0) (fun c8 => ?_) (fun c8 => ?_)
    · replace h := h.1 c8
      refine gs0 263 [(0, .inr (.inr (some 1))), (1, .inr (.inr (some s))), (2, .inr (.inr (some kb))), (5, .inl y5), (6, .inl y6)] [.inl y5] dM_65_261 (fun _ => rfl) (Or.inr rfl) ?_
      refine gsIf (t := 277) (C := y5 = 0) (r := []) dM_65_263 (fun _ => rfl) (Or.inr rfl) (rTest_iff .eq y5 0) (fun c9 => ?_) (fun c9 => ?_)
      · replace h := h.1 c9
        refine gs0 278 [(0, .inr (.inr (some 1))), (1, .inr (.inr (some s))), (2, .inr (.inr (some kb))), (5, .inl y5), (6, .inl y6)] [.inl 0] dM_65_277 (fun _ => rfl) (Or.inr rfl) ?_
        refine gsRet (r := some (.inl 0)) dM_65_278 (fun _ => rfl) (Or.inr rfl) ?_
        exact h
      · replace h := h.2 c9
        refine gs0 267 [(0, .inr (.inr (some 1))), (1, .inr (.inr (some s))), (2, .inr (.inr (some kb))), (5, .inl y5), (6, .inl y6)] [.inr (.inr (some 1))] dM_65_266 (fun _ => rfl) (Or.inr rfl) ?_
        refine gsGetE (sg 1 5) dM_65_267 sk_1 rfl rfl rfl ?_
        refine gsIf (t := 277) (C := ¬ (sg 1 5) = 0) (r := []) dM_65_270 (fun _ => rfl) (Or.inr rfl) (rTest_iff .ne (sg 1 5) 0) (fun c10 => ?_) (fun c10 => ?_)
        · replace h := h.1 c10
          refine gs0 278 [(0, .inr (.inr (some 1))), (1, .inr (.inr (some s))), (2, .inr (.inr (some kb))), (5, .inl y5), (6, .inl y6)] [.inl 0] dM_65_277 (fun _ => rfl) (Or.inr rfl) ?_
          refine gsRet (r := some (.inl 0)) dM_65_278 (fun _ => rfl) (Or.inr rfl) ?_
          exact h
        · replace h := h.2 c10
          refine gs0 274 [(0, .inr (.inr (some 1))), (1, .inr (.inr (some s))), (2, .inr (.inr (some kb))), (5, .inl y5), (6, .inl y6)] [.inl 1] dM_65_273 (fun _ => rfl) (Or.inr rfl) ?_
          refine gs0 278 [(0, .inr (.inr (some 1))), (1, .inr (.inr (some s))), (2, .inr (.inr (some kb))), (5, .inl y5), (6, .inl y6)] [.inl 1] dM_65_274 (fun _ => rfl) (Or.inr rfl) ?_
          refine gsRet (r := some (.inl 1)) dM_65_278 (fun _ => rfl) (Or.inr rfl) ?_
          exact h
    · replace h := h.2 c8
      refine gs0 35 [(0, .inr (.inr (some 1))), (1, .inr (.inr (some s))), (2, .inr (.inr (some kb))), (5, .inl y5), (6, .inl y6)] [.inr (.inr (some 1))] dM_65_34 (fun _ => rfl) (Or.inr rfl) ?_
      refine gsGetE (sg 1 5) dM_65_35 sk_1 rfl rfl rfl ?_
      refine gs0 39 [(0, .inr (.inr (some 1))), (1, .inr (.inr (some s))), (2, .inr (.inr (some kb))), (5, .inl y5), (6, .inl y6)] [.inl 1, .inl (sg 1 5)] dM_65_38 (fun _ => rfl) (Or.inr rfl) ?_
      refine gsIf (t := 261) (C := (sg 1 5) ≤ 1) (r := []) dM_65_39 (fun _ => rfl) (Or.inr rfl) (rTest_iff .le (sg 1 5) 1) (fun c11 => ?_) (fun c11 => ?_)
      · replace h := h.1 c11
        refine gs0 263 [(0, .inr (.inr (some 1))), (1, .inr (.inr (some s))), (2, .inr (.inr (some kb))), (5, .inl y5), (6, .inl y6)] [.inl y5] dM_65_261 (fun _ => rfl) (Or.inr rfl) ?_
        refine gsIf (t := 277) (C := y5 = 0) (r := []) dM_65_263 (fun _ => rfl) (Or.inr rfl) (rTest_iff .eq y5 0) (fun c12 => ?_) (fun c12 => ?_)
        · replace h := h.1 c12
          refine gs0 278 [(0, .inr (.inr (some 1))), (1, .inr (.inr (some s))), (2, .inr (.inr (some kb))), (5, .inl y5), (6, .inl y6)] [.inl 0] dM_65_277 (fun _ => rfl) (Or.inr rfl) ?_
          refine gsRet (r := some (.inl 0)) dM_65_278 (fun _ => rfl) (Or.inr rfl) ?_
          exact h
        · replace h := h.2 c12
          refine gs0 267 [(0, .inr (.inr (some 1))), (1, .inr (.inr (some s))), (2, .inr (.inr (some kb))), (5, .inl y5), (6, .inl y6)] [.inr (.inr (some 1))] dM_65_266 (fun _ => rfl) (Or.inr rfl) ?_
          refine gsGetE (sg 1 5) dM_65_267 sk_1 rfl rfl rfl ?_
          refine gsIf (t := 277) (C := ¬ (sg 1 5) = 0) (r := []) dM_65_270 (fun _ => rfl) (Or.inr rfl) (rTest_iff .ne (sg 1 5) 0) (fun c13 => ?_) (fun c13 => ?_)
          · replace h := h.1 c13
            refine gs0 278 [(0, .inr (.inr (some 1))), (1, .inr (.inr (some s))), (2, .inr (.inr (some kb))), (5, .inl y5), (6, .inl y6)] [.inl 0] dM_65_277 (fun _ => rfl) (Or.inr rfl) ?_
            refine gsRet (r := some (.inl 0)) dM_65_278 (fun _ => rfl) (Or.inr rfl) ?_
            exact h
          · replace h := h.2 c13
            refine gs0 274 [(0, .inr (.inr (some 1))), (1, .inr (.inr (some s))), (2, .inr (.inr (some kb))), (5, .inl y5), (6, .inl y6)] [.inl 1] dM_65_273 (fun _ => rfl) (Or.inr rfl) ?_
            refine gs0 278 [(0, .inr (.inr (some 1))), (1, .inr (.inr (some s))), (2, .inr (.inr (some kb))), (5, .inl y5), (6, .inl y6)] [.inl 1] dM_65_274 (fun _ => rfl) (Or.inr rfl) ?_
            refine gsRet (r := some (.inl 1)) dM_65_278 (fun _ => rfl) (Or.inr rfl) ?_
            exact h
      · replace h := h.2 c11
        refine gs0 43 [(0, .inr (.inr (some 1))), (1, .inr (.inr (some s))), (2, .inr (.inr (some kb))), (5, .inl y5), (6, .inl y6)] [.inr (.inr (some 1))] dM_65_42 (fun _ => rfl) (Or.inr rfl) ?_
        refine gsGetE (sg 1 5) dM_65_43 sk_1 rfl rfl rfl ?_
        refine gs0 49 [(0, .inr (.inr (some 1))), (1, .inr (.inr (some s))), (2, .inr (.inr (some kb))), (5, .inl y5), (6, .inl y6)] [.inl 1024, .inl (sg 1 5)] dM_65_46 (fun _ => rfl) (Or.inr rfl) ?_
        refine gsIf (t := 261) (C := 1024 < (sg 1 5)) (r := []) dM_65_49 (fun _ => rfl) (Or.inr rfl) (rTest_iff .gt (sg 1 5) 1024) (fun c14 => ?_) (fun c14 => ?_)
        · replace h := h.1 c14
          refine gs0 263 [(0, .inr (.inr (some 1))), (1, .inr (.inr (some s))), (2, .inr (.inr (some kb))), (5, .inl y5), (6, .inl y6)] [.inl y5] dM_65_261 (fun _ => rfl) (Or.inr rfl) ?_
          refine gsIf (t := 277) (C := y5 = 0) (r := []) dM_65_263 (fun _ => rfl) (Or.inr rfl) (rTest_iff .eq y5 0) (fun c15 => ?_) (fun c15 => ?_)
          · replace h := h.1 c15
            refine gs0 278 [(0, .inr (.inr (some 1))), (1, .inr (.inr (some s))), (2, .inr (.inr (some kb))), (5, .inl y5), (6, .inl y6)] [.inl 0] dM_65_277 (fun _ => rfl) (Or.inr rfl) ?_
            refine gsRet (r := some (.inl 0)) dM_65_278 (fun _ => rfl) (Or.inr rfl) ?_
            exact h
          · replace h := h.2 c15
            refine gs0 267 [(0, .inr (.inr (some 1))), (1, .inr (.inr (some s))), (2, .inr (.inr (some kb))), (5, .inl y5), (6, .inl y6)] [.inr (.inr (some 1))] dM_65_266 (fun _ => rfl) (Or.inr rfl) ?_
            refine gsGetE (sg 1 5) dM_65_267 sk_1 rfl rfl rfl ?_
            refine gsIf (t := 277) (C := ¬ (sg 1 5) = 0) (r := []) dM_65_270 (fun _ => rfl) (Or.inr rfl) (rTest_iff .ne (sg 1 5) 0) (fun c16 => ?_) (fun c16 => ?_)
            · replace h := h.1 c16
              refine gs0 278 [(0, .inr (.inr (some 1))), (1, .inr (.inr (some s))), (2, .inr (.inr (some kb))), (5, .inl y5), (6, .inl y6)] [.inl 0] dM_65_277 (fun _ => rfl) (Or.inr rfl) ?_
              refine gsRet (r := some (.inl 0)) dM_65_278 (fun _ => rfl) (Or.inr rfl) ?_
              exact h
            · replace h := h.2 c16
              refine gs0 274 [(0, .inr (.inr (some 1))), (1, .inr (.inr (some s))), (2, .inr (.inr (some kb))), (5, .inl y5), (6, .inl y6)] [.inl 1] dM_65_273 (fun _ => rfl) (Or.inr rfl) ?_
              refine gs0 278 [(0, .inr (.inr (some 1))), (1, .inr (.inr (some s))), (2, .inr (.inr (some kb))), (5, .inl y5), (6, .inl y6)] [.inl 1] dM_65_274 (fun _ => rfl) (Or.inr rfl) ?_
              refine gsRet (r := some (.inl 1)) dM_65_278 (fun _ => rfl) (Or.inr rfl) ?_
              exact h
        · replace h := h.2 c14
          refine gs0 53 [(0, .inr (.inr (some 1))), (1, .inr (.inr (some s))), (2, .inr (.inr (some kb))), (5, .inl y5), (6, .inl y6)] [.inr (.inr (some 1))] dM_65_52 (fun _ => rfl) (Or.inr rfl) ?_
          refine gs0 54 [(0, .inr (.inr (some 1))), (1, .inr (.inr (some s))), (2, .inr (.inr (some kb))), (5, .inl y5), (6, .inl y6)] [.inr (.inr (some 1)), .inr (.inr (some 1))] dM_65_53 (fun _ => rfl) (Or.inr rfl) ?_
          refine gsGetE (sg 1 5) dM_65_54 sk_1 rfl rfl rfl ?_
          refine gs0 58 [(0, .inr (.inr (some 1))), (1, .inr (.inr (some s))), (2, .inr (.inr (some kb))), (5, .inl y5), (6, .inl y6)] [.inl 2, .inl (sg 1 5), .inr (.inr (some 1))] dM_65_57 (fun _ => rfl) (Or.inr rfl) ?_
          refine gs0 59 [(0, .inr (.inr (some 1))), (1, .inr (.inr (some s))), (2, .inr (.inr (some kb))), (5, .inl y5), (6, .inl y6)] [.inl ((sg 1 5) - 2), .inr (.inr (some 1))] dM_65_58 (fun _ => rfl) (Or.inr rfl) ?_
          refine gsPut dM_65_59 sk_1 rfl rfl rfl (by decide) ?_
          refine gs0 63 [(0, .inr (.inr (some 1))), (1, .inr (.inr (some s))), (2, .inr (.inr (some kb))), (5, .inl y5), (6, .inl y6)] [.inr (.inr (some kb))] dM_65_62 (fun _ => rfl) (Or.inr rfl) ?_
          refine gs0 64 [(0, .inr (.inr (some 1))), (1, .inr (.inr (some s))), (2, .inr (.inr (some kb))), (5, .inl y5), (6, .inl y6)] [.inr (.inr (some 1)), .inr (.inr (some kb))] dM_65_63 (fun _ => rfl) (Or.inr rfl) ?_
          refine gsGetR (some 2) dM_65_64 sk_1 rfl rfl ?_
          refine gs0 68 [(0, .inr (.inr (some 1))), (1, .inr (.inr (some s))), (2, .inr (.inr (some kb))), (5, .inl y5), (6, .inl y6)] [.inr (.inr (some 1)), .inr (.inr (some 2)), .inr (.inr (some kb))] dM_65_67 (fun _ => rfl) (Or.inr rfl) ?_
          refine gsGetE ((sg 1 5) - 2) dM_65_68 sk_1 rfl rfl (up2_same _ _ _ _) ?_
          refine gsIaldN (((sg 1 5) - 2).toNatClampNeg) (sg 2 (((sg 1 5) - 2).toNatClampNeg)) dM_65_71 sk_2 h.1 rfl (congrFun (up2_nk _ _ _ (by decide)) _) ?_
          replace h := h.2
          refine gsCallS (y := 76) (as := [.inr (.inr (some kb)), .inl (sg 2 (((sg 1 5) - 2).toNatClampNeg))]) (r := []) dM_65_72 rfl (Or.inr rfl) rfl rfl (Nat.le_of_ble_eq_true rfl) (EvS.up h (Nat.le_of_ble_eq_true rfl)) (fun v17 t18 hv19 => ?_)
          obtain ⟨n20, rfl, hn⟩ := hv19
          clear h
          show GoS _ _ _ _ _ _ _ _ [(0, .inr (.inr (some 1))), (1, .inr (.inr (some s))), (2, .inr (.inr (some kb))), (5, .inl y5), (6, .inl y6)] [.inl n20] t18 _
          refine gs0 77 [(7, .inl n20), (0, .inr (.inr (some 1))), (1, .inr (.inr (some s))), (2, .inr (.inr (some kb))), (5, .inl y5), (6, .inl y6)] [] dM_65_75 (fun _ => rfl) (Or.inr rfl) ?_
          refine gs0 78 [(7, .inl n20), (0, .inr (.inr (some 1))), (1, .inr (.inr (some s))), (2, .inr (.inr (some kb))), (5, .inl y5), (6, .inl y6)] [.inr (.inr (some kb))] dM_65_77 (fun _ => rfl) (Or.inr rfl) ?_
          refine gs0 79 [(7, .inl n20), (0, .inr (.inr (some 1))), (1, .inr (.inr (some s))), (2, .inr (.inr (some kb))), (5, .inl y5), (6, .inl y6)] [.inr (.inr (some 1)), .inr (.inr (some kb))] dM_65_78 (fun _ => rfl) (Or.inr rfl) ?_
          refine gsGetR (some 2) dM_65_79 sk_1 rfl rfl ?_
          refine gs0 83 [(7, .inl n20), (0, .inr (.inr (some 1))), (1, .inr (.inr (some s))), (2, .inr (.inr (some kb))), (5, .inl y5), (6, .inl y6)] [.inr (.inr (some 1)), .inr (.inr (some 2)), .inr (.inr (some kb))] dM_65_82 (fun _ => rfl) (Or.inr rfl) ?_
          refine gsGetE (t18 1 5) dM_65_83 sk_1 rfl rfl rfl ?_
          refine gs0 87 [(7, .inl n20), (0, .inr (.inr (some 1))), (1, .inr (.inr (some s))), (2, .inr (.inr (some kb))), (5, .inl y5), (6, .inl y6)] [.inl 1, .inl (t18 1 5), .inr (.inr (some 2)), .inr (.inr (some kb))] dM_65_86 (fun _ => rfl) (Or.inr rfl) ?_
          refine gs0 88 [(7, .inl n20), (0, .inr (.inr (some 1))), (1, .inr (.inr (some s))), (2, .inr (.inr (some kb))), (5, .inl y5), (6, .inl y6)] [.inl ((t18 1 5) + 1), .inr (.inr (some 2)), .inr (.inr (some kb))] dM_65_87 (fun _ => rfl) (Or.inr rfl) ?_
          refine gsIaldN (((t18 1 5) + 1).toNatClampNeg) (t18 2 (((t18 1 5) + 1).toNatClampNeg)) dM_65_88 sk_2 hn.1 rfl rfl ?_
          replace hn := hn.2
          refine gsCallS (y := 76) (as := [.inr (.inr (some kb)), .inl (t18 2 (((t18 1 5) + 1).toNatClampNeg))]) (r := []) dM_65_89 rfl (Or.inr rfl) rfl rfl (Nat.le_of_ble_eq_true rfl) (EvS.up hn (Nat.le_of_ble_eq_true rfl)) (fun v21 t22 hv23 => ?_)
          obtain ⟨n24, rfl, hnn⟩ := hv23
          clear hn
          show GoS _ _ _ _ _ _ _ _ [(7, .inl n20), (0, .inr (.inr (some 1))), (1, .inr (.inr (some s))), (2, .inr (.inr (some kb))), (5, .inl y5), (6, .inl y6)] [.inl n24] t22 _
          refine gs0 94 [(8, .inl n24), (7, .inl n20), (0, .inr (.inr (some 1))), (1, .inr (.inr (some s))), (2, .inr (.inr (some kb))), (5, .inl y5), (6, .inl y6)] [] dM_65_92 (fun _ => rfl) (Or.inr rfl) ?_
          refine gs0 96 [(8, .inl n24), (7, .inl n20), (0, .inr (.inr (some 1))), (1, .inr (.inr (some s))), (2, .inr (.inr (some kb))), (5, .inl y5), (6, .inl y6)] [.inl n20] dM_65_94 (fun _ => rfl) (Or.inr rfl) ?_
          refine gs0 98 [(8, .inl n24), (7, .inl n20), (0, .inr (.inr (some 1))), (1, .inr (.inr (some s))), (2, .inr (.inr (some kb))), (5, .inl y5), (6, .inl y6)] [.inl n24, .inl n20] dM_65_96 (fun _ => rfl) (Or.inr rfl) ?_
          refine gsIf (t := 104) (C := ¬ n20 = n24) (r := []) dM_65_98 (fun _ => rfl) (Or.inr rfl) (rTest_iff .ne n20 n24) (fun c25 => ?_) (fun c25 => ?_)
          · replace hnn := hnn.1 c25
            refine gs0 106 [(8, .inl n24), (7, .inl n20), (0, .inr (.inr (some 1))), (1, .inr (.inr (some s))), (2, .inr (.inr (some kb))), (5, .inl y5), (6, .inl y6)] [.inl n20] dM_65_104 (fun _ => rfl) (Or.inr rfl) ?_
            refine gsCallS (y := 77) (as := [.inl n20]) (r := []) dM_65_106 rfl (Or.inr rfl) rfl rfl (Nat.le_of_ble_eq_true rfl) (EvS.up hnn (Nat.le_of_ble_eq_true rfl)) (fun v26 t27 hv28 => ?_)
            obtain ⟨n29, rfl, hnnn⟩ := hv28
            clear hnn
            show GoS _ _ _ _ _ _ _ _ [(8, .inl n24), (7, .inl n20), (0, .inr (.inr (some 1))), (1, .inr (.inr (some s))), (2, .inr (.inr (some kb))), (5, .inl y5), (6, .inl y6)] [.inl n29] t27 _
            refine gsIf (t := 147) (C := n29 = 0) (r := []) dM_65_109 (fun _ => rfl) (Or.inr rfl) (rTest_iff .eq n29 0) (fun c30 => ?_) (fun c30 => ?_)
            · replace hnnn := hnnn.1 c30
              refine gs0 149 [(8, .inl n24), (7, .inl n20), (0, .inr (.inr (some 1))), (1, .inr (.inr (some s))), (2, .inr (.inr (some kb))), (5, .inl y5), (6, .inl y6)] [.inl n24] dM_65_147 (fun _ => rfl) (Or.inr rfl) ?_
              refine gsCallS (y := 77) (as := [.inl n24]) (r := []) dM_65_149 rfl (Or.inr rfl) rfl rfl (Nat.le_of_ble_eq_true rfl) (EvS.up hnnn (Nat.le_of_ble_eq_true rfl)) (fun v31 t32 hv33 => ?_)
              obtain ⟨n34, rfl, hnnnn⟩ := hv33
              clear hnnn
              show GoS _ _ _ _ _ _ _ _ [(8, .inl n24), (7, .inl n20), (0, .inr (.inr (some 1))), (1, .inr (.inr (some s))), (2, .inr (.inr (some kb))), (5, .inl y5), (6, .inl y6)] [.inl n34] t32 _
              refine gsIf (t := 190) (C := n34 = 0) (r := []) dM_65_152 (fun _ => rfl) (Or.inr rfl) (rTest_iff .eq n34 0) (fun c35 => ?_) (fun c35 => ?_)
              · replace hnnnn := hnnnn.1 c35
                refine gs0 192 [(8, .inl n24), (7, .inl n20), (0, .inr (.inr (some 1))), (1, .inr (.inr (some s))), (2, .inr (.inr (some kb))), (5, .inl y5), (6, .inl y6)] [.inl n20] dM_65_190 (fun _ => rfl) (Or.inr rfl) ?_
                refine gsCallS (y := 74) (as := [.inl n20]) (r := []) dM_65_192 rfl (Or.inr rfl) rfl rfl (Nat.le_of_ble_eq_true rfl) (EvS.up hnnnn (Nat.le_of_ble_eq_true rfl)) (fun v36 t37 hv38 => ?_)
                obtain ⟨n39, rfl, hnnnnn⟩ := hv38
                clear hnnnn
                show GoS _ _ _ _ _ _ _ _ [(8, .inl n24), (7, .inl n20), (0, .inr (.inr (some 1))), (1, .inr (.inr (some s))), (2, .inr (.inr (some kb))), (5, .inl y5), (6, .inl y6)] [.inl n39] t37 _
                refine gsIf (t := 252) (C := n39 = 0) (r := []) dM_65_195 (fun _ => rfl) (Or.inr rfl) (rTest_iff .eq n39 0) (fun c40 => ?_) (fun c40 => ?_)
                · replace hnnnnn := hnnnnn.1 c40
                  refine gs0 253 [(8, .inl n24), (7, .inl n20), (0, .inr (.inr (some 1))), (1, .inr (.inr (some s))), (2, .inr (.inr (some kb))), (5, .inl y5), (6, .inl y6)] [.inl 0] dM_65_252 (fun _ => rfl) (Or.inr rfl) ?_
                  refine gs0 255 [(5, .inl 0), (8, .inl n24), (7, .inl n20), (0, .inr (.inr (some 1))), (1, .inr (.inr (some s))), (2, .inr (.inr (some kb))), (6, .inl y6)] [] dM_65_253 (fun _ => rfl) (Or.inr rfl) ?_
                  refine gs0 258 [(6, .inl (y6 + 1)), (5, .inl 0), (8, .inl n24), (7, .inl n20), (0, .inr (.inr (some 1))), (1, .inr (.inr (some s))), (2, .inr (.inr (some kb)))] [] dM_65_255 (fun _ => rfl) (Or.inr rfl) ?_
                  refine gs0 22 [(6, .inl (y6 + 1)), (5, .inl 0), (8, .inl n24), (7, .inl n20), (0, .inr (.inr (some 1))), (1, .inr (.inr (some s))), (2, .inr (.inr (some kb)))] [] dM_65_258 (fun _ => rfl) (Or.inr rfl) ?_
                  exact GoS.sub (Lnd_keys (ks := [0, 1, 2, 5, 6]) rfl (by decide)) (Lsub_cons rfl (Lsub_cons rfl (Lsub_cons rfl (Lsub_cons rfl (Lsub_cons rfl Lsub_nil))))) hnnnnn
                · replace hnnnnn := hnnnnn.2 c40
                  refine gs0 200 [(8, .inl n24), (7, .inl n20), (0, .inr (.inr (some 1))), (1, .inr (.inr (some s))), (2, .inr (.inr (some kb))), (5, .inl y5), (6, .inl y6)] [.inl n24] dM_65_198 (fun _ => rfl) (Or.inr rfl) ?_
                  refine gsCallS (y := 74) (as := [.inl n24]) (r := []) dM_65_200 rfl (Or.inr rfl) rfl rfl (Nat.le_of_ble_eq_true rfl) (EvS.up hnnnnn (Nat.le_of_ble_eq_true rfl)) (fun v41 t42 hv43 => ?_)
                  obtain ⟨n44, rfl, hnnnnnn⟩ := hv43
                  clear hnnnnn
                  show GoS _ _ _ _ _ _ _ _ [(8, .inl n24), (7, .inl n20), (0, .inr (.inr (some 1))), (1, .inr (.inr (some s))), (2, .inr (.inr (some kb))), (5, .inl y5), (6, .inl y6)] [.inl n44] t42 _
                  refine gsIf (t := 252) (C := n44 = 0) (r := []) dM_65_203 (fun _ => rfl) (Or.inr rfl) (rTest_iff .eq n44 0) (fun c45 => ?_) (fun c45 => ?_)
                  · replace hnnnnnn := hnnnnnn.1 c45
                    refine gs0 253 [(8, .inl n24), (7, .inl n20), (0, .inr (.inr (some 1))), (1, .inr (.inr (some s))), (2, .inr (.inr (some kb))), (5, .inl y5), (6, .inl y6)] [.inl 0] dM_65_252 (fun _ => rfl) (Or.inr rfl) ?_
                    refine gs0 255 [(5, .inl 0), (8, .inl n24), (7, .inl n20), (0, .inr (.inr (some 1))), (1, .inr (.inr (some s))), (2, .inr (.inr (some kb))), (6, .inl y6)] [] dM_65_253 (fun _ => rfl) (Or.inr rfl) ?_
                    refine gs0 258 [(6, .inl (y6 + 1)), (5, .inl 0), (8, .inl n24), (7, .inl n20), (0, .inr (.inr (some 1))), (1, .inr (.inr (some s))), (2, .inr (.inr (some kb)))] [] dM_65_255 (fun _ => rfl) (Or.inr rfl) ?_
                    refine gs0 22 [(6, .inl (y6 + 1)), (5, .inl 0), (8, .inl n24), (7, .inl n20), (0, .inr (.inr (some 1))), (1, .inr (.inr (some s))), (2, .inr (.inr (some kb)))] [] dM_65_258 (fun _ => rfl) (Or.inr rfl) ?_
                    exact GoS.sub (Lnd_keys (ks := [0, 1, 2, 5, 6]) rfl (by decide)) (Lsub_cons rfl (Lsub_cons rfl (Lsub_cons rfl (Lsub_cons rfl (Lsub_cons rfl Lsub_nil))))) hnnnnnn
                  · replace hnnnnnn := hnnnnnn.2 c45
                    refine gs0 207 [(8, .inl n24), (7, .inl n20), (0, .inr (.inr (some 1))), (1, .inr (.inr (some s))), (2, .inr (.inr (some kb))), (5, .inl y5), (6, .inl y6)] [.inr (.inr (some 1))] dM_65_206 (fun _ => rfl) (Or.inr rfl) ?_
                    refine gs0 208 [(8, .inl n24), (7, .inl n20), (0, .inr (.inr (some 1))), (1, .inr (.inr (some s))), (2, .inr (.inr (some kb))), (5, .inl y5), (6, .inl y6)] [.inr (.inr (some s)), .inr (.inr (some 1))] dM_65_207 (fun _ => rfl) (Or.inr rfl) ?_
                    refine gs0 210 [(8, .inl n24), (7, .inl n20), (0, .inr (.inr (some 1))), (1, .inr (.inr (some s))), (2, .inr (.inr (some kb))), (5, .inl y5), (6, .inl y6)] [.inl n20, .inr (.inr (some s)), .inr (.inr (some 1))] dM_65_208 (fun _ => rfl) (Or.inr rfl) ?_
                    refine gs0 211 [(8, .inl n24), (7, .inl n20), (0, .inr (.inr (some 1))), (1, .inr (.inr (some s))), (2, .inr (.inr (some kb))), (5, .inl y5), (6, .inl y6)] [.inl 1, .inl n20, .inr (.inr (some s)), .inr (.inr (some 1))] dM_65_210 (fun _ => rfl) (Or.inr rfl) ?_
                    refine gsCallV (y := 30) (k := s) (as := [.inr (.inr (some s)), .inl n20, .inl 1]) (r := [.inr (.inr (some 1))]) dM_65_211 rfl rfl rfl (Nat.le_of_ble_eq_true rfl) hs.2.1 rfl (Nat.le_of_ble_eq_true rfl) (EvS.up hnnnnnn (Nat.le_of_ble_eq_true rfl)) (fun v46 t47 hv48 => ?_)
                    obtain ⟨n49, rfl, hnnnnnnn⟩ := hv48
                    clear hnnnnnn
                    show GoS _ _ _ _ _ _ _ _ [(8, .inl n24), (7, .inl n20), (0, .inr (.inr (some 1))), (1, .inr (.inr (some s))), (2, .inr (.inr (some kb))), (5, .inl y5), (6, .inl y6)] [.inl n49, .inr (.inr (some 1))] t47 _
                    refine gs0 215 [(8, .inl n24), (7, .inl n20), (0, .inr (.inr (some 1))), (1, .inr (.inr (some s))), (2, .inr (.inr (some kb))), (5, .inl y5), (6, .inl y6)] [.inr (.inr (some s)), .inl n49, .inr (.inr (some 1))] dM_65_214 (fun _ => rfl) (Or.inr rfl) ?_
                    refine gs0 217 [(8, .inl n24), (7, .inl n20), (0, .inr (.inr (some 1))), (1, .inr (.inr (some s))), (2, .inr (.inr (some kb))), (5, .inl y5), (6, .inl y6)] [.inl n24, .inr (.inr (some s)), .inl n49, .inr (.inr (some 1))] dM_65_215 (fun _ => rfl) (Or.inr rfl) ?_
                    refine gs0 218 [(8, .inl n24), (7, .inl n20), (0, .inr (.inr (some 1))), (1, .inr (.inr (some s))), (2, .inr (.inr (some kb))), (5, .inl y5), (6, .inl y6)] [.inl 1, .inl n24, .inr (.inr (some s)), .inl n49, .inr (.inr (some 1))] dM_65_217 (fun _ => rfl) (Or.inr rfl) ?_
                    refine gsCallV (y := 30) (k := s) (as := [.inr (.inr (some s)), .inl n24, .inl 1]) (r := [.inl n49, .inr (.inr (some 1))]) dM_65_218 rfl rfl rfl (Nat.le_of_ble_eq_true rfl) hs.2.1 rfl (Nat.le_of_ble_eq_true rfl) (EvS.up hnnnnnnn (Nat.le_of_ble_eq_true rfl)) (fun v50 t51 hv52 => ?_)
                    obtain ⟨n53, rfl, hnnnnnnnn⟩ := hv52
                    clear hnnnnnnn
                    show GoS _ _ _ _ _ _ _ _ [(8, .inl n24), (7, .inl n20), (0, .inr (.inr (some 1))), (1, .inr (.inr (some s))), (2, .inr (.inr (some kb))), (5, .inl y5), (6, .inl y6)] [.inl n53, .inl n49, .inr (.inr (some 1))] t51 _
                    refine gsCallV (y := 66) (k := 1) (as := [.inr (.inr (some 1)), .inl n49, .inl n53]) (r := []) dM_65_221 rfl rfl rfl (Nat.le_of_ble_eq_true rfl) sk_1 rfl (Nat.le_of_ble_eq_true rfl) (EvS.up hnnnnnnnn (Nat.le_of_ble_eq_true rfl)) (fun v54 t55 hv56 => ?_)
                    obtain ⟨n57, rfl, hnnnnnnnnn⟩ := hv56
                    clear hnnnnnnnn
                    show GoS _ _ _ _ _ _ _ _ [(8, .inl n24), (7, .inl n20), (0, .inr (.inr (some 1))), (1, .inr (.inr (some s))), (2, .inr (.inr (some kb))), (5, .inl y5), (6, .inl y6)] [.inl n57] t55 _
                    refine gsIf (t := 252) (C := n57 = 0) (r := []) dM_65_224 (fun _ => rfl) (Or.inr rfl) (rTest_iff .eq n57 0) (fun c58 => ?_) (fun c58 => ?_)
                    · replace hnnnnnnnnn := hnnnnnnnnn.1 c58
                      refine gs0 253 [(8, .inl n24), (7, .inl n20), (0, .inr (.inr (some 1))), (1, .inr (.inr (some s))), (2, .inr (.inr (some kb))), (5, .inl y5), (6, .inl y6)] [.inl 0] dM_65_252 (fun _ => rfl) (Or.inr rfl) ?_
                      refine gs0 255 [(5, .inl 0), (8, .inl n24), (7, .inl n20), (0, .inr (.inr (some 1))), (1, .inr (.inr (some s))), (2, .inr (.inr (some kb))), (6, .inl y6)] [] dM_65_253 (fun _ => rfl) (Or.inr rfl) ?_
                      refine gs0 258 [(6, .inl (y6 + 1)), (5, .inl 0), (8, .inl n24), (7, .inl n20), (0, .inr (.inr (some 1))), (1, .inr (.inr (some s))), (2, .inr (.inr (some kb)))] [] dM_65_255 (fun _ => rfl) (Or.inr rfl) ?_
                      refine gs0 22 [(6, .inl (y6 + 1)), (5, .inl 0), (8, .inl n24), (7, .inl n20), (0, .inr (.inr (some 1))), (1, .inr (.inr (some s))), (2, .inr (.inr (some kb)))] [] dM_65_258 (fun _ => rfl) (Or.inr rfl) ?_
                      exact GoS.sub (Lnd_keys (ks := [0, 1, 2, 5, 6]) rfl (by decide)) (Lsub_cons rfl (Lsub_cons rfl (Lsub_cons rfl (Lsub_cons rfl (Lsub_cons rfl Lsub_nil))))) hnnnnnnnnn
                    · replace hnnnnnnnnn := hnnnnnnnnn.2 c58
                      refine gs0 228 [(8, .inl n24), (7, .inl n20), (0, .inr (.inr (some 1))), (1, .inr (.inr (some s))), (2, .inr (.inr (some kb))), (5, .inl y5), (6, .inl y6)] [.inr (.inr (some 1))] dM_65_227 (fun _ => rfl) (Or.inr rfl) ?_
                      refine gs0 229 [(8, .inl n24), (7, .inl n20), (0, .inr (.inr (some 1))), (1, .inr (.inr (some s))), (2, .inr (.inr (some kb))), (5, .inl y5), (6, .inl y6)] [.inr (.inr (some s)), .inr (.inr (some 1))] dM_65_228 (fun _ => rfl) (Or.inr rfl) ?_
                      refine gs0 231 [(8, .inl n24), (7, .inl n20), (0, .inr (.inr (some 1))), (1, .inr (.inr (some s))), (2, .inr (.inr (some kb))), (5, .inl y5), (6, .inl y6)] [.inl n20, .inr (.inr (some s)), .inr (.inr (some 1))] dM_65_229 (fun _ => rfl) (Or.inr rfl) ?_
                      refine gs0 232 [(8, .inl n24), (7, .inl n20), (0, .inr (.inr (some 1))), (1, .inr (.inr (some s))), (2, .inr (.inr (some kb))), (5, .inl y5), (6, .inl y6)] [.inl 0, .inl n20, .inr (.inr (some s)), .inr (.inr (some 1))] dM_65_231 (fun _ => rfl) (Or.inr rfl) ?_
                      refine gsCallV (y := 30) (k := s) (as := [.inr (.inr (some s)), .inl n20, .inl 0]) (r := [.inr (.inr (some 1))]) dM_65_232 rfl rfl rfl (Nat.le_of_ble_eq_true rfl) hs.2.1 rfl (Nat.le_of_ble_eq_true rfl) (EvS.up hnnnnnnnnn (Nat.le_of_ble_eq_true rfl)) (fun v59 t60 hv61 => ?_)
                      obtain ⟨n62, rfl, hnnnnnnnnnn⟩ := hv61
                      clear hnnnnnnnnn
                      show GoS _ _ _ _ _ _ _ _ [(8, .inl n24), (7, .inl n20), (0, .inr (.inr (some 1))), (1, .inr (.inr (some s))), (2, .inr (.inr (some kb))), (5, .inl y5), (6, .inl y6)] [.inl n62, .inr (.inr (some 1))] t60 _
                      refine gs0 236 [(8, .inl n24), (7, .inl n20), (0, .inr (.inr (some 1))), (1, .inr (.inr (some s))), (2, .inr (.inr (some kb))), (5, .inl y5), (6, .inl y6)] [.inr (.inr (some s)), .inl n62, .inr (.inr (some 1))] dM_65_235 (fun _ => rfl) (Or.inr rfl) ?_
                      refine gs0 238 [(8, .inl n24), (7, .inl n20), (0, .inr (.inr (some 1))), (1, .inr (.inr (some s))), (2, .inr (.inr (some kb))), (5, .inl y5), (6, .inl y6)] [.inl n24, .inr (.inr (some s)), .inl n62, .inr (.inr (some 1))] dM_65_236 (fun _ => rfl) (Or.inr rfl) ?_
                      refine gs0 239 [(8, .inl n24), (7, .inl n20), (0, .inr (.inr (some 1))), (1, .inr (.inr (some s))), (2, .inr (.inr (some kb))), (5, .inl y5), (6, .inl y6)] [.inl 0, .inl n24, .inr (.inr (some s)), .inl n62, .inr (.inr (some 1))] dM_65_238 (fun _ => rfl) (Or.inr rfl) ?_
                      refine gsCallV (y := 30) (k := s) (as := [.inr (.inr (some s)), .inl n24, .inl 0]) (r := [.inl n62, .inr (.inr (some 1))]) dM_65_239 rfl rfl rfl (Nat.le_of_ble_eq_true rfl) hs.2.1 rfl (Nat.le_of_ble_eq_true rfl) (EvS.up hnnnnnnnnnn (Nat.le_of_ble_eq_true rfl)) (fun v63 t64 hv65 => ?_)
                      obtain ⟨n66, rfl, hnnnnnnnnnnn⟩ := hv65
                      clear hnnnnnnnnnn
                      show GoS _ _ _ _ _ _ _ _ [(8, .inl n24), (7, .inl n20), (0, .inr (.inr (some 1))), (1, .inr (.inr (some s))), (2, .inr (.inr (some kb))), (5, .inl y5), (6, .inl y6)] [.inl n66, .inl n62, .inr (.inr (some 1))] t64 _
                      refine gsCallV (y := 66) (k := 1) (as := [.inr (.inr (some 1)), .inl n62, .inl n66]) (r := []) dM_65_242 rfl rfl rfl (Nat.le_of_ble_eq_true rfl) sk_1 rfl (Nat.le_of_ble_eq_true rfl) (EvS.up hnnnnnnnnnnn (Nat.le_of_ble_eq_true rfl)) (fun v67 t68 hv69 => ?_)
                      obtain ⟨n70, rfl, hnnnnnnnnnnnn⟩ := hv69
                      clear hnnnnnnnnnnn
                      show GoS _ _ _ _ _ _ _ _ [(8, .inl n24), (7, .inl n20), (0, .inr (.inr (some 1))), (1, .inr (.inr (some s))), (2, .inr (.inr (some kb))), (5, .inl y5), (6, .inl y6)] [.inl n70] t68 _
                      refine gsIf (t := 252) (C := n70 = 0) (r := []) dM_65_245 (fun _ => rfl) (Or.inr rfl) (rTest_iff .eq n70 0) (fun c71 => ?_) (fun c71 => ?_)
                      · replace hnnnnnnnnnnnn := hnnnnnnnnnnnn.1 c71
                        refine gs0 253 [(8, .inl n24), (7, .inl n20), (0, .inr (.inr (some 1))), (1, .inr (.inr (some s))), (2, .inr (.inr (some kb))), (5, .inl y5), (6, .inl y6)] [.inl 0] dM_65_252 (fun _ => rfl) (Or.inr rfl) ?_
                        refine gs0 255 [(5, .inl 0), (8, .inl n24), (7, .inl n20), (0, .inr (.inr (some 1))), (1, .inr (.inr (some s))), (2, .inr (.inr (some kb))), (6, .inl y6)] [] dM_65_253 (fun _ => rfl) (Or.inr rfl) ?_
                        refine gs0 258 [(6, .inl (y6 + 1)), (5, .inl 0), (8, .inl n24), (7, .inl n20), (0, .inr (.inr (some 1))), (1, .inr (.inr (some s))), (2, .inr (.inr (some kb)))] [] dM_65_255 (fun _ => rfl) (Or.inr rfl) ?_
                        refine gs0 22 [(6, .inl (y6 + 1)), (5, .inl 0), (8, .inl n24), (7, .inl n20), (0, .inr (.inr (some 1))), (1, .inr (.inr (some s))), (2, .inr (.inr (some kb)))] [] dM_65_258 (fun _ => rfl) (Or.inr rfl) ?_
                        exact GoS.sub (Lnd_keys (ks := [0, 1, 2, 5, 6]) rfl (by decide)) (Lsub_cons rfl (Lsub_cons rfl (Lsub_cons rfl (Lsub_cons rfl (Lsub_cons rfl Lsub_nil))))) hnnnnnnnnnnnn
                      · replace hnnnnnnnnnnnn := hnnnnnnnnnnnn.2 c71
                        refine gs0 249 [(8, .inl n24), (7, .inl n20), (0, .inr (.inr (some 1))), (1, .inr (.inr (some s))), (2, .inr (.inr (some kb))), (5, .inl y5), (6, .inl y6)] [.inl 1] dM_65_248 (fun _ => rfl) (Or.inr rfl) ?_
                        refine gs0 253 [(8, .inl n24), (7, .inl n20), (0, .inr (.inr (some 1))), (1, .inr (.inr (some s))), (2, .inr (.inr (some kb))), (5, .inl y5), (6, .inl y6)] [.inl 1] dM_65_249 (fun _ => rfl) (Or.inr rfl) ?_
                        refine gs0 255 [(5, .inl 1), (8, .inl n24), (7, .inl n20), (0, .inr (.inr (some 1))), (1, .inr (.inr (some s))), (2, .inr (.inr (some kb))), (6, .inl y6)] [] dM_65_253 (fun _ => rfl) (Or.inr rfl) ?_
                        refine gs0 258 [(6, .inl (y6 + 1)), (5, .inl 1), (8, .inl n24), (7, .inl n20), (0, .inr (.inr (some 1))), (1, .inr (.inr (some s))), (2, .inr (.inr (some kb)))] [] dM_65_255 (fun _ => rfl) (Or.inr rfl) ?_
                        refine gs0 22 [(6, .inl (y6 + 1)), (5, .inl 1), (8, .inl n24), (7, .inl n20), (0, .inr (.inr (some 1))), (1, .inr (.inr (some s))), (2, .inr (.inr (some kb)))] [] dM_65_258 (fun _ => rfl) (Or.inr rfl) ?_
                        exact GoS.sub (Lnd_keys (ks := [0, 1, 2, 5, 6]) rfl (by decide)) (Lsub_cons rfl (Lsub_cons rfl (Lsub_cons rfl (Lsub_cons rfl (Lsub_cons rfl Lsub_nil))))) hnnnnnnnnnnnn
              · replace hnnnn := hnnnn.2 c35
                refine gs0 156 [(8, .inl n24), (7, .inl n20), (0, .inr (.inr (some 1))), (1, .inr (.inr (some s))), (2, .inr (.inr (some kb))), (5, .inl y5), (6, .inl y6)] [.inr (.inr (some 1))] dM_65_155 (fun _ => rfl) (Or.inr rfl) ?_
                refine gs0 157 [(8, .inl n24), (7, .inl n20), (0, .inr (.inr (some 1))), (1, .inr (.inr (some s))), (2, .inr (.inr (some kb))), (5, .inl y5), (6, .inl y6)] [.inr (.inr (some s)), .inr (.inr (some 1))] dM_65_156 (fun _ => rfl) (Or.inr rfl) ?_
                refine gs0 158 [(8, .inl n24), (7, .inl n20), (0, .inr (.inr (some 1))), (1, .inr (.inr (some s))), (2, .inr (.inr (some kb))), (5, .inl y5), (6, .inl y6)] [.inr (.inr (some kb)), .inr (.inr (some s)), .inr (.inr (some 1))] dM_65_157 (fun _ => rfl) (Or.inr rfl) ?_
                refine gs0 160 [(8, .inl n24), (7, .inl n20), (0, .inr (.inr (some 1))), (1, .inr (.inr (some s))), (2, .inr (.inr (some kb))), (5, .inl y5), (6, .inl y6)] [.inl n24, .inr (.inr (some kb)), .inr (.inr (some s)), .inr (.inr (some 1))] dM_65_158 (fun _ => rfl) (Or.inr rfl) ?_
                refine gs0 162 [(8, .inl n24), (7, .inl n20), (0, .inr (.inr (some 1))), (1, .inr (.inr (some s))), (2, .inr (.inr (some kb))), (5, .inl y5), (6, .inl y6)] [.inl n20, .inl n24, .inr (.inr (some kb)), .inr (.inr (some s)), .inr (.inr (some 1))] dM_65_160 (fun _ => rfl) (Or.inr rfl) ?_
                refine gsCallV (y := 67) (k := 1) (as := [.inr (.inr (some 1)), .inr (.inr (some s)), .inr (.inr (some kb)), .inl n24, .inl n20]) (r := []) dM_65_162 rfl rfl rfl (Nat.le_of_ble_eq_true rfl) sk_1 rfl (Nat.le_of_ble_eq_true rfl) (EvS.up hnnnn (Nat.le_of_ble_eq_true rfl)) (fun v72 t73 hv74 => ?_)
                obtain ⟨n75, rfl, hnnnnn⟩ := hv74
                clear hnnnn
                show GoS _ _ _ _ _ _ _ _ [(8, .inl n24), (7, .inl n20), (0, .inr (.inr (some 1))), (1, .inr (.inr (some s))), (2, .inr (.inr (some kb))), (5, .inl y5), (6, .inl y6)] [.inl n75] t73 _
                refine gsIf (t := 184) (C := ¬ n75 = 0) (r := []) dM_65_165 (fun _ => rfl) (Or.inr rfl) (rTest_iff .ne n75 0) (fun c76 => ?_) (fun c76 => ?_)
                · replace hnnnnn := hnnnnn.1 c76
                  refine gs0 185 [(8, .inl n24), (7, .inl n20), (0, .inr (.inr (some 1))), (1, .inr (.inr (some s))), (2, .inr (.inr (some kb))), (5, .inl y5), (6, .inl y6)] [.inl 0] dM_65_184 (fun _ => rfl) (Or.inr rfl) ?_
                  refine gs0 187 [(5, .inl 0), (8, .inl n24), (7, .inl n20), (0, .inr (.inr (some 1))), (1, .inr (.inr (some s))), (2, .inr (.inr (some kb))), (6, .inl y6)] [] dM_65_185 (fun _ => rfl) (Or.inr rfl) ?_
                  refine gs0 255 [(5, .inl 0), (8, .inl n24), (7, .inl n20), (0, .inr (.inr (some 1))), (1, .inr (.inr (some s))), (2, .inr (.inr (some kb))), (6, .inl y6)] [] dM_65_187 (fun _ => rfl) (Or.inr rfl) ?_
                  refine gs0 258 [(6, .inl (y6 + 1)), (5, .inl 0), (8, .inl n24), (7, .inl n20), (0, .inr (.inr (some 1))), (1, .inr (.inr (some s))), (2, .inr (.inr (some kb)))] [] dM_65_255 (fun _ => rfl) (Or.inr rfl) ?_
                  refine gs0 22 [(6, .inl (y6 + 1)), (5, .inl 0), (8, .inl n24), (7, .inl n20), (0, .inr (.inr (some 1))), (1, .inr (.inr (some s))), (2, .inr (.inr (some kb)))] [] dM_65_258 (fun _ => rfl) (Or.inr rfl) ?_
                  exact GoS.sub (Lnd_keys (ks := [0, 1, 2, 5, 6]) rfl (by decide)) (Lsub_cons rfl (Lsub_cons rfl (Lsub_cons rfl (Lsub_cons rfl (Lsub_cons rfl Lsub_nil))))) hnnnnn
                · replace hnnnnn := hnnnnn.2 c76
                  refine gs0 169 [(8, .inl n24), (7, .inl n20), (0, .inr (.inr (some 1))), (1, .inr (.inr (some s))), (2, .inr (.inr (some kb))), (5, .inl y5), (6, .inl y6)] [.inr (.inr (some 1))] dM_65_168 (fun _ => rfl) (Or.inr rfl) ?_
                  refine gs0 170 [(8, .inl n24), (7, .inl n20), (0, .inr (.inr (some 1))), (1, .inr (.inr (some s))), (2, .inr (.inr (some kb))), (5, .inl y5), (6, .inl y6)] [.inr (.inr (some kb)), .inr (.inr (some 1))] dM_65_169 (fun _ => rfl) (Or.inr rfl) ?_
                  refine gs0 172 [(8, .inl n24), (7, .inl n20), (0, .inr (.inr (some 1))), (1, .inr (.inr (some s))), (2, .inr (.inr (some kb))), (5, .inl y5), (6, .inl y6)] [.inl n24, .inr (.inr (some kb)), .inr (.inr (some 1))] dM_65_170 (fun _ => rfl) (Or.inr rfl) ?_
                  refine gs0 174 [(8, .inl n24), (7, .inl n20), (0, .inr (.inr (some 1))), (1, .inr (.inr (some s))), (2, .inr (.inr (some kb))), (5, .inl y5), (6, .inl y6)] [.inl n20, .inl n24, .inr (.inr (some kb)), .inr (.inr (some 1))] dM_65_172 (fun _ => rfl) (Or.inr rfl) ?_
                  refine gsCallV (y := 68) (k := 1) (as := [.inr (.inr (some 1)), .inr (.inr (some kb)), .inl n24, .inl n20]) (r := []) dM_65_174 rfl rfl rfl (Nat.le_of_ble_eq_true rfl) sk_1 rfl (Nat.le_of_ble_eq_true rfl) (EvS.up hnnnnn (Nat.le_of_ble_eq_true rfl)) (fun v77 t78 hv79 => ?_)
                  obtain ⟨n80, rfl, hnnnnnn⟩ := hv79
                  clear hnnnnn
                  show GoS _ _ _ _ _ _ _ _ [(8, .inl n24), (7, .inl n20), (0, .inr (.inr (some 1))), (1, .inr (.inr (some s))), (2, .inr (.inr (some kb))), (5, .inl y5), (6, .inl y6)] [.inl n80] t78 _
                  refine gsIf (t := 184) (C := n80 = 0) (r := []) dM_65_177 (fun _ => rfl) (Or.inr rfl) (rTest_iff .eq n80 0) (fun c81 => ?_) (fun c81 => ?_)
                  · replace hnnnnnn := hnnnnnn.1 c81
                    refine gs0 185 [(8, .inl n24), (7, .inl n20), (0, .inr (.inr (some 1))), (1, .inr (.inr (some s))), (2, .inr (.inr (some kb))), (5, .inl y5), (6, .inl y6)] [.inl 0] dM_65_184 (fun _ => rfl) (Or.inr rfl) ?_
                    refine gs0 187 [(5, .inl 0), (8, .inl n24), (7, .inl n20), (0, .inr (.inr (some 1))), (1, .inr (.inr (some s))), (2, .inr (.inr (some kb))), (6, .inl y6)] [] dM_65_185 (fun _ => rfl) (Or.inr rfl) ?_
                    refine gs0 255 [(5, .inl 0), (8, .inl n24), (7, .inl n20), (0, .inr (.inr (some 1))), (1, .inr (.inr (some s))), (2, .inr (.inr (some kb))), (6, .inl y6)] [] dM_65_187 (fun _ => rfl) (Or.inr rfl) ?_
                    refine gs0 258 [(6, .inl (y6 + 1)), (5, .inl 0), (8, .inl n24), (7, .inl n20), (0, .inr (.inr (some 1))), (1, .inr (.inr (some s))), (2, .inr (.inr (some kb)))] [] dM_65_255 (fun _ => rfl) (Or.inr rfl) ?_
                    refine gs0 22 [(6, .inl (y6 + 1)), (5, .inl 0), (8, .inl n24), (7, .inl n20), (0, .inr (.inr (some 1))), (1, .inr (.inr (some s))), (2, .inr (.inr (some kb)))] [] dM_65_258 (fun _ => rfl) (Or.inr rfl) ?_
                    exact GoS.sub (Lnd_keys (ks := [0, 1, 2, 5, 6]) rfl (by decide)) (Lsub_cons rfl (Lsub_cons rfl (Lsub_cons rfl (Lsub_cons rfl (Lsub_cons rfl Lsub_nil))))) hnnnnnn
                  · replace hnnnnnn := hnnnnnn.2 c81
                    refine gs0 181 [(8, .inl n24), (7, .inl n20), (0, .inr (.inr (some 1))), (1, .inr (.inr (some s))), (2, .inr (.inr (some kb))), (5, .inl y5), (6, .inl y6)] [.inl 1] dM_65_180 (fun _ => rfl) (Or.inr rfl) ?_
                    refine gs0 185 [(8, .inl n24), (7, .inl n20), (0, .inr (.inr (some 1))), (1, .inr (.inr (some s))), (2, .inr (.inr (some kb))), (5, .inl y5), (6, .inl y6)] [.inl 1] dM_65_181 (fun _ => rfl) (Or.inr rfl) ?_
                    refine gs0 187 [(5, .inl 1), (8, .inl n24), (7, .inl n20), (0, .inr (.inr (some 1))), (1, .inr (.inr (some s))), (2, .inr (.inr (some kb))), (6, .inl y6)] [] dM_65_185 (fun _ => rfl) (Or.inr rfl) ?_
                    refine gs0 255 [(5, .inl 1), (8, .inl n24), (7, .inl n20), (0, .inr (.inr (some 1))), (1, .inr (.inr (some s))), (2, .inr (.inr (some kb))), (6, .inl y6)] [] dM_65_187 (fun _ => rfl) (Or.inr rfl) ?_
                    refine gs0 258 [(6, .inl (y6 + 1)), (5, .inl 1), (8, .inl n24), (7, .inl n20), (0, .inr (.inr (some 1))), (1, .inr (.inr (some s))), (2, .inr (.inr (some kb)))] [] dM_65_255 (fun _ => rfl) (Or.inr rfl) ?_
                    refine gs0 22 [(6, .inl (y6 + 1)), (5, .inl 1), (8, .inl n24), (7, .inl n20), (0, .inr (.inr (some 1))), (1, .inr (.inr (some s))), (2, .inr (.inr (some kb)))] [] dM_65_258 (fun _ => rfl) (Or.inr rfl) ?_
                    exact GoS.sub (Lnd_keys (ks := [0, 1, 2, 5, 6]) rfl (by decide)) (Lsub_cons rfl (Lsub_cons rfl (Lsub_cons rfl (Lsub_cons rfl (Lsub_cons rfl Lsub_nil))))) hnnnnnn
            · replace hnnn := hnnn.2 c30
              refine gs0 113 [(8, .inl n24), (7, .inl n20), (0, .inr (.inr (some 1))), (1, .inr (.inr (some s))), (2, .inr (.inr (some kb))), (5, .inl y5), (6, .inl y6)] [.inr (.inr (some 1))] dM_65_112 (fun _ => rfl) (Or.inr rfl) ?_
              refine gs0 114 [(8, .inl n24), (7, .inl n20), (0, .inr (.inr (some 1))), (1, .inr (.inr (some s))), (2, .inr (.inr (some kb))), (5, .inl y5), (6, .inl y6)] [.inr (.inr (some s)), .inr (.inr (some 1))] dM_65_113 (fun _ => rfl) (Or.inr rfl) ?_
              refine gs0 115 [(8, .inl n24), (7, .inl n20), (0, .inr (.inr (some 1))), (1, .inr (.inr (some s))), (2, .inr (.inr (some kb))), (5, .inl y5), (6, .inl y6)] [.inr (.inr (some kb)), .inr (.inr (some s)), .inr (.inr (some 1))] dM_65_114 (fun _ => rfl) (Or.inr rfl) ?_
              refine gs0 117 [(8, .inl n24), (7, .inl n20), (0, .inr (.inr (some 1))), (1, .inr (.inr (some s))), (2, .inr (.inr (some kb))), (5, .inl y5), (6, .inl y6)] [.inl n20, .inr (.inr (some kb)), .inr (.inr (some s)), .inr (.inr (some 1))] dM_65_115 (fun _ => rfl) (Or.inr rfl) ?_
              refine gs0 119 [(8, .inl n24), (7, .inl n20), (0, .inr (.inr (some 1))), (1, .inr (.inr (some s))), (2, .inr (.inr (some kb))), (5, .inl y5), (6, .inl y6)] [.inl n24, .inl n20, .inr (.inr (some kb)), .inr (.inr (some s)), .inr (.inr (some 1))] dM_65_117 (fun _ => rfl) (Or.inr rfl) ?_
              refine gsCallV (y := 67) (k := 1) (as := [.inr (.inr (some 1)), .inr (.inr (some s)), .inr (.inr (some kb)), .inl n20, .inl n24]) (r := []) dM_65_119 rfl rfl rfl (Nat.le_of_ble_eq_true rfl) sk_1 rfl (Nat.le_of_ble_eq_true rfl) (EvS.up hnnn (Nat.le_of_ble_eq_true rfl)) (fun v82 t83 hv84 => ?_)
              obtain ⟨n85, rfl, hnnnn⟩ := hv84
              clear hnnn
              show GoS _ _ _ _ _ _ _ _ [(8, .inl n24), (7, .inl n20), (0, .inr (.inr (some 1))), (1, .inr (.inr (some s))), (2, .inr (.inr (some kb))), (5, .inl y5), (6, .inl y6)] [.inl n85] t83 _
              refine gsIf (t := 141) (C := ¬ n85 = 0) (r := []) dM_65_122 (fun _ => rfl) (Or.inr rfl) (rTest_iff .ne n85 0) (fun c86 => ?_) (fun c86 => ?_)
              · replace hnnnn := hnnnn.1 c86
                refine gs0 142 [(8, .inl n24), (7, .inl n20), (0, .inr (.inr (some 1))), (1, .inr (.inr (some s))), (2, .inr (.inr (some kb))), (5, .inl y5), (6, .inl y6)] [.inl 0] dM_65_141 (fun _ => rfl) (Or.inr rfl) ?_
                refine gs0 144 [(5, .inl 0), (8, .inl n24), (7, .inl n20), (0, .inr (.inr (some 1))), (1, .inr (.inr (some s))), (2, .inr (.inr (some kb))), (6, .inl y6)] [] dM_65_142 (fun _ => rfl) (Or.inr rfl) ?_
                refine gs0 255 [(5, .inl 0), (8, .inl n24), (7, .inl n20), (0, .inr (.inr (some 1))), (1, .inr (.inr (some s))), (2, .inr (.inr (some kb))), (6, .inl y6)] [] dM_65_144 (fun _ => rfl) (Or.inr rfl) ?_
                refine gs0 258 [(6, .inl (y6 + 1)), (5, .inl 0), (8, .inl n24), (7, .inl n20), (0, .inr (.inr (some 1))), (1, .inr (.inr (some s))), (2, .inr (.inr (some kb)))] [] dM_65_255 (fun _ => rfl) (Or.inr rfl) ?_
                refine gs0 22 [(6, .inl (y6 + 1)), (5, .inl 0), (8, .inl n24), (7, .inl n20), (0, .inr (.inr (some 1))), (1, .inr (.inr (some s))), (2, .inr (.inr (some kb)))] [] dM_65_258 (fun _ => rfl) (Or.inr rfl) ?_
                exact GoS.sub (Lnd_keys (ks := [0, 1, 2, 5, 6]) rfl (by decide)) (Lsub_cons rfl (Lsub_cons rfl (Lsub_cons rfl (Lsub_cons rfl (Lsub_cons rfl Lsub_nil))))) hnnnn
              · replace hnnnn := hnnnn.2 c86
                refine gs0 126 [(8, .inl n24), (7, .inl n20), (0, .inr (.inr (some 1))), (1, .inr (.inr (some s))), (2, .inr (.inr (some kb))), (5, .inl y5), (6, .inl y6)] [.inr (.inr (some 1))] dM_65_125 (fun _ => rfl) (Or.inr rfl) ?_
                refine gs0 127 [(8, .inl n24), (7, .inl n20), (0, .inr (.inr (some 1))), (1, .inr (.inr (some s))), (2, .inr (.inr (some kb))), (5, .inl y5), (6, .inl y6)] [.inr (.inr (some kb)), .inr (.inr (some 1))] dM_65_126 (fun _ => rfl) (Or.inr rfl) ?_
                refine gs0 129 [(8, .inl n24), (7, .inl n20), (0, .inr (.inr (some 1))), (1, .inr (.inr (some s))), (2, .inr (.inr (some kb))), (5, .inl y5), (6, .inl y6)] [.inl n20, .inr (.inr (some kb)), .inr (.inr (some 1))] dM_65_127 (fun _ => rfl) (Or.inr rfl) ?_
                refine gs0 131 [(8, .inl n24), (7, .inl n20), (0, .inr (.inr (some 1))), (1, .inr (.inr (some s))), (2, .inr (.inr (some kb))), (5, .inl y5), (6, .inl y6)] [.inl n24, .inl n20, .inr (.inr (some kb)), .inr (.inr (some 1))] dM_65_129 (fun _ => rfl) (Or.inr rfl) ?_
                refine gsCallV (y := 68) (k := 1) (as := [.inr (.inr (some 1)), .inr (.inr (some kb)), .inl n20, .inl n24]) (r := []) dM_65_131 rfl rfl rfl (Nat.le_of_ble_eq_true rfl) sk_1 rfl (Nat.le_of_ble_eq_true rfl) (EvS.up hnnnn (Nat.le_of_ble_eq_true rfl)) (fun v87 t88 hv89 => ?_)
                obtain ⟨n90, rfl, hnnnnn⟩ := hv89
                clear hnnnn
                show GoS _ _ _ _ _ _ _ _ [(8, .inl n24), (7, .inl n20), (0, .inr (.inr (some 1))), (1, .inr (.inr (some s))), (2, .inr (.inr (some kb))), (5, .inl y5), (6, .inl y6)] [.inl n90] t88 _
                refine gsIf (t := 141) (C := n90 = 0) (r := []) dM_65_134 (fun _ => rfl) (Or.inr rfl) (rTest_iff .eq n90 0) (fun c91 => ?_) (fun c91 => ?_)
                · replace hnnnnn := hnnnnn.1 c91
                  refine gs0 142 [(8, .inl n24), (7, .inl n20), (0, .inr (.inr (some 1))), (1, .inr (.inr (some s))), (2, .inr (.inr (some kb))), (5, .inl y5), (6, .inl y6)] [.inl 0] dM_65_141 (fun _ => rfl) (Or.inr rfl) ?_
                  refine gs0 144 [(5, .inl 0), (8, .inl n24), (7, .inl n20), (0, .inr (.inr (some 1))), (1, .inr (.inr (some s))), (2, .inr (.inr (some kb))), (6, .inl y6)] [] dM_65_142 (fun _ => rfl) (Or.inr rfl) ?_
                  refine gs0 255 [(5, .inl 0), (8, .inl n24), (7, .inl n20), (0, .inr (.inr (some 1))), (1, .inr (.inr (some s))), (2, .inr (.inr (some kb))), (6, .inl y6)] [] dM_65_144 (fun _ => rfl) (Or.inr rfl) ?_
                  refine gs0 258 [(6, .inl (y6 + 1)), (5, .inl 0), (8, .inl n24), (7, .inl n20), (0, .inr (.inr (some 1))), (1, .inr (.inr (some s))), (2, .inr (.inr (some kb)))] [] dM_65_255 (fun _ => rfl) (Or.inr rfl) ?_
                  refine gs0 22 [(6, .inl (y6 + 1)), (5, .inl 0), (8, .inl n24), (7, .inl n20), (0, .inr (.inr (some 1))), (1, .inr (.inr (some s))), (2, .inr (.inr (some kb)))] [] dM_65_258 (fun _ => rfl) (Or.inr rfl) ?_
                  exact GoS.sub (Lnd_keys (ks := [0, 1, 2, 5, 6]) rfl (by decide)) (Lsub_cons rfl (Lsub_cons rfl (Lsub_cons rfl (Lsub_cons rfl (Lsub_cons rfl Lsub_nil))))) hnnnnn
                · replace hnnnnn := hnnnnn.2 c91
                  refine gs0 138 [(8, .inl n24), (7, .inl n20), (0, .inr (.inr (some 1))), (1, .inr (.inr (some s))), (2, .inr (.inr (some kb))), (5, .inl y5), (6, .inl y6)] [.inl 1] dM_65_137 (fun _ => rfl) (Or.inr rfl) ?_
                  refine gs0 142 [(8, .inl n24), (7, .inl n20), (0, .inr (.inr (some 1))), (1, .inr (.inr (some s))), (2, .inr (.inr (some kb))), (5, .inl y5), (6, .inl y6)] [.inl 1] dM_65_138 (fun _ => rfl) (Or.inr rfl) ?_
                  refine gs0 144 [(5, .inl 1), (8, .inl n24), (7, .inl n20), (0, .inr (.inr (some 1))), (1, .inr (.inr (some s))), (2, .inr (.inr (some kb))), (6, .inl y6)] [] dM_65_142 (fun _ => rfl) (Or.inr rfl) ?_
                  refine gs0 255 [(5, .inl 1), (8, .inl n24), (7, .inl n20), (0, .inr (.inr (some 1))), (1, .inr (.inr (some s))), (2, .inr (.inr (some kb))), (6, .inl y6)] [] dM_65_144 (fun _ => rfl) (Or.inr rfl) ?_
                  refine gs0 258 [(6, .inl (y6 + 1)), (5, .inl 1), (8, .inl n24), (7, .inl n20), (0, .inr (.inr (some 1))), (1, .inr (.inr (some s))), (2, .inr (.inr (some kb)))] [] dM_65_255 (fun _ => rfl) (Or.inr rfl) ?_
                  refine gs0 22 [(6, .inl (y6 + 1)), (5, .inl 1), (8, .inl n24), (7, .inl n20), (0, .inr (.inr (some 1))), (1, .inr (.inr (some s))), (2, .inr (.inr (some kb)))] [] dM_65_258 (fun _ => rfl) (Or.inr rfl) ?_
                  exact GoS.sub (Lnd_keys (ks := [0, 1, 2, 5, 6]) rfl (by decide)) (Lsub_cons rfl (Lsub_cons rfl (Lsub_cons rfl (Lsub_cons rfl (Lsub_cons rfl Lsub_nil))))) hnnnnn
          · replace hnn := hnn.2 c25
            refine gs0 255 [(8, .inl n24), (7, .inl n20), (0, .inr (.inr (some 1))), (1, .inr (.inr (some s))), (2, .inr (.inr (some kb))), (5, .inl y5), (6, .inl y6)] [] dM_65_101 (fun _ => rfl) (Or.inr rfl) ?_
            refine gs0 258 [(6, .inl (y6 + 1)), (8, .inl n24), (7, .inl n20), (0, .inr (.inr (some 1))), (1, .inr (.inr (some s))), (2, .inr (.inr (some kb))), (5, .inl y5)] [] dM_65_255 (fun _ => rfl) (Or.inr rfl) ?_
            refine gs0 22 [(6, .inl (y6 + 1)), (8, .inl n24), (7, .inl n20), (0, .inr (.inr (some 1))), (1, .inr (.inr (some s))), (2, .inr (.inr (some kb))), (5, .inl y5)] [] dM_65_258 (fun _ => rfl) (Or.inr rfl) ?_
            exact GoS.sub (Lnd_keys (ks := [0, 1, 2, 5, 6]) rfl (by decide)) (Lsub_cons rfl (Lsub_cons rfl (Lsub_cons rfl (Lsub_cons rfl (Lsub_cons rfl Lsub_nil))))) hnn
set_option maxRecDepth 100000 in
/-- GoalsInAQueue$Unifier.unify -/
theorem w_65 (sg : rSg) (s : Nat) (hs : isScr s) (kb nb : Nat) (hkb : isArr kb nb) (x3 : Int32) (x4 : Int32) {P : Option rv → rSg → Prop} (h :
    EvS rSkel 1 66 [.inr (.inr (some 1)), .inl x3, .inl x4] (up2 (up2 sg 1 5 0) 1 6 0) (fun v1 t2 => ∃ n4, v1 = some (.inl n4) ∧
      g_65_22 s kb nb n4 0 t2 P)) : EvS rSkel 4 65 [.inr (.inr (some 1)), .inr (.inr (some s)), .inr (.inr (some kb)), .inl x3, .inl x4] sg P := by
  refine EvS.of (ini := false) rfl ⟨rfl, Nat.le_of_ble_eq_true rfl⟩ rfl ?_
  show GoS rSkel 3 7 9 (some .boolean) false prog_9_method_2_code 0 [(0, .inr (.inr (some 1))), (1, .inr (.inr (some s))), (2, .inr (.inr (some kb))), (3, .inl x3), (4, .inl x4)] [] sg _
  have b_s := hs.1
  have b_kb := hkb.1
  refine gs0 1 [(0, .inr (.inr (some 1))), (1, .inr (.inr (some s))), (2, .inr (.inr (some kb))), (3, .inl x3), (4, .inl x4)] [.inr (.inr (some 1))] dM_65_0 (fun _ => rfl) (Or.inr rfl) ?_
  refine gs0 2 [(0, .inr (.inr (some 1))), (1, .inr (.inr (some s))), (2, .inr (.inr (some kb))), (3, .inl x3), (4, .inl x4)] [.inl 0, .inr (.inr (some 1))] dM_65_1 (fun _ => rfl) (Or.inr rfl) ?_
  refine gsPut dM_65_2 sk_1 rfl rfl rfl (by decide) ?_
  refine gs0 6 [(0, .inr (.inr (some 1))), (1, .inr (.inr (some s))), (2, .inr (.inr (some kb))), (3, .inl x3), (4, .inl x4)] [.inr (.inr (some 1))] dM_65_5 (fun _ => rfl) (Or.inr rfl) ?_
  refine gs0 7 [(0, .inr (.inr (some 1))), (1, .inr (.inr (some s))), (2, .inr (.inr (some kb))), (3, .inl x3), (4, .inl x4)] [.inl 0, .inr (.inr (some 1))] dM_65_6 (fun _ => rfl) (Or.inr rfl) ?_
  refine gsPut dM_65_7 sk_1 rfl rfl rfl (by decide) ?_
  refine gs0 11 [(0, .inr (.inr (some 1))), (1, .inr (.inr (some s))), (2, .inr (.inr (some kb))), (3, .inl x3), (4, .inl x4)] [.inr (.inr (some 1))] dM_65_10 (fun _ => rfl) (Or.inr rfl) ?_
  refine gs0 12 [(0, .inr (.inr (some 1))), (1, .inr (.inr (some s))), (2, .inr (.inr (some kb))), (3, .inl x3), (4, .inl x4)] [.inl x3, .inr (.inr (some 1))] dM_65_11 (fun _ => rfl) (Or.inr rfl) ?_
  refine gs0 14 [(0, .inr (.inr (some 1))), (1, .inr (.inr (some s))), (2, .inr (.inr (some kb))), (3, .inl x3), (4, .inl x4)] [.inl x4, .inl x3, .inr (.inr (some 1))] dM_65_12 (fun _ => rfl) (Or.inr rfl) ?_
  refine gsCallV (y := 66) (k := 1) (as := [.inr (.inr (some 1)), .inl x3, .inl x4]) (r := []) dM_65_14 rfl rfl rfl (Nat.le_of_ble_eq_true rfl) sk_1 rfl (Nat.le_of_ble_eq_true rfl) (EvS.up h (Nat.le_of_ble_eq_true rfl)) (fun v1 t2 hv3 => ?_)
  obtain ⟨n4, rfl, hn⟩ := hv3
  clear h
  show GoS _ _ _ _ _ _ _ _ [(0, .inr (.inr (some 1))), (1, .inr (.inr (some s))), (2, .inr (.inr (some kb))), (3, .inl x3), (4, .inl x4)] [.inl n4] t2 _
  refine gs0 19 [(5, .inl n4), (0, .inr (.inr (some 1))), (1, .inr (.inr (some s))), (2, .inr (.inr (some kb))), (3, .inl x3), (4, .inl x4)] [] dM_65_17 (fun _ => rfl) (Or.inr rfl) ?_
  refine gs0 20 [(5, .inl n4), (0, .inr (.inr (some 1))), (1, .inr (.inr (some s))), (2, .inr (.inr (some kb))), (3, .inl x3), (4, .inl x4)] [.inl 0] dM_65_19 (fun _ => rfl) (Or.inr rfl) ?_
  refine gs0 22 [(6, .inl 0), (5, .inl n4), (0, .inr (.inr (some 1))), (1, .inr (.inr (some s))), (2, .inr (.inr (some kb))), (3, .inl x3), (4, .inl x4)] [] dM_65_20 (fun _ => rfl) (Or.inr rfl) ?_
  exact GoS.sub (Lnd_keys (ks := [0, 1, 2, 5, 6]) rfl (by decide)) (Lsub_cons rfl (Lsub_cons rfl (Lsub_cons rfl (Lsub_cons rfl (Lsub_cons rfl Lsub_nil))))) hn
set_option maxRecDepth 100000 in
/-- GoalsInAQueue$Unifier.push -/
theorem w_66 (sg : rSg) (x1 : Int32) (x2 : Int32) {P : Option rv → rSg → Prop} (h :
    ((sg 1 5) < 0 → 
      P (some (.inl 0)) sg) ∧
    (¬ ((sg 1 5) < 0) → 
      ((sg 1 5) ≤ 1022 → 
        (rIn (sg 1 5) 1024 = true ∧
        rIn ((sg 1 5) + 1) 1024 = true ∧
        P (some (.inl 1)) (up2 (up2 (up2 sg 2 ((sg 1 5).toNatClampNeg) x1) 2 (((sg 1 5) + 1).toNatClampNeg) x2) 1 5 ((sg 1 5) + 2)))) ∧
      (¬ ((sg 1 5) ≤ 1022) → 
        P (some (.inl 0)) sg))) : EvS rSkel 1 66 [.inr (.inr (some 1)), .inl x1, .inl x2] sg P := by
  refine EvS.of (ini := false) rfl ⟨rfl, Nat.le_of_ble_eq_true rfl⟩ rfl ?_
  show GoS rSkel 0 7 3 (some .boolean) false prog_9_method_4_code 0 [(0, .inr (.inr (some 1))), (1, .inl x1), (2, .inl x2)] [] sg _
  refine gs0 1 [(0, .inr (.inr (some 1))), (1, .inl x1), (2, .inl x2)] [.inr (.inr (some 1))] dM_66_0 (fun _ => rfl) (Or.inr rfl) ?_
  refine gsGetE (sg 1 5) dM_66_1 sk_1 rfl rfl rfl ?_
  refine gsIf (t := 17) (C := (sg 1 5) < 0) (r := []) dM_66_4 (fun _ => rfl) (Or.inr rfl) (rTest_iff .lt (sg 1 5) 0) (fun c1 => ?_) (fun c1 => ?_)
  · replace h := h.1 c1
    refine gs0 18 [(0, .inr (.inr (some 1))), (1, .inl x1), (2, .inl x2)] [.inl 0] dM_66_17 (fun _ => rfl) (Or.inr rfl) ?_
    refine gsRet (r := some (.inl 0)) dM_66_18 (fun _ => rfl) (Or.inr rfl) ?_
    exact h
  · replace h := h.2 c1
    refine gs0 8 [(0, .inr (.inr (some 1))), (1, .inl x1), (2, .inl x2)] [.inr (.inr (some 1))] dM_66_7 (fun _ => rfl) (Or.inr rfl) ?_
    refine gsGetE (sg 1 5) dM_66_8 sk_1 rfl rfl rfl ?_
    refine gs0 14 [(0, .inr (.inr (some 1))), (1, .inl x1), (2, .inl x2)] [.inl 1022, .inl (sg 1 5)] dM_66_11 (fun _ => rfl) (Or.inr rfl) ?_
    refine gsIf (t := 19) (C := (sg 1 5) ≤ 1022) (r := []) dM_66_14 (fun _ => rfl) (Or.inr rfl) (rTest_iff .le (sg 1 5) 1022) (fun c2 => ?_) (fun c2 => ?_)
    · replace h := h.1 c2
      refine gs0 20 [(0, .inr (.inr (some 1))), (1, .inl x1), (2, .inl x2)] [.inr (.inr (some 1))] dM_66_19 (fun _ => rfl) (Or.inr rfl) ?_
      refine gsGetR (some 2) dM_66_20 sk_1 rfl rfl ?_
      refine gs0 24 [(0, .inr (.inr (some 1))), (1, .inl x1), (2, .inl x2)] [.inr (.inr (some 1)), .inr (.inr (some 2))] dM_66_23 (fun _ => rfl) (Or.inr rfl) ?_
      refine gsGetE (sg 1 5) dM_66_24 sk_1 rfl rfl rfl ?_
      refine gs0 28 [(0, .inr (.inr (some 1))), (1, .inl x1), (2, .inl x2)] [.inl x1, .inl (sg 1 5), .inr (.inr (some 2))] dM_66_27 (fun _ => rfl) (Or.inr rfl) ?_
      refine gsIastN ((sg 1 5).toNatClampNeg) dM_66_28 sk_2 h.1 rfl ?_
      replace h := h.2
      refine gs0 30 [(0, .inr (.inr (some 1))), (1, .inl x1), (2, .inl x2)] [.inr (.inr (some 1))] dM_66_29 (fun _ => rfl) (Or.inr rfl) ?_
      refine gsGetR (some 2) dM_66_30 sk_1 rfl rfl ?_
      refine gs0 34 [(0, .inr (.inr (some 1))), (1, .inl x1), (2, .inl x2)] [.inr (.inr (some 1)), .inr (.inr (some 2))] dM_66_33 (fun _ => rfl) (Or.inr rfl) ?_
      refine gsGetE (sg 1 5) dM_66_34 sk_1 rfl rfl (congrFun (up2_nk _ _ _ (by decide)) _) ?_
      refine gs0 38 [(0, .inr (.inr (some 1))), (1, .inl x1), (2, .inl x2)] [.inl 1, .inl (sg 1 5), .inr (.inr (some 2))] dM_66_37 (fun _ => rfl) (Or.inr rfl) ?_
      refine gs0 39 [(0, .inr (.inr (some 1))), (1, .inl x1), (2, .inl x2)] [.inl ((sg 1 5) + 1), .inr (.inr (some 2))] dM_66_38 (fun _ => rfl) (Or.inr rfl) ?_
      refine gs0 40 [(0, .inr (.inr (some 1))), (1, .inl x1), (2, .inl x2)] [.inl x2, .inl ((sg 1 5) + 1), .inr (.inr (some 2))] dM_66_39 (fun _ => rfl) (Or.inr rfl) ?_
      refine gsIastN (((sg 1 5) + 1).toNatClampNeg) dM_66_40 sk_2 h.1 rfl ?_
      replace h := h.2
      refine gs0 42 [(0, .inr (.inr (some 1))), (1, .inl x1), (2, .inl x2)] [.inr (.inr (some 1))] dM_66_41 (fun _ => rfl) (Or.inr rfl) ?_
      refine gs0 43 [(0, .inr (.inr (some 1))), (1, .inl x1), (2, .inl x2)] [.inr (.inr (some 1)), .inr (.inr (some 1))] dM_66_42 (fun _ => rfl) (Or.inr rfl) ?_
      refine gsGetE (sg 1 5) dM_66_43 sk_1 rfl rfl ((congrFun (up2_nk _ _ _ (by decide)) _).trans (congrFun (up2_nk _ _ _ (by decide)) _)) ?_
      refine gs0 47 [(0, .inr (.inr (some 1))), (1, .inl x1), (2, .inl x2)] [.inl 2, .inl (sg 1 5), .inr (.inr (some 1))] dM_66_46 (fun _ => rfl) (Or.inr rfl) ?_
      refine gs0 48 [(0, .inr (.inr (some 1))), (1, .inl x1), (2, .inl x2)] [.inl ((sg 1 5) + 2), .inr (.inr (some 1))] dM_66_47 (fun _ => rfl) (Or.inr rfl) ?_
      refine gsPut dM_66_48 sk_1 rfl rfl rfl (by decide) ?_
      refine gs0 52 [(0, .inr (.inr (some 1))), (1, .inl x1), (2, .inl x2)] [.inl 1] dM_66_51 (fun _ => rfl) (Or.inr rfl) ?_
      refine gsRet (r := some (.inl 1)) dM_66_52 (fun _ => rfl) (Or.inr rfl) ?_
      exact h
    · replace h := h.2 c2
      refine gs0 18 [(0, .inr (.inr (some 1))), (1, .inl x1), (2, .inl x2)] [.inl 0] dM_66_17 (fun _ => rfl) (Or.inr rfl) ?_
      refine gsRet (r := some (.inl 0)) dM_66_18 (fun _ => rfl) (Or.inr rfl) ?_
      exact h
def g_67_24 (s : Nat) (kb : Nat) (nb : Nat) (y3 : Int32) (y5 : Int32) (y6 : Int32) (sg : rSg) (P : Option rv → rSg → Prop) : Prop := GoS rSkel 2 7 8 (some .boolean) false prog_9_method_6_code 24 [(0, .inr (.inr (some 1))), (1, .inr (.inr (some s))), (2, .inr (.inr (some kb))), (3, .inl y3), (5, .inl y5), (6, .inl y6)] [] sg P
set_option maxRecDepth 100000 in
theorem w_67_24 (sg : rSg) (s : Nat) (hs : isScr s) (kb nb : Nat) (hkb : isArr kb nb) (y3 : Int32) (y5 : Int32) (y6 : Int32) {P : Option rv → rSg → Prop} (h :
    (1000000 ≤ y6 → 
      (y5 ≤ 0 → 
        P (some (.inl 0)) sg) ∧
      (¬ (y5 ≤ 0) → 
        P (some (.inl 1)) sg)) ∧
    (¬ (1000000 ≤ y6) → 
      (y5 ≤ 0 → 
        (y5 ≤ 0 → 
          P (some (.inl 0)) sg) ∧
        (¬ (y5 ≤ 0) → 
          P (some (.inl 1)) sg)) ∧
      (¬ (y5 ≤ 0) → 
        (rIn (y5 + (-1)) 1024 = true ∧
        ((sg 3 ((y5 + (-1)).toNatClampNeg)) = y3 → 
          P (some (.inl 1)) sg) ∧
        (¬ ((sg 3 ((y5 + (-1)).toNatClampNeg)) = y3) → 
          ((y5 + (-1)) ≤ 1022 → 
            ((sg 3 ((y5 + (-1)).toNatClampNeg)) < 256 → 
              ((sg 3 ((y5 + (-1)).toNatClampNeg)) < 0 → 
                g_67_24 s kb nb y3 (y5 + (-1)) (y6 + 1) sg P) ∧
              (¬ ((sg 3 ((y5 + (-1)).toNatClampNeg)) < 0) → 
                ((Int32.ofNat 128) ≤ (sg 3 ((y5 + (-1)).toNatClampNeg)) → 
                  g_67_24 s kb nb y3 (y5 + (-1)) (y6 + 1) sg P) ∧
                (¬ ((Int32.ofNat 128) ≤ (sg 3 ((y5 + (-1)).toNatClampNeg))) → 
                  ((Int32.ofNat nb) ≤ (sg 3 ((y5 + (-1)).toNatClampNeg)) → 
                    g_67_24 s kb nb y3 (y5 + (-1)) (y6 + 1) sg P) ∧
                  (¬ ((Int32.ofNat nb) ≤ (sg 3 ((y5 + (-1)).toNatClampNeg))) → 
                    (rIn (sg 3 ((y5 + (-1)).toNatClampNeg)) 128 = true ∧
                    ((sg 5 ((sg 3 ((y5 + (-1)).toNatClampNeg)).toNatClampNeg)) = (sg 1 4) → 
                      g_67_24 s kb nb y3 (y5 + (-1)) (y6 + 1) sg P) ∧
                    (¬ ((sg 5 ((sg 3 ((y5 + (-1)).toNatClampNeg)).toNatClampNeg)) = (sg 1 4)) → 
                      (rIn (sg 3 ((y5 + (-1)).toNatClampNeg)) 128 = true ∧
                      rIn (sg 3 ((y5 + (-1)).toNatClampNeg)) nb = true ∧
                      ((sg kb ((sg 3 ((y5 + (-1)).toNatClampNeg)).toNatClampNeg)) = ((-1)) → 
                        g_67_24 s kb nb y3 (y5 + (-1)) (y6 + 1) (up2 sg 5 ((sg 3 ((y5 + (-1)).toNatClampNeg)).toNatClampNeg) (sg 1 4)) P) ∧
                      (¬ ((sg kb ((sg 3 ((y5 + (-1)).toNatClampNeg)).toNatClampNeg)) = ((-1))) → 
                        (rIn (sg 3 ((y5 + (-1)).toNatClampNeg)) nb = true ∧
                        rIn (y5 + (-1)) 1024 = true ∧
                        g_67_24 s kb nb y3 ((y5 + (-1)) + 1) (y6 + 1) (up2 (up2 sg 5 ((sg 3 ((y5 + (-1)).toNatClampNeg)).toNatClampNeg) (sg 1 4)) 3 ((y5 + (-1)).toNatClampNeg) (sg kb ((sg 3 ((y5 + (-1)).toNatClampNeg)).toNatClampNeg))) P))))))))) ∧
            (¬ ((sg 3 ((y5 + (-1)).toNatClampNeg)) < 256) → 
              EvS rSkel 2 30 [.inr (.inr (some s)), .inl (sg 3 ((y5 + (-1)).toNatClampNeg)), .inl 1] sg (fun v13 t14 => ∃ n16, v13 = some (.inl n16) ∧
                (rIn (y5 + (-1)) 1024 = true ∧
                EvS rSkel 2 30 [.inr (.inr (some s)), .inl (sg 3 ((y5 + (-1)).toNatClampNeg)), .inl 0] (up2 t14 3 ((y5 + (-1)).toNatClampNeg) n16) (fun v17 t18 => ∃ n20, v17 = some (.inl n20) ∧
                  (rIn ((y5 + (-1)) + 1) 1024 = true ∧
                  g_67_24 s kb nb y3 ((y5 + (-1)) + 2) (y6 + 1) (up2 t18 3 (((y5 + (-1)) + 1).toNatClampNeg) n20) P)))))) ∧
          (¬ ((y5 + (-1)) ≤ 1022) → 
            P (some (.inl 1)) sg)))))) : g_67_24 s kb nb y3 y5 y6 sg P := by
  show GoS rSkel 2 7 8 (some .boolean) false prog_9_method_6_code 24 [(0, .inr (.inr (some 1))), (1, .inr (.inr (some s))), (2, .inr (.inr (some kb))), (3, .inl y3), (5, .inl y5), (6, .inl y6)] [] sg P
  have b_s := hs.1
  have b_kb := hkb.1
  refine gs0 26 [(0, .inr (.inr (some 1))), (1, .inr (.inr (some s))), (2, .inr (.inr (some kb))), (3, .inl y3), (5, .inl y5), (6, .inl y6)] [.inl y6] dM_67_24 (fun _ => rfl) (Or.inr rfl) ?_
  refine gs0 28 [(0, .inr (.inr (some 1))), (1, .inr (.inr (some s))), (2, .inr (.inr (some kb))), (3, .inl y3), (5, .inl y5), (6, .inl y6)] [.inl 1000000, .inl y6] dM_67_26 (fun _ => rfl) (Or.inr rfl) ?_
  refine gsIf (t := 183) (C := 1000000 ≤ y6) (r := []) dM_67_28 (fun _ => rfl) (Or.inr rfl) (rTest_iff .ge y6 1000000) (fun c1 => ?_) (fun c1 => ?_)
  · replace h := h.1 c1
    refine gs0 185 [(0, .inr (.inr (some 1))), (1, .inr (.inr (some s))), (2, .inr (.inr (some kb))), (3, .inl y3), (5, .inl y5), (6, .inl y6)] [.inl y5] dM_67_183 (fun _ => rfl) (Or.inr rfl) ?_
    refine gsIf (t := 192) (C := y5 ≤ 0) (r := []) dM_67_185 (fun _ => rfl) (Or.inr rfl) (rTest_iff .le y5 0) (fun c2 => ?_) (fun c2 => ?_)
    · replace h := h.1 c2
      refine gs0 193 [(0, .inr (.inr (some 1))), (1, .inr (.inr (some s))), (2, .inr (.inr (some kb))), (3, .inl y3), (5, .inl y5), (6, .inl y6)] [.inl 0] dM_67_192 (fun _ => rfl) (Or.inr rfl) ?_
      refine gsRet (r := some (.inl 0)) dM_67_193 (fun _ => rfl) (Or.inr rfl) ?_
      exact h
    · replace h := h.2 c2
      refine gs0 189 [(0, .inr (.inr (some 1))), (1, .inr (.inr (some s))), (2, .inr (.inr (some kb))), (3, .inl y3), (5, .inl y5), (6, .inl y6)] [.inl 1] dM_67_188 (fun _ => rfl) (Or.inr rfl) ?_
      refine gs0 193 [(0, .inr (.inr (some 1))), (1, .inr (.inr (some s))), (2, .inr (.inr (some kb))), (3, .inl y3), (5, .inl y5), (6, .inl y6)] [.inl 1] dM_67_189 (fun _ => rfl) (Or.inr rfl) ?_
      refine gsRet (r := some (.inl 1)) dM_67_193 (fun _ => rfl) (Or.inr rfl) ?_
      exact h
  · replace h := h.2 c1
    refine gs0 33 [(0, .inr (.inr (some 1))), (1, .inr (.inr (some s))), (2, .inr (.inr (some kb))), (3, .inl y3), (5, .inl y5), (6, .inl y6)] [.inl y5] dM_67_31 (fun _ => rfl) (Or.inr rfl) ?_
    refine gsIf (t := 183) (C := y5 ≤ 0) (r := []) dM_67_33 (fun _ => rfl) (Or.inr rfl) (rTest_iff .le y5 0) (fun c3 => ?_) (fun c3 => ?_)
    · replace h := h.1 c3
      refine gs0 185 [(0, .inr (.inr (some 1))), (1, .inr (.inr (some s))), (2, .inr (.inr (some kb))), (3, .inl y3), (5, .inl y5), (6, .inl y6)] [.inl y5] dM_67_183 (fun _ => rfl) (Or.inr rfl) ?_
      refine gsIf (t := 192) (C := y5 ≤ 0) (r := []) dM_67_185 (fun _ => rfl) (Or.inr rfl) (rTest_iff .le y5 0) (fun c4 => ?_) (fun c4 => ?_)
      · replace h := h.1 c4
        refine gs0 193 [(0, .inr (.inr (some 1))), (1, .inr (.inr (some s))), (2, .inr (.inr (some kb))), (3, .inl y3), (5, .inl y5), (6, .inl y6)] [.inl 0] dM_67_192 (fun _ => rfl) (Or.inr rfl) ?_
        refine gsRet (r := some (.inl 0)) dM_67_193 (fun _ => rfl) (Or.inr rfl) ?_
        exact h
      · replace h := h.2 c4
        refine gs0 189 [(0, .inr (.inr (some 1))), (1, .inr (.inr (some s))), (2, .inr (.inr (some kb))), (3, .inl y3), (5, .inl y5), (6, .inl y6)] [.inl 1] dM_67_188 (fun _ => rfl) (Or.inr rfl) ?_
        refine gs0 193 [(0, .inr (.inr (some 1))), (1, .inr (.inr (some s))), (2, .inr (.inr (some kb))), (3, .inl y3), (5, .inl y5), (6, .inl y6)] [.inl 1] dM_67_189 (fun _ => rfl) (Or.inr rfl) ?_
        refine gsRet (r := some (.inl 1)) dM_67_193 (fun _ => rfl) (Or.inr rfl) ?_
        exact h
    · replace h := h.2 c3
      refine gs0 39 [(5, .inl (y5 + (-1))), (0, .inr (.inr (some 1))), (1, .inr (.inr (some s))), (2, .inr (.inr (some kb))), (3, .inl y3), (6, .inl y6)] [] dM_67_36 (fun _ => rfl) (Or.inr rfl) ?_
      refine gs0 40 [(5, .inl (y5 + (-1))), (0, .inr (.inr (some 1))), (1, .inr (.inr (some s))), (2, .inr (.inr (some kb))), (3, .inl y3), (6, .inl y6)] [.inr (.inr (some 1))] dM_67_39 (fun _ => rfl) (Or.inr rfl) ?_
      refine gsGetR (some 3) dM_67_40 sk_1 rfl rfl ?_
      refine gs0 45 [(5, .inl (y5 + (-1))), (0, .inr (.inr (some 1))), (1, .inr (.inr (some s))), (2, .inr (.inr (some kb))), (3, .inl y3), (6, .inl y6)] [.inl (y5 + (-1)), .inr (.inr (some 3))] dM_67_43 (fun _ => rfl) (Or.inr rfl) ?_
      refine gsIaldN ((y5 + (-1)).toNatClampNeg) (sg 3 ((y5 + (-1)).toNatClampNeg)) dM_67_45 sk_3 h.1 rfl rfl ?_
      replace h := h.2
      refine gs0 48 [(7, .inl (sg 3 ((y5 + (-1)).toNatClampNeg))), (5, .inl (y5 + (-1))), (0, .inr (.inr (some 1))), (1, .inr (.inr (some s))), (2, .inr (.inr (some kb))), (3, .inl y3), (6, .inl y6)] [] dM_67_46 (fun _ => rfl) (Or.inr rfl) ?_
      refine gs0 50 [(7, .inl (sg 3 ((y5 + (-1)).toNatClampNeg))), (5, .inl (y5 + (-1))), (0, .inr (.inr (some 1))), (1, .inr (.inr (some s))), (2, .inr (.inr (some kb))), (3, .inl y3), (6, .inl y6)] [.inl (sg 3 ((y5 + (-1)).toNatClampNeg))] dM_67_48 (fun _ => rfl) (Or.inr rfl) ?_
      refine gs0 51 [(7, .inl (sg 3 ((y5 + (-1)).toNatClampNeg))), (5, .inl (y5 + (-1))), (0, .inr (.inr (some 1))), (1, .inr (.inr (some s))), (2, .inr (.inr (some kb))), (3, .inl y3), (6, .inl y6)] [.inl y3, .inl (sg 3 ((y5 + (-1)).toNatClampNeg))] dM_67_50 (fun _ => rfl) (Or.inr rfl) ?_
      refine gsIf (t := 62) (C := (sg 3 ((y5 + (-1)).toNatClampNeg)) = y3) (r := []) dM_67_51 (fun _ => rfl) (Or.inr rfl) (rTest_iff .eq (sg 3 ((y5 + (-1)).toNatClampNeg)) y3) (fun c5 => ?_) (fun c5 => ?_)
      · replace h := h.1 c5
        refine gs0 63 [(7, .inl (sg 3 ((y5 + (-1)).toNatClampNeg))), (5, .inl (y5 + (-1))), (0, .inr (.inr (some 1))), (1, .inr (.inr (some s))), (2, .inr (.inr (some kb))), (3, .inl y3), (6, .inl y6)] [.inl 1] dM_67_62 (fun _ => rfl) (Or.inr rfl) ?_
        refine gsRet (r := some (.inl 1)) dM_67_63 (fun _ => rfl) (Or.inr rfl) ?_
        exact h
      · replace h := h.2 c5
        refine gs0 56 [(7, .inl (sg 3 ((y5 + (-1)).toNatClampNeg))), (5, .inl (y5 + (-1))), (0, .inr (.inr (some 1))), (1, .inr (.inr (some s))), (2, .inr (.inr (some kb))), (3, .inl y3), (6, .inl y6)] [.inl (y5 + (-1))] dM_67_54 (fun _ => rfl) (Or.inr rfl) ?_
        refine gs0 59 [(7, .inl (sg 3 ((y5 + (-1)).toNatClampNeg))), (5, .inl (y5 + (-1))), (0, .inr (.inr (some 1))), (1, .inr (.inr (some s))), (2, .inr (.inr (some kb))), (3, .inl y3), (6, .inl y6)] [.inl 1022, .inl (y5 + (-1))] dM_67_56 (fun _ => rfl) (Or.inr rfl) ?_
        refine gsIf (t := 64) (C := (y5 + (-1)) ≤ 1022) (r := []) dM_67_59 (fun _ => rfl) (Or.inr rfl) (rTest_iff .le (y5 + (-1)) 1022) (fun c6 => ?_) (fun c6 => ?_)
        · replace h := h.1 c6
          refine gs0 66 [(7, .inl (sg 3 ((y5 + (-1)).toNatClampNeg))), (5, .inl (y5 + (-1))), (0, .inr (.inr (some 1))), (1, .inr (.inr (some s))), (2, .inr (.inr (some kb))), (3, .inl y3), (6, .inl y6)] [.inl (sg 3 ((y5 + (-1)).toNatClampNeg))] dM_67_64 (fun _ => rfl) (Or.inr rfl) ?_
          refine gs0 69 [(7, .inl (sg 3 ((y5 + (-1)).toNatClampNeg))), (5, .inl (y5 + (-1))), (0, .inr (.inr (some 1))), (1, .inr (.inr (some s))), (2, .inr (.inr (some kb))), (3, .inl y3), (6, .inl y6)] [.inl 256, .inl (sg 3 ((y5 + (-1)).toNatClampNeg))] dM_67_66 (fun _ => rfl) (Or.inr rfl) ?_
          refine gsIf (t := 108) (C := (sg 3 ((y5 + (-1)).toNatClampNeg)) < 256) (r := []) dM_67_69 (fun _ => rfl) (Or.inr rfl) (rTest_iff .lt (sg 3 ((y5 + (-1)).toNatClampNeg)) 256) (fun c7 => ?_) (fun c7 => ?_)
          · replace h := h.1 c7
            refine gs0 110 [(7, .inl (sg 3 ((y5 + (-1)).toNatClampNeg))), (5, .inl (y5 + (-1))), (0, .inr (.inr (some 1))), (1, .inr (.inr (some s))), (2, .inr (.inr (some kb))), (3, .inl y3), (6, .inl y6)] [.inl (sg 3 ((y5 + (-1)).toNatClampNeg))] dM_67_108 (fun _ => rfl) (Or.inr rfl) ?_
            refine gsIf (t := 177) (C := (sg 3 ((y5 + (-1)).toNatClampNeg)) < 0) (r := []) dM_67_110 (fun _ => rfl) (Or.inr rfl) (rTest_iff .lt (sg 3 ((y5 + (-1)).toNatClampNeg)) 0) (fun c8 => ?_) (fun c8 => ?_)
            · replace h := h.1 c8
              refine gs0 180 [(6, .inl (y6 + 1)), (7, .inl (sg 3 ((y5 + (-1)).toNatClampNeg))), (5, .inl (y5 + (-1))), (0, .inr (.inr (some 1))), (1, .inr (.inr (some s))), (2, .inr (.inr (some kb))), (3, .inl y3)] [] dM_67_177 (fun _ => rfl) (Or.inr rfl) ?_
              refine gs0 24 [(6, .inl (y6 + 1)), (7, .inl (sg 3 ((y5 + (-1)).toNatClampNeg))), (5, .inl (y5 + (-1))), (0, .inr (.inr (some 1))), (1, .inr (.inr (some s))), (2, .inr (.inr (some kb))), (3, .inl y3)] [] dM_67_180 (fun _ => rfl) (Or.inr rfl) ?_
              exact GoS.sub (Lnd_keys (ks := [0, 1, 2, 3, 5, 6]) rfl (by decide)) (Lsub_cons rfl (Lsub_cons rfl (Lsub_cons rfl (Lsub_cons rfl (Lsub_cons rfl (Lsub_cons rfl Lsub_nil)))))) h
            · replace h := h.2 c8
              refine gs0 115 [(7, .inl (sg 3 ((y5 + (-1)).toNatClampNeg))), (5, .inl (y5 + (-1))), (0, .inr (.inr (some 1))), (1, .inr (.inr (some s))), (2, .inr (.inr (some kb))), (3, .inl y3), (6, .inl y6)] [.inl (sg 3 ((y5 + (-1)).toNatClampNeg))] dM_67_113 (fun _ => rfl) (Or.inr rfl) ?_
              refine gs0 116 [(7, .inl (sg 3 ((y5 + (-1)).toNatClampNeg))), (5, .inl (y5 + (-1))), (0, .inr (.inr (some 1))), (1, .inr (.inr (some s))), (2, .inr (.inr (some kb))), (3, .inl y3), (6, .inl y6)] [.inr (.inr (some 1)), .inl (sg 3 ((y5 + (-1)).toNatClampNeg))] dM_67_115 (fun _ => rfl) (Or.inr rfl) ?_
              refine gsGetR (some 5) dM_67_116 sk_1 rfl rfl ?_
              refine gsAlen dM_67_119 sk_5 ?_
              refine gsIf (t := 177) (C := (Int32.ofNat 128) ≤ (sg 3 ((y5 + (-1)).toNatClampNeg))) (r := []) dM_67_120 (fun _ => rfl) (Or.inr rfl) (rTest_iff .ge (sg 3 ((y5 + (-1)).toNatClampNeg)) (Int32.ofNat 128)) (fun c9 => ?_) (fun c9 => ?_)
              · replace h := h.1 c9
                refine gs0 180 [(6, .inl (y6 + 1)), (7, .inl (sg 3 ((y5 + (-1)).toNatClampNeg))), (5, .inl (y5 + (-1))), (0, .inr (.inr (some 1))), (1, .inr (.inr (some s))), (2, .inr (.inr (some kb))), (3, .inl y3)] [] dM_67_177 (fun _ => rfl) (Or.inr rfl) ?_
                refine gs0 24 [(6, .inl (y6 + 1)), (7, .inl (sg 3 ((y5 + (-1)).toNatClampNeg))), (5, .inl (y5 + (-1))), (0, .inr (.inr (some 1))), (1, .inr (.inr (some s))), (2, .inr (.inr (some kb))), (3, .inl y3)] [] dM_67_180 (fun _ => rfl) (Or.inr rfl) ?_
                exact GoS.sub (Lnd_keys (ks := [0, 1, 2, 3, 5, 6]) rfl (by decide)) (Lsub_cons rfl (Lsub_cons rfl (Lsub_cons rfl (Lsub_cons rfl (Lsub_cons rfl (Lsub_cons rfl Lsub_nil)))))) h
              · replace h := h.2 c9
                refine gs0 125 [(7, .inl (sg 3 ((y5 + (-1)).toNatClampNeg))), (5, .inl (y5 + (-1))), (0, .inr (.inr (some 1))), (1, .inr (.inr (some s))), (2, .inr (.inr (some kb))), (3, .inl y3), (6, .inl y6)] [.inl (sg 3 ((y5 + (-1)).toNatClampNeg))] dM_67_123 (fun _ => rfl) (Or.inr rfl) ?_
                refine gs0 126 [(7, .inl (sg 3 ((y5 + (-1)).toNatClampNeg))), (5, .inl (y5 + (-1))), (0, .inr (.inr (some 1))), (1, .inr (.inr (some s))), (2, .inr (.inr (some kb))), (3, .inl y3), (6, .inl y6)] [.inr (.inr (some kb)), .inl (sg 3 ((y5 + (-1)).toNatClampNeg))] dM_67_125 (fun _ => rfl) (Or.inr rfl) ?_
                refine gsAlen dM_67_126 hkb.2 ?_
                refine gsIf (t := 177) (C := (Int32.ofNat nb) ≤ (sg 3 ((y5 + (-1)).toNatClampNeg))) (r := []) dM_67_127 (fun _ => rfl) (Or.inr rfl) (rTest_iff .ge (sg 3 ((y5 + (-1)).toNatClampNeg)) (Int32.ofNat nb)) (fun c10 => ?_) (fun c10 => ?_)
                · replace h := h.1 c10
                  refine gs0 180 [(6, .inl (y6 + 1)), (7, .inl (sg 3 ((y5 + (-1)).toNatClampNeg))), (5, .inl (y5 + (-1))), (0, .inr (.inr (some 1))), (1, .inr (.inr (some s))), (2, .inr (.inr (some kb))), (3, .inl y3)] [] dM_67_177 (fun _ => rfl) (Or.inr rfl) ?_
                  refine gs0 24 [(6, .inl (y6 + 1)), (7, .inl (sg 3 ((y5 + (-1)).toNatClampNeg))), (5, .inl (y5 + (-1))), (0, .inr (.inr (some 1))), (1, .inr (.inr (some s))), (2, .inr (.inr (some kb))), (3, .inl y3)] [] dM_67_180 (fun _ => rfl) (Or.inr rfl) ?_
                  exact GoS.sub (Lnd_keys (ks := [0, 1, 2, 3, 5, 6]) rfl (by decide)) (Lsub_cons rfl (Lsub_cons rfl (Lsub_cons rfl (Lsub_cons rfl (Lsub_cons rfl (Lsub_cons rfl Lsub_nil)))))) h
                · replace h := h.2 c10
                  refine gs0 131 [(7, .inl (sg 3 ((y5 + (-1)).toNatClampNeg))), (5, .inl (y5 + (-1))), (0, .inr (.inr (some 1))), (1, .inr (.inr (some s))), (2, .inr (.inr (some kb))), (3, .inl y3), (6, .inl y6)] [.inr (.inr (some 1))] dM_67_130 (fun _ => rfl) (Or.inr rfl) ?_
                  refine gsGetR (some 5) dM_67_131 sk_1 rfl rfl ?_
                  refine gs0 136 [(7, .inl (sg 3 ((y5 + (-1)).toNatClampNeg))), (5, .inl (y5 + (-1))), (0, .inr (.inr (some 1))), (1, .inr (.inr (some s))), (2, .inr (.inr (some kb))), (3, .inl y3), (6, .inl y6)] [.inl (sg 3 ((y5 + (-1)).toNatClampNeg)), .inr (.inr (some 5))] dM_67_134 (fun _ => rfl) (Or.inr rfl) ?_
                  refine gsIaldN ((sg 3 ((y5 + (-1)).toNatClampNeg)).toNatClampNeg) (sg 5 ((sg 3 ((y5 + (-1)).toNatClampNeg)).toNatClampNeg)) dM_67_136 sk_5 h.1 rfl rfl ?_
                  replace h := h.2
                  refine gs0 138 [(7, .inl (sg 3 ((y5 + (-1)).toNatClampNeg))), (5, .inl (y5 + (-1))), (0, .inr (.inr (some 1))), (1, .inr (.inr (some s))), (2, .inr (.inr (some kb))), (3, .inl y3), (6, .inl y6)] [.inr (.inr (some 1)), .inl (sg 5 ((sg 3 ((y5 + (-1)).toNatClampNeg)).toNatClampNeg))] dM_67_137 (fun _ => rfl) (Or.inr rfl) ?_
                  refine gsGetE (sg 1 4) dM_67_138 sk_1 rfl rfl rfl ?_
                  refine gsIf (t := 177) (C := (sg 5 ((sg 3 ((y5 + (-1)).toNatClampNeg)).toNatClampNeg)) = (sg 1 4)) (r := []) dM_67_141 (fun _ => rfl) (Or.inr rfl) (rTest_iff .eq (sg 5 ((sg 3 ((y5 + (-1)).toNatClampNeg)).toNatClampNeg)) (sg 1 4)) (fun c11 => ?_) (fun c11 => ?_)
                  · replace h := h.1 c11
                    refine gs0 180 [(6, .inl (y6 + 1)), (7, .inl (sg 3 ((y5 + (-1)).toNatClampNeg))), (5, .inl (y5 + (-1))), (0, .inr (.inr (some 1))), (1, .inr (.inr (some s))), (2, .inr (.inr (some kb))), (3, .inl y3)] [] dM_67_177 (fun _ => rfl) (Or.inr rfl) ?_
                    refine gs0 24 [(6, .inl (y6 + 1)), (7, .inl (sg 3 ((y5 + (-1)).toNatClampNeg))), (5, .inl (y5 + (-1))), (0, .inr (.inr (some 1))), (1, .inr (.inr (some s))), (2, .inr (.inr (some kb))), (3, .inl y3)] [] dM_67_180 (fun _ => rfl) (Or.inr rfl) ?_
                    exact GoS.sub (Lnd_keys (ks := [0, 1, 2, 3, 5, 6]) rfl (by decide)) (Lsub_cons rfl (Lsub_cons rfl (Lsub_cons rfl (Lsub_cons rfl (Lsub_cons rfl (Lsub_cons rfl Lsub_nil)))))) h
                  · replace h := h.2 c11
                    refine gs0 145 [(7, .inl (sg 3 ((y5 + (-1)).toNatClampNeg))), (5, .inl (y5 + (-1))), (0, .inr (.inr (some 1))), (1, .inr (.inr (some s))), (2, .inr (.inr (some kb))), (3, .inl y3), (6, .inl y6)] [.inr (.inr (some 1))] dM_67_144 (fun _ => rfl) (Or.inr rfl) ?_
                    refine gsGetR (some 5) dM_67_145 sk_1 rfl rfl ?_
                    refine gs0 150 [(7, .inl (sg 3 ((y5 + (-1)).toNatClampNeg))), (5, .inl (y5 + (-1))), (0, .inr (.inr (some 1))), (1, .inr (.inr (some s))), (2, .inr (.inr (some kb))), (3, .inl y3), (6, .inl y6)] [.inl (sg 3 ((y5 + (-1)).toNatClampNeg)), .inr (.inr (some 5))] dM_67_148 (fun _ => rfl) (Or.inr rfl) ?_
                    refine gs0 151 [(7, .inl (sg 3 ((y5 + (-1)).toNatClampNeg))), (5, .inl (y5 + (-1))), (0, .inr (.inr (some 1))), (1, .inr (.inr (some s))), (2, .inr (.inr (some kb))), (3, .inl y3), (6, .inl y6)] [.inr (.inr (some 1)), .inl (sg 3 ((y5 + (-1)).toNatClampNeg)), .inr (.inr (some 5))] dM_67_150 (fun _ => rfl) (Or.inr rfl) ?_
                    refine gsGetE (sg 1 4) dM_67_151 sk_1 rfl rfl rfl ?_
                    refine gsIastN ((sg 3 ((y5 + (-1)).toNatClampNeg)).toNatClampNeg) dM_67_154 sk_5 h.1 rfl ?_
                    replace h := h.2
                    refine gs0 156 [(7, .inl (sg 3 ((y5 + (-1)).toNatClampNeg))), (5, .inl (y5 + (-1))), (0, .inr (.inr (some 1))), (1, .inr (.inr (some s))), (2, .inr (.inr (some kb))), (3, .inl y3), (6, .inl y6)] [.inr (.inr (some kb))] dM_67_155 (fun _ => rfl) (Or.inr rfl) ?_
                    refine gs0 158 [(7, .inl (sg 3 ((y5 + (-1)).toNatClampNeg))), (5, .inl (y5 + (-1))), (0, .inr (.inr (some 1))), (1, .inr (.inr (some s))), (2, .inr (.inr (some kb))), (3, .inl y3), (6, .inl y6)] [.inl (sg 3 ((y5 + (-1)).toNatClampNeg)), .inr (.inr (some kb))] dM_67_156 (fun _ => rfl) (Or.inr rfl) ?_
                    refine gsIaldN ((sg 3 ((y5 + (-1)).toNatClampNeg)).toNatClampNeg) (sg kb ((sg 3 ((y5 + (-1)).toNatClampNeg)).toNatClampNeg)) dM_67_158 hkb.2 h.1 rfl (congrFun (up2_nk _ _ _ (by omega)) _) ?_
                    replace h := h.2
                    refine gs0 160 [(7, .inl (sg 3 ((y5 + (-1)).toNatClampNeg))), (5, .inl (y5 + (-1))), (0, .inr (.inr (some 1))), (1, .inr (.inr (some s))), (2, .inr (.inr (some kb))), (3, .inl y3), (6, .inl y6)] [.inl ((-1)), .inl (sg kb ((sg 3 ((y5 + (-1)).toNatClampNeg)).toNatClampNeg))] dM_67_159 (fun _ => rfl) (Or.inr rfl) ?_
                    refine gsIf (t := 177) (C := (sg kb ((sg 3 ((y5 + (-1)).toNatClampNeg)).toNatClampNeg)) = ((-1))) (r := []) dM_67_160 (fun _ => rfl) (Or.inr rfl) (rTest_iff .eq (sg kb ((sg 3 ((y5 + (-1)).toNatClampNeg)).toNatClampNeg)) ((-1))) (fun c12 => ?_) (fun c12 => ?_)
                    · replace h := h.1 c12
                      refine gs0 180 [(6, .inl (y6 + 1)), (7, .inl (sg 3 ((y5 + (-1)).toNatClampNeg))), (5, .inl (y5 + (-1))), (0, .inr (.inr (some 1))), (1, .inr (.inr (some s))), (2, .inr (.inr (some kb))), (3, .inl y3)] [] dM_67_177 (fun _ => rfl) (Or.inr rfl) ?_
                      refine gs0 24 [(6, .inl (y6 + 1)), (7, .inl (sg 3 ((y5 + (-1)).toNatClampNeg))), (5, .inl (y5 + (-1))), (0, .inr (.inr (some 1))), (1, .inr (.inr (some s))), (2, .inr (.inr (some kb))), (3, .inl y3)] [] dM_67_180 (fun _ => rfl) (Or.inr rfl) ?_
                      exact GoS.sub (Lnd_keys (ks := [0, 1, 2, 3, 5, 6]) rfl (by decide)) (Lsub_cons rfl (Lsub_cons rfl (Lsub_cons rfl (Lsub_cons rfl (Lsub_cons rfl (Lsub_cons rfl Lsub_nil)))))) h
                    · replace h := h.2 c12
                      refine gs0 164 [(7, .inl (sg 3 ((y5 + (-1)).toNatClampNeg))), (5, .inl (y5 + (-1))), (0, .inr (.inr (some 1))), (1, .inr (.inr (some s))), (2, .inr (.inr (some kb))), (3, .inl y3), (6, .inl y6)] [.inr (.inr (some 1))] dM_67_163 (fun _ => rfl) (Or.inr rfl) ?_
                      refine gsGetR (some 3) dM_67_164 sk_1 rfl rfl ?_
                      refine gs0 169 [(7, .inl (sg 3 ((y5 + (-1)).toNatClampNeg))), (5, .inl (y5 + (-1))), (0, .inr (.inr (some 1))), (1, .inr (.inr (some s))), (2, .inr (.inr (some kb))), (3, .inl y3), (6, .inl y6)] [.inl (y5 + (-1)), .inr (.inr (some 3))] dM_67_167 (fun _ => rfl) (Or.inr rfl) ?_
                      refine gs0 170 [(7, .inl (sg 3 ((y5 + (-1)).toNatClampNeg))), (5, .inl (y5 + (-1))), (0, .inr (.inr (some 1))), (1, .inr (.inr (some s))), (2, .inr (.inr (some kb))), (3, .inl y3), (6, .inl y6)] [.inr (.inr (some kb)), .inl (y5 + (-1)), .inr (.inr (some 3))] dM_67_169 (fun _ => rfl) (Or.inr rfl) ?_
                      refine gs0 172 [(7, .inl (sg 3 ((y5 + (-1)).toNatClampNeg))), (5, .inl (y5 + (-1))), (0, .inr (.inr (some 1))), (1, .inr (.inr (some s))), (2, .inr (.inr (some kb))), (3, .inl y3), (6, .inl y6)] [.inl (sg 3 ((y5 + (-1)).toNatClampNeg)), .inr (.inr (some kb)), .inl (y5 + (-1)), .inr (.inr (some 3))] dM_67_170 (fun _ => rfl) (Or.inr rfl) ?_
                      refine gsIaldN ((sg 3 ((y5 + (-1)).toNatClampNeg)).toNatClampNeg) (sg kb ((sg 3 ((y5 + (-1)).toNatClampNeg)).toNatClampNeg)) dM_67_172 hkb.2 h.1 rfl (congrFun (up2_nk _ _ _ (by omega)) _) ?_
                      replace h := h.2
                      refine gsIastN ((y5 + (-1)).toNatClampNeg) dM_67_173 sk_3 h.1 rfl ?_
                      replace h := h.2
                      refine gs0 177 [(5, .inl ((y5 + (-1)) + 1)), (7, .inl (sg 3 ((y5 + (-1)).toNatClampNeg))), (0, .inr (.inr (some 1))), (1, .inr (.inr (some s))), (2, .inr (.inr (some kb))), (3, .inl y3), (6, .inl y6)] [] dM_67_174 (fun _ => rfl) (Or.inr rfl) ?_
                      refine gs0 180 [(6, .inl (y6 + 1)), (5, .inl ((y5 + (-1)) + 1)), (7, .inl (sg 3 ((y5 + (-1)).toNatClampNeg))), (0, .inr (.inr (some 1))), (1, .inr (.inr (some s))), (2, .inr (.inr (some kb))), (3, .inl y3)] [] dM_67_177 (fun _ => rfl) (Or.inr rfl) ?_
                      refine gs0 24 [(6, .inl (y6 + 1)), (5, .inl ((y5 + (-1)) + 1)), (7, .inl (sg 3 ((y5 + (-1)).toNatClampNeg))), (0, .inr (.inr (some 1))), (1, .inr (.inr (some s))), (2, .inr (.inr (some kb))), (3, .inl y3)] [] dM_67_180 (fun _ => rfl) (Or.inr rfl) ?_
                      exact GoS.sub (Lnd_keys (ks := [0, 1, 2, 3, 5, 6]) rfl (by decide)) (Lsub_cons rfl (Lsub_cons rfl (Lsub_cons rfl (Lsub_cons rfl (Lsub_cons rfl (Lsub_cons rfl Lsub_nil)))))) h
          · replace h := h.2 c7
            refine gs0 73 [(7, .inl (sg 3 ((y5 + (-1)).toNatClampNeg))), (5, .inl (y5 + (-1))), (0, .inr (.inr (some 1))), (1, .inr (.inr (some s))), (2, .inr (.inr (some kb))), (3, .inl y3), (6, .inl y6)] [.inr (.inr (some 1))] dM_67_72 (fun _ => rfl) (Or.inr rfl) ?_
            refine gsGetR (some 3) dM_67_73 sk_1 rfl rfl ?_
            refine gs0 78 [(7, .inl (sg 3 ((y5 + (-1)).toNatClampNeg))), (5, .inl (y5 + (-1))), (0, .inr (.inr (some 1))), (1, .inr (.inr (some s))), (2, .inr (.inr (some kb))), (3, .inl y3), (6, .inl y6)] [.inl (y5 + (-1)), .inr (.inr (some 3))] dM_67_76 (fun _ => rfl) (Or.inr rfl) ?_
            refine gs0 79 [(7, .inl (sg 3 ((y5 + (-1)).toNatClampNeg))), (5, .inl (y5 + (-1))), (0, .inr (.inr (some 1))), (1, .inr (.inr (some s))), (2, .inr (.inr (some kb))), (3, .inl y3), (6, .inl y6)] [.inr (.inr (some s)), .inl (y5 + (-1)), .inr (.inr (some 3))] dM_67_78 (fun _ => rfl) (Or.inr rfl) ?_
            refine gs0 81 [(7, .inl (sg 3 ((y5 + (-1)).toNatClampNeg))), (5, .inl (y5 + (-1))), (0, .inr (.inr (some 1))), (1, .inr (.inr (some s))), (2, .inr (.inr (some kb))), (3, .inl y3), (6, .inl y6)] [.inl (sg 3 ((y5 + (-1)).toNatClampNeg)), .inr (.inr (some s)), .inl (y5 + (-1)), .inr (.inr (some 3))] dM_67_79 (fun _ => rfl) (Or.inr rfl) ?_
            refine gs0 82 [(7, .inl (sg 3 ((y5 + (-1)).toNatClampNeg))), (5, .inl (y5 + (-1))), (0, .inr (.inr (some 1))), (1, .inr (.inr (some s))), (2, .inr (.inr (some kb))), (3, .inl y3), (6, .inl y6)] [.inl 1, .inl (sg 3 ((y5 + (-1)).toNatClampNeg)), .inr (.inr (some s)), .inl (y5 + (-1)), .inr (.inr (some 3))] dM_67_81 (fun _ => rfl) (Or.inr rfl) ?_
            refine gsCallV (y := 30) (k := s) (as := [.inr (.inr (some s)), .inl (sg 3 ((y5 + (-1)).toNatClampNeg)), .inl 1]) (r := [.inl (y5 + (-1)), .inr (.inr (some 3))]) dM_67_82 rfl rfl rfl (Nat.le_of_ble_eq_true rfl) hs.2.1 rfl (Nat.le_of_ble_eq_true rfl) (EvS.up h (Nat.le_of_ble_eq_true rfl)) (fun v13 t14 hv15 => ?_)
            obtain ⟨n16, rfl, hn⟩ := hv15
            clear h
            show GoS _ _ _ _ _ _ _ _ [(7, .inl (sg 3 ((y5 + (-1)).toNatClampNeg))), (5, .inl (y5 + (-1))), (0, .inr (.inr (some 1))), (1, .inr (.inr (some s))), (2, .inr (.inr (some kb))), (3, .inl y3), (6, .inl y6)] [.inl n16, .inl (y5 + (-1)), .inr (.inr (some 3))] t14 _
            refine gsIastN ((y5 + (-1)).toNatClampNeg) dM_67_85 sk_3 hn.1 rfl ?_
            replace hn := hn.2
            refine gs0 87 [(7, .inl (sg 3 ((y5 + (-1)).toNatClampNeg))), (5, .inl (y5 + (-1))), (0, .inr (.inr (some 1))), (1, .inr (.inr (some s))), (2, .inr (.inr (some kb))), (3, .inl y3), (6, .inl y6)] [.inr (.inr (some 1))] dM_67_86 (fun _ => rfl) (Or.inr rfl) ?_
            refine gsGetR (some 3) dM_67_87 sk_1 rfl rfl ?_
            refine gs0 92 [(7, .inl (sg 3 ((y5 + (-1)).toNatClampNeg))), (5, .inl (y5 + (-1))), (0, .inr (.inr (some 1))), (1, .inr (.inr (some s))), (2, .inr (.inr (some kb))), (3, .inl y3), (6, .inl y6)] [.inl (y5 + (-1)), .inr (.inr (some 3))] dM_67_90 (fun _ => rfl) (Or.inr rfl) ?_
            refine gs0 93 [(7, .inl (sg 3 ((y5 + (-1)).toNatClampNeg))), (5, .inl (y5 + (-1))), (0, .inr (.inr (some 1))), (1, .inr (.inr (some s))), (2, .inr (.inr (some kb))), (3, .inl y3), (6, .inl y6)] [.inl 1, .inl (y5 + (-1)), .inr (.inr (some 3))] dM_67_92 (fun _ => rfl) (Or.inr rfl) ?_
            refine gs0 94 [(7, .inl (sg 3 ((y5 + (-1)).toNatClampNeg))), (5, .inl (y5 + (-1))), (0, .inr (.inr (some 1))), (1, .inr (.inr (some s))), (2, .inr (.inr (some kb))), (3, .inl y3), (6, .inl y6)] [.inl ((y5 + (-1)) + 1), .inr (.inr (some 3))] dM_67_93 (fun _ => rfl) (Or.inr rfl) ?_
            refine gs0 95 [(7, .inl (sg 3 ((y5 + (-1)).toNatClampNeg))), (5, .inl (y5 + (-1))), (0, .inr (.inr (some 1))), (1, .inr (.inr (some s))), (2, .inr (.inr (some kb))), (3, .inl y3), (6, .inl y6)] [.inr (.inr (some s)), .inl ((y5 + (-1)) + 1), .inr (.inr (some 3))] dM_67_94 (fun _ => rfl) (Or.inr rfl) ?_
            refine gs0 97 [(7, .inl (sg 3 ((y5 + (-1)).toNatClampNeg))), (5, .inl (y5 + (-1))), (0, .inr (.inr (some 1))), (1, .inr (.inr (some s))), (2, .inr (.inr (some kb))), (3, .inl y3), (6, .inl y6)] [.inl (sg 3 ((y5 + (-1)).toNatClampNeg)), .inr (.inr (some s)), .inl ((y5 + (-1)) + 1), .inr (.inr (some 3))] dM_67_95 (fun _ => rfl) (Or.inr rfl) ?_
            refine gs0 98 [(7, .inl (sg 3 ((y5 + (-1)).toNatClampNeg))), (5, .inl (y5 + (-1))), (0, .inr (.inr (some 1))), (1, .inr (.inr (some s))), (2, .inr (.inr (some kb))), (3, .inl y3), (6, .inl y6)] [.inl 0, .inl (sg 3 ((y5 + (-1)).toNatClampNeg)), .inr (.inr (some s)), .inl ((y5 + (-1)) + 1), .inr (.inr (some 3))] dM_67_97 (fun _ => rfl) (Or.inr rfl) ?_
            refine gsCallV (y := 30) (k := s) (as := [.inr (.inr (some s)), .inl (sg 3 ((y5 + (-1)).toNatClampNeg)), .inl 0]) (r := [.inl ((y5 + (-1)) + 1), .inr (.inr (some 3))]) dM_67_98 rfl rfl rfl (Nat.le_of_ble_eq_true rfl) hs.2.1 rfl (Nat.le_of_ble_eq_true rfl) (EvS.up hn (Nat.le_of_ble_eq_true rfl)) (fun v17 t18 hv19 => ?_)
            obtain ⟨n20, rfl, hnn⟩ := hv19
            clear hn
            show GoS _ _ _ _ _ _ _ _ [(7, .inl (sg 3 ((y5 + (-1)).toNatClampNeg))), (5, .inl (y5 + (-1))), (0, .inr (.inr (some 1))), (1, .inr (.inr (some s))), (2, .inr (.inr (some kb))), (3, .inl y3), (6, .inl y6)] [.inl n20, .inl ((y5 + (-1)) + 1), .inr (.inr (some 3))] t18 _
            refine gsIastN (((y5 + (-1)) + 1).toNatClampNeg) dM_67_101 sk_3 hnn.1 rfl ?_
            replace hnn := hnn.2
            refine gs0 105 [(5, .inl ((y5 + (-1)) + 2)), (7, .inl (sg 3 ((y5 + (-1)).toNatClampNeg))), (0, .inr (.inr (some 1))), (1, .inr (.inr (some s))), (2, .inr (.inr (some kb))), (3, .inl y3), (6, .inl y6)] [] dM_67_102 (fun _ => rfl) (Or.inr rfl) ?_
            refine gs0 177 [(5, .inl ((y5 + (-1)) + 2)), (7, .inl (sg 3 ((y5 + (-1)).toNatClampNeg))), (0, .inr (.inr (some 1))), (1, .inr (.inr (some s))), (2, .inr (.inr (some kb))), (3, .inl y3), (6, .inl y6)] [] dM_67_105 (fun _ => rfl) (Or.inr rfl) ?_
            refine gs0 180 [(6, .inl (y6 + 1)), (5, .inl ((y5 + (-1)) + 2)), (7, .inl (sg 3 ((y5 + (-1)).toNatClampNeg))), (0, .inr (.inr (some 1))), (1, .inr (.inr (some s))), (2, .inr (.inr (some kb))), (3, .inl y3)] [] dM_67_177 (fun _ => rfl) (Or.inr rfl) ?_
            refine gs0 24 [(6, .inl (y6 + 1)), (5, .inl ((y5 + (-1)) + 2)), (7, .inl (sg 3 ((y5 + (-1)).toNatClampNeg))), (0, .inr (.inr (some 1))), (1, .inr (.inr (some s))), (2, .inr (.inr (some kb))), (3, .inl y3)] [] dM_67_180 (fun _ => rfl) (Or.inr rfl) ?_
            exact GoS.sub (Lnd_keys (ks := [0, 1, 2, 3, 5, 6]) rfl (by decide)) (Lsub_cons rfl (Lsub_cons rfl (Lsub_cons rfl (Lsub_cons rfl (Lsub_cons rfl (Lsub_cons rfl Lsub_nil)))))) hnn
        · replace h := h.2 c6
          refine gs0 63 [(7, .inl (sg 3 ((y5 + (-1)).toNatClampNeg))), (5, .inl (y5 + (-1))), (0, .inr (.inr (some 1))), (1, .inr (.inr (some s))), (2, .inr (.inr (some kb))), (3, .inl y3), (6, .inl y6)] [.inl 1] dM_67_62 (fun _ => rfl) (Or.inr rfl) ?_
          refine gsRet (r := some (.inl 1)) dM_67_63 (fun _ => rfl) (Or.inr rfl) ?_
          exact h
set_option maxRecDepth 100000 in
/-- GoalsInAQueue$Unifier.isIn -/
theorem w_67 (sg : rSg) (s : Nat) (hs : isScr s) (kb nb : Nat) (hkb : isArr kb nb) (x3 : Int32) (x4 : Int32) {P : Option rv → rSg → Prop} (h :
    g_67_24 s kb nb x3 1 0 (up2 (up2 sg 1 4 ((sg 1 4) + 1)) 3 0 x4) P) : EvS rSkel 3 67 [.inr (.inr (some 1)), .inr (.inr (some s)), .inr (.inr (some kb)), .inl x3, .inl x4] sg P := by
  refine EvS.of (ini := false) rfl ⟨rfl, Nat.le_of_ble_eq_true rfl⟩ rfl ?_
  show GoS rSkel 2 7 8 (some .boolean) false prog_9_method_6_code 0 [(0, .inr (.inr (some 1))), (1, .inr (.inr (some s))), (2, .inr (.inr (some kb))), (3, .inl x3), (4, .inl x4)] [] sg _
  have b_s := hs.1
  have b_kb := hkb.1
  refine gs0 1 [(0, .inr (.inr (some 1))), (1, .inr (.inr (some s))), (2, .inr (.inr (some kb))), (3, .inl x3), (4, .inl x4)] [.inr (.inr (some 1))] dM_67_0 (fun _ => rfl) (Or.inr rfl) ?_
  refine gs0 2 [(0, .inr (.inr (some 1))), (1, .inr (.inr (some s))), (2, .inr (.inr (some kb))), (3, .inl x3), (4, .inl x4)] [.inr (.inr (some 1)), .inr (.inr (some 1))] dM_67_1 (fun _ => rfl) (Or.inr rfl) ?_
  refine gsGetE (sg 1 4) dM_67_2 sk_1 rfl rfl rfl ?_
  refine gs0 6 [(0, .inr (.inr (some 1))), (1, .inr (.inr (some s))), (2, .inr (.inr (some kb))), (3, .inl x3), (4, .inl x4)] [.inl 1, .inl (sg 1 4), .inr (.inr (some 1))] dM_67_5 (fun _ => rfl) (Or.inr rfl) ?_
  refine gs0 7 [(0, .inr (.inr (some 1))), (1, .inr (.inr (some s))), (2, .inr (.inr (some kb))), (3, .inl x3), (4, .inl x4)] [.inl ((sg 1 4) + 1), .inr (.inr (some 1))] dM_67_6 (fun _ => rfl) (Or.inr rfl) ?_
  refine gsPut dM_67_7 sk_1 rfl rfl rfl (by decide) ?_
  refine gs0 11 [(0, .inr (.inr (some 1))), (1, .inr (.inr (some s))), (2, .inr (.inr (some kb))), (3, .inl x3), (4, .inl x4)] [.inr (.inr (some 1))] dM_67_10 (fun _ => rfl) (Or.inr rfl) ?_
  refine gsGetR (some 3) dM_67_11 sk_1 rfl rfl ?_
  refine gs0 15 [(0, .inr (.inr (some 1))), (1, .inr (.inr (some s))), (2, .inr (.inr (some kb))), (3, .inl x3), (4, .inl x4)] [.inl 0, .inr (.inr (some 3))] dM_67_14 (fun _ => rfl) (Or.inr rfl) ?_
  refine gs0 17 [(0, .inr (.inr (some 1))), (1, .inr (.inr (some s))), (2, .inr (.inr (some kb))), (3, .inl x3), (4, .inl x4)] [.inl x4, .inl 0, .inr (.inr (some 3))] dM_67_15 (fun _ => rfl) (Or.inr rfl) ?_
  refine gsIastN 0 dM_67_17 sk_3 rfl rfl ?_
  refine gs0 19 [(0, .inr (.inr (some 1))), (1, .inr (.inr (some s))), (2, .inr (.inr (some kb))), (3, .inl x3), (4, .inl x4)] [.inl 1] dM_67_18 (fun _ => rfl) (Or.inr rfl) ?_
  refine gs0 21 [(5, .inl 1), (0, .inr (.inr (some 1))), (1, .inr (.inr (some s))), (2, .inr (.inr (some kb))), (3, .inl x3), (4, .inl x4)] [] dM_67_19 (fun _ => rfl) (Or.inr rfl) ?_
  refine gs0 22 [(5, .inl 1), (0, .inr (.inr (some 1))), (1, .inr (.inr (some s))), (2, .inr (.inr (some kb))), (3, .inl x3), (4, .inl x4)] [.inl 0] dM_67_21 (fun _ => rfl) (Or.inr rfl) ?_
  refine gs0 24 [(6, .inl 0), (5, .inl 1), (0, .inr (.inr (some 1))), (1, .inr (.inr (some s))), (2, .inr (.inr (some kb))), (3, .inl x3), (4, .inl x4)] [] dM_67_22 (fun _ => rfl) (Or.inr rfl) ?_
  exact GoS.sub (Lnd_keys (ks := [0, 1, 2, 3, 5, 6]) rfl (by decide)) (Lsub_cons rfl (Lsub_cons rfl (Lsub_cons rfl (Lsub_cons rfl (Lsub_cons rfl (Lsub_cons rfl Lsub_nil)))))) h
set_option maxRecDepth 100000 in
/-- GoalsInAQueue$Unifier.binds -/
theorem w_68 (sg : rSg) (kb nb : Nat) (hkb : isArr kb nb) (x2 : Int32) (x3 : Int32) {P : Option rv → rSg → Prop} (h :
    (x2 < 0 → 
      P (some (.inl 0)) sg) ∧
    (¬ (x2 < 0) → 
      ((Int32.ofNat nb) ≤ x2 → 
        P (some (.inl 0)) sg) ∧
      (¬ ((Int32.ofNat nb) ≤ x2) → 
        ((sg 1 6) < 0 → 
          P (some (.inl 0)) sg) ∧
        (¬ ((sg 1 6) < 0) → 
          ((sg 1 6) < (Int32.ofNat 128) → 
            (rIn x2 nb = true ∧
            rIn (sg 1 6) 128 = true ∧
            P (some (.inl 1)) (up2 (up2 (up2 sg kb x2.toNatClampNeg x3) 4 ((sg 1 6).toNatClampNeg) x2) 1 6 ((sg 1 6) + 1)))) ∧
          (¬ ((sg 1 6) < (Int32.ofNat 128)) → 
            P (some (.inl 0)) sg))))) : EvS rSkel 1 68 [.inr (.inr (some 1)), .inr (.inr (some kb)), .inl x2, .inl x3] sg P := by
  refine EvS.of (ini := false) rfl ⟨rfl, Nat.le_of_ble_eq_true rfl⟩ rfl ?_
  show GoS rSkel 0 7 4 (some .boolean) false prog_9_method_5_code 0 [(0, .inr (.inr (some 1))), (1, .inr (.inr (some kb))), (2, .inl x2), (3, .inl x3)] [] sg _
  have b_kb := hkb.1
  refine gs0 1 [(0, .inr (.inr (some 1))), (1, .inr (.inr (some kb))), (2, .inl x2), (3, .inl x3)] [.inl x2] dM_68_0 (fun _ => rfl) (Or.inr rfl) ?_
  refine gsIf (t := 29) (C := x2 < 0) (r := []) dM_68_1 (fun _ => rfl) (Or.inr rfl) (rTest_iff .lt x2 0) (fun c1 => ?_) (fun c1 => ?_)
  · replace h := h.1 c1
    refine gs0 30 [(0, .inr (.inr (some 1))), (1, .inr (.inr (some kb))), (2, .inl x2), (3, .inl x3)] [.inl 0] dM_68_29 (fun _ => rfl) (Or.inr rfl) ?_
    refine gsRet (r := some (.inl 0)) dM_68_30 (fun _ => rfl) (Or.inr rfl) ?_
    exact h
  · replace h := h.2 c1
    refine gs0 5 [(0, .inr (.inr (some 1))), (1, .inr (.inr (some kb))), (2, .inl x2), (3, .inl x3)] [.inl x2] dM_68_4 (fun _ => rfl) (Or.inr rfl) ?_
    refine gs0 6 [(0, .inr (.inr (some 1))), (1, .inr (.inr (some kb))), (2, .inl x2), (3, .inl x3)] [.inr (.inr (some kb)), .inl x2] dM_68_5 (fun _ => rfl) (Or.inr rfl) ?_
    refine gsAlen dM_68_6 hkb.2 ?_
    refine gsIf (t := 29) (C := (Int32.ofNat nb) ≤ x2) (r := []) dM_68_7 (fun _ => rfl) (Or.inr rfl) (rTest_iff .ge x2 (Int32.ofNat nb)) (fun c2 => ?_) (fun c2 => ?_)
    · replace h := h.1 c2
      refine gs0 30 [(0, .inr (.inr (some 1))), (1, .inr (.inr (some kb))), (2, .inl x2), (3, .inl x3)] [.inl 0] dM_68_29 (fun _ => rfl) (Or.inr rfl) ?_
      refine gsRet (r := some (.inl 0)) dM_68_30 (fun _ => rfl) (Or.inr rfl) ?_
      exact h
    · replace h := h.2 c2
      refine gs0 11 [(0, .inr (.inr (some 1))), (1, .inr (.inr (some kb))), (2, .inl x2), (3, .inl x3)] [.inr (.inr (some 1))] dM_68_10 (fun _ => rfl) (Or.inr rfl) ?_
      refine gsGetE (sg 1 6) dM_68_11 sk_1 rfl rfl rfl ?_
      refine gsIf (t := 29) (C := (sg 1 6) < 0) (r := []) dM_68_14 (fun _ => rfl) (Or.inr rfl) (rTest_iff .lt (sg 1 6) 0) (fun c3 => ?_) (fun c3 => ?_)
      · replace h := h.1 c3
        refine gs0 30 [(0, .inr (.inr (some 1))), (1, .inr (.inr (some kb))), (2, .inl x2), (3, .inl x3)] [.inl 0] dM_68_29 (fun _ => rfl) (Or.inr rfl) ?_
        refine gsRet (r := some (.inl 0)) dM_68_30 (fun _ => rfl) (Or.inr rfl) ?_
        exact h
      · replace h := h.2 c3
        refine gs0 18 [(0, .inr (.inr (some 1))), (1, .inr (.inr (some kb))), (2, .inl x2), (3, .inl x3)] [.inr (.inr (some 1))] dM_68_17 (fun _ => rfl) (Or.inr rfl) ?_
        refine gsGetE (sg 1 6) dM_68_18 sk_1 rfl rfl rfl ?_
        refine gs0 22 [(0, .inr (.inr (some 1))), (1, .inr (.inr (some kb))), (2, .inl x2), (3, .inl x3)] [.inr (.inr (some 1)), .inl (sg 1 6)] dM_68_21 (fun _ => rfl) (Or.inr rfl) ?_
        refine gsGetR (some 4) dM_68_22 sk_1 rfl rfl ?_
        refine gsAlen dM_68_25 sk_4 ?_
        refine gsIf (t := 31) (C := (sg 1 6) < (Int32.ofNat 128)) (r := []) dM_68_26 (fun _ => rfl) (Or.inr rfl) (rTest_iff .lt (sg 1 6) (Int32.ofNat 128)) (fun c4 => ?_) (fun c4 => ?_)
        · replace h := h.1 c4
          refine gs0 32 [(0, .inr (.inr (some 1))), (1, .inr (.inr (some kb))), (2, .inl x2), (3, .inl x3)] [.inr (.inr (some kb))] dM_68_31 (fun _ => rfl) (Or.inr rfl) ?_
          refine gs0 33 [(0, .inr (.inr (some 1))), (1, .inr (.inr (some kb))), (2, .inl x2), (3, .inl x3)] [.inl x2, .inr (.inr (some kb))] dM_68_32 (fun _ => rfl) (Or.inr rfl) ?_
          refine gs0 34 [(0, .inr (.inr (some 1))), (1, .inr (.inr (some kb))), (2, .inl x2), (3, .inl x3)] [.inl x3, .inl x2, .inr (.inr (some kb))] dM_68_33 (fun _ => rfl) (Or.inr rfl) ?_
          refine gsIastN x2.toNatClampNeg dM_68_34 hkb.2 h.1 rfl ?_
          replace h := h.2
          refine gs0 36 [(0, .inr (.inr (some 1))), (1, .inr (.inr (some kb))), (2, .inl x2), (3, .inl x3)] [.inr (.inr (some 1))] dM_68_35 (fun _ => rfl) (Or.inr rfl) ?_
          refine gsGetR (some 4) dM_68_36 sk_1 rfl rfl ?_
          refine gs0 40 [(0, .inr (.inr (some 1))), (1, .inr (.inr (some kb))), (2, .inl x2), (3, .inl x3)] [.inr (.inr (some 1)), .inr (.inr (some 4))] dM_68_39 (fun _ => rfl) (Or.inr rfl) ?_
          refine gsGetE (sg 1 6) dM_68_40 sk_1 rfl rfl (congrFun (up2_nk _ _ _ (by omega)) _) ?_
          refine gs0 44 [(0, .inr (.inr (some 1))), (1, .inr (.inr (some kb))), (2, .inl x2), (3, .inl x3)] [.inl x2, .inl (sg 1 6), .inr (.inr (some 4))] dM_68_43 (fun _ => rfl) (Or.inr rfl) ?_
          refine gsIastN ((sg 1 6).toNatClampNeg) dM_68_44 sk_4 h.1 rfl ?_
          replace h := h.2
          refine gs0 46 [(0, .inr (.inr (some 1))), (1, .inr (.inr (some kb))), (2, .inl x2), (3, .inl x3)] [.inr (.inr (some 1))] dM_68_45 (fun _ => rfl) (Or.inr rfl) ?_
          refine gs0 47 [(0, .inr (.inr (some 1))), (1, .inr (.inr (some kb))), (2, .inl x2), (3, .inl x3)] [.inr (.inr (some 1)), .inr (.inr (some 1))] dM_68_46 (fun _ => rfl) (Or.inr rfl) ?_
          refine gsGetE (sg 1 6) dM_68_47 sk_1 rfl rfl ((congrFun (up2_nk _ _ _ (by decide)) _).trans (congrFun (up2_nk _ _ _ (by omega)) _)) ?_
          refine gs0 51 [(0, .inr (.inr (some 1))), (1, .inr (.inr (some kb))), (2, .inl x2), (3, .inl x3)] [.inl 1, .inl (sg 1 6), .inr (.inr (some 1))] dM_68_50 (fun _ => rfl) (Or.inr rfl) ?_
          refine gs0 52 [(0, .inr (.inr (some 1))), (1, .inr (.inr (some kb))), (2, .inl x2), (3, .inl x3)] [.inl ((sg 1 6) + 1), .inr (.inr (some 1))] dM_68_51 (fun _ => rfl) (Or.inr rfl) ?_
          refine gsPut dM_68_52 sk_1 rfl rfl rfl (by decide) ?_
          refine gs0 56 [(0, .inr (.inr (some 1))), (1, .inr (.inr (some kb))), (2, .inl x2), (3, .inl x3)] [.inl 1] dM_68_55 (fun _ => rfl) (Or.inr rfl) ?_
          refine gsRet (r := some (.inl 1)) dM_68_56 (fun _ => rfl) (Or.inr rfl) ?_
          exact h
        · replace h := h.2 c4
          refine gs0 30 [(0, .inr (.inr (some 1))), (1, .inr (.inr (some kb))), (2, .inl x2), (3, .inl x3)] [.inl 0] dM_68_29 (fun _ => rfl) (Or.inr rfl) ?_
          refine gsRet (r := some (.inl 0)) dM_68_30 (fun _ => rfl) (Or.inr rfl) ?_
          exact h
def g_69_2 (kb : Nat) (nb : Nat) (y2 : Int32) (sg : rSg) (P : Option rv → rSg → Prop) : Prop := GoS rSkel 0 7 4 none false prog_9_method_3_code 2 [(0, .inr (.inr (some 1))), (1, .inr (.inr (some kb))), (2, .inl y2)] [] sg P
set_option maxRecDepth 100000 in
theorem w_69_2 (sg : rSg) (kb nb : Nat) (hkb : isArr kb nb) (y2 : Int32) {P : Option rv → rSg → Prop} (h :
    ((sg 1 6) ≤ y2 → 
      P none (up2 sg 1 6 0)) ∧
    (¬ ((sg 1 6) ≤ y2) → 
      ((Int32.ofNat 128) ≤ y2 → 
        P none (up2 sg 1 6 0)) ∧
      (¬ ((Int32.ofNat 128) ≤ y2) → 
        (rIn y2 128 = true ∧
        ((sg 4 y2.toNatClampNeg) < 0 → 
          g_69_2 kb nb (y2 + 1) sg P) ∧
        (¬ ((sg 4 y2.toNatClampNeg) < 0) → 
          ((Int32.ofNat nb) ≤ (sg 4 y2.toNatClampNeg) → 
            g_69_2 kb nb (y2 + 1) sg P) ∧
          (¬ ((Int32.ofNat nb) ≤ (sg 4 y2.toNatClampNeg)) → 
            (rIn (sg 4 y2.toNatClampNeg) nb = true ∧
            g_69_2 kb nb (y2 + 1) (up2 sg kb ((sg 4 y2.toNatClampNeg).toNatClampNeg) ((-1))) P))))))) : g_69_2 kb nb y2 sg P := by
  show GoS rSkel 0 7 4 none false prog_9_method_3_code 2 [(0, .inr (.inr (some 1))), (1, .inr (.inr (some kb))), (2, .inl y2)] [] sg P
  have b_kb := hkb.1
  refine gs0 3 [(0, .inr (.inr (some 1))), (1, .inr (.inr (some kb))), (2, .inl y2)] [.inl y2] dM_69_2 (fun _ => rfl) (Or.inr rfl) ?_
  refine gs0 4 [(0, .inr (.inr (some 1))), (1, .inr (.inr (some kb))), (2, .inl y2)] [.inr (.inr (some 1)), .inl y2] dM_69_3 (fun _ => rfl) (Or.inr rfl) ?_
  refine gsGetE (sg 1 6) dM_69_4 sk_1 rfl rfl rfl ?_
  refine gsIf (t := 46) (C := (sg 1 6) ≤ y2) (r := []) dM_69_7 (fun _ => rfl) (Or.inr rfl) (rTest_iff .ge y2 (sg 1 6)) (fun c1 => ?_) (fun c1 => ?_)
  · replace h := h.1 c1
    refine gs0 47 [(0, .inr (.inr (some 1))), (1, .inr (.inr (some kb))), (2, .inl y2)] [.inr (.inr (some 1))] dM_69_46 (fun _ => rfl) (Or.inr rfl) ?_
    refine gs0 48 [(0, .inr (.inr (some 1))), (1, .inr (.inr (some kb))), (2, .inl y2)] [.inl 0, .inr (.inr (some 1))] dM_69_47 (fun _ => rfl) (Or.inr rfl) ?_
    refine gsPut dM_69_48 sk_1 rfl rfl rfl (by decide) ?_
    refine gsRet (r := none) dM_69_51 (fun _ => rfl) (Or.inr rfl) ?_
    exact h
  · replace h := h.2 c1
    refine gs0 11 [(0, .inr (.inr (some 1))), (1, .inr (.inr (some kb))), (2, .inl y2)] [.inl y2] dM_69_10 (fun _ => rfl) (Or.inr rfl) ?_
    refine gs0 12 [(0, .inr (.inr (some 1))), (1, .inr (.inr (some kb))), (2, .inl y2)] [.inr (.inr (some 1)), .inl y2] dM_69_11 (fun _ => rfl) (Or.inr rfl) ?_
    refine gsGetR (some 4) dM_69_12 sk_1 rfl rfl ?_
    refine gsAlen dM_69_15 sk_4 ?_
    refine gsIf (t := 46) (C := (Int32.ofNat 128) ≤ y2) (r := []) dM_69_16 (fun _ => rfl) (Or.inr rfl) (rTest_iff .ge y2 (Int32.ofNat 128)) (fun c2 => ?_) (fun c2 => ?_)
    · replace h := h.1 c2
      refine gs0 47 [(0, .inr (.inr (some 1))), (1, .inr (.inr (some kb))), (2, .inl y2)] [.inr (.inr (some 1))] dM_69_46 (fun _ => rfl) (Or.inr rfl) ?_
      refine gs0 48 [(0, .inr (.inr (some 1))), (1, .inr (.inr (some kb))), (2, .inl y2)] [.inl 0, .inr (.inr (some 1))] dM_69_47 (fun _ => rfl) (Or.inr rfl) ?_
      refine gsPut dM_69_48 sk_1 rfl rfl rfl (by decide) ?_
      refine gsRet (r := none) dM_69_51 (fun _ => rfl) (Or.inr rfl) ?_
      exact h
    · replace h := h.2 c2
      refine gs0 20 [(0, .inr (.inr (some 1))), (1, .inr (.inr (some kb))), (2, .inl y2)] [.inr (.inr (some 1))] dM_69_19 (fun _ => rfl) (Or.inr rfl) ?_
      refine gsGetR (some 4) dM_69_20 sk_1 rfl rfl ?_
      refine gs0 24 [(0, .inr (.inr (some 1))), (1, .inr (.inr (some kb))), (2, .inl y2)] [.inl y2, .inr (.inr (some 4))] dM_69_23 (fun _ => rfl) (Or.inr rfl) ?_
      refine gsIaldN y2.toNatClampNeg (sg 4 y2.toNatClampNeg) dM_69_24 sk_4 h.1 rfl rfl ?_
      replace h := h.2
      refine gs0 26 [(3, .inl (sg 4 y2.toNatClampNeg)), (0, .inr (.inr (some 1))), (1, .inr (.inr (some kb))), (2, .inl y2)] [] dM_69_25 (fun _ => rfl) (Or.inr rfl) ?_
      refine gs0 27 [(3, .inl (sg 4 y2.toNatClampNeg)), (0, .inr (.inr (some 1))), (1, .inr (.inr (some kb))), (2, .inl y2)] [.inl (sg 4 y2.toNatClampNeg)] dM_69_26 (fun _ => rfl) (Or.inr rfl) ?_
      refine gsIf (t := 40) (C := (sg 4 y2.toNatClampNeg) < 0) (r := []) dM_69_27 (fun _ => rfl) (Or.inr rfl) (rTest_iff .lt (sg 4 y2.toNatClampNeg) 0) (fun c3 => ?_) (fun c3 => ?_)
      · replace h := h.1 c3
        refine gs0 43 [(2, .inl (y2 + 1)), (3, .inl (sg 4 y2.toNatClampNeg)), (0, .inr (.inr (some 1))), (1, .inr (.inr (some kb)))] [] dM_69_40 (fun _ => rfl) (Or.inr rfl) ?_
        refine gs0 2 [(2, .inl (y2 + 1)), (3, .inl (sg 4 y2.toNatClampNeg)), (0, .inr (.inr (some 1))), (1, .inr (.inr (some kb)))] [] dM_69_43 (fun _ => rfl) (Or.inr rfl) ?_
        exact GoS.sub (Lnd_keys (ks := [0, 1, 2]) rfl (by decide)) (Lsub_cons rfl (Lsub_cons rfl (Lsub_cons rfl Lsub_nil))) h
      · replace h := h.2 c3
        refine gs0 31 [(3, .inl (sg 4 y2.toNatClampNeg)), (0, .inr (.inr (some 1))), (1, .inr (.inr (some kb))), (2, .inl y2)] [.inl (sg 4 y2.toNatClampNeg)] dM_69_30 (fun _ => rfl) (Or.inr rfl) ?_
        refine gs0 32 [(3, .inl (sg 4 y2.toNatClampNeg)), (0, .inr (.inr (some 1))), (1, .inr (.inr (some kb))), (2, .inl y2)] [.inr (.inr (some kb)), .inl (sg 4 y2.toNatClampNeg)] dM_69_31 (fun _ => rfl) (Or.inr rfl) ?_
        refine gsAlen dM_69_32 hkb.2 ?_
        refine gsIf (t := 40) (C := (Int32.ofNat nb) ≤ (sg 4 y2.toNatClampNeg)) (r := []) dM_69_33 (fun _ => rfl) (Or.inr rfl) (rTest_iff .ge (sg 4 y2.toNatClampNeg) (Int32.ofNat nb)) (fun c4 => ?_) (fun c4 => ?_)
        · replace h := h.1 c4
          refine gs0 43 [(2, .inl (y2 + 1)), (3, .inl (sg 4 y2.toNatClampNeg)), (0, .inr (.inr (some 1))), (1, .inr (.inr (some kb)))] [] dM_69_40 (fun _ => rfl) (Or.inr rfl) ?_
          refine gs0 2 [(2, .inl (y2 + 1)), (3, .inl (sg 4 y2.toNatClampNeg)), (0, .inr (.inr (some 1))), (1, .inr (.inr (some kb)))] [] dM_69_43 (fun _ => rfl) (Or.inr rfl) ?_
          exact GoS.sub (Lnd_keys (ks := [0, 1, 2]) rfl (by decide)) (Lsub_cons rfl (Lsub_cons rfl (Lsub_cons rfl Lsub_nil))) h
        · replace h := h.2 c4
          refine gs0 37 [(3, .inl (sg 4 y2.toNatClampNeg)), (0, .inr (.inr (some 1))), (1, .inr (.inr (some kb))), (2, .inl y2)] [.inr (.inr (some kb))] dM_69_36 (fun _ => rfl) (Or.inr rfl) ?_
          refine gs0 38 [(3, .inl (sg 4 y2.toNatClampNeg)), (0, .inr (.inr (some 1))), (1, .inr (.inr (some kb))), (2, .inl y2)] [.inl (sg 4 y2.toNatClampNeg), .inr (.inr (some kb))] dM_69_37 (fun _ => rfl) (Or.inr rfl) ?_
          refine gs0 39 [(3, .inl (sg 4 y2.toNatClampNeg)), (0, .inr (.inr (some 1))), (1, .inr (.inr (some kb))), (2, .inl y2)] [.inl ((-1)), .inl (sg 4 y2.toNatClampNeg), .inr (.inr (some kb))] dM_69_38 (fun _ => rfl) (Or.inr rfl) ?_
          refine gsIastN ((sg 4 y2.toNatClampNeg).toNatClampNeg) dM_69_39 hkb.2 h.1 rfl ?_
          replace h := h.2
          refine gs0 43 [(2, .inl (y2 + 1)), (3, .inl (sg 4 y2.toNatClampNeg)), (0, .inr (.inr (some 1))), (1, .inr (.inr (some kb)))] [] dM_69_40 (fun _ => rfl) (Or.inr rfl) ?_
          refine gs0 2 [(2, .inl (y2 + 1)), (3, .inl (sg 4 y2.toNatClampNeg)), (0, .inr (.inr (some 1))), (1, .inr (.inr (some kb)))] [] dM_69_43 (fun _ => rfl) (Or.inr rfl) ?_
          exact GoS.sub (Lnd_keys (ks := [0, 1, 2]) rfl (by decide)) (Lsub_cons rfl (Lsub_cons rfl (Lsub_cons rfl Lsub_nil))) h
set_option maxRecDepth 100000 in
/-- GoalsInAQueue$Unifier.undo -/
theorem w_69 (sg : rSg) (kb nb : Nat) (hkb : isArr kb nb) {P : Option rv → rSg → Prop} (h :
    g_69_2 kb nb 0 sg P) : EvS rSkel 1 69 [.inr (.inr (some 1)), .inr (.inr (some kb))] sg P := by
  refine EvS.of (ini := false) rfl ⟨rfl, Nat.le_of_ble_eq_true rfl⟩ rfl ?_
  show GoS rSkel 0 7 4 none false prog_9_method_3_code 0 [(0, .inr (.inr (some 1))), (1, .inr (.inr (some kb)))] [] sg _
  have b_kb := hkb.1
  refine gs0 1 [(0, .inr (.inr (some 1))), (1, .inr (.inr (some kb)))] [.inl 0] dM_69_0 (fun _ => rfl) (Or.inr rfl) ?_
  refine gs0 2 [(2, .inl 0), (0, .inr (.inr (some 1))), (1, .inr (.inr (some kb)))] [] dM_69_1 (fun _ => rfl) (Or.inr rfl) ?_
  exact GoS.sub (Lnd_keys (ks := [0, 1, 2]) rfl (by decide)) (Lsub_cons rfl (Lsub_cons rfl (Lsub_cons rfl Lsub_nil))) h
set_option maxRecDepth 100000 in
/-- GoalsInAQueue.letter -/
theorem w_71 (sg : rSg) (x1 : Int32) {P : Option rv → rSg → Prop} (h :
    (0 ≤ x1 → 
      (255 < x1 → 
        EvS rSkel 1 72 [.inr (.inr (some 0)), .inl ((-6))] sg (fun v3 t4 => ∃ n6, v3 = some (.inl n6) ∧
          P (some (.inl n6)) t4)) ∧
      (¬ (255 < x1) → 
        EvS rSkel 1 14 [.inr (.inr (some 687))] sg (fun v7 t8 => ∃ n10, v7 = some (.inl n10) ∧
          (n10 = 0 → 
            EvS rSkel 1 15 [.inr (.inr (some 687)), .inl x1] t8 (fun v12 t13 => ∃ n15, v12 = some (.inl n15) ∧
              P (some (.inl n15)) t13)) ∧
          (¬ (n10 = 0) → 
            EvS rSkel 1 72 [.inr (.inr (some 0)), .inl ((-6))] t8 (fun v16 t17 => ∃ n19, v16 = some (.inl n19) ∧
              P (some (.inl n19)) t17))))) ∧
    (¬ (0 ≤ x1) → 
      EvS rSkel 1 72 [.inr (.inr (some 0)), .inl ((-4))] sg (fun v20 t21 => ∃ n23, v20 = some (.inl n23) ∧
        P (some (.inl n23)) t21))) : EvS rSkel 2 71 [.inr (.inr (some 0)), .inl x1] sg P := by
  refine EvS.of (ini := false) rfl ⟨rfl, Nat.le_of_ble_eq_true rfl⟩ rfl ?_
  show GoS rSkel 1 8 2 (some .int) false prog_1_method_2_code 0 [(0, .inr (.inr (some 0))), (1, .inl x1)] [] sg _
  refine gs0 1 [(0, .inr (.inr (some 0))), (1, .inl x1)] [.inl x1] dM_71_0 (fun _ => rfl) (Or.inr rfl) ?_
  refine gsIf (t := 11) (C := 0 ≤ x1) (r := []) dM_71_1 (fun _ => rfl) (Or.inr rfl) (rTest_iff .ge x1 0) (fun c1 => ?_) (fun c1 => ?_)
  · replace h := h.1 c1
    refine gs0 12 [(0, .inr (.inr (some 0))), (1, .inl x1)] [.inl x1] dM_71_11 (fun _ => rfl) (Or.inr rfl) ?_
    refine gs0 15 [(0, .inr (.inr (some 0))), (1, .inl x1)] [.inl 255, .inl x1] dM_71_12 (fun _ => rfl) (Or.inr rfl) ?_
    refine gsIf (t := 28) (C := 255 < x1) (r := []) dM_71_15 (fun _ => rfl) (Or.inr rfl) (rTest_iff .gt x1 255) (fun c2 => ?_) (fun c2 => ?_)
    · replace h := h.1 c2
      refine gs0 29 [(0, .inr (.inr (some 0))), (1, .inl x1)] [.inr (.inr (some 0))] dM_71_28 (fun _ => rfl) (Or.inr rfl) ?_
      refine gs0 31 [(0, .inr (.inr (some 0))), (1, .inl x1)] [.inl ((-6)), .inr (.inr (some 0))] dM_71_29 (fun _ => rfl) (Or.inr rfl) ?_
      refine gsCallV (y := 72) (k := 0) (as := [.inr (.inr (some 0)), .inl ((-6))]) (r := []) dM_71_31 rfl rfl rfl (Nat.le_of_ble_eq_true rfl) sk_0 rfl (Nat.le_of_ble_eq_true rfl) (EvS.up h (Nat.le_of_ble_eq_true rfl)) (fun v3 t4 hv5 => ?_)
      obtain ⟨n6, rfl, hn⟩ := hv5
      clear h
      show GoS _ _ _ _ _ _ _ _ [(0, .inr (.inr (some 0))), (1, .inl x1)] [.inl n6] t4 _
      refine gsRet (r := some (.inl n6)) dM_71_34 (fun _ => rfl) (Or.inr rfl) ?_
      exact hn
    · replace h := h.2 c2
      refine gs0 19 [(0, .inr (.inr (some 0))), (1, .inl x1)] [.inr (.inr (some 0))] dM_71_18 (fun _ => rfl) (Or.inr rfl) ?_
      refine gsGetR (some 687) dM_71_19 sk_0 rfl rfl ?_
      refine gsCallV (y := 14) (k := 687) (as := [.inr (.inr (some 687))]) (r := []) dM_71_22 rfl rfl rfl (Nat.le_of_ble_eq_true rfl) sk_687 rfl (Nat.le_of_ble_eq_true rfl) (EvS.up h (Nat.le_of_ble_eq_true rfl)) (fun v7 t8 hv9 => ?_)
      obtain ⟨n10, rfl, hn⟩ := hv9
      clear h
      show GoS _ _ _ _ _ _ _ _ [(0, .inr (.inr (some 0))), (1, .inl x1)] [.inl n10] t8 _
      refine gsIf (t := 35) (C := n10 = 0) (r := []) dM_71_25 (fun _ => rfl) (Or.inr rfl) (rTest_iff .eq n10 0) (fun c11 => ?_) (fun c11 => ?_)
      · replace hn := hn.1 c11
        refine gs0 36 [(0, .inr (.inr (some 0))), (1, .inl x1)] [.inr (.inr (some 0))] dM_71_35 (fun _ => rfl) (Or.inr rfl) ?_
        refine gsGetR (some 687) dM_71_36 sk_0 rfl rfl ?_
        refine gs0 40 [(0, .inr (.inr (some 0))), (1, .inl x1)] [.inl x1, .inr (.inr (some 687))] dM_71_39 (fun _ => rfl) (Or.inr rfl) ?_
        refine gsCallV (y := 15) (k := 687) (as := [.inr (.inr (some 687)), .inl x1]) (r := []) dM_71_40 rfl rfl rfl (Nat.le_of_ble_eq_true rfl) sk_687 rfl (Nat.le_of_ble_eq_true rfl) (EvS.up hn (Nat.le_of_ble_eq_true rfl)) (fun v12 t13 hv14 => ?_)
        obtain ⟨n15, rfl, hnn⟩ := hv14
        clear hn
        show GoS _ _ _ _ _ _ _ _ [(0, .inr (.inr (some 0))), (1, .inl x1)] [.inl n15] t13 _
        refine gsRet (r := some (.inl n15)) dM_71_43 (fun _ => rfl) (Or.inr rfl) ?_
        exact hnn
      · replace hn := hn.2 c11
        refine gs0 29 [(0, .inr (.inr (some 0))), (1, .inl x1)] [.inr (.inr (some 0))] dM_71_28 (fun _ => rfl) (Or.inr rfl) ?_
        refine gs0 31 [(0, .inr (.inr (some 0))), (1, .inl x1)] [.inl ((-6)), .inr (.inr (some 0))] dM_71_29 (fun _ => rfl) (Or.inr rfl) ?_
        refine gsCallV (y := 72) (k := 0) (as := [.inr (.inr (some 0)), .inl ((-6))]) (r := []) dM_71_31 rfl rfl rfl (Nat.le_of_ble_eq_true rfl) sk_0 rfl (Nat.le_of_ble_eq_true rfl) (EvS.up hn (Nat.le_of_ble_eq_true rfl)) (fun v16 t17 hv18 => ?_)
        obtain ⟨n19, rfl, hnn⟩ := hv18
        clear hn
        show GoS _ _ _ _ _ _ _ _ [(0, .inr (.inr (some 0))), (1, .inl x1)] [.inl n19] t17 _
        refine gsRet (r := some (.inl n19)) dM_71_34 (fun _ => rfl) (Or.inr rfl) ?_
        exact hnn
  · replace h := h.2 c1
    refine gs0 5 [(0, .inr (.inr (some 0))), (1, .inl x1)] [.inr (.inr (some 0))] dM_71_4 (fun _ => rfl) (Or.inr rfl) ?_
    refine gs0 7 [(0, .inr (.inr (some 0))), (1, .inl x1)] [.inl ((-4)), .inr (.inr (some 0))] dM_71_5 (fun _ => rfl) (Or.inr rfl) ?_
    refine gsCallV (y := 72) (k := 0) (as := [.inr (.inr (some 0)), .inl ((-4))]) (r := []) dM_71_7 rfl rfl rfl (Nat.le_of_ble_eq_true rfl) sk_0 rfl (Nat.le_of_ble_eq_true rfl) (EvS.up h (Nat.le_of_ble_eq_true rfl)) (fun v20 t21 hv22 => ?_)
    obtain ⟨n23, rfl, hn⟩ := hv22
    clear h
    show GoS _ _ _ _ _ _ _ _ [(0, .inr (.inr (some 0))), (1, .inl x1)] [.inl n23] t21 _
    refine gsRet (r := some (.inl n23)) dM_71_10 (fun _ => rfl) (Or.inr rfl) ?_
    exact hn
set_option maxRecDepth 100000 in
/-- GoalsInAQueue.refuse -/
theorem w_72 (sg : rSg) (x1 : Int32) {P : Option rv → rSg → Prop} (h :
    ((-x1) < 0 → 
      P (some (.inl x1)) sg) ∧
    (¬ ((-x1) < 0) → 
      ((Int32.ofNat 7) ≤ (-x1) → 
        P (some (.inl x1)) sg) ∧
      (¬ ((Int32.ofNat 7) ≤ (-x1)) → 
        (rIn (-x1) 7 = true ∧
        rIn (-x1) 7 = true ∧
        P (some (.inl x1)) (up2 sg 691 ((-x1).toNatClampNeg) ((sg 691 ((-x1).toNatClampNeg)) + 1)))))) : EvS rSkel 1 72 [.inr (.inr (some 0)), .inl x1] sg P := by
  refine EvS.of (ini := false) rfl ⟨rfl, Nat.le_of_ble_eq_true rfl⟩ rfl ?_
  show GoS rSkel 0 8 3 (some .int) false prog_1_method_28_code 0 [(0, .inr (.inr (some 0))), (1, .inl x1)] [] sg _
  refine gs0 1 [(0, .inr (.inr (some 0))), (1, .inl x1)] [.inl x1] dM_72_0 (fun _ => rfl) (Or.inr rfl) ?_
  refine gs0 2 [(0, .inr (.inr (some 0))), (1, .inl x1)] [.inl (-x1)] dM_72_1 (fun _ => rfl) (Or.inr rfl) ?_
  refine gs0 3 [(2, .inl (-x1)), (0, .inr (.inr (some 0))), (1, .inl x1)] [] dM_72_2 (fun _ => rfl) (Or.inr rfl) ?_
  refine gs0 4 [(2, .inl (-x1)), (0, .inr (.inr (some 0))), (1, .inl x1)] [.inl (-x1)] dM_72_3 (fun _ => rfl) (Or.inr rfl) ?_
  refine gsIf (t := 26) (C := (-x1) < 0) (r := []) dM_72_4 (fun _ => rfl) (Or.inr rfl) (rTest_iff .lt (-x1) 0) (fun c1 => ?_) (fun c1 => ?_)
  · replace h := h.1 c1
    refine gs0 27 [(2, .inl (-x1)), (0, .inr (.inr (some 0))), (1, .inl x1)] [.inl x1] dM_72_26 (fun _ => rfl) (Or.inr rfl) ?_
    refine gsRet (r := some (.inl x1)) dM_72_27 (fun _ => rfl) (Or.inr rfl) ?_
    exact h
  · replace h := h.2 c1
    refine gs0 8 [(2, .inl (-x1)), (0, .inr (.inr (some 0))), (1, .inl x1)] [.inl (-x1)] dM_72_7 (fun _ => rfl) (Or.inr rfl) ?_
    refine gs0 9 [(2, .inl (-x1)), (0, .inr (.inr (some 0))), (1, .inl x1)] [.inr (.inr (some 0)), .inl (-x1)] dM_72_8 (fun _ => rfl) (Or.inr rfl) ?_
    refine gsGetR (some 691) dM_72_9 sk_0 rfl rfl ?_
    refine gsAlen dM_72_12 sk_691 ?_
    refine gsIf (t := 26) (C := (Int32.ofNat 7) ≤ (-x1)) (r := []) dM_72_13 (fun _ => rfl) (Or.inr rfl) (rTest_iff .ge (-x1) (Int32.ofNat 7)) (fun c2 => ?_) (fun c2 => ?_)
    · replace h := h.1 c2
      refine gs0 27 [(2, .inl (-x1)), (0, .inr (.inr (some 0))), (1, .inl x1)] [.inl x1] dM_72_26 (fun _ => rfl) (Or.inr rfl) ?_
      refine gsRet (r := some (.inl x1)) dM_72_27 (fun _ => rfl) (Or.inr rfl) ?_
      exact h
    · replace h := h.2 c2
      refine gs0 17 [(2, .inl (-x1)), (0, .inr (.inr (some 0))), (1, .inl x1)] [.inr (.inr (some 0))] dM_72_16 (fun _ => rfl) (Or.inr rfl) ?_
      refine gsGetR (some 691) dM_72_17 sk_0 rfl rfl ?_
      refine gs0 21 [(2, .inl (-x1)), (0, .inr (.inr (some 0))), (1, .inl x1)] [.inl (-x1), .inr (.inr (some 691))] dM_72_20 (fun _ => rfl) (Or.inr rfl) ?_
      refine gs0 22 [(2, .inl (-x1)), (0, .inr (.inr (some 0))), (1, .inl x1)] [.inl (-x1), .inr (.inr (some 691)), .inl (-x1), .inr (.inr (some 691))] dM_72_21 (fun _ => rfl) (Or.inr rfl) ?_
      refine gsIaldN ((-x1).toNatClampNeg) (sg 691 ((-x1).toNatClampNeg)) dM_72_22 sk_691 h.1 rfl rfl ?_
      replace h := h.2
      refine gs0 24 [(2, .inl (-x1)), (0, .inr (.inr (some 0))), (1, .inl x1)] [.inl 1, .inl (sg 691 ((-x1).toNatClampNeg)), .inl (-x1), .inr (.inr (some 691))] dM_72_23 (fun _ => rfl) (Or.inr rfl) ?_
      refine gs0 25 [(2, .inl (-x1)), (0, .inr (.inr (some 0))), (1, .inl x1)] [.inl ((sg 691 ((-x1).toNatClampNeg)) + 1), .inl (-x1), .inr (.inr (some 691))] dM_72_24 (fun _ => rfl) (Or.inr rfl) ?_
      refine gsIastN ((-x1).toNatClampNeg) dM_72_25 sk_691 h.1 rfl ?_
      replace h := h.2
      refine gs0 27 [(2, .inl (-x1)), (0, .inr (.inr (some 0))), (1, .inl x1)] [.inl x1] dM_72_26 (fun _ => rfl) (Or.inr rfl) ?_
      refine gsRet (r := some (.inl x1)) dM_72_27 (fun _ => rfl) (Or.inr rfl) ?_
      exact h
set_option maxRecDepth 100000 in
/-- GoalsInAQueue.goal -/
theorem w_73 (sg : rSg)  {P : Option rv → rSg → Prop} (h :
    EvS rSkel 4 5 [.inr (.inr (some 678)), .inr (.inr (some 687))] sg (fun v1 t2 => ∃ n4, v1 = some (.inl n4) ∧
      EvS rSkel 1 18 [.inr (.inr (some 687))] t2 (fun v5 t6 => v5 = none ∧
        (0 ≤ n4 → 
          EvS rSkel 2 26 [.inr (.inr (some 7)), .inr (.inr (some 231))] t6 (fun v9 t10 => v9 = none ∧
            EvS rSkel 3 33 [.inr (.inr (some 6))] t10 (fun v12 t13 => v12 = none ∧
              P (some (.inl n4)) t13))) ∧
        (¬ (0 ≤ n4) → 
          P (some (.inl n4)) t6)))) : EvS rSkel 5 73 [.inr (.inr (some 0))] sg P := by
  refine EvS.of (ini := false) rfl ⟨rfl, Nat.le_of_ble_eq_true rfl⟩ rfl ?_
  show GoS rSkel 4 8 2 (some .int) false prog_1_method_3_code 0 [(0, .inr (.inr (some 0)))] [] sg _
  refine gs0 1 [(0, .inr (.inr (some 0)))] [.inr (.inr (some 0))] dM_73_0 (fun _ => rfl) (Or.inr rfl) ?_
  refine gsGetR (some 678) dM_73_1 sk_0 rfl rfl ?_
  refine gs0 5 [(0, .inr (.inr (some 0)))] [.inr (.inr (some 0)), .inr (.inr (some 678))] dM_73_4 (fun _ => rfl) (Or.inr rfl) ?_
  refine gsGetR (some 687) dM_73_5 sk_0 rfl rfl ?_
  refine gsCallV (y := 5) (k := 678) (as := [.inr (.inr (some 678)), .inr (.inr (some 687))]) (r := []) dM_73_8 rfl rfl rfl (Nat.le_of_ble_eq_true rfl) sk_678 rfl (Nat.le_of_ble_eq_true rfl) (EvS.up h (Nat.le_of_ble_eq_true rfl)) (fun v1 t2 hv3 => ?_)
  obtain ⟨n4, rfl, hn⟩ := hv3
  clear h
  show GoS _ _ _ _ _ _ _ _ [(0, .inr (.inr (some 0)))] [.inl n4] t2 _
  refine gs0 12 [(1, .inl n4), (0, .inr (.inr (some 0)))] [] dM_73_11 (fun _ => rfl) (Or.inr rfl) ?_
  refine gs0 13 [(1, .inl n4), (0, .inr (.inr (some 0)))] [.inr (.inr (some 0))] dM_73_12 (fun _ => rfl) (Or.inr rfl) ?_
  refine gsGetR (some 687) dM_73_13 sk_0 rfl rfl ?_
  refine gsCallV (y := 18) (k := 687) (as := [.inr (.inr (some 687))]) (r := []) dM_73_16 rfl rfl rfl (Nat.le_of_ble_eq_true rfl) sk_687 rfl (Nat.le_of_ble_eq_true rfl) (EvS.up hn (Nat.le_of_ble_eq_true rfl)) (fun v5 t6 hv7 => ?_)
  obtain ⟨rfl, hnn⟩ := hv7
  clear hn
  show GoS _ _ _ _ _ _ _ _ [(1, .inl n4), (0, .inr (.inr (some 0)))] [] t6 _
  refine gs0 20 [(1, .inl n4), (0, .inr (.inr (some 0)))] [.inl n4] dM_73_19 (fun _ => rfl) (Or.inr rfl) ?_
  refine gsIf (t := 25) (C := 0 ≤ n4) (r := []) dM_73_20 (fun _ => rfl) (Or.inr rfl) (rTest_iff .ge n4 0) (fun c8 => ?_) (fun c8 => ?_)
  · replace hnn := hnn.1 c8
    refine gs0 26 [(1, .inl n4), (0, .inr (.inr (some 0)))] [.inr (.inr (some 0))] dM_73_25 (fun _ => rfl) (Or.inr rfl) ?_
    refine gsGetR (some 6) dM_73_26 sk_0 rfl rfl ?_
    refine gsGetR (some 7) dM_73_29 sk_6 rfl rfl ?_
    refine gs0 33 [(1, .inl n4), (0, .inr (.inr (some 0)))] [.inr (.inr (some 0)), .inr (.inr (some 7))] dM_73_32 (fun _ => rfl) (Or.inr rfl) ?_
    refine gsGetR (some 230) dM_73_33 sk_0 rfl rfl ?_
    refine gsGetR (some 231) dM_73_36 sk_230 rfl rfl ?_
    refine gsCallV (y := 26) (k := 7) (as := [.inr (.inr (some 7)), .inr (.inr (some 231))]) (r := []) dM_73_39 rfl rfl rfl (Nat.le_of_ble_eq_true rfl) sk_7 rfl (Nat.le_of_ble_eq_true rfl) (EvS.up hnn (Nat.le_of_ble_eq_true rfl)) (fun v9 t10 hv11 => ?_)
    obtain ⟨rfl, hnnn⟩ := hv11
    clear hnn
    show GoS _ _ _ _ _ _ _ _ [(1, .inl n4), (0, .inr (.inr (some 0)))] [] t10 _
    refine gs0 43 [(1, .inl n4), (0, .inr (.inr (some 0)))] [.inr (.inr (some 0))] dM_73_42 (fun _ => rfl) (Or.inr rfl) ?_
    refine gsGetR (some 6) dM_73_43 sk_0 rfl rfl ?_
    refine gsCallV (y := 33) (k := 6) (as := [.inr (.inr (some 6))]) (r := []) dM_73_46 rfl rfl rfl (Nat.le_of_ble_eq_true rfl) sk_6 rfl (Nat.le_of_ble_eq_true rfl) (EvS.up hnnn (Nat.le_of_ble_eq_true rfl)) (fun v12 t13 hv14 => ?_)
    obtain ⟨rfl, hnnnn⟩ := hv14
    clear hnnn
    show GoS _ _ _ _ _ _ _ _ [(1, .inl n4), (0, .inr (.inr (some 0)))] [] t13 _
    refine gs0 50 [(1, .inl n4), (0, .inr (.inr (some 0)))] [.inl n4] dM_73_49 (fun _ => rfl) (Or.inr rfl) ?_
    refine gsRet (r := some (.inl n4)) dM_73_50 (fun _ => rfl) (Or.inr rfl) ?_
    exact hnnnn
  · replace hnn := hnn.2 c8
    refine gs0 24 [(1, .inl n4), (0, .inr (.inr (some 0)))] [.inl n4] dM_73_23 (fun _ => rfl) (Or.inr rfl) ?_
    refine gsRet (r := some (.inl n4)) dM_73_24 (fun _ => rfl) (Or.inr rfl) ?_
    exact hnn
set_option maxRecDepth 100000 in
/-- GoalsInAQueue.isPair -/
theorem w_74 (sg : rSg) (x0 : Int32) {P : Option rv → rSg → Prop} (h :
    (x0 < 256 → 
      P (some (.inl 0)) sg) ∧
    (¬ (x0 < 256) → 
      P (some (.inl 1)) sg)) : EvS rSkel 1 74 [.inl x0] sg P := by
  refine EvS.of (ini := false) rfl ⟨rfl, Nat.le_of_ble_eq_true rfl⟩ rfl ?_
  show GoS rSkel 0 8 1 (some .boolean) false prog_1_method_32_code 0 [(0, .inl x0)] [] sg _
  refine gs0 1 [(0, .inl x0)] [.inl x0] dM_74_0 (fun _ => rfl) (Or.inr rfl) ?_
  refine gs0 4 [(0, .inl x0)] [.inl 256, .inl x0] dM_74_1 (fun _ => rfl) (Or.inr rfl) ?_
  refine gsIf (t := 11) (C := x0 < 256) (r := []) dM_74_4 (fun _ => rfl) (Or.inr rfl) (rTest_iff .lt x0 256) (fun c1 => ?_) (fun c1 => ?_)
  · replace h := h.1 c1
    refine gs0 12 [(0, .inl x0)] [.inl 0] dM_74_11 (fun _ => rfl) (Or.inr rfl) ?_
    refine gsRet (r := some (.inl 0)) dM_74_12 (fun _ => rfl) (Or.inr rfl) ?_
    exact h
  · replace h := h.2 c1
    refine gs0 8 [(0, .inl x0)] [.inl 1] dM_74_7 (fun _ => rfl) (Or.inr rfl) ?_
    refine gs0 12 [(0, .inl x0)] [.inl 1] dM_74_8 (fun _ => rfl) (Or.inr rfl) ?_
    refine gsRet (r := some (.inl 1)) dM_74_12 (fun _ => rfl) (Or.inr rfl) ?_
    exact h
set_option maxRecDepth 100000 in
/-- GoalsInAQueue.steps -/
theorem w_75 (sg : rSg) (x1 : Int32) {P : Option rv → rSg → Prop} (h :
    (1 ≤ x1 → 
      (100 < x1 → 
        EvS rSkel 1 72 [.inr (.inr (some 0)), .inl ((-6))] sg (fun v3 t4 => ∃ n6, v3 = some (.inl n6) ∧
          P (some (.inl n6)) t4)) ∧
      (¬ (100 < x1) → 
        (((sg 6 9) + x1) ≤ 300 → 
          EvS rSkel 7 36 [.inr (.inr (some 6)), .inl x1, .inl 30] sg (fun v8 t9 => v8 = none ∧
            P (some (.inl (t9 6 10))) t9)) ∧
        (¬ (((sg 6 9) + x1) ≤ 300) → 
          EvS rSkel 1 72 [.inr (.inr (some 0)), .inl ((-6))] sg (fun v11 t12 => ∃ n14, v11 = some (.inl n14) ∧
            P (some (.inl n14)) t12)))) ∧
    (¬ (1 ≤ x1) → 
      EvS rSkel 1 72 [.inr (.inr (some 0)), .inl ((-4))] sg (fun v15 t16 => ∃ n18, v15 = some (.inl n18) ∧
        P (some (.inl n18)) t16))) : EvS rSkel 8 75 [.inr (.inr (some 0)), .inl x1] sg P := by
  refine EvS.of (ini := false) rfl ⟨rfl, Nat.le_of_ble_eq_true rfl⟩ rfl ?_
  show GoS rSkel 7 8 2 (some .int) false prog_1_method_4_code 0 [(0, .inr (.inr (some 0))), (1, .inl x1)] [] sg _
  refine gs0 1 [(0, .inr (.inr (some 0))), (1, .inl x1)] [.inl x1] dM_75_0 (fun _ => rfl) (Or.inr rfl) ?_
  refine gs0 2 [(0, .inr (.inr (some 0))), (1, .inl x1)] [.inl 1, .inl x1] dM_75_1 (fun _ => rfl) (Or.inr rfl) ?_
  refine gsIf (t := 12) (C := 1 ≤ x1) (r := []) dM_75_2 (fun _ => rfl) (Or.inr rfl) (rTest_iff .ge x1 1) (fun c1 => ?_) (fun c1 => ?_)
  · replace h := h.1 c1
    refine gs0 13 [(0, .inr (.inr (some 0))), (1, .inl x1)] [.inl x1] dM_75_12 (fun _ => rfl) (Or.inr rfl) ?_
    refine gs0 15 [(0, .inr (.inr (some 0))), (1, .inl x1)] [.inl 100, .inl x1] dM_75_13 (fun _ => rfl) (Or.inr rfl) ?_
    refine gsIf (t := 33) (C := 100 < x1) (r := []) dM_75_15 (fun _ => rfl) (Or.inr rfl) (rTest_iff .gt x1 100) (fun c2 => ?_) (fun c2 => ?_)
    · replace h := h.1 c2
      refine gs0 34 [(0, .inr (.inr (some 0))), (1, .inl x1)] [.inr (.inr (some 0))] dM_75_33 (fun _ => rfl) (Or.inr rfl) ?_
      refine gs0 36 [(0, .inr (.inr (some 0))), (1, .inl x1)] [.inl ((-6)), .inr (.inr (some 0))] dM_75_34 (fun _ => rfl) (Or.inr rfl) ?_
      refine gsCallV (y := 72) (k := 0) (as := [.inr (.inr (some 0)), .inl ((-6))]) (r := []) dM_75_36 rfl rfl rfl (Nat.le_of_ble_eq_true rfl) sk_0 rfl (Nat.le_of_ble_eq_true rfl) (EvS.up h (Nat.le_of_ble_eq_true rfl)) (fun v3 t4 hv5 => ?_)
      obtain ⟨n6, rfl, hn⟩ := hv5
      clear h
      show GoS _ _ _ _ _ _ _ _ [(0, .inr (.inr (some 0))), (1, .inl x1)] [.inl n6] t4 _
      refine gsRet (r := some (.inl n6)) dM_75_39 (fun _ => rfl) (Or.inr rfl) ?_
      exact hn
    · replace h := h.2 c2
      refine gs0 19 [(0, .inr (.inr (some 0))), (1, .inl x1)] [.inr (.inr (some 0))] dM_75_18 (fun _ => rfl) (Or.inr rfl) ?_
      refine gsGetR (some 6) dM_75_19 sk_0 rfl rfl ?_
      refine gsGetE (sg 6 9) dM_75_22 sk_6 rfl rfl rfl ?_
      refine gs0 26 [(0, .inr (.inr (some 0))), (1, .inl x1)] [.inl x1, .inl (sg 6 9)] dM_75_25 (fun _ => rfl) (Or.inr rfl) ?_
      refine gs0 27 [(0, .inr (.inr (some 0))), (1, .inl x1)] [.inl ((sg 6 9) + x1)] dM_75_26 (fun _ => rfl) (Or.inr rfl) ?_
      refine gs0 30 [(0, .inr (.inr (some 0))), (1, .inl x1)] [.inl 300, .inl ((sg 6 9) + x1)] dM_75_27 (fun _ => rfl) (Or.inr rfl) ?_
      refine gsIf (t := 40) (C := ((sg 6 9) + x1) ≤ 300) (r := []) dM_75_30 (fun _ => rfl) (Or.inr rfl) (rTest_iff .le ((sg 6 9) + x1) 300) (fun c7 => ?_) (fun c7 => ?_)
      · replace h := h.1 c7
        refine gs0 41 [(0, .inr (.inr (some 0))), (1, .inl x1)] [.inr (.inr (some 0))] dM_75_40 (fun _ => rfl) (Or.inr rfl) ?_
        refine gsGetR (some 6) dM_75_41 sk_0 rfl rfl ?_
        refine gs0 45 [(0, .inr (.inr (some 0))), (1, .inl x1)] [.inl x1, .inr (.inr (some 6))] dM_75_44 (fun _ => rfl) (Or.inr rfl) ?_
        refine gs0 47 [(0, .inr (.inr (some 0))), (1, .inl x1)] [.inl 30, .inl x1, .inr (.inr (some 6))] dM_75_45 (fun _ => rfl) (Or.inr rfl) ?_
        refine gsCallV (y := 36) (k := 6) (as := [.inr (.inr (some 6)), .inl x1, .inl 30]) (r := []) dM_75_47 rfl rfl rfl (Nat.le_of_ble_eq_true rfl) sk_6 rfl (Nat.le_of_ble_eq_true rfl) (EvS.up h (Nat.le_of_ble_eq_true rfl)) (fun v8 t9 hv10 => ?_)
        obtain ⟨rfl, hn⟩ := hv10
        clear h
        show GoS _ _ _ _ _ _ _ _ [(0, .inr (.inr (some 0))), (1, .inl x1)] [] t9 _
        refine gs0 51 [(0, .inr (.inr (some 0))), (1, .inl x1)] [.inr (.inr (some 0))] dM_75_50 (fun _ => rfl) (Or.inr rfl) ?_
        refine gsGetR (some 6) dM_75_51 sk_0 rfl rfl ?_
        refine gsGetE (t9 6 10) dM_75_54 sk_6 rfl rfl rfl ?_
        refine gsRet (r := some (.inl (t9 6 10))) dM_75_57 (fun _ => rfl) (Or.inr rfl) ?_
        exact hn
      · replace h := h.2 c7
        refine gs0 34 [(0, .inr (.inr (some 0))), (1, .inl x1)] [.inr (.inr (some 0))] dM_75_33 (fun _ => rfl) (Or.inr rfl) ?_
        refine gs0 36 [(0, .inr (.inr (some 0))), (1, .inl x1)] [.inl ((-6)), .inr (.inr (some 0))] dM_75_34 (fun _ => rfl) (Or.inr rfl) ?_
        refine gsCallV (y := 72) (k := 0) (as := [.inr (.inr (some 0)), .inl ((-6))]) (r := []) dM_75_36 rfl rfl rfl (Nat.le_of_ble_eq_true rfl) sk_0 rfl (Nat.le_of_ble_eq_true rfl) (EvS.up h (Nat.le_of_ble_eq_true rfl)) (fun v11 t12 hv13 => ?_)
        obtain ⟨n14, rfl, hn⟩ := hv13
        clear h
        show GoS _ _ _ _ _ _ _ _ [(0, .inr (.inr (some 0))), (1, .inl x1)] [.inl n14] t12 _
        refine gsRet (r := some (.inl n14)) dM_75_39 (fun _ => rfl) (Or.inr rfl) ?_
        exact hn
  · replace h := h.2 c1
    refine gs0 6 [(0, .inr (.inr (some 0))), (1, .inl x1)] [.inr (.inr (some 0))] dM_75_5 (fun _ => rfl) (Or.inr rfl) ?_
    refine gs0 8 [(0, .inr (.inr (some 0))), (1, .inl x1)] [.inl ((-4)), .inr (.inr (some 0))] dM_75_6 (fun _ => rfl) (Or.inr rfl) ?_
    refine gsCallV (y := 72) (k := 0) (as := [.inr (.inr (some 0)), .inl ((-4))]) (r := []) dM_75_8 rfl rfl rfl (Nat.le_of_ble_eq_true rfl) sk_0 rfl (Nat.le_of_ble_eq_true rfl) (EvS.up h (Nat.le_of_ble_eq_true rfl)) (fun v15 t16 hv17 => ?_)
    obtain ⟨n18, rfl, hn⟩ := hv17
    clear h
    show GoS _ _ _ _ _ _ _ _ [(0, .inr (.inr (some 0))), (1, .inl x1)] [.inl n18] t16 _
    refine gsRet (r := some (.inl n18)) dM_75_11 (fun _ => rfl) (Or.inr rfl) ?_
    exact hn
def g_76_4 (kb : Nat) (nb : Nat) (y2 : Int32) (y3 : Int32) (sg : rSg) (P : Option rv → rSg → Prop) : Prop := GoS rSkel 0 8 4 (some .int) false prog_1_method_33_code 4 [(0, .inr (.inr (some kb))), (2, .inl y2), (3, .inl y3)] [] sg P
set_option maxRecDepth 100000 in
theorem w_76_4 (sg : rSg) (kb nb : Nat) (hkb : isArr kb nb) (y2 : Int32) (y3 : Int32) {P : Option rv → rSg → Prop} (h :
    (128 ≤ y3 → 
      P (some (.inl y2)) sg) ∧
    (¬ (128 ≤ y3) → 
      (y2 < 0 → 
        P (some (.inl y2)) sg) ∧
      (¬ (y2 < 0) → 
        (128 ≤ y2 → 
          P (some (.inl y2)) sg) ∧
        (¬ (128 ≤ y2) → 
          ((Int32.ofNat nb) ≤ y2 → 
            P (some (.inl y2)) sg) ∧
          (¬ ((Int32.ofNat nb) ≤ y2) → 
            (rIn y2 nb = true ∧
            (¬ (sg kb y2.toNatClampNeg) = ((-1)) → 
              (rIn y2 nb = true ∧
              g_76_4 kb nb (sg kb y2.toNatClampNeg) (y3 + 1) sg P)) ∧
            (¬ (¬ (sg kb y2.toNatClampNeg) = ((-1))) → 
              P (some (.inl y2)) sg))))))) : g_76_4 kb nb y2 y3 sg P := by
  show GoS rSkel 0 8 4 (some .int) false prog_1_method_33_code 4 [(0, .inr (.inr (some kb))), (2, .inl y2), (3, .inl y3)] [] sg P
  have b_kb := hkb.1
  refine gs0 5 [(0, .inr (.inr (some kb))), (2, .inl y2), (3, .inl y3)] [.inl y3] dM_76_4 (fun _ => rfl) (Or.inr rfl) ?_
  refine gs0 8 [(0, .inr (.inr (some kb))), (2, .inl y2), (3, .inl y3)] [.inl 128, .inl y3] dM_76_5 (fun _ => rfl) (Or.inr rfl) ?_
  refine gsIf (t := 47) (C := 128 ≤ y3) (r := []) dM_76_8 (fun _ => rfl) (Or.inr rfl) (rTest_iff .ge y3 128) (fun c1 => ?_) (fun c1 => ?_)
  · replace h := h.1 c1
    refine gs0 48 [(0, .inr (.inr (some kb))), (2, .inl y2), (3, .inl y3)] [.inl y2] dM_76_47 (fun _ => rfl) (Or.inr rfl) ?_
    refine gsRet (r := some (.inl y2)) dM_76_48 (fun _ => rfl) (Or.inr rfl) ?_
    exact h
  · replace h := h.2 c1
    refine gs0 12 [(0, .inr (.inr (some kb))), (2, .inl y2), (3, .inl y3)] [.inl y2] dM_76_11 (fun _ => rfl) (Or.inr rfl) ?_
    refine gsIf (t := 35) (C := y2 < 0) (r := []) dM_76_12 (fun _ => rfl) (Or.inr rfl) (rTest_iff .lt y2 0) (fun c2 => ?_) (fun c2 => ?_)
    · replace h := h.1 c2
      refine gs0 36 [(0, .inr (.inr (some kb))), (2, .inl y2), (3, .inl y3)] [.inl y2] dM_76_35 (fun _ => rfl) (Or.inr rfl) ?_
      refine gsRet (r := some (.inl y2)) dM_76_36 (fun _ => rfl) (Or.inr rfl) ?_
      exact h
    · replace h := h.2 c2
      refine gs0 16 [(0, .inr (.inr (some kb))), (2, .inl y2), (3, .inl y3)] [.inl y2] dM_76_15 (fun _ => rfl) (Or.inr rfl) ?_
      refine gs0 19 [(0, .inr (.inr (some kb))), (2, .inl y2), (3, .inl y3)] [.inl 128, .inl y2] dM_76_16 (fun _ => rfl) (Or.inr rfl) ?_
      refine gsIf (t := 35) (C := 128 ≤ y2) (r := []) dM_76_19 (fun _ => rfl) (Or.inr rfl) (rTest_iff .ge y2 128) (fun c3 => ?_) (fun c3 => ?_)
      · replace h := h.1 c3
        refine gs0 36 [(0, .inr (.inr (some kb))), (2, .inl y2), (3, .inl y3)] [.inl y2] dM_76_35 (fun _ => rfl) (Or.inr rfl) ?_
        refine gsRet (r := some (.inl y2)) dM_76_36 (fun _ => rfl) (Or.inr rfl) ?_
        exact h
      · replace h := h.2 c3
        refine gs0 23 [(0, .inr (.inr (some kb))), (2, .inl y2), (3, .inl y3)] [.inl y2] dM_76_22 (fun _ => rfl) (Or.inr rfl) ?_
        refine gs0 24 [(0, .inr (.inr (some kb))), (2, .inl y2), (3, .inl y3)] [.inr (.inr (some kb)), .inl y2] dM_76_23 (fun _ => rfl) (Or.inr rfl) ?_
        refine gsAlen dM_76_24 hkb.2 ?_
        refine gsIf (t := 35) (C := (Int32.ofNat nb) ≤ y2) (r := []) dM_76_25 (fun _ => rfl) (Or.inr rfl) (rTest_iff .ge y2 (Int32.ofNat nb)) (fun c4 => ?_) (fun c4 => ?_)
        · replace h := h.1 c4
          refine gs0 36 [(0, .inr (.inr (some kb))), (2, .inl y2), (3, .inl y3)] [.inl y2] dM_76_35 (fun _ => rfl) (Or.inr rfl) ?_
          refine gsRet (r := some (.inl y2)) dM_76_36 (fun _ => rfl) (Or.inr rfl) ?_
          exact h
        · replace h := h.2 c4
          refine gs0 29 [(0, .inr (.inr (some kb))), (2, .inl y2), (3, .inl y3)] [.inr (.inr (some kb))] dM_76_28 (fun _ => rfl) (Or.inr rfl) ?_
          refine gs0 30 [(0, .inr (.inr (some kb))), (2, .inl y2), (3, .inl y3)] [.inl y2, .inr (.inr (some kb))] dM_76_29 (fun _ => rfl) (Or.inr rfl) ?_
          refine gsIaldN y2.toNatClampNeg (sg kb y2.toNatClampNeg) dM_76_30 hkb.2 h.1 rfl rfl ?_
          replace h := h.2
          refine gs0 32 [(0, .inr (.inr (some kb))), (2, .inl y2), (3, .inl y3)] [.inl ((-1)), .inl (sg kb y2.toNatClampNeg)] dM_76_31 (fun _ => rfl) (Or.inr rfl) ?_
          refine gsIf (t := 37) (C := ¬ (sg kb y2.toNatClampNeg) = ((-1))) (r := []) dM_76_32 (fun _ => rfl) (Or.inr rfl) (rTest_iff .ne (sg kb y2.toNatClampNeg) ((-1))) (fun c5 => ?_) (fun c5 => ?_)
          · replace h := h.1 c5
            refine gs0 38 [(0, .inr (.inr (some kb))), (2, .inl y2), (3, .inl y3)] [.inr (.inr (some kb))] dM_76_37 (fun _ => rfl) (Or.inr rfl) ?_
            refine gs0 39 [(0, .inr (.inr (some kb))), (2, .inl y2), (3, .inl y3)] [.inl y2, .inr (.inr (some kb))] dM_76_38 (fun _ => rfl) (Or.inr rfl) ?_
            refine gsIaldN y2.toNatClampNeg (sg kb y2.toNatClampNeg) dM_76_39 hkb.2 h.1 rfl rfl ?_
            replace h := h.2
            refine gs0 41 [(2, .inl (sg kb y2.toNatClampNeg)), (0, .inr (.inr (some kb))), (3, .inl y3)] [] dM_76_40 (fun _ => rfl) (Or.inr rfl) ?_
            refine gs0 44 [(3, .inl (y3 + 1)), (2, .inl (sg kb y2.toNatClampNeg)), (0, .inr (.inr (some kb)))] [] dM_76_41 (fun _ => rfl) (Or.inr rfl) ?_
            refine gs0 4 [(3, .inl (y3 + 1)), (2, .inl (sg kb y2.toNatClampNeg)), (0, .inr (.inr (some kb)))] [] dM_76_44 (fun _ => rfl) (Or.inr rfl) ?_
            exact GoS.sub (Lnd_keys (ks := [0, 2, 3]) rfl (by decide)) (Lsub_cons rfl (Lsub_cons rfl (Lsub_cons rfl Lsub_nil))) h
          · replace h := h.2 c5
            refine gs0 36 [(0, .inr (.inr (some kb))), (2, .inl y2), (3, .inl y3)] [.inl y2] dM_76_35 (fun _ => rfl) (Or.inr rfl) ?_
            refine gsRet (r := some (.inl y2)) dM_76_36 (fun _ => rfl) (Or.inr rfl) ?_
            exact h
set_option maxRecDepth 100000 in
/-- GoalsInAQueue.walk -/
theorem w_76 (sg : rSg) (kb nb : Nat) (hkb : isArr kb nb) (x1 : Int32) {P : Option rv → rSg → Prop} (h :
    g_76_4 kb nb x1 0 sg P) : EvS rSkel 1 76 [.inr (.inr (some kb)), .inl x1] sg P := by
  refine EvS.of (ini := false) rfl ⟨rfl, Nat.le_of_ble_eq_true rfl⟩ rfl ?_
  show GoS rSkel 0 8 4 (some .int) false prog_1_method_33_code 0 [(0, .inr (.inr (some kb))), (1, .inl x1)] [] sg _
  have b_kb := hkb.1
  refine gs0 1 [(0, .inr (.inr (some kb))), (1, .inl x1)] [.inl x1] dM_76_0 (fun _ => rfl) (Or.inr rfl) ?_
  refine gs0 2 [(2, .inl x1), (0, .inr (.inr (some kb))), (1, .inl x1)] [] dM_76_1 (fun _ => rfl) (Or.inr rfl) ?_
  refine gs0 3 [(2, .inl x1), (0, .inr (.inr (some kb))), (1, .inl x1)] [.inl 0] dM_76_2 (fun _ => rfl) (Or.inr rfl) ?_
  refine gs0 4 [(3, .inl 0), (2, .inl x1), (0, .inr (.inr (some kb))), (1, .inl x1)] [] dM_76_3 (fun _ => rfl) (Or.inr rfl) ?_
  exact GoS.sub (Lnd_keys (ks := [0, 2, 3]) rfl (by decide)) (Lsub_cons rfl (Lsub_cons rfl (Lsub_cons rfl Lsub_nil))) h
set_option maxRecDepth 100000 in
/-- GoalsInAQueue.isVariable -/
theorem w_77 (sg : rSg) (x0 : Int32) {P : Option rv → rSg → Prop} (h :
    (x0 < 0 → 
      P (some (.inl 0)) sg) ∧
    (¬ (x0 < 0) → 
      (128 ≤ x0 → 
        P (some (.inl 0)) sg) ∧
      (¬ (128 ≤ x0) → 
        P (some (.inl 1)) sg))) : EvS rSkel 1 77 [.inl x0] sg P := by
  refine EvS.of (ini := false) rfl ⟨rfl, Nat.le_of_ble_eq_true rfl⟩ rfl ?_
  show GoS rSkel 0 8 1 (some .boolean) false prog_1_method_31_code 0 [(0, .inl x0)] [] sg _
  refine gs0 1 [(0, .inl x0)] [.inl x0] dM_77_0 (fun _ => rfl) (Or.inr rfl) ?_
  refine gsIf (t := 15) (C := x0 < 0) (r := []) dM_77_1 (fun _ => rfl) (Or.inr rfl) (rTest_iff .lt x0 0) (fun c1 => ?_) (fun c1 => ?_)
  · replace h := h.1 c1
    refine gs0 16 [(0, .inl x0)] [.inl 0] dM_77_15 (fun _ => rfl) (Or.inr rfl) ?_
    refine gsRet (r := some (.inl 0)) dM_77_16 (fun _ => rfl) (Or.inr rfl) ?_
    exact h
  · replace h := h.2 c1
    refine gs0 5 [(0, .inl x0)] [.inl x0] dM_77_4 (fun _ => rfl) (Or.inr rfl) ?_
    refine gs0 8 [(0, .inl x0)] [.inl 128, .inl x0] dM_77_5 (fun _ => rfl) (Or.inr rfl) ?_
    refine gsIf (t := 15) (C := 128 ≤ x0) (r := []) dM_77_8 (fun _ => rfl) (Or.inr rfl) (rTest_iff .ge x0 128) (fun c2 => ?_) (fun c2 => ?_)
    · replace h := h.1 c2
      refine gs0 16 [(0, .inl x0)] [.inl 0] dM_77_15 (fun _ => rfl) (Or.inr rfl) ?_
      refine gsRet (r := some (.inl 0)) dM_77_16 (fun _ => rfl) (Or.inr rfl) ?_
      exact h
    · replace h := h.2 c2
      refine gs0 12 [(0, .inl x0)] [.inl 1] dM_77_11 (fun _ => rfl) (Or.inr rfl) ?_
      refine gs0 16 [(0, .inl x0)] [.inl 1] dM_77_12 (fun _ => rfl) (Or.inr rfl) ?_
      refine gsRet (r := some (.inl 1)) dM_77_16 (fun _ => rfl) (Or.inr rfl) ?_
      exact h
set_option maxRecDepth 100000 in
/-- GoalsInAQueue.asSecond -/
theorem w_78 (sg : rSg) (x0 : Int32) {P : Option rv → rSg → Prop} (h :
    (x0 < 256 → 
      (x0 < 0 → 
        P (some (.inl x0)) sg) ∧
      (¬ (x0 < 0) → 
        (128 ≤ x0 → 
          P (some (.inl x0)) sg) ∧
        (¬ (128 ≤ x0) → 
          P (some (.inl (x0 + 64))) sg))) ∧
    (¬ (x0 < 256) → 
      P (some (.inl ((x0 + 1280) - 256))) sg)) : EvS rSkel 1 78 [.inl x0] sg P := by
  refine EvS.of (ini := false) rfl ⟨rfl, Nat.le_of_ble_eq_true rfl⟩ rfl ?_
  show GoS rSkel 0 8 1 (some .int) false prog_1_method_34_code 0 [(0, .inl x0)] [] sg _
  refine gs0 1 [(0, .inl x0)] [.inl x0] dM_78_0 (fun _ => rfl) (Or.inr rfl) ?_
  refine gs0 4 [(0, .inl x0)] [.inl 256, .inl x0] dM_78_1 (fun _ => rfl) (Or.inr rfl) ?_
  refine gsIf (t := 17) (C := x0 < 256) (r := []) dM_78_4 (fun _ => rfl) (Or.inr rfl) (rTest_iff .lt x0 256) (fun c1 => ?_) (fun c1 => ?_)
  · replace h := h.1 c1
    refine gs0 18 [(0, .inl x0)] [.inl x0] dM_78_17 (fun _ => rfl) (Or.inr rfl) ?_
    refine gsIf (t := 35) (C := x0 < 0) (r := []) dM_78_18 (fun _ => rfl) (Or.inr rfl) (rTest_iff .lt x0 0) (fun c2 => ?_) (fun c2 => ?_)
    · replace h := h.1 c2
      refine gs0 36 [(0, .inl x0)] [.inl x0] dM_78_35 (fun _ => rfl) (Or.inr rfl) ?_
      refine gsRet (r := some (.inl x0)) dM_78_36 (fun _ => rfl) (Or.inr rfl) ?_
      exact h
    · replace h := h.2 c2
      refine gs0 22 [(0, .inl x0)] [.inl x0] dM_78_21 (fun _ => rfl) (Or.inr rfl) ?_
      refine gs0 25 [(0, .inl x0)] [.inl 128, .inl x0] dM_78_22 (fun _ => rfl) (Or.inr rfl) ?_
      refine gsIf (t := 35) (C := 128 ≤ x0) (r := []) dM_78_25 (fun _ => rfl) (Or.inr rfl) (rTest_iff .ge x0 128) (fun c3 => ?_) (fun c3 => ?_)
      · replace h := h.1 c3
        refine gs0 36 [(0, .inl x0)] [.inl x0] dM_78_35 (fun _ => rfl) (Or.inr rfl) ?_
        refine gsRet (r := some (.inl x0)) dM_78_36 (fun _ => rfl) (Or.inr rfl) ?_
        exact h
      · replace h := h.2 c3
        refine gs0 29 [(0, .inl x0)] [.inl x0] dM_78_28 (fun _ => rfl) (Or.inr rfl) ?_
        refine gs0 31 [(0, .inl x0)] [.inl 64, .inl x0] dM_78_29 (fun _ => rfl) (Or.inr rfl) ?_
        refine gs0 32 [(0, .inl x0)] [.inl (x0 + 64)] dM_78_31 (fun _ => rfl) (Or.inr rfl) ?_
        refine gs0 36 [(0, .inl x0)] [.inl (x0 + 64)] dM_78_32 (fun _ => rfl) (Or.inr rfl) ?_
        refine gsRet (r := some (.inl (x0 + 64))) dM_78_36 (fun _ => rfl) (Or.inr rfl) ?_
        exact h
  · replace h := h.2 c1
    refine gs0 8 [(0, .inl x0)] [.inl x0] dM_78_7 (fun _ => rfl) (Or.inr rfl) ?_
    refine gs0 11 [(0, .inl x0)] [.inl 1280, .inl x0] dM_78_8 (fun _ => rfl) (Or.inr rfl) ?_
    refine gs0 12 [(0, .inl x0)] [.inl (x0 + 1280)] dM_78_11 (fun _ => rfl) (Or.inr rfl) ?_
    refine gs0 15 [(0, .inl x0)] [.inl 256, .inl (x0 + 1280)] dM_78_12 (fun _ => rfl) (Or.inr rfl) ?_
    refine gs0 16 [(0, .inl x0)] [.inl ((x0 + 1280) - 256)] dM_78_15 (fun _ => rfl) (Or.inr rfl) ?_
    refine gsRet (r := some (.inl ((x0 + 1280) - 256))) dM_78_16 (fun _ => rfl) (Or.inr rfl) ?_
    exact h
set_option maxRecDepth 100000 in
/-- GoalsInAQueue.answers -/
theorem w_79 (sg : rSg)  {P : Option rv → rSg → Prop} (h :
    P (some (.inl (sg 6 10))) sg) : EvS rSkel 1 79 [.inr (.inr (some 0))] sg P := by
  refine EvS.of (ini := false) rfl ⟨rfl, Nat.le_of_ble_eq_true rfl⟩ rfl ?_
  show GoS rSkel 0 8 1 (some .int) false prog_1_method_5_code 0 [(0, .inr (.inr (some 0)))] [] sg _
  refine gs0 1 [(0, .inr (.inr (some 0)))] [.inr (.inr (some 0))] dM_79_0 (fun _ => rfl) (Or.inr rfl) ?_
  refine gsGetR (some 6) dM_79_1 sk_0 rfl rfl ?_
  refine gsGetE (sg 6 10) dM_79_4 sk_6 rfl rfl rfl ?_
  refine gsRet (r := some (.inl (sg 6 10))) dM_79_7 (fun _ => rfl) (Or.inr rfl) ?_
  exact h
