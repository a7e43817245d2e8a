theorem dM_80_0 : decode prog_1_method_6_code 0 = .ok (.aload_n 0, 1) := by decide +kernel
theorem dM_80_1 : decode prog_1_method_6_code 1 = .ok (.iload_n 1, 1) := by decide +kernel
theorem dM_80_2 : decode prog_1_method_6_code 2 = .ok (.invokevirtual 126, 3) := by decide +kernel
theorem dM_80_5 : decode prog_1_method_6_code 5 = .ok (.ifCond .eq 10, 3) := by decide +kernel
theorem dM_80_8 : decode prog_1_method_6_code 8 = .ok (.iload_n 2, 1) := by decide +kernel
theorem dM_80_9 : decode prog_1_method_6_code 9 = .ok (.invokestatic 130, 3) := by decide +kernel
theorem dM_80_12 : decode prog_1_method_6_code 12 = .ok (.ifCond .ne 9, 3) := by decide +kernel
theorem dM_80_15 : decode prog_1_method_6_code 15 = .ok (.aload_n 0, 1) := by decide +kernel
theorem dM_80_16 : decode prog_1_method_6_code 16 = .ok (.iconst (-1), 1) := by decide +kernel
theorem dM_80_17 : decode prog_1_method_6_code 17 = .ok (.invokevirtual 89, 3) := by decide +kernel
theorem dM_80_20 : decode prog_1_method_6_code 20 = .ok (.ireturn, 1) := by decide +kernel
theorem dM_80_21 : decode prog_1_method_6_code 21 = .ok (.aload_n 0, 1) := by decide +kernel
theorem dM_80_22 : decode prog_1_method_6_code 22 = .ok (.getfield 47, 3) := by decide +kernel
theorem dM_80_25 : decode prog_1_method_6_code 25 = .ok (.aload_n 0, 1) := by decide +kernel
theorem dM_80_26 : decode prog_1_method_6_code 26 = .ok (.getfield 21, 3) := by decide +kernel
theorem dM_80_29 : decode prog_1_method_6_code 29 = .ok (.getfield 33, 3) := by decide +kernel
theorem dM_80_32 : decode prog_1_method_6_code 32 = .ok (.aload_n 0, 1) := by decide +kernel
theorem dM_80_33 : decode prog_1_method_6_code 33 = .ok (.getfield 21, 3) := by decide +kernel
theorem dM_80_36 : decode prog_1_method_6_code 36 = .ok (.iload_n 1, 1) := by decide +kernel
theorem dM_80_37 : decode prog_1_method_6_code 37 = .ok (.invokevirtual 133, 3) := by decide +kernel
theorem dM_80_40 : decode prog_1_method_6_code 40 = .ok (.iload_n 2, 1) := by decide +kernel
theorem dM_80_41 : decode prog_1_method_6_code 41 = .ok (.invokevirtual 137, 3) := by decide +kernel
theorem dM_80_44 : decode prog_1_method_6_code 44 = .ok (.aload_n 0, 1) := by decide +kernel
theorem dM_80_45 : decode prog_1_method_6_code 45 = .ok (.getfield 47, 3) := by decide +kernel
theorem dM_80_48 : decode prog_1_method_6_code 48 = .ok (.getfield 141, 3) := by decide +kernel
theorem dM_80_51 : decode prog_1_method_6_code 51 = .ok (.ireturn, 1) := by decide +kernel
theorem dM_81_0 : decode prog_1_method_29_code 0 = .ok (.iload_n 1, 1) := by decide +kernel
theorem dM_81_1 : decode prog_1_method_29_code 1 = .ok (.ifCond .lt 18, 3) := by decide +kernel
theorem dM_81_4 : decode prog_1_method_29_code 4 = .ok (.iload_n 1, 1) := by decide +kernel
theorem dM_81_5 : decode prog_1_method_29_code 5 = .ok (.aload_n 0, 1) := by decide +kernel
theorem dM_81_6 : decode prog_1_method_29_code 6 = .ok (.getfield 21, 3) := by decide +kernel
theorem dM_81_9 : decode prog_1_method_29_code 9 = .ok (.getfield 123, 3) := by decide +kernel
theorem dM_81_12 : decode prog_1_method_29_code 12 = .ok (.if_icmp .ge 7, 3) := by decide +kernel
theorem dM_81_15 : decode prog_1_method_29_code 15 = .ok (.iconst 1, 1) := by decide +kernel
theorem dM_81_16 : decode prog_1_method_29_code 16 = .ok (.goto 4, 3) := by decide +kernel
theorem dM_81_19 : decode prog_1_method_29_code 19 = .ok (.iconst 0, 1) := by decide +kernel
theorem dM_81_20 : decode prog_1_method_29_code 20 = .ok (.ireturn, 1) := by decide +kernel
theorem dM_82_0 : decode prog_1_method_30_code 0 = .ok (.iload_n 0, 1) := by decide +kernel
theorem dM_82_1 : decode prog_1_method_30_code 1 = .ok (.ifCond .lt 13, 3) := by decide +kernel
theorem dM_82_4 : decode prog_1_method_30_code 4 = .ok (.iload_n 0, 1) := by decide +kernel
theorem dM_82_5 : decode prog_1_method_30_code 5 = .ok (.bipush 6, 2) := by decide +kernel
theorem dM_82_7 : decode prog_1_method_30_code 7 = .ok (.if_icmp .ge 7, 3) := by decide +kernel
theorem dM_82_10 : decode prog_1_method_30_code 10 = .ok (.iconst 1, 1) := by decide +kernel
theorem dM_82_11 : decode prog_1_method_30_code 11 = .ok (.goto 4, 3) := by decide +kernel
theorem dM_82_14 : decode prog_1_method_30_code 14 = .ok (.iconst 0, 1) := by decide +kernel
theorem dM_82_15 : decode prog_1_method_30_code 15 = .ok (.ireturn, 1) := by decide +kernel
theorem dM_83_0 : decode prog_1_method_7_code 0 = .ok (.aload_n 0, 1) := by decide +kernel
theorem dM_83_1 : decode prog_1_method_7_code 1 = .ok (.iload_n 1, 1) := by decide +kernel
theorem dM_83_2 : decode prog_1_method_7_code 2 = .ok (.invokevirtual 126, 3) := by decide +kernel
theorem dM_83_5 : decode prog_1_method_7_code 5 = .ok (.ifCond .eq 10, 3) := by decide +kernel
theorem dM_83_8 : decode prog_1_method_7_code 8 = .ok (.iload_n 2, 1) := by decide +kernel
theorem dM_83_9 : decode prog_1_method_7_code 9 = .ok (.invokestatic 130, 3) := by decide +kernel
theorem dM_83_12 : decode prog_1_method_7_code 12 = .ok (.ifCond .ne 9, 3) := by decide +kernel
theorem dM_83_15 : decode prog_1_method_7_code 15 = .ok (.aload_n 0, 1) := by decide +kernel
theorem dM_83_16 : decode prog_1_method_7_code 16 = .ok (.iconst (-1), 1) := by decide +kernel
theorem dM_83_17 : decode prog_1_method_7_code 17 = .ok (.invokevirtual 89, 3) := by decide +kernel
theorem dM_83_20 : decode prog_1_method_7_code 20 = .ok (.ireturn, 1) := by decide +kernel
theorem dM_83_21 : decode prog_1_method_7_code 21 = .ok (.iload_n 3, 1) := by decide +kernel
theorem dM_83_22 : decode prog_1_method_7_code 22 = .ok (.ifCond .ge 10, 3) := by decide +kernel
theorem dM_83_25 : decode prog_1_method_7_code 25 = .ok (.aload_n 0, 1) := by decide +kernel
theorem dM_83_26 : decode prog_1_method_7_code 26 = .ok (.bipush (-4), 2) := by decide +kernel
theorem dM_83_28 : decode prog_1_method_7_code 28 = .ok (.invokevirtual 89, 3) := by decide +kernel
theorem dM_83_31 : decode prog_1_method_7_code 31 = .ok (.ireturn, 1) := by decide +kernel
theorem dM_83_32 : decode prog_1_method_7_code 32 = .ok (.aload_n 0, 1) := by decide +kernel
theorem dM_83_33 : decode prog_1_method_7_code 33 = .ok (.getfield 47, 3) := by decide +kernel
theorem dM_83_36 : decode prog_1_method_7_code 36 = .ok (.aload_n 0, 1) := by decide +kernel
theorem dM_83_37 : decode prog_1_method_7_code 37 = .ok (.getfield 21, 3) := by decide +kernel
theorem dM_83_40 : decode prog_1_method_7_code 40 = .ok (.getfield 33, 3) := by decide +kernel
theorem dM_83_43 : decode prog_1_method_7_code 43 = .ok (.aload_n 0, 1) := by decide +kernel
theorem dM_83_44 : decode prog_1_method_7_code 44 = .ok (.getfield 21, 3) := by decide +kernel
theorem dM_83_47 : decode prog_1_method_7_code 47 = .ok (.iload_n 1, 1) := by decide +kernel
theorem dM_83_48 : decode prog_1_method_7_code 48 = .ok (.invokevirtual 133, 3) := by decide +kernel
theorem dM_83_51 : decode prog_1_method_7_code 51 = .ok (.iload_n 2, 1) := by decide +kernel
theorem dM_83_52 : decode prog_1_method_7_code 52 = .ok (.invokevirtual 137, 3) := by decide +kernel
theorem dM_83_55 : decode prog_1_method_7_code 55 = .ok (.aload_n 0, 1) := by decide +kernel
theorem dM_83_56 : decode prog_1_method_7_code 56 = .ok (.getfield 47, 3) := by decide +kernel
theorem dM_83_59 : decode prog_1_method_7_code 59 = .ok (.iload_n 3, 1) := by decide +kernel
theorem dM_83_60 : decode prog_1_method_7_code 60 = .ok (.invokevirtual 144, 3) := by decide +kernel
theorem dM_83_63 : decode prog_1_method_7_code 63 = .ok (.ireturn, 1) := by decide +kernel
theorem dM_84_0 : decode prog_1_method_8_code 0 = .ok (.aload_n 0, 1) := by decide +kernel
theorem dM_84_1 : decode prog_1_method_8_code 1 = .ok (.iload_n 1, 1) := by decide +kernel
theorem dM_84_2 : decode prog_1_method_8_code 2 = .ok (.invokevirtual 126, 3) := by decide +kernel
theorem dM_84_5 : decode prog_1_method_8_code 5 = .ok (.ifCond .ne 9, 3) := by decide +kernel
theorem dM_84_8 : decode prog_1_method_8_code 8 = .ok (.aload_n 0, 1) := by decide +kernel
theorem dM_84_9 : decode prog_1_method_8_code 9 = .ok (.iconst (-1), 1) := by decide +kernel
theorem dM_84_10 : decode prog_1_method_8_code 10 = .ok (.invokevirtual 89, 3) := by decide +kernel
theorem dM_84_13 : decode prog_1_method_8_code 13 = .ok (.ireturn, 1) := by decide +kernel
theorem dM_84_14 : decode prog_1_method_8_code 14 = .ok (.aload_n 0, 1) := by decide +kernel
theorem dM_84_15 : decode prog_1_method_8_code 15 = .ok (.getfield 21, 3) := by decide +kernel
theorem dM_84_18 : decode prog_1_method_8_code 18 = .ok (.iload_n 1, 1) := by decide +kernel
theorem dM_84_19 : decode prog_1_method_8_code 19 = .ok (.invokevirtual 147, 3) := by decide +kernel
theorem dM_84_22 : decode prog_1_method_8_code 22 = .ok (.ireturn, 1) := by decide +kernel
theorem dM_85_0 : decode prog_1_method_9_code 0 = .ok (.aload_n 0, 1) := by decide +kernel
theorem dM_85_1 : decode prog_1_method_9_code 1 = .ok (.iload_n 1, 1) := by decide +kernel
theorem dM_85_2 : decode prog_1_method_9_code 2 = .ok (.invokevirtual 126, 3) := by decide +kernel
theorem dM_85_5 : decode prog_1_method_9_code 5 = .ok (.ifCond .ne 9, 3) := by decide +kernel
theorem dM_85_8 : decode prog_1_method_9_code 8 = .ok (.aload_n 0, 1) := by decide +kernel
theorem dM_85_9 : decode prog_1_method_9_code 9 = .ok (.iconst (-1), 1) := by decide +kernel
theorem dM_85_10 : decode prog_1_method_9_code 10 = .ok (.invokevirtual 89, 3) := by decide +kernel
theorem dM_85_13 : decode prog_1_method_9_code 13 = .ok (.ireturn, 1) := by decide +kernel
theorem dM_85_14 : decode prog_1_method_9_code 14 = .ok (.aload_n 0, 1) := by decide +kernel
theorem dM_85_15 : decode prog_1_method_9_code 15 = .ok (.getfield 21, 3) := by decide +kernel
theorem dM_85_18 : decode prog_1_method_9_code 18 = .ok (.iload_n 1, 1) := by decide +kernel
theorem dM_85_19 : decode prog_1_method_9_code 19 = .ok (.invokevirtual 133, 3) := by decide +kernel
theorem dM_85_22 : decode prog_1_method_9_code 22 = .ok (.getfield 150, 3) := by decide +kernel
theorem dM_85_25 : decode prog_1_method_9_code 25 = .ok (.invokestatic 155, 3) := by decide +kernel
theorem dM_85_28 : decode prog_1_method_9_code 28 = .ok (.ireturn, 1) := by decide +kernel
theorem dM_86_0 : decode prog_1_method_10_code 0 = .ok (.iload_n 1, 1) := by decide +kernel
theorem dM_86_1 : decode prog_1_method_10_code 1 = .ok (.tableswitch 144 0 5 #[39, 47, 55, 63, 89, 118], 39) := by decide +kernel
theorem dM_86_40 : decode prog_1_method_10_code 40 = .ok (.aload_n 0, 1) := by decide +kernel
theorem dM_86_41 : decode prog_1_method_10_code 41 = .ok (.getfield 21, 3) := by decide +kernel
theorem dM_86_44 : decode prog_1_method_10_code 44 = .ok (.getfield 160, 3) := by decide +kernel
theorem dM_86_47 : decode prog_1_method_10_code 47 = .ok (.ireturn, 1) := by decide +kernel
theorem dM_86_48 : decode prog_1_method_10_code 48 = .ok (.aload_n 0, 1) := by decide +kernel
theorem dM_86_49 : decode prog_1_method_10_code 49 = .ok (.getfield 21, 3) := by decide +kernel
theorem dM_86_52 : decode prog_1_method_10_code 52 = .ok (.getfield 161, 3) := by decide +kernel
theorem dM_86_55 : decode prog_1_method_10_code 55 = .ok (.ireturn, 1) := by decide +kernel
theorem dM_86_56 : decode prog_1_method_10_code 56 = .ok (.aload_n 0, 1) := by decide +kernel
theorem dM_86_57 : decode prog_1_method_10_code 57 = .ok (.getfield 21, 3) := by decide +kernel
theorem dM_86_60 : decode prog_1_method_10_code 60 = .ok (.getfield 164, 3) := by decide +kernel
theorem dM_86_63 : decode prog_1_method_10_code 63 = .ok (.ireturn, 1) := by decide +kernel
theorem dM_86_64 : decode prog_1_method_10_code 64 = .ok (.aload_n 0, 1) := by decide +kernel
theorem dM_86_65 : decode prog_1_method_10_code 65 = .ok (.getfield 21, 3) := by decide +kernel
theorem dM_86_68 : decode prog_1_method_10_code 68 = .ok (.getfield 160, 3) := by decide +kernel
theorem dM_86_71 : decode prog_1_method_10_code 71 = .ok (.ifCond .ne 8, 3) := by decide +kernel
theorem dM_86_74 : decode prog_1_method_10_code 74 = .ok (.bipush (-9), 2) := by decide +kernel
theorem dM_86_76 : decode prog_1_method_10_code 76 = .ok (.goto 13, 3) := by decide +kernel
theorem dM_86_79 : decode prog_1_method_10_code 79 = .ok (.aload_n 0, 1) := by decide +kernel
theorem dM_86_80 : decode prog_1_method_10_code 80 = .ok (.getfield 21, 3) := by decide +kernel
theorem dM_86_83 : decode prog_1_method_10_code 83 = .ok (.invokevirtual 167, 3) := by decide +kernel
theorem dM_86_86 : decode prog_1_method_10_code 86 = .ok (.getfield 171, 3) := by decide +kernel
theorem dM_86_89 : decode prog_1_method_10_code 89 = .ok (.ireturn, 1) := by decide +kernel
theorem dM_86_90 : decode prog_1_method_10_code 90 = .ok (.aload_n 0, 1) := by decide +kernel
theorem dM_86_91 : decode prog_1_method_10_code 91 = .ok (.getfield 21, 3) := by decide +kernel
theorem dM_86_94 : decode prog_1_method_10_code 94 = .ok (.getfield 160, 3) := by decide +kernel
theorem dM_86_97 : decode prog_1_method_10_code 97 = .ok (.ifCond .ne 8, 3) := by decide +kernel
theorem dM_86_100 : decode prog_1_method_10_code 100 = .ok (.bipush (-9), 2) := by decide +kernel
theorem dM_86_102 : decode prog_1_method_10_code 102 = .ok (.goto 16, 3) := by decide +kernel
theorem dM_86_105 : decode prog_1_method_10_code 105 = .ok (.aload_n 0, 1) := by decide +kernel
theorem dM_86_106 : decode prog_1_method_10_code 106 = .ok (.getfield 21, 3) := by decide +kernel
theorem dM_86_109 : decode prog_1_method_10_code 109 = .ok (.invokevirtual 167, 3) := by decide +kernel
theorem dM_86_112 : decode prog_1_method_10_code 112 = .ok (.getfield 150, 3) := by decide +kernel
theorem dM_86_115 : decode prog_1_method_10_code 115 = .ok (.invokestatic 155, 3) := by decide +kernel
theorem dM_86_118 : decode prog_1_method_10_code 118 = .ok (.ireturn, 1) := by decide +kernel
theorem dM_86_119 : decode prog_1_method_10_code 119 = .ok (.aload_n 0, 1) := by decide +kernel
theorem dM_86_120 : decode prog_1_method_10_code 120 = .ok (.getfield 21, 3) := by decide +kernel
theorem dM_86_123 : decode prog_1_method_10_code 123 = .ok (.getfield 160, 3) := by decide +kernel
theorem dM_86_126 : decode prog_1_method_10_code 126 = .ok (.ifCond .ne 8, 3) := by decide +kernel
theorem dM_86_129 : decode prog_1_method_10_code 129 = .ok (.bipush (-9), 2) := by decide +kernel
theorem dM_86_131 : decode prog_1_method_10_code 131 = .ok (.goto 13, 3) := by decide +kernel
theorem dM_86_134 : decode prog_1_method_10_code 134 = .ok (.aload_n 0, 1) := by decide +kernel
theorem dM_86_135 : decode prog_1_method_10_code 135 = .ok (.getfield 21, 3) := by decide +kernel
theorem dM_86_138 : decode prog_1_method_10_code 138 = .ok (.invokevirtual 167, 3) := by decide +kernel
theorem dM_86_141 : decode prog_1_method_10_code 141 = .ok (.getfield 174, 3) := by decide +kernel
theorem dM_86_144 : decode prog_1_method_10_code 144 = .ok (.ireturn, 1) := by decide +kernel
theorem dM_86_145 : decode prog_1_method_10_code 145 = .ok (.aload_n 0, 1) := by decide +kernel
theorem dM_86_146 : decode prog_1_method_10_code 146 = .ok (.bipush (-2), 2) := by decide +kernel
theorem dM_86_148 : decode prog_1_method_10_code 148 = .ok (.invokevirtual 89, 3) := by decide +kernel
theorem dM_86_151 : decode prog_1_method_10_code 151 = .ok (.ireturn, 1) := by decide +kernel
theorem dM_87_0 : decode prog_1_method_11_code 0 = .ok (.aload_n 0, 1) := by decide +kernel
theorem dM_87_1 : decode prog_1_method_11_code 1 = .ok (.getfield 21, 3) := by decide +kernel
theorem dM_87_4 : decode prog_1_method_11_code 4 = .ok (.invokevirtual 177, 3) := by decide +kernel
theorem dM_87_7 : decode prog_1_method_11_code 7 = .ok (.ifCond .eq 7, 3) := by decide +kernel
theorem dM_87_10 : decode prog_1_method_11_code 10 = .ok (.iconst 1, 1) := by decide +kernel
theorem dM_87_11 : decode prog_1_method_11_code 11 = .ok (.goto 4, 3) := by decide +kernel
theorem dM_87_14 : decode prog_1_method_11_code 14 = .ok (.iconst 0, 1) := by decide +kernel
theorem dM_87_15 : decode prog_1_method_11_code 15 = .ok (.ireturn, 1) := by decide +kernel
theorem dM_88_0 : decode prog_1_method_12_code 0 = .ok (.iload_n 1, 1) := by decide +kernel
theorem dM_88_1 : decode prog_1_method_12_code 1 = .ok (.invokestatic 130, 3) := by decide +kernel
theorem dM_88_4 : decode prog_1_method_12_code 4 = .ok (.ifCond .ne 9, 3) := by decide +kernel
theorem dM_88_7 : decode prog_1_method_12_code 7 = .ok (.aload_n 0, 1) := by decide +kernel
theorem dM_88_8 : decode prog_1_method_12_code 8 = .ok (.iconst (-1), 1) := by decide +kernel
theorem dM_88_9 : decode prog_1_method_12_code 9 = .ok (.invokevirtual 89, 3) := by decide +kernel
theorem dM_88_12 : decode prog_1_method_12_code 12 = .ok (.ireturn, 1) := by decide +kernel
theorem dM_88_13 : decode prog_1_method_12_code 13 = .ok (.aload_n 0, 1) := by decide +kernel
theorem dM_88_14 : decode prog_1_method_12_code 14 = .ok (.aload_n 0, 1) := by decide +kernel
theorem dM_88_15 : decode prog_1_method_12_code 15 = .ok (.getfield 21, 3) := by decide +kernel
theorem dM_88_18 : decode prog_1_method_12_code 18 = .ok (.getfield 123, 3) := by decide +kernel
theorem dM_88_21 : decode prog_1_method_12_code 21 = .ok (.iload_n 1, 1) := by decide +kernel
theorem dM_88_22 : decode prog_1_method_12_code 22 = .ok (.invokevirtual 180, 3) := by decide +kernel
theorem dM_88_25 : decode prog_1_method_12_code 25 = .ok (.iconst 0, 1) := by decide +kernel
theorem dM_88_26 : decode prog_1_method_12_code 26 = .ok (.istore_n 2, 1) := by decide +kernel
theorem dM_88_27 : decode prog_1_method_12_code 27 = .ok (.iconst 0, 1) := by decide +kernel
theorem dM_88_28 : decode prog_1_method_12_code 28 = .ok (.istore_n 3, 1) := by decide +kernel
theorem dM_88_29 : decode prog_1_method_12_code 29 = .ok (.iload_n 3, 1) := by decide +kernel
theorem dM_88_30 : decode prog_1_method_12_code 30 = .ok (.aload_n 0, 1) := by decide +kernel
theorem dM_88_31 : decode prog_1_method_12_code 31 = .ok (.getfield 21, 3) := by decide +kernel
theorem dM_88_34 : decode prog_1_method_12_code 34 = .ok (.getfield 123, 3) := by decide +kernel
theorem dM_88_37 : decode prog_1_method_12_code 37 = .ok (.if_icmp .ge 21, 3) := by decide +kernel
theorem dM_88_40 : decode prog_1_method_12_code 40 = .ok (.aload_n 0, 1) := by decide +kernel
theorem dM_88_41 : decode prog_1_method_12_code 41 = .ok (.iload_n 3, 1) := by decide +kernel
theorem dM_88_42 : decode prog_1_method_12_code 42 = .ok (.invokevirtual 183, 3) := by decide +kernel
theorem dM_88_45 : decode prog_1_method_12_code 45 = .ok (.iload_n 3, 1) := by decide +kernel
theorem dM_88_46 : decode prog_1_method_12_code 46 = .ok (.if_icmp .ne 6, 3) := by decide +kernel
theorem dM_88_49 : decode prog_1_method_12_code 49 = .ok (.iinc 2 1, 3) := by decide +kernel
theorem dM_88_52 : decode prog_1_method_12_code 52 = .ok (.iinc 3 1, 3) := by decide +kernel
theorem dM_88_55 : decode prog_1_method_12_code 55 = .ok (.goto (-26), 3) := by decide +kernel
theorem dM_88_58 : decode prog_1_method_12_code 58 = .ok (.iload_n 2, 1) := by decide +kernel
theorem dM_88_59 : decode prog_1_method_12_code 59 = .ok (.ireturn, 1) := by decide +kernel
theorem dM_90_0 : decode prog_1_method_40_code 0 = .ok (.iconst 0, 1) := by decide +kernel
theorem dM_90_1 : decode prog_1_method_40_code 1 = .ok (.istore_n 2, 1) := by decide +kernel
theorem dM_90_2 : decode prog_1_method_40_code 2 = .ok (.iload_n 2, 1) := by decide +kernel
theorem dM_90_3 : decode prog_1_method_40_code 3 = .ok (.iload_n 1, 1) := by decide +kernel
theorem dM_90_4 : decode prog_1_method_40_code 4 = .ok (.if_icmp .ge 20, 3) := by decide +kernel
theorem dM_90_7 : decode prog_1_method_40_code 7 = .ok (.aload_n 0, 1) := by decide +kernel
theorem dM_90_8 : decode prog_1_method_40_code 8 = .ok (.iload_n 2, 1) := by decide +kernel
theorem dM_90_9 : decode prog_1_method_40_code 9 = .ok (.iload_n 1, 1) := by decide +kernel
theorem dM_90_10 : decode prog_1_method_40_code 10 = .ok (.invokevirtual 268, 3) := by decide +kernel
theorem dM_90_13 : decode prog_1_method_40_code 13 = .ok (.ifCond .eq 5, 3) := by decide +kernel
theorem dM_90_16 : decode prog_1_method_40_code 16 = .ok (.iload_n 2, 1) := by decide +kernel
theorem dM_90_17 : decode prog_1_method_40_code 17 = .ok (.ireturn, 1) := by decide +kernel
theorem dM_90_18 : decode prog_1_method_40_code 18 = .ok (.iinc 2 1, 3) := by decide +kernel
theorem dM_90_21 : decode prog_1_method_40_code 21 = .ok (.goto (-19), 3) := by decide +kernel
theorem dM_90_24 : decode prog_1_method_40_code 24 = .ok (.iload_n 1, 1) := by decide +kernel
theorem dM_90_25 : decode prog_1_method_40_code 25 = .ok (.ireturn, 1) := by decide +kernel
theorem dM_92_0 : decode prog_1_method_13_code 0 = .ok (.aload_n 0, 1) := by decide +kernel
theorem dM_92_1 : decode prog_1_method_13_code 1 = .ok (.iload_n 1, 1) := by decide +kernel
theorem dM_92_2 : decode prog_1_method_13_code 2 = .ok (.invokevirtual 126, 3) := by decide +kernel
theorem dM_92_5 : decode prog_1_method_13_code 5 = .ok (.ifCond .eq 10, 3) := by decide +kernel
theorem dM_92_8 : decode prog_1_method_13_code 8 = .ok (.iload_n 2, 1) := by decide +kernel
theorem dM_92_9 : decode prog_1_method_13_code 9 = .ok (.invokestatic 130, 3) := by decide +kernel
theorem dM_92_12 : decode prog_1_method_13_code 12 = .ok (.ifCond .ne 9, 3) := by decide +kernel
theorem dM_92_15 : decode prog_1_method_13_code 15 = .ok (.aload_n 0, 1) := by decide +kernel
theorem dM_92_16 : decode prog_1_method_13_code 16 = .ok (.iconst (-1), 1) := by decide +kernel
theorem dM_92_17 : decode prog_1_method_13_code 17 = .ok (.invokevirtual 89, 3) := by decide +kernel
theorem dM_92_20 : decode prog_1_method_13_code 20 = .ok (.ireturn, 1) := by decide +kernel
theorem dM_92_21 : decode prog_1_method_13_code 21 = .ok (.aload_n 0, 1) := by decide +kernel
theorem dM_92_22 : decode prog_1_method_13_code 22 = .ok (.iload_n 1, 1) := by decide +kernel
theorem dM_92_23 : decode prog_1_method_13_code 23 = .ok (.iconst 1, 1) := by decide +kernel
theorem dM_92_24 : decode prog_1_method_13_code 24 = .ok (.iadd, 1) := by decide +kernel
theorem dM_92_25 : decode prog_1_method_13_code 25 = .ok (.iload_n 2, 1) := by decide +kernel
theorem dM_92_26 : decode prog_1_method_13_code 26 = .ok (.invokevirtual 180, 3) := by decide +kernel
theorem dM_92_29 : decode prog_1_method_13_code 29 = .ok (.aload_n 0, 1) := by decide +kernel
theorem dM_92_30 : decode prog_1_method_13_code 30 = .ok (.iload_n 1, 1) := by decide +kernel
theorem dM_92_31 : decode prog_1_method_13_code 31 = .ok (.invokevirtual 183, 3) := by decide +kernel
theorem dM_92_34 : decode prog_1_method_13_code 34 = .ok (.ireturn, 1) := by decide +kernel
theorem dM_93_0 : decode prog_1_method_14_code 0 = .ok (.aload_n 0, 1) := by decide +kernel
theorem dM_93_1 : decode prog_1_method_14_code 1 = .ok (.iload_n 1, 1) := by decide +kernel
theorem dM_93_2 : decode prog_1_method_14_code 2 = .ok (.invokevirtual 126, 3) := by decide +kernel
theorem dM_93_5 : decode prog_1_method_14_code 5 = .ok (.ifCond .eq 11, 3) := by decide +kernel
theorem dM_93_8 : decode prog_1_method_14_code 8 = .ok (.aload_n 0, 1) := by decide +kernel
theorem dM_93_9 : decode prog_1_method_14_code 9 = .ok (.iload_n 2, 1) := by decide +kernel
theorem dM_93_10 : decode prog_1_method_14_code 10 = .ok (.invokevirtual 126, 3) := by decide +kernel
theorem dM_93_13 : decode prog_1_method_14_code 13 = .ok (.ifCond .ne 9, 3) := by decide +kernel
theorem dM_93_16 : decode prog_1_method_14_code 16 = .ok (.aload_n 0, 1) := by decide +kernel
theorem dM_93_17 : decode prog_1_method_14_code 17 = .ok (.iconst (-1), 1) := by decide +kernel
theorem dM_93_18 : decode prog_1_method_14_code 18 = .ok (.invokevirtual 89, 3) := by decide +kernel
theorem dM_93_21 : decode prog_1_method_14_code 21 = .ok (.ireturn, 1) := by decide +kernel
theorem dM_93_22 : decode prog_1_method_14_code 22 = .ok (.aload_n 0, 1) := by decide +kernel
theorem dM_93_23 : decode prog_1_method_14_code 23 = .ok (.aload_n 0, 1) := by decide +kernel
theorem dM_93_24 : decode prog_1_method_14_code 24 = .ok (.getfield 21, 3) := by decide +kernel
theorem dM_93_27 : decode prog_1_method_14_code 27 = .ok (.iload_n 1, 1) := by decide +kernel
theorem dM_93_28 : decode prog_1_method_14_code 28 = .ok (.invokevirtual 133, 3) := by decide +kernel
theorem dM_93_31 : decode prog_1_method_14_code 31 = .ok (.aload_n 0, 1) := by decide +kernel
theorem dM_93_32 : decode prog_1_method_14_code 32 = .ok (.getfield 21, 3) := by decide +kernel
theorem dM_93_35 : decode prog_1_method_14_code 35 = .ok (.iload_n 2, 1) := by decide +kernel
theorem dM_93_36 : decode prog_1_method_14_code 36 = .ok (.invokevirtual 133, 3) := by decide +kernel
theorem dM_93_39 : decode prog_1_method_14_code 39 = .ok (.invokevirtual 186, 3) := by decide +kernel
theorem dM_93_42 : decode prog_1_method_14_code 42 = .ok (.iconst 0, 1) := by decide +kernel
theorem dM_93_43 : decode prog_1_method_14_code 43 = .ok (.istore_n 3, 1) := by decide +kernel
theorem dM_93_44 : decode prog_1_method_14_code 44 = .ok (.iload_n 3, 1) := by decide +kernel
theorem dM_93_45 : decode prog_1_method_14_code 45 = .ok (.bipush 6, 2) := by decide +kernel
theorem dM_93_47 : decode prog_1_method_14_code 47 = .ok (.if_icmp .ge 37, 3) := by decide +kernel
theorem dM_93_50 : decode prog_1_method_14_code 50 = .ok (.aload_n 0, 1) := by decide +kernel
theorem dM_93_51 : decode prog_1_method_14_code 51 = .ok (.getfield 12, 3) := by decide +kernel
theorem dM_93_54 : decode prog_1_method_14_code 54 = .ok (.aload_n 0, 1) := by decide +kernel
theorem dM_93_55 : decode prog_1_method_14_code 55 = .ok (.getfield 21, 3) := by decide +kernel
theorem dM_93_58 : decode prog_1_method_14_code 58 = .ok (.getfield 33, 3) := by decide +kernel
theorem dM_93_61 : decode prog_1_method_14_code 61 = .ok (.aload_n 0, 1) := by decide +kernel
theorem dM_93_62 : decode prog_1_method_14_code 62 = .ok (.getfield 74, 3) := by decide +kernel
theorem dM_93_65 : decode prog_1_method_14_code 65 = .ok (.iload_n 3, 1) := by decide +kernel
theorem dM_93_66 : decode prog_1_method_14_code 66 = .ok (.iload_n 3, 1) := by decide +kernel
theorem dM_93_67 : decode prog_1_method_14_code 67 = .ok (.bipush 64, 2) := by decide +kernel
theorem dM_93_69 : decode prog_1_method_14_code 69 = .ok (.iadd, 1) := by decide +kernel
theorem dM_93_70 : decode prog_1_method_14_code 70 = .ok (.invokevirtual 190, 3) := by decide +kernel
theorem dM_93_73 : decode prog_1_method_14_code 73 = .ok (.ifCond .ne 5, 3) := by decide +kernel
theorem dM_93_76 : decode prog_1_method_14_code 76 = .ok (.iconst 0, 1) := by decide +kernel
theorem dM_93_77 : decode prog_1_method_14_code 77 = .ok (.ireturn, 1) := by decide +kernel
theorem dM_93_78 : decode prog_1_method_14_code 78 = .ok (.iinc 3 1, 3) := by decide +kernel
theorem dM_93_81 : decode prog_1_method_14_code 81 = .ok (.goto (-37), 3) := by decide +kernel
theorem dM_93_84 : decode prog_1_method_14_code 84 = .ok (.iconst 1, 1) := by decide +kernel
theorem dM_93_85 : decode prog_1_method_14_code 85 = .ok (.ireturn, 1) := by decide +kernel
theorem dM_94_0 : decode prog_1_method_36_code 0 = .ok (.aload_n 0, 1) := by decide +kernel
theorem dM_94_1 : decode prog_1_method_36_code 1 = .ok (.getfield 74, 3) := by decide +kernel
theorem dM_94_4 : decode prog_1_method_36_code 4 = .ok (.iconst (-1), 1) := by decide +kernel
theorem dM_94_5 : decode prog_1_method_36_code 5 = .ok (.invokestatic 247, 3) := by decide +kernel
theorem dM_94_8 : decode prog_1_method_36_code 8 = .ok (.iconst 0, 1) := by decide +kernel
theorem dM_94_9 : decode prog_1_method_36_code 9 = .ok (.istore_n 3, 1) := by decide +kernel
theorem dM_94_10 : decode prog_1_method_36_code 10 = .ok (.iload_n 3, 1) := by decide +kernel
theorem dM_94_11 : decode prog_1_method_36_code 11 = .ok (.bipush 64, 2) := by decide +kernel
theorem dM_94_13 : decode prog_1_method_36_code 13 = .ok (.if_icmp .ge 29, 3) := by decide +kernel
theorem dM_94_16 : decode prog_1_method_36_code 16 = .ok (.iload_n 3, 1) := by decide +kernel
theorem dM_94_17 : decode prog_1_method_36_code 17 = .ok (.aload_n 1, 1) := by decide +kernel
theorem dM_94_18 : decode prog_1_method_36_code 18 = .ok (.getfield 174, 3) := by decide +kernel
theorem dM_94_21 : decode prog_1_method_36_code 21 = .ok (.if_icmp .ge 21, 3) := by decide +kernel
theorem dM_94_24 : decode prog_1_method_36_code 24 = .ok (.aload_n 0, 1) := by decide +kernel
theorem dM_94_25 : decode prog_1_method_36_code 25 = .ok (.getfield 74, 3) := by decide +kernel
theorem dM_94_28 : decode prog_1_method_36_code 28 = .ok (.iload_n 3, 1) := by decide +kernel
theorem dM_94_29 : decode prog_1_method_36_code 29 = .ok (.aload_n 1, 1) := by decide +kernel
theorem dM_94_30 : decode prog_1_method_36_code 30 = .ok (.getfield 253, 3) := by decide +kernel
theorem dM_94_33 : decode prog_1_method_36_code 33 = .ok (.iload_n 3, 1) := by decide +kernel
theorem dM_94_34 : decode prog_1_method_36_code 34 = .ok (.iaload, 1) := by decide +kernel
theorem dM_94_35 : decode prog_1_method_36_code 35 = .ok (.iastore, 1) := by decide +kernel
theorem dM_94_36 : decode prog_1_method_36_code 36 = .ok (.iinc 3 1, 3) := by decide +kernel
theorem dM_94_39 : decode prog_1_method_36_code 39 = .ok (.goto (-29), 3) := by decide +kernel
theorem dM_94_42 : decode prog_1_method_36_code 42 = .ok (.iconst 0, 1) := by decide +kernel
theorem dM_94_43 : decode prog_1_method_36_code 43 = .ok (.istore_n 3, 1) := by decide +kernel
theorem dM_94_44 : decode prog_1_method_36_code 44 = .ok (.iload_n 3, 1) := by decide +kernel
theorem dM_94_45 : decode prog_1_method_36_code 45 = .ok (.bipush 64, 2) := by decide +kernel
theorem dM_94_47 : decode prog_1_method_36_code 47 = .ok (.if_icmp .ge 35, 3) := by decide +kernel
theorem dM_94_50 : decode prog_1_method_36_code 50 = .ok (.iload_n 3, 1) := by decide +kernel
theorem dM_94_51 : decode prog_1_method_36_code 51 = .ok (.aload_n 2, 1) := by decide +kernel
theorem dM_94_52 : decode prog_1_method_36_code 52 = .ok (.getfield 174, 3) := by decide +kernel
theorem dM_94_55 : decode prog_1_method_36_code 55 = .ok (.if_icmp .ge 27, 3) := by decide +kernel
theorem dM_94_58 : decode prog_1_method_36_code 58 = .ok (.aload_n 0, 1) := by decide +kernel
theorem dM_94_59 : decode prog_1_method_36_code 59 = .ok (.getfield 74, 3) := by decide +kernel
theorem dM_94_62 : decode prog_1_method_36_code 62 = .ok (.iload_n 3, 1) := by decide +kernel
theorem dM_94_63 : decode prog_1_method_36_code 63 = .ok (.bipush 64, 2) := by decide +kernel
theorem dM_94_65 : decode prog_1_method_36_code 65 = .ok (.iadd, 1) := by decide +kernel
theorem dM_94_66 : decode prog_1_method_36_code 66 = .ok (.aload_n 2, 1) := by decide +kernel
theorem dM_94_67 : decode prog_1_method_36_code 67 = .ok (.getfield 253, 3) := by decide +kernel
theorem dM_94_70 : decode prog_1_method_36_code 70 = .ok (.iload_n 3, 1) := by decide +kernel
theorem dM_94_71 : decode prog_1_method_36_code 71 = .ok (.iaload, 1) := by decide +kernel
theorem dM_94_72 : decode prog_1_method_36_code 72 = .ok (.invokestatic 256, 3) := by decide +kernel
theorem dM_94_75 : decode prog_1_method_36_code 75 = .ok (.iastore, 1) := by decide +kernel
theorem dM_94_76 : decode prog_1_method_36_code 76 = .ok (.iinc 3 1, 3) := by decide +kernel
theorem dM_94_79 : decode prog_1_method_36_code 79 = .ok (.goto (-35), 3) := by decide +kernel
theorem dM_94_82 : decode prog_1_method_36_code 82 = .ok (.return_, 1) := by decide +kernel
theorem dM_95_0 : decode prog_1_method_15_code 0 = .ok (.iload_n 1, 1) := by decide +kernel
theorem dM_95_1 : decode prog_1_method_15_code 1 = .ok (.iconst 1, 1) := by decide +kernel
theorem dM_95_2 : decode prog_1_method_15_code 2 = .ok (.if_icmp .ge 10, 3) := by decide +kernel
theorem dM_95_5 : decode prog_1_method_15_code 5 = .ok (.aload_n 0, 1) := by decide +kernel
theorem dM_95_6 : decode prog_1_method_15_code 6 = .ok (.bipush (-4), 2) := by decide +kernel
theorem dM_95_8 : decode prog_1_method_15_code 8 = .ok (.invokevirtual 89, 3) := by decide +kernel
theorem dM_95_11 : decode prog_1_method_15_code 11 = .ok (.ireturn, 1) := by decide +kernel
theorem dM_95_12 : decode prog_1_method_15_code 12 = .ok (.iload_n 1, 1) := by decide +kernel
theorem dM_95_13 : decode prog_1_method_15_code 13 = .ok (.bipush 10, 2) := by decide +kernel
theorem dM_95_15 : decode prog_1_method_15_code 15 = .ok (.if_icmp .le 10, 3) := by decide +kernel
theorem dM_95_18 : decode prog_1_method_15_code 18 = .ok (.aload_n 0, 1) := by decide +kernel
theorem dM_95_19 : decode prog_1_method_15_code 19 = .ok (.bipush (-6), 2) := by decide +kernel
theorem dM_95_21 : decode prog_1_method_15_code 21 = .ok (.invokevirtual 89, 3) := by decide +kernel
theorem dM_95_24 : decode prog_1_method_15_code 24 = .ok (.ireturn, 1) := by decide +kernel
theorem dM_95_25 : decode prog_1_method_15_code 25 = .ok (.aload_n 0, 1) := by decide +kernel
theorem dM_95_26 : decode prog_1_method_15_code 26 = .ok (.getfield 25, 3) := by decide +kernel
theorem dM_95_29 : decode prog_1_method_15_code 29 = .ok (.getfield 33, 3) := by decide +kernel
theorem dM_95_32 : decode prog_1_method_15_code 32 = .ok (.aload_n 0, 1) := by decide +kernel
theorem dM_95_33 : decode prog_1_method_15_code 33 = .ok (.getfield 21, 3) := by decide +kernel
theorem dM_95_36 : decode prog_1_method_15_code 36 = .ok (.getfield 33, 3) := by decide +kernel
theorem dM_95_39 : decode prog_1_method_15_code 39 = .ok (.invokevirtual 107, 3) := by decide +kernel
theorem dM_95_42 : decode prog_1_method_15_code 42 = .ok (.aload_n 0, 1) := by decide +kernel
theorem dM_95_43 : decode prog_1_method_15_code 43 = .ok (.getfield 25, 3) := by decide +kernel
theorem dM_95_46 : decode prog_1_method_15_code 46 = .ok (.invokevirtual 112, 3) := by decide +kernel
theorem dM_95_49 : decode prog_1_method_15_code 49 = .ok (.aload_n 0, 1) := by decide +kernel
theorem dM_95_50 : decode prog_1_method_15_code 50 = .ok (.getfield 25, 3) := by decide +kernel
theorem dM_95_53 : decode prog_1_method_15_code 53 = .ok (.sipush 300, 3) := by decide +kernel
theorem dM_95_56 : decode prog_1_method_15_code 56 = .ok (.iload_n 1, 1) := by decide +kernel
theorem dM_95_57 : decode prog_1_method_15_code 57 = .ok (.invokevirtual 119, 3) := by decide +kernel
theorem dM_95_60 : decode prog_1_method_15_code 60 = .ok (.aload_n 0, 1) := by decide +kernel
theorem dM_95_61 : decode prog_1_method_15_code 61 = .ok (.getfield 25, 3) := by decide +kernel
theorem dM_95_64 : decode prog_1_method_15_code 64 = .ok (.getfield 123, 3) := by decide +kernel
theorem dM_95_67 : decode prog_1_method_15_code 67 = .ok (.iload_n 1, 1) := by decide +kernel
theorem dM_95_68 : decode prog_1_method_15_code 68 = .ok (.if_icmp .ge 8, 3) := by decide +kernel
theorem dM_95_71 : decode prog_1_method_15_code 71 = .ok (.bipush (-9), 2) := by decide +kernel
theorem dM_95_73 : decode prog_1_method_15_code 73 = .ok (.goto 13, 3) := by decide +kernel
theorem dM_95_76 : decode prog_1_method_15_code 76 = .ok (.aload_n 0, 1) := by decide +kernel
theorem dM_95_77 : decode prog_1_method_15_code 77 = .ok (.getfield 25, 3) := by decide +kernel
theorem dM_95_80 : decode prog_1_method_15_code 80 = .ok (.iload_n 1, 1) := by decide +kernel
theorem dM_95_81 : decode prog_1_method_15_code 81 = .ok (.iconst 1, 1) := by decide +kernel
theorem dM_95_82 : decode prog_1_method_15_code 82 = .ok (.isub, 1) := by decide +kernel
theorem dM_95_83 : decode prog_1_method_15_code 83 = .ok (.invokevirtual 147, 3) := by decide +kernel
theorem dM_95_86 : decode prog_1_method_15_code 86 = .ok (.ireturn, 1) := by decide +kernel
theorem dM_96_0 : decode prog_1_method_16_code 0 = .ok (.iload_n 1, 1) := by decide +kernel
theorem dM_96_1 : decode prog_1_method_16_code 1 = .ok (.invokestatic 130, 3) := by decide +kernel
theorem dM_96_4 : decode prog_1_method_16_code 4 = .ok (.ifCond .ne 9, 3) := by decide +kernel
theorem dM_96_7 : decode prog_1_method_16_code 7 = .ok (.aload_n 0, 1) := by decide +kernel
theorem dM_96_8 : decode prog_1_method_16_code 8 = .ok (.iconst (-1), 1) := by decide +kernel
theorem dM_96_9 : decode prog_1_method_16_code 9 = .ok (.invokevirtual 89, 3) := by decide +kernel
theorem dM_96_12 : decode prog_1_method_16_code 12 = .ok (.ireturn, 1) := by decide +kernel
theorem dM_96_13 : decode prog_1_method_16_code 13 = .ok (.iload_n 2, 1) := by decide +kernel
theorem dM_96_14 : decode prog_1_method_16_code 14 = .ok (.ifCond .ge 10, 3) := by decide +kernel
theorem dM_96_17 : decode prog_1_method_16_code 17 = .ok (.aload_n 0, 1) := by decide +kernel
theorem dM_96_18 : decode prog_1_method_16_code 18 = .ok (.bipush (-4), 2) := by decide +kernel
theorem dM_96_20 : decode prog_1_method_16_code 20 = .ok (.invokevirtual 89, 3) := by decide +kernel
theorem dM_96_23 : decode prog_1_method_16_code 23 = .ok (.ireturn, 1) := by decide +kernel
theorem dM_96_24 : decode prog_1_method_16_code 24 = .ok (.iload_n 2, 1) := by decide +kernel
theorem dM_96_25 : decode prog_1_method_16_code 25 = .ok (.bipush 10, 2) := by decide +kernel
theorem dM_96_27 : decode prog_1_method_16_code 27 = .ok (.if_icmp .lt 10, 3) := by decide +kernel
theorem dM_96_30 : decode prog_1_method_16_code 30 = .ok (.aload_n 0, 1) := by decide +kernel
theorem dM_96_31 : decode prog_1_method_16_code 31 = .ok (.bipush (-6), 2) := by decide +kernel
theorem dM_96_33 : decode prog_1_method_16_code 33 = .ok (.invokevirtual 89, 3) := by decide +kernel
theorem dM_96_36 : decode prog_1_method_16_code 36 = .ok (.ireturn, 1) := by decide +kernel
theorem dM_96_37 : decode prog_1_method_16_code 37 = .ok (.aload_n 0, 1) := by decide +kernel
theorem dM_96_38 : decode prog_1_method_16_code 38 = .ok (.iload_n 1, 1) := by decide +kernel
theorem dM_96_39 : decode prog_1_method_16_code 39 = .ok (.iload_n 2, 1) := by decide +kernel
theorem dM_96_40 : decode prog_1_method_16_code 40 = .ok (.invokevirtual 194, 3) := by decide +kernel
theorem dM_96_43 : decode prog_1_method_16_code 43 = .ok (.aload_n 0, 1) := by decide +kernel
theorem dM_96_44 : decode prog_1_method_16_code 44 = .ok (.getfield 25, 3) := by decide +kernel
theorem dM_96_47 : decode prog_1_method_16_code 47 = .ok (.bipush 120, 2) := by decide +kernel
theorem dM_96_49 : decode prog_1_method_16_code 49 = .ok (.bipush 30, 2) := by decide +kernel
theorem dM_96_51 : decode prog_1_method_16_code 51 = .ok (.invokevirtual 119, 3) := by decide +kernel
theorem dM_96_54 : decode prog_1_method_16_code 54 = .ok (.aload_n 0, 1) := by decide +kernel
theorem dM_96_55 : decode prog_1_method_16_code 55 = .ok (.getfield 25, 3) := by decide +kernel
theorem dM_96_58 : decode prog_1_method_16_code 58 = .ok (.getfield 123, 3) := by decide +kernel
theorem dM_96_61 : decode prog_1_method_16_code 61 = .ok (.ireturn, 1) := by decide +kernel
theorem dM_97_0 : decode prog_1_method_37_code 0 = .ok (.aload_n 0, 1) := by decide +kernel
theorem dM_97_1 : decode prog_1_method_37_code 1 = .ok (.getfield 25, 3) := by decide +kernel
theorem dM_97_4 : decode prog_1_method_37_code 4 = .ok (.getfield 33, 3) := by decide +kernel
theorem dM_97_7 : decode prog_1_method_37_code 7 = .ok (.astore_n 3, 1) := by decide +kernel
theorem dM_97_8 : decode prog_1_method_37_code 8 = .ok (.aload_n 3, 1) := by decide +kernel
theorem dM_97_9 : decode prog_1_method_37_code 9 = .ok (.aload_n 0, 1) := by decide +kernel
theorem dM_97_10 : decode prog_1_method_37_code 10 = .ok (.getfield 21, 3) := by decide +kernel
theorem dM_97_13 : decode prog_1_method_37_code 13 = .ok (.getfield 33, 3) := by decide +kernel
theorem dM_97_16 : decode prog_1_method_37_code 16 = .ok (.invokevirtual 107, 3) := by decide +kernel
theorem dM_97_19 : decode prog_1_method_37_code 19 = .ok (.aload_n 3, 1) := by decide +kernel
theorem dM_97_20 : decode prog_1_method_37_code 20 = .ok (.bipush 61, 2) := by decide +kernel
theorem dM_97_22 : decode prog_1_method_37_code 22 = .ok (.invokevirtual 259, 3) := by decide +kernel
theorem dM_97_25 : decode prog_1_method_37_code 25 = .ok (.istore 4, 2) := by decide +kernel
theorem dM_97_27 : decode prog_1_method_37_code 27 = .ok (.aload_n 3, 1) := by decide +kernel
theorem dM_97_28 : decode prog_1_method_37_code 28 = .ok (.iload 4, 2) := by decide +kernel
theorem dM_97_30 : decode prog_1_method_37_code 30 = .ok (.iconst 0, 1) := by decide +kernel
theorem dM_97_31 : decode prog_1_method_37_code 31 = .ok (.iload_n 1, 1) := by decide +kernel
theorem dM_97_32 : decode prog_1_method_37_code 32 = .ok (.invokevirtual 207, 3) := by decide +kernel
theorem dM_97_35 : decode prog_1_method_37_code 35 = .ok (.aload_n 3, 1) := by decide +kernel
theorem dM_97_36 : decode prog_1_method_37_code 36 = .ok (.iload 4, 2) := by decide +kernel
theorem dM_97_38 : decode prog_1_method_37_code 38 = .ok (.iconst 1, 1) := by decide +kernel
theorem dM_97_39 : decode prog_1_method_37_code 39 = .ok (.sipush 128, 3) := by decide +kernel
theorem dM_97_42 : decode prog_1_method_37_code 42 = .ok (.iload_n 2, 1) := by decide +kernel
theorem dM_97_43 : decode prog_1_method_37_code 43 = .ok (.iadd, 1) := by decide +kernel
theorem dM_97_44 : decode prog_1_method_37_code 44 = .ok (.invokevirtual 207, 3) := by decide +kernel
theorem dM_97_47 : decode prog_1_method_37_code 47 = .ok (.aload_n 3, 1) := by decide +kernel
theorem dM_97_48 : decode prog_1_method_37_code 48 = .ok (.bipush 38, 2) := by decide +kernel
theorem dM_97_50 : decode prog_1_method_37_code 50 = .ok (.invokevirtual 259, 3) := by decide +kernel
theorem dM_97_53 : decode prog_1_method_37_code 53 = .ok (.istore 5, 2) := by decide +kernel
theorem dM_97_55 : decode prog_1_method_37_code 55 = .ok (.aload_n 3, 1) := by decide +kernel
theorem dM_97_56 : decode prog_1_method_37_code 56 = .ok (.iload 5, 2) := by decide +kernel
theorem dM_97_58 : decode prog_1_method_37_code 58 = .ok (.iconst 0, 1) := by decide +kernel
theorem dM_97_59 : decode prog_1_method_37_code 59 = .ok (.iload 4, 2) := by decide +kernel
theorem dM_97_61 : decode prog_1_method_37_code 61 = .ok (.invokevirtual 207, 3) := by decide +kernel
theorem dM_97_64 : decode prog_1_method_37_code 64 = .ok (.aload_n 3, 1) := by decide +kernel
theorem dM_97_65 : decode prog_1_method_37_code 65 = .ok (.iload 5, 2) := by decide +kernel
theorem dM_97_67 : decode prog_1_method_37_code 67 = .ok (.iconst 1, 1) := by decide +kernel
theorem dM_97_68 : decode prog_1_method_37_code 68 = .ok (.aload_n 3, 1) := by decide +kernel
theorem dM_97_69 : decode prog_1_method_37_code 69 = .ok (.getfield 197, 3) := by decide +kernel
theorem dM_97_72 : decode prog_1_method_37_code 72 = .ok (.invokevirtual 207, 3) := by decide +kernel
theorem dM_97_75 : decode prog_1_method_37_code 75 = .ok (.aload_n 3, 1) := by decide +kernel
theorem dM_97_76 : decode prog_1_method_37_code 76 = .ok (.iload 5, 2) := by decide +kernel
theorem dM_97_78 : decode prog_1_method_37_code 78 = .ok (.aload_n 3, 1) := by decide +kernel
theorem dM_97_79 : decode prog_1_method_37_code 79 = .ok (.getfield 244, 3) := by decide +kernel
theorem dM_97_82 : decode prog_1_method_37_code 82 = .ok (.invokevirtual 262, 3) := by decide +kernel
theorem dM_97_85 : decode prog_1_method_37_code 85 = .ok (.aload_n 0, 1) := by decide +kernel
theorem dM_97_86 : decode prog_1_method_37_code 86 = .ok (.getfield 25, 3) := by decide +kernel
theorem dM_97_89 : decode prog_1_method_37_code 89 = .ok (.invokevirtual 112, 3) := by decide +kernel
theorem dM_97_92 : decode prog_1_method_37_code 92 = .ok (.return_, 1) := by decide +kernel
theorem dM_98_0 : decode prog_1_method_17_code 0 = .ok (.iload_n 1, 1) := by decide +kernel
theorem dM_98_1 : decode prog_1_method_17_code 1 = .ok (.invokestatic 130, 3) := by decide +kernel
theorem dM_98_4 : decode prog_1_method_17_code 4 = .ok (.ifCond .ne 9, 3) := by decide +kernel
theorem dM_98_7 : decode prog_1_method_17_code 7 = .ok (.aload_n 0, 1) := by decide +kernel
theorem dM_98_8 : decode prog_1_method_17_code 8 = .ok (.iconst (-1), 1) := by decide +kernel
theorem dM_98_9 : decode prog_1_method_17_code 9 = .ok (.invokevirtual 89, 3) := by decide +kernel
theorem dM_98_12 : decode prog_1_method_17_code 12 = .ok (.ireturn, 1) := by decide +kernel
theorem dM_98_13 : decode prog_1_method_17_code 13 = .ok (.iconst 0, 1) := by decide +kernel
theorem dM_98_14 : decode prog_1_method_17_code 14 = .ok (.istore_n 2, 1) := by decide +kernel
theorem dM_98_15 : decode prog_1_method_17_code 15 = .ok (.iload_n 2, 1) := by decide +kernel
theorem dM_98_16 : decode prog_1_method_17_code 16 = .ok (.bipush 10, 2) := by decide +kernel
theorem dM_98_18 : decode prog_1_method_17_code 18 = .ok (.if_icmp .ge 37, 3) := by decide +kernel
theorem dM_98_21 : decode prog_1_method_17_code 21 = .ok (.aload_n 0, 1) := by decide +kernel
theorem dM_98_22 : decode prog_1_method_17_code 22 = .ok (.iload_n 1, 1) := by decide +kernel
theorem dM_98_23 : decode prog_1_method_17_code 23 = .ok (.iload_n 2, 1) := by decide +kernel
theorem dM_98_24 : decode prog_1_method_17_code 24 = .ok (.invokevirtual 194, 3) := by decide +kernel
theorem dM_98_27 : decode prog_1_method_17_code 27 = .ok (.aload_n 0, 1) := by decide +kernel
theorem dM_98_28 : decode prog_1_method_17_code 28 = .ok (.getfield 25, 3) := by decide +kernel
theorem dM_98_31 : decode prog_1_method_17_code 31 = .ok (.bipush 120, 2) := by decide +kernel
theorem dM_98_33 : decode prog_1_method_17_code 33 = .ok (.iconst 1, 1) := by decide +kernel
theorem dM_98_34 : decode prog_1_method_17_code 34 = .ok (.invokevirtual 119, 3) := by decide +kernel
theorem dM_98_37 : decode prog_1_method_17_code 37 = .ok (.aload_n 0, 1) := by decide +kernel
theorem dM_98_38 : decode prog_1_method_17_code 38 = .ok (.getfield 25, 3) := by decide +kernel
theorem dM_98_41 : decode prog_1_method_17_code 41 = .ok (.getfield 123, 3) := by decide +kernel
theorem dM_98_44 : decode prog_1_method_17_code 44 = .ok (.ifCond .le 5, 3) := by decide +kernel
theorem dM_98_47 : decode prog_1_method_17_code 47 = .ok (.iload_n 2, 1) := by decide +kernel
theorem dM_98_48 : decode prog_1_method_17_code 48 = .ok (.ireturn, 1) := by decide +kernel
theorem dM_98_49 : decode prog_1_method_17_code 49 = .ok (.iinc 2 1, 3) := by decide +kernel
theorem dM_98_52 : decode prog_1_method_17_code 52 = .ok (.goto (-37), 3) := by decide +kernel
theorem dM_98_55 : decode prog_1_method_17_code 55 = .ok (.bipush (-9), 2) := by decide +kernel
theorem dM_98_57 : decode prog_1_method_17_code 57 = .ok (.ireturn, 1) := by decide +kernel
theorem dM_99_0 : decode prog_1_method_18_code 0 = .ok (.iload_n 1, 1) := by decide +kernel
theorem dM_99_1 : decode prog_1_method_18_code 1 = .ok (.ifCond .eq 15, 3) := by decide +kernel
theorem dM_99_4 : decode prog_1_method_18_code 4 = .ok (.iload_n 1, 1) := by decide +kernel
theorem dM_99_5 : decode prog_1_method_18_code 5 = .ok (.iconst 1, 1) := by decide +kernel
theorem dM_99_6 : decode prog_1_method_18_code 6 = .ok (.if_icmp .eq 10, 3) := by decide +kernel
theorem dM_99_9 : decode prog_1_method_18_code 9 = .ok (.aload_n 0, 1) := by decide +kernel
theorem dM_99_10 : decode prog_1_method_18_code 10 = .ok (.bipush (-2), 2) := by decide +kernel
theorem dM_99_12 : decode prog_1_method_18_code 12 = .ok (.invokevirtual 89, 3) := by decide +kernel
theorem dM_99_15 : decode prog_1_method_18_code 15 = .ok (.ireturn, 1) := by decide +kernel
theorem dM_99_16 : decode prog_1_method_18_code 16 = .ok (.aload_n 0, 1) := by decide +kernel
theorem dM_99_17 : decode prog_1_method_18_code 17 = .ok (.getfield 21, 3) := by decide +kernel
theorem dM_99_20 : decode prog_1_method_18_code 20 = .ok (.getfield 33, 3) := by decide +kernel
theorem dM_99_23 : decode prog_1_method_18_code 23 = .ok (.astore_n 2, 1) := by decide +kernel
theorem dM_99_24 : decode prog_1_method_18_code 24 = .ok (.aload_n 2, 1) := by decide +kernel
theorem dM_99_25 : decode prog_1_method_18_code 25 = .ok (.aload_n 2, 1) := by decide +kernel
theorem dM_99_26 : decode prog_1_method_18_code 26 = .ok (.getfield 197, 3) := by decide +kernel
theorem dM_99_29 : decode prog_1_method_18_code 29 = .ok (.invokevirtual 200, 3) := by decide +kernel
theorem dM_99_32 : decode prog_1_method_18_code 32 = .ok (.istore_n 3, 1) := by decide +kernel
theorem dM_99_33 : decode prog_1_method_18_code 33 = .ok (.iload_n 3, 1) := by decide +kernel
theorem dM_99_34 : decode prog_1_method_18_code 34 = .ok (.bipush 38, 2) := by decide +kernel
theorem dM_99_36 : decode prog_1_method_18_code 36 = .ok (.if_icmp .eq 16, 3) := by decide +kernel
theorem dM_99_39 : decode prog_1_method_18_code 39 = .ok (.iload_n 3, 1) := by decide +kernel
theorem dM_99_40 : decode prog_1_method_18_code 40 = .ok (.bipush 124, 2) := by decide +kernel
theorem dM_99_42 : decode prog_1_method_18_code 42 = .ok (.if_icmp .eq 10, 3) := by decide +kernel
theorem dM_99_45 : decode prog_1_method_18_code 45 = .ok (.aload_n 0, 1) := by decide +kernel
theorem dM_99_46 : decode prog_1_method_18_code 46 = .ok (.bipush (-3), 2) := by decide +kernel
theorem dM_99_48 : decode prog_1_method_18_code 48 = .ok (.invokevirtual 89, 3) := by decide +kernel
theorem dM_99_51 : decode prog_1_method_18_code 51 = .ok (.ireturn, 1) := by decide +kernel
theorem dM_99_52 : decode prog_1_method_18_code 52 = .ok (.aload_n 0, 1) := by decide +kernel
theorem dM_99_53 : decode prog_1_method_18_code 53 = .ok (.getfield 25, 3) := by decide +kernel
theorem dM_99_56 : decode prog_1_method_18_code 56 = .ok (.getfield 33, 3) := by decide +kernel
theorem dM_99_59 : decode prog_1_method_18_code 59 = .ok (.astore 4, 2) := by decide +kernel
theorem dM_99_61 : decode prog_1_method_18_code 61 = .ok (.aload 4, 2) := by decide +kernel
theorem dM_99_63 : decode prog_1_method_18_code 63 = .ok (.aload_n 2, 1) := by decide +kernel
theorem dM_99_64 : decode prog_1_method_18_code 64 = .ok (.invokevirtual 107, 3) := by decide +kernel
theorem dM_99_67 : decode prog_1_method_18_code 67 = .ok (.aload 4, 2) := by decide +kernel
theorem dM_99_69 : decode prog_1_method_18_code 69 = .ok (.aload 4, 2) := by decide +kernel
theorem dM_99_71 : decode prog_1_method_18_code 71 = .ok (.getfield 197, 3) := by decide +kernel
theorem dM_99_74 : decode prog_1_method_18_code 74 = .ok (.iconst 0, 1) := by decide +kernel
theorem dM_99_75 : decode prog_1_method_18_code 75 = .ok (.aload_n 2, 1) := by decide +kernel
theorem dM_99_76 : decode prog_1_method_18_code 76 = .ok (.aload_n 2, 1) := by decide +kernel
theorem dM_99_77 : decode prog_1_method_18_code 77 = .ok (.getfield 197, 3) := by decide +kernel
theorem dM_99_80 : decode prog_1_method_18_code 80 = .ok (.iconst 1, 1) := by decide +kernel
theorem dM_99_81 : decode prog_1_method_18_code 81 = .ok (.invokevirtual 203, 3) := by decide +kernel
theorem dM_99_84 : decode prog_1_method_18_code 84 = .ok (.invokevirtual 207, 3) := by decide +kernel
theorem dM_99_87 : decode prog_1_method_18_code 87 = .ok (.aload 4, 2) := by decide +kernel
theorem dM_99_89 : decode prog_1_method_18_code 89 = .ok (.aload 4, 2) := by decide +kernel
theorem dM_99_91 : decode prog_1_method_18_code 91 = .ok (.getfield 197, 3) := by decide +kernel
theorem dM_99_94 : decode prog_1_method_18_code 94 = .ok (.iconst 1, 1) := by decide +kernel
theorem dM_99_95 : decode prog_1_method_18_code 95 = .ok (.aload_n 2, 1) := by decide +kernel
theorem dM_99_96 : decode prog_1_method_18_code 96 = .ok (.aload_n 2, 1) := by decide +kernel
theorem dM_99_97 : decode prog_1_method_18_code 97 = .ok (.getfield 197, 3) := by decide +kernel
theorem dM_99_100 : decode prog_1_method_18_code 100 = .ok (.iconst 0, 1) := by decide +kernel
theorem dM_99_101 : decode prog_1_method_18_code 101 = .ok (.invokevirtual 203, 3) := by decide +kernel
theorem dM_99_104 : decode prog_1_method_18_code 104 = .ok (.invokevirtual 207, 3) := by decide +kernel
theorem dM_99_107 : decode prog_1_method_18_code 107 = .ok (.aload_n 0, 1) := by decide +kernel
theorem dM_99_108 : decode prog_1_method_18_code 108 = .ok (.getfield 25, 3) := by decide +kernel
theorem dM_99_111 : decode prog_1_method_18_code 111 = .ok (.invokevirtual 112, 3) := by decide +kernel
theorem dM_99_114 : decode prog_1_method_18_code 114 = .ok (.aload_n 0, 1) := by decide +kernel
theorem dM_99_115 : decode prog_1_method_18_code 115 = .ok (.getfield 25, 3) := by decide +kernel
theorem dM_99_118 : decode prog_1_method_18_code 118 = .ok (.bipush 120, 2) := by decide +kernel
theorem dM_99_120 : decode prog_1_method_18_code 120 = .ok (.bipush 30, 2) := by decide +kernel
theorem dM_99_122 : decode prog_1_method_18_code 122 = .ok (.invokevirtual 119, 3) := by decide +kernel
theorem dM_99_125 : decode prog_1_method_18_code 125 = .ok (.iload_n 1, 1) := by decide +kernel
theorem dM_99_126 : decode prog_1_method_18_code 126 = .ok (.ifCond .ne 11, 3) := by decide +kernel
theorem dM_99_129 : decode prog_1_method_18_code 129 = .ok (.aload_n 0, 1) := by decide +kernel
theorem dM_99_130 : decode prog_1_method_18_code 130 = .ok (.getfield 25, 3) := by decide +kernel
theorem dM_99_133 : decode prog_1_method_18_code 133 = .ok (.getfield 123, 3) := by decide +kernel
theorem dM_99_136 : decode prog_1_method_18_code 136 = .ok (.ireturn, 1) := by decide +kernel
theorem dM_99_137 : decode prog_1_method_18_code 137 = .ok (.aload_n 0, 1) := by decide +kernel
theorem dM_99_138 : decode prog_1_method_18_code 138 = .ok (.getfield 25, 3) := by decide +kernel
theorem dM_99_141 : decode prog_1_method_18_code 141 = .ok (.getfield 123, 3) := by decide +kernel
theorem dM_99_144 : decode prog_1_method_18_code 144 = .ok (.ifCond .ne 8, 3) := by decide +kernel
theorem dM_99_147 : decode prog_1_method_18_code 147 = .ok (.bipush (-9), 2) := by decide +kernel
theorem dM_99_149 : decode prog_1_method_18_code 149 = .ok (.goto 11, 3) := by decide +kernel
theorem dM_99_152 : decode prog_1_method_18_code 152 = .ok (.aload_n 0, 1) := by decide +kernel
theorem dM_99_153 : decode prog_1_method_18_code 153 = .ok (.getfield 25, 3) := by decide +kernel
theorem dM_99_156 : decode prog_1_method_18_code 156 = .ok (.iconst 0, 1) := by decide +kernel
theorem dM_99_157 : decode prog_1_method_18_code 157 = .ok (.invokevirtual 147, 3) := by decide +kernel
theorem dM_99_160 : decode prog_1_method_18_code 160 = .ok (.ireturn, 1) := by decide +kernel
theorem dM_100_0 : decode prog_1_method_19_code 0 = .ok (.iload_n 1, 1) := by decide +kernel
theorem dM_100_1 : decode prog_1_method_19_code 1 = .ok (.ifCond .eq 20, 3) := by decide +kernel
theorem dM_100_4 : decode prog_1_method_19_code 4 = .ok (.iload_n 1, 1) := by decide +kernel
theorem dM_100_5 : decode prog_1_method_19_code 5 = .ok (.iconst 1, 1) := by decide +kernel
theorem dM_100_6 : decode prog_1_method_19_code 6 = .ok (.if_icmp .eq 15, 3) := by decide +kernel
theorem dM_100_9 : decode prog_1_method_19_code 9 = .ok (.ldc2_w 211, 3) := by decide +kernel
theorem dM_100_12 : decode prog_1_method_19_code 12 = .ok (.aload_n 0, 1) := by decide +kernel
theorem dM_100_13 : decode prog_1_method_19_code 13 = .ok (.bipush (-2), 2) := by decide +kernel
theorem dM_100_15 : decode prog_1_method_19_code 15 = .ok (.invokevirtual 89, 3) := by decide +kernel
theorem dM_100_18 : decode prog_1_method_19_code 18 = .ok (.i2l, 1) := by decide +kernel
theorem dM_100_19 : decode prog_1_method_19_code 19 = .ok (.lsub, 1) := by decide +kernel
theorem dM_100_20 : decode prog_1_method_19_code 20 = .ok (.lreturn, 1) := by decide +kernel
theorem dM_100_21 : decode prog_1_method_19_code 21 = .ok (.aload_n 0, 1) := by decide +kernel
theorem dM_100_22 : decode prog_1_method_19_code 22 = .ok (.getfield 21, 3) := by decide +kernel
theorem dM_100_25 : decode prog_1_method_19_code 25 = .ok (.getfield 123, 3) := by decide +kernel
theorem dM_100_28 : decode prog_1_method_19_code 28 = .ok (.ifCond .ne 6, 3) := by decide +kernel
theorem dM_100_31 : decode prog_1_method_19_code 31 = .ok (.iload_n 1, 1) := by decide +kernel
theorem dM_100_32 : decode prog_1_method_19_code 32 = .ok (.i2l, 1) := by decide +kernel
theorem dM_100_33 : decode prog_1_method_19_code 33 = .ok (.lreturn, 1) := by decide +kernel
theorem dM_100_34 : decode prog_1_method_19_code 34 = .ok (.aload_n 0, 1) := by decide +kernel
theorem dM_100_35 : decode prog_1_method_19_code 35 = .ok (.getfield 21, 3) := by decide +kernel
theorem dM_100_38 : decode prog_1_method_19_code 38 = .ok (.getfield 123, 3) := by decide +kernel
theorem dM_100_41 : decode prog_1_method_19_code 41 = .ok (.aload_n 0, 1) := by decide +kernel
theorem dM_100_42 : decode prog_1_method_19_code 42 = .ok (.getfield 21, 3) := by decide +kernel
theorem dM_100_45 : decode prog_1_method_19_code 45 = .ok (.getfield 115, 3) := by decide +kernel
theorem dM_100_48 : decode prog_1_method_19_code 48 = .ok (.invokestatic 213, 3) := by decide +kernel
theorem dM_100_51 : decode prog_1_method_19_code 51 = .ok (.istore_n 2, 1) := by decide +kernel
theorem dM_100_52 : decode prog_1_method_19_code 52 = .ok (.iload_n 1, 1) := by decide +kernel
theorem dM_100_53 : decode prog_1_method_19_code 53 = .ok (.ifCond .ne 13, 3) := by decide +kernel
theorem dM_100_56 : decode prog_1_method_19_code 56 = .ok (.aload_n 0, 1) := by decide +kernel
theorem dM_100_57 : decode prog_1_method_19_code 57 = .ok (.getfield 21, 3) := by decide +kernel
theorem dM_100_60 : decode prog_1_method_19_code 60 = .ok (.getfield 123, 3) := by decide +kernel
theorem dM_100_63 : decode prog_1_method_19_code 63 = .ok (.goto 10, 3) := by decide +kernel
theorem dM_100_66 : decode prog_1_method_19_code 66 = .ok (.aload_n 0, 1) := by decide +kernel
theorem dM_100_67 : decode prog_1_method_19_code 67 = .ok (.getfield 21, 3) := by decide +kernel
theorem dM_100_70 : decode prog_1_method_19_code 70 = .ok (.getfield 115, 3) := by decide +kernel
theorem dM_100_73 : decode prog_1_method_19_code 73 = .ok (.istore_n 3, 1) := by decide +kernel
theorem dM_100_74 : decode prog_1_method_19_code 74 = .ok (.iload_n 2, 1) := by decide +kernel
theorem dM_100_75 : decode prog_1_method_19_code 75 = .ok (.iconst 1, 1) := by decide +kernel
theorem dM_100_76 : decode prog_1_method_19_code 76 = .ok (.if_icmp .ge 8, 3) := by decide +kernel
theorem dM_100_79 : decode prog_1_method_19_code 79 = .ok (.iload_n 3, 1) := by decide +kernel
theorem dM_100_80 : decode prog_1_method_19_code 80 = .ok (.i2l, 1) := by decide +kernel
theorem dM_100_81 : decode prog_1_method_19_code 81 = .ok (.goto 7, 3) := by decide +kernel
theorem dM_100_84 : decode prog_1_method_19_code 84 = .ok (.iload_n 3, 1) := by decide +kernel
theorem dM_100_85 : decode prog_1_method_19_code 85 = .ok (.iload_n 2, 1) := by decide +kernel
theorem dM_100_86 : decode prog_1_method_19_code 86 = .ok (.idiv, 1) := by decide +kernel
theorem dM_100_87 : decode prog_1_method_19_code 87 = .ok (.i2l, 1) := by decide +kernel
theorem dM_100_88 : decode prog_1_method_19_code 88 = .ok (.lreturn, 1) := by decide +kernel
theorem dM_101_0 : decode prog_1_method_35_code 0 = .ok (.iload_n 0, 1) := by decide +kernel
theorem dM_101_1 : decode prog_1_method_35_code 1 = .ok (.istore_n 2, 1) := by decide +kernel
theorem dM_101_2 : decode prog_1_method_35_code 2 = .ok (.iload_n 1, 1) := by decide +kernel
theorem dM_101_3 : decode prog_1_method_35_code 3 = .ok (.istore_n 3, 1) := by decide +kernel
theorem dM_101_4 : decode prog_1_method_35_code 4 = .ok (.iconst 0, 1) := by decide +kernel
theorem dM_101_5 : decode prog_1_method_35_code 5 = .ok (.istore 4, 2) := by decide +kernel
theorem dM_101_7 : decode prog_1_method_35_code 7 = .ok (.iload 4, 2) := by decide +kernel
theorem dM_101_9 : decode prog_1_method_35_code 9 = .ok (.bipush 64, 2) := by decide +kernel
theorem dM_101_11 : decode prog_1_method_35_code 11 = .ok (.if_icmp .ge 23, 3) := by decide +kernel
theorem dM_101_14 : decode prog_1_method_35_code 14 = .ok (.iload_n 3, 1) := by decide +kernel
theorem dM_101_15 : decode prog_1_method_35_code 15 = .ok (.ifCond .le 19, 3) := by decide +kernel
theorem dM_101_18 : decode prog_1_method_35_code 18 = .ok (.iload_n 2, 1) := by decide +kernel
theorem dM_101_19 : decode prog_1_method_35_code 19 = .ok (.iload_n 3, 1) := by decide +kernel
theorem dM_101_20 : decode prog_1_method_35_code 20 = .ok (.irem, 1) := by decide +kernel
theorem dM_101_21 : decode prog_1_method_35_code 21 = .ok (.istore 5, 2) := by decide +kernel
theorem dM_101_23 : decode prog_1_method_35_code 23 = .ok (.iload_n 3, 1) := by decide +kernel
theorem dM_101_24 : decode prog_1_method_35_code 24 = .ok (.istore_n 2, 1) := by decide +kernel
theorem dM_101_25 : decode prog_1_method_35_code 25 = .ok (.iload 5, 2) := by decide +kernel
theorem dM_101_27 : decode prog_1_method_35_code 27 = .ok (.istore_n 3, 1) := by decide +kernel
theorem dM_101_28 : decode prog_1_method_35_code 28 = .ok (.iinc 4 1, 3) := by decide +kernel
theorem dM_101_31 : decode prog_1_method_35_code 31 = .ok (.goto (-24), 3) := by decide +kernel
theorem dM_101_34 : decode prog_1_method_35_code 34 = .ok (.iload_n 2, 1) := by decide +kernel
theorem dM_101_35 : decode prog_1_method_35_code 35 = .ok (.ireturn, 1) := by decide +kernel
theorem dM_102_0 : decode prog_1_method_20_code 0 = .ok (.iload_n 1, 1) := by decide +kernel
theorem dM_102_1 : decode prog_1_method_20_code 1 = .ok (.invokestatic 130, 3) := by decide +kernel
theorem dM_102_4 : decode prog_1_method_20_code 4 = .ok (.ifCond .ne 9, 3) := by decide +kernel
theorem dM_102_7 : decode prog_1_method_20_code 7 = .ok (.aload_n 0, 1) := by decide +kernel
theorem dM_102_8 : decode prog_1_method_20_code 8 = .ok (.iconst (-1), 1) := by decide +kernel
theorem dM_102_9 : decode prog_1_method_20_code 9 = .ok (.invokevirtual 89, 3) := by decide +kernel
theorem dM_102_12 : decode prog_1_method_20_code 12 = .ok (.ireturn, 1) := by decide +kernel
theorem dM_102_13 : decode prog_1_method_20_code 13 = .ok (.iconst 0, 1) := by decide +kernel
theorem dM_102_14 : decode prog_1_method_20_code 14 = .ok (.istore_n 2, 1) := by decide +kernel
theorem dM_102_15 : decode prog_1_method_20_code 15 = .ok (.iconst 0, 1) := by decide +kernel
theorem dM_102_16 : decode prog_1_method_20_code 16 = .ok (.istore_n 3, 1) := by decide +kernel
theorem dM_102_17 : decode prog_1_method_20_code 17 = .ok (.iload_n 3, 1) := by decide +kernel
theorem dM_102_18 : decode prog_1_method_20_code 18 = .ok (.bipush 10, 2) := by decide +kernel
theorem dM_102_20 : decode prog_1_method_20_code 20 = .ok (.if_icmp .ge 78, 3) := by decide +kernel
theorem dM_102_23 : decode prog_1_method_20_code 23 = .ok (.aload_n 0, 1) := by decide +kernel
theorem dM_102_24 : decode prog_1_method_20_code 24 = .ok (.iload_n 1, 1) := by decide +kernel
theorem dM_102_25 : decode prog_1_method_20_code 25 = .ok (.iload_n 3, 1) := by decide +kernel
theorem dM_102_26 : decode prog_1_method_20_code 26 = .ok (.invokevirtual 194, 3) := by decide +kernel
theorem dM_102_29 : decode prog_1_method_20_code 29 = .ok (.aload_n 0, 1) := by decide +kernel
theorem dM_102_30 : decode prog_1_method_20_code 30 = .ok (.getfield 25, 3) := by decide +kernel
theorem dM_102_33 : decode prog_1_method_20_code 33 = .ok (.bipush 120, 2) := by decide +kernel
theorem dM_102_35 : decode prog_1_method_20_code 35 = .ok (.iconst 1, 1) := by decide +kernel
theorem dM_102_36 : decode prog_1_method_20_code 36 = .ok (.invokevirtual 119, 3) := by decide +kernel
theorem dM_102_39 : decode prog_1_method_20_code 39 = .ok (.aload_n 0, 1) := by decide +kernel
theorem dM_102_40 : decode prog_1_method_20_code 40 = .ok (.getfield 25, 3) := by decide +kernel
theorem dM_102_43 : decode prog_1_method_20_code 43 = .ok (.getfield 123, 3) := by decide +kernel
theorem dM_102_46 : decode prog_1_method_20_code 46 = .ok (.ifCond .le 46, 3) := by decide +kernel
theorem dM_102_49 : decode prog_1_method_20_code 49 = .ok (.aload_n 0, 1) := by decide +kernel
theorem dM_102_50 : decode prog_1_method_20_code 50 = .ok (.getfield 47, 3) := by decide +kernel
theorem dM_102_53 : decode prog_1_method_20_code 53 = .ok (.aload_n 0, 1) := by decide +kernel
theorem dM_102_54 : decode prog_1_method_20_code 54 = .ok (.getfield 25, 3) := by decide +kernel
theorem dM_102_57 : decode prog_1_method_20_code 57 = .ok (.getfield 33, 3) := by decide +kernel
theorem dM_102_60 : decode prog_1_method_20_code 60 = .ok (.aload_n 0, 1) := by decide +kernel
theorem dM_102_61 : decode prog_1_method_20_code 61 = .ok (.getfield 25, 3) := by decide +kernel
theorem dM_102_64 : decode prog_1_method_20_code 64 = .ok (.iconst 0, 1) := by decide +kernel
theorem dM_102_65 : decode prog_1_method_20_code 65 = .ok (.invokevirtual 133, 3) := by decide +kernel
theorem dM_102_68 : decode prog_1_method_20_code 68 = .ok (.iconst 0, 1) := by decide +kernel
theorem dM_102_69 : decode prog_1_method_20_code 69 = .ok (.invokevirtual 137, 3) := by decide +kernel
theorem dM_102_72 : decode prog_1_method_20_code 72 = .ok (.aload_n 0, 1) := by decide +kernel
theorem dM_102_73 : decode prog_1_method_20_code 73 = .ok (.invokevirtual 216, 3) := by decide +kernel
theorem dM_102_76 : decode prog_1_method_20_code 76 = .ok (.aload_n 0, 1) := by decide +kernel
theorem dM_102_77 : decode prog_1_method_20_code 77 = .ok (.getfield 67, 3) := by decide +kernel
theorem dM_102_80 : decode prog_1_method_20_code 80 = .ok (.invokevirtual 220, 3) := by decide +kernel
theorem dM_102_83 : decode prog_1_method_20_code 83 = .ok (.if_icmp .ne 9, 3) := by decide +kernel
theorem dM_102_86 : decode prog_1_method_20_code 86 = .ok (.iload_n 2, 1) := by decide +kernel
theorem dM_102_87 : decode prog_1_method_20_code 87 = .ok (.iconst 1, 1) := by decide +kernel
theorem dM_102_88 : decode prog_1_method_20_code 88 = .ok (.iload_n 3, 1) := by decide +kernel
theorem dM_102_89 : decode prog_1_method_20_code 89 = .ok (.ishl, 1) := by decide +kernel
theorem dM_102_90 : decode prog_1_method_20_code 90 = .ok (.ior, 1) := by decide +kernel
theorem dM_102_91 : decode prog_1_method_20_code 91 = .ok (.istore_n 2, 1) := by decide +kernel
theorem dM_102_92 : decode prog_1_method_20_code 92 = .ok (.iinc 3 1, 3) := by decide +kernel
theorem dM_102_95 : decode prog_1_method_20_code 95 = .ok (.goto (-78), 3) := by decide +kernel
theorem dM_102_98 : decode prog_1_method_20_code 98 = .ok (.iload_n 2, 1) := by decide +kernel
theorem dM_102_99 : decode prog_1_method_20_code 99 = .ok (.ireturn, 1) := by decide +kernel
theorem dM_103_0 : decode prog_1_method_38_code 0 = .ok (.aload_n 0, 1) := by decide +kernel
theorem dM_103_1 : decode prog_1_method_38_code 1 = .ok (.getfield 67, 3) := by decide +kernel
theorem dM_103_4 : decode prog_1_method_38_code 4 = .ok (.invokevirtual 220, 3) := by decide +kernel
theorem dM_103_7 : decode prog_1_method_38_code 7 = .ok (.istore_n 1, 1) := by decide +kernel
theorem dM_103_8 : decode prog_1_method_38_code 8 = .ok (.iconst 0, 1) := by decide +kernel
theorem dM_103_9 : decode prog_1_method_38_code 9 = .ok (.istore_n 2, 1) := by decide +kernel
theorem dM_103_10 : decode prog_1_method_38_code 10 = .ok (.iload_n 2, 1) := by decide +kernel
theorem dM_103_11 : decode prog_1_method_38_code 11 = .ok (.iload_n 1, 1) := by decide +kernel
theorem dM_103_12 : decode prog_1_method_38_code 12 = .ok (.if_icmp .ge 41, 3) := by decide +kernel
theorem dM_103_15 : decode prog_1_method_38_code 15 = .ok (.iload_n 2, 1) := by decide +kernel
theorem dM_103_16 : decode prog_1_method_38_code 16 = .ok (.aload_n 0, 1) := by decide +kernel
theorem dM_103_17 : decode prog_1_method_38_code 17 = .ok (.getfield 47, 3) := by decide +kernel
theorem dM_103_20 : decode prog_1_method_38_code 20 = .ok (.getfield 141, 3) := by decide +kernel
theorem dM_103_23 : decode prog_1_method_38_code 23 = .ok (.if_icmp .ge 22, 3) := by decide +kernel
theorem dM_103_26 : decode prog_1_method_38_code 26 = .ok (.aload_n 0, 1) := by decide +kernel
theorem dM_103_27 : decode prog_1_method_38_code 27 = .ok (.getfield 67, 3) := by decide +kernel
theorem dM_103_30 : decode prog_1_method_38_code 30 = .ok (.iload_n 2, 1) := by decide +kernel
theorem dM_103_31 : decode prog_1_method_38_code 31 = .ok (.invokevirtual 265, 3) := by decide +kernel
theorem dM_103_34 : decode prog_1_method_38_code 34 = .ok (.aload_n 0, 1) := by decide +kernel
theorem dM_103_35 : decode prog_1_method_38_code 35 = .ok (.getfield 47, 3) := by decide +kernel
theorem dM_103_38 : decode prog_1_method_38_code 38 = .ok (.iload_n 2, 1) := by decide +kernel
theorem dM_103_39 : decode prog_1_method_38_code 39 = .ok (.invokevirtual 144, 3) := by decide +kernel
theorem dM_103_42 : decode prog_1_method_38_code 42 = .ok (.if_icmp .eq 5, 3) := by decide +kernel
theorem dM_103_45 : decode prog_1_method_38_code 45 = .ok (.iload_n 2, 1) := by decide +kernel
theorem dM_103_46 : decode prog_1_method_38_code 46 = .ok (.ireturn, 1) := by decide +kernel
theorem dM_103_47 : decode prog_1_method_38_code 47 = .ok (.iinc 2 1, 3) := by decide +kernel
theorem dM_103_50 : decode prog_1_method_38_code 50 = .ok (.goto (-40), 3) := by decide +kernel
theorem dM_103_53 : decode prog_1_method_38_code 53 = .ok (.iload_n 1, 1) := by decide +kernel
theorem dM_103_54 : decode prog_1_method_38_code 54 = .ok (.ireturn, 1) := by decide +kernel
theorem dM_104_0 : decode prog_1_method_21_code 0 = .ok (.iload_n 1, 1) := by decide +kernel
theorem dM_104_1 : decode prog_1_method_21_code 1 = .ok (.ifCond .ge 10, 3) := by decide +kernel
theorem dM_104_4 : decode prog_1_method_21_code 4 = .ok (.aload_n 0, 1) := by decide +kernel
theorem dM_104_5 : decode prog_1_method_21_code 5 = .ok (.bipush (-4), 2) := by decide +kernel
theorem dM_104_7 : decode prog_1_method_21_code 7 = .ok (.invokevirtual 89, 3) := by decide +kernel
theorem dM_104_10 : decode prog_1_method_21_code 10 = .ok (.ireturn, 1) := by decide +kernel
theorem dM_104_11 : decode prog_1_method_21_code 11 = .ok (.iload_n 1, 1) := by decide +kernel
theorem dM_104_12 : decode prog_1_method_21_code 12 = .ok (.bipush 127, 2) := by decide +kernel
theorem dM_104_14 : decode prog_1_method_21_code 14 = .ok (.if_icmp .gt 13, 3) := by decide +kernel
theorem dM_104_17 : decode prog_1_method_21_code 17 = .ok (.aload_n 0, 1) := by decide +kernel
theorem dM_104_18 : decode prog_1_method_21_code 18 = .ok (.getfield 67, 3) := by decide +kernel
theorem dM_104_21 : decode prog_1_method_21_code 21 = .ok (.invokevirtual 93, 3) := by decide +kernel
theorem dM_104_24 : decode prog_1_method_21_code 24 = .ok (.ifCond .eq 10, 3) := by decide +kernel
theorem dM_104_27 : decode prog_1_method_21_code 27 = .ok (.aload_n 0, 1) := by decide +kernel
theorem dM_104_28 : decode prog_1_method_21_code 28 = .ok (.bipush (-6), 2) := by decide +kernel
theorem dM_104_30 : decode prog_1_method_21_code 30 = .ok (.invokevirtual 89, 3) := by decide +kernel
theorem dM_104_33 : decode prog_1_method_21_code 33 = .ok (.ireturn, 1) := by decide +kernel
theorem dM_104_34 : decode prog_1_method_21_code 34 = .ok (.aload_n 0, 1) := by decide +kernel
theorem dM_104_35 : decode prog_1_method_21_code 35 = .ok (.getfield 67, 3) := by decide +kernel
theorem dM_104_38 : decode prog_1_method_21_code 38 = .ok (.iload_n 1, 1) := by decide +kernel
theorem dM_104_39 : decode prog_1_method_21_code 39 = .ok (.invokevirtual 97, 3) := by decide +kernel
theorem dM_104_42 : decode prog_1_method_21_code 42 = .ok (.ireturn, 1) := by decide +kernel
theorem dM_105_0 : decode prog_1_method_22_code 0 = .ok (.aload_n 0, 1) := by decide +kernel
theorem dM_105_1 : decode prog_1_method_22_code 1 = .ok (.iload_n 1, 1) := by decide +kernel
theorem dM_105_2 : decode prog_1_method_22_code 2 = .ok (.invokevirtual 126, 3) := by decide +kernel
theorem dM_105_5 : decode prog_1_method_22_code 5 = .ok (.ifCond .ne 9, 3) := by decide +kernel
theorem dM_105_8 : decode prog_1_method_22_code 8 = .ok (.aload_n 0, 1) := by decide +kernel
theorem dM_105_9 : decode prog_1_method_22_code 9 = .ok (.iconst (-1), 1) := by decide +kernel
theorem dM_105_10 : decode prog_1_method_22_code 10 = .ok (.invokevirtual 89, 3) := by decide +kernel
theorem dM_105_13 : decode prog_1_method_22_code 13 = .ok (.ireturn, 1) := by decide +kernel
theorem dM_105_14 : decode prog_1_method_22_code 14 = .ok (.aload_n 0, 1) := by decide +kernel
theorem dM_105_15 : decode prog_1_method_22_code 15 = .ok (.getfield 47, 3) := by decide +kernel
theorem dM_105_18 : decode prog_1_method_22_code 18 = .ok (.aload_n 0, 1) := by decide +kernel
theorem dM_105_19 : decode prog_1_method_22_code 19 = .ok (.getfield 21, 3) := by decide +kernel
theorem dM_105_22 : decode prog_1_method_22_code 22 = .ok (.getfield 33, 3) := by decide +kernel
theorem dM_105_25 : decode prog_1_method_22_code 25 = .ok (.aload_n 0, 1) := by decide +kernel
theorem dM_105_26 : decode prog_1_method_22_code 26 = .ok (.getfield 21, 3) := by decide +kernel
theorem dM_105_29 : decode prog_1_method_22_code 29 = .ok (.iload_n 1, 1) := by decide +kernel
theorem dM_105_30 : decode prog_1_method_22_code 30 = .ok (.invokevirtual 133, 3) := by decide +kernel
theorem dM_105_33 : decode prog_1_method_22_code 33 = .ok (.iconst 0, 1) := by decide +kernel
theorem dM_105_34 : decode prog_1_method_22_code 34 = .ok (.invokevirtual 137, 3) := by decide +kernel
theorem dM_105_37 : decode prog_1_method_22_code 37 = .ok (.aload_n 0, 1) := by decide +kernel
theorem dM_105_38 : decode prog_1_method_22_code 38 = .ok (.invokevirtual 216, 3) := by decide +kernel
theorem dM_105_41 : decode prog_1_method_22_code 41 = .ok (.istore_n 2, 1) := by decide +kernel
theorem dM_105_42 : decode prog_1_method_22_code 42 = .ok (.iload_n 2, 1) := by decide +kernel
theorem dM_105_43 : decode prog_1_method_22_code 43 = .ok (.aload_n 0, 1) := by decide +kernel
theorem dM_105_44 : decode prog_1_method_22_code 44 = .ok (.getfield 67, 3) := by decide +kernel
theorem dM_105_47 : decode prog_1_method_22_code 47 = .ok (.invokevirtual 220, 3) := by decide +kernel
theorem dM_105_50 : decode prog_1_method_22_code 50 = .ok (.if_icmp .ne 18, 3) := by decide +kernel
theorem dM_105_53 : decode prog_1_method_22_code 53 = .ok (.iload_n 2, 1) := by decide +kernel
theorem dM_105_54 : decode prog_1_method_22_code 54 = .ok (.aload_n 0, 1) := by decide +kernel
theorem dM_105_55 : decode prog_1_method_22_code 55 = .ok (.getfield 47, 3) := by decide +kernel
theorem dM_105_58 : decode prog_1_method_22_code 58 = .ok (.getfield 141, 3) := by decide +kernel
theorem dM_105_61 : decode prog_1_method_22_code 61 = .ok (.if_icmp .ne 7, 3) := by decide +kernel
theorem dM_105_64 : decode prog_1_method_22_code 64 = .ok (.iconst 1, 1) := by decide +kernel
theorem dM_105_65 : decode prog_1_method_22_code 65 = .ok (.goto 4, 3) := by decide +kernel
theorem dM_105_68 : decode prog_1_method_22_code 68 = .ok (.iconst 0, 1) := by decide +kernel
theorem dM_105_69 : decode prog_1_method_22_code 69 = .ok (.istore_n 3, 1) := by decide +kernel
theorem dM_105_70 : decode prog_1_method_22_code 70 = .ok (.aload_n 0, 1) := by decide +kernel
theorem dM_105_71 : decode prog_1_method_22_code 71 = .ok (.getfield 67, 3) := by decide +kernel
theorem dM_105_74 : decode prog_1_method_22_code 74 = .ok (.invokevirtual 104, 3) := by decide +kernel
theorem dM_105_77 : decode prog_1_method_22_code 77 = .ok (.iload_n 3, 1) := by decide +kernel
theorem dM_105_78 : decode prog_1_method_22_code 78 = .ok (.ifCond .eq 8, 3) := by decide +kernel
theorem dM_105_81 : decode prog_1_method_22_code 81 = .ok (.bipush (-9), 2) := by decide +kernel
theorem dM_105_83 : decode prog_1_method_22_code 83 = .ok (.goto 4, 3) := by decide +kernel
theorem dM_105_86 : decode prog_1_method_22_code 86 = .ok (.iload_n 2, 1) := by decide +kernel
theorem dM_105_87 : decode prog_1_method_22_code 87 = .ok (.ireturn, 1) := by decide +kernel
theorem dM_106_0 : decode prog_1_method_23_code 0 = .ok (.aload_n 0, 1) := by decide +kernel
theorem dM_106_1 : decode prog_1_method_23_code 1 = .ok (.getfield 67, 3) := by decide +kernel
theorem dM_106_4 : decode prog_1_method_23_code 4 = .ok (.invokevirtual 220, 3) := by decide +kernel
theorem dM_106_7 : decode prog_1_method_23_code 7 = .ok (.istore_n 1, 1) := by decide +kernel
theorem dM_106_8 : decode prog_1_method_23_code 8 = .ok (.aload_n 0, 1) := by decide +kernel
theorem dM_106_9 : decode prog_1_method_23_code 9 = .ok (.getfield 67, 3) := by decide +kernel
theorem dM_106_12 : decode prog_1_method_23_code 12 = .ok (.invokevirtual 104, 3) := by decide +kernel
theorem dM_106_15 : decode prog_1_method_23_code 15 = .ok (.iload_n 1, 1) := by decide +kernel
theorem dM_106_16 : decode prog_1_method_23_code 16 = .ok (.ireturn, 1) := by decide +kernel
theorem dM_107_0 : decode prog_1_method_24_code 0 = .ok (.iload_n 1, 1) := by decide +kernel
theorem dM_107_1 : decode prog_1_method_24_code 1 = .ok (.iconst 1, 1) := by decide +kernel
theorem dM_107_2 : decode prog_1_method_24_code 2 = .ok (.if_icmp .ge 10, 3) := by decide +kernel
theorem dM_107_5 : decode prog_1_method_24_code 5 = .ok (.aload_n 0, 1) := by decide +kernel
theorem dM_107_6 : decode prog_1_method_24_code 6 = .ok (.bipush (-4), 2) := by decide +kernel
theorem dM_107_8 : decode prog_1_method_24_code 8 = .ok (.invokevirtual 89, 3) := by decide +kernel
theorem dM_107_11 : decode prog_1_method_24_code 11 = .ok (.ireturn, 1) := by decide +kernel
theorem dM_107_12 : decode prog_1_method_24_code 12 = .ok (.iload_n 1, 1) := by decide +kernel
theorem dM_107_13 : decode prog_1_method_24_code 13 = .ok (.bipush 20, 2) := by decide +kernel
theorem dM_107_15 : decode prog_1_method_24_code 15 = .ok (.if_icmp .le 10, 3) := by decide +kernel
theorem dM_107_18 : decode prog_1_method_24_code 18 = .ok (.aload_n 0, 1) := by decide +kernel
theorem dM_107_19 : decode prog_1_method_24_code 19 = .ok (.bipush (-6), 2) := by decide +kernel
theorem dM_107_21 : decode prog_1_method_24_code 21 = .ok (.invokevirtual 89, 3) := by decide +kernel
theorem dM_107_24 : decode prog_1_method_24_code 24 = .ok (.ireturn, 1) := by decide +kernel
theorem dM_107_25 : decode prog_1_method_24_code 25 = .ok (.iload_n 3, 1) := by decide +kernel
theorem dM_107_26 : decode prog_1_method_24_code 26 = .ok (.ifCond .eq 15, 3) := by decide +kernel
theorem dM_107_29 : decode prog_1_method_24_code 29 = .ok (.iload_n 3, 1) := by decide +kernel
theorem dM_107_30 : decode prog_1_method_24_code 30 = .ok (.iconst 1, 1) := by decide +kernel
theorem dM_107_31 : decode prog_1_method_24_code 31 = .ok (.if_icmp .eq 10, 3) := by decide +kernel
theorem dM_107_34 : decode prog_1_method_24_code 34 = .ok (.aload_n 0, 1) := by decide +kernel
theorem dM_107_35 : decode prog_1_method_24_code 35 = .ok (.bipush (-2), 2) := by decide +kernel
theorem dM_107_37 : decode prog_1_method_24_code 37 = .ok (.invokevirtual 89, 3) := by decide +kernel
theorem dM_107_40 : decode prog_1_method_24_code 40 = .ok (.ireturn, 1) := by decide +kernel
theorem dM_107_41 : decode prog_1_method_24_code 41 = .ok (.aload_n 0, 1) := by decide +kernel
theorem dM_107_42 : decode prog_1_method_24_code 42 = .ok (.getfield 54, 3) := by decide +kernel
theorem dM_107_45 : decode prog_1_method_24_code 45 = .ok (.iload_n 2, 1) := by decide +kernel
theorem dM_107_46 : decode prog_1_method_24_code 46 = .ok (.putfield 222, 3) := by decide +kernel
theorem dM_107_49 : decode prog_1_method_24_code 49 = .ok (.iconst 0, 1) := by decide +kernel
theorem dM_107_50 : decode prog_1_method_24_code 50 = .ok (.istore 4, 2) := by decide +kernel
theorem dM_107_52 : decode prog_1_method_24_code 52 = .ok (.iconst 0, 1) := by decide +kernel
theorem dM_107_53 : decode prog_1_method_24_code 53 = .ok (.istore 5, 2) := by decide +kernel
theorem dM_107_55 : decode prog_1_method_24_code 55 = .ok (.iconst 0, 1) := by decide +kernel
theorem dM_107_56 : decode prog_1_method_24_code 56 = .ok (.istore 6, 2) := by decide +kernel
theorem dM_107_58 : decode prog_1_method_24_code 58 = .ok (.iload 6, 2) := by decide +kernel
theorem dM_107_60 : decode prog_1_method_24_code 60 = .ok (.iload_n 1, 1) := by decide +kernel
theorem dM_107_61 : decode prog_1_method_24_code 61 = .ok (.if_icmp .ge 48, 3) := by decide +kernel
theorem dM_107_64 : decode prog_1_method_24_code 64 = .ok (.aload_n 0, 1) := by decide +kernel
theorem dM_107_65 : decode prog_1_method_24_code 65 = .ok (.aload_n 0, 1) := by decide +kernel
theorem dM_107_66 : decode prog_1_method_24_code 66 = .ok (.getfield 25, 3) := by decide +kernel
theorem dM_107_69 : decode prog_1_method_24_code 69 = .ok (.getfield 33, 3) := by decide +kernel
theorem dM_107_72 : decode prog_1_method_24_code 72 = .ok (.aload_n 0, 1) := by decide +kernel
theorem dM_107_73 : decode prog_1_method_24_code 73 = .ok (.getfield 25, 3) := by decide +kernel
theorem dM_107_76 : decode prog_1_method_24_code 76 = .ok (.getfield 225, 3) := by decide +kernel
theorem dM_107_79 : decode prog_1_method_24_code 79 = .ok (.invokevirtual 229, 3) := by decide +kernel
theorem dM_107_82 : decode prog_1_method_24_code 82 = .ok (.ifCond .eq 21, 3) := by decide +kernel
theorem dM_107_85 : decode prog_1_method_24_code 85 = .ok (.iinc 4 1, 3) := by decide +kernel
theorem dM_107_88 : decode prog_1_method_24_code 88 = .ok (.iload 5, 2) := by decide +kernel
theorem dM_107_90 : decode prog_1_method_24_code 90 = .ok (.aload_n 0, 1) := by decide +kernel
theorem dM_107_91 : decode prog_1_method_24_code 91 = .ok (.getfield 25, 3) := by decide +kernel
theorem dM_107_94 : decode prog_1_method_24_code 94 = .ok (.getfield 225, 3) := by decide +kernel
theorem dM_107_97 : decode prog_1_method_24_code 97 = .ok (.invokestatic 233, 3) := by decide +kernel
theorem dM_107_100 : decode prog_1_method_24_code 100 = .ok (.iadd, 1) := by decide +kernel
theorem dM_107_101 : decode prog_1_method_24_code 101 = .ok (.istore 5, 2) := by decide +kernel
theorem dM_107_103 : decode prog_1_method_24_code 103 = .ok (.iinc 6 1, 3) := by decide +kernel
theorem dM_107_106 : decode prog_1_method_24_code 106 = .ok (.goto (-48), 3) := by decide +kernel
theorem dM_107_109 : decode prog_1_method_24_code 109 = .ok (.iload_n 3, 1) := by decide +kernel
theorem dM_107_110 : decode prog_1_method_24_code 110 = .ok (.ifCond .ne 8, 3) := by decide +kernel
theorem dM_107_113 : decode prog_1_method_24_code 113 = .ok (.iload 4, 2) := by decide +kernel
theorem dM_107_115 : decode prog_1_method_24_code 115 = .ok (.goto 5, 3) := by decide +kernel
theorem dM_107_118 : decode prog_1_method_24_code 118 = .ok (.iload 5, 2) := by decide +kernel
theorem dM_107_120 : decode prog_1_method_24_code 120 = .ok (.ireturn, 1) := by decide +kernel
theorem dM_108_0 : decode prog_1_method_42_code 0 = .ok (.aload_n 1, 1) := by decide +kernel
theorem dM_108_1 : decode prog_1_method_42_code 1 = .ok (.invokevirtual 272, 3) := by decide +kernel
theorem dM_108_4 : decode prog_1_method_42_code 4 = .ok (.aload_n 2, 1) := by decide +kernel
theorem dM_108_5 : decode prog_1_method_42_code 5 = .ok (.invokevirtual 275, 3) := by decide +kernel
theorem dM_108_8 : decode prog_1_method_42_code 8 = .ok (.iconst 1, 1) := by decide +kernel
theorem dM_108_9 : decode prog_1_method_42_code 9 = .ok (.istore_n 3, 1) := by decide +kernel
theorem dM_108_10 : decode prog_1_method_42_code 10 = .ok (.iconst 0, 1) := by decide +kernel
theorem dM_108_11 : decode prog_1_method_42_code 11 = .ok (.istore 4, 2) := by decide +kernel
theorem dM_108_13 : decode prog_1_method_42_code 13 = .ok (.iload 4, 2) := by decide +kernel
theorem dM_108_15 : decode prog_1_method_42_code 15 = .ok (.iconst 4, 1) := by decide +kernel
theorem dM_108_16 : decode prog_1_method_42_code 16 = .ok (.if_icmp .ge 58, 3) := by decide +kernel
theorem dM_108_19 : decode prog_1_method_42_code 19 = .ok (.aload_n 0, 1) := by decide +kernel
theorem dM_108_20 : decode prog_1_method_42_code 20 = .ok (.getfield 54, 3) := by decide +kernel
theorem dM_108_23 : decode prog_1_method_42_code 23 = .ok (.aload_n 1, 1) := by decide +kernel
theorem dM_108_24 : decode prog_1_method_42_code 24 = .ok (.invokevirtual 278, 3) := by decide +kernel
theorem dM_108_27 : decode prog_1_method_42_code 27 = .ok (.istore 5, 2) := by decide +kernel
theorem dM_108_29 : decode prog_1_method_42_code 29 = .ok (.aload_n 0, 1) := by decide +kernel
theorem dM_108_30 : decode prog_1_method_42_code 30 = .ok (.getfield 54, 3) := by decide +kernel
theorem dM_108_33 : decode prog_1_method_42_code 33 = .ok (.aload_n 1, 1) := by decide +kernel
theorem dM_108_34 : decode prog_1_method_42_code 34 = .ok (.invokevirtual 278, 3) := by decide +kernel
theorem dM_108_37 : decode prog_1_method_42_code 37 = .ok (.istore 6, 2) := by decide +kernel
theorem dM_108_39 : decode prog_1_method_42_code 39 = .ok (.iload_n 3, 1) := by decide +kernel
theorem dM_108_40 : decode prog_1_method_42_code 40 = .ok (.ifCond .eq 26, 3) := by decide +kernel
theorem dM_108_43 : decode prog_1_method_42_code 43 = .ok (.aload_n 0, 1) := by decide +kernel
theorem dM_108_44 : decode prog_1_method_42_code 44 = .ok (.getfield 12, 3) := by decide +kernel
theorem dM_108_47 : decode prog_1_method_42_code 47 = .ok (.aload_n 1, 1) := by decide +kernel
theorem dM_108_48 : decode prog_1_method_42_code 48 = .ok (.aload_n 2, 1) := by decide +kernel
theorem dM_108_49 : decode prog_1_method_42_code 49 = .ok (.getfield 253, 3) := by decide +kernel
theorem dM_108_52 : decode prog_1_method_42_code 52 = .ok (.iload 5, 2) := by decide +kernel
theorem dM_108_54 : decode prog_1_method_42_code 54 = .ok (.iload 6, 2) := by decide +kernel
theorem dM_108_56 : decode prog_1_method_42_code 56 = .ok (.invokevirtual 190, 3) := by decide +kernel
theorem dM_108_59 : decode prog_1_method_42_code 59 = .ok (.ifCond .eq 7, 3) := by decide +kernel
theorem dM_108_62 : decode prog_1_method_42_code 62 = .ok (.iconst 1, 1) := by decide +kernel
theorem dM_108_63 : decode prog_1_method_42_code 63 = .ok (.goto 4, 3) := by decide +kernel
theorem dM_108_66 : decode prog_1_method_42_code 66 = .ok (.iconst 0, 1) := by decide +kernel
theorem dM_108_67 : decode prog_1_method_42_code 67 = .ok (.istore_n 3, 1) := by decide +kernel
theorem dM_108_68 : decode prog_1_method_42_code 68 = .ok (.iinc 4 1, 3) := by decide +kernel
theorem dM_108_71 : decode prog_1_method_42_code 71 = .ok (.goto (-58), 3) := by decide +kernel
theorem dM_108_74 : decode prog_1_method_42_code 74 = .ok (.iload_n 3, 1) := by decide +kernel
theorem dM_108_75 : decode prog_1_method_42_code 75 = .ok (.ireturn, 1) := by decide +kernel
theorem dM_109_0 : decode prog_1_method_43_code 0 = .ok (.iconst 0, 1) := by decide +kernel
theorem dM_109_1 : decode prog_1_method_43_code 1 = .ok (.istore_n 1, 1) := by decide +kernel
theorem dM_109_2 : decode prog_1_method_43_code 2 = .ok (.iconst 0, 1) := by decide +kernel
theorem dM_109_3 : decode prog_1_method_43_code 3 = .ok (.istore_n 2, 1) := by decide +kernel
theorem dM_109_4 : decode prog_1_method_43_code 4 = .ok (.iload_n 2, 1) := by decide +kernel
theorem dM_109_5 : decode prog_1_method_43_code 5 = .ok (.bipush 6, 2) := by decide +kernel
theorem dM_109_7 : decode prog_1_method_43_code 7 = .ok (.if_icmp .ge 26, 3) := by decide +kernel
theorem dM_109_10 : decode prog_1_method_43_code 10 = .ok (.aload_n 0, 1) := by decide +kernel
theorem dM_109_11 : decode prog_1_method_43_code 11 = .ok (.getfield 253, 3) := by decide +kernel
theorem dM_109_14 : decode prog_1_method_43_code 14 = .ok (.iload_n 2, 1) := by decide +kernel
theorem dM_109_15 : decode prog_1_method_43_code 15 = .ok (.invokestatic 282, 3) := by decide +kernel
theorem dM_109_18 : decode prog_1_method_43_code 18 = .ok (.invokestatic 286, 3) := by decide +kernel
theorem dM_109_21 : decode prog_1_method_43_code 21 = .ok (.ifCond .ne 6, 3) := by decide +kernel
theorem dM_109_24 : decode prog_1_method_43_code 24 = .ok (.iinc 1 1, 3) := by decide +kernel
theorem dM_109_27 : decode prog_1_method_43_code 27 = .ok (.iinc 2 1, 3) := by decide +kernel
theorem dM_109_30 : decode prog_1_method_43_code 30 = .ok (.goto (-26), 3) := by decide +kernel
theorem dM_109_33 : decode prog_1_method_43_code 33 = .ok (.iload_n 1, 1) := by decide +kernel
theorem dM_109_34 : decode prog_1_method_43_code 34 = .ok (.ireturn, 1) := by decide +kernel
theorem dM_110_0 : decode prog_1_method_25_code 0 = .ok (.aload_n 0, 1) := by decide +kernel
theorem dM_110_1 : decode prog_1_method_25_code 1 = .ok (.getfield 28, 3) := by decide +kernel
theorem dM_110_4 : decode prog_1_method_25_code 4 = .ok (.aload_n 0, 1) := by decide +kernel
theorem dM_110_5 : decode prog_1_method_25_code 5 = .ok (.getfield 21, 3) := by decide +kernel
theorem dM_110_8 : decode prog_1_method_25_code 8 = .ok (.invokevirtual 237, 3) := by decide +kernel
theorem dM_110_11 : decode prog_1_method_25_code 11 = .ok (.aload_n 0, 1) := by decide +kernel
theorem dM_110_12 : decode prog_1_method_25_code 12 = .ok (.iconst 1, 1) := by decide +kernel
theorem dM_110_13 : decode prog_1_method_25_code 13 = .ok (.putfield 85, 3) := by decide +kernel
theorem dM_110_16 : decode prog_1_method_25_code 16 = .ok (.aload_n 0, 1) := by decide +kernel
theorem dM_110_17 : decode prog_1_method_25_code 17 = .ok (.getfield 28, 3) := by decide +kernel
theorem dM_110_20 : decode prog_1_method_25_code 20 = .ok (.getfield 115, 3) := by decide +kernel
theorem dM_110_23 : decode prog_1_method_25_code 23 = .ok (.ireturn, 1) := by decide +kernel
theorem dM_111_0 : decode prog_1_method_26_code 0 = .ok (.aload_n 0, 1) := by decide +kernel
theorem dM_111_1 : decode prog_1_method_26_code 1 = .ok (.getfield 85, 3) := by decide +kernel
theorem dM_111_4 : decode prog_1_method_26_code 4 = .ok (.ifCond .ne 10, 3) := by decide +kernel
theorem dM_111_7 : decode prog_1_method_26_code 7 = .ok (.aload_n 0, 1) := by decide +kernel
theorem dM_111_8 : decode prog_1_method_26_code 8 = .ok (.bipush (-3), 2) := by decide +kernel
theorem dM_111_10 : decode prog_1_method_26_code 10 = .ok (.invokevirtual 89, 3) := by decide +kernel
theorem dM_111_13 : decode prog_1_method_26_code 13 = .ok (.ireturn, 1) := by decide +kernel
theorem dM_111_14 : decode prog_1_method_26_code 14 = .ok (.aload_n 0, 1) := by decide +kernel
theorem dM_111_15 : decode prog_1_method_26_code 15 = .ok (.getfield 21, 3) := by decide +kernel
theorem dM_111_18 : decode prog_1_method_26_code 18 = .ok (.aload_n 0, 1) := by decide +kernel
theorem dM_111_19 : decode prog_1_method_26_code 19 = .ok (.getfield 28, 3) := by decide +kernel
theorem dM_111_22 : decode prog_1_method_26_code 22 = .ok (.invokevirtual 237, 3) := by decide +kernel
theorem dM_111_25 : decode prog_1_method_26_code 25 = .ok (.aload_n 0, 1) := by decide +kernel
theorem dM_111_26 : decode prog_1_method_26_code 26 = .ok (.getfield 21, 3) := by decide +kernel
theorem dM_111_29 : decode prog_1_method_26_code 29 = .ok (.getfield 115, 3) := by decide +kernel
theorem dM_111_32 : decode prog_1_method_26_code 32 = .ok (.ireturn, 1) := by decide +kernel
theorem dM_112_0 : decode prog_1_method_27_code 0 = .ok (.iload_n 1, 1) := by decide +kernel
theorem dM_112_1 : decode prog_1_method_27_code 1 = .ok (.bipush 11, 2) := by decide +kernel
theorem dM_112_3 : decode prog_1_method_27_code 3 = .ok (.if_icmp .lt 19, 3) := by decide +kernel
theorem dM_112_6 : decode prog_1_method_27_code 6 = .ok (.iload_n 1, 1) := by decide +kernel
theorem dM_112_7 : decode prog_1_method_27_code 7 = .ok (.bipush 16, 2) := by decide +kernel
theorem dM_112_9 : decode prog_1_method_27_code 9 = .ok (.if_icmp .gt 13, 3) := by decide +kernel
theorem dM_112_12 : decode prog_1_method_27_code 12 = .ok (.aload_n 0, 1) := by decide +kernel
theorem dM_112_13 : decode prog_1_method_27_code 13 = .ok (.getfield 70, 3) := by decide +kernel
theorem dM_112_16 : decode prog_1_method_27_code 16 = .ok (.iload_n 1, 1) := by decide +kernel
theorem dM_112_17 : decode prog_1_method_27_code 17 = .ok (.bipush 10, 2) := by decide +kernel
theorem dM_112_19 : decode prog_1_method_27_code 19 = .ok (.isub, 1) := by decide +kernel
theorem dM_112_20 : decode prog_1_method_27_code 20 = .ok (.iaload, 1) := by decide +kernel
theorem dM_112_21 : decode prog_1_method_27_code 21 = .ok (.ireturn, 1) := by decide +kernel
theorem dM_112_22 : decode prog_1_method_27_code 22 = .ok (.iload_n 1, 1) := by decide +kernel
theorem dM_112_23 : decode prog_1_method_27_code 23 = .ok (.tableswitch 115 0 7 #[45, 53, 61, 72, 83, 91, 99, 107], 45) := by decide +kernel
theorem dM_112_68 : decode prog_1_method_27_code 68 = .ok (.aload_n 0, 1) := by decide +kernel
theorem dM_112_69 : decode prog_1_method_27_code 69 = .ok (.getfield 21, 3) := by decide +kernel
theorem dM_112_72 : decode prog_1_method_27_code 72 = .ok (.getfield 115, 3) := by decide +kernel
theorem dM_112_75 : decode prog_1_method_27_code 75 = .ok (.ireturn, 1) := by decide +kernel
theorem dM_112_76 : decode prog_1_method_27_code 76 = .ok (.aload_n 0, 1) := by decide +kernel
theorem dM_112_77 : decode prog_1_method_27_code 77 = .ok (.getfield 21, 3) := by decide +kernel
theorem dM_112_80 : decode prog_1_method_27_code 80 = .ok (.getfield 123, 3) := by decide +kernel
theorem dM_112_83 : decode prog_1_method_27_code 83 = .ok (.ireturn, 1) := by decide +kernel
theorem dM_112_84 : decode prog_1_method_27_code 84 = .ok (.aload_n 0, 1) := by decide +kernel
theorem dM_112_85 : decode prog_1_method_27_code 85 = .ok (.getfield 21, 3) := by decide +kernel
theorem dM_112_88 : decode prog_1_method_27_code 88 = .ok (.getfield 33, 3) := by decide +kernel
theorem dM_112_91 : decode prog_1_method_27_code 91 = .ok (.getfield 241, 3) := by decide +kernel
theorem dM_112_94 : decode prog_1_method_27_code 94 = .ok (.ireturn, 1) := by decide +kernel
theorem dM_112_95 : decode prog_1_method_27_code 95 = .ok (.aload_n 0, 1) := by decide +kernel
theorem dM_112_96 : decode prog_1_method_27_code 96 = .ok (.getfield 21, 3) := by decide +kernel
theorem dM_112_99 : decode prog_1_method_27_code 99 = .ok (.getfield 33, 3) := by decide +kernel
theorem dM_112_102 : decode prog_1_method_27_code 102 = .ok (.getfield 244, 3) := by decide +kernel
theorem dM_112_105 : decode prog_1_method_27_code 105 = .ok (.ireturn, 1) := by decide +kernel
theorem dM_112_106 : decode prog_1_method_27_code 106 = .ok (.aload_n 0, 1) := by decide +kernel
theorem dM_112_107 : decode prog_1_method_27_code 107 = .ok (.getfield 21, 3) := by decide +kernel
theorem dM_112_110 : decode prog_1_method_27_code 110 = .ok (.getfield 160, 3) := by decide +kernel
theorem dM_112_113 : decode prog_1_method_27_code 113 = .ok (.ireturn, 1) := by decide +kernel
theorem dM_112_114 : decode prog_1_method_27_code 114 = .ok (.aload_n 0, 1) := by decide +kernel
theorem dM_112_115 : decode prog_1_method_27_code 115 = .ok (.getfield 21, 3) := by decide +kernel
theorem dM_112_118 : decode prog_1_method_27_code 118 = .ok (.getfield 161, 3) := by decide +kernel
theorem dM_112_121 : decode prog_1_method_27_code 121 = .ok (.ireturn, 1) := by decide +kernel
theorem dM_112_122 : decode prog_1_method_27_code 122 = .ok (.aload_n 0, 1) := by decide +kernel
theorem dM_112_123 : decode prog_1_method_27_code 123 = .ok (.getfield 67, 3) := by decide +kernel
theorem dM_112_126 : decode prog_1_method_27_code 126 = .ok (.invokevirtual 220, 3) := by decide +kernel
theorem dM_112_129 : decode prog_1_method_27_code 129 = .ok (.ireturn, 1) := by decide +kernel
theorem dM_112_130 : decode prog_1_method_27_code 130 = .ok (.aload_n 0, 1) := by decide +kernel
theorem dM_112_131 : decode prog_1_method_27_code 131 = .ok (.getfield 63, 3) := by decide +kernel
theorem dM_112_134 : decode prog_1_method_27_code 134 = .ok (.invokevirtual 220, 3) := by decide +kernel
theorem dM_112_137 : decode prog_1_method_27_code 137 = .ok (.ireturn, 1) := by decide +kernel
theorem dM_112_138 : decode prog_1_method_27_code 138 = .ok (.bipush (-9), 2) := by decide +kernel
theorem dM_112_140 : decode prog_1_method_27_code 140 = .ok (.ireturn, 1) := by decide +kernel
set_option maxRecDepth 100000 in
/-- GoalsInAQueue.length -/
theorem w_80 (sg : rSg) (x1 : Int32) (x2 : Int32) {P : Option rv → rSg → Prop} (h :
    EvS rSkel 1 81 [.inr (.inr (some 0)), .inl x1] sg (fun v1 t2 => ∃ n4, v1 = some (.inl n4) ∧
      (n4 = 0 → 
        EvS rSkel 1 72 [.inr (.inr (some 0)), .inl ((-1))] t2 (fun v6 t7 => ∃ n9, v6 = some (.inl n9) ∧
          P (some (.inl n9)) t7)) ∧
      (¬ (n4 = 0) → 
        EvS rSkel 1 82 [.inl x2] t2 (fun v10 t11 => ∃ n13, v10 = some (.inl n13) ∧
          (¬ n13 = 0 → 
            EvS rSkel 1 40 [.inr (.inr (some 6)), .inl x1] t11 (fun v15 t16 => ∃ q18, v15 = some (.inr (.inr (some q18))) ∧ isSt q18 ∧
              EvS rSkel 4 58 [.inr (.inr (some 682)), .inr (.inr (some 7)), .inr (.inr (some q18)), .inl x2] t16 (fun v20 t21 => v20 = none ∧
                P (some (.inl (t21 682 3))) t21))) ∧
          (¬ (¬ n13 = 0) → 
            EvS rSkel 1 72 [.inr (.inr (some 0)), .inl ((-1))] t11 (fun v23 t24 => ∃ n26, v23 = some (.inl n26) ∧
              P (some (.inl n26)) t24)))))) : EvS rSkel 5 80 [.inr (.inr (some 0)), .inl x1, .inl x2] sg P := by
  refine EvS.of (ini := false) rfl ⟨rfl, Nat.le_of_ble_eq_true rfl⟩ rfl ?_
  show GoS rSkel 4 8 3 (some .int) false prog_1_method_6_code 0 [(0, .inr (.inr (some 0))), (1, .inl x1), (2, .inl x2)] [] sg _
  refine gs0 1 [(0, .inr (.inr (some 0))), (1, .inl x1), (2, .inl x2)] [.inr (.inr (some 0))] dM_80_0 (fun _ => rfl) (Or.inr rfl) ?_
  refine gs0 2 [(0, .inr (.inr (some 0))), (1, .inl x1), (2, .inl x2)] [.inl x1, .inr (.inr (some 0))] dM_80_1 (fun _ => rfl) (Or.inr rfl) ?_
  refine gsCallV (y := 81) (k := 0) (as := [.inr (.inr (some 0)), .inl x1]) (r := []) dM_80_2 rfl rfl rfl (Nat.le_of_ble_eq_true rfl) sk_0 rfl (Nat.le_of_ble_eq_true rfl) (EvS.up h (Nat.le_of_ble_eq_true rfl)) (fun v1 t2 hv3 => ?_)
  obtain ⟨n4, rfl, hn⟩ := hv3
  clear h
  show GoS _ _ _ _ _ _ _ _ [(0, .inr (.inr (some 0))), (1, .inl x1), (2, .inl x2)] [.inl n4] t2 _
  refine gsIf (t := 15) (C := n4 = 0) (r := []) dM_80_5 (fun _ => rfl) (Or.inr rfl) (rTest_iff .eq n4 0) (fun c5 => ?_) (fun c5 => ?_)
  · replace hn := hn.1 c5
    refine gs0 16 [(0, .inr (.inr (some 0))), (1, .inl x1), (2, .inl x2)] [.inr (.inr (some 0))] dM_80_15 (fun _ => rfl) (Or.inr rfl) ?_
    refine gs0 17 [(0, .inr (.inr (some 0))), (1, .inl x1), (2, .inl x2)] [.inl ((-1)), .inr (.inr (some 0))] dM_80_16 (fun _ => rfl) (Or.inr rfl) ?_
    refine gsCallV (y := 72) (k := 0) (as := [.inr (.inr (some 0)), .inl ((-1))]) (r := []) dM_80_17 rfl rfl rfl (Nat.le_of_ble_eq_true rfl) sk_0 rfl (Nat.le_of_ble_eq_true rfl) (EvS.up hn (Nat.le_of_ble_eq_true rfl)) (fun v6 t7 hv8 => ?_)
    obtain ⟨n9, rfl, hnn⟩ := hv8
    clear hn
    show GoS _ _ _ _ _ _ _ _ [(0, .inr (.inr (some 0))), (1, .inl x1), (2, .inl x2)] [.inl n9] t7 _
    refine gsRet (r := some (.inl n9)) dM_80_20 (fun _ => rfl) (Or.inr rfl) ?_
    exact hnn
  · replace hn := hn.2 c5
    refine gs0 9 [(0, .inr (.inr (some 0))), (1, .inl x1), (2, .inl x2)] [.inl x2] dM_80_8 (fun _ => rfl) (Or.inr rfl) ?_
    refine gsCallS (y := 82) (as := [.inl x2]) (r := []) dM_80_9 rfl (Or.inl rfl) rfl rfl (Nat.le_of_ble_eq_true rfl) (EvS.up hn (Nat.le_of_ble_eq_true rfl)) (fun v10 t11 hv12 => ?_)
    obtain ⟨n13, rfl, hnn⟩ := hv12
    clear hn
    show GoS _ _ _ _ _ _ _ _ [(0, .inr (.inr (some 0))), (1, .inl x1), (2, .inl x2)] [.inl n13] t11 _
    refine gsIf (t := 21) (C := ¬ n13 = 0) (r := []) dM_80_12 (fun _ => rfl) (Or.inr rfl) (rTest_iff .ne n13 0) (fun c14 => ?_) (fun c14 => ?_)
    · replace hnn := hnn.1 c14
      refine gs0 22 [(0, .inr (.inr (some 0))), (1, .inl x1), (2, .inl x2)] [.inr (.inr (some 0))] dM_80_21 (fun _ => rfl) (Or.inr rfl) ?_
      refine gsGetR (some 682) dM_80_22 sk_0 rfl rfl ?_
      refine gs0 26 [(0, .inr (.inr (some 0))), (1, .inl x1), (2, .inl x2)] [.inr (.inr (some 0)), .inr (.inr (some 682))] dM_80_25 (fun _ => rfl) (Or.inr rfl) ?_
      refine gsGetR (some 6) dM_80_26 sk_0 rfl rfl ?_
      refine gsGetR (some 7) dM_80_29 sk_6 rfl rfl ?_
      refine gs0 33 [(0, .inr (.inr (some 0))), (1, .inl x1), (2, .inl x2)] [.inr (.inr (some 0)), .inr (.inr (some 7)), .inr (.inr (some 682))] dM_80_32 (fun _ => rfl) (Or.inr rfl) ?_
      refine gsGetR (some 6) dM_80_33 sk_0 rfl rfl ?_
      refine gs0 37 [(0, .inr (.inr (some 0))), (1, .inl x1), (2, .inl x2)] [.inl x1, .inr (.inr (some 6)), .inr (.inr (some 7)), .inr (.inr (some 682))] dM_80_36 (fun _ => rfl) (Or.inr rfl) ?_
      refine gsCallV (y := 40) (k := 6) (as := [.inr (.inr (some 6)), .inl x1]) (r := [.inr (.inr (some 7)), .inr (.inr (some 682))]) dM_80_37 rfl rfl rfl (Nat.le_of_ble_eq_true rfl) sk_6 rfl (Nat.le_of_ble_eq_true rfl) (EvS.up hnn (Nat.le_of_ble_eq_true rfl)) (fun v15 t16 hv17 => ?_)
      obtain ⟨q18, rfl, hq19, hnnn⟩ := hv17
      have b_q18 := hq19.1
      clear hnn
      show GoS _ _ _ _ _ _ _ _ [(0, .inr (.inr (some 0))), (1, .inl x1), (2, .inl x2)] [.inr (.inr (some q18)), .inr (.inr (some 7)), .inr (.inr (some 682))] t16 _
      refine gs0 41 [(0, .inr (.inr (some 0))), (1, .inl x1), (2, .inl x2)] [.inl x2, .inr (.inr (some q18)), .inr (.inr (some 7)), .inr (.inr (some 682))] dM_80_40 (fun _ => rfl) (Or.inr rfl) ?_
      refine gsCallV (y := 58) (k := 682) (as := [.inr (.inr (some 682)), .inr (.inr (some 7)), .inr (.inr (some q18)), .inl x2]) (r := []) dM_80_41 rfl rfl rfl (Nat.le_of_ble_eq_true rfl) sk_682 rfl (Nat.le_of_ble_eq_true rfl) (EvS.up hnnn (Nat.le_of_ble_eq_true rfl)) (fun v20 t21 hv22 => ?_)
      obtain ⟨rfl, hnnnn⟩ := hv22
      clear hnnn
      show GoS _ _ _ _ _ _ _ _ [(0, .inr (.inr (some 0))), (1, .inl x1), (2, .inl x2)] [] t21 _
      refine gs0 45 [(0, .inr (.inr (some 0))), (1, .inl x1), (2, .inl x2)] [.inr (.inr (some 0))] dM_80_44 (fun _ => rfl) (Or.inr rfl) ?_
      refine gsGetR (some 682) dM_80_45 sk_0 rfl rfl ?_
      refine gsGetE (t21 682 3) dM_80_48 sk_682 rfl rfl rfl ?_
      refine gsRet (r := some (.inl (t21 682 3))) dM_80_51 (fun _ => rfl) (Or.inr rfl) ?_
      exact hnnnn
    · replace hnn := hnn.2 c14
      refine gs0 16 [(0, .inr (.inr (some 0))), (1, .inl x1), (2, .inl x2)] [.inr (.inr (some 0))] dM_80_15 (fun _ => rfl) (Or.inr rfl) ?_
      refine gs0 17 [(0, .inr (.inr (some 0))), (1, .inl x1), (2, .inl x2)] [.inl ((-1)), .inr (.inr (some 0))] dM_80_16 (fun _ => rfl) (Or.inr rfl) ?_
      refine gsCallV (y := 72) (k := 0) (as := [.inr (.inr (some 0)), .inl ((-1))]) (r := []) dM_80_17 rfl rfl rfl (Nat.le_of_ble_eq_true rfl) sk_0 rfl (Nat.le_of_ble_eq_true rfl) (EvS.up hnn (Nat.le_of_ble_eq_true rfl)) (fun v23 t24 hv25 => ?_)
      obtain ⟨n26, rfl, hnnn⟩ := hv25
      clear hnn
      show GoS _ _ _ _ _ _ _ _ [(0, .inr (.inr (some 0))), (1, .inl x1), (2, .inl x2)] [.inl n26] t24 _
      refine gsRet (r := some (.inl n26)) dM_80_20 (fun _ => rfl) (Or.inr rfl) ?_
      exact hnnn
set_option maxRecDepth 100000 in
/-- GoalsInAQueue.isAnswer -/
theorem w_81 (sg : rSg) (x1 : Int32) {P : Option rv → rSg → Prop} (h :
    (x1 < 0 → 
      P (some (.inl 0)) sg) ∧
    (¬ (x1 < 0) → 
      ((sg 6 10) ≤ x1 → 
        P (some (.inl 0)) sg) ∧
      (¬ ((sg 6 10) ≤ x1) → 
        P (some (.inl 1)) sg))) : EvS rSkel 1 81 [.inr (.inr (some 0)), .inl x1] sg P := by
  refine EvS.of (ini := false) rfl ⟨rfl, Nat.le_of_ble_eq_true rfl⟩ rfl ?_
  show GoS rSkel 0 8 2 (some .boolean) false prog_1_method_29_code 0 [(0, .inr (.inr (some 0))), (1, .inl x1)] [] sg _
  refine gs0 1 [(0, .inr (.inr (some 0))), (1, .inl x1)] [.inl x1] dM_81_0 (fun _ => rfl) (Or.inr rfl) ?_
  refine gsIf (t := 19) (C := x1 < 0) (r := []) dM_81_1 (fun _ => rfl) (Or.inr rfl) (rTest_iff .lt x1 0) (fun c1 => ?_) (fun c1 => ?_)
  · replace h := h.1 c1
    refine gs0 20 [(0, .inr (.inr (some 0))), (1, .inl x1)] [.inl 0] dM_81_19 (fun _ => rfl) (Or.inr rfl) ?_
    refine gsRet (r := some (.inl 0)) dM_81_20 (fun _ => rfl) (Or.inr rfl) ?_
    exact h
  · replace h := h.2 c1
    refine gs0 5 [(0, .inr (.inr (some 0))), (1, .inl x1)] [.inl x1] dM_81_4 (fun _ => rfl) (Or.inr rfl) ?_
    refine gs0 6 [(0, .inr (.inr (some 0))), (1, .inl x1)] [.inr (.inr (some 0)), .inl x1] dM_81_5 (fun _ => rfl) (Or.inr rfl) ?_
    refine gsGetR (some 6) dM_81_6 sk_0 rfl rfl ?_
    refine gsGetE (sg 6 10) dM_81_9 sk_6 rfl rfl rfl ?_
    refine gsIf (t := 19) (C := (sg 6 10) ≤ x1) (r := []) dM_81_12 (fun _ => rfl) (Or.inr rfl) (rTest_iff .ge x1 (sg 6 10)) (fun c2 => ?_) (fun c2 => ?_)
    · replace h := h.1 c2
      refine gs0 20 [(0, .inr (.inr (some 0))), (1, .inl x1)] [.inl 0] dM_81_19 (fun _ => rfl) (Or.inr rfl) ?_
      refine gsRet (r := some (.inl 0)) dM_81_20 (fun _ => rfl) (Or.inr rfl) ?_
      exact h
    · replace h := h.2 c2
      refine gs0 16 [(0, .inr (.inr (some 0))), (1, .inl x1)] [.inl 1] dM_81_15 (fun _ => rfl) (Or.inr rfl) ?_
      refine gs0 20 [(0, .inr (.inr (some 0))), (1, .inl x1)] [.inl 1] dM_81_16 (fun _ => rfl) (Or.inr rfl) ?_
      refine gsRet (r := some (.inl 1)) dM_81_20 (fun _ => rfl) (Or.inr rfl) ?_
      exact h
set_option maxRecDepth 100000 in
/-- GoalsInAQueue.isNamed -/
theorem w_82 (sg : rSg) (x0 : Int32) {P : Option rv → rSg → Prop} (h :
    (x0 < 0 → 
      P (some (.inl 0)) sg) ∧
    (¬ (x0 < 0) → 
      (6 ≤ x0 → 
        P (some (.inl 0)) sg) ∧
      (¬ (6 ≤ x0) → 
        P (some (.inl 1)) sg))) : EvS rSkel 1 82 [.inl x0] sg P := by
  refine EvS.of (ini := false) rfl ⟨rfl, Nat.le_of_ble_eq_true rfl⟩ rfl ?_
  show GoS rSkel 0 8 1 (some .boolean) false prog_1_method_30_code 0 [(0, .inl x0)] [] sg _
  refine gs0 1 [(0, .inl x0)] [.inl x0] dM_82_0 (fun _ => rfl) (Or.inr rfl) ?_
  refine gsIf (t := 14) (C := x0 < 0) (r := []) dM_82_1 (fun _ => rfl) (Or.inr rfl) (rTest_iff .lt x0 0) (fun c1 => ?_) (fun c1 => ?_)
  · replace h := h.1 c1
    refine gs0 15 [(0, .inl x0)] [.inl 0] dM_82_14 (fun _ => rfl) (Or.inr rfl) ?_
    refine gsRet (r := some (.inl 0)) dM_82_15 (fun _ => rfl) (Or.inr rfl) ?_
    exact h
  · replace h := h.2 c1
    refine gs0 5 [(0, .inl x0)] [.inl x0] dM_82_4 (fun _ => rfl) (Or.inr rfl) ?_
    refine gs0 7 [(0, .inl x0)] [.inl 6, .inl x0] dM_82_5 (fun _ => rfl) (Or.inr rfl) ?_
    refine gsIf (t := 14) (C := 6 ≤ x0) (r := []) dM_82_7 (fun _ => rfl) (Or.inr rfl) (rTest_iff .ge x0 6) (fun c2 => ?_) (fun c2 => ?_)
    · replace h := h.1 c2
      refine gs0 15 [(0, .inl x0)] [.inl 0] dM_82_14 (fun _ => rfl) (Or.inr rfl) ?_
      refine gsRet (r := some (.inl 0)) dM_82_15 (fun _ => rfl) (Or.inr rfl) ?_
      exact h
    · replace h := h.2 c2
      refine gs0 11 [(0, .inl x0)] [.inl 1] dM_82_10 (fun _ => rfl) (Or.inr rfl) ?_
      refine gs0 15 [(0, .inl x0)] [.inl 1] dM_82_11 (fun _ => rfl) (Or.inr rfl) ?_
      refine gsRet (r := some (.inl 1)) dM_82_15 (fun _ => rfl) (Or.inr rfl) ?_
      exact h
set_option maxRecDepth 100000 in
/-- GoalsInAQueue.text -/
theorem w_83 (sg : rSg) (x1 : Int32) (x2 : Int32) (x3 : Int32) {P : Option rv → rSg → Prop} (h :
    EvS rSkel 1 81 [.inr (.inr (some 0)), .inl x1] sg (fun v1 t2 => ∃ n4, v1 = some (.inl n4) ∧
      (n4 = 0 → 
        EvS rSkel 1 72 [.inr (.inr (some 0)), .inl ((-1))] t2 (fun v6 t7 => ∃ n9, v6 = some (.inl n9) ∧
          P (some (.inl n9)) t7)) ∧
      (¬ (n4 = 0) → 
        EvS rSkel 1 82 [.inl x2] t2 (fun v10 t11 => ∃ n13, v10 = some (.inl n13) ∧
          (¬ n13 = 0 → 
            (0 ≤ x3 → 
              EvS rSkel 1 40 [.inr (.inr (some 6)), .inl x1] t11 (fun v16 t17 => ∃ q19, v16 = some (.inr (.inr (some q19))) ∧ isSt q19 ∧
                EvS rSkel 4 58 [.inr (.inr (some 682)), .inr (.inr (some 7)), .inr (.inr (some q19)), .inl x2] t17 (fun v21 t22 => v21 = none ∧
                  EvS rSkel 1 63 [.inr (.inr (some 682)), .inl x3] t22 (fun v24 t25 => ∃ n27, v24 = some (.inl n27) ∧
                    P (some (.inl n27)) t25)))) ∧
            (¬ (0 ≤ x3) → 
              EvS rSkel 1 72 [.inr (.inr (some 0)), .inl ((-4))] t11 (fun v28 t29 => ∃ n31, v28 = some (.inl n31) ∧
                P (some (.inl n31)) t29))) ∧
          (¬ (¬ n13 = 0) → 
            EvS rSkel 1 72 [.inr (.inr (some 0)), .inl ((-1))] t11 (fun v32 t33 => ∃ n35, v32 = some (.inl n35) ∧
              P (some (.inl n35)) t33)))))) : EvS rSkel 5 83 [.inr (.inr (some 0)), .inl x1, .inl x2, .inl x3] sg P := by
  refine EvS.of (ini := false) rfl ⟨rfl, Nat.le_of_ble_eq_true rfl⟩ rfl ?_
  show GoS rSkel 4 8 4 (some .int) false prog_1_method_7_code 0 [(0, .inr (.inr (some 0))), (1, .inl x1), (2, .inl x2), (3, .inl x3)] [] sg _
  refine gs0 1 [(0, .inr (.inr (some 0))), (1, .inl x1), (2, .inl x2), (3, .inl x3)] [.inr (.inr (some 0))] dM_83_0 (fun _ => rfl) (Or.inr rfl) ?_
  refine gs0 2 [(0, .inr (.inr (some 0))), (1, .inl x1), (2, .inl x2), (3, .inl x3)] [.inl x1, .inr (.inr (some 0))] dM_83_1 (fun _ => rfl) (Or.inr rfl) ?_
  refine gsCallV (y := 81) (k := 0) (as := [.inr (.inr (some 0)), .inl x1]) (r := []) dM_83_2 rfl rfl rfl (Nat.le_of_ble_eq_true rfl) sk_0 rfl (Nat.le_of_ble_eq_true rfl) (EvS.up h (Nat.le_of_ble_eq_true rfl)) (fun v1 t2 hv3 => ?_)
  obtain ⟨n4, rfl, hn⟩ := hv3
  clear h
  show GoS _ _ _ _ _ _ _ _ [(0, .inr (.inr (some 0))), (1, .inl x1), (2, .inl x2), (3, .inl x3)] [.inl n4] t2 _
  refine gsIf (t := 15) (C := n4 = 0) (r := []) dM_83_5 (fun _ => rfl) (Or.inr rfl) (rTest_iff .eq n4 0) (fun c5 => ?_) (fun c5 => ?_)
  · replace hn := hn.1 c5
    refine gs0 16 [(0, .inr (.inr (some 0))), (1, .inl x1), (2, .inl x2), (3, .inl x3)] [.inr (.inr (some 0))] dM_83_15 (fun _ => rfl) (Or.inr rfl) ?_
    refine gs0 17 [(0, .inr (.inr (some 0))), (1, .inl x1), (2, .inl x2), (3, .inl x3)] [.inl ((-1)), .inr (.inr (some 0))] dM_83_16 (fun _ => rfl) (Or.inr rfl) ?_
    refine gsCallV (y := 72) (k := 0) (as := [.inr (.inr (some 0)), .inl ((-1))]) (r := []) dM_83_17 rfl rfl rfl (Nat.le_of_ble_eq_true rfl) sk_0 rfl (Nat.le_of_ble_eq_true rfl) (EvS.up hn (Nat.le_of_ble_eq_true rfl)) (fun v6 t7 hv8 => ?_)
    obtain ⟨n9, rfl, hnn⟩ := hv8
    clear hn
    show GoS _ _ _ _ _ _ _ _ [(0, .inr (.inr (some 0))), (1, .inl x1), (2, .inl x2), (3, .inl x3)] [.inl n9] t7 _
    refine gsRet (r := some (.inl n9)) dM_83_20 (fun _ => rfl) (Or.inr rfl) ?_
    exact hnn
  · replace hn := hn.2 c5
    refine gs0 9 [(0, .inr (.inr (some 0))), (1, .inl x1), (2, .inl x2), (3, .inl x3)] [.inl x2] dM_83_8 (fun _ => rfl) (Or.inr rfl) ?_
    refine gsCallS (y := 82) (as := [.inl x2]) (r := []) dM_83_9 rfl (Or.inl rfl) rfl rfl (Nat.le_of_ble_eq_true rfl) (EvS.up hn (Nat.le_of_ble_eq_true rfl)) (fun v10 t11 hv12 => ?_)
    obtain ⟨n13, rfl, hnn⟩ := hv12
    clear hn
    show GoS _ _ _ _ _ _ _ _ [(0, .inr (.inr (some 0))), (1, .inl x1), (2, .inl x2), (3, .inl x3)] [.inl n13] t11 _
    refine gsIf (t := 21) (C := ¬ n13 = 0) (r := []) dM_83_12 (fun _ => rfl) (Or.inr rfl) (rTest_iff .ne n13 0) (fun c14 => ?_) (fun c14 => ?_)
    · replace hnn := hnn.1 c14
      refine gs0 22 [(0, .inr (.inr (some 0))), (1, .inl x1), (2, .inl x2), (3, .inl x3)] [.inl x3] dM_83_21 (fun _ => rfl) (Or.inr rfl) ?_
      refine gsIf (t := 32) (C := 0 ≤ x3) (r := []) dM_83_22 (fun _ => rfl) (Or.inr rfl) (rTest_iff .ge x3 0) (fun c15 => ?_) (fun c15 => ?_)
      · replace hnn := hnn.1 c15
        refine gs0 33 [(0, .inr (.inr (some 0))), (1, .inl x1), (2, .inl x2), (3, .inl x3)] [.inr (.inr (some 0))] dM_83_32 (fun _ => rfl) (Or.inr rfl) ?_
        refine gsGetR (some 682) dM_83_33 sk_0 rfl rfl ?_
        refine gs0 37 [(0, .inr (.inr (some 0))), (1, .inl x1), (2, .inl x2), (3, .inl x3)] [.inr (.inr (some 0)), .inr (.inr (some 682))] dM_83_36 (fun _ => rfl) (Or.inr rfl) ?_
        refine gsGetR (some 6) dM_83_37 sk_0 rfl rfl ?_
        refine gsGetR (some 7) dM_83_40 sk_6 rfl rfl ?_
        refine gs0 44 [(0, .inr (.inr (some 0))), (1, .inl x1), (2, .inl x2), (3, .inl x3)] [.inr (.inr (some 0)), .inr (.inr (some 7)), .inr (.inr (some 682))] dM_83_43 (fun _ => rfl) (Or.inr rfl) ?_
        refine gsGetR (some 6) dM_83_44 sk_0 rfl rfl ?_
        refine gs0 48 [(0, .inr (.inr (some 0))), (1, .inl x1), (2, .inl x2), (3, .inl x3)] [.inl x1, .inr (.inr (some 6)), .inr (.inr (some 7)), .inr (.inr (some 682))] dM_83_47 (fun _ => rfl) (Or.inr rfl) ?_
        refine gsCallV (y := 40) (k := 6) (as := [.inr (.inr (some 6)), .inl x1]) (r := [.inr (.inr (some 7)), .inr (.inr (some 682))]) dM_83_48 rfl rfl rfl (Nat.le_of_ble_eq_true rfl) sk_6 rfl (Nat.le_of_ble_eq_true rfl) (EvS.up hnn (Nat.le_of_ble_eq_true rfl)) (fun v16 t17 hv18 => ?_)
        obtain ⟨q19, rfl, hq20, hnnn⟩ := hv18
        have b_q19 := hq20.1
        clear hnn
        show GoS _ _ _ _ _ _ _ _ [(0, .inr (.inr (some 0))), (1, .inl x1), (2, .inl x2), (3, .inl x3)] [.inr (.inr (some q19)), .inr (.inr (some 7)), .inr (.inr (some 682))] t17 _
        refine gs0 52 [(0, .inr (.inr (some 0))), (1, .inl x1), (2, .inl x2), (3, .inl x3)] [.inl x2, .inr (.inr (some q19)), .inr (.inr (some 7)), .inr (.inr (some 682))] dM_83_51 (fun _ => rfl) (Or.inr rfl) ?_
        refine gsCallV (y := 58) (k := 682) (as := [.inr (.inr (some 682)), .inr (.inr (some 7)), .inr (.inr (some q19)), .inl x2]) (r := []) dM_83_52 rfl rfl rfl (Nat.le_of_ble_eq_true rfl) sk_682 rfl (Nat.le_of_ble_eq_true rfl) (EvS.up hnnn (Nat.le_of_ble_eq_true rfl)) (fun v21 t22 hv23 => ?_)
        obtain ⟨rfl, hnnnn⟩ := hv23
        clear hnnn
        show GoS _ _ _ _ _ _ _ _ [(0, .inr (.inr (some 0))), (1, .inl x1), (2, .inl x2), (3, .inl x3)] [] t22 _
        refine gs0 56 [(0, .inr (.inr (some 0))), (1, .inl x1), (2, .inl x2), (3, .inl x3)] [.inr (.inr (some 0))] dM_83_55 (fun _ => rfl) (Or.inr rfl) ?_
        refine gsGetR (some 682) dM_83_56 sk_0 rfl rfl ?_
        refine gs0 60 [(0, .inr (.inr (some 0))), (1, .inl x1), (2, .inl x2), (3, .inl x3)] [.inl x3, .inr (.inr (some 682))] dM_83_59 (fun _ => rfl) (Or.inr rfl) ?_
        refine gsCallV (y := 63) (k := 682) (as := [.inr (.inr (some 682)), .inl x3]) (r := []) dM_83_60 rfl rfl rfl (Nat.le_of_ble_eq_true rfl) sk_682 rfl (Nat.le_of_ble_eq_true rfl) (EvS.up hnnnn (Nat.le_of_ble_eq_true rfl)) (fun v24 t25 hv26 => ?_)
        obtain ⟨n27, rfl, hnnnnn⟩ := hv26
        clear hnnnn
        show GoS _ _ _ _ _ _ _ _ [(0, .inr (.inr (some 0))), (1, .inl x1), (2, .inl x2), (3, .inl x3)] [.inl n27] t25 _
        refine gsRet (r := some (.inl n27)) dM_83_63 (fun _ => rfl) (Or.inr rfl) ?_
        exact hnnnnn
      · replace hnn := hnn.2 c15
        refine gs0 26 [(0, .inr (.inr (some 0))), (1, .inl x1), (2, .inl x2), (3, .inl x3)] [.inr (.inr (some 0))] dM_83_25 (fun _ => rfl) (Or.inr rfl) ?_
        refine gs0 28 [(0, .inr (.inr (some 0))), (1, .inl x1), (2, .inl x2), (3, .inl x3)] [.inl ((-4)), .inr (.inr (some 0))] dM_83_26 (fun _ => rfl) (Or.inr rfl) ?_
        refine gsCallV (y := 72) (k := 0) (as := [.inr (.inr (some 0)), .inl ((-4))]) (r := []) dM_83_28 rfl rfl rfl (Nat.le_of_ble_eq_true rfl) sk_0 rfl (Nat.le_of_ble_eq_true rfl) (EvS.up hnn (Nat.le_of_ble_eq_true rfl)) (fun v28 t29 hv30 => ?_)
        obtain ⟨n31, rfl, hnnn⟩ := hv30
        clear hnn
        show GoS _ _ _ _ _ _ _ _ [(0, .inr (.inr (some 0))), (1, .inl x1), (2, .inl x2), (3, .inl x3)] [.inl n31] t29 _
        refine gsRet (r := some (.inl n31)) dM_83_31 (fun _ => rfl) (Or.inr rfl) ?_
        exact hnnn
    · replace hnn := hnn.2 c14
      refine gs0 16 [(0, .inr (.inr (some 0))), (1, .inl x1), (2, .inl x2), (3, .inl x3)] [.inr (.inr (some 0))] dM_83_15 (fun _ => rfl) (Or.inr rfl) ?_
      refine gs0 17 [(0, .inr (.inr (some 0))), (1, .inl x1), (2, .inl x2), (3, .inl x3)] [.inl ((-1)), .inr (.inr (some 0))] dM_83_16 (fun _ => rfl) (Or.inr rfl) ?_
      refine gsCallV (y := 72) (k := 0) (as := [.inr (.inr (some 0)), .inl ((-1))]) (r := []) dM_83_17 rfl rfl rfl (Nat.le_of_ble_eq_true rfl) sk_0 rfl (Nat.le_of_ble_eq_true rfl) (EvS.up hnn (Nat.le_of_ble_eq_true rfl)) (fun v32 t33 hv34 => ?_)
      obtain ⟨n35, rfl, hnnn⟩ := hv34
      clear hnn
      show GoS _ _ _ _ _ _ _ _ [(0, .inr (.inr (some 0))), (1, .inl x1), (2, .inl x2), (3, .inl x3)] [.inl n35] t33 _
      refine gsRet (r := some (.inl n35)) dM_83_20 (fun _ => rfl) (Or.inr rfl) ?_
      exact hnnn
set_option maxRecDepth 100000 in
/-- GoalsInAQueue.when -/
theorem w_84 (sg : rSg) (x1 : Int32) {P : Option rv → rSg → Prop} (h :
    EvS rSkel 1 81 [.inr (.inr (some 0)), .inl x1] sg (fun v1 t2 => ∃ n4, v1 = some (.inl n4) ∧
      (¬ n4 = 0 → 
        EvS rSkel 1 48 [.inr (.inr (some 6)), .inl x1] t2 (fun v6 t7 => ∃ n9, v6 = some (.inl n9) ∧
          P (some (.inl n9)) t7)) ∧
      (¬ (¬ n4 = 0) → 
        EvS rSkel 1 72 [.inr (.inr (some 0)), .inl ((-1))] t2 (fun v10 t11 => ∃ n13, v10 = some (.inl n13) ∧
          P (some (.inl n13)) t11)))) : EvS rSkel 2 84 [.inr (.inr (some 0)), .inl x1] sg P := by
  refine EvS.of (ini := false) rfl ⟨rfl, Nat.le_of_ble_eq_true rfl⟩ rfl ?_
  show GoS rSkel 1 8 2 (some .int) false prog_1_method_8_code 0 [(0, .inr (.inr (some 0))), (1, .inl x1)] [] sg _
  refine gs0 1 [(0, .inr (.inr (some 0))), (1, .inl x1)] [.inr (.inr (some 0))] dM_84_0 (fun _ => rfl) (Or.inr rfl) ?_
  refine gs0 2 [(0, .inr (.inr (some 0))), (1, .inl x1)] [.inl x1, .inr (.inr (some 0))] dM_84_1 (fun _ => rfl) (Or.inr rfl) ?_
  refine gsCallV (y := 81) (k := 0) (as := [.inr (.inr (some 0)), .inl x1]) (r := []) dM_84_2 rfl rfl rfl (Nat.le_of_ble_eq_true rfl) sk_0 rfl (Nat.le_of_ble_eq_true rfl) (EvS.up h (Nat.le_of_ble_eq_true rfl)) (fun v1 t2 hv3 => ?_)
  obtain ⟨n4, rfl, hn⟩ := hv3
  clear h
  show GoS _ _ _ _ _ _ _ _ [(0, .inr (.inr (some 0))), (1, .inl x1)] [.inl n4] t2 _
  refine gsIf (t := 14) (C := ¬ n4 = 0) (r := []) dM_84_5 (fun _ => rfl) (Or.inr rfl) (rTest_iff .ne n4 0) (fun c5 => ?_) (fun c5 => ?_)
  · replace hn := hn.1 c5
    refine gs0 15 [(0, .inr (.inr (some 0))), (1, .inl x1)] [.inr (.inr (some 0))] dM_84_14 (fun _ => rfl) (Or.inr rfl) ?_
    refine gsGetR (some 6) dM_84_15 sk_0 rfl rfl ?_
    refine gs0 19 [(0, .inr (.inr (some 0))), (1, .inl x1)] [.inl x1, .inr (.inr (some 6))] dM_84_18 (fun _ => rfl) (Or.inr rfl) ?_
    refine gsCallV (y := 48) (k := 6) (as := [.inr (.inr (some 6)), .inl x1]) (r := []) dM_84_19 rfl rfl rfl (Nat.le_of_ble_eq_true rfl) sk_6 rfl (Nat.le_of_ble_eq_true rfl) (EvS.up hn (Nat.le_of_ble_eq_true rfl)) (fun v6 t7 hv8 => ?_)
    obtain ⟨n9, rfl, hnn⟩ := hv8
    clear hn
    show GoS _ _ _ _ _ _ _ _ [(0, .inr (.inr (some 0))), (1, .inl x1)] [.inl n9] t7 _
    refine gsRet (r := some (.inl n9)) dM_84_22 (fun _ => rfl) (Or.inr rfl) ?_
    exact hnn
  · replace hn := hn.2 c5
    refine gs0 9 [(0, .inr (.inr (some 0))), (1, .inl x1)] [.inr (.inr (some 0))] dM_84_8 (fun _ => rfl) (Or.inr rfl) ?_
    refine gs0 10 [(0, .inr (.inr (some 0))), (1, .inl x1)] [.inl ((-1)), .inr (.inr (some 0))] dM_84_9 (fun _ => rfl) (Or.inr rfl) ?_
    refine gsCallV (y := 72) (k := 0) (as := [.inr (.inr (some 0)), .inl ((-1))]) (r := []) dM_84_10 rfl rfl rfl (Nat.le_of_ble_eq_true rfl) sk_0 rfl (Nat.le_of_ble_eq_true rfl) (EvS.up hn (Nat.le_of_ble_eq_true rfl)) (fun v10 t11 hv12 => ?_)
    obtain ⟨n13, rfl, hnn⟩ := hv12
    clear hn
    show GoS _ _ _ _ _ _ _ _ [(0, .inr (.inr (some 0))), (1, .inl x1)] [.inl n13] t11 _
    refine gsRet (r := some (.inl n13)) dM_84_13 (fun _ => rfl) (Or.inr rfl) ?_
    exact hnn
set_option maxRecDepth 100000 in
/-- GoalsInAQueue.kept -/
theorem w_85 (sg : rSg) (x1 : Int32) {P : Option rv → rSg → Prop} (h :
    EvS rSkel 1 81 [.inr (.inr (some 0)), .inl x1] sg (fun v1 t2 => ∃ n4, v1 = some (.inl n4) ∧
      (¬ n4 = 0 → 
        EvS rSkel 1 40 [.inr (.inr (some 6)), .inl x1] t2 (fun v6 t7 => ∃ q9, v6 = some (.inr (.inr (some q9))) ∧ isSt q9 ∧
          EvS rSkel 1 208 [.inl (t7 q9 4)] t7 (fun v11 t12 => ∃ n14, v11 = some (.inl n14) ∧
            P (some (.inl n14)) t12))) ∧
      (¬ (¬ n4 = 0) → 
        EvS rSkel 1 72 [.inr (.inr (some 0)), .inl ((-1))] t2 (fun v15 t16 => ∃ n18, v15 = some (.inl n18) ∧
          P (some (.inl n18)) t16)))) : EvS rSkel 2 85 [.inr (.inr (some 0)), .inl x1] sg P := by
  refine EvS.of (ini := false) rfl ⟨rfl, Nat.le_of_ble_eq_true rfl⟩ rfl ?_
  show GoS rSkel 1 8 2 (some .int) false prog_1_method_9_code 0 [(0, .inr (.inr (some 0))), (1, .inl x1)] [] sg _
  refine gs0 1 [(0, .inr (.inr (some 0))), (1, .inl x1)] [.inr (.inr (some 0))] dM_85_0 (fun _ => rfl) (Or.inr rfl) ?_
  refine gs0 2 [(0, .inr (.inr (some 0))), (1, .inl x1)] [.inl x1, .inr (.inr (some 0))] dM_85_1 (fun _ => rfl) (Or.inr rfl) ?_
  refine gsCallV (y := 81) (k := 0) (as := [.inr (.inr (some 0)), .inl x1]) (r := []) dM_85_2 rfl rfl rfl (Nat.le_of_ble_eq_true rfl) sk_0 rfl (Nat.le_of_ble_eq_true rfl) (EvS.up h (Nat.le_of_ble_eq_true rfl)) (fun v1 t2 hv3 => ?_)
  obtain ⟨n4, rfl, hn⟩ := hv3
  clear h
  show GoS _ _ _ _ _ _ _ _ [(0, .inr (.inr (some 0))), (1, .inl x1)] [.inl n4] t2 _
  refine gsIf (t := 14) (C := ¬ n4 = 0) (r := []) dM_85_5 (fun _ => rfl) (Or.inr rfl) (rTest_iff .ne n4 0) (fun c5 => ?_) (fun c5 => ?_)
  · replace hn := hn.1 c5
    refine gs0 15 [(0, .inr (.inr (some 0))), (1, .inl x1)] [.inr (.inr (some 0))] dM_85_14 (fun _ => rfl) (Or.inr rfl) ?_
    refine gsGetR (some 6) dM_85_15 sk_0 rfl rfl ?_
    refine gs0 19 [(0, .inr (.inr (some 0))), (1, .inl x1)] [.inl x1, .inr (.inr (some 6))] dM_85_18 (fun _ => rfl) (Or.inr rfl) ?_
    refine gsCallV (y := 40) (k := 6) (as := [.inr (.inr (some 6)), .inl x1]) (r := []) dM_85_19 rfl rfl rfl (Nat.le_of_ble_eq_true rfl) sk_6 rfl (Nat.le_of_ble_eq_true rfl) (EvS.up hn (Nat.le_of_ble_eq_true rfl)) (fun v6 t7 hv8 => ?_)
    obtain ⟨q9, rfl, hq10, hnn⟩ := hv8
    have b_q9 := hq10.1
    clear hn
    show GoS _ _ _ _ _ _ _ _ [(0, .inr (.inr (some 0))), (1, .inl x1)] [.inr (.inr (some q9))] t7 _
    refine gsGetE (t7 q9 4) dM_85_22 hq10.2.1 rfl rfl rfl ?_
    refine gsCallS (y := 208) (as := [.inl (t7 q9 4)]) (r := []) dM_85_25 rfl (Or.inl rfl) rfl rfl (Nat.le_of_ble_eq_true rfl) (EvS.up hnn (Nat.le_of_ble_eq_true rfl)) (fun v11 t12 hv13 => ?_)
    obtain ⟨n14, rfl, hnnn⟩ := hv13
    clear hnn
    show GoS _ _ _ _ _ _ _ _ [(0, .inr (.inr (some 0))), (1, .inl x1)] [.inl n14] t12 _
    refine gsRet (r := some (.inl n14)) dM_85_28 (fun _ => rfl) (Or.inr rfl) ?_
    exact hnnn
  · replace hn := hn.2 c5
    refine gs0 9 [(0, .inr (.inr (some 0))), (1, .inl x1)] [.inr (.inr (some 0))] dM_85_8 (fun _ => rfl) (Or.inr rfl) ?_
    refine gs0 10 [(0, .inr (.inr (some 0))), (1, .inl x1)] [.inl ((-1)), .inr (.inr (some 0))] dM_85_9 (fun _ => rfl) (Or.inr rfl) ?_
    refine gsCallV (y := 72) (k := 0) (as := [.inr (.inr (some 0)), .inl ((-1))]) (r := []) dM_85_10 rfl rfl rfl (Nat.le_of_ble_eq_true rfl) sk_0 rfl (Nat.le_of_ble_eq_true rfl) (EvS.up hn (Nat.le_of_ble_eq_true rfl)) (fun v15 t16 hv17 => ?_)
    obtain ⟨n18, rfl, hnn⟩ := hv17
    clear hn
    show GoS _ _ _ _ _ _ _ _ [(0, .inr (.inr (some 0))), (1, .inl x1)] [.inl n18] t16 _
    refine gsRet (r := some (.inl n18)) dM_85_13 (fun _ => rfl) (Or.inr rfl) ?_
    exact hnn
set_option maxRecDepth 100000 in
/-- GoalsInAQueue.queue -/
theorem w_86 (sg : rSg) (x1 : Int32) {P : Option rv → rSg → Prop} (h :
    (x1 = 0 → 
      P (some (.inl (sg 6 8))) sg) ∧
    (x1 = 1 → 
      P (some (.inl (sg 6 11))) sg) ∧
    (x1 = 2 → 
      P (some (.inl (sg 6 12))) sg) ∧
    (x1 = 3 → 
      (¬ (sg 6 8) = 0 → 
        EvS rSkel 2 38 [.inr (.inr (some 6))] sg (fun v3 t4 => ∃ q6, v3 = some (.inr (.inr (some q6))) ∧ isSt q6 ∧
          P (some (.inl (t4 q6 3))) t4)) ∧
      (¬ (¬ (sg 6 8) = 0) → 
        P (some (.inl ((-9)))) sg)) ∧
    (x1 = 4 → 
      (¬ (sg 6 8) = 0 → 
        EvS rSkel 2 38 [.inr (.inr (some 6))] sg (fun v9 t10 => ∃ q12, v9 = some (.inr (.inr (some q12))) ∧ isSt q12 ∧
          EvS rSkel 1 208 [.inl (t10 q12 4)] t10 (fun v14 t15 => ∃ n17, v14 = some (.inl n17) ∧
            P (some (.inl n17)) t15))) ∧
      (¬ (¬ (sg 6 8) = 0) → 
        P (some (.inl ((-9)))) sg)) ∧
    (x1 = 5 → 
      (¬ (sg 6 8) = 0 → 
        EvS rSkel 2 38 [.inr (.inr (some 6))] sg (fun v19 t20 => ∃ q22, v19 = some (.inr (.inr (some q22))) ∧ isSt q22 ∧
          P (some (.inl (t20 q22 2))) t20)) ∧
      (¬ (¬ (sg 6 8) = 0) → 
        P (some (.inl ((-9)))) sg)) ∧
    (¬ x1 = 0 ∧ ¬ x1 = 1 ∧ ¬ x1 = 2 ∧ ¬ x1 = 3 ∧ ¬ x1 = 4 ∧ ¬ x1 = 5 →
      EvS rSkel 1 72 [.inr (.inr (some 0)), .inl ((-2))] sg (fun v24 t25 => ∃ n27, v24 = some (.inl n27) ∧
        P (some (.inl n27)) t25))) : EvS rSkel 3 86 [.inr (.inr (some 0)), .inl x1] sg P := by
  refine EvS.of (ini := false) rfl ⟨rfl, Nat.le_of_ble_eq_true rfl⟩ rfl ?_
  show GoS rSkel 2 8 2 (some .int) false prog_1_method_10_code 0 [(0, .inr (.inr (some 0))), (1, .inl x1)] [] sg _
  refine gs0 1 [(0, .inr (.inr (some 0))), (1, .inl x1)] [.inl x1] dM_86_0 (fun _ => rfl) (Or.inr rfl) ?_
  by_cases c1_0 : x1 = 0
  · replace h := h.1 c1_0
    refine gs0 40 [(0, .inr (.inr (some 0))), (1, .inl x1)] [] dM_86_1 (fun _ => by rw [c1_0]; rfl) (Or.inl rfl) ?_
    refine gs0 41 [(0, .inr (.inr (some 0))), (1, .inl x1)] [.inr (.inr (some 0))] dM_86_40 (fun _ => rfl) (Or.inr rfl) ?_
    refine gsGetR (some 6) dM_86_41 sk_0 rfl rfl ?_
    refine gsGetE (sg 6 8) dM_86_44 sk_6 rfl rfl rfl ?_
    refine gsRet (r := some (.inl (sg 6 8))) dM_86_47 (fun _ => rfl) (Or.inr rfl) ?_
    exact h
  replace h := h.2
  by_cases c1_1 : x1 = 1
  · replace h := h.1 c1_1
    refine gs0 48 [(0, .inr (.inr (some 0))), (1, .inl x1)] [] dM_86_1 (fun _ => by rw [c1_1]; rfl) (Or.inl rfl) ?_
    refine gs0 49 [(0, .inr (.inr (some 0))), (1, .inl x1)] [.inr (.inr (some 0))] dM_86_48 (fun _ => rfl) (Or.inr rfl) ?_
    refine gsGetR (some 6) dM_86_49 sk_0 rfl rfl ?_
    refine gsGetE (sg 6 11) dM_86_52 sk_6 rfl rfl rfl ?_
    refine gsRet (r := some (.inl (sg 6 11))) dM_86_55 (fun _ => rfl) (Or.inr rfl) ?_
    exact h
  replace h := h.2
  by_cases c1_2 : x1 = 2
  · replace h := h.1 c1_2
    refine gs0 56 [(0, .inr (.inr (some 0))), (1, .inl x1)] [] dM_86_1 (fun _ => by rw [c1_2]; rfl) (Or.inl rfl) ?_
    refine gs0 57 [(0, .inr (.inr (some 0))), (1, .inl x1)] [.inr (.inr (some 0))] dM_86_56 (fun _ => rfl) (Or.inr rfl) ?_
    refine gsGetR (some 6) dM_86_57 sk_0 rfl rfl ?_
    refine gsGetE (sg 6 12) dM_86_60 sk_6 rfl rfl rfl ?_
    refine gsRet (r := some (.inl (sg 6 12))) dM_86_63 (fun _ => rfl) (Or.inr rfl) ?_
    exact h
  replace h := h.2
  by_cases c1_3 : x1 = 3
  · replace h := h.1 c1_3
    refine gs0 64 [(0, .inr (.inr (some 0))), (1, .inl x1)] [] dM_86_1 (fun _ => by rw [c1_3]; rfl) (Or.inl rfl) ?_
    refine gs0 65 [(0, .inr (.inr (some 0))), (1, .inl x1)] [.inr (.inr (some 0))] dM_86_64 (fun _ => rfl) (Or.inr rfl) ?_
    refine gsGetR (some 6) dM_86_65 sk_0 rfl rfl ?_
    refine gsGetE (sg 6 8) dM_86_68 sk_6 rfl rfl rfl ?_
    refine gsIf (t := 79) (C := ¬ (sg 6 8) = 0) (r := []) dM_86_71 (fun _ => rfl) (Or.inr rfl) (rTest_iff .ne (sg 6 8) 0) (fun c2 => ?_) (fun c2 => ?_)
    · replace h := h.1 c2
      refine gs0 80 [(0, .inr (.inr (some 0))), (1, .inl x1)] [.inr (.inr (some 0))] dM_86_79 (fun _ => rfl) (Or.inr rfl) ?_
      refine gsGetR (some 6) dM_86_80 sk_0 rfl rfl ?_
      refine gsCallV (y := 38) (k := 6) (as := [.inr (.inr (some 6))]) (r := []) dM_86_83 rfl rfl rfl (Nat.le_of_ble_eq_true rfl) sk_6 rfl (Nat.le_of_ble_eq_true rfl) (EvS.up h (Nat.le_of_ble_eq_true rfl)) (fun v3 t4 hv5 => ?_)
      obtain ⟨q6, rfl, hq7, hn⟩ := hv5
      have b_q6 := hq7.1
      clear h
      show GoS _ _ _ _ _ _ _ _ [(0, .inr (.inr (some 0))), (1, .inl x1)] [.inr (.inr (some q6))] t4 _
      refine gsGetE (t4 q6 3) dM_86_86 hq7.2.1 rfl rfl rfl ?_
      refine gsRet (r := some (.inl (t4 q6 3))) dM_86_89 (fun _ => rfl) (Or.inr rfl) ?_
      exact hn
    · replace h := h.2 c2
      refine gs0 76 [(0, .inr (.inr (some 0))), (1, .inl x1)] [.inl ((-9))] dM_86_74 (fun _ => rfl) (Or.inr rfl) ?_
      refine gs0 89 [(0, .inr (.inr (some 0))), (1, .inl x1)] [.inl ((-9))] dM_86_76 (fun _ => rfl) (Or.inr rfl) ?_
      refine gsRet (r := some (.inl ((-9)))) dM_86_89 (fun _ => rfl) (Or.inr rfl) ?_
      exact h
  replace h := h.2
  by_cases c1_4 : x1 = 4
  · replace h := h.1 c1_4
    refine gs0 90 [(0, .inr (.inr (some 0))), (1, .inl x1)] [] dM_86_1 (fun _ => by rw [c1_4]; rfl) (Or.inl rfl) ?_
    refine gs0 91 [(0, .inr (.inr (some 0))), (1, .inl x1)] [.inr (.inr (some 0))] dM_86_90 (fun _ => rfl) (Or.inr rfl) ?_
    refine gsGetR (some 6) dM_86_91 sk_0 rfl rfl ?_
    refine gsGetE (sg 6 8) dM_86_94 sk_6 rfl rfl rfl ?_
    refine gsIf (t := 105) (C := ¬ (sg 6 8) = 0) (r := []) dM_86_97 (fun _ => rfl) (Or.inr rfl) (rTest_iff .ne (sg 6 8) 0) (fun c8 => ?_) (fun c8 => ?_)
    · replace h := h.1 c8
      refine gs0 106 [(0, .inr (.inr (some 0))), (1, .inl x1)] [.inr (.inr (some 0))] dM_86_105 (fun _ => rfl) (Or.inr rfl) ?_
      refine gsGetR (some 6) dM_86_106 sk_0 rfl rfl ?_
      refine gsCallV (y := 38) (k := 6) (as := [.inr (.inr (some 6))]) (r := []) dM_86_109 rfl rfl rfl (Nat.le_of_ble_eq_true rfl) sk_6 rfl (Nat.le_of_ble_eq_true rfl) (EvS.up h (Nat.le_of_ble_eq_true rfl)) (fun v9 t10 hv11 => ?_)
      obtain ⟨q12, rfl, hq13, hn⟩ := hv11
      have b_q12 := hq13.1
      clear h
      show GoS _ _ _ _ _ _ _ _ [(0, .inr (.inr (some 0))), (1, .inl x1)] [.inr (.inr (some q12))] t10 _
      refine gsGetE (t10 q12 4) dM_86_112 hq13.2.1 rfl rfl rfl ?_
      refine gsCallS (y := 208) (as := [.inl (t10 q12 4)]) (r := []) dM_86_115 rfl (Or.inl rfl) rfl rfl (Nat.le_of_ble_eq_true rfl) (EvS.up hn (Nat.le_of_ble_eq_true rfl)) (fun v14 t15 hv16 => ?_)
      obtain ⟨n17, rfl, hnn⟩ := hv16
      clear hn
      show GoS _ _ _ _ _ _ _ _ [(0, .inr (.inr (some 0))), (1, .inl x1)] [.inl n17] t15 _
      refine gsRet (r := some (.inl n17)) dM_86_118 (fun _ => rfl) (Or.inr rfl) ?_
      exact hnn
    · replace h := h.2 c8
      refine gs0 102 [(0, .inr (.inr (some 0))), (1, .inl x1)] [.inl ((-9))] dM_86_100 (fun _ => rfl) (Or.inr rfl) ?_
      refine gs0 118 [(0, .inr (.inr (some 0))), (1, .inl x1)] [.inl ((-9))] dM_86_102 (fun _ => rfl) (Or.inr rfl) ?_
      refine gsRet (r := some (.inl ((-9)))) dM_86_118 (fun _ => rfl) (Or.inr rfl) ?_
      exact h
  replace h := h.2
  by_cases c1_5 : x1 = 5
  · replace h := h.1 c1_5
    refine gs0 119 [(0, .inr (.inr (some 0))), (1, .inl x1)] [] dM_86_1 (fun _ => by rw [c1_5]; rfl) (Or.inl rfl) ?_
    refine gs0 120 [(0, .inr (.inr (some 0))), (1, .inl x1)] [.inr (.inr (some 0))] dM_86_119 (fun _ => rfl) (Or.inr rfl) ?_
    refine gsGetR (some 6) dM_86_120 sk_0 rfl rfl ?_
    refine gsGetE (sg 6 8) dM_86_123 sk_6 rfl rfl rfl ?_
    refine gsIf (t := 134) (C := ¬ (sg 6 8) = 0) (r := []) dM_86_126 (fun _ => rfl) (Or.inr rfl) (rTest_iff .ne (sg 6 8) 0) (fun c18 => ?_) (fun c18 => ?_)
    · replace h := h.1 c18
      refine gs0 135 [(0, .inr (.inr (some 0))), (1, .inl x1)] [.inr (.inr (some 0))] dM_86_134 (fun _ => rfl) (Or.inr rfl) ?_
      refine gsGetR (some 6) dM_86_135 sk_0 rfl rfl ?_
      refine gsCallV (y := 38) (k := 6) (as := [.inr (.inr (some 6))]) (r := []) dM_86_138 rfl rfl rfl (Nat.le_of_ble_eq_true rfl) sk_6 rfl (Nat.le_of_ble_eq_true rfl) (EvS.up h (Nat.le_of_ble_eq_true rfl)) (fun v19 t20 hv21 => ?_)
      obtain ⟨q22, rfl, hq23, hn⟩ := hv21
      have b_q22 := hq23.1
      clear h
      show GoS _ _ _ _ _ _ _ _ [(0, .inr (.inr (some 0))), (1, .inl x1)] [.inr (.inr (some q22))] t20 _
      refine gsGetE (t20 q22 2) dM_86_141 hq23.2.1 rfl rfl rfl ?_
      refine gsRet (r := some (.inl (t20 q22 2))) dM_86_144 (fun _ => rfl) (Or.inr rfl) ?_
      exact hn
    · replace h := h.2 c18
      refine gs0 131 [(0, .inr (.inr (some 0))), (1, .inl x1)] [.inl ((-9))] dM_86_129 (fun _ => rfl) (Or.inr rfl) ?_
      refine gs0 144 [(0, .inr (.inr (some 0))), (1, .inl x1)] [.inl ((-9))] dM_86_131 (fun _ => rfl) (Or.inr rfl) ?_
      refine gsRet (r := some (.inl ((-9)))) dM_86_144 (fun _ => rfl) (Or.inr rfl) ?_
      exact h
  replace h := h.2
  replace h := h ⟨c1_0, c1_1, c1_2, c1_3, c1_4, c1_5⟩
  have ec1_0 := i32_ne c1_0 (show (0 : Int32).toInt = 0 by decide)
  have ec1_1 := i32_ne c1_1 (show (1 : Int32).toInt = 1 by decide)
  have ec1_2 := i32_ne c1_2 (show (2 : Int32).toInt = 2 by decide)
  have ec1_3 := i32_ne c1_3 (show (3 : Int32).toInt = 3 by decide)
  have ec1_4 := i32_ne c1_4 (show (4 : Int32).toInt = 4 by decide)
  have ec1_5 := i32_ne c1_5 (show (5 : Int32).toInt = 5 by decide)
  refine gs0 145 [(0, .inr (.inr (some 0))), (1, .inl x1)] [] dM_86_1 (fun _ => swT_out (by omega) rfl) (Or.inl rfl) ?_
  refine gs0 146 [(0, .inr (.inr (some 0))), (1, .inl x1)] [.inr (.inr (some 0))] dM_86_145 (fun _ => rfl) (Or.inr rfl) ?_
  refine gs0 148 [(0, .inr (.inr (some 0))), (1, .inl x1)] [.inl ((-2)), .inr (.inr (some 0))] dM_86_146 (fun _ => rfl) (Or.inr rfl) ?_
  refine gsCallV (y := 72) (k := 0) (as := [.inr (.inr (some 0)), .inl ((-2))]) (r := []) dM_86_148 rfl rfl rfl (Nat.le_of_ble_eq_true rfl) sk_0 rfl (Nat.le_of_ble_eq_true rfl) (EvS.up h (Nat.le_of_ble_eq_true rfl)) (fun v24 t25 hv26 => ?_)
  obtain ⟨n27, rfl, hn⟩ := hv26
  clear h
  show GoS _ _ _ _ _ _ _ _ [(0, .inr (.inr (some 0))), (1, .inl x1)] [.inl n27] t25 _
  refine gsRet (r := some (.inl n27)) dM_86_151 (fun _ => rfl) (Or.inr rfl) ?_
  exact hn
set_option maxRecDepth 100000 in
/-- GoalsInAQueue.done -/
theorem w_87 (sg : rSg)  {P : Option rv → rSg → Prop} (h :
    EvS rSkel 1 37 [.inr (.inr (some 6))] sg (fun v1 t2 => ∃ n4, v1 = some (.inl n4) ∧
      (n4 = 0 → 
        P (some (.inl 0)) t2) ∧
      (¬ (n4 = 0) → 
        P (some (.inl 1)) t2))) : EvS rSkel 2 87 [.inr (.inr (some 0))] sg P := by
  refine EvS.of (ini := false) rfl ⟨rfl, Nat.le_of_ble_eq_true rfl⟩ rfl ?_
  show GoS rSkel 1 8 1 (some .int) false prog_1_method_11_code 0 [(0, .inr (.inr (some 0)))] [] sg _
  refine gs0 1 [(0, .inr (.inr (some 0)))] [.inr (.inr (some 0))] dM_87_0 (fun _ => rfl) (Or.inr rfl) ?_
  refine gsGetR (some 6) dM_87_1 sk_0 rfl rfl ?_
  refine gsCallV (y := 37) (k := 6) (as := [.inr (.inr (some 6))]) (r := []) dM_87_4 rfl rfl rfl (Nat.le_of_ble_eq_true rfl) sk_6 rfl (Nat.le_of_ble_eq_true rfl) (EvS.up h (Nat.le_of_ble_eq_true rfl)) (fun v1 t2 hv3 => ?_)
  obtain ⟨n4, rfl, hn⟩ := hv3
  clear h
  show GoS _ _ _ _ _ _ _ _ [(0, .inr (.inr (some 0)))] [.inl n4] t2 _
  refine gsIf (t := 14) (C := n4 = 0) (r := []) dM_87_7 (fun _ => rfl) (Or.inr rfl) (rTest_iff .eq n4 0) (fun c5 => ?_) (fun c5 => ?_)
  · replace hn := hn.1 c5
    refine gs0 15 [(0, .inr (.inr (some 0)))] [.inl 0] dM_87_14 (fun _ => rfl) (Or.inr rfl) ?_
    refine gsRet (r := some (.inl 0)) dM_87_15 (fun _ => rfl) (Or.inr rfl) ?_
    exact hn
  · replace hn := hn.2 c5
    refine gs0 11 [(0, .inr (.inr (some 0)))] [.inl 1] dM_87_10 (fun _ => rfl) (Or.inr rfl) ?_
    refine gs0 15 [(0, .inr (.inr (some 0)))] [.inl 1] dM_87_11 (fun _ => rfl) (Or.inr rfl) ?_
    refine gsRet (r := some (.inl 1)) dM_87_15 (fun _ => rfl) (Or.inr rfl) ?_
    exact hn
def g_88_29  (y2 : Int32) (y3 : Int32) (sg : rSg) (P : Option rv → rSg → Prop) : Prop := GoS rSkel 5 8 4 (some .int) false prog_1_method_12_code 29 [(0, .inr (.inr (some 0))), (2, .inl y2), (3, .inl y3)] [] sg P
set_option maxRecDepth 100000 in
theorem w_88_29 (sg : rSg)  (y2 : Int32) (y3 : Int32) {P : Option rv → rSg → Prop} (h :
    ((sg 6 10) ≤ y3 → 
      P (some (.inl y2)) sg) ∧
    (¬ ((sg 6 10) ≤ y3) → 
      EvS rSkel 2 90 [.inr (.inr (some 0)), .inl y3] sg (fun v14 t15 => ∃ n17, v14 = some (.inl n17) ∧
        (¬ n17 = y3 → 
          g_88_29 y2 (y3 + 1) t15 P) ∧
        (¬ (¬ n17 = y3) → 
          g_88_29 (y2 + 1) (y3 + 1) t15 P)))) : g_88_29 y2 y3 sg P := by
  show GoS rSkel 5 8 4 (some .int) false prog_1_method_12_code 29 [(0, .inr (.inr (some 0))), (2, .inl y2), (3, .inl y3)] [] sg P
  refine gs0 30 [(0, .inr (.inr (some 0))), (2, .inl y2), (3, .inl y3)] [.inl y3] dM_88_29 (fun _ => rfl) (Or.inr rfl) ?_
  refine gs0 31 [(0, .inr (.inr (some 0))), (2, .inl y2), (3, .inl y3)] [.inr (.inr (some 0)), .inl y3] dM_88_30 (fun _ => rfl) (Or.inr rfl) ?_
  refine gsGetR (some 6) dM_88_31 sk_0 rfl rfl ?_
  refine gsGetE (sg 6 10) dM_88_34 sk_6 rfl rfl rfl ?_
  refine gsIf (t := 58) (C := (sg 6 10) ≤ y3) (r := []) dM_88_37 (fun _ => rfl) (Or.inr rfl) (rTest_iff .ge y3 (sg 6 10)) (fun c13 => ?_) (fun c13 => ?_)
  · replace h := h.1 c13
    refine gs0 59 [(0, .inr (.inr (some 0))), (2, .inl y2), (3, .inl y3)] [.inl y2] dM_88_58 (fun _ => rfl) (Or.inr rfl) ?_
    refine gsRet (r := some (.inl y2)) dM_88_59 (fun _ => rfl) (Or.inr rfl) ?_
    exact h
  · replace h := h.2 c13
    refine gs0 41 [(0, .inr (.inr (some 0))), (2, .inl y2), (3, .inl y3)] [.inr (.inr (some 0))] dM_88_40 (fun _ => rfl) (Or.inr rfl) ?_
    refine gs0 42 [(0, .inr (.inr (some 0))), (2, .inl y2), (3, .inl y3)] [.inl y3, .inr (.inr (some 0))] dM_88_41 (fun _ => rfl) (Or.inr rfl) ?_
    refine gsCallV (y := 90) (k := 0) (as := [.inr (.inr (some 0)), .inl y3]) (r := []) dM_88_42 rfl rfl rfl (Nat.le_of_ble_eq_true rfl) sk_0 rfl (Nat.le_of_ble_eq_true rfl) (EvS.up h (Nat.le_of_ble_eq_true rfl)) (fun v14 t15 hv16 => ?_)
    obtain ⟨n17, rfl, hn⟩ := hv16
    clear h
    show GoS _ _ _ _ _ _ _ _ [(0, .inr (.inr (some 0))), (2, .inl y2), (3, .inl y3)] [.inl n17] t15 _
    refine gs0 46 [(0, .inr (.inr (some 0))), (2, .inl y2), (3, .inl y3)] [.inl y3, .inl n17] dM_88_45 (fun _ => rfl) (Or.inr rfl) ?_
    refine gsIf (t := 52) (C := ¬ n17 = y3) (r := []) dM_88_46 (fun _ => rfl) (Or.inr rfl) (rTest_iff .ne n17 y3) (fun c18 => ?_) (fun c18 => ?_)
    · replace hn := hn.1 c18
      refine gs0 55 [(3, .inl (y3 + 1)), (0, .inr (.inr (some 0))), (2, .inl y2)] [] dM_88_52 (fun _ => rfl) (Or.inr rfl) ?_
      refine gs0 29 [(3, .inl (y3 + 1)), (0, .inr (.inr (some 0))), (2, .inl y2)] [] dM_88_55 (fun _ => rfl) (Or.inr rfl) ?_
      exact GoS.sub (Lnd_keys (ks := [0, 2, 3]) rfl (by decide)) (Lsub_cons rfl (Lsub_cons rfl (Lsub_cons rfl Lsub_nil))) hn
    · replace hn := hn.2 c18
      refine gs0 52 [(2, .inl (y2 + 1)), (0, .inr (.inr (some 0))), (3, .inl y3)] [] dM_88_49 (fun _ => rfl) (Or.inr rfl) ?_
      refine gs0 55 [(3, .inl (y3 + 1)), (2, .inl (y2 + 1)), (0, .inr (.inr (some 0)))] [] dM_88_52 (fun _ => rfl) (Or.inr rfl) ?_
      refine gs0 29 [(3, .inl (y3 + 1)), (2, .inl (y2 + 1)), (0, .inr (.inr (some 0)))] [] dM_88_55 (fun _ => rfl) (Or.inr rfl) ?_
      exact GoS.sub (Lnd_keys (ks := [0, 2, 3]) rfl (by decide)) (Lsub_cons rfl (Lsub_cons rfl (Lsub_cons rfl Lsub_nil))) hn
set_option maxRecDepth 100000 in
/-- GoalsInAQueue.different -/
theorem w_88 (sg : rSg) (x1 : Int32) {P : Option rv → rSg → Prop} (h :
    EvS rSkel 1 82 [.inl x1] sg (fun v1 t2 => ∃ n4, v1 = some (.inl n4) ∧
      (¬ n4 = 0 → 
        EvS rSkel 5 89 [.inr (.inr (some 0)), .inl (t2 6 10), .inl x1] t2 (fun v6 t7 => v6 = none ∧
          g_88_29 0 0 t7 P)) ∧
      (¬ (¬ n4 = 0) → 
        EvS rSkel 1 72 [.inr (.inr (some 0)), .inl ((-1))] t2 (fun v9 t10 => ∃ n12, v9 = some (.inl n12) ∧
          P (some (.inl n12)) t10)))) : EvS rSkel 6 88 [.inr (.inr (some 0)), .inl x1] sg P := by
  refine EvS.of (ini := false) rfl ⟨rfl, Nat.le_of_ble_eq_true rfl⟩ rfl ?_
  show GoS rSkel 5 8 4 (some .int) false prog_1_method_12_code 0 [(0, .inr (.inr (some 0))), (1, .inl x1)] [] sg _
  refine gs0 1 [(0, .inr (.inr (some 0))), (1, .inl x1)] [.inl x1] dM_88_0 (fun _ => rfl) (Or.inr rfl) ?_
  refine gsCallS (y := 82) (as := [.inl x1]) (r := []) dM_88_1 rfl (Or.inl rfl) rfl rfl (Nat.le_of_ble_eq_true rfl) (EvS.up h (Nat.le_of_ble_eq_true rfl)) (fun v1 t2 hv3 => ?_)
  obtain ⟨n4, rfl, hn⟩ := hv3
  clear h
  show GoS _ _ _ _ _ _ _ _ [(0, .inr (.inr (some 0))), (1, .inl x1)] [.inl n4] t2 _
  refine gsIf (t := 13) (C := ¬ n4 = 0) (r := []) dM_88_4 (fun _ => rfl) (Or.inr rfl) (rTest_iff .ne n4 0) (fun c5 => ?_) (fun c5 => ?_)
  · replace hn := hn.1 c5
    refine gs0 14 [(0, .inr (.inr (some 0))), (1, .inl x1)] [.inr (.inr (some 0))] dM_88_13 (fun _ => rfl) (Or.inr rfl) ?_
    refine gs0 15 [(0, .inr (.inr (some 0))), (1, .inl x1)] [.inr (.inr (some 0)), .inr (.inr (some 0))] dM_88_14 (fun _ => rfl) (Or.inr rfl) ?_
    refine gsGetR (some 6) dM_88_15 sk_0 rfl rfl ?_
    refine gsGetE (t2 6 10) dM_88_18 sk_6 rfl rfl rfl ?_
    refine gs0 22 [(0, .inr (.inr (some 0))), (1, .inl x1)] [.inl x1, .inl (t2 6 10), .inr (.inr (some 0))] dM_88_21 (fun _ => rfl) (Or.inr rfl) ?_
    refine gsCallV (y := 89) (k := 0) (as := [.inr (.inr (some 0)), .inl (t2 6 10), .inl x1]) (r := []) dM_88_22 rfl rfl rfl (Nat.le_of_ble_eq_true rfl) sk_0 rfl (Nat.le_of_ble_eq_true rfl) (EvS.up hn (Nat.le_of_ble_eq_true rfl)) (fun v6 t7 hv8 => ?_)
    obtain ⟨rfl, hnn⟩ := hv8
    clear hn
    show GoS _ _ _ _ _ _ _ _ [(0, .inr (.inr (some 0))), (1, .inl x1)] [] t7 _
    refine gs0 26 [(0, .inr (.inr (some 0))), (1, .inl x1)] [.inl 0] dM_88_25 (fun _ => rfl) (Or.inr rfl) ?_
    refine gs0 27 [(2, .inl 0), (0, .inr (.inr (some 0))), (1, .inl x1)] [] dM_88_26 (fun _ => rfl) (Or.inr rfl) ?_
    refine gs0 28 [(2, .inl 0), (0, .inr (.inr (some 0))), (1, .inl x1)] [.inl 0] dM_88_27 (fun _ => rfl) (Or.inr rfl) ?_
    refine gs0 29 [(3, .inl 0), (2, .inl 0), (0, .inr (.inr (some 0))), (1, .inl x1)] [] dM_88_28 (fun _ => rfl) (Or.inr rfl) ?_
    exact GoS.sub (Lnd_keys (ks := [0, 2, 3]) rfl (by decide)) (Lsub_cons rfl (Lsub_cons rfl (Lsub_cons rfl Lsub_nil))) hnn
  · replace hn := hn.2 c5
    refine gs0 8 [(0, .inr (.inr (some 0))), (1, .inl x1)] [.inr (.inr (some 0))] dM_88_7 (fun _ => rfl) (Or.inr rfl) ?_
    refine gs0 9 [(0, .inr (.inr (some 0))), (1, .inl x1)] [.inl ((-1)), .inr (.inr (some 0))] dM_88_8 (fun _ => rfl) (Or.inr rfl) ?_
    refine gsCallV (y := 72) (k := 0) (as := [.inr (.inr (some 0)), .inl ((-1))]) (r := []) dM_88_9 rfl rfl rfl (Nat.le_of_ble_eq_true rfl) sk_0 rfl (Nat.le_of_ble_eq_true rfl) (EvS.up hn (Nat.le_of_ble_eq_true rfl)) (fun v9 t10 hv11 => ?_)
    obtain ⟨n12, rfl, hnn⟩ := hv11
    clear hn
    show GoS _ _ _ _ _ _ _ _ [(0, .inr (.inr (some 0))), (1, .inl x1)] [.inl n12] t10 _
    refine gsRet (r := some (.inl n12)) dM_88_12 (fun _ => rfl) (Or.inr rfl) ?_
    exact hnn
def g_90_2  (y1 : Int32) (y2 : Int32) (sg : rSg) (P : Option rv → rSg → Prop) : Prop := GoS rSkel 1 8 3 (some .int) false prog_1_method_40_code 2 [(0, .inr (.inr (some 0))), (1, .inl y1), (2, .inl y2)] [] sg P
set_option maxRecDepth 100000 in
theorem w_90_2 (sg : rSg)  (y1 : Int32) (y2 : Int32) {P : Option rv → rSg → Prop} (h :
    (y1 ≤ y2 → 
      P (some (.inl y1)) sg) ∧
    (¬ (y1 ≤ y2) → 
      EvS rSkel 1 91 [.inr (.inr (some 0)), .inl y2, .inl y1] sg (fun v2 t3 => ∃ n5, v2 = some (.inl n5) ∧
        (n5 = 0 → 
          g_90_2 y1 (y2 + 1) t3 P) ∧
        (¬ (n5 = 0) → 
          P (some (.inl y2)) t3)))) : g_90_2 y1 y2 sg P := by
  show GoS rSkel 1 8 3 (some .int) false prog_1_method_40_code 2 [(0, .inr (.inr (some 0))), (1, .inl y1), (2, .inl y2)] [] sg P
  refine gs0 3 [(0, .inr (.inr (some 0))), (1, .inl y1), (2, .inl y2)] [.inl y2] dM_90_2 (fun _ => rfl) (Or.inr rfl) ?_
  refine gs0 4 [(0, .inr (.inr (some 0))), (1, .inl y1), (2, .inl y2)] [.inl y1, .inl y2] dM_90_3 (fun _ => rfl) (Or.inr rfl) ?_
  refine gsIf (t := 24) (C := y1 ≤ y2) (r := []) dM_90_4 (fun _ => rfl) (Or.inr rfl) (rTest_iff .ge y2 y1) (fun c1 => ?_) (fun c1 => ?_)
  · replace h := h.1 c1
    refine gs0 25 [(0, .inr (.inr (some 0))), (1, .inl y1), (2, .inl y2)] [.inl y1] dM_90_24 (fun _ => rfl) (Or.inr rfl) ?_
    refine gsRet (r := some (.inl y1)) dM_90_25 (fun _ => rfl) (Or.inr rfl) ?_
    exact h
  · replace h := h.2 c1
    refine gs0 8 [(0, .inr (.inr (some 0))), (1, .inl y1), (2, .inl y2)] [.inr (.inr (some 0))] dM_90_7 (fun _ => rfl) (Or.inr rfl) ?_
    refine gs0 9 [(0, .inr (.inr (some 0))), (1, .inl y1), (2, .inl y2)] [.inl y2, .inr (.inr (some 0))] dM_90_8 (fun _ => rfl) (Or.inr rfl) ?_
    refine gs0 10 [(0, .inr (.inr (some 0))), (1, .inl y1), (2, .inl y2)] [.inl y1, .inl y2, .inr (.inr (some 0))] dM_90_9 (fun _ => rfl) (Or.inr rfl) ?_
    refine gsCallV (y := 91) (k := 0) (as := [.inr (.inr (some 0)), .inl y2, .inl y1]) (r := []) dM_90_10 rfl rfl rfl (Nat.le_of_ble_eq_true rfl) sk_0 rfl (Nat.le_of_ble_eq_true rfl) (EvS.up h (Nat.le_of_ble_eq_true rfl)) (fun v2 t3 hv4 => ?_)
    obtain ⟨n5, rfl, hn⟩ := hv4
    clear h
    show GoS _ _ _ _ _ _ _ _ [(0, .inr (.inr (some 0))), (1, .inl y1), (2, .inl y2)] [.inl n5] t3 _
    refine gsIf (t := 18) (C := n5 = 0) (r := []) dM_90_13 (fun _ => rfl) (Or.inr rfl) (rTest_iff .eq n5 0) (fun c6 => ?_) (fun c6 => ?_)
    · replace hn := hn.1 c6
      refine gs0 21 [(2, .inl (y2 + 1)), (0, .inr (.inr (some 0))), (1, .inl y1)] [] dM_90_18 (fun _ => rfl) (Or.inr rfl) ?_
      refine gs0 2 [(2, .inl (y2 + 1)), (0, .inr (.inr (some 0))), (1, .inl y1)] [] dM_90_21 (fun _ => rfl) (Or.inr rfl) ?_
      exact GoS.sub (Lnd_keys (ks := [0, 1, 2]) rfl (by decide)) (Lsub_cons rfl (Lsub_cons rfl (Lsub_cons rfl Lsub_nil))) hn
    · replace hn := hn.2 c6
      refine gs0 17 [(0, .inr (.inr (some 0))), (1, .inl y1), (2, .inl y2)] [.inl y2] dM_90_16 (fun _ => rfl) (Or.inr rfl) ?_
      refine gsRet (r := some (.inl y2)) dM_90_17 (fun _ => rfl) (Or.inr rfl) ?_
      exact hn
set_option maxRecDepth 100000 in
/-- GoalsInAQueue.firstAlike -/
theorem w_90 (sg : rSg) (x1 : Int32) {P : Option rv → rSg → Prop} (h :
    g_90_2 x1 0 sg P) : EvS rSkel 2 90 [.inr (.inr (some 0)), .inl x1] sg P := by
  refine EvS.of (ini := false) rfl ⟨rfl, Nat.le_of_ble_eq_true rfl⟩ rfl ?_
  show GoS rSkel 1 8 3 (some .int) false prog_1_method_40_code 0 [(0, .inr (.inr (some 0))), (1, .inl x1)] [] sg _
  refine gs0 1 [(0, .inr (.inr (some 0))), (1, .inl x1)] [.inl 0] dM_90_0 (fun _ => rfl) (Or.inr rfl) ?_
  refine gs0 2 [(2, .inl 0), (0, .inr (.inr (some 0))), (1, .inl x1)] [] dM_90_1 (fun _ => rfl) (Or.inr rfl) ?_
  exact GoS.sub (Lnd_keys (ks := [0, 1, 2]) rfl (by decide)) (Lsub_cons rfl (Lsub_cons rfl (Lsub_cons rfl Lsub_nil))) h
set_option maxRecDepth 100000 in
/-- GoalsInAQueue.earliest -/
theorem w_92 (sg : rSg) (x1 : Int32) (x2 : Int32) {P : Option rv → rSg → Prop} (h :
    EvS rSkel 1 81 [.inr (.inr (some 0)), .inl x1] sg (fun v1 t2 => ∃ n4, v1 = some (.inl n4) ∧
      (n4 = 0 → 
        EvS rSkel 1 72 [.inr (.inr (some 0)), .inl ((-1))] t2 (fun v6 t7 => ∃ n9, v6 = some (.inl n9) ∧
          P (some (.inl n9)) t7)) ∧
      (¬ (n4 = 0) → 
        EvS rSkel 1 82 [.inl x2] t2 (fun v10 t11 => ∃ n13, v10 = some (.inl n13) ∧
          (¬ n13 = 0 → 
            EvS rSkel 5 89 [.inr (.inr (some 0)), .inl (x1 + 1), .inl x2] t11 (fun v15 t16 => v15 = none ∧
              EvS rSkel 2 90 [.inr (.inr (some 0)), .inl x1] t16 (fun v18 t19 => ∃ n21, v18 = some (.inl n21) ∧
                P (some (.inl n21)) t19))) ∧
          (¬ (¬ n13 = 0) → 
            EvS rSkel 1 72 [.inr (.inr (some 0)), .inl ((-1))] t11 (fun v22 t23 => ∃ n25, v22 = some (.inl n25) ∧
              P (some (.inl n25)) t23)))))) : EvS rSkel 6 92 [.inr (.inr (some 0)), .inl x1, .inl x2] sg P := by
  refine EvS.of (ini := false) rfl ⟨rfl, Nat.le_of_ble_eq_true rfl⟩ rfl ?_
  show GoS rSkel 5 8 3 (some .int) false prog_1_method_13_code 0 [(0, .inr (.inr (some 0))), (1, .inl x1), (2, .inl x2)] [] sg _
  refine gs0 1 [(0, .inr (.inr (some 0))), (1, .inl x1), (2, .inl x2)] [.inr (.inr (some 0))] dM_92_0 (fun _ => rfl) (Or.inr rfl) ?_
  refine gs0 2 [(0, .inr (.inr (some 0))), (1, .inl x1), (2, .inl x2)] [.inl x1, .inr (.inr (some 0))] dM_92_1 (fun _ => rfl) (Or.inr rfl) ?_
  refine gsCallV (y := 81) (k := 0) (as := [.inr (.inr (some 0)), .inl x1]) (r := []) dM_92_2 rfl rfl rfl (Nat.le_of_ble_eq_true rfl) sk_0 rfl (Nat.le_of_ble_eq_true rfl) (EvS.up h (Nat.le_of_ble_eq_true rfl)) (fun v1 t2 hv3 => ?_)
  obtain ⟨n4, rfl, hn⟩ := hv3
  clear h
  show GoS _ _ _ _ _ _ _ _ [(0, .inr (.inr (some 0))), (1, .inl x1), (2, .inl x2)] [.inl n4] t2 _
  refine gsIf (t := 15) (C := n4 = 0) (r := []) dM_92_5 (fun _ => rfl) (Or.inr rfl) (rTest_iff .eq n4 0) (fun c5 => ?_) (fun c5 => ?_)
  · replace hn := hn.1 c5
    refine gs0 16 [(0, .inr (.inr (some 0))), (1, .inl x1), (2, .inl x2)] [.inr (.inr (some 0))] dM_92_15 (fun _ => rfl) (Or.inr rfl) ?_
    refine gs0 17 [(0, .inr (.inr (some 0))), (1, .inl x1), (2, .inl x2)] [.inl ((-1)), .inr (.inr (some 0))] dM_92_16 (fun _ => rfl) (Or.inr rfl) ?_
    refine gsCallV (y := 72) (k := 0) (as := [.inr (.inr (some 0)), .inl ((-1))]) (r := []) dM_92_17 rfl rfl rfl (Nat.le_of_ble_eq_true rfl) sk_0 rfl (Nat.le_of_ble_eq_true rfl) (EvS.up hn (Nat.le_of_ble_eq_true rfl)) (fun v6 t7 hv8 => ?_)
    obtain ⟨n9, rfl, hnn⟩ := hv8
    clear hn
    show GoS _ _ _ _ _ _ _ _ [(0, .inr (.inr (some 0))), (1, .inl x1), (2, .inl x2)] [.inl n9] t7 _
    refine gsRet (r := some (.inl n9)) dM_92_20 (fun _ => rfl) (Or.inr rfl) ?_
    exact hnn
  · replace hn := hn.2 c5
    refine gs0 9 [(0, .inr (.inr (some 0))), (1, .inl x1), (2, .inl x2)] [.inl x2] dM_92_8 (fun _ => rfl) (Or.inr rfl) ?_
    refine gsCallS (y := 82) (as := [.inl x2]) (r := []) dM_92_9 rfl (Or.inl rfl) rfl rfl (Nat.le_of_ble_eq_true rfl) (EvS.up hn (Nat.le_of_ble_eq_true rfl)) (fun v10 t11 hv12 => ?_)
    obtain ⟨n13, rfl, hnn⟩ := hv12
    clear hn
    show GoS _ _ _ _ _ _ _ _ [(0, .inr (.inr (some 0))), (1, .inl x1), (2, .inl x2)] [.inl n13] t11 _
    refine gsIf (t := 21) (C := ¬ n13 = 0) (r := []) dM_92_12 (fun _ => rfl) (Or.inr rfl) (rTest_iff .ne n13 0) (fun c14 => ?_) (fun c14 => ?_)
    · replace hnn := hnn.1 c14
      refine gs0 22 [(0, .inr (.inr (some 0))), (1, .inl x1), (2, .inl x2)] [.inr (.inr (some 0))] dM_92_21 (fun _ => rfl) (Or.inr rfl) ?_
      refine gs0 23 [(0, .inr (.inr (some 0))), (1, .inl x1), (2, .inl x2)] [.inl x1, .inr (.inr (some 0))] dM_92_22 (fun _ => rfl) (Or.inr rfl) ?_
      refine gs0 24 [(0, .inr (.inr (some 0))), (1, .inl x1), (2, .inl x2)] [.inl 1, .inl x1, .inr (.inr (some 0))] dM_92_23 (fun _ => rfl) (Or.inr rfl) ?_
      refine gs0 25 [(0, .inr (.inr (some 0))), (1, .inl x1), (2, .inl x2)] [.inl (x1 + 1), .inr (.inr (some 0))] dM_92_24 (fun _ => rfl) (Or.inr rfl) ?_
      refine gs0 26 [(0, .inr (.inr (some 0))), (1, .inl x1), (2, .inl x2)] [.inl x2, .inl (x1 + 1), .inr (.inr (some 0))] dM_92_25 (fun _ => rfl) (Or.inr rfl) ?_
      refine gsCallV (y := 89) (k := 0) (as := [.inr (.inr (some 0)), .inl (x1 + 1), .inl x2]) (r := []) dM_92_26 rfl rfl rfl (Nat.le_of_ble_eq_true rfl) sk_0 rfl (Nat.le_of_ble_eq_true rfl) (EvS.up hnn (Nat.le_of_ble_eq_true rfl)) (fun v15 t16 hv17 => ?_)
      obtain ⟨rfl, hnnn⟩ := hv17
      clear hnn
      show GoS _ _ _ _ _ _ _ _ [(0, .inr (.inr (some 0))), (1, .inl x1), (2, .inl x2)] [] t16 _
      refine gs0 30 [(0, .inr (.inr (some 0))), (1, .inl x1), (2, .inl x2)] [.inr (.inr (some 0))] dM_92_29 (fun _ => rfl) (Or.inr rfl) ?_
      refine gs0 31 [(0, .inr (.inr (some 0))), (1, .inl x1), (2, .inl x2)] [.inl x1, .inr (.inr (some 0))] dM_92_30 (fun _ => rfl) (Or.inr rfl) ?_
      refine gsCallV (y := 90) (k := 0) (as := [.inr (.inr (some 0)), .inl x1]) (r := []) dM_92_31 rfl rfl rfl (Nat.le_of_ble_eq_true rfl) sk_0 rfl (Nat.le_of_ble_eq_true rfl) (EvS.up hnnn (Nat.le_of_ble_eq_true rfl)) (fun v18 t19 hv20 => ?_)
      obtain ⟨n21, rfl, hnnnn⟩ := hv20
      clear hnnn
      show GoS _ _ _ _ _ _ _ _ [(0, .inr (.inr (some 0))), (1, .inl x1), (2, .inl x2)] [.inl n21] t19 _
      refine gsRet (r := some (.inl n21)) dM_92_34 (fun _ => rfl) (Or.inr rfl) ?_
      exact hnnnn
    · replace hnn := hnn.2 c14
      refine gs0 16 [(0, .inr (.inr (some 0))), (1, .inl x1), (2, .inl x2)] [.inr (.inr (some 0))] dM_92_15 (fun _ => rfl) (Or.inr rfl) ?_
      refine gs0 17 [(0, .inr (.inr (some 0))), (1, .inl x1), (2, .inl x2)] [.inl ((-1)), .inr (.inr (some 0))] dM_92_16 (fun _ => rfl) (Or.inr rfl) ?_
      refine gsCallV (y := 72) (k := 0) (as := [.inr (.inr (some 0)), .inl ((-1))]) (r := []) dM_92_17 rfl rfl rfl (Nat.le_of_ble_eq_true rfl) sk_0 rfl (Nat.le_of_ble_eq_true rfl) (EvS.up hnn (Nat.le_of_ble_eq_true rfl)) (fun v22 t23 hv24 => ?_)
      obtain ⟨n25, rfl, hnnn⟩ := hv24
      clear hnn
      show GoS _ _ _ _ _ _ _ _ [(0, .inr (.inr (some 0))), (1, .inl x1), (2, .inl x2)] [.inl n25] t23 _
      refine gsRet (r := some (.inl n25)) dM_92_20 (fun _ => rfl) (Or.inr rfl) ?_
      exact hnnn
def g_93_44  (y3 : Int32) (sg : rSg) (P : Option rv → rSg → Prop) : Prop := GoS rSkel 4 8 4 (some .int) false prog_1_method_14_code 44 [(0, .inr (.inr (some 0))), (3, .inl y3)] [] sg P
set_option maxRecDepth 100000 in
theorem w_93_44 (sg : rSg)  (y3 : Int32) {P : Option rv → rSg → Prop} (h :
    (6 ≤ y3 → 
      P (some (.inl 1)) sg) ∧
    (¬ (6 ≤ y3) → 
      EvS rSkel 4 65 [.inr (.inr (some 1)), .inr (.inr (some 7)), .inr (.inr (some 692)), .inl y3, .inl (y3 + 64)] sg (fun v33 t34 => ∃ n36, v33 = some (.inl n36) ∧
        (¬ n36 = 0 → 
          g_93_44 (y3 + 1) t34 P) ∧
        (¬ (¬ n36 = 0) → 
          P (some (.inl 0)) t34)))) : g_93_44 y3 sg P := by
  show GoS rSkel 4 8 4 (some .int) false prog_1_method_14_code 44 [(0, .inr (.inr (some 0))), (3, .inl y3)] [] sg P
  refine gs0 45 [(0, .inr (.inr (some 0))), (3, .inl y3)] [.inl y3] dM_93_44 (fun _ => rfl) (Or.inr rfl) ?_
  refine gs0 47 [(0, .inr (.inr (some 0))), (3, .inl y3)] [.inl 6, .inl y3] dM_93_45 (fun _ => rfl) (Or.inr rfl) ?_
  refine gsIf (t := 84) (C := 6 ≤ y3) (r := []) dM_93_47 (fun _ => rfl) (Or.inr rfl) (rTest_iff .ge y3 6) (fun c32 => ?_) (fun c32 => ?_)
  · replace h := h.1 c32
    refine gs0 85 [(0, .inr (.inr (some 0))), (3, .inl y3)] [.inl 1] dM_93_84 (fun _ => rfl) (Or.inr rfl) ?_
    refine gsRet (r := some (.inl 1)) dM_93_85 (fun _ => rfl) (Or.inr rfl) ?_
    exact h
  · replace h := h.2 c32
    refine gs0 51 [(0, .inr (.inr (some 0))), (3, .inl y3)] [.inr (.inr (some 0))] dM_93_50 (fun _ => rfl) (Or.inr rfl) ?_
    refine gsGetR (some 1) dM_93_51 sk_0 rfl rfl ?_
    refine gs0 55 [(0, .inr (.inr (some 0))), (3, .inl y3)] [.inr (.inr (some 0)), .inr (.inr (some 1))] dM_93_54 (fun _ => rfl) (Or.inr rfl) ?_
    refine gsGetR (some 6) dM_93_55 sk_0 rfl rfl ?_
    refine gsGetR (some 7) dM_93_58 sk_6 rfl rfl ?_
    refine gs0 62 [(0, .inr (.inr (some 0))), (3, .inl y3)] [.inr (.inr (some 0)), .inr (.inr (some 7)), .inr (.inr (some 1))] dM_93_61 (fun _ => rfl) (Or.inr rfl) ?_
    refine gsGetR (some 692) dM_93_62 sk_0 rfl rfl ?_
    refine gs0 66 [(0, .inr (.inr (some 0))), (3, .inl y3)] [.inl y3, .inr (.inr (some 692)), .inr (.inr (some 7)), .inr (.inr (some 1))] dM_93_65 (fun _ => rfl) (Or.inr rfl) ?_
    refine gs0 67 [(0, .inr (.inr (some 0))), (3, .inl y3)] [.inl y3, .inl y3, .inr (.inr (some 692)), .inr (.inr (some 7)), .inr (.inr (some 1))] dM_93_66 (fun _ => rfl) (Or.inr rfl) ?_
    refine gs0 69 [(0, .inr (.inr (some 0))), (3, .inl y3)] [.inl 64, .inl y3, .inl y3, .inr (.inr (some 692)), .inr (.inr (some 7)), .inr (.inr (some 1))] dM_93_67 (fun _ => rfl) (Or.inr rfl) ?_
    refine gs0 70 [(0, .inr (.inr (some 0))), (3, .inl y3)] [.inl (y3 + 64), .inl y3, .inr (.inr (some 692)), .inr (.inr (some 7)), .inr (.inr (some 1))] dM_93_69 (fun _ => rfl) (Or.inr rfl) ?_
    refine gsCallV (y := 65) (k := 1) (as := [.inr (.inr (some 1)), .inr (.inr (some 7)), .inr (.inr (some 692)), .inl y3, .inl (y3 + 64)]) (r := []) dM_93_70 rfl rfl rfl (Nat.le_of_ble_eq_true rfl) sk_1 rfl (Nat.le_of_ble_eq_true rfl) (EvS.up h (Nat.le_of_ble_eq_true rfl)) (fun v33 t34 hv35 => ?_)
    obtain ⟨n36, rfl, hn⟩ := hv35
    clear h
    show GoS _ _ _ _ _ _ _ _ [(0, .inr (.inr (some 0))), (3, .inl y3)] [.inl n36] t34 _
    refine gsIf (t := 78) (C := ¬ n36 = 0) (r := []) dM_93_73 (fun _ => rfl) (Or.inr rfl) (rTest_iff .ne n36 0) (fun c37 => ?_) (fun c37 => ?_)
    · replace hn := hn.1 c37
      refine gs0 81 [(3, .inl (y3 + 1)), (0, .inr (.inr (some 0)))] [] dM_93_78 (fun _ => rfl) (Or.inr rfl) ?_
      refine gs0 44 [(3, .inl (y3 + 1)), (0, .inr (.inr (some 0)))] [] dM_93_81 (fun _ => rfl) (Or.inr rfl) ?_
      exact GoS.sub (Lnd_keys (ks := [0, 3]) rfl (by decide)) (Lsub_cons rfl (Lsub_cons rfl Lsub_nil)) hn
    · replace hn := hn.2 c37
      refine gs0 77 [(0, .inr (.inr (some 0))), (3, .inl y3)] [.inl 0] dM_93_76 (fun _ => rfl) (Or.inr rfl) ?_
      refine gsRet (r := some (.inl 0)) dM_93_77 (fun _ => rfl) (Or.inr rfl) ?_
      exact hn
set_option maxRecDepth 100000 in
/-- GoalsInAQueue.meet -/
theorem w_93 (sg : rSg) (x1 : Int32) (x2 : Int32) {P : Option rv → rSg → Prop} (h :
    EvS rSkel 1 81 [.inr (.inr (some 0)), .inl x1] sg (fun v1 t2 => ∃ n4, v1 = some (.inl n4) ∧
      (n4 = 0 → 
        EvS rSkel 1 72 [.inr (.inr (some 0)), .inl ((-1))] t2 (fun v6 t7 => ∃ n9, v6 = some (.inl n9) ∧
          P (some (.inl n9)) t7)) ∧
      (¬ (n4 = 0) → 
        EvS rSkel 1 81 [.inr (.inr (some 0)), .inl x2] t2 (fun v10 t11 => ∃ n13, v10 = some (.inl n13) ∧
          (¬ n13 = 0 → 
            EvS rSkel 1 40 [.inr (.inr (some 6)), .inl x1] t11 (fun v15 t16 => ∃ q18, v15 = some (.inr (.inr (some q18))) ∧ isSt q18 ∧
              EvS rSkel 1 40 [.inr (.inr (some 6)), .inl x2] t16 (fun v20 t21 => ∃ q23, v20 = some (.inr (.inr (some q23))) ∧ isSt q23 ∧
                EvS rSkel 2 94 [.inr (.inr (some 0)), .inr (.inr (some q18)), .inr (.inr (some q23))] t21 (fun v25 t26 => v25 = none ∧
                  g_93_44 0 t26 P)))) ∧
          (¬ (¬ n13 = 0) → 
            EvS rSkel 1 72 [.inr (.inr (some 0)), .inl ((-1))] t11 (fun v28 t29 => ∃ n31, v28 = some (.inl n31) ∧
              P (some (.inl n31)) t29)))))) : EvS rSkel 5 93 [.inr (.inr (some 0)), .inl x1, .inl x2] sg P := by
  refine EvS.of (ini := false) rfl ⟨rfl, Nat.le_of_ble_eq_true rfl⟩ rfl ?_
  show GoS rSkel 4 8 4 (some .int) false prog_1_method_14_code 0 [(0, .inr (.inr (some 0))), (1, .inl x1), (2, .inl x2)] [] sg _
  refine gs0 1 [(0, .inr (.inr (some 0))), (1, .inl x1), (2, .inl x2)] [.inr (.inr (some 0))] dM_93_0 (fun _ => rfl) (Or.inr rfl) ?_
  refine gs0 2 [(0, .inr (.inr (some 0))), (1, .inl x1), (2, .inl x2)] [.inl x1, .inr (.inr (some 0))] dM_93_1 (fun _ => rfl) (Or.inr rfl) ?_
  refine gsCallV (y := 81) (k := 0) (as := [.inr (.inr (some 0)), .inl x1]) (r := []) dM_93_2 rfl rfl rfl (Nat.le_of_ble_eq_true rfl) sk_0 rfl (Nat.le_of_ble_eq_true rfl) (EvS.up h (Nat.le_of_ble_eq_true rfl)) (fun v1 t2 hv3 => ?_)
  obtain ⟨n4, rfl, hn⟩ := hv3
  clear h
  show GoS _ _ _ _ _ _ _ _ [(0, .inr (.inr (some 0))), (1, .inl x1), (2, .inl x2)] [.inl n4] t2 _
  refine gsIf (t := 16) (C := n4 = 0) (r := []) dM_93_5 (fun _ => rfl) (Or.inr rfl) (rTest_iff .eq n4 0) (fun c5 => ?_) (fun c5 => ?_)
  · replace hn := hn.1 c5
    refine gs0 17 [(0, .inr (.inr (some 0))), (1, .inl x1), (2, .inl x2)] [.inr (.inr (some 0))] dM_93_16 (fun _ => rfl) (Or.inr rfl) ?_
    refine gs0 18 [(0, .inr (.inr (some 0))), (1, .inl x1), (2, .inl x2)] [.inl ((-1)), .inr (.inr (some 0))] dM_93_17 (fun _ => rfl) (Or.inr rfl) ?_
    refine gsCallV (y := 72) (k := 0) (as := [.inr (.inr (some 0)), .inl ((-1))]) (r := []) dM_93_18 rfl rfl rfl (Nat.le_of_ble_eq_true rfl) sk_0 rfl (Nat.le_of_ble_eq_true rfl) (EvS.up hn (Nat.le_of_ble_eq_true rfl)) (fun v6 t7 hv8 => ?_)
    obtain ⟨n9, rfl, hnn⟩ := hv8
    clear hn
    show GoS _ _ _ _ _ _ _ _ [(0, .inr (.inr (some 0))), (1, .inl x1), (2, .inl x2)] [.inl n9] t7 _
    refine gsRet (r := some (.inl n9)) dM_93_21 (fun _ => rfl) (Or.inr rfl) ?_
    exact hnn
  · replace hn := hn.2 c5
    refine gs0 9 [(0, .inr (.inr (some 0))), (1, .inl x1), (2, .inl x2)] [.inr (.inr (some 0))] dM_93_8 (fun _ => rfl) (Or.inr rfl) ?_
    refine gs0 10 [(0, .inr (.inr (some 0))), (1, .inl x1), (2, .inl x2)] [.inl x2, .inr (.inr (some 0))] dM_93_9 (fun _ => rfl) (Or.inr rfl) ?_
    refine gsCallV (y := 81) (k := 0) (as := [.inr (.inr (some 0)), .inl x2]) (r := []) dM_93_10 rfl rfl rfl (Nat.le_of_ble_eq_true rfl) sk_0 rfl (Nat.le_of_ble_eq_true rfl) (EvS.up hn (Nat.le_of_ble_eq_true rfl)) (fun v10 t11 hv12 => ?_)
    obtain ⟨n13, rfl, hnn⟩ := hv12
    clear hn
    show GoS _ _ _ _ _ _ _ _ [(0, .inr (.inr (some 0))), (1, .inl x1), (2, .inl x2)] [.inl n13] t11 _
    refine gsIf (t := 22) (C := ¬ n13 = 0) (r := []) dM_93_13 (fun _ => rfl) (Or.inr rfl) (rTest_iff .ne n13 0) (fun c14 => ?_) (fun c14 => ?_)
    · replace hnn := hnn.1 c14
      refine gs0 23 [(0, .inr (.inr (some 0))), (1, .inl x1), (2, .inl x2)] [.inr (.inr (some 0))] dM_93_22 (fun _ => rfl) (Or.inr rfl) ?_
      refine gs0 24 [(0, .inr (.inr (some 0))), (1, .inl x1), (2, .inl x2)] [.inr (.inr (some 0)), .inr (.inr (some 0))] dM_93_23 (fun _ => rfl) (Or.inr rfl) ?_
      refine gsGetR (some 6) dM_93_24 sk_0 rfl rfl ?_
      refine gs0 28 [(0, .inr (.inr (some 0))), (1, .inl x1), (2, .inl x2)] [.inl x1, .inr (.inr (some 6)), .inr (.inr (some 0))] dM_93_27 (fun _ => rfl) (Or.inr rfl) ?_
      refine gsCallV (y := 40) (k := 6) (as := [.inr (.inr (some 6)), .inl x1]) (r := [.inr (.inr (some 0))]) dM_93_28 rfl rfl rfl (Nat.le_of_ble_eq_true rfl) sk_6 rfl (Nat.le_of_ble_eq_true rfl) (EvS.up hnn (Nat.le_of_ble_eq_true rfl)) (fun v15 t16 hv17 => ?_)
      obtain ⟨q18, rfl, hq19, hnnn⟩ := hv17
      have b_q18 := hq19.1
      clear hnn
      show GoS _ _ _ _ _ _ _ _ [(0, .inr (.inr (some 0))), (1, .inl x1), (2, .inl x2)] [.inr (.inr (some q18)), .inr (.inr (some 0))] t16 _
      refine gs0 32 [(0, .inr (.inr (some 0))), (1, .inl x1), (2, .inl x2)] [.inr (.inr (some 0)), .inr (.inr (some q18)), .inr (.inr (some 0))] dM_93_31 (fun _ => rfl) (Or.inr rfl) ?_
      refine gsGetR (some 6) dM_93_32 sk_0 rfl rfl ?_
      refine gs0 36 [(0, .inr (.inr (some 0))), (1, .inl x1), (2, .inl x2)] [.inl x2, .inr (.inr (some 6)), .inr (.inr (some q18)), .inr (.inr (some 0))] dM_93_35 (fun _ => rfl) (Or.inr rfl) ?_
      refine gsCallV (y := 40) (k := 6) (as := [.inr (.inr (some 6)), .inl x2]) (r := [.inr (.inr (some q18)), .inr (.inr (some 0))]) dM_93_36 rfl rfl rfl (Nat.le_of_ble_eq_true rfl) sk_6 rfl (Nat.le_of_ble_eq_true rfl) (EvS.up hnnn (Nat.le_of_ble_eq_true rfl)) (fun v20 t21 hv22 => ?_)
      obtain ⟨q23, rfl, hq24, hnnnn⟩ := hv22
      have b_q23 := hq24.1
      clear hnnn
      show GoS _ _ _ _ _ _ _ _ [(0, .inr (.inr (some 0))), (1, .inl x1), (2, .inl x2)] [.inr (.inr (some q23)), .inr (.inr (some q18)), .inr (.inr (some 0))] t21 _
      refine gsCallV (y := 94) (k := 0) (as := [.inr (.inr (some 0)), .inr (.inr (some q18)), .inr (.inr (some q23))]) (r := []) dM_93_39 rfl rfl rfl (Nat.le_of_ble_eq_true rfl) sk_0 rfl (Nat.le_of_ble_eq_true rfl) (EvS.up hnnnn (Nat.le_of_ble_eq_true rfl)) (fun v25 t26 hv27 => ?_)
      obtain ⟨rfl, hnnnnn⟩ := hv27
      clear hnnnn
      show GoS _ _ _ _ _ _ _ _ [(0, .inr (.inr (some 0))), (1, .inl x1), (2, .inl x2)] [] t26 _
      refine gs0 43 [(0, .inr (.inr (some 0))), (1, .inl x1), (2, .inl x2)] [.inl 0] dM_93_42 (fun _ => rfl) (Or.inr rfl) ?_
      refine gs0 44 [(3, .inl 0), (0, .inr (.inr (some 0))), (1, .inl x1), (2, .inl x2)] [] dM_93_43 (fun _ => rfl) (Or.inr rfl) ?_
      exact GoS.sub (Lnd_keys (ks := [0, 3]) rfl (by decide)) (Lsub_cons rfl (Lsub_cons rfl Lsub_nil)) hnnnnn
    · replace hnn := hnn.2 c14
      refine gs0 17 [(0, .inr (.inr (some 0))), (1, .inl x1), (2, .inl x2)] [.inr (.inr (some 0))] dM_93_16 (fun _ => rfl) (Or.inr rfl) ?_
      refine gs0 18 [(0, .inr (.inr (some 0))), (1, .inl x1), (2, .inl x2)] [.inl ((-1)), .inr (.inr (some 0))] dM_93_17 (fun _ => rfl) (Or.inr rfl) ?_
      refine gsCallV (y := 72) (k := 0) (as := [.inr (.inr (some 0)), .inl ((-1))]) (r := []) dM_93_18 rfl rfl rfl (Nat.le_of_ble_eq_true rfl) sk_0 rfl (Nat.le_of_ble_eq_true rfl) (EvS.up hnn (Nat.le_of_ble_eq_true rfl)) (fun v28 t29 hv30 => ?_)
      obtain ⟨n31, rfl, hnnn⟩ := hv30
      clear hnn
      show GoS _ _ _ _ _ _ _ _ [(0, .inr (.inr (some 0))), (1, .inl x1), (2, .inl x2)] [.inl n31] t29 _
      refine gsRet (r := some (.inl n31)) dM_93_21 (fun _ => rfl) (Or.inr rfl) ?_
      exact hnnn
def g_94_10 (k : Nat) (k2 : Nat) (y3 : Int32) (sg : rSg) (P : Option rv → rSg → Prop) : Prop := GoS rSkel 1 8 4 none false prog_1_method_36_code 10 [(0, .inr (.inr (some 0))), (1, .inr (.inr (some k))), (2, .inr (.inr (some k2))), (3, .inl y3)] [] sg P
def g_94_44 (k : Nat) (k2 : Nat) (y3 : Int32) (sg : rSg) (P : Option rv → rSg → Prop) : Prop := GoS rSkel 1 8 4 none false prog_1_method_36_code 44 [(0, .inr (.inr (some 0))), (2, .inr (.inr (some k2))), (3, .inl y3)] [] sg P
set_option maxRecDepth 100000 in
theorem w_94_10 (sg : rSg) (k : Nat) (hk : isSt k) (k2 : Nat) (hk2 : isSt k2) (hkk : k + 2 < k2 ∨ k2 + 2 < k) (y3 : Int32) {P : Option rv → rSg → Prop} (h :
    (64 ≤ y3 → 
      g_94_44 k k2 0 sg P) ∧
    (¬ (64 ≤ y3) → 
      ((sg k 2) ≤ y3 → 
        g_94_44 k k2 0 sg P) ∧
      (¬ ((sg k 2) ≤ y3) → 
        (rIn y3 64 = true ∧
        rIn y3 128 = true ∧
        g_94_10 k k2 (y3 + 1) (up2 sg 692 y3.toNatClampNeg (sg (k + 1) y3.toNatClampNeg)) P)))) : g_94_10 k k2 y3 sg P := by
  show GoS rSkel 1 8 4 none false prog_1_method_36_code 10 [(0, .inr (.inr (some 0))), (1, .inr (.inr (some k))), (2, .inr (.inr (some k2))), (3, .inl y3)] [] sg P
  have b_k := hk.1
  have b_k2 := hk2.1
  refine gs0 11 [(0, .inr (.inr (some 0))), (1, .inr (.inr (some k))), (2, .inr (.inr (some k2))), (3, .inl y3)] [.inl y3] dM_94_10 (fun _ => rfl) (Or.inr rfl) ?_
  refine gs0 13 [(0, .inr (.inr (some 0))), (1, .inr (.inr (some k))), (2, .inr (.inr (some k2))), (3, .inl y3)] [.inl 64, .inl y3] dM_94_11 (fun _ => rfl) (Or.inr rfl) ?_
  refine gsIf (t := 42) (C := 64 ≤ y3) (r := []) dM_94_13 (fun _ => rfl) (Or.inr rfl) (rTest_iff .ge y3 64) (fun c4 => ?_) (fun c4 => ?_)
  · replace h := h.1 c4
    refine gs0 43 [(0, .inr (.inr (some 0))), (1, .inr (.inr (some k))), (2, .inr (.inr (some k2))), (3, .inl y3)] [.inl 0] dM_94_42 (fun _ => rfl) (Or.inr rfl) ?_
    refine gs0 44 [(3, .inl 0), (0, .inr (.inr (some 0))), (1, .inr (.inr (some k))), (2, .inr (.inr (some k2)))] [] dM_94_43 (fun _ => rfl) (Or.inr rfl) ?_
    exact GoS.sub (Lnd_keys (ks := [0, 2, 3]) rfl (by decide)) (Lsub_cons rfl (Lsub_cons rfl (Lsub_cons rfl Lsub_nil))) h
  · replace h := h.2 c4
    refine gs0 17 [(0, .inr (.inr (some 0))), (1, .inr (.inr (some k))), (2, .inr (.inr (some k2))), (3, .inl y3)] [.inl y3] dM_94_16 (fun _ => rfl) (Or.inr rfl) ?_
    refine gs0 18 [(0, .inr (.inr (some 0))), (1, .inr (.inr (some k))), (2, .inr (.inr (some k2))), (3, .inl y3)] [.inr (.inr (some k)), .inl y3] dM_94_17 (fun _ => rfl) (Or.inr rfl) ?_
    refine gsGetE (sg k 2) dM_94_18 hk.2.1 rfl rfl rfl ?_
    refine gsIf (t := 42) (C := (sg k 2) ≤ y3) (r := []) dM_94_21 (fun _ => rfl) (Or.inr rfl) (rTest_iff .ge y3 (sg k 2)) (fun c5 => ?_) (fun c5 => ?_)
    · replace h := h.1 c5
      refine gs0 43 [(0, .inr (.inr (some 0))), (1, .inr (.inr (some k))), (2, .inr (.inr (some k2))), (3, .inl y3)] [.inl 0] dM_94_42 (fun _ => rfl) (Or.inr rfl) ?_
      refine gs0 44 [(3, .inl 0), (0, .inr (.inr (some 0))), (1, .inr (.inr (some k))), (2, .inr (.inr (some k2)))] [] dM_94_43 (fun _ => rfl) (Or.inr rfl) ?_
      exact GoS.sub (Lnd_keys (ks := [0, 2, 3]) rfl (by decide)) (Lsub_cons rfl (Lsub_cons rfl (Lsub_cons rfl Lsub_nil))) h
    · replace h := h.2 c5
      refine gs0 25 [(0, .inr (.inr (some 0))), (1, .inr (.inr (some k))), (2, .inr (.inr (some k2))), (3, .inl y3)] [.inr (.inr (some 0))] dM_94_24 (fun _ => rfl) (Or.inr rfl) ?_
      refine gsGetR (some 692) dM_94_25 sk_0 rfl rfl ?_
      refine gs0 29 [(0, .inr (.inr (some 0))), (1, .inr (.inr (some k))), (2, .inr (.inr (some k2))), (3, .inl y3)] [.inl y3, .inr (.inr (some 692))] dM_94_28 (fun _ => rfl) (Or.inr rfl) ?_
      refine gs0 30 [(0, .inr (.inr (some 0))), (1, .inr (.inr (some k))), (2, .inr (.inr (some k2))), (3, .inl y3)] [.inr (.inr (some k)), .inl y3, .inr (.inr (some 692))] dM_94_29 (fun _ => rfl) (Or.inr rfl) ?_
      refine gsGetR (some (k + 1)) dM_94_30 hk.2.1 rfl rfl ?_
      refine gs0 34 [(0, .inr (.inr (some 0))), (1, .inr (.inr (some k))), (2, .inr (.inr (some k2))), (3, .inl y3)] [.inl y3, .inr (.inr (some (k + 1))), .inl y3, .inr (.inr (some 692))] dM_94_33 (fun _ => rfl) (Or.inr rfl) ?_
      refine gsIaldN y3.toNatClampNeg (sg (k + 1) y3.toNatClampNeg) dM_94_34 hk.2.2.1 h.1 rfl rfl ?_
      replace h := h.2
      refine gsIastN y3.toNatClampNeg dM_94_35 sk_692 h.1 rfl ?_
      replace h := h.2
      refine gs0 39 [(3, .inl (y3 + 1)), (0, .inr (.inr (some 0))), (1, .inr (.inr (some k))), (2, .inr (.inr (some k2)))] [] dM_94_36 (fun _ => rfl) (Or.inr rfl) ?_
      refine gs0 10 [(3, .inl (y3 + 1)), (0, .inr (.inr (some 0))), (1, .inr (.inr (some k))), (2, .inr (.inr (some k2)))] [] dM_94_39 (fun _ => rfl) (Or.inr rfl) ?_
      exact GoS.sub (Lnd_keys (ks := [0, 1, 2, 3]) rfl (by decide)) (Lsub_cons rfl (Lsub_cons rfl (Lsub_cons rfl (Lsub_cons rfl Lsub_nil)))) h
set_option maxRecDepth 100000 in
theorem w_94_44 (sg : rSg) (k : Nat) (hk : isSt k) (k2 : Nat) (hk2 : isSt k2) (hkk : k + 2 < k2 ∨ k2 + 2 < k) (y3 : Int32) {P : Option rv → rSg → Prop} (h :
    (64 ≤ y3 → 
      P none sg) ∧
    (¬ (64 ≤ y3) → 
      ((sg k2 2) ≤ y3 → 
        P none sg) ∧
      (¬ ((sg k2 2) ≤ y3) → 
        (rIn y3 64 = true ∧
        EvS rSkel 1 78 [.inl (sg (k2 + 1) y3.toNatClampNeg)] sg (fun v8 t9 => ∃ n11, v8 = some (.inl n11) ∧
          (rIn (y3 + 64) 128 = true ∧
          g_94_44 k k2 (y3 + 1) (up2 t9 692 ((y3 + 64).toNatClampNeg) n11) P)))))) : g_94_44 k k2 y3 sg P := by
  show GoS rSkel 1 8 4 none false prog_1_method_36_code 44 [(0, .inr (.inr (some 0))), (2, .inr (.inr (some k2))), (3, .inl y3)] [] sg P
  have b_k := hk.1
  have b_k2 := hk2.1
  refine gs0 45 [(0, .inr (.inr (some 0))), (2, .inr (.inr (some k2))), (3, .inl y3)] [.inl y3] dM_94_44 (fun _ => rfl) (Or.inr rfl) ?_
  refine gs0 47 [(0, .inr (.inr (some 0))), (2, .inr (.inr (some k2))), (3, .inl y3)] [.inl 64, .inl y3] dM_94_45 (fun _ => rfl) (Or.inr rfl) ?_
  refine gsIf (t := 82) (C := 64 ≤ y3) (r := []) dM_94_47 (fun _ => rfl) (Or.inr rfl) (rTest_iff .ge y3 64) (fun c6 => ?_) (fun c6 => ?_)
  · replace h := h.1 c6
    refine gsRet (r := none) dM_94_82 (fun _ => rfl) (Or.inr rfl) ?_
    exact h
  · replace h := h.2 c6
    refine gs0 51 [(0, .inr (.inr (some 0))), (2, .inr (.inr (some k2))), (3, .inl y3)] [.inl y3] dM_94_50 (fun _ => rfl) (Or.inr rfl) ?_
    refine gs0 52 [(0, .inr (.inr (some 0))), (2, .inr (.inr (some k2))), (3, .inl y3)] [.inr (.inr (some k2)), .inl y3] dM_94_51 (fun _ => rfl) (Or.inr rfl) ?_
    refine gsGetE (sg k2 2) dM_94_52 hk2.2.1 rfl rfl rfl ?_
    refine gsIf (t := 82) (C := (sg k2 2) ≤ y3) (r := []) dM_94_55 (fun _ => rfl) (Or.inr rfl) (rTest_iff .ge y3 (sg k2 2)) (fun c7 => ?_) (fun c7 => ?_)
    · replace h := h.1 c7
      refine gsRet (r := none) dM_94_82 (fun _ => rfl) (Or.inr rfl) ?_
      exact h
    · replace h := h.2 c7
      refine gs0 59 [(0, .inr (.inr (some 0))), (2, .inr (.inr (some k2))), (3, .inl y3)] [.inr (.inr (some 0))] dM_94_58 (fun _ => rfl) (Or.inr rfl) ?_
      refine gsGetR (some 692) dM_94_59 sk_0 rfl rfl ?_
      refine gs0 63 [(0, .inr (.inr (some 0))), (2, .inr (.inr (some k2))), (3, .inl y3)] [.inl y3, .inr (.inr (some 692))] dM_94_62 (fun _ => rfl) (Or.inr rfl) ?_
      refine gs0 65 [(0, .inr (.inr (some 0))), (2, .inr (.inr (some k2))), (3, .inl y3)] [.inl 64, .inl y3, .inr (.inr (some 692))] dM_94_63 (fun _ => rfl) (Or.inr rfl) ?_
      refine gs0 66 [(0, .inr (.inr (some 0))), (2, .inr (.inr (some k2))), (3, .inl y3)] [.inl (y3 + 64), .inr (.inr (some 692))] dM_94_65 (fun _ => rfl) (Or.inr rfl) ?_
      refine gs0 67 [(0, .inr (.inr (some 0))), (2, .inr (.inr (some k2))), (3, .inl y3)] [.inr (.inr (some k2)), .inl (y3 + 64), .inr (.inr (some 692))] dM_94_66 (fun _ => rfl) (Or.inr rfl) ?_
      refine gsGetR (some (k2 + 1)) dM_94_67 hk2.2.1 rfl rfl ?_
      refine gs0 71 [(0, .inr (.inr (some 0))), (2, .inr (.inr (some k2))), (3, .inl y3)] [.inl y3, .inr (.inr (some (k2 + 1))), .inl (y3 + 64), .inr (.inr (some 692))] dM_94_70 (fun _ => rfl) (Or.inr rfl) ?_
      refine gsIaldN y3.toNatClampNeg (sg (k2 + 1) y3.toNatClampNeg) dM_94_71 hk2.2.2.1 h.1 rfl rfl ?_
      replace h := h.2
      refine gsCallS (y := 78) (as := [.inl (sg (k2 + 1) y3.toNatClampNeg)]) (r := [.inl (y3 + 64), .inr (.inr (some 692))]) dM_94_72 rfl (Or.inl rfl) rfl rfl (Nat.le_of_ble_eq_true rfl) (EvS.up h (Nat.le_of_ble_eq_true rfl)) (fun v8 t9 hv10 => ?_)
      obtain ⟨n11, rfl, hn⟩ := hv10
      clear h
      show GoS _ _ _ _ _ _ _ _ [(0, .inr (.inr (some 0))), (2, .inr (.inr (some k2))), (3, .inl y3)] [.inl n11, .inl (y3 + 64), .inr (.inr (some 692))] t9 _
      refine gsIastN ((y3 + 64).toNatClampNeg) dM_94_75 sk_692 hn.1 rfl ?_
      replace hn := hn.2
      refine gs0 79 [(3, .inl (y3 + 1)), (0, .inr (.inr (some 0))), (2, .inr (.inr (some k2)))] [] dM_94_76 (fun _ => rfl) (Or.inr rfl) ?_
      refine gs0 44 [(3, .inl (y3 + 1)), (0, .inr (.inr (some 0))), (2, .inr (.inr (some k2)))] [] dM_94_79 (fun _ => rfl) (Or.inr rfl) ?_
      exact GoS.sub (Lnd_keys (ks := [0, 2, 3]) rfl (by decide)) (Lsub_cons rfl (Lsub_cons rfl (Lsub_cons rfl Lsub_nil))) hn
set_option maxRecDepth 100000 in
/-- GoalsInAQueue.takeBoth -/
theorem w_94 (sg : rSg) (k : Nat) (hk : isSt k) (k2 : Nat) (hk2 : isSt k2) (hkk : k + 2 < k2 ∨ k2 + 2 < k) {P : Option rv → rSg → Prop} (h :
    EvS rSkel 1 209 [.inr (.inr (some 692)), .inl ((-1))] sg (fun v1 t2 => v1 = none ∧
      g_94_10 k k2 0 t2 P)) : EvS rSkel 2 94 [.inr (.inr (some 0)), .inr (.inr (some k)), .inr (.inr (some k2))] sg P := by
  refine EvS.of (ini := false) rfl ⟨rfl, Nat.le_of_ble_eq_true rfl⟩ rfl ?_
  show GoS rSkel 1 8 4 none false prog_1_method_36_code 0 [(0, .inr (.inr (some 0))), (1, .inr (.inr (some k))), (2, .inr (.inr (some k2)))] [] sg _
  have b_k := hk.1
  have b_k2 := hk2.1
  refine gs0 1 [(0, .inr (.inr (some 0))), (1, .inr (.inr (some k))), (2, .inr (.inr (some k2)))] [.inr (.inr (some 0))] dM_94_0 (fun _ => rfl) (Or.inr rfl) ?_
  refine gsGetR (some 692) dM_94_1 sk_0 rfl rfl ?_
  refine gs0 5 [(0, .inr (.inr (some 0))), (1, .inr (.inr (some k))), (2, .inr (.inr (some k2)))] [.inl ((-1)), .inr (.inr (some 692))] dM_94_4 (fun _ => rfl) (Or.inr rfl) ?_
  refine gsCallS (y := 209) (as := [.inr (.inr (some 692)), .inl ((-1))]) (r := []) dM_94_5 rfl (Or.inl rfl) rfl rfl (Nat.le_of_ble_eq_true rfl) (EvS.up h (Nat.le_of_ble_eq_true rfl)) (fun v1 t2 hv3 => ?_)
  obtain ⟨rfl, hn⟩ := hv3
  clear h
  show GoS _ _ _ _ _ _ _ _ [(0, .inr (.inr (some 0))), (1, .inr (.inr (some k))), (2, .inr (.inr (some k2)))] [] t2 _
  refine gs0 9 [(0, .inr (.inr (some 0))), (1, .inr (.inr (some k))), (2, .inr (.inr (some k2)))] [.inl 0] dM_94_8 (fun _ => rfl) (Or.inr rfl) ?_
  refine gs0 10 [(3, .inl 0), (0, .inr (.inr (some 0))), (1, .inr (.inr (some k))), (2, .inr (.inr (some k2)))] [] dM_94_9 (fun _ => rfl) (Or.inr rfl) ?_
  exact GoS.sub (Lnd_keys (ks := [0, 1, 2, 3]) rfl (by decide)) (Lsub_cons rfl (Lsub_cons rfl (Lsub_cons rfl (Lsub_cons rfl Lsub_nil)))) hn
set_option maxRecDepth 100000 in
/-- GoalsInAQueue.need -/
theorem w_95 (sg : rSg) (x1 : Int32) {P : Option rv → rSg → Prop} (h :
    (1 ≤ x1 → 
      (x1 ≤ 10 → 
        EvS rSkel 2 26 [.inr (.inr (some 231)), .inr (.inr (some 7))] sg (fun v3 t4 => v3 = none ∧
          EvS rSkel 3 33 [.inr (.inr (some 230))] t4 (fun v6 t7 => v6 = none ∧
            EvS rSkel 7 36 [.inr (.inr (some 230)), .inl 300, .inl x1] t7 (fun v9 t10 => v9 = none ∧
              (x1 ≤ (t10 230 10) → 
                EvS rSkel 1 48 [.inr (.inr (some 230)), .inl (x1 - 1)] t10 (fun v13 t14 => ∃ n16, v13 = some (.inl n16) ∧
                  P (some (.inl n16)) t14)) ∧
              (¬ (x1 ≤ (t10 230 10)) → 
                P (some (.inl ((-9)))) t10))))) ∧
      (¬ (x1 ≤ 10) → 
        EvS rSkel 1 72 [.inr (.inr (some 0)), .inl ((-6))] sg (fun v17 t18 => ∃ n20, v17 = some (.inl n20) ∧
          P (some (.inl n20)) t18))) ∧
    (¬ (1 ≤ x1) → 
      EvS rSkel 1 72 [.inr (.inr (some 0)), .inl ((-4))] sg (fun v21 t22 => ∃ n24, v21 = some (.inl n24) ∧
        P (some (.inl n24)) t22))) : EvS rSkel 8 95 [.inr (.inr (some 0)), .inl x1] sg P := by
  refine EvS.of (ini := false) rfl ⟨rfl, Nat.le_of_ble_eq_true rfl⟩ rfl ?_
  show GoS rSkel 7 8 2 (some .int) false prog_1_method_15_code 0 [(0, .inr (.inr (some 0))), (1, .inl x1)] [] sg _
  refine gs0 1 [(0, .inr (.inr (some 0))), (1, .inl x1)] [.inl x1] dM_95_0 (fun _ => rfl) (Or.inr rfl) ?_
  refine gs0 2 [(0, .inr (.inr (some 0))), (1, .inl x1)] [.inl 1, .inl x1] dM_95_1 (fun _ => rfl) (Or.inr rfl) ?_
  refine gsIf (t := 12) (C := 1 ≤ x1) (r := []) dM_95_2 (fun _ => rfl) (Or.inr rfl) (rTest_iff .ge x1 1) (fun c1 => ?_) (fun c1 => ?_)
  · replace h := h.1 c1
    refine gs0 13 [(0, .inr (.inr (some 0))), (1, .inl x1)] [.inl x1] dM_95_12 (fun _ => rfl) (Or.inr rfl) ?_
    refine gs0 15 [(0, .inr (.inr (some 0))), (1, .inl x1)] [.inl 10, .inl x1] dM_95_13 (fun _ => rfl) (Or.inr rfl) ?_
    refine gsIf (t := 25) (C := x1 ≤ 10) (r := []) dM_95_15 (fun _ => rfl) (Or.inr rfl) (rTest_iff .le x1 10) (fun c2 => ?_) (fun c2 => ?_)
    · replace h := h.1 c2
      refine gs0 26 [(0, .inr (.inr (some 0))), (1, .inl x1)] [.inr (.inr (some 0))] dM_95_25 (fun _ => rfl) (Or.inr rfl) ?_
      refine gsGetR (some 230) dM_95_26 sk_0 rfl rfl ?_
      refine gsGetR (some 231) dM_95_29 sk_230 rfl rfl ?_
      refine gs0 33 [(0, .inr (.inr (some 0))), (1, .inl x1)] [.inr (.inr (some 0)), .inr (.inr (some 231))] dM_95_32 (fun _ => rfl) (Or.inr rfl) ?_
      refine gsGetR (some 6) dM_95_33 sk_0 rfl rfl ?_
      refine gsGetR (some 7) dM_95_36 sk_6 rfl rfl ?_
      refine gsCallV (y := 26) (k := 231) (as := [.inr (.inr (some 231)), .inr (.inr (some 7))]) (r := []) dM_95_39 rfl rfl rfl (Nat.le_of_ble_eq_true rfl) sk_231 rfl (Nat.le_of_ble_eq_true rfl) (EvS.up h (Nat.le_of_ble_eq_true rfl)) (fun v3 t4 hv5 => ?_)
      obtain ⟨rfl, hn⟩ := hv5
      clear h
      show GoS _ _ _ _ _ _ _ _ [(0, .inr (.inr (some 0))), (1, .inl x1)] [] t4 _
      refine gs0 43 [(0, .inr (.inr (some 0))), (1, .inl x1)] [.inr (.inr (some 0))] dM_95_42 (fun _ => rfl) (Or.inr rfl) ?_
      refine gsGetR (some 230) dM_95_43 sk_0 rfl rfl ?_
      refine gsCallV (y := 33) (k := 230) (as := [.inr (.inr (some 230))]) (r := []) dM_95_46 rfl rfl rfl (Nat.le_of_ble_eq_true rfl) sk_230 rfl (Nat.le_of_ble_eq_true rfl) (EvS.up hn (Nat.le_of_ble_eq_true rfl)) (fun v6 t7 hv8 => ?_)
      obtain ⟨rfl, hnn⟩ := hv8
      clear hn
      show GoS _ _ _ _ _ _ _ _ [(0, .inr (.inr (some 0))), (1, .inl x1)] [] t7 _
      refine gs0 50 [(0, .inr (.inr (some 0))), (1, .inl x1)] [.inr (.inr (some 0))] dM_95_49 (fun _ => rfl) (Or.inr rfl) ?_
      refine gsGetR (some 230) dM_95_50 sk_0 rfl rfl ?_
      refine gs0 56 [(0, .inr (.inr (some 0))), (1, .inl x1)] [.inl 300, .inr (.inr (some 230))] dM_95_53 (fun _ => rfl) (Or.inr rfl) ?_
      refine gs0 57 [(0, .inr (.inr (some 0))), (1, .inl x1)] [.inl x1, .inl 300, .inr (.inr (some 230))] dM_95_56 (fun _ => rfl) (Or.inr rfl) ?_
      refine gsCallV (y := 36) (k := 230) (as := [.inr (.inr (some 230)), .inl 300, .inl x1]) (r := []) dM_95_57 rfl rfl rfl (Nat.le_of_ble_eq_true rfl) sk_230 rfl (Nat.le_of_ble_eq_true rfl) (EvS.up hnn (Nat.le_of_ble_eq_true rfl)) (fun v9 t10 hv11 => ?_)
      obtain ⟨rfl, hnnn⟩ := hv11
      clear hnn
      show GoS _ _ _ _ _ _ _ _ [(0, .inr (.inr (some 0))), (1, .inl x1)] [] t10 _
      refine gs0 61 [(0, .inr (.inr (some 0))), (1, .inl x1)] [.inr (.inr (some 0))] dM_95_60 (fun _ => rfl) (Or.inr rfl) ?_
      refine gsGetR (some 230) dM_95_61 sk_0 rfl rfl ?_
      refine gsGetE (t10 230 10) dM_95_64 sk_230 rfl rfl rfl ?_
      refine gs0 68 [(0, .inr (.inr (some 0))), (1, .inl x1)] [.inl x1, .inl (t10 230 10)] dM_95_67 (fun _ => rfl) (Or.inr rfl) ?_
      refine gsIf (t := 76) (C := x1 ≤ (t10 230 10)) (r := []) dM_95_68 (fun _ => rfl) (Or.inr rfl) (rTest_iff .ge (t10 230 10) x1) (fun c12 => ?_) (fun c12 => ?_)
      · replace hnnn := hnnn.1 c12
        refine gs0 77 [(0, .inr (.inr (some 0))), (1, .inl x1)] [.inr (.inr (some 0))] dM_95_76 (fun _ => rfl) (Or.inr rfl) ?_
        refine gsGetR (some 230) dM_95_77 sk_0 rfl rfl ?_
        refine gs0 81 [(0, .inr (.inr (some 0))), (1, .inl x1)] [.inl x1, .inr (.inr (some 230))] dM_95_80 (fun _ => rfl) (Or.inr rfl) ?_
        refine gs0 82 [(0, .inr (.inr (some 0))), (1, .inl x1)] [.inl 1, .inl x1, .inr (.inr (some 230))] dM_95_81 (fun _ => rfl) (Or.inr rfl) ?_
        refine gs0 83 [(0, .inr (.inr (some 0))), (1, .inl x1)] [.inl (x1 - 1), .inr (.inr (some 230))] dM_95_82 (fun _ => rfl) (Or.inr rfl) ?_
        refine gsCallV (y := 48) (k := 230) (as := [.inr (.inr (some 230)), .inl (x1 - 1)]) (r := []) dM_95_83 rfl rfl rfl (Nat.le_of_ble_eq_true rfl) sk_230 rfl (Nat.le_of_ble_eq_true rfl) (EvS.up hnnn (Nat.le_of_ble_eq_true rfl)) (fun v13 t14 hv15 => ?_)
        obtain ⟨n16, rfl, hnnnn⟩ := hv15
        clear hnnn
        show GoS _ _ _ _ _ _ _ _ [(0, .inr (.inr (some 0))), (1, .inl x1)] [.inl n16] t14 _
        refine gsRet (r := some (.inl n16)) dM_95_86 (fun _ => rfl) (Or.inr rfl) ?_
        exact hnnnn
      · replace hnnn := hnnn.2 c12
        refine gs0 73 [(0, .inr (.inr (some 0))), (1, .inl x1)] [.inl ((-9))] dM_95_71 (fun _ => rfl) (Or.inr rfl) ?_
        refine gs0 86 [(0, .inr (.inr (some 0))), (1, .inl x1)] [.inl ((-9))] dM_95_73 (fun _ => rfl) (Or.inr rfl) ?_
        refine gsRet (r := some (.inl ((-9)))) dM_95_86 (fun _ => rfl) (Or.inr rfl) ?_
        exact hnnn
    · replace h := h.2 c2
      refine gs0 19 [(0, .inr (.inr (some 0))), (1, .inl x1)] [.inr (.inr (some 0))] dM_95_18 (fun _ => rfl) (Or.inr rfl) ?_
      refine gs0 21 [(0, .inr (.inr (some 0))), (1, .inl x1)] [.inl ((-6)), .inr (.inr (some 0))] dM_95_19 (fun _ => rfl) (Or.inr rfl) ?_
      refine gsCallV (y := 72) (k := 0) (as := [.inr (.inr (some 0)), .inl ((-6))]) (r := []) dM_95_21 rfl rfl rfl (Nat.le_of_ble_eq_true rfl) sk_0 rfl (Nat.le_of_ble_eq_true rfl) (EvS.up h (Nat.le_of_ble_eq_true rfl)) (fun v17 t18 hv19 => ?_)
      obtain ⟨n20, rfl, hn⟩ := hv19
      clear h
      show GoS _ _ _ _ _ _ _ _ [(0, .inr (.inr (some 0))), (1, .inl x1)] [.inl n20] t18 _
      refine gsRet (r := some (.inl n20)) dM_95_24 (fun _ => rfl) (Or.inr rfl) ?_
      exact hn
  · replace h := h.2 c1
    refine gs0 6 [(0, .inr (.inr (some 0))), (1, .inl x1)] [.inr (.inr (some 0))] dM_95_5 (fun _ => rfl) (Or.inr rfl) ?_
    refine gs0 8 [(0, .inr (.inr (some 0))), (1, .inl x1)] [.inl ((-4)), .inr (.inr (some 0))] dM_95_6 (fun _ => rfl) (Or.inr rfl) ?_
    refine gsCallV (y := 72) (k := 0) (as := [.inr (.inr (some 0)), .inl ((-4))]) (r := []) dM_95_8 rfl rfl rfl (Nat.le_of_ble_eq_true rfl) sk_0 rfl (Nat.le_of_ble_eq_true rfl) (EvS.up h (Nat.le_of_ble_eq_true rfl)) (fun v21 t22 hv23 => ?_)
    obtain ⟨n24, rfl, hn⟩ := hv23
    clear h
    show GoS _ _ _ _ _ _ _ _ [(0, .inr (.inr (some 0))), (1, .inl x1)] [.inl n24] t22 _
    refine gsRet (r := some (.inl n24)) dM_95_11 (fun _ => rfl) (Or.inr rfl) ?_
    exact hn
set_option maxRecDepth 100000 in
/-- GoalsInAQueue.left -/
theorem w_96 (sg : rSg) (x1 : Int32) (x2 : Int32) {P : Option rv → rSg → Prop} (h :
    EvS rSkel 1 82 [.inl x1] sg (fun v1 t2 => ∃ n4, v1 = some (.inl n4) ∧
      (¬ n4 = 0 → 
        (0 ≤ x2 → 
          (x2 < 10 → 
            EvS rSkel 4 97 [.inr (.inr (some 0)), .inl x1, .inl x2] t2 (fun v8 t9 => v8 = none ∧
              EvS rSkel 7 36 [.inr (.inr (some 230)), .inl 120, .inl 30] t9 (fun v11 t12 => v11 = none ∧
                P (some (.inl (t12 230 10))) t12))) ∧
          (¬ (x2 < 10) → 
            EvS rSkel 1 72 [.inr (.inr (some 0)), .inl ((-6))] t2 (fun v14 t15 => ∃ n17, v14 = some (.inl n17) ∧
              P (some (.inl n17)) t15))) ∧
        (¬ (0 ≤ x2) → 
          EvS rSkel 1 72 [.inr (.inr (some 0)), .inl ((-4))] t2 (fun v18 t19 => ∃ n21, v18 = some (.inl n21) ∧
            P (some (.inl n21)) t19))) ∧
      (¬ (¬ n4 = 0) → 
        EvS rSkel 1 72 [.inr (.inr (some 0)), .inl ((-1))] t2 (fun v22 t23 => ∃ n25, v22 = some (.inl n25) ∧
          P (some (.inl n25)) t23)))) : EvS rSkel 8 96 [.inr (.inr (some 0)), .inl x1, .inl x2] sg P := by
  refine EvS.of (ini := false) rfl ⟨rfl, Nat.le_of_ble_eq_true rfl⟩ rfl ?_
  show GoS rSkel 7 8 3 (some .int) false prog_1_method_16_code 0 [(0, .inr (.inr (some 0))), (1, .inl x1), (2, .inl x2)] [] sg _
  refine gs0 1 [(0, .inr (.inr (some 0))), (1, .inl x1), (2, .inl x2)] [.inl x1] dM_96_0 (fun _ => rfl) (Or.inr rfl) ?_
  refine gsCallS (y := 82) (as := [.inl x1]) (r := []) dM_96_1 rfl (Or.inl rfl) rfl rfl (Nat.le_of_ble_eq_true rfl) (EvS.up h (Nat.le_of_ble_eq_true rfl)) (fun v1 t2 hv3 => ?_)
  obtain ⟨n4, rfl, hn⟩ := hv3
  clear h
  show GoS _ _ _ _ _ _ _ _ [(0, .inr (.inr (some 0))), (1, .inl x1), (2, .inl x2)] [.inl n4] t2 _
  refine gsIf (t := 13) (C := ¬ n4 = 0) (r := []) dM_96_4 (fun _ => rfl) (Or.inr rfl) (rTest_iff .ne n4 0) (fun c5 => ?_) (fun c5 => ?_)
  · replace hn := hn.1 c5
    refine gs0 14 [(0, .inr (.inr (some 0))), (1, .inl x1), (2, .inl x2)] [.inl x2] dM_96_13 (fun _ => rfl) (Or.inr rfl) ?_
    refine gsIf (t := 24) (C := 0 ≤ x2) (r := []) dM_96_14 (fun _ => rfl) (Or.inr rfl) (rTest_iff .ge x2 0) (fun c6 => ?_) (fun c6 => ?_)
    · replace hn := hn.1 c6
      refine gs0 25 [(0, .inr (.inr (some 0))), (1, .inl x1), (2, .inl x2)] [.inl x2] dM_96_24 (fun _ => rfl) (Or.inr rfl) ?_
      refine gs0 27 [(0, .inr (.inr (some 0))), (1, .inl x1), (2, .inl x2)] [.inl 10, .inl x2] dM_96_25 (fun _ => rfl) (Or.inr rfl) ?_
      refine gsIf (t := 37) (C := x2 < 10) (r := []) dM_96_27 (fun _ => rfl) (Or.inr rfl) (rTest_iff .lt x2 10) (fun c7 => ?_) (fun c7 => ?_)
      · replace hn := hn.1 c7
        refine gs0 38 [(0, .inr (.inr (some 0))), (1, .inl x1), (2, .inl x2)] [.inr (.inr (some 0))] dM_96_37 (fun _ => rfl) (Or.inr rfl) ?_
        refine gs0 39 [(0, .inr (.inr (some 0))), (1, .inl x1), (2, .inl x2)] [.inl x1, .inr (.inr (some 0))] dM_96_38 (fun _ => rfl) (Or.inr rfl) ?_
        refine gs0 40 [(0, .inr (.inr (some 0))), (1, .inl x1), (2, .inl x2)] [.inl x2, .inl x1, .inr (.inr (some 0))] dM_96_39 (fun _ => rfl) (Or.inr rfl) ?_
        refine gsCallV (y := 97) (k := 0) (as := [.inr (.inr (some 0)), .inl x1, .inl x2]) (r := []) dM_96_40 rfl rfl rfl (Nat.le_of_ble_eq_true rfl) sk_0 rfl (Nat.le_of_ble_eq_true rfl) (EvS.up hn (Nat.le_of_ble_eq_true rfl)) (fun v8 t9 hv10 => ?_)
        obtain ⟨rfl, hnn⟩ := hv10
        clear hn
        show GoS _ _ _ _ _ _ _ _ [(0, .inr (.inr (some 0))), (1, .inl x1), (2, .inl x2)] [] t9 _
        refine gs0 44 [(0, .inr (.inr (some 0))), (1, .inl x1), (2, .inl x2)] [.inr (.inr (some 0))] dM_96_43 (fun _ => rfl) (Or.inr rfl) ?_
        refine gsGetR (some 230) dM_96_44 sk_0 rfl rfl ?_
        refine gs0 49 [(0, .inr (.inr (some 0))), (1, .inl x1), (2, .inl x2)] [.inl 120, .inr (.inr (some 230))] dM_96_47 (fun _ => rfl) (Or.inr rfl) ?_
        refine gs0 51 [(0, .inr (.inr (some 0))), (1, .inl x1), (2, .inl x2)] [.inl 30, .inl 120, .inr (.inr (some 230))] dM_96_49 (fun _ => rfl) (Or.inr rfl) ?_
        refine gsCallV (y := 36) (k := 230) (as := [.inr (.inr (some 230)), .inl 120, .inl 30]) (r := []) dM_96_51 rfl rfl rfl (Nat.le_of_ble_eq_true rfl) sk_230 rfl (Nat.le_of_ble_eq_true rfl) (EvS.up hnn (Nat.le_of_ble_eq_true rfl)) (fun v11 t12 hv13 => ?_)
        obtain ⟨rfl, hnnn⟩ := hv13
        clear hnn
        show GoS _ _ _ _ _ _ _ _ [(0, .inr (.inr (some 0))), (1, .inl x1), (2, .inl x2)] [] t12 _
        refine gs0 55 [(0, .inr (.inr (some 0))), (1, .inl x1), (2, .inl x2)] [.inr (.inr (some 0))] dM_96_54 (fun _ => rfl) (Or.inr rfl) ?_
        refine gsGetR (some 230) dM_96_55 sk_0 rfl rfl ?_
        refine gsGetE (t12 230 10) dM_96_58 sk_230 rfl rfl rfl ?_
        refine gsRet (r := some (.inl (t12 230 10))) dM_96_61 (fun _ => rfl) (Or.inr rfl) ?_
        exact hnnn
      · replace hn := hn.2 c7
        refine gs0 31 [(0, .inr (.inr (some 0))), (1, .inl x1), (2, .inl x2)] [.inr (.inr (some 0))] dM_96_30 (fun _ => rfl) (Or.inr rfl) ?_
        refine gs0 33 [(0, .inr (.inr (some 0))), (1, .inl x1), (2, .inl x2)] [.inl ((-6)), .inr (.inr (some 0))] dM_96_31 (fun _ => rfl) (Or.inr rfl) ?_
        refine gsCallV (y := 72) (k := 0) (as := [.inr (.inr (some 0)), .inl ((-6))]) (r := []) dM_96_33 rfl rfl rfl (Nat.le_of_ble_eq_true rfl) sk_0 rfl (Nat.le_of_ble_eq_true rfl) (EvS.up hn (Nat.le_of_ble_eq_true rfl)) (fun v14 t15 hv16 => ?_)
        obtain ⟨n17, rfl, hnn⟩ := hv16
        clear hn
        show GoS _ _ _ _ _ _ _ _ [(0, .inr (.inr (some 0))), (1, .inl x1), (2, .inl x2)] [.inl n17] t15 _
        refine gsRet (r := some (.inl n17)) dM_96_36 (fun _ => rfl) (Or.inr rfl) ?_
        exact hnn
    · replace hn := hn.2 c6
      refine gs0 18 [(0, .inr (.inr (some 0))), (1, .inl x1), (2, .inl x2)] [.inr (.inr (some 0))] dM_96_17 (fun _ => rfl) (Or.inr rfl) ?_
      refine gs0 20 [(0, .inr (.inr (some 0))), (1, .inl x1), (2, .inl x2)] [.inl ((-4)), .inr (.inr (some 0))] dM_96_18 (fun _ => rfl) (Or.inr rfl) ?_
      refine gsCallV (y := 72) (k := 0) (as := [.inr (.inr (some 0)), .inl ((-4))]) (r := []) dM_96_20 rfl rfl rfl (Nat.le_of_ble_eq_true rfl) sk_0 rfl (Nat.le_of_ble_eq_true rfl) (EvS.up hn (Nat.le_of_ble_eq_true rfl)) (fun v18 t19 hv20 => ?_)
      obtain ⟨n21, rfl, hnn⟩ := hv20
      clear hn
      show GoS _ _ _ _ _ _ _ _ [(0, .inr (.inr (some 0))), (1, .inl x1), (2, .inl x2)] [.inl n21] t19 _
      refine gsRet (r := some (.inl n21)) dM_96_23 (fun _ => rfl) (Or.inr rfl) ?_
      exact hnn
  · replace hn := hn.2 c5
    refine gs0 8 [(0, .inr (.inr (some 0))), (1, .inl x1), (2, .inl x2)] [.inr (.inr (some 0))] dM_96_7 (fun _ => rfl) (Or.inr rfl) ?_
    refine gs0 9 [(0, .inr (.inr (some 0))), (1, .inl x1), (2, .inl x2)] [.inl ((-1)), .inr (.inr (some 0))] dM_96_8 (fun _ => rfl) (Or.inr rfl) ?_
    refine gsCallV (y := 72) (k := 0) (as := [.inr (.inr (some 0)), .inl ((-1))]) (r := []) dM_96_9 rfl rfl rfl (Nat.le_of_ble_eq_true rfl) sk_0 rfl (Nat.le_of_ble_eq_true rfl) (EvS.up hn (Nat.le_of_ble_eq_true rfl)) (fun v22 t23 hv24 => ?_)
    obtain ⟨n25, rfl, hnn⟩ := hv24
    clear hn
    show GoS _ _ _ _ _ _ _ _ [(0, .inr (.inr (some 0))), (1, .inl x1), (2, .inl x2)] [.inl n25] t23 _
    refine gsRet (r := some (.inl n25)) dM_96_12 (fun _ => rfl) (Or.inr rfl) ?_
    exact hnn
set_option maxRecDepth 100000 in
/-- GoalsInAQueue.beginWith -/
theorem w_97 (sg : rSg) (x1 : Int32) (x2 : Int32) {P : Option rv → rSg → Prop} (h :
    EvS rSkel 2 26 [.inr (.inr (some 231)), .inr (.inr (some 7))] sg (fun v1 t2 => v1 = none ∧
      EvS rSkel 1 21 [.inr (.inr (some 231)), .inl 61] t2 (fun v4 t5 => ∃ n7, v4 = some (.inl n7) ∧
        EvS rSkel 1 22 [.inr (.inr (some 231)), .inl n7, .inl 0, .inl x1] t5 (fun v8 t9 => v8 = none ∧
          EvS rSkel 1 22 [.inr (.inr (some 231)), .inl n7, .inl 1, .inl (128 + x2)] t9 (fun v11 t12 => v11 = none ∧
            EvS rSkel 1 21 [.inr (.inr (some 231)), .inl 38] t12 (fun v14 t15 => ∃ n17, v14 = some (.inl n17) ∧
              EvS rSkel 1 22 [.inr (.inr (some 231)), .inl n17, .inl 0, .inl n7] t15 (fun v18 t19 => v18 = none ∧
                EvS rSkel 1 22 [.inr (.inr (some 231)), .inl n17, .inl 1, .inl (t19 231 5)] t19 (fun v21 t22 => v21 = none ∧
                  EvS rSkel 1 25 [.inr (.inr (some 231)), .inl n17, .inl (t22 231 8)] t22 (fun v24 t25 => v24 = none ∧
                    EvS rSkel 3 33 [.inr (.inr (some 230))] t25 (fun v27 t28 => v27 = none ∧
                      P none t28)))))))))) : EvS rSkel 4 97 [.inr (.inr (some 0)), .inl x1, .inl x2] sg P := by
  refine EvS.of (ini := false) rfl ⟨rfl, Nat.le_of_ble_eq_true rfl⟩ rfl ?_
  show GoS rSkel 3 8 6 none false prog_1_method_37_code 0 [(0, .inr (.inr (some 0))), (1, .inl x1), (2, .inl x2)] [] sg _
  refine gs0 1 [(0, .inr (.inr (some 0))), (1, .inl x1), (2, .inl x2)] [.inr (.inr (some 0))] dM_97_0 (fun _ => rfl) (Or.inr rfl) ?_
  refine gsGetR (some 230) dM_97_1 sk_0 rfl rfl ?_
  refine gsGetR (some 231) dM_97_4 sk_230 rfl rfl ?_
  refine gs0 8 [(3, .inr (.inr (some 231))), (0, .inr (.inr (some 0))), (1, .inl x1), (2, .inl x2)] [] dM_97_7 (fun _ => rfl) (Or.inr rfl) ?_
  refine gs0 9 [(3, .inr (.inr (some 231))), (0, .inr (.inr (some 0))), (1, .inl x1), (2, .inl x2)] [.inr (.inr (some 231))] dM_97_8 (fun _ => rfl) (Or.inr rfl) ?_
  refine gs0 10 [(3, .inr (.inr (some 231))), (0, .inr (.inr (some 0))), (1, .inl x1), (2, .inl x2)] [.inr (.inr (some 0)), .inr (.inr (some 231))] dM_97_9 (fun _ => rfl) (Or.inr rfl) ?_
  refine gsGetR (some 6) dM_97_10 sk_0 rfl rfl ?_
  refine gsGetR (some 7) dM_97_13 sk_6 rfl rfl ?_
  refine gsCallV (y := 26) (k := 231) (as := [.inr (.inr (some 231)), .inr (.inr (some 7))]) (r := []) dM_97_16 rfl rfl rfl (Nat.le_of_ble_eq_true rfl) sk_231 rfl (Nat.le_of_ble_eq_true rfl) (EvS.up h (Nat.le_of_ble_eq_true rfl)) (fun v1 t2 hv3 => ?_)
  obtain ⟨rfl, hn⟩ := hv3
  clear h
  show GoS _ _ _ _ _ _ _ _ [(3, .inr (.inr (some 231))), (0, .inr (.inr (some 0))), (1, .inl x1), (2, .inl x2)] [] t2 _
  refine gs0 20 [(3, .inr (.inr (some 231))), (0, .inr (.inr (some 0))), (1, .inl x1), (2, .inl x2)] [.inr (.inr (some 231))] dM_97_19 (fun _ => rfl) (Or.inr rfl) ?_
  refine gs0 22 [(3, .inr (.inr (some 231))), (0, .inr (.inr (some 0))), (1, .inl x1), (2, .inl x2)] [.inl 61, .inr (.inr (some 231))] dM_97_20 (fun _ => rfl) (Or.inr rfl) ?_
  refine gsCallV (y := 21) (k := 231) (as := [.inr (.inr (some 231)), .inl 61]) (r := []) dM_97_22 rfl rfl rfl (Nat.le_of_ble_eq_true rfl) sk_231 rfl (Nat.le_of_ble_eq_true rfl) (EvS.up hn (Nat.le_of_ble_eq_true rfl)) (fun v4 t5 hv6 => ?_)
  obtain ⟨n7, rfl, hnn⟩ := hv6
  clear hn
  show GoS _ _ _ _ _ _ _ _ [(3, .inr (.inr (some 231))), (0, .inr (.inr (some 0))), (1, .inl x1), (2, .inl x2)] [.inl n7] t5 _
  refine gs0 27 [(4, .inl n7), (3, .inr (.inr (some 231))), (0, .inr (.inr (some 0))), (1, .inl x1), (2, .inl x2)] [] dM_97_25 (fun _ => rfl) (Or.inr rfl) ?_
  refine gs0 28 [(4, .inl n7), (3, .inr (.inr (some 231))), (0, .inr (.inr (some 0))), (1, .inl x1), (2, .inl x2)] [.inr (.inr (some 231))] dM_97_27 (fun _ => rfl) (Or.inr rfl) ?_
  refine gs0 30 [(4, .inl n7), (3, .inr (.inr (some 231))), (0, .inr (.inr (some 0))), (1, .inl x1), (2, .inl x2)] [.inl n7, .inr (.inr (some 231))] dM_97_28 (fun _ => rfl) (Or.inr rfl) ?_
  refine gs0 31 [(4, .inl n7), (3, .inr (.inr (some 231))), (0, .inr (.inr (some 0))), (1, .inl x1), (2, .inl x2)] [.inl 0, .inl n7, .inr (.inr (some 231))] dM_97_30 (fun _ => rfl) (Or.inr rfl) ?_
  refine gs0 32 [(4, .inl n7), (3, .inr (.inr (some 231))), (0, .inr (.inr (some 0))), (1, .inl x1), (2, .inl x2)] [.inl x1, .inl 0, .inl n7, .inr (.inr (some 231))] dM_97_31 (fun _ => rfl) (Or.inr rfl) ?_
  refine gsCallV (y := 22) (k := 231) (as := [.inr (.inr (some 231)), .inl n7, .inl 0, .inl x1]) (r := []) dM_97_32 rfl rfl rfl (Nat.le_of_ble_eq_true rfl) sk_231 rfl (Nat.le_of_ble_eq_true rfl) (EvS.up hnn (Nat.le_of_ble_eq_true rfl)) (fun v8 t9 hv10 => ?_)
  obtain ⟨rfl, hnnn⟩ := hv10
  clear hnn
  show GoS _ _ _ _ _ _ _ _ [(4, .inl n7), (3, .inr (.inr (some 231))), (0, .inr (.inr (some 0))), (1, .inl x1), (2, .inl x2)] [] t9 _
  refine gs0 36 [(4, .inl n7), (3, .inr (.inr (some 231))), (0, .inr (.inr (some 0))), (1, .inl x1), (2, .inl x2)] [.inr (.inr (some 231))] dM_97_35 (fun _ => rfl) (Or.inr rfl) ?_
  refine gs0 38 [(4, .inl n7), (3, .inr (.inr (some 231))), (0, .inr (.inr (some 0))), (1, .inl x1), (2, .inl x2)] [.inl n7, .inr (.inr (some 231))] dM_97_36 (fun _ => rfl) (Or.inr rfl) ?_
  refine gs0 39 [(4, .inl n7), (3, .inr (.inr (some 231))), (0, .inr (.inr (some 0))), (1, .inl x1), (2, .inl x2)] [.inl 1, .inl n7, .inr (.inr (some 231))] dM_97_38 (fun _ => rfl) (Or.inr rfl) ?_
  refine gs0 42 [(4, .inl n7), (3, .inr (.inr (some 231))), (0, .inr (.inr (some 0))), (1, .inl x1), (2, .inl x2)] [.inl 128, .inl 1, .inl n7, .inr (.inr (some 231))] dM_97_39 (fun _ => rfl) (Or.inr rfl) ?_
  refine gs0 43 [(4, .inl n7), (3, .inr (.inr (some 231))), (0, .inr (.inr (some 0))), (1, .inl x1), (2, .inl x2)] [.inl x2, .inl 128, .inl 1, .inl n7, .inr (.inr (some 231))] dM_97_42 (fun _ => rfl) (Or.inr rfl) ?_
  refine gs0 44 [(4, .inl n7), (3, .inr (.inr (some 231))), (0, .inr (.inr (some 0))), (1, .inl x1), (2, .inl x2)] [.inl (128 + x2), .inl 1, .inl n7, .inr (.inr (some 231))] dM_97_43 (fun _ => rfl) (Or.inr rfl) ?_
  refine gsCallV (y := 22) (k := 231) (as := [.inr (.inr (some 231)), .inl n7, .inl 1, .inl (128 + x2)]) (r := []) dM_97_44 rfl rfl rfl (Nat.le_of_ble_eq_true rfl) sk_231 rfl (Nat.le_of_ble_eq_true rfl) (EvS.up hnnn (Nat.le_of_ble_eq_true rfl)) (fun v11 t12 hv13 => ?_)
  obtain ⟨rfl, hnnnn⟩ := hv13
  clear hnnn
  show GoS _ _ _ _ _ _ _ _ [(4, .inl n7), (3, .inr (.inr (some 231))), (0, .inr (.inr (some 0))), (1, .inl x1), (2, .inl x2)] [] t12 _
  refine gs0 48 [(4, .inl n7), (3, .inr (.inr (some 231))), (0, .inr (.inr (some 0))), (1, .inl x1), (2, .inl x2)] [.inr (.inr (some 231))] dM_97_47 (fun _ => rfl) (Or.inr rfl) ?_
  refine gs0 50 [(4, .inl n7), (3, .inr (.inr (some 231))), (0, .inr (.inr (some 0))), (1, .inl x1), (2, .inl x2)] [.inl 38, .inr (.inr (some 231))] dM_97_48 (fun _ => rfl) (Or.inr rfl) ?_
  refine gsCallV (y := 21) (k := 231) (as := [.inr (.inr (some 231)), .inl 38]) (r := []) dM_97_50 rfl rfl rfl (Nat.le_of_ble_eq_true rfl) sk_231 rfl (Nat.le_of_ble_eq_true rfl) (EvS.up hnnnn (Nat.le_of_ble_eq_true rfl)) (fun v14 t15 hv16 => ?_)
  obtain ⟨n17, rfl, hnnnnn⟩ := hv16
  clear hnnnn
  show GoS _ _ _ _ _ _ _ _ [(4, .inl n7), (3, .inr (.inr (some 231))), (0, .inr (.inr (some 0))), (1, .inl x1), (2, .inl x2)] [.inl n17] t15 _
  refine gs0 55 [(5, .inl n17), (4, .inl n7), (3, .inr (.inr (some 231))), (0, .inr (.inr (some 0))), (1, .inl x1), (2, .inl x2)] [] dM_97_53 (fun _ => rfl) (Or.inr rfl) ?_
  refine gs0 56 [(5, .inl n17), (4, .inl n7), (3, .inr (.inr (some 231))), (0, .inr (.inr (some 0))), (1, .inl x1), (2, .inl x2)] [.inr (.inr (some 231))] dM_97_55 (fun _ => rfl) (Or.inr rfl) ?_
  refine gs0 58 [(5, .inl n17), (4, .inl n7), (3, .inr (.inr (some 231))), (0, .inr (.inr (some 0))), (1, .inl x1), (2, .inl x2)] [.inl n17, .inr (.inr (some 231))] dM_97_56 (fun _ => rfl) (Or.inr rfl) ?_
  refine gs0 59 [(5, .inl n17), (4, .inl n7), (3, .inr (.inr (some 231))), (0, .inr (.inr (some 0))), (1, .inl x1), (2, .inl x2)] [.inl 0, .inl n17, .inr (.inr (some 231))] dM_97_58 (fun _ => rfl) (Or.inr rfl) ?_
  refine gs0 61 [(5, .inl n17), (4, .inl n7), (3, .inr (.inr (some 231))), (0, .inr (.inr (some 0))), (1, .inl x1), (2, .inl x2)] [.inl n7, .inl 0, .inl n17, .inr (.inr (some 231))] dM_97_59 (fun _ => rfl) (Or.inr rfl) ?_
  refine gsCallV (y := 22) (k := 231) (as := [.inr (.inr (some 231)), .inl n17, .inl 0, .inl n7]) (r := []) dM_97_61 rfl rfl rfl (Nat.le_of_ble_eq_true rfl) sk_231 rfl (Nat.le_of_ble_eq_true rfl) (EvS.up hnnnnn (Nat.le_of_ble_eq_true rfl)) (fun v18 t19 hv20 => ?_)
  obtain ⟨rfl, hnnnnnn⟩ := hv20
  clear hnnnnn
  show GoS _ _ _ _ _ _ _ _ [(5, .inl n17), (4, .inl n7), (3, .inr (.inr (some 231))), (0, .inr (.inr (some 0))), (1, .inl x1), (2, .inl x2)] [] t19 _
  refine gs0 65 [(5, .inl n17), (4, .inl n7), (3, .inr (.inr (some 231))), (0, .inr (.inr (some 0))), (1, .inl x1), (2, .inl x2)] [.inr (.inr (some 231))] dM_97_64 (fun _ => rfl) (Or.inr rfl) ?_
  refine gs0 67 [(5, .inl n17), (4, .inl n7), (3, .inr (.inr (some 231))), (0, .inr (.inr (some 0))), (1, .inl x1), (2, .inl x2)] [.inl n17, .inr (.inr (some 231))] dM_97_65 (fun _ => rfl) (Or.inr rfl) ?_
  refine gs0 68 [(5, .inl n17), (4, .inl n7), (3, .inr (.inr (some 231))), (0, .inr (.inr (some 0))), (1, .inl x1), (2, .inl x2)] [.inl 1, .inl n17, .inr (.inr (some 231))] dM_97_67 (fun _ => rfl) (Or.inr rfl) ?_
  refine gs0 69 [(5, .inl n17), (4, .inl n7), (3, .inr (.inr (some 231))), (0, .inr (.inr (some 0))), (1, .inl x1), (2, .inl x2)] [.inr (.inr (some 231)), .inl 1, .inl n17, .inr (.inr (some 231))] dM_97_68 (fun _ => rfl) (Or.inr rfl) ?_
  refine gsGetE (t19 231 5) dM_97_69 sk_231 rfl rfl rfl ?_
  refine gsCallV (y := 22) (k := 231) (as := [.inr (.inr (some 231)), .inl n17, .inl 1, .inl (t19 231 5)]) (r := []) dM_97_72 rfl rfl rfl (Nat.le_of_ble_eq_true rfl) sk_231 rfl (Nat.le_of_ble_eq_true rfl) (EvS.up hnnnnnn (Nat.le_of_ble_eq_true rfl)) (fun v21 t22 hv23 => ?_)
  obtain ⟨rfl, hnnnnnnn⟩ := hv23
  clear hnnnnnn
  show GoS _ _ _ _ _ _ _ _ [(5, .inl n17), (4, .inl n7), (3, .inr (.inr (some 231))), (0, .inr (.inr (some 0))), (1, .inl x1), (2, .inl x2)] [] t22 _
  refine gs0 76 [(5, .inl n17), (4, .inl n7), (3, .inr (.inr (some 231))), (0, .inr (.inr (some 0))), (1, .inl x1), (2, .inl x2)] [.inr (.inr (some 231))] dM_97_75 (fun _ => rfl) (Or.inr rfl) ?_
  refine gs0 78 [(5, .inl n17), (4, .inl n7), (3, .inr (.inr (some 231))), (0, .inr (.inr (some 0))), (1, .inl x1), (2, .inl x2)] [.inl n17, .inr (.inr (some 231))] dM_97_76 (fun _ => rfl) (Or.inr rfl) ?_
  refine gs0 79 [(5, .inl n17), (4, .inl n7), (3, .inr (.inr (some 231))), (0, .inr (.inr (some 0))), (1, .inl x1), (2, .inl x2)] [.inr (.inr (some 231)), .inl n17, .inr (.inr (some 231))] dM_97_78 (fun _ => rfl) (Or.inr rfl) ?_
  refine gsGetE (t22 231 8) dM_97_79 sk_231 rfl rfl rfl ?_
  refine gsCallV (y := 25) (k := 231) (as := [.inr (.inr (some 231)), .inl n17, .inl (t22 231 8)]) (r := []) dM_97_82 rfl rfl rfl (Nat.le_of_ble_eq_true rfl) sk_231 rfl (Nat.le_of_ble_eq_true rfl) (EvS.up hnnnnnnn (Nat.le_of_ble_eq_true rfl)) (fun v24 t25 hv26 => ?_)
  obtain ⟨rfl, hnnnnnnnn⟩ := hv26
  clear hnnnnnnn
  show GoS _ _ _ _ _ _ _ _ [(5, .inl n17), (4, .inl n7), (3, .inr (.inr (some 231))), (0, .inr (.inr (some 0))), (1, .inl x1), (2, .inl x2)] [] t25 _
  refine gs0 86 [(5, .inl n17), (4, .inl n7), (3, .inr (.inr (some 231))), (0, .inr (.inr (some 0))), (1, .inl x1), (2, .inl x2)] [.inr (.inr (some 0))] dM_97_85 (fun _ => rfl) (Or.inr rfl) ?_
  refine gsGetR (some 230) dM_97_86 sk_0 rfl rfl ?_
  refine gsCallV (y := 33) (k := 230) (as := [.inr (.inr (some 230))]) (r := []) dM_97_89 rfl rfl rfl (Nat.le_of_ble_eq_true rfl) sk_230 rfl (Nat.le_of_ble_eq_true rfl) (EvS.up hnnnnnnnn (Nat.le_of_ble_eq_true rfl)) (fun v27 t28 hv29 => ?_)
  obtain ⟨rfl, hnnnnnnnnn⟩ := hv29
  clear hnnnnnnnn
  show GoS _ _ _ _ _ _ _ _ [(5, .inl n17), (4, .inl n7), (3, .inr (.inr (some 231))), (0, .inr (.inr (some 0))), (1, .inl x1), (2, .inl x2)] [] t28 _
  refine gsRet (r := none) dM_97_92 (fun _ => rfl) (Or.inr rfl) ?_
  exact hnnnnnnnnn
def g_98_15  (y1 : Int32) (y2 : Int32) (sg : rSg) (P : Option rv → rSg → Prop) : Prop := GoS rSkel 7 8 3 (some .int) false prog_1_method_17_code 15 [(0, .inr (.inr (some 0))), (1, .inl y1), (2, .inl y2)] [] sg P
set_option maxRecDepth 100000 in
theorem w_98_15 (sg : rSg)  (y1 : Int32) (y2 : Int32) {P : Option rv → rSg → Prop} (h :
    (10 ≤ y2 → 
      P (some (.inl ((-9)))) sg) ∧
    (¬ (10 ≤ y2) → 
      EvS rSkel 4 97 [.inr (.inr (some 0)), .inl y1, .inl y2] sg (fun v11 t12 => v11 = none ∧
        EvS rSkel 7 36 [.inr (.inr (some 230)), .inl 120, .inl 1] t12 (fun v14 t15 => v14 = none ∧
          ((t15 230 10) ≤ 0 → 
            g_98_15 y1 (y2 + 1) t15 P) ∧
          (¬ ((t15 230 10) ≤ 0) → 
            P (some (.inl y2)) t15))))) : g_98_15 y1 y2 sg P := by
  show GoS rSkel 7 8 3 (some .int) false prog_1_method_17_code 15 [(0, .inr (.inr (some 0))), (1, .inl y1), (2, .inl y2)] [] sg P
  refine gs0 16 [(0, .inr (.inr (some 0))), (1, .inl y1), (2, .inl y2)] [.inl y2] dM_98_15 (fun _ => rfl) (Or.inr rfl) ?_
  refine gs0 18 [(0, .inr (.inr (some 0))), (1, .inl y1), (2, .inl y2)] [.inl 10, .inl y2] dM_98_16 (fun _ => rfl) (Or.inr rfl) ?_
  refine gsIf (t := 55) (C := 10 ≤ y2) (r := []) dM_98_18 (fun _ => rfl) (Or.inr rfl) (rTest_iff .ge y2 10) (fun c10 => ?_) (fun c10 => ?_)
  · replace h := h.1 c10
    refine gs0 57 [(0, .inr (.inr (some 0))), (1, .inl y1), (2, .inl y2)] [.inl ((-9))] dM_98_55 (fun _ => rfl) (Or.inr rfl) ?_
    refine gsRet (r := some (.inl ((-9)))) dM_98_57 (fun _ => rfl) (Or.inr rfl) ?_
    exact h
  · replace h := h.2 c10
    refine gs0 22 [(0, .inr (.inr (some 0))), (1, .inl y1), (2, .inl y2)] [.inr (.inr (some 0))] dM_98_21 (fun _ => rfl) (Or.inr rfl) ?_
    refine gs0 23 [(0, .inr (.inr (some 0))), (1, .inl y1), (2, .inl y2)] [.inl y1, .inr (.inr (some 0))] dM_98_22 (fun _ => rfl) (Or.inr rfl) ?_
    refine gs0 24 [(0, .inr (.inr (some 0))), (1, .inl y1), (2, .inl y2)] [.inl y2, .inl y1, .inr (.inr (some 0))] dM_98_23 (fun _ => rfl) (Or.inr rfl) ?_
    refine gsCallV (y := 97) (k := 0) (as := [.inr (.inr (some 0)), .inl y1, .inl y2]) (r := []) dM_98_24 rfl rfl rfl (Nat.le_of_ble_eq_true rfl) sk_0 rfl (Nat.le_of_ble_eq_true rfl) (EvS.up h (Nat.le_of_ble_eq_true rfl)) (fun v11 t12 hv13 => ?_)
    obtain ⟨rfl, hn⟩ := hv13
    clear h
    show GoS _ _ _ _ _ _ _ _ [(0, .inr (.inr (some 0))), (1, .inl y1), (2, .inl y2)] [] t12 _
    refine gs0 28 [(0, .inr (.inr (some 0))), (1, .inl y1), (2, .inl y2)] [.inr (.inr (some 0))] dM_98_27 (fun _ => rfl) (Or.inr rfl) ?_
    refine gsGetR (some 230) dM_98_28 sk_0 rfl rfl ?_
    refine gs0 33 [(0, .inr (.inr (some 0))), (1, .inl y1), (2, .inl y2)] [.inl 120, .inr (.inr (some 230))] dM_98_31 (fun _ => rfl) (Or.inr rfl) ?_
    refine gs0 34 [(0, .inr (.inr (some 0))), (1, .inl y1), (2, .inl y2)] [.inl 1, .inl 120, .inr (.inr (some 230))] dM_98_33 (fun _ => rfl) (Or.inr rfl) ?_
    refine gsCallV (y := 36) (k := 230) (as := [.inr (.inr (some 230)), .inl 120, .inl 1]) (r := []) dM_98_34 rfl rfl rfl (Nat.le_of_ble_eq_true rfl) sk_230 rfl (Nat.le_of_ble_eq_true rfl) (EvS.up hn (Nat.le_of_ble_eq_true rfl)) (fun v14 t15 hv16 => ?_)
    obtain ⟨rfl, hnn⟩ := hv16
    clear hn
    show GoS _ _ _ _ _ _ _ _ [(0, .inr (.inr (some 0))), (1, .inl y1), (2, .inl y2)] [] t15 _
    refine gs0 38 [(0, .inr (.inr (some 0))), (1, .inl y1), (2, .inl y2)] [.inr (.inr (some 0))] dM_98_37 (fun _ => rfl) (Or.inr rfl) ?_
    refine gsGetR (some 230) dM_98_38 sk_0 rfl rfl ?_
    refine gsGetE (t15 230 10) dM_98_41 sk_230 rfl rfl rfl ?_
    refine gsIf (t := 49) (C := (t15 230 10) ≤ 0) (r := []) dM_98_44 (fun _ => rfl) (Or.inr rfl) (rTest_iff .le (t15 230 10) 0) (fun c17 => ?_) (fun c17 => ?_)
    · replace hnn := hnn.1 c17
      refine gs0 52 [(2, .inl (y2 + 1)), (0, .inr (.inr (some 0))), (1, .inl y1)] [] dM_98_49 (fun _ => rfl) (Or.inr rfl) ?_
      refine gs0 15 [(2, .inl (y2 + 1)), (0, .inr (.inr (some 0))), (1, .inl y1)] [] dM_98_52 (fun _ => rfl) (Or.inr rfl) ?_
      exact GoS.sub (Lnd_keys (ks := [0, 1, 2]) rfl (by decide)) (Lsub_cons rfl (Lsub_cons rfl (Lsub_cons rfl Lsub_nil))) hnn
    · replace hnn := hnn.2 c17
      refine gs0 48 [(0, .inr (.inr (some 0))), (1, .inl y1), (2, .inl y2)] [.inl y2] dM_98_47 (fun _ => rfl) (Or.inr rfl) ?_
      refine gsRet (r := some (.inl y2)) dM_98_48 (fun _ => rfl) (Or.inr rfl) ?_
      exact hnn
set_option maxRecDepth 100000 in
/-- GoalsInAQueue.least -/
theorem w_98 (sg : rSg) (x1 : Int32) {P : Option rv → rSg → Prop} (h :
    EvS rSkel 1 82 [.inl x1] sg (fun v1 t2 => ∃ n4, v1 = some (.inl n4) ∧
      (¬ n4 = 0 → 
        g_98_15 x1 0 t2 P) ∧
      (¬ (¬ n4 = 0) → 
        EvS rSkel 1 72 [.inr (.inr (some 0)), .inl ((-1))] t2 (fun v6 t7 => ∃ n9, v6 = some (.inl n9) ∧
          P (some (.inl n9)) t7)))) : EvS rSkel 8 98 [.inr (.inr (some 0)), .inl x1] sg P := by
  refine EvS.of (ini := false) rfl ⟨rfl, Nat.le_of_ble_eq_true rfl⟩ rfl ?_
  show GoS rSkel 7 8 3 (some .int) false prog_1_method_17_code 0 [(0, .inr (.inr (some 0))), (1, .inl x1)] [] sg _
  refine gs0 1 [(0, .inr (.inr (some 0))), (1, .inl x1)] [.inl x1] dM_98_0 (fun _ => rfl) (Or.inr rfl) ?_
  refine gsCallS (y := 82) (as := [.inl x1]) (r := []) dM_98_1 rfl (Or.inl rfl) rfl rfl (Nat.le_of_ble_eq_true rfl) (EvS.up h (Nat.le_of_ble_eq_true rfl)) (fun v1 t2 hv3 => ?_)
  obtain ⟨n4, rfl, hn⟩ := hv3
  clear h
  show GoS _ _ _ _ _ _ _ _ [(0, .inr (.inr (some 0))), (1, .inl x1)] [.inl n4] t2 _
  refine gsIf (t := 13) (C := ¬ n4 = 0) (r := []) dM_98_4 (fun _ => rfl) (Or.inr rfl) (rTest_iff .ne n4 0) (fun c5 => ?_) (fun c5 => ?_)
  · replace hn := hn.1 c5
    refine gs0 14 [(0, .inr (.inr (some 0))), (1, .inl x1)] [.inl 0] dM_98_13 (fun _ => rfl) (Or.inr rfl) ?_
    refine gs0 15 [(2, .inl 0), (0, .inr (.inr (some 0))), (1, .inl x1)] [] dM_98_14 (fun _ => rfl) (Or.inr rfl) ?_
    exact GoS.sub (Lnd_keys (ks := [0, 1, 2]) rfl (by decide)) (Lsub_cons rfl (Lsub_cons rfl (Lsub_cons rfl Lsub_nil))) hn
  · replace hn := hn.2 c5
    refine gs0 8 [(0, .inr (.inr (some 0))), (1, .inl x1)] [.inr (.inr (some 0))] dM_98_7 (fun _ => rfl) (Or.inr rfl) ?_
    refine gs0 9 [(0, .inr (.inr (some 0))), (1, .inl x1)] [.inl ((-1)), .inr (.inr (some 0))] dM_98_8 (fun _ => rfl) (Or.inr rfl) ?_
    refine gsCallV (y := 72) (k := 0) (as := [.inr (.inr (some 0)), .inl ((-1))]) (r := []) dM_98_9 rfl rfl rfl (Nat.le_of_ble_eq_true rfl) sk_0 rfl (Nat.le_of_ble_eq_true rfl) (EvS.up hn (Nat.le_of_ble_eq_true rfl)) (fun v6 t7 hv8 => ?_)
    obtain ⟨n9, rfl, hnn⟩ := hv8
    clear hn
    show GoS _ _ _ _ _ _ _ _ [(0, .inr (.inr (some 0))), (1, .inl x1)] [.inl n9] t7 _
    refine gsRet (r := some (.inl n9)) dM_98_12 (fun _ => rfl) (Or.inr rfl) ?_
    exact hnn
def g_99_16  (y1 : Int32) (sg : rSg) (P : Option rv → rSg → Prop) : Prop := GoS rSkel 7 8 5 (some .int) false prog_1_method_18_code 16 [(0, .inr (.inr (some 0))), (1, .inl y1)] [] sg P
set_option maxRecDepth 100000 in
theorem w_99_16 (sg : rSg)  (y1 : Int32) {P : Option rv → rSg → Prop} (h :
    EvS rSkel 1 29 [.inr (.inr (some 7)), .inl (sg 7 5)] sg (fun v7 t8 => ∃ n10, v7 = some (.inl n10) ∧
      (n10 = 38 → 
        EvS rSkel 2 26 [.inr (.inr (some 231)), .inr (.inr (some 7))] t8 (fun v12 t13 => v12 = none ∧
          EvS rSkel 1 28 [.inr (.inr (some 7)), .inl (t13 7 5), .inl 1] t13 (fun v15 t16 => ∃ n18, v15 = some (.inl n18) ∧
            EvS rSkel 1 22 [.inr (.inr (some 231)), .inl (t13 231 5), .inl 0, .inl n18] t16 (fun v19 t20 => v19 = none ∧
              EvS rSkel 1 28 [.inr (.inr (some 7)), .inl (t20 7 5), .inl 0] t20 (fun v22 t23 => ∃ n25, v22 = some (.inl n25) ∧
                EvS rSkel 1 22 [.inr (.inr (some 231)), .inl (t20 231 5), .inl 1, .inl n25] t23 (fun v26 t27 => v26 = none ∧
                  EvS rSkel 3 33 [.inr (.inr (some 230))] t27 (fun v29 t30 => v29 = none ∧
                    EvS rSkel 7 36 [.inr (.inr (some 230)), .inl 120, .inl 30] t30 (fun v32 t33 => v32 = none ∧
                      (¬ y1 = 0 → 
                        (¬ (t33 230 10) = 0 → 
                          EvS rSkel 1 48 [.inr (.inr (some 230)), .inl 0] t33 (fun v37 t38 => ∃ n40, v37 = some (.inl n40) ∧
                            P (some (.inl n40)) t38)) ∧
                        (¬ (¬ (t33 230 10) = 0) → 
                          P (some (.inl ((-9)))) t33)) ∧
                      (¬ (¬ y1 = 0) → 
                        P (some (.inl (t33 230 10))) t33))))))))) ∧
      (¬ (n10 = 38) → 
        (n10 = 124 → 
          EvS rSkel 2 26 [.inr (.inr (some 231)), .inr (.inr (some 7))] t8 (fun v42 t43 => v42 = none ∧
            EvS rSkel 1 28 [.inr (.inr (some 7)), .inl (t43 7 5), .inl 1] t43 (fun v45 t46 => ∃ n48, v45 = some (.inl n48) ∧
              EvS rSkel 1 22 [.inr (.inr (some 231)), .inl (t43 231 5), .inl 0, .inl n48] t46 (fun v49 t50 => v49 = none ∧
                EvS rSkel 1 28 [.inr (.inr (some 7)), .inl (t50 7 5), .inl 0] t50 (fun v52 t53 => ∃ n55, v52 = some (.inl n55) ∧
                  EvS rSkel 1 22 [.inr (.inr (some 231)), .inl (t50 231 5), .inl 1, .inl n55] t53 (fun v56 t57 => v56 = none ∧
                    EvS rSkel 3 33 [.inr (.inr (some 230))] t57 (fun v59 t60 => v59 = none ∧
                      EvS rSkel 7 36 [.inr (.inr (some 230)), .inl 120, .inl 30] t60 (fun v62 t63 => v62 = none ∧
                        (¬ y1 = 0 → 
                          (¬ (t63 230 10) = 0 → 
                            EvS rSkel 1 48 [.inr (.inr (some 230)), .inl 0] t63 (fun v67 t68 => ∃ n70, v67 = some (.inl n70) ∧
                              P (some (.inl n70)) t68)) ∧
                          (¬ (¬ (t63 230 10) = 0) → 
                            P (some (.inl ((-9)))) t63)) ∧
                        (¬ (¬ y1 = 0) → 
                          P (some (.inl (t63 230 10))) t63))))))))) ∧
        (¬ (n10 = 124) → 
          EvS rSkel 1 72 [.inr (.inr (some 0)), .inl ((-3))] t8 (fun v71 t72 => ∃ n74, v71 = some (.inl n74) ∧
            P (some (.inl n74)) t72))))) : g_99_16 y1 sg P := by
  show GoS rSkel 7 8 5 (some .int) false prog_1_method_18_code 16 [(0, .inr (.inr (some 0))), (1, .inl y1)] [] sg P
  refine gs0 17 [(0, .inr (.inr (some 0))), (1, .inl y1)] [.inr (.inr (some 0))] dM_99_16 (fun _ => rfl) (Or.inr rfl) ?_
  refine gsGetR (some 6) dM_99_17 sk_0 rfl rfl ?_
  refine gsGetR (some 7) dM_99_20 sk_6 rfl rfl ?_
  refine gs0 24 [(2, .inr (.inr (some 7))), (0, .inr (.inr (some 0))), (1, .inl y1)] [] dM_99_23 (fun _ => rfl) (Or.inr rfl) ?_
  refine gs0 25 [(2, .inr (.inr (some 7))), (0, .inr (.inr (some 0))), (1, .inl y1)] [.inr (.inr (some 7))] dM_99_24 (fun _ => rfl) (Or.inr rfl) ?_
  refine gs0 26 [(2, .inr (.inr (some 7))), (0, .inr (.inr (some 0))), (1, .inl y1)] [.inr (.inr (some 7)), .inr (.inr (some 7))] dM_99_25 (fun _ => rfl) (Or.inr rfl) ?_
  refine gsGetE (sg 7 5) dM_99_26 sk_7 rfl rfl rfl ?_
  refine gsCallV (y := 29) (k := 7) (as := [.inr (.inr (some 7)), .inl (sg 7 5)]) (r := []) dM_99_29 rfl rfl rfl (Nat.le_of_ble_eq_true rfl) sk_7 rfl (Nat.le_of_ble_eq_true rfl) (EvS.up h (Nat.le_of_ble_eq_true rfl)) (fun v7 t8 hv9 => ?_)
  obtain ⟨n10, rfl, hn⟩ := hv9
  clear h
  show GoS _ _ _ _ _ _ _ _ [(2, .inr (.inr (some 7))), (0, .inr (.inr (some 0))), (1, .inl y1)] [.inl n10] t8 _
  refine gs0 33 [(3, .inl n10), (2, .inr (.inr (some 7))), (0, .inr (.inr (some 0))), (1, .inl y1)] [] dM_99_32 (fun _ => rfl) (Or.inr rfl) ?_
  refine gs0 34 [(3, .inl n10), (2, .inr (.inr (some 7))), (0, .inr (.inr (some 0))), (1, .inl y1)] [.inl n10] dM_99_33 (fun _ => rfl) (Or.inr rfl) ?_
  refine gs0 36 [(3, .inl n10), (2, .inr (.inr (some 7))), (0, .inr (.inr (some 0))), (1, .inl y1)] [.inl 38, .inl n10] dM_99_34 (fun _ => rfl) (Or.inr rfl) ?_
  refine gsIf (t := 52) (C := n10 = 38) (r := []) dM_99_36 (fun _ => rfl) (Or.inr rfl) (rTest_iff .eq n10 38) (fun c11 => ?_) (fun c11 => ?_)
  · replace hn := hn.1 c11
    refine gs0 53 [(3, .inl n10), (2, .inr (.inr (some 7))), (0, .inr (.inr (some 0))), (1, .inl y1)] [.inr (.inr (some 0))] dM_99_52 (fun _ => rfl) (Or.inr rfl) ?_
    refine gsGetR (some 230) dM_99_53 sk_0 rfl rfl ?_
    refine gsGetR (some 231) dM_99_56 sk_230 rfl rfl ?_
    refine gs0 61 [(4, .inr (.inr (some 231))), (3, .inl n10), (2, .inr (.inr (some 7))), (0, .inr (.inr (some 0))), (1, .inl y1)] [] dM_99_59 (fun _ => rfl) (Or.inr rfl) ?_
    refine gs0 63 [(4, .inr (.inr (some 231))), (3, .inl n10), (2, .inr (.inr (some 7))), (0, .inr (.inr (some 0))), (1, .inl y1)] [.inr (.inr (some 231))] dM_99_61 (fun _ => rfl) (Or.inr rfl) ?_
    refine gs0 64 [(4, .inr (.inr (some 231))), (3, .inl n10), (2, .inr (.inr (some 7))), (0, .inr (.inr (some 0))), (1, .inl y1)] [.inr (.inr (some 7)), .inr (.inr (some 231))] dM_99_63 (fun _ => rfl) (Or.inr rfl) ?_
    refine gsCallV (y := 26) (k := 231) (as := [.inr (.inr (some 231)), .inr (.inr (some 7))]) (r := []) dM_99_64 rfl rfl rfl (Nat.le_of_ble_eq_true rfl) sk_231 rfl (Nat.le_of_ble_eq_true rfl) (EvS.up hn (Nat.le_of_ble_eq_true rfl)) (fun v12 t13 hv14 => ?_)
    obtain ⟨rfl, hnn⟩ := hv14
    clear hn
    show GoS _ _ _ _ _ _ _ _ [(4, .inr (.inr (some 231))), (3, .inl n10), (2, .inr (.inr (some 7))), (0, .inr (.inr (some 0))), (1, .inl y1)] [] t13 _
    refine gs0 69 [(4, .inr (.inr (some 231))), (3, .inl n10), (2, .inr (.inr (some 7))), (0, .inr (.inr (some 0))), (1, .inl y1)] [.inr (.inr (some 231))] dM_99_67 (fun _ => rfl) (Or.inr rfl) ?_
    refine gs0 71 [(4, .inr (.inr (some 231))), (3, .inl n10), (2, .inr (.inr (some 7))), (0, .inr (.inr (some 0))), (1, .inl y1)] [.inr (.inr (some 231)), .inr (.inr (some 231))] dM_99_69 (fun _ => rfl) (Or.inr rfl) ?_
    refine gsGetE (t13 231 5) dM_99_71 sk_231 rfl rfl rfl ?_
    refine gs0 75 [(4, .inr (.inr (some 231))), (3, .inl n10), (2, .inr (.inr (some 7))), (0, .inr (.inr (some 0))), (1, .inl y1)] [.inl 0, .inl (t13 231 5), .inr (.inr (some 231))] dM_99_74 (fun _ => rfl) (Or.inr rfl) ?_
    refine gs0 76 [(4, .inr (.inr (some 231))), (3, .inl n10), (2, .inr (.inr (some 7))), (0, .inr (.inr (some 0))), (1, .inl y1)] [.inr (.inr (some 7)), .inl 0, .inl (t13 231 5), .inr (.inr (some 231))] dM_99_75 (fun _ => rfl) (Or.inr rfl) ?_
    refine gs0 77 [(4, .inr (.inr (some 231))), (3, .inl n10), (2, .inr (.inr (some 7))), (0, .inr (.inr (some 0))), (1, .inl y1)] [.inr (.inr (some 7)), .inr (.inr (some 7)), .inl 0, .inl (t13 231 5), .inr (.inr (some 231))] dM_99_76 (fun _ => rfl) (Or.inr rfl) ?_
    refine gsGetE (t13 7 5) dM_99_77 sk_7 rfl rfl rfl ?_
    refine gs0 81 [(4, .inr (.inr (some 231))), (3, .inl n10), (2, .inr (.inr (some 7))), (0, .inr (.inr (some 0))), (1, .inl y1)] [.inl 1, .inl (t13 7 5), .inr (.inr (some 7)), .inl 0, .inl (t13 231 5), .inr (.inr (some 231))] dM_99_80 (fun _ => rfl) (Or.inr rfl) ?_
    refine gsCallV (y := 28) (k := 7) (as := [.inr (.inr (some 7)), .inl (t13 7 5), .inl 1]) (r := [.inl 0, .inl (t13 231 5), .inr (.inr (some 231))]) dM_99_81 rfl rfl rfl (Nat.le_of_ble_eq_true rfl) sk_7 rfl (Nat.le_of_ble_eq_true rfl) (EvS.up hnn (Nat.le_of_ble_eq_true rfl)) (fun v15 t16 hv17 => ?_)
    obtain ⟨n18, rfl, hnnn⟩ := hv17
    clear hnn
    show GoS _ _ _ _ _ _ _ _ [(4, .inr (.inr (some 231))), (3, .inl n10), (2, .inr (.inr (some 7))), (0, .inr (.inr (some 0))), (1, .inl y1)] [.inl n18, .inl 0, .inl (t13 231 5), .inr (.inr (some 231))] t16 _
    refine gsCallV (y := 22) (k := 231) (as := [.inr (.inr (some 231)), .inl (t13 231 5), .inl 0, .inl n18]) (r := []) dM_99_84 rfl rfl rfl (Nat.le_of_ble_eq_true rfl) sk_231 rfl (Nat.le_of_ble_eq_true rfl) (EvS.up hnnn (Nat.le_of_ble_eq_true rfl)) (fun v19 t20 hv21 => ?_)
    obtain ⟨rfl, hnnnn⟩ := hv21
    clear hnnn
    show GoS _ _ _ _ _ _ _ _ [(4, .inr (.inr (some 231))), (3, .inl n10), (2, .inr (.inr (some 7))), (0, .inr (.inr (some 0))), (1, .inl y1)] [] t20 _
    refine gs0 89 [(4, .inr (.inr (some 231))), (3, .inl n10), (2, .inr (.inr (some 7))), (0, .inr (.inr (some 0))), (1, .inl y1)] [.inr (.inr (some 231))] dM_99_87 (fun _ => rfl) (Or.inr rfl) ?_
    refine gs0 91 [(4, .inr (.inr (some 231))), (3, .inl n10), (2, .inr (.inr (some 7))), (0, .inr (.inr (some 0))), (1, .inl y1)] [.inr (.inr (some 231)), .inr (.inr (some 231))] dM_99_89 (fun _ => rfl) (Or.inr rfl) ?_
    refine gsGetE (t20 231 5) dM_99_91 sk_231 rfl rfl rfl ?_
    refine gs0 95 [(4, .inr (.inr (some 231))), (3, .inl n10), (2, .inr (.inr (some 7))), (0, .inr (.inr (some 0))), (1, .inl y1)] [.inl 1, .inl (t20 231 5), .inr (.inr (some 231))] dM_99_94 (fun _ => rfl) (Or.inr rfl) ?_
    refine gs0 96 [(4, .inr (.inr (some 231))), (3, .inl n10), (2, .inr (.inr (some 7))), (0, .inr (.inr (some 0))), (1, .inl y1)] [.inr (.inr (some 7)), .inl 1, .inl (t20 231 5), .inr (.inr (some 231))] dM_99_95 (fun _ => rfl) (Or.inr rfl) ?_
    refine gs0 97 [(4, .inr (.inr (some 231))), (3, .inl n10), (2, .inr (.inr (some 7))), (0, .inr (.inr (some 0))), (1, .inl y1)] [.inr (.inr (some 7)), .inr (.inr (some 7)), .inl 1, .inl (t20 231 5), .inr (.inr (some 231))] dM_99_96 (fun _ => rfl) (Or.inr rfl) ?_
    refine gsGetE (t20 7 5) dM_99_97 sk_7 rfl rfl rfl ?_
    refine gs0 101 [(4, .inr (.inr (some 231))), (3, .inl n10), (2, .inr (.inr (some 7))), (0, .inr (.inr (some 0))), (1, .inl y1)] [.inl 0, .inl (t20 7 5), .inr (.inr (some 7)), .inl 1, .inl (t20 231 5), .inr (.inr (some 231))] dM_99_100 (fun _ => rfl) (Or.inr rfl) ?_
    refine gsCallV (y := 28) (k := 7) (as := [.inr (.inr (some 7)), .inl (t20 7 5), .inl 0]) (r := [.inl 1, .inl (t20 231 5), .inr (.inr (some 231))]) dM_99_101 rfl rfl rfl (Nat.le_of_ble_eq_true rfl) sk_7 rfl (Nat.le_of_ble_eq_true rfl) (EvS.up hnnnn (Nat.le_of_ble_eq_true rfl)) (fun v22 t23 hv24 => ?_)
    obtain ⟨n25, rfl, hnnnnn⟩ := hv24
    clear hnnnn
    show GoS _ _ _ _ _ _ _ _ [(4, .inr (.inr (some 231))), (3, .inl n10), (2, .inr (.inr (some 7))), (0, .inr (.inr (some 0))), (1, .inl y1)] [.inl n25, .inl 1, .inl (t20 231 5), .inr (.inr (some 231))] t23 _
    refine gsCallV (y := 22) (k := 231) (as := [.inr (.inr (some 231)), .inl (t20 231 5), .inl 1, .inl n25]) (r := []) dM_99_104 rfl rfl rfl (Nat.le_of_ble_eq_true rfl) sk_231 rfl (Nat.le_of_ble_eq_true rfl) (EvS.up hnnnnn (Nat.le_of_ble_eq_true rfl)) (fun v26 t27 hv28 => ?_)
    obtain ⟨rfl, hnnnnnn⟩ := hv28
    clear hnnnnn
    show GoS _ _ _ _ _ _ _ _ [(4, .inr (.inr (some 231))), (3, .inl n10), (2, .inr (.inr (some 7))), (0, .inr (.inr (some 0))), (1, .inl y1)] [] t27 _
    refine gs0 108 [(4, .inr (.inr (some 231))), (3, .inl n10), (2, .inr (.inr (some 7))), (0, .inr (.inr (some 0))), (1, .inl y1)] [.inr (.inr (some 0))] dM_99_107 (fun _ => rfl) (Or.inr rfl) ?_
    refine gsGetR (some 230) dM_99_108 sk_0 rfl rfl ?_
    refine gsCallV (y := 33) (k := 230) (as := [.inr (.inr (some 230))]) (r := []) dM_99_111 rfl rfl rfl (Nat.le_of_ble_eq_true rfl) sk_230 rfl (Nat.le_of_ble_eq_true rfl) (EvS.up hnnnnnn (Nat.le_of_ble_eq_true rfl)) (fun v29 t30 hv31 => ?_)
    obtain ⟨rfl, hnnnnnnn⟩ := hv31
    clear hnnnnnn
    show GoS _ _ _ _ _ _ _ _ [(4, .inr (.inr (some 231))), (3, .inl n10), (2, .inr (.inr (some 7))), (0, .inr (.inr (some 0))), (1, .inl y1)] [] t30 _
    refine gs0 115 [(4, .inr (.inr (some 231))), (3, .inl n10), (2, .inr (.inr (some 7))), (0, .inr (.inr (some 0))), (1, .inl y1)] [.inr (.inr (some 0))] dM_99_114 (fun _ => rfl) (Or.inr rfl) ?_
    refine gsGetR (some 230) dM_99_115 sk_0 rfl rfl ?_
    refine gs0 120 [(4, .inr (.inr (some 231))), (3, .inl n10), (2, .inr (.inr (some 7))), (0, .inr (.inr (some 0))), (1, .inl y1)] [.inl 120, .inr (.inr (some 230))] dM_99_118 (fun _ => rfl) (Or.inr rfl) ?_
    refine gs0 122 [(4, .inr (.inr (some 231))), (3, .inl n10), (2, .inr (.inr (some 7))), (0, .inr (.inr (some 0))), (1, .inl y1)] [.inl 30, .inl 120, .inr (.inr (some 230))] dM_99_120 (fun _ => rfl) (Or.inr rfl) ?_
    refine gsCallV (y := 36) (k := 230) (as := [.inr (.inr (some 230)), .inl 120, .inl 30]) (r := []) dM_99_122 rfl rfl rfl (Nat.le_of_ble_eq_true rfl) sk_230 rfl (Nat.le_of_ble_eq_true rfl) (EvS.up hnnnnnnn (Nat.le_of_ble_eq_true rfl)) (fun v32 t33 hv34 => ?_)
    obtain ⟨rfl, hnnnnnnnn⟩ := hv34
    clear hnnnnnnn
    show GoS _ _ _ _ _ _ _ _ [(4, .inr (.inr (some 231))), (3, .inl n10), (2, .inr (.inr (some 7))), (0, .inr (.inr (some 0))), (1, .inl y1)] [] t33 _
    refine gs0 126 [(4, .inr (.inr (some 231))), (3, .inl n10), (2, .inr (.inr (some 7))), (0, .inr (.inr (some 0))), (1, .inl y1)] [.inl y1] dM_99_125 (fun _ => rfl) (Or.inr rfl) ?_
    refine gsIf (t := 137) (C := ¬ y1 = 0) (r := []) dM_99_126 (fun _ => rfl) (Or.inr rfl) (rTest_iff .ne y1 0) (fun c35 => ?_) (fun c35 => ?_)
    · replace hnnnnnnnn := hnnnnnnnn.1 c35
      refine gs0 138 [(4, .inr (.inr (some 231))), (3, .inl n10), (2, .inr (.inr (some 7))), (0, .inr (.inr (some 0))), (1, .inl y1)] [.inr (.inr (some 0))] dM_99_137 (fun _ => rfl) (Or.inr rfl) ?_
      refine gsGetR (some 230) dM_99_138 sk_0 rfl rfl ?_
      refine gsGetE (t33 230 10) dM_99_141 sk_230 rfl rfl rfl ?_
      refine gsIf (t := 152) (C := ¬ (t33 230 10) = 0) (r := []) dM_99_144 (fun _ => rfl) (Or.inr rfl) (rTest_iff .ne (t33 230 10) 0) (fun c36 => ?_) (fun c36 => ?_)
      · replace hnnnnnnnn := hnnnnnnnn.1 c36
        refine gs0 153 [(4, .inr (.inr (some 231))), (3, .inl n10), (2, .inr (.inr (some 7))), (0, .inr (.inr (some 0))), (1, .inl y1)] [.inr (.inr (some 0))] dM_99_152 (fun _ => rfl) (Or.inr rfl) ?_
        refine gsGetR (some 230) dM_99_153 sk_0 rfl rfl ?_
        refine gs0 157 [(4, .inr (.inr (some 231))), (3, .inl n10), (2, .inr (.inr (some 7))), (0, .inr (.inr (some 0))), (1, .inl y1)] [.inl 0, .inr (.inr (some 230))] dM_99_156 (fun _ => rfl) (Or.inr rfl) ?_
        refine gsCallV (y := 48) (k := 230) (as := [.inr (.inr (some 230)), .inl 0]) (r := []) dM_99_157 rfl rfl rfl (Nat.le_of_ble_eq_true rfl) sk_230 rfl (Nat.le_of_ble_eq_true rfl) (EvS.up hnnnnnnnn (Nat.le_of_ble_eq_true rfl)) (fun v37 t38 hv39 => ?_)
        obtain ⟨n40, rfl, hnnnnnnnnn⟩ := hv39
        clear hnnnnnnnn
        show GoS _ _ _ _ _ _ _ _ [(4, .inr (.inr (some 231))), (3, .inl n10), (2, .inr (.inr (some 7))), (0, .inr (.inr (some 0))), (1, .inl y1)] [.inl n40] t38 _
        refine gsRet (r := some (.inl n40)) dM_99_160 (fun _ => rfl) (Or.inr rfl) ?_
        exact hnnnnnnnnn
      · replace hnnnnnnnn := hnnnnnnnn.2 c36
        refine gs0 149 [(4, .inr (.inr (some 231))), (3, .inl n10), (2, .inr (.inr (some 7))), (0, .inr (.inr (some 0))), (1, .inl y1)] [.inl ((-9))] dM_99_147 (fun _ => rfl) (Or.inr rfl) ?_
        refine gs0 160 [(4, .inr (.inr (some 231))), (3, .inl n10), (2, .inr (.inr (some 7))), (0, .inr (.inr (some 0))), (1, .inl y1)] [.inl ((-9))] dM_99_149 (fun _ => rfl) (Or.inr rfl) ?_
        refine gsRet (r := some (.inl ((-9)))) dM_99_160 (fun _ => rfl) (Or.inr rfl) ?_
        exact hnnnnnnnn
    · replace hnnnnnnnn := hnnnnnnnn.2 c35
      refine gs0 130 [(4, .inr (.inr (some 231))), (3, .inl n10), (2, .inr (.inr (some 7))), (0, .inr (.inr (some 0))), (1, .inl y1)] [.inr (.inr (some 0))] dM_99_129 (fun _ => rfl) (Or.inr rfl) ?_
      refine gsGetR (some 230) dM_99_130 sk_0 rfl rfl ?_
      refine gsGetE (t33 230 10) dM_99_133 sk_230 rfl rfl rfl ?_
      refine gsRet (r := some (.inl (t33 230 10))) dM_99_136 (fun _ => rfl) (Or.inr rfl) ?_
      exact hnnnnnnnn
  · replace hn := hn.2 c11
    refine gs0 40 [(3, .inl n10), (2, .inr (.inr (some 7))), (0, .inr (.inr (some 0))), (1, .inl y1)] [.inl n10] dM_99_39 (fun _ => rfl) (Or.inr rfl) ?_
    refine gs0 42 [(3, .inl n10), (2, .inr (.inr (some 7))), (0, .inr (.inr (some 0))), (1, .inl y1)] [.inl 124, .inl n10] dM_99_40 (fun _ => rfl) (Or.inr rfl) ?_
    refine gsIf (t := 52) (C := n10 = 124) (r := []) dM_99_42 (fun _ => rfl) (Or.inr rfl) (rTest_iff .eq n10 124) (fun c41 => ?_) (fun c41 => ?_)
    · replace hn := hn.1 c41
      refine gs0 53 [(3, .inl n10), (2, .inr (.inr (some 7))), (0, .inr (.inr (some 0))), (1, .inl y1)] [.inr (.inr (some 0))] dM_99_52 (fun _ => rfl) (Or.inr rfl) ?_
      refine gsGetR (some 230) dM_99_53 sk_0 rfl rfl ?_
      refine gsGetR (some 231) dM_99_56 sk_230 rfl rfl ?_
      refine gs0 61 [(4, .inr (.inr (some 231))), (3, .inl n10), (2, .inr (.inr (some 7))), (0, .inr (.inr (some 0))), (1, .inl y1)] [] dM_99_59 (fun _ => rfl) (Or.inr rfl) ?_
      refine gs0 63 [(4, .inr (.inr (some 231))), (3, .inl n10), (2, .inr (.inr (some 7))), (0, .inr (.inr (some 0))), (1, .inl y1)] [.inr (.inr (some 231))] dM_99_61 (fun _ => rfl) (Or.inr rfl) ?_
      refine gs0 64 [(4, .inr (.inr (some 231))), (3, .inl n10), (2, .inr (.inr (some 7))), (0, .inr (.inr (some 0))), (1, .inl y1)] [.inr (.inr (some 7)), .inr (.inr (some 231))] dM_99_63 (fun _ => rfl) (Or.inr rfl) ?_
      refine gsCallV (y := 26) (k := 231) (as := [.inr (.inr (some 231)), .inr (.inr (some 7))]) (r := []) dM_99_64 rfl rfl rfl (Nat.le_of_ble_eq_true rfl) sk_231 rfl (Nat.le_of_ble_eq_true rfl) (EvS.up hn (Nat.le_of_ble_eq_true rfl)) (fun v42 t43 hv44 => ?_)
      obtain ⟨rfl, hnn⟩ := hv44
      clear hn
      show GoS _ _ _ _ _ _ _ _ [(4, .inr (.inr (some 231))), (3, .inl n10), (2, .inr (.inr (some 7))), (0, .inr (.inr (some 0))), (1, .inl y1)] [] t43 _
      refine gs0 69 [(4, .inr (.inr (some 231))), (3, .inl n10), (2, .inr (.inr (some 7))), (0, .inr (.inr (some 0))), (1, .inl y1)] [.inr (.inr (some 231))] dM_99_67 (fun _ => rfl) (Or.inr rfl) ?_
      refine gs0 71 [(4, .inr (.inr (some 231))), (3, .inl n10), (2, .inr (.inr (some 7))), (0, .inr (.inr (some 0))), (1, .inl y1)] [.inr (.inr (some 231)), .inr (.inr (some 231))] dM_99_69 (fun _ => rfl) (Or.inr rfl) ?_
      refine gsGetE (t43 231 5) dM_99_71 sk_231 rfl rfl rfl ?_
      refine gs0 75 [(4, .inr (.inr (some 231))), (3, .inl n10), (2, .inr (.inr (some 7))), (0, .inr (.inr (some 0))), (1, .inl y1)] [.inl 0, .inl (t43 231 5), .inr (.inr (some 231))] dM_99_74 (fun _ => rfl) (Or.inr rfl) ?_
      refine gs0 76 [(4, .inr (.inr (some 231))), (3, .inl n10), (2, .inr (.inr (some 7))), (0, .inr (.inr (some 0))), (1, .inl y1)] [.inr (.inr (some 7)), .inl 0, .inl (t43 231 5), .inr (.inr (some 231))] dM_99_75 (fun _ => rfl) (Or.inr rfl) ?_
      refine gs0 77 [(4, .inr (.inr (some 231))), (3, .inl n10), (2, .inr (.inr (some 7))), (0, .inr (.inr (some 0))), (1, .inl y1)] [.inr (.inr (some 7)), .inr (.inr (some 7)), .inl 0, .inl (t43 231 5), .inr (.inr (some 231))] dM_99_76 (fun _ => rfl) (Or.inr rfl) ?_
      refine gsGetE (t43 7 5) dM_99_77 sk_7 rfl rfl rfl ?_
      refine gs0 81 [(4, .inr (.inr (some 231))), (3, .inl n10), (2, .inr (.inr (some 7))), (0, .inr (.inr (some 0))), (1, .inl y1)] [.inl 1, .inl (t43 7 5), .inr (.inr (some 7)), .inl 0, .inl (t43 231 5), .inr (.inr (some 231))] dM_99_80 (fun _ => rfl) (Or.inr rfl) ?_
      refine gsCallV (y := 28) (k := 7) (as := [.inr (.inr (some 7)), .inl (t43 7 5), .inl 1]) (r := [.inl 0, .inl (t43 231 5), .inr (.inr (some 231))]) dM_99_81 rfl rfl rfl (Nat.le_of_ble_eq_true rfl) sk_7 rfl (Nat.le_of_ble_eq_true rfl) (EvS.up hnn (Nat.le_of_ble_eq_true rfl)) (fun v45 t46 hv47 => ?_)
      obtain ⟨n48, rfl, hnnn⟩ := hv47
      clear hnn
      show GoS _ _ _ _ _ _ _ _ [(4, .inr (.inr (some 231))), (3, .inl n10), (2, .inr (.inr (some 7))), (0, .inr (.inr (some 0))), (1, .inl y1)] [.inl n48, .inl 0, .inl (t43 231 5), .inr (.inr (some 231))] t46 _
      refine gsCallV (y := 22) (k := 231) (as := [.inr (.inr (some 231)), .inl (t43 231 5), .inl 0, .inl n48]) (r := []) dM_99_84 rfl rfl rfl (Nat.le_of_ble_eq_true rfl) sk_231 rfl (Nat.le_of_ble_eq_true rfl) (EvS.up hnnn (Nat.le_of_ble_eq_true rfl)) (fun v49 t50 hv51 => ?_)
      obtain ⟨rfl, hnnnn⟩ := hv51
      clear hnnn
      show GoS _ _ _ _ _ _ _ _ [(4, .inr (.inr (some 231))), (3, .inl n10), (2, .inr (.inr (some 7))), (0, .inr (.inr (some 0))), (1, .inl y1)] [] t50 _
      refine gs0 89 [(4, .inr (.inr (some 231))), (3, .inl n10), (2, .inr (.inr (some 7))), (0, .inr (.inr (some 0))), (1, .inl y1)] [.inr (.inr (some 231))] dM_99_87 (fun _ => rfl) (Or.inr rfl) ?_
      refine gs0 91 [(4, .inr (.inr (some 231))), (3, .inl n10), (2, .inr (.inr (some 7))), (0, .inr (.inr (some 0))), (1, .inl y1)] [.inr (.inr (some 231)), .inr (.inr (some 231))] dM_99_89 (fun _ => rfl) (Or.inr rfl) ?_
      refine gsGetE (t50 231 5) dM_99_91 sk_231 rfl rfl rfl ?_
      refine gs0 95 [(4, .inr (.inr (some 231))), (3, .inl n10), (2, .inr (.inr (some 7))), (0, .inr (.inr (some 0))), (1, .inl y1)] [.inl 1, .inl (t50 231 5), .inr (.inr (some 231))] dM_99_94 (fun _ => rfl) (Or.inr rfl) ?_
      refine gs0 96 [(4, .inr (.inr (some 231))), (3, .inl n10), (2, .inr (.inr (some 7))), (0, .inr (.inr (some 0))), (1, .inl y1)] [.inr (.inr (some 7)), .inl 1, .inl (t50 231 5), .inr (.inr (some 231))] dM_99_95 (fun _ => rfl) (Or.inr rfl) ?_
      refine gs0 97 [(4, .inr (.inr (some 231))), (3, .inl n10), (2, .inr (.inr (some 7))), (0, .inr (.inr (some 0))), (1, .inl y1)] [.inr (.inr (some 7)), .inr (.inr (some 7)), .inl 1, .inl (t50 231 5), .inr (.inr (some 231))] dM_99_96 (fun _ => rfl) (Or.inr rfl) ?_
      refine gsGetE (t50 7 5) dM_99_97 sk_7 rfl rfl rfl ?_
      refine gs0 101 [(4, .inr (.inr (some 231))), (3, .inl n10), (2, .inr (.inr (some 7))), (0, .inr (.inr (some 0))), (1, .inl y1)] [.inl 0, .inl (t50 7 5), .inr (.inr (some 7)), .inl 1, .inl (t50 231 5), .inr (.inr (some 231))] dM_99_100 (fun _ => rfl) (Or.inr rfl) ?_
      refine gsCallV (y := 28) (k := 7) (as := [.inr (.inr (some 7)), .inl (t50 7 5), .inl 0]) (r := [.inl 1, .inl (t50 231 5), .inr (.inr (some 231))]) dM_99_101 rfl rfl rfl (Nat.le_of_ble_eq_true rfl) sk_7 rfl (Nat.le_of_ble_eq_true rfl) (EvS.up hnnnn (Nat.le_of_ble_eq_true rfl)) (fun v52 t53 hv54 => ?_)
      obtain ⟨n55, rfl, hnnnnn⟩ := hv54
      clear hnnnn
      show GoS _ _ _ _ _ _ _ _ [(4, .inr (.inr (some 231))), (3, .inl n10), (2, .inr (.inr (some 7))), (0, .inr (.inr (some 0))), (1, .inl y1)] [.inl n55, .inl 1, .inl (t50 231 5), .inr (.inr (some 231))] t53 _
      refine gsCallV (y := 22) (k := 231) (as := [.inr (.inr (some 231)), .inl (t50 231 5), .inl 1, .inl n55]) (r := []) dM_99_104 rfl rfl rfl (Nat.le_of_ble_eq_true rfl) sk_231 rfl (Nat.le_of_ble_eq_true rfl) (EvS.up hnnnnn (Nat.le_of_ble_eq_true rfl)) (fun v56 t57 hv58 => ?_)
      obtain ⟨rfl, hnnnnnn⟩ := hv58
      clear hnnnnn
      show GoS _ _ _ _ _ _ _ _ [(4, .inr (.inr (some 231))), (3, .inl n10), (2, .inr (.inr (some 7))), (0, .inr (.inr (some 0))), (1, .inl y1)] [] t57 _
      refine gs0 108 [(4, .inr (.inr (some 231))), (3, .inl n10), (2, .inr (.inr (some 7))), (0, .inr (.inr (some 0))), (1, .inl y1)] [.inr (.inr (some 0))] dM_99_107 (fun _ => rfl) (Or.inr rfl) ?_
      refine gsGetR (some 230) dM_99_108 sk_0 rfl rfl ?_
      refine gsCallV (y := 33) (k := 230) (as := [.inr (.inr (some 230))]) (r := []) dM_99_111 rfl rfl rfl (Nat.le_of_ble_eq_true rfl) sk_230 rfl (Nat.le_of_ble_eq_true rfl) (EvS.up hnnnnnn (Nat.le_of_ble_eq_true rfl)) (fun v59 t60 hv61 => ?_)
      obtain ⟨rfl, hnnnnnnn⟩ := hv61
      clear hnnnnnn
      show GoS _ _ _ _ _ _ _ _ [(4, .inr (.inr (some 231))), (3, .inl n10), (2, .inr (.inr (some 7))), (0, .inr (.inr (some 0))), (1, .inl y1)] [] t60 _
      refine gs0 115 [(4, .inr (.inr (some 231))), (3, .inl n10), (2, .inr (.inr (some 7))), (0, .inr (.inr (some 0))), (1, .inl y1)] [.inr (.inr (some 0))] dM_99_114 (fun _ => rfl) (Or.inr rfl) ?_
      refine gsGetR (some 230) dM_99_115 sk_0 rfl rfl ?_
      refine gs0 120 [(4, .inr (.inr (some 231))), (3, .inl n10), (2, .inr (.inr (some 7))), (0, .inr (.inr (some 0))), (1, .inl y1)] [.inl 120, .inr (.inr (some 230))] dM_99_118 (fun _ => rfl) (Or.inr rfl) ?_
      refine gs0 122 [(4, .inr (.inr (some 231))), (3, .inl n10), (2, .inr (.inr (some 7))), (0, .inr (.inr (some 0))), (1, .inl y1)] [.inl 30, .inl 120, .inr (.inr (some 230))] dM_99_120 (fun _ => rfl) (Or.inr rfl) ?_
      refine gsCallV (y := 36) (k := 230) (as := [.inr (.inr (some 230)), .inl 120, .inl 30]) (r := []) dM_99_122 rfl rfl rfl (Nat.le_of_ble_eq_true rfl) sk_230 rfl (Nat.le_of_ble_eq_true rfl) (EvS.up hnnnnnnn (Nat.le_of_ble_eq_true rfl)) (fun v62 t63 hv64 => ?_)
      obtain ⟨rfl, hnnnnnnnn⟩ := hv64
      clear hnnnnnnn
      show GoS _ _ _ _ _ _ _ _ [(4, .inr (.inr (some 231))), (3, .inl n10), (2, .inr (.inr (some 7))), (0, .inr (.inr (some 0))), (1, .inl y1)] [] t63 _
      refine gs0 126 [(4, .inr (.inr (some 231))), (3, .inl n10), (2, .inr (.inr (some 7))), (0, .inr (.inr (some 0))), (1, .inl y1)] [.inl y1] dM_99_125 (fun _ => rfl) (Or.inr rfl) ?_
      refine gsIf (t := 137) (C := ¬ y1 = 0) (r := []) dM_99_126 (fun _ => rfl) (Or.inr rfl) (rTest_iff .ne y1 0) (fun c65 => ?_) (fun c65 => ?_)
      · replace hnnnnnnnn := hnnnnnnnn.1 c65
        refine gs0 138 [(4, .inr (.inr (some 231))), (3, .inl n10), (2, .inr (.inr (some 7))), (0, .inr (.inr (some 0))), (1, .inl y1)] [.inr (.inr (some 0))] dM_99_137 (fun _ => rfl) (Or.inr rfl) ?_
        refine gsGetR (some 230) dM_99_138 sk_0 rfl rfl ?_
        refine gsGetE (t63 230 10) dM_99_141 sk_230 rfl rfl rfl ?_
        refine gsIf (t := 152) (C := ¬ (t63 230 10) = 0) (r := []) dM_99_144 (fun _ => rfl) (Or.inr rfl) (rTest_iff .ne (t63 230 10) 0) (fun c66 => ?_) (fun c66 => ?_)
        · replace hnnnnnnnn := hnnnnnnnn.1 c66
          refine gs0 153 [(4, .inr (.inr (some 231))), (3, .inl n10), (2, .inr (.inr (some 7))), (0, .inr (.inr (some 0))), (1, .inl y1)] [.inr (.inr (some 0))] dM_99_152 (fun _ => rfl) (Or.inr rfl) ?_
          refine gsGetR (some 230) dM_99_153 sk_0 rfl rfl ?_
          refine gs0 157 [(4, .inr (.inr (some 231))), (3, .inl n10), (2, .inr (.inr (some 7))), (0, .inr (.inr (some 0))), (1, .inl y1)] [.inl 0, .inr (.inr (some 230))] dM_99_156 (fun _ => rfl) (Or.inr rfl) ?_
          refine gsCallV (y := 48) (k := 230) (as := [.inr (.inr (some 230)), .inl 0]) (r := []) dM_99_157 rfl rfl rfl (Nat.le_of_ble_eq_true rfl) sk_230 rfl (Nat.le_of_ble_eq_true rfl) (EvS.up hnnnnnnnn (Nat.le_of_ble_eq_true rfl)) (fun v67 t68 hv69 => ?_)
          obtain ⟨n70, rfl, hnnnnnnnnn⟩ := hv69
          clear hnnnnnnnn
          show GoS _ _ _ _ _ _ _ _ [(4, .inr (.inr (some 231))), (3, .inl n10), (2, .inr (.inr (some 7))), (0, .inr (.inr (some 0))), (1, .inl y1)] [.inl n70] t68 _
          refine gsRet (r := some (.inl n70)) dM_99_160 (fun _ => rfl) (Or.inr rfl) ?_
          exact hnnnnnnnnn
        · replace hnnnnnnnn := hnnnnnnnn.2 c66
          refine gs0 149 [(4, .inr (.inr (some 231))), (3, .inl n10), (2, .inr (.inr (some 7))), (0, .inr (.inr (some 0))), (1, .inl y1)] [.inl ((-9))] dM_99_147 (fun _ => rfl) (Or.inr rfl) ?_
          refine gs0 160 [(4, .inr (.inr (some 231))), (3, .inl n10), (2, .inr (.inr (some 7))), (0, .inr (.inr (some 0))), (1, .inl y1)] [.inl ((-9))] dM_99_149 (fun _ => rfl) (Or.inr rfl) ?_
          refine gsRet (r := some (.inl ((-9)))) dM_99_160 (fun _ => rfl) (Or.inr rfl) ?_
          exact hnnnnnnnn
      · replace hnnnnnnnn := hnnnnnnnn.2 c65
        refine gs0 130 [(4, .inr (.inr (some 231))), (3, .inl n10), (2, .inr (.inr (some 7))), (0, .inr (.inr (some 0))), (1, .inl y1)] [.inr (.inr (some 0))] dM_99_129 (fun _ => rfl) (Or.inr rfl) ?_
        refine gsGetR (some 230) dM_99_130 sk_0 rfl rfl ?_
        refine gsGetE (t63 230 10) dM_99_133 sk_230 rfl rfl rfl ?_
        refine gsRet (r := some (.inl (t63 230 10))) dM_99_136 (fun _ => rfl) (Or.inr rfl) ?_
        exact hnnnnnnnn
    · replace hn := hn.2 c41
      refine gs0 46 [(3, .inl n10), (2, .inr (.inr (some 7))), (0, .inr (.inr (some 0))), (1, .inl y1)] [.inr (.inr (some 0))] dM_99_45 (fun _ => rfl) (Or.inr rfl) ?_
      refine gs0 48 [(3, .inl n10), (2, .inr (.inr (some 7))), (0, .inr (.inr (some 0))), (1, .inl y1)] [.inl ((-3)), .inr (.inr (some 0))] dM_99_46 (fun _ => rfl) (Or.inr rfl) ?_
      refine gsCallV (y := 72) (k := 0) (as := [.inr (.inr (some 0)), .inl ((-3))]) (r := []) dM_99_48 rfl rfl rfl (Nat.le_of_ble_eq_true rfl) sk_0 rfl (Nat.le_of_ble_eq_true rfl) (EvS.up hn (Nat.le_of_ble_eq_true rfl)) (fun v71 t72 hv73 => ?_)
      obtain ⟨n74, rfl, hnn⟩ := hv73
      clear hn
      show GoS _ _ _ _ _ _ _ _ [(3, .inl n10), (2, .inr (.inr (some 7))), (0, .inr (.inr (some 0))), (1, .inl y1)] [.inl n74] t72 _
      refine gsRet (r := some (.inl n74)) dM_99_51 (fun _ => rfl) (Or.inr rfl) ?_
      exact hnn
set_option maxRecDepth 100000 in
/-- GoalsInAQueue.turned -/
theorem w_99 (sg : rSg) (x1 : Int32) {P : Option rv → rSg → Prop} (h :
    (x1 = 0 → 
      g_99_16 x1 sg P) ∧
    (¬ (x1 = 0) → 
      (x1 = 1 → 
        g_99_16 x1 sg P) ∧
      (¬ (x1 = 1) → 
        EvS rSkel 1 72 [.inr (.inr (some 0)), .inl ((-2))] sg (fun v3 t4 => ∃ n6, v3 = some (.inl n6) ∧
          P (some (.inl n6)) t4)))) : EvS rSkel 8 99 [.inr (.inr (some 0)), .inl x1] sg P := by
  refine EvS.of (ini := false) rfl ⟨rfl, Nat.le_of_ble_eq_true rfl⟩ rfl ?_
  show GoS rSkel 7 8 5 (some .int) false prog_1_method_18_code 0 [(0, .inr (.inr (some 0))), (1, .inl x1)] [] sg _
  refine gs0 1 [(0, .inr (.inr (some 0))), (1, .inl x1)] [.inl x1] dM_99_0 (fun _ => rfl) (Or.inr rfl) ?_
  refine gsIf (t := 16) (C := x1 = 0) (r := []) dM_99_1 (fun _ => rfl) (Or.inr rfl) (rTest_iff .eq x1 0) (fun c1 => ?_) (fun c1 => ?_)
  · replace h := h.1 c1
    exact GoS.sub (Lnd_keys (ks := [0, 1]) rfl (by decide)) (Lsub_cons rfl (Lsub_cons rfl Lsub_nil)) h
  · replace h := h.2 c1
    refine gs0 5 [(0, .inr (.inr (some 0))), (1, .inl x1)] [.inl x1] dM_99_4 (fun _ => rfl) (Or.inr rfl) ?_
    refine gs0 6 [(0, .inr (.inr (some 0))), (1, .inl x1)] [.inl 1, .inl x1] dM_99_5 (fun _ => rfl) (Or.inr rfl) ?_
    refine gsIf (t := 16) (C := x1 = 1) (r := []) dM_99_6 (fun _ => rfl) (Or.inr rfl) (rTest_iff .eq x1 1) (fun c2 => ?_) (fun c2 => ?_)
    · replace h := h.1 c2
      exact GoS.sub (Lnd_keys (ks := [0, 1]) rfl (by decide)) (Lsub_cons rfl (Lsub_cons rfl Lsub_nil)) h
    · replace h := h.2 c2
      refine gs0 10 [(0, .inr (.inr (some 0))), (1, .inl x1)] [.inr (.inr (some 0))] dM_99_9 (fun _ => rfl) (Or.inr rfl) ?_
      refine gs0 12 [(0, .inr (.inr (some 0))), (1, .inl x1)] [.inl ((-2)), .inr (.inr (some 0))] dM_99_10 (fun _ => rfl) (Or.inr rfl) ?_
      refine gsCallV (y := 72) (k := 0) (as := [.inr (.inr (some 0)), .inl ((-2))]) (r := []) dM_99_12 rfl rfl rfl (Nat.le_of_ble_eq_true rfl) sk_0 rfl (Nat.le_of_ble_eq_true rfl) (EvS.up h (Nat.le_of_ble_eq_true rfl)) (fun v3 t4 hv5 => ?_)
      obtain ⟨n6, rfl, hn⟩ := hv5
      clear h
      show GoS _ _ _ _ _ _ _ _ [(0, .inr (.inr (some 0))), (1, .inl x1)] [.inl n6] t4 _
      refine gsRet (r := some (.inl n6)) dM_99_15 (fun _ => rfl) (Or.inr rfl) ?_
      exact hn
def g_100_21  (y1 : Int32) (sg : rSg) (P : Option rv → rSg → Prop) : Prop := GoS rSkel 1 8 4 (some .long) false prog_1_method_19_code 21 [(0, .inr (.inr (some 0))), (1, .inl y1)] [] sg P
set_option maxRecDepth 100000 in
theorem w_100_21 (sg : rSg)  (y1 : Int32) {P : Option rv → rSg → Prop} (h :
    (¬ (sg 6 10) = 0 → 
      EvS rSkel 1 101 [.inl (sg 6 10), .inl (sg 6 9)] sg (fun v8 t9 => ∃ n11, v8 = some (.inl n11) ∧
        (¬ y1 = 0 → 
          (1 ≤ n11 → 
            (¬ n11 = 0 ∧
            P (some (.inr (.inl (((t9 6 9) / n11).toInt64)))) t9)) ∧
          (¬ (1 ≤ n11) → 
            P (some (.inr (.inl ((t9 6 9).toInt64)))) t9)) ∧
        (¬ (¬ y1 = 0) → 
          (1 ≤ n11 → 
            (¬ n11 = 0 ∧
            P (some (.inr (.inl (((t9 6 10) / n11).toInt64)))) t9)) ∧
          (¬ (1 ≤ n11) → 
            P (some (.inr (.inl ((t9 6 10).toInt64)))) t9)))) ∧
    (¬ (¬ (sg 6 10) = 0) → 
      P (some (.inr (.inl y1.toInt64))) sg)) : g_100_21 y1 sg P := by
  show GoS rSkel 1 8 4 (some .long) false prog_1_method_19_code 21 [(0, .inr (.inr (some 0))), (1, .inl y1)] [] sg P
  refine gs0 22 [(0, .inr (.inr (some 0))), (1, .inl y1)] [.inr (.inr (some 0))] dM_100_21 (fun _ => rfl) (Or.inr rfl) ?_
  refine gsGetR (some 6) dM_100_22 sk_0 rfl rfl ?_
  refine gsGetE (sg 6 10) dM_100_25 sk_6 rfl rfl rfl ?_
  refine gsIf (t := 34) (C := ¬ (sg 6 10) = 0) (r := []) dM_100_28 (fun _ => rfl) (Or.inr rfl) (rTest_iff .ne (sg 6 10) 0) (fun c7 => ?_) (fun c7 => ?_)
  · replace h := h.1 c7
    refine gs0 35 [(0, .inr (.inr (some 0))), (1, .inl y1)] [.inr (.inr (some 0))] dM_100_34 (fun _ => rfl) (Or.inr rfl) ?_
    refine gsGetR (some 6) dM_100_35 sk_0 rfl rfl ?_
    refine gsGetE (sg 6 10) dM_100_38 sk_6 rfl rfl rfl ?_
    refine gs0 42 [(0, .inr (.inr (some 0))), (1, .inl y1)] [.inr (.inr (some 0)), .inl (sg 6 10)] dM_100_41 (fun _ => rfl) (Or.inr rfl) ?_
    refine gsGetR (some 6) dM_100_42 sk_0 rfl rfl ?_
    refine gsGetE (sg 6 9) dM_100_45 sk_6 rfl rfl rfl ?_
    refine gsCallS (y := 101) (as := [.inl (sg 6 10), .inl (sg 6 9)]) (r := []) dM_100_48 rfl (Or.inl rfl) rfl rfl (Nat.le_of_ble_eq_true rfl) (EvS.up h (Nat.le_of_ble_eq_true rfl)) (fun v8 t9 hv10 => ?_)
    obtain ⟨n11, rfl, hn⟩ := hv10
    clear h
    show GoS _ _ _ _ _ _ _ _ [(0, .inr (.inr (some 0))), (1, .inl y1)] [.inl n11] t9 _
    refine gs0 52 [(2, .inl n11), (0, .inr (.inr (some 0))), (1, .inl y1)] [] dM_100_51 (fun _ => rfl) (Or.inr rfl) ?_
    refine gs0 53 [(2, .inl n11), (0, .inr (.inr (some 0))), (1, .inl y1)] [.inl y1] dM_100_52 (fun _ => rfl) (Or.inr rfl) ?_
    refine gsIf (t := 66) (C := ¬ y1 = 0) (r := []) dM_100_53 (fun _ => rfl) (Or.inr rfl) (rTest_iff .ne y1 0) (fun c12 => ?_) (fun c12 => ?_)
    · replace hn := hn.1 c12
      refine gs0 67 [(2, .inl n11), (0, .inr (.inr (some 0))), (1, .inl y1)] [.inr (.inr (some 0))] dM_100_66 (fun _ => rfl) (Or.inr rfl) ?_
      refine gsGetR (some 6) dM_100_67 sk_0 rfl rfl ?_
      refine gsGetE (t9 6 9) dM_100_70 sk_6 rfl rfl rfl ?_
      refine gs0 74 [(3, .inl (t9 6 9)), (2, .inl n11), (0, .inr (.inr (some 0))), (1, .inl y1)] [] dM_100_73 (fun _ => rfl) (Or.inr rfl) ?_
      refine gs0 75 [(3, .inl (t9 6 9)), (2, .inl n11), (0, .inr (.inr (some 0))), (1, .inl y1)] [.inl n11] dM_100_74 (fun _ => rfl) (Or.inr rfl) ?_
      refine gs0 76 [(3, .inl (t9 6 9)), (2, .inl n11), (0, .inr (.inr (some 0))), (1, .inl y1)] [.inl 1, .inl n11] dM_100_75 (fun _ => rfl) (Or.inr rfl) ?_
      refine gsIf (t := 84) (C := 1 ≤ n11) (r := []) dM_100_76 (fun _ => rfl) (Or.inr rfl) (rTest_iff .ge n11 1) (fun c13 => ?_) (fun c13 => ?_)
      · replace hn := hn.1 c13
        refine gs0 85 [(3, .inl (t9 6 9)), (2, .inl n11), (0, .inr (.inr (some 0))), (1, .inl y1)] [.inl (t9 6 9)] dM_100_84 (fun _ => rfl) (Or.inr rfl) ?_
        refine gs0 86 [(3, .inl (t9 6 9)), (2, .inl n11), (0, .inr (.inr (some 0))), (1, .inl y1)] [.inl n11, .inl (t9 6 9)] dM_100_85 (fun _ => rfl) (Or.inr rfl) ?_
        refine gs0 87 [(3, .inl (t9 6 9)), (2, .inl n11), (0, .inr (.inr (some 0))), (1, .inl y1)] [.inl ((t9 6 9) / n11)] dM_100_86 (fun _ => rIns_idiv hn.1) (Or.inr rfl) ?_
        replace hn := hn.2
        refine gs0 88 [(3, .inl (t9 6 9)), (2, .inl n11), (0, .inr (.inr (some 0))), (1, .inl y1)] [.inr (.inl (((t9 6 9) / n11).toInt64))] dM_100_87 (fun _ => rfl) (Or.inr rfl) ?_
        refine gsRet (r := some (.inr (.inl (((t9 6 9) / n11).toInt64)))) dM_100_88 (fun _ => rfl) (Or.inr rfl) ?_
        exact hn
      · replace hn := hn.2 c13
        refine gs0 80 [(3, .inl (t9 6 9)), (2, .inl n11), (0, .inr (.inr (some 0))), (1, .inl y1)] [.inl (t9 6 9)] dM_100_79 (fun _ => rfl) (Or.inr rfl) ?_
        refine gs0 81 [(3, .inl (t9 6 9)), (2, .inl n11), (0, .inr (.inr (some 0))), (1, .inl y1)] [.inr (.inl ((t9 6 9).toInt64))] dM_100_80 (fun _ => rfl) (Or.inr rfl) ?_
        refine gs0 88 [(3, .inl (t9 6 9)), (2, .inl n11), (0, .inr (.inr (some 0))), (1, .inl y1)] [.inr (.inl ((t9 6 9).toInt64))] dM_100_81 (fun _ => rfl) (Or.inr rfl) ?_
        refine gsRet (r := some (.inr (.inl ((t9 6 9).toInt64)))) dM_100_88 (fun _ => rfl) (Or.inr rfl) ?_
        exact hn
    · replace hn := hn.2 c12
      refine gs0 57 [(2, .inl n11), (0, .inr (.inr (some 0))), (1, .inl y1)] [.inr (.inr (some 0))] dM_100_56 (fun _ => rfl) (Or.inr rfl) ?_
      refine gsGetR (some 6) dM_100_57 sk_0 rfl rfl ?_
      refine gsGetE (t9 6 10) dM_100_60 sk_6 rfl rfl rfl ?_
      refine gs0 73 [(2, .inl n11), (0, .inr (.inr (some 0))), (1, .inl y1)] [.inl (t9 6 10)] dM_100_63 (fun _ => rfl) (Or.inr rfl) ?_
      refine gs0 74 [(3, .inl (t9 6 10)), (2, .inl n11), (0, .inr (.inr (some 0))), (1, .inl y1)] [] dM_100_73 (fun _ => rfl) (Or.inr rfl) ?_
      refine gs0 75 [(3, .inl (t9 6 10)), (2, .inl n11), (0, .inr (.inr (some 0))), (1, .inl y1)] [.inl n11] dM_100_74 (fun _ => rfl) (Or.inr rfl) ?_
      refine gs0 76 [(3, .inl (t9 6 10)), (2, .inl n11), (0, .inr (.inr (some 0))), (1, .inl y1)] [.inl 1, .inl n11] dM_100_75 (fun _ => rfl) (Or.inr rfl) ?_
      refine gsIf (t := 84) (C := 1 ≤ n11) (r := []) dM_100_76 (fun _ => rfl) (Or.inr rfl) (rTest_iff .ge n11 1) (fun c14 => ?_) (fun c14 => ?_)
      · replace hn := hn.1 c14
        refine gs0 85 [(3, .inl (t9 6 10)), (2, .inl n11), (0, .inr (.inr (some 0))), (1, .inl y1)] [.inl (t9 6 10)] dM_100_84 (fun _ => rfl) (Or.inr rfl) ?_
        refine gs0 86 [(3, .inl (t9 6 10)), (2, .inl n11), (0, .inr (.inr (some 0))), (1, .inl y1)] [.inl n11, .inl (t9 6 10)] dM_100_85 (fun _ => rfl) (Or.inr rfl) ?_
        refine gs0 87 [(3, .inl (t9 6 10)), (2, .inl n11), (0, .inr (.inr (some 0))), (1, .inl y1)] [.inl ((t9 6 10) / n11)] dM_100_86 (fun _ => rIns_idiv hn.1) (Or.inr rfl) ?_
        replace hn := hn.2
        refine gs0 88 [(3, .inl (t9 6 10)), (2, .inl n11), (0, .inr (.inr (some 0))), (1, .inl y1)] [.inr (.inl (((t9 6 10) / n11).toInt64))] dM_100_87 (fun _ => rfl) (Or.inr rfl) ?_
        refine gsRet (r := some (.inr (.inl (((t9 6 10) / n11).toInt64)))) dM_100_88 (fun _ => rfl) (Or.inr rfl) ?_
        exact hn
      · replace hn := hn.2 c14
        refine gs0 80 [(3, .inl (t9 6 10)), (2, .inl n11), (0, .inr (.inr (some 0))), (1, .inl y1)] [.inl (t9 6 10)] dM_100_79 (fun _ => rfl) (Or.inr rfl) ?_
        refine gs0 81 [(3, .inl (t9 6 10)), (2, .inl n11), (0, .inr (.inr (some 0))), (1, .inl y1)] [.inr (.inl ((t9 6 10).toInt64))] dM_100_80 (fun _ => rfl) (Or.inr rfl) ?_
        refine gs0 88 [(3, .inl (t9 6 10)), (2, .inl n11), (0, .inr (.inr (some 0))), (1, .inl y1)] [.inr (.inl ((t9 6 10).toInt64))] dM_100_81 (fun _ => rfl) (Or.inr rfl) ?_
        refine gsRet (r := some (.inr (.inl ((t9 6 10).toInt64)))) dM_100_88 (fun _ => rfl) (Or.inr rfl) ?_
        exact hn
  · replace h := h.2 c7
    refine gs0 32 [(0, .inr (.inr (some 0))), (1, .inl y1)] [.inl y1] dM_100_31 (fun _ => rfl) (Or.inr rfl) ?_
    refine gs0 33 [(0, .inr (.inr (some 0))), (1, .inl y1)] [.inr (.inl y1.toInt64)] dM_100_32 (fun _ => rfl) (Or.inr rfl) ?_
    refine gsRet (r := some (.inr (.inl y1.toInt64))) dM_100_33 (fun _ => rfl) (Or.inr rfl) ?_
    exact h
set_option maxRecDepth 100000 in
/-- GoalsInAQueue.share -/
theorem w_100 (sg : rSg) (x1 : Int32) {P : Option rv → rSg → Prop} (h :
    (x1 = 0 → 
      g_100_21 x1 sg P) ∧
    (¬ (x1 = 0) → 
      (x1 = 1 → 
        g_100_21 x1 sg P) ∧
      (¬ (x1 = 1) → 
        EvS rSkel 1 72 [.inr (.inr (some 0)), .inl ((-2))] sg (fun v3 t4 => ∃ n6, v3 = some (.inl n6) ∧
          P (some (.inr (.inl (4000000000000000000 - n6.toInt64)))) t4)))) : EvS rSkel 2 100 [.inr (.inr (some 0)), .inl x1] sg P := by
  refine EvS.of (ini := false) rfl ⟨rfl, Nat.le_of_ble_eq_true rfl⟩ rfl ?_
  show GoS rSkel 1 8 4 (some .long) false prog_1_method_19_code 0 [(0, .inr (.inr (some 0))), (1, .inl x1)] [] sg _
  refine gs0 1 [(0, .inr (.inr (some 0))), (1, .inl x1)] [.inl x1] dM_100_0 (fun _ => rfl) (Or.inr rfl) ?_
  refine gsIf (t := 21) (C := x1 = 0) (r := []) dM_100_1 (fun _ => rfl) (Or.inr rfl) (rTest_iff .eq x1 0) (fun c1 => ?_) (fun c1 => ?_)
  · replace h := h.1 c1
    exact GoS.sub (Lnd_keys (ks := [0, 1]) rfl (by decide)) (Lsub_cons rfl (Lsub_cons rfl Lsub_nil)) h
  · replace h := h.2 c1
    refine gs0 5 [(0, .inr (.inr (some 0))), (1, .inl x1)] [.inl x1] dM_100_4 (fun _ => rfl) (Or.inr rfl) ?_
    refine gs0 6 [(0, .inr (.inr (some 0))), (1, .inl x1)] [.inl 1, .inl x1] dM_100_5 (fun _ => rfl) (Or.inr rfl) ?_
    refine gsIf (t := 21) (C := x1 = 1) (r := []) dM_100_6 (fun _ => rfl) (Or.inr rfl) (rTest_iff .eq x1 1) (fun c2 => ?_) (fun c2 => ?_)
    · replace h := h.1 c2
      exact GoS.sub (Lnd_keys (ks := [0, 1]) rfl (by decide)) (Lsub_cons rfl (Lsub_cons rfl Lsub_nil)) h
    · replace h := h.2 c2
      refine gs0 12 [(0, .inr (.inr (some 0))), (1, .inl x1)] [.inr (.inl 4000000000000000000)] dM_100_9 (fun _ => rfl) (Or.inr rfl) ?_
      refine gs0 13 [(0, .inr (.inr (some 0))), (1, .inl x1)] [.inr (.inr (some 0)), .inr (.inl 4000000000000000000)] dM_100_12 (fun _ => rfl) (Or.inr rfl) ?_
      refine gs0 15 [(0, .inr (.inr (some 0))), (1, .inl x1)] [.inl ((-2)), .inr (.inr (some 0)), .inr (.inl 4000000000000000000)] dM_100_13 (fun _ => rfl) (Or.inr rfl) ?_
      refine gsCallV (y := 72) (k := 0) (as := [.inr (.inr (some 0)), .inl ((-2))]) (r := [.inr (.inl 4000000000000000000)]) dM_100_15 rfl rfl rfl (Nat.le_of_ble_eq_true rfl) sk_0 rfl (Nat.le_of_ble_eq_true rfl) (EvS.up h (Nat.le_of_ble_eq_true rfl)) (fun v3 t4 hv5 => ?_)
      obtain ⟨n6, rfl, hn⟩ := hv5
      clear h
      show GoS _ _ _ _ _ _ _ _ [(0, .inr (.inr (some 0))), (1, .inl x1)] [.inl n6, .inr (.inl 4000000000000000000)] t4 _
      refine gs0 19 [(0, .inr (.inr (some 0))), (1, .inl x1)] [.inr (.inl n6.toInt64), .inr (.inl 4000000000000000000)] dM_100_18 (fun _ => rfl) (Or.inr rfl) ?_
      refine gs0 20 [(0, .inr (.inr (some 0))), (1, .inl x1)] [.inr (.inl (4000000000000000000 - n6.toInt64))] dM_100_19 (fun _ => rfl) (Or.inr rfl) ?_
      refine gsRet (r := some (.inr (.inl (4000000000000000000 - n6.toInt64)))) dM_100_20 (fun _ => rfl) (Or.inr rfl) ?_
      exact hn
def g_101_7  (y2 : Int32) (y3 : Int32) (y4 : Int32) (sg : rSg) (P : Option rv → rSg → Prop) : Prop := GoS rSkel 0 8 6 (some .int) false prog_1_method_35_code 7 [(2, .inl y2), (3, .inl y3), (4, .inl y4)] [] sg P
set_option maxRecDepth 100000 in
theorem w_101_7 (sg : rSg)  (y2 : Int32) (y3 : Int32) (y4 : Int32) {P : Option rv → rSg → Prop} (h :
    (64 ≤ y4 → 
      P (some (.inl y2)) sg) ∧
    (¬ (64 ≤ y4) → 
      (y3 ≤ 0 → 
        P (some (.inl y2)) sg) ∧
      (¬ (y3 ≤ 0) → 
        (¬ y3 = 0 ∧
        g_101_7 y3 (irem y2 y3) (y4 + 1) sg P)))) : g_101_7 y2 y3 y4 sg P := by
  show GoS rSkel 0 8 6 (some .int) false prog_1_method_35_code 7 [(2, .inl y2), (3, .inl y3), (4, .inl y4)] [] sg P
  refine gs0 9 [(2, .inl y2), (3, .inl y3), (4, .inl y4)] [.inl y4] dM_101_7 (fun _ => rfl) (Or.inr rfl) ?_
  refine gs0 11 [(2, .inl y2), (3, .inl y3), (4, .inl y4)] [.inl 64, .inl y4] dM_101_9 (fun _ => rfl) (Or.inr rfl) ?_
  refine gsIf (t := 34) (C := 64 ≤ y4) (r := []) dM_101_11 (fun _ => rfl) (Or.inr rfl) (rTest_iff .ge y4 64) (fun c1 => ?_) (fun c1 => ?_)
  · replace h := h.1 c1
    refine gs0 35 [(2, .inl y2), (3, .inl y3), (4, .inl y4)] [.inl y2] dM_101_34 (fun _ => rfl) (Or.inr rfl) ?_
    refine gsRet (r := some (.inl y2)) dM_101_35 (fun _ => rfl) (Or.inr rfl) ?_
    exact h
  · replace h := h.2 c1
    refine gs0 15 [(2, .inl y2), (3, .inl y3), (4, .inl y4)] [.inl y3] dM_101_14 (fun _ => rfl) (Or.inr rfl) ?_
    refine gsIf (t := 34) (C := y3 ≤ 0) (r := []) dM_101_15 (fun _ => rfl) (Or.inr rfl) (rTest_iff .le y3 0) (fun c2 => ?_) (fun c2 => ?_)
    · replace h := h.1 c2
      refine gs0 35 [(2, .inl y2), (3, .inl y3), (4, .inl y4)] [.inl y2] dM_101_34 (fun _ => rfl) (Or.inr rfl) ?_
      refine gsRet (r := some (.inl y2)) dM_101_35 (fun _ => rfl) (Or.inr rfl) ?_
      exact h
    · replace h := h.2 c2
      refine gs0 19 [(2, .inl y2), (3, .inl y3), (4, .inl y4)] [.inl y2] dM_101_18 (fun _ => rfl) (Or.inr rfl) ?_
      refine gs0 20 [(2, .inl y2), (3, .inl y3), (4, .inl y4)] [.inl y3, .inl y2] dM_101_19 (fun _ => rfl) (Or.inr rfl) ?_
      refine gs0 21 [(2, .inl y2), (3, .inl y3), (4, .inl y4)] [.inl (irem y2 y3)] dM_101_20 (fun _ => rIns_irem h.1) (Or.inr rfl) ?_
      replace h := h.2
      refine gs0 23 [(5, .inl (irem y2 y3)), (2, .inl y2), (3, .inl y3), (4, .inl y4)] [] dM_101_21 (fun _ => rfl) (Or.inr rfl) ?_
      refine gs0 24 [(5, .inl (irem y2 y3)), (2, .inl y2), (3, .inl y3), (4, .inl y4)] [.inl y3] dM_101_23 (fun _ => rfl) (Or.inr rfl) ?_
      refine gs0 25 [(2, .inl y3), (5, .inl (irem y2 y3)), (3, .inl y3), (4, .inl y4)] [] dM_101_24 (fun _ => rfl) (Or.inr rfl) ?_
      refine gs0 27 [(2, .inl y3), (5, .inl (irem y2 y3)), (3, .inl y3), (4, .inl y4)] [.inl (irem y2 y3)] dM_101_25 (fun _ => rfl) (Or.inr rfl) ?_
      refine gs0 28 [(3, .inl (irem y2 y3)), (2, .inl y3), (5, .inl (irem y2 y3)), (4, .inl y4)] [] dM_101_27 (fun _ => rfl) (Or.inr rfl) ?_
      refine gs0 31 [(4, .inl (y4 + 1)), (3, .inl (irem y2 y3)), (2, .inl y3), (5, .inl (irem y2 y3))] [] dM_101_28 (fun _ => rfl) (Or.inr rfl) ?_
      refine gs0 7 [(4, .inl (y4 + 1)), (3, .inl (irem y2 y3)), (2, .inl y3), (5, .inl (irem y2 y3))] [] dM_101_31 (fun _ => rfl) (Or.inr rfl) ?_
      exact GoS.sub (Lnd_keys (ks := [2, 3, 4]) rfl (by decide)) (Lsub_cons rfl (Lsub_cons rfl (Lsub_cons rfl Lsub_nil))) h
set_option maxRecDepth 100000 in
/-- GoalsInAQueue.greatestDivisor -/
theorem w_101 (sg : rSg) (x0 : Int32) (x1 : Int32) {P : Option rv → rSg → Prop} (h :
    g_101_7 x0 x1 0 sg P) : EvS rSkel 1 101 [.inl x0, .inl x1] sg P := by
  refine EvS.of (ini := false) rfl ⟨rfl, Nat.le_of_ble_eq_true rfl⟩ rfl ?_
  show GoS rSkel 0 8 6 (some .int) false prog_1_method_35_code 0 [(0, .inl x0), (1, .inl x1)] [] sg _
  refine gs0 1 [(0, .inl x0), (1, .inl x1)] [.inl x0] dM_101_0 (fun _ => rfl) (Or.inr rfl) ?_
  refine gs0 2 [(2, .inl x0), (0, .inl x0), (1, .inl x1)] [] dM_101_1 (fun _ => rfl) (Or.inr rfl) ?_
  refine gs0 3 [(2, .inl x0), (0, .inl x0), (1, .inl x1)] [.inl x1] dM_101_2 (fun _ => rfl) (Or.inr rfl) ?_
  refine gs0 4 [(3, .inl x1), (2, .inl x0), (0, .inl x0), (1, .inl x1)] [] dM_101_3 (fun _ => rfl) (Or.inr rfl) ?_
  refine gs0 5 [(3, .inl x1), (2, .inl x0), (0, .inl x0), (1, .inl x1)] [.inl 0] dM_101_4 (fun _ => rfl) (Or.inr rfl) ?_
  refine gs0 7 [(4, .inl 0), (3, .inl x1), (2, .inl x0), (0, .inl x0), (1, .inl x1)] [] dM_101_5 (fun _ => rfl) (Or.inr rfl) ?_
  exact GoS.sub (Lnd_keys (ks := [2, 3, 4]) rfl (by decide)) (Lsub_cons rfl (Lsub_cons rfl (Lsub_cons rfl Lsub_nil))) h
def g_102_17  (y1 : Int32) (y2 : Int32) (y3 : Int32) (sg : rSg) (P : Option rv → rSg → Prop) : Prop := GoS rSkel 7 8 4 (some .int) false prog_1_method_20_code 17 [(0, .inr (.inr (some 0))), (1, .inl y1), (2, .inl y2), (3, .inl y3)] [] sg P
set_option maxRecDepth 100000 in
theorem w_102_17 (sg : rSg)  (y1 : Int32) (y2 : Int32) (y3 : Int32) {P : Option rv → rSg → Prop} (h :
    (10 ≤ y3 → 
      P (some (.inl y2)) sg) ∧
    (¬ (10 ≤ y3) → 
      EvS rSkel 4 97 [.inr (.inr (some 0)), .inl y1, .inl y3] sg (fun v11 t12 => v11 = none ∧
        EvS rSkel 7 36 [.inr (.inr (some 230)), .inl 120, .inl 1] t12 (fun v14 t15 => v14 = none ∧
          ((t15 230 10) ≤ 0 → 
            g_102_17 y1 y2 (y3 + 1) t15 P) ∧
          (¬ ((t15 230 10) ≤ 0) → 
            EvS rSkel 1 40 [.inr (.inr (some 230)), .inl 0] t15 (fun v18 t19 => ∃ q21, v18 = some (.inr (.inr (some q21))) ∧ isSt q21 ∧
              EvS rSkel 4 58 [.inr (.inr (some 682)), .inr (.inr (some 231)), .inr (.inr (some q21)), .inl 0] t19 (fun v23 t24 => v23 = none ∧
                EvS rSkel 2 103 [.inr (.inr (some 0))] t24 (fun v26 t27 => ∃ n29, v26 = some (.inl n29) ∧
                  EvS rSkel 1 16 [.inr (.inr (some 689))] t27 (fun v30 t31 => ∃ n33, v30 = some (.inl n33) ∧
                    (¬ n29 = n33 → 
                      g_102_17 y1 y2 (y3 + 1) t31 P) ∧
                    (¬ (¬ n29 = n33) → 
                      g_102_17 y1 (y2 ||| (1 <<< (y3 &&& 31))) (y3 + 1) t31 P)))))))))) : g_102_17 y1 y2 y3 sg P := by
  show GoS rSkel 7 8 4 (some .int) false prog_1_method_20_code 17 [(0, .inr (.inr (some 0))), (1, .inl y1), (2, .inl y2), (3, .inl y3)] [] sg P
  refine gs0 18 [(0, .inr (.inr (some 0))), (1, .inl y1), (2, .inl y2), (3, .inl y3)] [.inl y3] dM_102_17 (fun _ => rfl) (Or.inr rfl) ?_
  refine gs0 20 [(0, .inr (.inr (some 0))), (1, .inl y1), (2, .inl y2), (3, .inl y3)] [.inl 10, .inl y3] dM_102_18 (fun _ => rfl) (Or.inr rfl) ?_
  refine gsIf (t := 98) (C := 10 ≤ y3) (r := []) dM_102_20 (fun _ => rfl) (Or.inr rfl) (rTest_iff .ge y3 10) (fun c10 => ?_) (fun c10 => ?_)
  · replace h := h.1 c10
    refine gs0 99 [(0, .inr (.inr (some 0))), (1, .inl y1), (2, .inl y2), (3, .inl y3)] [.inl y2] dM_102_98 (fun _ => rfl) (Or.inr rfl) ?_
    refine gsRet (r := some (.inl y2)) dM_102_99 (fun _ => rfl) (Or.inr rfl) ?_
    exact h
  · replace h := h.2 c10
    refine gs0 24 [(0, .inr (.inr (some 0))), (1, .inl y1), (2, .inl y2), (3, .inl y3)] [.inr (.inr (some 0))] dM_102_23 (fun _ => rfl) (Or.inr rfl) ?_
    refine gs0 25 [(0, .inr (.inr (some 0))), (1, .inl y1), (2, .inl y2), (3, .inl y3)] [.inl y1, .inr (.inr (some 0))] dM_102_24 (fun _ => rfl) (Or.inr rfl) ?_
    refine gs0 26 [(0, .inr (.inr (some 0))), (1, .inl y1), (2, .inl y2), (3, .inl y3)] [.inl y3, .inl y1, .inr (.inr (some 0))] dM_102_25 (fun _ => rfl) (Or.inr rfl) ?_
    refine gsCallV (y := 97) (k := 0) (as := [.inr (.inr (some 0)), .inl y1, .inl y3]) (r := []) dM_102_26 rfl rfl rfl (Nat.le_of_ble_eq_true rfl) sk_0 rfl (Nat.le_of_ble_eq_true rfl) (EvS.up h (Nat.le_of_ble_eq_true rfl)) (fun v11 t12 hv13 => ?_)
    obtain ⟨rfl, hn⟩ := hv13
    clear h
    show GoS _ _ _ _ _ _ _ _ [(0, .inr (.inr (some 0))), (1, .inl y1), (2, .inl y2), (3, .inl y3)] [] t12 _
    refine gs0 30 [(0, .inr (.inr (some 0))), (1, .inl y1), (2, .inl y2), (3, .inl y3)] [.inr (.inr (some 0))] dM_102_29 (fun _ => rfl) (Or.inr rfl) ?_
    refine gsGetR (some 230) dM_102_30 sk_0 rfl rfl ?_
    refine gs0 35 [(0, .inr (.inr (some 0))), (1, .inl y1), (2, .inl y2), (3, .inl y3)] [.inl 120, .inr (.inr (some 230))] dM_102_33 (fun _ => rfl) (Or.inr rfl) ?_
    refine gs0 36 [(0, .inr (.inr (some 0))), (1, .inl y1), (2, .inl y2), (3, .inl y3)] [.inl 1, .inl 120, .inr (.inr (some 230))] dM_102_35 (fun _ => rfl) (Or.inr rfl) ?_
    refine gsCallV (y := 36) (k := 230) (as := [.inr (.inr (some 230)), .inl 120, .inl 1]) (r := []) dM_102_36 rfl rfl rfl (Nat.le_of_ble_eq_true rfl) sk_230 rfl (Nat.le_of_ble_eq_true rfl) (EvS.up hn (Nat.le_of_ble_eq_true rfl)) (fun v14 t15 hv16 => ?_)
    obtain ⟨rfl, hnn⟩ := hv16
    clear hn
    show GoS _ _ _ _ _ _ _ _ [(0, .inr (.inr (some 0))), (1, .inl y1), (2, .inl y2), (3, .inl y3)] [] t15 _
    refine gs0 40 [(0, .inr (.inr (some 0))), (1, .inl y1), (2, .inl y2), (3, .inl y3)] [.inr (.inr (some 0))] dM_102_39 (fun _ => rfl) (Or.inr rfl) ?_
    refine gsGetR (some 230) dM_102_40 sk_0 rfl rfl ?_
    refine gsGetE (t15 230 10) dM_102_43 sk_230 rfl rfl rfl ?_
    refine gsIf (t := 92) (C := (t15 230 10) ≤ 0) (r := []) dM_102_46 (fun _ => rfl) (Or.inr rfl) (rTest_iff .le (t15 230 10) 0) (fun c17 => ?_) (fun c17 => ?_)
    · replace hnn := hnn.1 c17
      refine gs0 95 [(3, .inl (y3 + 1)), (0, .inr (.inr (some 0))), (1, .inl y1), (2, .inl y2)] [] dM_102_92 (fun _ => rfl) (Or.inr rfl) ?_
      refine gs0 17 [(3, .inl (y3 + 1)), (0, .inr (.inr (some 0))), (1, .inl y1), (2, .inl y2)] [] dM_102_95 (fun _ => rfl) (Or.inr rfl) ?_
      exact GoS.sub (Lnd_keys (ks := [0, 1, 2, 3]) rfl (by decide)) (Lsub_cons rfl (Lsub_cons rfl (Lsub_cons rfl (Lsub_cons rfl Lsub_nil)))) hnn
    · replace hnn := hnn.2 c17
      refine gs0 50 [(0, .inr (.inr (some 0))), (1, .inl y1), (2, .inl y2), (3, .inl y3)] [.inr (.inr (some 0))] dM_102_49 (fun _ => rfl) (Or.inr rfl) ?_
      refine gsGetR (some 682) dM_102_50 sk_0 rfl rfl ?_
      refine gs0 54 [(0, .inr (.inr (some 0))), (1, .inl y1), (2, .inl y2), (3, .inl y3)] [.inr (.inr (some 0)), .inr (.inr (some 682))] dM_102_53 (fun _ => rfl) (Or.inr rfl) ?_
      refine gsGetR (some 230) dM_102_54 sk_0 rfl rfl ?_
      refine gsGetR (some 231) dM_102_57 sk_230 rfl rfl ?_
      refine gs0 61 [(0, .inr (.inr (some 0))), (1, .inl y1), (2, .inl y2), (3, .inl y3)] [.inr (.inr (some 0)), .inr (.inr (some 231)), .inr (.inr (some 682))] dM_102_60 (fun _ => rfl) (Or.inr rfl) ?_
      refine gsGetR (some 230) dM_102_61 sk_0 rfl rfl ?_
      refine gs0 65 [(0, .inr (.inr (some 0))), (1, .inl y1), (2, .inl y2), (3, .inl y3)] [.inl 0, .inr (.inr (some 230)), .inr (.inr (some 231)), .inr (.inr (some 682))] dM_102_64 (fun _ => rfl) (Or.inr rfl) ?_
      refine gsCallV (y := 40) (k := 230) (as := [.inr (.inr (some 230)), .inl 0]) (r := [.inr (.inr (some 231)), .inr (.inr (some 682))]) dM_102_65 rfl rfl rfl (Nat.le_of_ble_eq_true rfl) sk_230 rfl (Nat.le_of_ble_eq_true rfl) (EvS.up hnn (Nat.le_of_ble_eq_true rfl)) (fun v18 t19 hv20 => ?_)
      obtain ⟨q21, rfl, hq22, hnnn⟩ := hv20
      have b_q21 := hq22.1
      clear hnn
      show GoS _ _ _ _ _ _ _ _ [(0, .inr (.inr (some 0))), (1, .inl y1), (2, .inl y2), (3, .inl y3)] [.inr (.inr (some q21)), .inr (.inr (some 231)), .inr (.inr (some 682))] t19 _
      refine gs0 69 [(0, .inr (.inr (some 0))), (1, .inl y1), (2, .inl y2), (3, .inl y3)] [.inl 0, .inr (.inr (some q21)), .inr (.inr (some 231)), .inr (.inr (some 682))] dM_102_68 (fun _ => rfl) (Or.inr rfl) ?_
      refine gsCallV (y := 58) (k := 682) (as := [.inr (.inr (some 682)), .inr (.inr (some 231)), .inr (.inr (some q21)), .inl 0]) (r := []) dM_102_69 rfl rfl rfl (Nat.le_of_ble_eq_true rfl) sk_682 rfl (Nat.le_of_ble_eq_true rfl) (EvS.up hnnn (Nat.le_of_ble_eq_true rfl)) (fun v23 t24 hv25 => ?_)
      obtain ⟨rfl, hnnnn⟩ := hv25
      clear hnnn
      show GoS _ _ _ _ _ _ _ _ [(0, .inr (.inr (some 0))), (1, .inl y1), (2, .inl y2), (3, .inl y3)] [] t24 _
      refine gs0 73 [(0, .inr (.inr (some 0))), (1, .inl y1), (2, .inl y2), (3, .inl y3)] [.inr (.inr (some 0))] dM_102_72 (fun _ => rfl) (Or.inr rfl) ?_
      refine gsCallV (y := 103) (k := 0) (as := [.inr (.inr (some 0))]) (r := []) dM_102_73 rfl rfl rfl (Nat.le_of_ble_eq_true rfl) sk_0 rfl (Nat.le_of_ble_eq_true rfl) (EvS.up hnnnn (Nat.le_of_ble_eq_true rfl)) (fun v26 t27 hv28 => ?_)
      obtain ⟨n29, rfl, hnnnnn⟩ := hv28
      clear hnnnn
      show GoS _ _ _ _ _ _ _ _ [(0, .inr (.inr (some 0))), (1, .inl y1), (2, .inl y2), (3, .inl y3)] [.inl n29] t27 _
      refine gs0 77 [(0, .inr (.inr (some 0))), (1, .inl y1), (2, .inl y2), (3, .inl y3)] [.inr (.inr (some 0)), .inl n29] dM_102_76 (fun _ => rfl) (Or.inr rfl) ?_
      refine gsGetR (some 689) dM_102_77 sk_0 rfl rfl ?_
      refine gsCallV (y := 16) (k := 689) (as := [.inr (.inr (some 689))]) (r := [.inl n29]) dM_102_80 rfl rfl rfl (Nat.le_of_ble_eq_true rfl) sk_689 rfl (Nat.le_of_ble_eq_true rfl) (EvS.up hnnnnn (Nat.le_of_ble_eq_true rfl)) (fun v30 t31 hv32 => ?_)
      obtain ⟨n33, rfl, hnnnnnn⟩ := hv32
      clear hnnnnn
      show GoS _ _ _ _ _ _ _ _ [(0, .inr (.inr (some 0))), (1, .inl y1), (2, .inl y2), (3, .inl y3)] [.inl n33, .inl n29] t31 _
      refine gsIf (t := 92) (C := ¬ n29 = n33) (r := []) dM_102_83 (fun _ => rfl) (Or.inr rfl) (rTest_iff .ne n29 n33) (fun c34 => ?_) (fun c34 => ?_)
      · replace hnnnnnn := hnnnnnn.1 c34
        refine gs0 95 [(3, .inl (y3 + 1)), (0, .inr (.inr (some 0))), (1, .inl y1), (2, .inl y2)] [] dM_102_92 (fun _ => rfl) (Or.inr rfl) ?_
        refine gs0 17 [(3, .inl (y3 + 1)), (0, .inr (.inr (some 0))), (1, .inl y1), (2, .inl y2)] [] dM_102_95 (fun _ => rfl) (Or.inr rfl) ?_
        exact GoS.sub (Lnd_keys (ks := [0, 1, 2, 3]) rfl (by decide)) (Lsub_cons rfl (Lsub_cons rfl (Lsub_cons rfl (Lsub_cons rfl Lsub_nil)))) hnnnnnn
      · replace hnnnnnn := hnnnnnn.2 c34
        refine gs0 87 [(0, .inr (.inr (some 0))), (1, .inl y1), (2, .inl y2), (3, .inl y3)] [.inl y2] dM_102_86 (fun _ => rfl) (Or.inr rfl) ?_
        refine gs0 88 [(0, .inr (.inr (some 0))), (1, .inl y1), (2, .inl y2), (3, .inl y3)] [.inl 1, .inl y2] dM_102_87 (fun _ => rfl) (Or.inr rfl) ?_
        refine gs0 89 [(0, .inr (.inr (some 0))), (1, .inl y1), (2, .inl y2), (3, .inl y3)] [.inl y3, .inl 1, .inl y2] dM_102_88 (fun _ => rfl) (Or.inr rfl) ?_
        refine gs0 90 [(0, .inr (.inr (some 0))), (1, .inl y1), (2, .inl y2), (3, .inl y3)] [.inl (1 <<< (y3 &&& 31)), .inl y2] dM_102_89 (fun _ => rfl) (Or.inr rfl) ?_
        refine gs0 91 [(0, .inr (.inr (some 0))), (1, .inl y1), (2, .inl y2), (3, .inl y3)] [.inl (y2 ||| (1 <<< (y3 &&& 31)))] dM_102_90 (fun _ => rfl) (Or.inr rfl) ?_
        refine gs0 92 [(2, .inl (y2 ||| (1 <<< (y3 &&& 31)))), (0, .inr (.inr (some 0))), (1, .inl y1), (3, .inl y3)] [] dM_102_91 (fun _ => rfl) (Or.inr rfl) ?_
        refine gs0 95 [(3, .inl (y3 + 1)), (2, .inl (y2 ||| (1 <<< (y3 &&& 31)))), (0, .inr (.inr (some 0))), (1, .inl y1)] [] dM_102_92 (fun _ => rfl) (Or.inr rfl) ?_
        refine gs0 17 [(3, .inl (y3 + 1)), (2, .inl (y2 ||| (1 <<< (y3 &&& 31)))), (0, .inr (.inr (some 0))), (1, .inl y1)] [] dM_102_95 (fun _ => rfl) (Or.inr rfl) ?_
        exact GoS.sub (Lnd_keys (ks := [0, 1, 2, 3]) rfl (by decide)) (Lsub_cons rfl (Lsub_cons rfl (Lsub_cons rfl (Lsub_cons rfl Lsub_nil)))) hnnnnnn
set_option maxRecDepth 100000 in
/-- GoalsInAQueue.which -/
theorem w_102 (sg : rSg) (x1 : Int32) {P : Option rv → rSg → Prop} (h :
    EvS rSkel 1 82 [.inl x1] sg (fun v1 t2 => ∃ n4, v1 = some (.inl n4) ∧
      (¬ n4 = 0 → 
        g_102_17 x1 0 0 t2 P) ∧
      (¬ (¬ n4 = 0) → 
        EvS rSkel 1 72 [.inr (.inr (some 0)), .inl ((-1))] t2 (fun v6 t7 => ∃ n9, v6 = some (.inl n9) ∧
          P (some (.inl n9)) t7)))) : EvS rSkel 8 102 [.inr (.inr (some 0)), .inl x1] sg P := by
  refine EvS.of (ini := false) rfl ⟨rfl, Nat.le_of_ble_eq_true rfl⟩ rfl ?_
  show GoS rSkel 7 8 4 (some .int) false prog_1_method_20_code 0 [(0, .inr (.inr (some 0))), (1, .inl x1)] [] sg _
  refine gs0 1 [(0, .inr (.inr (some 0))), (1, .inl x1)] [.inl x1] dM_102_0 (fun _ => rfl) (Or.inr rfl) ?_
  refine gsCallS (y := 82) (as := [.inl x1]) (r := []) dM_102_1 rfl (Or.inl rfl) rfl rfl (Nat.le_of_ble_eq_true rfl) (EvS.up h (Nat.le_of_ble_eq_true rfl)) (fun v1 t2 hv3 => ?_)
  obtain ⟨n4, rfl, hn⟩ := hv3
  clear h
  show GoS _ _ _ _ _ _ _ _ [(0, .inr (.inr (some 0))), (1, .inl x1)] [.inl n4] t2 _
  refine gsIf (t := 13) (C := ¬ n4 = 0) (r := []) dM_102_4 (fun _ => rfl) (Or.inr rfl) (rTest_iff .ne n4 0) (fun c5 => ?_) (fun c5 => ?_)
  · replace hn := hn.1 c5
    refine gs0 14 [(0, .inr (.inr (some 0))), (1, .inl x1)] [.inl 0] dM_102_13 (fun _ => rfl) (Or.inr rfl) ?_
    refine gs0 15 [(2, .inl 0), (0, .inr (.inr (some 0))), (1, .inl x1)] [] dM_102_14 (fun _ => rfl) (Or.inr rfl) ?_
    refine gs0 16 [(2, .inl 0), (0, .inr (.inr (some 0))), (1, .inl x1)] [.inl 0] dM_102_15 (fun _ => rfl) (Or.inr rfl) ?_
    refine gs0 17 [(3, .inl 0), (2, .inl 0), (0, .inr (.inr (some 0))), (1, .inl x1)] [] dM_102_16 (fun _ => rfl) (Or.inr rfl) ?_
    exact GoS.sub (Lnd_keys (ks := [0, 1, 2, 3]) rfl (by decide)) (Lsub_cons rfl (Lsub_cons rfl (Lsub_cons rfl (Lsub_cons rfl Lsub_nil)))) hn
  · replace hn := hn.2 c5
    refine gs0 8 [(0, .inr (.inr (some 0))), (1, .inl x1)] [.inr (.inr (some 0))] dM_102_7 (fun _ => rfl) (Or.inr rfl) ?_
    refine gs0 9 [(0, .inr (.inr (some 0))), (1, .inl x1)] [.inl ((-1)), .inr (.inr (some 0))] dM_102_8 (fun _ => rfl) (Or.inr rfl) ?_
    refine gsCallV (y := 72) (k := 0) (as := [.inr (.inr (some 0)), .inl ((-1))]) (r := []) dM_102_9 rfl rfl rfl (Nat.le_of_ble_eq_true rfl) sk_0 rfl (Nat.le_of_ble_eq_true rfl) (EvS.up hn (Nat.le_of_ble_eq_true rfl)) (fun v6 t7 hv8 => ?_)
    obtain ⟨n9, rfl, hnn⟩ := hv8
    clear hn
    show GoS _ _ _ _ _ _ _ _ [(0, .inr (.inr (some 0))), (1, .inl x1)] [.inl n9] t7 _
    refine gsRet (r := some (.inl n9)) dM_102_12 (fun _ => rfl) (Or.inr rfl) ?_
    exact hnn
def g_103_10  (y1 : Int32) (y2 : Int32) (sg : rSg) (P : Option rv → rSg → Prop) : Prop := GoS rSkel 1 8 3 (some .int) false prog_1_method_38_code 10 [(0, .inr (.inr (some 0))), (1, .inl y1), (2, .inl y2)] [] sg P
set_option maxRecDepth 100000 in
theorem w_103_10 (sg : rSg)  (y1 : Int32) (y2 : Int32) {P : Option rv → rSg → Prop} (h :
    (y1 ≤ y2 → 
      P (some (.inl y1)) sg) ∧
    (¬ (y1 ≤ y2) → 
      ((sg 682 3) ≤ y2 → 
        P (some (.inl y2)) sg) ∧
      (¬ ((sg 682 3) ≤ y2) → 
        EvS rSkel 1 17 [.inr (.inr (some 689)), .inl y2] sg (fun v7 t8 => ∃ n10, v7 = some (.inl n10) ∧
          EvS rSkel 1 63 [.inr (.inr (some 682)), .inl y2] t8 (fun v11 t12 => ∃ n14, v11 = some (.inl n14) ∧
            (n10 = n14 → 
              g_103_10 y1 (y2 + 1) t12 P) ∧
            (¬ (n10 = n14) → 
              P (some (.inl y2)) t12)))))) : g_103_10 y1 y2 sg P := by
  show GoS rSkel 1 8 3 (some .int) false prog_1_method_38_code 10 [(0, .inr (.inr (some 0))), (1, .inl y1), (2, .inl y2)] [] sg P
  refine gs0 11 [(0, .inr (.inr (some 0))), (1, .inl y1), (2, .inl y2)] [.inl y2] dM_103_10 (fun _ => rfl) (Or.inr rfl) ?_
  refine gs0 12 [(0, .inr (.inr (some 0))), (1, .inl y1), (2, .inl y2)] [.inl y1, .inl y2] dM_103_11 (fun _ => rfl) (Or.inr rfl) ?_
  refine gsIf (t := 53) (C := y1 ≤ y2) (r := []) dM_103_12 (fun _ => rfl) (Or.inr rfl) (rTest_iff .ge y2 y1) (fun c5 => ?_) (fun c5 => ?_)
  · replace h := h.1 c5
    refine gs0 54 [(0, .inr (.inr (some 0))), (1, .inl y1), (2, .inl y2)] [.inl y1] dM_103_53 (fun _ => rfl) (Or.inr rfl) ?_
    refine gsRet (r := some (.inl y1)) dM_103_54 (fun _ => rfl) (Or.inr rfl) ?_
    exact h
  · replace h := h.2 c5
    refine gs0 16 [(0, .inr (.inr (some 0))), (1, .inl y1), (2, .inl y2)] [.inl y2] dM_103_15 (fun _ => rfl) (Or.inr rfl) ?_
    refine gs0 17 [(0, .inr (.inr (some 0))), (1, .inl y1), (2, .inl y2)] [.inr (.inr (some 0)), .inl y2] dM_103_16 (fun _ => rfl) (Or.inr rfl) ?_
    refine gsGetR (some 682) dM_103_17 sk_0 rfl rfl ?_
    refine gsGetE (sg 682 3) dM_103_20 sk_682 rfl rfl rfl ?_
    refine gsIf (t := 45) (C := (sg 682 3) ≤ y2) (r := []) dM_103_23 (fun _ => rfl) (Or.inr rfl) (rTest_iff .ge y2 (sg 682 3)) (fun c6 => ?_) (fun c6 => ?_)
    · replace h := h.1 c6
      refine gs0 46 [(0, .inr (.inr (some 0))), (1, .inl y1), (2, .inl y2)] [.inl y2] dM_103_45 (fun _ => rfl) (Or.inr rfl) ?_
      refine gsRet (r := some (.inl y2)) dM_103_46 (fun _ => rfl) (Or.inr rfl) ?_
      exact h
    · replace h := h.2 c6
      refine gs0 27 [(0, .inr (.inr (some 0))), (1, .inl y1), (2, .inl y2)] [.inr (.inr (some 0))] dM_103_26 (fun _ => rfl) (Or.inr rfl) ?_
      refine gsGetR (some 689) dM_103_27 sk_0 rfl rfl ?_
      refine gs0 31 [(0, .inr (.inr (some 0))), (1, .inl y1), (2, .inl y2)] [.inl y2, .inr (.inr (some 689))] dM_103_30 (fun _ => rfl) (Or.inr rfl) ?_
      refine gsCallV (y := 17) (k := 689) (as := [.inr (.inr (some 689)), .inl y2]) (r := []) dM_103_31 rfl rfl rfl (Nat.le_of_ble_eq_true rfl) sk_689 rfl (Nat.le_of_ble_eq_true rfl) (EvS.up h (Nat.le_of_ble_eq_true rfl)) (fun v7 t8 hv9 => ?_)
      obtain ⟨n10, rfl, hn⟩ := hv9
      clear h
      show GoS _ _ _ _ _ _ _ _ [(0, .inr (.inr (some 0))), (1, .inl y1), (2, .inl y2)] [.inl n10] t8 _
      refine gs0 35 [(0, .inr (.inr (some 0))), (1, .inl y1), (2, .inl y2)] [.inr (.inr (some 0)), .inl n10] dM_103_34 (fun _ => rfl) (Or.inr rfl) ?_
      refine gsGetR (some 682) dM_103_35 sk_0 rfl rfl ?_
      refine gs0 39 [(0, .inr (.inr (some 0))), (1, .inl y1), (2, .inl y2)] [.inl y2, .inr (.inr (some 682)), .inl n10] dM_103_38 (fun _ => rfl) (Or.inr rfl) ?_
      refine gsCallV (y := 63) (k := 682) (as := [.inr (.inr (some 682)), .inl y2]) (r := [.inl n10]) dM_103_39 rfl rfl rfl (Nat.le_of_ble_eq_true rfl) sk_682 rfl (Nat.le_of_ble_eq_true rfl) (EvS.up hn (Nat.le_of_ble_eq_true rfl)) (fun v11 t12 hv13 => ?_)
      obtain ⟨n14, rfl, hnn⟩ := hv13
      clear hn
      show GoS _ _ _ _ _ _ _ _ [(0, .inr (.inr (some 0))), (1, .inl y1), (2, .inl y2)] [.inl n14, .inl n10] t12 _
      refine gsIf (t := 47) (C := n10 = n14) (r := []) dM_103_42 (fun _ => rfl) (Or.inr rfl) (rTest_iff .eq n10 n14) (fun c15 => ?_) (fun c15 => ?_)
      · replace hnn := hnn.1 c15
        refine gs0 50 [(2, .inl (y2 + 1)), (0, .inr (.inr (some 0))), (1, .inl y1)] [] dM_103_47 (fun _ => rfl) (Or.inr rfl) ?_
        refine gs0 10 [(2, .inl (y2 + 1)), (0, .inr (.inr (some 0))), (1, .inl y1)] [] dM_103_50 (fun _ => rfl) (Or.inr rfl) ?_
        exact GoS.sub (Lnd_keys (ks := [0, 1, 2]) rfl (by decide)) (Lsub_cons rfl (Lsub_cons rfl (Lsub_cons rfl Lsub_nil))) hnn
      · replace hnn := hnn.2 c15
        refine gs0 46 [(0, .inr (.inr (some 0))), (1, .inl y1), (2, .inl y2)] [.inl y2] dM_103_45 (fun _ => rfl) (Or.inr rfl) ?_
        refine gsRet (r := some (.inl y2)) dM_103_46 (fun _ => rfl) (Or.inr rfl) ?_
        exact hnn
set_option maxRecDepth 100000 in
/-- GoalsInAQueue.toldAlike -/
theorem w_103 (sg : rSg)  {P : Option rv → rSg → Prop} (h :
    EvS rSkel 1 16 [.inr (.inr (some 689))] sg (fun v1 t2 => ∃ n4, v1 = some (.inl n4) ∧
      g_103_10 n4 0 t2 P)) : EvS rSkel 2 103 [.inr (.inr (some 0))] sg P := by
  refine EvS.of (ini := false) rfl ⟨rfl, Nat.le_of_ble_eq_true rfl⟩ rfl ?_
  show GoS rSkel 1 8 3 (some .int) false prog_1_method_38_code 0 [(0, .inr (.inr (some 0)))] [] sg _
  refine gs0 1 [(0, .inr (.inr (some 0)))] [.inr (.inr (some 0))] dM_103_0 (fun _ => rfl) (Or.inr rfl) ?_
  refine gsGetR (some 689) dM_103_1 sk_0 rfl rfl ?_
  refine gsCallV (y := 16) (k := 689) (as := [.inr (.inr (some 689))]) (r := []) dM_103_4 rfl rfl rfl (Nat.le_of_ble_eq_true rfl) sk_689 rfl (Nat.le_of_ble_eq_true rfl) (EvS.up h (Nat.le_of_ble_eq_true rfl)) (fun v1 t2 hv3 => ?_)
  obtain ⟨n4, rfl, hn⟩ := hv3
  clear h
  show GoS _ _ _ _ _ _ _ _ [(0, .inr (.inr (some 0)))] [.inl n4] t2 _
  refine gs0 8 [(1, .inl n4), (0, .inr (.inr (some 0)))] [] dM_103_7 (fun _ => rfl) (Or.inr rfl) ?_
  refine gs0 9 [(1, .inl n4), (0, .inr (.inr (some 0)))] [.inl 0] dM_103_8 (fun _ => rfl) (Or.inr rfl) ?_
  refine gs0 10 [(2, .inl 0), (1, .inl n4), (0, .inr (.inr (some 0)))] [] dM_103_9 (fun _ => rfl) (Or.inr rfl) ?_
  exact GoS.sub (Lnd_keys (ks := [0, 1, 2]) rfl (by decide)) (Lsub_cons rfl (Lsub_cons rfl (Lsub_cons rfl Lsub_nil))) hn
set_option maxRecDepth 100000 in
/-- GoalsInAQueue.row -/
theorem w_104 (sg : rSg) (x1 : Int32) {P : Option rv → rSg → Prop} (h :
    (0 ≤ x1 → 
      (127 < x1 → 
        EvS rSkel 1 72 [.inr (.inr (some 0)), .inl ((-6))] sg (fun v3 t4 => ∃ n6, v3 = some (.inl n6) ∧
          P (some (.inl n6)) t4)) ∧
      (¬ (127 < x1) → 
        EvS rSkel 1 14 [.inr (.inr (some 689))] sg (fun v7 t8 => ∃ n10, v7 = some (.inl n10) ∧
          (n10 = 0 → 
            EvS rSkel 1 15 [.inr (.inr (some 689)), .inl x1] t8 (fun v12 t13 => ∃ n15, v12 = some (.inl n15) ∧
              P (some (.inl n15)) t13)) ∧
          (¬ (n10 = 0) → 
            EvS rSkel 1 72 [.inr (.inr (some 0)), .inl ((-6))] t8 (fun v16 t17 => ∃ n19, v16 = some (.inl n19) ∧
              P (some (.inl n19)) t17))))) ∧
    (¬ (0 ≤ x1) → 
      EvS rSkel 1 72 [.inr (.inr (some 0)), .inl ((-4))] sg (fun v20 t21 => ∃ n23, v20 = some (.inl n23) ∧
        P (some (.inl n23)) t21))) : EvS rSkel 2 104 [.inr (.inr (some 0)), .inl x1] sg P := by
  refine EvS.of (ini := false) rfl ⟨rfl, Nat.le_of_ble_eq_true rfl⟩ rfl ?_
  show GoS rSkel 1 8 2 (some .int) false prog_1_method_21_code 0 [(0, .inr (.inr (some 0))), (1, .inl x1)] [] sg _
  refine gs0 1 [(0, .inr (.inr (some 0))), (1, .inl x1)] [.inl x1] dM_104_0 (fun _ => rfl) (Or.inr rfl) ?_
  refine gsIf (t := 11) (C := 0 ≤ x1) (r := []) dM_104_1 (fun _ => rfl) (Or.inr rfl) (rTest_iff .ge x1 0) (fun c1 => ?_) (fun c1 => ?_)
  · replace h := h.1 c1
    refine gs0 12 [(0, .inr (.inr (some 0))), (1, .inl x1)] [.inl x1] dM_104_11 (fun _ => rfl) (Or.inr rfl) ?_
    refine gs0 14 [(0, .inr (.inr (some 0))), (1, .inl x1)] [.inl 127, .inl x1] dM_104_12 (fun _ => rfl) (Or.inr rfl) ?_
    refine gsIf (t := 27) (C := 127 < x1) (r := []) dM_104_14 (fun _ => rfl) (Or.inr rfl) (rTest_iff .gt x1 127) (fun c2 => ?_) (fun c2 => ?_)
    · replace h := h.1 c2
      refine gs0 28 [(0, .inr (.inr (some 0))), (1, .inl x1)] [.inr (.inr (some 0))] dM_104_27 (fun _ => rfl) (Or.inr rfl) ?_
      refine gs0 30 [(0, .inr (.inr (some 0))), (1, .inl x1)] [.inl ((-6)), .inr (.inr (some 0))] dM_104_28 (fun _ => rfl) (Or.inr rfl) ?_
      refine gsCallV (y := 72) (k := 0) (as := [.inr (.inr (some 0)), .inl ((-6))]) (r := []) dM_104_30 rfl rfl rfl (Nat.le_of_ble_eq_true rfl) sk_0 rfl (Nat.le_of_ble_eq_true rfl) (EvS.up h (Nat.le_of_ble_eq_true rfl)) (fun v3 t4 hv5 => ?_)
      obtain ⟨n6, rfl, hn⟩ := hv5
      clear h
      show GoS _ _ _ _ _ _ _ _ [(0, .inr (.inr (some 0))), (1, .inl x1)] [.inl n6] t4 _
      refine gsRet (r := some (.inl n6)) dM_104_33 (fun _ => rfl) (Or.inr rfl) ?_
      exact hn
    · replace h := h.2 c2
      refine gs0 18 [(0, .inr (.inr (some 0))), (1, .inl x1)] [.inr (.inr (some 0))] dM_104_17 (fun _ => rfl) (Or.inr rfl) ?_
      refine gsGetR (some 689) dM_104_18 sk_0 rfl rfl ?_
      refine gsCallV (y := 14) (k := 689) (as := [.inr (.inr (some 689))]) (r := []) dM_104_21 rfl rfl rfl (Nat.le_of_ble_eq_true rfl) sk_689 rfl (Nat.le_of_ble_eq_true rfl) (EvS.up h (Nat.le_of_ble_eq_true rfl)) (fun v7 t8 hv9 => ?_)
      obtain ⟨n10, rfl, hn⟩ := hv9
      clear h
      show GoS _ _ _ _ _ _ _ _ [(0, .inr (.inr (some 0))), (1, .inl x1)] [.inl n10] t8 _
      refine gsIf (t := 34) (C := n10 = 0) (r := []) dM_104_24 (fun _ => rfl) (Or.inr rfl) (rTest_iff .eq n10 0) (fun c11 => ?_) (fun c11 => ?_)
      · replace hn := hn.1 c11
        refine gs0 35 [(0, .inr (.inr (some 0))), (1, .inl x1)] [.inr (.inr (some 0))] dM_104_34 (fun _ => rfl) (Or.inr rfl) ?_
        refine gsGetR (some 689) dM_104_35 sk_0 rfl rfl ?_
        refine gs0 39 [(0, .inr (.inr (some 0))), (1, .inl x1)] [.inl x1, .inr (.inr (some 689))] dM_104_38 (fun _ => rfl) (Or.inr rfl) ?_
        refine gsCallV (y := 15) (k := 689) (as := [.inr (.inr (some 689)), .inl x1]) (r := []) dM_104_39 rfl rfl rfl (Nat.le_of_ble_eq_true rfl) sk_689 rfl (Nat.le_of_ble_eq_true rfl) (EvS.up hn (Nat.le_of_ble_eq_true rfl)) (fun v12 t13 hv14 => ?_)
        obtain ⟨n15, rfl, hnn⟩ := hv14
        clear hn
        show GoS _ _ _ _ _ _ _ _ [(0, .inr (.inr (some 0))), (1, .inl x1)] [.inl n15] t13 _
        refine gsRet (r := some (.inl n15)) dM_104_42 (fun _ => rfl) (Or.inr rfl) ?_
        exact hnn
      · replace hn := hn.2 c11
        refine gs0 28 [(0, .inr (.inr (some 0))), (1, .inl x1)] [.inr (.inr (some 0))] dM_104_27 (fun _ => rfl) (Or.inr rfl) ?_
        refine gs0 30 [(0, .inr (.inr (some 0))), (1, .inl x1)] [.inl ((-6)), .inr (.inr (some 0))] dM_104_28 (fun _ => rfl) (Or.inr rfl) ?_
        refine gsCallV (y := 72) (k := 0) (as := [.inr (.inr (some 0)), .inl ((-6))]) (r := []) dM_104_30 rfl rfl rfl (Nat.le_of_ble_eq_true rfl) sk_0 rfl (Nat.le_of_ble_eq_true rfl) (EvS.up hn (Nat.le_of_ble_eq_true rfl)) (fun v16 t17 hv18 => ?_)
        obtain ⟨n19, rfl, hnn⟩ := hv18
        clear hn
        show GoS _ _ _ _ _ _ _ _ [(0, .inr (.inr (some 0))), (1, .inl x1)] [.inl n19] t17 _
        refine gsRet (r := some (.inl n19)) dM_104_33 (fun _ => rfl) (Or.inr rfl) ?_
        exact hnn
  · replace h := h.2 c1
    refine gs0 5 [(0, .inr (.inr (some 0))), (1, .inl x1)] [.inr (.inr (some 0))] dM_104_4 (fun _ => rfl) (Or.inr rfl) ?_
    refine gs0 7 [(0, .inr (.inr (some 0))), (1, .inl x1)] [.inl ((-4)), .inr (.inr (some 0))] dM_104_5 (fun _ => rfl) (Or.inr rfl) ?_
    refine gsCallV (y := 72) (k := 0) (as := [.inr (.inr (some 0)), .inl ((-4))]) (r := []) dM_104_7 rfl rfl rfl (Nat.le_of_ble_eq_true rfl) sk_0 rfl (Nat.le_of_ble_eq_true rfl) (EvS.up h (Nat.le_of_ble_eq_true rfl)) (fun v20 t21 hv22 => ?_)
    obtain ⟨n23, rfl, hn⟩ := hv22
    clear h
    show GoS _ _ _ _ _ _ _ _ [(0, .inr (.inr (some 0))), (1, .inl x1)] [.inl n23] t21 _
    refine gsRet (r := some (.inl n23)) dM_104_10 (fun _ => rfl) (Or.inr rfl) ?_
    exact hn
set_option maxRecDepth 100000 in
/-- GoalsInAQueue.judge -/
theorem w_105 (sg : rSg) (x1 : Int32) {P : Option rv → rSg → Prop} (h :
    EvS rSkel 1 81 [.inr (.inr (some 0)), .inl x1] sg (fun v1 t2 => ∃ n4, v1 = some (.inl n4) ∧
      (¬ n4 = 0 → 
        EvS rSkel 1 40 [.inr (.inr (some 6)), .inl x1] t2 (fun v6 t7 => ∃ q9, v6 = some (.inr (.inr (some q9))) ∧ isSt q9 ∧
          EvS rSkel 4 58 [.inr (.inr (some 682)), .inr (.inr (some 7)), .inr (.inr (some q9)), .inl 0] t7 (fun v11 t12 => v11 = none ∧
            EvS rSkel 2 103 [.inr (.inr (some 0))] t12 (fun v14 t15 => ∃ n17, v14 = some (.inl n17) ∧
              EvS rSkel 1 16 [.inr (.inr (some 689))] t15 (fun v18 t19 => ∃ n21, v18 = some (.inl n21) ∧
                (¬ n17 = n21 → 
                  EvS rSkel 1 18 [.inr (.inr (some 689))] t19 (fun v23 t24 => v23 = none ∧
                    P (some (.inl n17)) t24)) ∧
                (¬ (¬ n17 = n21) → 
                  (¬ n17 = (t19 682 3) → 
                    EvS rSkel 1 18 [.inr (.inr (some 689))] t19 (fun v28 t29 => v28 = none ∧
                      P (some (.inl n17)) t29)) ∧
                  (¬ (¬ n17 = (t19 682 3)) → 
                    EvS rSkel 1 18 [.inr (.inr (some 689))] t19 (fun v32 t33 => v32 = none ∧
                      P (some (.inl ((-9)))) t33)))))))) ∧
      (¬ (¬ n4 = 0) → 
        EvS rSkel 1 72 [.inr (.inr (some 0)), .inl ((-1))] t2 (fun v36 t37 => ∃ n39, v36 = some (.inl n39) ∧
          P (some (.inl n39)) t37)))) : EvS rSkel 5 105 [.inr (.inr (some 0)), .inl x1] sg P := by
  refine EvS.of (ini := false) rfl ⟨rfl, Nat.le_of_ble_eq_true rfl⟩ rfl ?_
  show GoS rSkel 4 8 4 (some .int) false prog_1_method_22_code 0 [(0, .inr (.inr (some 0))), (1, .inl x1)] [] sg _
  refine gs0 1 [(0, .inr (.inr (some 0))), (1, .inl x1)] [.inr (.inr (some 0))] dM_105_0 (fun _ => rfl) (Or.inr rfl) ?_
  refine gs0 2 [(0, .inr (.inr (some 0))), (1, .inl x1)] [.inl x1, .inr (.inr (some 0))] dM_105_1 (fun _ => rfl) (Or.inr rfl) ?_
  refine gsCallV (y := 81) (k := 0) (as := [.inr (.inr (some 0)), .inl x1]) (r := []) dM_105_2 rfl rfl rfl (Nat.le_of_ble_eq_true rfl) sk_0 rfl (Nat.le_of_ble_eq_true rfl) (EvS.up h (Nat.le_of_ble_eq_true rfl)) (fun v1 t2 hv3 => ?_)
  obtain ⟨n4, rfl, hn⟩ := hv3
  clear h
  show GoS _ _ _ _ _ _ _ _ [(0, .inr (.inr (some 0))), (1, .inl x1)] [.inl n4] t2 _
  refine gsIf (t := 14) (C := ¬ n4 = 0) (r := []) dM_105_5 (fun _ => rfl) (Or.inr rfl) (rTest_iff .ne n4 0) (fun c5 => ?_) (fun c5 => ?_)
  · replace hn := hn.1 c5
    refine gs0 15 [(0, .inr (.inr (some 0))), (1, .inl x1)] [.inr (.inr (some 0))] dM_105_14 (fun _ => rfl) (Or.inr rfl) ?_
    refine gsGetR (some 682) dM_105_15 sk_0 rfl rfl ?_
    refine gs0 19 [(0, .inr (.inr (some 0))), (1, .inl x1)] [.inr (.inr (some 0)), .inr (.inr (some 682))] dM_105_18 (fun _ => rfl) (Or.inr rfl) ?_
    refine gsGetR (some 6) dM_105_19 sk_0 rfl rfl ?_
    refine gsGetR (some 7) dM_105_22 sk_6 rfl rfl ?_
    refine gs0 26 [(0, .inr (.inr (some 0))), (1, .inl x1)] [.inr (.inr (some 0)), .inr (.inr (some 7)), .inr (.inr (some 682))] dM_105_25 (fun _ => rfl) (Or.inr rfl) ?_
    refine gsGetR (some 6) dM_105_26 sk_0 rfl rfl ?_
    refine gs0 30 [(0, .inr (.inr (some 0))), (1, .inl x1)] [.inl x1, .inr (.inr (some 6)), .inr (.inr (some 7)), .inr (.inr (some 682))] dM_105_29 (fun _ => rfl) (Or.inr rfl) ?_
    refine gsCallV (y := 40) (k := 6) (as := [.inr (.inr (some 6)), .inl x1]) (r := [.inr (.inr (some 7)), .inr (.inr (some 682))]) dM_105_30 rfl rfl rfl (Nat.le_of_ble_eq_true rfl) sk_6 rfl (Nat.le_of_ble_eq_true rfl) (EvS.up hn (Nat.le_of_ble_eq_true rfl)) (fun v6 t7 hv8 => ?_)
    obtain ⟨q9, rfl, hq10, hnn⟩ := hv8
    have b_q9 := hq10.1
    clear hn
    show GoS _ _ _ _ _ _ _ _ [(0, .inr (.inr (some 0))), (1, .inl x1)] [.inr (.inr (some q9)), .inr (.inr (some 7)), .inr (.inr (some 682))] t7 _
    refine gs0 34 [(0, .inr (.inr (some 0))), (1, .inl x1)] [.inl 0, .inr (.inr (some q9)), .inr (.inr (some 7)), .inr (.inr (some 682))] dM_105_33 (fun _ => rfl) (Or.inr rfl) ?_
    refine gsCallV (y := 58) (k := 682) (as := [.inr (.inr (some 682)), .inr (.inr (some 7)), .inr (.inr (some q9)), .inl 0]) (r := []) dM_105_34 rfl rfl rfl (Nat.le_of_ble_eq_true rfl) sk_682 rfl (Nat.le_of_ble_eq_true rfl) (EvS.up hnn (Nat.le_of_ble_eq_true rfl)) (fun v11 t12 hv13 => ?_)
    obtain ⟨rfl, hnnn⟩ := hv13
    clear hnn
    show GoS _ _ _ _ _ _ _ _ [(0, .inr (.inr (some 0))), (1, .inl x1)] [] t12 _
    refine gs0 38 [(0, .inr (.inr (some 0))), (1, .inl x1)] [.inr (.inr (some 0))] dM_105_37 (fun _ => rfl) (Or.inr rfl) ?_
    refine gsCallV (y := 103) (k := 0) (as := [.inr (.inr (some 0))]) (r := []) dM_105_38 rfl rfl rfl (Nat.le_of_ble_eq_true rfl) sk_0 rfl (Nat.le_of_ble_eq_true rfl) (EvS.up hnnn (Nat.le_of_ble_eq_true rfl)) (fun v14 t15 hv16 => ?_)
    obtain ⟨n17, rfl, hnnnn⟩ := hv16
    clear hnnn
    show GoS _ _ _ _ _ _ _ _ [(0, .inr (.inr (some 0))), (1, .inl x1)] [.inl n17] t15 _
    refine gs0 42 [(2, .inl n17), (0, .inr (.inr (some 0))), (1, .inl x1)] [] dM_105_41 (fun _ => rfl) (Or.inr rfl) ?_
    refine gs0 43 [(2, .inl n17), (0, .inr (.inr (some 0))), (1, .inl x1)] [.inl n17] dM_105_42 (fun _ => rfl) (Or.inr rfl) ?_
    refine gs0 44 [(2, .inl n17), (0, .inr (.inr (some 0))), (1, .inl x1)] [.inr (.inr (some 0)), .inl n17] dM_105_43 (fun _ => rfl) (Or.inr rfl) ?_
    refine gsGetR (some 689) dM_105_44 sk_0 rfl rfl ?_
    refine gsCallV (y := 16) (k := 689) (as := [.inr (.inr (some 689))]) (r := [.inl n17]) dM_105_47 rfl rfl rfl (Nat.le_of_ble_eq_true rfl) sk_689 rfl (Nat.le_of_ble_eq_true rfl) (EvS.up hnnnn (Nat.le_of_ble_eq_true rfl)) (fun v18 t19 hv20 => ?_)
    obtain ⟨n21, rfl, hnnnnn⟩ := hv20
    clear hnnnn
    show GoS _ _ _ _ _ _ _ _ [(2, .inl n17), (0, .inr (.inr (some 0))), (1, .inl x1)] [.inl n21, .inl n17] t19 _
    refine gsIf (t := 68) (C := ¬ n17 = n21) (r := []) dM_105_50 (fun _ => rfl) (Or.inr rfl) (rTest_iff .ne n17 n21) (fun c22 => ?_) (fun c22 => ?_)
    · replace hnnnnn := hnnnnn.1 c22
      refine gs0 69 [(2, .inl n17), (0, .inr (.inr (some 0))), (1, .inl x1)] [.inl 0] dM_105_68 (fun _ => rfl) (Or.inr rfl) ?_
      refine gs0 70 [(3, .inl 0), (2, .inl n17), (0, .inr (.inr (some 0))), (1, .inl x1)] [] dM_105_69 (fun _ => rfl) (Or.inr rfl) ?_
      refine gs0 71 [(3, .inl 0), (2, .inl n17), (0, .inr (.inr (some 0))), (1, .inl x1)] [.inr (.inr (some 0))] dM_105_70 (fun _ => rfl) (Or.inr rfl) ?_
      refine gsGetR (some 689) dM_105_71 sk_0 rfl rfl ?_
      refine gsCallV (y := 18) (k := 689) (as := [.inr (.inr (some 689))]) (r := []) dM_105_74 rfl rfl rfl (Nat.le_of_ble_eq_true rfl) sk_689 rfl (Nat.le_of_ble_eq_true rfl) (EvS.up hnnnnn (Nat.le_of_ble_eq_true rfl)) (fun v23 t24 hv25 => ?_)
      obtain ⟨rfl, hnnnnnn⟩ := hv25
      clear hnnnnn
      show GoS _ _ _ _ _ _ _ _ [(3, .inl 0), (2, .inl n17), (0, .inr (.inr (some 0))), (1, .inl x1)] [] t24 _
      refine gs0 78 [(3, .inl 0), (2, .inl n17), (0, .inr (.inr (some 0))), (1, .inl x1)] [.inl 0] dM_105_77 (fun _ => rfl) (Or.inr rfl) ?_
      refine gsIf (t := 86) (C := 0 = 0) (r := []) dM_105_78 (fun _ => rfl) (Or.inr rfl) (rTest_iff .eq 0 0) (fun c26 => ?_) (fun c26 => absurd (by decide) c26)
      refine gs0 87 [(3, .inl 0), (2, .inl n17), (0, .inr (.inr (some 0))), (1, .inl x1)] [.inl n17] dM_105_86 (fun _ => rfl) (Or.inr rfl) ?_
      refine gsRet (r := some (.inl n17)) dM_105_87 (fun _ => rfl) (Or.inr rfl) ?_
      exact hnnnnnn
    · replace hnnnnn := hnnnnn.2 c22
      refine gs0 54 [(2, .inl n17), (0, .inr (.inr (some 0))), (1, .inl x1)] [.inl n17] dM_105_53 (fun _ => rfl) (Or.inr rfl) ?_
      refine gs0 55 [(2, .inl n17), (0, .inr (.inr (some 0))), (1, .inl x1)] [.inr (.inr (some 0)), .inl n17] dM_105_54 (fun _ => rfl) (Or.inr rfl) ?_
      refine gsGetR (some 682) dM_105_55 sk_0 rfl rfl ?_
      refine gsGetE (t19 682 3) dM_105_58 sk_682 rfl rfl rfl ?_
      refine gsIf (t := 68) (C := ¬ n17 = (t19 682 3)) (r := []) dM_105_61 (fun _ => rfl) (Or.inr rfl) (rTest_iff .ne n17 (t19 682 3)) (fun c27 => ?_) (fun c27 => ?_)
      · replace hnnnnn := hnnnnn.1 c27
        refine gs0 69 [(2, .inl n17), (0, .inr (.inr (some 0))), (1, .inl x1)] [.inl 0] dM_105_68 (fun _ => rfl) (Or.inr rfl) ?_
        refine gs0 70 [(3, .inl 0), (2, .inl n17), (0, .inr (.inr (some 0))), (1, .inl x1)] [] dM_105_69 (fun _ => rfl) (Or.inr rfl) ?_
        refine gs0 71 [(3, .inl 0), (2, .inl n17), (0, .inr (.inr (some 0))), (1, .inl x1)] [.inr (.inr (some 0))] dM_105_70 (fun _ => rfl) (Or.inr rfl) ?_
        refine gsGetR (some 689) dM_105_71 sk_0 rfl rfl ?_
        refine gsCallV (y := 18) (k := 689) (as := [.inr (.inr (some 689))]) (r := []) dM_105_74 rfl rfl rfl (Nat.le_of_ble_eq_true rfl) sk_689 rfl (Nat.le_of_ble_eq_true rfl) (EvS.up hnnnnn (Nat.le_of_ble_eq_true rfl)) (fun v28 t29 hv30 => ?_)
        obtain ⟨rfl, hnnnnnn⟩ := hv30
        clear hnnnnn
        show GoS _ _ _ _ _ _ _ _ [(3, .inl 0), (2, .inl n17), (0, .inr (.inr (some 0))), (1, .inl x1)] [] t29 _
        refine gs0 78 [(3, .inl 0), (2, .inl n17), (0, .inr (.inr (some 0))), (1, .inl x1)] [.inl 0] dM_105_77 (fun _ => rfl) (Or.inr rfl) ?_
        refine gsIf (t := 86) (C := 0 = 0) (r := []) dM_105_78 (fun _ => rfl) (Or.inr rfl) (rTest_iff .eq 0 0) (fun c31 => ?_) (fun c31 => absurd (by decide) c31)
        refine gs0 87 [(3, .inl 0), (2, .inl n17), (0, .inr (.inr (some 0))), (1, .inl x1)] [.inl n17] dM_105_86 (fun _ => rfl) (Or.inr rfl) ?_
        refine gsRet (r := some (.inl n17)) dM_105_87 (fun _ => rfl) (Or.inr rfl) ?_
        exact hnnnnnn
      · replace hnnnnn := hnnnnn.2 c27
        refine gs0 65 [(2, .inl n17), (0, .inr (.inr (some 0))), (1, .inl x1)] [.inl 1] dM_105_64 (fun _ => rfl) (Or.inr rfl) ?_
        refine gs0 69 [(2, .inl n17), (0, .inr (.inr (some 0))), (1, .inl x1)] [.inl 1] dM_105_65 (fun _ => rfl) (Or.inr rfl) ?_
        refine gs0 70 [(3, .inl 1), (2, .inl n17), (0, .inr (.inr (some 0))), (1, .inl x1)] [] dM_105_69 (fun _ => rfl) (Or.inr rfl) ?_
        refine gs0 71 [(3, .inl 1), (2, .inl n17), (0, .inr (.inr (some 0))), (1, .inl x1)] [.inr (.inr (some 0))] dM_105_70 (fun _ => rfl) (Or.inr rfl) ?_
        refine gsGetR (some 689) dM_105_71 sk_0 rfl rfl ?_
        refine gsCallV (y := 18) (k := 689) (as := [.inr (.inr (some 689))]) (r := []) dM_105_74 rfl rfl rfl (Nat.le_of_ble_eq_true rfl) sk_689 rfl (Nat.le_of_ble_eq_true rfl) (EvS.up hnnnnn (Nat.le_of_ble_eq_true rfl)) (fun v32 t33 hv34 => ?_)
        obtain ⟨rfl, hnnnnnn⟩ := hv34
        clear hnnnnn
        show GoS _ _ _ _ _ _ _ _ [(3, .inl 1), (2, .inl n17), (0, .inr (.inr (some 0))), (1, .inl x1)] [] t33 _
        refine gs0 78 [(3, .inl 1), (2, .inl n17), (0, .inr (.inr (some 0))), (1, .inl x1)] [.inl 1] dM_105_77 (fun _ => rfl) (Or.inr rfl) ?_
        refine gsIf (t := 86) (C := 1 = 0) (r := []) dM_105_78 (fun _ => rfl) (Or.inr rfl) (rTest_iff .eq 1 0) (fun c35 => absurd c35 (by decide)) (fun c35 => ?_)
        refine gs0 83 [(3, .inl 1), (2, .inl n17), (0, .inr (.inr (some 0))), (1, .inl x1)] [.inl ((-9))] dM_105_81 (fun _ => rfl) (Or.inr rfl) ?_
        refine gs0 87 [(3, .inl 1), (2, .inl n17), (0, .inr (.inr (some 0))), (1, .inl x1)] [.inl ((-9))] dM_105_83 (fun _ => rfl) (Or.inr rfl) ?_
        refine gsRet (r := some (.inl ((-9)))) dM_105_87 (fun _ => rfl) (Or.inr rfl) ?_
        exact hnnnnnn
  · replace hn := hn.2 c5
    refine gs0 9 [(0, .inr (.inr (some 0))), (1, .inl x1)] [.inr (.inr (some 0))] dM_105_8 (fun _ => rfl) (Or.inr rfl) ?_
    refine gs0 10 [(0, .inr (.inr (some 0))), (1, .inl x1)] [.inl ((-1)), .inr (.inr (some 0))] dM_105_9 (fun _ => rfl) (Or.inr rfl) ?_
    refine gsCallV (y := 72) (k := 0) (as := [.inr (.inr (some 0)), .inl ((-1))]) (r := []) dM_105_10 rfl rfl rfl (Nat.le_of_ble_eq_true rfl) sk_0 rfl (Nat.le_of_ble_eq_true rfl) (EvS.up hn (Nat.le_of_ble_eq_true rfl)) (fun v36 t37 hv38 => ?_)
    obtain ⟨n39, rfl, hnn⟩ := hv38
    clear hn
    show GoS _ _ _ _ _ _ _ _ [(0, .inr (.inr (some 0))), (1, .inl x1)] [.inl n39] t37 _
    refine gsRet (r := some (.inl n39)) dM_105_13 (fun _ => rfl) (Or.inr rfl) ?_
    exact hnn
set_option maxRecDepth 100000 in
/-- GoalsInAQueue.clear -/
theorem w_106 (sg : rSg)  {P : Option rv → rSg → Prop} (h :
    EvS rSkel 1 16 [.inr (.inr (some 689))] sg (fun v1 t2 => ∃ n4, v1 = some (.inl n4) ∧
      EvS rSkel 1 18 [.inr (.inr (some 689))] t2 (fun v5 t6 => v5 = none ∧
        P (some (.inl n4)) t6))) : EvS rSkel 2 106 [.inr (.inr (some 0))] sg P := by
  refine EvS.of (ini := false) rfl ⟨rfl, Nat.le_of_ble_eq_true rfl⟩ rfl ?_
  show GoS rSkel 1 8 2 (some .int) false prog_1_method_23_code 0 [(0, .inr (.inr (some 0)))] [] sg _
  refine gs0 1 [(0, .inr (.inr (some 0)))] [.inr (.inr (some 0))] dM_106_0 (fun _ => rfl) (Or.inr rfl) ?_
  refine gsGetR (some 689) dM_106_1 sk_0 rfl rfl ?_
  refine gsCallV (y := 16) (k := 689) (as := [.inr (.inr (some 689))]) (r := []) dM_106_4 rfl rfl rfl (Nat.le_of_ble_eq_true rfl) sk_689 rfl (Nat.le_of_ble_eq_true rfl) (EvS.up h (Nat.le_of_ble_eq_true rfl)) (fun v1 t2 hv3 => ?_)
  obtain ⟨n4, rfl, hn⟩ := hv3
  clear h
  show GoS _ _ _ _ _ _ _ _ [(0, .inr (.inr (some 0)))] [.inl n4] t2 _
  refine gs0 8 [(1, .inl n4), (0, .inr (.inr (some 0)))] [] dM_106_7 (fun _ => rfl) (Or.inr rfl) ?_
  refine gs0 9 [(1, .inl n4), (0, .inr (.inr (some 0)))] [.inr (.inr (some 0))] dM_106_8 (fun _ => rfl) (Or.inr rfl) ?_
  refine gsGetR (some 689) dM_106_9 sk_0 rfl rfl ?_
  refine gsCallV (y := 18) (k := 689) (as := [.inr (.inr (some 689))]) (r := []) dM_106_12 rfl rfl rfl (Nat.le_of_ble_eq_true rfl) sk_689 rfl (Nat.le_of_ble_eq_true rfl) (EvS.up hn (Nat.le_of_ble_eq_true rfl)) (fun v5 t6 hv7 => ?_)
  obtain ⟨rfl, hnn⟩ := hv7
  clear hn
  show GoS _ _ _ _ _ _ _ _ [(1, .inl n4), (0, .inr (.inr (some 0)))] [] t6 _
  refine gs0 16 [(1, .inl n4), (0, .inr (.inr (some 0)))] [.inl n4] dM_106_15 (fun _ => rfl) (Or.inr rfl) ?_
  refine gsRet (r := some (.inl n4)) dM_106_16 (fun _ => rfl) (Or.inr rfl) ?_
  exact hnn
def g_107_58  (y1 : Int32) (y3 : Int32) (y4 : Int32) (y5 : Int32) (y6 : Int32) (sg : rSg) (P : Option rv → rSg → Prop) : Prop := GoS rSkel 5 8 7 (some .int) false prog_1_method_24_code 58 [(0, .inr (.inr (some 0))), (1, .inl y1), (3, .inl y3), (4, .inl y4), (5, .inl y5), (6, .inl y6)] [] sg P
set_option maxRecDepth 100000 in
theorem w_107_58 (sg : rSg)  (y1 : Int32) (y3 : Int32) (y4 : Int32) (y5 : Int32) (y6 : Int32) {P : Option rv → rSg → Prop} (h :
    (y1 ≤ y6 → 
      (¬ y3 = 0 → 
        P (some (.inl y5)) sg) ∧
      (¬ (¬ y3 = 0) → 
        P (some (.inl y4)) sg)) ∧
    (¬ (y1 ≤ y6) → 
      EvS rSkel 5 108 [.inr (.inr (some 0)), .inr (.inr (some 231)), .inr (.inr (some 448))] sg (fun v19 t20 => ∃ n22, v19 = some (.inl n22) ∧
        (n22 = 0 → 
          g_107_58 y1 y3 y4 y5 (y6 + 1) t20 P) ∧
        (¬ (n22 = 0) → 
          EvS rSkel 2 109 [.inr (.inr (some 448))] t20 (fun v24 t25 => ∃ n27, v24 = some (.inl n27) ∧
            g_107_58 y1 y3 (y4 + 1) (y5 + n27) (y6 + 1) t25 P))))) : g_107_58 y1 y3 y4 y5 y6 sg P := by
  show GoS rSkel 5 8 7 (some .int) false prog_1_method_24_code 58 [(0, .inr (.inr (some 0))), (1, .inl y1), (3, .inl y3), (4, .inl y4), (5, .inl y5), (6, .inl y6)] [] sg P
  refine gs0 60 [(0, .inr (.inr (some 0))), (1, .inl y1), (3, .inl y3), (4, .inl y4), (5, .inl y5), (6, .inl y6)] [.inl y6] dM_107_58 (fun _ => rfl) (Or.inr rfl) ?_
  refine gs0 61 [(0, .inr (.inr (some 0))), (1, .inl y1), (3, .inl y3), (4, .inl y4), (5, .inl y5), (6, .inl y6)] [.inl y1, .inl y6] dM_107_60 (fun _ => rfl) (Or.inr rfl) ?_
  refine gsIf (t := 109) (C := y1 ≤ y6) (r := []) dM_107_61 (fun _ => rfl) (Or.inr rfl) (rTest_iff .ge y6 y1) (fun c17 => ?_) (fun c17 => ?_)
  · replace h := h.1 c17
    refine gs0 110 [(0, .inr (.inr (some 0))), (1, .inl y1), (3, .inl y3), (4, .inl y4), (5, .inl y5), (6, .inl y6)] [.inl y3] dM_107_109 (fun _ => rfl) (Or.inr rfl) ?_
    refine gsIf (t := 118) (C := ¬ y3 = 0) (r := []) dM_107_110 (fun _ => rfl) (Or.inr rfl) (rTest_iff .ne y3 0) (fun c18 => ?_) (fun c18 => ?_)
    · replace h := h.1 c18
      refine gs0 120 [(0, .inr (.inr (some 0))), (1, .inl y1), (3, .inl y3), (4, .inl y4), (5, .inl y5), (6, .inl y6)] [.inl y5] dM_107_118 (fun _ => rfl) (Or.inr rfl) ?_
      refine gsRet (r := some (.inl y5)) dM_107_120 (fun _ => rfl) (Or.inr rfl) ?_
      exact h
    · replace h := h.2 c18
      refine gs0 115 [(0, .inr (.inr (some 0))), (1, .inl y1), (3, .inl y3), (4, .inl y4), (5, .inl y5), (6, .inl y6)] [.inl y4] dM_107_113 (fun _ => rfl) (Or.inr rfl) ?_
      refine gs0 120 [(0, .inr (.inr (some 0))), (1, .inl y1), (3, .inl y3), (4, .inl y4), (5, .inl y5), (6, .inl y6)] [.inl y4] dM_107_115 (fun _ => rfl) (Or.inr rfl) ?_
      refine gsRet (r := some (.inl y4)) dM_107_120 (fun _ => rfl) (Or.inr rfl) ?_
      exact h
  · replace h := h.2 c17
    refine gs0 65 [(0, .inr (.inr (some 0))), (1, .inl y1), (3, .inl y3), (4, .inl y4), (5, .inl y5), (6, .inl y6)] [.inr (.inr (some 0))] dM_107_64 (fun _ => rfl) (Or.inr rfl) ?_
    refine gs0 66 [(0, .inr (.inr (some 0))), (1, .inl y1), (3, .inl y3), (4, .inl y4), (5, .inl y5), (6, .inl y6)] [.inr (.inr (some 0)), .inr (.inr (some 0))] dM_107_65 (fun _ => rfl) (Or.inr rfl) ?_
    refine gsGetR (some 230) dM_107_66 sk_0 rfl rfl ?_
    refine gsGetR (some 231) dM_107_69 sk_230 rfl rfl ?_
    refine gs0 73 [(0, .inr (.inr (some 0))), (1, .inl y1), (3, .inl y3), (4, .inl y4), (5, .inl y5), (6, .inl y6)] [.inr (.inr (some 0)), .inr (.inr (some 231)), .inr (.inr (some 0))] dM_107_72 (fun _ => rfl) (Or.inr rfl) ?_
    refine gsGetR (some 230) dM_107_73 sk_0 rfl rfl ?_
    refine gsGetR (some 448) dM_107_76 sk_230 rfl rfl ?_
    refine gsCallV (y := 108) (k := 0) (as := [.inr (.inr (some 0)), .inr (.inr (some 231)), .inr (.inr (some 448))]) (r := []) dM_107_79 rfl rfl rfl (Nat.le_of_ble_eq_true rfl) sk_0 rfl (Nat.le_of_ble_eq_true rfl) (EvS.up h (Nat.le_of_ble_eq_true rfl)) (fun v19 t20 hv21 => ?_)
    obtain ⟨n22, rfl, hn⟩ := hv21
    clear h
    show GoS _ _ _ _ _ _ _ _ [(0, .inr (.inr (some 0))), (1, .inl y1), (3, .inl y3), (4, .inl y4), (5, .inl y5), (6, .inl y6)] [.inl n22] t20 _
    refine gsIf (t := 103) (C := n22 = 0) (r := []) dM_107_82 (fun _ => rfl) (Or.inr rfl) (rTest_iff .eq n22 0) (fun c23 => ?_) (fun c23 => ?_)
    · replace hn := hn.1 c23
      refine gs0 106 [(6, .inl (y6 + 1)), (0, .inr (.inr (some 0))), (1, .inl y1), (3, .inl y3), (4, .inl y4), (5, .inl y5)] [] dM_107_103 (fun _ => rfl) (Or.inr rfl) ?_
      refine gs0 58 [(6, .inl (y6 + 1)), (0, .inr (.inr (some 0))), (1, .inl y1), (3, .inl y3), (4, .inl y4), (5, .inl y5)] [] dM_107_106 (fun _ => rfl) (Or.inr rfl) ?_
      exact GoS.sub (Lnd_keys (ks := [0, 1, 3, 4, 5, 6]) rfl (by decide)) (Lsub_cons rfl (Lsub_cons rfl (Lsub_cons rfl (Lsub_cons rfl (Lsub_cons rfl (Lsub_cons rfl Lsub_nil)))))) hn
    · replace hn := hn.2 c23
      refine gs0 88 [(4, .inl (y4 + 1)), (0, .inr (.inr (some 0))), (1, .inl y1), (3, .inl y3), (5, .inl y5), (6, .inl y6)] [] dM_107_85 (fun _ => rfl) (Or.inr rfl) ?_
      refine gs0 90 [(4, .inl (y4 + 1)), (0, .inr (.inr (some 0))), (1, .inl y1), (3, .inl y3), (5, .inl y5), (6, .inl y6)] [.inl y5] dM_107_88 (fun _ => rfl) (Or.inr rfl) ?_
      refine gs0 91 [(4, .inl (y4 + 1)), (0, .inr (.inr (some 0))), (1, .inl y1), (3, .inl y3), (5, .inl y5), (6, .inl y6)] [.inr (.inr (some 0)), .inl y5] dM_107_90 (fun _ => rfl) (Or.inr rfl) ?_
      refine gsGetR (some 230) dM_107_91 sk_0 rfl rfl ?_
      refine gsGetR (some 448) dM_107_94 sk_230 rfl rfl ?_
      refine gsCallS (y := 109) (as := [.inr (.inr (some 448))]) (r := [.inl y5]) dM_107_97 rfl (Or.inl rfl) rfl rfl (Nat.le_of_ble_eq_true rfl) (EvS.up hn (Nat.le_of_ble_eq_true rfl)) (fun v24 t25 hv26 => ?_)
      obtain ⟨n27, rfl, hnn⟩ := hv26
      clear hn
      show GoS _ _ _ _ _ _ _ _ [(4, .inl (y4 + 1)), (0, .inr (.inr (some 0))), (1, .inl y1), (3, .inl y3), (5, .inl y5), (6, .inl y6)] [.inl n27, .inl y5] t25 _
      refine gs0 101 [(4, .inl (y4 + 1)), (0, .inr (.inr (some 0))), (1, .inl y1), (3, .inl y3), (5, .inl y5), (6, .inl y6)] [.inl (y5 + n27)] dM_107_100 (fun _ => rfl) (Or.inr rfl) ?_
      refine gs0 103 [(5, .inl (y5 + n27)), (4, .inl (y4 + 1)), (0, .inr (.inr (some 0))), (1, .inl y1), (3, .inl y3), (6, .inl y6)] [] dM_107_101 (fun _ => rfl) (Or.inr rfl) ?_
      refine gs0 106 [(6, .inl (y6 + 1)), (5, .inl (y5 + n27)), (4, .inl (y4 + 1)), (0, .inr (.inr (some 0))), (1, .inl y1), (3, .inl y3)] [] dM_107_103 (fun _ => rfl) (Or.inr rfl) ?_
      refine gs0 58 [(6, .inl (y6 + 1)), (5, .inl (y5 + n27)), (4, .inl (y4 + 1)), (0, .inr (.inr (some 0))), (1, .inl y1), (3, .inl y3)] [] dM_107_106 (fun _ => rfl) (Or.inr rfl) ?_
      exact GoS.sub (Lnd_keys (ks := [0, 1, 3, 4, 5, 6]) rfl (by decide)) (Lsub_cons rfl (Lsub_cons rfl (Lsub_cons rfl (Lsub_cons rfl (Lsub_cons rfl (Lsub_cons rfl Lsub_nil)))))) hnn
set_option maxRecDepth 100000 in
/-- GoalsInAQueue.lots -/
theorem w_107 (sg : rSg) (x1 : Int32) (x2 : Int32) (x3 : Int32) {P : Option rv → rSg → Prop} (h :
    (1 ≤ x1 → 
      (x1 ≤ 20 → 
        (x3 = 0 → 
          g_107_58 x1 x3 0 0 0 (up2 sg 686 0 x2) P) ∧
        (¬ (x3 = 0) → 
          (x3 = 1 → 
            g_107_58 x1 x3 0 0 0 (up2 sg 686 0 x2) P) ∧
          (¬ (x3 = 1) → 
            EvS rSkel 1 72 [.inr (.inr (some 0)), .inl ((-2))] sg (fun v5 t6 => ∃ n8, v5 = some (.inl n8) ∧
              P (some (.inl n8)) t6)))) ∧
      (¬ (x1 ≤ 20) → 
        EvS rSkel 1 72 [.inr (.inr (some 0)), .inl ((-6))] sg (fun v9 t10 => ∃ n12, v9 = some (.inl n12) ∧
          P (some (.inl n12)) t10))) ∧
    (¬ (1 ≤ x1) → 
      EvS rSkel 1 72 [.inr (.inr (some 0)), .inl ((-4))] sg (fun v13 t14 => ∃ n16, v13 = some (.inl n16) ∧
        P (some (.inl n16)) t14))) : EvS rSkel 6 107 [.inr (.inr (some 0)), .inl x1, .inl x2, .inl x3] sg P := by
  refine EvS.of (ini := false) rfl ⟨rfl, Nat.le_of_ble_eq_true rfl⟩ rfl ?_
  show GoS rSkel 5 8 7 (some .int) false prog_1_method_24_code 0 [(0, .inr (.inr (some 0))), (1, .inl x1), (2, .inl x2), (3, .inl x3)] [] sg _
  refine gs0 1 [(0, .inr (.inr (some 0))), (1, .inl x1), (2, .inl x2), (3, .inl x3)] [.inl x1] dM_107_0 (fun _ => rfl) (Or.inr rfl) ?_
  refine gs0 2 [(0, .inr (.inr (some 0))), (1, .inl x1), (2, .inl x2), (3, .inl x3)] [.inl 1, .inl x1] dM_107_1 (fun _ => rfl) (Or.inr rfl) ?_
  refine gsIf (t := 12) (C := 1 ≤ x1) (r := []) dM_107_2 (fun _ => rfl) (Or.inr rfl) (rTest_iff .ge x1 1) (fun c1 => ?_) (fun c1 => ?_)
  · replace h := h.1 c1
    refine gs0 13 [(0, .inr (.inr (some 0))), (1, .inl x1), (2, .inl x2), (3, .inl x3)] [.inl x1] dM_107_12 (fun _ => rfl) (Or.inr rfl) ?_
    refine gs0 15 [(0, .inr (.inr (some 0))), (1, .inl x1), (2, .inl x2), (3, .inl x3)] [.inl 20, .inl x1] dM_107_13 (fun _ => rfl) (Or.inr rfl) ?_
    refine gsIf (t := 25) (C := x1 ≤ 20) (r := []) dM_107_15 (fun _ => rfl) (Or.inr rfl) (rTest_iff .le x1 20) (fun c2 => ?_) (fun c2 => ?_)
    · replace h := h.1 c2
      refine gs0 26 [(0, .inr (.inr (some 0))), (1, .inl x1), (2, .inl x2), (3, .inl x3)] [.inl x3] dM_107_25 (fun _ => rfl) (Or.inr rfl) ?_
      refine gsIf (t := 41) (C := x3 = 0) (r := []) dM_107_26 (fun _ => rfl) (Or.inr rfl) (rTest_iff .eq x3 0) (fun c3 => ?_) (fun c3 => ?_)
      · replace h := h.1 c3
        refine gs0 42 [(0, .inr (.inr (some 0))), (1, .inl x1), (2, .inl x2), (3, .inl x3)] [.inr (.inr (some 0))] dM_107_41 (fun _ => rfl) (Or.inr rfl) ?_
        refine gsGetR (some 686) dM_107_42 sk_0 rfl rfl ?_
        refine gs0 46 [(0, .inr (.inr (some 0))), (1, .inl x1), (2, .inl x2), (3, .inl x3)] [.inl x2, .inr (.inr (some 686))] dM_107_45 (fun _ => rfl) (Or.inr rfl) ?_
        refine gsPut dM_107_46 sk_686 rfl rfl rfl (by decide) ?_
        refine gs0 50 [(0, .inr (.inr (some 0))), (1, .inl x1), (2, .inl x2), (3, .inl x3)] [.inl 0] dM_107_49 (fun _ => rfl) (Or.inr rfl) ?_
        refine gs0 52 [(4, .inl 0), (0, .inr (.inr (some 0))), (1, .inl x1), (2, .inl x2), (3, .inl x3)] [] dM_107_50 (fun _ => rfl) (Or.inr rfl) ?_
        refine gs0 53 [(4, .inl 0), (0, .inr (.inr (some 0))), (1, .inl x1), (2, .inl x2), (3, .inl x3)] [.inl 0] dM_107_52 (fun _ => rfl) (Or.inr rfl) ?_
        refine gs0 55 [(5, .inl 0), (4, .inl 0), (0, .inr (.inr (some 0))), (1, .inl x1), (2, .inl x2), (3, .inl x3)] [] dM_107_53 (fun _ => rfl) (Or.inr rfl) ?_
        refine gs0 56 [(5, .inl 0), (4, .inl 0), (0, .inr (.inr (some 0))), (1, .inl x1), (2, .inl x2), (3, .inl x3)] [.inl 0] dM_107_55 (fun _ => rfl) (Or.inr rfl) ?_
        refine gs0 58 [(6, .inl 0), (5, .inl 0), (4, .inl 0), (0, .inr (.inr (some 0))), (1, .inl x1), (2, .inl x2), (3, .inl x3)] [] dM_107_56 (fun _ => rfl) (Or.inr rfl) ?_
        exact GoS.sub (Lnd_keys (ks := [0, 1, 3, 4, 5, 6]) rfl (by decide)) (Lsub_cons rfl (Lsub_cons rfl (Lsub_cons rfl (Lsub_cons rfl (Lsub_cons rfl (Lsub_cons rfl Lsub_nil)))))) h
      · replace h := h.2 c3
        refine gs0 30 [(0, .inr (.inr (some 0))), (1, .inl x1), (2, .inl x2), (3, .inl x3)] [.inl x3] dM_107_29 (fun _ => rfl) (Or.inr rfl) ?_
        refine gs0 31 [(0, .inr (.inr (some 0))), (1, .inl x1), (2, .inl x2), (3, .inl x3)] [.inl 1, .inl x3] dM_107_30 (fun _ => rfl) (Or.inr rfl) ?_
        refine gsIf (t := 41) (C := x3 = 1) (r := []) dM_107_31 (fun _ => rfl) (Or.inr rfl) (rTest_iff .eq x3 1) (fun c4 => ?_) (fun c4 => ?_)
        · replace h := h.1 c4
          refine gs0 42 [(0, .inr (.inr (some 0))), (1, .inl x1), (2, .inl x2), (3, .inl x3)] [.inr (.inr (some 0))] dM_107_41 (fun _ => rfl) (Or.inr rfl) ?_
          refine gsGetR (some 686) dM_107_42 sk_0 rfl rfl ?_
          refine gs0 46 [(0, .inr (.inr (some 0))), (1, .inl x1), (2, .inl x2), (3, .inl x3)] [.inl x2, .inr (.inr (some 686))] dM_107_45 (fun _ => rfl) (Or.inr rfl) ?_
          refine gsPut dM_107_46 sk_686 rfl rfl rfl (by decide) ?_
          refine gs0 50 [(0, .inr (.inr (some 0))), (1, .inl x1), (2, .inl x2), (3, .inl x3)] [.inl 0] dM_107_49 (fun _ => rfl) (Or.inr rfl) ?_
          refine gs0 52 [(4, .inl 0), (0, .inr (.inr (some 0))), (1, .inl x1), (2, .inl x2), (3, .inl x3)] [] dM_107_50 (fun _ => rfl) (Or.inr rfl) ?_
          refine gs0 53 [(4, .inl 0), (0, .inr (.inr (some 0))), (1, .inl x1), (2, .inl x2), (3, .inl x3)] [.inl 0] dM_107_52 (fun _ => rfl) (Or.inr rfl) ?_
          refine gs0 55 [(5, .inl 0), (4, .inl 0), (0, .inr (.inr (some 0))), (1, .inl x1), (2, .inl x2), (3, .inl x3)] [] dM_107_53 (fun _ => rfl) (Or.inr rfl) ?_
          refine gs0 56 [(5, .inl 0), (4, .inl 0), (0, .inr (.inr (some 0))), (1, .inl x1), (2, .inl x2), (3, .inl x3)] [.inl 0] dM_107_55 (fun _ => rfl) (Or.inr rfl) ?_
          refine gs0 58 [(6, .inl 0), (5, .inl 0), (4, .inl 0), (0, .inr (.inr (some 0))), (1, .inl x1), (2, .inl x2), (3, .inl x3)] [] dM_107_56 (fun _ => rfl) (Or.inr rfl) ?_
          exact GoS.sub (Lnd_keys (ks := [0, 1, 3, 4, 5, 6]) rfl (by decide)) (Lsub_cons rfl (Lsub_cons rfl (Lsub_cons rfl (Lsub_cons rfl (Lsub_cons rfl (Lsub_cons rfl Lsub_nil)))))) h
        · replace h := h.2 c4
          refine gs0 35 [(0, .inr (.inr (some 0))), (1, .inl x1), (2, .inl x2), (3, .inl x3)] [.inr (.inr (some 0))] dM_107_34 (fun _ => rfl) (Or.inr rfl) ?_
          refine gs0 37 [(0, .inr (.inr (some 0))), (1, .inl x1), (2, .inl x2), (3, .inl x3)] [.inl ((-2)), .inr (.inr (some 0))] dM_107_35 (fun _ => rfl) (Or.inr rfl) ?_
          refine gsCallV (y := 72) (k := 0) (as := [.inr (.inr (some 0)), .inl ((-2))]) (r := []) dM_107_37 rfl rfl rfl (Nat.le_of_ble_eq_true rfl) sk_0 rfl (Nat.le_of_ble_eq_true rfl) (EvS.up h (Nat.le_of_ble_eq_true rfl)) (fun v5 t6 hv7 => ?_)
          obtain ⟨n8, rfl, hn⟩ := hv7
          clear h
          show GoS _ _ _ _ _ _ _ _ [(0, .inr (.inr (some 0))), (1, .inl x1), (2, .inl x2), (3, .inl x3)] [.inl n8] t6 _
          refine gsRet (r := some (.inl n8)) dM_107_40 (fun _ => rfl) (Or.inr rfl) ?_
          exact hn
    · replace h := h.2 c2
      refine gs0 19 [(0, .inr (.inr (some 0))), (1, .inl x1), (2, .inl x2), (3, .inl x3)] [.inr (.inr (some 0))] dM_107_18 (fun _ => rfl) (Or.inr rfl) ?_
      refine gs0 21 [(0, .inr (.inr (some 0))), (1, .inl x1), (2, .inl x2), (3, .inl x3)] [.inl ((-6)), .inr (.inr (some 0))] dM_107_19 (fun _ => rfl) (Or.inr rfl) ?_
      refine gsCallV (y := 72) (k := 0) (as := [.inr (.inr (some 0)), .inl ((-6))]) (r := []) dM_107_21 rfl rfl rfl (Nat.le_of_ble_eq_true rfl) sk_0 rfl (Nat.le_of_ble_eq_true rfl) (EvS.up h (Nat.le_of_ble_eq_true rfl)) (fun v9 t10 hv11 => ?_)
      obtain ⟨n12, rfl, hn⟩ := hv11
      clear h
      show GoS _ _ _ _ _ _ _ _ [(0, .inr (.inr (some 0))), (1, .inl x1), (2, .inl x2), (3, .inl x3)] [.inl n12] t10 _
      refine gsRet (r := some (.inl n12)) dM_107_24 (fun _ => rfl) (Or.inr rfl) ?_
      exact hn
  · replace h := h.2 c1
    refine gs0 6 [(0, .inr (.inr (some 0))), (1, .inl x1), (2, .inl x2), (3, .inl x3)] [.inr (.inr (some 0))] dM_107_5 (fun _ => rfl) (Or.inr rfl) ?_
    refine gs0 8 [(0, .inr (.inr (some 0))), (1, .inl x1), (2, .inl x2), (3, .inl x3)] [.inl ((-4)), .inr (.inr (some 0))] dM_107_6 (fun _ => rfl) (Or.inr rfl) ?_
    refine gsCallV (y := 72) (k := 0) (as := [.inr (.inr (some 0)), .inl ((-4))]) (r := []) dM_107_8 rfl rfl rfl (Nat.le_of_ble_eq_true rfl) sk_0 rfl (Nat.le_of_ble_eq_true rfl) (EvS.up h (Nat.le_of_ble_eq_true rfl)) (fun v13 t14 hv15 => ?_)
    obtain ⟨n16, rfl, hn⟩ := hv15
    clear h
    show GoS _ _ _ _ _ _ _ _ [(0, .inr (.inr (some 0))), (1, .inl x1), (2, .inl x2), (3, .inl x3)] [.inl n16] t14 _
    refine gsRet (r := some (.inl n16)) dM_107_11 (fun _ => rfl) (Or.inr rfl) ?_
    exact hn
def g_108_13 (s : Nat) (k : Nat) (y3 : Int32) (y4 : Int32) (sg : rSg) (P : Option rv → rSg → Prop) : Prop := GoS rSkel 4 8 7 (some .boolean) false prog_1_method_42_code 13 [(0, .inr (.inr (some 0))), (1, .inr (.inr (some s))), (2, .inr (.inr (some k))), (3, .inl y3), (4, .inl y4)] [] sg P
set_option maxRecDepth 100000 in
theorem w_108_13 (sg : rSg) (s : Nat) (hs : isScr s) (k : Nat) (hk : isSt k) (y3 : Int32) (y4 : Int32) {P : Option rv → rSg → Prop} (h :
    (4 ≤ y4 → 
      (rBool y3 = true ∧
      P (some (.inl y3)) sg)) ∧
    (¬ (4 ≤ y4) → 
      EvS rSkel 3 1 [.inr (.inr (some 686)), .inr (.inr (some s))] sg (fun v8 t9 => ∃ n11, v8 = some (.inl n11) ∧
        EvS rSkel 3 1 [.inr (.inr (some 686)), .inr (.inr (some s))] t9 (fun v12 t13 => ∃ n15, v12 = some (.inl n15) ∧
          (y3 = 0 → 
            g_108_13 s k 0 (y4 + 1) t13 P) ∧
          (¬ (y3 = 0) → 
            EvS rSkel 4 65 [.inr (.inr (some 1)), .inr (.inr (some s)), .inr (.inr (some (k + 1))), .inl n11, .inl n15] t13 (fun v17 t18 => ∃ n20, v17 = some (.inl n20) ∧
              (n20 = 0 → 
                g_108_13 s k 0 (y4 + 1) t18 P) ∧
              (¬ (n20 = 0) → 
                g_108_13 s k 1 (y4 + 1) t18 P))))))) : g_108_13 s k y3 y4 sg P := by
  show GoS rSkel 4 8 7 (some .boolean) false prog_1_method_42_code 13 [(0, .inr (.inr (some 0))), (1, .inr (.inr (some s))), (2, .inr (.inr (some k))), (3, .inl y3), (4, .inl y4)] [] sg P
  have b_s := hs.1
  have b_k := hk.1
  refine gs0 15 [(0, .inr (.inr (some 0))), (1, .inr (.inr (some s))), (2, .inr (.inr (some k))), (3, .inl y3), (4, .inl y4)] [.inl y4] dM_108_13 (fun _ => rfl) (Or.inr rfl) ?_
  refine gs0 16 [(0, .inr (.inr (some 0))), (1, .inr (.inr (some s))), (2, .inr (.inr (some k))), (3, .inl y3), (4, .inl y4)] [.inl 4, .inl y4] dM_108_15 (fun _ => rfl) (Or.inr rfl) ?_
  refine gsIf (t := 74) (C := 4 ≤ y4) (r := []) dM_108_16 (fun _ => rfl) (Or.inr rfl) (rTest_iff .ge y4 4) (fun c7 => ?_) (fun c7 => ?_)
  · replace h := h.1 c7
    refine gs0 75 [(0, .inr (.inr (some 0))), (1, .inr (.inr (some s))), (2, .inr (.inr (some k))), (3, .inl y3), (4, .inl y4)] [.inl y3] dM_108_74 (fun _ => rfl) (Or.inr rfl) ?_
    refine gsRet (r := some (.inl y3)) dM_108_75 (fun _ => rRetB h.1) (Or.inr rfl) ?_
    replace h := h.2
    exact h
  · replace h := h.2 c7
    refine gs0 20 [(0, .inr (.inr (some 0))), (1, .inr (.inr (some s))), (2, .inr (.inr (some k))), (3, .inl y3), (4, .inl y4)] [.inr (.inr (some 0))] dM_108_19 (fun _ => rfl) (Or.inr rfl) ?_
    refine gsGetR (some 686) dM_108_20 sk_0 rfl rfl ?_
    refine gs0 24 [(0, .inr (.inr (some 0))), (1, .inr (.inr (some s))), (2, .inr (.inr (some k))), (3, .inl y3), (4, .inl y4)] [.inr (.inr (some s)), .inr (.inr (some 686))] dM_108_23 (fun _ => rfl) (Or.inr rfl) ?_
    refine gsCallV (y := 1) (k := 686) (as := [.inr (.inr (some 686)), .inr (.inr (some s))]) (r := []) dM_108_24 rfl rfl rfl (Nat.le_of_ble_eq_true rfl) sk_686 rfl (Nat.le_of_ble_eq_true rfl) (EvS.up h (Nat.le_of_ble_eq_true rfl)) (fun v8 t9 hv10 => ?_)
    obtain ⟨n11, rfl, hn⟩ := hv10
    clear h
    show GoS _ _ _ _ _ _ _ _ [(0, .inr (.inr (some 0))), (1, .inr (.inr (some s))), (2, .inr (.inr (some k))), (3, .inl y3), (4, .inl y4)] [.inl n11] t9 _
    refine gs0 29 [(5, .inl n11), (0, .inr (.inr (some 0))), (1, .inr (.inr (some s))), (2, .inr (.inr (some k))), (3, .inl y3), (4, .inl y4)] [] dM_108_27 (fun _ => rfl) (Or.inr rfl) ?_
    refine gs0 30 [(5, .inl n11), (0, .inr (.inr (some 0))), (1, .inr (.inr (some s))), (2, .inr (.inr (some k))), (3, .inl y3), (4, .inl y4)] [.inr (.inr (some 0))] dM_108_29 (fun _ => rfl) (Or.inr rfl) ?_
    refine gsGetR (some 686) dM_108_30 sk_0 rfl rfl ?_
    refine gs0 34 [(5, .inl n11), (0, .inr (.inr (some 0))), (1, .inr (.inr (some s))), (2, .inr (.inr (some k))), (3, .inl y3), (4, .inl y4)] [.inr (.inr (some s)), .inr (.inr (some 686))] dM_108_33 (fun _ => rfl) (Or.inr rfl) ?_
    refine gsCallV (y := 1) (k := 686) (as := [.inr (.inr (some 686)), .inr (.inr (some s))]) (r := []) dM_108_34 rfl rfl rfl (Nat.le_of_ble_eq_true rfl) sk_686 rfl (Nat.le_of_ble_eq_true rfl) (EvS.up hn (Nat.le_of_ble_eq_true rfl)) (fun v12 t13 hv14 => ?_)
    obtain ⟨n15, rfl, hnn⟩ := hv14
    clear hn
    show GoS _ _ _ _ _ _ _ _ [(5, .inl n11), (0, .inr (.inr (some 0))), (1, .inr (.inr (some s))), (2, .inr (.inr (some k))), (3, .inl y3), (4, .inl y4)] [.inl n15] t13 _
    refine gs0 39 [(6, .inl n15), (5, .inl n11), (0, .inr (.inr (some 0))), (1, .inr (.inr (some s))), (2, .inr (.inr (some k))), (3, .inl y3), (4, .inl y4)] [] dM_108_37 (fun _ => rfl) (Or.inr rfl) ?_
    refine gs0 40 [(6, .inl n15), (5, .inl n11), (0, .inr (.inr (some 0))), (1, .inr (.inr (some s))), (2, .inr (.inr (some k))), (3, .inl y3), (4, .inl y4)] [.inl y3] dM_108_39 (fun _ => rfl) (Or.inr rfl) ?_
    refine gsIf (t := 66) (C := y3 = 0) (r := []) dM_108_40 (fun _ => rfl) (Or.inr rfl) (rTest_iff .eq y3 0) (fun c16 => ?_) (fun c16 => ?_)
    · replace hnn := hnn.1 c16
      refine gs0 67 [(6, .inl n15), (5, .inl n11), (0, .inr (.inr (some 0))), (1, .inr (.inr (some s))), (2, .inr (.inr (some k))), (3, .inl y3), (4, .inl y4)] [.inl 0] dM_108_66 (fun _ => rfl) (Or.inr rfl) ?_
      refine gs0 68 [(3, .inl 0), (6, .inl n15), (5, .inl n11), (0, .inr (.inr (some 0))), (1, .inr (.inr (some s))), (2, .inr (.inr (some k))), (4, .inl y4)] [] dM_108_67 (fun _ => rfl) (Or.inr rfl) ?_
      refine gs0 71 [(4, .inl (y4 + 1)), (3, .inl 0), (6, .inl n15), (5, .inl n11), (0, .inr (.inr (some 0))), (1, .inr (.inr (some s))), (2, .inr (.inr (some k)))] [] dM_108_68 (fun _ => rfl) (Or.inr rfl) ?_
      refine gs0 13 [(4, .inl (y4 + 1)), (3, .inl 0), (6, .inl n15), (5, .inl n11), (0, .inr (.inr (some 0))), (1, .inr (.inr (some s))), (2, .inr (.inr (some k)))] [] dM_108_71 (fun _ => rfl) (Or.inr rfl) ?_
      exact GoS.sub (Lnd_keys (ks := [0, 1, 2, 3, 4]) rfl (by decide)) (Lsub_cons rfl (Lsub_cons rfl (Lsub_cons rfl (Lsub_cons rfl (Lsub_cons rfl Lsub_nil))))) hnn
    · replace hnn := hnn.2 c16
      refine gs0 44 [(6, .inl n15), (5, .inl n11), (0, .inr (.inr (some 0))), (1, .inr (.inr (some s))), (2, .inr (.inr (some k))), (3, .inl y3), (4, .inl y4)] [.inr (.inr (some 0))] dM_108_43 (fun _ => rfl) (Or.inr rfl) ?_
      refine gsGetR (some 1) dM_108_44 sk_0 rfl rfl ?_
      refine gs0 48 [(6, .inl n15), (5, .inl n11), (0, .inr (.inr (some 0))), (1, .inr (.inr (some s))), (2, .inr (.inr (some k))), (3, .inl y3), (4, .inl y4)] [.inr (.inr (some s)), .inr (.inr (some 1))] dM_108_47 (fun _ => rfl) (Or.inr rfl) ?_
      refine gs0 49 [(6, .inl n15), (5, .inl n11), (0, .inr (.inr (some 0))), (1, .inr (.inr (some s))), (2, .inr (.inr (some k))), (3, .inl y3), (4, .inl y4)] [.inr (.inr (some k)), .inr (.inr (some s)), .inr (.inr (some 1))] dM_108_48 (fun _ => rfl) (Or.inr rfl) ?_
      refine gsGetR (some (k + 1)) dM_108_49 hk.2.1 rfl rfl ?_
      refine gs0 54 [(6, .inl n15), (5, .inl n11), (0, .inr (.inr (some 0))), (1, .inr (.inr (some s))), (2, .inr (.inr (some k))), (3, .inl y3), (4, .inl y4)] [.inl n11, .inr (.inr (some (k + 1))), .inr (.inr (some s)), .inr (.inr (some 1))] dM_108_52 (fun _ => rfl) (Or.inr rfl) ?_
      refine gs0 56 [(6, .inl n15), (5, .inl n11), (0, .inr (.inr (some 0))), (1, .inr (.inr (some s))), (2, .inr (.inr (some k))), (3, .inl y3), (4, .inl y4)] [.inl n15, .inl n11, .inr (.inr (some (k + 1))), .inr (.inr (some s)), .inr (.inr (some 1))] dM_108_54 (fun _ => rfl) (Or.inr rfl) ?_
      refine gsCallV (y := 65) (k := 1) (as := [.inr (.inr (some 1)), .inr (.inr (some s)), .inr (.inr (some (k + 1))), .inl n11, .inl n15]) (r := []) dM_108_56 rfl rfl rfl (Nat.le_of_ble_eq_true rfl) sk_1 rfl (Nat.le_of_ble_eq_true rfl) (EvS.up hnn (Nat.le_of_ble_eq_true rfl)) (fun v17 t18 hv19 => ?_)
      obtain ⟨n20, rfl, hnnn⟩ := hv19
      clear hnn
      show GoS _ _ _ _ _ _ _ _ [(6, .inl n15), (5, .inl n11), (0, .inr (.inr (some 0))), (1, .inr (.inr (some s))), (2, .inr (.inr (some k))), (3, .inl y3), (4, .inl y4)] [.inl n20] t18 _
      refine gsIf (t := 66) (C := n20 = 0) (r := []) dM_108_59 (fun _ => rfl) (Or.inr rfl) (rTest_iff .eq n20 0) (fun c21 => ?_) (fun c21 => ?_)
      · replace hnnn := hnnn.1 c21
        refine gs0 67 [(6, .inl n15), (5, .inl n11), (0, .inr (.inr (some 0))), (1, .inr (.inr (some s))), (2, .inr (.inr (some k))), (3, .inl y3), (4, .inl y4)] [.inl 0] dM_108_66 (fun _ => rfl) (Or.inr rfl) ?_
        refine gs0 68 [(3, .inl 0), (6, .inl n15), (5, .inl n11), (0, .inr (.inr (some 0))), (1, .inr (.inr (some s))), (2, .inr (.inr (some k))), (4, .inl y4)] [] dM_108_67 (fun _ => rfl) (Or.inr rfl) ?_
        refine gs0 71 [(4, .inl (y4 + 1)), (3, .inl 0), (6, .inl n15), (5, .inl n11), (0, .inr (.inr (some 0))), (1, .inr (.inr (some s))), (2, .inr (.inr (some k)))] [] dM_108_68 (fun _ => rfl) (Or.inr rfl) ?_
        refine gs0 13 [(4, .inl (y4 + 1)), (3, .inl 0), (6, .inl n15), (5, .inl n11), (0, .inr (.inr (some 0))), (1, .inr (.inr (some s))), (2, .inr (.inr (some k)))] [] dM_108_71 (fun _ => rfl) (Or.inr rfl) ?_
        exact GoS.sub (Lnd_keys (ks := [0, 1, 2, 3, 4]) rfl (by decide)) (Lsub_cons rfl (Lsub_cons rfl (Lsub_cons rfl (Lsub_cons rfl (Lsub_cons rfl Lsub_nil))))) hnnn
      · replace hnnn := hnnn.2 c21
        refine gs0 63 [(6, .inl n15), (5, .inl n11), (0, .inr (.inr (some 0))), (1, .inr (.inr (some s))), (2, .inr (.inr (some k))), (3, .inl y3), (4, .inl y4)] [.inl 1] dM_108_62 (fun _ => rfl) (Or.inr rfl) ?_
        refine gs0 67 [(6, .inl n15), (5, .inl n11), (0, .inr (.inr (some 0))), (1, .inr (.inr (some s))), (2, .inr (.inr (some k))), (3, .inl y3), (4, .inl y4)] [.inl 1] dM_108_63 (fun _ => rfl) (Or.inr rfl) ?_
        refine gs0 68 [(3, .inl 1), (6, .inl n15), (5, .inl n11), (0, .inr (.inr (some 0))), (1, .inr (.inr (some s))), (2, .inr (.inr (some k))), (4, .inl y4)] [] dM_108_67 (fun _ => rfl) (Or.inr rfl) ?_
        refine gs0 71 [(4, .inl (y4 + 1)), (3, .inl 1), (6, .inl n15), (5, .inl n11), (0, .inr (.inr (some 0))), (1, .inr (.inr (some s))), (2, .inr (.inr (some k)))] [] dM_108_68 (fun _ => rfl) (Or.inr rfl) ?_
        refine gs0 13 [(4, .inl (y4 + 1)), (3, .inl 1), (6, .inl n15), (5, .inl n11), (0, .inr (.inr (some 0))), (1, .inr (.inr (some s))), (2, .inr (.inr (some k)))] [] dM_108_71 (fun _ => rfl) (Or.inr rfl) ?_
        exact GoS.sub (Lnd_keys (ks := [0, 1, 2, 3, 4]) rfl (by decide)) (Lsub_cons rfl (Lsub_cons rfl (Lsub_cons rfl (Lsub_cons rfl (Lsub_cons rfl Lsub_nil))))) hnnn
set_option maxRecDepth 100000 in
/-- GoalsInAQueue.lotHolds -/
theorem w_108 (sg : rSg) (s : Nat) (hs : isScr s) (k : Nat) (hk : isSt k) {P : Option rv → rSg → Prop} (h :
    EvS rSkel 1 20 [.inr (.inr (some s))] sg (fun v1 t2 => v1 = none ∧
      EvS rSkel 2 51 [.inr (.inr (some k))] t2 (fun v4 t5 => v4 = none ∧
        g_108_13 s k 1 0 t5 P))) : EvS rSkel 5 108 [.inr (.inr (some 0)), .inr (.inr (some s)), .inr (.inr (some k))] sg P := by
  refine EvS.of (ini := false) rfl ⟨rfl, Nat.le_of_ble_eq_true rfl⟩ rfl ?_
  show GoS rSkel 4 8 7 (some .boolean) false prog_1_method_42_code 0 [(0, .inr (.inr (some 0))), (1, .inr (.inr (some s))), (2, .inr (.inr (some k)))] [] sg _
  have b_s := hs.1
  have b_k := hk.1
  refine gs0 1 [(0, .inr (.inr (some 0))), (1, .inr (.inr (some s))), (2, .inr (.inr (some k)))] [.inr (.inr (some s))] dM_108_0 (fun _ => rfl) (Or.inr rfl) ?_
  refine gsCallV (y := 20) (k := s) (as := [.inr (.inr (some s))]) (r := []) dM_108_1 rfl rfl rfl (Nat.le_of_ble_eq_true rfl) hs.2.1 rfl (Nat.le_of_ble_eq_true rfl) (EvS.up h (Nat.le_of_ble_eq_true rfl)) (fun v1 t2 hv3 => ?_)
  obtain ⟨rfl, hn⟩ := hv3
  clear h
  show GoS _ _ _ _ _ _ _ _ [(0, .inr (.inr (some 0))), (1, .inr (.inr (some s))), (2, .inr (.inr (some k)))] [] t2 _
  refine gs0 5 [(0, .inr (.inr (some 0))), (1, .inr (.inr (some s))), (2, .inr (.inr (some k)))] [.inr (.inr (some k))] dM_108_4 (fun _ => rfl) (Or.inr rfl) ?_
  refine gsCallV (y := 51) (k := k) (as := [.inr (.inr (some k))]) (r := []) dM_108_5 rfl rfl rfl (Nat.le_of_ble_eq_true rfl) hk.2.1 rfl (Nat.le_of_ble_eq_true rfl) (EvS.up hn (Nat.le_of_ble_eq_true rfl)) (fun v4 t5 hv6 => ?_)
  obtain ⟨rfl, hnn⟩ := hv6
  clear hn
  show GoS _ _ _ _ _ _ _ _ [(0, .inr (.inr (some 0))), (1, .inr (.inr (some s))), (2, .inr (.inr (some k)))] [] t5 _
  refine gs0 9 [(0, .inr (.inr (some 0))), (1, .inr (.inr (some s))), (2, .inr (.inr (some k)))] [.inl 1] dM_108_8 (fun _ => rfl) (Or.inr rfl) ?_
  refine gs0 10 [(3, .inl 1), (0, .inr (.inr (some 0))), (1, .inr (.inr (some s))), (2, .inr (.inr (some k)))] [] dM_108_9 (fun _ => rfl) (Or.inr rfl) ?_
  refine gs0 11 [(3, .inl 1), (0, .inr (.inr (some 0))), (1, .inr (.inr (some s))), (2, .inr (.inr (some k)))] [.inl 0] dM_108_10 (fun _ => rfl) (Or.inr rfl) ?_
  refine gs0 13 [(4, .inl 0), (3, .inl 1), (0, .inr (.inr (some 0))), (1, .inr (.inr (some s))), (2, .inr (.inr (some k)))] [] dM_108_11 (fun _ => rfl) (Or.inr rfl) ?_
  exact GoS.sub (Lnd_keys (ks := [0, 1, 2, 3, 4]) rfl (by decide)) (Lsub_cons rfl (Lsub_cons rfl (Lsub_cons rfl (Lsub_cons rfl (Lsub_cons rfl Lsub_nil))))) hnn
def g_109_4 (k : Nat) (y1 : Int32) (y2 : Int32) (sg : rSg) (P : Option rv → rSg → Prop) : Prop := GoS rSkel 1 8 3 (some .int) false prog_1_method_43_code 4 [(0, .inr (.inr (some k))), (1, .inl y1), (2, .inl y2)] [] sg P
set_option maxRecDepth 100000 in
theorem w_109_4 (sg : rSg) (k : Nat) (hk : isSt k) (y1 : Int32) (y2 : Int32) {P : Option rv → rSg → Prop} (h :
    (6 ≤ y2 → 
      P (some (.inl y1)) sg) ∧
    (¬ (6 ≤ y2) → 
      EvS rSkel 1 76 [.inr (.inr (some (k + 1))), .inl y2] sg (fun v2 t3 => ∃ n5, v2 = some (.inl n5) ∧
        EvS rSkel 1 77 [.inl n5] t3 (fun v6 t7 => ∃ n9, v6 = some (.inl n9) ∧
          (¬ n9 = 0 → 
            g_109_4 k y1 (y2 + 1) t7 P) ∧
          (¬ (¬ n9 = 0) → 
            g_109_4 k (y1 + 1) (y2 + 1) t7 P))))) : g_109_4 k y1 y2 sg P := by
  show GoS rSkel 1 8 3 (some .int) false prog_1_method_43_code 4 [(0, .inr (.inr (some k))), (1, .inl y1), (2, .inl y2)] [] sg P
  have b_k := hk.1
  refine gs0 5 [(0, .inr (.inr (some k))), (1, .inl y1), (2, .inl y2)] [.inl y2] dM_109_4 (fun _ => rfl) (Or.inr rfl) ?_
  refine gs0 7 [(0, .inr (.inr (some k))), (1, .inl y1), (2, .inl y2)] [.inl 6, .inl y2] dM_109_5 (fun _ => rfl) (Or.inr rfl) ?_
  refine gsIf (t := 33) (C := 6 ≤ y2) (r := []) dM_109_7 (fun _ => rfl) (Or.inr rfl) (rTest_iff .ge y2 6) (fun c1 => ?_) (fun c1 => ?_)
  · replace h := h.1 c1
    refine gs0 34 [(0, .inr (.inr (some k))), (1, .inl y1), (2, .inl y2)] [.inl y1] dM_109_33 (fun _ => rfl) (Or.inr rfl) ?_
    refine gsRet (r := some (.inl y1)) dM_109_34 (fun _ => rfl) (Or.inr rfl) ?_
    exact h
  · replace h := h.2 c1
    refine gs0 11 [(0, .inr (.inr (some k))), (1, .inl y1), (2, .inl y2)] [.inr (.inr (some k))] dM_109_10 (fun _ => rfl) (Or.inr rfl) ?_
    refine gsGetR (some (k + 1)) dM_109_11 hk.2.1 rfl rfl ?_
    refine gs0 15 [(0, .inr (.inr (some k))), (1, .inl y1), (2, .inl y2)] [.inl y2, .inr (.inr (some (k + 1)))] dM_109_14 (fun _ => rfl) (Or.inr rfl) ?_
    refine gsCallS (y := 76) (as := [.inr (.inr (some (k + 1))), .inl y2]) (r := []) dM_109_15 rfl (Or.inl rfl) rfl rfl (Nat.le_of_ble_eq_true rfl) (EvS.up h (Nat.le_of_ble_eq_true rfl)) (fun v2 t3 hv4 => ?_)
    obtain ⟨n5, rfl, hn⟩ := hv4
    clear h
    show GoS _ _ _ _ _ _ _ _ [(0, .inr (.inr (some k))), (1, .inl y1), (2, .inl y2)] [.inl n5] t3 _
    refine gsCallS (y := 77) (as := [.inl n5]) (r := []) dM_109_18 rfl (Or.inl rfl) rfl rfl (Nat.le_of_ble_eq_true rfl) (EvS.up hn (Nat.le_of_ble_eq_true rfl)) (fun v6 t7 hv8 => ?_)
    obtain ⟨n9, rfl, hnn⟩ := hv8
    clear hn
    show GoS _ _ _ _ _ _ _ _ [(0, .inr (.inr (some k))), (1, .inl y1), (2, .inl y2)] [.inl n9] t7 _
    refine gsIf (t := 27) (C := ¬ n9 = 0) (r := []) dM_109_21 (fun _ => rfl) (Or.inr rfl) (rTest_iff .ne n9 0) (fun c10 => ?_) (fun c10 => ?_)
    · replace hnn := hnn.1 c10
      refine gs0 30 [(2, .inl (y2 + 1)), (0, .inr (.inr (some k))), (1, .inl y1)] [] dM_109_27 (fun _ => rfl) (Or.inr rfl) ?_
      refine gs0 4 [(2, .inl (y2 + 1)), (0, .inr (.inr (some k))), (1, .inl y1)] [] dM_109_30 (fun _ => rfl) (Or.inr rfl) ?_
      exact GoS.sub (Lnd_keys (ks := [0, 1, 2]) rfl (by decide)) (Lsub_cons rfl (Lsub_cons rfl (Lsub_cons rfl Lsub_nil))) hnn
    · replace hnn := hnn.2 c10
      refine gs0 27 [(1, .inl (y1 + 1)), (0, .inr (.inr (some k))), (2, .inl y2)] [] dM_109_24 (fun _ => rfl) (Or.inr rfl) ?_
      refine gs0 30 [(2, .inl (y2 + 1)), (1, .inl (y1 + 1)), (0, .inr (.inr (some k)))] [] dM_109_27 (fun _ => rfl) (Or.inr rfl) ?_
      refine gs0 4 [(2, .inl (y2 + 1)), (1, .inl (y1 + 1)), (0, .inr (.inr (some k)))] [] dM_109_30 (fun _ => rfl) (Or.inr rfl) ?_
      exact GoS.sub (Lnd_keys (ks := [0, 1, 2]) rfl (by decide)) (Lsub_cons rfl (Lsub_cons rfl (Lsub_cons rfl Lsub_nil))) hnn
set_option maxRecDepth 100000 in
/-- GoalsInAQueue.namedTerms -/
theorem w_109 (sg : rSg) (k : Nat) (hk : isSt k) {P : Option rv → rSg → Prop} (h :
    g_109_4 k 0 0 sg P) : EvS rSkel 2 109 [.inr (.inr (some k))] sg P := by
  refine EvS.of (ini := false) rfl ⟨rfl, Nat.le_of_ble_eq_true rfl⟩ rfl ?_
  show GoS rSkel 1 8 3 (some .int) false prog_1_method_43_code 0 [(0, .inr (.inr (some k)))] [] sg _
  have b_k := hk.1
  refine gs0 1 [(0, .inr (.inr (some k)))] [.inl 0] dM_109_0 (fun _ => rfl) (Or.inr rfl) ?_
  refine gs0 2 [(1, .inl 0), (0, .inr (.inr (some k)))] [] dM_109_1 (fun _ => rfl) (Or.inr rfl) ?_
  refine gs0 3 [(1, .inl 0), (0, .inr (.inr (some k)))] [.inl 0] dM_109_2 (fun _ => rfl) (Or.inr rfl) ?_
  refine gs0 4 [(2, .inl 0), (1, .inl 0), (0, .inr (.inr (some k)))] [] dM_109_3 (fun _ => rfl) (Or.inr rfl) ?_
  exact GoS.sub (Lnd_keys (ks := [0, 1, 2]) rfl (by decide)) (Lsub_cons rfl (Lsub_cons rfl (Lsub_cons rfl Lsub_nil))) h
set_option maxRecDepth 100000 in
/-- GoalsInAQueue.image -/
theorem w_110 (sg : rSg)  {P : Option rv → rSg → Prop} (h :
    EvS rSkel 3 49 [.inr (.inr (some 454)), .inr (.inr (some 6))] sg (fun v1 t2 => v1 = none ∧
      P (some (.inl (t2 454 9))) (up2 t2 0 13 1))) : EvS rSkel 4 110 [.inr (.inr (some 0))] sg P := by
  refine EvS.of (ini := false) rfl ⟨rfl, Nat.le_of_ble_eq_true rfl⟩ rfl ?_
  show GoS rSkel 3 8 1 (some .int) false prog_1_method_25_code 0 [(0, .inr (.inr (some 0)))] [] sg _
  refine gs0 1 [(0, .inr (.inr (some 0)))] [.inr (.inr (some 0))] dM_110_0 (fun _ => rfl) (Or.inr rfl) ?_
  refine gsGetR (some 454) dM_110_1 sk_0 rfl rfl ?_
  refine gs0 5 [(0, .inr (.inr (some 0)))] [.inr (.inr (some 0)), .inr (.inr (some 454))] dM_110_4 (fun _ => rfl) (Or.inr rfl) ?_
  refine gsGetR (some 6) dM_110_5 sk_0 rfl rfl ?_
  refine gsCallV (y := 49) (k := 454) (as := [.inr (.inr (some 454)), .inr (.inr (some 6))]) (r := []) dM_110_8 rfl rfl rfl (Nat.le_of_ble_eq_true rfl) sk_454 rfl (Nat.le_of_ble_eq_true rfl) (EvS.up h (Nat.le_of_ble_eq_true rfl)) (fun v1 t2 hv3 => ?_)
  obtain ⟨rfl, hn⟩ := hv3
  clear h
  show GoS _ _ _ _ _ _ _ _ [(0, .inr (.inr (some 0)))] [] t2 _
  refine gs0 12 [(0, .inr (.inr (some 0)))] [.inr (.inr (some 0))] dM_110_11 (fun _ => rfl) (Or.inr rfl) ?_
  refine gs0 13 [(0, .inr (.inr (some 0)))] [.inl 1, .inr (.inr (some 0))] dM_110_12 (fun _ => rfl) (Or.inr rfl) ?_
  refine gsPut dM_110_13 sk_0 rfl rfl rfl (by decide) ?_
  refine gs0 17 [(0, .inr (.inr (some 0)))] [.inr (.inr (some 0))] dM_110_16 (fun _ => rfl) (Or.inr rfl) ?_
  refine gsGetR (some 454) dM_110_17 sk_0 rfl rfl ?_
  refine gsGetE (t2 454 9) dM_110_20 sk_454 rfl rfl (congrFun (up2_nk _ _ _ (by decide)) _) ?_
  refine gsRet (r := some (.inl (t2 454 9))) dM_110_23 (fun _ => rfl) (Or.inr rfl) ?_
  exact hn
set_option maxRecDepth 100000 in
/-- GoalsInAQueue.on -/
theorem w_111 (sg : rSg)  {P : Option rv → rSg → Prop} (h :
    (¬ (sg 0 13) = 0 → 
      EvS rSkel 3 49 [.inr (.inr (some 6)), .inr (.inr (some 454))] sg (fun v2 t3 => v2 = none ∧
        P (some (.inl (t3 6 9))) t3)) ∧
    (¬ (¬ (sg 0 13) = 0) → 
      EvS rSkel 1 72 [.inr (.inr (some 0)), .inl ((-3))] sg (fun v5 t6 => ∃ n8, v5 = some (.inl n8) ∧
        P (some (.inl n8)) t6))) : EvS rSkel 4 111 [.inr (.inr (some 0))] sg P := by
  refine EvS.of (ini := false) rfl ⟨rfl, Nat.le_of_ble_eq_true rfl⟩ rfl ?_
  show GoS rSkel 3 8 1 (some .int) false prog_1_method_26_code 0 [(0, .inr (.inr (some 0)))] [] sg _
  refine gs0 1 [(0, .inr (.inr (some 0)))] [.inr (.inr (some 0))] dM_111_0 (fun _ => rfl) (Or.inr rfl) ?_
  refine gsGetE (sg 0 13) dM_111_1 sk_0 rfl rfl rfl ?_
  refine gsIf (t := 14) (C := ¬ (sg 0 13) = 0) (r := []) dM_111_4 (fun _ => rfl) (Or.inr rfl) (rTest_iff .ne (sg 0 13) 0) (fun c1 => ?_) (fun c1 => ?_)
  · replace h := h.1 c1
    refine gs0 15 [(0, .inr (.inr (some 0)))] [.inr (.inr (some 0))] dM_111_14 (fun _ => rfl) (Or.inr rfl) ?_
    refine gsGetR (some 6) dM_111_15 sk_0 rfl rfl ?_
    refine gs0 19 [(0, .inr (.inr (some 0)))] [.inr (.inr (some 0)), .inr (.inr (some 6))] dM_111_18 (fun _ => rfl) (Or.inr rfl) ?_
    refine gsGetR (some 454) dM_111_19 sk_0 rfl rfl ?_
    refine gsCallV (y := 49) (k := 6) (as := [.inr (.inr (some 6)), .inr (.inr (some 454))]) (r := []) dM_111_22 rfl rfl rfl (Nat.le_of_ble_eq_true rfl) sk_6 rfl (Nat.le_of_ble_eq_true rfl) (EvS.up h (Nat.le_of_ble_eq_true rfl)) (fun v2 t3 hv4 => ?_)
    obtain ⟨rfl, hn⟩ := hv4
    clear h
    show GoS _ _ _ _ _ _ _ _ [(0, .inr (.inr (some 0)))] [] t3 _
    refine gs0 26 [(0, .inr (.inr (some 0)))] [.inr (.inr (some 0))] dM_111_25 (fun _ => rfl) (Or.inr rfl) ?_
    refine gsGetR (some 6) dM_111_26 sk_0 rfl rfl ?_
    refine gsGetE (t3 6 9) dM_111_29 sk_6 rfl rfl rfl ?_
    refine gsRet (r := some (.inl (t3 6 9))) dM_111_32 (fun _ => rfl) (Or.inr rfl) ?_
    exact hn
  · replace h := h.2 c1
    refine gs0 8 [(0, .inr (.inr (some 0)))] [.inr (.inr (some 0))] dM_111_7 (fun _ => rfl) (Or.inr rfl) ?_
    refine gs0 10 [(0, .inr (.inr (some 0)))] [.inl ((-3)), .inr (.inr (some 0))] dM_111_8 (fun _ => rfl) (Or.inr rfl) ?_
    refine gsCallV (y := 72) (k := 0) (as := [.inr (.inr (some 0)), .inl ((-3))]) (r := []) dM_111_10 rfl rfl rfl (Nat.le_of_ble_eq_true rfl) sk_0 rfl (Nat.le_of_ble_eq_true rfl) (EvS.up h (Nat.le_of_ble_eq_true rfl)) (fun v5 t6 hv7 => ?_)
    obtain ⟨n8, rfl, hn⟩ := hv7
    clear h
    show GoS _ _ _ _ _ _ _ _ [(0, .inr (.inr (some 0)))] [.inl n8] t6 _
    refine gsRet (r := some (.inl n8)) dM_111_13 (fun _ => rfl) (Or.inr rfl) ?_
    exact hn
def g_112_22  (y1 : Int32) (sg : rSg) (P : Option rv → rSg → Prop) : Prop := GoS rSkel 1 8 2 (some .int) false prog_1_method_27_code 22 [(0, .inr (.inr (some 0))), (1, .inl y1)] [] sg P
set_option maxRecDepth 100000 in
theorem w_112_22 (sg : rSg)  (y1 : Int32) {P : Option rv → rSg → Prop} (h :
    (y1 = 0 → 
      P (some (.inl (sg 6 9))) sg) ∧
    (y1 = 1 → 
      P (some (.inl (sg 6 10))) sg) ∧
    (y1 = 2 → 
      P (some (.inl (sg 7 6))) sg) ∧
    (y1 = 3 → 
      P (some (.inl (sg 7 8))) sg) ∧
    (y1 = 4 → 
      P (some (.inl (sg 6 8))) sg) ∧
    (y1 = 5 → 
      P (some (.inl (sg 6 11))) sg) ∧
    (y1 = 6 → 
      EvS rSkel 1 16 [.inr (.inr (some 689))] sg (fun v4 t5 => ∃ n7, v4 = some (.inl n7) ∧
        P (some (.inl n7)) t5)) ∧
    (y1 = 7 → 
      EvS rSkel 1 16 [.inr (.inr (some 687))] sg (fun v8 t9 => ∃ n11, v8 = some (.inl n11) ∧
        P (some (.inl n11)) t9)) ∧
    (¬ y1 = 0 ∧ ¬ y1 = 1 ∧ ¬ y1 = 2 ∧ ¬ y1 = 3 ∧ ¬ y1 = 4 ∧ ¬ y1 = 5 ∧ ¬ y1 = 6 ∧ ¬ y1 = 7 →
      P (some (.inl ((-9)))) sg)) : g_112_22 y1 sg P := by
  show GoS rSkel 1 8 2 (some .int) false prog_1_method_27_code 22 [(0, .inr (.inr (some 0))), (1, .inl y1)] [] sg P
  refine gs0 23 [(0, .inr (.inr (some 0))), (1, .inl y1)] [.inl y1] dM_112_22 (fun _ => rfl) (Or.inr rfl) ?_
  by_cases c3_0 : y1 = 0
  · replace h := h.1 c3_0
    refine gs0 68 [(0, .inr (.inr (some 0))), (1, .inl y1)] [] dM_112_23 (fun _ => by rw [c3_0]; rfl) (Or.inl rfl) ?_
    refine gs0 69 [(0, .inr (.inr (some 0))), (1, .inl y1)] [.inr (.inr (some 0))] dM_112_68 (fun _ => rfl) (Or.inr rfl) ?_
    refine gsGetR (some 6) dM_112_69 sk_0 rfl rfl ?_
    refine gsGetE (sg 6 9) dM_112_72 sk_6 rfl rfl rfl ?_
    refine gsRet (r := some (.inl (sg 6 9))) dM_112_75 (fun _ => rfl) (Or.inr rfl) ?_
    exact h
  replace h := h.2
  by_cases c3_1 : y1 = 1
  · replace h := h.1 c3_1
    refine gs0 76 [(0, .inr (.inr (some 0))), (1, .inl y1)] [] dM_112_23 (fun _ => by rw [c3_1]; rfl) (Or.inl rfl) ?_
    refine gs0 77 [(0, .inr (.inr (some 0))), (1, .inl y1)] [.inr (.inr (some 0))] dM_112_76 (fun _ => rfl) (Or.inr rfl) ?_
    refine gsGetR (some 6) dM_112_77 sk_0 rfl rfl ?_
    refine gsGetE (sg 6 10) dM_112_80 sk_6 rfl rfl rfl ?_
    refine gsRet (r := some (.inl (sg 6 10))) dM_112_83 (fun _ => rfl) (Or.inr rfl) ?_
    exact h
  replace h := h.2
  by_cases c3_2 : y1 = 2
  · replace h := h.1 c3_2
    refine gs0 84 [(0, .inr (.inr (some 0))), (1, .inl y1)] [] dM_112_23 (fun _ => by rw [c3_2]; rfl) (Or.inl rfl) ?_
    refine gs0 85 [(0, .inr (.inr (some 0))), (1, .inl y1)] [.inr (.inr (some 0))] dM_112_84 (fun _ => rfl) (Or.inr rfl) ?_
    refine gsGetR (some 6) dM_112_85 sk_0 rfl rfl ?_
    refine gsGetR (some 7) dM_112_88 sk_6 rfl rfl ?_
    refine gsGetE (sg 7 6) dM_112_91 sk_7 rfl rfl rfl ?_
    refine gsRet (r := some (.inl (sg 7 6))) dM_112_94 (fun _ => rfl) (Or.inr rfl) ?_
    exact h
  replace h := h.2
  by_cases c3_3 : y1 = 3
  · replace h := h.1 c3_3
    refine gs0 95 [(0, .inr (.inr (some 0))), (1, .inl y1)] [] dM_112_23 (fun _ => by rw [c3_3]; rfl) (Or.inl rfl) ?_
    refine gs0 96 [(0, .inr (.inr (some 0))), (1, .inl y1)] [.inr (.inr (some 0))] dM_112_95 (fun _ => rfl) (Or.inr rfl) ?_
    refine gsGetR (some 6) dM_112_96 sk_0 rfl rfl ?_
    refine gsGetR (some 7) dM_112_99 sk_6 rfl rfl ?_
    refine gsGetE (sg 7 8) dM_112_102 sk_7 rfl rfl rfl ?_
    refine gsRet (r := some (.inl (sg 7 8))) dM_112_105 (fun _ => rfl) (Or.inr rfl) ?_
    exact h
  replace h := h.2
  by_cases c3_4 : y1 = 4
  · replace h := h.1 c3_4
    refine gs0 106 [(0, .inr (.inr (some 0))), (1, .inl y1)] [] dM_112_23 (fun _ => by rw [c3_4]; rfl) (Or.inl rfl) ?_
    refine gs0 107 [(0, .inr (.inr (some 0))), (1, .inl y1)] [.inr (.inr (some 0))] dM_112_106 (fun _ => rfl) (Or.inr rfl) ?_
    refine gsGetR (some 6) dM_112_107 sk_0 rfl rfl ?_
    refine gsGetE (sg 6 8) dM_112_110 sk_6 rfl rfl rfl ?_
    refine gsRet (r := some (.inl (sg 6 8))) dM_112_113 (fun _ => rfl) (Or.inr rfl) ?_
    exact h
  replace h := h.2
  by_cases c3_5 : y1 = 5
  · replace h := h.1 c3_5
    refine gs0 114 [(0, .inr (.inr (some 0))), (1, .inl y1)] [] dM_112_23 (fun _ => by rw [c3_5]; rfl) (Or.inl rfl) ?_
    refine gs0 115 [(0, .inr (.inr (some 0))), (1, .inl y1)] [.inr (.inr (some 0))] dM_112_114 (fun _ => rfl) (Or.inr rfl) ?_
    refine gsGetR (some 6) dM_112_115 sk_0 rfl rfl ?_
    refine gsGetE (sg 6 11) dM_112_118 sk_6 rfl rfl rfl ?_
    refine gsRet (r := some (.inl (sg 6 11))) dM_112_121 (fun _ => rfl) (Or.inr rfl) ?_
    exact h
  replace h := h.2
  by_cases c3_6 : y1 = 6
  · replace h := h.1 c3_6
    refine gs0 122 [(0, .inr (.inr (some 0))), (1, .inl y1)] [] dM_112_23 (fun _ => by rw [c3_6]; rfl) (Or.inl rfl) ?_
    refine gs0 123 [(0, .inr (.inr (some 0))), (1, .inl y1)] [.inr (.inr (some 0))] dM_112_122 (fun _ => rfl) (Or.inr rfl) ?_
    refine gsGetR (some 689) dM_112_123 sk_0 rfl rfl ?_
    refine gsCallV (y := 16) (k := 689) (as := [.inr (.inr (some 689))]) (r := []) dM_112_126 rfl rfl rfl (Nat.le_of_ble_eq_true rfl) sk_689 rfl (Nat.le_of_ble_eq_true rfl) (EvS.up h (Nat.le_of_ble_eq_true rfl)) (fun v4 t5 hv6 => ?_)
    obtain ⟨n7, rfl, hn⟩ := hv6
    clear h
    show GoS _ _ _ _ _ _ _ _ [(0, .inr (.inr (some 0))), (1, .inl y1)] [.inl n7] t5 _
    refine gsRet (r := some (.inl n7)) dM_112_129 (fun _ => rfl) (Or.inr rfl) ?_
    exact hn
  replace h := h.2
  by_cases c3_7 : y1 = 7
  · replace h := h.1 c3_7
    refine gs0 130 [(0, .inr (.inr (some 0))), (1, .inl y1)] [] dM_112_23 (fun _ => by rw [c3_7]; rfl) (Or.inl rfl) ?_
    refine gs0 131 [(0, .inr (.inr (some 0))), (1, .inl y1)] [.inr (.inr (some 0))] dM_112_130 (fun _ => rfl) (Or.inr rfl) ?_
    refine gsGetR (some 687) dM_112_131 sk_0 rfl rfl ?_
    refine gsCallV (y := 16) (k := 687) (as := [.inr (.inr (some 687))]) (r := []) dM_112_134 rfl rfl rfl (Nat.le_of_ble_eq_true rfl) sk_687 rfl (Nat.le_of_ble_eq_true rfl) (EvS.up h (Nat.le_of_ble_eq_true rfl)) (fun v8 t9 hv10 => ?_)
    obtain ⟨n11, rfl, hn⟩ := hv10
    clear h
    show GoS _ _ _ _ _ _ _ _ [(0, .inr (.inr (some 0))), (1, .inl y1)] [.inl n11] t9 _
    refine gsRet (r := some (.inl n11)) dM_112_137 (fun _ => rfl) (Or.inr rfl) ?_
    exact hn
  replace h := h.2
  replace h := h ⟨c3_0, c3_1, c3_2, c3_3, c3_4, c3_5, c3_6, c3_7⟩
  have ec3_0 := i32_ne c3_0 (show (0 : Int32).toInt = 0 by decide)
  have ec3_1 := i32_ne c3_1 (show (1 : Int32).toInt = 1 by decide)
  have ec3_2 := i32_ne c3_2 (show (2 : Int32).toInt = 2 by decide)
  have ec3_3 := i32_ne c3_3 (show (3 : Int32).toInt = 3 by decide)
  have ec3_4 := i32_ne c3_4 (show (4 : Int32).toInt = 4 by decide)
  have ec3_5 := i32_ne c3_5 (show (5 : Int32).toInt = 5 by decide)
  have ec3_6 := i32_ne c3_6 (show (6 : Int32).toInt = 6 by decide)
  have ec3_7 := i32_ne c3_7 (show (7 : Int32).toInt = 7 by decide)
  refine gs0 138 [(0, .inr (.inr (some 0))), (1, .inl y1)] [] dM_112_23 (fun _ => swT_out (by omega) rfl) (Or.inl rfl) ?_
  refine gs0 140 [(0, .inr (.inr (some 0))), (1, .inl y1)] [.inl ((-9))] dM_112_138 (fun _ => rfl) (Or.inr rfl) ?_
  refine gsRet (r := some (.inl ((-9)))) dM_112_140 (fun _ => rfl) (Or.inr rfl) ?_
  exact h
set_option maxRecDepth 100000 in
/-- GoalsInAQueue.count -/
theorem w_112 (sg : rSg) (x1 : Int32) {P : Option rv → rSg → Prop} (h :
    (x1 < 11 → 
      g_112_22 x1 sg P) ∧
    (¬ (x1 < 11) → 
      (16 < x1 → 
        g_112_22 x1 sg P) ∧
      (¬ (16 < x1) → 
        (rIn (x1 - 10) 7 = true ∧
        P (some (.inl (sg 691 ((x1 - 10).toNatClampNeg)))) sg)))) : EvS rSkel 2 112 [.inr (.inr (some 0)), .inl x1] sg P := by
  refine EvS.of (ini := false) rfl ⟨rfl, Nat.le_of_ble_eq_true rfl⟩ rfl ?_
  show GoS rSkel 1 8 2 (some .int) false prog_1_method_27_code 0 [(0, .inr (.inr (some 0))), (1, .inl x1)] [] sg _
  refine gs0 1 [(0, .inr (.inr (some 0))), (1, .inl x1)] [.inl x1] dM_112_0 (fun _ => rfl) (Or.inr rfl) ?_
  refine gs0 3 [(0, .inr (.inr (some 0))), (1, .inl x1)] [.inl 11, .inl x1] dM_112_1 (fun _ => rfl) (Or.inr rfl) ?_
  refine gsIf (t := 22) (C := x1 < 11) (r := []) dM_112_3 (fun _ => rfl) (Or.inr rfl) (rTest_iff .lt x1 11) (fun c1 => ?_) (fun c1 => ?_)
  · replace h := h.1 c1
    exact GoS.sub (Lnd_keys (ks := [0, 1]) rfl (by decide)) (Lsub_cons rfl (Lsub_cons rfl Lsub_nil)) h
  · replace h := h.2 c1
    refine gs0 7 [(0, .inr (.inr (some 0))), (1, .inl x1)] [.inl x1] dM_112_6 (fun _ => rfl) (Or.inr rfl) ?_
    refine gs0 9 [(0, .inr (.inr (some 0))), (1, .inl x1)] [.inl 16, .inl x1] dM_112_7 (fun _ => rfl) (Or.inr rfl) ?_
    refine gsIf (t := 22) (C := 16 < x1) (r := []) dM_112_9 (fun _ => rfl) (Or.inr rfl) (rTest_iff .gt x1 16) (fun c2 => ?_) (fun c2 => ?_)
    · replace h := h.1 c2
      exact GoS.sub (Lnd_keys (ks := [0, 1]) rfl (by decide)) (Lsub_cons rfl (Lsub_cons rfl Lsub_nil)) h
    · replace h := h.2 c2
      refine gs0 13 [(0, .inr (.inr (some 0))), (1, .inl x1)] [.inr (.inr (some 0))] dM_112_12 (fun _ => rfl) (Or.inr rfl) ?_
      refine gsGetR (some 691) dM_112_13 sk_0 rfl rfl ?_
      refine gs0 17 [(0, .inr (.inr (some 0))), (1, .inl x1)] [.inl x1, .inr (.inr (some 691))] dM_112_16 (fun _ => rfl) (Or.inr rfl) ?_
      refine gs0 19 [(0, .inr (.inr (some 0))), (1, .inl x1)] [.inl 10, .inl x1, .inr (.inr (some 691))] dM_112_17 (fun _ => rfl) (Or.inr rfl) ?_
      refine gs0 20 [(0, .inr (.inr (some 0))), (1, .inl x1)] [.inl (x1 - 10), .inr (.inr (some 691))] dM_112_19 (fun _ => rfl) (Or.inr rfl) ?_
      refine gsIaldN ((x1 - 10).toNatClampNeg) (sg 691 ((x1 - 10).toNatClampNeg)) dM_112_20 sk_691 h.1 rfl rfl ?_
      replace h := h.2
      refine gsRet (r := some (.inl (sg 691 ((x1 - 10).toNatClampNeg)))) dM_112_21 (fun _ => rfl) (Or.inr rfl) ?_
      exact h
