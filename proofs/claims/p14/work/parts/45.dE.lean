theorem dM_114_0 : decode prog_11_method_45_code 0 = .ok (.aload_n 0, 1) := by decide +kernel
theorem dM_114_1 : decode prog_11_method_45_code 1 = .ok (.bipush 75, 2) := by decide +kernel
theorem dM_114_3 : decode prog_11_method_45_code 3 = .ok (.putfield 121, 3) := by decide +kernel
theorem dM_114_6 : decode prog_11_method_45_code 6 = .ok (.aload_n 0, 1) := by decide +kernel
theorem dM_114_7 : decode prog_11_method_45_code 7 = .ok (.iconst 0, 1) := by decide +kernel
theorem dM_114_8 : decode prog_11_method_45_code 8 = .ok (.putfield 124, 3) := by decide +kernel
theorem dM_114_11 : decode prog_11_method_45_code 11 = .ok (.aload_n 0, 1) := by decide +kernel
theorem dM_114_12 : decode prog_11_method_45_code 12 = .ok (.iconst 1, 1) := by decide +kernel
theorem dM_114_13 : decode prog_11_method_45_code 13 = .ok (.putfield 127, 3) := by decide +kernel
theorem dM_114_16 : decode prog_11_method_45_code 16 = .ok (.aload_n 0, 1) := by decide +kernel
theorem dM_114_17 : decode prog_11_method_45_code 17 = .ok (.iconst 0, 1) := by decide +kernel
theorem dM_114_18 : decode prog_11_method_45_code 18 = .ok (.putfield 141, 3) := by decide +kernel
theorem dM_114_21 : decode prog_11_method_45_code 21 = .ok (.aload_n 0, 1) := by decide +kernel
theorem dM_114_22 : decode prog_11_method_45_code 22 = .ok (.getfield 112, 3) := by decide +kernel
theorem dM_114_25 : decode prog_11_method_45_code 25 = .ok (.iconst 1, 1) := by decide +kernel
theorem dM_114_26 : decode prog_11_method_45_code 26 = .ok (.isub, 1) := by decide +kernel
theorem dM_114_27 : decode prog_11_method_45_code 27 = .ok (.istore_n 1, 1) := by decide +kernel
theorem dM_114_28 : decode prog_11_method_45_code 28 = .ok (.iload_n 1, 1) := by decide +kernel
theorem dM_114_29 : decode prog_11_method_45_code 29 = .ok (.ifCond .lt 19, 3) := by decide +kernel
theorem dM_114_32 : decode prog_11_method_45_code 32 = .ok (.aload_n 0, 1) := by decide +kernel
theorem dM_114_33 : decode prog_11_method_45_code 33 = .ok (.aload_n 0, 1) := by decide +kernel
theorem dM_114_34 : decode prog_11_method_45_code 34 = .ok (.getfield 91, 3) := by decide +kernel
theorem dM_114_37 : decode prog_11_method_45_code 37 = .ok (.iload_n 1, 1) := by decide +kernel
theorem dM_114_38 : decode prog_11_method_45_code 38 = .ok (.iaload, 1) := by decide +kernel
theorem dM_114_39 : decode prog_11_method_45_code 39 = .ok (.invokevirtual 282, 3) := by decide +kernel
theorem dM_114_42 : decode prog_11_method_45_code 42 = .ok (.iinc 1 (-1), 3) := by decide +kernel
theorem dM_114_45 : decode prog_11_method_45_code 45 = .ok (.goto (-17), 3) := by decide +kernel
theorem dM_114_48 : decode prog_11_method_45_code 48 = .ok (.aload_n 0, 1) := by decide +kernel
theorem dM_114_49 : decode prog_11_method_45_code 49 = .ok (.aload_n 0, 1) := by decide +kernel
theorem dM_114_50 : decode prog_11_method_45_code 50 = .ok (.invokevirtual 278, 3) := by decide +kernel
theorem dM_114_53 : decode prog_11_method_45_code 53 = .ok (.putfield 285, 3) := by decide +kernel
theorem dM_114_56 : decode prog_11_method_45_code 56 = .ok (.aload_n 0, 1) := by decide +kernel
theorem dM_114_57 : decode prog_11_method_45_code 57 = .ok (.iconst 0, 1) := by decide +kernel
theorem dM_114_58 : decode prog_11_method_45_code 58 = .ok (.putfield 164, 3) := by decide +kernel
theorem dM_114_61 : decode prog_11_method_45_code 61 = .ok (.aload_n 0, 1) := by decide +kernel
theorem dM_114_62 : decode prog_11_method_45_code 62 = .ok (.aload_n 0, 1) := by decide +kernel
theorem dM_114_63 : decode prog_11_method_45_code 63 = .ok (.getfield 285, 3) := by decide +kernel
theorem dM_114_66 : decode prog_11_method_45_code 66 = .ok (.invokevirtual 288, 3) := by decide +kernel
theorem dM_114_69 : decode prog_11_method_45_code 69 = .ok (.return_, 1) := by decide +kernel
theorem dM_115_0 : decode prog_11_method_44_code 0 = .ok (.iload_n 1, 1) := by decide +kernel
theorem dM_115_1 : decode prog_11_method_44_code 1 = .ok (.bipush 41, 2) := by decide +kernel
theorem dM_115_3 : decode prog_11_method_44_code 3 = .ok (.if_icmp .ne 4, 3) := by decide +kernel
theorem dM_115_6 : decode prog_11_method_44_code 6 = .ok (.return_, 1) := by decide +kernel
theorem dM_115_7 : decode prog_11_method_44_code 7 = .ok (.iload_n 1, 1) := by decide +kernel
theorem dM_115_8 : decode prog_11_method_44_code 8 = .ok (.bipush 40, 2) := by decide +kernel
theorem dM_115_10 : decode prog_11_method_44_code 10 = .ok (.if_icmp .ne 26, 3) := by decide +kernel
theorem dM_115_13 : decode prog_11_method_44_code 13 = .ok (.aload_n 0, 1) := by decide +kernel
theorem dM_115_14 : decode prog_11_method_44_code 14 = .ok (.invokevirtual 278, 3) := by decide +kernel
theorem dM_115_17 : decode prog_11_method_44_code 17 = .ok (.istore_n 2, 1) := by decide +kernel
theorem dM_115_18 : decode prog_11_method_44_code 18 = .ok (.aload_n 0, 1) := by decide +kernel
theorem dM_115_19 : decode prog_11_method_44_code 19 = .ok (.invokevirtual 278, 3) := by decide +kernel
theorem dM_115_22 : decode prog_11_method_44_code 22 = .ok (.istore_n 3, 1) := by decide +kernel
theorem dM_115_23 : decode prog_11_method_44_code 23 = .ok (.aload_n 0, 1) := by decide +kernel
theorem dM_115_24 : decode prog_11_method_44_code 24 = .ok (.aload_n 0, 1) := by decide +kernel
theorem dM_115_25 : decode prog_11_method_44_code 25 = .ok (.iload_n 2, 1) := by decide +kernel
theorem dM_115_26 : decode prog_11_method_44_code 26 = .ok (.iload_n 3, 1) := by decide +kernel
theorem dM_115_27 : decode prog_11_method_44_code 27 = .ok (.invokevirtual 219, 3) := by decide +kernel
theorem dM_115_30 : decode prog_11_method_44_code 30 = .ok (.invokevirtual 144, 3) := by decide +kernel
theorem dM_115_33 : decode prog_11_method_44_code 33 = .ok (.goto 136, 3) := by decide +kernel
theorem dM_115_36 : decode prog_11_method_44_code 36 = .ok (.iload_n 1, 1) := by decide +kernel
theorem dM_115_37 : decode prog_11_method_44_code 37 = .ok (.bipush 97, 2) := by decide +kernel
theorem dM_115_39 : decode prog_11_method_44_code 39 = .ok (.bipush 102, 2) := by decide +kernel
theorem dM_115_41 : decode prog_11_method_44_code 41 = .ok (.invokestatic 250, 3) := by decide +kernel
theorem dM_115_44 : decode prog_11_method_44_code 44 = .ok (.ifCond .eq 14, 3) := by decide +kernel
theorem dM_115_47 : decode prog_11_method_44_code 47 = .ok (.aload_n 0, 1) := by decide +kernel
theorem dM_115_48 : decode prog_11_method_44_code 48 = .ok (.iload_n 1, 1) := by decide +kernel
theorem dM_115_49 : decode prog_11_method_44_code 49 = .ok (.bipush 97, 2) := by decide +kernel
theorem dM_115_51 : decode prog_11_method_44_code 51 = .ok (.isub, 1) := by decide +kernel
theorem dM_115_52 : decode prog_11_method_44_code 52 = .ok (.invokevirtual 144, 3) := by decide +kernel
theorem dM_115_55 : decode prog_11_method_44_code 55 = .ok (.goto 114, 3) := by decide +kernel
theorem dM_115_58 : decode prog_11_method_44_code 58 = .ok (.iload_n 1, 1) := by decide +kernel
theorem dM_115_59 : decode prog_11_method_44_code 59 = .ok (.bipush 48, 2) := by decide +kernel
theorem dM_115_61 : decode prog_11_method_44_code 61 = .ok (.bipush 57, 2) := by decide +kernel
theorem dM_115_63 : decode prog_11_method_44_code 63 = .ok (.invokestatic 250, 3) := by decide +kernel
theorem dM_115_66 : decode prog_11_method_44_code 66 = .ok (.ifCond .eq 17, 3) := by decide +kernel
theorem dM_115_69 : decode prog_11_method_44_code 69 = .ok (.aload_n 0, 1) := by decide +kernel
theorem dM_115_70 : decode prog_11_method_44_code 70 = .ok (.bipush 64, 2) := by decide +kernel
theorem dM_115_72 : decode prog_11_method_44_code 72 = .ok (.iload_n 1, 1) := by decide +kernel
theorem dM_115_73 : decode prog_11_method_44_code 73 = .ok (.iadd, 1) := by decide +kernel
theorem dM_115_74 : decode prog_11_method_44_code 74 = .ok (.bipush 48, 2) := by decide +kernel
theorem dM_115_76 : decode prog_11_method_44_code 76 = .ok (.isub, 1) := by decide +kernel
theorem dM_115_77 : decode prog_11_method_44_code 77 = .ok (.invokevirtual 144, 3) := by decide +kernel
theorem dM_115_80 : decode prog_11_method_44_code 80 = .ok (.goto 89, 3) := by decide +kernel
theorem dM_115_83 : decode prog_11_method_44_code 83 = .ok (.iload_n 1, 1) := by decide +kernel
theorem dM_115_84 : decode prog_11_method_44_code 84 = .ok (.bipush 110, 2) := by decide +kernel
theorem dM_115_86 : decode prog_11_method_44_code 86 = .ok (.if_icmp .ne 12, 3) := by decide +kernel
theorem dM_115_89 : decode prog_11_method_44_code 89 = .ok (.aload_n 0, 1) := by decide +kernel
theorem dM_115_90 : decode prog_11_method_44_code 90 = .ok (.bipush 74, 2) := by decide +kernel
theorem dM_115_92 : decode prog_11_method_44_code 92 = .ok (.invokevirtual 144, 3) := by decide +kernel
theorem dM_115_95 : decode prog_11_method_44_code 95 = .ok (.goto 74, 3) := by decide +kernel
theorem dM_115_98 : decode prog_11_method_44_code 98 = .ok (.iload_n 1, 1) := by decide +kernel
theorem dM_115_99 : decode prog_11_method_44_code 99 = .ok (.bipush 42, 2) := by decide +kernel
theorem dM_115_101 : decode prog_11_method_44_code 101 = .ok (.if_icmp .eq 9, 3) := by decide +kernel
theorem dM_115_104 : decode prog_11_method_44_code 104 = .ok (.iload_n 1, 1) := by decide +kernel
theorem dM_115_105 : decode prog_11_method_44_code 105 = .ok (.bipush 33, 2) := by decide +kernel
theorem dM_115_107 : decode prog_11_method_44_code 107 = .ok (.if_icmp .ne 7, 3) := by decide +kernel
theorem dM_115_110 : decode prog_11_method_44_code 110 = .ok (.iconst 0, 1) := by decide +kernel
theorem dM_115_111 : decode prog_11_method_44_code 111 = .ok (.goto 7, 3) := by decide +kernel
theorem dM_115_114 : decode prog_11_method_44_code 114 = .ok (.aload_n 0, 1) := by decide +kernel
theorem dM_115_115 : decode prog_11_method_44_code 115 = .ok (.invokevirtual 278, 3) := by decide +kernel
theorem dM_115_118 : decode prog_11_method_44_code 118 = .ok (.istore_n 2, 1) := by decide +kernel
theorem dM_115_119 : decode prog_11_method_44_code 119 = .ok (.iload_n 1, 1) := by decide +kernel
theorem dM_115_120 : decode prog_11_method_44_code 120 = .ok (.bipush 42, 2) := by decide +kernel
theorem dM_115_122 : decode prog_11_method_44_code 122 = .ok (.if_icmp .eq 9, 3) := by decide +kernel
theorem dM_115_125 : decode prog_11_method_44_code 125 = .ok (.iload_n 1, 1) := by decide +kernel
theorem dM_115_126 : decode prog_11_method_44_code 126 = .ok (.bipush 33, 2) := by decide +kernel
theorem dM_115_128 : decode prog_11_method_44_code 128 = .ok (.if_icmp .ne 7, 3) := by decide +kernel
theorem dM_115_131 : decode prog_11_method_44_code 131 = .ok (.iconst 0, 1) := by decide +kernel
theorem dM_115_132 : decode prog_11_method_44_code 132 = .ok (.goto 7, 3) := by decide +kernel
theorem dM_115_135 : decode prog_11_method_44_code 135 = .ok (.aload_n 0, 1) := by decide +kernel
theorem dM_115_136 : decode prog_11_method_44_code 136 = .ok (.invokevirtual 278, 3) := by decide +kernel
theorem dM_115_139 : decode prog_11_method_44_code 139 = .ok (.istore_n 3, 1) := by decide +kernel
theorem dM_115_140 : decode prog_11_method_44_code 140 = .ok (.iload_n 1, 1) := by decide +kernel
theorem dM_115_141 : decode prog_11_method_44_code 141 = .ok (.bipush 65, 2) := by decide +kernel
theorem dM_115_143 : decode prog_11_method_44_code 143 = .ok (.if_icmp .ne 10, 3) := by decide +kernel
theorem dM_115_146 : decode prog_11_method_44_code 146 = .ok (.aload_n 0, 1) := by decide +kernel
theorem dM_115_147 : decode prog_11_method_44_code 147 = .ok (.invokevirtual 278, 3) := by decide +kernel
theorem dM_115_150 : decode prog_11_method_44_code 150 = .ok (.goto 4, 3) := by decide +kernel
theorem dM_115_153 : decode prog_11_method_44_code 153 = .ok (.iconst 0, 1) := by decide +kernel
theorem dM_115_154 : decode prog_11_method_44_code 154 = .ok (.istore 4, 2) := by decide +kernel
theorem dM_115_156 : decode prog_11_method_44_code 156 = .ok (.aload_n 0, 1) := by decide +kernel
theorem dM_115_157 : decode prog_11_method_44_code 157 = .ok (.aload_n 0, 1) := by decide +kernel
theorem dM_115_158 : decode prog_11_method_44_code 158 = .ok (.iload_n 1, 1) := by decide +kernel
theorem dM_115_159 : decode prog_11_method_44_code 159 = .ok (.iload_n 2, 1) := by decide +kernel
theorem dM_115_160 : decode prog_11_method_44_code 160 = .ok (.iload_n 3, 1) := by decide +kernel
theorem dM_115_161 : decode prog_11_method_44_code 161 = .ok (.iload 4, 2) := by decide +kernel
theorem dM_115_163 : decode prog_11_method_44_code 163 = .ok (.invokevirtual 215, 3) := by decide +kernel
theorem dM_115_166 : decode prog_11_method_44_code 166 = .ok (.invokevirtual 144, 3) := by decide +kernel
theorem dM_115_169 : decode prog_11_method_44_code 169 = .ok (.return_, 1) := by decide +kernel
theorem dM_116_0 : decode prog_11_method_43_code 0 = .ok (.aload_n 0, 1) := by decide +kernel
theorem dM_116_1 : decode prog_11_method_43_code 1 = .ok (.dup, 1) := by decide +kernel
theorem dM_116_2 : decode prog_11_method_43_code 2 = .ok (.getfield 141, 3) := by decide +kernel
theorem dM_116_5 : decode prog_11_method_43_code 5 = .ok (.iconst 1, 1) := by decide +kernel
theorem dM_116_6 : decode prog_11_method_43_code 6 = .ok (.isub, 1) := by decide +kernel
theorem dM_116_7 : decode prog_11_method_43_code 7 = .ok (.putfield 141, 3) := by decide +kernel
theorem dM_116_10 : decode prog_11_method_43_code 10 = .ok (.aload_n 0, 1) := by decide +kernel
theorem dM_116_11 : decode prog_11_method_43_code 11 = .ok (.getfield 46, 3) := by decide +kernel
theorem dM_116_14 : decode prog_11_method_43_code 14 = .ok (.aload_n 0, 1) := by decide +kernel
theorem dM_116_15 : decode prog_11_method_43_code 15 = .ok (.getfield 141, 3) := by decide +kernel
theorem dM_116_18 : decode prog_11_method_43_code 18 = .ok (.iaload, 1) := by decide +kernel
theorem dM_116_19 : decode prog_11_method_43_code 19 = .ok (.ireturn, 1) := by decide +kernel
theorem dM_126_0 : decode prog_11_method_37_code 0 = .ok (.iload_n 1, 1) := by decide +kernel
theorem dM_126_1 : decode prog_11_method_37_code 1 = .ok (.iconst 0, 1) := by decide +kernel
theorem dM_126_2 : decode prog_11_method_37_code 2 = .ok (.sipush 255, 3) := by decide +kernel
theorem dM_126_5 : decode prog_11_method_37_code 5 = .ok (.invokestatic 242, 3) := by decide +kernel
theorem dM_126_8 : decode prog_11_method_37_code 8 = .ok (.istore_n 2, 1) := by decide +kernel
theorem dM_126_9 : decode prog_11_method_37_code 9 = .ok (.iload_n 2, 1) := by decide +kernel
theorem dM_126_10 : decode prog_11_method_37_code 10 = .ok (.ifCond .ne 15, 3) := by decide +kernel
theorem dM_126_13 : decode prog_11_method_37_code 13 = .ok (.aload_n 0, 1) := by decide +kernel
theorem dM_126_14 : decode prog_11_method_37_code 14 = .ok (.getfield 244, 3) := by decide +kernel
theorem dM_126_17 : decode prog_11_method_37_code 17 = .ok (.bipush 96, 2) := by decide +kernel
theorem dM_126_19 : decode prog_11_method_37_code 19 = .ok (.if_icmp .ne 6, 3) := by decide +kernel
theorem dM_126_22 : decode prog_11_method_37_code 22 = .ok (.bipush (-6), 2) := by decide +kernel
theorem dM_126_24 : decode prog_11_method_37_code 24 = .ok (.istore_n 2, 1) := by decide +kernel
theorem dM_126_25 : decode prog_11_method_37_code 25 = .ok (.iload_n 2, 1) := by decide +kernel
theorem dM_126_26 : decode prog_11_method_37_code 26 = .ok (.ifCond .eq 9, 3) := by decide +kernel
theorem dM_126_29 : decode prog_11_method_37_code 29 = .ok (.aload_n 0, 1) := by decide +kernel
theorem dM_126_30 : decode prog_11_method_37_code 30 = .ok (.iload_n 2, 1) := by decide +kernel
theorem dM_126_31 : decode prog_11_method_37_code 31 = .ok (.invokevirtual 247, 3) := by decide +kernel
theorem dM_126_34 : decode prog_11_method_37_code 34 = .ok (.ireturn, 1) := by decide +kernel
theorem dM_126_35 : decode prog_11_method_37_code 35 = .ok (.aload_n 0, 1) := by decide +kernel
theorem dM_126_36 : decode prog_11_method_37_code 36 = .ok (.getfield 88, 3) := by decide +kernel
theorem dM_126_39 : decode prog_11_method_37_code 39 = .ok (.aload_n 0, 1) := by decide +kernel
theorem dM_126_40 : decode prog_11_method_37_code 40 = .ok (.getfield 244, 3) := by decide +kernel
theorem dM_126_43 : decode prog_11_method_37_code 43 = .ok (.iload_n 1, 1) := by decide +kernel
theorem dM_126_44 : decode prog_11_method_37_code 44 = .ok (.iastore, 1) := by decide +kernel
theorem dM_126_45 : decode prog_11_method_37_code 45 = .ok (.aload_n 0, 1) := by decide +kernel
theorem dM_126_46 : decode prog_11_method_37_code 46 = .ok (.dup, 1) := by decide +kernel
theorem dM_126_47 : decode prog_11_method_37_code 47 = .ok (.getfield 244, 3) := by decide +kernel
theorem dM_126_50 : decode prog_11_method_37_code 50 = .ok (.iconst 1, 1) := by decide +kernel
theorem dM_126_51 : decode prog_11_method_37_code 51 = .ok (.iadd, 1) := by decide +kernel
theorem dM_126_52 : decode prog_11_method_37_code 52 = .ok (.putfield 244, 3) := by decide +kernel
theorem dM_126_55 : decode prog_11_method_37_code 55 = .ok (.aload_n 0, 1) := by decide +kernel
theorem dM_126_56 : decode prog_11_method_37_code 56 = .ok (.getfield 244, 3) := by decide +kernel
theorem dM_126_59 : decode prog_11_method_37_code 59 = .ok (.ireturn, 1) := by decide +kernel
theorem dM_128_0 : decode prog_11_method_2_code 0 = .ok (.aload_n 0, 1) := by decide +kernel
theorem dM_128_1 : decode prog_11_method_2_code 1 = .ok (.getfield 7, 3) := by decide +kernel
theorem dM_128_4 : decode prog_11_method_2_code 4 = .ok (.iload_n 1, 1) := by decide +kernel
theorem dM_128_5 : decode prog_11_method_2_code 5 = .ok (.ineg, 1) := by decide +kernel
theorem dM_128_6 : decode prog_11_method_2_code 6 = .ok (.dup2, 1) := by decide +kernel
theorem dM_128_7 : decode prog_11_method_2_code 7 = .ok (.iaload, 1) := by decide +kernel
theorem dM_128_8 : decode prog_11_method_2_code 8 = .ok (.iconst 1, 1) := by decide +kernel
theorem dM_128_9 : decode prog_11_method_2_code 9 = .ok (.iadd, 1) := by decide +kernel
theorem dM_128_10 : decode prog_11_method_2_code 10 = .ok (.iastore, 1) := by decide +kernel
theorem dM_128_11 : decode prog_11_method_2_code 11 = .ok (.iload_n 1, 1) := by decide +kernel
theorem dM_128_12 : decode prog_11_method_2_code 12 = .ok (.ireturn, 1) := by decide +kernel
theorem dM_129_0 : decode prog_11_method_46_code 0 = .ok (.aload_n 0, 1) := by decide +kernel
theorem dM_129_1 : decode prog_11_method_46_code 1 = .ok (.invokevirtual 291, 3) := by decide +kernel
theorem dM_129_4 : decode prog_11_method_46_code 4 = .ok (.istore_n 1, 1) := by decide +kernel
theorem dM_129_5 : decode prog_11_method_46_code 5 = .ok (.aload_n 0, 1) := by decide +kernel
theorem dM_129_6 : decode prog_11_method_46_code 6 = .ok (.getfield 244, 3) := by decide +kernel
theorem dM_129_9 : decode prog_11_method_46_code 9 = .ok (.istore_n 2, 1) := by decide +kernel
theorem dM_129_10 : decode prog_11_method_46_code 10 = .ok (.aload_n 0, 1) := by decide +kernel
theorem dM_129_11 : decode prog_11_method_46_code 11 = .ok (.iconst 0, 1) := by decide +kernel
theorem dM_129_12 : decode prog_11_method_46_code 12 = .ok (.putfield 244, 3) := by decide +kernel
theorem dM_129_15 : decode prog_11_method_46_code 15 = .ok (.iload_n 1, 1) := by decide +kernel
theorem dM_129_16 : decode prog_11_method_46_code 16 = .ok (.ifCond .ne 12, 3) := by decide +kernel
theorem dM_129_19 : decode prog_11_method_46_code 19 = .ok (.sipush (-1000), 3) := by decide +kernel
theorem dM_129_22 : decode prog_11_method_46_code 22 = .ok (.aload_n 0, 1) := by decide +kernel
theorem dM_129_23 : decode prog_11_method_46_code 23 = .ok (.getfield 260, 3) := by decide +kernel
theorem dM_129_26 : decode prog_11_method_46_code 26 = .ok (.isub, 1) := by decide +kernel
theorem dM_129_27 : decode prog_11_method_46_code 27 = .ok (.ireturn, 1) := by decide +kernel
theorem dM_129_28 : decode prog_11_method_46_code 28 = .ok (.aload_n 0, 1) := by decide +kernel
theorem dM_129_29 : decode prog_11_method_46_code 29 = .ok (.getfield 257, 3) := by decide +kernel
theorem dM_129_32 : decode prog_11_method_46_code 32 = .ok (.ifCond .lt 12, 3) := by decide +kernel
theorem dM_129_35 : decode prog_11_method_46_code 35 = .ok (.sipush (-2000), 3) := by decide +kernel
theorem dM_129_38 : decode prog_11_method_46_code 38 = .ok (.aload_n 0, 1) := by decide +kernel
theorem dM_129_39 : decode prog_11_method_46_code 39 = .ok (.getfield 257, 3) := by decide +kernel
theorem dM_129_42 : decode prog_11_method_46_code 42 = .ok (.isub, 1) := by decide +kernel
theorem dM_129_43 : decode prog_11_method_46_code 43 = .ok (.ireturn, 1) := by decide +kernel
theorem dM_129_44 : decode prog_11_method_46_code 44 = .ok (.iconst 0, 1) := by decide +kernel
theorem dM_129_45 : decode prog_11_method_46_code 45 = .ok (.istore_n 3, 1) := by decide +kernel
theorem dM_129_46 : decode prog_11_method_46_code 46 = .ok (.iload_n 3, 1) := by decide +kernel
theorem dM_129_47 : decode prog_11_method_46_code 47 = .ok (.iload_n 2, 1) := by decide +kernel
theorem dM_129_48 : decode prog_11_method_46_code 48 = .ok (.if_icmp .ge 21, 3) := by decide +kernel
theorem dM_129_51 : decode prog_11_method_46_code 51 = .ok (.aload_n 0, 1) := by decide +kernel
theorem dM_129_52 : decode prog_11_method_46_code 52 = .ok (.getfield 91, 3) := by decide +kernel
theorem dM_129_55 : decode prog_11_method_46_code 55 = .ok (.iload_n 3, 1) := by decide +kernel
theorem dM_129_56 : decode prog_11_method_46_code 56 = .ok (.aload_n 0, 1) := by decide +kernel
theorem dM_129_57 : decode prog_11_method_46_code 57 = .ok (.getfield 88, 3) := by decide +kernel
theorem dM_129_60 : decode prog_11_method_46_code 60 = .ok (.iload_n 3, 1) := by decide +kernel
theorem dM_129_61 : decode prog_11_method_46_code 61 = .ok (.iaload, 1) := by decide +kernel
theorem dM_129_62 : decode prog_11_method_46_code 62 = .ok (.iastore, 1) := by decide +kernel
theorem dM_129_63 : decode prog_11_method_46_code 63 = .ok (.iinc 3 1, 3) := by decide +kernel
theorem dM_129_66 : decode prog_11_method_46_code 66 = .ok (.goto (-20), 3) := by decide +kernel
theorem dM_129_69 : decode prog_11_method_46_code 69 = .ok (.aload_n 0, 1) := by decide +kernel
theorem dM_129_70 : decode prog_11_method_46_code 70 = .ok (.iload_n 2, 1) := by decide +kernel
theorem dM_129_71 : decode prog_11_method_46_code 71 = .ok (.putfield 112, 3) := by decide +kernel
theorem dM_129_74 : decode prog_11_method_46_code 74 = .ok (.aload_n 0, 1) := by decide +kernel
theorem dM_129_75 : decode prog_11_method_46_code 75 = .ok (.invokevirtual 116, 3) := by decide +kernel
theorem dM_129_78 : decode prog_11_method_46_code 78 = .ok (.aload_n 0, 1) := by decide +kernel
theorem dM_129_79 : decode prog_11_method_46_code 79 = .ok (.getfield 266, 3) := by decide +kernel
theorem dM_129_82 : decode prog_11_method_46_code 82 = .ok (.ireturn, 1) := by decide +kernel
theorem dM_130_0 : decode prog_11_method_42_code 0 = .ok (.aload_n 0, 1) := by decide +kernel
theorem dM_130_1 : decode prog_11_method_42_code 1 = .ok (.iconst 0, 1) := by decide +kernel
theorem dM_130_2 : decode prog_11_method_42_code 2 = .ok (.putfield 260, 3) := by decide +kernel
theorem dM_130_5 : decode prog_11_method_42_code 5 = .ok (.aload_n 0, 1) := by decide +kernel
theorem dM_130_6 : decode prog_11_method_42_code 6 = .ok (.iconst (-1), 1) := by decide +kernel
theorem dM_130_7 : decode prog_11_method_42_code 7 = .ok (.putfield 257, 3) := by decide +kernel
theorem dM_130_10 : decode prog_11_method_42_code 10 = .ok (.aload_n 0, 1) := by decide +kernel
theorem dM_130_11 : decode prog_11_method_42_code 11 = .ok (.iconst 0, 1) := by decide +kernel
theorem dM_130_12 : decode prog_11_method_42_code 12 = .ok (.putfield 266, 3) := by decide +kernel
theorem dM_130_15 : decode prog_11_method_42_code 15 = .ok (.aload_n 0, 1) := by decide +kernel
theorem dM_130_16 : decode prog_11_method_42_code 16 = .ok (.iconst 0, 1) := by decide +kernel
theorem dM_130_17 : decode prog_11_method_42_code 17 = .ok (.putfield 254, 3) := by decide +kernel
theorem dM_130_20 : decode prog_11_method_42_code 20 = .ok (.aload_n 0, 1) := by decide +kernel
theorem dM_130_21 : decode prog_11_method_42_code 21 = .ok (.iconst 0, 1) := by decide +kernel
theorem dM_130_22 : decode prog_11_method_42_code 22 = .ok (.putfield 141, 3) := by decide +kernel
theorem dM_130_25 : decode prog_11_method_42_code 25 = .ok (.aload_n 0, 1) := by decide +kernel
theorem dM_130_26 : decode prog_11_method_42_code 26 = .ok (.iconst 1, 1) := by decide +kernel
theorem dM_130_27 : decode prog_11_method_42_code 27 = .ok (.bipush 103, 2) := by decide +kernel
theorem dM_130_29 : decode prog_11_method_42_code 29 = .ok (.invokevirtual 263, 3) := by decide +kernel
theorem dM_130_32 : decode prog_11_method_42_code 32 = .ok (.aload_n 0, 1) := by decide +kernel
theorem dM_130_33 : decode prog_11_method_42_code 33 = .ok (.getfield 141, 3) := by decide +kernel
theorem dM_130_36 : decode prog_11_method_42_code 36 = .ok (.ifCond .le 68, 3) := by decide +kernel
theorem dM_130_39 : decode prog_11_method_42_code 39 = .ok (.aload_n 0, 1) := by decide +kernel
theorem dM_130_40 : decode prog_11_method_42_code 40 = .ok (.dup, 1) := by decide +kernel
theorem dM_130_41 : decode prog_11_method_42_code 41 = .ok (.getfield 141, 3) := by decide +kernel
theorem dM_130_44 : decode prog_11_method_42_code 44 = .ok (.iconst 1, 1) := by decide +kernel
theorem dM_130_45 : decode prog_11_method_42_code 45 = .ok (.isub, 1) := by decide +kernel
theorem dM_130_46 : decode prog_11_method_42_code 46 = .ok (.putfield 141, 3) := by decide +kernel
theorem dM_130_49 : decode prog_11_method_42_code 49 = .ok (.aload_n 0, 1) := by decide +kernel
theorem dM_130_50 : decode prog_11_method_42_code 50 = .ok (.aload_n 0, 1) := by decide +kernel
theorem dM_130_51 : decode prog_11_method_42_code 51 = .ok (.getfield 260, 3) := by decide +kernel
theorem dM_130_54 : decode prog_11_method_42_code 54 = .ok (.aload_n 0, 1) := by decide +kernel
theorem dM_130_55 : decode prog_11_method_42_code 55 = .ok (.getfield 244, 3) := by decide +kernel
theorem dM_130_58 : decode prog_11_method_42_code 58 = .ok (.if_icmp .ge 15, 3) := by decide +kernel
theorem dM_130_61 : decode prog_11_method_42_code 61 = .ok (.aload_n 0, 1) := by decide +kernel
theorem dM_130_62 : decode prog_11_method_42_code 62 = .ok (.getfield 88, 3) := by decide +kernel
theorem dM_130_65 : decode prog_11_method_42_code 65 = .ok (.aload_n 0, 1) := by decide +kernel
theorem dM_130_66 : decode prog_11_method_42_code 66 = .ok (.getfield 260, 3) := by decide +kernel
theorem dM_130_69 : decode prog_11_method_42_code 69 = .ok (.iaload, 1) := by decide +kernel
theorem dM_130_70 : decode prog_11_method_42_code 70 = .ok (.goto 4, 3) := by decide +kernel
theorem dM_130_73 : decode prog_11_method_42_code 73 = .ok (.iconst (-1), 1) := by decide +kernel
theorem dM_130_74 : decode prog_11_method_42_code 74 = .ok (.aload_n 0, 1) := by decide +kernel
theorem dM_130_75 : decode prog_11_method_42_code 75 = .ok (.getfield 97, 3) := by decide +kernel
theorem dM_130_78 : decode prog_11_method_42_code 78 = .ok (.aload_n 0, 1) := by decide +kernel
theorem dM_130_79 : decode prog_11_method_42_code 79 = .ok (.getfield 141, 3) := by decide +kernel
theorem dM_130_82 : decode prog_11_method_42_code 82 = .ok (.iaload, 1) := by decide +kernel
theorem dM_130_83 : decode prog_11_method_42_code 83 = .ok (.invokevirtual 275, 3) := by decide +kernel
theorem dM_130_86 : decode prog_11_method_42_code 86 = .ok (.ifCond .ne 5, 3) := by decide +kernel
theorem dM_130_89 : decode prog_11_method_42_code 89 = .ok (.iconst 0, 1) := by decide +kernel
theorem dM_130_90 : decode prog_11_method_42_code 90 = .ok (.ireturn, 1) := by decide +kernel
theorem dM_130_91 : decode prog_11_method_42_code 91 = .ok (.aload_n 0, 1) := by decide +kernel
theorem dM_130_92 : decode prog_11_method_42_code 92 = .ok (.dup, 1) := by decide +kernel
theorem dM_130_93 : decode prog_11_method_42_code 93 = .ok (.getfield 260, 3) := by decide +kernel
theorem dM_130_96 : decode prog_11_method_42_code 96 = .ok (.iconst 1, 1) := by decide +kernel
theorem dM_130_97 : decode prog_11_method_42_code 97 = .ok (.iadd, 1) := by decide +kernel
theorem dM_130_98 : decode prog_11_method_42_code 98 = .ok (.putfield 260, 3) := by decide +kernel
theorem dM_130_101 : decode prog_11_method_42_code 101 = .ok (.goto (-69), 3) := by decide +kernel
theorem dM_130_104 : decode prog_11_method_42_code 104 = .ok (.aload_n 0, 1) := by decide +kernel
theorem dM_130_105 : decode prog_11_method_42_code 105 = .ok (.getfield 260, 3) := by decide +kernel
theorem dM_130_108 : decode prog_11_method_42_code 108 = .ok (.aload_n 0, 1) := by decide +kernel
theorem dM_130_109 : decode prog_11_method_42_code 109 = .ok (.getfield 244, 3) := by decide +kernel
theorem dM_130_112 : decode prog_11_method_42_code 112 = .ok (.if_icmp .ne 7, 3) := by decide +kernel
theorem dM_130_115 : decode prog_11_method_42_code 115 = .ok (.iconst 1, 1) := by decide +kernel
theorem dM_130_116 : decode prog_11_method_42_code 116 = .ok (.goto 4, 3) := by decide +kernel
theorem dM_130_119 : decode prog_11_method_42_code 119 = .ok (.iconst 0, 1) := by decide +kernel
theorem dM_130_120 : decode prog_11_method_42_code 120 = .ok (.ireturn, 1) := by decide +kernel
theorem dM_131_0 : decode prog_11_method_38_code 0 = .ok (.iconst 0, 1) := by decide +kernel
theorem dM_131_1 : decode prog_11_method_38_code 1 = .ok (.istore_n 3, 1) := by decide +kernel
theorem dM_131_2 : decode prog_11_method_38_code 2 = .ok (.iload_n 3, 1) := by decide +kernel
theorem dM_131_3 : decode prog_11_method_38_code 3 = .ok (.iload_n 1, 1) := by decide +kernel
theorem dM_131_4 : decode prog_11_method_38_code 4 = .ok (.if_icmp .ge 29, 3) := by decide +kernel
theorem dM_131_7 : decode prog_11_method_38_code 7 = .ok (.aload_n 0, 1) := by decide +kernel
theorem dM_131_8 : decode prog_11_method_38_code 8 = .ok (.getfield 97, 3) := by decide +kernel
theorem dM_131_11 : decode prog_11_method_38_code 11 = .ok (.aload_n 0, 1) := by decide +kernel
theorem dM_131_12 : decode prog_11_method_38_code 12 = .ok (.getfield 141, 3) := by decide +kernel
theorem dM_131_15 : decode prog_11_method_38_code 15 = .ok (.iload_n 2, 1) := by decide +kernel
theorem dM_131_16 : decode prog_11_method_38_code 16 = .ok (.iastore, 1) := by decide +kernel
theorem dM_131_17 : decode prog_11_method_38_code 17 = .ok (.aload_n 0, 1) := by decide +kernel
theorem dM_131_18 : decode prog_11_method_38_code 18 = .ok (.dup, 1) := by decide +kernel
theorem dM_131_19 : decode prog_11_method_38_code 19 = .ok (.getfield 141, 3) := by decide +kernel
theorem dM_131_22 : decode prog_11_method_38_code 22 = .ok (.iconst 1, 1) := by decide +kernel
theorem dM_131_23 : decode prog_11_method_38_code 23 = .ok (.iadd, 1) := by decide +kernel
theorem dM_131_24 : decode prog_11_method_38_code 24 = .ok (.putfield 141, 3) := by decide +kernel
theorem dM_131_27 : decode prog_11_method_38_code 27 = .ok (.iinc 3 1, 3) := by decide +kernel
theorem dM_131_30 : decode prog_11_method_38_code 30 = .ok (.goto (-28), 3) := by decide +kernel
theorem dM_131_33 : decode prog_11_method_38_code 33 = .ok (.return_, 1) := by decide +kernel
theorem dM_132_0 : decode prog_11_method_41_code 0 = .ok (.iload_n 2, 1) := by decide +kernel
theorem dM_132_1 : decode prog_11_method_41_code 1 = .ok (.bipush 41, 2) := by decide +kernel
theorem dM_132_3 : decode prog_11_method_41_code 3 = .ok (.if_icmp .ne 15, 3) := by decide +kernel
theorem dM_132_6 : decode prog_11_method_41_code 6 = .ok (.iload_n 1, 1) := by decide +kernel
theorem dM_132_7 : decode prog_11_method_41_code 7 = .ok (.bipush 41, 2) := by decide +kernel
theorem dM_132_9 : decode prog_11_method_41_code 9 = .ok (.if_icmp .ne 7, 3) := by decide +kernel
theorem dM_132_12 : decode prog_11_method_41_code 12 = .ok (.iconst 1, 1) := by decide +kernel
theorem dM_132_13 : decode prog_11_method_41_code 13 = .ok (.goto 4, 3) := by decide +kernel
theorem dM_132_16 : decode prog_11_method_41_code 16 = .ok (.iconst 0, 1) := by decide +kernel
theorem dM_132_17 : decode prog_11_method_41_code 17 = .ok (.ireturn, 1) := by decide +kernel
theorem dM_132_18 : decode prog_11_method_41_code 18 = .ok (.iload_n 2, 1) := by decide +kernel
theorem dM_132_19 : decode prog_11_method_41_code 19 = .ok (.bipush 116, 2) := by decide +kernel
theorem dM_132_21 : decode prog_11_method_41_code 21 = .ok (.if_icmp .ne 11, 3) := by decide +kernel
theorem dM_132_24 : decode prog_11_method_41_code 24 = .ok (.aload_n 0, 1) := by decide +kernel
theorem dM_132_25 : decode prog_11_method_41_code 25 = .ok (.iload_n 1, 1) := by decide +kernel
theorem dM_132_26 : decode prog_11_method_41_code 26 = .ok (.invokevirtual 269, 3) := by decide +kernel
theorem dM_132_29 : decode prog_11_method_41_code 29 = .ok (.goto 8, 3) := by decide +kernel
theorem dM_132_32 : decode prog_11_method_41_code 32 = .ok (.aload_n 0, 1) := by decide +kernel
theorem dM_132_33 : decode prog_11_method_41_code 33 = .ok (.iload_n 1, 1) := by decide +kernel
theorem dM_132_34 : decode prog_11_method_41_code 34 = .ok (.invokevirtual 272, 3) := by decide +kernel
theorem dM_132_37 : decode prog_11_method_41_code 37 = .ok (.ireturn, 1) := by decide +kernel
theorem dM_133_0 : decode prog_11_method_39_code 0 = .ok (.iload_n 1, 1) := by decide +kernel
theorem dM_133_1 : decode prog_11_method_39_code 1 = .ok (.bipush 97, 2) := by decide +kernel
theorem dM_133_3 : decode prog_11_method_39_code 3 = .ok (.bipush 102, 2) := by decide +kernel
theorem dM_133_5 : decode prog_11_method_39_code 5 = .ok (.invokestatic 250, 3) := by decide +kernel
theorem dM_133_8 : decode prog_11_method_39_code 8 = .ok (.ifCond .ne 28, 3) := by decide +kernel
theorem dM_133_11 : decode prog_11_method_39_code 11 = .ok (.iload_n 1, 1) := by decide +kernel
theorem dM_133_12 : decode prog_11_method_39_code 12 = .ok (.bipush 48, 2) := by decide +kernel
theorem dM_133_14 : decode prog_11_method_39_code 14 = .ok (.bipush 57, 2) := by decide +kernel
theorem dM_133_16 : decode prog_11_method_39_code 16 = .ok (.invokestatic 250, 3) := by decide +kernel
theorem dM_133_19 : decode prog_11_method_39_code 19 = .ok (.ifCond .ne 17, 3) := by decide +kernel
theorem dM_133_22 : decode prog_11_method_39_code 22 = .ok (.iload_n 1, 1) := by decide +kernel
theorem dM_133_23 : decode prog_11_method_39_code 23 = .ok (.bipush 110, 2) := by decide +kernel
theorem dM_133_25 : decode prog_11_method_39_code 25 = .ok (.if_icmp .eq 11, 3) := by decide +kernel
theorem dM_133_28 : decode prog_11_method_39_code 28 = .ok (.iload_n 1, 1) := by decide +kernel
theorem dM_133_29 : decode prog_11_method_39_code 29 = .ok (.bipush 40, 2) := by decide +kernel
theorem dM_133_31 : decode prog_11_method_39_code 31 = .ok (.if_icmp .eq 5, 3) := by decide +kernel
theorem dM_133_34 : decode prog_11_method_39_code 34 = .ok (.iconst 0, 1) := by decide +kernel
theorem dM_133_35 : decode prog_11_method_39_code 35 = .ok (.ireturn, 1) := by decide +kernel
theorem dM_133_36 : decode prog_11_method_39_code 36 = .ok (.aload_n 0, 1) := by decide +kernel
theorem dM_133_37 : decode prog_11_method_39_code 37 = .ok (.getfield 254, 3) := by decide +kernel
theorem dM_133_40 : decode prog_11_method_39_code 40 = .ok (.bipush 40, 2) := by decide +kernel
theorem dM_133_42 : decode prog_11_method_39_code 42 = .ok (.if_icmp .ne 18, 3) := by decide +kernel
theorem dM_133_45 : decode prog_11_method_39_code 45 = .ok (.aload_n 0, 1) := by decide +kernel
theorem dM_133_46 : decode prog_11_method_39_code 46 = .ok (.getfield 257, 3) := by decide +kernel
theorem dM_133_49 : decode prog_11_method_39_code 49 = .ok (.ifCond .ge 11, 3) := by decide +kernel
theorem dM_133_52 : decode prog_11_method_39_code 52 = .ok (.aload_n 0, 1) := by decide +kernel
theorem dM_133_53 : decode prog_11_method_39_code 53 = .ok (.aload_n 0, 1) := by decide +kernel
theorem dM_133_54 : decode prog_11_method_39_code 54 = .ok (.getfield 260, 3) := by decide +kernel
theorem dM_133_57 : decode prog_11_method_39_code 57 = .ok (.putfield 257, 3) := by decide +kernel
theorem dM_133_60 : decode prog_11_method_39_code 60 = .ok (.aload_n 0, 1) := by decide +kernel
theorem dM_133_61 : decode prog_11_method_39_code 61 = .ok (.dup, 1) := by decide +kernel
theorem dM_133_62 : decode prog_11_method_39_code 62 = .ok (.getfield 254, 3) := by decide +kernel
theorem dM_133_65 : decode prog_11_method_39_code 65 = .ok (.iconst 1, 1) := by decide +kernel
theorem dM_133_66 : decode prog_11_method_39_code 66 = .ok (.iadd, 1) := by decide +kernel
theorem dM_133_67 : decode prog_11_method_39_code 67 = .ok (.putfield 254, 3) := by decide +kernel
theorem dM_133_70 : decode prog_11_method_39_code 70 = .ok (.iload_n 1, 1) := by decide +kernel
theorem dM_133_71 : decode prog_11_method_39_code 71 = .ok (.bipush 40, 2) := by decide +kernel
theorem dM_133_73 : decode prog_11_method_39_code 73 = .ok (.if_icmp .ne 17, 3) := by decide +kernel
theorem dM_133_76 : decode prog_11_method_39_code 76 = .ok (.aload_n 0, 1) := by decide +kernel
theorem dM_133_77 : decode prog_11_method_39_code 77 = .ok (.iconst 1, 1) := by decide +kernel
theorem dM_133_78 : decode prog_11_method_39_code 78 = .ok (.bipush 41, 2) := by decide +kernel
theorem dM_133_80 : decode prog_11_method_39_code 80 = .ok (.invokevirtual 263, 3) := by decide +kernel
theorem dM_133_83 : decode prog_11_method_39_code 83 = .ok (.aload_n 0, 1) := by decide +kernel
theorem dM_133_84 : decode prog_11_method_39_code 84 = .ok (.iconst 2, 1) := by decide +kernel
theorem dM_133_85 : decode prog_11_method_39_code 85 = .ok (.bipush 116, 2) := by decide +kernel
theorem dM_133_87 : decode prog_11_method_39_code 87 = .ok (.invokevirtual 263, 3) := by decide +kernel
theorem dM_133_90 : decode prog_11_method_39_code 90 = .ok (.iconst 1, 1) := by decide +kernel
theorem dM_133_91 : decode prog_11_method_39_code 91 = .ok (.ireturn, 1) := by decide +kernel
theorem dM_134_0 : decode prog_11_method_40_code 0 = .ok (.iload_n 1, 1) := by decide +kernel
theorem dM_134_1 : decode prog_11_method_40_code 1 = .ok (.bipush 61, 2) := by decide +kernel
theorem dM_134_3 : decode prog_11_method_40_code 3 = .ok (.if_icmp .eq 47, 3) := by decide +kernel
theorem dM_134_6 : decode prog_11_method_40_code 6 = .ok (.iload_n 1, 1) := by decide +kernel
theorem dM_134_7 : decode prog_11_method_40_code 7 = .ok (.bipush 35, 2) := by decide +kernel
theorem dM_134_9 : decode prog_11_method_40_code 9 = .ok (.if_icmp .eq 41, 3) := by decide +kernel
theorem dM_134_12 : decode prog_11_method_40_code 12 = .ok (.iload_n 1, 1) := by decide +kernel
theorem dM_134_13 : decode prog_11_method_40_code 13 = .ok (.bipush 38, 2) := by decide +kernel
theorem dM_134_15 : decode prog_11_method_40_code 15 = .ok (.if_icmp .eq 35, 3) := by decide +kernel
theorem dM_134_18 : decode prog_11_method_40_code 18 = .ok (.iload_n 1, 1) := by decide +kernel
theorem dM_134_19 : decode prog_11_method_40_code 19 = .ok (.bipush 124, 2) := by decide +kernel
theorem dM_134_21 : decode prog_11_method_40_code 21 = .ok (.if_icmp .eq 29, 3) := by decide +kernel
theorem dM_134_24 : decode prog_11_method_40_code 24 = .ok (.iload_n 1, 1) := by decide +kernel
theorem dM_134_25 : decode prog_11_method_40_code 25 = .ok (.bipush 65, 2) := by decide +kernel
theorem dM_134_27 : decode prog_11_method_40_code 27 = .ok (.if_icmp .eq 23, 3) := by decide +kernel
theorem dM_134_30 : decode prog_11_method_40_code 30 = .ok (.iload_n 1, 1) := by decide +kernel
theorem dM_134_31 : decode prog_11_method_40_code 31 = .ok (.bipush 77, 2) := by decide +kernel
theorem dM_134_33 : decode prog_11_method_40_code 33 = .ok (.if_icmp .eq 17, 3) := by decide +kernel
theorem dM_134_36 : decode prog_11_method_40_code 36 = .ok (.iload_n 1, 1) := by decide +kernel
theorem dM_134_37 : decode prog_11_method_40_code 37 = .ok (.bipush 42, 2) := by decide +kernel
theorem dM_134_39 : decode prog_11_method_40_code 39 = .ok (.if_icmp .eq 11, 3) := by decide +kernel
theorem dM_134_42 : decode prog_11_method_40_code 42 = .ok (.iload_n 1, 1) := by decide +kernel
theorem dM_134_43 : decode prog_11_method_40_code 43 = .ok (.bipush 33, 2) := by decide +kernel
theorem dM_134_45 : decode prog_11_method_40_code 45 = .ok (.if_icmp .eq 5, 3) := by decide +kernel
theorem dM_134_48 : decode prog_11_method_40_code 48 = .ok (.iconst 0, 1) := by decide +kernel
theorem dM_134_49 : decode prog_11_method_40_code 49 = .ok (.ireturn, 1) := by decide +kernel
theorem dM_134_50 : decode prog_11_method_40_code 50 = .ok (.aload_n 0, 1) := by decide +kernel
theorem dM_134_51 : decode prog_11_method_40_code 51 = .ok (.getfield 266, 3) := by decide +kernel
theorem dM_134_54 : decode prog_11_method_40_code 54 = .ok (.bipush 24, 2) := by decide +kernel
theorem dM_134_56 : decode prog_11_method_40_code 56 = .ok (.if_icmp .ne 18, 3) := by decide +kernel
theorem dM_134_59 : decode prog_11_method_40_code 59 = .ok (.aload_n 0, 1) := by decide +kernel
theorem dM_134_60 : decode prog_11_method_40_code 60 = .ok (.getfield 257, 3) := by decide +kernel
theorem dM_134_63 : decode prog_11_method_40_code 63 = .ok (.ifCond .ge 11, 3) := by decide +kernel
theorem dM_134_66 : decode prog_11_method_40_code 66 = .ok (.aload_n 0, 1) := by decide +kernel
theorem dM_134_67 : decode prog_11_method_40_code 67 = .ok (.aload_n 0, 1) := by decide +kernel
theorem dM_134_68 : decode prog_11_method_40_code 68 = .ok (.getfield 260, 3) := by decide +kernel
theorem dM_134_71 : decode prog_11_method_40_code 71 = .ok (.putfield 257, 3) := by decide +kernel
theorem dM_134_74 : decode prog_11_method_40_code 74 = .ok (.aload_n 0, 1) := by decide +kernel
theorem dM_134_75 : decode prog_11_method_40_code 75 = .ok (.dup, 1) := by decide +kernel
theorem dM_134_76 : decode prog_11_method_40_code 76 = .ok (.getfield 266, 3) := by decide +kernel
theorem dM_134_79 : decode prog_11_method_40_code 79 = .ok (.iconst 1, 1) := by decide +kernel
theorem dM_134_80 : decode prog_11_method_40_code 80 = .ok (.iadd, 1) := by decide +kernel
theorem dM_134_81 : decode prog_11_method_40_code 81 = .ok (.putfield 266, 3) := by decide +kernel
theorem dM_134_84 : decode prog_11_method_40_code 84 = .ok (.iload_n 1, 1) := by decide +kernel
theorem dM_134_85 : decode prog_11_method_40_code 85 = .ok (.bipush 61, 2) := by decide +kernel
theorem dM_134_87 : decode prog_11_method_40_code 87 = .ok (.if_icmp .eq 15, 3) := by decide +kernel
theorem dM_134_90 : decode prog_11_method_40_code 90 = .ok (.iload_n 1, 1) := by decide +kernel
theorem dM_134_91 : decode prog_11_method_40_code 91 = .ok (.bipush 35, 2) := by decide +kernel
theorem dM_134_93 : decode prog_11_method_40_code 93 = .ok (.if_icmp .eq 9, 3) := by decide +kernel
theorem dM_134_96 : decode prog_11_method_40_code 96 = .ok (.iload_n 1, 1) := by decide +kernel
theorem dM_134_97 : decode prog_11_method_40_code 97 = .ok (.bipush 77, 2) := by decide +kernel
theorem dM_134_99 : decode prog_11_method_40_code 99 = .ok (.if_icmp .ne 10, 3) := by decide +kernel
theorem dM_134_102 : decode prog_11_method_40_code 102 = .ok (.aload_n 0, 1) := by decide +kernel
theorem dM_134_103 : decode prog_11_method_40_code 103 = .ok (.iconst 2, 1) := by decide +kernel
theorem dM_134_104 : decode prog_11_method_40_code 104 = .ok (.bipush 116, 2) := by decide +kernel
theorem dM_134_106 : decode prog_11_method_40_code 106 = .ok (.invokevirtual 263, 3) := by decide +kernel
theorem dM_134_109 : decode prog_11_method_40_code 109 = .ok (.iload_n 1, 1) := by decide +kernel
theorem dM_134_110 : decode prog_11_method_40_code 110 = .ok (.bipush 65, 2) := by decide +kernel
theorem dM_134_112 : decode prog_11_method_40_code 112 = .ok (.if_icmp .ne 10, 3) := by decide +kernel
theorem dM_134_115 : decode prog_11_method_40_code 115 = .ok (.aload_n 0, 1) := by decide +kernel
theorem dM_134_116 : decode prog_11_method_40_code 116 = .ok (.iconst 3, 1) := by decide +kernel
theorem dM_134_117 : decode prog_11_method_40_code 117 = .ok (.bipush 116, 2) := by decide +kernel
theorem dM_134_119 : decode prog_11_method_40_code 119 = .ok (.invokevirtual 263, 3) := by decide +kernel
theorem dM_134_122 : decode prog_11_method_40_code 122 = .ok (.iload_n 1, 1) := by decide +kernel
theorem dM_134_123 : decode prog_11_method_40_code 123 = .ok (.bipush 38, 2) := by decide +kernel
theorem dM_134_125 : decode prog_11_method_40_code 125 = .ok (.if_icmp .eq 9, 3) := by decide +kernel
theorem dM_134_128 : decode prog_11_method_40_code 128 = .ok (.iload_n 1, 1) := by decide +kernel
theorem dM_134_129 : decode prog_11_method_40_code 129 = .ok (.bipush 124, 2) := by decide +kernel
theorem dM_134_131 : decode prog_11_method_40_code 131 = .ok (.if_icmp .ne 10, 3) := by decide +kernel
theorem dM_134_134 : decode prog_11_method_40_code 134 = .ok (.aload_n 0, 1) := by decide +kernel
theorem dM_134_135 : decode prog_11_method_40_code 135 = .ok (.iconst 2, 1) := by decide +kernel
theorem dM_134_136 : decode prog_11_method_40_code 136 = .ok (.bipush 103, 2) := by decide +kernel
theorem dM_134_138 : decode prog_11_method_40_code 138 = .ok (.invokevirtual 263, 3) := by decide +kernel
theorem dM_134_141 : decode prog_11_method_40_code 141 = .ok (.iconst 1, 1) := by decide +kernel
theorem dM_134_142 : decode prog_11_method_40_code 142 = .ok (.ireturn, 1) := by decide +kernel
theorem dM_135_0 : decode prog_11_method_49_code 0 = .ok (.aload_n 0, 1) := by decide +kernel
theorem dM_135_1 : decode prog_11_method_49_code 1 = .ok (.iconst 1, 1) := by decide +kernel
theorem dM_135_2 : decode prog_11_method_49_code 2 = .ok (.putfield 300, 3) := by decide +kernel
theorem dM_135_5 : decode prog_11_method_49_code 5 = .ok (.iconst 0, 1) := by decide +kernel
theorem dM_135_6 : decode prog_11_method_49_code 6 = .ok (.istore_n 1, 1) := by decide +kernel
theorem dM_135_7 : decode prog_11_method_49_code 7 = .ok (.iload_n 1, 1) := by decide +kernel
theorem dM_135_8 : decode prog_11_method_49_code 8 = .ok (.bipush 96, 2) := by decide +kernel
theorem dM_135_10 : decode prog_11_method_49_code 10 = .ok (.if_icmp .ge 21, 3) := by decide +kernel
theorem dM_135_13 : decode prog_11_method_49_code 13 = .ok (.aload_n 0, 1) := by decide +kernel
theorem dM_135_14 : decode prog_11_method_49_code 14 = .ok (.getfield 94, 3) := by decide +kernel
theorem dM_135_17 : decode prog_11_method_49_code 17 = .ok (.iload_n 1, 1) := by decide +kernel
theorem dM_135_18 : decode prog_11_method_49_code 18 = .ok (.aload_n 0, 1) := by decide +kernel
theorem dM_135_19 : decode prog_11_method_49_code 19 = .ok (.getfield 91, 3) := by decide +kernel
theorem dM_135_22 : decode prog_11_method_49_code 22 = .ok (.iload_n 1, 1) := by decide +kernel
theorem dM_135_23 : decode prog_11_method_49_code 23 = .ok (.iaload, 1) := by decide +kernel
theorem dM_135_24 : decode prog_11_method_49_code 24 = .ok (.iastore, 1) := by decide +kernel
theorem dM_135_25 : decode prog_11_method_49_code 25 = .ok (.iinc 1 1, 3) := by decide +kernel
theorem dM_135_28 : decode prog_11_method_49_code 28 = .ok (.goto (-21), 3) := by decide +kernel
theorem dM_135_31 : decode prog_11_method_49_code 31 = .ok (.aload_n 0, 1) := by decide +kernel
theorem dM_135_32 : decode prog_11_method_49_code 32 = .ok (.aload_n 0, 1) := by decide +kernel
theorem dM_135_33 : decode prog_11_method_49_code 33 = .ok (.getfield 112, 3) := by decide +kernel
theorem dM_135_36 : decode prog_11_method_49_code 36 = .ok (.putfield 304, 3) := by decide +kernel
theorem dM_135_39 : decode prog_11_method_49_code 39 = .ok (.aload_n 0, 1) := by decide +kernel
theorem dM_135_40 : decode prog_11_method_49_code 40 = .ok (.aload_n 0, 1) := by decide +kernel
theorem dM_135_41 : decode prog_11_method_49_code 41 = .ok (.getfield 79, 3) := by decide +kernel
theorem dM_135_44 : decode prog_11_method_49_code 44 = .ok (.iconst 0, 1) := by decide +kernel
theorem dM_135_45 : decode prog_11_method_49_code 45 = .ok (.iaload, 1) := by decide +kernel
theorem dM_135_46 : decode prog_11_method_49_code 46 = .ok (.putfield 307, 3) := by decide +kernel
theorem dM_135_49 : decode prog_11_method_49_code 49 = .ok (.aload_n 0, 1) := by decide +kernel
theorem dM_135_50 : decode prog_11_method_49_code 50 = .ok (.getfield 79, 3) := by decide +kernel
theorem dM_135_53 : decode prog_11_method_49_code 53 = .ok (.iconst 0, 1) := by decide +kernel
theorem dM_135_54 : decode prog_11_method_49_code 54 = .ok (.iaload, 1) := by decide +kernel
theorem dM_135_55 : decode prog_11_method_49_code 55 = .ok (.ireturn, 1) := by decide +kernel
theorem dM_136_0 : decode prog_11_method_50_code 0 = .ok (.aload_n 0, 1) := by decide +kernel
theorem dM_136_1 : decode prog_11_method_50_code 1 = .ok (.getfield 300, 3) := by decide +kernel
theorem dM_136_4 : decode prog_11_method_50_code 4 = .ok (.ifCond .ne 10, 3) := by decide +kernel
theorem dM_136_7 : decode prog_11_method_50_code 7 = .ok (.aload_n 0, 1) := by decide +kernel
theorem dM_136_8 : decode prog_11_method_50_code 8 = .ok (.bipush (-3), 2) := by decide +kernel
theorem dM_136_10 : decode prog_11_method_50_code 10 = .ok (.invokevirtual 247, 3) := by decide +kernel
theorem dM_136_13 : decode prog_11_method_50_code 13 = .ok (.ireturn, 1) := by decide +kernel
theorem dM_136_14 : decode prog_11_method_50_code 14 = .ok (.iconst 0, 1) := by decide +kernel
theorem dM_136_15 : decode prog_11_method_50_code 15 = .ok (.istore_n 1, 1) := by decide +kernel
theorem dM_136_16 : decode prog_11_method_50_code 16 = .ok (.iload_n 1, 1) := by decide +kernel
theorem dM_136_17 : decode prog_11_method_50_code 17 = .ok (.bipush 96, 2) := by decide +kernel
theorem dM_136_19 : decode prog_11_method_50_code 19 = .ok (.if_icmp .ge 21, 3) := by decide +kernel
theorem dM_136_22 : decode prog_11_method_50_code 22 = .ok (.aload_n 0, 1) := by decide +kernel
theorem dM_136_23 : decode prog_11_method_50_code 23 = .ok (.getfield 91, 3) := by decide +kernel
theorem dM_136_26 : decode prog_11_method_50_code 26 = .ok (.iload_n 1, 1) := by decide +kernel
theorem dM_136_27 : decode prog_11_method_50_code 27 = .ok (.aload_n 0, 1) := by decide +kernel
theorem dM_136_28 : decode prog_11_method_50_code 28 = .ok (.getfield 94, 3) := by decide +kernel
theorem dM_136_31 : decode prog_11_method_50_code 31 = .ok (.iload_n 1, 1) := by decide +kernel
theorem dM_136_32 : decode prog_11_method_50_code 32 = .ok (.iaload, 1) := by decide +kernel
theorem dM_136_33 : decode prog_11_method_50_code 33 = .ok (.iastore, 1) := by decide +kernel
theorem dM_136_34 : decode prog_11_method_50_code 34 = .ok (.iinc 1 1, 3) := by decide +kernel
theorem dM_136_37 : decode prog_11_method_50_code 37 = .ok (.goto (-21), 3) := by decide +kernel
theorem dM_136_40 : decode prog_11_method_50_code 40 = .ok (.aload_n 0, 1) := by decide +kernel
theorem dM_136_41 : decode prog_11_method_50_code 41 = .ok (.aload_n 0, 1) := by decide +kernel
theorem dM_136_42 : decode prog_11_method_50_code 42 = .ok (.getfield 304, 3) := by decide +kernel
theorem dM_136_45 : decode prog_11_method_50_code 45 = .ok (.putfield 112, 3) := by decide +kernel
theorem dM_136_48 : decode prog_11_method_50_code 48 = .ok (.aload_n 0, 1) := by decide +kernel
theorem dM_136_49 : decode prog_11_method_50_code 49 = .ok (.invokevirtual 116, 3) := by decide +kernel
theorem dM_136_52 : decode prog_11_method_50_code 52 = .ok (.aload_n 0, 1) := by decide +kernel
theorem dM_136_53 : decode prog_11_method_50_code 53 = .ok (.aload_n 0, 1) := by decide +kernel
theorem dM_136_54 : decode prog_11_method_50_code 54 = .ok (.getfield 307, 3) := by decide +kernel
theorem dM_136_57 : decode prog_11_method_50_code 57 = .ok (.invokevirtual 310, 3) := by decide +kernel
theorem dM_136_60 : decode prog_11_method_50_code 60 = .ok (.aload_n 0, 1) := by decide +kernel
theorem dM_136_61 : decode prog_11_method_50_code 61 = .ok (.getfield 79, 3) := by decide +kernel
theorem dM_136_64 : decode prog_11_method_50_code 64 = .ok (.iconst 0, 1) := by decide +kernel
theorem dM_136_65 : decode prog_11_method_50_code 65 = .ok (.iaload, 1) := by decide +kernel
theorem dM_136_66 : decode prog_11_method_50_code 66 = .ok (.ireturn, 1) := by decide +kernel
theorem dM_137_0 : decode prog_11_method_48_code 0 = .ok (.iconst 0, 1) := by decide +kernel
theorem dM_137_1 : decode prog_11_method_48_code 1 = .ok (.istore_n 2, 1) := by decide +kernel
theorem dM_137_2 : decode prog_11_method_48_code 2 = .ok (.iload_n 2, 1) := by decide +kernel
theorem dM_137_3 : decode prog_11_method_48_code 3 = .ok (.iload_n 1, 1) := by decide +kernel
theorem dM_137_4 : decode prog_11_method_48_code 4 = .ok (.if_icmp .ge 20, 3) := by decide +kernel
theorem dM_137_7 : decode prog_11_method_48_code 7 = .ok (.aload_n 0, 1) := by decide +kernel
theorem dM_137_8 : decode prog_11_method_48_code 8 = .ok (.invokevirtual 294, 3) := by decide +kernel
theorem dM_137_11 : decode prog_11_method_48_code 11 = .ok (.ifCond .ne 13, 3) := by decide +kernel
theorem dM_137_14 : decode prog_11_method_48_code 14 = .ok (.aload_n 0, 1) := by decide +kernel
theorem dM_137_15 : decode prog_11_method_48_code 15 = .ok (.invokevirtual 297, 3) := by decide +kernel
theorem dM_137_18 : decode prog_11_method_48_code 18 = .ok (.iinc 2 1, 3) := by decide +kernel
theorem dM_137_21 : decode prog_11_method_48_code 21 = .ok (.goto (-19), 3) := by decide +kernel
theorem dM_137_24 : decode prog_11_method_48_code 24 = .ok (.return_, 1) := by decide +kernel
theorem dM_139_0 : decode prog_11_method_36_code 0 = .ok (.aload_n 0, 1) := by decide +kernel
theorem dM_139_1 : decode prog_11_method_36_code 1 = .ok (.getfield 79, 3) := by decide +kernel
theorem dM_139_4 : decode prog_11_method_36_code 4 = .ok (.aload_n 0, 1) := by decide +kernel
theorem dM_139_5 : decode prog_11_method_36_code 5 = .ok (.getfield 164, 3) := by decide +kernel
theorem dM_139_8 : decode prog_11_method_36_code 8 = .ok (.dup2, 1) := by decide +kernel
theorem dM_139_9 : decode prog_11_method_36_code 9 = .ok (.iaload, 1) := by decide +kernel
theorem dM_139_10 : decode prog_11_method_36_code 10 = .ok (.iconst 1, 1) := by decide +kernel
theorem dM_139_11 : decode prog_11_method_36_code 11 = .ok (.iadd, 1) := by decide +kernel
theorem dM_139_12 : decode prog_11_method_36_code 12 = .ok (.iastore, 1) := by decide +kernel
theorem dM_139_13 : decode prog_11_method_36_code 13 = .ok (.aload_n 0, 1) := by decide +kernel
theorem dM_139_14 : decode prog_11_method_36_code 14 = .ok (.iconst 0, 1) := by decide +kernel
theorem dM_139_15 : decode prog_11_method_36_code 15 = .ok (.invokevirtual 179, 3) := by decide +kernel
theorem dM_139_18 : decode prog_11_method_36_code 18 = .ok (.istore_n 1, 1) := by decide +kernel
theorem dM_139_19 : decode prog_11_method_36_code 19 = .ok (.aload_n 0, 1) := by decide +kernel
theorem dM_139_20 : decode prog_11_method_36_code 20 = .ok (.getfield 70, 3) := by decide +kernel
theorem dM_139_23 : decode prog_11_method_36_code 23 = .ok (.aload_n 0, 1) := by decide +kernel
theorem dM_139_24 : decode prog_11_method_36_code 24 = .ok (.getfield 164, 3) := by decide +kernel
theorem dM_139_27 : decode prog_11_method_36_code 27 = .ok (.aload_n 0, 1) := by decide +kernel
theorem dM_139_28 : decode prog_11_method_36_code 28 = .ok (.getfield 70, 3) := by decide +kernel
theorem dM_139_31 : decode prog_11_method_36_code 31 = .ok (.aload_n 0, 1) := by decide +kernel
theorem dM_139_32 : decode prog_11_method_36_code 32 = .ok (.getfield 164, 3) := by decide +kernel
theorem dM_139_35 : decode prog_11_method_36_code 35 = .ok (.iaload, 1) := by decide +kernel
theorem dM_139_36 : decode prog_11_method_36_code 36 = .ok (.iconst 1, 1) := by decide +kernel
theorem dM_139_37 : decode prog_11_method_36_code 37 = .ok (.iadd, 1) := by decide +kernel
theorem dM_139_38 : decode prog_11_method_36_code 38 = .ok (.bipush 42, 2) := by decide +kernel
theorem dM_139_40 : decode prog_11_method_36_code 40 = .ok (.irem, 1) := by decide +kernel
theorem dM_139_41 : decode prog_11_method_36_code 41 = .ok (.iastore, 1) := by decide +kernel
theorem dM_139_42 : decode prog_11_method_36_code 42 = .ok (.aload_n 0, 1) := by decide +kernel
theorem dM_139_43 : decode prog_11_method_36_code 43 = .ok (.getfield 73, 3) := by decide +kernel
theorem dM_139_46 : decode prog_11_method_36_code 46 = .ok (.aload_n 0, 1) := by decide +kernel
theorem dM_139_47 : decode prog_11_method_36_code 47 = .ok (.getfield 164, 3) := by decide +kernel
theorem dM_139_50 : decode prog_11_method_36_code 50 = .ok (.dup2, 1) := by decide +kernel
theorem dM_139_51 : decode prog_11_method_36_code 51 = .ok (.iaload, 1) := by decide +kernel
theorem dM_139_52 : decode prog_11_method_36_code 52 = .ok (.iconst 1, 1) := by decide +kernel
theorem dM_139_53 : decode prog_11_method_36_code 53 = .ok (.isub, 1) := by decide +kernel
theorem dM_139_54 : decode prog_11_method_36_code 54 = .ok (.iastore, 1) := by decide +kernel
theorem dM_139_55 : decode prog_11_method_36_code 55 = .ok (.aload_n 0, 1) := by decide +kernel
theorem dM_139_56 : decode prog_11_method_36_code 56 = .ok (.iload_n 1, 1) := by decide +kernel
theorem dM_139_57 : decode prog_11_method_36_code 57 = .ok (.invokevirtual 212, 3) := by decide +kernel
theorem dM_139_60 : decode prog_11_method_36_code 60 = .ok (.aload_n 0, 1) := by decide +kernel
theorem dM_139_61 : decode prog_11_method_36_code 61 = .ok (.getfield 170, 3) := by decide +kernel
theorem dM_139_64 : decode prog_11_method_36_code 64 = .ok (.ifCond .ne 10, 3) := by decide +kernel
theorem dM_139_67 : decode prog_11_method_36_code 67 = .ok (.aload_n 0, 1) := by decide +kernel
theorem dM_139_68 : decode prog_11_method_36_code 68 = .ok (.invokevirtual 236, 3) := by decide +kernel
theorem dM_139_71 : decode prog_11_method_36_code 71 = .ok (.goto 32, 3) := by decide +kernel
theorem dM_139_74 : decode prog_11_method_36_code 74 = .ok (.aload_n 0, 1) := by decide +kernel
theorem dM_139_75 : decode prog_11_method_36_code 75 = .ok (.getfield 31, 3) := by decide +kernel
theorem dM_139_78 : decode prog_11_method_36_code 78 = .ok (.aload_n 0, 1) := by decide +kernel
theorem dM_139_79 : decode prog_11_method_36_code 79 = .ok (.getfield 170, 3) := by decide +kernel
theorem dM_139_82 : decode prog_11_method_36_code 82 = .ok (.iaload, 1) := by decide +kernel
theorem dM_139_83 : decode prog_11_method_36_code 83 = .ok (.istore_n 2, 1) := by decide +kernel
theorem dM_139_84 : decode prog_11_method_36_code 84 = .ok (.aload_n 0, 1) := by decide +kernel
theorem dM_139_85 : decode prog_11_method_36_code 85 = .ok (.aload_n 0, 1) := by decide +kernel
theorem dM_139_86 : decode prog_11_method_36_code 86 = .ok (.getfield 37, 3) := by decide +kernel
theorem dM_139_89 : decode prog_11_method_36_code 89 = .ok (.aload_n 0, 1) := by decide +kernel
theorem dM_139_90 : decode prog_11_method_36_code 90 = .ok (.getfield 170, 3) := by decide +kernel
theorem dM_139_93 : decode prog_11_method_36_code 93 = .ok (.iaload, 1) := by decide +kernel
theorem dM_139_94 : decode prog_11_method_36_code 94 = .ok (.putfield 170, 3) := by decide +kernel
theorem dM_139_97 : decode prog_11_method_36_code 97 = .ok (.aload_n 0, 1) := by decide +kernel
theorem dM_139_98 : decode prog_11_method_36_code 98 = .ok (.iload_n 1, 1) := by decide +kernel
theorem dM_139_99 : decode prog_11_method_36_code 99 = .ok (.iload_n 2, 1) := by decide +kernel
theorem dM_139_100 : decode prog_11_method_36_code 100 = .ok (.invokevirtual 239, 3) := by decide +kernel
theorem dM_139_103 : decode prog_11_method_36_code 103 = .ok (.aload_n 0, 1) := by decide +kernel
theorem dM_139_104 : decode prog_11_method_36_code 104 = .ok (.getfield 73, 3) := by decide +kernel
theorem dM_139_107 : decode prog_11_method_36_code 107 = .ok (.aload_n 0, 1) := by decide +kernel
theorem dM_139_108 : decode prog_11_method_36_code 108 = .ok (.getfield 164, 3) := by decide +kernel
theorem dM_139_111 : decode prog_11_method_36_code 111 = .ok (.iaload, 1) := by decide +kernel
theorem dM_139_112 : decode prog_11_method_36_code 112 = .ok (.aload_n 0, 1) := by decide +kernel
theorem dM_139_113 : decode prog_11_method_36_code 113 = .ok (.getfield 85, 3) := by decide +kernel
theorem dM_139_116 : decode prog_11_method_36_code 116 = .ok (.aload_n 0, 1) := by decide +kernel
theorem dM_139_117 : decode prog_11_method_36_code 117 = .ok (.getfield 164, 3) := by decide +kernel
theorem dM_139_120 : decode prog_11_method_36_code 120 = .ok (.iaload, 1) := by decide +kernel
theorem dM_139_121 : decode prog_11_method_36_code 121 = .ok (.if_icmp .le 21, 3) := by decide +kernel
theorem dM_139_124 : decode prog_11_method_36_code 124 = .ok (.aload_n 0, 1) := by decide +kernel
theorem dM_139_125 : decode prog_11_method_36_code 125 = .ok (.getfield 85, 3) := by decide +kernel
theorem dM_139_128 : decode prog_11_method_36_code 128 = .ok (.aload_n 0, 1) := by decide +kernel
theorem dM_139_129 : decode prog_11_method_36_code 129 = .ok (.getfield 164, 3) := by decide +kernel
theorem dM_139_132 : decode prog_11_method_36_code 132 = .ok (.aload_n 0, 1) := by decide +kernel
theorem dM_139_133 : decode prog_11_method_36_code 133 = .ok (.getfield 73, 3) := by decide +kernel
theorem dM_139_136 : decode prog_11_method_36_code 136 = .ok (.aload_n 0, 1) := by decide +kernel
theorem dM_139_137 : decode prog_11_method_36_code 137 = .ok (.getfield 164, 3) := by decide +kernel
theorem dM_139_140 : decode prog_11_method_36_code 140 = .ok (.iaload, 1) := by decide +kernel
theorem dM_139_141 : decode prog_11_method_36_code 141 = .ok (.iastore, 1) := by decide +kernel
theorem dM_139_142 : decode prog_11_method_36_code 142 = .ok (.return_, 1) := by decide +kernel
theorem dM_141_0 : decode prog_11_method_35_code 0 = .ok (.bipush 30, 2) := by decide +kernel
theorem dM_141_2 : decode prog_11_method_35_code 2 = .ok (.aload_n 0, 1) := by decide +kernel
theorem dM_141_3 : decode prog_11_method_35_code 3 = .ok (.getfield 164, 3) := by decide +kernel
theorem dM_141_6 : decode prog_11_method_35_code 6 = .ok (.imul, 1) := by decide +kernel
theorem dM_141_7 : decode prog_11_method_35_code 7 = .ok (.aload_n 0, 1) := by decide +kernel
theorem dM_141_8 : decode prog_11_method_35_code 8 = .ok (.getfield 76, 3) := by decide +kernel
theorem dM_141_11 : decode prog_11_method_35_code 11 = .ok (.aload_n 0, 1) := by decide +kernel
theorem dM_141_12 : decode prog_11_method_35_code 12 = .ok (.getfield 164, 3) := by decide +kernel
theorem dM_141_15 : decode prog_11_method_35_code 15 = .ok (.iaload, 1) := by decide +kernel
theorem dM_141_16 : decode prog_11_method_35_code 16 = .ok (.iadd, 1) := by decide +kernel
theorem dM_141_17 : decode prog_11_method_35_code 17 = .ok (.istore_n 1, 1) := by decide +kernel
theorem dM_141_18 : decode prog_11_method_35_code 18 = .ok (.iconst 0, 1) := by decide +kernel
theorem dM_141_19 : decode prog_11_method_35_code 19 = .ok (.istore_n 2, 1) := by decide +kernel
theorem dM_141_20 : decode prog_11_method_35_code 20 = .ok (.iload_n 2, 1) := by decide +kernel
theorem dM_141_21 : decode prog_11_method_35_code 21 = .ok (.bipush 64, 2) := by decide +kernel
theorem dM_141_23 : decode prog_11_method_35_code 23 = .ok (.if_icmp .ge 26, 3) := by decide +kernel
theorem dM_141_26 : decode prog_11_method_35_code 26 = .ok (.aload_n 0, 1) := by decide +kernel
theorem dM_141_27 : decode prog_11_method_35_code 27 = .ok (.getfield 61, 3) := by decide +kernel
theorem dM_141_30 : decode prog_11_method_35_code 30 = .ok (.bipush 64, 2) := by decide +kernel
theorem dM_141_32 : decode prog_11_method_35_code 32 = .ok (.iload_n 1, 1) := by decide +kernel
theorem dM_141_33 : decode prog_11_method_35_code 33 = .ok (.imul, 1) := by decide +kernel
theorem dM_141_34 : decode prog_11_method_35_code 34 = .ok (.iload_n 2, 1) := by decide +kernel
theorem dM_141_35 : decode prog_11_method_35_code 35 = .ok (.iadd, 1) := by decide +kernel
theorem dM_141_36 : decode prog_11_method_35_code 36 = .ok (.aload_n 0, 1) := by decide +kernel
theorem dM_141_37 : decode prog_11_method_35_code 37 = .ok (.getfield 40, 3) := by decide +kernel
theorem dM_141_40 : decode prog_11_method_35_code 40 = .ok (.iload_n 2, 1) := by decide +kernel
theorem dM_141_41 : decode prog_11_method_35_code 41 = .ok (.iaload, 1) := by decide +kernel
theorem dM_141_42 : decode prog_11_method_35_code 42 = .ok (.iastore, 1) := by decide +kernel
theorem dM_141_43 : decode prog_11_method_35_code 43 = .ok (.iinc 2 1, 3) := by decide +kernel
theorem dM_141_46 : decode prog_11_method_35_code 46 = .ok (.goto (-26), 3) := by decide +kernel
theorem dM_141_49 : decode prog_11_method_35_code 49 = .ok (.aload_n 0, 1) := by decide +kernel
theorem dM_141_50 : decode prog_11_method_35_code 50 = .ok (.getfield 64, 3) := by decide +kernel
theorem dM_141_53 : decode prog_11_method_35_code 53 = .ok (.iload_n 1, 1) := by decide +kernel
theorem dM_141_54 : decode prog_11_method_35_code 54 = .ok (.aload_n 0, 1) := by decide +kernel
theorem dM_141_55 : decode prog_11_method_35_code 55 = .ok (.getfield 79, 3) := by decide +kernel
theorem dM_141_58 : decode prog_11_method_35_code 58 = .ok (.aload_n 0, 1) := by decide +kernel
theorem dM_141_59 : decode prog_11_method_35_code 59 = .ok (.getfield 164, 3) := by decide +kernel
theorem dM_141_62 : decode prog_11_method_35_code 62 = .ok (.iaload, 1) := by decide +kernel
theorem dM_141_63 : decode prog_11_method_35_code 63 = .ok (.iastore, 1) := by decide +kernel
theorem dM_141_64 : decode prog_11_method_35_code 64 = .ok (.aload_n 0, 1) := by decide +kernel
theorem dM_141_65 : decode prog_11_method_35_code 65 = .ok (.getfield 67, 3) := by decide +kernel
theorem dM_141_68 : decode prog_11_method_35_code 68 = .ok (.iload_n 1, 1) := by decide +kernel
theorem dM_141_69 : decode prog_11_method_35_code 69 = .ok (.aload_n 0, 1) := by decide +kernel
theorem dM_141_70 : decode prog_11_method_35_code 70 = .ok (.aload_n 0, 1) := by decide +kernel
theorem dM_141_71 : decode prog_11_method_35_code 71 = .ok (.getfield 173, 3) := by decide +kernel
theorem dM_141_74 : decode prog_11_method_35_code 74 = .ok (.invokevirtual 233, 3) := by decide +kernel
theorem dM_141_77 : decode prog_11_method_35_code 77 = .ok (.iastore, 1) := by decide +kernel
theorem dM_141_78 : decode prog_11_method_35_code 78 = .ok (.aload_n 0, 1) := by decide +kernel
theorem dM_141_79 : decode prog_11_method_35_code 79 = .ok (.getfield 76, 3) := by decide +kernel
theorem dM_141_82 : decode prog_11_method_35_code 82 = .ok (.aload_n 0, 1) := by decide +kernel
theorem dM_141_83 : decode prog_11_method_35_code 83 = .ok (.getfield 164, 3) := by decide +kernel
theorem dM_141_86 : decode prog_11_method_35_code 86 = .ok (.dup2, 1) := by decide +kernel
theorem dM_141_87 : decode prog_11_method_35_code 87 = .ok (.iaload, 1) := by decide +kernel
theorem dM_141_88 : decode prog_11_method_35_code 88 = .ok (.iconst 1, 1) := by decide +kernel
theorem dM_141_89 : decode prog_11_method_35_code 89 = .ok (.iadd, 1) := by decide +kernel
theorem dM_141_90 : decode prog_11_method_35_code 90 = .ok (.iastore, 1) := by decide +kernel
theorem dM_141_91 : decode prog_11_method_35_code 91 = .ok (.return_, 1) := by decide +kernel
theorem dM_143_0 : decode prog_11_method_34_code 0 = .ok (.aload_n 0, 1) := by decide +kernel
theorem dM_143_1 : decode prog_11_method_34_code 1 = .ok (.getfield 19, 3) := by decide +kernel
theorem dM_143_4 : decode prog_11_method_34_code 4 = .ok (.iload_n 2, 1) := by decide +kernel
theorem dM_143_5 : decode prog_11_method_34_code 5 = .ok (.iaload, 1) := by decide +kernel
theorem dM_143_6 : decode prog_11_method_34_code 6 = .ok (.lookupswitch 192 #[(35, 89), (38, 121), (42, 185), (61, 66), (65, 167), (77, 176), (124, 158)], 66) := by decide +kernel
theorem dM_143_72 : decode prog_11_method_34_code 72 = .ok (.aload_n 0, 1) := by decide +kernel
theorem dM_143_73 : decode prog_11_method_34_code 73 = .ok (.aload_n 0, 1) := by decide +kernel
theorem dM_143_74 : decode prog_11_method_34_code 74 = .ok (.aload_n 0, 1) := by decide +kernel
theorem dM_143_75 : decode prog_11_method_34_code 75 = .ok (.getfield 22, 3) := by decide +kernel
theorem dM_143_78 : decode prog_11_method_34_code 78 = .ok (.iload_n 2, 1) := by decide +kernel
theorem dM_143_79 : decode prog_11_method_34_code 79 = .ok (.iaload, 1) := by decide +kernel
theorem dM_143_80 : decode prog_11_method_34_code 80 = .ok (.aload_n 0, 1) := by decide +kernel
theorem dM_143_81 : decode prog_11_method_34_code 81 = .ok (.getfield 25, 3) := by decide +kernel
theorem dM_143_84 : decode prog_11_method_34_code 84 = .ok (.iload_n 2, 1) := by decide +kernel
theorem dM_143_85 : decode prog_11_method_34_code 85 = .ok (.iaload, 1) := by decide +kernel
theorem dM_143_86 : decode prog_11_method_34_code 86 = .ok (.invokevirtual 205, 3) := by decide +kernel
theorem dM_143_89 : decode prog_11_method_34_code 89 = .ok (.invokevirtual 208, 3) := by decide +kernel
theorem dM_143_92 : decode prog_11_method_34_code 92 = .ok (.goto 106, 3) := by decide +kernel
theorem dM_143_95 : decode prog_11_method_34_code 95 = .ok (.aload_n 0, 1) := by decide +kernel
theorem dM_143_96 : decode prog_11_method_34_code 96 = .ok (.aload_n 0, 1) := by decide +kernel
theorem dM_143_97 : decode prog_11_method_34_code 97 = .ok (.aload_n 0, 1) := by decide +kernel
theorem dM_143_98 : decode prog_11_method_34_code 98 = .ok (.getfield 22, 3) := by decide +kernel
theorem dM_143_101 : decode prog_11_method_34_code 101 = .ok (.iload_n 2, 1) := by decide +kernel
theorem dM_143_102 : decode prog_11_method_34_code 102 = .ok (.iaload, 1) := by decide +kernel
theorem dM_143_103 : decode prog_11_method_34_code 103 = .ok (.aload_n 0, 1) := by decide +kernel
theorem dM_143_104 : decode prog_11_method_34_code 104 = .ok (.getfield 25, 3) := by decide +kernel
theorem dM_143_107 : decode prog_11_method_34_code 107 = .ok (.iload_n 2, 1) := by decide +kernel
theorem dM_143_108 : decode prog_11_method_34_code 108 = .ok (.iaload, 1) := by decide +kernel
theorem dM_143_109 : decode prog_11_method_34_code 109 = .ok (.aload_n 0, 1) := by decide +kernel
theorem dM_143_110 : decode prog_11_method_34_code 110 = .ok (.getfield 173, 3) := by decide +kernel
theorem dM_143_113 : decode prog_11_method_34_code 113 = .ok (.invokevirtual 182, 3) := by decide +kernel
theorem dM_143_116 : decode prog_11_method_34_code 116 = .ok (.putfield 173, 3) := by decide +kernel
theorem dM_143_119 : decode prog_11_method_34_code 119 = .ok (.aload_n 0, 1) := by decide +kernel
theorem dM_143_120 : decode prog_11_method_34_code 120 = .ok (.iconst 1, 1) := by decide +kernel
theorem dM_143_121 : decode prog_11_method_34_code 121 = .ok (.invokevirtual 208, 3) := by decide +kernel
theorem dM_143_124 : decode prog_11_method_34_code 124 = .ok (.goto 74, 3) := by decide +kernel
theorem dM_143_127 : decode prog_11_method_34_code 127 = .ok (.aload_n 0, 1) := by decide +kernel
theorem dM_143_128 : decode prog_11_method_34_code 128 = .ok (.aload_n 0, 1) := by decide +kernel
theorem dM_143_129 : decode prog_11_method_34_code 129 = .ok (.aload_n 0, 1) := by decide +kernel
theorem dM_143_130 : decode prog_11_method_34_code 130 = .ok (.getfield 22, 3) := by decide +kernel
theorem dM_143_133 : decode prog_11_method_34_code 133 = .ok (.iload_n 2, 1) := by decide +kernel
theorem dM_143_134 : decode prog_11_method_34_code 134 = .ok (.iaload, 1) := by decide +kernel
theorem dM_143_135 : decode prog_11_method_34_code 135 = .ok (.iconst 0, 1) := by decide +kernel
theorem dM_143_136 : decode prog_11_method_34_code 136 = .ok (.aload_n 0, 1) := by decide +kernel
theorem dM_143_137 : decode prog_11_method_34_code 137 = .ok (.aload_n 0, 1) := by decide +kernel
theorem dM_143_138 : decode prog_11_method_34_code 138 = .ok (.getfield 25, 3) := by decide +kernel
theorem dM_143_141 : decode prog_11_method_34_code 141 = .ok (.iload_n 2, 1) := by decide +kernel
theorem dM_143_142 : decode prog_11_method_34_code 142 = .ok (.iaload, 1) := by decide +kernel
theorem dM_143_143 : decode prog_11_method_34_code 143 = .ok (.iconst 0, 1) := by decide +kernel
theorem dM_143_144 : decode prog_11_method_34_code 144 = .ok (.aload_n 0, 1) := by decide +kernel
theorem dM_143_145 : decode prog_11_method_34_code 145 = .ok (.getfield 170, 3) := by decide +kernel
theorem dM_143_148 : decode prog_11_method_34_code 148 = .ok (.invokevirtual 182, 3) := by decide +kernel
theorem dM_143_151 : decode prog_11_method_34_code 151 = .ok (.invokevirtual 182, 3) := by decide +kernel
theorem dM_143_154 : decode prog_11_method_34_code 154 = .ok (.putfield 170, 3) := by decide +kernel
theorem dM_143_157 : decode prog_11_method_34_code 157 = .ok (.aload_n 0, 1) := by decide +kernel
theorem dM_143_158 : decode prog_11_method_34_code 158 = .ok (.invokevirtual 186, 3) := by decide +kernel
theorem dM_143_161 : decode prog_11_method_34_code 161 = .ok (.goto 37, 3) := by decide +kernel
theorem dM_143_164 : decode prog_11_method_34_code 164 = .ok (.aload_n 0, 1) := by decide +kernel
theorem dM_143_165 : decode prog_11_method_34_code 165 = .ok (.iload_n 1, 1) := by decide +kernel
theorem dM_143_166 : decode prog_11_method_34_code 166 = .ok (.iload_n 2, 1) := by decide +kernel
theorem dM_143_167 : decode prog_11_method_34_code 167 = .ok (.invokevirtual 223, 3) := by decide +kernel
theorem dM_143_170 : decode prog_11_method_34_code 170 = .ok (.goto 28, 3) := by decide +kernel
theorem dM_143_173 : decode prog_11_method_34_code 173 = .ok (.aload_n 0, 1) := by decide +kernel
theorem dM_143_174 : decode prog_11_method_34_code 174 = .ok (.iload_n 1, 1) := by decide +kernel
theorem dM_143_175 : decode prog_11_method_34_code 175 = .ok (.iload_n 2, 1) := by decide +kernel
theorem dM_143_176 : decode prog_11_method_34_code 176 = .ok (.invokevirtual 227, 3) := by decide +kernel
theorem dM_143_179 : decode prog_11_method_34_code 179 = .ok (.goto 19, 3) := by decide +kernel
theorem dM_143_182 : decode prog_11_method_34_code 182 = .ok (.aload_n 0, 1) := by decide +kernel
theorem dM_143_183 : decode prog_11_method_34_code 183 = .ok (.iload_n 1, 1) := by decide +kernel
theorem dM_143_184 : decode prog_11_method_34_code 184 = .ok (.iload_n 2, 1) := by decide +kernel
theorem dM_143_185 : decode prog_11_method_34_code 185 = .ok (.invokevirtual 230, 3) := by decide +kernel
theorem dM_143_188 : decode prog_11_method_34_code 188 = .ok (.goto 10, 3) := by decide +kernel
theorem dM_143_191 : decode prog_11_method_34_code 191 = .ok (.aload_n 0, 1) := by decide +kernel
theorem dM_143_192 : decode prog_11_method_34_code 192 = .ok (.invokevirtual 186, 3) := by decide +kernel
theorem dM_143_195 : decode prog_11_method_34_code 195 = .ok (.goto 3, 3) := by decide +kernel
theorem dM_143_198 : decode prog_11_method_34_code 198 = .ok (.return_, 1) := by decide +kernel
theorem dM_144_0 : decode prog_11_method_29_code 0 = .ok (.aload_n 0, 1) := by decide +kernel
theorem dM_144_1 : decode prog_11_method_29_code 1 = .ok (.iconst 2, 1) := by decide +kernel
theorem dM_144_2 : decode prog_11_method_29_code 2 = .ok (.iload_n 1, 1) := by decide +kernel
theorem dM_144_3 : decode prog_11_method_29_code 3 = .ok (.imul, 1) := by decide +kernel
theorem dM_144_4 : decode prog_11_method_29_code 4 = .ok (.iconst 2, 1) := by decide +kernel
theorem dM_144_5 : decode prog_11_method_29_code 5 = .ok (.iload_n 2, 1) := by decide +kernel
theorem dM_144_6 : decode prog_11_method_29_code 6 = .ok (.imul, 1) := by decide +kernel
theorem dM_144_7 : decode prog_11_method_29_code 7 = .ok (.invokevirtual 189, 3) := by decide +kernel
theorem dM_144_10 : decode prog_11_method_29_code 10 = .ok (.ireturn, 1) := by decide +kernel
theorem dM_145_0 : decode prog_11_method_19_code 0 = .ok (.aload_n 0, 1) := by decide +kernel
theorem dM_145_1 : decode prog_11_method_19_code 1 = .ok (.iconst 0, 1) := by decide +kernel
theorem dM_145_2 : decode prog_11_method_19_code 2 = .ok (.putfield 141, 3) := by decide +kernel
theorem dM_145_5 : decode prog_11_method_19_code 5 = .ok (.aload_n 0, 1) := by decide +kernel
theorem dM_145_6 : decode prog_11_method_19_code 6 = .ok (.iload_n 1, 1) := by decide +kernel
theorem dM_145_7 : decode prog_11_method_19_code 7 = .ok (.invokevirtual 144, 3) := by decide +kernel
theorem dM_145_10 : decode prog_11_method_19_code 10 = .ok (.aload_n 0, 1) := by decide +kernel
theorem dM_145_11 : decode prog_11_method_19_code 11 = .ok (.iload_n 2, 1) := by decide +kernel
theorem dM_145_12 : decode prog_11_method_19_code 12 = .ok (.invokevirtual 144, 3) := by decide +kernel
theorem dM_145_15 : decode prog_11_method_19_code 15 = .ok (.iconst 1, 1) := by decide +kernel
theorem dM_145_16 : decode prog_11_method_19_code 16 = .ok (.istore_n 3, 1) := by decide +kernel
theorem dM_145_17 : decode prog_11_method_19_code 17 = .ok (.iload_n 3, 1) := by decide +kernel
theorem dM_145_18 : decode prog_11_method_19_code 18 = .ok (.ifCond .eq 79, 3) := by decide +kernel
theorem dM_145_21 : decode prog_11_method_19_code 21 = .ok (.aload_n 0, 1) := by decide +kernel
theorem dM_145_22 : decode prog_11_method_19_code 22 = .ok (.getfield 141, 3) := by decide +kernel
theorem dM_145_25 : decode prog_11_method_19_code 25 = .ok (.ifCond .le 72, 3) := by decide +kernel
theorem dM_145_28 : decode prog_11_method_19_code 28 = .ok (.aload_n 0, 1) := by decide +kernel
theorem dM_145_29 : decode prog_11_method_19_code 29 = .ok (.dup, 1) := by decide +kernel
theorem dM_145_30 : decode prog_11_method_19_code 30 = .ok (.getfield 141, 3) := by decide +kernel
theorem dM_145_33 : decode prog_11_method_19_code 33 = .ok (.iconst 2, 1) := by decide +kernel
theorem dM_145_34 : decode prog_11_method_19_code 34 = .ok (.isub, 1) := by decide +kernel
theorem dM_145_35 : decode prog_11_method_19_code 35 = .ok (.putfield 141, 3) := by decide +kernel
theorem dM_145_38 : decode prog_11_method_19_code 38 = .ok (.aload_n 0, 1) := by decide +kernel
theorem dM_145_39 : decode prog_11_method_19_code 39 = .ok (.aload_n 0, 1) := by decide +kernel
theorem dM_145_40 : decode prog_11_method_19_code 40 = .ok (.getfield 46, 3) := by decide +kernel
theorem dM_145_43 : decode prog_11_method_19_code 43 = .ok (.aload_n 0, 1) := by decide +kernel
theorem dM_145_44 : decode prog_11_method_19_code 44 = .ok (.getfield 141, 3) := by decide +kernel
theorem dM_145_47 : decode prog_11_method_19_code 47 = .ok (.iaload, 1) := by decide +kernel
theorem dM_145_48 : decode prog_11_method_19_code 48 = .ok (.invokevirtual 148, 3) := by decide +kernel
theorem dM_145_51 : decode prog_11_method_19_code 51 = .ok (.istore 4, 2) := by decide +kernel
theorem dM_145_53 : decode prog_11_method_19_code 53 = .ok (.aload_n 0, 1) := by decide +kernel
theorem dM_145_54 : decode prog_11_method_19_code 54 = .ok (.aload_n 0, 1) := by decide +kernel
theorem dM_145_55 : decode prog_11_method_19_code 55 = .ok (.getfield 46, 3) := by decide +kernel
theorem dM_145_58 : decode prog_11_method_19_code 58 = .ok (.aload_n 0, 1) := by decide +kernel
theorem dM_145_59 : decode prog_11_method_19_code 59 = .ok (.getfield 141, 3) := by decide +kernel
theorem dM_145_62 : decode prog_11_method_19_code 62 = .ok (.iconst 1, 1) := by decide +kernel
theorem dM_145_63 : decode prog_11_method_19_code 63 = .ok (.iadd, 1) := by decide +kernel
theorem dM_145_64 : decode prog_11_method_19_code 64 = .ok (.iaload, 1) := by decide +kernel
theorem dM_145_65 : decode prog_11_method_19_code 65 = .ok (.invokevirtual 148, 3) := by decide +kernel
theorem dM_145_68 : decode prog_11_method_19_code 68 = .ok (.istore 5, 2) := by decide +kernel
theorem dM_145_70 : decode prog_11_method_19_code 70 = .ok (.iload 4, 2) := by decide +kernel
theorem dM_145_72 : decode prog_11_method_19_code 72 = .ok (.iload 5, 2) := by decide +kernel
theorem dM_145_74 : decode prog_11_method_19_code 74 = .ok (.if_icmp .eq 14, 3) := by decide +kernel
theorem dM_145_77 : decode prog_11_method_19_code 77 = .ok (.aload_n 0, 1) := by decide +kernel
theorem dM_145_78 : decode prog_11_method_19_code 78 = .ok (.iload 4, 2) := by decide +kernel
theorem dM_145_80 : decode prog_11_method_19_code 80 = .ok (.iload 5, 2) := by decide +kernel
theorem dM_145_82 : decode prog_11_method_19_code 82 = .ok (.invokevirtual 161, 3) := by decide +kernel
theorem dM_145_85 : decode prog_11_method_19_code 85 = .ok (.ifCond .eq 7, 3) := by decide +kernel
theorem dM_145_88 : decode prog_11_method_19_code 88 = .ok (.iconst 1, 1) := by decide +kernel
theorem dM_145_89 : decode prog_11_method_19_code 89 = .ok (.goto 4, 3) := by decide +kernel
theorem dM_145_92 : decode prog_11_method_19_code 92 = .ok (.iconst 0, 1) := by decide +kernel
theorem dM_145_93 : decode prog_11_method_19_code 93 = .ok (.istore_n 3, 1) := by decide +kernel
theorem dM_145_94 : decode prog_11_method_19_code 94 = .ok (.goto (-77), 3) := by decide +kernel
theorem dM_145_97 : decode prog_11_method_19_code 97 = .ok (.iload_n 3, 1) := by decide +kernel
theorem dM_145_98 : decode prog_11_method_19_code 98 = .ok (.ireturn, 1) := by decide +kernel
def g_114_28  (y1 : Int32) (sg : rSg) (P : Option rv → rSg → Prop) : Prop := GoS rSkel 3 9 2 none false prog_11_method_45_code 28 [(0, .inr (.inr (some 725))), (1, .inl y1)] [] sg P
set_option maxRecDepth 100000 in
theorem w_114_28 (sg : rSg)  (y1 : Int32) {P : Option rv → rSg → Prop} (h :
    (y1 < 0 → 
      EvS rSkel 1 116 [.inr (.inr (some 725))] sg (fun v2 t3 => ∃ n5, v2 = some (.inl n5) ∧
        EvS rSkel 3 121 [.inr (.inr (some 725)), .inl n5] (up2 (up2 t3 725 47 n5) 725 21 0) (fun v6 t7 => v6 = none ∧
          P none t7))) ∧
    (¬ (y1 < 0) → 
      (rIn y1 96 = true ∧
      EvS rSkel 2 115 [.inr (.inr (some 725)), .inl (sg 753 y1.toNatClampNeg)] sg (fun v9 t10 => v9 = none ∧
        g_114_28 (y1 + (-1)) t10 P)))) : g_114_28 y1 sg P := by
  show GoS rSkel 3 9 2 none false prog_11_method_45_code 28 [(0, .inr (.inr (some 725))), (1, .inl y1)] [] sg P
  refine gs0 29 [(0, .inr (.inr (some 725))), (1, .inl y1)] [.inl y1] dM_114_28 (fun _ => rfl) (Or.inr rfl) ?_
  refine gsIf (t := 48) (C := y1 < 0) (r := []) dM_114_29 (fun _ => rfl) (Or.inr rfl) (rTest_iff .lt y1 0) (fun c1 => ?_) (fun c1 => ?_)
  · replace h := h.1 c1
    refine gs0 49 [(0, .inr (.inr (some 725))), (1, .inl y1)] [.inr (.inr (some 725))] dM_114_48 (fun _ => rfl) (Or.inr rfl) ?_
    refine gs0 50 [(0, .inr (.inr (some 725))), (1, .inl y1)] [.inr (.inr (some 725)), .inr (.inr (some 725))] dM_114_49 (fun _ => rfl) (Or.inr rfl) ?_
    refine gsCallV (y := 116) (k := 725) (as := [.inr (.inr (some 725))]) (r := [.inr (.inr (some 725))]) dM_114_50 rfl rfl rfl (Nat.le_of_ble_eq_true rfl) sk_725 rfl (Nat.le_of_ble_eq_true rfl) (EvS.up h (Nat.le_of_ble_eq_true rfl)) (fun v2 t3 hv4 => ?_)
    obtain ⟨n5, rfl, hn⟩ := hv4
    clear h
    show GoS _ _ _ _ _ _ _ _ [(0, .inr (.inr (some 725))), (1, .inl y1)] [.inl n5, .inr (.inr (some 725))] t3 _
    refine gsPut dM_114_53 sk_725 rfl rfl rfl (by decide) ?_
    refine gs0 57 [(0, .inr (.inr (some 725))), (1, .inl y1)] [.inr (.inr (some 725))] dM_114_56 (fun _ => rfl) (Or.inr rfl) ?_
    refine gs0 58 [(0, .inr (.inr (some 725))), (1, .inl y1)] [.inl 0, .inr (.inr (some 725))] dM_114_57 (fun _ => rfl) (Or.inr rfl) ?_
    refine gsPut dM_114_58 sk_725 rfl rfl rfl (by decide) ?_
    refine gs0 62 [(0, .inr (.inr (some 725))), (1, .inl y1)] [.inr (.inr (some 725))] dM_114_61 (fun _ => rfl) (Or.inr rfl) ?_
    refine gs0 63 [(0, .inr (.inr (some 725))), (1, .inl y1)] [.inr (.inr (some 725)), .inr (.inr (some 725))] dM_114_62 (fun _ => rfl) (Or.inr rfl) ?_
    refine gsGetE n5 dM_114_63 sk_725 rfl rfl ((up2_nj _ _ _ (by decide)).trans (up2_same _ _ _ _)) ?_
    refine gsCallV (y := 121) (k := 725) (as := [.inr (.inr (some 725)), .inl n5]) (r := []) dM_114_66 rfl rfl rfl (Nat.le_of_ble_eq_true rfl) sk_725 rfl (Nat.le_of_ble_eq_true rfl) (EvS.up hn (Nat.le_of_ble_eq_true rfl)) (fun v6 t7 hv8 => ?_)
    obtain ⟨rfl, hnn⟩ := hv8
    clear hn
    show GoS _ _ _ _ _ _ _ _ [(0, .inr (.inr (some 725))), (1, .inl y1)] [] t7 _
    refine gsRet (r := none) dM_114_69 (fun _ => rfl) (Or.inr rfl) ?_
    exact hnn
  · replace h := h.2 c1
    refine gs0 33 [(0, .inr (.inr (some 725))), (1, .inl y1)] [.inr (.inr (some 725))] dM_114_32 (fun _ => rfl) (Or.inr rfl) ?_
    refine gs0 34 [(0, .inr (.inr (some 725))), (1, .inl y1)] [.inr (.inr (some 725)), .inr (.inr (some 725))] dM_114_33 (fun _ => rfl) (Or.inr rfl) ?_
    refine gsGetR (some 753) dM_114_34 sk_725 rfl rfl ?_
    refine gs0 38 [(0, .inr (.inr (some 725))), (1, .inl y1)] [.inl y1, .inr (.inr (some 753)), .inr (.inr (some 725))] dM_114_37 (fun _ => rfl) (Or.inr rfl) ?_
    refine gsIaldN y1.toNatClampNeg (sg 753 y1.toNatClampNeg) dM_114_38 sk_753 h.1 rfl rfl ?_
    replace h := h.2
    refine gsCallV (y := 115) (k := 725) (as := [.inr (.inr (some 725)), .inl (sg 753 y1.toNatClampNeg)]) (r := []) dM_114_39 rfl rfl rfl (Nat.le_of_ble_eq_true rfl) sk_725 rfl (Nat.le_of_ble_eq_true rfl) (EvS.up h (Nat.le_of_ble_eq_true rfl)) (fun v9 t10 hv11 => ?_)
    obtain ⟨rfl, hn⟩ := hv11
    clear h
    show GoS _ _ _ _ _ _ _ _ [(0, .inr (.inr (some 725))), (1, .inl y1)] [] t10 _
    refine gs0 45 [(1, .inl (y1 + (-1))), (0, .inr (.inr (some 725)))] [] dM_114_42 (fun _ => rfl) (Or.inr rfl) ?_
    refine gs0 28 [(1, .inl (y1 + (-1))), (0, .inr (.inr (some 725)))] [] dM_114_45 (fun _ => rfl) (Or.inr rfl) ?_
    exact GoS.sub (Lnd_keys (ks := [0, 1]) rfl (by decide)) (Lsub_cons rfl (Lsub_cons rfl Lsub_nil)) hn
set_option maxRecDepth 100000 in
/-- GoalsInAQueueModel.builds -/
theorem w_114 (sg : rSg)  {P : Option rv → rSg → Prop} (h :
    g_114_28 ((sg 725 40) - 1) (up2 (up2 (up2 (up2 sg 725 10 75) 725 11 0) 725 12 1) 725 17 0) P) : EvS rSkel 4 114 [.inr (.inr (some 725))] sg P := by
  refine EvS.of (ini := false) rfl ⟨rfl, Nat.le_of_ble_eq_true rfl⟩ rfl ?_
  show GoS rSkel 3 9 2 none false prog_11_method_45_code 0 [(0, .inr (.inr (some 725)))] [] sg _
  refine gs0 1 [(0, .inr (.inr (some 725)))] [.inr (.inr (some 725))] dM_114_0 (fun _ => rfl) (Or.inr rfl) ?_
  refine gs0 3 [(0, .inr (.inr (some 725)))] [.inl 75, .inr (.inr (some 725))] dM_114_1 (fun _ => rfl) (Or.inr rfl) ?_
  refine gsPut dM_114_3 sk_725 rfl rfl rfl (by decide) ?_
  refine gs0 7 [(0, .inr (.inr (some 725)))] [.inr (.inr (some 725))] dM_114_6 (fun _ => rfl) (Or.inr rfl) ?_
  refine gs0 8 [(0, .inr (.inr (some 725)))] [.inl 0, .inr (.inr (some 725))] dM_114_7 (fun _ => rfl) (Or.inr rfl) ?_
  refine gsPut dM_114_8 sk_725 rfl rfl rfl (by decide) ?_
  refine gs0 12 [(0, .inr (.inr (some 725)))] [.inr (.inr (some 725))] dM_114_11 (fun _ => rfl) (Or.inr rfl) ?_
  refine gs0 13 [(0, .inr (.inr (some 725)))] [.inl 1, .inr (.inr (some 725))] dM_114_12 (fun _ => rfl) (Or.inr rfl) ?_
  refine gsPut dM_114_13 sk_725 rfl rfl rfl (by decide) ?_
  refine gs0 17 [(0, .inr (.inr (some 725)))] [.inr (.inr (some 725))] dM_114_16 (fun _ => rfl) (Or.inr rfl) ?_
  refine gs0 18 [(0, .inr (.inr (some 725)))] [.inl 0, .inr (.inr (some 725))] dM_114_17 (fun _ => rfl) (Or.inr rfl) ?_
  refine gsPut dM_114_18 sk_725 rfl rfl rfl (by decide) ?_
  refine gs0 22 [(0, .inr (.inr (some 725)))] [.inr (.inr (some 725))] dM_114_21 (fun _ => rfl) (Or.inr rfl) ?_
  refine gsGetE (sg 725 40) dM_114_22 sk_725 rfl rfl ((up2_nj _ _ _ (by decide)).trans ((up2_nj _ _ _ (by decide)).trans ((up2_nj _ _ _ (by decide)).trans (up2_nj _ _ _ (by decide))))) ?_
  refine gs0 26 [(0, .inr (.inr (some 725)))] [.inl 1, .inl (sg 725 40)] dM_114_25 (fun _ => rfl) (Or.inr rfl) ?_
  refine gs0 27 [(0, .inr (.inr (some 725)))] [.inl ((sg 725 40) - 1)] dM_114_26 (fun _ => rfl) (Or.inr rfl) ?_
  refine gs0 28 [(1, .inl ((sg 725 40) - 1)), (0, .inr (.inr (some 725)))] [] dM_114_27 (fun _ => rfl) (Or.inr rfl) ?_
  exact GoS.sub (Lnd_keys (ks := [0, 1]) rfl (by decide)) (Lsub_cons rfl (Lsub_cons rfl Lsub_nil)) h
def g_115_118  (y1 : Int32) (z0 : Int32) (sg : rSg) (P : Option rv → rSg → Prop) : Prop := GoS rSkel 1 9 5 none false prog_11_method_44_code 118 [(0, .inr (.inr (some 725))), (1, .inl y1)] [.inl z0] sg P
set_option maxRecDepth 100000 in
theorem w_115_118 (sg : rSg)  (y1 : Int32) (z0 : Int32) {P : Option rv → rSg → Prop} (h :
    (y1 = 42 → 
      (¬ y1 = 65 → 
        EvS rSkel 1 120 [.inr (.inr (some 725)), .inl y1, .inl z0, .inl 0, .inl 0] sg (fun v46 t47 => ∃ n49, v46 = some (.inl n49) ∧
          EvS rSkel 1 118 [.inr (.inr (some 725)), .inl n49] t47 (fun v50 t51 => v50 = none ∧
            P none t51))) ∧
      (¬ (¬ y1 = 65) → 
        EvS rSkel 1 116 [.inr (.inr (some 725))] sg (fun v53 t54 => ∃ n56, v53 = some (.inl n56) ∧
          EvS rSkel 1 120 [.inr (.inr (some 725)), .inl y1, .inl z0, .inl 0, .inl n56] t54 (fun v57 t58 => ∃ n60, v57 = some (.inl n60) ∧
            EvS rSkel 1 118 [.inr (.inr (some 725)), .inl n60] t58 (fun v61 t62 => v61 = none ∧
              P none t62))))) ∧
    (¬ (y1 = 42) → 
      (¬ y1 = 33 → 
        EvS rSkel 1 116 [.inr (.inr (some 725))] sg (fun v65 t66 => ∃ n68, v65 = some (.inl n68) ∧
          (¬ y1 = 65 → 
            EvS rSkel 1 120 [.inr (.inr (some 725)), .inl y1, .inl z0, .inl n68, .inl 0] t66 (fun v70 t71 => ∃ n73, v70 = some (.inl n73) ∧
              EvS rSkel 1 118 [.inr (.inr (some 725)), .inl n73] t71 (fun v74 t75 => v74 = none ∧
                P none t75))) ∧
          (¬ (¬ y1 = 65) → 
            EvS rSkel 1 116 [.inr (.inr (some 725))] t66 (fun v77 t78 => ∃ n80, v77 = some (.inl n80) ∧
              EvS rSkel 1 120 [.inr (.inr (some 725)), .inl y1, .inl z0, .inl n68, .inl n80] t78 (fun v81 t82 => ∃ n84, v81 = some (.inl n84) ∧
                EvS rSkel 1 118 [.inr (.inr (some 725)), .inl n84] t82 (fun v85 t86 => v85 = none ∧
                  P none t86)))))) ∧
      (¬ (¬ y1 = 33) → 
        (¬ y1 = 65 → 
          EvS rSkel 1 120 [.inr (.inr (some 725)), .inl y1, .inl z0, .inl 0, .inl 0] sg (fun v89 t90 => ∃ n92, v89 = some (.inl n92) ∧
            EvS rSkel 1 118 [.inr (.inr (some 725)), .inl n92] t90 (fun v93 t94 => v93 = none ∧
              P none t94))) ∧
        (¬ (¬ y1 = 65) → 
          EvS rSkel 1 116 [.inr (.inr (some 725))] sg (fun v96 t97 => ∃ n99, v96 = some (.inl n99) ∧
            EvS rSkel 1 120 [.inr (.inr (some 725)), .inl y1, .inl z0, .inl 0, .inl n99] t97 (fun v100 t101 => ∃ n103, v100 = some (.inl n103) ∧
              EvS rSkel 1 118 [.inr (.inr (some 725)), .inl n103] t101 (fun v104 t105 => v104 = none ∧
                P none t105))))))) : g_115_118 y1 z0 sg P := by
  show GoS rSkel 1 9 5 none false prog_11_method_44_code 118 [(0, .inr (.inr (some 725))), (1, .inl y1)] [.inl z0] sg P
  refine gs0 119 [(2, .inl z0), (0, .inr (.inr (some 725))), (1, .inl y1)] [] dM_115_118 (fun _ => rfl) (Or.inr rfl) ?_
  refine gs0 120 [(2, .inl z0), (0, .inr (.inr (some 725))), (1, .inl y1)] [.inl y1] dM_115_119 (fun _ => rfl) (Or.inr rfl) ?_
  refine gs0 122 [(2, .inl z0), (0, .inr (.inr (some 725))), (1, .inl y1)] [.inl 42, .inl y1] dM_115_120 (fun _ => rfl) (Or.inr rfl) ?_
  refine gsIf (t := 131) (C := y1 = 42) (r := []) dM_115_122 (fun _ => rfl) (Or.inr rfl) (rTest_iff .eq y1 42) (fun c44 => ?_) (fun c44 => ?_)
  · replace h := h.1 c44
    refine gs0 132 [(2, .inl z0), (0, .inr (.inr (some 725))), (1, .inl y1)] [.inl 0] dM_115_131 (fun _ => rfl) (Or.inr rfl) ?_
    refine gs0 139 [(2, .inl z0), (0, .inr (.inr (some 725))), (1, .inl y1)] [.inl 0] dM_115_132 (fun _ => rfl) (Or.inr rfl) ?_
    refine gs0 140 [(3, .inl 0), (2, .inl z0), (0, .inr (.inr (some 725))), (1, .inl y1)] [] dM_115_139 (fun _ => rfl) (Or.inr rfl) ?_
    refine gs0 141 [(3, .inl 0), (2, .inl z0), (0, .inr (.inr (some 725))), (1, .inl y1)] [.inl y1] dM_115_140 (fun _ => rfl) (Or.inr rfl) ?_
    refine gs0 143 [(3, .inl 0), (2, .inl z0), (0, .inr (.inr (some 725))), (1, .inl y1)] [.inl 65, .inl y1] dM_115_141 (fun _ => rfl) (Or.inr rfl) ?_
    refine gsIf (t := 153) (C := ¬ y1 = 65) (r := []) dM_115_143 (fun _ => rfl) (Or.inr rfl) (rTest_iff .ne y1 65) (fun c45 => ?_) (fun c45 => ?_)
    · replace h := h.1 c45
      refine gs0 154 [(3, .inl 0), (2, .inl z0), (0, .inr (.inr (some 725))), (1, .inl y1)] [.inl 0] dM_115_153 (fun _ => rfl) (Or.inr rfl) ?_
      refine gs0 156 [(4, .inl 0), (3, .inl 0), (2, .inl z0), (0, .inr (.inr (some 725))), (1, .inl y1)] [] dM_115_154 (fun _ => rfl) (Or.inr rfl) ?_
      refine gs0 157 [(4, .inl 0), (3, .inl 0), (2, .inl z0), (0, .inr (.inr (some 725))), (1, .inl y1)] [.inr (.inr (some 725))] dM_115_156 (fun _ => rfl) (Or.inr rfl) ?_
      refine gs0 158 [(4, .inl 0), (3, .inl 0), (2, .inl z0), (0, .inr (.inr (some 725))), (1, .inl y1)] [.inr (.inr (some 725)), .inr (.inr (some 725))] dM_115_157 (fun _ => rfl) (Or.inr rfl) ?_
      refine gs0 159 [(4, .inl 0), (3, .inl 0), (2, .inl z0), (0, .inr (.inr (some 725))), (1, .inl y1)] [.inl y1, .inr (.inr (some 725)), .inr (.inr (some 725))] dM_115_158 (fun _ => rfl) (Or.inr rfl) ?_
      refine gs0 160 [(4, .inl 0), (3, .inl 0), (2, .inl z0), (0, .inr (.inr (some 725))), (1, .inl y1)] [.inl z0, .inl y1, .inr (.inr (some 725)), .inr (.inr (some 725))] dM_115_159 (fun _ => rfl) (Or.inr rfl) ?_
      refine gs0 161 [(4, .inl 0), (3, .inl 0), (2, .inl z0), (0, .inr (.inr (some 725))), (1, .inl y1)] [.inl 0, .inl z0, .inl y1, .inr (.inr (some 725)), .inr (.inr (some 725))] dM_115_160 (fun _ => rfl) (Or.inr rfl) ?_
      refine gs0 163 [(4, .inl 0), (3, .inl 0), (2, .inl z0), (0, .inr (.inr (some 725))), (1, .inl y1)] [.inl 0, .inl 0, .inl z0, .inl y1, .inr (.inr (some 725)), .inr (.inr (some 725))] dM_115_161 (fun _ => rfl) (Or.inr rfl) ?_
      refine gsCallV (y := 120) (k := 725) (as := [.inr (.inr (some 725)), .inl y1, .inl z0, .inl 0, .inl 0]) (r := [.inr (.inr (some 725))]) dM_115_163 rfl rfl rfl (Nat.le_of_ble_eq_true rfl) sk_725 rfl (Nat.le_of_ble_eq_true rfl) (EvS.up h (Nat.le_of_ble_eq_true rfl)) (fun v46 t47 hv48 => ?_)
      obtain ⟨n49, rfl, hn⟩ := hv48
      clear h
      show GoS _ _ _ _ _ _ _ _ [(4, .inl 0), (3, .inl 0), (2, .inl z0), (0, .inr (.inr (some 725))), (1, .inl y1)] [.inl n49, .inr (.inr (some 725))] t47 _
      refine gsCallV (y := 118) (k := 725) (as := [.inr (.inr (some 725)), .inl n49]) (r := []) dM_115_166 rfl rfl rfl (Nat.le_of_ble_eq_true rfl) sk_725 rfl (Nat.le_of_ble_eq_true rfl) (EvS.up hn (Nat.le_of_ble_eq_true rfl)) (fun v50 t51 hv52 => ?_)
      obtain ⟨rfl, hnn⟩ := hv52
      clear hn
      show GoS _ _ _ _ _ _ _ _ [(4, .inl 0), (3, .inl 0), (2, .inl z0), (0, .inr (.inr (some 725))), (1, .inl y1)] [] t51 _
      refine gsRet (r := none) dM_115_169 (fun _ => rfl) (Or.inr rfl) ?_
      exact hnn
    · replace h := h.2 c45
      refine gs0 147 [(3, .inl 0), (2, .inl z0), (0, .inr (.inr (some 725))), (1, .inl y1)] [.inr (.inr (some 725))] dM_115_146 (fun _ => rfl) (Or.inr rfl) ?_
      refine gsCallV (y := 116) (k := 725) (as := [.inr (.inr (some 725))]) (r := []) dM_115_147 rfl rfl rfl (Nat.le_of_ble_eq_true rfl) sk_725 rfl (Nat.le_of_ble_eq_true rfl) (EvS.up h (Nat.le_of_ble_eq_true rfl)) (fun v53 t54 hv55 => ?_)
      obtain ⟨n56, rfl, hn⟩ := hv55
      clear h
      show GoS _ _ _ _ _ _ _ _ [(3, .inl 0), (2, .inl z0), (0, .inr (.inr (some 725))), (1, .inl y1)] [.inl n56] t54 _
      refine gs0 154 [(3, .inl 0), (2, .inl z0), (0, .inr (.inr (some 725))), (1, .inl y1)] [.inl n56] dM_115_150 (fun _ => rfl) (Or.inr rfl) ?_
      refine gs0 156 [(4, .inl n56), (3, .inl 0), (2, .inl z0), (0, .inr (.inr (some 725))), (1, .inl y1)] [] dM_115_154 (fun _ => rfl) (Or.inr rfl) ?_
      refine gs0 157 [(4, .inl n56), (3, .inl 0), (2, .inl z0), (0, .inr (.inr (some 725))), (1, .inl y1)] [.inr (.inr (some 725))] dM_115_156 (fun _ => rfl) (Or.inr rfl) ?_
      refine gs0 158 [(4, .inl n56), (3, .inl 0), (2, .inl z0), (0, .inr (.inr (some 725))), (1, .inl y1)] [.inr (.inr (some 725)), .inr (.inr (some 725))] dM_115_157 (fun _ => rfl) (Or.inr rfl) ?_
      refine gs0 159 [(4, .inl n56), (3, .inl 0), (2, .inl z0), (0, .inr (.inr (some 725))), (1, .inl y1)] [.inl y1, .inr (.inr (some 725)), .inr (.inr (some 725))] dM_115_158 (fun _ => rfl) (Or.inr rfl) ?_
      refine gs0 160 [(4, .inl n56), (3, .inl 0), (2, .inl z0), (0, .inr (.inr (some 725))), (1, .inl y1)] [.inl z0, .inl y1, .inr (.inr (some 725)), .inr (.inr (some 725))] dM_115_159 (fun _ => rfl) (Or.inr rfl) ?_
      refine gs0 161 [(4, .inl n56), (3, .inl 0), (2, .inl z0), (0, .inr (.inr (some 725))), (1, .inl y1)] [.inl 0, .inl z0, .inl y1, .inr (.inr (some 725)), .inr (.inr (some 725))] dM_115_160 (fun _ => rfl) (Or.inr rfl) ?_
      refine gs0 163 [(4, .inl n56), (3, .inl 0), (2, .inl z0), (0, .inr (.inr (some 725))), (1, .inl y1)] [.inl n56, .inl 0, .inl z0, .inl y1, .inr (.inr (some 725)), .inr (.inr (some 725))] dM_115_161 (fun _ => rfl) (Or.inr rfl) ?_
      refine gsCallV (y := 120) (k := 725) (as := [.inr (.inr (some 725)), .inl y1, .inl z0, .inl 0, .inl n56]) (r := [.inr (.inr (some 725))]) dM_115_163 rfl rfl rfl (Nat.le_of_ble_eq_true rfl) sk_725 rfl (Nat.le_of_ble_eq_true rfl) (EvS.up hn (Nat.le_of_ble_eq_true rfl)) (fun v57 t58 hv59 => ?_)
      obtain ⟨n60, rfl, hnn⟩ := hv59
      clear hn
      show GoS _ _ _ _ _ _ _ _ [(4, .inl n56), (3, .inl 0), (2, .inl z0), (0, .inr (.inr (some 725))), (1, .inl y1)] [.inl n60, .inr (.inr (some 725))] t58 _
      refine gsCallV (y := 118) (k := 725) (as := [.inr (.inr (some 725)), .inl n60]) (r := []) dM_115_166 rfl rfl rfl (Nat.le_of_ble_eq_true rfl) sk_725 rfl (Nat.le_of_ble_eq_true rfl) (EvS.up hnn (Nat.le_of_ble_eq_true rfl)) (fun v61 t62 hv63 => ?_)
      obtain ⟨rfl, hnnn⟩ := hv63
      clear hnn
      show GoS _ _ _ _ _ _ _ _ [(4, .inl n56), (3, .inl 0), (2, .inl z0), (0, .inr (.inr (some 725))), (1, .inl y1)] [] t62 _
      refine gsRet (r := none) dM_115_169 (fun _ => rfl) (Or.inr rfl) ?_
      exact hnnn
  · replace h := h.2 c44
    refine gs0 126 [(2, .inl z0), (0, .inr (.inr (some 725))), (1, .inl y1)] [.inl y1] dM_115_125 (fun _ => rfl) (Or.inr rfl) ?_
    refine gs0 128 [(2, .inl z0), (0, .inr (.inr (some 725))), (1, .inl y1)] [.inl 33, .inl y1] dM_115_126 (fun _ => rfl) (Or.inr rfl) ?_
    refine gsIf (t := 135) (C := ¬ y1 = 33) (r := []) dM_115_128 (fun _ => rfl) (Or.inr rfl) (rTest_iff .ne y1 33) (fun c64 => ?_) (fun c64 => ?_)
    · replace h := h.1 c64
      refine gs0 136 [(2, .inl z0), (0, .inr (.inr (some 725))), (1, .inl y1)] [.inr (.inr (some 725))] dM_115_135 (fun _ => rfl) (Or.inr rfl) ?_
      refine gsCallV (y := 116) (k := 725) (as := [.inr (.inr (some 725))]) (r := []) dM_115_136 rfl rfl rfl (Nat.le_of_ble_eq_true rfl) sk_725 rfl (Nat.le_of_ble_eq_true rfl) (EvS.up h (Nat.le_of_ble_eq_true rfl)) (fun v65 t66 hv67 => ?_)
      obtain ⟨n68, rfl, hn⟩ := hv67
      clear h
      show GoS _ _ _ _ _ _ _ _ [(2, .inl z0), (0, .inr (.inr (some 725))), (1, .inl y1)] [.inl n68] t66 _
      refine gs0 140 [(3, .inl n68), (2, .inl z0), (0, .inr (.inr (some 725))), (1, .inl y1)] [] dM_115_139 (fun _ => rfl) (Or.inr rfl) ?_
      refine gs0 141 [(3, .inl n68), (2, .inl z0), (0, .inr (.inr (some 725))), (1, .inl y1)] [.inl y1] dM_115_140 (fun _ => rfl) (Or.inr rfl) ?_
      refine gs0 143 [(3, .inl n68), (2, .inl z0), (0, .inr (.inr (some 725))), (1, .inl y1)] [.inl 65, .inl y1] dM_115_141 (fun _ => rfl) (Or.inr rfl) ?_
      refine gsIf (t := 153) (C := ¬ y1 = 65) (r := []) dM_115_143 (fun _ => rfl) (Or.inr rfl) (rTest_iff .ne y1 65) (fun c69 => ?_) (fun c69 => ?_)
      · replace hn := hn.1 c69
        refine gs0 154 [(3, .inl n68), (2, .inl z0), (0, .inr (.inr (some 725))), (1, .inl y1)] [.inl 0] dM_115_153 (fun _ => rfl) (Or.inr rfl) ?_
        refine gs0 156 [(4, .inl 0), (3, .inl n68), (2, .inl z0), (0, .inr (.inr (some 725))), (1, .inl y1)] [] dM_115_154 (fun _ => rfl) (Or.inr rfl) ?_
        refine gs0 157 [(4, .inl 0), (3, .inl n68), (2, .inl z0), (0, .inr (.inr (some 725))), (1, .inl y1)] [.inr (.inr (some 725))] dM_115_156 (fun _ => rfl) (Or.inr rfl) ?_
        refine gs0 158 [(4, .inl 0), (3, .inl n68), (2, .inl z0), (0, .inr (.inr (some 725))), (1, .inl y1)] [.inr (.inr (some 725)), .inr (.inr (some 725))] dM_115_157 (fun _ => rfl) (Or.inr rfl) ?_
        refine gs0 159 [(4, .inl 0), (3, .inl n68), (2, .inl z0), (0, .inr (.inr (some 725))), (1, .inl y1)] [.inl y1, .inr (.inr (some 725)), .inr (.inr (some 725))] dM_115_158 (fun _ => rfl) (Or.inr rfl) ?_
        refine gs0 160 [(4, .inl 0), (3, .inl n68), (2, .inl z0), (0, .inr (.inr (some 725))), (1, .inl y1)] [.inl z0, .inl y1, .inr (.inr (some 725)), .inr (.inr (some 725))] dM_115_159 (fun _ => rfl) (Or.inr rfl) ?_
        refine gs0 161 [(4, .inl 0), (3, .inl n68), (2, .inl z0), (0, .inr (.inr (some 725))), (1, .inl y1)] [.inl n68, .inl z0, .inl y1, .inr (.inr (some 725)), .inr (.inr (some 725))] dM_115_160 (fun _ => rfl) (Or.inr rfl) ?_
        refine gs0 163 [(4, .inl 0), (3, .inl n68), (2, .inl z0), (0, .inr (.inr (some 725))), (1, .inl y1)] [.inl 0, .inl n68, .inl z0, .inl y1, .inr (.inr (some 725)), .inr (.inr (some 725))] dM_115_161 (fun _ => rfl) (Or.inr rfl) ?_
        refine gsCallV (y := 120) (k := 725) (as := [.inr (.inr (some 725)), .inl y1, .inl z0, .inl n68, .inl 0]) (r := [.inr (.inr (some 725))]) dM_115_163 rfl rfl rfl (Nat.le_of_ble_eq_true rfl) sk_725 rfl (Nat.le_of_ble_eq_true rfl) (EvS.up hn (Nat.le_of_ble_eq_true rfl)) (fun v70 t71 hv72 => ?_)
        obtain ⟨n73, rfl, hnn⟩ := hv72
        clear hn
        show GoS _ _ _ _ _ _ _ _ [(4, .inl 0), (3, .inl n68), (2, .inl z0), (0, .inr (.inr (some 725))), (1, .inl y1)] [.inl n73, .inr (.inr (some 725))] t71 _
        refine gsCallV (y := 118) (k := 725) (as := [.inr (.inr (some 725)), .inl n73]) (r := []) dM_115_166 rfl rfl rfl (Nat.le_of_ble_eq_true rfl) sk_725 rfl (Nat.le_of_ble_eq_true rfl) (EvS.up hnn (Nat.le_of_ble_eq_true rfl)) (fun v74 t75 hv76 => ?_)
        obtain ⟨rfl, hnnn⟩ := hv76
        clear hnn
        show GoS _ _ _ _ _ _ _ _ [(4, .inl 0), (3, .inl n68), (2, .inl z0), (0, .inr (.inr (some 725))), (1, .inl y1)] [] t75 _
        refine gsRet (r := none) dM_115_169 (fun _ => rfl) (Or.inr rfl) ?_
        exact hnnn
      · replace hn := hn.2 c69
        refine gs0 147 [(3, .inl n68), (2, .inl z0), (0, .inr (.inr (some 725))), (1, .inl y1)] [.inr (.inr (some 725))] dM_115_146 (fun _ => rfl) (Or.inr rfl) ?_
        refine gsCallV (y := 116) (k := 725) (as := [.inr (.inr (some 725))]) (r := []) dM_115_147 rfl rfl rfl (Nat.le_of_ble_eq_true rfl) sk_725 rfl (Nat.le_of_ble_eq_true rfl) (EvS.up hn (Nat.le_of_ble_eq_true rfl)) (fun v77 t78 hv79 => ?_)
        obtain ⟨n80, rfl, hnn⟩ := hv79
        clear hn
        show GoS _ _ _ _ _ _ _ _ [(3, .inl n68), (2, .inl z0), (0, .inr (.inr (some 725))), (1, .inl y1)] [.inl n80] t78 _
        refine gs0 154 [(3, .inl n68), (2, .inl z0), (0, .inr (.inr (some 725))), (1, .inl y1)] [.inl n80] dM_115_150 (fun _ => rfl) (Or.inr rfl) ?_
        refine gs0 156 [(4, .inl n80), (3, .inl n68), (2, .inl z0), (0, .inr (.inr (some 725))), (1, .inl y1)] [] dM_115_154 (fun _ => rfl) (Or.inr rfl) ?_
        refine gs0 157 [(4, .inl n80), (3, .inl n68), (2, .inl z0), (0, .inr (.inr (some 725))), (1, .inl y1)] [.inr (.inr (some 725))] dM_115_156 (fun _ => rfl) (Or.inr rfl) ?_
        refine gs0 158 [(4, .inl n80), (3, .inl n68), (2, .inl z0), (0, .inr (.inr (some 725))), (1, .inl y1)] [.inr (.inr (some 725)), .inr (.inr (some 725))] dM_115_157 (fun _ => rfl) (Or.inr rfl) ?_
        refine gs0 159 [(4, .inl n80), (3, .inl n68), (2, .inl z0), (0, .inr (.inr (some 725))), (1, .inl y1)] [.inl y1, .inr (.inr (some 725)), .inr (.inr (some 725))] dM_115_158 (fun _ => rfl) (Or.inr rfl) ?_
        refine gs0 160 [(4, .inl n80), (3, .inl n68), (2, .inl z0), (0, .inr (.inr (some 725))), (1, .inl y1)] [.inl z0, .inl y1, .inr (.inr (some 725)), .inr (.inr (some 725))] dM_115_159 (fun _ => rfl) (Or.inr rfl) ?_
        refine gs0 161 [(4, .inl n80), (3, .inl n68), (2, .inl z0), (0, .inr (.inr (some 725))), (1, .inl y1)] [.inl n68, .inl z0, .inl y1, .inr (.inr (some 725)), .inr (.inr (some 725))] dM_115_160 (fun _ => rfl) (Or.inr rfl) ?_
        refine gs0 163 [(4, .inl n80), (3, .inl n68), (2, .inl z0), (0, .inr (.inr (some 725))), (1, .inl y1)] [.inl n80, .inl n68, .inl z0, .inl y1, .inr (.inr (some 725)), .inr (.inr (some 725))] dM_115_161 (fun _ => rfl) (Or.inr rfl) ?_
        refine gsCallV (y := 120) (k := 725) (as := [.inr (.inr (some 725)), .inl y1, .inl z0, .inl n68, .inl n80]) (r := [.inr (.inr (some 725))]) dM_115_163 rfl rfl rfl (Nat.le_of_ble_eq_true rfl) sk_725 rfl (Nat.le_of_ble_eq_true rfl) (EvS.up hnn (Nat.le_of_ble_eq_true rfl)) (fun v81 t82 hv83 => ?_)
        obtain ⟨n84, rfl, hnnn⟩ := hv83
        clear hnn
        show GoS _ _ _ _ _ _ _ _ [(4, .inl n80), (3, .inl n68), (2, .inl z0), (0, .inr (.inr (some 725))), (1, .inl y1)] [.inl n84, .inr (.inr (some 725))] t82 _
        refine gsCallV (y := 118) (k := 725) (as := [.inr (.inr (some 725)), .inl n84]) (r := []) dM_115_166 rfl rfl rfl (Nat.le_of_ble_eq_true rfl) sk_725 rfl (Nat.le_of_ble_eq_true rfl) (EvS.up hnnn (Nat.le_of_ble_eq_true rfl)) (fun v85 t86 hv87 => ?_)
        obtain ⟨rfl, hnnnn⟩ := hv87
        clear hnnn
        show GoS _ _ _ _ _ _ _ _ [(4, .inl n80), (3, .inl n68), (2, .inl z0), (0, .inr (.inr (some 725))), (1, .inl y1)] [] t86 _
        refine gsRet (r := none) dM_115_169 (fun _ => rfl) (Or.inr rfl) ?_
        exact hnnnn
    · replace h := h.2 c64
      refine gs0 132 [(2, .inl z0), (0, .inr (.inr (some 725))), (1, .inl y1)] [.inl 0] dM_115_131 (fun _ => rfl) (Or.inr rfl) ?_
      refine gs0 139 [(2, .inl z0), (0, .inr (.inr (some 725))), (1, .inl y1)] [.inl 0] dM_115_132 (fun _ => rfl) (Or.inr rfl) ?_
      refine gs0 140 [(3, .inl 0), (2, .inl z0), (0, .inr (.inr (some 725))), (1, .inl y1)] [] dM_115_139 (fun _ => rfl) (Or.inr rfl) ?_
      refine gs0 141 [(3, .inl 0), (2, .inl z0), (0, .inr (.inr (some 725))), (1, .inl y1)] [.inl y1] dM_115_140 (fun _ => rfl) (Or.inr rfl) ?_
      refine gs0 143 [(3, .inl 0), (2, .inl z0), (0, .inr (.inr (some 725))), (1, .inl y1)] [.inl 65, .inl y1] dM_115_141 (fun _ => rfl) (Or.inr rfl) ?_
      refine gsIf (t := 153) (C := ¬ y1 = 65) (r := []) dM_115_143 (fun _ => rfl) (Or.inr rfl) (rTest_iff .ne y1 65) (fun c88 => ?_) (fun c88 => ?_)
      · replace h := h.1 c88
        refine gs0 154 [(3, .inl 0), (2, .inl z0), (0, .inr (.inr (some 725))), (1, .inl y1)] [.inl 0] dM_115_153 (fun _ => rfl) (Or.inr rfl) ?_
        refine gs0 156 [(4, .inl 0), (3, .inl 0), (2, .inl z0), (0, .inr (.inr (some 725))), (1, .inl y1)] [] dM_115_154 (fun _ => rfl) (Or.inr rfl) ?_
        refine gs0 157 [(4, .inl 0), (3, .inl 0), (2, .inl z0), (0, .inr (.inr (some 725))), (1, .inl y1)] [.inr (.inr (some 725))] dM_115_156 (fun _ => rfl) (Or.inr rfl) ?_
        refine gs0 158 [(4, .inl 0), (3, .inl 0), (2, .inl z0), (0, .inr (.inr (some 725))), (1, .inl y1)] [.inr (.inr (some 725)), .inr (.inr (some 725))] dM_115_157 (fun _ => rfl) (Or.inr rfl) ?_
        refine gs0 159 [(4, .inl 0), (3, .inl 0), (2, .inl z0), (0, .inr (.inr (some 725))), (1, .inl y1)] [.inl y1, .inr (.inr (some 725)), .inr (.inr (some 725))] dM_115_158 (fun _ => rfl) (Or.inr rfl) ?_
        refine gs0 160 [(4, .inl 0), (3, .inl 0), (2, .inl z0), (0, .inr (.inr (some 725))), (1, .inl y1)] [.inl z0, .inl y1, .inr (.inr (some 725)), .inr (.inr (some 725))] dM_115_159 (fun _ => rfl) (Or.inr rfl) ?_
        refine gs0 161 [(4, .inl 0), (3, .inl 0), (2, .inl z0), (0, .inr (.inr (some 725))), (1, .inl y1)] [.inl 0, .inl z0, .inl y1, .inr (.inr (some 725)), .inr (.inr (some 725))] dM_115_160 (fun _ => rfl) (Or.inr rfl) ?_
        refine gs0 163 [(4, .inl 0), (3, .inl 0), (2, .inl z0), (0, .inr (.inr (some 725))), (1, .inl y1)] [.inl 0, .inl 0, .inl z0, .inl y1, .inr (.inr (some 725)), .inr (.inr (some 725))] dM_115_161 (fun _ => rfl) (Or.inr rfl) ?_
        refine gsCallV (y := 120) (k := 725) (as := [.inr (.inr (some 725)), .inl y1, .inl z0, .inl 0, .inl 0]) (r := [.inr (.inr (some 725))]) dM_115_163 rfl rfl rfl (Nat.le_of_ble_eq_true rfl) sk_725 rfl (Nat.le_of_ble_eq_true rfl) (EvS.up h (Nat.le_of_ble_eq_true rfl)) (fun v89 t90 hv91 => ?_)
        obtain ⟨n92, rfl, hn⟩ := hv91
        clear h
        show GoS _ _ _ _ _ _ _ _ [(4, .inl 0), (3, .inl 0), (2, .inl z0), (0, .inr (.inr (some 725))), (1, .inl y1)] [.inl n92, .inr (.inr (some 725))] t90 _
        refine gsCallV (y := 118) (k := 725) (as := [.inr (.inr (some 725)), .inl n92]) (r := []) dM_115_166 rfl rfl rfl (Nat.le_of_ble_eq_true rfl) sk_725 rfl (Nat.le_of_ble_eq_true rfl) (EvS.up hn (Nat.le_of_ble_eq_true rfl)) (fun v93 t94 hv95 => ?_)
        obtain ⟨rfl, hnn⟩ := hv95
        clear hn
        show GoS _ _ _ _ _ _ _ _ [(4, .inl 0), (3, .inl 0), (2, .inl z0), (0, .inr (.inr (some 725))), (1, .inl y1)] [] t94 _
        refine gsRet (r := none) dM_115_169 (fun _ => rfl) (Or.inr rfl) ?_
        exact hnn
      · replace h := h.2 c88
        refine gs0 147 [(3, .inl 0), (2, .inl z0), (0, .inr (.inr (some 725))), (1, .inl y1)] [.inr (.inr (some 725))] dM_115_146 (fun _ => rfl) (Or.inr rfl) ?_
        refine gsCallV (y := 116) (k := 725) (as := [.inr (.inr (some 725))]) (r := []) dM_115_147 rfl rfl rfl (Nat.le_of_ble_eq_true rfl) sk_725 rfl (Nat.le_of_ble_eq_true rfl) (EvS.up h (Nat.le_of_ble_eq_true rfl)) (fun v96 t97 hv98 => ?_)
        obtain ⟨n99, rfl, hn⟩ := hv98
        clear h
        show GoS _ _ _ _ _ _ _ _ [(3, .inl 0), (2, .inl z0), (0, .inr (.inr (some 725))), (1, .inl y1)] [.inl n99] t97 _
        refine gs0 154 [(3, .inl 0), (2, .inl z0), (0, .inr (.inr (some 725))), (1, .inl y1)] [.inl n99] dM_115_150 (fun _ => rfl) (Or.inr rfl) ?_
        refine gs0 156 [(4, .inl n99), (3, .inl 0), (2, .inl z0), (0, .inr (.inr (some 725))), (1, .inl y1)] [] dM_115_154 (fun _ => rfl) (Or.inr rfl) ?_
        refine gs0 157 [(4, .inl n99), (3, .inl 0), (2, .inl z0), (0, .inr (.inr (some 725))), (1, .inl y1)] [.inr (.inr (some 725))] dM_115_156 (fun _ => rfl) (Or.inr rfl) ?_
        refine gs0 158 [(4, .inl n99), (3, .inl 0), (2, .inl z0), (0, .inr (.inr (some 725))), (1, .inl y1)] [.inr (.inr (some 725)), .inr (.inr (some 725))] dM_115_157 (fun _ => rfl) (Or.inr rfl) ?_
        refine gs0 159 [(4, .inl n99), (3, .inl 0), (2, .inl z0), (0, .inr (.inr (some 725))), (1, .inl y1)] [.inl y1, .inr (.inr (some 725)), .inr (.inr (some 725))] dM_115_158 (fun _ => rfl) (Or.inr rfl) ?_
        refine gs0 160 [(4, .inl n99), (3, .inl 0), (2, .inl z0), (0, .inr (.inr (some 725))), (1, .inl y1)] [.inl z0, .inl y1, .inr (.inr (some 725)), .inr (.inr (some 725))] dM_115_159 (fun _ => rfl) (Or.inr rfl) ?_
        refine gs0 161 [(4, .inl n99), (3, .inl 0), (2, .inl z0), (0, .inr (.inr (some 725))), (1, .inl y1)] [.inl 0, .inl z0, .inl y1, .inr (.inr (some 725)), .inr (.inr (some 725))] dM_115_160 (fun _ => rfl) (Or.inr rfl) ?_
        refine gs0 163 [(4, .inl n99), (3, .inl 0), (2, .inl z0), (0, .inr (.inr (some 725))), (1, .inl y1)] [.inl n99, .inl 0, .inl z0, .inl y1, .inr (.inr (some 725)), .inr (.inr (some 725))] dM_115_161 (fun _ => rfl) (Or.inr rfl) ?_
        refine gsCallV (y := 120) (k := 725) (as := [.inr (.inr (some 725)), .inl y1, .inl z0, .inl 0, .inl n99]) (r := [.inr (.inr (some 725))]) dM_115_163 rfl rfl rfl (Nat.le_of_ble_eq_true rfl) sk_725 rfl (Nat.le_of_ble_eq_true rfl) (EvS.up hn (Nat.le_of_ble_eq_true rfl)) (fun v100 t101 hv102 => ?_)
        obtain ⟨n103, rfl, hnn⟩ := hv102
        clear hn
        show GoS _ _ _ _ _ _ _ _ [(4, .inl n99), (3, .inl 0), (2, .inl z0), (0, .inr (.inr (some 725))), (1, .inl y1)] [.inl n103, .inr (.inr (some 725))] t101 _
        refine gsCallV (y := 118) (k := 725) (as := [.inr (.inr (some 725)), .inl n103]) (r := []) dM_115_166 rfl rfl rfl (Nat.le_of_ble_eq_true rfl) sk_725 rfl (Nat.le_of_ble_eq_true rfl) (EvS.up hnn (Nat.le_of_ble_eq_true rfl)) (fun v104 t105 hv106 => ?_)
        obtain ⟨rfl, hnnn⟩ := hv106
        clear hnn
        show GoS _ _ _ _ _ _ _ _ [(4, .inl n99), (3, .inl 0), (2, .inl z0), (0, .inr (.inr (some 725))), (1, .inl y1)] [] t105 _
        refine gsRet (r := none) dM_115_169 (fun _ => rfl) (Or.inr rfl) ?_
        exact hnnn
set_option maxRecDepth 100000 in
/-- GoalsInAQueueModel.buildsSign -/
theorem w_115 (sg : rSg) (x1 : Int32) {P : Option rv → rSg → Prop} (h :
    (¬ x1 = 41 → 
      (¬ x1 = 40 → 
        EvS rSkel 1 119 [.inl x1, .inl 97, .inl 102] sg (fun v3 t4 => ∃ n6, v3 = some (.inl n6) ∧
          (n6 = 0 → 
            EvS rSkel 1 119 [.inl x1, .inl 48, .inl 57] t4 (fun v8 t9 => ∃ n11, v8 = some (.inl n11) ∧
              (n11 = 0 → 
                (¬ x1 = 110 → 
                  (x1 = 42 → 
                    g_115_118 x1 0 t9 P) ∧
                  (¬ (x1 = 42) → 
                    (¬ x1 = 33 → 
                      EvS rSkel 1 116 [.inr (.inr (some 725))] t9 (fun v16 t17 => ∃ n19, v16 = some (.inl n19) ∧
                        g_115_118 x1 n19 t17 P)) ∧
                    (¬ (¬ x1 = 33) → 
                      g_115_118 x1 0 t9 P))) ∧
                (¬ (¬ x1 = 110) → 
                  EvS rSkel 1 118 [.inr (.inr (some 725)), .inl 74] t9 (fun v20 t21 => v20 = none ∧
                    P none t21))) ∧
              (¬ (n11 = 0) → 
                EvS rSkel 1 118 [.inr (.inr (some 725)), .inl ((64 + x1) - 48)] t9 (fun v23 t24 => v23 = none ∧
                  P none t24)))) ∧
          (¬ (n6 = 0) → 
            EvS rSkel 1 118 [.inr (.inr (some 725)), .inl (x1 - 97)] t4 (fun v26 t27 => v26 = none ∧
              P none t27)))) ∧
      (¬ (¬ x1 = 40) → 
        EvS rSkel 1 116 [.inr (.inr (some 725))] sg (fun v29 t30 => ∃ n32, v29 = some (.inl n32) ∧
          EvS rSkel 1 116 [.inr (.inr (some 725))] t30 (fun v33 t34 => ∃ n36, v33 = some (.inl n36) ∧
            EvS rSkel 1 117 [.inr (.inr (some 725)), .inl n32, .inl n36] t34 (fun v37 t38 => ∃ n40, v37 = some (.inl n40) ∧
              EvS rSkel 1 118 [.inr (.inr (some 725)), .inl n40] t38 (fun v41 t42 => v41 = none ∧
                P none t42)))))) ∧
    (¬ (¬ x1 = 41) → 
      P none sg)) : EvS rSkel 2 115 [.inr (.inr (some 725)), .inl x1] sg P := by
  refine EvS.of (ini := false) rfl ⟨rfl, Nat.le_of_ble_eq_true rfl⟩ rfl ?_
  show GoS rSkel 1 9 5 none false prog_11_method_44_code 0 [(0, .inr (.inr (some 725))), (1, .inl x1)] [] sg _
  refine gs0 1 [(0, .inr (.inr (some 725))), (1, .inl x1)] [.inl x1] dM_115_0 (fun _ => rfl) (Or.inr rfl) ?_
  refine gs0 3 [(0, .inr (.inr (some 725))), (1, .inl x1)] [.inl 41, .inl x1] dM_115_1 (fun _ => rfl) (Or.inr rfl) ?_
  refine gsIf (t := 7) (C := ¬ x1 = 41) (r := []) dM_115_3 (fun _ => rfl) (Or.inr rfl) (rTest_iff .ne x1 41) (fun c1 => ?_) (fun c1 => ?_)
  · replace h := h.1 c1
    refine gs0 8 [(0, .inr (.inr (some 725))), (1, .inl x1)] [.inl x1] dM_115_7 (fun _ => rfl) (Or.inr rfl) ?_
    refine gs0 10 [(0, .inr (.inr (some 725))), (1, .inl x1)] [.inl 40, .inl x1] dM_115_8 (fun _ => rfl) (Or.inr rfl) ?_
    refine gsIf (t := 36) (C := ¬ x1 = 40) (r := []) dM_115_10 (fun _ => rfl) (Or.inr rfl) (rTest_iff .ne x1 40) (fun c2 => ?_) (fun c2 => ?_)
    · replace h := h.1 c2
      refine gs0 37 [(0, .inr (.inr (some 725))), (1, .inl x1)] [.inl x1] dM_115_36 (fun _ => rfl) (Or.inr rfl) ?_
      refine gs0 39 [(0, .inr (.inr (some 725))), (1, .inl x1)] [.inl 97, .inl x1] dM_115_37 (fun _ => rfl) (Or.inr rfl) ?_
      refine gs0 41 [(0, .inr (.inr (some 725))), (1, .inl x1)] [.inl 102, .inl 97, .inl x1] dM_115_39 (fun _ => rfl) (Or.inr rfl) ?_
      refine gsCallS (y := 119) (as := [.inl x1, .inl 97, .inl 102]) (r := []) dM_115_41 rfl (Or.inl rfl) rfl rfl (Nat.le_of_ble_eq_true rfl) (EvS.up h (Nat.le_of_ble_eq_true rfl)) (fun v3 t4 hv5 => ?_)
      obtain ⟨n6, rfl, hn⟩ := hv5
      clear h
      show GoS _ _ _ _ _ _ _ _ [(0, .inr (.inr (some 725))), (1, .inl x1)] [.inl n6] t4 _
      refine gsIf (t := 58) (C := n6 = 0) (r := []) dM_115_44 (fun _ => rfl) (Or.inr rfl) (rTest_iff .eq n6 0) (fun c7 => ?_) (fun c7 => ?_)
      · replace hn := hn.1 c7
        refine gs0 59 [(0, .inr (.inr (some 725))), (1, .inl x1)] [.inl x1] dM_115_58 (fun _ => rfl) (Or.inr rfl) ?_
        refine gs0 61 [(0, .inr (.inr (some 725))), (1, .inl x1)] [.inl 48, .inl x1] dM_115_59 (fun _ => rfl) (Or.inr rfl) ?_
        refine gs0 63 [(0, .inr (.inr (some 725))), (1, .inl x1)] [.inl 57, .inl 48, .inl x1] dM_115_61 (fun _ => rfl) (Or.inr rfl) ?_
        refine gsCallS (y := 119) (as := [.inl x1, .inl 48, .inl 57]) (r := []) dM_115_63 rfl (Or.inl rfl) rfl rfl (Nat.le_of_ble_eq_true rfl) (EvS.up hn (Nat.le_of_ble_eq_true rfl)) (fun v8 t9 hv10 => ?_)
        obtain ⟨n11, rfl, hnn⟩ := hv10
        clear hn
        show GoS _ _ _ _ _ _ _ _ [(0, .inr (.inr (some 725))), (1, .inl x1)] [.inl n11] t9 _
        refine gsIf (t := 83) (C := n11 = 0) (r := []) dM_115_66 (fun _ => rfl) (Or.inr rfl) (rTest_iff .eq n11 0) (fun c12 => ?_) (fun c12 => ?_)
        · replace hnn := hnn.1 c12
          refine gs0 84 [(0, .inr (.inr (some 725))), (1, .inl x1)] [.inl x1] dM_115_83 (fun _ => rfl) (Or.inr rfl) ?_
          refine gs0 86 [(0, .inr (.inr (some 725))), (1, .inl x1)] [.inl 110, .inl x1] dM_115_84 (fun _ => rfl) (Or.inr rfl) ?_
          refine gsIf (t := 98) (C := ¬ x1 = 110) (r := []) dM_115_86 (fun _ => rfl) (Or.inr rfl) (rTest_iff .ne x1 110) (fun c13 => ?_) (fun c13 => ?_)
          · replace hnn := hnn.1 c13
            refine gs0 99 [(0, .inr (.inr (some 725))), (1, .inl x1)] [.inl x1] dM_115_98 (fun _ => rfl) (Or.inr rfl) ?_
            refine gs0 101 [(0, .inr (.inr (some 725))), (1, .inl x1)] [.inl 42, .inl x1] dM_115_99 (fun _ => rfl) (Or.inr rfl) ?_
            refine gsIf (t := 110) (C := x1 = 42) (r := []) dM_115_101 (fun _ => rfl) (Or.inr rfl) (rTest_iff .eq x1 42) (fun c14 => ?_) (fun c14 => ?_)
            · replace hnn := hnn.1 c14
              refine gs0 111 [(0, .inr (.inr (some 725))), (1, .inl x1)] [.inl 0] dM_115_110 (fun _ => rfl) (Or.inr rfl) ?_
              refine gs0 118 [(0, .inr (.inr (some 725))), (1, .inl x1)] [.inl 0] dM_115_111 (fun _ => rfl) (Or.inr rfl) ?_
              exact GoS.sub (Lnd_keys (ks := [0, 1]) rfl (by decide)) (Lsub_cons rfl (Lsub_cons rfl Lsub_nil)) hnn
            · replace hnn := hnn.2 c14
              refine gs0 105 [(0, .inr (.inr (some 725))), (1, .inl x1)] [.inl x1] dM_115_104 (fun _ => rfl) (Or.inr rfl) ?_
              refine gs0 107 [(0, .inr (.inr (some 725))), (1, .inl x1)] [.inl 33, .inl x1] dM_115_105 (fun _ => rfl) (Or.inr rfl) ?_
              refine gsIf (t := 114) (C := ¬ x1 = 33) (r := []) dM_115_107 (fun _ => rfl) (Or.inr rfl) (rTest_iff .ne x1 33) (fun c15 => ?_) (fun c15 => ?_)
              · replace hnn := hnn.1 c15
                refine gs0 115 [(0, .inr (.inr (some 725))), (1, .inl x1)] [.inr (.inr (some 725))] dM_115_114 (fun _ => rfl) (Or.inr rfl) ?_
                refine gsCallV (y := 116) (k := 725) (as := [.inr (.inr (some 725))]) (r := []) dM_115_115 rfl rfl rfl (Nat.le_of_ble_eq_true rfl) sk_725 rfl (Nat.le_of_ble_eq_true rfl) (EvS.up hnn (Nat.le_of_ble_eq_true rfl)) (fun v16 t17 hv18 => ?_)
                obtain ⟨n19, rfl, hnnn⟩ := hv18
                clear hnn
                show GoS _ _ _ _ _ _ _ _ [(0, .inr (.inr (some 725))), (1, .inl x1)] [.inl n19] t17 _
                exact GoS.sub (Lnd_keys (ks := [0, 1]) rfl (by decide)) (Lsub_cons rfl (Lsub_cons rfl Lsub_nil)) hnnn
              · replace hnn := hnn.2 c15
                refine gs0 111 [(0, .inr (.inr (some 725))), (1, .inl x1)] [.inl 0] dM_115_110 (fun _ => rfl) (Or.inr rfl) ?_
                refine gs0 118 [(0, .inr (.inr (some 725))), (1, .inl x1)] [.inl 0] dM_115_111 (fun _ => rfl) (Or.inr rfl) ?_
                exact GoS.sub (Lnd_keys (ks := [0, 1]) rfl (by decide)) (Lsub_cons rfl (Lsub_cons rfl Lsub_nil)) hnn
          · replace hnn := hnn.2 c13
            refine gs0 90 [(0, .inr (.inr (some 725))), (1, .inl x1)] [.inr (.inr (some 725))] dM_115_89 (fun _ => rfl) (Or.inr rfl) ?_
            refine gs0 92 [(0, .inr (.inr (some 725))), (1, .inl x1)] [.inl 74, .inr (.inr (some 725))] dM_115_90 (fun _ => rfl) (Or.inr rfl) ?_
            refine gsCallV (y := 118) (k := 725) (as := [.inr (.inr (some 725)), .inl 74]) (r := []) dM_115_92 rfl rfl rfl (Nat.le_of_ble_eq_true rfl) sk_725 rfl (Nat.le_of_ble_eq_true rfl) (EvS.up hnn (Nat.le_of_ble_eq_true rfl)) (fun v20 t21 hv22 => ?_)
            obtain ⟨rfl, hnnn⟩ := hv22
            clear hnn
            show GoS _ _ _ _ _ _ _ _ [(0, .inr (.inr (some 725))), (1, .inl x1)] [] t21 _
            refine gs0 169 [(0, .inr (.inr (some 725))), (1, .inl x1)] [] dM_115_95 (fun _ => rfl) (Or.inr rfl) ?_
            refine gsRet (r := none) dM_115_169 (fun _ => rfl) (Or.inr rfl) ?_
            exact hnnn
        · replace hnn := hnn.2 c12
          refine gs0 70 [(0, .inr (.inr (some 725))), (1, .inl x1)] [.inr (.inr (some 725))] dM_115_69 (fun _ => rfl) (Or.inr rfl) ?_
          refine gs0 72 [(0, .inr (.inr (some 725))), (1, .inl x1)] [.inl 64, .inr (.inr (some 725))] dM_115_70 (fun _ => rfl) (Or.inr rfl) ?_
          refine gs0 73 [(0, .inr (.inr (some 725))), (1, .inl x1)] [.inl x1, .inl 64, .inr (.inr (some 725))] dM_115_72 (fun _ => rfl) (Or.inr rfl) ?_
          refine gs0 74 [(0, .inr (.inr (some 725))), (1, .inl x1)] [.inl (64 + x1), .inr (.inr (some 725))] dM_115_73 (fun _ => rfl) (Or.inr rfl) ?_
          refine gs0 76 [(0, .inr (.inr (some 725))), (1, .inl x1)] [.inl 48, .inl (64 + x1), .inr (.inr (some 725))] dM_115_74 (fun _ => rfl) (Or.inr rfl) ?_
          refine gs0 77 [(0, .inr (.inr (some 725))), (1, .inl x1)] [.inl ((64 + x1) - 48), .inr (.inr (some 725))] dM_115_76 (fun _ => rfl) (Or.inr rfl) ?_
          refine gsCallV (y := 118) (k := 725) (as := [.inr (.inr (some 725)), .inl ((64 + x1) - 48)]) (r := []) dM_115_77 rfl rfl rfl (Nat.le_of_ble_eq_true rfl) sk_725 rfl (Nat.le_of_ble_eq_true rfl) (EvS.up hnn (Nat.le_of_ble_eq_true rfl)) (fun v23 t24 hv25 => ?_)
          obtain ⟨rfl, hnnn⟩ := hv25
          clear hnn
          show GoS _ _ _ _ _ _ _ _ [(0, .inr (.inr (some 725))), (1, .inl x1)] [] t24 _
          refine gs0 169 [(0, .inr (.inr (some 725))), (1, .inl x1)] [] dM_115_80 (fun _ => rfl) (Or.inr rfl) ?_
          refine gsRet (r := none) dM_115_169 (fun _ => rfl) (Or.inr rfl) ?_
          exact hnnn
      · replace hn := hn.2 c7
        refine gs0 48 [(0, .inr (.inr (some 725))), (1, .inl x1)] [.inr (.inr (some 725))] dM_115_47 (fun _ => rfl) (Or.inr rfl) ?_
        refine gs0 49 [(0, .inr (.inr (some 725))), (1, .inl x1)] [.inl x1, .inr (.inr (some 725))] dM_115_48 (fun _ => rfl) (Or.inr rfl) ?_
        refine gs0 51 [(0, .inr (.inr (some 725))), (1, .inl x1)] [.inl 97, .inl x1, .inr (.inr (some 725))] dM_115_49 (fun _ => rfl) (Or.inr rfl) ?_
        refine gs0 52 [(0, .inr (.inr (some 725))), (1, .inl x1)] [.inl (x1 - 97), .inr (.inr (some 725))] dM_115_51 (fun _ => rfl) (Or.inr rfl) ?_
        refine gsCallV (y := 118) (k := 725) (as := [.inr (.inr (some 725)), .inl (x1 - 97)]) (r := []) dM_115_52 rfl rfl rfl (Nat.le_of_ble_eq_true rfl) sk_725 rfl (Nat.le_of_ble_eq_true rfl) (EvS.up hn (Nat.le_of_ble_eq_true rfl)) (fun v26 t27 hv28 => ?_)
        obtain ⟨rfl, hnn⟩ := hv28
        clear hn
        show GoS _ _ _ _ _ _ _ _ [(0, .inr (.inr (some 725))), (1, .inl x1)] [] t27 _
        refine gs0 169 [(0, .inr (.inr (some 725))), (1, .inl x1)] [] dM_115_55 (fun _ => rfl) (Or.inr rfl) ?_
        refine gsRet (r := none) dM_115_169 (fun _ => rfl) (Or.inr rfl) ?_
        exact hnn
    · replace h := h.2 c2
      refine gs0 14 [(0, .inr (.inr (some 725))), (1, .inl x1)] [.inr (.inr (some 725))] dM_115_13 (fun _ => rfl) (Or.inr rfl) ?_
      refine gsCallV (y := 116) (k := 725) (as := [.inr (.inr (some 725))]) (r := []) dM_115_14 rfl rfl rfl (Nat.le_of_ble_eq_true rfl) sk_725 rfl (Nat.le_of_ble_eq_true rfl) (EvS.up h (Nat.le_of_ble_eq_true rfl)) (fun v29 t30 hv31 => ?_)
      obtain ⟨n32, rfl, hn⟩ := hv31
      clear h
      show GoS _ _ _ _ _ _ _ _ [(0, .inr (.inr (some 725))), (1, .inl x1)] [.inl n32] t30 _
      refine gs0 18 [(2, .inl n32), (0, .inr (.inr (some 725))), (1, .inl x1)] [] dM_115_17 (fun _ => rfl) (Or.inr rfl) ?_
      refine gs0 19 [(2, .inl n32), (0, .inr (.inr (some 725))), (1, .inl x1)] [.inr (.inr (some 725))] dM_115_18 (fun _ => rfl) (Or.inr rfl) ?_
      refine gsCallV (y := 116) (k := 725) (as := [.inr (.inr (some 725))]) (r := []) dM_115_19 rfl rfl rfl (Nat.le_of_ble_eq_true rfl) sk_725 rfl (Nat.le_of_ble_eq_true rfl) (EvS.up hn (Nat.le_of_ble_eq_true rfl)) (fun v33 t34 hv35 => ?_)
      obtain ⟨n36, rfl, hnn⟩ := hv35
      clear hn
      show GoS _ _ _ _ _ _ _ _ [(2, .inl n32), (0, .inr (.inr (some 725))), (1, .inl x1)] [.inl n36] t34 _
      refine gs0 23 [(3, .inl n36), (2, .inl n32), (0, .inr (.inr (some 725))), (1, .inl x1)] [] dM_115_22 (fun _ => rfl) (Or.inr rfl) ?_
      refine gs0 24 [(3, .inl n36), (2, .inl n32), (0, .inr (.inr (some 725))), (1, .inl x1)] [.inr (.inr (some 725))] dM_115_23 (fun _ => rfl) (Or.inr rfl) ?_
      refine gs0 25 [(3, .inl n36), (2, .inl n32), (0, .inr (.inr (some 725))), (1, .inl x1)] [.inr (.inr (some 725)), .inr (.inr (some 725))] dM_115_24 (fun _ => rfl) (Or.inr rfl) ?_
      refine gs0 26 [(3, .inl n36), (2, .inl n32), (0, .inr (.inr (some 725))), (1, .inl x1)] [.inl n32, .inr (.inr (some 725)), .inr (.inr (some 725))] dM_115_25 (fun _ => rfl) (Or.inr rfl) ?_
      refine gs0 27 [(3, .inl n36), (2, .inl n32), (0, .inr (.inr (some 725))), (1, .inl x1)] [.inl n36, .inl n32, .inr (.inr (some 725)), .inr (.inr (some 725))] dM_115_26 (fun _ => rfl) (Or.inr rfl) ?_
      refine gsCallV (y := 117) (k := 725) (as := [.inr (.inr (some 725)), .inl n32, .inl n36]) (r := [.inr (.inr (some 725))]) dM_115_27 rfl rfl rfl (Nat.le_of_ble_eq_true rfl) sk_725 rfl (Nat.le_of_ble_eq_true rfl) (EvS.up hnn (Nat.le_of_ble_eq_true rfl)) (fun v37 t38 hv39 => ?_)
      obtain ⟨n40, rfl, hnnn⟩ := hv39
      clear hnn
      show GoS _ _ _ _ _ _ _ _ [(3, .inl n36), (2, .inl n32), (0, .inr (.inr (some 725))), (1, .inl x1)] [.inl n40, .inr (.inr (some 725))] t38 _
      refine gsCallV (y := 118) (k := 725) (as := [.inr (.inr (some 725)), .inl n40]) (r := []) dM_115_30 rfl rfl rfl (Nat.le_of_ble_eq_true rfl) sk_725 rfl (Nat.le_of_ble_eq_true rfl) (EvS.up hnnn (Nat.le_of_ble_eq_true rfl)) (fun v41 t42 hv43 => ?_)
      obtain ⟨rfl, hnnnn⟩ := hv43
      clear hnnn
      show GoS _ _ _ _ _ _ _ _ [(3, .inl n36), (2, .inl n32), (0, .inr (.inr (some 725))), (1, .inl x1)] [] t42 _
      refine gs0 169 [(3, .inl n36), (2, .inl n32), (0, .inr (.inr (some 725))), (1, .inl x1)] [] dM_115_33 (fun _ => rfl) (Or.inr rfl) ?_
      refine gsRet (r := none) dM_115_169 (fun _ => rfl) (Or.inr rfl) ?_
      exact hnnnn
  · replace h := h.2 c1
    refine gsRet (r := none) dM_115_6 (fun _ => rfl) (Or.inr rfl) ?_
    exact h
set_option maxRecDepth 100000 in
/-- GoalsInAQueueModel.pops -/
theorem w_116 (sg : rSg)  {P : Option rv → rSg → Prop} (h :
    (rIn ((sg 725 17) - 1) 8000 = true ∧
    P (some (.inl (sg 738 (((sg 725 17) - 1).toNatClampNeg)))) (up2 sg 725 17 ((sg 725 17) - 1)))) : EvS rSkel 1 116 [.inr (.inr (some 725))] sg P := by
  refine EvS.of (ini := false) rfl ⟨rfl, Nat.le_of_ble_eq_true rfl⟩ rfl ?_
  show GoS rSkel 0 9 1 (some .int) false prog_11_method_43_code 0 [(0, .inr (.inr (some 725)))] [] sg _
  refine gs0 1 [(0, .inr (.inr (some 725)))] [.inr (.inr (some 725))] dM_116_0 (fun _ => rfl) (Or.inr rfl) ?_
  refine gs0 2 [(0, .inr (.inr (some 725)))] [.inr (.inr (some 725)), .inr (.inr (some 725))] dM_116_1 (fun _ => rfl) (Or.inr rfl) ?_
  refine gsGetE (sg 725 17) dM_116_2 sk_725 rfl rfl rfl ?_
  refine gs0 6 [(0, .inr (.inr (some 725)))] [.inl 1, .inl (sg 725 17), .inr (.inr (some 725))] dM_116_5 (fun _ => rfl) (Or.inr rfl) ?_
  refine gs0 7 [(0, .inr (.inr (some 725)))] [.inl ((sg 725 17) - 1), .inr (.inr (some 725))] dM_116_6 (fun _ => rfl) (Or.inr rfl) ?_
  refine gsPut dM_116_7 sk_725 rfl rfl rfl (by decide) ?_
  refine gs0 11 [(0, .inr (.inr (some 725)))] [.inr (.inr (some 725))] dM_116_10 (fun _ => rfl) (Or.inr rfl) ?_
  refine gsGetR (some 738) dM_116_11 sk_725 rfl rfl ?_
  refine gs0 15 [(0, .inr (.inr (some 725)))] [.inr (.inr (some 725)), .inr (.inr (some 738))] dM_116_14 (fun _ => rfl) (Or.inr rfl) ?_
  refine gsGetE ((sg 725 17) - 1) dM_116_15 sk_725 rfl rfl (up2_same _ _ _ _) ?_
  refine gsIaldN (((sg 725 17) - 1).toNatClampNeg) (sg 738 (((sg 725 17) - 1).toNatClampNeg)) dM_116_18 sk_738 h.1 rfl (congrFun (up2_nk _ _ _ (by decide)) _) ?_
  replace h := h.2
  refine gsRet (r := some (.inl (sg 738 (((sg 725 17) - 1).toNatClampNeg)))) dM_116_19 (fun _ => rfl) (Or.inr rfl) ?_
  exact h
set_option maxRecDepth 100000 in
/-- GoalsInAQueueModel.pair -/
theorem w_117 (sg : rSg) (x1 : Int32) (x2 : Int32) {P : Option rv → rSg → Prop} (h :
    (rIn (sg 725 10) 6000 = true ∧
    rIn (sg 725 10) 6000 = true ∧
    P (some (.inl (((sg 725 10) + 1) - 1))) (up2 (up2 (up2 sg 727 ((sg 725 10).toNatClampNeg) x1) 728 ((sg 725 10).toNatClampNeg) x2) 725 10 ((sg 725 10) + 1)))) : EvS rSkel 1 117 [.inr (.inr (some 725)), .inl x1, .inl x2] sg P := by
  refine EvS.of (ini := false) rfl ⟨rfl, Nat.le_of_ble_eq_true rfl⟩ rfl ?_
  show GoS rSkel 0 9 3 (some .int) false prog_11_method_6_code 0 [(0, .inr (.inr (some 725))), (1, .inl x1), (2, .inl x2)] [] sg _
  refine gs0 1 [(0, .inr (.inr (some 725))), (1, .inl x1), (2, .inl x2)] [.inr (.inr (some 725))] dM_117_0 (fun _ => rfl) (Or.inr rfl) ?_
  refine gsGetR (some 727) dM_117_1 sk_725 rfl rfl ?_
  refine gs0 5 [(0, .inr (.inr (some 725))), (1, .inl x1), (2, .inl x2)] [.inr (.inr (some 725)), .inr (.inr (some 727))] dM_117_4 (fun _ => rfl) (Or.inr rfl) ?_
  refine gsGetE (sg 725 10) dM_117_5 sk_725 rfl rfl rfl ?_
  refine gs0 9 [(0, .inr (.inr (some 725))), (1, .inl x1), (2, .inl x2)] [.inl x1, .inl (sg 725 10), .inr (.inr (some 727))] dM_117_8 (fun _ => rfl) (Or.inr rfl) ?_
  refine gsIastN ((sg 725 10).toNatClampNeg) dM_117_9 sk_727 h.1 rfl ?_
  replace h := h.2
  refine gs0 11 [(0, .inr (.inr (some 725))), (1, .inl x1), (2, .inl x2)] [.inr (.inr (some 725))] dM_117_10 (fun _ => rfl) (Or.inr rfl) ?_
  refine gsGetR (some 728) dM_117_11 sk_725 rfl rfl ?_
  refine gs0 15 [(0, .inr (.inr (some 725))), (1, .inl x1), (2, .inl x2)] [.inr (.inr (some 725)), .inr (.inr (some 728))] dM_117_14 (fun _ => rfl) (Or.inr rfl) ?_
  refine gsGetE (sg 725 10) dM_117_15 sk_725 rfl rfl (congrFun (up2_nk _ _ _ (by decide)) _) ?_
  refine gs0 19 [(0, .inr (.inr (some 725))), (1, .inl x1), (2, .inl x2)] [.inl x2, .inl (sg 725 10), .inr (.inr (some 728))] dM_117_18 (fun _ => rfl) (Or.inr rfl) ?_
  refine gsIastN ((sg 725 10).toNatClampNeg) dM_117_19 sk_728 h.1 rfl ?_
  replace h := h.2
  refine gs0 21 [(0, .inr (.inr (some 725))), (1, .inl x1), (2, .inl x2)] [.inr (.inr (some 725))] dM_117_20 (fun _ => rfl) (Or.inr rfl) ?_
  refine gs0 22 [(0, .inr (.inr (some 725))), (1, .inl x1), (2, .inl x2)] [.inr (.inr (some 725)), .inr (.inr (some 725))] dM_117_21 (fun _ => rfl) (Or.inr rfl) ?_
  refine gsGetE (sg 725 10) dM_117_22 sk_725 rfl rfl ((congrFun (up2_nk _ _ _ (by decide)) _).trans (congrFun (up2_nk _ _ _ (by decide)) _)) ?_
  refine gs0 26 [(0, .inr (.inr (some 725))), (1, .inl x1), (2, .inl x2)] [.inl 1, .inl (sg 725 10), .inr (.inr (some 725))] dM_117_25 (fun _ => rfl) (Or.inr rfl) ?_
  refine gs0 27 [(0, .inr (.inr (some 725))), (1, .inl x1), (2, .inl x2)] [.inl ((sg 725 10) + 1), .inr (.inr (some 725))] dM_117_26 (fun _ => rfl) (Or.inr rfl) ?_
  refine gsPut dM_117_27 sk_725 rfl rfl rfl (by decide) ?_
  refine gs0 31 [(0, .inr (.inr (some 725))), (1, .inl x1), (2, .inl x2)] [.inr (.inr (some 725))] dM_117_30 (fun _ => rfl) (Or.inr rfl) ?_
  refine gsGetE ((sg 725 10) + 1) dM_117_31 sk_725 rfl rfl (up2_same _ _ _ _) ?_
  refine gs0 35 [(0, .inr (.inr (some 725))), (1, .inl x1), (2, .inl x2)] [.inl 1, .inl ((sg 725 10) + 1)] dM_117_34 (fun _ => rfl) (Or.inr rfl) ?_
  refine gs0 36 [(0, .inr (.inr (some 725))), (1, .inl x1), (2, .inl x2)] [.inl (((sg 725 10) + 1) - 1)] dM_117_35 (fun _ => rfl) (Or.inr rfl) ?_
  refine gsRet (r := some (.inl (((sg 725 10) + 1) - 1))) dM_117_36 (fun _ => rfl) (Or.inr rfl) ?_
  exact h
set_option maxRecDepth 100000 in
/-- GoalsInAQueueModel.piles -/
theorem w_118 (sg : rSg) (x1 : Int32) {P : Option rv → rSg → Prop} (h :
    (rIn (sg 725 17) 8000 = true ∧
    P none (up2 (up2 sg 738 ((sg 725 17).toNatClampNeg) x1) 725 17 ((sg 725 17) + 1)))) : EvS rSkel 1 118 [.inr (.inr (some 725)), .inl x1] sg P := by
  refine EvS.of (ini := false) rfl ⟨rfl, Nat.le_of_ble_eq_true rfl⟩ rfl ?_
  show GoS rSkel 0 9 2 none false prog_11_method_14_code 0 [(0, .inr (.inr (some 725))), (1, .inl x1)] [] sg _
  refine gs0 1 [(0, .inr (.inr (some 725))), (1, .inl x1)] [.inr (.inr (some 725))] dM_118_0 (fun _ => rfl) (Or.inr rfl) ?_
  refine gsGetR (some 738) dM_118_1 sk_725 rfl rfl ?_
  refine gs0 5 [(0, .inr (.inr (some 725))), (1, .inl x1)] [.inr (.inr (some 725)), .inr (.inr (some 738))] dM_118_4 (fun _ => rfl) (Or.inr rfl) ?_
  refine gsGetE (sg 725 17) dM_118_5 sk_725 rfl rfl rfl ?_
  refine gs0 9 [(0, .inr (.inr (some 725))), (1, .inl x1)] [.inl x1, .inl (sg 725 17), .inr (.inr (some 738))] dM_118_8 (fun _ => rfl) (Or.inr rfl) ?_
  refine gsIastN ((sg 725 17).toNatClampNeg) dM_118_9 sk_738 h.1 rfl ?_
  replace h := h.2
  refine gs0 11 [(0, .inr (.inr (some 725))), (1, .inl x1)] [.inr (.inr (some 725))] dM_118_10 (fun _ => rfl) (Or.inr rfl) ?_
  refine gs0 12 [(0, .inr (.inr (some 725))), (1, .inl x1)] [.inr (.inr (some 725)), .inr (.inr (some 725))] dM_118_11 (fun _ => rfl) (Or.inr rfl) ?_
  refine gsGetE (sg 725 17) dM_118_12 sk_725 rfl rfl (congrFun (up2_nk _ _ _ (by decide)) _) ?_
  refine gs0 16 [(0, .inr (.inr (some 725))), (1, .inl x1)] [.inl 1, .inl (sg 725 17), .inr (.inr (some 725))] dM_118_15 (fun _ => rfl) (Or.inr rfl) ?_
  refine gs0 17 [(0, .inr (.inr (some 725))), (1, .inl x1)] [.inl ((sg 725 17) + 1), .inr (.inr (some 725))] dM_118_16 (fun _ => rfl) (Or.inr rfl) ?_
  refine gsPut dM_118_17 sk_725 rfl rfl rfl (by decide) ?_
  refine gsRet (r := none) dM_118_20 (fun _ => rfl) (Or.inr rfl) ?_
  exact h
set_option maxRecDepth 100000 in
/-- GoalsInAQueueModel.isIn -/
theorem w_119 (sg : rSg) (x0 : Int32) (x1 : Int32) (x2 : Int32) {P : Option rv → rSg → Prop} (h :
    (x0 < x1 → 
      P (some (.inl 0)) sg) ∧
    (¬ (x0 < x1) → 
      (x2 < x0 → 
        P (some (.inl 0)) sg) ∧
      (¬ (x2 < x0) → 
        P (some (.inl 1)) sg))) : EvS rSkel 1 119 [.inl x0, .inl x1, .inl x2] sg P := by
  refine EvS.of (ini := false) rfl ⟨rfl, Nat.le_of_ble_eq_true rfl⟩ rfl ?_
  show GoS rSkel 0 9 3 (some .boolean) false prog_11_method_4_code 0 [(0, .inl x0), (1, .inl x1), (2, .inl x2)] [] sg _
  refine gs0 1 [(0, .inl x0), (1, .inl x1), (2, .inl x2)] [.inl x0] dM_119_0 (fun _ => rfl) (Or.inr rfl) ?_
  refine gs0 2 [(0, .inl x0), (1, .inl x1), (2, .inl x2)] [.inl x1, .inl x0] dM_119_1 (fun _ => rfl) (Or.inr rfl) ?_
  refine gsIf (t := 14) (C := x0 < x1) (r := []) dM_119_2 (fun _ => rfl) (Or.inr rfl) (rTest_iff .lt x0 x1) (fun c1 => ?_) (fun c1 => ?_)
  · replace h := h.1 c1
    refine gs0 15 [(0, .inl x0), (1, .inl x1), (2, .inl x2)] [.inl 0] dM_119_14 (fun _ => rfl) (Or.inr rfl) ?_
    refine gsRet (r := some (.inl 0)) dM_119_15 (fun _ => rfl) (Or.inr rfl) ?_
    exact h
  · replace h := h.2 c1
    refine gs0 6 [(0, .inl x0), (1, .inl x1), (2, .inl x2)] [.inl x0] dM_119_5 (fun _ => rfl) (Or.inr rfl) ?_
    refine gs0 7 [(0, .inl x0), (1, .inl x1), (2, .inl x2)] [.inl x2, .inl x0] dM_119_6 (fun _ => rfl) (Or.inr rfl) ?_
    refine gsIf (t := 14) (C := x2 < x0) (r := []) dM_119_7 (fun _ => rfl) (Or.inr rfl) (rTest_iff .gt x0 x2) (fun c2 => ?_) (fun c2 => ?_)
    · replace h := h.1 c2
      refine gs0 15 [(0, .inl x0), (1, .inl x1), (2, .inl x2)] [.inl 0] dM_119_14 (fun _ => rfl) (Or.inr rfl) ?_
      refine gsRet (r := some (.inl 0)) dM_119_15 (fun _ => rfl) (Or.inr rfl) ?_
      exact h
    · replace h := h.2 c2
      refine gs0 11 [(0, .inl x0), (1, .inl x1), (2, .inl x2)] [.inl 1] dM_119_10 (fun _ => rfl) (Or.inr rfl) ?_
      refine gs0 15 [(0, .inl x0), (1, .inl x1), (2, .inl x2)] [.inl 1] dM_119_11 (fun _ => rfl) (Or.inr rfl) ?_
      refine gsRet (r := some (.inl 1)) dM_119_15 (fun _ => rfl) (Or.inr rfl) ?_
      exact h
set_option maxRecDepth 100000 in
/-- GoalsInAQueueModel.goalOf -/
theorem w_120 (sg : rSg) (x1 : Int32) (x2 : Int32) (x3 : Int32) (x4 : Int32) {P : Option rv → rSg → Prop} (h :
    (rIn (sg 725 11) 3000 = true ∧
    rIn (sg 725 11) 3000 = true ∧
    rIn (sg 725 11) 3000 = true ∧
    rIn (sg 725 11) 3000 = true ∧
    P (some (.inl (((sg 725 11) + 1) - 1))) (up2 (up2 (up2 (up2 (up2 sg 729 ((sg 725 11).toNatClampNeg) x1) 730 ((sg 725 11).toNatClampNeg) x2) 731 ((sg 725 11).toNatClampNeg) x3) 732 ((sg 725 11).toNatClampNeg) x4) 725 11 ((sg 725 11) + 1)))) : EvS rSkel 1 120 [.inr (.inr (some 725)), .inl x1, .inl x2, .inl x3, .inl x4] sg P := by
  refine EvS.of (ini := false) rfl ⟨rfl, Nat.le_of_ble_eq_true rfl⟩ rfl ?_
  show GoS rSkel 0 9 5 (some .int) false prog_11_method_7_code 0 [(0, .inr (.inr (some 725))), (1, .inl x1), (2, .inl x2), (3, .inl x3), (4, .inl x4)] [] sg _
  refine gs0 1 [(0, .inr (.inr (some 725))), (1, .inl x1), (2, .inl x2), (3, .inl x3), (4, .inl x4)] [.inr (.inr (some 725))] dM_120_0 (fun _ => rfl) (Or.inr rfl) ?_
  refine gsGetR (some 729) dM_120_1 sk_725 rfl rfl ?_
  refine gs0 5 [(0, .inr (.inr (some 725))), (1, .inl x1), (2, .inl x2), (3, .inl x3), (4, .inl x4)] [.inr (.inr (some 725)), .inr (.inr (some 729))] dM_120_4 (fun _ => rfl) (Or.inr rfl) ?_
  refine gsGetE (sg 725 11) dM_120_5 sk_725 rfl rfl rfl ?_
  refine gs0 9 [(0, .inr (.inr (some 725))), (1, .inl x1), (2, .inl x2), (3, .inl x3), (4, .inl x4)] [.inl x1, .inl (sg 725 11), .inr (.inr (some 729))] dM_120_8 (fun _ => rfl) (Or.inr rfl) ?_
  refine gsIastN ((sg 725 11).toNatClampNeg) dM_120_9 sk_729 h.1 rfl ?_
  replace h := h.2
  refine gs0 11 [(0, .inr (.inr (some 725))), (1, .inl x1), (2, .inl x2), (3, .inl x3), (4, .inl x4)] [.inr (.inr (some 725))] dM_120_10 (fun _ => rfl) (Or.inr rfl) ?_
  refine gsGetR (some 730) dM_120_11 sk_725 rfl rfl ?_
  refine gs0 15 [(0, .inr (.inr (some 725))), (1, .inl x1), (2, .inl x2), (3, .inl x3), (4, .inl x4)] [.inr (.inr (some 725)), .inr (.inr (some 730))] dM_120_14 (fun _ => rfl) (Or.inr rfl) ?_
  refine gsGetE (sg 725 11) dM_120_15 sk_725 rfl rfl (congrFun (up2_nk _ _ _ (by decide)) _) ?_
  refine gs0 19 [(0, .inr (.inr (some 725))), (1, .inl x1), (2, .inl x2), (3, .inl x3), (4, .inl x4)] [.inl x2, .inl (sg 725 11), .inr (.inr (some 730))] dM_120_18 (fun _ => rfl) (Or.inr rfl) ?_
  refine gsIastN ((sg 725 11).toNatClampNeg) dM_120_19 sk_730 h.1 rfl ?_
  replace h := h.2
  refine gs0 21 [(0, .inr (.inr (some 725))), (1, .inl x1), (2, .inl x2), (3, .inl x3), (4, .inl x4)] [.inr (.inr (some 725))] dM_120_20 (fun _ => rfl) (Or.inr rfl) ?_
  refine gsGetR (some 731) dM_120_21 sk_725 rfl rfl ?_
  refine gs0 25 [(0, .inr (.inr (some 725))), (1, .inl x1), (2, .inl x2), (3, .inl x3), (4, .inl x4)] [.inr (.inr (some 725)), .inr (.inr (some 731))] dM_120_24 (fun _ => rfl) (Or.inr rfl) ?_
  refine gsGetE (sg 725 11) dM_120_25 sk_725 rfl rfl ((congrFun (up2_nk _ _ _ (by decide)) _).trans (congrFun (up2_nk _ _ _ (by decide)) _)) ?_
  refine gs0 29 [(0, .inr (.inr (some 725))), (1, .inl x1), (2, .inl x2), (3, .inl x3), (4, .inl x4)] [.inl x3, .inl (sg 725 11), .inr (.inr (some 731))] dM_120_28 (fun _ => rfl) (Or.inr rfl) ?_
  refine gsIastN ((sg 725 11).toNatClampNeg) dM_120_29 sk_731 h.1 rfl ?_
  replace h := h.2
  refine gs0 31 [(0, .inr (.inr (some 725))), (1, .inl x1), (2, .inl x2), (3, .inl x3), (4, .inl x4)] [.inr (.inr (some 725))] dM_120_30 (fun _ => rfl) (Or.inr rfl) ?_
  refine gsGetR (some 732) dM_120_31 sk_725 rfl rfl ?_
  refine gs0 35 [(0, .inr (.inr (some 725))), (1, .inl x1), (2, .inl x2), (3, .inl x3), (4, .inl x4)] [.inr (.inr (some 725)), .inr (.inr (some 732))] dM_120_34 (fun _ => rfl) (Or.inr rfl) ?_
  refine gsGetE (sg 725 11) dM_120_35 sk_725 rfl rfl ((congrFun (up2_nk _ _ _ (by decide)) _).trans ((congrFun (up2_nk _ _ _ (by decide)) _).trans (congrFun (up2_nk _ _ _ (by decide)) _))) ?_
  refine gs0 40 [(0, .inr (.inr (some 725))), (1, .inl x1), (2, .inl x2), (3, .inl x3), (4, .inl x4)] [.inl x4, .inl (sg 725 11), .inr (.inr (some 732))] dM_120_38 (fun _ => rfl) (Or.inr rfl) ?_
  refine gsIastN ((sg 725 11).toNatClampNeg) dM_120_40 sk_732 h.1 rfl ?_
  replace h := h.2
  refine gs0 42 [(0, .inr (.inr (some 725))), (1, .inl x1), (2, .inl x2), (3, .inl x3), (4, .inl x4)] [.inr (.inr (some 725))] dM_120_41 (fun _ => rfl) (Or.inr rfl) ?_
  refine gs0 43 [(0, .inr (.inr (some 725))), (1, .inl x1), (2, .inl x2), (3, .inl x3), (4, .inl x4)] [.inr (.inr (some 725)), .inr (.inr (some 725))] dM_120_42 (fun _ => rfl) (Or.inr rfl) ?_
  refine gsGetE (sg 725 11) dM_120_43 sk_725 rfl rfl ((congrFun (up2_nk _ _ _ (by decide)) _).trans ((congrFun (up2_nk _ _ _ (by decide)) _).trans ((congrFun (up2_nk _ _ _ (by decide)) _).trans (congrFun (up2_nk _ _ _ (by decide)) _)))) ?_
  refine gs0 47 [(0, .inr (.inr (some 725))), (1, .inl x1), (2, .inl x2), (3, .inl x3), (4, .inl x4)] [.inl 1, .inl (sg 725 11), .inr (.inr (some 725))] dM_120_46 (fun _ => rfl) (Or.inr rfl) ?_
  refine gs0 48 [(0, .inr (.inr (some 725))), (1, .inl x1), (2, .inl x2), (3, .inl x3), (4, .inl x4)] [.inl ((sg 725 11) + 1), .inr (.inr (some 725))] dM_120_47 (fun _ => rfl) (Or.inr rfl) ?_
  refine gsPut dM_120_48 sk_725 rfl rfl rfl (by decide) ?_
  refine gs0 52 [(0, .inr (.inr (some 725))), (1, .inl x1), (2, .inl x2), (3, .inl x3), (4, .inl x4)] [.inr (.inr (some 725))] dM_120_51 (fun _ => rfl) (Or.inr rfl) ?_
  refine gsGetE ((sg 725 11) + 1) dM_120_52 sk_725 rfl rfl (up2_same _ _ _ _) ?_
  refine gs0 56 [(0, .inr (.inr (some 725))), (1, .inl x1), (2, .inl x2), (3, .inl x3), (4, .inl x4)] [.inl 1, .inl ((sg 725 11) + 1)] dM_120_55 (fun _ => rfl) (Or.inr rfl) ?_
  refine gs0 57 [(0, .inr (.inr (some 725))), (1, .inl x1), (2, .inl x2), (3, .inl x3), (4, .inl x4)] [.inl (((sg 725 11) + 1) - 1)] dM_120_56 (fun _ => rfl) (Or.inr rfl) ?_
  refine gsRet (r := some (.inl (((sg 725 11) + 1) - 1))) dM_120_57 (fun _ => rfl) (Or.inr rfl) ?_
  exact h
set_option maxRecDepth 100000 in
/-- GoalsInAQueueModel.begins -/
theorem w_121 (sg : rSg) (x1 : Int32) {P : Option rv → rSg → Prop} (h :
    EvS rSkel 1 122 [.inr (.inr (some 725))] sg (fun v1 t2 => v1 = none ∧
      (rIn (t2 725 21) 2 = true ∧
      rIn (t2 725 21) 2 = true ∧
      rIn (t2 725 21) 2 = true ∧
      rIn (t2 725 21) 2 = true ∧
      rIn (t2 725 21) 2 = true ∧
      rIn (t2 725 21) 2 = true ∧
      EvS rSkel 1 123 [.inr (.inr (some 725)), .inl x1, .inl 0, .inl 0] (up2 (up2 (up2 (up2 (up2 (up2 t2 746 ((t2 725 21).toNatClampNeg) 0) 747 ((t2 725 21).toNatClampNeg) 0) 748 ((t2 725 21).toNatClampNeg) 0) 749 ((t2 725 21).toNatClampNeg) 0) 750 ((t2 725 21).toNatClampNeg) 0) 751 ((t2 725 21).toNatClampNeg) 1) (fun v4 t5 => ∃ n7, v4 = some (.inl n7) ∧
        EvS rSkel 2 124 [.inr (.inr (some 725))] (up2 (up2 (up2 t5 725 18 n7) 725 19 0) 725 20 6) (fun v8 t9 => v8 = none ∧
          P none t9))))) : EvS rSkel 3 121 [.inr (.inr (some 725)), .inl x1] sg P := by
  refine EvS.of (ini := false) rfl ⟨rfl, Nat.le_of_ble_eq_true rfl⟩ rfl ?_
  show GoS rSkel 2 9 2 none false prog_11_method_24_code 0 [(0, .inr (.inr (some 725))), (1, .inl x1)] [] sg _
  refine gs0 1 [(0, .inr (.inr (some 725))), (1, .inl x1)] [.inr (.inr (some 725))] dM_121_0 (fun _ => rfl) (Or.inr rfl) ?_
  refine gsCallV (y := 122) (k := 725) (as := [.inr (.inr (some 725))]) (r := []) dM_121_1 rfl rfl rfl (Nat.le_of_ble_eq_true rfl) sk_725 rfl (Nat.le_of_ble_eq_true rfl) (EvS.up h (Nat.le_of_ble_eq_true rfl)) (fun v1 t2 hv3 => ?_)
  obtain ⟨rfl, hn⟩ := hv3
  clear h
  show GoS _ _ _ _ _ _ _ _ [(0, .inr (.inr (some 725))), (1, .inl x1)] [] t2 _
  refine gs0 5 [(0, .inr (.inr (some 725))), (1, .inl x1)] [.inr (.inr (some 725))] dM_121_4 (fun _ => rfl) (Or.inr rfl) ?_
  refine gsGetR (some 746) dM_121_5 sk_725 rfl rfl ?_
  refine gs0 9 [(0, .inr (.inr (some 725))), (1, .inl x1)] [.inr (.inr (some 725)), .inr (.inr (some 746))] dM_121_8 (fun _ => rfl) (Or.inr rfl) ?_
  refine gsGetE (t2 725 21) dM_121_9 sk_725 rfl rfl rfl ?_
  refine gs0 13 [(0, .inr (.inr (some 725))), (1, .inl x1)] [.inl 0, .inl (t2 725 21), .inr (.inr (some 746))] dM_121_12 (fun _ => rfl) (Or.inr rfl) ?_
  refine gsIastN ((t2 725 21).toNatClampNeg) dM_121_13 sk_746 hn.1 rfl ?_
  replace hn := hn.2
  refine gs0 15 [(0, .inr (.inr (some 725))), (1, .inl x1)] [.inr (.inr (some 725))] dM_121_14 (fun _ => rfl) (Or.inr rfl) ?_
  refine gsGetR (some 747) dM_121_15 sk_725 rfl rfl ?_
  refine gs0 19 [(0, .inr (.inr (some 725))), (1, .inl x1)] [.inr (.inr (some 725)), .inr (.inr (some 747))] dM_121_18 (fun _ => rfl) (Or.inr rfl) ?_
  refine gsGetE (t2 725 21) dM_121_19 sk_725 rfl rfl (congrFun (up2_nk _ _ _ (by decide)) _) ?_
  refine gs0 23 [(0, .inr (.inr (some 725))), (1, .inl x1)] [.inl 0, .inl (t2 725 21), .inr (.inr (some 747))] dM_121_22 (fun _ => rfl) (Or.inr rfl) ?_
  refine gsIastN ((t2 725 21).toNatClampNeg) dM_121_23 sk_747 hn.1 rfl ?_
  replace hn := hn.2
  refine gs0 25 [(0, .inr (.inr (some 725))), (1, .inl x1)] [.inr (.inr (some 725))] dM_121_24 (fun _ => rfl) (Or.inr rfl) ?_
  refine gsGetR (some 748) dM_121_25 sk_725 rfl rfl ?_
  refine gs0 29 [(0, .inr (.inr (some 725))), (1, .inl x1)] [.inr (.inr (some 725)), .inr (.inr (some 748))] dM_121_28 (fun _ => rfl) (Or.inr rfl) ?_
  refine gsGetE (t2 725 21) dM_121_29 sk_725 rfl rfl ((congrFun (up2_nk _ _ _ (by decide)) _).trans (congrFun (up2_nk _ _ _ (by decide)) _)) ?_
  refine gs0 33 [(0, .inr (.inr (some 725))), (1, .inl x1)] [.inl 0, .inl (t2 725 21), .inr (.inr (some 748))] dM_121_32 (fun _ => rfl) (Or.inr rfl) ?_
  refine gsIastN ((t2 725 21).toNatClampNeg) dM_121_33 sk_748 hn.1 rfl ?_
  replace hn := hn.2
  refine gs0 35 [(0, .inr (.inr (some 725))), (1, .inl x1)] [.inr (.inr (some 725))] dM_121_34 (fun _ => rfl) (Or.inr rfl) ?_
  refine gsGetR (some 749) dM_121_35 sk_725 rfl rfl ?_
  refine gs0 39 [(0, .inr (.inr (some 725))), (1, .inl x1)] [.inr (.inr (some 725)), .inr (.inr (some 749))] dM_121_38 (fun _ => rfl) (Or.inr rfl) ?_
  refine gsGetE (t2 725 21) dM_121_39 sk_725 rfl rfl ((congrFun (up2_nk _ _ _ (by decide)) _).trans ((congrFun (up2_nk _ _ _ (by decide)) _).trans (congrFun (up2_nk _ _ _ (by decide)) _))) ?_
  refine gs0 43 [(0, .inr (.inr (some 725))), (1, .inl x1)] [.inl 0, .inl (t2 725 21), .inr (.inr (some 749))] dM_121_42 (fun _ => rfl) (Or.inr rfl) ?_
  refine gsIastN ((t2 725 21).toNatClampNeg) dM_121_43 sk_749 hn.1 rfl ?_
  replace hn := hn.2
  refine gs0 45 [(0, .inr (.inr (some 725))), (1, .inl x1)] [.inr (.inr (some 725))] dM_121_44 (fun _ => rfl) (Or.inr rfl) ?_
  refine gsGetR (some 750) dM_121_45 sk_725 rfl rfl ?_
  refine gs0 49 [(0, .inr (.inr (some 725))), (1, .inl x1)] [.inr (.inr (some 725)), .inr (.inr (some 750))] dM_121_48 (fun _ => rfl) (Or.inr rfl) ?_
  refine gsGetE (t2 725 21) dM_121_49 sk_725 rfl rfl ((congrFun (up2_nk _ _ _ (by decide)) _).trans ((congrFun (up2_nk _ _ _ (by decide)) _).trans ((congrFun (up2_nk _ _ _ (by decide)) _).trans (congrFun (up2_nk _ _ _ (by decide)) _)))) ?_
  refine gs0 53 [(0, .inr (.inr (some 725))), (1, .inl x1)] [.inl 0, .inl (t2 725 21), .inr (.inr (some 750))] dM_121_52 (fun _ => rfl) (Or.inr rfl) ?_
  refine gsIastN ((t2 725 21).toNatClampNeg) dM_121_53 sk_750 hn.1 rfl ?_
  replace hn := hn.2
  refine gs0 55 [(0, .inr (.inr (some 725))), (1, .inl x1)] [.inr (.inr (some 725))] dM_121_54 (fun _ => rfl) (Or.inr rfl) ?_
  refine gsGetR (some 751) dM_121_55 sk_725 rfl rfl ?_
  refine gs0 59 [(0, .inr (.inr (some 725))), (1, .inl x1)] [.inr (.inr (some 725)), .inr (.inr (some 751))] dM_121_58 (fun _ => rfl) (Or.inr rfl) ?_
  refine gsGetE (t2 725 21) dM_121_59 sk_725 rfl rfl ((congrFun (up2_nk _ _ _ (by decide)) _).trans ((congrFun (up2_nk _ _ _ (by decide)) _).trans ((congrFun (up2_nk _ _ _ (by decide)) _).trans ((congrFun (up2_nk _ _ _ (by decide)) _).trans (congrFun (up2_nk _ _ _ (by decide)) _))))) ?_
  refine gs0 63 [(0, .inr (.inr (some 725))), (1, .inl x1)] [.inl 1, .inl (t2 725 21), .inr (.inr (some 751))] dM_121_62 (fun _ => rfl) (Or.inr rfl) ?_
  refine gsIastN ((t2 725 21).toNatClampNeg) dM_121_63 sk_751 hn.1 rfl ?_
  replace hn := hn.2
  refine gs0 65 [(0, .inr (.inr (some 725))), (1, .inl x1)] [.inr (.inr (some 725))] dM_121_64 (fun _ => rfl) (Or.inr rfl) ?_
  refine gs0 66 [(0, .inr (.inr (some 725))), (1, .inl x1)] [.inr (.inr (some 725)), .inr (.inr (some 725))] dM_121_65 (fun _ => rfl) (Or.inr rfl) ?_
  refine gs0 67 [(0, .inr (.inr (some 725))), (1, .inl x1)] [.inl x1, .inr (.inr (some 725)), .inr (.inr (some 725))] dM_121_66 (fun _ => rfl) (Or.inr rfl) ?_
  refine gs0 68 [(0, .inr (.inr (some 725))), (1, .inl x1)] [.inl 0, .inl x1, .inr (.inr (some 725)), .inr (.inr (some 725))] dM_121_67 (fun _ => rfl) (Or.inr rfl) ?_
  refine gs0 69 [(0, .inr (.inr (some 725))), (1, .inl x1)] [.inl 0, .inl 0, .inl x1, .inr (.inr (some 725)), .inr (.inr (some 725))] dM_121_68 (fun _ => rfl) (Or.inr rfl) ?_
  refine gsCallV (y := 123) (k := 725) (as := [.inr (.inr (some 725)), .inl x1, .inl 0, .inl 0]) (r := [.inr (.inr (some 725))]) dM_121_69 rfl rfl rfl (Nat.le_of_ble_eq_true rfl) sk_725 rfl (Nat.le_of_ble_eq_true rfl) (EvS.up hn (Nat.le_of_ble_eq_true rfl)) (fun v4 t5 hv6 => ?_)
  obtain ⟨n7, rfl, hnn⟩ := hv6
  clear hn
  show GoS _ _ _ _ _ _ _ _ [(0, .inr (.inr (some 725))), (1, .inl x1)] [.inl n7, .inr (.inr (some 725))] t5 _
  refine gsPut dM_121_72 sk_725 rfl rfl rfl (by decide) ?_
  refine gs0 76 [(0, .inr (.inr (some 725))), (1, .inl x1)] [.inr (.inr (some 725))] dM_121_75 (fun _ => rfl) (Or.inr rfl) ?_
  refine gs0 77 [(0, .inr (.inr (some 725))), (1, .inl x1)] [.inl 0, .inr (.inr (some 725))] dM_121_76 (fun _ => rfl) (Or.inr rfl) ?_
  refine gsPut dM_121_77 sk_725 rfl rfl rfl (by decide) ?_
  refine gs0 81 [(0, .inr (.inr (some 725))), (1, .inl x1)] [.inr (.inr (some 725))] dM_121_80 (fun _ => rfl) (Or.inr rfl) ?_
  refine gs0 83 [(0, .inr (.inr (some 725))), (1, .inl x1)] [.inl 6, .inr (.inr (some 725))] dM_121_81 (fun _ => rfl) (Or.inr rfl) ?_
  refine gsPut dM_121_83 sk_725 rfl rfl rfl (by decide) ?_
  refine gs0 87 [(0, .inr (.inr (some 725))), (1, .inl x1)] [.inr (.inr (some 725))] dM_121_86 (fun _ => rfl) (Or.inr rfl) ?_
  refine gsCallV (y := 124) (k := 725) (as := [.inr (.inr (some 725))]) (r := []) dM_121_87 rfl rfl rfl (Nat.le_of_ble_eq_true rfl) sk_725 rfl (Nat.le_of_ble_eq_true rfl) (EvS.up hnn (Nat.le_of_ble_eq_true rfl)) (fun v8 t9 hv10 => ?_)
  obtain ⟨rfl, hnnn⟩ := hv10
  clear hnn
  show GoS _ _ _ _ _ _ _ _ [(0, .inr (.inr (some 725))), (1, .inl x1)] [] t9 _
  refine gsRet (r := none) dM_121_90 (fun _ => rfl) (Or.inr rfl) ?_
  exact hnnn
def g_122_2  (y1 : Int32) (sg : rSg) (P : Option rv → rSg → Prop) : Prop := GoS rSkel 0 9 2 none false prog_11_method_20_code 2 [(0, .inr (.inr (some 725))), (1, .inl y1)] [] sg P
set_option maxRecDepth 100000 in
theorem w_122_2 (sg : rSg)  (y1 : Int32) {P : Option rv → rSg → Prop} (h :
    (128 ≤ y1 → 
      P none (up2 sg 725 16 0)) ∧
    (¬ (128 ≤ y1) → 
      (rIn y1 128 = true ∧
      g_122_2 (y1 + 1) (up2 sg 736 y1.toNatClampNeg ((-9))) P))) : g_122_2 y1 sg P := by
  show GoS rSkel 0 9 2 none false prog_11_method_20_code 2 [(0, .inr (.inr (some 725))), (1, .inl y1)] [] sg P
  refine gs0 3 [(0, .inr (.inr (some 725))), (1, .inl y1)] [.inl y1] dM_122_2 (fun _ => rfl) (Or.inr rfl) ?_
  refine gs0 6 [(0, .inr (.inr (some 725))), (1, .inl y1)] [.inl 128, .inl y1] dM_122_3 (fun _ => rfl) (Or.inr rfl) ?_
  refine gsIf (t := 23) (C := 128 ≤ y1) (r := []) dM_122_6 (fun _ => rfl) (Or.inr rfl) (rTest_iff .ge y1 128) (fun c1 => ?_) (fun c1 => ?_)
  · replace h := h.1 c1
    refine gs0 24 [(0, .inr (.inr (some 725))), (1, .inl y1)] [.inr (.inr (some 725))] dM_122_23 (fun _ => rfl) (Or.inr rfl) ?_
    refine gs0 25 [(0, .inr (.inr (some 725))), (1, .inl y1)] [.inl 0, .inr (.inr (some 725))] dM_122_24 (fun _ => rfl) (Or.inr rfl) ?_
    refine gsPut dM_122_25 sk_725 rfl rfl rfl (by decide) ?_
    refine gsRet (r := none) dM_122_28 (fun _ => rfl) (Or.inr rfl) ?_
    exact h
  · replace h := h.2 c1
    refine gs0 10 [(0, .inr (.inr (some 725))), (1, .inl y1)] [.inr (.inr (some 725))] dM_122_9 (fun _ => rfl) (Or.inr rfl) ?_
    refine gsGetR (some 736) dM_122_10 sk_725 rfl rfl ?_
    refine gs0 14 [(0, .inr (.inr (some 725))), (1, .inl y1)] [.inl y1, .inr (.inr (some 736))] dM_122_13 (fun _ => rfl) (Or.inr rfl) ?_
    refine gs0 16 [(0, .inr (.inr (some 725))), (1, .inl y1)] [.inl ((-9)), .inl y1, .inr (.inr (some 736))] dM_122_14 (fun _ => rfl) (Or.inr rfl) ?_
    refine gsIastN y1.toNatClampNeg dM_122_16 sk_736 h.1 rfl ?_
    replace h := h.2
    refine gs0 20 [(1, .inl (y1 + 1)), (0, .inr (.inr (some 725)))] [] dM_122_17 (fun _ => rfl) (Or.inr rfl) ?_
    refine gs0 2 [(1, .inl (y1 + 1)), (0, .inr (.inr (some 725)))] [] dM_122_20 (fun _ => rfl) (Or.inr rfl) ?_
    exact GoS.sub (Lnd_keys (ks := [0, 1]) rfl (by decide)) (Lsub_cons rfl (Lsub_cons rfl Lsub_nil)) h
set_option maxRecDepth 100000 in
/-- GoalsInAQueueModel.empties -/
theorem w_122 (sg : rSg)  {P : Option rv → rSg → Prop} (h :
    g_122_2 0 sg P) : EvS rSkel 1 122 [.inr (.inr (some 725))] sg P := by
  refine EvS.of (ini := false) rfl ⟨rfl, Nat.le_of_ble_eq_true rfl⟩ rfl ?_
  show GoS rSkel 0 9 2 none false prog_11_method_20_code 0 [(0, .inr (.inr (some 725)))] [] sg _
  refine gs0 1 [(0, .inr (.inr (some 725)))] [.inl 0] dM_122_0 (fun _ => rfl) (Or.inr rfl) ?_
  refine gs0 2 [(1, .inl 0), (0, .inr (.inr (some 725)))] [] dM_122_1 (fun _ => rfl) (Or.inr rfl) ?_
  exact GoS.sub (Lnd_keys (ks := [0, 1]) rfl (by decide)) (Lsub_cons rfl (Lsub_cons rfl Lsub_nil)) h
set_option maxRecDepth 100000 in
/-- GoalsInAQueueModel.list -/
theorem w_123 (sg : rSg) (x1 : Int32) (x2 : Int32) (x3 : Int32) {P : Option rv → rSg → Prop} (h :
    (rIn (sg 725 12) 20000 = true ∧
    rIn (sg 725 12) 20000 = true ∧
    rIn (sg 725 12) 20000 = true ∧
    P (some (.inl (((sg 725 12) + 1) - 1))) (up2 (up2 (up2 (up2 sg 733 ((sg 725 12).toNatClampNeg) x1) 734 ((sg 725 12).toNatClampNeg) x2) 735 ((sg 725 12).toNatClampNeg) x3) 725 12 ((sg 725 12) + 1)))) : EvS rSkel 1 123 [.inr (.inr (some 725)), .inl x1, .inl x2, .inl x3] sg P := by
  refine EvS.of (ini := false) rfl ⟨rfl, Nat.le_of_ble_eq_true rfl⟩ rfl ?_
  show GoS rSkel 0 9 4 (some .int) false prog_11_method_8_code 0 [(0, .inr (.inr (some 725))), (1, .inl x1), (2, .inl x2), (3, .inl x3)] [] sg _
  refine gs0 1 [(0, .inr (.inr (some 725))), (1, .inl x1), (2, .inl x2), (3, .inl x3)] [.inr (.inr (some 725))] dM_123_0 (fun _ => rfl) (Or.inr rfl) ?_
  refine gsGetR (some 733) dM_123_1 sk_725 rfl rfl ?_
  refine gs0 5 [(0, .inr (.inr (some 725))), (1, .inl x1), (2, .inl x2), (3, .inl x3)] [.inr (.inr (some 725)), .inr (.inr (some 733))] dM_123_4 (fun _ => rfl) (Or.inr rfl) ?_
  refine gsGetE (sg 725 12) dM_123_5 sk_725 rfl rfl rfl ?_
  refine gs0 9 [(0, .inr (.inr (some 725))), (1, .inl x1), (2, .inl x2), (3, .inl x3)] [.inl x1, .inl (sg 725 12), .inr (.inr (some 733))] dM_123_8 (fun _ => rfl) (Or.inr rfl) ?_
  refine gsIastN ((sg 725 12).toNatClampNeg) dM_123_9 sk_733 h.1 rfl ?_
  replace h := h.2
  refine gs0 11 [(0, .inr (.inr (some 725))), (1, .inl x1), (2, .inl x2), (3, .inl x3)] [.inr (.inr (some 725))] dM_123_10 (fun _ => rfl) (Or.inr rfl) ?_
  refine gsGetR (some 734) dM_123_11 sk_725 rfl rfl ?_
  refine gs0 15 [(0, .inr (.inr (some 725))), (1, .inl x1), (2, .inl x2), (3, .inl x3)] [.inr (.inr (some 725)), .inr (.inr (some 734))] dM_123_14 (fun _ => rfl) (Or.inr rfl) ?_
  refine gsGetE (sg 725 12) dM_123_15 sk_725 rfl rfl (congrFun (up2_nk _ _ _ (by decide)) _) ?_
  refine gs0 19 [(0, .inr (.inr (some 725))), (1, .inl x1), (2, .inl x2), (3, .inl x3)] [.inl x2, .inl (sg 725 12), .inr (.inr (some 734))] dM_123_18 (fun _ => rfl) (Or.inr rfl) ?_
  refine gsIastN ((sg 725 12).toNatClampNeg) dM_123_19 sk_734 h.1 rfl ?_
  replace h := h.2
  refine gs0 21 [(0, .inr (.inr (some 725))), (1, .inl x1), (2, .inl x2), (3, .inl x3)] [.inr (.inr (some 725))] dM_123_20 (fun _ => rfl) (Or.inr rfl) ?_
  refine gsGetR (some 735) dM_123_21 sk_725 rfl rfl ?_
  refine gs0 25 [(0, .inr (.inr (some 725))), (1, .inl x1), (2, .inl x2), (3, .inl x3)] [.inr (.inr (some 725)), .inr (.inr (some 735))] dM_123_24 (fun _ => rfl) (Or.inr rfl) ?_
  refine gsGetE (sg 725 12) dM_123_25 sk_725 rfl rfl ((congrFun (up2_nk _ _ _ (by decide)) _).trans (congrFun (up2_nk _ _ _ (by decide)) _)) ?_
  refine gs0 29 [(0, .inr (.inr (some 725))), (1, .inl x1), (2, .inl x2), (3, .inl x3)] [.inl x3, .inl (sg 725 12), .inr (.inr (some 735))] dM_123_28 (fun _ => rfl) (Or.inr rfl) ?_
  refine gsIastN ((sg 725 12).toNatClampNeg) dM_123_29 sk_735 h.1 rfl ?_
  replace h := h.2
  refine gs0 31 [(0, .inr (.inr (some 725))), (1, .inl x1), (2, .inl x2), (3, .inl x3)] [.inr (.inr (some 725))] dM_123_30 (fun _ => rfl) (Or.inr rfl) ?_
  refine gs0 32 [(0, .inr (.inr (some 725))), (1, .inl x1), (2, .inl x2), (3, .inl x3)] [.inr (.inr (some 725)), .inr (.inr (some 725))] dM_123_31 (fun _ => rfl) (Or.inr rfl) ?_
  refine gsGetE (sg 725 12) dM_123_32 sk_725 rfl rfl ((congrFun (up2_nk _ _ _ (by decide)) _).trans ((congrFun (up2_nk _ _ _ (by decide)) _).trans (congrFun (up2_nk _ _ _ (by decide)) _))) ?_
  refine gs0 36 [(0, .inr (.inr (some 725))), (1, .inl x1), (2, .inl x2), (3, .inl x3)] [.inl 1, .inl (sg 725 12), .inr (.inr (some 725))] dM_123_35 (fun _ => rfl) (Or.inr rfl) ?_
  refine gs0 37 [(0, .inr (.inr (some 725))), (1, .inl x1), (2, .inl x2), (3, .inl x3)] [.inl ((sg 725 12) + 1), .inr (.inr (some 725))] dM_123_36 (fun _ => rfl) (Or.inr rfl) ?_
  refine gsPut dM_123_37 sk_725 rfl rfl rfl (by decide) ?_
  refine gs0 41 [(0, .inr (.inr (some 725))), (1, .inl x1), (2, .inl x2), (3, .inl x3)] [.inr (.inr (some 725))] dM_123_40 (fun _ => rfl) (Or.inr rfl) ?_
  refine gsGetE ((sg 725 12) + 1) dM_123_41 sk_725 rfl rfl (up2_same _ _ _ _) ?_
  refine gs0 45 [(0, .inr (.inr (some 725))), (1, .inl x1), (2, .inl x2), (3, .inl x3)] [.inl 1, .inl ((sg 725 12) + 1)] dM_123_44 (fun _ => rfl) (Or.inr rfl) ?_
  refine gs0 46 [(0, .inr (.inr (some 725))), (1, .inl x1), (2, .inl x2), (3, .inl x3)] [.inl (((sg 725 12) + 1) - 1)] dM_123_45 (fun _ => rfl) (Or.inr rfl) ?_
  refine gsRet (r := some (.inl (((sg 725 12) + 1) - 1))) dM_123_46 (fun _ => rfl) (Or.inr rfl) ?_
  exact h
def g_124_53  (y1 : Int32) (y2 : Int32) (sg : rSg) (P : Option rv → rSg → Prop) : Prop := GoS rSkel 1 9 3 none false prog_11_method_23_code 53 [(0, .inr (.inr (some 725))), (1, .inl y1), (2, .inl y2)] [] sg P
set_option maxRecDepth 100000 in
theorem w_124_53 (sg : rSg)  (y1 : Int32) (y2 : Int32) {P : Option rv → rSg → Prop} (h :
    (64 ≤ y2 → 
      (rIn y1 84 = true ∧
      rIn y1 84 = true ∧
      rIn y1 84 = true ∧
      rIn (sg 725 21) 2 = true ∧
      rIn (sg 725 21) 2 = true ∧
      P none (up2 (up2 (up2 (up2 sg 740 y1.toNatClampNeg (sg 725 18)) 741 y1.toNatClampNeg (sg 725 19)) 742 y1.toNatClampNeg (sg 725 20)) 747 ((sg 725 21).toNatClampNeg) ((sg 747 ((sg 725 21).toNatClampNeg)) + 1)))) ∧
    (¬ (64 ≤ y2) → 
      (rIn y2 128 = true ∧
      rIn ((64 * y1) + y2) 5376 = true ∧
      g_124_53 y1 (y2 + 1) (up2 sg 739 (((64 * y1) + y2).toNatClampNeg) (sg 736 y2.toNatClampNeg)) P))) : g_124_53 y1 y2 sg P := by
  show GoS rSkel 1 9 3 none false prog_11_method_23_code 53 [(0, .inr (.inr (some 725))), (1, .inl y1), (2, .inl y2)] [] sg P
  refine gs0 54 [(0, .inr (.inr (some 725))), (1, .inl y1), (2, .inl y2)] [.inl y2] dM_124_53 (fun _ => rfl) (Or.inr rfl) ?_
  refine gs0 56 [(0, .inr (.inr (some 725))), (1, .inl y1), (2, .inl y2)] [.inl 64, .inl y2] dM_124_54 (fun _ => rfl) (Or.inr rfl) ?_
  refine gsIf (t := 82) (C := 64 ≤ y2) (r := []) dM_124_56 (fun _ => rfl) (Or.inr rfl) (rTest_iff .ge y2 64) (fun c7 => ?_) (fun c7 => ?_)
  · replace h := h.1 c7
    refine gs0 83 [(0, .inr (.inr (some 725))), (1, .inl y1), (2, .inl y2)] [.inr (.inr (some 725))] dM_124_82 (fun _ => rfl) (Or.inr rfl) ?_
    refine gsGetR (some 740) dM_124_83 sk_725 rfl rfl ?_
    refine gs0 87 [(0, .inr (.inr (some 725))), (1, .inl y1), (2, .inl y2)] [.inl y1, .inr (.inr (some 740))] dM_124_86 (fun _ => rfl) (Or.inr rfl) ?_
    refine gs0 88 [(0, .inr (.inr (some 725))), (1, .inl y1), (2, .inl y2)] [.inr (.inr (some 725)), .inl y1, .inr (.inr (some 740))] dM_124_87 (fun _ => rfl) (Or.inr rfl) ?_
    refine gsGetE (sg 725 18) dM_124_88 sk_725 rfl rfl rfl ?_
    refine gsIastN y1.toNatClampNeg dM_124_91 sk_740 h.1 rfl ?_
    replace h := h.2
    refine gs0 93 [(0, .inr (.inr (some 725))), (1, .inl y1), (2, .inl y2)] [.inr (.inr (some 725))] dM_124_92 (fun _ => rfl) (Or.inr rfl) ?_
    refine gsGetR (some 741) dM_124_93 sk_725 rfl rfl ?_
    refine gs0 97 [(0, .inr (.inr (some 725))), (1, .inl y1), (2, .inl y2)] [.inl y1, .inr (.inr (some 741))] dM_124_96 (fun _ => rfl) (Or.inr rfl) ?_
    refine gs0 98 [(0, .inr (.inr (some 725))), (1, .inl y1), (2, .inl y2)] [.inr (.inr (some 725)), .inl y1, .inr (.inr (some 741))] dM_124_97 (fun _ => rfl) (Or.inr rfl) ?_
    refine gsGetE (sg 725 19) dM_124_98 sk_725 rfl rfl (congrFun (up2_nk _ _ _ (by decide)) _) ?_
    refine gsIastN y1.toNatClampNeg dM_124_101 sk_741 h.1 rfl ?_
    replace h := h.2
    refine gs0 103 [(0, .inr (.inr (some 725))), (1, .inl y1), (2, .inl y2)] [.inr (.inr (some 725))] dM_124_102 (fun _ => rfl) (Or.inr rfl) ?_
    refine gsGetR (some 742) dM_124_103 sk_725 rfl rfl ?_
    refine gs0 107 [(0, .inr (.inr (some 725))), (1, .inl y1), (2, .inl y2)] [.inl y1, .inr (.inr (some 742))] dM_124_106 (fun _ => rfl) (Or.inr rfl) ?_
    refine gs0 108 [(0, .inr (.inr (some 725))), (1, .inl y1), (2, .inl y2)] [.inr (.inr (some 725)), .inl y1, .inr (.inr (some 742))] dM_124_107 (fun _ => rfl) (Or.inr rfl) ?_
    refine gsGetE (sg 725 20) dM_124_108 sk_725 rfl rfl ((congrFun (up2_nk _ _ _ (by decide)) _).trans (congrFun (up2_nk _ _ _ (by decide)) _)) ?_
    refine gsIastN y1.toNatClampNeg dM_124_111 sk_742 h.1 rfl ?_
    replace h := h.2
    refine gs0 113 [(0, .inr (.inr (some 725))), (1, .inl y1), (2, .inl y2)] [.inr (.inr (some 725))] dM_124_112 (fun _ => rfl) (Or.inr rfl) ?_
    refine gsGetR (some 747) dM_124_113 sk_725 rfl rfl ?_
    refine gs0 117 [(0, .inr (.inr (some 725))), (1, .inl y1), (2, .inl y2)] [.inr (.inr (some 725)), .inr (.inr (some 747))] dM_124_116 (fun _ => rfl) (Or.inr rfl) ?_
    refine gsGetE (sg 725 21) dM_124_117 sk_725 rfl rfl ((congrFun (up2_nk _ _ _ (by decide)) _).trans ((congrFun (up2_nk _ _ _ (by decide)) _).trans (congrFun (up2_nk _ _ _ (by decide)) _))) ?_
    refine gs0 121 [(0, .inr (.inr (some 725))), (1, .inl y1), (2, .inl y2)] [.inl (sg 725 21), .inr (.inr (some 747)), .inl (sg 725 21), .inr (.inr (some 747))] dM_124_120 (fun _ => rfl) (Or.inr rfl) ?_
    refine gsIaldN ((sg 725 21).toNatClampNeg) (sg 747 ((sg 725 21).toNatClampNeg)) dM_124_121 sk_747 h.1 rfl ((congrFun (up2_nk _ _ _ (by decide)) _).trans ((congrFun (up2_nk _ _ _ (by decide)) _).trans (congrFun (up2_nk _ _ _ (by decide)) _))) ?_
    replace h := h.2
    refine gs0 123 [(0, .inr (.inr (some 725))), (1, .inl y1), (2, .inl y2)] [.inl 1, .inl (sg 747 ((sg 725 21).toNatClampNeg)), .inl (sg 725 21), .inr (.inr (some 747))] dM_124_122 (fun _ => rfl) (Or.inr rfl) ?_
    refine gs0 124 [(0, .inr (.inr (some 725))), (1, .inl y1), (2, .inl y2)] [.inl ((sg 747 ((sg 725 21).toNatClampNeg)) + 1), .inl (sg 725 21), .inr (.inr (some 747))] dM_124_123 (fun _ => rfl) (Or.inr rfl) ?_
    refine gsIastN ((sg 725 21).toNatClampNeg) dM_124_124 sk_747 h.1 rfl ?_
    replace h := h.2
    refine gsRet (r := none) dM_124_125 (fun _ => rfl) (Or.inr rfl) ?_
    exact h
  · replace h := h.2 c7
    refine gs0 60 [(0, .inr (.inr (some 725))), (1, .inl y1), (2, .inl y2)] [.inr (.inr (some 725))] dM_124_59 (fun _ => rfl) (Or.inr rfl) ?_
    refine gsGetR (some 739) dM_124_60 sk_725 rfl rfl ?_
    refine gs0 65 [(0, .inr (.inr (some 725))), (1, .inl y1), (2, .inl y2)] [.inl 64, .inr (.inr (some 739))] dM_124_63 (fun _ => rfl) (Or.inr rfl) ?_
    refine gs0 66 [(0, .inr (.inr (some 725))), (1, .inl y1), (2, .inl y2)] [.inl y1, .inl 64, .inr (.inr (some 739))] dM_124_65 (fun _ => rfl) (Or.inr rfl) ?_
    refine gs0 67 [(0, .inr (.inr (some 725))), (1, .inl y1), (2, .inl y2)] [.inl (64 * y1), .inr (.inr (some 739))] dM_124_66 (fun _ => rfl) (Or.inr rfl) ?_
    refine gs0 68 [(0, .inr (.inr (some 725))), (1, .inl y1), (2, .inl y2)] [.inl y2, .inl (64 * y1), .inr (.inr (some 739))] dM_124_67 (fun _ => rfl) (Or.inr rfl) ?_
    refine gs0 69 [(0, .inr (.inr (some 725))), (1, .inl y1), (2, .inl y2)] [.inl ((64 * y1) + y2), .inr (.inr (some 739))] dM_124_68 (fun _ => rfl) (Or.inr rfl) ?_
    refine gs0 70 [(0, .inr (.inr (some 725))), (1, .inl y1), (2, .inl y2)] [.inr (.inr (some 725)), .inl ((64 * y1) + y2), .inr (.inr (some 739))] dM_124_69 (fun _ => rfl) (Or.inr rfl) ?_
    refine gsGetR (some 736) dM_124_70 sk_725 rfl rfl ?_
    refine gs0 74 [(0, .inr (.inr (some 725))), (1, .inl y1), (2, .inl y2)] [.inl y2, .inr (.inr (some 736)), .inl ((64 * y1) + y2), .inr (.inr (some 739))] dM_124_73 (fun _ => rfl) (Or.inr rfl) ?_
    refine gsIaldN y2.toNatClampNeg (sg 736 y2.toNatClampNeg) dM_124_74 sk_736 h.1 rfl rfl ?_
    replace h := h.2
    refine gsIastN (((64 * y1) + y2).toNatClampNeg) dM_124_75 sk_739 h.1 rfl ?_
    replace h := h.2
    refine gs0 79 [(2, .inl (y2 + 1)), (0, .inr (.inr (some 725))), (1, .inl y1)] [] dM_124_76 (fun _ => rfl) (Or.inr rfl) ?_
    refine gs0 53 [(2, .inl (y2 + 1)), (0, .inr (.inr (some 725))), (1, .inl y1)] [] dM_124_79 (fun _ => rfl) (Or.inr rfl) ?_
    exact GoS.sub (Lnd_keys (ks := [0, 1, 2]) rfl (by decide)) (Lsub_cons rfl (Lsub_cons rfl (Lsub_cons rfl Lsub_nil))) h
set_option maxRecDepth 100000 in
/-- GoalsInAQueueModel.waits -/
theorem w_124 (sg : rSg)  {P : Option rv → rSg → Prop} (h :
    (60 < (sg 725 20) → 
      (rIn (sg 725 21) 2 = true ∧
      rIn (sg 725 21) 2 = true ∧
      P none (up2 sg 750 ((sg 725 21).toNatClampNeg) ((sg 750 ((sg 725 21).toNatClampNeg)) + 1)))) ∧
    (¬ (60 < (sg 725 20)) → 
      (rIn (sg 725 21) 2 = true ∧
      ((sg 747 ((sg 725 21).toNatClampNeg)) < 40 → 
        (rIn (sg 725 21) 2 = true ∧
        EvS rSkel 1 125 [.inr (.inr (some 725)), .inl (sg 747 ((sg 725 21).toNatClampNeg))] sg (fun v3 t4 => ∃ n6, v3 = some (.inl n6) ∧
          g_124_53 n6 0 t4 P))) ∧
      (¬ ((sg 747 ((sg 725 21).toNatClampNeg)) < 40) → 
        (rIn (sg 725 21) 2 = true ∧
        rIn (sg 725 21) 2 = true ∧
        P none (up2 sg 750 ((sg 725 21).toNatClampNeg) ((sg 750 ((sg 725 21).toNatClampNeg)) + 1))))))) : EvS rSkel 2 124 [.inr (.inr (some 725))] sg P := by
  refine EvS.of (ini := false) rfl ⟨rfl, Nat.le_of_ble_eq_true rfl⟩ rfl ?_
  show GoS rSkel 1 9 3 none false prog_11_method_23_code 0 [(0, .inr (.inr (some 725)))] [] sg _
  refine gs0 1 [(0, .inr (.inr (some 725)))] [.inr (.inr (some 725))] dM_124_0 (fun _ => rfl) (Or.inr rfl) ?_
  refine gsGetE (sg 725 20) dM_124_1 sk_725 rfl rfl rfl ?_
  refine gs0 6 [(0, .inr (.inr (some 725)))] [.inl 60, .inl (sg 725 20)] dM_124_4 (fun _ => rfl) (Or.inr rfl) ?_
  refine gsIf (t := 23) (C := 60 < (sg 725 20)) (r := []) dM_124_6 (fun _ => rfl) (Or.inr rfl) (rTest_iff .gt (sg 725 20) 60) (fun c1 => ?_) (fun c1 => ?_)
  · replace h := h.1 c1
    refine gs0 24 [(0, .inr (.inr (some 725)))] [.inr (.inr (some 725))] dM_124_23 (fun _ => rfl) (Or.inr rfl) ?_
    refine gsGetR (some 750) dM_124_24 sk_725 rfl rfl ?_
    refine gs0 28 [(0, .inr (.inr (some 725)))] [.inr (.inr (some 725)), .inr (.inr (some 750))] dM_124_27 (fun _ => rfl) (Or.inr rfl) ?_
    refine gsGetE (sg 725 21) dM_124_28 sk_725 rfl rfl rfl ?_
    refine gs0 32 [(0, .inr (.inr (some 725)))] [.inl (sg 725 21), .inr (.inr (some 750)), .inl (sg 725 21), .inr (.inr (some 750))] dM_124_31 (fun _ => rfl) (Or.inr rfl) ?_
    refine gsIaldN ((sg 725 21).toNatClampNeg) (sg 750 ((sg 725 21).toNatClampNeg)) dM_124_32 sk_750 h.1 rfl rfl ?_
    replace h := h.2
    refine gs0 34 [(0, .inr (.inr (some 725)))] [.inl 1, .inl (sg 750 ((sg 725 21).toNatClampNeg)), .inl (sg 725 21), .inr (.inr (some 750))] dM_124_33 (fun _ => rfl) (Or.inr rfl) ?_
    refine gs0 35 [(0, .inr (.inr (some 725)))] [.inl ((sg 750 ((sg 725 21).toNatClampNeg)) + 1), .inl (sg 725 21), .inr (.inr (some 750))] dM_124_34 (fun _ => rfl) (Or.inr rfl) ?_
    refine gsIastN ((sg 725 21).toNatClampNeg) dM_124_35 sk_750 h.1 rfl ?_
    replace h := h.2
    refine gsRet (r := none) dM_124_36 (fun _ => rfl) (Or.inr rfl) ?_
    exact h
  · replace h := h.2 c1
    refine gs0 10 [(0, .inr (.inr (some 725)))] [.inr (.inr (some 725))] dM_124_9 (fun _ => rfl) (Or.inr rfl) ?_
    refine gsGetR (some 747) dM_124_10 sk_725 rfl rfl ?_
    refine gs0 14 [(0, .inr (.inr (some 725)))] [.inr (.inr (some 725)), .inr (.inr (some 747))] dM_124_13 (fun _ => rfl) (Or.inr rfl) ?_
    refine gsGetE (sg 725 21) dM_124_14 sk_725 rfl rfl rfl ?_
    refine gsIaldN ((sg 725 21).toNatClampNeg) (sg 747 ((sg 725 21).toNatClampNeg)) dM_124_17 sk_747 h.1 rfl rfl ?_
    replace h := h.2
    refine gs0 20 [(0, .inr (.inr (some 725)))] [.inl 40, .inl (sg 747 ((sg 725 21).toNatClampNeg))] dM_124_18 (fun _ => rfl) (Or.inr rfl) ?_
    refine gsIf (t := 37) (C := (sg 747 ((sg 725 21).toNatClampNeg)) < 40) (r := []) dM_124_20 (fun _ => rfl) (Or.inr rfl) (rTest_iff .lt (sg 747 ((sg 725 21).toNatClampNeg)) 40) (fun c2 => ?_) (fun c2 => ?_)
    · replace h := h.1 c2
      refine gs0 38 [(0, .inr (.inr (some 725)))] [.inr (.inr (some 725))] dM_124_37 (fun _ => rfl) (Or.inr rfl) ?_
      refine gs0 39 [(0, .inr (.inr (some 725)))] [.inr (.inr (some 725)), .inr (.inr (some 725))] dM_124_38 (fun _ => rfl) (Or.inr rfl) ?_
      refine gsGetR (some 747) dM_124_39 sk_725 rfl rfl ?_
      refine gs0 43 [(0, .inr (.inr (some 725)))] [.inr (.inr (some 725)), .inr (.inr (some 747)), .inr (.inr (some 725))] dM_124_42 (fun _ => rfl) (Or.inr rfl) ?_
      refine gsGetE (sg 725 21) dM_124_43 sk_725 rfl rfl rfl ?_
      refine gsIaldN ((sg 725 21).toNatClampNeg) (sg 747 ((sg 725 21).toNatClampNeg)) dM_124_46 sk_747 h.1 rfl rfl ?_
      replace h := h.2
      refine gsCallV (y := 125) (k := 725) (as := [.inr (.inr (some 725)), .inl (sg 747 ((sg 725 21).toNatClampNeg))]) (r := []) dM_124_47 rfl rfl rfl (Nat.le_of_ble_eq_true rfl) sk_725 rfl (Nat.le_of_ble_eq_true rfl) (EvS.up h (Nat.le_of_ble_eq_true rfl)) (fun v3 t4 hv5 => ?_)
      obtain ⟨n6, rfl, hn⟩ := hv5
      clear h
      show GoS _ _ _ _ _ _ _ _ [(0, .inr (.inr (some 725)))] [.inl n6] t4 _
      refine gs0 51 [(1, .inl n6), (0, .inr (.inr (some 725)))] [] dM_124_50 (fun _ => rfl) (Or.inr rfl) ?_
      refine gs0 52 [(1, .inl n6), (0, .inr (.inr (some 725)))] [.inl 0] dM_124_51 (fun _ => rfl) (Or.inr rfl) ?_
      refine gs0 53 [(2, .inl 0), (1, .inl n6), (0, .inr (.inr (some 725)))] [] dM_124_52 (fun _ => rfl) (Or.inr rfl) ?_
      exact GoS.sub (Lnd_keys (ks := [0, 1, 2]) rfl (by decide)) (Lsub_cons rfl (Lsub_cons rfl (Lsub_cons rfl Lsub_nil))) hn
    · replace h := h.2 c2
      refine gs0 24 [(0, .inr (.inr (some 725)))] [.inr (.inr (some 725))] dM_124_23 (fun _ => rfl) (Or.inr rfl) ?_
      refine gsGetR (some 750) dM_124_24 sk_725 rfl rfl ?_
      refine gs0 28 [(0, .inr (.inr (some 725)))] [.inr (.inr (some 725)), .inr (.inr (some 750))] dM_124_27 (fun _ => rfl) (Or.inr rfl) ?_
      refine gsGetE (sg 725 21) dM_124_28 sk_725 rfl rfl rfl ?_
      refine gs0 32 [(0, .inr (.inr (some 725)))] [.inl (sg 725 21), .inr (.inr (some 750)), .inl (sg 725 21), .inr (.inr (some 750))] dM_124_31 (fun _ => rfl) (Or.inr rfl) ?_
      refine gsIaldN ((sg 725 21).toNatClampNeg) (sg 750 ((sg 725 21).toNatClampNeg)) dM_124_32 sk_750 h.1 rfl rfl ?_
      replace h := h.2
      refine gs0 34 [(0, .inr (.inr (some 725)))] [.inl 1, .inl (sg 750 ((sg 725 21).toNatClampNeg)), .inl (sg 725 21), .inr (.inr (some 750))] dM_124_33 (fun _ => rfl) (Or.inr rfl) ?_
      refine gs0 35 [(0, .inr (.inr (some 725)))] [.inl ((sg 750 ((sg 725 21).toNatClampNeg)) + 1), .inl (sg 725 21), .inr (.inr (some 750))] dM_124_34 (fun _ => rfl) (Or.inr rfl) ?_
      refine gsIastN ((sg 725 21).toNatClampNeg) dM_124_35 sk_750 h.1 rfl ?_
      replace h := h.2
      refine gsRet (r := none) dM_124_36 (fun _ => rfl) (Or.inr rfl) ?_
      exact h
set_option maxRecDepth 100000 in
/-- GoalsInAQueueModel.slot -/
theorem w_125 (sg : rSg) (x1 : Int32) {P : Option rv → rSg → Prop} (h :
    (rIn (sg 725 21) 2 = true ∧
    P (some (.inl ((42 * (sg 725 21)) + (irem ((sg 746 ((sg 725 21).toNatClampNeg)) + x1) 42)))) sg)) : EvS rSkel 1 125 [.inr (.inr (some 725)), .inl x1] sg P := by
  refine EvS.of (ini := false) rfl ⟨rfl, Nat.le_of_ble_eq_true rfl⟩ rfl ?_
  show GoS rSkel 0 9 2 (some .int) false prog_11_method_21_code 0 [(0, .inr (.inr (some 725))), (1, .inl x1)] [] sg _
  refine gs0 2 [(0, .inr (.inr (some 725))), (1, .inl x1)] [.inl 42] dM_125_0 (fun _ => rfl) (Or.inr rfl) ?_
  refine gs0 3 [(0, .inr (.inr (some 725))), (1, .inl x1)] [.inr (.inr (some 725)), .inl 42] dM_125_2 (fun _ => rfl) (Or.inr rfl) ?_
  refine gsGetE (sg 725 21) dM_125_3 sk_725 rfl rfl rfl ?_
  refine gs0 7 [(0, .inr (.inr (some 725))), (1, .inl x1)] [.inl (42 * (sg 725 21))] dM_125_6 (fun _ => rfl) (Or.inr rfl) ?_
  refine gs0 8 [(0, .inr (.inr (some 725))), (1, .inl x1)] [.inr (.inr (some 725)), .inl (42 * (sg 725 21))] dM_125_7 (fun _ => rfl) (Or.inr rfl) ?_
  refine gsGetR (some 746) dM_125_8 sk_725 rfl rfl ?_
  refine gs0 12 [(0, .inr (.inr (some 725))), (1, .inl x1)] [.inr (.inr (some 725)), .inr (.inr (some 746)), .inl (42 * (sg 725 21))] dM_125_11 (fun _ => rfl) (Or.inr rfl) ?_
  refine gsGetE (sg 725 21) dM_125_12 sk_725 rfl rfl rfl ?_
  refine gsIaldN ((sg 725 21).toNatClampNeg) (sg 746 ((sg 725 21).toNatClampNeg)) dM_125_15 sk_746 h.1 rfl rfl ?_
  replace h := h.2
  refine gs0 17 [(0, .inr (.inr (some 725))), (1, .inl x1)] [.inl x1, .inl (sg 746 ((sg 725 21).toNatClampNeg)), .inl (42 * (sg 725 21))] dM_125_16 (fun _ => rfl) (Or.inr rfl) ?_
  refine gs0 18 [(0, .inr (.inr (some 725))), (1, .inl x1)] [.inl ((sg 746 ((sg 725 21).toNatClampNeg)) + x1), .inl (42 * (sg 725 21))] dM_125_17 (fun _ => rfl) (Or.inr rfl) ?_
  refine gs0 20 [(0, .inr (.inr (some 725))), (1, .inl x1)] [.inl 42, .inl ((sg 746 ((sg 725 21).toNatClampNeg)) + x1), .inl (42 * (sg 725 21))] dM_125_18 (fun _ => rfl) (Or.inr rfl) ?_
  refine gs0 21 [(0, .inr (.inr (some 725))), (1, .inl x1)] [.inl (irem ((sg 746 ((sg 725 21).toNatClampNeg)) + x1) 42), .inl (42 * (sg 725 21))] dM_125_20 (fun _ => rfl) (Or.inr rfl) ?_
  refine gs0 22 [(0, .inr (.inr (some 725))), (1, .inl x1)] [.inl ((42 * (sg 725 21)) + (irem ((sg 746 ((sg 725 21).toNatClampNeg)) + x1) 42))] dM_125_21 (fun _ => rfl) (Or.inr rfl) ?_
  refine gsRet (r := some (.inl ((42 * (sg 725 21)) + (irem ((sg 746 ((sg 725 21).toNatClampNeg)) + x1) 42)))) dM_125_22 (fun _ => rfl) (Or.inr rfl) ?_
  exact h
set_option maxRecDepth 100000 in
/-- GoalsInAQueueModel.letter -/
theorem w_126 (sg : rSg) (x1 : Int32) {P : Option rv → rSg → Prop} (h :
    EvS rSkel 1 127 [.inl x1, .inl 0, .inl 255] sg (fun v1 t2 => ∃ n4, v1 = some (.inl n4) ∧
      (¬ n4 = 0 → 
        (n4 = 0 → 
          (rIn (t2 725 39) 96 = true ∧
          P (some (.inl ((t2 725 39) + 1))) (up2 (up2 t2 752 ((t2 725 39).toNatClampNeg) x1) 725 39 ((t2 725 39) + 1)))) ∧
        (¬ (n4 = 0) → 
          EvS rSkel 1 128 [.inr (.inr (some 725)), .inl n4] t2 (fun v7 t8 => ∃ n10, v7 = some (.inl n10) ∧
            P (some (.inl n10)) t8))) ∧
      (¬ (¬ n4 = 0) → 
        (¬ (t2 725 39) = 96 → 
          (n4 = 0 → 
            (rIn (t2 725 39) 96 = true ∧
            P (some (.inl ((t2 725 39) + 1))) (up2 (up2 t2 752 ((t2 725 39).toNatClampNeg) x1) 725 39 ((t2 725 39) + 1)))) ∧
          (¬ (n4 = 0) → 
            EvS rSkel 1 128 [.inr (.inr (some 725)), .inl n4] t2 (fun v13 t14 => ∃ n16, v13 = some (.inl n16) ∧
              P (some (.inl n16)) t14))) ∧
        (¬ (¬ (t2 725 39) = 96) → 
          EvS rSkel 1 128 [.inr (.inr (some 725)), .inl ((-6))] t2 (fun v18 t19 => ∃ n21, v18 = some (.inl n21) ∧
            P (some (.inl n21)) t19))))) : EvS rSkel 2 126 [.inr (.inr (some 725)), .inl x1] sg P := by
  refine EvS.of (ini := false) rfl ⟨rfl, Nat.le_of_ble_eq_true rfl⟩ rfl ?_
  show GoS rSkel 1 9 3 (some .int) false prog_11_method_37_code 0 [(0, .inr (.inr (some 725))), (1, .inl x1)] [] sg _
  refine gs0 1 [(0, .inr (.inr (some 725))), (1, .inl x1)] [.inl x1] dM_126_0 (fun _ => rfl) (Or.inr rfl) ?_
  refine gs0 2 [(0, .inr (.inr (some 725))), (1, .inl x1)] [.inl 0, .inl x1] dM_126_1 (fun _ => rfl) (Or.inr rfl) ?_
  refine gs0 5 [(0, .inr (.inr (some 725))), (1, .inl x1)] [.inl 255, .inl 0, .inl x1] dM_126_2 (fun _ => rfl) (Or.inr rfl) ?_
  refine gsCallS (y := 127) (as := [.inl x1, .inl 0, .inl 255]) (r := []) dM_126_5 rfl (Or.inl rfl) rfl rfl (Nat.le_of_ble_eq_true rfl) (EvS.up h (Nat.le_of_ble_eq_true rfl)) (fun v1 t2 hv3 => ?_)
  obtain ⟨n4, rfl, hn⟩ := hv3
  clear h
  show GoS _ _ _ _ _ _ _ _ [(0, .inr (.inr (some 725))), (1, .inl x1)] [.inl n4] t2 _
  refine gs0 9 [(2, .inl n4), (0, .inr (.inr (some 725))), (1, .inl x1)] [] dM_126_8 (fun _ => rfl) (Or.inr rfl) ?_
  refine gs0 10 [(2, .inl n4), (0, .inr (.inr (some 725))), (1, .inl x1)] [.inl n4] dM_126_9 (fun _ => rfl) (Or.inr rfl) ?_
  refine gsIf (t := 25) (C := ¬ n4 = 0) (r := []) dM_126_10 (fun _ => rfl) (Or.inr rfl) (rTest_iff .ne n4 0) (fun c5 => ?_) (fun c5 => ?_)
  · replace hn := hn.1 c5
    refine gs0 26 [(2, .inl n4), (0, .inr (.inr (some 725))), (1, .inl x1)] [.inl n4] dM_126_25 (fun _ => rfl) (Or.inr rfl) ?_
    refine gsIf (t := 35) (C := n4 = 0) (r := []) dM_126_26 (fun _ => rfl) (Or.inr rfl) (rTest_iff .eq n4 0) (fun c6 => ?_) (fun c6 => ?_)
    · replace hn := hn.1 c6
      refine gs0 36 [(2, .inl n4), (0, .inr (.inr (some 725))), (1, .inl x1)] [.inr (.inr (some 725))] dM_126_35 (fun _ => rfl) (Or.inr rfl) ?_
      refine gsGetR (some 752) dM_126_36 sk_725 rfl rfl ?_
      refine gs0 40 [(2, .inl n4), (0, .inr (.inr (some 725))), (1, .inl x1)] [.inr (.inr (some 725)), .inr (.inr (some 752))] dM_126_39 (fun _ => rfl) (Or.inr rfl) ?_
      refine gsGetE (t2 725 39) dM_126_40 sk_725 rfl rfl rfl ?_
      refine gs0 44 [(2, .inl n4), (0, .inr (.inr (some 725))), (1, .inl x1)] [.inl x1, .inl (t2 725 39), .inr (.inr (some 752))] dM_126_43 (fun _ => rfl) (Or.inr rfl) ?_
      refine gsIastN ((t2 725 39).toNatClampNeg) dM_126_44 sk_752 hn.1 rfl ?_
      replace hn := hn.2
      refine gs0 46 [(2, .inl n4), (0, .inr (.inr (some 725))), (1, .inl x1)] [.inr (.inr (some 725))] dM_126_45 (fun _ => rfl) (Or.inr rfl) ?_
      refine gs0 47 [(2, .inl n4), (0, .inr (.inr (some 725))), (1, .inl x1)] [.inr (.inr (some 725)), .inr (.inr (some 725))] dM_126_46 (fun _ => rfl) (Or.inr rfl) ?_
      refine gsGetE (t2 725 39) dM_126_47 sk_725 rfl rfl (congrFun (up2_nk _ _ _ (by decide)) _) ?_
      refine gs0 51 [(2, .inl n4), (0, .inr (.inr (some 725))), (1, .inl x1)] [.inl 1, .inl (t2 725 39), .inr (.inr (some 725))] dM_126_50 (fun _ => rfl) (Or.inr rfl) ?_
      refine gs0 52 [(2, .inl n4), (0, .inr (.inr (some 725))), (1, .inl x1)] [.inl ((t2 725 39) + 1), .inr (.inr (some 725))] dM_126_51 (fun _ => rfl) (Or.inr rfl) ?_
      refine gsPut dM_126_52 sk_725 rfl rfl rfl (by decide) ?_
      refine gs0 56 [(2, .inl n4), (0, .inr (.inr (some 725))), (1, .inl x1)] [.inr (.inr (some 725))] dM_126_55 (fun _ => rfl) (Or.inr rfl) ?_
      refine gsGetE ((t2 725 39) + 1) dM_126_56 sk_725 rfl rfl (up2_same _ _ _ _) ?_
      refine gsRet (r := some (.inl ((t2 725 39) + 1))) dM_126_59 (fun _ => rfl) (Or.inr rfl) ?_
      exact hn
    · replace hn := hn.2 c6
      refine gs0 30 [(2, .inl n4), (0, .inr (.inr (some 725))), (1, .inl x1)] [.inr (.inr (some 725))] dM_126_29 (fun _ => rfl) (Or.inr rfl) ?_
      refine gs0 31 [(2, .inl n4), (0, .inr (.inr (some 725))), (1, .inl x1)] [.inl n4, .inr (.inr (some 725))] dM_126_30 (fun _ => rfl) (Or.inr rfl) ?_
      refine gsCallV (y := 128) (k := 725) (as := [.inr (.inr (some 725)), .inl n4]) (r := []) dM_126_31 rfl rfl rfl (Nat.le_of_ble_eq_true rfl) sk_725 rfl (Nat.le_of_ble_eq_true rfl) (EvS.up hn (Nat.le_of_ble_eq_true rfl)) (fun v7 t8 hv9 => ?_)
      obtain ⟨n10, rfl, hnn⟩ := hv9
      clear hn
      show GoS _ _ _ _ _ _ _ _ [(2, .inl n4), (0, .inr (.inr (some 725))), (1, .inl x1)] [.inl n10] t8 _
      refine gsRet (r := some (.inl n10)) dM_126_34 (fun _ => rfl) (Or.inr rfl) ?_
      exact hnn
  · replace hn := hn.2 c5
    refine gs0 14 [(2, .inl n4), (0, .inr (.inr (some 725))), (1, .inl x1)] [.inr (.inr (some 725))] dM_126_13 (fun _ => rfl) (Or.inr rfl) ?_
    refine gsGetE (t2 725 39) dM_126_14 sk_725 rfl rfl rfl ?_
    refine gs0 19 [(2, .inl n4), (0, .inr (.inr (some 725))), (1, .inl x1)] [.inl 96, .inl (t2 725 39)] dM_126_17 (fun _ => rfl) (Or.inr rfl) ?_
    refine gsIf (t := 25) (C := ¬ (t2 725 39) = 96) (r := []) dM_126_19 (fun _ => rfl) (Or.inr rfl) (rTest_iff .ne (t2 725 39) 96) (fun c11 => ?_) (fun c11 => ?_)
    · replace hn := hn.1 c11
      refine gs0 26 [(2, .inl n4), (0, .inr (.inr (some 725))), (1, .inl x1)] [.inl n4] dM_126_25 (fun _ => rfl) (Or.inr rfl) ?_
      refine gsIf (t := 35) (C := n4 = 0) (r := []) dM_126_26 (fun _ => rfl) (Or.inr rfl) (rTest_iff .eq n4 0) (fun c12 => ?_) (fun c12 => ?_)
      · replace hn := hn.1 c12
        refine gs0 36 [(2, .inl n4), (0, .inr (.inr (some 725))), (1, .inl x1)] [.inr (.inr (some 725))] dM_126_35 (fun _ => rfl) (Or.inr rfl) ?_
        refine gsGetR (some 752) dM_126_36 sk_725 rfl rfl ?_
        refine gs0 40 [(2, .inl n4), (0, .inr (.inr (some 725))), (1, .inl x1)] [.inr (.inr (some 725)), .inr (.inr (some 752))] dM_126_39 (fun _ => rfl) (Or.inr rfl) ?_
        refine gsGetE (t2 725 39) dM_126_40 sk_725 rfl rfl rfl ?_
        refine gs0 44 [(2, .inl n4), (0, .inr (.inr (some 725))), (1, .inl x1)] [.inl x1, .inl (t2 725 39), .inr (.inr (some 752))] dM_126_43 (fun _ => rfl) (Or.inr rfl) ?_
        refine gsIastN ((t2 725 39).toNatClampNeg) dM_126_44 sk_752 hn.1 rfl ?_
        replace hn := hn.2
        refine gs0 46 [(2, .inl n4), (0, .inr (.inr (some 725))), (1, .inl x1)] [.inr (.inr (some 725))] dM_126_45 (fun _ => rfl) (Or.inr rfl) ?_
        refine gs0 47 [(2, .inl n4), (0, .inr (.inr (some 725))), (1, .inl x1)] [.inr (.inr (some 725)), .inr (.inr (some 725))] dM_126_46 (fun _ => rfl) (Or.inr rfl) ?_
        refine gsGetE (t2 725 39) dM_126_47 sk_725 rfl rfl (congrFun (up2_nk _ _ _ (by decide)) _) ?_
        refine gs0 51 [(2, .inl n4), (0, .inr (.inr (some 725))), (1, .inl x1)] [.inl 1, .inl (t2 725 39), .inr (.inr (some 725))] dM_126_50 (fun _ => rfl) (Or.inr rfl) ?_
        refine gs0 52 [(2, .inl n4), (0, .inr (.inr (some 725))), (1, .inl x1)] [.inl ((t2 725 39) + 1), .inr (.inr (some 725))] dM_126_51 (fun _ => rfl) (Or.inr rfl) ?_
        refine gsPut dM_126_52 sk_725 rfl rfl rfl (by decide) ?_
        refine gs0 56 [(2, .inl n4), (0, .inr (.inr (some 725))), (1, .inl x1)] [.inr (.inr (some 725))] dM_126_55 (fun _ => rfl) (Or.inr rfl) ?_
        refine gsGetE ((t2 725 39) + 1) dM_126_56 sk_725 rfl rfl (up2_same _ _ _ _) ?_
        refine gsRet (r := some (.inl ((t2 725 39) + 1))) dM_126_59 (fun _ => rfl) (Or.inr rfl) ?_
        exact hn
      · replace hn := hn.2 c12
        refine gs0 30 [(2, .inl n4), (0, .inr (.inr (some 725))), (1, .inl x1)] [.inr (.inr (some 725))] dM_126_29 (fun _ => rfl) (Or.inr rfl) ?_
        refine gs0 31 [(2, .inl n4), (0, .inr (.inr (some 725))), (1, .inl x1)] [.inl n4, .inr (.inr (some 725))] dM_126_30 (fun _ => rfl) (Or.inr rfl) ?_
        refine gsCallV (y := 128) (k := 725) (as := [.inr (.inr (some 725)), .inl n4]) (r := []) dM_126_31 rfl rfl rfl (Nat.le_of_ble_eq_true rfl) sk_725 rfl (Nat.le_of_ble_eq_true rfl) (EvS.up hn (Nat.le_of_ble_eq_true rfl)) (fun v13 t14 hv15 => ?_)
        obtain ⟨n16, rfl, hnn⟩ := hv15
        clear hn
        show GoS _ _ _ _ _ _ _ _ [(2, .inl n4), (0, .inr (.inr (some 725))), (1, .inl x1)] [.inl n16] t14 _
        refine gsRet (r := some (.inl n16)) dM_126_34 (fun _ => rfl) (Or.inr rfl) ?_
        exact hnn
    · replace hn := hn.2 c11
      refine gs0 24 [(2, .inl n4), (0, .inr (.inr (some 725))), (1, .inl x1)] [.inl ((-6))] dM_126_22 (fun _ => rfl) (Or.inr rfl) ?_
      refine gs0 25 [(2, .inl ((-6))), (0, .inr (.inr (some 725))), (1, .inl x1)] [] dM_126_24 (fun _ => rfl) (Or.inr rfl) ?_
      refine gs0 26 [(2, .inl ((-6))), (0, .inr (.inr (some 725))), (1, .inl x1)] [.inl ((-6))] dM_126_25 (fun _ => rfl) (Or.inr rfl) ?_
      refine gsIf (t := 35) (C := ((-6)) = 0) (r := []) dM_126_26 (fun _ => rfl) (Or.inr rfl) (rTest_iff .eq ((-6)) 0) (fun c17 => absurd c17 (by decide)) (fun c17 => ?_)
      refine gs0 30 [(2, .inl ((-6))), (0, .inr (.inr (some 725))), (1, .inl x1)] [.inr (.inr (some 725))] dM_126_29 (fun _ => rfl) (Or.inr rfl) ?_
      refine gs0 31 [(2, .inl ((-6))), (0, .inr (.inr (some 725))), (1, .inl x1)] [.inl ((-6)), .inr (.inr (some 725))] dM_126_30 (fun _ => rfl) (Or.inr rfl) ?_
      refine gsCallV (y := 128) (k := 725) (as := [.inr (.inr (some 725)), .inl ((-6))]) (r := []) dM_126_31 rfl rfl rfl (Nat.le_of_ble_eq_true rfl) sk_725 rfl (Nat.le_of_ble_eq_true rfl) (EvS.up hn (Nat.le_of_ble_eq_true rfl)) (fun v18 t19 hv20 => ?_)
      obtain ⟨n21, rfl, hnn⟩ := hv20
      clear hn
      show GoS _ _ _ _ _ _ _ _ [(2, .inl ((-6))), (0, .inr (.inr (some 725))), (1, .inl x1)] [.inl n21] t19 _
      refine gsRet (r := some (.inl n21)) dM_126_34 (fun _ => rfl) (Or.inr rfl) ?_
      exact hnn
set_option maxRecDepth 100000 in
/-- GoalsInAQueueModel.bound -/
theorem w_127 (sg : rSg) (x0 : Int32) (x1 : Int32) (x2 : Int32) {P : Option rv → rSg → Prop} (h :
    (x1 ≤ x0 → 
      (x0 ≤ x2 → 
        P (some (.inl 0)) sg) ∧
      (¬ (x0 ≤ x2) → 
        P (some (.inl ((-6)))) sg)) ∧
    (¬ (x1 ≤ x0) → 
      P (some (.inl ((-4)))) sg)) : EvS rSkel 1 127 [.inl x0, .inl x1, .inl x2] sg P := by
  refine EvS.of (ini := false) rfl ⟨rfl, Nat.le_of_ble_eq_true rfl⟩ rfl ?_
  show GoS rSkel 0 9 3 (some .int) false prog_11_method_5_code 0 [(0, .inl x0), (1, .inl x1), (2, .inl x2)] [] sg _
  refine gs0 1 [(0, .inl x0), (1, .inl x1), (2, .inl x2)] [.inl x0] dM_127_0 (fun _ => rfl) (Or.inr rfl) ?_
  refine gs0 2 [(0, .inl x0), (1, .inl x1), (2, .inl x2)] [.inl x1, .inl x0] dM_127_1 (fun _ => rfl) (Or.inr rfl) ?_
  refine gsIf (t := 10) (C := x1 ≤ x0) (r := []) dM_127_2 (fun _ => rfl) (Or.inr rfl) (rTest_iff .ge x0 x1) (fun c1 => ?_) (fun c1 => ?_)
  · replace h := h.1 c1
    refine gs0 11 [(0, .inl x0), (1, .inl x1), (2, .inl x2)] [.inl x0] dM_127_10 (fun _ => rfl) (Or.inr rfl) ?_
    refine gs0 12 [(0, .inl x0), (1, .inl x1), (2, .inl x2)] [.inl x2, .inl x0] dM_127_11 (fun _ => rfl) (Or.inr rfl) ?_
    refine gsIf (t := 20) (C := x0 ≤ x2) (r := []) dM_127_12 (fun _ => rfl) (Or.inr rfl) (rTest_iff .le x0 x2) (fun c2 => ?_) (fun c2 => ?_)
    · replace h := h.1 c2
      refine gs0 21 [(0, .inl x0), (1, .inl x1), (2, .inl x2)] [.inl 0] dM_127_20 (fun _ => rfl) (Or.inr rfl) ?_
      refine gsRet (r := some (.inl 0)) dM_127_21 (fun _ => rfl) (Or.inr rfl) ?_
      exact h
    · replace h := h.2 c2
      refine gs0 17 [(0, .inl x0), (1, .inl x1), (2, .inl x2)] [.inl ((-6))] dM_127_15 (fun _ => rfl) (Or.inr rfl) ?_
      refine gs0 21 [(0, .inl x0), (1, .inl x1), (2, .inl x2)] [.inl ((-6))] dM_127_17 (fun _ => rfl) (Or.inr rfl) ?_
      refine gsRet (r := some (.inl ((-6)))) dM_127_21 (fun _ => rfl) (Or.inr rfl) ?_
      exact h
  · replace h := h.2 c1
    refine gs0 7 [(0, .inl x0), (1, .inl x1), (2, .inl x2)] [.inl ((-4))] dM_127_5 (fun _ => rfl) (Or.inr rfl) ?_
    refine gs0 21 [(0, .inl x0), (1, .inl x1), (2, .inl x2)] [.inl ((-4))] dM_127_7 (fun _ => rfl) (Or.inr rfl) ?_
    refine gsRet (r := some (.inl ((-4)))) dM_127_21 (fun _ => rfl) (Or.inr rfl) ?_
    exact h
set_option maxRecDepth 100000 in
/-- GoalsInAQueueModel.no -/
theorem w_128 (sg : rSg) (x1 : Int32) {P : Option rv → rSg → Prop} (h :
    (rIn (-x1) 7 = true ∧
    rIn (-x1) 7 = true ∧
    P (some (.inl x1)) (up2 sg 726 ((-x1).toNatClampNeg) ((sg 726 ((-x1).toNatClampNeg)) + 1)))) : EvS rSkel 1 128 [.inr (.inr (some 725)), .inl x1] sg P := by
  refine EvS.of (ini := false) rfl ⟨rfl, Nat.le_of_ble_eq_true rfl⟩ rfl ?_
  show GoS rSkel 0 9 2 (some .int) false prog_11_method_2_code 0 [(0, .inr (.inr (some 725))), (1, .inl x1)] [] sg _
  refine gs0 1 [(0, .inr (.inr (some 725))), (1, .inl x1)] [.inr (.inr (some 725))] dM_128_0 (fun _ => rfl) (Or.inr rfl) ?_
  refine gsGetR (some 726) dM_128_1 sk_725 rfl rfl ?_
  refine gs0 5 [(0, .inr (.inr (some 725))), (1, .inl x1)] [.inl x1, .inr (.inr (some 726))] dM_128_4 (fun _ => rfl) (Or.inr rfl) ?_
  refine gs0 6 [(0, .inr (.inr (some 725))), (1, .inl x1)] [.inl (-x1), .inr (.inr (some 726))] dM_128_5 (fun _ => rfl) (Or.inr rfl) ?_
  refine gs0 7 [(0, .inr (.inr (some 725))), (1, .inl x1)] [.inl (-x1), .inr (.inr (some 726)), .inl (-x1), .inr (.inr (some 726))] dM_128_6 (fun _ => rfl) (Or.inr rfl) ?_
  refine gsIaldN ((-x1).toNatClampNeg) (sg 726 ((-x1).toNatClampNeg)) dM_128_7 sk_726 h.1 rfl rfl ?_
  replace h := h.2
  refine gs0 9 [(0, .inr (.inr (some 725))), (1, .inl x1)] [.inl 1, .inl (sg 726 ((-x1).toNatClampNeg)), .inl (-x1), .inr (.inr (some 726))] dM_128_8 (fun _ => rfl) (Or.inr rfl) ?_
  refine gs0 10 [(0, .inr (.inr (some 725))), (1, .inl x1)] [.inl ((sg 726 ((-x1).toNatClampNeg)) + 1), .inl (-x1), .inr (.inr (some 726))] dM_128_9 (fun _ => rfl) (Or.inr rfl) ?_
  refine gsIastN ((-x1).toNatClampNeg) dM_128_10 sk_726 h.1 rfl ?_
  replace h := h.2
  refine gs0 12 [(0, .inr (.inr (some 725))), (1, .inl x1)] [.inl x1] dM_128_11 (fun _ => rfl) (Or.inr rfl) ?_
  refine gsRet (r := some (.inl x1)) dM_128_12 (fun _ => rfl) (Or.inr rfl) ?_
  exact h
def g_129_46  (y2 : Int32) (y3 : Int32) (sg : rSg) (P : Option rv → rSg → Prop) : Prop := GoS rSkel 4 9 4 (some .int) false prog_11_method_46_code 46 [(0, .inr (.inr (some 725))), (2, .inl y2), (3, .inl y3)] [] sg P
set_option maxRecDepth 100000 in
theorem w_129_46 (sg : rSg)  (y2 : Int32) (y3 : Int32) {P : Option rv → rSg → Prop} (h :
    (y2 ≤ y3 → 
      EvS rSkel 4 114 [.inr (.inr (some 725))] (up2 sg 725 40 y2) (fun v8 t9 => v8 = none ∧
        P (some (.inl (t9 725 45))) t9)) ∧
    (¬ (y2 ≤ y3) → 
      (rIn y3 96 = true ∧
      rIn y3 96 = true ∧
      g_129_46 y2 (y3 + 1) (up2 sg 753 y3.toNatClampNeg (sg 752 y3.toNatClampNeg)) P))) : g_129_46 y2 y3 sg P := by
  show GoS rSkel 4 9 4 (some .int) false prog_11_method_46_code 46 [(0, .inr (.inr (some 725))), (2, .inl y2), (3, .inl y3)] [] sg P
  refine gs0 47 [(0, .inr (.inr (some 725))), (2, .inl y2), (3, .inl y3)] [.inl y3] dM_129_46 (fun _ => rfl) (Or.inr rfl) ?_
  refine gs0 48 [(0, .inr (.inr (some 725))), (2, .inl y2), (3, .inl y3)] [.inl y2, .inl y3] dM_129_47 (fun _ => rfl) (Or.inr rfl) ?_
  refine gsIf (t := 69) (C := y2 ≤ y3) (r := []) dM_129_48 (fun _ => rfl) (Or.inr rfl) (rTest_iff .ge y3 y2) (fun c7 => ?_) (fun c7 => ?_)
  · replace h := h.1 c7
    refine gs0 70 [(0, .inr (.inr (some 725))), (2, .inl y2), (3, .inl y3)] [.inr (.inr (some 725))] dM_129_69 (fun _ => rfl) (Or.inr rfl) ?_
    refine gs0 71 [(0, .inr (.inr (some 725))), (2, .inl y2), (3, .inl y3)] [.inl y2, .inr (.inr (some 725))] dM_129_70 (fun _ => rfl) (Or.inr rfl) ?_
    refine gsPut dM_129_71 sk_725 rfl rfl rfl (by decide) ?_
    refine gs0 75 [(0, .inr (.inr (some 725))), (2, .inl y2), (3, .inl y3)] [.inr (.inr (some 725))] dM_129_74 (fun _ => rfl) (Or.inr rfl) ?_
    refine gsCallV (y := 114) (k := 725) (as := [.inr (.inr (some 725))]) (r := []) dM_129_75 rfl rfl rfl (Nat.le_of_ble_eq_true rfl) sk_725 rfl (Nat.le_of_ble_eq_true rfl) (EvS.up h (Nat.le_of_ble_eq_true rfl)) (fun v8 t9 hv10 => ?_)
    obtain ⟨rfl, hn⟩ := hv10
    clear h
    show GoS _ _ _ _ _ _ _ _ [(0, .inr (.inr (some 725))), (2, .inl y2), (3, .inl y3)] [] t9 _
    refine gs0 79 [(0, .inr (.inr (some 725))), (2, .inl y2), (3, .inl y3)] [.inr (.inr (some 725))] dM_129_78 (fun _ => rfl) (Or.inr rfl) ?_
    refine gsGetE (t9 725 45) dM_129_79 sk_725 rfl rfl rfl ?_
    refine gsRet (r := some (.inl (t9 725 45))) dM_129_82 (fun _ => rfl) (Or.inr rfl) ?_
    exact hn
  · replace h := h.2 c7
    refine gs0 52 [(0, .inr (.inr (some 725))), (2, .inl y2), (3, .inl y3)] [.inr (.inr (some 725))] dM_129_51 (fun _ => rfl) (Or.inr rfl) ?_
    refine gsGetR (some 753) dM_129_52 sk_725 rfl rfl ?_
    refine gs0 56 [(0, .inr (.inr (some 725))), (2, .inl y2), (3, .inl y3)] [.inl y3, .inr (.inr (some 753))] dM_129_55 (fun _ => rfl) (Or.inr rfl) ?_
    refine gs0 57 [(0, .inr (.inr (some 725))), (2, .inl y2), (3, .inl y3)] [.inr (.inr (some 725)), .inl y3, .inr (.inr (some 753))] dM_129_56 (fun _ => rfl) (Or.inr rfl) ?_
    refine gsGetR (some 752) dM_129_57 sk_725 rfl rfl ?_
    refine gs0 61 [(0, .inr (.inr (some 725))), (2, .inl y2), (3, .inl y3)] [.inl y3, .inr (.inr (some 752)), .inl y3, .inr (.inr (some 753))] dM_129_60 (fun _ => rfl) (Or.inr rfl) ?_
    refine gsIaldN y3.toNatClampNeg (sg 752 y3.toNatClampNeg) dM_129_61 sk_752 h.1 rfl rfl ?_
    replace h := h.2
    refine gsIastN y3.toNatClampNeg dM_129_62 sk_753 h.1 rfl ?_
    replace h := h.2
    refine gs0 66 [(3, .inl (y3 + 1)), (0, .inr (.inr (some 725))), (2, .inl y2)] [] dM_129_63 (fun _ => rfl) (Or.inr rfl) ?_
    refine gs0 46 [(3, .inl (y3 + 1)), (0, .inr (.inr (some 725))), (2, .inl y2)] [] dM_129_66 (fun _ => rfl) (Or.inr rfl) ?_
    exact GoS.sub (Lnd_keys (ks := [0, 2, 3]) rfl (by decide)) (Lsub_cons rfl (Lsub_cons rfl (Lsub_cons rfl Lsub_nil))) h
set_option maxRecDepth 100000 in
/-- GoalsInAQueueModel.goal -/
theorem w_129 (sg : rSg)  {P : Option rv → rSg → Prop} (h :
    EvS rSkel 4 130 [.inr (.inr (some 725))] sg (fun v1 t2 => ∃ n4, v1 = some (.inl n4) ∧
      (¬ n4 = 0 → 
        ((t2 725 44) < 0 → 
          g_129_46 (t2 725 39) 0 (up2 t2 725 39 0) P) ∧
        (¬ ((t2 725 44) < 0) → 
          P (some (.inl (((-2000)) - (t2 725 44)))) (up2 t2 725 39 0))) ∧
      (¬ (¬ n4 = 0) → 
        P (some (.inl (((-1000)) - (t2 725 43)))) (up2 t2 725 39 0)))) : EvS rSkel 5 129 [.inr (.inr (some 725))] sg P := by
  refine EvS.of (ini := false) rfl ⟨rfl, Nat.le_of_ble_eq_true rfl⟩ rfl ?_
  show GoS rSkel 4 9 4 (some .int) false prog_11_method_46_code 0 [(0, .inr (.inr (some 725)))] [] sg _
  refine gs0 1 [(0, .inr (.inr (some 725)))] [.inr (.inr (some 725))] dM_129_0 (fun _ => rfl) (Or.inr rfl) ?_
  refine gsCallV (y := 130) (k := 725) (as := [.inr (.inr (some 725))]) (r := []) dM_129_1 rfl rfl rfl (Nat.le_of_ble_eq_true rfl) sk_725 rfl (Nat.le_of_ble_eq_true rfl) (EvS.up h (Nat.le_of_ble_eq_true rfl)) (fun v1 t2 hv3 => ?_)
  obtain ⟨n4, rfl, hn⟩ := hv3
  clear h
  show GoS _ _ _ _ _ _ _ _ [(0, .inr (.inr (some 725)))] [.inl n4] t2 _
  refine gs0 5 [(1, .inl n4), (0, .inr (.inr (some 725)))] [] dM_129_4 (fun _ => rfl) (Or.inr rfl) ?_
  refine gs0 6 [(1, .inl n4), (0, .inr (.inr (some 725)))] [.inr (.inr (some 725))] dM_129_5 (fun _ => rfl) (Or.inr rfl) ?_
  refine gsGetE (t2 725 39) dM_129_6 sk_725 rfl rfl rfl ?_
  refine gs0 10 [(2, .inl (t2 725 39)), (1, .inl n4), (0, .inr (.inr (some 725)))] [] dM_129_9 (fun _ => rfl) (Or.inr rfl) ?_
  refine gs0 11 [(2, .inl (t2 725 39)), (1, .inl n4), (0, .inr (.inr (some 725)))] [.inr (.inr (some 725))] dM_129_10 (fun _ => rfl) (Or.inr rfl) ?_
  refine gs0 12 [(2, .inl (t2 725 39)), (1, .inl n4), (0, .inr (.inr (some 725)))] [.inl 0, .inr (.inr (some 725))] dM_129_11 (fun _ => rfl) (Or.inr rfl) ?_
  refine gsPut dM_129_12 sk_725 rfl rfl rfl (by decide) ?_
  refine gs0 16 [(2, .inl (t2 725 39)), (1, .inl n4), (0, .inr (.inr (some 725)))] [.inl n4] dM_129_15 (fun _ => rfl) (Or.inr rfl) ?_
  refine gsIf (t := 28) (C := ¬ n4 = 0) (r := []) dM_129_16 (fun _ => rfl) (Or.inr rfl) (rTest_iff .ne n4 0) (fun c5 => ?_) (fun c5 => ?_)
  · replace hn := hn.1 c5
    refine gs0 29 [(2, .inl (t2 725 39)), (1, .inl n4), (0, .inr (.inr (some 725)))] [.inr (.inr (some 725))] dM_129_28 (fun _ => rfl) (Or.inr rfl) ?_
    refine gsGetE (t2 725 44) dM_129_29 sk_725 rfl rfl (up2_nj _ _ _ (by decide)) ?_
    refine gsIf (t := 44) (C := (t2 725 44) < 0) (r := []) dM_129_32 (fun _ => rfl) (Or.inr rfl) (rTest_iff .lt (t2 725 44) 0) (fun c6 => ?_) (fun c6 => ?_)
    · replace hn := hn.1 c6
      refine gs0 45 [(2, .inl (t2 725 39)), (1, .inl n4), (0, .inr (.inr (some 725)))] [.inl 0] dM_129_44 (fun _ => rfl) (Or.inr rfl) ?_
      refine gs0 46 [(3, .inl 0), (2, .inl (t2 725 39)), (1, .inl n4), (0, .inr (.inr (some 725)))] [] dM_129_45 (fun _ => rfl) (Or.inr rfl) ?_
      exact GoS.sub (Lnd_keys (ks := [0, 2, 3]) rfl (by decide)) (Lsub_cons rfl (Lsub_cons rfl (Lsub_cons rfl Lsub_nil))) hn
    · replace hn := hn.2 c6
      refine gs0 38 [(2, .inl (t2 725 39)), (1, .inl n4), (0, .inr (.inr (some 725)))] [.inl ((-2000))] dM_129_35 (fun _ => rfl) (Or.inr rfl) ?_
      refine gs0 39 [(2, .inl (t2 725 39)), (1, .inl n4), (0, .inr (.inr (some 725)))] [.inr (.inr (some 725)), .inl ((-2000))] dM_129_38 (fun _ => rfl) (Or.inr rfl) ?_
      refine gsGetE (t2 725 44) dM_129_39 sk_725 rfl rfl (up2_nj _ _ _ (by decide)) ?_
      refine gs0 43 [(2, .inl (t2 725 39)), (1, .inl n4), (0, .inr (.inr (some 725)))] [.inl (((-2000)) - (t2 725 44))] dM_129_42 (fun _ => rfl) (Or.inr rfl) ?_
      refine gsRet (r := some (.inl (((-2000)) - (t2 725 44)))) dM_129_43 (fun _ => rfl) (Or.inr rfl) ?_
      exact hn
  · replace hn := hn.2 c5
    refine gs0 22 [(2, .inl (t2 725 39)), (1, .inl n4), (0, .inr (.inr (some 725)))] [.inl ((-1000))] dM_129_19 (fun _ => rfl) (Or.inr rfl) ?_
    refine gs0 23 [(2, .inl (t2 725 39)), (1, .inl n4), (0, .inr (.inr (some 725)))] [.inr (.inr (some 725)), .inl ((-1000))] dM_129_22 (fun _ => rfl) (Or.inr rfl) ?_
    refine gsGetE (t2 725 43) dM_129_23 sk_725 rfl rfl (up2_nj _ _ _ (by decide)) ?_
    refine gs0 27 [(2, .inl (t2 725 39)), (1, .inl n4), (0, .inr (.inr (some 725)))] [.inl (((-1000)) - (t2 725 43))] dM_129_26 (fun _ => rfl) (Or.inr rfl) ?_
    refine gsRet (r := some (.inl (((-1000)) - (t2 725 43)))) dM_129_27 (fun _ => rfl) (Or.inr rfl) ?_
    exact hn
def g_130_32   (sg : rSg) (P : Option rv → rSg → Prop) : Prop := GoS rSkel 3 9 1 (some .boolean) false prog_11_method_42_code 32 [(0, .inr (.inr (some 725)))] [] sg P
set_option maxRecDepth 100000 in
theorem w_130_32 (sg : rSg)   {P : Option rv → rSg → Prop} (h :
    ((sg 725 17) ≤ 0 → 
      (¬ (sg 725 43) = (sg 725 39) → 
        P (some (.inl 0)) sg) ∧
      (¬ (¬ (sg 725 43) = (sg 725 39)) → 
        P (some (.inl 1)) sg)) ∧
    (¬ ((sg 725 17) ≤ 0) → 
      ((sg 725 39) ≤ (sg 725 43) → 
        (rIn ((sg 725 17) - 1) 400 = true ∧
        EvS rSkel 3 132 [.inr (.inr (some 725)), .inl ((-1)), .inl (sg 755 (((sg 725 17) - 1).toNatClampNeg))] (up2 sg 725 17 ((sg 725 17) - 1)) (fun v7 t8 => ∃ n10, v7 = some (.inl n10) ∧
          (¬ n10 = 0 → 
            g_130_32 (up2 t8 725 43 ((t8 725 43) + 1)) P) ∧
          (¬ (¬ n10 = 0) → 
            P (some (.inl 0)) t8)))) ∧
      (¬ ((sg 725 39) ≤ (sg 725 43)) → 
        (rIn (sg 725 43) 96 = true ∧
        rIn ((sg 725 17) - 1) 400 = true ∧
        EvS rSkel 3 132 [.inr (.inr (some 725)), .inl (sg 752 ((sg 725 43).toNatClampNeg)), .inl (sg 755 (((sg 725 17) - 1).toNatClampNeg))] (up2 sg 725 17 ((sg 725 17) - 1)) (fun v12 t13 => ∃ n15, v12 = some (.inl n15) ∧
          (¬ n15 = 0 → 
            g_130_32 (up2 t13 725 43 ((t13 725 43) + 1)) P) ∧
          (¬ (¬ n15 = 0) → 
            P (some (.inl 0)) t13)))))) : g_130_32 sg P := by
  show GoS rSkel 3 9 1 (some .boolean) false prog_11_method_42_code 32 [(0, .inr (.inr (some 725)))] [] sg P
  refine gs0 33 [(0, .inr (.inr (some 725)))] [.inr (.inr (some 725))] dM_130_32 (fun _ => rfl) (Or.inr rfl) ?_
  refine gsGetE (sg 725 17) dM_130_33 sk_725 rfl rfl rfl ?_
  refine gsIf (t := 104) (C := (sg 725 17) ≤ 0) (r := []) dM_130_36 (fun _ => rfl) (Or.inr rfl) (rTest_iff .le (sg 725 17) 0) (fun c4 => ?_) (fun c4 => ?_)
  · replace h := h.1 c4
    refine gs0 105 [(0, .inr (.inr (some 725)))] [.inr (.inr (some 725))] dM_130_104 (fun _ => rfl) (Or.inr rfl) ?_
    refine gsGetE (sg 725 43) dM_130_105 sk_725 rfl rfl rfl ?_
    refine gs0 109 [(0, .inr (.inr (some 725)))] [.inr (.inr (some 725)), .inl (sg 725 43)] dM_130_108 (fun _ => rfl) (Or.inr rfl) ?_
    refine gsGetE (sg 725 39) dM_130_109 sk_725 rfl rfl rfl ?_
    refine gsIf (t := 119) (C := ¬ (sg 725 43) = (sg 725 39)) (r := []) dM_130_112 (fun _ => rfl) (Or.inr rfl) (rTest_iff .ne (sg 725 43) (sg 725 39)) (fun c5 => ?_) (fun c5 => ?_)
    · replace h := h.1 c5
      refine gs0 120 [(0, .inr (.inr (some 725)))] [.inl 0] dM_130_119 (fun _ => rfl) (Or.inr rfl) ?_
      refine gsRet (r := some (.inl 0)) dM_130_120 (fun _ => rfl) (Or.inr rfl) ?_
      exact h
    · replace h := h.2 c5
      refine gs0 116 [(0, .inr (.inr (some 725)))] [.inl 1] dM_130_115 (fun _ => rfl) (Or.inr rfl) ?_
      refine gs0 120 [(0, .inr (.inr (some 725)))] [.inl 1] dM_130_116 (fun _ => rfl) (Or.inr rfl) ?_
      refine gsRet (r := some (.inl 1)) dM_130_120 (fun _ => rfl) (Or.inr rfl) ?_
      exact h
  · replace h := h.2 c4
    refine gs0 40 [(0, .inr (.inr (some 725)))] [.inr (.inr (some 725))] dM_130_39 (fun _ => rfl) (Or.inr rfl) ?_
    refine gs0 41 [(0, .inr (.inr (some 725)))] [.inr (.inr (some 725)), .inr (.inr (some 725))] dM_130_40 (fun _ => rfl) (Or.inr rfl) ?_
    refine gsGetE (sg 725 17) dM_130_41 sk_725 rfl rfl rfl ?_
    refine gs0 45 [(0, .inr (.inr (some 725)))] [.inl 1, .inl (sg 725 17), .inr (.inr (some 725))] dM_130_44 (fun _ => rfl) (Or.inr rfl) ?_
    refine gs0 46 [(0, .inr (.inr (some 725)))] [.inl ((sg 725 17) - 1), .inr (.inr (some 725))] dM_130_45 (fun _ => rfl) (Or.inr rfl) ?_
    refine gsPut dM_130_46 sk_725 rfl rfl rfl (by decide) ?_
    refine gs0 50 [(0, .inr (.inr (some 725)))] [.inr (.inr (some 725))] dM_130_49 (fun _ => rfl) (Or.inr rfl) ?_
    refine gs0 51 [(0, .inr (.inr (some 725)))] [.inr (.inr (some 725)), .inr (.inr (some 725))] dM_130_50 (fun _ => rfl) (Or.inr rfl) ?_
    refine gsGetE (sg 725 43) dM_130_51 sk_725 rfl rfl (up2_nj _ _ _ (by decide)) ?_
    refine gs0 55 [(0, .inr (.inr (some 725)))] [.inr (.inr (some 725)), .inl (sg 725 43), .inr (.inr (some 725))] dM_130_54 (fun _ => rfl) (Or.inr rfl) ?_
    refine gsGetE (sg 725 39) dM_130_55 sk_725 rfl rfl (up2_nj _ _ _ (by decide)) ?_
    refine gsIf (t := 73) (C := (sg 725 39) ≤ (sg 725 43)) (r := [.inr (.inr (some 725))]) dM_130_58 (fun _ => rfl) (Or.inr rfl) (rTest_iff .ge (sg 725 43) (sg 725 39)) (fun c6 => ?_) (fun c6 => ?_)
    · replace h := h.1 c6
      refine gs0 74 [(0, .inr (.inr (some 725)))] [.inl ((-1)), .inr (.inr (some 725))] dM_130_73 (fun _ => rfl) (Or.inr rfl) ?_
      refine gs0 75 [(0, .inr (.inr (some 725)))] [.inr (.inr (some 725)), .inl ((-1)), .inr (.inr (some 725))] dM_130_74 (fun _ => rfl) (Or.inr rfl) ?_
      refine gsGetR (some 755) dM_130_75 sk_725 rfl rfl ?_
      refine gs0 79 [(0, .inr (.inr (some 725)))] [.inr (.inr (some 725)), .inr (.inr (some 755)), .inl ((-1)), .inr (.inr (some 725))] dM_130_78 (fun _ => rfl) (Or.inr rfl) ?_
      refine gsGetE ((sg 725 17) - 1) dM_130_79 sk_725 rfl rfl (up2_same _ _ _ _) ?_
      refine gsIaldN (((sg 725 17) - 1).toNatClampNeg) (sg 755 (((sg 725 17) - 1).toNatClampNeg)) dM_130_82 sk_755 h.1 rfl (congrFun (up2_nk _ _ _ (by decide)) _) ?_
      replace h := h.2
      refine gsCallV (y := 132) (k := 725) (as := [.inr (.inr (some 725)), .inl ((-1)), .inl (sg 755 (((sg 725 17) - 1).toNatClampNeg))]) (r := []) dM_130_83 rfl rfl rfl (Nat.le_of_ble_eq_true rfl) sk_725 rfl (Nat.le_of_ble_eq_true rfl) (EvS.up h (Nat.le_of_ble_eq_true rfl)) (fun v7 t8 hv9 => ?_)
      obtain ⟨n10, rfl, hn⟩ := hv9
      clear h
      show GoS _ _ _ _ _ _ _ _ [(0, .inr (.inr (some 725)))] [.inl n10] t8 _
      refine gsIf (t := 91) (C := ¬ n10 = 0) (r := []) dM_130_86 (fun _ => rfl) (Or.inr rfl) (rTest_iff .ne n10 0) (fun c11 => ?_) (fun c11 => ?_)
      · replace hn := hn.1 c11
        refine gs0 92 [(0, .inr (.inr (some 725)))] [.inr (.inr (some 725))] dM_130_91 (fun _ => rfl) (Or.inr rfl) ?_
        refine gs0 93 [(0, .inr (.inr (some 725)))] [.inr (.inr (some 725)), .inr (.inr (some 725))] dM_130_92 (fun _ => rfl) (Or.inr rfl) ?_
        refine gsGetE (t8 725 43) dM_130_93 sk_725 rfl rfl rfl ?_
        refine gs0 97 [(0, .inr (.inr (some 725)))] [.inl 1, .inl (t8 725 43), .inr (.inr (some 725))] dM_130_96 (fun _ => rfl) (Or.inr rfl) ?_
        refine gs0 98 [(0, .inr (.inr (some 725)))] [.inl ((t8 725 43) + 1), .inr (.inr (some 725))] dM_130_97 (fun _ => rfl) (Or.inr rfl) ?_
        refine gsPut dM_130_98 sk_725 rfl rfl rfl (by decide) ?_
        refine gs0 32 [(0, .inr (.inr (some 725)))] [] dM_130_101 (fun _ => rfl) (Or.inr rfl) ?_
        exact GoS.sub (Lnd_keys (ks := [0]) rfl (by decide)) (Lsub_cons rfl Lsub_nil) hn
      · replace hn := hn.2 c11
        refine gs0 90 [(0, .inr (.inr (some 725)))] [.inl 0] dM_130_89 (fun _ => rfl) (Or.inr rfl) ?_
        refine gsRet (r := some (.inl 0)) dM_130_90 (fun _ => rfl) (Or.inr rfl) ?_
        exact hn
    · replace h := h.2 c6
      refine gs0 62 [(0, .inr (.inr (some 725)))] [.inr (.inr (some 725)), .inr (.inr (some 725))] dM_130_61 (fun _ => rfl) (Or.inr rfl) ?_
      refine gsGetR (some 752) dM_130_62 sk_725 rfl rfl ?_
      refine gs0 66 [(0, .inr (.inr (some 725)))] [.inr (.inr (some 725)), .inr (.inr (some 752)), .inr (.inr (some 725))] dM_130_65 (fun _ => rfl) (Or.inr rfl) ?_
      refine gsGetE (sg 725 43) dM_130_66 sk_725 rfl rfl (up2_nj _ _ _ (by decide)) ?_
      refine gsIaldN ((sg 725 43).toNatClampNeg) (sg 752 ((sg 725 43).toNatClampNeg)) dM_130_69 sk_752 h.1 rfl (congrFun (up2_nk _ _ _ (by decide)) _) ?_
      replace h := h.2
      refine gs0 74 [(0, .inr (.inr (some 725)))] [.inl (sg 752 ((sg 725 43).toNatClampNeg)), .inr (.inr (some 725))] dM_130_70 (fun _ => rfl) (Or.inr rfl) ?_
      refine gs0 75 [(0, .inr (.inr (some 725)))] [.inr (.inr (some 725)), .inl (sg 752 ((sg 725 43).toNatClampNeg)), .inr (.inr (some 725))] dM_130_74 (fun _ => rfl) (Or.inr rfl) ?_
      refine gsGetR (some 755) dM_130_75 sk_725 rfl rfl ?_
      refine gs0 79 [(0, .inr (.inr (some 725)))] [.inr (.inr (some 725)), .inr (.inr (some 755)), .inl (sg 752 ((sg 725 43).toNatClampNeg)), .inr (.inr (some 725))] dM_130_78 (fun _ => rfl) (Or.inr rfl) ?_
      refine gsGetE ((sg 725 17) - 1) dM_130_79 sk_725 rfl rfl (up2_same _ _ _ _) ?_
      refine gsIaldN (((sg 725 17) - 1).toNatClampNeg) (sg 755 (((sg 725 17) - 1).toNatClampNeg)) dM_130_82 sk_755 h.1 rfl (congrFun (up2_nk _ _ _ (by decide)) _) ?_
      replace h := h.2
      refine gsCallV (y := 132) (k := 725) (as := [.inr (.inr (some 725)), .inl (sg 752 ((sg 725 43).toNatClampNeg)), .inl (sg 755 (((sg 725 17) - 1).toNatClampNeg))]) (r := []) dM_130_83 rfl rfl rfl (Nat.le_of_ble_eq_true rfl) sk_725 rfl (Nat.le_of_ble_eq_true rfl) (EvS.up h (Nat.le_of_ble_eq_true rfl)) (fun v12 t13 hv14 => ?_)
      obtain ⟨n15, rfl, hn⟩ := hv14
      clear h
      show GoS _ _ _ _ _ _ _ _ [(0, .inr (.inr (some 725)))] [.inl n15] t13 _
      refine gsIf (t := 91) (C := ¬ n15 = 0) (r := []) dM_130_86 (fun _ => rfl) (Or.inr rfl) (rTest_iff .ne n15 0) (fun c16 => ?_) (fun c16 => ?_)
      · replace hn := hn.1 c16
        refine gs0 92 [(0, .inr (.inr (some 725)))] [.inr (.inr (some 725))] dM_130_91 (fun _ => rfl) (Or.inr rfl) ?_
        refine gs0 93 [(0, .inr (.inr (some 725)))] [.inr (.inr (some 725)), .inr (.inr (some 725))] dM_130_92 (fun _ => rfl) (Or.inr rfl) ?_
        refine gsGetE (t13 725 43) dM_130_93 sk_725 rfl rfl rfl ?_
        refine gs0 97 [(0, .inr (.inr (some 725)))] [.inl 1, .inl (t13 725 43), .inr (.inr (some 725))] dM_130_96 (fun _ => rfl) (Or.inr rfl) ?_
        refine gs0 98 [(0, .inr (.inr (some 725)))] [.inl ((t13 725 43) + 1), .inr (.inr (some 725))] dM_130_97 (fun _ => rfl) (Or.inr rfl) ?_
        refine gsPut dM_130_98 sk_725 rfl rfl rfl (by decide) ?_
        refine gs0 32 [(0, .inr (.inr (some 725)))] [] dM_130_101 (fun _ => rfl) (Or.inr rfl) ?_
        exact GoS.sub (Lnd_keys (ks := [0]) rfl (by decide)) (Lsub_cons rfl Lsub_nil) hn
      · replace hn := hn.2 c16
        refine gs0 90 [(0, .inr (.inr (some 725)))] [.inl 0] dM_130_89 (fun _ => rfl) (Or.inr rfl) ?_
        refine gsRet (r := some (.inl 0)) dM_130_90 (fun _ => rfl) (Or.inr rfl) ?_
        exact hn
set_option maxRecDepth 100000 in
/-- GoalsInAQueueModel.reads -/
theorem w_130 (sg : rSg)  {P : Option rv → rSg → Prop} (h :
    EvS rSkel 1 131 [.inr (.inr (some 725)), .inl 1, .inl 103] (up2 (up2 (up2 (up2 (up2 sg 725 43 0) 725 44 ((-1))) 725 45 0) 725 46 0) 725 17 0) (fun v1 t2 => v1 = none ∧
      g_130_32 t2 P)) : EvS rSkel 4 130 [.inr (.inr (some 725))] sg P := by
  refine EvS.of (ini := false) rfl ⟨rfl, Nat.le_of_ble_eq_true rfl⟩ rfl ?_
  show GoS rSkel 3 9 1 (some .boolean) false prog_11_method_42_code 0 [(0, .inr (.inr (some 725)))] [] sg _
  refine gs0 1 [(0, .inr (.inr (some 725)))] [.inr (.inr (some 725))] dM_130_0 (fun _ => rfl) (Or.inr rfl) ?_
  refine gs0 2 [(0, .inr (.inr (some 725)))] [.inl 0, .inr (.inr (some 725))] dM_130_1 (fun _ => rfl) (Or.inr rfl) ?_
  refine gsPut dM_130_2 sk_725 rfl rfl rfl (by decide) ?_
  refine gs0 6 [(0, .inr (.inr (some 725)))] [.inr (.inr (some 725))] dM_130_5 (fun _ => rfl) (Or.inr rfl) ?_
  refine gs0 7 [(0, .inr (.inr (some 725)))] [.inl ((-1)), .inr (.inr (some 725))] dM_130_6 (fun _ => rfl) (Or.inr rfl) ?_
  refine gsPut dM_130_7 sk_725 rfl rfl rfl (by decide) ?_
  refine gs0 11 [(0, .inr (.inr (some 725)))] [.inr (.inr (some 725))] dM_130_10 (fun _ => rfl) (Or.inr rfl) ?_
  refine gs0 12 [(0, .inr (.inr (some 725)))] [.inl 0, .inr (.inr (some 725))] dM_130_11 (fun _ => rfl) (Or.inr rfl) ?_
  refine gsPut dM_130_12 sk_725 rfl rfl rfl (by decide) ?_
  refine gs0 16 [(0, .inr (.inr (some 725)))] [.inr (.inr (some 725))] dM_130_15 (fun _ => rfl) (Or.inr rfl) ?_
  refine gs0 17 [(0, .inr (.inr (some 725)))] [.inl 0, .inr (.inr (some 725))] dM_130_16 (fun _ => rfl) (Or.inr rfl) ?_
  refine gsPut dM_130_17 sk_725 rfl rfl rfl (by decide) ?_
  refine gs0 21 [(0, .inr (.inr (some 725)))] [.inr (.inr (some 725))] dM_130_20 (fun _ => rfl) (Or.inr rfl) ?_
  refine gs0 22 [(0, .inr (.inr (some 725)))] [.inl 0, .inr (.inr (some 725))] dM_130_21 (fun _ => rfl) (Or.inr rfl) ?_
  refine gsPut dM_130_22 sk_725 rfl rfl rfl (by decide) ?_
  refine gs0 26 [(0, .inr (.inr (some 725)))] [.inr (.inr (some 725))] dM_130_25 (fun _ => rfl) (Or.inr rfl) ?_
  refine gs0 27 [(0, .inr (.inr (some 725)))] [.inl 1, .inr (.inr (some 725))] dM_130_26 (fun _ => rfl) (Or.inr rfl) ?_
  refine gs0 29 [(0, .inr (.inr (some 725)))] [.inl 103, .inl 1, .inr (.inr (some 725))] dM_130_27 (fun _ => rfl) (Or.inr rfl) ?_
  refine gsCallV (y := 131) (k := 725) (as := [.inr (.inr (some 725)), .inl 1, .inl 103]) (r := []) dM_130_29 rfl rfl rfl (Nat.le_of_ble_eq_true rfl) sk_725 rfl (Nat.le_of_ble_eq_true rfl) (EvS.up h (Nat.le_of_ble_eq_true rfl)) (fun v1 t2 hv3 => ?_)
  obtain ⟨rfl, hn⟩ := hv3
  clear h
  show GoS _ _ _ _ _ _ _ _ [(0, .inr (.inr (some 725)))] [] t2 _
  exact GoS.sub (Lnd_keys (ks := [0]) rfl (by decide)) (Lsub_cons rfl Lsub_nil) hn
def g_131_2  (y1 : Int32) (y2 : Int32) (y3 : Int32) (sg : rSg) (P : Option rv → rSg → Prop) : Prop := GoS rSkel 0 9 4 none false prog_11_method_38_code 2 [(0, .inr (.inr (some 725))), (1, .inl y1), (2, .inl y2), (3, .inl y3)] [] sg P
set_option maxRecDepth 100000 in
theorem w_131_2 (sg : rSg)  (y1 : Int32) (y2 : Int32) (y3 : Int32) {P : Option rv → rSg → Prop} (h :
    (y1 ≤ y3 → 
      P none sg) ∧
    (¬ (y1 ≤ y3) → 
      (rIn (sg 725 17) 400 = true ∧
      g_131_2 y1 y2 (y3 + 1) (up2 (up2 sg 755 ((sg 725 17).toNatClampNeg) y2) 725 17 ((sg 725 17) + 1)) P))) : g_131_2 y1 y2 y3 sg P := by
  show GoS rSkel 0 9 4 none false prog_11_method_38_code 2 [(0, .inr (.inr (some 725))), (1, .inl y1), (2, .inl y2), (3, .inl y3)] [] sg P
  refine gs0 3 [(0, .inr (.inr (some 725))), (1, .inl y1), (2, .inl y2), (3, .inl y3)] [.inl y3] dM_131_2 (fun _ => rfl) (Or.inr rfl) ?_
  refine gs0 4 [(0, .inr (.inr (some 725))), (1, .inl y1), (2, .inl y2), (3, .inl y3)] [.inl y1, .inl y3] dM_131_3 (fun _ => rfl) (Or.inr rfl) ?_
  refine gsIf (t := 33) (C := y1 ≤ y3) (r := []) dM_131_4 (fun _ => rfl) (Or.inr rfl) (rTest_iff .ge y3 y1) (fun c1 => ?_) (fun c1 => ?_)
  · replace h := h.1 c1
    refine gsRet (r := none) dM_131_33 (fun _ => rfl) (Or.inr rfl) ?_
    exact h
  · replace h := h.2 c1
    refine gs0 8 [(0, .inr (.inr (some 725))), (1, .inl y1), (2, .inl y2), (3, .inl y3)] [.inr (.inr (some 725))] dM_131_7 (fun _ => rfl) (Or.inr rfl) ?_
    refine gsGetR (some 755) dM_131_8 sk_725 rfl rfl ?_
    refine gs0 12 [(0, .inr (.inr (some 725))), (1, .inl y1), (2, .inl y2), (3, .inl y3)] [.inr (.inr (some 725)), .inr (.inr (some 755))] dM_131_11 (fun _ => rfl) (Or.inr rfl) ?_
    refine gsGetE (sg 725 17) dM_131_12 sk_725 rfl rfl rfl ?_
    refine gs0 16 [(0, .inr (.inr (some 725))), (1, .inl y1), (2, .inl y2), (3, .inl y3)] [.inl y2, .inl (sg 725 17), .inr (.inr (some 755))] dM_131_15 (fun _ => rfl) (Or.inr rfl) ?_
    refine gsIastN ((sg 725 17).toNatClampNeg) dM_131_16 sk_755 h.1 rfl ?_
    replace h := h.2
    refine gs0 18 [(0, .inr (.inr (some 725))), (1, .inl y1), (2, .inl y2), (3, .inl y3)] [.inr (.inr (some 725))] dM_131_17 (fun _ => rfl) (Or.inr rfl) ?_
    refine gs0 19 [(0, .inr (.inr (some 725))), (1, .inl y1), (2, .inl y2), (3, .inl y3)] [.inr (.inr (some 725)), .inr (.inr (some 725))] dM_131_18 (fun _ => rfl) (Or.inr rfl) ?_
    refine gsGetE (sg 725 17) dM_131_19 sk_725 rfl rfl (congrFun (up2_nk _ _ _ (by decide)) _) ?_
    refine gs0 23 [(0, .inr (.inr (some 725))), (1, .inl y1), (2, .inl y2), (3, .inl y3)] [.inl 1, .inl (sg 725 17), .inr (.inr (some 725))] dM_131_22 (fun _ => rfl) (Or.inr rfl) ?_
    refine gs0 24 [(0, .inr (.inr (some 725))), (1, .inl y1), (2, .inl y2), (3, .inl y3)] [.inl ((sg 725 17) + 1), .inr (.inr (some 725))] dM_131_23 (fun _ => rfl) (Or.inr rfl) ?_
    refine gsPut dM_131_24 sk_725 rfl rfl rfl (by decide) ?_
    refine gs0 30 [(3, .inl (y3 + 1)), (0, .inr (.inr (some 725))), (1, .inl y1), (2, .inl y2)] [] dM_131_27 (fun _ => rfl) (Or.inr rfl) ?_
    refine gs0 2 [(3, .inl (y3 + 1)), (0, .inr (.inr (some 725))), (1, .inl y1), (2, .inl y2)] [] dM_131_30 (fun _ => rfl) (Or.inr rfl) ?_
    exact GoS.sub (Lnd_keys (ks := [0, 1, 2, 3]) rfl (by decide)) (Lsub_cons rfl (Lsub_cons rfl (Lsub_cons rfl (Lsub_cons rfl Lsub_nil)))) h
set_option maxRecDepth 100000 in
/-- GoalsInAQueueModel.awaits -/
theorem w_131 (sg : rSg) (x1 : Int32) (x2 : Int32) {P : Option rv → rSg → Prop} (h :
    g_131_2 x1 x2 0 sg P) : EvS rSkel 1 131 [.inr (.inr (some 725)), .inl x1, .inl x2] sg P := by
  refine EvS.of (ini := false) rfl ⟨rfl, Nat.le_of_ble_eq_true rfl⟩ rfl ?_
  show GoS rSkel 0 9 4 none false prog_11_method_38_code 0 [(0, .inr (.inr (some 725))), (1, .inl x1), (2, .inl x2)] [] sg _
  refine gs0 1 [(0, .inr (.inr (some 725))), (1, .inl x1), (2, .inl x2)] [.inl 0] dM_131_0 (fun _ => rfl) (Or.inr rfl) ?_
  refine gs0 2 [(3, .inl 0), (0, .inr (.inr (some 725))), (1, .inl x1), (2, .inl x2)] [] dM_131_1 (fun _ => rfl) (Or.inr rfl) ?_
  exact GoS.sub (Lnd_keys (ks := [0, 1, 2, 3]) rfl (by decide)) (Lsub_cons rfl (Lsub_cons rfl (Lsub_cons rfl (Lsub_cons rfl Lsub_nil)))) h
set_option maxRecDepth 100000 in
/-- GoalsInAQueueModel.readsAwaited -/
theorem w_132 (sg : rSg) (x1 : Int32) (x2 : Int32) {P : Option rv → rSg → Prop} (h :
    (¬ x2 = 41 → 
      (¬ x2 = 116 → 
        EvS rSkel 2 134 [.inr (.inr (some 725)), .inl x1] sg (fun v3 t4 => ∃ n6, v3 = some (.inl n6) ∧
          (rBool n6 = true ∧
          P (some (.inl n6)) t4))) ∧
      (¬ (¬ x2 = 116) → 
        EvS rSkel 2 133 [.inr (.inr (some 725)), .inl x1] sg (fun v7 t8 => ∃ n10, v7 = some (.inl n10) ∧
          (rBool n10 = true ∧
          P (some (.inl n10)) t8)))) ∧
    (¬ (¬ x2 = 41) → 
      (¬ x1 = 41 → 
        P (some (.inl 0)) sg) ∧
      (¬ (¬ x1 = 41) → 
        P (some (.inl 1)) sg))) : EvS rSkel 3 132 [.inr (.inr (some 725)), .inl x1, .inl x2] sg P := by
  refine EvS.of (ini := false) rfl ⟨rfl, Nat.le_of_ble_eq_true rfl⟩ rfl ?_
  show GoS rSkel 2 9 3 (some .boolean) false prog_11_method_41_code 0 [(0, .inr (.inr (some 725))), (1, .inl x1), (2, .inl x2)] [] sg _
  refine gs0 1 [(0, .inr (.inr (some 725))), (1, .inl x1), (2, .inl x2)] [.inl x2] dM_132_0 (fun _ => rfl) (Or.inr rfl) ?_
  refine gs0 3 [(0, .inr (.inr (some 725))), (1, .inl x1), (2, .inl x2)] [.inl 41, .inl x2] dM_132_1 (fun _ => rfl) (Or.inr rfl) ?_
  refine gsIf (t := 18) (C := ¬ x2 = 41) (r := []) dM_132_3 (fun _ => rfl) (Or.inr rfl) (rTest_iff .ne x2 41) (fun c1 => ?_) (fun c1 => ?_)
  · replace h := h.1 c1
    refine gs0 19 [(0, .inr (.inr (some 725))), (1, .inl x1), (2, .inl x2)] [.inl x2] dM_132_18 (fun _ => rfl) (Or.inr rfl) ?_
    refine gs0 21 [(0, .inr (.inr (some 725))), (1, .inl x1), (2, .inl x2)] [.inl 116, .inl x2] dM_132_19 (fun _ => rfl) (Or.inr rfl) ?_
    refine gsIf (t := 32) (C := ¬ x2 = 116) (r := []) dM_132_21 (fun _ => rfl) (Or.inr rfl) (rTest_iff .ne x2 116) (fun c2 => ?_) (fun c2 => ?_)
    · replace h := h.1 c2
      refine gs0 33 [(0, .inr (.inr (some 725))), (1, .inl x1), (2, .inl x2)] [.inr (.inr (some 725))] dM_132_32 (fun _ => rfl) (Or.inr rfl) ?_
      refine gs0 34 [(0, .inr (.inr (some 725))), (1, .inl x1), (2, .inl x2)] [.inl x1, .inr (.inr (some 725))] dM_132_33 (fun _ => rfl) (Or.inr rfl) ?_
      refine gsCallV (y := 134) (k := 725) (as := [.inr (.inr (some 725)), .inl x1]) (r := []) dM_132_34 rfl rfl rfl (Nat.le_of_ble_eq_true rfl) sk_725 rfl (Nat.le_of_ble_eq_true rfl) (EvS.up h (Nat.le_of_ble_eq_true rfl)) (fun v3 t4 hv5 => ?_)
      obtain ⟨n6, rfl, hn⟩ := hv5
      clear h
      show GoS _ _ _ _ _ _ _ _ [(0, .inr (.inr (some 725))), (1, .inl x1), (2, .inl x2)] [.inl n6] t4 _
      refine gsRet (r := some (.inl n6)) dM_132_37 (fun _ => rRetB hn.1) (Or.inr rfl) ?_
      replace hn := hn.2
      exact hn
    · replace h := h.2 c2
      refine gs0 25 [(0, .inr (.inr (some 725))), (1, .inl x1), (2, .inl x2)] [.inr (.inr (some 725))] dM_132_24 (fun _ => rfl) (Or.inr rfl) ?_
      refine gs0 26 [(0, .inr (.inr (some 725))), (1, .inl x1), (2, .inl x2)] [.inl x1, .inr (.inr (some 725))] dM_132_25 (fun _ => rfl) (Or.inr rfl) ?_
      refine gsCallV (y := 133) (k := 725) (as := [.inr (.inr (some 725)), .inl x1]) (r := []) dM_132_26 rfl rfl rfl (Nat.le_of_ble_eq_true rfl) sk_725 rfl (Nat.le_of_ble_eq_true rfl) (EvS.up h (Nat.le_of_ble_eq_true rfl)) (fun v7 t8 hv9 => ?_)
      obtain ⟨n10, rfl, hn⟩ := hv9
      clear h
      show GoS _ _ _ _ _ _ _ _ [(0, .inr (.inr (some 725))), (1, .inl x1), (2, .inl x2)] [.inl n10] t8 _
      refine gs0 37 [(0, .inr (.inr (some 725))), (1, .inl x1), (2, .inl x2)] [.inl n10] dM_132_29 (fun _ => rfl) (Or.inr rfl) ?_
      refine gsRet (r := some (.inl n10)) dM_132_37 (fun _ => rRetB hn.1) (Or.inr rfl) ?_
      replace hn := hn.2
      exact hn
  · replace h := h.2 c1
    refine gs0 7 [(0, .inr (.inr (some 725))), (1, .inl x1), (2, .inl x2)] [.inl x1] dM_132_6 (fun _ => rfl) (Or.inr rfl) ?_
    refine gs0 9 [(0, .inr (.inr (some 725))), (1, .inl x1), (2, .inl x2)] [.inl 41, .inl x1] dM_132_7 (fun _ => rfl) (Or.inr rfl) ?_
    refine gsIf (t := 16) (C := ¬ x1 = 41) (r := []) dM_132_9 (fun _ => rfl) (Or.inr rfl) (rTest_iff .ne x1 41) (fun c11 => ?_) (fun c11 => ?_)
    · replace h := h.1 c11
      refine gs0 17 [(0, .inr (.inr (some 725))), (1, .inl x1), (2, .inl x2)] [.inl 0] dM_132_16 (fun _ => rfl) (Or.inr rfl) ?_
      refine gsRet (r := some (.inl 0)) dM_132_17 (fun _ => rfl) (Or.inr rfl) ?_
      exact h
    · replace h := h.2 c11
      refine gs0 13 [(0, .inr (.inr (some 725))), (1, .inl x1), (2, .inl x2)] [.inl 1] dM_132_12 (fun _ => rfl) (Or.inr rfl) ?_
      refine gs0 17 [(0, .inr (.inr (some 725))), (1, .inl x1), (2, .inl x2)] [.inl 1] dM_132_13 (fun _ => rfl) (Or.inr rfl) ?_
      refine gsRet (r := some (.inl 1)) dM_132_17 (fun _ => rfl) (Or.inr rfl) ?_
      exact h
def g_133_36  (y1 : Int32) (sg : rSg) (P : Option rv → rSg → Prop) : Prop := GoS rSkel 1 9 2 (some .boolean) false prog_11_method_39_code 36 [(0, .inr (.inr (some 725))), (1, .inl y1)] [] sg P
set_option maxRecDepth 100000 in
theorem w_133_36 (sg : rSg)  (y1 : Int32) {P : Option rv → rSg → Prop} (h :
    (¬ (sg 725 46) = 40 → 
      (¬ y1 = 40 → 
        P (some (.inl 1)) (up2 sg 725 46 ((sg 725 46) + 1))) ∧
      (¬ (¬ y1 = 40) → 
        EvS rSkel 1 131 [.inr (.inr (some 725)), .inl 1, .inl 41] (up2 sg 725 46 ((sg 725 46) + 1)) (fun v15 t16 => v15 = none ∧
          EvS rSkel 1 131 [.inr (.inr (some 725)), .inl 2, .inl 116] t16 (fun v18 t19 => v18 = none ∧
            P (some (.inl 1)) t19)))) ∧
    (¬ (¬ (sg 725 46) = 40) → 
      (0 ≤ (sg 725 44) → 
        (¬ y1 = 40 → 
          P (some (.inl 1)) (up2 sg 725 46 ((sg 725 46) + 1))) ∧
        (¬ (¬ y1 = 40) → 
          EvS rSkel 1 131 [.inr (.inr (some 725)), .inl 1, .inl 41] (up2 sg 725 46 ((sg 725 46) + 1)) (fun v23 t24 => v23 = none ∧
            EvS rSkel 1 131 [.inr (.inr (some 725)), .inl 2, .inl 116] t24 (fun v26 t27 => v26 = none ∧
              P (some (.inl 1)) t27)))) ∧
      (¬ (0 ≤ (sg 725 44)) → 
        (¬ y1 = 40 → 
          P (some (.inl 1)) (up2 (up2 sg 725 44 (sg 725 43)) 725 46 ((sg 725 46) + 1))) ∧
        (¬ (¬ y1 = 40) → 
          EvS rSkel 1 131 [.inr (.inr (some 725)), .inl 1, .inl 41] (up2 (up2 sg 725 44 (sg 725 43)) 725 46 ((sg 725 46) + 1)) (fun v30 t31 => v30 = none ∧
            EvS rSkel 1 131 [.inr (.inr (some 725)), .inl 2, .inl 116] t31 (fun v33 t34 => v33 = none ∧
              P (some (.inl 1)) t34)))))) : g_133_36 y1 sg P := by
  show GoS rSkel 1 9 2 (some .boolean) false prog_11_method_39_code 36 [(0, .inr (.inr (some 725))), (1, .inl y1)] [] sg P
  refine gs0 37 [(0, .inr (.inr (some 725))), (1, .inl y1)] [.inr (.inr (some 725))] dM_133_36 (fun _ => rfl) (Or.inr rfl) ?_
  refine gsGetE (sg 725 46) dM_133_37 sk_725 rfl rfl rfl ?_
  refine gs0 42 [(0, .inr (.inr (some 725))), (1, .inl y1)] [.inl 40, .inl (sg 725 46)] dM_133_40 (fun _ => rfl) (Or.inr rfl) ?_
  refine gsIf (t := 60) (C := ¬ (sg 725 46) = 40) (r := []) dM_133_42 (fun _ => rfl) (Or.inr rfl) (rTest_iff .ne (sg 725 46) 40) (fun c13 => ?_) (fun c13 => ?_)
  · replace h := h.1 c13
    refine gs0 61 [(0, .inr (.inr (some 725))), (1, .inl y1)] [.inr (.inr (some 725))] dM_133_60 (fun _ => rfl) (Or.inr rfl) ?_
    refine gs0 62 [(0, .inr (.inr (some 725))), (1, .inl y1)] [.inr (.inr (some 725)), .inr (.inr (some 725))] dM_133_61 (fun _ => rfl) (Or.inr rfl) ?_
    refine gsGetE (sg 725 46) dM_133_62 sk_725 rfl rfl rfl ?_
    refine gs0 66 [(0, .inr (.inr (some 725))), (1, .inl y1)] [.inl 1, .inl (sg 725 46), .inr (.inr (some 725))] dM_133_65 (fun _ => rfl) (Or.inr rfl) ?_
    refine gs0 67 [(0, .inr (.inr (some 725))), (1, .inl y1)] [.inl ((sg 725 46) + 1), .inr (.inr (some 725))] dM_133_66 (fun _ => rfl) (Or.inr rfl) ?_
    refine gsPut dM_133_67 sk_725 rfl rfl rfl (by decide) ?_
    refine gs0 71 [(0, .inr (.inr (some 725))), (1, .inl y1)] [.inl y1] dM_133_70 (fun _ => rfl) (Or.inr rfl) ?_
    refine gs0 73 [(0, .inr (.inr (some 725))), (1, .inl y1)] [.inl 40, .inl y1] dM_133_71 (fun _ => rfl) (Or.inr rfl) ?_
    refine gsIf (t := 90) (C := ¬ y1 = 40) (r := []) dM_133_73 (fun _ => rfl) (Or.inr rfl) (rTest_iff .ne y1 40) (fun c14 => ?_) (fun c14 => ?_)
    · replace h := h.1 c14
      refine gs0 91 [(0, .inr (.inr (some 725))), (1, .inl y1)] [.inl 1] dM_133_90 (fun _ => rfl) (Or.inr rfl) ?_
      refine gsRet (r := some (.inl 1)) dM_133_91 (fun _ => rfl) (Or.inr rfl) ?_
      exact h
    · replace h := h.2 c14
      refine gs0 77 [(0, .inr (.inr (some 725))), (1, .inl y1)] [.inr (.inr (some 725))] dM_133_76 (fun _ => rfl) (Or.inr rfl) ?_
      refine gs0 78 [(0, .inr (.inr (some 725))), (1, .inl y1)] [.inl 1, .inr (.inr (some 725))] dM_133_77 (fun _ => rfl) (Or.inr rfl) ?_
      refine gs0 80 [(0, .inr (.inr (some 725))), (1, .inl y1)] [.inl 41, .inl 1, .inr (.inr (some 725))] dM_133_78 (fun _ => rfl) (Or.inr rfl) ?_
      refine gsCallV (y := 131) (k := 725) (as := [.inr (.inr (some 725)), .inl 1, .inl 41]) (r := []) dM_133_80 rfl rfl rfl (Nat.le_of_ble_eq_true rfl) sk_725 rfl (Nat.le_of_ble_eq_true rfl) (EvS.up h (Nat.le_of_ble_eq_true rfl)) (fun v15 t16 hv17 => ?_)
      obtain ⟨rfl, hn⟩ := hv17
      clear h
      show GoS _ _ _ _ _ _ _ _ [(0, .inr (.inr (some 725))), (1, .inl y1)] [] t16 _
      refine gs0 84 [(0, .inr (.inr (some 725))), (1, .inl y1)] [.inr (.inr (some 725))] dM_133_83 (fun _ => rfl) (Or.inr rfl) ?_
      refine gs0 85 [(0, .inr (.inr (some 725))), (1, .inl y1)] [.inl 2, .inr (.inr (some 725))] dM_133_84 (fun _ => rfl) (Or.inr rfl) ?_
      refine gs0 87 [(0, .inr (.inr (some 725))), (1, .inl y1)] [.inl 116, .inl 2, .inr (.inr (some 725))] dM_133_85 (fun _ => rfl) (Or.inr rfl) ?_
      refine gsCallV (y := 131) (k := 725) (as := [.inr (.inr (some 725)), .inl 2, .inl 116]) (r := []) dM_133_87 rfl rfl rfl (Nat.le_of_ble_eq_true rfl) sk_725 rfl (Nat.le_of_ble_eq_true rfl) (EvS.up hn (Nat.le_of_ble_eq_true rfl)) (fun v18 t19 hv20 => ?_)
      obtain ⟨rfl, hnn⟩ := hv20
      clear hn
      show GoS _ _ _ _ _ _ _ _ [(0, .inr (.inr (some 725))), (1, .inl y1)] [] t19 _
      refine gs0 91 [(0, .inr (.inr (some 725))), (1, .inl y1)] [.inl 1] dM_133_90 (fun _ => rfl) (Or.inr rfl) ?_
      refine gsRet (r := some (.inl 1)) dM_133_91 (fun _ => rfl) (Or.inr rfl) ?_
      exact hnn
  · replace h := h.2 c13
    refine gs0 46 [(0, .inr (.inr (some 725))), (1, .inl y1)] [.inr (.inr (some 725))] dM_133_45 (fun _ => rfl) (Or.inr rfl) ?_
    refine gsGetE (sg 725 44) dM_133_46 sk_725 rfl rfl rfl ?_
    refine gsIf (t := 60) (C := 0 ≤ (sg 725 44)) (r := []) dM_133_49 (fun _ => rfl) (Or.inr rfl) (rTest_iff .ge (sg 725 44) 0) (fun c21 => ?_) (fun c21 => ?_)
    · replace h := h.1 c21
      refine gs0 61 [(0, .inr (.inr (some 725))), (1, .inl y1)] [.inr (.inr (some 725))] dM_133_60 (fun _ => rfl) (Or.inr rfl) ?_
      refine gs0 62 [(0, .inr (.inr (some 725))), (1, .inl y1)] [.inr (.inr (some 725)), .inr (.inr (some 725))] dM_133_61 (fun _ => rfl) (Or.inr rfl) ?_
      refine gsGetE (sg 725 46) dM_133_62 sk_725 rfl rfl rfl ?_
      refine gs0 66 [(0, .inr (.inr (some 725))), (1, .inl y1)] [.inl 1, .inl (sg 725 46), .inr (.inr (some 725))] dM_133_65 (fun _ => rfl) (Or.inr rfl) ?_
      refine gs0 67 [(0, .inr (.inr (some 725))), (1, .inl y1)] [.inl ((sg 725 46) + 1), .inr (.inr (some 725))] dM_133_66 (fun _ => rfl) (Or.inr rfl) ?_
      refine gsPut dM_133_67 sk_725 rfl rfl rfl (by decide) ?_
      refine gs0 71 [(0, .inr (.inr (some 725))), (1, .inl y1)] [.inl y1] dM_133_70 (fun _ => rfl) (Or.inr rfl) ?_
      refine gs0 73 [(0, .inr (.inr (some 725))), (1, .inl y1)] [.inl 40, .inl y1] dM_133_71 (fun _ => rfl) (Or.inr rfl) ?_
      refine gsIf (t := 90) (C := ¬ y1 = 40) (r := []) dM_133_73 (fun _ => rfl) (Or.inr rfl) (rTest_iff .ne y1 40) (fun c22 => ?_) (fun c22 => ?_)
      · replace h := h.1 c22
        refine gs0 91 [(0, .inr (.inr (some 725))), (1, .inl y1)] [.inl 1] dM_133_90 (fun _ => rfl) (Or.inr rfl) ?_
        refine gsRet (r := some (.inl 1)) dM_133_91 (fun _ => rfl) (Or.inr rfl) ?_
        exact h
      · replace h := h.2 c22
        refine gs0 77 [(0, .inr (.inr (some 725))), (1, .inl y1)] [.inr (.inr (some 725))] dM_133_76 (fun _ => rfl) (Or.inr rfl) ?_
        refine gs0 78 [(0, .inr (.inr (some 725))), (1, .inl y1)] [.inl 1, .inr (.inr (some 725))] dM_133_77 (fun _ => rfl) (Or.inr rfl) ?_
        refine gs0 80 [(0, .inr (.inr (some 725))), (1, .inl y1)] [.inl 41, .inl 1, .inr (.inr (some 725))] dM_133_78 (fun _ => rfl) (Or.inr rfl) ?_
        refine gsCallV (y := 131) (k := 725) (as := [.inr (.inr (some 725)), .inl 1, .inl 41]) (r := []) dM_133_80 rfl rfl rfl (Nat.le_of_ble_eq_true rfl) sk_725 rfl (Nat.le_of_ble_eq_true rfl) (EvS.up h (Nat.le_of_ble_eq_true rfl)) (fun v23 t24 hv25 => ?_)
        obtain ⟨rfl, hn⟩ := hv25
        clear h
        show GoS _ _ _ _ _ _ _ _ [(0, .inr (.inr (some 725))), (1, .inl y1)] [] t24 _
        refine gs0 84 [(0, .inr (.inr (some 725))), (1, .inl y1)] [.inr (.inr (some 725))] dM_133_83 (fun _ => rfl) (Or.inr rfl) ?_
        refine gs0 85 [(0, .inr (.inr (some 725))), (1, .inl y1)] [.inl 2, .inr (.inr (some 725))] dM_133_84 (fun _ => rfl) (Or.inr rfl) ?_
        refine gs0 87 [(0, .inr (.inr (some 725))), (1, .inl y1)] [.inl 116, .inl 2, .inr (.inr (some 725))] dM_133_85 (fun _ => rfl) (Or.inr rfl) ?_
        refine gsCallV (y := 131) (k := 725) (as := [.inr (.inr (some 725)), .inl 2, .inl 116]) (r := []) dM_133_87 rfl rfl rfl (Nat.le_of_ble_eq_true rfl) sk_725 rfl (Nat.le_of_ble_eq_true rfl) (EvS.up hn (Nat.le_of_ble_eq_true rfl)) (fun v26 t27 hv28 => ?_)
        obtain ⟨rfl, hnn⟩ := hv28
        clear hn
        show GoS _ _ _ _ _ _ _ _ [(0, .inr (.inr (some 725))), (1, .inl y1)] [] t27 _
        refine gs0 91 [(0, .inr (.inr (some 725))), (1, .inl y1)] [.inl 1] dM_133_90 (fun _ => rfl) (Or.inr rfl) ?_
        refine gsRet (r := some (.inl 1)) dM_133_91 (fun _ => rfl) (Or.inr rfl) ?_
        exact hnn
    · replace h := h.2 c21
      refine gs0 53 [(0, .inr (.inr (some 725))), (1, .inl y1)] [.inr (.inr (some 725))] dM_133_52 (fun _ => rfl) (Or.inr rfl) ?_
      refine gs0 54 [(0, .inr (.inr (some 725))), (1, .inl y1)] [.inr (.inr (some 725)), .inr (.inr (some 725))] dM_133_53 (fun _ => rfl) (Or.inr rfl) ?_
      refine gsGetE (sg 725 43) dM_133_54 sk_725 rfl rfl rfl ?_
      refine gsPut dM_133_57 sk_725 rfl rfl rfl (by decide) ?_
      refine gs0 61 [(0, .inr (.inr (some 725))), (1, .inl y1)] [.inr (.inr (some 725))] dM_133_60 (fun _ => rfl) (Or.inr rfl) ?_
      refine gs0 62 [(0, .inr (.inr (some 725))), (1, .inl y1)] [.inr (.inr (some 725)), .inr (.inr (some 725))] dM_133_61 (fun _ => rfl) (Or.inr rfl) ?_
      refine gsGetE (sg 725 46) dM_133_62 sk_725 rfl rfl (up2_nj _ _ _ (by decide)) ?_
      refine gs0 66 [(0, .inr (.inr (some 725))), (1, .inl y1)] [.inl 1, .inl (sg 725 46), .inr (.inr (some 725))] dM_133_65 (fun _ => rfl) (Or.inr rfl) ?_
      refine gs0 67 [(0, .inr (.inr (some 725))), (1, .inl y1)] [.inl ((sg 725 46) + 1), .inr (.inr (some 725))] dM_133_66 (fun _ => rfl) (Or.inr rfl) ?_
      refine gsPut dM_133_67 sk_725 rfl rfl rfl (by decide) ?_
      refine gs0 71 [(0, .inr (.inr (some 725))), (1, .inl y1)] [.inl y1] dM_133_70 (fun _ => rfl) (Or.inr rfl) ?_
      refine gs0 73 [(0, .inr (.inr (some 725))), (1, .inl y1)] [.inl 40, .inl y1] dM_133_71 (fun _ => rfl) (Or.inr rfl) ?_
      refine gsIf (t := 90) (C := ¬ y1 = 40) (r := []) dM_133_73 (fun _ => rfl) (Or.inr rfl) (rTest_iff .ne y1 40) (fun c29 => ?_) (fun c29 => ?_)
      · replace h := h.1 c29
        refine gs0 91 [(0, .inr (.inr (some 725))), (1, .inl y1)] [.inl 1] dM_133_90 (fun _ => rfl) (Or.inr rfl) ?_
        refine gsRet (r := some (.inl 1)) dM_133_91 (fun _ => rfl) (Or.inr rfl) ?_
        exact h
      · replace h := h.2 c29
        refine gs0 77 [(0, .inr (.inr (some 725))), (1, .inl y1)] [.inr (.inr (some 725))] dM_133_76 (fun _ => rfl) (Or.inr rfl) ?_
        refine gs0 78 [(0, .inr (.inr (some 725))), (1, .inl y1)] [.inl 1, .inr (.inr (some 725))] dM_133_77 (fun _ => rfl) (Or.inr rfl) ?_
        refine gs0 80 [(0, .inr (.inr (some 725))), (1, .inl y1)] [.inl 41, .inl 1, .inr (.inr (some 725))] dM_133_78 (fun _ => rfl) (Or.inr rfl) ?_
        refine gsCallV (y := 131) (k := 725) (as := [.inr (.inr (some 725)), .inl 1, .inl 41]) (r := []) dM_133_80 rfl rfl rfl (Nat.le_of_ble_eq_true rfl) sk_725 rfl (Nat.le_of_ble_eq_true rfl) (EvS.up h (Nat.le_of_ble_eq_true rfl)) (fun v30 t31 hv32 => ?_)
        obtain ⟨rfl, hn⟩ := hv32
        clear h
        show GoS _ _ _ _ _ _ _ _ [(0, .inr (.inr (some 725))), (1, .inl y1)] [] t31 _
        refine gs0 84 [(0, .inr (.inr (some 725))), (1, .inl y1)] [.inr (.inr (some 725))] dM_133_83 (fun _ => rfl) (Or.inr rfl) ?_
        refine gs0 85 [(0, .inr (.inr (some 725))), (1, .inl y1)] [.inl 2, .inr (.inr (some 725))] dM_133_84 (fun _ => rfl) (Or.inr rfl) ?_
        refine gs0 87 [(0, .inr (.inr (some 725))), (1, .inl y1)] [.inl 116, .inl 2, .inr (.inr (some 725))] dM_133_85 (fun _ => rfl) (Or.inr rfl) ?_
        refine gsCallV (y := 131) (k := 725) (as := [.inr (.inr (some 725)), .inl 2, .inl 116]) (r := []) dM_133_87 rfl rfl rfl (Nat.le_of_ble_eq_true rfl) sk_725 rfl (Nat.le_of_ble_eq_true rfl) (EvS.up hn (Nat.le_of_ble_eq_true rfl)) (fun v33 t34 hv35 => ?_)
        obtain ⟨rfl, hnn⟩ := hv35
        clear hn
        show GoS _ _ _ _ _ _ _ _ [(0, .inr (.inr (some 725))), (1, .inl y1)] [] t34 _
        refine gs0 91 [(0, .inr (.inr (some 725))), (1, .inl y1)] [.inl 1] dM_133_90 (fun _ => rfl) (Or.inr rfl) ?_
        refine gsRet (r := some (.inl 1)) dM_133_91 (fun _ => rfl) (Or.inr rfl) ?_
        exact hnn
set_option maxRecDepth 100000 in
/-- GoalsInAQueueModel.readsTerm -/
theorem w_133 (sg : rSg) (x1 : Int32) {P : Option rv → rSg → Prop} (h :
    EvS rSkel 1 119 [.inl x1, .inl 97, .inl 102] sg (fun v1 t2 => ∃ n4, v1 = some (.inl n4) ∧
      (¬ n4 = 0 → 
        g_133_36 x1 t2 P) ∧
      (¬ (¬ n4 = 0) → 
        EvS rSkel 1 119 [.inl x1, .inl 48, .inl 57] t2 (fun v6 t7 => ∃ n9, v6 = some (.inl n9) ∧
          (¬ n9 = 0 → 
            g_133_36 x1 t7 P) ∧
          (¬ (¬ n9 = 0) → 
            (x1 = 110 → 
              g_133_36 x1 t7 P) ∧
            (¬ (x1 = 110) → 
              (x1 = 40 → 
                g_133_36 x1 t7 P) ∧
              (¬ (x1 = 40) → 
                P (some (.inl 0)) t7))))))) : EvS rSkel 2 133 [.inr (.inr (some 725)), .inl x1] sg P := by
  refine EvS.of (ini := false) rfl ⟨rfl, Nat.le_of_ble_eq_true rfl⟩ rfl ?_
  show GoS rSkel 1 9 2 (some .boolean) false prog_11_method_39_code 0 [(0, .inr (.inr (some 725))), (1, .inl x1)] [] sg _
  refine gs0 1 [(0, .inr (.inr (some 725))), (1, .inl x1)] [.inl x1] dM_133_0 (fun _ => rfl) (Or.inr rfl) ?_
  refine gs0 3 [(0, .inr (.inr (some 725))), (1, .inl x1)] [.inl 97, .inl x1] dM_133_1 (fun _ => rfl) (Or.inr rfl) ?_
  refine gs0 5 [(0, .inr (.inr (some 725))), (1, .inl x1)] [.inl 102, .inl 97, .inl x1] dM_133_3 (fun _ => rfl) (Or.inr rfl) ?_
  refine gsCallS (y := 119) (as := [.inl x1, .inl 97, .inl 102]) (r := []) dM_133_5 rfl (Or.inl rfl) rfl rfl (Nat.le_of_ble_eq_true rfl) (EvS.up h (Nat.le_of_ble_eq_true rfl)) (fun v1 t2 hv3 => ?_)
  obtain ⟨n4, rfl, hn⟩ := hv3
  clear h
  show GoS _ _ _ _ _ _ _ _ [(0, .inr (.inr (some 725))), (1, .inl x1)] [.inl n4] t2 _
  refine gsIf (t := 36) (C := ¬ n4 = 0) (r := []) dM_133_8 (fun _ => rfl) (Or.inr rfl) (rTest_iff .ne n4 0) (fun c5 => ?_) (fun c5 => ?_)
  · replace hn := hn.1 c5
    exact GoS.sub (Lnd_keys (ks := [0, 1]) rfl (by decide)) (Lsub_cons rfl (Lsub_cons rfl Lsub_nil)) hn
  · replace hn := hn.2 c5
    refine gs0 12 [(0, .inr (.inr (some 725))), (1, .inl x1)] [.inl x1] dM_133_11 (fun _ => rfl) (Or.inr rfl) ?_
    refine gs0 14 [(0, .inr (.inr (some 725))), (1, .inl x1)] [.inl 48, .inl x1] dM_133_12 (fun _ => rfl) (Or.inr rfl) ?_
    refine gs0 16 [(0, .inr (.inr (some 725))), (1, .inl x1)] [.inl 57, .inl 48, .inl x1] dM_133_14 (fun _ => rfl) (Or.inr rfl) ?_
    refine gsCallS (y := 119) (as := [.inl x1, .inl 48, .inl 57]) (r := []) dM_133_16 rfl (Or.inl rfl) rfl rfl (Nat.le_of_ble_eq_true rfl) (EvS.up hn (Nat.le_of_ble_eq_true rfl)) (fun v6 t7 hv8 => ?_)
    obtain ⟨n9, rfl, hnn⟩ := hv8
    clear hn
    show GoS _ _ _ _ _ _ _ _ [(0, .inr (.inr (some 725))), (1, .inl x1)] [.inl n9] t7 _
    refine gsIf (t := 36) (C := ¬ n9 = 0) (r := []) dM_133_19 (fun _ => rfl) (Or.inr rfl) (rTest_iff .ne n9 0) (fun c10 => ?_) (fun c10 => ?_)
    · replace hnn := hnn.1 c10
      exact GoS.sub (Lnd_keys (ks := [0, 1]) rfl (by decide)) (Lsub_cons rfl (Lsub_cons rfl Lsub_nil)) hnn
    · replace hnn := hnn.2 c10
      refine gs0 23 [(0, .inr (.inr (some 725))), (1, .inl x1)] [.inl x1] dM_133_22 (fun _ => rfl) (Or.inr rfl) ?_
      refine gs0 25 [(0, .inr (.inr (some 725))), (1, .inl x1)] [.inl 110, .inl x1] dM_133_23 (fun _ => rfl) (Or.inr rfl) ?_
      refine gsIf (t := 36) (C := x1 = 110) (r := []) dM_133_25 (fun _ => rfl) (Or.inr rfl) (rTest_iff .eq x1 110) (fun c11 => ?_) (fun c11 => ?_)
      · replace hnn := hnn.1 c11
        exact GoS.sub (Lnd_keys (ks := [0, 1]) rfl (by decide)) (Lsub_cons rfl (Lsub_cons rfl Lsub_nil)) hnn
      · replace hnn := hnn.2 c11
        refine gs0 29 [(0, .inr (.inr (some 725))), (1, .inl x1)] [.inl x1] dM_133_28 (fun _ => rfl) (Or.inr rfl) ?_
        refine gs0 31 [(0, .inr (.inr (some 725))), (1, .inl x1)] [.inl 40, .inl x1] dM_133_29 (fun _ => rfl) (Or.inr rfl) ?_
        refine gsIf (t := 36) (C := x1 = 40) (r := []) dM_133_31 (fun _ => rfl) (Or.inr rfl) (rTest_iff .eq x1 40) (fun c12 => ?_) (fun c12 => ?_)
        · replace hnn := hnn.1 c12
          exact GoS.sub (Lnd_keys (ks := [0, 1]) rfl (by decide)) (Lsub_cons rfl (Lsub_cons rfl Lsub_nil)) hnn
        · replace hnn := hnn.2 c12
          refine gs0 35 [(0, .inr (.inr (some 725))), (1, .inl x1)] [.inl 0] dM_133_34 (fun _ => rfl) (Or.inr rfl) ?_
          refine gsRet (r := some (.inl 0)) dM_133_35 (fun _ => rfl) (Or.inr rfl) ?_
          exact hnn
def g_134_50  (y1 : Int32) (sg : rSg) (P : Option rv → rSg → Prop) : Prop := GoS rSkel 1 9 2 (some .boolean) false prog_11_method_40_code 50 [(0, .inr (.inr (some 725))), (1, .inl y1)] [] sg P
def g_134_109  (y1 : Int32) (sg : rSg) (P : Option rv → rSg → Prop) : Prop := GoS rSkel 1 9 2 (some .boolean) false prog_11_method_40_code 109 [(0, .inr (.inr (some 725))), (1, .inl y1)] [] sg P
set_option maxRecDepth 100000 in
theorem w_134_50 (sg : rSg)  (y1 : Int32) {P : Option rv → rSg → Prop} (h :
    (¬ (sg 725 45) = 24 → 
      (y1 = 61 → 
        EvS rSkel 1 131 [.inr (.inr (some 725)), .inl 2, .inl 116] (up2 sg 725 45 ((sg 725 45) + 1)) (fun v11 t12 => v11 = none ∧
          g_134_109 y1 t12 P)) ∧
      (¬ (y1 = 61) → 
        (y1 = 35 → 
          EvS rSkel 1 131 [.inr (.inr (some 725)), .inl 2, .inl 116] (up2 sg 725 45 ((sg 725 45) + 1)) (fun v15 t16 => v15 = none ∧
            g_134_109 y1 t16 P)) ∧
        (¬ (y1 = 35) → 
          (¬ y1 = 77 → 
            g_134_109 y1 (up2 sg 725 45 ((sg 725 45) + 1)) P) ∧
          (¬ (¬ y1 = 77) → 
            EvS rSkel 1 131 [.inr (.inr (some 725)), .inl 2, .inl 116] (up2 sg 725 45 ((sg 725 45) + 1)) (fun v19 t20 => v19 = none ∧
              g_134_109 y1 t20 P))))) ∧
    (¬ (¬ (sg 725 45) = 24) → 
      (0 ≤ (sg 725 44) → 
        (y1 = 61 → 
          EvS rSkel 1 131 [.inr (.inr (some 725)), .inl 2, .inl 116] (up2 sg 725 45 ((sg 725 45) + 1)) (fun v24 t25 => v24 = none ∧
            g_134_109 y1 t25 P)) ∧
        (¬ (y1 = 61) → 
          (y1 = 35 → 
            EvS rSkel 1 131 [.inr (.inr (some 725)), .inl 2, .inl 116] (up2 sg 725 45 ((sg 725 45) + 1)) (fun v28 t29 => v28 = none ∧
              g_134_109 y1 t29 P)) ∧
          (¬ (y1 = 35) → 
            (¬ y1 = 77 → 
              g_134_109 y1 (up2 sg 725 45 ((sg 725 45) + 1)) P) ∧
            (¬ (¬ y1 = 77) → 
              EvS rSkel 1 131 [.inr (.inr (some 725)), .inl 2, .inl 116] (up2 sg 725 45 ((sg 725 45) + 1)) (fun v32 t33 => v32 = none ∧
                g_134_109 y1 t33 P))))) ∧
      (¬ (0 ≤ (sg 725 44)) → 
        (y1 = 61 → 
          EvS rSkel 1 131 [.inr (.inr (some 725)), .inl 2, .inl 116] (up2 (up2 sg 725 44 (sg 725 43)) 725 45 ((sg 725 45) + 1)) (fun v36 t37 => v36 = none ∧
            g_134_109 y1 t37 P)) ∧
        (¬ (y1 = 61) → 
          (y1 = 35 → 
            EvS rSkel 1 131 [.inr (.inr (some 725)), .inl 2, .inl 116] (up2 (up2 sg 725 44 (sg 725 43)) 725 45 ((sg 725 45) + 1)) (fun v40 t41 => v40 = none ∧
              g_134_109 y1 t41 P)) ∧
          (¬ (y1 = 35) → 
            (¬ y1 = 77 → 
              g_134_109 y1 (up2 (up2 sg 725 44 (sg 725 43)) 725 45 ((sg 725 45) + 1)) P) ∧
            (¬ (¬ y1 = 77) → 
              EvS rSkel 1 131 [.inr (.inr (some 725)), .inl 2, .inl 116] (up2 (up2 sg 725 44 (sg 725 43)) 725 45 ((sg 725 45) + 1)) (fun v44 t45 => v44 = none ∧
                g_134_109 y1 t45 P))))))) : g_134_50 y1 sg P := by
  show GoS rSkel 1 9 2 (some .boolean) false prog_11_method_40_code 50 [(0, .inr (.inr (some 725))), (1, .inl y1)] [] sg P
  refine gs0 51 [(0, .inr (.inr (some 725))), (1, .inl y1)] [.inr (.inr (some 725))] dM_134_50 (fun _ => rfl) (Or.inr rfl) ?_
  refine gsGetE (sg 725 45) dM_134_51 sk_725 rfl rfl rfl ?_
  refine gs0 56 [(0, .inr (.inr (some 725))), (1, .inl y1)] [.inl 24, .inl (sg 725 45)] dM_134_54 (fun _ => rfl) (Or.inr rfl) ?_
  refine gsIf (t := 74) (C := ¬ (sg 725 45) = 24) (r := []) dM_134_56 (fun _ => rfl) (Or.inr rfl) (rTest_iff .ne (sg 725 45) 24) (fun c9 => ?_) (fun c9 => ?_)
  · replace h := h.1 c9
    refine gs0 75 [(0, .inr (.inr (some 725))), (1, .inl y1)] [.inr (.inr (some 725))] dM_134_74 (fun _ => rfl) (Or.inr rfl) ?_
    refine gs0 76 [(0, .inr (.inr (some 725))), (1, .inl y1)] [.inr (.inr (some 725)), .inr (.inr (some 725))] dM_134_75 (fun _ => rfl) (Or.inr rfl) ?_
    refine gsGetE (sg 725 45) dM_134_76 sk_725 rfl rfl rfl ?_
    refine gs0 80 [(0, .inr (.inr (some 725))), (1, .inl y1)] [.inl 1, .inl (sg 725 45), .inr (.inr (some 725))] dM_134_79 (fun _ => rfl) (Or.inr rfl) ?_
    refine gs0 81 [(0, .inr (.inr (some 725))), (1, .inl y1)] [.inl ((sg 725 45) + 1), .inr (.inr (some 725))] dM_134_80 (fun _ => rfl) (Or.inr rfl) ?_
    refine gsPut dM_134_81 sk_725 rfl rfl rfl (by decide) ?_
    refine gs0 85 [(0, .inr (.inr (some 725))), (1, .inl y1)] [.inl y1] dM_134_84 (fun _ => rfl) (Or.inr rfl) ?_
    refine gs0 87 [(0, .inr (.inr (some 725))), (1, .inl y1)] [.inl 61, .inl y1] dM_134_85 (fun _ => rfl) (Or.inr rfl) ?_
    refine gsIf (t := 102) (C := y1 = 61) (r := []) dM_134_87 (fun _ => rfl) (Or.inr rfl) (rTest_iff .eq y1 61) (fun c10 => ?_) (fun c10 => ?_)
    · replace h := h.1 c10
      refine gs0 103 [(0, .inr (.inr (some 725))), (1, .inl y1)] [.inr (.inr (some 725))] dM_134_102 (fun _ => rfl) (Or.inr rfl) ?_
      refine gs0 104 [(0, .inr (.inr (some 725))), (1, .inl y1)] [.inl 2, .inr (.inr (some 725))] dM_134_103 (fun _ => rfl) (Or.inr rfl) ?_
      refine gs0 106 [(0, .inr (.inr (some 725))), (1, .inl y1)] [.inl 116, .inl 2, .inr (.inr (some 725))] dM_134_104 (fun _ => rfl) (Or.inr rfl) ?_
      refine gsCallV (y := 131) (k := 725) (as := [.inr (.inr (some 725)), .inl 2, .inl 116]) (r := []) dM_134_106 rfl rfl rfl (Nat.le_of_ble_eq_true rfl) sk_725 rfl (Nat.le_of_ble_eq_true rfl) (EvS.up h (Nat.le_of_ble_eq_true rfl)) (fun v11 t12 hv13 => ?_)
      obtain ⟨rfl, hn⟩ := hv13
      clear h
      show GoS _ _ _ _ _ _ _ _ [(0, .inr (.inr (some 725))), (1, .inl y1)] [] t12 _
      exact GoS.sub (Lnd_keys (ks := [0, 1]) rfl (by decide)) (Lsub_cons rfl (Lsub_cons rfl Lsub_nil)) hn
    · replace h := h.2 c10
      refine gs0 91 [(0, .inr (.inr (some 725))), (1, .inl y1)] [.inl y1] dM_134_90 (fun _ => rfl) (Or.inr rfl) ?_
      refine gs0 93 [(0, .inr (.inr (some 725))), (1, .inl y1)] [.inl 35, .inl y1] dM_134_91 (fun _ => rfl) (Or.inr rfl) ?_
      refine gsIf (t := 102) (C := y1 = 35) (r := []) dM_134_93 (fun _ => rfl) (Or.inr rfl) (rTest_iff .eq y1 35) (fun c14 => ?_) (fun c14 => ?_)
      · replace h := h.1 c14
        refine gs0 103 [(0, .inr (.inr (some 725))), (1, .inl y1)] [.inr (.inr (some 725))] dM_134_102 (fun _ => rfl) (Or.inr rfl) ?_
        refine gs0 104 [(0, .inr (.inr (some 725))), (1, .inl y1)] [.inl 2, .inr (.inr (some 725))] dM_134_103 (fun _ => rfl) (Or.inr rfl) ?_
        refine gs0 106 [(0, .inr (.inr (some 725))), (1, .inl y1)] [.inl 116, .inl 2, .inr (.inr (some 725))] dM_134_104 (fun _ => rfl) (Or.inr rfl) ?_
        refine gsCallV (y := 131) (k := 725) (as := [.inr (.inr (some 725)), .inl 2, .inl 116]) (r := []) dM_134_106 rfl rfl rfl (Nat.le_of_ble_eq_true rfl) sk_725 rfl (Nat.le_of_ble_eq_true rfl) (EvS.up h (Nat.le_of_ble_eq_true rfl)) (fun v15 t16 hv17 => ?_)
        obtain ⟨rfl, hn⟩ := hv17
        clear h
        show GoS _ _ _ _ _ _ _ _ [(0, .inr (.inr (some 725))), (1, .inl y1)] [] t16 _
        exact GoS.sub (Lnd_keys (ks := [0, 1]) rfl (by decide)) (Lsub_cons rfl (Lsub_cons rfl Lsub_nil)) hn
      · replace h := h.2 c14
        refine gs0 97 [(0, .inr (.inr (some 725))), (1, .inl y1)] [.inl y1] dM_134_96 (fun _ => rfl) (Or.inr rfl) ?_
        refine gs0 99 [(0, .inr (.inr (some 725))), (1, .inl y1)] [.inl 77, .inl y1] dM_134_97 (fun _ => rfl) (Or.inr rfl) ?_
        refine gsIf (t := 109) (C := ¬ y1 = 77) (r := []) dM_134_99 (fun _ => rfl) (Or.inr rfl) (rTest_iff .ne y1 77) (fun c18 => ?_) (fun c18 => ?_)
        · replace h := h.1 c18
          exact GoS.sub (Lnd_keys (ks := [0, 1]) rfl (by decide)) (Lsub_cons rfl (Lsub_cons rfl Lsub_nil)) h
        · replace h := h.2 c18
          refine gs0 103 [(0, .inr (.inr (some 725))), (1, .inl y1)] [.inr (.inr (some 725))] dM_134_102 (fun _ => rfl) (Or.inr rfl) ?_
          refine gs0 104 [(0, .inr (.inr (some 725))), (1, .inl y1)] [.inl 2, .inr (.inr (some 725))] dM_134_103 (fun _ => rfl) (Or.inr rfl) ?_
          refine gs0 106 [(0, .inr (.inr (some 725))), (1, .inl y1)] [.inl 116, .inl 2, .inr (.inr (some 725))] dM_134_104 (fun _ => rfl) (Or.inr rfl) ?_
          refine gsCallV (y := 131) (k := 725) (as := [.inr (.inr (some 725)), .inl 2, .inl 116]) (r := []) dM_134_106 rfl rfl rfl (Nat.le_of_ble_eq_true rfl) sk_725 rfl (Nat.le_of_ble_eq_true rfl) (EvS.up h (Nat.le_of_ble_eq_true rfl)) (fun v19 t20 hv21 => ?_)
          obtain ⟨rfl, hn⟩ := hv21
          clear h
          show GoS _ _ _ _ _ _ _ _ [(0, .inr (.inr (some 725))), (1, .inl y1)] [] t20 _
          exact GoS.sub (Lnd_keys (ks := [0, 1]) rfl (by decide)) (Lsub_cons rfl (Lsub_cons rfl Lsub_nil)) hn
  · replace h := h.2 c9
    refine gs0 60 [(0, .inr (.inr (some 725))), (1, .inl y1)] [.inr (.inr (some 725))] dM_134_59 (fun _ => rfl) (Or.inr rfl) ?_
    refine gsGetE (sg 725 44) dM_134_60 sk_725 rfl rfl rfl ?_
    refine gsIf (t := 74) (C := 0 ≤ (sg 725 44)) (r := []) dM_134_63 (fun _ => rfl) (Or.inr rfl) (rTest_iff .ge (sg 725 44) 0) (fun c22 => ?_) (fun c22 => ?_)
    · replace h := h.1 c22
      refine gs0 75 [(0, .inr (.inr (some 725))), (1, .inl y1)] [.inr (.inr (some 725))] dM_134_74 (fun _ => rfl) (Or.inr rfl) ?_
      refine gs0 76 [(0, .inr (.inr (some 725))), (1, .inl y1)] [.inr (.inr (some 725)), .inr (.inr (some 725))] dM_134_75 (fun _ => rfl) (Or.inr rfl) ?_
      refine gsGetE (sg 725 45) dM_134_76 sk_725 rfl rfl rfl ?_
      refine gs0 80 [(0, .inr (.inr (some 725))), (1, .inl y1)] [.inl 1, .inl (sg 725 45), .inr (.inr (some 725))] dM_134_79 (fun _ => rfl) (Or.inr rfl) ?_
      refine gs0 81 [(0, .inr (.inr (some 725))), (1, .inl y1)] [.inl ((sg 725 45) + 1), .inr (.inr (some 725))] dM_134_80 (fun _ => rfl) (Or.inr rfl) ?_
      refine gsPut dM_134_81 sk_725 rfl rfl rfl (by decide) ?_
      refine gs0 85 [(0, .inr (.inr (some 725))), (1, .inl y1)] [.inl y1] dM_134_84 (fun _ => rfl) (Or.inr rfl) ?_
      refine gs0 87 [(0, .inr (.inr (some 725))), (1, .inl y1)] [.inl 61, .inl y1] dM_134_85 (fun _ => rfl) (Or.inr rfl) ?_
      refine gsIf (t := 102) (C := y1 = 61) (r := []) dM_134_87 (fun _ => rfl) (Or.inr rfl) (rTest_iff .eq y1 61) (fun c23 => ?_) (fun c23 => ?_)
      · replace h := h.1 c23
        refine gs0 103 [(0, .inr (.inr (some 725))), (1, .inl y1)] [.inr (.inr (some 725))] dM_134_102 (fun _ => rfl) (Or.inr rfl) ?_
        refine gs0 104 [(0, .inr (.inr (some 725))), (1, .inl y1)] [.inl 2, .inr (.inr (some 725))] dM_134_103 (fun _ => rfl) (Or.inr rfl) ?_
        refine gs0 106 [(0, .inr (.inr (some 725))), (1, .inl y1)] [.inl 116, .inl 2, .inr (.inr (some 725))] dM_134_104 (fun _ => rfl) (Or.inr rfl) ?_
        refine gsCallV (y := 131) (k := 725) (as := [.inr (.inr (some 725)), .inl 2, .inl 116]) (r := []) dM_134_106 rfl rfl rfl (Nat.le_of_ble_eq_true rfl) sk_725 rfl (Nat.le_of_ble_eq_true rfl) (EvS.up h (Nat.le_of_ble_eq_true rfl)) (fun v24 t25 hv26 => ?_)
        obtain ⟨rfl, hn⟩ := hv26
        clear h
        show GoS _ _ _ _ _ _ _ _ [(0, .inr (.inr (some 725))), (1, .inl y1)] [] t25 _
        exact GoS.sub (Lnd_keys (ks := [0, 1]) rfl (by decide)) (Lsub_cons rfl (Lsub_cons rfl Lsub_nil)) hn
      · replace h := h.2 c23
        refine gs0 91 [(0, .inr (.inr (some 725))), (1, .inl y1)] [.inl y1] dM_134_90 (fun _ => rfl) (Or.inr rfl) ?_
        refine gs0 93 [(0, .inr (.inr (some 725))), (1, .inl y1)] [.inl 35, .inl y1] dM_134_91 (fun _ => rfl) (Or.inr rfl) ?_
        refine gsIf (t := 102) (C := y1 = 35) (r := []) dM_134_93 (fun _ => rfl) (Or.inr rfl) (rTest_iff .eq y1 35) (fun c27 => ?_) (fun c27 => ?_)
        · replace h := h.1 c27
          refine gs0 103 [(0, .inr (.inr (some 725))), (1, .inl y1)] [.inr (.inr (some 725))] dM_134_102 (fun _ => rfl) (Or.inr rfl) ?_
          refine gs0 104 [(0, .inr (.inr (some 725))), (1, .inl y1)] [.inl 2, .inr (.inr (some 725))] dM_134_103 (fun _ => rfl) (Or.inr rfl) ?_
          refine gs0 106 [(0, .inr (.inr (some 725))), (1, .inl y1)] [.inl 116, .inl 2, .inr (.inr (some 725))] dM_134_104 (fun _ => rfl) (Or.inr rfl) ?_
          refine gsCallV (y := 131) (k := 725) (as := [.inr (.inr (some 725)), .inl 2, .inl 116]) (r := []) dM_134_106 rfl rfl rfl (Nat.le_of_ble_eq_true rfl) sk_725 rfl (Nat.le_of_ble_eq_true rfl) (EvS.up h (Nat.le_of_ble_eq_true rfl)) (fun v28 t29 hv30 => ?_)
          obtain ⟨rfl, hn⟩ := hv30
          clear h
          show GoS _ _ _ _ _ _ _ _ [(0, .inr (.inr (some 725))), (1, .inl y1)] [] t29 _
          exact GoS.sub (Lnd_keys (ks := [0, 1]) rfl (by decide)) (Lsub_cons rfl (Lsub_cons rfl Lsub_nil)) hn
        · replace h := h.2 c27
          refine gs0 97 [(0, .inr (.inr (some 725))), (1, .inl y1)] [.inl y1] dM_134_96 (fun _ => rfl) (Or.inr rfl) ?_
          refine gs0 99 [(0, .inr (.inr (some 725))), (1, .inl y1)] [.inl 77, .inl y1] dM_134_97 (fun _ => rfl) (Or.inr rfl) ?_
          refine gsIf (t := 109) (C := ¬ y1 = 77) (r := []) dM_134_99 (fun _ => rfl) (Or.inr rfl) (rTest_iff .ne y1 77) (fun c31 => ?_) (fun c31 => ?_)
          · replace h := h.1 c31
            exact GoS.sub (Lnd_keys (ks := [0, 1]) rfl (by decide)) (Lsub_cons rfl (Lsub_cons rfl Lsub_nil)) h
          · replace h := h.2 c31
            refine gs0 103 [(0, .inr (.inr (some 725))), (1, .inl y1)] [.inr (.inr (some 725))] dM_134_102 (fun _ => rfl) (Or.inr rfl) ?_
            refine gs0 104 [(0, .inr (.inr (some 725))), (1, .inl y1)] [.inl 2, .inr (.inr (some 725))] dM_134_103 (fun _ => rfl) (Or.inr rfl) ?_
            refine gs0 106 [(0, .inr (.inr (some 725))), (1, .inl y1)] [.inl 116, .inl 2, .inr (.inr (some 725))] dM_134_104 (fun _ => rfl) (Or.inr rfl) ?_
            refine gsCallV (y := 131) (k := 725) (as := [.inr (.inr (some 725)), .inl 2, .inl 116]) (r := []) dM_134_106 rfl rfl rfl (Nat.le_of_ble_eq_true rfl) sk_725 rfl (Nat.le_of_ble_eq_true rfl) (EvS.up h (Nat.le_of_ble_eq_true rfl)) (fun v32 t33 hv34 => ?_)
            obtain ⟨rfl, hn⟩ := hv34
            clear h
            show GoS _ _ _ _ _ _ _ _ [(0, .inr (.inr (some 725))), (1, .inl y1)] [] t33 _
            exact GoS.sub (Lnd_keys (ks := [0, 1]) rfl (by decide)) (Lsub_cons rfl (Lsub_cons rfl Lsub_nil)) hn
    · replace h := h.2 c22
      refine gs0 67 [(0, .inr (.inr (some 725))), (1, .inl y1)] [.inr (.inr (some 725))] dM_134_66 (fun _ => rfl) (Or.inr rfl) ?_
      refine gs0 68 [(0, .inr (.inr (some 725))), (1, .inl y1)] [.inr (.inr (some 725)), .inr (.inr (some 725))] dM_134_67 (fun _ => rfl) (Or.inr rfl) ?_
      refine gsGetE (sg 725 43) dM_134_68 sk_725 rfl rfl rfl ?_
      refine gsPut dM_134_71 sk_725 rfl rfl rfl (by decide) ?_
      refine gs0 75 [(0, .inr (.inr (some 725))), (1, .inl y1)] [.inr (.inr (some 725))] dM_134_74 (fun _ => rfl) (Or.inr rfl) ?_
      refine gs0 76 [(0, .inr (.inr (some 725))), (1, .inl y1)] [.inr (.inr (some 725)), .inr (.inr (some 725))] dM_134_75 (fun _ => rfl) (Or.inr rfl) ?_
      refine gsGetE (sg 725 45) dM_134_76 sk_725 rfl rfl (up2_nj _ _ _ (by decide)) ?_
      refine gs0 80 [(0, .inr (.inr (some 725))), (1, .inl y1)] [.inl 1, .inl (sg 725 45), .inr (.inr (some 725))] dM_134_79 (fun _ => rfl) (Or.inr rfl) ?_
      refine gs0 81 [(0, .inr (.inr (some 725))), (1, .inl y1)] [.inl ((sg 725 45) + 1), .inr (.inr (some 725))] dM_134_80 (fun _ => rfl) (Or.inr rfl) ?_
      refine gsPut dM_134_81 sk_725 rfl rfl rfl (by decide) ?_
      refine gs0 85 [(0, .inr (.inr (some 725))), (1, .inl y1)] [.inl y1] dM_134_84 (fun _ => rfl) (Or.inr rfl) ?_
      refine gs0 87 [(0, .inr (.inr (some 725))), (1, .inl y1)] [.inl 61, .inl y1] dM_134_85 (fun _ => rfl) (Or.inr rfl) ?_
      refine gsIf (t := 102) (C := y1 = 61) (r := []) dM_134_87 (fun _ => rfl) (Or.inr rfl) (rTest_iff .eq y1 61) (fun c35 => ?_) (fun c35 => ?_)
      · replace h := h.1 c35
        refine gs0 103 [(0, .inr (.inr (some 725))), (1, .inl y1)] [.inr (.inr (some 725))] dM_134_102 (fun _ => rfl) (Or.inr rfl) ?_
        refine gs0 104 [(0, .inr (.inr (some 725))), (1, .inl y1)] [.inl 2, .inr (.inr (some 725))] dM_134_103 (fun _ => rfl) (Or.inr rfl) ?_
        refine gs0 106 [(0, .inr (.inr (some 725))), (1, .inl y1)] [.inl 116, .inl 2, .inr (.inr (some 725))] dM_134_104 (fun _ => rfl) (Or.inr rfl) ?_
        refine gsCallV (y := 131) (k := 725) (as := [.inr (.inr (some 725)), .inl 2, .inl 116]) (r := []) dM_134_106 rfl rfl rfl (Nat.le_of_ble_eq_true rfl) sk_725 rfl (Nat.le_of_ble_eq_true rfl) (EvS.up h (Nat.le_of_ble_eq_true rfl)) (fun v36 t37 hv38 => ?_)
        obtain ⟨rfl, hn⟩ := hv38
        clear h
        show GoS _ _ _ _ _ _ _ _ [(0, .inr (.inr (some 725))), (1, .inl y1)] [] t37 _
        exact GoS.sub (Lnd_keys (ks := [0, 1]) rfl (by decide)) (Lsub_cons rfl (Lsub_cons rfl Lsub_nil)) hn
      · replace h := h.2 c35
        refine gs0 91 [(0, .inr (.inr (some 725))), (1, .inl y1)] [.inl y1] dM_134_90 (fun _ => rfl) (Or.inr rfl) ?_
        refine gs0 93 [(0, .inr (.inr (some 725))), (1, .inl y1)] [.inl 35, .inl y1] dM_134_91 (fun _ => rfl) (Or.inr rfl) ?_
        refine gsIf (t := 102) (C := y1 = 35) (r := []) dM_134_93 (fun _ => rfl) (Or.inr rfl) (rTest_iff .eq y1 35) (fun c39 => ?_) (fun c39 => ?_)
        · replace h := h.1 c39
          refine gs0 103 [(0, .inr (.inr (some 725))), (1, .inl y1)] [.inr (.inr (some 725))] dM_134_102 (fun _ => rfl) (Or.inr rfl) ?_
          refine gs0 104 [(0, .inr (.inr (some 725))), (1, .inl y1)] [.inl 2, .inr (.inr (some 725))] dM_134_103 (fun _ => rfl) (Or.inr rfl) ?_
          refine gs0 106 [(0, .inr (.inr (some 725))), (1, .inl y1)] [.inl 116, .inl 2, .inr (.inr (some 725))] dM_134_104 (fun _ => rfl) (Or.inr rfl) ?_
          refine gsCallV (y := 131) (k := 725) (as := [.inr (.inr (some 725)), .inl 2, .inl 116]) (r := []) dM_134_106 rfl rfl rfl (Nat.le_of_ble_eq_true rfl) sk_725 rfl (Nat.le_of_ble_eq_true rfl) (EvS.up h (Nat.le_of_ble_eq_true rfl)) (fun v40 t41 hv42 => ?_)
          obtain ⟨rfl, hn⟩ := hv42
          clear h
          show GoS _ _ _ _ _ _ _ _ [(0, .inr (.inr (some 725))), (1, .inl y1)] [] t41 _
          exact GoS.sub (Lnd_keys (ks := [0, 1]) rfl (by decide)) (Lsub_cons rfl (Lsub_cons rfl Lsub_nil)) hn
        · replace h := h.2 c39
          refine gs0 97 [(0, .inr (.inr (some 725))), (1, .inl y1)] [.inl y1] dM_134_96 (fun _ => rfl) (Or.inr rfl) ?_
          refine gs0 99 [(0, .inr (.inr (some 725))), (1, .inl y1)] [.inl 77, .inl y1] dM_134_97 (fun _ => rfl) (Or.inr rfl) ?_
          refine gsIf (t := 109) (C := ¬ y1 = 77) (r := []) dM_134_99 (fun _ => rfl) (Or.inr rfl) (rTest_iff .ne y1 77) (fun c43 => ?_) (fun c43 => ?_)
          · replace h := h.1 c43
            exact GoS.sub (Lnd_keys (ks := [0, 1]) rfl (by decide)) (Lsub_cons rfl (Lsub_cons rfl Lsub_nil)) h
          · replace h := h.2 c43
            refine gs0 103 [(0, .inr (.inr (some 725))), (1, .inl y1)] [.inr (.inr (some 725))] dM_134_102 (fun _ => rfl) (Or.inr rfl) ?_
            refine gs0 104 [(0, .inr (.inr (some 725))), (1, .inl y1)] [.inl 2, .inr (.inr (some 725))] dM_134_103 (fun _ => rfl) (Or.inr rfl) ?_
            refine gs0 106 [(0, .inr (.inr (some 725))), (1, .inl y1)] [.inl 116, .inl 2, .inr (.inr (some 725))] dM_134_104 (fun _ => rfl) (Or.inr rfl) ?_
            refine gsCallV (y := 131) (k := 725) (as := [.inr (.inr (some 725)), .inl 2, .inl 116]) (r := []) dM_134_106 rfl rfl rfl (Nat.le_of_ble_eq_true rfl) sk_725 rfl (Nat.le_of_ble_eq_true rfl) (EvS.up h (Nat.le_of_ble_eq_true rfl)) (fun v44 t45 hv46 => ?_)
            obtain ⟨rfl, hn⟩ := hv46
            clear h
            show GoS _ _ _ _ _ _ _ _ [(0, .inr (.inr (some 725))), (1, .inl y1)] [] t45 _
            exact GoS.sub (Lnd_keys (ks := [0, 1]) rfl (by decide)) (Lsub_cons rfl (Lsub_cons rfl Lsub_nil)) hn
set_option maxRecDepth 100000 in
theorem w_134_109 (sg : rSg)  (y1 : Int32) {P : Option rv → rSg → Prop} (h :
    (¬ y1 = 65 → 
      (y1 = 38 → 
        EvS rSkel 1 131 [.inr (.inr (some 725)), .inl 2, .inl 103] sg (fun v49 t50 => v49 = none ∧
          P (some (.inl 1)) t50)) ∧
      (¬ (y1 = 38) → 
        (¬ y1 = 124 → 
          P (some (.inl 1)) sg) ∧
        (¬ (¬ y1 = 124) → 
          EvS rSkel 1 131 [.inr (.inr (some 725)), .inl 2, .inl 103] sg (fun v53 t54 => v53 = none ∧
            P (some (.inl 1)) t54)))) ∧
    (¬ (¬ y1 = 65) → 
      EvS rSkel 1 131 [.inr (.inr (some 725)), .inl 3, .inl 116] sg (fun v56 t57 => v56 = none ∧
        (y1 = 38 → 
          EvS rSkel 1 131 [.inr (.inr (some 725)), .inl 2, .inl 103] t57 (fun v60 t61 => v60 = none ∧
            P (some (.inl 1)) t61)) ∧
        (¬ (y1 = 38) → 
          (¬ y1 = 124 → 
            P (some (.inl 1)) t57) ∧
          (¬ (¬ y1 = 124) → 
            EvS rSkel 1 131 [.inr (.inr (some 725)), .inl 2, .inl 103] t57 (fun v64 t65 => v64 = none ∧
              P (some (.inl 1)) t65)))))) : g_134_109 y1 sg P := by
  show GoS rSkel 1 9 2 (some .boolean) false prog_11_method_40_code 109 [(0, .inr (.inr (some 725))), (1, .inl y1)] [] sg P
  refine gs0 110 [(0, .inr (.inr (some 725))), (1, .inl y1)] [.inl y1] dM_134_109 (fun _ => rfl) (Or.inr rfl) ?_
  refine gs0 112 [(0, .inr (.inr (some 725))), (1, .inl y1)] [.inl 65, .inl y1] dM_134_110 (fun _ => rfl) (Or.inr rfl) ?_
  refine gsIf (t := 122) (C := ¬ y1 = 65) (r := []) dM_134_112 (fun _ => rfl) (Or.inr rfl) (rTest_iff .ne y1 65) (fun c47 => ?_) (fun c47 => ?_)
  · replace h := h.1 c47
    refine gs0 123 [(0, .inr (.inr (some 725))), (1, .inl y1)] [.inl y1] dM_134_122 (fun _ => rfl) (Or.inr rfl) ?_
    refine gs0 125 [(0, .inr (.inr (some 725))), (1, .inl y1)] [.inl 38, .inl y1] dM_134_123 (fun _ => rfl) (Or.inr rfl) ?_
    refine gsIf (t := 134) (C := y1 = 38) (r := []) dM_134_125 (fun _ => rfl) (Or.inr rfl) (rTest_iff .eq y1 38) (fun c48 => ?_) (fun c48 => ?_)
    · replace h := h.1 c48
      refine gs0 135 [(0, .inr (.inr (some 725))), (1, .inl y1)] [.inr (.inr (some 725))] dM_134_134 (fun _ => rfl) (Or.inr rfl) ?_
      refine gs0 136 [(0, .inr (.inr (some 725))), (1, .inl y1)] [.inl 2, .inr (.inr (some 725))] dM_134_135 (fun _ => rfl) (Or.inr rfl) ?_
      refine gs0 138 [(0, .inr (.inr (some 725))), (1, .inl y1)] [.inl 103, .inl 2, .inr (.inr (some 725))] dM_134_136 (fun _ => rfl) (Or.inr rfl) ?_
      refine gsCallV (y := 131) (k := 725) (as := [.inr (.inr (some 725)), .inl 2, .inl 103]) (r := []) dM_134_138 rfl rfl rfl (Nat.le_of_ble_eq_true rfl) sk_725 rfl (Nat.le_of_ble_eq_true rfl) (EvS.up h (Nat.le_of_ble_eq_true rfl)) (fun v49 t50 hv51 => ?_)
      obtain ⟨rfl, hn⟩ := hv51
      clear h
      show GoS _ _ _ _ _ _ _ _ [(0, .inr (.inr (some 725))), (1, .inl y1)] [] t50 _
      refine gs0 142 [(0, .inr (.inr (some 725))), (1, .inl y1)] [.inl 1] dM_134_141 (fun _ => rfl) (Or.inr rfl) ?_
      refine gsRet (r := some (.inl 1)) dM_134_142 (fun _ => rfl) (Or.inr rfl) ?_
      exact hn
    · replace h := h.2 c48
      refine gs0 129 [(0, .inr (.inr (some 725))), (1, .inl y1)] [.inl y1] dM_134_128 (fun _ => rfl) (Or.inr rfl) ?_
      refine gs0 131 [(0, .inr (.inr (some 725))), (1, .inl y1)] [.inl 124, .inl y1] dM_134_129 (fun _ => rfl) (Or.inr rfl) ?_
      refine gsIf (t := 141) (C := ¬ y1 = 124) (r := []) dM_134_131 (fun _ => rfl) (Or.inr rfl) (rTest_iff .ne y1 124) (fun c52 => ?_) (fun c52 => ?_)
      · replace h := h.1 c52
        refine gs0 142 [(0, .inr (.inr (some 725))), (1, .inl y1)] [.inl 1] dM_134_141 (fun _ => rfl) (Or.inr rfl) ?_
        refine gsRet (r := some (.inl 1)) dM_134_142 (fun _ => rfl) (Or.inr rfl) ?_
        exact h
      · replace h := h.2 c52
        refine gs0 135 [(0, .inr (.inr (some 725))), (1, .inl y1)] [.inr (.inr (some 725))] dM_134_134 (fun _ => rfl) (Or.inr rfl) ?_
        refine gs0 136 [(0, .inr (.inr (some 725))), (1, .inl y1)] [.inl 2, .inr (.inr (some 725))] dM_134_135 (fun _ => rfl) (Or.inr rfl) ?_
        refine gs0 138 [(0, .inr (.inr (some 725))), (1, .inl y1)] [.inl 103, .inl 2, .inr (.inr (some 725))] dM_134_136 (fun _ => rfl) (Or.inr rfl) ?_
        refine gsCallV (y := 131) (k := 725) (as := [.inr (.inr (some 725)), .inl 2, .inl 103]) (r := []) dM_134_138 rfl rfl rfl (Nat.le_of_ble_eq_true rfl) sk_725 rfl (Nat.le_of_ble_eq_true rfl) (EvS.up h (Nat.le_of_ble_eq_true rfl)) (fun v53 t54 hv55 => ?_)
        obtain ⟨rfl, hn⟩ := hv55
        clear h
        show GoS _ _ _ _ _ _ _ _ [(0, .inr (.inr (some 725))), (1, .inl y1)] [] t54 _
        refine gs0 142 [(0, .inr (.inr (some 725))), (1, .inl y1)] [.inl 1] dM_134_141 (fun _ => rfl) (Or.inr rfl) ?_
        refine gsRet (r := some (.inl 1)) dM_134_142 (fun _ => rfl) (Or.inr rfl) ?_
        exact hn
  · replace h := h.2 c47
    refine gs0 116 [(0, .inr (.inr (some 725))), (1, .inl y1)] [.inr (.inr (some 725))] dM_134_115 (fun _ => rfl) (Or.inr rfl) ?_
    refine gs0 117 [(0, .inr (.inr (some 725))), (1, .inl y1)] [.inl 3, .inr (.inr (some 725))] dM_134_116 (fun _ => rfl) (Or.inr rfl) ?_
    refine gs0 119 [(0, .inr (.inr (some 725))), (1, .inl y1)] [.inl 116, .inl 3, .inr (.inr (some 725))] dM_134_117 (fun _ => rfl) (Or.inr rfl) ?_
    refine gsCallV (y := 131) (k := 725) (as := [.inr (.inr (some 725)), .inl 3, .inl 116]) (r := []) dM_134_119 rfl rfl rfl (Nat.le_of_ble_eq_true rfl) sk_725 rfl (Nat.le_of_ble_eq_true rfl) (EvS.up h (Nat.le_of_ble_eq_true rfl)) (fun v56 t57 hv58 => ?_)
    obtain ⟨rfl, hn⟩ := hv58
    clear h
    show GoS _ _ _ _ _ _ _ _ [(0, .inr (.inr (some 725))), (1, .inl y1)] [] t57 _
    refine gs0 123 [(0, .inr (.inr (some 725))), (1, .inl y1)] [.inl y1] dM_134_122 (fun _ => rfl) (Or.inr rfl) ?_
    refine gs0 125 [(0, .inr (.inr (some 725))), (1, .inl y1)] [.inl 38, .inl y1] dM_134_123 (fun _ => rfl) (Or.inr rfl) ?_
    refine gsIf (t := 134) (C := y1 = 38) (r := []) dM_134_125 (fun _ => rfl) (Or.inr rfl) (rTest_iff .eq y1 38) (fun c59 => ?_) (fun c59 => ?_)
    · replace hn := hn.1 c59
      refine gs0 135 [(0, .inr (.inr (some 725))), (1, .inl y1)] [.inr (.inr (some 725))] dM_134_134 (fun _ => rfl) (Or.inr rfl) ?_
      refine gs0 136 [(0, .inr (.inr (some 725))), (1, .inl y1)] [.inl 2, .inr (.inr (some 725))] dM_134_135 (fun _ => rfl) (Or.inr rfl) ?_
      refine gs0 138 [(0, .inr (.inr (some 725))), (1, .inl y1)] [.inl 103, .inl 2, .inr (.inr (some 725))] dM_134_136 (fun _ => rfl) (Or.inr rfl) ?_
      refine gsCallV (y := 131) (k := 725) (as := [.inr (.inr (some 725)), .inl 2, .inl 103]) (r := []) dM_134_138 rfl rfl rfl (Nat.le_of_ble_eq_true rfl) sk_725 rfl (Nat.le_of_ble_eq_true rfl) (EvS.up hn (Nat.le_of_ble_eq_true rfl)) (fun v60 t61 hv62 => ?_)
      obtain ⟨rfl, hnn⟩ := hv62
      clear hn
      show GoS _ _ _ _ _ _ _ _ [(0, .inr (.inr (some 725))), (1, .inl y1)] [] t61 _
      refine gs0 142 [(0, .inr (.inr (some 725))), (1, .inl y1)] [.inl 1] dM_134_141 (fun _ => rfl) (Or.inr rfl) ?_
      refine gsRet (r := some (.inl 1)) dM_134_142 (fun _ => rfl) (Or.inr rfl) ?_
      exact hnn
    · replace hn := hn.2 c59
      refine gs0 129 [(0, .inr (.inr (some 725))), (1, .inl y1)] [.inl y1] dM_134_128 (fun _ => rfl) (Or.inr rfl) ?_
      refine gs0 131 [(0, .inr (.inr (some 725))), (1, .inl y1)] [.inl 124, .inl y1] dM_134_129 (fun _ => rfl) (Or.inr rfl) ?_
      refine gsIf (t := 141) (C := ¬ y1 = 124) (r := []) dM_134_131 (fun _ => rfl) (Or.inr rfl) (rTest_iff .ne y1 124) (fun c63 => ?_) (fun c63 => ?_)
      · replace hn := hn.1 c63
        refine gs0 142 [(0, .inr (.inr (some 725))), (1, .inl y1)] [.inl 1] dM_134_141 (fun _ => rfl) (Or.inr rfl) ?_
        refine gsRet (r := some (.inl 1)) dM_134_142 (fun _ => rfl) (Or.inr rfl) ?_
        exact hn
      · replace hn := hn.2 c63
        refine gs0 135 [(0, .inr (.inr (some 725))), (1, .inl y1)] [.inr (.inr (some 725))] dM_134_134 (fun _ => rfl) (Or.inr rfl) ?_
        refine gs0 136 [(0, .inr (.inr (some 725))), (1, .inl y1)] [.inl 2, .inr (.inr (some 725))] dM_134_135 (fun _ => rfl) (Or.inr rfl) ?_
        refine gs0 138 [(0, .inr (.inr (some 725))), (1, .inl y1)] [.inl 103, .inl 2, .inr (.inr (some 725))] dM_134_136 (fun _ => rfl) (Or.inr rfl) ?_
        refine gsCallV (y := 131) (k := 725) (as := [.inr (.inr (some 725)), .inl 2, .inl 103]) (r := []) dM_134_138 rfl rfl rfl (Nat.le_of_ble_eq_true rfl) sk_725 rfl (Nat.le_of_ble_eq_true rfl) (EvS.up hn (Nat.le_of_ble_eq_true rfl)) (fun v64 t65 hv66 => ?_)
        obtain ⟨rfl, hnn⟩ := hv66
        clear hn
        show GoS _ _ _ _ _ _ _ _ [(0, .inr (.inr (some 725))), (1, .inl y1)] [] t65 _
        refine gs0 142 [(0, .inr (.inr (some 725))), (1, .inl y1)] [.inl 1] dM_134_141 (fun _ => rfl) (Or.inr rfl) ?_
        refine gsRet (r := some (.inl 1)) dM_134_142 (fun _ => rfl) (Or.inr rfl) ?_
        exact hnn
set_option maxRecDepth 100000 in
/-- GoalsInAQueueModel.readsGoal -/
theorem w_134 (sg : rSg) (x1 : Int32) {P : Option rv → rSg → Prop} (h :
    (x1 = 61 → 
      g_134_50 x1 sg P) ∧
    (¬ (x1 = 61) → 
      (x1 = 35 → 
        g_134_50 x1 sg P) ∧
      (¬ (x1 = 35) → 
        (x1 = 38 → 
          g_134_50 x1 sg P) ∧
        (¬ (x1 = 38) → 
          (x1 = 124 → 
            g_134_50 x1 sg P) ∧
          (¬ (x1 = 124) → 
            (x1 = 65 → 
              g_134_50 x1 sg P) ∧
            (¬ (x1 = 65) → 
              (x1 = 77 → 
                g_134_50 x1 sg P) ∧
              (¬ (x1 = 77) → 
                (x1 = 42 → 
                  g_134_50 x1 sg P) ∧
                (¬ (x1 = 42) → 
                  (x1 = 33 → 
                    g_134_50 x1 sg P) ∧
                  (¬ (x1 = 33) → 
                    P (some (.inl 0)) sg))))))))) : EvS rSkel 2 134 [.inr (.inr (some 725)), .inl x1] sg P := by
  refine EvS.of (ini := false) rfl ⟨rfl, Nat.le_of_ble_eq_true rfl⟩ rfl ?_
  show GoS rSkel 1 9 2 (some .boolean) false prog_11_method_40_code 0 [(0, .inr (.inr (some 725))), (1, .inl x1)] [] sg _
  refine gs0 1 [(0, .inr (.inr (some 725))), (1, .inl x1)] [.inl x1] dM_134_0 (fun _ => rfl) (Or.inr rfl) ?_
  refine gs0 3 [(0, .inr (.inr (some 725))), (1, .inl x1)] [.inl 61, .inl x1] dM_134_1 (fun _ => rfl) (Or.inr rfl) ?_
  refine gsIf (t := 50) (C := x1 = 61) (r := []) dM_134_3 (fun _ => rfl) (Or.inr rfl) (rTest_iff .eq x1 61) (fun c1 => ?_) (fun c1 => ?_)
  · replace h := h.1 c1
    exact GoS.sub (Lnd_keys (ks := [0, 1]) rfl (by decide)) (Lsub_cons rfl (Lsub_cons rfl Lsub_nil)) h
  · replace h := h.2 c1
    refine gs0 7 [(0, .inr (.inr (some 725))), (1, .inl x1)] [.inl x1] dM_134_6 (fun _ => rfl) (Or.inr rfl) ?_
    refine gs0 9 [(0, .inr (.inr (some 725))), (1, .inl x1)] [.inl 35, .inl x1] dM_134_7 (fun _ => rfl) (Or.inr rfl) ?_
    refine gsIf (t := 50) (C := x1 = 35) (r := []) dM_134_9 (fun _ => rfl) (Or.inr rfl) (rTest_iff .eq x1 35) (fun c2 => ?_) (fun c2 => ?_)
    · replace h := h.1 c2
      exact GoS.sub (Lnd_keys (ks := [0, 1]) rfl (by decide)) (Lsub_cons rfl (Lsub_cons rfl Lsub_nil)) h
    · replace h := h.2 c2
      refine gs0 13 [(0, .inr (.inr (some 725))), (1, .inl x1)] [.inl x1] dM_134_12 (fun _ => rfl) (Or.inr rfl) ?_
      refine gs0 15 [(0, .inr (.inr (some 725))), (1, .inl x1)] [.inl 38, .inl x1] dM_134_13 (fun _ => rfl) (Or.inr rfl) ?_
      refine gsIf (t := 50) (C := x1 = 38) (r := []) dM_134_15 (fun _ => rfl) (Or.inr rfl) (rTest_iff .eq x1 38) (fun c3 => ?_) (fun c3 => ?_)
      · replace h := h.1 c3
        exact GoS.sub (Lnd_keys (ks := [0, 1]) rfl (by decide)) (Lsub_cons rfl (Lsub_cons rfl Lsub_nil)) h
      · replace h := h.2 c3
        refine gs0 19 [(0, .inr (.inr (some 725))), (1, .inl x1)] [.inl x1] dM_134_18 (fun _ => rfl) (Or.inr rfl) ?_
        refine gs0 21 [(0, .inr (.inr (some 725))), (1, .inl x1)] [.inl 124, .inl x1] dM_134_19 (fun _ => rfl) (Or.inr rfl) ?_
        refine gsIf (t := 50) (C := x1 = 124) (r := []) dM_134_21 (fun _ => rfl) (Or.inr rfl) (rTest_iff .eq x1 124) (fun c4 => ?_) (fun c4 => ?_)
        · replace h := h.1 c4
          exact GoS.sub (Lnd_keys (ks := [0, 1]) rfl (by decide)) (Lsub_cons rfl (Lsub_cons rfl Lsub_nil)) h
        · replace h := h.2 c4
          refine gs0 25 [(0, .inr (.inr (some 725))), (1, .inl x1)] [.inl x1] dM_134_24 (fun _ => rfl) (Or.inr rfl) ?_
          refine gs0 27 [(0, .inr (.inr (some 725))), (1, .inl x1)] [.inl 65, .inl x1] dM_134_25 (fun _ => rfl) (Or.inr rfl) ?_
          refine gsIf (t := 50) (C := x1 = 65) (r := []) dM_134_27 (fun _ => rfl) (Or.inr rfl) (rTest_iff .eq x1 65) (fun c5 => ?_) (fun c5 => ?_)
          · replace h := h.1 c5
            exact GoS.sub (Lnd_keys (ks := [0, 1]) rfl (by decide)) (Lsub_cons rfl (Lsub_cons rfl Lsub_nil)) h
          · replace h := h.2 c5
            refine gs0 31 [(0, .inr (.inr (some 725))), (1, .inl x1)] [.inl x1] dM_134_30 (fun _ => rfl) (Or.inr rfl) ?_
            refine gs0 33 [(0, .inr (.inr (some 725))), (1, .inl x1)] [.inl 77, .inl x1] dM_134_31 (fun _ => rfl) (Or.inr rfl) ?_
            refine gsIf (t := 50) (C := x1 = 77) (r := []) dM_134_33 (fun _ => rfl) (Or.inr rfl) (rTest_iff .eq x1 77) (fun c6 => ?_) (fun c6 => ?_)
            · replace h := h.1 c6
              exact GoS.sub (Lnd_keys (ks := [0, 1]) rfl (by decide)) (Lsub_cons rfl (Lsub_cons rfl Lsub_nil)) h
            · replace h := h.2 c6
              refine gs0 37 [(0, .inr (.inr (some 725))), (1, .inl x1)] [.inl x1] dM_134_36 (fun _ => rfl) (Or.inr rfl) ?_
              refine gs0 39 [(0, .inr (.inr (some 725))), (1, .inl x1)] [.inl 42, .inl x1] dM_134_37 (fun _ => rfl) (Or.inr rfl) ?_
              refine gsIf (t := 50) (C := x1 = 42) (r := []) dM_134_39 (fun _ => rfl) (Or.inr rfl) (rTest_iff .eq x1 42) (fun c7 => ?_) (fun c7 => ?_)
              · replace h := h.1 c7
                exact GoS.sub (Lnd_keys (ks := [0, 1]) rfl (by decide)) (Lsub_cons rfl (Lsub_cons rfl Lsub_nil)) h
              · replace h := h.2 c7
                refine gs0 43 [(0, .inr (.inr (some 725))), (1, .inl x1)] [.inl x1] dM_134_42 (fun _ => rfl) (Or.inr rfl) ?_
                refine gs0 45 [(0, .inr (.inr (some 725))), (1, .inl x1)] [.inl 33, .inl x1] dM_134_43 (fun _ => rfl) (Or.inr rfl) ?_
                refine gsIf (t := 50) (C := x1 = 33) (r := []) dM_134_45 (fun _ => rfl) (Or.inr rfl) (rTest_iff .eq x1 33) (fun c8 => ?_) (fun c8 => ?_)
                · replace h := h.1 c8
                  exact GoS.sub (Lnd_keys (ks := [0, 1]) rfl (by decide)) (Lsub_cons rfl (Lsub_cons rfl Lsub_nil)) h
                · replace h := h.2 c8
                  refine gs0 49 [(0, .inr (.inr (some 725))), (1, .inl x1)] [.inl 0] dM_134_48 (fun _ => rfl) (Or.inr rfl) ?_
                  refine gsRet (r := some (.inl 0)) dM_134_49 (fun _ => rfl) (Or.inr rfl) ?_
                  exact h
def g_135_7  (y1 : Int32) (sg : rSg) (P : Option rv → rSg → Prop) : Prop := GoS rSkel 0 9 2 (some .int) false prog_11_method_49_code 7 [(0, .inr (.inr (some 725))), (1, .inl y1)] [] sg P
set_option maxRecDepth 100000 in
theorem w_135_7 (sg : rSg)  (y1 : Int32) {P : Option rv → rSg → Prop} (h :
    (96 ≤ y1 → 
      P (some (.inl (sg 749 0))) (up2 (up2 sg 725 41 (sg 725 40)) 725 42 (sg 749 0))) ∧
    (¬ (96 ≤ y1) → 
      (rIn y1 96 = true ∧
      rIn y1 96 = true ∧
      g_135_7 (y1 + 1) (up2 sg 754 y1.toNatClampNeg (sg 753 y1.toNatClampNeg)) P))) : g_135_7 y1 sg P := by
  show GoS rSkel 0 9 2 (some .int) false prog_11_method_49_code 7 [(0, .inr (.inr (some 725))), (1, .inl y1)] [] sg P
  refine gs0 8 [(0, .inr (.inr (some 725))), (1, .inl y1)] [.inl y1] dM_135_7 (fun _ => rfl) (Or.inr rfl) ?_
  refine gs0 10 [(0, .inr (.inr (some 725))), (1, .inl y1)] [.inl 96, .inl y1] dM_135_8 (fun _ => rfl) (Or.inr rfl) ?_
  refine gsIf (t := 31) (C := 96 ≤ y1) (r := []) dM_135_10 (fun _ => rfl) (Or.inr rfl) (rTest_iff .ge y1 96) (fun c1 => ?_) (fun c1 => ?_)
  · replace h := h.1 c1
    refine gs0 32 [(0, .inr (.inr (some 725))), (1, .inl y1)] [.inr (.inr (some 725))] dM_135_31 (fun _ => rfl) (Or.inr rfl) ?_
    refine gs0 33 [(0, .inr (.inr (some 725))), (1, .inl y1)] [.inr (.inr (some 725)), .inr (.inr (some 725))] dM_135_32 (fun _ => rfl) (Or.inr rfl) ?_
    refine gsGetE (sg 725 40) dM_135_33 sk_725 rfl rfl rfl ?_
    refine gsPut dM_135_36 sk_725 rfl rfl rfl (by decide) ?_
    refine gs0 40 [(0, .inr (.inr (some 725))), (1, .inl y1)] [.inr (.inr (some 725))] dM_135_39 (fun _ => rfl) (Or.inr rfl) ?_
    refine gs0 41 [(0, .inr (.inr (some 725))), (1, .inl y1)] [.inr (.inr (some 725)), .inr (.inr (some 725))] dM_135_40 (fun _ => rfl) (Or.inr rfl) ?_
    refine gsGetR (some 749) dM_135_41 sk_725 rfl rfl ?_
    refine gs0 45 [(0, .inr (.inr (some 725))), (1, .inl y1)] [.inl 0, .inr (.inr (some 749)), .inr (.inr (some 725))] dM_135_44 (fun _ => rfl) (Or.inr rfl) ?_
    refine gsIaldN 0 (sg 749 0) dM_135_45 sk_749 rfl rfl (congrFun (up2_nk _ _ _ (by decide)) _) ?_
    refine gsPut dM_135_46 sk_725 rfl rfl rfl (by decide) ?_
    refine gs0 50 [(0, .inr (.inr (some 725))), (1, .inl y1)] [.inr (.inr (some 725))] dM_135_49 (fun _ => rfl) (Or.inr rfl) ?_
    refine gsGetR (some 749) dM_135_50 sk_725 rfl rfl ?_
    refine gs0 54 [(0, .inr (.inr (some 725))), (1, .inl y1)] [.inl 0, .inr (.inr (some 749))] dM_135_53 (fun _ => rfl) (Or.inr rfl) ?_
    refine gsIaldN 0 (sg 749 0) dM_135_54 sk_749 rfl rfl ((congrFun (up2_nk _ _ _ (by decide)) _).trans (congrFun (up2_nk _ _ _ (by decide)) _)) ?_
    refine gsRet (r := some (.inl (sg 749 0))) dM_135_55 (fun _ => rfl) (Or.inr rfl) ?_
    exact h
  · replace h := h.2 c1
    refine gs0 14 [(0, .inr (.inr (some 725))), (1, .inl y1)] [.inr (.inr (some 725))] dM_135_13 (fun _ => rfl) (Or.inr rfl) ?_
    refine gsGetR (some 754) dM_135_14 sk_725 rfl rfl ?_
    refine gs0 18 [(0, .inr (.inr (some 725))), (1, .inl y1)] [.inl y1, .inr (.inr (some 754))] dM_135_17 (fun _ => rfl) (Or.inr rfl) ?_
    refine gs0 19 [(0, .inr (.inr (some 725))), (1, .inl y1)] [.inr (.inr (some 725)), .inl y1, .inr (.inr (some 754))] dM_135_18 (fun _ => rfl) (Or.inr rfl) ?_
    refine gsGetR (some 753) dM_135_19 sk_725 rfl rfl ?_
    refine gs0 23 [(0, .inr (.inr (some 725))), (1, .inl y1)] [.inl y1, .inr (.inr (some 753)), .inl y1, .inr (.inr (some 754))] dM_135_22 (fun _ => rfl) (Or.inr rfl) ?_
    refine gsIaldN y1.toNatClampNeg (sg 753 y1.toNatClampNeg) dM_135_23 sk_753 h.1 rfl rfl ?_
    replace h := h.2
    refine gsIastN y1.toNatClampNeg dM_135_24 sk_754 h.1 rfl ?_
    replace h := h.2
    refine gs0 28 [(1, .inl (y1 + 1)), (0, .inr (.inr (some 725)))] [] dM_135_25 (fun _ => rfl) (Or.inr rfl) ?_
    refine gs0 7 [(1, .inl (y1 + 1)), (0, .inr (.inr (some 725)))] [] dM_135_28 (fun _ => rfl) (Or.inr rfl) ?_
    exact GoS.sub (Lnd_keys (ks := [0, 1]) rfl (by decide)) (Lsub_cons rfl (Lsub_cons rfl Lsub_nil)) h
set_option maxRecDepth 100000 in
/-- GoalsInAQueueModel.image -/
theorem w_135 (sg : rSg)  {P : Option rv → rSg → Prop} (h :
    g_135_7 0 (up2 sg 725 48 1) P) : EvS rSkel 1 135 [.inr (.inr (some 725))] sg P := by
  refine EvS.of (ini := false) rfl ⟨rfl, Nat.le_of_ble_eq_true rfl⟩ rfl ?_
  show GoS rSkel 0 9 2 (some .int) false prog_11_method_49_code 0 [(0, .inr (.inr (some 725)))] [] sg _
  refine gs0 1 [(0, .inr (.inr (some 725)))] [.inr (.inr (some 725))] dM_135_0 (fun _ => rfl) (Or.inr rfl) ?_
  refine gs0 2 [(0, .inr (.inr (some 725)))] [.inl 1, .inr (.inr (some 725))] dM_135_1 (fun _ => rfl) (Or.inr rfl) ?_
  refine gsPut dM_135_2 sk_725 rfl rfl rfl (by decide) ?_
  refine gs0 6 [(0, .inr (.inr (some 725)))] [.inl 0] dM_135_5 (fun _ => rfl) (Or.inr rfl) ?_
  refine gs0 7 [(1, .inl 0), (0, .inr (.inr (some 725)))] [] dM_135_6 (fun _ => rfl) (Or.inr rfl) ?_
  exact GoS.sub (Lnd_keys (ks := [0, 1]) rfl (by decide)) (Lsub_cons rfl (Lsub_cons rfl Lsub_nil)) h
def g_136_16  (y1 : Int32) (sg : rSg) (P : Option rv → rSg → Prop) : Prop := GoS rSkel 14 9 2 (some .int) false prog_11_method_50_code 16 [(0, .inr (.inr (some 725))), (1, .inl y1)] [] sg P
set_option maxRecDepth 100000 in
theorem w_136_16 (sg : rSg)  (y1 : Int32) {P : Option rv → rSg → Prop} (h :
    (96 ≤ y1 → 
      EvS rSkel 4 114 [.inr (.inr (some 725))] (up2 sg 725 40 (sg 725 41)) (fun v7 t8 => v7 = none ∧
        EvS rSkel 14 137 [.inr (.inr (some 725)), .inl (t8 725 42)] t8 (fun v10 t11 => v10 = none ∧
          P (some (.inl (t11 749 0))) t11))) ∧
    (¬ (96 ≤ y1) → 
      (rIn y1 96 = true ∧
      rIn y1 96 = true ∧
      g_136_16 (y1 + 1) (up2 sg 753 y1.toNatClampNeg (sg 754 y1.toNatClampNeg)) P))) : g_136_16 y1 sg P := by
  show GoS rSkel 14 9 2 (some .int) false prog_11_method_50_code 16 [(0, .inr (.inr (some 725))), (1, .inl y1)] [] sg P
  refine gs0 17 [(0, .inr (.inr (some 725))), (1, .inl y1)] [.inl y1] dM_136_16 (fun _ => rfl) (Or.inr rfl) ?_
  refine gs0 19 [(0, .inr (.inr (some 725))), (1, .inl y1)] [.inl 96, .inl y1] dM_136_17 (fun _ => rfl) (Or.inr rfl) ?_
  refine gsIf (t := 40) (C := 96 ≤ y1) (r := []) dM_136_19 (fun _ => rfl) (Or.inr rfl) (rTest_iff .ge y1 96) (fun c6 => ?_) (fun c6 => ?_)
  · replace h := h.1 c6
    refine gs0 41 [(0, .inr (.inr (some 725))), (1, .inl y1)] [.inr (.inr (some 725))] dM_136_40 (fun _ => rfl) (Or.inr rfl) ?_
    refine gs0 42 [(0, .inr (.inr (some 725))), (1, .inl y1)] [.inr (.inr (some 725)), .inr (.inr (some 725))] dM_136_41 (fun _ => rfl) (Or.inr rfl) ?_
    refine gsGetE (sg 725 41) dM_136_42 sk_725 rfl rfl rfl ?_
    refine gsPut dM_136_45 sk_725 rfl rfl rfl (by decide) ?_
    refine gs0 49 [(0, .inr (.inr (some 725))), (1, .inl y1)] [.inr (.inr (some 725))] dM_136_48 (fun _ => rfl) (Or.inr rfl) ?_
    refine gsCallV (y := 114) (k := 725) (as := [.inr (.inr (some 725))]) (r := []) dM_136_49 rfl rfl rfl (Nat.le_of_ble_eq_true rfl) sk_725 rfl (Nat.le_of_ble_eq_true rfl) (EvS.up h (Nat.le_of_ble_eq_true rfl)) (fun v7 t8 hv9 => ?_)
    obtain ⟨rfl, hn⟩ := hv9
    clear h
    show GoS _ _ _ _ _ _ _ _ [(0, .inr (.inr (some 725))), (1, .inl y1)] [] t8 _
    refine gs0 53 [(0, .inr (.inr (some 725))), (1, .inl y1)] [.inr (.inr (some 725))] dM_136_52 (fun _ => rfl) (Or.inr rfl) ?_
    refine gs0 54 [(0, .inr (.inr (some 725))), (1, .inl y1)] [.inr (.inr (some 725)), .inr (.inr (some 725))] dM_136_53 (fun _ => rfl) (Or.inr rfl) ?_
    refine gsGetE (t8 725 42) dM_136_54 sk_725 rfl rfl rfl ?_
    refine gsCallV (y := 137) (k := 725) (as := [.inr (.inr (some 725)), .inl (t8 725 42)]) (r := []) dM_136_57 rfl rfl rfl (Nat.le_of_ble_eq_true rfl) sk_725 rfl (Nat.le_of_ble_eq_true rfl) (EvS.up hn (Nat.le_of_ble_eq_true rfl)) (fun v10 t11 hv12 => ?_)
    obtain ⟨rfl, hnn⟩ := hv12
    clear hn
    show GoS _ _ _ _ _ _ _ _ [(0, .inr (.inr (some 725))), (1, .inl y1)] [] t11 _
    refine gs0 61 [(0, .inr (.inr (some 725))), (1, .inl y1)] [.inr (.inr (some 725))] dM_136_60 (fun _ => rfl) (Or.inr rfl) ?_
    refine gsGetR (some 749) dM_136_61 sk_725 rfl rfl ?_
    refine gs0 65 [(0, .inr (.inr (some 725))), (1, .inl y1)] [.inl 0, .inr (.inr (some 749))] dM_136_64 (fun _ => rfl) (Or.inr rfl) ?_
    refine gsIaldN 0 (t11 749 0) dM_136_65 sk_749 rfl rfl rfl ?_
    refine gsRet (r := some (.inl (t11 749 0))) dM_136_66 (fun _ => rfl) (Or.inr rfl) ?_
    exact hnn
  · replace h := h.2 c6
    refine gs0 23 [(0, .inr (.inr (some 725))), (1, .inl y1)] [.inr (.inr (some 725))] dM_136_22 (fun _ => rfl) (Or.inr rfl) ?_
    refine gsGetR (some 753) dM_136_23 sk_725 rfl rfl ?_
    refine gs0 27 [(0, .inr (.inr (some 725))), (1, .inl y1)] [.inl y1, .inr (.inr (some 753))] dM_136_26 (fun _ => rfl) (Or.inr rfl) ?_
    refine gs0 28 [(0, .inr (.inr (some 725))), (1, .inl y1)] [.inr (.inr (some 725)), .inl y1, .inr (.inr (some 753))] dM_136_27 (fun _ => rfl) (Or.inr rfl) ?_
    refine gsGetR (some 754) dM_136_28 sk_725 rfl rfl ?_
    refine gs0 32 [(0, .inr (.inr (some 725))), (1, .inl y1)] [.inl y1, .inr (.inr (some 754)), .inl y1, .inr (.inr (some 753))] dM_136_31 (fun _ => rfl) (Or.inr rfl) ?_
    refine gsIaldN y1.toNatClampNeg (sg 754 y1.toNatClampNeg) dM_136_32 sk_754 h.1 rfl rfl ?_
    replace h := h.2
    refine gsIastN y1.toNatClampNeg dM_136_33 sk_753 h.1 rfl ?_
    replace h := h.2
    refine gs0 37 [(1, .inl (y1 + 1)), (0, .inr (.inr (some 725)))] [] dM_136_34 (fun _ => rfl) (Or.inr rfl) ?_
    refine gs0 16 [(1, .inl (y1 + 1)), (0, .inr (.inr (some 725)))] [] dM_136_37 (fun _ => rfl) (Or.inr rfl) ?_
    exact GoS.sub (Lnd_keys (ks := [0, 1]) rfl (by decide)) (Lsub_cons rfl (Lsub_cons rfl Lsub_nil)) h
set_option maxRecDepth 100000 in
/-- GoalsInAQueueModel.on -/
theorem w_136 (sg : rSg)  {P : Option rv → rSg → Prop} (h :
    (¬ (sg 725 48) = 0 → 
      g_136_16 0 sg P) ∧
    (¬ (¬ (sg 725 48) = 0) → 
      EvS rSkel 1 128 [.inr (.inr (some 725)), .inl ((-3))] sg (fun v2 t3 => ∃ n5, v2 = some (.inl n5) ∧
        P (some (.inl n5)) t3))) : EvS rSkel 15 136 [.inr (.inr (some 725))] sg P := by
  refine EvS.of (ini := false) rfl ⟨rfl, Nat.le_of_ble_eq_true rfl⟩ rfl ?_
  show GoS rSkel 14 9 2 (some .int) false prog_11_method_50_code 0 [(0, .inr (.inr (some 725)))] [] sg _
  refine gs0 1 [(0, .inr (.inr (some 725)))] [.inr (.inr (some 725))] dM_136_0 (fun _ => rfl) (Or.inr rfl) ?_
  refine gsGetE (sg 725 48) dM_136_1 sk_725 rfl rfl rfl ?_
  refine gsIf (t := 14) (C := ¬ (sg 725 48) = 0) (r := []) dM_136_4 (fun _ => rfl) (Or.inr rfl) (rTest_iff .ne (sg 725 48) 0) (fun c1 => ?_) (fun c1 => ?_)
  · replace h := h.1 c1
    refine gs0 15 [(0, .inr (.inr (some 725)))] [.inl 0] dM_136_14 (fun _ => rfl) (Or.inr rfl) ?_
    refine gs0 16 [(1, .inl 0), (0, .inr (.inr (some 725)))] [] dM_136_15 (fun _ => rfl) (Or.inr rfl) ?_
    exact GoS.sub (Lnd_keys (ks := [0, 1]) rfl (by decide)) (Lsub_cons rfl (Lsub_cons rfl Lsub_nil)) h
  · replace h := h.2 c1
    refine gs0 8 [(0, .inr (.inr (some 725)))] [.inr (.inr (some 725))] dM_136_7 (fun _ => rfl) (Or.inr rfl) ?_
    refine gs0 10 [(0, .inr (.inr (some 725)))] [.inl ((-3)), .inr (.inr (some 725))] dM_136_8 (fun _ => rfl) (Or.inr rfl) ?_
    refine gsCallV (y := 128) (k := 725) (as := [.inr (.inr (some 725)), .inl ((-3))]) (r := []) dM_136_10 rfl rfl rfl (Nat.le_of_ble_eq_true rfl) sk_725 rfl (Nat.le_of_ble_eq_true rfl) (EvS.up h (Nat.le_of_ble_eq_true rfl)) (fun v2 t3 hv4 => ?_)
    obtain ⟨n5, rfl, hn⟩ := hv4
    clear h
    show GoS _ _ _ _ _ _ _ _ [(0, .inr (.inr (some 725)))] [.inl n5] t3 _
    refine gsRet (r := some (.inl n5)) dM_136_13 (fun _ => rfl) (Or.inr rfl) ?_
    exact hn
def g_137_2  (y1 : Int32) (y2 : Int32) (sg : rSg) (P : Option rv → rSg → Prop) : Prop := GoS rSkel 13 9 3 none false prog_11_method_48_code 2 [(0, .inr (.inr (some 725))), (1, .inl y1), (2, .inl y2)] [] sg P
set_option maxRecDepth 100000 in
theorem w_137_2 (sg : rSg)  (y1 : Int32) (y2 : Int32) {P : Option rv → rSg → Prop} (h :
    (y1 ≤ y2 → 
      P none sg) ∧
    (¬ (y1 ≤ y2) → 
      EvS rSkel 1 138 [.inr (.inr (some 725))] sg (fun v2 t3 => ∃ n5, v2 = some (.inl n5) ∧
        (¬ n5 = 0 → 
          P none t3) ∧
        (¬ (¬ n5 = 0) → 
          EvS rSkel 13 139 [.inr (.inr (some 725))] t3 (fun v7 t8 => v7 = none ∧
            g_137_2 y1 (y2 + 1) t8 P))))) : g_137_2 y1 y2 sg P := by
  show GoS rSkel 13 9 3 none false prog_11_method_48_code 2 [(0, .inr (.inr (some 725))), (1, .inl y1), (2, .inl y2)] [] sg P
  refine gs0 3 [(0, .inr (.inr (some 725))), (1, .inl y1), (2, .inl y2)] [.inl y2] dM_137_2 (fun _ => rfl) (Or.inr rfl) ?_
  refine gs0 4 [(0, .inr (.inr (some 725))), (1, .inl y1), (2, .inl y2)] [.inl y1, .inl y2] dM_137_3 (fun _ => rfl) (Or.inr rfl) ?_
  refine gsIf (t := 24) (C := y1 ≤ y2) (r := []) dM_137_4 (fun _ => rfl) (Or.inr rfl) (rTest_iff .ge y2 y1) (fun c1 => ?_) (fun c1 => ?_)
  · replace h := h.1 c1
    refine gsRet (r := none) dM_137_24 (fun _ => rfl) (Or.inr rfl) ?_
    exact h
  · replace h := h.2 c1
    refine gs0 8 [(0, .inr (.inr (some 725))), (1, .inl y1), (2, .inl y2)] [.inr (.inr (some 725))] dM_137_7 (fun _ => rfl) (Or.inr rfl) ?_
    refine gsCallV (y := 138) (k := 725) (as := [.inr (.inr (some 725))]) (r := []) dM_137_8 rfl rfl rfl (Nat.le_of_ble_eq_true rfl) sk_725 rfl (Nat.le_of_ble_eq_true rfl) (EvS.up h (Nat.le_of_ble_eq_true rfl)) (fun v2 t3 hv4 => ?_)
    obtain ⟨n5, rfl, hn⟩ := hv4
    clear h
    show GoS _ _ _ _ _ _ _ _ [(0, .inr (.inr (some 725))), (1, .inl y1), (2, .inl y2)] [.inl n5] t3 _
    refine gsIf (t := 24) (C := ¬ n5 = 0) (r := []) dM_137_11 (fun _ => rfl) (Or.inr rfl) (rTest_iff .ne n5 0) (fun c6 => ?_) (fun c6 => ?_)
    · replace hn := hn.1 c6
      refine gsRet (r := none) dM_137_24 (fun _ => rfl) (Or.inr rfl) ?_
      exact hn
    · replace hn := hn.2 c6
      refine gs0 15 [(0, .inr (.inr (some 725))), (1, .inl y1), (2, .inl y2)] [.inr (.inr (some 725))] dM_137_14 (fun _ => rfl) (Or.inr rfl) ?_
      refine gsCallV (y := 139) (k := 725) (as := [.inr (.inr (some 725))]) (r := []) dM_137_15 rfl rfl rfl (Nat.le_of_ble_eq_true rfl) sk_725 rfl (Nat.le_of_ble_eq_true rfl) (EvS.up hn (Nat.le_of_ble_eq_true rfl)) (fun v7 t8 hv9 => ?_)
      obtain ⟨rfl, hnn⟩ := hv9
      clear hn
      show GoS _ _ _ _ _ _ _ _ [(0, .inr (.inr (some 725))), (1, .inl y1), (2, .inl y2)] [] t8 _
      refine gs0 21 [(2, .inl (y2 + 1)), (0, .inr (.inr (some 725))), (1, .inl y1)] [] dM_137_18 (fun _ => rfl) (Or.inr rfl) ?_
      refine gs0 2 [(2, .inl (y2 + 1)), (0, .inr (.inr (some 725))), (1, .inl y1)] [] dM_137_21 (fun _ => rfl) (Or.inr rfl) ?_
      exact GoS.sub (Lnd_keys (ks := [0, 1, 2]) rfl (by decide)) (Lsub_cons rfl (Lsub_cons rfl (Lsub_cons rfl Lsub_nil))) hnn
set_option maxRecDepth 100000 in
/-- GoalsInAQueueModel.goes -/
theorem w_137 (sg : rSg) (x1 : Int32) {P : Option rv → rSg → Prop} (h :
    g_137_2 x1 0 sg P) : EvS rSkel 14 137 [.inr (.inr (some 725)), .inl x1] sg P := by
  refine EvS.of (ini := false) rfl ⟨rfl, Nat.le_of_ble_eq_true rfl⟩ rfl ?_
  show GoS rSkel 13 9 3 none false prog_11_method_48_code 0 [(0, .inr (.inr (some 725))), (1, .inl x1)] [] sg _
  refine gs0 1 [(0, .inr (.inr (some 725))), (1, .inl x1)] [.inl 0] dM_137_0 (fun _ => rfl) (Or.inr rfl) ?_
  refine gs0 2 [(2, .inl 0), (0, .inr (.inr (some 725))), (1, .inl x1)] [] dM_137_1 (fun _ => rfl) (Or.inr rfl) ?_
  exact GoS.sub (Lnd_keys (ks := [0, 1, 2]) rfl (by decide)) (Lsub_cons rfl (Lsub_cons rfl (Lsub_cons rfl Lsub_nil))) h
set_option maxRecDepth 100000 in
/-- GoalsInAQueueModel.isDone -/
theorem w_138 (sg : rSg)  {P : Option rv → rSg → Prop} (h :
    (rIn (sg 725 21) 2 = true ∧
    ((sg 747 ((sg 725 21).toNatClampNeg)) = 0 → 
      P (some (.inl 1)) sg) ∧
    (¬ ((sg 747 ((sg 725 21).toNatClampNeg)) = 0) → 
      (rIn (sg 725 21) 2 = true ∧
      (¬ (sg 748 ((sg 725 21).toNatClampNeg)) = 30 → 
        P (some (.inl 0)) sg) ∧
      (¬ (¬ (sg 748 ((sg 725 21).toNatClampNeg)) = 30) → 
        P (some (.inl 1)) sg))))) : EvS rSkel 1 138 [.inr (.inr (some 725))] sg P := by
  refine EvS.of (ini := false) rfl ⟨rfl, Nat.le_of_ble_eq_true rfl⟩ rfl ?_
  show GoS rSkel 0 9 1 (some .boolean) false prog_11_method_25_code 0 [(0, .inr (.inr (some 725)))] [] sg _
  refine gs0 1 [(0, .inr (.inr (some 725)))] [.inr (.inr (some 725))] dM_138_0 (fun _ => rfl) (Or.inr rfl) ?_
  refine gsGetR (some 747) dM_138_1 sk_725 rfl rfl ?_
  refine gs0 5 [(0, .inr (.inr (some 725)))] [.inr (.inr (some 725)), .inr (.inr (some 747))] dM_138_4 (fun _ => rfl) (Or.inr rfl) ?_
  refine gsGetE (sg 725 21) dM_138_5 sk_725 rfl rfl rfl ?_
  refine gsIaldN ((sg 725 21).toNatClampNeg) (sg 747 ((sg 725 21).toNatClampNeg)) dM_138_8 sk_747 h.1 rfl rfl ?_
  replace h := h.2
  refine gsIf (t := 26) (C := (sg 747 ((sg 725 21).toNatClampNeg)) = 0) (r := []) dM_138_9 (fun _ => rfl) (Or.inr rfl) (rTest_iff .eq (sg 747 ((sg 725 21).toNatClampNeg)) 0) (fun c1 => ?_) (fun c1 => ?_)
  · replace h := h.1 c1
    refine gs0 27 [(0, .inr (.inr (some 725)))] [.inl 1] dM_138_26 (fun _ => rfl) (Or.inr rfl) ?_
    refine gs0 31 [(0, .inr (.inr (some 725)))] [.inl 1] dM_138_27 (fun _ => rfl) (Or.inr rfl) ?_
    refine gsRet (r := some (.inl 1)) dM_138_31 (fun _ => rfl) (Or.inr rfl) ?_
    exact h
  · replace h := h.2 c1
    refine gs0 13 [(0, .inr (.inr (some 725)))] [.inr (.inr (some 725))] dM_138_12 (fun _ => rfl) (Or.inr rfl) ?_
    refine gsGetR (some 748) dM_138_13 sk_725 rfl rfl ?_
    refine gs0 17 [(0, .inr (.inr (some 725)))] [.inr (.inr (some 725)), .inr (.inr (some 748))] dM_138_16 (fun _ => rfl) (Or.inr rfl) ?_
    refine gsGetE (sg 725 21) dM_138_17 sk_725 rfl rfl rfl ?_
    refine gsIaldN ((sg 725 21).toNatClampNeg) (sg 748 ((sg 725 21).toNatClampNeg)) dM_138_20 sk_748 h.1 rfl rfl ?_
    replace h := h.2
    refine gs0 23 [(0, .inr (.inr (some 725)))] [.inl 30, .inl (sg 748 ((sg 725 21).toNatClampNeg))] dM_138_21 (fun _ => rfl) (Or.inr rfl) ?_
    refine gsIf (t := 30) (C := ¬ (sg 748 ((sg 725 21).toNatClampNeg)) = 30) (r := []) dM_138_23 (fun _ => rfl) (Or.inr rfl) (rTest_iff .ne (sg 748 ((sg 725 21).toNatClampNeg)) 30) (fun c2 => ?_) (fun c2 => ?_)
    · replace h := h.1 c2
      refine gs0 31 [(0, .inr (.inr (some 725)))] [.inl 0] dM_138_30 (fun _ => rfl) (Or.inr rfl) ?_
      refine gsRet (r := some (.inl 0)) dM_138_31 (fun _ => rfl) (Or.inr rfl) ?_
      exact h
    · replace h := h.2 c2
      refine gs0 27 [(0, .inr (.inr (some 725)))] [.inl 1] dM_138_26 (fun _ => rfl) (Or.inr rfl) ?_
      refine gs0 31 [(0, .inr (.inr (some 725)))] [.inl 1] dM_138_27 (fun _ => rfl) (Or.inr rfl) ?_
      refine gsRet (r := some (.inl 1)) dM_138_31 (fun _ => rfl) (Or.inr rfl) ?_
      exact h
set_option maxRecDepth 100000 in
/-- GoalsInAQueueModel.goesStep -/
theorem w_139 (sg : rSg)  {P : Option rv → rSg → Prop} (h :
    (rIn (sg 725 21) 2 = true ∧
    rIn (sg 725 21) 2 = true ∧
    EvS rSkel 1 125 [.inr (.inr (some 725)), .inl 0] (up2 sg 749 ((sg 725 21).toNatClampNeg) ((sg 749 ((sg 725 21).toNatClampNeg)) + 1)) (fun v1 t2 => ∃ n4, v1 = some (.inl n4) ∧
      (rIn (t2 725 21) 2 = true ∧
      rIn (t2 725 21) 2 = true ∧
      rIn (t2 725 21) 2 = true ∧
      rIn (t2 725 21) 2 = true ∧
      EvS rSkel 2 140 [.inr (.inr (some 725)), .inl n4] (up2 (up2 t2 746 ((t2 725 21).toNatClampNeg) (irem ((t2 746 ((t2 725 21).toNatClampNeg)) + 1) 42)) 747 ((t2 725 21).toNatClampNeg) ((t2 747 ((t2 725 21).toNatClampNeg)) - 1)) (fun v5 t6 => v5 = none ∧
        (¬ (t6 725 18) = 0 → 
          (rIn (t6 725 18) 20000 = true ∧
          rIn (t6 725 18) 20000 = true ∧
          EvS rSkel 12 143 [.inr (.inr (some 725)), .inl n4, .inl (t6 733 ((t6 725 18).toNatClampNeg))] (up2 t6 725 18 (t6 735 ((t6 725 18).toNatClampNeg))) (fun v9 t10 => v9 = none ∧
            (rIn (t10 725 21) 2 = true ∧
            rIn (t10 725 21) 2 = true ∧
            ((t10 747 ((t10 725 21).toNatClampNeg)) ≤ (t10 751 ((t10 725 21).toNatClampNeg)) → 
              P none t10) ∧
            (¬ ((t10 747 ((t10 725 21).toNatClampNeg)) ≤ (t10 751 ((t10 725 21).toNatClampNeg))) → 
              (rIn (t10 725 21) 2 = true ∧
              rIn (t10 725 21) 2 = true ∧
              P none (up2 t10 751 ((t10 725 21).toNatClampNeg) (t10 747 ((t10 725 21).toNatClampNeg))))))))) ∧
        (¬ (¬ (t6 725 18) = 0) → 
          EvS rSkel 2 141 [.inr (.inr (some 725))] t6 (fun v13 t14 => v13 = none ∧
            (rIn (t14 725 21) 2 = true ∧
            rIn (t14 725 21) 2 = true ∧
            ((t14 747 ((t14 725 21).toNatClampNeg)) ≤ (t14 751 ((t14 725 21).toNatClampNeg)) → 
              P none t14) ∧
            (¬ ((t14 747 ((t14 725 21).toNatClampNeg)) ≤ (t14 751 ((t14 725 21).toNatClampNeg))) → 
              (rIn (t14 725 21) 2 = true ∧
              rIn (t14 725 21) 2 = true ∧
              P none (up2 t14 751 ((t14 725 21).toNatClampNeg) (t14 747 ((t14 725 21).toNatClampNeg))))))))))))) : EvS rSkel 13 139 [.inr (.inr (some 725))] sg P := by
  refine EvS.of (ini := false) rfl ⟨rfl, Nat.le_of_ble_eq_true rfl⟩ rfl ?_
  show GoS rSkel 12 9 3 none false prog_11_method_36_code 0 [(0, .inr (.inr (some 725)))] [] sg _
  refine gs0 1 [(0, .inr (.inr (some 725)))] [.inr (.inr (some 725))] dM_139_0 (fun _ => rfl) (Or.inr rfl) ?_
  refine gsGetR (some 749) dM_139_1 sk_725 rfl rfl ?_
  refine gs0 5 [(0, .inr (.inr (some 725)))] [.inr (.inr (some 725)), .inr (.inr (some 749))] dM_139_4 (fun _ => rfl) (Or.inr rfl) ?_
  refine gsGetE (sg 725 21) dM_139_5 sk_725 rfl rfl rfl ?_
  refine gs0 9 [(0, .inr (.inr (some 725)))] [.inl (sg 725 21), .inr (.inr (some 749)), .inl (sg 725 21), .inr (.inr (some 749))] dM_139_8 (fun _ => rfl) (Or.inr rfl) ?_
  refine gsIaldN ((sg 725 21).toNatClampNeg) (sg 749 ((sg 725 21).toNatClampNeg)) dM_139_9 sk_749 h.1 rfl rfl ?_
  replace h := h.2
  refine gs0 11 [(0, .inr (.inr (some 725)))] [.inl 1, .inl (sg 749 ((sg 725 21).toNatClampNeg)), .inl (sg 725 21), .inr (.inr (some 749))] dM_139_10 (fun _ => rfl) (Or.inr rfl) ?_
  refine gs0 12 [(0, .inr (.inr (some 725)))] [.inl ((sg 749 ((sg 725 21).toNatClampNeg)) + 1), .inl (sg 725 21), .inr (.inr (some 749))] dM_139_11 (fun _ => rfl) (Or.inr rfl) ?_
  refine gsIastN ((sg 725 21).toNatClampNeg) dM_139_12 sk_749 h.1 rfl ?_
  replace h := h.2
  refine gs0 14 [(0, .inr (.inr (some 725)))] [.inr (.inr (some 725))] dM_139_13 (fun _ => rfl) (Or.inr rfl) ?_
  refine gs0 15 [(0, .inr (.inr (some 725)))] [.inl 0, .inr (.inr (some 725))] dM_139_14 (fun _ => rfl) (Or.inr rfl) ?_
  refine gsCallV (y := 125) (k := 725) (as := [.inr (.inr (some 725)), .inl 0]) (r := []) dM_139_15 rfl rfl rfl (Nat.le_of_ble_eq_true rfl) sk_725 rfl (Nat.le_of_ble_eq_true rfl) (EvS.up h (Nat.le_of_ble_eq_true rfl)) (fun v1 t2 hv3 => ?_)
  obtain ⟨n4, rfl, hn⟩ := hv3
  clear h
  show GoS _ _ _ _ _ _ _ _ [(0, .inr (.inr (some 725)))] [.inl n4] t2 _
  refine gs0 19 [(1, .inl n4), (0, .inr (.inr (some 725)))] [] dM_139_18 (fun _ => rfl) (Or.inr rfl) ?_
  refine gs0 20 [(1, .inl n4), (0, .inr (.inr (some 725)))] [.inr (.inr (some 725))] dM_139_19 (fun _ => rfl) (Or.inr rfl) ?_
  refine gsGetR (some 746) dM_139_20 sk_725 rfl rfl ?_
  refine gs0 24 [(1, .inl n4), (0, .inr (.inr (some 725)))] [.inr (.inr (some 725)), .inr (.inr (some 746))] dM_139_23 (fun _ => rfl) (Or.inr rfl) ?_
  refine gsGetE (t2 725 21) dM_139_24 sk_725 rfl rfl rfl ?_
  refine gs0 28 [(1, .inl n4), (0, .inr (.inr (some 725)))] [.inr (.inr (some 725)), .inl (t2 725 21), .inr (.inr (some 746))] dM_139_27 (fun _ => rfl) (Or.inr rfl) ?_
  refine gsGetR (some 746) dM_139_28 sk_725 rfl rfl ?_
  refine gs0 32 [(1, .inl n4), (0, .inr (.inr (some 725)))] [.inr (.inr (some 725)), .inr (.inr (some 746)), .inl (t2 725 21), .inr (.inr (some 746))] dM_139_31 (fun _ => rfl) (Or.inr rfl) ?_
  refine gsGetE (t2 725 21) dM_139_32 sk_725 rfl rfl rfl ?_
  refine gsIaldN ((t2 725 21).toNatClampNeg) (t2 746 ((t2 725 21).toNatClampNeg)) dM_139_35 sk_746 hn.1 rfl rfl ?_
  replace hn := hn.2
  refine gs0 37 [(1, .inl n4), (0, .inr (.inr (some 725)))] [.inl 1, .inl (t2 746 ((t2 725 21).toNatClampNeg)), .inl (t2 725 21), .inr (.inr (some 746))] dM_139_36 (fun _ => rfl) (Or.inr rfl) ?_
  refine gs0 38 [(1, .inl n4), (0, .inr (.inr (some 725)))] [.inl ((t2 746 ((t2 725 21).toNatClampNeg)) + 1), .inl (t2 725 21), .inr (.inr (some 746))] dM_139_37 (fun _ => rfl) (Or.inr rfl) ?_
  refine gs0 40 [(1, .inl n4), (0, .inr (.inr (some 725)))] [.inl 42, .inl ((t2 746 ((t2 725 21).toNatClampNeg)) + 1), .inl (t2 725 21), .inr (.inr (some 746))] dM_139_38 (fun _ => rfl) (Or.inr rfl) ?_
  refine gs0 41 [(1, .inl n4), (0, .inr (.inr (some 725)))] [.inl (irem ((t2 746 ((t2 725 21).toNatClampNeg)) + 1) 42), .inl (t2 725 21), .inr (.inr (some 746))] dM_139_40 (fun _ => rfl) (Or.inr rfl) ?_
  refine gsIastN ((t2 725 21).toNatClampNeg) dM_139_41 sk_746 hn.1 rfl ?_
  replace hn := hn.2
  refine gs0 43 [(1, .inl n4), (0, .inr (.inr (some 725)))] [.inr (.inr (some 725))] dM_139_42 (fun _ => rfl) (Or.inr rfl) ?_
  refine gsGetR (some 747) dM_139_43 sk_725 rfl rfl ?_
  refine gs0 47 [(1, .inl n4), (0, .inr (.inr (some 725)))] [.inr (.inr (some 725)), .inr (.inr (some 747))] dM_139_46 (fun _ => rfl) (Or.inr rfl) ?_
  refine gsGetE (t2 725 21) dM_139_47 sk_725 rfl rfl (congrFun (up2_nk _ _ _ (by decide)) _) ?_
  refine gs0 51 [(1, .inl n4), (0, .inr (.inr (some 725)))] [.inl (t2 725 21), .inr (.inr (some 747)), .inl (t2 725 21), .inr (.inr (some 747))] dM_139_50 (fun _ => rfl) (Or.inr rfl) ?_
  refine gsIaldN ((t2 725 21).toNatClampNeg) (t2 747 ((t2 725 21).toNatClampNeg)) dM_139_51 sk_747 hn.1 rfl (congrFun (up2_nk _ _ _ (by decide)) _) ?_
  replace hn := hn.2
  refine gs0 53 [(1, .inl n4), (0, .inr (.inr (some 725)))] [.inl 1, .inl (t2 747 ((t2 725 21).toNatClampNeg)), .inl (t2 725 21), .inr (.inr (some 747))] dM_139_52 (fun _ => rfl) (Or.inr rfl) ?_
  refine gs0 54 [(1, .inl n4), (0, .inr (.inr (some 725)))] [.inl ((t2 747 ((t2 725 21).toNatClampNeg)) - 1), .inl (t2 725 21), .inr (.inr (some 747))] dM_139_53 (fun _ => rfl) (Or.inr rfl) ?_
  refine gsIastN ((t2 725 21).toNatClampNeg) dM_139_54 sk_747 hn.1 rfl ?_
  replace hn := hn.2
  refine gs0 56 [(1, .inl n4), (0, .inr (.inr (some 725)))] [.inr (.inr (some 725))] dM_139_55 (fun _ => rfl) (Or.inr rfl) ?_
  refine gs0 57 [(1, .inl n4), (0, .inr (.inr (some 725)))] [.inl n4, .inr (.inr (some 725))] dM_139_56 (fun _ => rfl) (Or.inr rfl) ?_
  refine gsCallV (y := 140) (k := 725) (as := [.inr (.inr (some 725)), .inl n4]) (r := []) dM_139_57 rfl rfl rfl (Nat.le_of_ble_eq_true rfl) sk_725 rfl (Nat.le_of_ble_eq_true rfl) (EvS.up hn (Nat.le_of_ble_eq_true rfl)) (fun v5 t6 hv7 => ?_)
  obtain ⟨rfl, hnn⟩ := hv7
  clear hn
  show GoS _ _ _ _ _ _ _ _ [(1, .inl n4), (0, .inr (.inr (some 725)))] [] t6 _
  refine gs0 61 [(1, .inl n4), (0, .inr (.inr (some 725)))] [.inr (.inr (some 725))] dM_139_60 (fun _ => rfl) (Or.inr rfl) ?_
  refine gsGetE (t6 725 18) dM_139_61 sk_725 rfl rfl rfl ?_
  refine gsIf (t := 74) (C := ¬ (t6 725 18) = 0) (r := []) dM_139_64 (fun _ => rfl) (Or.inr rfl) (rTest_iff .ne (t6 725 18) 0) (fun c8 => ?_) (fun c8 => ?_)
  · replace hnn := hnn.1 c8
    refine gs0 75 [(1, .inl n4), (0, .inr (.inr (some 725)))] [.inr (.inr (some 725))] dM_139_74 (fun _ => rfl) (Or.inr rfl) ?_
    refine gsGetR (some 733) dM_139_75 sk_725 rfl rfl ?_
    refine gs0 79 [(1, .inl n4), (0, .inr (.inr (some 725)))] [.inr (.inr (some 725)), .inr (.inr (some 733))] dM_139_78 (fun _ => rfl) (Or.inr rfl) ?_
    refine gsGetE (t6 725 18) dM_139_79 sk_725 rfl rfl rfl ?_
    refine gsIaldN ((t6 725 18).toNatClampNeg) (t6 733 ((t6 725 18).toNatClampNeg)) dM_139_82 sk_733 hnn.1 rfl rfl ?_
    replace hnn := hnn.2
    refine gs0 84 [(2, .inl (t6 733 ((t6 725 18).toNatClampNeg))), (1, .inl n4), (0, .inr (.inr (some 725)))] [] dM_139_83 (fun _ => rfl) (Or.inr rfl) ?_
    refine gs0 85 [(2, .inl (t6 733 ((t6 725 18).toNatClampNeg))), (1, .inl n4), (0, .inr (.inr (some 725)))] [.inr (.inr (some 725))] dM_139_84 (fun _ => rfl) (Or.inr rfl) ?_
    refine gs0 86 [(2, .inl (t6 733 ((t6 725 18).toNatClampNeg))), (1, .inl n4), (0, .inr (.inr (some 725)))] [.inr (.inr (some 725)), .inr (.inr (some 725))] dM_139_85 (fun _ => rfl) (Or.inr rfl) ?_
    refine gsGetR (some 735) dM_139_86 sk_725 rfl rfl ?_
    refine gs0 90 [(2, .inl (t6 733 ((t6 725 18).toNatClampNeg))), (1, .inl n4), (0, .inr (.inr (some 725)))] [.inr (.inr (some 725)), .inr (.inr (some 735)), .inr (.inr (some 725))] dM_139_89 (fun _ => rfl) (Or.inr rfl) ?_
    refine gsGetE (t6 725 18) dM_139_90 sk_725 rfl rfl rfl ?_
    refine gsIaldN ((t6 725 18).toNatClampNeg) (t6 735 ((t6 725 18).toNatClampNeg)) dM_139_93 sk_735 hnn.1 rfl rfl ?_
    replace hnn := hnn.2
    refine gsPut dM_139_94 sk_725 rfl rfl rfl (by decide) ?_
    refine gs0 98 [(2, .inl (t6 733 ((t6 725 18).toNatClampNeg))), (1, .inl n4), (0, .inr (.inr (some 725)))] [.inr (.inr (some 725))] dM_139_97 (fun _ => rfl) (Or.inr rfl) ?_
    refine gs0 99 [(2, .inl (t6 733 ((t6 725 18).toNatClampNeg))), (1, .inl n4), (0, .inr (.inr (some 725)))] [.inl n4, .inr (.inr (some 725))] dM_139_98 (fun _ => rfl) (Or.inr rfl) ?_
    refine gs0 100 [(2, .inl (t6 733 ((t6 725 18).toNatClampNeg))), (1, .inl n4), (0, .inr (.inr (some 725)))] [.inl (t6 733 ((t6 725 18).toNatClampNeg)), .inl n4, .inr (.inr (some 725))] dM_139_99 (fun _ => rfl) (Or.inr rfl) ?_
    refine gsCallV (y := 143) (k := 725) (as := [.inr (.inr (some 725)), .inl n4, .inl (t6 733 ((t6 725 18).toNatClampNeg))]) (r := []) dM_139_100 rfl rfl rfl (Nat.le_of_ble_eq_true rfl) sk_725 rfl (Nat.le_of_ble_eq_true rfl) (EvS.up hnn (Nat.le_of_ble_eq_true rfl)) (fun v9 t10 hv11 => ?_)
    obtain ⟨rfl, hnnn⟩ := hv11
    clear hnn
    show GoS _ _ _ _ _ _ _ _ [(2, .inl (t6 733 ((t6 725 18).toNatClampNeg))), (1, .inl n4), (0, .inr (.inr (some 725)))] [] t10 _
    refine gs0 104 [(2, .inl (t6 733 ((t6 725 18).toNatClampNeg))), (1, .inl n4), (0, .inr (.inr (some 725)))] [.inr (.inr (some 725))] dM_139_103 (fun _ => rfl) (Or.inr rfl) ?_
    refine gsGetR (some 747) dM_139_104 sk_725 rfl rfl ?_
    refine gs0 108 [(2, .inl (t6 733 ((t6 725 18).toNatClampNeg))), (1, .inl n4), (0, .inr (.inr (some 725)))] [.inr (.inr (some 725)), .inr (.inr (some 747))] dM_139_107 (fun _ => rfl) (Or.inr rfl) ?_
    refine gsGetE (t10 725 21) dM_139_108 sk_725 rfl rfl rfl ?_
    refine gsIaldN ((t10 725 21).toNatClampNeg) (t10 747 ((t10 725 21).toNatClampNeg)) dM_139_111 sk_747 hnnn.1 rfl rfl ?_
    replace hnnn := hnnn.2
    refine gs0 113 [(2, .inl (t6 733 ((t6 725 18).toNatClampNeg))), (1, .inl n4), (0, .inr (.inr (some 725)))] [.inr (.inr (some 725)), .inl (t10 747 ((t10 725 21).toNatClampNeg))] dM_139_112 (fun _ => rfl) (Or.inr rfl) ?_
    refine gsGetR (some 751) dM_139_113 sk_725 rfl rfl ?_
    refine gs0 117 [(2, .inl (t6 733 ((t6 725 18).toNatClampNeg))), (1, .inl n4), (0, .inr (.inr (some 725)))] [.inr (.inr (some 725)), .inr (.inr (some 751)), .inl (t10 747 ((t10 725 21).toNatClampNeg))] dM_139_116 (fun _ => rfl) (Or.inr rfl) ?_
    refine gsGetE (t10 725 21) dM_139_117 sk_725 rfl rfl rfl ?_
    refine gsIaldN ((t10 725 21).toNatClampNeg) (t10 751 ((t10 725 21).toNatClampNeg)) dM_139_120 sk_751 hnnn.1 rfl rfl ?_
    replace hnnn := hnnn.2
    refine gsIf (t := 142) (C := (t10 747 ((t10 725 21).toNatClampNeg)) ≤ (t10 751 ((t10 725 21).toNatClampNeg))) (r := []) dM_139_121 (fun _ => rfl) (Or.inr rfl) (rTest_iff .le (t10 747 ((t10 725 21).toNatClampNeg)) (t10 751 ((t10 725 21).toNatClampNeg))) (fun c12 => ?_) (fun c12 => ?_)
    · replace hnnn := hnnn.1 c12
      refine gsRet (r := none) dM_139_142 (fun _ => rfl) (Or.inr rfl) ?_
      exact hnnn
    · replace hnnn := hnnn.2 c12
      refine gs0 125 [(2, .inl (t6 733 ((t6 725 18).toNatClampNeg))), (1, .inl n4), (0, .inr (.inr (some 725)))] [.inr (.inr (some 725))] dM_139_124 (fun _ => rfl) (Or.inr rfl) ?_
      refine gsGetR (some 751) dM_139_125 sk_725 rfl rfl ?_
      refine gs0 129 [(2, .inl (t6 733 ((t6 725 18).toNatClampNeg))), (1, .inl n4), (0, .inr (.inr (some 725)))] [.inr (.inr (some 725)), .inr (.inr (some 751))] dM_139_128 (fun _ => rfl) (Or.inr rfl) ?_
      refine gsGetE (t10 725 21) dM_139_129 sk_725 rfl rfl rfl ?_
      refine gs0 133 [(2, .inl (t6 733 ((t6 725 18).toNatClampNeg))), (1, .inl n4), (0, .inr (.inr (some 725)))] [.inr (.inr (some 725)), .inl (t10 725 21), .inr (.inr (some 751))] dM_139_132 (fun _ => rfl) (Or.inr rfl) ?_
      refine gsGetR (some 747) dM_139_133 sk_725 rfl rfl ?_
      refine gs0 137 [(2, .inl (t6 733 ((t6 725 18).toNatClampNeg))), (1, .inl n4), (0, .inr (.inr (some 725)))] [.inr (.inr (some 725)), .inr (.inr (some 747)), .inl (t10 725 21), .inr (.inr (some 751))] dM_139_136 (fun _ => rfl) (Or.inr rfl) ?_
      refine gsGetE (t10 725 21) dM_139_137 sk_725 rfl rfl rfl ?_
      refine gsIaldN ((t10 725 21).toNatClampNeg) (t10 747 ((t10 725 21).toNatClampNeg)) dM_139_140 sk_747 hnnn.1 rfl rfl ?_
      replace hnnn := hnnn.2
      refine gsIastN ((t10 725 21).toNatClampNeg) dM_139_141 sk_751 hnnn.1 rfl ?_
      replace hnnn := hnnn.2
      refine gsRet (r := none) dM_139_142 (fun _ => rfl) (Or.inr rfl) ?_
      exact hnnn
  · replace hnn := hnn.2 c8
    refine gs0 68 [(1, .inl n4), (0, .inr (.inr (some 725)))] [.inr (.inr (some 725))] dM_139_67 (fun _ => rfl) (Or.inr rfl) ?_
    refine gsCallV (y := 141) (k := 725) (as := [.inr (.inr (some 725))]) (r := []) dM_139_68 rfl rfl rfl (Nat.le_of_ble_eq_true rfl) sk_725 rfl (Nat.le_of_ble_eq_true rfl) (EvS.up hnn (Nat.le_of_ble_eq_true rfl)) (fun v13 t14 hv15 => ?_)
    obtain ⟨rfl, hnnn⟩ := hv15
    clear hnn
    show GoS _ _ _ _ _ _ _ _ [(1, .inl n4), (0, .inr (.inr (some 725)))] [] t14 _
    refine gs0 103 [(1, .inl n4), (0, .inr (.inr (some 725)))] [] dM_139_71 (fun _ => rfl) (Or.inr rfl) ?_
    refine gs0 104 [(1, .inl n4), (0, .inr (.inr (some 725)))] [.inr (.inr (some 725))] dM_139_103 (fun _ => rfl) (Or.inr rfl) ?_
    refine gsGetR (some 747) dM_139_104 sk_725 rfl rfl ?_
    refine gs0 108 [(1, .inl n4), (0, .inr (.inr (some 725)))] [.inr (.inr (some 725)), .inr (.inr (some 747))] dM_139_107 (fun _ => rfl) (Or.inr rfl) ?_
    refine gsGetE (t14 725 21) dM_139_108 sk_725 rfl rfl rfl ?_
    refine gsIaldN ((t14 725 21).toNatClampNeg) (t14 747 ((t14 725 21).toNatClampNeg)) dM_139_111 sk_747 hnnn.1 rfl rfl ?_
    replace hnnn := hnnn.2
    refine gs0 113 [(1, .inl n4), (0, .inr (.inr (some 725)))] [.inr (.inr (some 725)), .inl (t14 747 ((t14 725 21).toNatClampNeg))] dM_139_112 (fun _ => rfl) (Or.inr rfl) ?_
    refine gsGetR (some 751) dM_139_113 sk_725 rfl rfl ?_
    refine gs0 117 [(1, .inl n4), (0, .inr (.inr (some 725)))] [.inr (.inr (some 725)), .inr (.inr (some 751)), .inl (t14 747 ((t14 725 21).toNatClampNeg))] dM_139_116 (fun _ => rfl) (Or.inr rfl) ?_
    refine gsGetE (t14 725 21) dM_139_117 sk_725 rfl rfl rfl ?_
    refine gsIaldN ((t14 725 21).toNatClampNeg) (t14 751 ((t14 725 21).toNatClampNeg)) dM_139_120 sk_751 hnnn.1 rfl rfl ?_
    replace hnnn := hnnn.2
    refine gsIf (t := 142) (C := (t14 747 ((t14 725 21).toNatClampNeg)) ≤ (t14 751 ((t14 725 21).toNatClampNeg))) (r := []) dM_139_121 (fun _ => rfl) (Or.inr rfl) (rTest_iff .le (t14 747 ((t14 725 21).toNatClampNeg)) (t14 751 ((t14 725 21).toNatClampNeg))) (fun c16 => ?_) (fun c16 => ?_)
    · replace hnnn := hnnn.1 c16
      refine gsRet (r := none) dM_139_142 (fun _ => rfl) (Or.inr rfl) ?_
      exact hnnn
    · replace hnnn := hnnn.2 c16
      refine gs0 125 [(1, .inl n4), (0, .inr (.inr (some 725)))] [.inr (.inr (some 725))] dM_139_124 (fun _ => rfl) (Or.inr rfl) ?_
      refine gsGetR (some 751) dM_139_125 sk_725 rfl rfl ?_
      refine gs0 129 [(1, .inl n4), (0, .inr (.inr (some 725)))] [.inr (.inr (some 725)), .inr (.inr (some 751))] dM_139_128 (fun _ => rfl) (Or.inr rfl) ?_
      refine gsGetE (t14 725 21) dM_139_129 sk_725 rfl rfl rfl ?_
      refine gs0 133 [(1, .inl n4), (0, .inr (.inr (some 725)))] [.inr (.inr (some 725)), .inl (t14 725 21), .inr (.inr (some 751))] dM_139_132 (fun _ => rfl) (Or.inr rfl) ?_
      refine gsGetR (some 747) dM_139_133 sk_725 rfl rfl ?_
      refine gs0 137 [(1, .inl n4), (0, .inr (.inr (some 725)))] [.inr (.inr (some 725)), .inr (.inr (some 747)), .inl (t14 725 21), .inr (.inr (some 751))] dM_139_136 (fun _ => rfl) (Or.inr rfl) ?_
      refine gsGetE (t14 725 21) dM_139_137 sk_725 rfl rfl rfl ?_
      refine gsIaldN ((t14 725 21).toNatClampNeg) (t14 747 ((t14 725 21).toNatClampNeg)) dM_139_140 sk_747 hnnn.1 rfl rfl ?_
      replace hnnn := hnnn.2
      refine gsIastN ((t14 725 21).toNatClampNeg) dM_139_141 sk_751 hnnn.1 rfl ?_
      replace hnnn := hnnn.2
      refine gsRet (r := none) dM_139_142 (fun _ => rfl) (Or.inr rfl) ?_
      exact hnnn
def g_140_6  (y1 : Int32) (y2 : Int32) (sg : rSg) (P : Option rv → rSg → Prop) : Prop := GoS rSkel 1 9 3 none false prog_11_method_22_code 6 [(0, .inr (.inr (some 725))), (1, .inl y1), (2, .inl y2)] [] sg P
set_option maxRecDepth 100000 in
theorem w_140_6 (sg : rSg)  (y1 : Int32) (y2 : Int32) {P : Option rv → rSg → Prop} (h :
    (64 ≤ y2 → 
      (rIn y1 84 = true ∧
      rIn y1 84 = true ∧
      rIn y1 84 = true ∧
      P none (up2 (up2 (up2 sg 725 18 (sg 740 y1.toNatClampNeg)) 725 19 (sg 741 y1.toNatClampNeg)) 725 20 (sg 742 y1.toNatClampNeg)))) ∧
    (¬ (64 ≤ y2) → 
      (rIn ((64 * y1) + y2) 5376 = true ∧
      rIn y2 128 = true ∧
      g_140_6 y1 (y2 + 1) (up2 sg 736 y2.toNatClampNeg (sg 739 (((64 * y1) + y2).toNatClampNeg))) P))) : g_140_6 y1 y2 sg P := by
  show GoS rSkel 1 9 3 none false prog_11_method_22_code 6 [(0, .inr (.inr (some 725))), (1, .inl y1), (2, .inl y2)] [] sg P
  refine gs0 7 [(0, .inr (.inr (some 725))), (1, .inl y1), (2, .inl y2)] [.inl y2] dM_140_6 (fun _ => rfl) (Or.inr rfl) ?_
  refine gs0 9 [(0, .inr (.inr (some 725))), (1, .inl y1), (2, .inl y2)] [.inl 64, .inl y2] dM_140_7 (fun _ => rfl) (Or.inr rfl) ?_
  refine gsIf (t := 35) (C := 64 ≤ y2) (r := []) dM_140_9 (fun _ => rfl) (Or.inr rfl) (rTest_iff .ge y2 64) (fun c4 => ?_) (fun c4 => ?_)
  · replace h := h.1 c4
    refine gs0 36 [(0, .inr (.inr (some 725))), (1, .inl y1), (2, .inl y2)] [.inr (.inr (some 725))] dM_140_35 (fun _ => rfl) (Or.inr rfl) ?_
    refine gs0 37 [(0, .inr (.inr (some 725))), (1, .inl y1), (2, .inl y2)] [.inr (.inr (some 725)), .inr (.inr (some 725))] dM_140_36 (fun _ => rfl) (Or.inr rfl) ?_
    refine gsGetR (some 740) dM_140_37 sk_725 rfl rfl ?_
    refine gs0 41 [(0, .inr (.inr (some 725))), (1, .inl y1), (2, .inl y2)] [.inl y1, .inr (.inr (some 740)), .inr (.inr (some 725))] dM_140_40 (fun _ => rfl) (Or.inr rfl) ?_
    refine gsIaldN y1.toNatClampNeg (sg 740 y1.toNatClampNeg) dM_140_41 sk_740 h.1 rfl rfl ?_
    replace h := h.2
    refine gsPut dM_140_42 sk_725 rfl rfl rfl (by decide) ?_
    refine gs0 46 [(0, .inr (.inr (some 725))), (1, .inl y1), (2, .inl y2)] [.inr (.inr (some 725))] dM_140_45 (fun _ => rfl) (Or.inr rfl) ?_
    refine gs0 47 [(0, .inr (.inr (some 725))), (1, .inl y1), (2, .inl y2)] [.inr (.inr (some 725)), .inr (.inr (some 725))] dM_140_46 (fun _ => rfl) (Or.inr rfl) ?_
    refine gsGetR (some 741) dM_140_47 sk_725 rfl rfl ?_
    refine gs0 51 [(0, .inr (.inr (some 725))), (1, .inl y1), (2, .inl y2)] [.inl y1, .inr (.inr (some 741)), .inr (.inr (some 725))] dM_140_50 (fun _ => rfl) (Or.inr rfl) ?_
    refine gsIaldN y1.toNatClampNeg (sg 741 y1.toNatClampNeg) dM_140_51 sk_741 h.1 rfl (congrFun (up2_nk _ _ _ (by decide)) _) ?_
    replace h := h.2
    refine gsPut dM_140_52 sk_725 rfl rfl rfl (by decide) ?_
    refine gs0 56 [(0, .inr (.inr (some 725))), (1, .inl y1), (2, .inl y2)] [.inr (.inr (some 725))] dM_140_55 (fun _ => rfl) (Or.inr rfl) ?_
    refine gs0 57 [(0, .inr (.inr (some 725))), (1, .inl y1), (2, .inl y2)] [.inr (.inr (some 725)), .inr (.inr (some 725))] dM_140_56 (fun _ => rfl) (Or.inr rfl) ?_
    refine gsGetR (some 742) dM_140_57 sk_725 rfl rfl ?_
    refine gs0 61 [(0, .inr (.inr (some 725))), (1, .inl y1), (2, .inl y2)] [.inl y1, .inr (.inr (some 742)), .inr (.inr (some 725))] dM_140_60 (fun _ => rfl) (Or.inr rfl) ?_
    refine gsIaldN y1.toNatClampNeg (sg 742 y1.toNatClampNeg) dM_140_61 sk_742 h.1 rfl ((congrFun (up2_nk _ _ _ (by decide)) _).trans (congrFun (up2_nk _ _ _ (by decide)) _)) ?_
    replace h := h.2
    refine gsPut dM_140_62 sk_725 rfl rfl rfl (by decide) ?_
    refine gsRet (r := none) dM_140_65 (fun _ => rfl) (Or.inr rfl) ?_
    exact h
  · replace h := h.2 c4
    refine gs0 13 [(0, .inr (.inr (some 725))), (1, .inl y1), (2, .inl y2)] [.inr (.inr (some 725))] dM_140_12 (fun _ => rfl) (Or.inr rfl) ?_
    refine gsGetR (some 736) dM_140_13 sk_725 rfl rfl ?_
    refine gs0 17 [(0, .inr (.inr (some 725))), (1, .inl y1), (2, .inl y2)] [.inl y2, .inr (.inr (some 736))] dM_140_16 (fun _ => rfl) (Or.inr rfl) ?_
    refine gs0 18 [(0, .inr (.inr (some 725))), (1, .inl y1), (2, .inl y2)] [.inr (.inr (some 725)), .inl y2, .inr (.inr (some 736))] dM_140_17 (fun _ => rfl) (Or.inr rfl) ?_
    refine gsGetR (some 739) dM_140_18 sk_725 rfl rfl ?_
    refine gs0 23 [(0, .inr (.inr (some 725))), (1, .inl y1), (2, .inl y2)] [.inl 64, .inr (.inr (some 739)), .inl y2, .inr (.inr (some 736))] dM_140_21 (fun _ => rfl) (Or.inr rfl) ?_
    refine gs0 24 [(0, .inr (.inr (some 725))), (1, .inl y1), (2, .inl y2)] [.inl y1, .inl 64, .inr (.inr (some 739)), .inl y2, .inr (.inr (some 736))] dM_140_23 (fun _ => rfl) (Or.inr rfl) ?_
    refine gs0 25 [(0, .inr (.inr (some 725))), (1, .inl y1), (2, .inl y2)] [.inl (64 * y1), .inr (.inr (some 739)), .inl y2, .inr (.inr (some 736))] dM_140_24 (fun _ => rfl) (Or.inr rfl) ?_
    refine gs0 26 [(0, .inr (.inr (some 725))), (1, .inl y1), (2, .inl y2)] [.inl y2, .inl (64 * y1), .inr (.inr (some 739)), .inl y2, .inr (.inr (some 736))] dM_140_25 (fun _ => rfl) (Or.inr rfl) ?_
    refine gs0 27 [(0, .inr (.inr (some 725))), (1, .inl y1), (2, .inl y2)] [.inl ((64 * y1) + y2), .inr (.inr (some 739)), .inl y2, .inr (.inr (some 736))] dM_140_26 (fun _ => rfl) (Or.inr rfl) ?_
    refine gsIaldN (((64 * y1) + y2).toNatClampNeg) (sg 739 (((64 * y1) + y2).toNatClampNeg)) dM_140_27 sk_739 h.1 rfl rfl ?_
    replace h := h.2
    refine gsIastN y2.toNatClampNeg dM_140_28 sk_736 h.1 rfl ?_
    replace h := h.2
    refine gs0 32 [(2, .inl (y2 + 1)), (0, .inr (.inr (some 725))), (1, .inl y1)] [] dM_140_29 (fun _ => rfl) (Or.inr rfl) ?_
    refine gs0 6 [(2, .inl (y2 + 1)), (0, .inr (.inr (some 725))), (1, .inl y1)] [] dM_140_32 (fun _ => rfl) (Or.inr rfl) ?_
    exact GoS.sub (Lnd_keys (ks := [0, 1, 2]) rfl (by decide)) (Lsub_cons rfl (Lsub_cons rfl (Lsub_cons rfl Lsub_nil))) h
set_option maxRecDepth 100000 in
/-- GoalsInAQueueModel.loads -/
theorem w_140 (sg : rSg) (x1 : Int32) {P : Option rv → rSg → Prop} (h :
    EvS rSkel 1 122 [.inr (.inr (some 725))] sg (fun v1 t2 => v1 = none ∧
      g_140_6 x1 0 t2 P)) : EvS rSkel 2 140 [.inr (.inr (some 725)), .inl x1] sg P := by
  refine EvS.of (ini := false) rfl ⟨rfl, Nat.le_of_ble_eq_true rfl⟩ rfl ?_
  show GoS rSkel 1 9 3 none false prog_11_method_22_code 0 [(0, .inr (.inr (some 725))), (1, .inl x1)] [] sg _
  refine gs0 1 [(0, .inr (.inr (some 725))), (1, .inl x1)] [.inr (.inr (some 725))] dM_140_0 (fun _ => rfl) (Or.inr rfl) ?_
  refine gsCallV (y := 122) (k := 725) (as := [.inr (.inr (some 725))]) (r := []) dM_140_1 rfl rfl rfl (Nat.le_of_ble_eq_true rfl) sk_725 rfl (Nat.le_of_ble_eq_true rfl) (EvS.up h (Nat.le_of_ble_eq_true rfl)) (fun v1 t2 hv3 => ?_)
  obtain ⟨rfl, hn⟩ := hv3
  clear h
  show GoS _ _ _ _ _ _ _ _ [(0, .inr (.inr (some 725))), (1, .inl x1)] [] t2 _
  refine gs0 5 [(0, .inr (.inr (some 725))), (1, .inl x1)] [.inl 0] dM_140_4 (fun _ => rfl) (Or.inr rfl) ?_
  refine gs0 6 [(2, .inl 0), (0, .inr (.inr (some 725))), (1, .inl x1)] [] dM_140_5 (fun _ => rfl) (Or.inr rfl) ?_
  exact GoS.sub (Lnd_keys (ks := [0, 1, 2]) rfl (by decide)) (Lsub_cons rfl (Lsub_cons rfl (Lsub_cons rfl Lsub_nil))) hn
def g_141_20  (y1 : Int32) (y2 : Int32) (sg : rSg) (P : Option rv → rSg → Prop) : Prop := GoS rSkel 1 9 3 none false prog_11_method_35_code 20 [(0, .inr (.inr (some 725))), (1, .inl y1), (2, .inl y2)] [] sg P
set_option maxRecDepth 100000 in
theorem w_141_20 (sg : rSg)  (y1 : Int32) (y2 : Int32) {P : Option rv → rSg → Prop} (h :
    (64 ≤ y2 → 
      (rIn (sg 725 21) 2 = true ∧
      rIn y1 60 = true ∧
      EvS rSkel 1 142 [.inr (.inr (some 725)), .inl (sg 725 19)] (up2 sg 744 y1.toNatClampNeg (sg 749 ((sg 725 21).toNatClampNeg))) (fun v2 t3 => ∃ n5, v2 = some (.inl n5) ∧
        (rIn y1 60 = true ∧
        rIn (t3 725 21) 2 = true ∧
        rIn (t3 725 21) 2 = true ∧
        P none (up2 (up2 t3 745 y1.toNatClampNeg n5) 748 ((t3 725 21).toNatClampNeg) ((t3 748 ((t3 725 21).toNatClampNeg)) + 1)))))) ∧
    (¬ (64 ≤ y2) → 
      (rIn y2 128 = true ∧
      rIn ((64 * y1) + y2) 3840 = true ∧
      g_141_20 y1 (y2 + 1) (up2 sg 743 (((64 * y1) + y2).toNatClampNeg) (sg 736 y2.toNatClampNeg)) P))) : g_141_20 y1 y2 sg P := by
  show GoS rSkel 1 9 3 none false prog_11_method_35_code 20 [(0, .inr (.inr (some 725))), (1, .inl y1), (2, .inl y2)] [] sg P
  refine gs0 21 [(0, .inr (.inr (some 725))), (1, .inl y1), (2, .inl y2)] [.inl y2] dM_141_20 (fun _ => rfl) (Or.inr rfl) ?_
  refine gs0 23 [(0, .inr (.inr (some 725))), (1, .inl y1), (2, .inl y2)] [.inl 64, .inl y2] dM_141_21 (fun _ => rfl) (Or.inr rfl) ?_
  refine gsIf (t := 49) (C := 64 ≤ y2) (r := []) dM_141_23 (fun _ => rfl) (Or.inr rfl) (rTest_iff .ge y2 64) (fun c1 => ?_) (fun c1 => ?_)
  · replace h := h.1 c1
    refine gs0 50 [(0, .inr (.inr (some 725))), (1, .inl y1), (2, .inl y2)] [.inr (.inr (some 725))] dM_141_49 (fun _ => rfl) (Or.inr rfl) ?_
    refine gsGetR (some 744) dM_141_50 sk_725 rfl rfl ?_
    refine gs0 54 [(0, .inr (.inr (some 725))), (1, .inl y1), (2, .inl y2)] [.inl y1, .inr (.inr (some 744))] dM_141_53 (fun _ => rfl) (Or.inr rfl) ?_
    refine gs0 55 [(0, .inr (.inr (some 725))), (1, .inl y1), (2, .inl y2)] [.inr (.inr (some 725)), .inl y1, .inr (.inr (some 744))] dM_141_54 (fun _ => rfl) (Or.inr rfl) ?_
    refine gsGetR (some 749) dM_141_55 sk_725 rfl rfl ?_
    refine gs0 59 [(0, .inr (.inr (some 725))), (1, .inl y1), (2, .inl y2)] [.inr (.inr (some 725)), .inr (.inr (some 749)), .inl y1, .inr (.inr (some 744))] dM_141_58 (fun _ => rfl) (Or.inr rfl) ?_
    refine gsGetE (sg 725 21) dM_141_59 sk_725 rfl rfl rfl ?_
    refine gsIaldN ((sg 725 21).toNatClampNeg) (sg 749 ((sg 725 21).toNatClampNeg)) dM_141_62 sk_749 h.1 rfl rfl ?_
    replace h := h.2
    refine gsIastN y1.toNatClampNeg dM_141_63 sk_744 h.1 rfl ?_
    replace h := h.2
    refine gs0 65 [(0, .inr (.inr (some 725))), (1, .inl y1), (2, .inl y2)] [.inr (.inr (some 725))] dM_141_64 (fun _ => rfl) (Or.inr rfl) ?_
    refine gsGetR (some 745) dM_141_65 sk_725 rfl rfl ?_
    refine gs0 69 [(0, .inr (.inr (some 725))), (1, .inl y1), (2, .inl y2)] [.inl y1, .inr (.inr (some 745))] dM_141_68 (fun _ => rfl) (Or.inr rfl) ?_
    refine gs0 70 [(0, .inr (.inr (some 725))), (1, .inl y1), (2, .inl y2)] [.inr (.inr (some 725)), .inl y1, .inr (.inr (some 745))] dM_141_69 (fun _ => rfl) (Or.inr rfl) ?_
    refine gs0 71 [(0, .inr (.inr (some 725))), (1, .inl y1), (2, .inl y2)] [.inr (.inr (some 725)), .inr (.inr (some 725)), .inl y1, .inr (.inr (some 745))] dM_141_70 (fun _ => rfl) (Or.inr rfl) ?_
    refine gsGetE (sg 725 19) dM_141_71 sk_725 rfl rfl (congrFun (up2_nk _ _ _ (by decide)) _) ?_
    refine gsCallV (y := 142) (k := 725) (as := [.inr (.inr (some 725)), .inl (sg 725 19)]) (r := [.inl y1, .inr (.inr (some 745))]) dM_141_74 rfl rfl rfl (Nat.le_of_ble_eq_true rfl) sk_725 rfl (Nat.le_of_ble_eq_true rfl) (EvS.up h (Nat.le_of_ble_eq_true rfl)) (fun v2 t3 hv4 => ?_)
    obtain ⟨n5, rfl, hn⟩ := hv4
    clear h
    show GoS _ _ _ _ _ _ _ _ [(0, .inr (.inr (some 725))), (1, .inl y1), (2, .inl y2)] [.inl n5, .inl y1, .inr (.inr (some 745))] t3 _
    refine gsIastN y1.toNatClampNeg dM_141_77 sk_745 hn.1 rfl ?_
    replace hn := hn.2
    refine gs0 79 [(0, .inr (.inr (some 725))), (1, .inl y1), (2, .inl y2)] [.inr (.inr (some 725))] dM_141_78 (fun _ => rfl) (Or.inr rfl) ?_
    refine gsGetR (some 748) dM_141_79 sk_725 rfl rfl ?_
    refine gs0 83 [(0, .inr (.inr (some 725))), (1, .inl y1), (2, .inl y2)] [.inr (.inr (some 725)), .inr (.inr (some 748))] dM_141_82 (fun _ => rfl) (Or.inr rfl) ?_
    refine gsGetE (t3 725 21) dM_141_83 sk_725 rfl rfl (congrFun (up2_nk _ _ _ (by decide)) _) ?_
    refine gs0 87 [(0, .inr (.inr (some 725))), (1, .inl y1), (2, .inl y2)] [.inl (t3 725 21), .inr (.inr (some 748)), .inl (t3 725 21), .inr (.inr (some 748))] dM_141_86 (fun _ => rfl) (Or.inr rfl) ?_
    refine gsIaldN ((t3 725 21).toNatClampNeg) (t3 748 ((t3 725 21).toNatClampNeg)) dM_141_87 sk_748 hn.1 rfl (congrFun (up2_nk _ _ _ (by decide)) _) ?_
    replace hn := hn.2
    refine gs0 89 [(0, .inr (.inr (some 725))), (1, .inl y1), (2, .inl y2)] [.inl 1, .inl (t3 748 ((t3 725 21).toNatClampNeg)), .inl (t3 725 21), .inr (.inr (some 748))] dM_141_88 (fun _ => rfl) (Or.inr rfl) ?_
    refine gs0 90 [(0, .inr (.inr (some 725))), (1, .inl y1), (2, .inl y2)] [.inl ((t3 748 ((t3 725 21).toNatClampNeg)) + 1), .inl (t3 725 21), .inr (.inr (some 748))] dM_141_89 (fun _ => rfl) (Or.inr rfl) ?_
    refine gsIastN ((t3 725 21).toNatClampNeg) dM_141_90 sk_748 hn.1 rfl ?_
    replace hn := hn.2
    refine gsRet (r := none) dM_141_91 (fun _ => rfl) (Or.inr rfl) ?_
    exact hn
  · replace h := h.2 c1
    refine gs0 27 [(0, .inr (.inr (some 725))), (1, .inl y1), (2, .inl y2)] [.inr (.inr (some 725))] dM_141_26 (fun _ => rfl) (Or.inr rfl) ?_
    refine gsGetR (some 743) dM_141_27 sk_725 rfl rfl ?_
    refine gs0 32 [(0, .inr (.inr (some 725))), (1, .inl y1), (2, .inl y2)] [.inl 64, .inr (.inr (some 743))] dM_141_30 (fun _ => rfl) (Or.inr rfl) ?_
    refine gs0 33 [(0, .inr (.inr (some 725))), (1, .inl y1), (2, .inl y2)] [.inl y1, .inl 64, .inr (.inr (some 743))] dM_141_32 (fun _ => rfl) (Or.inr rfl) ?_
    refine gs0 34 [(0, .inr (.inr (some 725))), (1, .inl y1), (2, .inl y2)] [.inl (64 * y1), .inr (.inr (some 743))] dM_141_33 (fun _ => rfl) (Or.inr rfl) ?_
    refine gs0 35 [(0, .inr (.inr (some 725))), (1, .inl y1), (2, .inl y2)] [.inl y2, .inl (64 * y1), .inr (.inr (some 743))] dM_141_34 (fun _ => rfl) (Or.inr rfl) ?_
    refine gs0 36 [(0, .inr (.inr (some 725))), (1, .inl y1), (2, .inl y2)] [.inl ((64 * y1) + y2), .inr (.inr (some 743))] dM_141_35 (fun _ => rfl) (Or.inr rfl) ?_
    refine gs0 37 [(0, .inr (.inr (some 725))), (1, .inl y1), (2, .inl y2)] [.inr (.inr (some 725)), .inl ((64 * y1) + y2), .inr (.inr (some 743))] dM_141_36 (fun _ => rfl) (Or.inr rfl) ?_
    refine gsGetR (some 736) dM_141_37 sk_725 rfl rfl ?_
    refine gs0 41 [(0, .inr (.inr (some 725))), (1, .inl y1), (2, .inl y2)] [.inl y2, .inr (.inr (some 736)), .inl ((64 * y1) + y2), .inr (.inr (some 743))] dM_141_40 (fun _ => rfl) (Or.inr rfl) ?_
    refine gsIaldN y2.toNatClampNeg (sg 736 y2.toNatClampNeg) dM_141_41 sk_736 h.1 rfl rfl ?_
    replace h := h.2
    refine gsIastN (((64 * y1) + y2).toNatClampNeg) dM_141_42 sk_743 h.1 rfl ?_
    replace h := h.2
    refine gs0 46 [(2, .inl (y2 + 1)), (0, .inr (.inr (some 725))), (1, .inl y1)] [] dM_141_43 (fun _ => rfl) (Or.inr rfl) ?_
    refine gs0 20 [(2, .inl (y2 + 1)), (0, .inr (.inr (some 725))), (1, .inl y1)] [] dM_141_46 (fun _ => rfl) (Or.inr rfl) ?_
    exact GoS.sub (Lnd_keys (ks := [0, 1, 2]) rfl (by decide)) (Lsub_cons rfl (Lsub_cons rfl (Lsub_cons rfl Lsub_nil))) h
set_option maxRecDepth 100000 in
/-- GoalsInAQueueModel.comesAnswer -/
theorem w_141 (sg : rSg)  {P : Option rv → rSg → Prop} (h :
    (rIn (sg 725 21) 2 = true ∧
    g_141_20 ((30 * (sg 725 21)) + (sg 748 ((sg 725 21).toNatClampNeg))) 0 sg P)) : EvS rSkel 2 141 [.inr (.inr (some 725))] sg P := by
  refine EvS.of (ini := false) rfl ⟨rfl, Nat.le_of_ble_eq_true rfl⟩ rfl ?_
  show GoS rSkel 1 9 3 none false prog_11_method_35_code 0 [(0, .inr (.inr (some 725)))] [] sg _
  refine gs0 2 [(0, .inr (.inr (some 725)))] [.inl 30] dM_141_0 (fun _ => rfl) (Or.inr rfl) ?_
  refine gs0 3 [(0, .inr (.inr (some 725)))] [.inr (.inr (some 725)), .inl 30] dM_141_2 (fun _ => rfl) (Or.inr rfl) ?_
  refine gsGetE (sg 725 21) dM_141_3 sk_725 rfl rfl rfl ?_
  refine gs0 7 [(0, .inr (.inr (some 725)))] [.inl (30 * (sg 725 21))] dM_141_6 (fun _ => rfl) (Or.inr rfl) ?_
  refine gs0 8 [(0, .inr (.inr (some 725)))] [.inr (.inr (some 725)), .inl (30 * (sg 725 21))] dM_141_7 (fun _ => rfl) (Or.inr rfl) ?_
  refine gsGetR (some 748) dM_141_8 sk_725 rfl rfl ?_
  refine gs0 12 [(0, .inr (.inr (some 725)))] [.inr (.inr (some 725)), .inr (.inr (some 748)), .inl (30 * (sg 725 21))] dM_141_11 (fun _ => rfl) (Or.inr rfl) ?_
  refine gsGetE (sg 725 21) dM_141_12 sk_725 rfl rfl rfl ?_
  refine gsIaldN ((sg 725 21).toNatClampNeg) (sg 748 ((sg 725 21).toNatClampNeg)) dM_141_15 sk_748 h.1 rfl rfl ?_
  replace h := h.2
  refine gs0 17 [(0, .inr (.inr (some 725)))] [.inl ((30 * (sg 725 21)) + (sg 748 ((sg 725 21).toNatClampNeg)))] dM_141_16 (fun _ => rfl) (Or.inr rfl) ?_
  refine gs0 18 [(1, .inl ((30 * (sg 725 21)) + (sg 748 ((sg 725 21).toNatClampNeg)))), (0, .inr (.inr (some 725)))] [] dM_141_17 (fun _ => rfl) (Or.inr rfl) ?_
  refine gs0 19 [(1, .inl ((30 * (sg 725 21)) + (sg 748 ((sg 725 21).toNatClampNeg)))), (0, .inr (.inr (some 725)))] [.inl 0] dM_141_18 (fun _ => rfl) (Or.inr rfl) ?_
  refine gs0 20 [(2, .inl 0), (1, .inl ((30 * (sg 725 21)) + (sg 748 ((sg 725 21).toNatClampNeg)))), (0, .inr (.inr (some 725)))] [] dM_141_19 (fun _ => rfl) (Or.inr rfl) ?_
  exact GoS.sub (Lnd_keys (ks := [0, 1, 2]) rfl (by decide)) (Lsub_cons rfl (Lsub_cons rfl (Lsub_cons rfl Lsub_nil))) h
def g_142_4  (y2 : Int32) (y3 : Int32) (sg : rSg) (P : Option rv → rSg → Prop) : Prop := GoS rSkel 0 9 4 (some .int) false prog_11_method_9_code 4 [(0, .inr (.inr (some 725))), (2, .inl y2), (3, .inl y3)] [] sg P
set_option maxRecDepth 100000 in
theorem w_142_4 (sg : rSg)  (y2 : Int32) (y3 : Int32) {P : Option rv → rSg → Prop} (h :
    (y3 ≤ 0 → 
      P (some (.inl y2)) sg) ∧
    (¬ (y3 ≤ 0) → 
      (rIn y3 20000 = true ∧
      g_142_4 (y2 + 1) (sg 735 y3.toNatClampNeg) sg P))) : g_142_4 y2 y3 sg P := by
  show GoS rSkel 0 9 4 (some .int) false prog_11_method_9_code 4 [(0, .inr (.inr (some 725))), (2, .inl y2), (3, .inl y3)] [] sg P
  refine gs0 5 [(0, .inr (.inr (some 725))), (2, .inl y2), (3, .inl y3)] [.inl y3] dM_142_4 (fun _ => rfl) (Or.inr rfl) ?_
  refine gsIf (t := 21) (C := y3 ≤ 0) (r := []) dM_142_5 (fun _ => rfl) (Or.inr rfl) (rTest_iff .le y3 0) (fun c1 => ?_) (fun c1 => ?_)
  · replace h := h.1 c1
    refine gs0 22 [(0, .inr (.inr (some 725))), (2, .inl y2), (3, .inl y3)] [.inl y2] dM_142_21 (fun _ => rfl) (Or.inr rfl) ?_
    refine gsRet (r := some (.inl y2)) dM_142_22 (fun _ => rfl) (Or.inr rfl) ?_
    exact h
  · replace h := h.2 c1
    refine gs0 11 [(2, .inl (y2 + 1)), (0, .inr (.inr (some 725))), (3, .inl y3)] [] dM_142_8 (fun _ => rfl) (Or.inr rfl) ?_
    refine gs0 12 [(2, .inl (y2 + 1)), (0, .inr (.inr (some 725))), (3, .inl y3)] [.inr (.inr (some 725))] dM_142_11 (fun _ => rfl) (Or.inr rfl) ?_
    refine gsGetR (some 735) dM_142_12 sk_725 rfl rfl ?_
    refine gs0 16 [(2, .inl (y2 + 1)), (0, .inr (.inr (some 725))), (3, .inl y3)] [.inl y3, .inr (.inr (some 735))] dM_142_15 (fun _ => rfl) (Or.inr rfl) ?_
    refine gsIaldN y3.toNatClampNeg (sg 735 y3.toNatClampNeg) dM_142_16 sk_735 h.1 rfl rfl ?_
    replace h := h.2
    refine gs0 18 [(3, .inl (sg 735 y3.toNatClampNeg)), (2, .inl (y2 + 1)), (0, .inr (.inr (some 725)))] [] dM_142_17 (fun _ => rfl) (Or.inr rfl) ?_
    refine gs0 4 [(3, .inl (sg 735 y3.toNatClampNeg)), (2, .inl (y2 + 1)), (0, .inr (.inr (some 725)))] [] dM_142_18 (fun _ => rfl) (Or.inr rfl) ?_
    exact GoS.sub (Lnd_keys (ks := [0, 2, 3]) rfl (by decide)) (Lsub_cons rfl (Lsub_cons rfl (Lsub_cons rfl Lsub_nil))) h
set_option maxRecDepth 100000 in
/-- GoalsInAQueueModel.lengthOf -/
theorem w_142 (sg : rSg) (x1 : Int32) {P : Option rv → rSg → Prop} (h :
    g_142_4 0 x1 sg P) : EvS rSkel 1 142 [.inr (.inr (some 725)), .inl x1] sg P := by
  refine EvS.of (ini := false) rfl ⟨rfl, Nat.le_of_ble_eq_true rfl⟩ rfl ?_
  show GoS rSkel 0 9 4 (some .int) false prog_11_method_9_code 0 [(0, .inr (.inr (some 725))), (1, .inl x1)] [] sg _
  refine gs0 1 [(0, .inr (.inr (some 725))), (1, .inl x1)] [.inl 0] dM_142_0 (fun _ => rfl) (Or.inr rfl) ?_
  refine gs0 2 [(2, .inl 0), (0, .inr (.inr (some 725))), (1, .inl x1)] [] dM_142_1 (fun _ => rfl) (Or.inr rfl) ?_
  refine gs0 3 [(2, .inl 0), (0, .inr (.inr (some 725))), (1, .inl x1)] [.inl x1] dM_142_2 (fun _ => rfl) (Or.inr rfl) ?_
  refine gs0 4 [(3, .inl x1), (2, .inl 0), (0, .inr (.inr (some 725))), (1, .inl x1)] [] dM_142_3 (fun _ => rfl) (Or.inr rfl) ?_
  exact GoS.sub (Lnd_keys (ks := [0, 2, 3]) rfl (by decide)) (Lsub_cons rfl (Lsub_cons rfl (Lsub_cons rfl Lsub_nil))) h
set_option maxRecDepth 100000 in
/-- GoalsInAQueueModel.does -/
theorem w_143 (sg : rSg) (x1 : Int32) (x2 : Int32) {P : Option rv → rSg → Prop} (h :
    (rIn x2 3000 = true ∧
    ((sg 729 x2.toNatClampNeg) = 35 → 
      (rIn x2 3000 = true ∧
      rIn x2 3000 = true ∧
      EvS rSkel 1 123 [.inr (.inr (some 725)), .inl (sg 730 x2.toNatClampNeg), .inl (sg 731 x2.toNatClampNeg), .inl (sg 725 19)] sg (fun v2 t3 => ∃ n5, v2 = some (.inl n5) ∧
        EvS rSkel 10 153 [.inr (.inr (some 725)), .inl 1] (up2 t3 725 19 n5) (fun v6 t7 => v6 = none ∧
          P none t7)))) ∧
    ((sg 729 x2.toNatClampNeg) = 38 → 
      (rIn x2 3000 = true ∧
      rIn x2 3000 = true ∧
      EvS rSkel 1 123 [.inr (.inr (some 725)), .inl (sg 731 x2.toNatClampNeg), .inl 0, .inl (sg 725 18)] sg (fun v9 t10 => ∃ n12, v9 = some (.inl n12) ∧
        EvS rSkel 1 123 [.inr (.inr (some 725)), .inl (sg 730 x2.toNatClampNeg), .inl 0, .inl n12] t10 (fun v13 t14 => ∃ n16, v13 = some (.inl n16) ∧
          EvS rSkel 2 124 [.inr (.inr (some 725))] (up2 t14 725 18 n16) (fun v17 t18 => v17 = none ∧
            P none t18))))) ∧
    ((sg 729 x2.toNatClampNeg) = 42 → 
      EvS rSkel 2 124 [.inr (.inr (some 725))] sg (fun v20 t21 => v20 = none ∧
        P none t21)) ∧
    ((sg 729 x2.toNatClampNeg) = 61 → 
      (rIn x2 3000 = true ∧
      rIn x2 3000 = true ∧
      EvS rSkel 7 144 [.inr (.inr (some 725)), .inl (sg 730 x2.toNatClampNeg), .inl (sg 731 x2.toNatClampNeg)] sg (fun v23 t24 => ∃ n26, v23 = some (.inl n26) ∧
        EvS rSkel 10 153 [.inr (.inr (some 725)), .inl n26] t24 (fun v27 t28 => v27 = none ∧
          P none t28)))) ∧
    ((sg 729 x2.toNatClampNeg) = 65 → 
      EvS rSkel 11 159 [.inr (.inr (some 725)), .inl x1, .inl x2] sg (fun v30 t31 => v30 = none ∧
        P none t31)) ∧
    ((sg 729 x2.toNatClampNeg) = 77 → 
      EvS rSkel 11 160 [.inr (.inr (some 725)), .inl x1, .inl x2] sg (fun v33 t34 => v33 = none ∧
        P none t34)) ∧
    ((sg 729 x2.toNatClampNeg) = 124 → 
      EvS rSkel 3 158 [.inr (.inr (some 725)), .inl x1, .inl x2] sg (fun v36 t37 => v36 = none ∧
        P none t37)) ∧
    (¬ (sg 729 x2.toNatClampNeg) = 35 ∧ ¬ (sg 729 x2.toNatClampNeg) = 38 ∧ ¬ (sg 729 x2.toNatClampNeg) = 42 ∧ ¬ (sg 729 x2.toNatClampNeg) = 61 ∧ ¬ (sg 729 x2.toNatClampNeg) = 65 ∧ ¬ (sg 729 x2.toNatClampNeg) = 77 ∧ ¬ (sg 729 x2.toNatClampNeg) = 124 →
      P none sg))) : EvS rSkel 12 143 [.inr (.inr (some 725)), .inl x1, .inl x2] sg P := by
  refine EvS.of (ini := false) rfl ⟨rfl, Nat.le_of_ble_eq_true rfl⟩ rfl ?_
  show GoS rSkel 11 9 3 none false prog_11_method_34_code 0 [(0, .inr (.inr (some 725))), (1, .inl x1), (2, .inl x2)] [] sg _
  refine gs0 1 [(0, .inr (.inr (some 725))), (1, .inl x1), (2, .inl x2)] [.inr (.inr (some 725))] dM_143_0 (fun _ => rfl) (Or.inr rfl) ?_
  refine gsGetR (some 729) dM_143_1 sk_725 rfl rfl ?_
  refine gs0 5 [(0, .inr (.inr (some 725))), (1, .inl x1), (2, .inl x2)] [.inl x2, .inr (.inr (some 729))] dM_143_4 (fun _ => rfl) (Or.inr rfl) ?_
  refine gsIaldN x2.toNatClampNeg (sg 729 x2.toNatClampNeg) dM_143_5 sk_729 h.1 rfl rfl ?_
  replace h := h.2
  by_cases c1_35 : (sg 729 x2.toNatClampNeg) = 35
  · replace h := h.1 c1_35
    refine gs0 95 [(0, .inr (.inr (some 725))), (1, .inl x1), (2, .inl x2)] [] dM_143_6 (fun _ => by rw [c1_35]; rfl) (Or.inl rfl) ?_
    refine gs0 96 [(0, .inr (.inr (some 725))), (1, .inl x1), (2, .inl x2)] [.inr (.inr (some 725))] dM_143_95 (fun _ => rfl) (Or.inr rfl) ?_
    refine gs0 97 [(0, .inr (.inr (some 725))), (1, .inl x1), (2, .inl x2)] [.inr (.inr (some 725)), .inr (.inr (some 725))] dM_143_96 (fun _ => rfl) (Or.inr rfl) ?_
    refine gs0 98 [(0, .inr (.inr (some 725))), (1, .inl x1), (2, .inl x2)] [.inr (.inr (some 725)), .inr (.inr (some 725)), .inr (.inr (some 725))] dM_143_97 (fun _ => rfl) (Or.inr rfl) ?_
    refine gsGetR (some 730) dM_143_98 sk_725 rfl rfl ?_
    refine gs0 102 [(0, .inr (.inr (some 725))), (1, .inl x1), (2, .inl x2)] [.inl x2, .inr (.inr (some 730)), .inr (.inr (some 725)), .inr (.inr (some 725))] dM_143_101 (fun _ => rfl) (Or.inr rfl) ?_
    refine gsIaldN x2.toNatClampNeg (sg 730 x2.toNatClampNeg) dM_143_102 sk_730 h.1 rfl rfl ?_
    replace h := h.2
    refine gs0 104 [(0, .inr (.inr (some 725))), (1, .inl x1), (2, .inl x2)] [.inr (.inr (some 725)), .inl (sg 730 x2.toNatClampNeg), .inr (.inr (some 725)), .inr (.inr (some 725))] dM_143_103 (fun _ => rfl) (Or.inr rfl) ?_
    refine gsGetR (some 731) dM_143_104 sk_725 rfl rfl ?_
    refine gs0 108 [(0, .inr (.inr (some 725))), (1, .inl x1), (2, .inl x2)] [.inl x2, .inr (.inr (some 731)), .inl (sg 730 x2.toNatClampNeg), .inr (.inr (some 725)), .inr (.inr (some 725))] dM_143_107 (fun _ => rfl) (Or.inr rfl) ?_
    refine gsIaldN x2.toNatClampNeg (sg 731 x2.toNatClampNeg) dM_143_108 sk_731 h.1 rfl rfl ?_
    replace h := h.2
    refine gs0 110 [(0, .inr (.inr (some 725))), (1, .inl x1), (2, .inl x2)] [.inr (.inr (some 725)), .inl (sg 731 x2.toNatClampNeg), .inl (sg 730 x2.toNatClampNeg), .inr (.inr (some 725)), .inr (.inr (some 725))] dM_143_109 (fun _ => rfl) (Or.inr rfl) ?_
    refine gsGetE (sg 725 19) dM_143_110 sk_725 rfl rfl rfl ?_
    refine gsCallV (y := 123) (k := 725) (as := [.inr (.inr (some 725)), .inl (sg 730 x2.toNatClampNeg), .inl (sg 731 x2.toNatClampNeg), .inl (sg 725 19)]) (r := [.inr (.inr (some 725))]) dM_143_113 rfl rfl rfl (Nat.le_of_ble_eq_true rfl) sk_725 rfl (Nat.le_of_ble_eq_true rfl) (EvS.up h (Nat.le_of_ble_eq_true rfl)) (fun v2 t3 hv4 => ?_)
    obtain ⟨n5, rfl, hn⟩ := hv4
    clear h
    show GoS _ _ _ _ _ _ _ _ [(0, .inr (.inr (some 725))), (1, .inl x1), (2, .inl x2)] [.inl n5, .inr (.inr (some 725))] t3 _
    refine gsPut dM_143_116 sk_725 rfl rfl rfl (by decide) ?_
    refine gs0 120 [(0, .inr (.inr (some 725))), (1, .inl x1), (2, .inl x2)] [.inr (.inr (some 725))] dM_143_119 (fun _ => rfl) (Or.inr rfl) ?_
    refine gs0 121 [(0, .inr (.inr (some 725))), (1, .inl x1), (2, .inl x2)] [.inl 1, .inr (.inr (some 725))] dM_143_120 (fun _ => rfl) (Or.inr rfl) ?_
    refine gsCallV (y := 153) (k := 725) (as := [.inr (.inr (some 725)), .inl 1]) (r := []) dM_143_121 rfl rfl rfl (Nat.le_of_ble_eq_true rfl) sk_725 rfl (Nat.le_of_ble_eq_true rfl) (EvS.up hn (Nat.le_of_ble_eq_true rfl)) (fun v6 t7 hv8 => ?_)
    obtain ⟨rfl, hnn⟩ := hv8
    clear hn
    show GoS _ _ _ _ _ _ _ _ [(0, .inr (.inr (some 725))), (1, .inl x1), (2, .inl x2)] [] t7 _
    refine gs0 198 [(0, .inr (.inr (some 725))), (1, .inl x1), (2, .inl x2)] [] dM_143_124 (fun _ => rfl) (Or.inr rfl) ?_
    refine gsRet (r := none) dM_143_198 (fun _ => rfl) (Or.inr rfl) ?_
    exact hnn
  replace h := h.2
  by_cases c1_38 : (sg 729 x2.toNatClampNeg) = 38
  · replace h := h.1 c1_38
    refine gs0 127 [(0, .inr (.inr (some 725))), (1, .inl x1), (2, .inl x2)] [] dM_143_6 (fun _ => by rw [c1_38]; rfl) (Or.inl rfl) ?_
    refine gs0 128 [(0, .inr (.inr (some 725))), (1, .inl x1), (2, .inl x2)] [.inr (.inr (some 725))] dM_143_127 (fun _ => rfl) (Or.inr rfl) ?_
    refine gs0 129 [(0, .inr (.inr (some 725))), (1, .inl x1), (2, .inl x2)] [.inr (.inr (some 725)), .inr (.inr (some 725))] dM_143_128 (fun _ => rfl) (Or.inr rfl) ?_
    refine gs0 130 [(0, .inr (.inr (some 725))), (1, .inl x1), (2, .inl x2)] [.inr (.inr (some 725)), .inr (.inr (some 725)), .inr (.inr (some 725))] dM_143_129 (fun _ => rfl) (Or.inr rfl) ?_
    refine gsGetR (some 730) dM_143_130 sk_725 rfl rfl ?_
    refine gs0 134 [(0, .inr (.inr (some 725))), (1, .inl x1), (2, .inl x2)] [.inl x2, .inr (.inr (some 730)), .inr (.inr (some 725)), .inr (.inr (some 725))] dM_143_133 (fun _ => rfl) (Or.inr rfl) ?_
    refine gsIaldN x2.toNatClampNeg (sg 730 x2.toNatClampNeg) dM_143_134 sk_730 h.1 rfl rfl ?_
    replace h := h.2
    refine gs0 136 [(0, .inr (.inr (some 725))), (1, .inl x1), (2, .inl x2)] [.inl 0, .inl (sg 730 x2.toNatClampNeg), .inr (.inr (some 725)), .inr (.inr (some 725))] dM_143_135 (fun _ => rfl) (Or.inr rfl) ?_
    refine gs0 137 [(0, .inr (.inr (some 725))), (1, .inl x1), (2, .inl x2)] [.inr (.inr (some 725)), .inl 0, .inl (sg 730 x2.toNatClampNeg), .inr (.inr (some 725)), .inr (.inr (some 725))] dM_143_136 (fun _ => rfl) (Or.inr rfl) ?_
    refine gs0 138 [(0, .inr (.inr (some 725))), (1, .inl x1), (2, .inl x2)] [.inr (.inr (some 725)), .inr (.inr (some 725)), .inl 0, .inl (sg 730 x2.toNatClampNeg), .inr (.inr (some 725)), .inr (.inr (some 725))] dM_143_137 (fun _ => rfl) (Or.inr rfl) ?_
    refine gsGetR (some 731) dM_143_138 sk_725 rfl rfl ?_
    refine gs0 142 [(0, .inr (.inr (some 725))), (1, .inl x1), (2, .inl x2)] [.inl x2, .inr (.inr (some 731)), .inr (.inr (some 725)), .inl 0, .inl (sg 730 x2.toNatClampNeg), .inr (.inr (some 725)), .inr (.inr (some 725))] dM_143_141 (fun _ => rfl) (Or.inr rfl) ?_
    refine gsIaldN x2.toNatClampNeg (sg 731 x2.toNatClampNeg) dM_143_142 sk_731 h.1 rfl rfl ?_
    replace h := h.2
    refine gs0 144 [(0, .inr (.inr (some 725))), (1, .inl x1), (2, .inl x2)] [.inl 0, .inl (sg 731 x2.toNatClampNeg), .inr (.inr (some 725)), .inl 0, .inl (sg 730 x2.toNatClampNeg), .inr (.inr (some 725)), .inr (.inr (some 725))] dM_143_143 (fun _ => rfl) (Or.inr rfl) ?_
    refine gs0 145 [(0, .inr (.inr (some 725))), (1, .inl x1), (2, .inl x2)] [.inr (.inr (some 725)), .inl 0, .inl (sg 731 x2.toNatClampNeg), .inr (.inr (some 725)), .inl 0, .inl (sg 730 x2.toNatClampNeg), .inr (.inr (some 725)), .inr (.inr (some 725))] dM_143_144 (fun _ => rfl) (Or.inr rfl) ?_
    refine gsGetE (sg 725 18) dM_143_145 sk_725 rfl rfl rfl ?_
    refine gsCallV (y := 123) (k := 725) (as := [.inr (.inr (some 725)), .inl (sg 731 x2.toNatClampNeg), .inl 0, .inl (sg 725 18)]) (r := [.inl 0, .inl (sg 730 x2.toNatClampNeg), .inr (.inr (some 725)), .inr (.inr (some 725))]) dM_143_148 rfl rfl rfl (Nat.le_of_ble_eq_true rfl) sk_725 rfl (Nat.le_of_ble_eq_true rfl) (EvS.up h (Nat.le_of_ble_eq_true rfl)) (fun v9 t10 hv11 => ?_)
    obtain ⟨n12, rfl, hn⟩ := hv11
    clear h
    show GoS _ _ _ _ _ _ _ _ [(0, .inr (.inr (some 725))), (1, .inl x1), (2, .inl x2)] [.inl n12, .inl 0, .inl (sg 730 x2.toNatClampNeg), .inr (.inr (some 725)), .inr (.inr (some 725))] t10 _
    refine gsCallV (y := 123) (k := 725) (as := [.inr (.inr (some 725)), .inl (sg 730 x2.toNatClampNeg), .inl 0, .inl n12]) (r := [.inr (.inr (some 725))]) dM_143_151 rfl rfl rfl (Nat.le_of_ble_eq_true rfl) sk_725 rfl (Nat.le_of_ble_eq_true rfl) (EvS.up hn (Nat.le_of_ble_eq_true rfl)) (fun v13 t14 hv15 => ?_)
    obtain ⟨n16, rfl, hnn⟩ := hv15
    clear hn
    show GoS _ _ _ _ _ _ _ _ [(0, .inr (.inr (some 725))), (1, .inl x1), (2, .inl x2)] [.inl n16, .inr (.inr (some 725))] t14 _
    refine gsPut dM_143_154 sk_725 rfl rfl rfl (by decide) ?_
    refine gs0 158 [(0, .inr (.inr (some 725))), (1, .inl x1), (2, .inl x2)] [.inr (.inr (some 725))] dM_143_157 (fun _ => rfl) (Or.inr rfl) ?_
    refine gsCallV (y := 124) (k := 725) (as := [.inr (.inr (some 725))]) (r := []) dM_143_158 rfl rfl rfl (Nat.le_of_ble_eq_true rfl) sk_725 rfl (Nat.le_of_ble_eq_true rfl) (EvS.up hnn (Nat.le_of_ble_eq_true rfl)) (fun v17 t18 hv19 => ?_)
    obtain ⟨rfl, hnnn⟩ := hv19
    clear hnn
    show GoS _ _ _ _ _ _ _ _ [(0, .inr (.inr (some 725))), (1, .inl x1), (2, .inl x2)] [] t18 _
    refine gs0 198 [(0, .inr (.inr (some 725))), (1, .inl x1), (2, .inl x2)] [] dM_143_161 (fun _ => rfl) (Or.inr rfl) ?_
    refine gsRet (r := none) dM_143_198 (fun _ => rfl) (Or.inr rfl) ?_
    exact hnnn
  replace h := h.2
  by_cases c1_42 : (sg 729 x2.toNatClampNeg) = 42
  · replace h := h.1 c1_42
    refine gs0 191 [(0, .inr (.inr (some 725))), (1, .inl x1), (2, .inl x2)] [] dM_143_6 (fun _ => by rw [c1_42]; rfl) (Or.inl rfl) ?_
    refine gs0 192 [(0, .inr (.inr (some 725))), (1, .inl x1), (2, .inl x2)] [.inr (.inr (some 725))] dM_143_191 (fun _ => rfl) (Or.inr rfl) ?_
    refine gsCallV (y := 124) (k := 725) (as := [.inr (.inr (some 725))]) (r := []) dM_143_192 rfl rfl rfl (Nat.le_of_ble_eq_true rfl) sk_725 rfl (Nat.le_of_ble_eq_true rfl) (EvS.up h (Nat.le_of_ble_eq_true rfl)) (fun v20 t21 hv22 => ?_)
    obtain ⟨rfl, hn⟩ := hv22
    clear h
    show GoS _ _ _ _ _ _ _ _ [(0, .inr (.inr (some 725))), (1, .inl x1), (2, .inl x2)] [] t21 _
    refine gs0 198 [(0, .inr (.inr (some 725))), (1, .inl x1), (2, .inl x2)] [] dM_143_195 (fun _ => rfl) (Or.inr rfl) ?_
    refine gsRet (r := none) dM_143_198 (fun _ => rfl) (Or.inr rfl) ?_
    exact hn
  replace h := h.2
  by_cases c1_61 : (sg 729 x2.toNatClampNeg) = 61
  · replace h := h.1 c1_61
    refine gs0 72 [(0, .inr (.inr (some 725))), (1, .inl x1), (2, .inl x2)] [] dM_143_6 (fun _ => by rw [c1_61]; rfl) (Or.inl rfl) ?_
    refine gs0 73 [(0, .inr (.inr (some 725))), (1, .inl x1), (2, .inl x2)] [.inr (.inr (some 725))] dM_143_72 (fun _ => rfl) (Or.inr rfl) ?_
    refine gs0 74 [(0, .inr (.inr (some 725))), (1, .inl x1), (2, .inl x2)] [.inr (.inr (some 725)), .inr (.inr (some 725))] dM_143_73 (fun _ => rfl) (Or.inr rfl) ?_
    refine gs0 75 [(0, .inr (.inr (some 725))), (1, .inl x1), (2, .inl x2)] [.inr (.inr (some 725)), .inr (.inr (some 725)), .inr (.inr (some 725))] dM_143_74 (fun _ => rfl) (Or.inr rfl) ?_
    refine gsGetR (some 730) dM_143_75 sk_725 rfl rfl ?_
    refine gs0 79 [(0, .inr (.inr (some 725))), (1, .inl x1), (2, .inl x2)] [.inl x2, .inr (.inr (some 730)), .inr (.inr (some 725)), .inr (.inr (some 725))] dM_143_78 (fun _ => rfl) (Or.inr rfl) ?_
    refine gsIaldN x2.toNatClampNeg (sg 730 x2.toNatClampNeg) dM_143_79 sk_730 h.1 rfl rfl ?_
    replace h := h.2
    refine gs0 81 [(0, .inr (.inr (some 725))), (1, .inl x1), (2, .inl x2)] [.inr (.inr (some 725)), .inl (sg 730 x2.toNatClampNeg), .inr (.inr (some 725)), .inr (.inr (some 725))] dM_143_80 (fun _ => rfl) (Or.inr rfl) ?_
    refine gsGetR (some 731) dM_143_81 sk_725 rfl rfl ?_
    refine gs0 85 [(0, .inr (.inr (some 725))), (1, .inl x1), (2, .inl x2)] [.inl x2, .inr (.inr (some 731)), .inl (sg 730 x2.toNatClampNeg), .inr (.inr (some 725)), .inr (.inr (some 725))] dM_143_84 (fun _ => rfl) (Or.inr rfl) ?_
    refine gsIaldN x2.toNatClampNeg (sg 731 x2.toNatClampNeg) dM_143_85 sk_731 h.1 rfl rfl ?_
    replace h := h.2
    refine gsCallV (y := 144) (k := 725) (as := [.inr (.inr (some 725)), .inl (sg 730 x2.toNatClampNeg), .inl (sg 731 x2.toNatClampNeg)]) (r := [.inr (.inr (some 725))]) dM_143_86 rfl rfl rfl (Nat.le_of_ble_eq_true rfl) sk_725 rfl (Nat.le_of_ble_eq_true rfl) (EvS.up h (Nat.le_of_ble_eq_true rfl)) (fun v23 t24 hv25 => ?_)
    obtain ⟨n26, rfl, hn⟩ := hv25
    clear h
    show GoS _ _ _ _ _ _ _ _ [(0, .inr (.inr (some 725))), (1, .inl x1), (2, .inl x2)] [.inl n26, .inr (.inr (some 725))] t24 _
    refine gsCallV (y := 153) (k := 725) (as := [.inr (.inr (some 725)), .inl n26]) (r := []) dM_143_89 rfl rfl rfl (Nat.le_of_ble_eq_true rfl) sk_725 rfl (Nat.le_of_ble_eq_true rfl) (EvS.up hn (Nat.le_of_ble_eq_true rfl)) (fun v27 t28 hv29 => ?_)
    obtain ⟨rfl, hnn⟩ := hv29
    clear hn
    show GoS _ _ _ _ _ _ _ _ [(0, .inr (.inr (some 725))), (1, .inl x1), (2, .inl x2)] [] t28 _
    refine gs0 198 [(0, .inr (.inr (some 725))), (1, .inl x1), (2, .inl x2)] [] dM_143_92 (fun _ => rfl) (Or.inr rfl) ?_
    refine gsRet (r := none) dM_143_198 (fun _ => rfl) (Or.inr rfl) ?_
    exact hnn
  replace h := h.2
  by_cases c1_65 : (sg 729 x2.toNatClampNeg) = 65
  · replace h := h.1 c1_65
    refine gs0 173 [(0, .inr (.inr (some 725))), (1, .inl x1), (2, .inl x2)] [] dM_143_6 (fun _ => by rw [c1_65]; rfl) (Or.inl rfl) ?_
    refine gs0 174 [(0, .inr (.inr (some 725))), (1, .inl x1), (2, .inl x2)] [.inr (.inr (some 725))] dM_143_173 (fun _ => rfl) (Or.inr rfl) ?_
    refine gs0 175 [(0, .inr (.inr (some 725))), (1, .inl x1), (2, .inl x2)] [.inl x1, .inr (.inr (some 725))] dM_143_174 (fun _ => rfl) (Or.inr rfl) ?_
    refine gs0 176 [(0, .inr (.inr (some 725))), (1, .inl x1), (2, .inl x2)] [.inl x2, .inl x1, .inr (.inr (some 725))] dM_143_175 (fun _ => rfl) (Or.inr rfl) ?_
    refine gsCallV (y := 159) (k := 725) (as := [.inr (.inr (some 725)), .inl x1, .inl x2]) (r := []) dM_143_176 rfl rfl rfl (Nat.le_of_ble_eq_true rfl) sk_725 rfl (Nat.le_of_ble_eq_true rfl) (EvS.up h (Nat.le_of_ble_eq_true rfl)) (fun v30 t31 hv32 => ?_)
    obtain ⟨rfl, hn⟩ := hv32
    clear h
    show GoS _ _ _ _ _ _ _ _ [(0, .inr (.inr (some 725))), (1, .inl x1), (2, .inl x2)] [] t31 _
    refine gs0 198 [(0, .inr (.inr (some 725))), (1, .inl x1), (2, .inl x2)] [] dM_143_179 (fun _ => rfl) (Or.inr rfl) ?_
    refine gsRet (r := none) dM_143_198 (fun _ => rfl) (Or.inr rfl) ?_
    exact hn
  replace h := h.2
  by_cases c1_77 : (sg 729 x2.toNatClampNeg) = 77
  · replace h := h.1 c1_77
    refine gs0 182 [(0, .inr (.inr (some 725))), (1, .inl x1), (2, .inl x2)] [] dM_143_6 (fun _ => by rw [c1_77]; rfl) (Or.inl rfl) ?_
    refine gs0 183 [(0, .inr (.inr (some 725))), (1, .inl x1), (2, .inl x2)] [.inr (.inr (some 725))] dM_143_182 (fun _ => rfl) (Or.inr rfl) ?_
    refine gs0 184 [(0, .inr (.inr (some 725))), (1, .inl x1), (2, .inl x2)] [.inl x1, .inr (.inr (some 725))] dM_143_183 (fun _ => rfl) (Or.inr rfl) ?_
    refine gs0 185 [(0, .inr (.inr (some 725))), (1, .inl x1), (2, .inl x2)] [.inl x2, .inl x1, .inr (.inr (some 725))] dM_143_184 (fun _ => rfl) (Or.inr rfl) ?_
    refine gsCallV (y := 160) (k := 725) (as := [.inr (.inr (some 725)), .inl x1, .inl x2]) (r := []) dM_143_185 rfl rfl rfl (Nat.le_of_ble_eq_true rfl) sk_725 rfl (Nat.le_of_ble_eq_true rfl) (EvS.up h (Nat.le_of_ble_eq_true rfl)) (fun v33 t34 hv35 => ?_)
    obtain ⟨rfl, hn⟩ := hv35
    clear h
    show GoS _ _ _ _ _ _ _ _ [(0, .inr (.inr (some 725))), (1, .inl x1), (2, .inl x2)] [] t34 _
    refine gs0 198 [(0, .inr (.inr (some 725))), (1, .inl x1), (2, .inl x2)] [] dM_143_188 (fun _ => rfl) (Or.inr rfl) ?_
    refine gsRet (r := none) dM_143_198 (fun _ => rfl) (Or.inr rfl) ?_
    exact hn
  replace h := h.2
  by_cases c1_124 : (sg 729 x2.toNatClampNeg) = 124
  · replace h := h.1 c1_124
    refine gs0 164 [(0, .inr (.inr (some 725))), (1, .inl x1), (2, .inl x2)] [] dM_143_6 (fun _ => by rw [c1_124]; rfl) (Or.inl rfl) ?_
    refine gs0 165 [(0, .inr (.inr (some 725))), (1, .inl x1), (2, .inl x2)] [.inr (.inr (some 725))] dM_143_164 (fun _ => rfl) (Or.inr rfl) ?_
    refine gs0 166 [(0, .inr (.inr (some 725))), (1, .inl x1), (2, .inl x2)] [.inl x1, .inr (.inr (some 725))] dM_143_165 (fun _ => rfl) (Or.inr rfl) ?_
    refine gs0 167 [(0, .inr (.inr (some 725))), (1, .inl x1), (2, .inl x2)] [.inl x2, .inl x1, .inr (.inr (some 725))] dM_143_166 (fun _ => rfl) (Or.inr rfl) ?_
    refine gsCallV (y := 158) (k := 725) (as := [.inr (.inr (some 725)), .inl x1, .inl x2]) (r := []) dM_143_167 rfl rfl rfl (Nat.le_of_ble_eq_true rfl) sk_725 rfl (Nat.le_of_ble_eq_true rfl) (EvS.up h (Nat.le_of_ble_eq_true rfl)) (fun v36 t37 hv38 => ?_)
    obtain ⟨rfl, hn⟩ := hv38
    clear h
    show GoS _ _ _ _ _ _ _ _ [(0, .inr (.inr (some 725))), (1, .inl x1), (2, .inl x2)] [] t37 _
    refine gs0 198 [(0, .inr (.inr (some 725))), (1, .inl x1), (2, .inl x2)] [] dM_143_170 (fun _ => rfl) (Or.inr rfl) ?_
    refine gsRet (r := none) dM_143_198 (fun _ => rfl) (Or.inr rfl) ?_
    exact hn
  replace h := h.2
  replace h := h ⟨c1_35, c1_38, c1_42, c1_61, c1_65, c1_77, c1_124⟩
  have ec1_35 := i32_ne c1_35 (show (35 : Int32).toInt = 35 by decide)
  have ec1_38 := i32_ne c1_38 (show (38 : Int32).toInt = 38 by decide)
  have ec1_42 := i32_ne c1_42 (show (42 : Int32).toInt = 42 by decide)
  have ec1_61 := i32_ne c1_61 (show (61 : Int32).toInt = 61 by decide)
  have ec1_65 := i32_ne c1_65 (show (65 : Int32).toInt = 65 by decide)
  have ec1_77 := i32_ne c1_77 (show (77 : Int32).toInt = 77 by decide)
  have ec1_124 := i32_ne c1_124 (show (124 : Int32).toInt = 124 by decide)
  refine gs0 198 [(0, .inr (.inr (some 725))), (1, .inl x1), (2, .inl x2)] [] dM_143_6 (fun _ => swL_out (by decide) (by simp [Op.lookupswitch.offset, Ne.symm ec1_35, Ne.symm ec1_38, Ne.symm ec1_42, Ne.symm ec1_61, Ne.symm ec1_65, Ne.symm ec1_77, Ne.symm ec1_124]) rfl) (Or.inl rfl) ?_
  refine gsRet (r := none) dM_143_198 (fun _ => rfl) (Or.inr rfl) ?_
  exact h
set_option maxRecDepth 100000 in
/-- GoalsInAQueueModel.areSame -/
theorem w_144 (sg : rSg) (x1 : Int32) (x2 : Int32) {P : Option rv → rSg → Prop} (h :
    EvS rSkel 6 145 [.inr (.inr (some 725)), .inl (2 * x1), .inl (2 * x2)] sg (fun v1 t2 => ∃ n4, v1 = some (.inl n4) ∧
      (rBool n4 = true ∧
      P (some (.inl n4)) t2))) : EvS rSkel 7 144 [.inr (.inr (some 725)), .inl x1, .inl x2] sg P := by
  refine EvS.of (ini := false) rfl ⟨rfl, Nat.le_of_ble_eq_true rfl⟩ rfl ?_
  show GoS rSkel 6 9 3 (some .boolean) false prog_11_method_29_code 0 [(0, .inr (.inr (some 725))), (1, .inl x1), (2, .inl x2)] [] sg _
  refine gs0 1 [(0, .inr (.inr (some 725))), (1, .inl x1), (2, .inl x2)] [.inr (.inr (some 725))] dM_144_0 (fun _ => rfl) (Or.inr rfl) ?_
  refine gs0 2 [(0, .inr (.inr (some 725))), (1, .inl x1), (2, .inl x2)] [.inl 2, .inr (.inr (some 725))] dM_144_1 (fun _ => rfl) (Or.inr rfl) ?_
  refine gs0 3 [(0, .inr (.inr (some 725))), (1, .inl x1), (2, .inl x2)] [.inl x1, .inl 2, .inr (.inr (some 725))] dM_144_2 (fun _ => rfl) (Or.inr rfl) ?_
  refine gs0 4 [(0, .inr (.inr (some 725))), (1, .inl x1), (2, .inl x2)] [.inl (2 * x1), .inr (.inr (some 725))] dM_144_3 (fun _ => rfl) (Or.inr rfl) ?_
  refine gs0 5 [(0, .inr (.inr (some 725))), (1, .inl x1), (2, .inl x2)] [.inl 2, .inl (2 * x1), .inr (.inr (some 725))] dM_144_4 (fun _ => rfl) (Or.inr rfl) ?_
  refine gs0 6 [(0, .inr (.inr (some 725))), (1, .inl x1), (2, .inl x2)] [.inl x2, .inl 2, .inl (2 * x1), .inr (.inr (some 725))] dM_144_5 (fun _ => rfl) (Or.inr rfl) ?_
  refine gs0 7 [(0, .inr (.inr (some 725))), (1, .inl x1), (2, .inl x2)] [.inl (2 * x2), .inl (2 * x1), .inr (.inr (some 725))] dM_144_6 (fun _ => rfl) (Or.inr rfl) ?_
  refine gsCallV (y := 145) (k := 725) (as := [.inr (.inr (some 725)), .inl (2 * x1), .inl (2 * x2)]) (r := []) dM_144_7 rfl rfl rfl (Nat.le_of_ble_eq_true rfl) sk_725 rfl (Nat.le_of_ble_eq_true rfl) (EvS.up h (Nat.le_of_ble_eq_true rfl)) (fun v1 t2 hv3 => ?_)
  obtain ⟨n4, rfl, hn⟩ := hv3
  clear h
  show GoS _ _ _ _ _ _ _ _ [(0, .inr (.inr (some 725))), (1, .inl x1), (2, .inl x2)] [.inl n4] t2 _
  refine gsRet (r := some (.inl n4)) dM_144_10 (fun _ => rRetB hn.1) (Or.inr rfl) ?_
  replace hn := hn.2
  exact hn
def g_145_17  (y3 : Int32) (sg : rSg) (P : Option rv → rSg → Prop) : Prop := GoS rSkel 5 9 6 (some .boolean) false prog_11_method_19_code 17 [(0, .inr (.inr (some 725))), (3, .inl y3)] [] sg P
set_option maxRecDepth 100000 in
theorem w_145_17 (sg : rSg)  (y3 : Int32) {P : Option rv → rSg → Prop} (h :
    (y3 = 0 → 
      (rBool y3 = true ∧
      P (some (.inl y3)) sg)) ∧
    (¬ (y3 = 0) → 
      ((sg 725 17) ≤ 0 → 
        (rBool y3 = true ∧
        P (some (.inl y3)) sg)) ∧
      (¬ ((sg 725 17) ≤ 0) → 
        (rIn ((sg 725 17) - 2) 8000 = true ∧
        EvS rSkel 2 146 [.inr (.inr (some 725)), .inl (sg 738 (((sg 725 17) - 2).toNatClampNeg))] (up2 sg 725 17 ((sg 725 17) - 2)) (fun v9 t10 => ∃ n12, v9 = some (.inl n12) ∧
          (rIn ((t10 725 17) + 1) 8000 = true ∧
          EvS rSkel 2 146 [.inr (.inr (some 725)), .inl (t10 738 (((t10 725 17) + 1).toNatClampNeg))] t10 (fun v13 t14 => ∃ n16, v13 = some (.inl n16) ∧
            (n12 = n16 → 
              g_145_17 1 t14 P) ∧
            (¬ (n12 = n16) → 
              EvS rSkel 5 149 [.inr (.inr (some 725)), .inl n12, .inl n16] t14 (fun v18 t19 => ∃ n21, v18 = some (.inl n21) ∧
                (n21 = 0 → 
                  g_145_17 0 t19 P) ∧
                (¬ (n21 = 0) → 
                  g_145_17 1 t19 P)))))))))) : g_145_17 y3 sg P := by
  show GoS rSkel 5 9 6 (some .boolean) false prog_11_method_19_code 17 [(0, .inr (.inr (some 725))), (3, .inl y3)] [] sg P
  refine gs0 18 [(0, .inr (.inr (some 725))), (3, .inl y3)] [.inl y3] dM_145_17 (fun _ => rfl) (Or.inr rfl) ?_
  refine gsIf (t := 97) (C := y3 = 0) (r := []) dM_145_18 (fun _ => rfl) (Or.inr rfl) (rTest_iff .eq y3 0) (fun c7 => ?_) (fun c7 => ?_)
  · replace h := h.1 c7
    refine gs0 98 [(0, .inr (.inr (some 725))), (3, .inl y3)] [.inl y3] dM_145_97 (fun _ => rfl) (Or.inr rfl) ?_
    refine gsRet (r := some (.inl y3)) dM_145_98 (fun _ => rRetB h.1) (Or.inr rfl) ?_
    replace h := h.2
    exact h
  · replace h := h.2 c7
    refine gs0 22 [(0, .inr (.inr (some 725))), (3, .inl y3)] [.inr (.inr (some 725))] dM_145_21 (fun _ => rfl) (Or.inr rfl) ?_
    refine gsGetE (sg 725 17) dM_145_22 sk_725 rfl rfl rfl ?_
    refine gsIf (t := 97) (C := (sg 725 17) ≤ 0) (r := []) dM_145_25 (fun _ => rfl) (Or.inr rfl) (rTest_iff .le (sg 725 17) 0) (fun c8 => ?_) (fun c8 => ?_)
    · replace h := h.1 c8
      refine gs0 98 [(0, .inr (.inr (some 725))), (3, .inl y3)] [.inl y3] dM_145_97 (fun _ => rfl) (Or.inr rfl) ?_
      refine gsRet (r := some (.inl y3)) dM_145_98 (fun _ => rRetB h.1) (Or.inr rfl) ?_
      replace h := h.2
      exact h
    · replace h := h.2 c8
      refine gs0 29 [(0, .inr (.inr (some 725))), (3, .inl y3)] [.inr (.inr (some 725))] dM_145_28 (fun _ => rfl) (Or.inr rfl) ?_
      refine gs0 30 [(0, .inr (.inr (some 725))), (3, .inl y3)] [.inr (.inr (some 725)), .inr (.inr (some 725))] dM_145_29 (fun _ => rfl) (Or.inr rfl) ?_
      refine gsGetE (sg 725 17) dM_145_30 sk_725 rfl rfl rfl ?_
      refine gs0 34 [(0, .inr (.inr (some 725))), (3, .inl y3)] [.inl 2, .inl (sg 725 17), .inr (.inr (some 725))] dM_145_33 (fun _ => rfl) (Or.inr rfl) ?_
      refine gs0 35 [(0, .inr (.inr (some 725))), (3, .inl y3)] [.inl ((sg 725 17) - 2), .inr (.inr (some 725))] dM_145_34 (fun _ => rfl) (Or.inr rfl) ?_
      refine gsPut dM_145_35 sk_725 rfl rfl rfl (by decide) ?_
      refine gs0 39 [(0, .inr (.inr (some 725))), (3, .inl y3)] [.inr (.inr (some 725))] dM_145_38 (fun _ => rfl) (Or.inr rfl) ?_
      refine gs0 40 [(0, .inr (.inr (some 725))), (3, .inl y3)] [.inr (.inr (some 725)), .inr (.inr (some 725))] dM_145_39 (fun _ => rfl) (Or.inr rfl) ?_
      refine gsGetR (some 738) dM_145_40 sk_725 rfl rfl ?_
      refine gs0 44 [(0, .inr (.inr (some 725))), (3, .inl y3)] [.inr (.inr (some 725)), .inr (.inr (some 738)), .inr (.inr (some 725))] dM_145_43 (fun _ => rfl) (Or.inr rfl) ?_
      refine gsGetE ((sg 725 17) - 2) dM_145_44 sk_725 rfl rfl (up2_same _ _ _ _) ?_
      refine gsIaldN (((sg 725 17) - 2).toNatClampNeg) (sg 738 (((sg 725 17) - 2).toNatClampNeg)) dM_145_47 sk_738 h.1 rfl (congrFun (up2_nk _ _ _ (by decide)) _) ?_
      replace h := h.2
      refine gsCallV (y := 146) (k := 725) (as := [.inr (.inr (some 725)), .inl (sg 738 (((sg 725 17) - 2).toNatClampNeg))]) (r := []) dM_145_48 rfl rfl rfl (Nat.le_of_ble_eq_true rfl) sk_725 rfl (Nat.le_of_ble_eq_true rfl) (EvS.up h (Nat.le_of_ble_eq_true rfl)) (fun v9 t10 hv11 => ?_)
      obtain ⟨n12, rfl, hn⟩ := hv11
      clear h
      show GoS _ _ _ _ _ _ _ _ [(0, .inr (.inr (some 725))), (3, .inl y3)] [.inl n12] t10 _
      refine gs0 53 [(4, .inl n12), (0, .inr (.inr (some 725))), (3, .inl y3)] [] dM_145_51 (fun _ => rfl) (Or.inr rfl) ?_
      refine gs0 54 [(4, .inl n12), (0, .inr (.inr (some 725))), (3, .inl y3)] [.inr (.inr (some 725))] dM_145_53 (fun _ => rfl) (Or.inr rfl) ?_
      refine gs0 55 [(4, .inl n12), (0, .inr (.inr (some 725))), (3, .inl y3)] [.inr (.inr (some 725)), .inr (.inr (some 725))] dM_145_54 (fun _ => rfl) (Or.inr rfl) ?_
      refine gsGetR (some 738) dM_145_55 sk_725 rfl rfl ?_
      refine gs0 59 [(4, .inl n12), (0, .inr (.inr (some 725))), (3, .inl y3)] [.inr (.inr (some 725)), .inr (.inr (some 738)), .inr (.inr (some 725))] dM_145_58 (fun _ => rfl) (Or.inr rfl) ?_
      refine gsGetE (t10 725 17) dM_145_59 sk_725 rfl rfl rfl ?_
      refine gs0 63 [(4, .inl n12), (0, .inr (.inr (some 725))), (3, .inl y3)] [.inl 1, .inl (t10 725 17), .inr (.inr (some 738)), .inr (.inr (some 725))] dM_145_62 (fun _ => rfl) (Or.inr rfl) ?_
      refine gs0 64 [(4, .inl n12), (0, .inr (.inr (some 725))), (3, .inl y3)] [.inl ((t10 725 17) + 1), .inr (.inr (some 738)), .inr (.inr (some 725))] dM_145_63 (fun _ => rfl) (Or.inr rfl) ?_
      refine gsIaldN (((t10 725 17) + 1).toNatClampNeg) (t10 738 (((t10 725 17) + 1).toNatClampNeg)) dM_145_64 sk_738 hn.1 rfl rfl ?_
      replace hn := hn.2
      refine gsCallV (y := 146) (k := 725) (as := [.inr (.inr (some 725)), .inl (t10 738 (((t10 725 17) + 1).toNatClampNeg))]) (r := []) dM_145_65 rfl rfl rfl (Nat.le_of_ble_eq_true rfl) sk_725 rfl (Nat.le_of_ble_eq_true rfl) (EvS.up hn (Nat.le_of_ble_eq_true rfl)) (fun v13 t14 hv15 => ?_)
      obtain ⟨n16, rfl, hnn⟩ := hv15
      clear hn
      show GoS _ _ _ _ _ _ _ _ [(4, .inl n12), (0, .inr (.inr (some 725))), (3, .inl y3)] [.inl n16] t14 _
      refine gs0 70 [(5, .inl n16), (4, .inl n12), (0, .inr (.inr (some 725))), (3, .inl y3)] [] dM_145_68 (fun _ => rfl) (Or.inr rfl) ?_
      refine gs0 72 [(5, .inl n16), (4, .inl n12), (0, .inr (.inr (some 725))), (3, .inl y3)] [.inl n12] dM_145_70 (fun _ => rfl) (Or.inr rfl) ?_
      refine gs0 74 [(5, .inl n16), (4, .inl n12), (0, .inr (.inr (some 725))), (3, .inl y3)] [.inl n16, .inl n12] dM_145_72 (fun _ => rfl) (Or.inr rfl) ?_
      refine gsIf (t := 88) (C := n12 = n16) (r := []) dM_145_74 (fun _ => rfl) (Or.inr rfl) (rTest_iff .eq n12 n16) (fun c17 => ?_) (fun c17 => ?_)
      · replace hnn := hnn.1 c17
        refine gs0 89 [(5, .inl n16), (4, .inl n12), (0, .inr (.inr (some 725))), (3, .inl y3)] [.inl 1] dM_145_88 (fun _ => rfl) (Or.inr rfl) ?_
        refine gs0 93 [(5, .inl n16), (4, .inl n12), (0, .inr (.inr (some 725))), (3, .inl y3)] [.inl 1] dM_145_89 (fun _ => rfl) (Or.inr rfl) ?_
        refine gs0 94 [(3, .inl 1), (5, .inl n16), (4, .inl n12), (0, .inr (.inr (some 725)))] [] dM_145_93 (fun _ => rfl) (Or.inr rfl) ?_
        refine gs0 17 [(3, .inl 1), (5, .inl n16), (4, .inl n12), (0, .inr (.inr (some 725)))] [] dM_145_94 (fun _ => rfl) (Or.inr rfl) ?_
        exact GoS.sub (Lnd_keys (ks := [0, 3]) rfl (by decide)) (Lsub_cons rfl (Lsub_cons rfl Lsub_nil)) hnn
      · replace hnn := hnn.2 c17
        refine gs0 78 [(5, .inl n16), (4, .inl n12), (0, .inr (.inr (some 725))), (3, .inl y3)] [.inr (.inr (some 725))] dM_145_77 (fun _ => rfl) (Or.inr rfl) ?_
        refine gs0 80 [(5, .inl n16), (4, .inl n12), (0, .inr (.inr (some 725))), (3, .inl y3)] [.inl n12, .inr (.inr (some 725))] dM_145_78 (fun _ => rfl) (Or.inr rfl) ?_
        refine gs0 82 [(5, .inl n16), (4, .inl n12), (0, .inr (.inr (some 725))), (3, .inl y3)] [.inl n16, .inl n12, .inr (.inr (some 725))] dM_145_80 (fun _ => rfl) (Or.inr rfl) ?_
        refine gsCallV (y := 149) (k := 725) (as := [.inr (.inr (some 725)), .inl n12, .inl n16]) (r := []) dM_145_82 rfl rfl rfl (Nat.le_of_ble_eq_true rfl) sk_725 rfl (Nat.le_of_ble_eq_true rfl) (EvS.up hnn (Nat.le_of_ble_eq_true rfl)) (fun v18 t19 hv20 => ?_)
        obtain ⟨n21, rfl, hnnn⟩ := hv20
        clear hnn
        show GoS _ _ _ _ _ _ _ _ [(5, .inl n16), (4, .inl n12), (0, .inr (.inr (some 725))), (3, .inl y3)] [.inl n21] t19 _
        refine gsIf (t := 92) (C := n21 = 0) (r := []) dM_145_85 (fun _ => rfl) (Or.inr rfl) (rTest_iff .eq n21 0) (fun c22 => ?_) (fun c22 => ?_)
        · replace hnnn := hnnn.1 c22
          refine gs0 93 [(5, .inl n16), (4, .inl n12), (0, .inr (.inr (some 725))), (3, .inl y3)] [.inl 0] dM_145_92 (fun _ => rfl) (Or.inr rfl) ?_
          refine gs0 94 [(3, .inl 0), (5, .inl n16), (4, .inl n12), (0, .inr (.inr (some 725)))] [] dM_145_93 (fun _ => rfl) (Or.inr rfl) ?_
          refine gs0 17 [(3, .inl 0), (5, .inl n16), (4, .inl n12), (0, .inr (.inr (some 725)))] [] dM_145_94 (fun _ => rfl) (Or.inr rfl) ?_
          exact GoS.sub (Lnd_keys (ks := [0, 3]) rfl (by decide)) (Lsub_cons rfl (Lsub_cons rfl Lsub_nil)) hnnn
        · replace hnnn := hnnn.2 c22
          refine gs0 89 [(5, .inl n16), (4, .inl n12), (0, .inr (.inr (some 725))), (3, .inl y3)] [.inl 1] dM_145_88 (fun _ => rfl) (Or.inr rfl) ?_
          refine gs0 93 [(5, .inl n16), (4, .inl n12), (0, .inr (.inr (some 725))), (3, .inl y3)] [.inl 1] dM_145_89 (fun _ => rfl) (Or.inr rfl) ?_
          refine gs0 94 [(3, .inl 1), (5, .inl n16), (4, .inl n12), (0, .inr (.inr (some 725)))] [] dM_145_93 (fun _ => rfl) (Or.inr rfl) ?_
          refine gs0 17 [(3, .inl 1), (5, .inl n16), (4, .inl n12), (0, .inr (.inr (some 725)))] [] dM_145_94 (fun _ => rfl) (Or.inr rfl) ?_
          exact GoS.sub (Lnd_keys (ks := [0, 3]) rfl (by decide)) (Lsub_cons rfl (Lsub_cons rfl Lsub_nil)) hnnn
set_option maxRecDepth 100000 in
/-- GoalsInAQueueModel.unifies -/
theorem w_145 (sg : rSg) (x1 : Int32) (x2 : Int32) {P : Option rv → rSg → Prop} (h :
    EvS rSkel 1 118 [.inr (.inr (some 725)), .inl x1] (up2 sg 725 17 0) (fun v1 t2 => v1 = none ∧
      EvS rSkel 1 118 [.inr (.inr (some 725)), .inl x2] t2 (fun v4 t5 => v4 = none ∧
        g_145_17 1 t5 P))) : EvS rSkel 6 145 [.inr (.inr (some 725)), .inl x1, .inl x2] sg P := by
  refine EvS.of (ini := false) rfl ⟨rfl, Nat.le_of_ble_eq_true rfl⟩ rfl ?_
  show GoS rSkel 5 9 6 (some .boolean) false prog_11_method_19_code 0 [(0, .inr (.inr (some 725))), (1, .inl x1), (2, .inl x2)] [] sg _
  refine gs0 1 [(0, .inr (.inr (some 725))), (1, .inl x1), (2, .inl x2)] [.inr (.inr (some 725))] dM_145_0 (fun _ => rfl) (Or.inr rfl) ?_
  refine gs0 2 [(0, .inr (.inr (some 725))), (1, .inl x1), (2, .inl x2)] [.inl 0, .inr (.inr (some 725))] dM_145_1 (fun _ => rfl) (Or.inr rfl) ?_
  refine gsPut dM_145_2 sk_725 rfl rfl rfl (by decide) ?_
  refine gs0 6 [(0, .inr (.inr (some 725))), (1, .inl x1), (2, .inl x2)] [.inr (.inr (some 725))] dM_145_5 (fun _ => rfl) (Or.inr rfl) ?_
  refine gs0 7 [(0, .inr (.inr (some 725))), (1, .inl x1), (2, .inl x2)] [.inl x1, .inr (.inr (some 725))] dM_145_6 (fun _ => rfl) (Or.inr rfl) ?_
  refine gsCallV (y := 118) (k := 725) (as := [.inr (.inr (some 725)), .inl x1]) (r := []) dM_145_7 rfl rfl rfl (Nat.le_of_ble_eq_true rfl) sk_725 rfl (Nat.le_of_ble_eq_true rfl) (EvS.up h (Nat.le_of_ble_eq_true rfl)) (fun v1 t2 hv3 => ?_)
  obtain ⟨rfl, hn⟩ := hv3
  clear h
  show GoS _ _ _ _ _ _ _ _ [(0, .inr (.inr (some 725))), (1, .inl x1), (2, .inl x2)] [] t2 _
  refine gs0 11 [(0, .inr (.inr (some 725))), (1, .inl x1), (2, .inl x2)] [.inr (.inr (some 725))] dM_145_10 (fun _ => rfl) (Or.inr rfl) ?_
  refine gs0 12 [(0, .inr (.inr (some 725))), (1, .inl x1), (2, .inl x2)] [.inl x2, .inr (.inr (some 725))] dM_145_11 (fun _ => rfl) (Or.inr rfl) ?_
  refine gsCallV (y := 118) (k := 725) (as := [.inr (.inr (some 725)), .inl x2]) (r := []) dM_145_12 rfl rfl rfl (Nat.le_of_ble_eq_true rfl) sk_725 rfl (Nat.le_of_ble_eq_true rfl) (EvS.up hn (Nat.le_of_ble_eq_true rfl)) (fun v4 t5 hv6 => ?_)
  obtain ⟨rfl, hnn⟩ := hv6
  clear hn
  show GoS _ _ _ _ _ _ _ _ [(0, .inr (.inr (some 725))), (1, .inl x1), (2, .inl x2)] [] t5 _
  refine gs0 16 [(0, .inr (.inr (some 725))), (1, .inl x1), (2, .inl x2)] [.inl 1] dM_145_15 (fun _ => rfl) (Or.inr rfl) ?_
  refine gs0 17 [(3, .inl 1), (0, .inr (.inr (some 725))), (1, .inl x1), (2, .inl x2)] [] dM_145_16 (fun _ => rfl) (Or.inr rfl) ?_
  exact GoS.sub (Lnd_keys (ks := [0, 3]) rfl (by decide)) (Lsub_cons rfl (Lsub_cons rfl Lsub_nil)) hnn
