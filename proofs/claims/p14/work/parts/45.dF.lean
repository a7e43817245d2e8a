theorem dM_146_0 : decode prog_11_method_12_code 0 = .ok (.iload_n 1, 1) := by decide +kernel
theorem dM_146_1 : decode prog_11_method_12_code 1 = .ok (.istore_n 2, 1) := by decide +kernel
theorem dM_146_2 : decode prog_11_method_12_code 2 = .ok (.iload_n 2, 1) := by decide +kernel
theorem dM_146_3 : decode prog_11_method_12_code 3 = .ok (.invokestatic 130, 3) := by decide +kernel
theorem dM_146_6 : decode prog_11_method_12_code 6 = .ok (.ifCond .eq 28, 3) := by decide +kernel
theorem dM_146_9 : decode prog_11_method_12_code 9 = .ok (.aload_n 0, 1) := by decide +kernel
theorem dM_146_10 : decode prog_11_method_12_code 10 = .ok (.getfield 40, 3) := by decide +kernel
theorem dM_146_13 : decode prog_11_method_12_code 13 = .ok (.iload_n 2, 1) := by decide +kernel
theorem dM_146_14 : decode prog_11_method_12_code 14 = .ok (.invokestatic 134, 3) := by decide +kernel
theorem dM_146_17 : decode prog_11_method_12_code 17 = .ok (.iaload, 1) := by decide +kernel
theorem dM_146_18 : decode prog_11_method_12_code 18 = .ok (.ifCond .lt 16, 3) := by decide +kernel
theorem dM_146_21 : decode prog_11_method_12_code 21 = .ok (.aload_n 0, 1) := by decide +kernel
theorem dM_146_22 : decode prog_11_method_12_code 22 = .ok (.getfield 40, 3) := by decide +kernel
theorem dM_146_25 : decode prog_11_method_12_code 25 = .ok (.iload_n 2, 1) := by decide +kernel
theorem dM_146_26 : decode prog_11_method_12_code 26 = .ok (.invokestatic 134, 3) := by decide +kernel
theorem dM_146_29 : decode prog_11_method_12_code 29 = .ok (.iaload, 1) := by decide +kernel
theorem dM_146_30 : decode prog_11_method_12_code 30 = .ok (.istore_n 2, 1) := by decide +kernel
theorem dM_146_31 : decode prog_11_method_12_code 31 = .ok (.goto (-29), 3) := by decide +kernel
theorem dM_146_34 : decode prog_11_method_12_code 34 = .ok (.iload_n 2, 1) := by decide +kernel
theorem dM_146_35 : decode prog_11_method_12_code 35 = .ok (.ireturn, 1) := by decide +kernel
theorem dM_149_0 : decode prog_11_method_18_code 0 = .ok (.iload_n 1, 1) := by decide +kernel
theorem dM_149_1 : decode prog_11_method_18_code 1 = .ok (.invokestatic 130, 3) := by decide +kernel
theorem dM_149_4 : decode prog_11_method_18_code 4 = .ok (.ifCond .eq 13, 3) := by decide +kernel
theorem dM_149_7 : decode prog_11_method_18_code 7 = .ok (.aload_n 0, 1) := by decide +kernel
theorem dM_149_8 : decode prog_11_method_18_code 8 = .ok (.iload_n 1, 1) := by decide +kernel
theorem dM_149_9 : decode prog_11_method_18_code 9 = .ok (.invokestatic 134, 3) := by decide +kernel
theorem dM_149_12 : decode prog_11_method_18_code 12 = .ok (.iload_n 2, 1) := by decide +kernel
theorem dM_149_13 : decode prog_11_method_18_code 13 = .ok (.invokevirtual 158, 3) := by decide +kernel
theorem dM_149_16 : decode prog_11_method_18_code 16 = .ok (.ireturn, 1) := by decide +kernel
theorem dM_149_17 : decode prog_11_method_18_code 17 = .ok (.iload_n 2, 1) := by decide +kernel
theorem dM_149_18 : decode prog_11_method_18_code 18 = .ok (.invokestatic 130, 3) := by decide +kernel
theorem dM_149_21 : decode prog_11_method_18_code 21 = .ok (.ifCond .eq 13, 3) := by decide +kernel
theorem dM_149_24 : decode prog_11_method_18_code 24 = .ok (.aload_n 0, 1) := by decide +kernel
theorem dM_149_25 : decode prog_11_method_18_code 25 = .ok (.iload_n 2, 1) := by decide +kernel
theorem dM_149_26 : decode prog_11_method_18_code 26 = .ok (.invokestatic 134, 3) := by decide +kernel
theorem dM_149_29 : decode prog_11_method_18_code 29 = .ok (.iload_n 1, 1) := by decide +kernel
theorem dM_149_30 : decode prog_11_method_18_code 30 = .ok (.invokevirtual 158, 3) := by decide +kernel
theorem dM_149_33 : decode prog_11_method_18_code 33 = .ok (.ireturn, 1) := by decide +kernel
theorem dM_149_34 : decode prog_11_method_18_code 34 = .ok (.iload_n 1, 1) := by decide +kernel
theorem dM_149_35 : decode prog_11_method_18_code 35 = .ok (.iconst 2, 1) := by decide +kernel
theorem dM_149_36 : decode prog_11_method_18_code 36 = .ok (.idiv, 1) := by decide +kernel
theorem dM_149_37 : decode prog_11_method_18_code 37 = .ok (.bipush 75, 2) := by decide +kernel
theorem dM_149_39 : decode prog_11_method_18_code 39 = .ok (.if_icmp .lt 11, 3) := by decide +kernel
theorem dM_149_42 : decode prog_11_method_18_code 42 = .ok (.iload_n 2, 1) := by decide +kernel
theorem dM_149_43 : decode prog_11_method_18_code 43 = .ok (.iconst 2, 1) := by decide +kernel
theorem dM_149_44 : decode prog_11_method_18_code 44 = .ok (.idiv, 1) := by decide +kernel
theorem dM_149_45 : decode prog_11_method_18_code 45 = .ok (.bipush 75, 2) := by decide +kernel
theorem dM_149_47 : decode prog_11_method_18_code 47 = .ok (.if_icmp .ge 18, 3) := by decide +kernel
theorem dM_149_50 : decode prog_11_method_18_code 50 = .ok (.iload_n 1, 1) := by decide +kernel
theorem dM_149_51 : decode prog_11_method_18_code 51 = .ok (.iconst 2, 1) := by decide +kernel
theorem dM_149_52 : decode prog_11_method_18_code 52 = .ok (.idiv, 1) := by decide +kernel
theorem dM_149_53 : decode prog_11_method_18_code 53 = .ok (.iload_n 2, 1) := by decide +kernel
theorem dM_149_54 : decode prog_11_method_18_code 54 = .ok (.iconst 2, 1) := by decide +kernel
theorem dM_149_55 : decode prog_11_method_18_code 55 = .ok (.idiv, 1) := by decide +kernel
theorem dM_149_56 : decode prog_11_method_18_code 56 = .ok (.if_icmp .ne 7, 3) := by decide +kernel
theorem dM_149_59 : decode prog_11_method_18_code 59 = .ok (.iconst 1, 1) := by decide +kernel
theorem dM_149_60 : decode prog_11_method_18_code 60 = .ok (.goto 4, 3) := by decide +kernel
theorem dM_149_63 : decode prog_11_method_18_code 63 = .ok (.iconst 0, 1) := by decide +kernel
theorem dM_149_64 : decode prog_11_method_18_code 64 = .ok (.ireturn, 1) := by decide +kernel
theorem dM_149_65 : decode prog_11_method_18_code 65 = .ok (.aload_n 0, 1) := by decide +kernel
theorem dM_149_66 : decode prog_11_method_18_code 66 = .ok (.iconst 2, 1) := by decide +kernel
theorem dM_149_67 : decode prog_11_method_18_code 67 = .ok (.aload_n 0, 1) := by decide +kernel
theorem dM_149_68 : decode prog_11_method_18_code 68 = .ok (.getfield 13, 3) := by decide +kernel
theorem dM_149_71 : decode prog_11_method_18_code 71 = .ok (.iload_n 1, 1) := by decide +kernel
theorem dM_149_72 : decode prog_11_method_18_code 72 = .ok (.iconst 2, 1) := by decide +kernel
theorem dM_149_73 : decode prog_11_method_18_code 73 = .ok (.idiv, 1) := by decide +kernel
theorem dM_149_74 : decode prog_11_method_18_code 74 = .ok (.iaload, 1) := by decide +kernel
theorem dM_149_75 : decode prog_11_method_18_code 75 = .ok (.imul, 1) := by decide +kernel
theorem dM_149_76 : decode prog_11_method_18_code 76 = .ok (.iload_n 1, 1) := by decide +kernel
theorem dM_149_77 : decode prog_11_method_18_code 77 = .ok (.iconst 2, 1) := by decide +kernel
theorem dM_149_78 : decode prog_11_method_18_code 78 = .ok (.irem, 1) := by decide +kernel
theorem dM_149_79 : decode prog_11_method_18_code 79 = .ok (.iadd, 1) := by decide +kernel
theorem dM_149_80 : decode prog_11_method_18_code 80 = .ok (.invokevirtual 144, 3) := by decide +kernel
theorem dM_149_83 : decode prog_11_method_18_code 83 = .ok (.aload_n 0, 1) := by decide +kernel
theorem dM_149_84 : decode prog_11_method_18_code 84 = .ok (.iconst 2, 1) := by decide +kernel
theorem dM_149_85 : decode prog_11_method_18_code 85 = .ok (.aload_n 0, 1) := by decide +kernel
theorem dM_149_86 : decode prog_11_method_18_code 86 = .ok (.getfield 13, 3) := by decide +kernel
theorem dM_149_89 : decode prog_11_method_18_code 89 = .ok (.iload_n 2, 1) := by decide +kernel
theorem dM_149_90 : decode prog_11_method_18_code 90 = .ok (.iconst 2, 1) := by decide +kernel
theorem dM_149_91 : decode prog_11_method_18_code 91 = .ok (.idiv, 1) := by decide +kernel
theorem dM_149_92 : decode prog_11_method_18_code 92 = .ok (.iaload, 1) := by decide +kernel
theorem dM_149_93 : decode prog_11_method_18_code 93 = .ok (.imul, 1) := by decide +kernel
theorem dM_149_94 : decode prog_11_method_18_code 94 = .ok (.iload_n 2, 1) := by decide +kernel
theorem dM_149_95 : decode prog_11_method_18_code 95 = .ok (.iconst 2, 1) := by decide +kernel
theorem dM_149_96 : decode prog_11_method_18_code 96 = .ok (.irem, 1) := by decide +kernel
theorem dM_149_97 : decode prog_11_method_18_code 97 = .ok (.iadd, 1) := by decide +kernel
theorem dM_149_98 : decode prog_11_method_18_code 98 = .ok (.invokevirtual 144, 3) := by decide +kernel
theorem dM_149_101 : decode prog_11_method_18_code 101 = .ok (.aload_n 0, 1) := by decide +kernel
theorem dM_149_102 : decode prog_11_method_18_code 102 = .ok (.iconst 2, 1) := by decide +kernel
theorem dM_149_103 : decode prog_11_method_18_code 103 = .ok (.aload_n 0, 1) := by decide +kernel
theorem dM_149_104 : decode prog_11_method_18_code 104 = .ok (.getfield 16, 3) := by decide +kernel
theorem dM_149_107 : decode prog_11_method_18_code 107 = .ok (.iload_n 1, 1) := by decide +kernel
theorem dM_149_108 : decode prog_11_method_18_code 108 = .ok (.iconst 2, 1) := by decide +kernel
theorem dM_149_109 : decode prog_11_method_18_code 109 = .ok (.idiv, 1) := by decide +kernel
theorem dM_149_110 : decode prog_11_method_18_code 110 = .ok (.iaload, 1) := by decide +kernel
theorem dM_149_111 : decode prog_11_method_18_code 111 = .ok (.imul, 1) := by decide +kernel
theorem dM_149_112 : decode prog_11_method_18_code 112 = .ok (.iload_n 1, 1) := by decide +kernel
theorem dM_149_113 : decode prog_11_method_18_code 113 = .ok (.iconst 2, 1) := by decide +kernel
theorem dM_149_114 : decode prog_11_method_18_code 114 = .ok (.irem, 1) := by decide +kernel
theorem dM_149_115 : decode prog_11_method_18_code 115 = .ok (.iadd, 1) := by decide +kernel
theorem dM_149_116 : decode prog_11_method_18_code 116 = .ok (.invokevirtual 144, 3) := by decide +kernel
theorem dM_149_119 : decode prog_11_method_18_code 119 = .ok (.aload_n 0, 1) := by decide +kernel
theorem dM_149_120 : decode prog_11_method_18_code 120 = .ok (.iconst 2, 1) := by decide +kernel
theorem dM_149_121 : decode prog_11_method_18_code 121 = .ok (.aload_n 0, 1) := by decide +kernel
theorem dM_149_122 : decode prog_11_method_18_code 122 = .ok (.getfield 16, 3) := by decide +kernel
theorem dM_149_125 : decode prog_11_method_18_code 125 = .ok (.iload_n 2, 1) := by decide +kernel
theorem dM_149_126 : decode prog_11_method_18_code 126 = .ok (.iconst 2, 1) := by decide +kernel
theorem dM_149_127 : decode prog_11_method_18_code 127 = .ok (.idiv, 1) := by decide +kernel
theorem dM_149_128 : decode prog_11_method_18_code 128 = .ok (.iaload, 1) := by decide +kernel
theorem dM_149_129 : decode prog_11_method_18_code 129 = .ok (.imul, 1) := by decide +kernel
theorem dM_149_130 : decode prog_11_method_18_code 130 = .ok (.iload_n 2, 1) := by decide +kernel
theorem dM_149_131 : decode prog_11_method_18_code 131 = .ok (.iconst 2, 1) := by decide +kernel
theorem dM_149_132 : decode prog_11_method_18_code 132 = .ok (.irem, 1) := by decide +kernel
theorem dM_149_133 : decode prog_11_method_18_code 133 = .ok (.iadd, 1) := by decide +kernel
theorem dM_149_134 : decode prog_11_method_18_code 134 = .ok (.invokevirtual 144, 3) := by decide +kernel
theorem dM_149_137 : decode prog_11_method_18_code 137 = .ok (.iconst 1, 1) := by decide +kernel
theorem dM_149_138 : decode prog_11_method_18_code 138 = .ok (.ireturn, 1) := by decide +kernel
theorem dM_150_0 : decode prog_11_method_17_code 0 = .ok (.aload_n 0, 1) := by decide +kernel
theorem dM_150_1 : decode prog_11_method_17_code 1 = .ok (.iload_n 1, 1) := by decide +kernel
theorem dM_150_2 : decode prog_11_method_17_code 2 = .ok (.iload_n 2, 1) := by decide +kernel
theorem dM_150_3 : decode prog_11_method_17_code 3 = .ok (.invokevirtual 154, 3) := by decide +kernel
theorem dM_150_6 : decode prog_11_method_17_code 6 = .ok (.ifCond .eq 5, 3) := by decide +kernel
theorem dM_150_9 : decode prog_11_method_17_code 9 = .ok (.iconst 0, 1) := by decide +kernel
theorem dM_150_10 : decode prog_11_method_17_code 10 = .ok (.ireturn, 1) := by decide +kernel
theorem dM_150_11 : decode prog_11_method_17_code 11 = .ok (.aload_n 0, 1) := by decide +kernel
theorem dM_150_12 : decode prog_11_method_17_code 12 = .ok (.getfield 40, 3) := by decide +kernel
theorem dM_150_15 : decode prog_11_method_17_code 15 = .ok (.iload_n 1, 1) := by decide +kernel
theorem dM_150_16 : decode prog_11_method_17_code 16 = .ok (.iload_n 2, 1) := by decide +kernel
theorem dM_150_17 : decode prog_11_method_17_code 17 = .ok (.iastore, 1) := by decide +kernel
theorem dM_150_18 : decode prog_11_method_17_code 18 = .ok (.aload_n 0, 1) := by decide +kernel
theorem dM_150_19 : decode prog_11_method_17_code 19 = .ok (.getfield 43, 3) := by decide +kernel
theorem dM_150_22 : decode prog_11_method_17_code 22 = .ok (.aload_n 0, 1) := by decide +kernel
theorem dM_150_23 : decode prog_11_method_17_code 23 = .ok (.getfield 138, 3) := by decide +kernel
theorem dM_150_26 : decode prog_11_method_17_code 26 = .ok (.iload_n 1, 1) := by decide +kernel
theorem dM_150_27 : decode prog_11_method_17_code 27 = .ok (.iastore, 1) := by decide +kernel
theorem dM_150_28 : decode prog_11_method_17_code 28 = .ok (.aload_n 0, 1) := by decide +kernel
theorem dM_150_29 : decode prog_11_method_17_code 29 = .ok (.dup, 1) := by decide +kernel
theorem dM_150_30 : decode prog_11_method_17_code 30 = .ok (.getfield 138, 3) := by decide +kernel
theorem dM_150_33 : decode prog_11_method_17_code 33 = .ok (.iconst 1, 1) := by decide +kernel
theorem dM_150_34 : decode prog_11_method_17_code 34 = .ok (.iadd, 1) := by decide +kernel
theorem dM_150_35 : decode prog_11_method_17_code 35 = .ok (.putfield 138, 3) := by decide +kernel
theorem dM_150_38 : decode prog_11_method_17_code 38 = .ok (.iconst 1, 1) := by decide +kernel
theorem dM_150_39 : decode prog_11_method_17_code 39 = .ok (.ireturn, 1) := by decide +kernel
theorem dM_151_0 : decode prog_11_method_16_code 0 = .ok (.aload_n 0, 1) := by decide +kernel
theorem dM_151_1 : decode prog_11_method_16_code 1 = .ok (.getfield 141, 3) := by decide +kernel
theorem dM_151_4 : decode prog_11_method_16_code 4 = .ok (.istore_n 3, 1) := by decide +kernel
theorem dM_151_5 : decode prog_11_method_16_code 5 = .ok (.iconst 0, 1) := by decide +kernel
theorem dM_151_6 : decode prog_11_method_16_code 6 = .ok (.istore 4, 2) := by decide +kernel
theorem dM_151_8 : decode prog_11_method_16_code 8 = .ok (.aload_n 0, 1) := by decide +kernel
theorem dM_151_9 : decode prog_11_method_16_code 9 = .ok (.iload_n 2, 1) := by decide +kernel
theorem dM_151_10 : decode prog_11_method_16_code 10 = .ok (.invokevirtual 144, 3) := by decide +kernel
theorem dM_151_13 : decode prog_11_method_16_code 13 = .ok (.aload_n 0, 1) := by decide +kernel
theorem dM_151_14 : decode prog_11_method_16_code 14 = .ok (.getfield 141, 3) := by decide +kernel
theorem dM_151_17 : decode prog_11_method_16_code 17 = .ok (.iload_n 3, 1) := by decide +kernel
theorem dM_151_18 : decode prog_11_method_16_code 18 = .ok (.if_icmp .le 75, 3) := by decide +kernel
theorem dM_151_21 : decode prog_11_method_16_code 21 = .ok (.iload 4, 2) := by decide +kernel
theorem dM_151_23 : decode prog_11_method_16_code 23 = .ok (.ifCond .ne 70, 3) := by decide +kernel
theorem dM_151_26 : decode prog_11_method_16_code 26 = .ok (.aload_n 0, 1) := by decide +kernel
theorem dM_151_27 : decode prog_11_method_16_code 27 = .ok (.dup, 1) := by decide +kernel
theorem dM_151_28 : decode prog_11_method_16_code 28 = .ok (.getfield 141, 3) := by decide +kernel
theorem dM_151_31 : decode prog_11_method_16_code 31 = .ok (.iconst 1, 1) := by decide +kernel
theorem dM_151_32 : decode prog_11_method_16_code 32 = .ok (.isub, 1) := by decide +kernel
theorem dM_151_33 : decode prog_11_method_16_code 33 = .ok (.putfield 141, 3) := by decide +kernel
theorem dM_151_36 : decode prog_11_method_16_code 36 = .ok (.aload_n 0, 1) := by decide +kernel
theorem dM_151_37 : decode prog_11_method_16_code 37 = .ok (.aload_n 0, 1) := by decide +kernel
theorem dM_151_38 : decode prog_11_method_16_code 38 = .ok (.getfield 46, 3) := by decide +kernel
theorem dM_151_41 : decode prog_11_method_16_code 41 = .ok (.aload_n 0, 1) := by decide +kernel
theorem dM_151_42 : decode prog_11_method_16_code 42 = .ok (.getfield 141, 3) := by decide +kernel
theorem dM_151_45 : decode prog_11_method_16_code 45 = .ok (.iaload, 1) := by decide +kernel
theorem dM_151_46 : decode prog_11_method_16_code 46 = .ok (.invokevirtual 148, 3) := by decide +kernel
theorem dM_151_49 : decode prog_11_method_16_code 49 = .ok (.istore 5, 2) := by decide +kernel
theorem dM_151_51 : decode prog_11_method_16_code 51 = .ok (.iload 5, 2) := by decide +kernel
theorem dM_151_53 : decode prog_11_method_16_code 53 = .ok (.invokestatic 130, 3) := by decide +kernel
theorem dM_151_56 : decode prog_11_method_16_code 56 = .ok (.ifCond .eq 16, 3) := by decide +kernel
theorem dM_151_59 : decode prog_11_method_16_code 59 = .ok (.iload 5, 2) := by decide +kernel
theorem dM_151_61 : decode prog_11_method_16_code 61 = .ok (.invokestatic 134, 3) := by decide +kernel
theorem dM_151_64 : decode prog_11_method_16_code 64 = .ok (.iload_n 1, 1) := by decide +kernel
theorem dM_151_65 : decode prog_11_method_16_code 65 = .ok (.if_icmp .ne 7, 3) := by decide +kernel
theorem dM_151_68 : decode prog_11_method_16_code 68 = .ok (.iconst 1, 1) := by decide +kernel
theorem dM_151_69 : decode prog_11_method_16_code 69 = .ok (.goto 4, 3) := by decide +kernel
theorem dM_151_72 : decode prog_11_method_16_code 72 = .ok (.iconst 0, 1) := by decide +kernel
theorem dM_151_73 : decode prog_11_method_16_code 73 = .ok (.istore 4, 2) := by decide +kernel
theorem dM_151_75 : decode prog_11_method_16_code 75 = .ok (.iload 5, 2) := by decide +kernel
theorem dM_151_77 : decode prog_11_method_16_code 77 = .ok (.iconst 2, 1) := by decide +kernel
theorem dM_151_78 : decode prog_11_method_16_code 78 = .ok (.idiv, 1) := by decide +kernel
theorem dM_151_79 : decode prog_11_method_16_code 79 = .ok (.bipush 75, 2) := by decide +kernel
theorem dM_151_81 : decode prog_11_method_16_code 81 = .ok (.if_icmp .lt 9, 3) := by decide +kernel
theorem dM_151_84 : decode prog_11_method_16_code 84 = .ok (.aload_n 0, 1) := by decide +kernel
theorem dM_151_85 : decode prog_11_method_16_code 85 = .ok (.iload 5, 2) := by decide +kernel
theorem dM_151_87 : decode prog_11_method_16_code 87 = .ok (.invokevirtual 151, 3) := by decide +kernel
theorem dM_151_90 : decode prog_11_method_16_code 90 = .ok (.goto (-77), 3) := by decide +kernel
theorem dM_151_93 : decode prog_11_method_16_code 93 = .ok (.aload_n 0, 1) := by decide +kernel
theorem dM_151_94 : decode prog_11_method_16_code 94 = .ok (.iload_n 3, 1) := by decide +kernel
theorem dM_151_95 : decode prog_11_method_16_code 95 = .ok (.putfield 141, 3) := by decide +kernel
theorem dM_151_98 : decode prog_11_method_16_code 98 = .ok (.iload 4, 2) := by decide +kernel
theorem dM_151_100 : decode prog_11_method_16_code 100 = .ok (.ireturn, 1) := by decide +kernel
theorem dM_152_0 : decode prog_11_method_15_code 0 = .ok (.aload_n 0, 1) := by decide +kernel
theorem dM_152_1 : decode prog_11_method_15_code 1 = .ok (.iconst 2, 1) := by decide +kernel
theorem dM_152_2 : decode prog_11_method_15_code 2 = .ok (.aload_n 0, 1) := by decide +kernel
theorem dM_152_3 : decode prog_11_method_15_code 3 = .ok (.getfield 13, 3) := by decide +kernel
theorem dM_152_6 : decode prog_11_method_15_code 6 = .ok (.iload_n 1, 1) := by decide +kernel
theorem dM_152_7 : decode prog_11_method_15_code 7 = .ok (.iconst 2, 1) := by decide +kernel
theorem dM_152_8 : decode prog_11_method_15_code 8 = .ok (.idiv, 1) := by decide +kernel
theorem dM_152_9 : decode prog_11_method_15_code 9 = .ok (.iaload, 1) := by decide +kernel
theorem dM_152_10 : decode prog_11_method_15_code 10 = .ok (.imul, 1) := by decide +kernel
theorem dM_152_11 : decode prog_11_method_15_code 11 = .ok (.iload_n 1, 1) := by decide +kernel
theorem dM_152_12 : decode prog_11_method_15_code 12 = .ok (.iconst 2, 1) := by decide +kernel
theorem dM_152_13 : decode prog_11_method_15_code 13 = .ok (.irem, 1) := by decide +kernel
theorem dM_152_14 : decode prog_11_method_15_code 14 = .ok (.iadd, 1) := by decide +kernel
theorem dM_152_15 : decode prog_11_method_15_code 15 = .ok (.invokevirtual 144, 3) := by decide +kernel
theorem dM_152_18 : decode prog_11_method_15_code 18 = .ok (.aload_n 0, 1) := by decide +kernel
theorem dM_152_19 : decode prog_11_method_15_code 19 = .ok (.iconst 2, 1) := by decide +kernel
theorem dM_152_20 : decode prog_11_method_15_code 20 = .ok (.aload_n 0, 1) := by decide +kernel
theorem dM_152_21 : decode prog_11_method_15_code 21 = .ok (.getfield 16, 3) := by decide +kernel
theorem dM_152_24 : decode prog_11_method_15_code 24 = .ok (.iload_n 1, 1) := by decide +kernel
theorem dM_152_25 : decode prog_11_method_15_code 25 = .ok (.iconst 2, 1) := by decide +kernel
theorem dM_152_26 : decode prog_11_method_15_code 26 = .ok (.idiv, 1) := by decide +kernel
theorem dM_152_27 : decode prog_11_method_15_code 27 = .ok (.iaload, 1) := by decide +kernel
theorem dM_152_28 : decode prog_11_method_15_code 28 = .ok (.imul, 1) := by decide +kernel
theorem dM_152_29 : decode prog_11_method_15_code 29 = .ok (.iload_n 1, 1) := by decide +kernel
theorem dM_152_30 : decode prog_11_method_15_code 30 = .ok (.iconst 2, 1) := by decide +kernel
theorem dM_152_31 : decode prog_11_method_15_code 31 = .ok (.irem, 1) := by decide +kernel
theorem dM_152_32 : decode prog_11_method_15_code 32 = .ok (.iadd, 1) := by decide +kernel
theorem dM_152_33 : decode prog_11_method_15_code 33 = .ok (.invokevirtual 144, 3) := by decide +kernel
theorem dM_152_36 : decode prog_11_method_15_code 36 = .ok (.return_, 1) := by decide +kernel
theorem dM_153_0 : decode prog_11_method_30_code 0 = .ok (.iload_n 1, 1) := by decide +kernel
theorem dM_153_1 : decode prog_11_method_30_code 1 = .ok (.ifCond .eq 14, 3) := by decide +kernel
theorem dM_153_4 : decode prog_11_method_30_code 4 = .ok (.aload_n 0, 1) := by decide +kernel
theorem dM_153_5 : decode prog_11_method_30_code 5 = .ok (.invokevirtual 201, 3) := by decide +kernel
theorem dM_153_8 : decode prog_11_method_30_code 8 = .ok (.ifCond .eq 7, 3) := by decide +kernel
theorem dM_153_11 : decode prog_11_method_30_code 11 = .ok (.aload_n 0, 1) := by decide +kernel
theorem dM_153_12 : decode prog_11_method_30_code 12 = .ok (.invokevirtual 186, 3) := by decide +kernel
theorem dM_153_15 : decode prog_11_method_30_code 15 = .ok (.return_, 1) := by decide +kernel
theorem dM_154_0 : decode prog_11_method_28_code 0 = .ok (.iconst 0, 1) := by decide +kernel
theorem dM_154_1 : decode prog_11_method_28_code 1 = .ok (.istore_n 1, 1) := by decide +kernel
theorem dM_154_2 : decode prog_11_method_28_code 2 = .ok (.aload_n 0, 1) := by decide +kernel
theorem dM_154_3 : decode prog_11_method_28_code 3 = .ok (.getfield 173, 3) := by decide +kernel
theorem dM_154_6 : decode prog_11_method_28_code 6 = .ok (.istore_n 2, 1) := by decide +kernel
theorem dM_154_7 : decode prog_11_method_28_code 7 = .ok (.iload_n 2, 1) := by decide +kernel
theorem dM_154_8 : decode prog_11_method_28_code 8 = .ok (.ifCond .le 38, 3) := by decide +kernel
theorem dM_154_11 : decode prog_11_method_28_code 11 = .ok (.aload_n 0, 1) := by decide +kernel
theorem dM_154_12 : decode prog_11_method_28_code 12 = .ok (.iload_n 2, 1) := by decide +kernel
theorem dM_154_13 : decode prog_11_method_28_code 13 = .ok (.invokevirtual 195, 3) := by decide +kernel
theorem dM_154_16 : decode prog_11_method_28_code 16 = .ok (.istore_n 3, 1) := by decide +kernel
theorem dM_154_17 : decode prog_11_method_28_code 17 = .ok (.iload_n 3, 1) := by decide +kernel
theorem dM_154_18 : decode prog_11_method_28_code 18 = .ok (.ifCond .ne 5, 3) := by decide +kernel
theorem dM_154_21 : decode prog_11_method_28_code 21 = .ok (.iconst 0, 1) := by decide +kernel
theorem dM_154_22 : decode prog_11_method_28_code 22 = .ok (.ireturn, 1) := by decide +kernel
theorem dM_154_23 : decode prog_11_method_28_code 23 = .ok (.iload_n 1, 1) := by decide +kernel
theorem dM_154_24 : decode prog_11_method_28_code 24 = .ok (.iload_n 3, 1) := by decide +kernel
theorem dM_154_25 : decode prog_11_method_28_code 25 = .ok (.iconst 2, 1) := by decide +kernel
theorem dM_154_26 : decode prog_11_method_28_code 26 = .ok (.if_icmp .ne 7, 3) := by decide +kernel
theorem dM_154_29 : decode prog_11_method_28_code 29 = .ok (.iconst 1, 1) := by decide +kernel
theorem dM_154_30 : decode prog_11_method_28_code 30 = .ok (.goto 4, 3) := by decide +kernel
theorem dM_154_33 : decode prog_11_method_28_code 33 = .ok (.iconst 0, 1) := by decide +kernel
theorem dM_154_34 : decode prog_11_method_28_code 34 = .ok (.ior, 1) := by decide +kernel
theorem dM_154_35 : decode prog_11_method_28_code 35 = .ok (.istore_n 1, 1) := by decide +kernel
theorem dM_154_36 : decode prog_11_method_28_code 36 = .ok (.aload_n 0, 1) := by decide +kernel
theorem dM_154_37 : decode prog_11_method_28_code 37 = .ok (.getfield 37, 3) := by decide +kernel
theorem dM_154_40 : decode prog_11_method_28_code 40 = .ok (.iload_n 2, 1) := by decide +kernel
theorem dM_154_41 : decode prog_11_method_28_code 41 = .ok (.iaload, 1) := by decide +kernel
theorem dM_154_42 : decode prog_11_method_28_code 42 = .ok (.istore_n 2, 1) := by decide +kernel
theorem dM_154_43 : decode prog_11_method_28_code 43 = .ok (.goto (-36), 3) := by decide +kernel
theorem dM_154_46 : decode prog_11_method_28_code 46 = .ok (.iload_n 1, 1) := by decide +kernel
theorem dM_154_47 : decode prog_11_method_28_code 47 = .ok (.ifCond .eq 7, 3) := by decide +kernel
theorem dM_154_50 : decode prog_11_method_28_code 50 = .ok (.aload_n 0, 1) := by decide +kernel
theorem dM_154_51 : decode prog_11_method_28_code 51 = .ok (.invokevirtual 198, 3) := by decide +kernel
theorem dM_154_54 : decode prog_11_method_28_code 54 = .ok (.iconst 1, 1) := by decide +kernel
theorem dM_154_55 : decode prog_11_method_28_code 55 = .ok (.ireturn, 1) := by decide +kernel
theorem dM_155_0 : decode prog_11_method_26_code 0 = .ok (.aload_n 0, 1) := by decide +kernel
theorem dM_155_1 : decode prog_11_method_26_code 1 = .ok (.getfield 138, 3) := by decide +kernel
theorem dM_155_4 : decode prog_11_method_26_code 4 = .ok (.istore_n 2, 1) := by decide +kernel
theorem dM_155_5 : decode prog_11_method_26_code 5 = .ok (.aload_n 0, 1) := by decide +kernel
theorem dM_155_6 : decode prog_11_method_26_code 6 = .ok (.iconst 2, 1) := by decide +kernel
theorem dM_155_7 : decode prog_11_method_26_code 7 = .ok (.aload_n 0, 1) := by decide +kernel
theorem dM_155_8 : decode prog_11_method_26_code 8 = .ok (.getfield 31, 3) := by decide +kernel
theorem dM_155_11 : decode prog_11_method_26_code 11 = .ok (.iload_n 1, 1) := by decide +kernel
theorem dM_155_12 : decode prog_11_method_26_code 12 = .ok (.iaload, 1) := by decide +kernel
theorem dM_155_13 : decode prog_11_method_26_code 13 = .ok (.imul, 1) := by decide +kernel
theorem dM_155_14 : decode prog_11_method_26_code 14 = .ok (.iconst 2, 1) := by decide +kernel
theorem dM_155_15 : decode prog_11_method_26_code 15 = .ok (.aload_n 0, 1) := by decide +kernel
theorem dM_155_16 : decode prog_11_method_26_code 16 = .ok (.getfield 34, 3) := by decide +kernel
theorem dM_155_19 : decode prog_11_method_26_code 19 = .ok (.iload_n 1, 1) := by decide +kernel
theorem dM_155_20 : decode prog_11_method_26_code 20 = .ok (.iaload, 1) := by decide +kernel
theorem dM_155_21 : decode prog_11_method_26_code 21 = .ok (.imul, 1) := by decide +kernel
theorem dM_155_22 : decode prog_11_method_26_code 22 = .ok (.invokevirtual 189, 3) := by decide +kernel
theorem dM_155_25 : decode prog_11_method_26_code 25 = .ok (.istore_n 3, 1) := by decide +kernel
theorem dM_155_26 : decode prog_11_method_26_code 26 = .ok (.iload_n 3, 1) := by decide +kernel
theorem dM_155_27 : decode prog_11_method_26_code 27 = .ok (.ifCond .eq 15, 3) := by decide +kernel
theorem dM_155_30 : decode prog_11_method_26_code 30 = .ok (.aload_n 0, 1) := by decide +kernel
theorem dM_155_31 : decode prog_11_method_26_code 31 = .ok (.getfield 138, 3) := by decide +kernel
theorem dM_155_34 : decode prog_11_method_26_code 34 = .ok (.iload_n 2, 1) := by decide +kernel
theorem dM_155_35 : decode prog_11_method_26_code 35 = .ok (.if_icmp .ne 7, 3) := by decide +kernel
theorem dM_155_38 : decode prog_11_method_26_code 38 = .ok (.iconst 1, 1) := by decide +kernel
theorem dM_155_39 : decode prog_11_method_26_code 39 = .ok (.goto 4, 3) := by decide +kernel
theorem dM_155_42 : decode prog_11_method_26_code 42 = .ok (.iconst 0, 1) := by decide +kernel
theorem dM_155_43 : decode prog_11_method_26_code 43 = .ok (.istore 4, 2) := by decide +kernel
theorem dM_155_45 : decode prog_11_method_26_code 45 = .ok (.aload_n 0, 1) := by decide +kernel
theorem dM_155_46 : decode prog_11_method_26_code 46 = .ok (.iload_n 2, 1) := by decide +kernel
theorem dM_155_47 : decode prog_11_method_26_code 47 = .ok (.invokevirtual 192, 3) := by decide +kernel
theorem dM_155_50 : decode prog_11_method_26_code 50 = .ok (.iload 4, 2) := by decide +kernel
theorem dM_155_52 : decode prog_11_method_26_code 52 = .ok (.ifCond .eq 7, 3) := by decide +kernel
theorem dM_155_55 : decode prog_11_method_26_code 55 = .ok (.iconst 0, 1) := by decide +kernel
theorem dM_155_56 : decode prog_11_method_26_code 56 = .ok (.goto 12, 3) := by decide +kernel
theorem dM_155_59 : decode prog_11_method_26_code 59 = .ok (.iload_n 3, 1) := by decide +kernel
theorem dM_155_60 : decode prog_11_method_26_code 60 = .ok (.ifCond .eq 7, 3) := by decide +kernel
theorem dM_155_63 : decode prog_11_method_26_code 63 = .ok (.iconst 1, 1) := by decide +kernel
theorem dM_155_64 : decode prog_11_method_26_code 64 = .ok (.goto 4, 3) := by decide +kernel
theorem dM_155_67 : decode prog_11_method_26_code 67 = .ok (.iconst 2, 1) := by decide +kernel
theorem dM_155_68 : decode prog_11_method_26_code 68 = .ok (.ireturn, 1) := by decide +kernel
theorem dM_156_0 : decode prog_11_method_13_code 0 = .ok (.aload_n 0, 1) := by decide +kernel
theorem dM_156_1 : decode prog_11_method_13_code 1 = .ok (.getfield 138, 3) := by decide +kernel
theorem dM_156_4 : decode prog_11_method_13_code 4 = .ok (.iload_n 1, 1) := by decide +kernel
theorem dM_156_5 : decode prog_11_method_13_code 5 = .ok (.if_icmp .le 32, 3) := by decide +kernel
theorem dM_156_8 : decode prog_11_method_13_code 8 = .ok (.aload_n 0, 1) := by decide +kernel
theorem dM_156_9 : decode prog_11_method_13_code 9 = .ok (.dup, 1) := by decide +kernel
theorem dM_156_10 : decode prog_11_method_13_code 10 = .ok (.getfield 138, 3) := by decide +kernel
theorem dM_156_13 : decode prog_11_method_13_code 13 = .ok (.iconst 1, 1) := by decide +kernel
theorem dM_156_14 : decode prog_11_method_13_code 14 = .ok (.isub, 1) := by decide +kernel
theorem dM_156_15 : decode prog_11_method_13_code 15 = .ok (.putfield 138, 3) := by decide +kernel
theorem dM_156_18 : decode prog_11_method_13_code 18 = .ok (.aload_n 0, 1) := by decide +kernel
theorem dM_156_19 : decode prog_11_method_13_code 19 = .ok (.getfield 40, 3) := by decide +kernel
theorem dM_156_22 : decode prog_11_method_13_code 22 = .ok (.aload_n 0, 1) := by decide +kernel
theorem dM_156_23 : decode prog_11_method_13_code 23 = .ok (.getfield 43, 3) := by decide +kernel
theorem dM_156_26 : decode prog_11_method_13_code 26 = .ok (.aload_n 0, 1) := by decide +kernel
theorem dM_156_27 : decode prog_11_method_13_code 27 = .ok (.getfield 138, 3) := by decide +kernel
theorem dM_156_30 : decode prog_11_method_13_code 30 = .ok (.iaload, 1) := by decide +kernel
theorem dM_156_31 : decode prog_11_method_13_code 31 = .ok (.bipush (-9), 2) := by decide +kernel
theorem dM_156_33 : decode prog_11_method_13_code 33 = .ok (.iastore, 1) := by decide +kernel
theorem dM_156_34 : decode prog_11_method_13_code 34 = .ok (.goto (-34), 3) := by decide +kernel
theorem dM_156_37 : decode prog_11_method_13_code 37 = .ok (.return_, 1) := by decide +kernel
theorem dM_157_0 : decode prog_11_method_27_code 0 = .ok (.iconst 0, 1) := by decide +kernel
theorem dM_157_1 : decode prog_11_method_27_code 1 = .ok (.istore_n 1, 1) := by decide +kernel
theorem dM_157_2 : decode prog_11_method_27_code 2 = .ok (.aload_n 0, 1) := by decide +kernel
theorem dM_157_3 : decode prog_11_method_27_code 3 = .ok (.getfield 173, 3) := by decide +kernel
theorem dM_157_6 : decode prog_11_method_27_code 6 = .ok (.istore_n 2, 1) := by decide +kernel
theorem dM_157_7 : decode prog_11_method_27_code 7 = .ok (.iload_n 2, 1) := by decide +kernel
theorem dM_157_8 : decode prog_11_method_27_code 8 = .ok (.ifCond .le 40, 3) := by decide +kernel
theorem dM_157_11 : decode prog_11_method_27_code 11 = .ok (.aload_n 0, 1) := by decide +kernel
theorem dM_157_12 : decode prog_11_method_27_code 12 = .ok (.iload_n 2, 1) := by decide +kernel
theorem dM_157_13 : decode prog_11_method_27_code 13 = .ok (.invokevirtual 195, 3) := by decide +kernel
theorem dM_157_16 : decode prog_11_method_27_code 16 = .ok (.iconst 1, 1) := by decide +kernel
theorem dM_157_17 : decode prog_11_method_27_code 17 = .ok (.if_icmp .ne 21, 3) := by decide +kernel
theorem dM_157_20 : decode prog_11_method_27_code 20 = .ok (.aload_n 0, 1) := by decide +kernel
theorem dM_157_21 : decode prog_11_method_27_code 21 = .ok (.aload_n 0, 1) := by decide +kernel
theorem dM_157_22 : decode prog_11_method_27_code 22 = .ok (.getfield 31, 3) := by decide +kernel
theorem dM_157_25 : decode prog_11_method_27_code 25 = .ok (.iload_n 2, 1) := by decide +kernel
theorem dM_157_26 : decode prog_11_method_27_code 26 = .ok (.iaload, 1) := by decide +kernel
theorem dM_157_27 : decode prog_11_method_27_code 27 = .ok (.aload_n 0, 1) := by decide +kernel
theorem dM_157_28 : decode prog_11_method_27_code 28 = .ok (.getfield 34, 3) := by decide +kernel
theorem dM_157_31 : decode prog_11_method_27_code 31 = .ok (.iload_n 2, 1) := by decide +kernel
theorem dM_157_32 : decode prog_11_method_27_code 32 = .ok (.iaload, 1) := by decide +kernel
theorem dM_157_33 : decode prog_11_method_27_code 33 = .ok (.iload_n 1, 1) := by decide +kernel
theorem dM_157_34 : decode prog_11_method_27_code 34 = .ok (.invokevirtual 182, 3) := by decide +kernel
theorem dM_157_37 : decode prog_11_method_27_code 37 = .ok (.istore_n 1, 1) := by decide +kernel
theorem dM_157_38 : decode prog_11_method_27_code 38 = .ok (.aload_n 0, 1) := by decide +kernel
theorem dM_157_39 : decode prog_11_method_27_code 39 = .ok (.getfield 37, 3) := by decide +kernel
theorem dM_157_42 : decode prog_11_method_27_code 42 = .ok (.iload_n 2, 1) := by decide +kernel
theorem dM_157_43 : decode prog_11_method_27_code 43 = .ok (.iaload, 1) := by decide +kernel
theorem dM_157_44 : decode prog_11_method_27_code 44 = .ok (.istore_n 2, 1) := by decide +kernel
theorem dM_157_45 : decode prog_11_method_27_code 45 = .ok (.goto (-38), 3) := by decide +kernel
theorem dM_157_48 : decode prog_11_method_27_code 48 = .ok (.aload_n 0, 1) := by decide +kernel
theorem dM_157_49 : decode prog_11_method_27_code 49 = .ok (.iload_n 1, 1) := by decide +kernel
theorem dM_157_50 : decode prog_11_method_27_code 50 = .ok (.putfield 173, 3) := by decide +kernel
theorem dM_157_53 : decode prog_11_method_27_code 53 = .ok (.return_, 1) := by decide +kernel
theorem dM_158_0 : decode prog_11_method_33_code 0 = .ok (.aload_n 0, 1) := by decide +kernel
theorem dM_158_1 : decode prog_11_method_33_code 1 = .ok (.getfield 170, 3) := by decide +kernel
theorem dM_158_4 : decode prog_11_method_33_code 4 = .ok (.istore_n 3, 1) := by decide +kernel
theorem dM_158_5 : decode prog_11_method_33_code 5 = .ok (.aload_n 0, 1) := by decide +kernel
theorem dM_158_6 : decode prog_11_method_33_code 6 = .ok (.aload_n 0, 1) := by decide +kernel
theorem dM_158_7 : decode prog_11_method_33_code 7 = .ok (.aload_n 0, 1) := by decide +kernel
theorem dM_158_8 : decode prog_11_method_33_code 8 = .ok (.getfield 22, 3) := by decide +kernel
theorem dM_158_11 : decode prog_11_method_33_code 11 = .ok (.iload_n 2, 1) := by decide +kernel
theorem dM_158_12 : decode prog_11_method_33_code 12 = .ok (.iaload, 1) := by decide +kernel
theorem dM_158_13 : decode prog_11_method_33_code 13 = .ok (.iconst 0, 1) := by decide +kernel
theorem dM_158_14 : decode prog_11_method_33_code 14 = .ok (.iload_n 3, 1) := by decide +kernel
theorem dM_158_15 : decode prog_11_method_33_code 15 = .ok (.invokevirtual 182, 3) := by decide +kernel
theorem dM_158_18 : decode prog_11_method_33_code 18 = .ok (.putfield 170, 3) := by decide +kernel
theorem dM_158_21 : decode prog_11_method_33_code 21 = .ok (.aload_n 0, 1) := by decide +kernel
theorem dM_158_22 : decode prog_11_method_33_code 22 = .ok (.invokevirtual 186, 3) := by decide +kernel
theorem dM_158_25 : decode prog_11_method_33_code 25 = .ok (.aload_n 0, 1) := by decide +kernel
theorem dM_158_26 : decode prog_11_method_33_code 26 = .ok (.iload_n 1, 1) := by decide +kernel
theorem dM_158_27 : decode prog_11_method_33_code 27 = .ok (.invokevirtual 212, 3) := by decide +kernel
theorem dM_158_30 : decode prog_11_method_33_code 30 = .ok (.aload_n 0, 1) := by decide +kernel
theorem dM_158_31 : decode prog_11_method_33_code 31 = .ok (.aload_n 0, 1) := by decide +kernel
theorem dM_158_32 : decode prog_11_method_33_code 32 = .ok (.aload_n 0, 1) := by decide +kernel
theorem dM_158_33 : decode prog_11_method_33_code 33 = .ok (.getfield 25, 3) := by decide +kernel
theorem dM_158_36 : decode prog_11_method_33_code 36 = .ok (.iload_n 2, 1) := by decide +kernel
theorem dM_158_37 : decode prog_11_method_33_code 37 = .ok (.iaload, 1) := by decide +kernel
theorem dM_158_38 : decode prog_11_method_33_code 38 = .ok (.iconst 0, 1) := by decide +kernel
theorem dM_158_39 : decode prog_11_method_33_code 39 = .ok (.iload_n 3, 1) := by decide +kernel
theorem dM_158_40 : decode prog_11_method_33_code 40 = .ok (.invokevirtual 182, 3) := by decide +kernel
theorem dM_158_43 : decode prog_11_method_33_code 43 = .ok (.putfield 170, 3) := by decide +kernel
theorem dM_158_46 : decode prog_11_method_33_code 46 = .ok (.aload_n 0, 1) := by decide +kernel
theorem dM_158_47 : decode prog_11_method_33_code 47 = .ok (.invokevirtual 186, 3) := by decide +kernel
theorem dM_158_50 : decode prog_11_method_33_code 50 = .ok (.return_, 1) := by decide +kernel
theorem dM_159_0 : decode prog_11_method_31_code 0 = .ok (.aload_n 0, 1) := by decide +kernel
theorem dM_159_1 : decode prog_11_method_31_code 1 = .ok (.getfield 170, 3) := by decide +kernel
theorem dM_159_4 : decode prog_11_method_31_code 4 = .ok (.istore_n 3, 1) := by decide +kernel
theorem dM_159_5 : decode prog_11_method_31_code 5 = .ok (.aload_n 0, 1) := by decide +kernel
theorem dM_159_6 : decode prog_11_method_31_code 6 = .ok (.getfield 22, 3) := by decide +kernel
theorem dM_159_9 : decode prog_11_method_31_code 9 = .ok (.iload_n 2, 1) := by decide +kernel
theorem dM_159_10 : decode prog_11_method_31_code 10 = .ok (.iaload, 1) := by decide +kernel
theorem dM_159_11 : decode prog_11_method_31_code 11 = .ok (.istore 4, 2) := by decide +kernel
theorem dM_159_13 : decode prog_11_method_31_code 13 = .ok (.aload_n 0, 1) := by decide +kernel
theorem dM_159_14 : decode prog_11_method_31_code 14 = .ok (.getfield 28, 3) := by decide +kernel
theorem dM_159_17 : decode prog_11_method_31_code 17 = .ok (.iload_n 2, 1) := by decide +kernel
theorem dM_159_18 : decode prog_11_method_31_code 18 = .ok (.iaload, 1) := by decide +kernel
theorem dM_159_19 : decode prog_11_method_31_code 19 = .ok (.istore 5, 2) := by decide +kernel
theorem dM_159_21 : decode prog_11_method_31_code 21 = .ok (.aload_n 0, 1) := by decide +kernel
theorem dM_159_22 : decode prog_11_method_31_code 22 = .ok (.aload_n 0, 1) := by decide +kernel
theorem dM_159_23 : decode prog_11_method_31_code 23 = .ok (.iload 4, 2) := by decide +kernel
theorem dM_159_25 : decode prog_11_method_31_code 25 = .ok (.bipush 74, 2) := by decide +kernel
theorem dM_159_27 : decode prog_11_method_31_code 27 = .ok (.invokevirtual 205, 3) := by decide +kernel
theorem dM_159_30 : decode prog_11_method_31_code 30 = .ok (.ifCond .eq 22, 3) := by decide +kernel
theorem dM_159_33 : decode prog_11_method_31_code 33 = .ok (.aload_n 0, 1) := by decide +kernel
theorem dM_159_34 : decode prog_11_method_31_code 34 = .ok (.aload_n 0, 1) := by decide +kernel
theorem dM_159_35 : decode prog_11_method_31_code 35 = .ok (.getfield 25, 3) := by decide +kernel
theorem dM_159_38 : decode prog_11_method_31_code 38 = .ok (.iload_n 2, 1) := by decide +kernel
theorem dM_159_39 : decode prog_11_method_31_code 39 = .ok (.iaload, 1) := by decide +kernel
theorem dM_159_40 : decode prog_11_method_31_code 40 = .ok (.iload 5, 2) := by decide +kernel
theorem dM_159_42 : decode prog_11_method_31_code 42 = .ok (.invokevirtual 205, 3) := by decide +kernel
theorem dM_159_45 : decode prog_11_method_31_code 45 = .ok (.ifCond .eq 7, 3) := by decide +kernel
theorem dM_159_48 : decode prog_11_method_31_code 48 = .ok (.iconst 1, 1) := by decide +kernel
theorem dM_159_49 : decode prog_11_method_31_code 49 = .ok (.goto 4, 3) := by decide +kernel
theorem dM_159_52 : decode prog_11_method_31_code 52 = .ok (.iconst 0, 1) := by decide +kernel
theorem dM_159_53 : decode prog_11_method_31_code 53 = .ok (.invokevirtual 208, 3) := by decide +kernel
theorem dM_159_56 : decode prog_11_method_31_code 56 = .ok (.aload_n 0, 1) := by decide +kernel
theorem dM_159_57 : decode prog_11_method_31_code 57 = .ok (.iload_n 1, 1) := by decide +kernel
theorem dM_159_58 : decode prog_11_method_31_code 58 = .ok (.invokevirtual 212, 3) := by decide +kernel
theorem dM_159_61 : decode prog_11_method_31_code 61 = .ok (.aload_n 0, 1) := by decide +kernel
theorem dM_159_62 : decode prog_11_method_31_code 62 = .ok (.getfield 176, 3) := by decide +kernel
theorem dM_159_65 : decode prog_11_method_31_code 65 = .ok (.istore 6, 2) := by decide +kernel
theorem dM_159_67 : decode prog_11_method_31_code 67 = .ok (.aload_n 0, 1) := by decide +kernel
theorem dM_159_68 : decode prog_11_method_31_code 68 = .ok (.dup, 1) := by decide +kernel
theorem dM_159_69 : decode prog_11_method_31_code 69 = .ok (.getfield 176, 3) := by decide +kernel
theorem dM_159_72 : decode prog_11_method_31_code 72 = .ok (.iconst 3, 1) := by decide +kernel
theorem dM_159_73 : decode prog_11_method_31_code 73 = .ok (.iadd, 1) := by decide +kernel
theorem dM_159_74 : decode prog_11_method_31_code 74 = .ok (.putfield 176, 3) := by decide +kernel
theorem dM_159_77 : decode prog_11_method_31_code 77 = .ok (.aload_n 0, 1) := by decide +kernel
theorem dM_159_78 : decode prog_11_method_31_code 78 = .ok (.aload_n 0, 1) := by decide +kernel
theorem dM_159_79 : decode prog_11_method_31_code 79 = .ok (.aload_n 0, 1) := by decide +kernel
theorem dM_159_80 : decode prog_11_method_31_code 80 = .ok (.bipush 65, 2) := by decide +kernel
theorem dM_159_82 : decode prog_11_method_31_code 82 = .ok (.iload 6, 2) := by decide +kernel
theorem dM_159_84 : decode prog_11_method_31_code 84 = .ok (.iconst 1, 1) := by decide +kernel
theorem dM_159_85 : decode prog_11_method_31_code 85 = .ok (.iadd, 1) := by decide +kernel
theorem dM_159_86 : decode prog_11_method_31_code 86 = .ok (.aload_n 0, 1) := by decide +kernel
theorem dM_159_87 : decode prog_11_method_31_code 87 = .ok (.getfield 25, 3) := by decide +kernel
theorem dM_159_90 : decode prog_11_method_31_code 90 = .ok (.iload_n 2, 1) := by decide +kernel
theorem dM_159_91 : decode prog_11_method_31_code 91 = .ok (.iaload, 1) := by decide +kernel
theorem dM_159_92 : decode prog_11_method_31_code 92 = .ok (.iload 6, 2) := by decide +kernel
theorem dM_159_94 : decode prog_11_method_31_code 94 = .ok (.iconst 2, 1) := by decide +kernel
theorem dM_159_95 : decode prog_11_method_31_code 95 = .ok (.iadd, 1) := by decide +kernel
theorem dM_159_96 : decode prog_11_method_31_code 96 = .ok (.invokevirtual 215, 3) := by decide +kernel
theorem dM_159_99 : decode prog_11_method_31_code 99 = .ok (.iconst 0, 1) := by decide +kernel
theorem dM_159_100 : decode prog_11_method_31_code 100 = .ok (.iload_n 3, 1) := by decide +kernel
theorem dM_159_101 : decode prog_11_method_31_code 101 = .ok (.invokevirtual 182, 3) := by decide +kernel
theorem dM_159_104 : decode prog_11_method_31_code 104 = .ok (.putfield 170, 3) := by decide +kernel
theorem dM_159_107 : decode prog_11_method_31_code 107 = .ok (.aload_n 0, 1) := by decide +kernel
theorem dM_159_108 : decode prog_11_method_31_code 108 = .ok (.aload_n 0, 1) := by decide +kernel
theorem dM_159_109 : decode prog_11_method_31_code 109 = .ok (.iload 4, 2) := by decide +kernel
theorem dM_159_111 : decode prog_11_method_31_code 111 = .ok (.aload_n 0, 1) := by decide +kernel
theorem dM_159_112 : decode prog_11_method_31_code 112 = .ok (.iload 6, 2) := by decide +kernel
theorem dM_159_114 : decode prog_11_method_31_code 114 = .ok (.iload 6, 2) := by decide +kernel
theorem dM_159_116 : decode prog_11_method_31_code 116 = .ok (.iconst 1, 1) := by decide +kernel
theorem dM_159_117 : decode prog_11_method_31_code 117 = .ok (.iadd, 1) := by decide +kernel
theorem dM_159_118 : decode prog_11_method_31_code 118 = .ok (.invokevirtual 219, 3) := by decide +kernel
theorem dM_159_121 : decode prog_11_method_31_code 121 = .ok (.invokevirtual 205, 3) := by decide +kernel
theorem dM_159_124 : decode prog_11_method_31_code 124 = .ok (.ifCond .eq 26, 3) := by decide +kernel
theorem dM_159_127 : decode prog_11_method_31_code 127 = .ok (.aload_n 0, 1) := by decide +kernel
theorem dM_159_128 : decode prog_11_method_31_code 128 = .ok (.iload 5, 2) := by decide +kernel
theorem dM_159_130 : decode prog_11_method_31_code 130 = .ok (.aload_n 0, 1) := by decide +kernel
theorem dM_159_131 : decode prog_11_method_31_code 131 = .ok (.iload 6, 2) := by decide +kernel
theorem dM_159_133 : decode prog_11_method_31_code 133 = .ok (.iload 6, 2) := by decide +kernel
theorem dM_159_135 : decode prog_11_method_31_code 135 = .ok (.iconst 2, 1) := by decide +kernel
theorem dM_159_136 : decode prog_11_method_31_code 136 = .ok (.iadd, 1) := by decide +kernel
theorem dM_159_137 : decode prog_11_method_31_code 137 = .ok (.invokevirtual 219, 3) := by decide +kernel
theorem dM_159_140 : decode prog_11_method_31_code 140 = .ok (.invokevirtual 205, 3) := by decide +kernel
theorem dM_159_143 : decode prog_11_method_31_code 143 = .ok (.ifCond .eq 7, 3) := by decide +kernel
theorem dM_159_146 : decode prog_11_method_31_code 146 = .ok (.iconst 1, 1) := by decide +kernel
theorem dM_159_147 : decode prog_11_method_31_code 147 = .ok (.goto 4, 3) := by decide +kernel
theorem dM_159_150 : decode prog_11_method_31_code 150 = .ok (.iconst 0, 1) := by decide +kernel
theorem dM_159_151 : decode prog_11_method_31_code 151 = .ok (.invokevirtual 208, 3) := by decide +kernel
theorem dM_159_154 : decode prog_11_method_31_code 154 = .ok (.return_, 1) := by decide +kernel
theorem dM_160_0 : decode prog_11_method_32_code 0 = .ok (.aload_n 0, 1) := by decide +kernel
theorem dM_160_1 : decode prog_11_method_32_code 1 = .ok (.getfield 170, 3) := by decide +kernel
theorem dM_160_4 : decode prog_11_method_32_code 4 = .ok (.istore_n 3, 1) := by decide +kernel
theorem dM_160_5 : decode prog_11_method_32_code 5 = .ok (.aload_n 0, 1) := by decide +kernel
theorem dM_160_6 : decode prog_11_method_32_code 6 = .ok (.getfield 176, 3) := by decide +kernel
theorem dM_160_9 : decode prog_11_method_32_code 9 = .ok (.istore 4, 2) := by decide +kernel
theorem dM_160_11 : decode prog_11_method_32_code 11 = .ok (.aload_n 0, 1) := by decide +kernel
theorem dM_160_12 : decode prog_11_method_32_code 12 = .ok (.dup, 1) := by decide +kernel
theorem dM_160_13 : decode prog_11_method_32_code 13 = .ok (.getfield 176, 3) := by decide +kernel
theorem dM_160_16 : decode prog_11_method_32_code 16 = .ok (.iconst 1, 1) := by decide +kernel
theorem dM_160_17 : decode prog_11_method_32_code 17 = .ok (.iadd, 1) := by decide +kernel
theorem dM_160_18 : decode prog_11_method_32_code 18 = .ok (.putfield 176, 3) := by decide +kernel
theorem dM_160_21 : decode prog_11_method_32_code 21 = .ok (.aload_n 0, 1) := by decide +kernel
theorem dM_160_22 : decode prog_11_method_32_code 22 = .ok (.aload_n 0, 1) := by decide +kernel
theorem dM_160_23 : decode prog_11_method_32_code 23 = .ok (.aload_n 0, 1) := by decide +kernel
theorem dM_160_24 : decode prog_11_method_32_code 24 = .ok (.getfield 25, 3) := by decide +kernel
theorem dM_160_27 : decode prog_11_method_32_code 27 = .ok (.iload_n 2, 1) := by decide +kernel
theorem dM_160_28 : decode prog_11_method_32_code 28 = .ok (.iaload, 1) := by decide +kernel
theorem dM_160_29 : decode prog_11_method_32_code 29 = .ok (.aload_n 0, 1) := by decide +kernel
theorem dM_160_30 : decode prog_11_method_32_code 30 = .ok (.aload_n 0, 1) := by decide +kernel
theorem dM_160_31 : decode prog_11_method_32_code 31 = .ok (.getfield 22, 3) := by decide +kernel
theorem dM_160_34 : decode prog_11_method_32_code 34 = .ok (.iload_n 2, 1) := by decide +kernel
theorem dM_160_35 : decode prog_11_method_32_code 35 = .ok (.iaload, 1) := by decide +kernel
theorem dM_160_36 : decode prog_11_method_32_code 36 = .ok (.iload 4, 2) := by decide +kernel
theorem dM_160_38 : decode prog_11_method_32_code 38 = .ok (.invokevirtual 219, 3) := by decide +kernel
theorem dM_160_41 : decode prog_11_method_32_code 41 = .ok (.invokevirtual 205, 3) := by decide +kernel
theorem dM_160_44 : decode prog_11_method_32_code 44 = .ok (.invokevirtual 208, 3) := by decide +kernel
theorem dM_160_47 : decode prog_11_method_32_code 47 = .ok (.aload_n 0, 1) := by decide +kernel
theorem dM_160_48 : decode prog_11_method_32_code 48 = .ok (.iload_n 1, 1) := by decide +kernel
theorem dM_160_49 : decode prog_11_method_32_code 49 = .ok (.invokevirtual 212, 3) := by decide +kernel
theorem dM_160_52 : decode prog_11_method_32_code 52 = .ok (.aload_n 0, 1) := by decide +kernel
theorem dM_160_53 : decode prog_11_method_32_code 53 = .ok (.getfield 176, 3) := by decide +kernel
theorem dM_160_56 : decode prog_11_method_32_code 56 = .ok (.istore 5, 2) := by decide +kernel
theorem dM_160_58 : decode prog_11_method_32_code 58 = .ok (.aload_n 0, 1) := by decide +kernel
theorem dM_160_59 : decode prog_11_method_32_code 59 = .ok (.dup, 1) := by decide +kernel
theorem dM_160_60 : decode prog_11_method_32_code 60 = .ok (.getfield 176, 3) := by decide +kernel
theorem dM_160_63 : decode prog_11_method_32_code 63 = .ok (.iconst 2, 1) := by decide +kernel
theorem dM_160_64 : decode prog_11_method_32_code 64 = .ok (.iadd, 1) := by decide +kernel
theorem dM_160_65 : decode prog_11_method_32_code 65 = .ok (.putfield 176, 3) := by decide +kernel
theorem dM_160_68 : decode prog_11_method_32_code 68 = .ok (.aload_n 0, 1) := by decide +kernel
theorem dM_160_69 : decode prog_11_method_32_code 69 = .ok (.aload_n 0, 1) := by decide +kernel
theorem dM_160_70 : decode prog_11_method_32_code 70 = .ok (.aload_n 0, 1) := by decide +kernel
theorem dM_160_71 : decode prog_11_method_32_code 71 = .ok (.bipush 77, 2) := by decide +kernel
theorem dM_160_73 : decode prog_11_method_32_code 73 = .ok (.aload_n 0, 1) := by decide +kernel
theorem dM_160_74 : decode prog_11_method_32_code 74 = .ok (.getfield 22, 3) := by decide +kernel
theorem dM_160_77 : decode prog_11_method_32_code 77 = .ok (.iload_n 2, 1) := by decide +kernel
theorem dM_160_78 : decode prog_11_method_32_code 78 = .ok (.iaload, 1) := by decide +kernel
theorem dM_160_79 : decode prog_11_method_32_code 79 = .ok (.iload 5, 2) := by decide +kernel
theorem dM_160_81 : decode prog_11_method_32_code 81 = .ok (.iconst 1, 1) := by decide +kernel
theorem dM_160_82 : decode prog_11_method_32_code 82 = .ok (.iadd, 1) := by decide +kernel
theorem dM_160_83 : decode prog_11_method_32_code 83 = .ok (.iconst 0, 1) := by decide +kernel
theorem dM_160_84 : decode prog_11_method_32_code 84 = .ok (.invokevirtual 215, 3) := by decide +kernel
theorem dM_160_87 : decode prog_11_method_32_code 87 = .ok (.iconst 0, 1) := by decide +kernel
theorem dM_160_88 : decode prog_11_method_32_code 88 = .ok (.iload_n 3, 1) := by decide +kernel
theorem dM_160_89 : decode prog_11_method_32_code 89 = .ok (.invokevirtual 182, 3) := by decide +kernel
theorem dM_160_92 : decode prog_11_method_32_code 92 = .ok (.putfield 170, 3) := by decide +kernel
theorem dM_160_95 : decode prog_11_method_32_code 95 = .ok (.aload_n 0, 1) := by decide +kernel
theorem dM_160_96 : decode prog_11_method_32_code 96 = .ok (.aload_n 0, 1) := by decide +kernel
theorem dM_160_97 : decode prog_11_method_32_code 97 = .ok (.aload_n 0, 1) := by decide +kernel
theorem dM_160_98 : decode prog_11_method_32_code 98 = .ok (.getfield 25, 3) := by decide +kernel
theorem dM_160_101 : decode prog_11_method_32_code 101 = .ok (.iload_n 2, 1) := by decide +kernel
theorem dM_160_102 : decode prog_11_method_32_code 102 = .ok (.iaload, 1) := by decide +kernel
theorem dM_160_103 : decode prog_11_method_32_code 103 = .ok (.aload_n 0, 1) := by decide +kernel
theorem dM_160_104 : decode prog_11_method_32_code 104 = .ok (.iload 5, 2) := by decide +kernel
theorem dM_160_106 : decode prog_11_method_32_code 106 = .ok (.iload 5, 2) := by decide +kernel
theorem dM_160_108 : decode prog_11_method_32_code 108 = .ok (.iconst 1, 1) := by decide +kernel
theorem dM_160_109 : decode prog_11_method_32_code 109 = .ok (.iadd, 1) := by decide +kernel
theorem dM_160_110 : decode prog_11_method_32_code 110 = .ok (.invokevirtual 219, 3) := by decide +kernel
theorem dM_160_113 : decode prog_11_method_32_code 113 = .ok (.invokevirtual 205, 3) := by decide +kernel
theorem dM_160_116 : decode prog_11_method_32_code 116 = .ok (.invokevirtual 208, 3) := by decide +kernel
theorem dM_160_119 : decode prog_11_method_32_code 119 = .ok (.return_, 1) := by decide +kernel
theorem dM_161_0 : decode prog_11_method_51_code 0 = .ok (.iload_n 1, 1) := by decide +kernel
theorem dM_161_1 : decode prog_11_method_51_code 1 = .ok (.iconst 1, 1) := by decide +kernel
theorem dM_161_2 : decode prog_11_method_51_code 2 = .ok (.bipush 100, 2) := by decide +kernel
theorem dM_161_4 : decode prog_11_method_51_code 4 = .ok (.invokestatic 242, 3) := by decide +kernel
theorem dM_161_7 : decode prog_11_method_51_code 7 = .ok (.istore_n 2, 1) := by decide +kernel
theorem dM_161_8 : decode prog_11_method_51_code 8 = .ok (.iload_n 2, 1) := by decide +kernel
theorem dM_161_9 : decode prog_11_method_51_code 9 = .ok (.ifCond .ne 20, 3) := by decide +kernel
theorem dM_161_12 : decode prog_11_method_51_code 12 = .ok (.aload_n 0, 1) := by decide +kernel
theorem dM_161_13 : decode prog_11_method_51_code 13 = .ok (.getfield 79, 3) := by decide +kernel
theorem dM_161_16 : decode prog_11_method_51_code 16 = .ok (.iconst 0, 1) := by decide +kernel
theorem dM_161_17 : decode prog_11_method_51_code 17 = .ok (.iaload, 1) := by decide +kernel
theorem dM_161_18 : decode prog_11_method_51_code 18 = .ok (.iload_n 1, 1) := by decide +kernel
theorem dM_161_19 : decode prog_11_method_51_code 19 = .ok (.iadd, 1) := by decide +kernel
theorem dM_161_20 : decode prog_11_method_51_code 20 = .ok (.sipush 300, 3) := by decide +kernel
theorem dM_161_23 : decode prog_11_method_51_code 23 = .ok (.if_icmp .le 6, 3) := by decide +kernel
theorem dM_161_26 : decode prog_11_method_51_code 26 = .ok (.bipush (-6), 2) := by decide +kernel
theorem dM_161_28 : decode prog_11_method_51_code 28 = .ok (.istore_n 2, 1) := by decide +kernel
theorem dM_161_29 : decode prog_11_method_51_code 29 = .ok (.iload_n 2, 1) := by decide +kernel
theorem dM_161_30 : decode prog_11_method_51_code 30 = .ok (.ifCond .eq 9, 3) := by decide +kernel
theorem dM_161_33 : decode prog_11_method_51_code 33 = .ok (.aload_n 0, 1) := by decide +kernel
theorem dM_161_34 : decode prog_11_method_51_code 34 = .ok (.iload_n 2, 1) := by decide +kernel
theorem dM_161_35 : decode prog_11_method_51_code 35 = .ok (.invokevirtual 247, 3) := by decide +kernel
theorem dM_161_38 : decode prog_11_method_51_code 38 = .ok (.ireturn, 1) := by decide +kernel
theorem dM_161_39 : decode prog_11_method_51_code 39 = .ok (.aload_n 0, 1) := by decide +kernel
theorem dM_161_40 : decode prog_11_method_51_code 40 = .ok (.iload_n 1, 1) := by decide +kernel
theorem dM_161_41 : decode prog_11_method_51_code 41 = .ok (.invokevirtual 310, 3) := by decide +kernel
theorem dM_161_44 : decode prog_11_method_51_code 44 = .ok (.aload_n 0, 1) := by decide +kernel
theorem dM_161_45 : decode prog_11_method_51_code 45 = .ok (.getfield 76, 3) := by decide +kernel
theorem dM_161_48 : decode prog_11_method_51_code 48 = .ok (.iconst 0, 1) := by decide +kernel
theorem dM_161_49 : decode prog_11_method_51_code 49 = .ok (.iaload, 1) := by decide +kernel
theorem dM_161_50 : decode prog_11_method_51_code 50 = .ok (.ireturn, 1) := by decide +kernel
theorem dM_162_0 : decode prog_11_method_60_code 0 = .ok (.aload_n 0, 1) := by decide +kernel
theorem dM_162_1 : decode prog_11_method_60_code 1 = .ok (.getfield 76, 3) := by decide +kernel
theorem dM_162_4 : decode prog_11_method_60_code 4 = .ok (.iconst 0, 1) := by decide +kernel
theorem dM_162_5 : decode prog_11_method_60_code 5 = .ok (.iaload, 1) := by decide +kernel
theorem dM_162_6 : decode prog_11_method_60_code 6 = .ok (.ireturn, 1) := by decide +kernel
theorem dM_163_0 : decode prog_11_method_61_code 0 = .ok (.aload_n 0, 1) := by decide +kernel
theorem dM_163_1 : decode prog_11_method_61_code 1 = .ok (.iload_n 1, 1) := by decide +kernel
theorem dM_163_2 : decode prog_11_method_61_code 2 = .ok (.invokevirtual 334, 3) := by decide +kernel
theorem dM_163_5 : decode prog_11_method_61_code 5 = .ok (.ifCond .eq 10, 3) := by decide +kernel
theorem dM_163_8 : decode prog_11_method_61_code 8 = .ok (.iload_n 2, 1) := by decide +kernel
theorem dM_163_9 : decode prog_11_method_61_code 9 = .ok (.invokestatic 337, 3) := by decide +kernel
theorem dM_163_12 : decode prog_11_method_61_code 12 = .ok (.ifCond .ne 9, 3) := by decide +kernel
theorem dM_163_15 : decode prog_11_method_61_code 15 = .ok (.aload_n 0, 1) := by decide +kernel
theorem dM_163_16 : decode prog_11_method_61_code 16 = .ok (.iconst (-1), 1) := by decide +kernel
theorem dM_163_17 : decode prog_11_method_61_code 17 = .ok (.invokevirtual 247, 3) := by decide +kernel
theorem dM_163_20 : decode prog_11_method_61_code 20 = .ok (.ireturn, 1) := by decide +kernel
theorem dM_163_21 : decode prog_11_method_61_code 21 = .ok (.aload_n 0, 1) := by decide +kernel
theorem dM_163_22 : decode prog_11_method_61_code 22 = .ok (.iload_n 1, 1) := by decide +kernel
theorem dM_163_23 : decode prog_11_method_61_code 23 = .ok (.iload_n 2, 1) := by decide +kernel
theorem dM_163_24 : decode prog_11_method_61_code 24 = .ok (.invokevirtual 340, 3) := by decide +kernel
theorem dM_163_27 : decode prog_11_method_61_code 27 = .ok (.aload_n 0, 1) := by decide +kernel
theorem dM_163_28 : decode prog_11_method_61_code 28 = .ok (.getfield 313, 3) := by decide +kernel
theorem dM_163_31 : decode prog_11_method_61_code 31 = .ok (.ireturn, 1) := by decide +kernel
theorem dM_164_0 : decode prog_11_method_58_code 0 = .ok (.iload_n 1, 1) := by decide +kernel
theorem dM_164_1 : decode prog_11_method_58_code 1 = .ok (.iconst 0, 1) := by decide +kernel
theorem dM_164_2 : decode prog_11_method_58_code 2 = .ok (.aload_n 0, 1) := by decide +kernel
theorem dM_164_3 : decode prog_11_method_58_code 3 = .ok (.getfield 76, 3) := by decide +kernel
theorem dM_164_6 : decode prog_11_method_58_code 6 = .ok (.iconst 0, 1) := by decide +kernel
theorem dM_164_7 : decode prog_11_method_58_code 7 = .ok (.iaload, 1) := by decide +kernel
theorem dM_164_8 : decode prog_11_method_58_code 8 = .ok (.iconst 1, 1) := by decide +kernel
theorem dM_164_9 : decode prog_11_method_58_code 9 = .ok (.isub, 1) := by decide +kernel
theorem dM_164_10 : decode prog_11_method_58_code 10 = .ok (.invokestatic 250, 3) := by decide +kernel
theorem dM_164_13 : decode prog_11_method_58_code 13 = .ok (.ireturn, 1) := by decide +kernel
theorem dM_165_0 : decode prog_11_method_59_code 0 = .ok (.iload_n 0, 1) := by decide +kernel
theorem dM_165_1 : decode prog_11_method_59_code 1 = .ok (.iconst 0, 1) := by decide +kernel
theorem dM_165_2 : decode prog_11_method_59_code 2 = .ok (.iconst 5, 1) := by decide +kernel
theorem dM_165_3 : decode prog_11_method_59_code 3 = .ok (.invokestatic 250, 3) := by decide +kernel
theorem dM_165_6 : decode prog_11_method_59_code 6 = .ok (.ireturn, 1) := by decide +kernel
theorem dM_166_0 : decode prog_11_method_57_code 0 = .ok (.aload_n 0, 1) := by decide +kernel
theorem dM_166_1 : decode prog_11_method_57_code 1 = .ok (.iload_n 1, 1) := by decide +kernel
theorem dM_166_2 : decode prog_11_method_57_code 2 = .ok (.invokevirtual 328, 3) := by decide +kernel
theorem dM_166_5 : decode prog_11_method_57_code 5 = .ok (.aload_n 0, 1) := by decide +kernel
theorem dM_166_6 : decode prog_11_method_57_code 6 = .ok (.iload_n 2, 1) := by decide +kernel
theorem dM_166_7 : decode prog_11_method_57_code 7 = .ok (.invokevirtual 331, 3) := by decide +kernel
theorem dM_166_10 : decode prog_11_method_57_code 10 = .ok (.return_, 1) := by decide +kernel
theorem dM_167_0 : decode prog_11_method_56_code 0 = .ok (.aload_n 0, 1) := by decide +kernel
theorem dM_167_1 : decode prog_11_method_56_code 1 = .ok (.invokevirtual 167, 3) := by decide +kernel
theorem dM_167_4 : decode prog_11_method_56_code 4 = .ok (.bipush 30, 2) := by decide +kernel
theorem dM_167_6 : decode prog_11_method_56_code 6 = .ok (.aload_n 0, 1) := by decide +kernel
theorem dM_167_7 : decode prog_11_method_56_code 7 = .ok (.getfield 164, 3) := by decide +kernel
theorem dM_167_10 : decode prog_11_method_56_code 10 = .ok (.imul, 1) := by decide +kernel
theorem dM_167_11 : decode prog_11_method_56_code 11 = .ok (.iload_n 1, 1) := by decide +kernel
theorem dM_167_12 : decode prog_11_method_56_code 12 = .ok (.iadd, 1) := by decide +kernel
theorem dM_167_13 : decode prog_11_method_56_code 13 = .ok (.istore_n 2, 1) := by decide +kernel
theorem dM_167_14 : decode prog_11_method_56_code 14 = .ok (.iconst 0, 1) := by decide +kernel
theorem dM_167_15 : decode prog_11_method_56_code 15 = .ok (.istore_n 3, 1) := by decide +kernel
theorem dM_167_16 : decode prog_11_method_56_code 16 = .ok (.iload_n 3, 1) := by decide +kernel
theorem dM_167_17 : decode prog_11_method_56_code 17 = .ok (.bipush 64, 2) := by decide +kernel
theorem dM_167_19 : decode prog_11_method_56_code 19 = .ok (.if_icmp .ge 26, 3) := by decide +kernel
theorem dM_167_22 : decode prog_11_method_56_code 22 = .ok (.aload_n 0, 1) := by decide +kernel
theorem dM_167_23 : decode prog_11_method_56_code 23 = .ok (.getfield 40, 3) := by decide +kernel
theorem dM_167_26 : decode prog_11_method_56_code 26 = .ok (.iload_n 3, 1) := by decide +kernel
theorem dM_167_27 : decode prog_11_method_56_code 27 = .ok (.aload_n 0, 1) := by decide +kernel
theorem dM_167_28 : decode prog_11_method_56_code 28 = .ok (.getfield 61, 3) := by decide +kernel
theorem dM_167_31 : decode prog_11_method_56_code 31 = .ok (.bipush 64, 2) := by decide +kernel
theorem dM_167_33 : decode prog_11_method_56_code 33 = .ok (.iload_n 2, 1) := by decide +kernel
theorem dM_167_34 : decode prog_11_method_56_code 34 = .ok (.imul, 1) := by decide +kernel
theorem dM_167_35 : decode prog_11_method_56_code 35 = .ok (.iload_n 3, 1) := by decide +kernel
theorem dM_167_36 : decode prog_11_method_56_code 36 = .ok (.iadd, 1) := by decide +kernel
theorem dM_167_37 : decode prog_11_method_56_code 37 = .ok (.iaload, 1) := by decide +kernel
theorem dM_167_38 : decode prog_11_method_56_code 38 = .ok (.iastore, 1) := by decide +kernel
theorem dM_167_39 : decode prog_11_method_56_code 39 = .ok (.iinc 3 1, 3) := by decide +kernel
theorem dM_167_42 : decode prog_11_method_56_code 42 = .ok (.goto (-26), 3) := by decide +kernel
theorem dM_167_45 : decode prog_11_method_56_code 45 = .ok (.return_, 1) := by decide +kernel
theorem dM_168_0 : decode prog_11_method_55_code 0 = .ok (.aload_n 0, 1) := by decide +kernel
theorem dM_168_1 : decode prog_11_method_55_code 1 = .ok (.iconst 0, 1) := by decide +kernel
theorem dM_168_2 : decode prog_11_method_55_code 2 = .ok (.putfield 313, 3) := by decide +kernel
theorem dM_168_5 : decode prog_11_method_55_code 5 = .ok (.aload_n 0, 1) := by decide +kernel
theorem dM_168_6 : decode prog_11_method_55_code 6 = .ok (.iconst 0, 1) := by decide +kernel
theorem dM_168_7 : decode prog_11_method_55_code 7 = .ok (.putfield 316, 3) := by decide +kernel
theorem dM_168_10 : decode prog_11_method_55_code 10 = .ok (.aload_n 0, 1) := by decide +kernel
theorem dM_168_11 : decode prog_11_method_55_code 11 = .ok (.iconst 0, 1) := by decide +kernel
theorem dM_168_12 : decode prog_11_method_55_code 12 = .ok (.putfield 141, 3) := by decide +kernel
theorem dM_168_15 : decode prog_11_method_55_code 15 = .ok (.aload_n 0, 1) := by decide +kernel
theorem dM_168_16 : decode prog_11_method_55_code 16 = .ok (.iconst 2, 1) := by decide +kernel
theorem dM_168_17 : decode prog_11_method_55_code 17 = .ok (.iload_n 1, 1) := by decide +kernel
theorem dM_168_18 : decode prog_11_method_55_code 18 = .ok (.imul, 1) := by decide +kernel
theorem dM_168_19 : decode prog_11_method_55_code 19 = .ok (.invokevirtual 144, 3) := by decide +kernel
theorem dM_168_22 : decode prog_11_method_55_code 22 = .ok (.aload_n 0, 1) := by decide +kernel
theorem dM_168_23 : decode prog_11_method_55_code 23 = .ok (.getfield 141, 3) := by decide +kernel
theorem dM_168_26 : decode prog_11_method_55_code 26 = .ok (.ifCond .le 39, 3) := by decide +kernel
theorem dM_168_29 : decode prog_11_method_55_code 29 = .ok (.aload_n 0, 1) := by decide +kernel
theorem dM_168_30 : decode prog_11_method_55_code 30 = .ok (.getfield 313, 3) := by decide +kernel
theorem dM_168_33 : decode prog_11_method_55_code 33 = .ok (.sipush 200, 3) := by decide +kernel
theorem dM_168_36 : decode prog_11_method_55_code 36 = .ok (.if_icmp .ge 29, 3) := by decide +kernel
theorem dM_168_39 : decode prog_11_method_55_code 39 = .ok (.aload_n 0, 1) := by decide +kernel
theorem dM_168_40 : decode prog_11_method_55_code 40 = .ok (.invokevirtual 278, 3) := by decide +kernel
theorem dM_168_43 : decode prog_11_method_55_code 43 = .ok (.istore_n 2, 1) := by decide +kernel
theorem dM_168_44 : decode prog_11_method_55_code 44 = .ok (.iload_n 2, 1) := by decide +kernel
theorem dM_168_45 : decode prog_11_method_55_code 45 = .ok (.ifCond .ge 12, 3) := by decide +kernel
theorem dM_168_48 : decode prog_11_method_55_code 48 = .ok (.aload_n 0, 1) := by decide +kernel
theorem dM_168_49 : decode prog_11_method_55_code 49 = .ok (.iload_n 2, 1) := by decide +kernel
theorem dM_168_50 : decode prog_11_method_55_code 50 = .ok (.ineg, 1) := by decide +kernel
theorem dM_168_51 : decode prog_11_method_55_code 51 = .ok (.invokevirtual 319, 3) := by decide +kernel
theorem dM_168_54 : decode prog_11_method_55_code 54 = .ok (.goto 8, 3) := by decide +kernel
theorem dM_168_57 : decode prog_11_method_55_code 57 = .ok (.aload_n 0, 1) := by decide +kernel
theorem dM_168_58 : decode prog_11_method_55_code 58 = .ok (.iload_n 2, 1) := by decide +kernel
theorem dM_168_59 : decode prog_11_method_55_code 59 = .ok (.invokevirtual 325, 3) := by decide +kernel
theorem dM_168_62 : decode prog_11_method_55_code 62 = .ok (.goto (-40), 3) := by decide +kernel
theorem dM_168_65 : decode prog_11_method_55_code 65 = .ok (.aload_n 0, 1) := by decide +kernel
theorem dM_168_66 : decode prog_11_method_55_code 66 = .ok (.getfield 313, 3) := by decide +kernel
theorem dM_168_69 : decode prog_11_method_55_code 69 = .ok (.sipush 200, 3) := by decide +kernel
theorem dM_168_72 : decode prog_11_method_55_code 72 = .ok (.if_icmp .le 10, 3) := by decide +kernel
theorem dM_168_75 : decode prog_11_method_55_code 75 = .ok (.aload_n 0, 1) := by decide +kernel
theorem dM_168_76 : decode prog_11_method_55_code 76 = .ok (.sipush 200, 3) := by decide +kernel
theorem dM_168_79 : decode prog_11_method_55_code 79 = .ok (.putfield 313, 3) := by decide +kernel
theorem dM_168_82 : decode prog_11_method_55_code 82 = .ok (.return_, 1) := by decide +kernel
theorem dM_169_0 : decode prog_11_method_52_code 0 = .ok (.aload_n 0, 1) := by decide +kernel
theorem dM_169_1 : decode prog_11_method_52_code 1 = .ok (.getfield 313, 3) := by decide +kernel
theorem dM_169_4 : decode prog_11_method_52_code 4 = .ok (.sipush 200, 3) := by decide +kernel
theorem dM_169_7 : decode prog_11_method_52_code 7 = .ok (.if_icmp .ge 13, 3) := by decide +kernel
theorem dM_169_10 : decode prog_11_method_52_code 10 = .ok (.aload_n 0, 1) := by decide +kernel
theorem dM_169_11 : decode prog_11_method_52_code 11 = .ok (.getfield 100, 3) := by decide +kernel
theorem dM_169_14 : decode prog_11_method_52_code 14 = .ok (.aload_n 0, 1) := by decide +kernel
theorem dM_169_15 : decode prog_11_method_52_code 15 = .ok (.getfield 313, 3) := by decide +kernel
theorem dM_169_18 : decode prog_11_method_52_code 18 = .ok (.iload_n 1, 1) := by decide +kernel
theorem dM_169_19 : decode prog_11_method_52_code 19 = .ok (.iastore, 1) := by decide +kernel
theorem dM_169_20 : decode prog_11_method_52_code 20 = .ok (.aload_n 0, 1) := by decide +kernel
theorem dM_169_21 : decode prog_11_method_52_code 21 = .ok (.dup, 1) := by decide +kernel
theorem dM_169_22 : decode prog_11_method_52_code 22 = .ok (.getfield 313, 3) := by decide +kernel
theorem dM_169_25 : decode prog_11_method_52_code 25 = .ok (.iconst 1, 1) := by decide +kernel
theorem dM_169_26 : decode prog_11_method_52_code 26 = .ok (.iadd, 1) := by decide +kernel
theorem dM_169_27 : decode prog_11_method_52_code 27 = .ok (.putfield 313, 3) := by decide +kernel
theorem dM_169_30 : decode prog_11_method_52_code 30 = .ok (.return_, 1) := by decide +kernel
def g_146_2  (y2 : Int32) (sg : rSg) (P : Option rv → rSg → Prop) : Prop := GoS rSkel 1 9 3 (some .int) false prog_11_method_12_code 2 [(0, .inr (.inr (some 725))), (2, .inl y2)] [] sg P
set_option maxRecDepth 100000 in
theorem w_146_2 (sg : rSg)  (y2 : Int32) {P : Option rv → rSg → Prop} (h :
    EvS rSkel 1 147 [.inl y2] sg (fun v1 t2 => ∃ n4, v1 = some (.inl n4) ∧
      (n4 = 0 → 
        P (some (.inl y2)) t2) ∧
      (¬ (n4 = 0) → 
        EvS rSkel 1 148 [.inl y2] t2 (fun v6 t7 => ∃ n9, v6 = some (.inl n9) ∧
          (rIn n9 128 = true ∧
          ((t7 736 n9.toNatClampNeg) < 0 → 
            P (some (.inl y2)) t7) ∧
          (¬ ((t7 736 n9.toNatClampNeg) < 0) → 
            EvS rSkel 1 148 [.inl y2] t7 (fun v11 t12 => ∃ n14, v11 = some (.inl n14) ∧
              (rIn n14 128 = true ∧
              g_146_2 (t12 736 n14.toNatClampNeg) t12 P)))))))) : g_146_2 y2 sg P := by
  show GoS rSkel 1 9 3 (some .int) false prog_11_method_12_code 2 [(0, .inr (.inr (some 725))), (2, .inl y2)] [] sg P
  refine gs0 3 [(0, .inr (.inr (some 725))), (2, .inl y2)] [.inl y2] dM_146_2 (fun _ => rfl) (Or.inr rfl) ?_
  refine gsCallS (y := 147) (as := [.inl y2]) (r := []) dM_146_3 rfl (Or.inl rfl) rfl rfl (Nat.le_of_ble_eq_true rfl) (EvS.up h (Nat.le_of_ble_eq_true rfl)) (fun v1 t2 hv3 => ?_)
  obtain ⟨n4, rfl, hn⟩ := hv3
  clear h
  show GoS _ _ _ _ _ _ _ _ [(0, .inr (.inr (some 725))), (2, .inl y2)] [.inl n4] t2 _
  refine gsIf (t := 34) (C := n4 = 0) (r := []) dM_146_6 (fun _ => rfl) (Or.inr rfl) (rTest_iff .eq n4 0) (fun c5 => ?_) (fun c5 => ?_)
  · replace hn := hn.1 c5
    refine gs0 35 [(0, .inr (.inr (some 725))), (2, .inl y2)] [.inl y2] dM_146_34 (fun _ => rfl) (Or.inr rfl) ?_
    refine gsRet (r := some (.inl y2)) dM_146_35 (fun _ => rfl) (Or.inr rfl) ?_
    exact hn
  · replace hn := hn.2 c5
    refine gs0 10 [(0, .inr (.inr (some 725))), (2, .inl y2)] [.inr (.inr (some 725))] dM_146_9 (fun _ => rfl) (Or.inr rfl) ?_
    refine gsGetR (some 736) dM_146_10 sk_725 rfl rfl ?_
    refine gs0 14 [(0, .inr (.inr (some 725))), (2, .inl y2)] [.inl y2, .inr (.inr (some 736))] dM_146_13 (fun _ => rfl) (Or.inr rfl) ?_
    refine gsCallS (y := 148) (as := [.inl y2]) (r := [.inr (.inr (some 736))]) dM_146_14 rfl (Or.inl rfl) rfl rfl (Nat.le_of_ble_eq_true rfl) (EvS.up hn (Nat.le_of_ble_eq_true rfl)) (fun v6 t7 hv8 => ?_)
    obtain ⟨n9, rfl, hnn⟩ := hv8
    clear hn
    show GoS _ _ _ _ _ _ _ _ [(0, .inr (.inr (some 725))), (2, .inl y2)] [.inl n9, .inr (.inr (some 736))] t7 _
    refine gsIaldN n9.toNatClampNeg (t7 736 n9.toNatClampNeg) dM_146_17 sk_736 hnn.1 rfl rfl ?_
    replace hnn := hnn.2
    refine gsIf (t := 34) (C := (t7 736 n9.toNatClampNeg) < 0) (r := []) dM_146_18 (fun _ => rfl) (Or.inr rfl) (rTest_iff .lt (t7 736 n9.toNatClampNeg) 0) (fun c10 => ?_) (fun c10 => ?_)
    · replace hnn := hnn.1 c10
      refine gs0 35 [(0, .inr (.inr (some 725))), (2, .inl y2)] [.inl y2] dM_146_34 (fun _ => rfl) (Or.inr rfl) ?_
      refine gsRet (r := some (.inl y2)) dM_146_35 (fun _ => rfl) (Or.inr rfl) ?_
      exact hnn
    · replace hnn := hnn.2 c10
      refine gs0 22 [(0, .inr (.inr (some 725))), (2, .inl y2)] [.inr (.inr (some 725))] dM_146_21 (fun _ => rfl) (Or.inr rfl) ?_
      refine gsGetR (some 736) dM_146_22 sk_725 rfl rfl ?_
      refine gs0 26 [(0, .inr (.inr (some 725))), (2, .inl y2)] [.inl y2, .inr (.inr (some 736))] dM_146_25 (fun _ => rfl) (Or.inr rfl) ?_
      refine gsCallS (y := 148) (as := [.inl y2]) (r := [.inr (.inr (some 736))]) dM_146_26 rfl (Or.inl rfl) rfl rfl (Nat.le_of_ble_eq_true rfl) (EvS.up hnn (Nat.le_of_ble_eq_true rfl)) (fun v11 t12 hv13 => ?_)
      obtain ⟨n14, rfl, hnnn⟩ := hv13
      clear hnn
      show GoS _ _ _ _ _ _ _ _ [(0, .inr (.inr (some 725))), (2, .inl y2)] [.inl n14, .inr (.inr (some 736))] t12 _
      refine gsIaldN n14.toNatClampNeg (t12 736 n14.toNatClampNeg) dM_146_29 sk_736 hnnn.1 rfl rfl ?_
      replace hnnn := hnnn.2
      refine gs0 31 [(2, .inl (t12 736 n14.toNatClampNeg)), (0, .inr (.inr (some 725)))] [] dM_146_30 (fun _ => rfl) (Or.inr rfl) ?_
      refine gs0 2 [(2, .inl (t12 736 n14.toNatClampNeg)), (0, .inr (.inr (some 725)))] [] dM_146_31 (fun _ => rfl) (Or.inr rfl) ?_
      exact GoS.sub (Lnd_keys (ks := [0, 2]) rfl (by decide)) (Lsub_cons rfl (Lsub_cons rfl Lsub_nil)) hnnn
set_option maxRecDepth 100000 in
/-- GoalsInAQueueModel.walk -/
theorem w_146 (sg : rSg) (x1 : Int32) {P : Option rv → rSg → Prop} (h :
    g_146_2 x1 sg P) : EvS rSkel 2 146 [.inr (.inr (some 725)), .inl x1] sg P := by
  refine EvS.of (ini := false) rfl ⟨rfl, Nat.le_of_ble_eq_true rfl⟩ rfl ?_
  show GoS rSkel 1 9 3 (some .int) false prog_11_method_12_code 0 [(0, .inr (.inr (some 725))), (1, .inl x1)] [] sg _
  refine gs0 1 [(0, .inr (.inr (some 725))), (1, .inl x1)] [.inl x1] dM_146_0 (fun _ => rfl) (Or.inr rfl) ?_
  refine gs0 2 [(2, .inl x1), (0, .inr (.inr (some 725))), (1, .inl x1)] [] dM_146_1 (fun _ => rfl) (Or.inr rfl) ?_
  exact GoS.sub (Lnd_keys (ks := [0, 2]) rfl (by decide)) (Lsub_cons rfl (Lsub_cons rfl Lsub_nil)) h
set_option maxRecDepth 100000 in
/-- GoalsInAQueueModel.isOpen -/
theorem w_147 (sg : rSg) (x0 : Int32) {P : Option rv → rSg → Prop} (h :
    (64 ≤ (x0 / 2) → 
      P (some (.inl 0)) sg) ∧
    (¬ (64 ≤ (x0 / 2)) → 
      P (some (.inl 1)) sg)) : EvS rSkel 1 147 [.inl x0] sg P := by
  refine EvS.of (ini := false) rfl ⟨rfl, Nat.le_of_ble_eq_true rfl⟩ rfl ?_
  show GoS rSkel 0 9 1 (some .boolean) false prog_11_method_10_code 0 [(0, .inl x0)] [] sg _
  refine gs0 1 [(0, .inl x0)] [.inl x0] dM_147_0 (fun _ => rfl) (Or.inr rfl) ?_
  refine gs0 2 [(0, .inl x0)] [.inl 2, .inl x0] dM_147_1 (fun _ => rfl) (Or.inr rfl) ?_
  refine gs0 3 [(0, .inl x0)] [.inl (x0 / 2)] dM_147_2 (fun _ => rfl) (Or.inr rfl) ?_
  refine gs0 5 [(0, .inl x0)] [.inl 64, .inl (x0 / 2)] dM_147_3 (fun _ => rfl) (Or.inr rfl) ?_
  refine gsIf (t := 12) (C := 64 ≤ (x0 / 2)) (r := []) dM_147_5 (fun _ => rfl) (Or.inr rfl) (rTest_iff .ge (x0 / 2) 64) (fun c1 => ?_) (fun c1 => ?_)
  · replace h := h.1 c1
    refine gs0 13 [(0, .inl x0)] [.inl 0] dM_147_12 (fun _ => rfl) (Or.inr rfl) ?_
    refine gsRet (r := some (.inl 0)) dM_147_13 (fun _ => rfl) (Or.inr rfl) ?_
    exact h
  · replace h := h.2 c1
    refine gs0 9 [(0, .inl x0)] [.inl 1] dM_147_8 (fun _ => rfl) (Or.inr rfl) ?_
    refine gs0 13 [(0, .inl x0)] [.inl 1] dM_147_9 (fun _ => rfl) (Or.inr rfl) ?_
    refine gsRet (r := some (.inl 1)) dM_147_13 (fun _ => rfl) (Or.inr rfl) ?_
    exact h
set_option maxRecDepth 100000 in
/-- GoalsInAQueueModel.openOf -/
theorem w_148 (sg : rSg) (x0 : Int32) {P : Option rv → rSg → Prop} (h :
    P (some (.inl ((x0 / 2) + (64 * (irem x0 2))))) sg) : EvS rSkel 1 148 [.inl x0] sg P := by
  refine EvS.of (ini := false) rfl ⟨rfl, Nat.le_of_ble_eq_true rfl⟩ rfl ?_
  show GoS rSkel 0 9 1 (some .int) false prog_11_method_11_code 0 [(0, .inl x0)] [] sg _
  refine gs0 1 [(0, .inl x0)] [.inl x0] dM_148_0 (fun _ => rfl) (Or.inr rfl) ?_
  refine gs0 2 [(0, .inl x0)] [.inl 2, .inl x0] dM_148_1 (fun _ => rfl) (Or.inr rfl) ?_
  refine gs0 3 [(0, .inl x0)] [.inl (x0 / 2)] dM_148_2 (fun _ => rfl) (Or.inr rfl) ?_
  refine gs0 5 [(0, .inl x0)] [.inl 64, .inl (x0 / 2)] dM_148_3 (fun _ => rfl) (Or.inr rfl) ?_
  refine gs0 6 [(0, .inl x0)] [.inl x0, .inl 64, .inl (x0 / 2)] dM_148_5 (fun _ => rfl) (Or.inr rfl) ?_
  refine gs0 7 [(0, .inl x0)] [.inl 2, .inl x0, .inl 64, .inl (x0 / 2)] dM_148_6 (fun _ => rfl) (Or.inr rfl) ?_
  refine gs0 8 [(0, .inl x0)] [.inl (irem x0 2), .inl 64, .inl (x0 / 2)] dM_148_7 (fun _ => rfl) (Or.inr rfl) ?_
  refine gs0 9 [(0, .inl x0)] [.inl (64 * (irem x0 2)), .inl (x0 / 2)] dM_148_8 (fun _ => rfl) (Or.inr rfl) ?_
  refine gs0 10 [(0, .inl x0)] [.inl ((x0 / 2) + (64 * (irem x0 2)))] dM_148_9 (fun _ => rfl) (Or.inr rfl) ?_
  refine gsRet (r := some (.inl ((x0 / 2) + (64 * (irem x0 2))))) dM_148_10 (fun _ => rfl) (Or.inr rfl) ?_
  exact h
set_option maxRecDepth 100000 in
/-- GoalsInAQueueModel.meets -/
theorem w_149 (sg : rSg) (x1 : Int32) (x2 : Int32) {P : Option rv → rSg → Prop} (h :
    EvS rSkel 1 147 [.inl x1] sg (fun v1 t2 => ∃ n4, v1 = some (.inl n4) ∧
      (n4 = 0 → 
        EvS rSkel 1 147 [.inl x2] t2 (fun v6 t7 => ∃ n9, v6 = some (.inl n9) ∧
          (n9 = 0 → 
            ((x1 / 2) < 75 → 
              (¬ (x1 / 2) = (x2 / 2) → 
                P (some (.inl 0)) t7) ∧
              (¬ (¬ (x1 / 2) = (x2 / 2)) → 
                P (some (.inl 1)) t7)) ∧
            (¬ ((x1 / 2) < 75) → 
              (75 ≤ (x2 / 2) → 
                (rIn (x1 / 2) 6000 = true ∧
                EvS rSkel 1 118 [.inr (.inr (some 725)), .inl ((2 * (t7 727 ((x1 / 2).toNatClampNeg))) + (irem x1 2))] t7 (fun v14 t15 => v14 = none ∧
                  (rIn (x2 / 2) 6000 = true ∧
                  EvS rSkel 1 118 [.inr (.inr (some 725)), .inl ((2 * (t15 727 ((x2 / 2).toNatClampNeg))) + (irem x2 2))] t15 (fun v17 t18 => v17 = none ∧
                    (rIn (x1 / 2) 6000 = true ∧
                    EvS rSkel 1 118 [.inr (.inr (some 725)), .inl ((2 * (t18 728 ((x1 / 2).toNatClampNeg))) + (irem x1 2))] t18 (fun v20 t21 => v20 = none ∧
                      (rIn (x2 / 2) 6000 = true ∧
                      EvS rSkel 1 118 [.inr (.inr (some 725)), .inl ((2 * (t21 728 ((x2 / 2).toNatClampNeg))) + (irem x2 2))] t21 (fun v23 t24 => v23 = none ∧
                        P (some (.inl 1)) t24))))))))) ∧
              (¬ (75 ≤ (x2 / 2)) → 
                (¬ (x1 / 2) = (x2 / 2) → 
                  P (some (.inl 0)) t7) ∧
                (¬ (¬ (x1 / 2) = (x2 / 2)) → 
                  P (some (.inl 1)) t7)))) ∧
          (¬ (n9 = 0) → 
            EvS rSkel 1 148 [.inl x2] t7 (fun v27 t28 => ∃ n30, v27 = some (.inl n30) ∧
              EvS rSkel 4 150 [.inr (.inr (some 725)), .inl n30, .inl x1] t28 (fun v31 t32 => ∃ n34, v31 = some (.inl n34) ∧
                (rBool n34 = true ∧
                P (some (.inl n34)) t32)))))) ∧
      (¬ (n4 = 0) → 
        EvS rSkel 1 148 [.inl x1] t2 (fun v35 t36 => ∃ n38, v35 = some (.inl n38) ∧
          EvS rSkel 4 150 [.inr (.inr (some 725)), .inl n38, .inl x2] t36 (fun v39 t40 => ∃ n42, v39 = some (.inl n42) ∧
            (rBool n42 = true ∧
            P (some (.inl n42)) t40)))))) : EvS rSkel 5 149 [.inr (.inr (some 725)), .inl x1, .inl x2] sg P := by
  refine EvS.of (ini := false) rfl ⟨rfl, Nat.le_of_ble_eq_true rfl⟩ rfl ?_
  show GoS rSkel 4 9 3 (some .boolean) false prog_11_method_18_code 0 [(0, .inr (.inr (some 725))), (1, .inl x1), (2, .inl x2)] [] sg _
  refine gs0 1 [(0, .inr (.inr (some 725))), (1, .inl x1), (2, .inl x2)] [.inl x1] dM_149_0 (fun _ => rfl) (Or.inr rfl) ?_
  refine gsCallS (y := 147) (as := [.inl x1]) (r := []) dM_149_1 rfl (Or.inl rfl) rfl rfl (Nat.le_of_ble_eq_true rfl) (EvS.up h (Nat.le_of_ble_eq_true rfl)) (fun v1 t2 hv3 => ?_)
  obtain ⟨n4, rfl, hn⟩ := hv3
  clear h
  show GoS _ _ _ _ _ _ _ _ [(0, .inr (.inr (some 725))), (1, .inl x1), (2, .inl x2)] [.inl n4] t2 _
  refine gsIf (t := 17) (C := n4 = 0) (r := []) dM_149_4 (fun _ => rfl) (Or.inr rfl) (rTest_iff .eq n4 0) (fun c5 => ?_) (fun c5 => ?_)
  · replace hn := hn.1 c5
    refine gs0 18 [(0, .inr (.inr (some 725))), (1, .inl x1), (2, .inl x2)] [.inl x2] dM_149_17 (fun _ => rfl) (Or.inr rfl) ?_
    refine gsCallS (y := 147) (as := [.inl x2]) (r := []) dM_149_18 rfl (Or.inl rfl) rfl rfl (Nat.le_of_ble_eq_true rfl) (EvS.up hn (Nat.le_of_ble_eq_true rfl)) (fun v6 t7 hv8 => ?_)
    obtain ⟨n9, rfl, hnn⟩ := hv8
    clear hn
    show GoS _ _ _ _ _ _ _ _ [(0, .inr (.inr (some 725))), (1, .inl x1), (2, .inl x2)] [.inl n9] t7 _
    refine gsIf (t := 34) (C := n9 = 0) (r := []) dM_149_21 (fun _ => rfl) (Or.inr rfl) (rTest_iff .eq n9 0) (fun c10 => ?_) (fun c10 => ?_)
    · replace hnn := hnn.1 c10
      refine gs0 35 [(0, .inr (.inr (some 725))), (1, .inl x1), (2, .inl x2)] [.inl x1] dM_149_34 (fun _ => rfl) (Or.inr rfl) ?_
      refine gs0 36 [(0, .inr (.inr (some 725))), (1, .inl x1), (2, .inl x2)] [.inl 2, .inl x1] dM_149_35 (fun _ => rfl) (Or.inr rfl) ?_
      refine gs0 37 [(0, .inr (.inr (some 725))), (1, .inl x1), (2, .inl x2)] [.inl (x1 / 2)] dM_149_36 (fun _ => rfl) (Or.inr rfl) ?_
      refine gs0 39 [(0, .inr (.inr (some 725))), (1, .inl x1), (2, .inl x2)] [.inl 75, .inl (x1 / 2)] dM_149_37 (fun _ => rfl) (Or.inr rfl) ?_
      refine gsIf (t := 50) (C := (x1 / 2) < 75) (r := []) dM_149_39 (fun _ => rfl) (Or.inr rfl) (rTest_iff .lt (x1 / 2) 75) (fun c11 => ?_) (fun c11 => ?_)
      · replace hnn := hnn.1 c11
        refine gs0 51 [(0, .inr (.inr (some 725))), (1, .inl x1), (2, .inl x2)] [.inl x1] dM_149_50 (fun _ => rfl) (Or.inr rfl) ?_
        refine gs0 52 [(0, .inr (.inr (some 725))), (1, .inl x1), (2, .inl x2)] [.inl 2, .inl x1] dM_149_51 (fun _ => rfl) (Or.inr rfl) ?_
        refine gs0 53 [(0, .inr (.inr (some 725))), (1, .inl x1), (2, .inl x2)] [.inl (x1 / 2)] dM_149_52 (fun _ => rfl) (Or.inr rfl) ?_
        refine gs0 54 [(0, .inr (.inr (some 725))), (1, .inl x1), (2, .inl x2)] [.inl x2, .inl (x1 / 2)] dM_149_53 (fun _ => rfl) (Or.inr rfl) ?_
        refine gs0 55 [(0, .inr (.inr (some 725))), (1, .inl x1), (2, .inl x2)] [.inl 2, .inl x2, .inl (x1 / 2)] dM_149_54 (fun _ => rfl) (Or.inr rfl) ?_
        refine gs0 56 [(0, .inr (.inr (some 725))), (1, .inl x1), (2, .inl x2)] [.inl (x2 / 2), .inl (x1 / 2)] dM_149_55 (fun _ => rfl) (Or.inr rfl) ?_
        refine gsIf (t := 63) (C := ¬ (x1 / 2) = (x2 / 2)) (r := []) dM_149_56 (fun _ => rfl) (Or.inr rfl) (rTest_iff .ne (x1 / 2) (x2 / 2)) (fun c12 => ?_) (fun c12 => ?_)
        · replace hnn := hnn.1 c12
          refine gs0 64 [(0, .inr (.inr (some 725))), (1, .inl x1), (2, .inl x2)] [.inl 0] dM_149_63 (fun _ => rfl) (Or.inr rfl) ?_
          refine gsRet (r := some (.inl 0)) dM_149_64 (fun _ => rfl) (Or.inr rfl) ?_
          exact hnn
        · replace hnn := hnn.2 c12
          refine gs0 60 [(0, .inr (.inr (some 725))), (1, .inl x1), (2, .inl x2)] [.inl 1] dM_149_59 (fun _ => rfl) (Or.inr rfl) ?_
          refine gs0 64 [(0, .inr (.inr (some 725))), (1, .inl x1), (2, .inl x2)] [.inl 1] dM_149_60 (fun _ => rfl) (Or.inr rfl) ?_
          refine gsRet (r := some (.inl 1)) dM_149_64 (fun _ => rfl) (Or.inr rfl) ?_
          exact hnn
      · replace hnn := hnn.2 c11
        refine gs0 43 [(0, .inr (.inr (some 725))), (1, .inl x1), (2, .inl x2)] [.inl x2] dM_149_42 (fun _ => rfl) (Or.inr rfl) ?_
        refine gs0 44 [(0, .inr (.inr (some 725))), (1, .inl x1), (2, .inl x2)] [.inl 2, .inl x2] dM_149_43 (fun _ => rfl) (Or.inr rfl) ?_
        refine gs0 45 [(0, .inr (.inr (some 725))), (1, .inl x1), (2, .inl x2)] [.inl (x2 / 2)] dM_149_44 (fun _ => rfl) (Or.inr rfl) ?_
        refine gs0 47 [(0, .inr (.inr (some 725))), (1, .inl x1), (2, .inl x2)] [.inl 75, .inl (x2 / 2)] dM_149_45 (fun _ => rfl) (Or.inr rfl) ?_
        refine gsIf (t := 65) (C := 75 ≤ (x2 / 2)) (r := []) dM_149_47 (fun _ => rfl) (Or.inr rfl) (rTest_iff .ge (x2 / 2) 75) (fun c13 => ?_) (fun c13 => ?_)
        · replace hnn := hnn.1 c13
          refine gs0 66 [(0, .inr (.inr (some 725))), (1, .inl x1), (2, .inl x2)] [.inr (.inr (some 725))] dM_149_65 (fun _ => rfl) (Or.inr rfl) ?_
          refine gs0 67 [(0, .inr (.inr (some 725))), (1, .inl x1), (2, .inl x2)] [.inl 2, .inr (.inr (some 725))] dM_149_66 (fun _ => rfl) (Or.inr rfl) ?_
          refine gs0 68 [(0, .inr (.inr (some 725))), (1, .inl x1), (2, .inl x2)] [.inr (.inr (some 725)), .inl 2, .inr (.inr (some 725))] dM_149_67 (fun _ => rfl) (Or.inr rfl) ?_
          refine gsGetR (some 727) dM_149_68 sk_725 rfl rfl ?_
          refine gs0 72 [(0, .inr (.inr (some 725))), (1, .inl x1), (2, .inl x2)] [.inl x1, .inr (.inr (some 727)), .inl 2, .inr (.inr (some 725))] dM_149_71 (fun _ => rfl) (Or.inr rfl) ?_
          refine gs0 73 [(0, .inr (.inr (some 725))), (1, .inl x1), (2, .inl x2)] [.inl 2, .inl x1, .inr (.inr (some 727)), .inl 2, .inr (.inr (some 725))] dM_149_72 (fun _ => rfl) (Or.inr rfl) ?_
          refine gs0 74 [(0, .inr (.inr (some 725))), (1, .inl x1), (2, .inl x2)] [.inl (x1 / 2), .inr (.inr (some 727)), .inl 2, .inr (.inr (some 725))] dM_149_73 (fun _ => rfl) (Or.inr rfl) ?_
          refine gsIaldN ((x1 / 2).toNatClampNeg) (t7 727 ((x1 / 2).toNatClampNeg)) dM_149_74 sk_727 hnn.1 rfl rfl ?_
          replace hnn := hnn.2
          refine gs0 76 [(0, .inr (.inr (some 725))), (1, .inl x1), (2, .inl x2)] [.inl (2 * (t7 727 ((x1 / 2).toNatClampNeg))), .inr (.inr (some 725))] dM_149_75 (fun _ => rfl) (Or.inr rfl) ?_
          refine gs0 77 [(0, .inr (.inr (some 725))), (1, .inl x1), (2, .inl x2)] [.inl x1, .inl (2 * (t7 727 ((x1 / 2).toNatClampNeg))), .inr (.inr (some 725))] dM_149_76 (fun _ => rfl) (Or.inr rfl) ?_
          refine gs0 78 [(0, .inr (.inr (some 725))), (1, .inl x1), (2, .inl x2)] [.inl 2, .inl x1, .inl (2 * (t7 727 ((x1 / 2).toNatClampNeg))), .inr (.inr (some 725))] dM_149_77 (fun _ => rfl) (Or.inr rfl) ?_
          refine gs0 79 [(0, .inr (.inr (some 725))), (1, .inl x1), (2, .inl x2)] [.inl (irem x1 2), .inl (2 * (t7 727 ((x1 / 2).toNatClampNeg))), .inr (.inr (some 725))] dM_149_78 (fun _ => rfl) (Or.inr rfl) ?_
          refine gs0 80 [(0, .inr (.inr (some 725))), (1, .inl x1), (2, .inl x2)] [.inl ((2 * (t7 727 ((x1 / 2).toNatClampNeg))) + (irem x1 2)), .inr (.inr (some 725))] dM_149_79 (fun _ => rfl) (Or.inr rfl) ?_
          refine gsCallV (y := 118) (k := 725) (as := [.inr (.inr (some 725)), .inl ((2 * (t7 727 ((x1 / 2).toNatClampNeg))) + (irem x1 2))]) (r := []) dM_149_80 rfl rfl rfl (Nat.le_of_ble_eq_true rfl) sk_725 rfl (Nat.le_of_ble_eq_true rfl) (EvS.up hnn (Nat.le_of_ble_eq_true rfl)) (fun v14 t15 hv16 => ?_)
          obtain ⟨rfl, hnnn⟩ := hv16
          clear hnn
          show GoS _ _ _ _ _ _ _ _ [(0, .inr (.inr (some 725))), (1, .inl x1), (2, .inl x2)] [] t15 _
          refine gs0 84 [(0, .inr (.inr (some 725))), (1, .inl x1), (2, .inl x2)] [.inr (.inr (some 725))] dM_149_83 (fun _ => rfl) (Or.inr rfl) ?_
          refine gs0 85 [(0, .inr (.inr (some 725))), (1, .inl x1), (2, .inl x2)] [.inl 2, .inr (.inr (some 725))] dM_149_84 (fun _ => rfl) (Or.inr rfl) ?_
          refine gs0 86 [(0, .inr (.inr (some 725))), (1, .inl x1), (2, .inl x2)] [.inr (.inr (some 725)), .inl 2, .inr (.inr (some 725))] dM_149_85 (fun _ => rfl) (Or.inr rfl) ?_
          refine gsGetR (some 727) dM_149_86 sk_725 rfl rfl ?_
          refine gs0 90 [(0, .inr (.inr (some 725))), (1, .inl x1), (2, .inl x2)] [.inl x2, .inr (.inr (some 727)), .inl 2, .inr (.inr (some 725))] dM_149_89 (fun _ => rfl) (Or.inr rfl) ?_
          refine gs0 91 [(0, .inr (.inr (some 725))), (1, .inl x1), (2, .inl x2)] [.inl 2, .inl x2, .inr (.inr (some 727)), .inl 2, .inr (.inr (some 725))] dM_149_90 (fun _ => rfl) (Or.inr rfl) ?_
          refine gs0 92 [(0, .inr (.inr (some 725))), (1, .inl x1), (2, .inl x2)] [.inl (x2 / 2), .inr (.inr (some 727)), .inl 2, .inr (.inr (some 725))] dM_149_91 (fun _ => rfl) (Or.inr rfl) ?_
          refine gsIaldN ((x2 / 2).toNatClampNeg) (t15 727 ((x2 / 2).toNatClampNeg)) dM_149_92 sk_727 hnnn.1 rfl rfl ?_
          replace hnnn := hnnn.2
          refine gs0 94 [(0, .inr (.inr (some 725))), (1, .inl x1), (2, .inl x2)] [.inl (2 * (t15 727 ((x2 / 2).toNatClampNeg))), .inr (.inr (some 725))] dM_149_93 (fun _ => rfl) (Or.inr rfl) ?_
          refine gs0 95 [(0, .inr (.inr (some 725))), (1, .inl x1), (2, .inl x2)] [.inl x2, .inl (2 * (t15 727 ((x2 / 2).toNatClampNeg))), .inr (.inr (some 725))] dM_149_94 (fun _ => rfl) (Or.inr rfl) ?_
          refine gs0 96 [(0, .inr (.inr (some 725))), (1, .inl x1), (2, .inl x2)] [.inl 2, .inl x2, .inl (2 * (t15 727 ((x2 / 2).toNatClampNeg))), .inr (.inr (some 725))] dM_149_95 (fun _ => rfl) (Or.inr rfl) ?_
          refine gs0 97 [(0, .inr (.inr (some 725))), (1, .inl x1), (2, .inl x2)] [.inl (irem x2 2), .inl (2 * (t15 727 ((x2 / 2).toNatClampNeg))), .inr (.inr (some 725))] dM_149_96 (fun _ => rfl) (Or.inr rfl) ?_
          refine gs0 98 [(0, .inr (.inr (some 725))), (1, .inl x1), (2, .inl x2)] [.inl ((2 * (t15 727 ((x2 / 2).toNatClampNeg))) + (irem x2 2)), .inr (.inr (some 725))] dM_149_97 (fun _ => rfl) (Or.inr rfl) ?_
          refine gsCallV (y := 118) (k := 725) (as := [.inr (.inr (some 725)), .inl ((2 * (t15 727 ((x2 / 2).toNatClampNeg))) + (irem x2 2))]) (r := []) dM_149_98 rfl rfl rfl (Nat.le_of_ble_eq_true rfl) sk_725 rfl (Nat.le_of_ble_eq_true rfl) (EvS.up hnnn (Nat.le_of_ble_eq_true rfl)) (fun v17 t18 hv19 => ?_)
          obtain ⟨rfl, hnnnn⟩ := hv19
          clear hnnn
          show GoS _ _ _ _ _ _ _ _ [(0, .inr (.inr (some 725))), (1, .inl x1), (2, .inl x2)] [] t18 _
          refine gs0 102 [(0, .inr (.inr (some 725))), (1, .inl x1), (2, .inl x2)] [.inr (.inr (some 725))] dM_149_101 (fun _ => rfl) (Or.inr rfl) ?_
          refine gs0 103 [(0, .inr (.inr (some 725))), (1, .inl x1), (2, .inl x2)] [.inl 2, .inr (.inr (some 725))] dM_149_102 (fun _ => rfl) (Or.inr rfl) ?_
          refine gs0 104 [(0, .inr (.inr (some 725))), (1, .inl x1), (2, .inl x2)] [.inr (.inr (some 725)), .inl 2, .inr (.inr (some 725))] dM_149_103 (fun _ => rfl) (Or.inr rfl) ?_
          refine gsGetR (some 728) dM_149_104 sk_725 rfl rfl ?_
          refine gs0 108 [(0, .inr (.inr (some 725))), (1, .inl x1), (2, .inl x2)] [.inl x1, .inr (.inr (some 728)), .inl 2, .inr (.inr (some 725))] dM_149_107 (fun _ => rfl) (Or.inr rfl) ?_
          refine gs0 109 [(0, .inr (.inr (some 725))), (1, .inl x1), (2, .inl x2)] [.inl 2, .inl x1, .inr (.inr (some 728)), .inl 2, .inr (.inr (some 725))] dM_149_108 (fun _ => rfl) (Or.inr rfl) ?_
          refine gs0 110 [(0, .inr (.inr (some 725))), (1, .inl x1), (2, .inl x2)] [.inl (x1 / 2), .inr (.inr (some 728)), .inl 2, .inr (.inr (some 725))] dM_149_109 (fun _ => rfl) (Or.inr rfl) ?_
          refine gsIaldN ((x1 / 2).toNatClampNeg) (t18 728 ((x1 / 2).toNatClampNeg)) dM_149_110 sk_728 hnnnn.1 rfl rfl ?_
          replace hnnnn := hnnnn.2
          refine gs0 112 [(0, .inr (.inr (some 725))), (1, .inl x1), (2, .inl x2)] [.inl (2 * (t18 728 ((x1 / 2).toNatClampNeg))), .inr (.inr (some 725))] dM_149_111 (fun _ => rfl) (Or.inr rfl) ?_
          refine gs0 113 [(0, .inr (.inr (some 725))), (1, .inl x1), (2, .inl x2)] [.inl x1, .inl (2 * (t18 728 ((x1 / 2).toNatClampNeg))), .inr (.inr (some 725))] dM_149_112 (fun _ => rfl) (Or.inr rfl) ?_
          refine gs0 114 [(0, .inr (.inr (some 725))), (1, .inl x1), (2, .inl x2)] [.inl 2, .inl x1, .inl (2 * (t18 728 ((x1 / 2).toNatClampNeg))), .inr (.inr (some 725))] dM_149_113 (fun _ => rfl) (Or.inr rfl) ?_
          refine gs0 115 [(0, .inr (.inr (some 725))), (1, .inl x1), (2, .inl x2)] [.inl (irem x1 2), .inl (2 * (t18 728 ((x1 / 2).toNatClampNeg))), .inr (.inr (some 725))] dM_149_114 (fun _ => rfl) (Or.inr rfl) ?_
          refine gs0 116 [(0, .inr (.inr (some 725))), (1, .inl x1), (2, .inl x2)] [.inl ((2 * (t18 728 ((x1 / 2).toNatClampNeg))) + (irem x1 2)), .inr (.inr (some 725))] dM_149_115 (fun _ => rfl) (Or.inr rfl) ?_
          refine gsCallV (y := 118) (k := 725) (as := [.inr (.inr (some 725)), .inl ((2 * (t18 728 ((x1 / 2).toNatClampNeg))) + (irem x1 2))]) (r := []) dM_149_116 rfl rfl rfl (Nat.le_of_ble_eq_true rfl) sk_725 rfl (Nat.le_of_ble_eq_true rfl) (EvS.up hnnnn (Nat.le_of_ble_eq_true rfl)) (fun v20 t21 hv22 => ?_)
          obtain ⟨rfl, hnnnnn⟩ := hv22
          clear hnnnn
          show GoS _ _ _ _ _ _ _ _ [(0, .inr (.inr (some 725))), (1, .inl x1), (2, .inl x2)] [] t21 _
          refine gs0 120 [(0, .inr (.inr (some 725))), (1, .inl x1), (2, .inl x2)] [.inr (.inr (some 725))] dM_149_119 (fun _ => rfl) (Or.inr rfl) ?_
          refine gs0 121 [(0, .inr (.inr (some 725))), (1, .inl x1), (2, .inl x2)] [.inl 2, .inr (.inr (some 725))] dM_149_120 (fun _ => rfl) (Or.inr rfl) ?_
          refine gs0 122 [(0, .inr (.inr (some 725))), (1, .inl x1), (2, .inl x2)] [.inr (.inr (some 725)), .inl 2, .inr (.inr (some 725))] dM_149_121 (fun _ => rfl) (Or.inr rfl) ?_
          refine gsGetR (some 728) dM_149_122 sk_725 rfl rfl ?_
          refine gs0 126 [(0, .inr (.inr (some 725))), (1, .inl x1), (2, .inl x2)] [.inl x2, .inr (.inr (some 728)), .inl 2, .inr (.inr (some 725))] dM_149_125 (fun _ => rfl) (Or.inr rfl) ?_
          refine gs0 127 [(0, .inr (.inr (some 725))), (1, .inl x1), (2, .inl x2)] [.inl 2, .inl x2, .inr (.inr (some 728)), .inl 2, .inr (.inr (some 725))] dM_149_126 (fun _ => rfl) (Or.inr rfl) ?_
          refine gs0 128 [(0, .inr (.inr (some 725))), (1, .inl x1), (2, .inl x2)] [.inl (x2 / 2), .inr (.inr (some 728)), .inl 2, .inr (.inr (some 725))] dM_149_127 (fun _ => rfl) (Or.inr rfl) ?_
          refine gsIaldN ((x2 / 2).toNatClampNeg) (t21 728 ((x2 / 2).toNatClampNeg)) dM_149_128 sk_728 hnnnnn.1 rfl rfl ?_
          replace hnnnnn := hnnnnn.2
          refine gs0 130 [(0, .inr (.inr (some 725))), (1, .inl x1), (2, .inl x2)] [.inl (2 * (t21 728 ((x2 / 2).toNatClampNeg))), .inr (.inr (some 725))] dM_149_129 (fun _ => rfl) (Or.inr rfl) ?_
          refine gs0 131 [(0, .inr (.inr (some 725))), (1, .inl x1), (2, .inl x2)] [.inl x2, .inl (2 * (t21 728 ((x2 / 2).toNatClampNeg))), .inr (.inr (some 725))] dM_149_130 (fun _ => rfl) (Or.inr rfl) ?_
          refine gs0 132 [(0, .inr (.inr (some 725))), (1, .inl x1), (2, .inl x2)] [.inl 2, .inl x2, .inl (2 * (t21 728 ((x2 / 2).toNatClampNeg))), .inr (.inr (some 725))] dM_149_131 (fun _ => rfl) (Or.inr rfl) ?_
          refine gs0 133 [(0, .inr (.inr (some 725))), (1, .inl x1), (2, .inl x2)] [.inl (irem x2 2), .inl (2 * (t21 728 ((x2 / 2).toNatClampNeg))), .inr (.inr (some 725))] dM_149_132 (fun _ => rfl) (Or.inr rfl) ?_
          refine gs0 134 [(0, .inr (.inr (some 725))), (1, .inl x1), (2, .inl x2)] [.inl ((2 * (t21 728 ((x2 / 2).toNatClampNeg))) + (irem x2 2)), .inr (.inr (some 725))] dM_149_133 (fun _ => rfl) (Or.inr rfl) ?_
          refine gsCallV (y := 118) (k := 725) (as := [.inr (.inr (some 725)), .inl ((2 * (t21 728 ((x2 / 2).toNatClampNeg))) + (irem x2 2))]) (r := []) dM_149_134 rfl rfl rfl (Nat.le_of_ble_eq_true rfl) sk_725 rfl (Nat.le_of_ble_eq_true rfl) (EvS.up hnnnnn (Nat.le_of_ble_eq_true rfl)) (fun v23 t24 hv25 => ?_)
          obtain ⟨rfl, hnnnnnn⟩ := hv25
          clear hnnnnn
          show GoS _ _ _ _ _ _ _ _ [(0, .inr (.inr (some 725))), (1, .inl x1), (2, .inl x2)] [] t24 _
          refine gs0 138 [(0, .inr (.inr (some 725))), (1, .inl x1), (2, .inl x2)] [.inl 1] dM_149_137 (fun _ => rfl) (Or.inr rfl) ?_
          refine gsRet (r := some (.inl 1)) dM_149_138 (fun _ => rfl) (Or.inr rfl) ?_
          exact hnnnnnn
        · replace hnn := hnn.2 c13
          refine gs0 51 [(0, .inr (.inr (some 725))), (1, .inl x1), (2, .inl x2)] [.inl x1] dM_149_50 (fun _ => rfl) (Or.inr rfl) ?_
          refine gs0 52 [(0, .inr (.inr (some 725))), (1, .inl x1), (2, .inl x2)] [.inl 2, .inl x1] dM_149_51 (fun _ => rfl) (Or.inr rfl) ?_
          refine gs0 53 [(0, .inr (.inr (some 725))), (1, .inl x1), (2, .inl x2)] [.inl (x1 / 2)] dM_149_52 (fun _ => rfl) (Or.inr rfl) ?_
          refine gs0 54 [(0, .inr (.inr (some 725))), (1, .inl x1), (2, .inl x2)] [.inl x2, .inl (x1 / 2)] dM_149_53 (fun _ => rfl) (Or.inr rfl) ?_
          refine gs0 55 [(0, .inr (.inr (some 725))), (1, .inl x1), (2, .inl x2)] [.inl 2, .inl x2, .inl (x1 / 2)] dM_149_54 (fun _ => rfl) (Or.inr rfl) ?_
          refine gs0 56 [(0, .inr (.inr (some 725))), (1, .inl x1), (2, .inl x2)] [.inl (x2 / 2), .inl (x1 / 2)] dM_149_55 (fun _ => rfl) (Or.inr rfl) ?_
          refine gsIf (t := 63) (C := ¬ (x1 / 2) = (x2 / 2)) (r := []) dM_149_56 (fun _ => rfl) (Or.inr rfl) (rTest_iff .ne (x1 / 2) (x2 / 2)) (fun c26 => ?_) (fun c26 => ?_)
          · replace hnn := hnn.1 c26
            refine gs0 64 [(0, .inr (.inr (some 725))), (1, .inl x1), (2, .inl x2)] [.inl 0] dM_149_63 (fun _ => rfl) (Or.inr rfl) ?_
            refine gsRet (r := some (.inl 0)) dM_149_64 (fun _ => rfl) (Or.inr rfl) ?_
            exact hnn
          · replace hnn := hnn.2 c26
            refine gs0 60 [(0, .inr (.inr (some 725))), (1, .inl x1), (2, .inl x2)] [.inl 1] dM_149_59 (fun _ => rfl) (Or.inr rfl) ?_
            refine gs0 64 [(0, .inr (.inr (some 725))), (1, .inl x1), (2, .inl x2)] [.inl 1] dM_149_60 (fun _ => rfl) (Or.inr rfl) ?_
            refine gsRet (r := some (.inl 1)) dM_149_64 (fun _ => rfl) (Or.inr rfl) ?_
            exact hnn
    · replace hnn := hnn.2 c10
      refine gs0 25 [(0, .inr (.inr (some 725))), (1, .inl x1), (2, .inl x2)] [.inr (.inr (some 725))] dM_149_24 (fun _ => rfl) (Or.inr rfl) ?_
      refine gs0 26 [(0, .inr (.inr (some 725))), (1, .inl x1), (2, .inl x2)] [.inl x2, .inr (.inr (some 725))] dM_149_25 (fun _ => rfl) (Or.inr rfl) ?_
      refine gsCallS (y := 148) (as := [.inl x2]) (r := [.inr (.inr (some 725))]) dM_149_26 rfl (Or.inl rfl) rfl rfl (Nat.le_of_ble_eq_true rfl) (EvS.up hnn (Nat.le_of_ble_eq_true rfl)) (fun v27 t28 hv29 => ?_)
      obtain ⟨n30, rfl, hnnn⟩ := hv29
      clear hnn
      show GoS _ _ _ _ _ _ _ _ [(0, .inr (.inr (some 725))), (1, .inl x1), (2, .inl x2)] [.inl n30, .inr (.inr (some 725))] t28 _
      refine gs0 30 [(0, .inr (.inr (some 725))), (1, .inl x1), (2, .inl x2)] [.inl x1, .inl n30, .inr (.inr (some 725))] dM_149_29 (fun _ => rfl) (Or.inr rfl) ?_
      refine gsCallV (y := 150) (k := 725) (as := [.inr (.inr (some 725)), .inl n30, .inl x1]) (r := []) dM_149_30 rfl rfl rfl (Nat.le_of_ble_eq_true rfl) sk_725 rfl (Nat.le_of_ble_eq_true rfl) (EvS.up hnnn (Nat.le_of_ble_eq_true rfl)) (fun v31 t32 hv33 => ?_)
      obtain ⟨n34, rfl, hnnnn⟩ := hv33
      clear hnnn
      show GoS _ _ _ _ _ _ _ _ [(0, .inr (.inr (some 725))), (1, .inl x1), (2, .inl x2)] [.inl n34] t32 _
      refine gsRet (r := some (.inl n34)) dM_149_33 (fun _ => rRetB hnnnn.1) (Or.inr rfl) ?_
      replace hnnnn := hnnnn.2
      exact hnnnn
  · replace hn := hn.2 c5
    refine gs0 8 [(0, .inr (.inr (some 725))), (1, .inl x1), (2, .inl x2)] [.inr (.inr (some 725))] dM_149_7 (fun _ => rfl) (Or.inr rfl) ?_
    refine gs0 9 [(0, .inr (.inr (some 725))), (1, .inl x1), (2, .inl x2)] [.inl x1, .inr (.inr (some 725))] dM_149_8 (fun _ => rfl) (Or.inr rfl) ?_
    refine gsCallS (y := 148) (as := [.inl x1]) (r := [.inr (.inr (some 725))]) dM_149_9 rfl (Or.inl rfl) rfl rfl (Nat.le_of_ble_eq_true rfl) (EvS.up hn (Nat.le_of_ble_eq_true rfl)) (fun v35 t36 hv37 => ?_)
    obtain ⟨n38, rfl, hnn⟩ := hv37
    clear hn
    show GoS _ _ _ _ _ _ _ _ [(0, .inr (.inr (some 725))), (1, .inl x1), (2, .inl x2)] [.inl n38, .inr (.inr (some 725))] t36 _
    refine gs0 13 [(0, .inr (.inr (some 725))), (1, .inl x1), (2, .inl x2)] [.inl x2, .inl n38, .inr (.inr (some 725))] dM_149_12 (fun _ => rfl) (Or.inr rfl) ?_
    refine gsCallV (y := 150) (k := 725) (as := [.inr (.inr (some 725)), .inl n38, .inl x2]) (r := []) dM_149_13 rfl rfl rfl (Nat.le_of_ble_eq_true rfl) sk_725 rfl (Nat.le_of_ble_eq_true rfl) (EvS.up hnn (Nat.le_of_ble_eq_true rfl)) (fun v39 t40 hv41 => ?_)
    obtain ⟨n42, rfl, hnnn⟩ := hv41
    clear hnn
    show GoS _ _ _ _ _ _ _ _ [(0, .inr (.inr (some 725))), (1, .inl x1), (2, .inl x2)] [.inl n42] t40 _
    refine gsRet (r := some (.inl n42)) dM_149_16 (fun _ => rRetB hnnn.1) (Or.inr rfl) ?_
    replace hnnn := hnnn.2
    exact hnnn
set_option maxRecDepth 100000 in
/-- GoalsInAQueueModel.binds -/
theorem w_150 (sg : rSg) (x1 : Int32) (x2 : Int32) {P : Option rv → rSg → Prop} (h :
    EvS rSkel 3 151 [.inr (.inr (some 725)), .inl x1, .inl x2] sg (fun v1 t2 => ∃ n4, v1 = some (.inl n4) ∧
      (n4 = 0 → 
        (rIn x1 128 = true ∧
        rIn (t2 725 16) 4000 = true ∧
        P (some (.inl 1)) (up2 (up2 (up2 t2 736 x1.toNatClampNeg x2) 737 ((t2 725 16).toNatClampNeg) x1) 725 16 ((t2 725 16) + 1)))) ∧
      (¬ (n4 = 0) → 
        P (some (.inl 0)) t2))) : EvS rSkel 4 150 [.inr (.inr (some 725)), .inl x1, .inl x2] sg P := by
  refine EvS.of (ini := false) rfl ⟨rfl, Nat.le_of_ble_eq_true rfl⟩ rfl ?_
  show GoS rSkel 3 9 3 (some .boolean) false prog_11_method_17_code 0 [(0, .inr (.inr (some 725))), (1, .inl x1), (2, .inl x2)] [] sg _
  refine gs0 1 [(0, .inr (.inr (some 725))), (1, .inl x1), (2, .inl x2)] [.inr (.inr (some 725))] dM_150_0 (fun _ => rfl) (Or.inr rfl) ?_
  refine gs0 2 [(0, .inr (.inr (some 725))), (1, .inl x1), (2, .inl x2)] [.inl x1, .inr (.inr (some 725))] dM_150_1 (fun _ => rfl) (Or.inr rfl) ?_
  refine gs0 3 [(0, .inr (.inr (some 725))), (1, .inl x1), (2, .inl x2)] [.inl x2, .inl x1, .inr (.inr (some 725))] dM_150_2 (fun _ => rfl) (Or.inr rfl) ?_
  refine gsCallV (y := 151) (k := 725) (as := [.inr (.inr (some 725)), .inl x1, .inl x2]) (r := []) dM_150_3 rfl rfl rfl (Nat.le_of_ble_eq_true rfl) sk_725 rfl (Nat.le_of_ble_eq_true rfl) (EvS.up h (Nat.le_of_ble_eq_true rfl)) (fun v1 t2 hv3 => ?_)
  obtain ⟨n4, rfl, hn⟩ := hv3
  clear h
  show GoS _ _ _ _ _ _ _ _ [(0, .inr (.inr (some 725))), (1, .inl x1), (2, .inl x2)] [.inl n4] t2 _
  refine gsIf (t := 11) (C := n4 = 0) (r := []) dM_150_6 (fun _ => rfl) (Or.inr rfl) (rTest_iff .eq n4 0) (fun c5 => ?_) (fun c5 => ?_)
  · replace hn := hn.1 c5
    refine gs0 12 [(0, .inr (.inr (some 725))), (1, .inl x1), (2, .inl x2)] [.inr (.inr (some 725))] dM_150_11 (fun _ => rfl) (Or.inr rfl) ?_
    refine gsGetR (some 736) dM_150_12 sk_725 rfl rfl ?_
    refine gs0 16 [(0, .inr (.inr (some 725))), (1, .inl x1), (2, .inl x2)] [.inl x1, .inr (.inr (some 736))] dM_150_15 (fun _ => rfl) (Or.inr rfl) ?_
    refine gs0 17 [(0, .inr (.inr (some 725))), (1, .inl x1), (2, .inl x2)] [.inl x2, .inl x1, .inr (.inr (some 736))] dM_150_16 (fun _ => rfl) (Or.inr rfl) ?_
    refine gsIastN x1.toNatClampNeg dM_150_17 sk_736 hn.1 rfl ?_
    replace hn := hn.2
    refine gs0 19 [(0, .inr (.inr (some 725))), (1, .inl x1), (2, .inl x2)] [.inr (.inr (some 725))] dM_150_18 (fun _ => rfl) (Or.inr rfl) ?_
    refine gsGetR (some 737) dM_150_19 sk_725 rfl rfl ?_
    refine gs0 23 [(0, .inr (.inr (some 725))), (1, .inl x1), (2, .inl x2)] [.inr (.inr (some 725)), .inr (.inr (some 737))] dM_150_22 (fun _ => rfl) (Or.inr rfl) ?_
    refine gsGetE (t2 725 16) dM_150_23 sk_725 rfl rfl (congrFun (up2_nk _ _ _ (by decide)) _) ?_
    refine gs0 27 [(0, .inr (.inr (some 725))), (1, .inl x1), (2, .inl x2)] [.inl x1, .inl (t2 725 16), .inr (.inr (some 737))] dM_150_26 (fun _ => rfl) (Or.inr rfl) ?_
    refine gsIastN ((t2 725 16).toNatClampNeg) dM_150_27 sk_737 hn.1 rfl ?_
    replace hn := hn.2
    refine gs0 29 [(0, .inr (.inr (some 725))), (1, .inl x1), (2, .inl x2)] [.inr (.inr (some 725))] dM_150_28 (fun _ => rfl) (Or.inr rfl) ?_
    refine gs0 30 [(0, .inr (.inr (some 725))), (1, .inl x1), (2, .inl x2)] [.inr (.inr (some 725)), .inr (.inr (some 725))] dM_150_29 (fun _ => rfl) (Or.inr rfl) ?_
    refine gsGetE (t2 725 16) dM_150_30 sk_725 rfl rfl ((congrFun (up2_nk _ _ _ (by decide)) _).trans (congrFun (up2_nk _ _ _ (by decide)) _)) ?_
    refine gs0 34 [(0, .inr (.inr (some 725))), (1, .inl x1), (2, .inl x2)] [.inl 1, .inl (t2 725 16), .inr (.inr (some 725))] dM_150_33 (fun _ => rfl) (Or.inr rfl) ?_
    refine gs0 35 [(0, .inr (.inr (some 725))), (1, .inl x1), (2, .inl x2)] [.inl ((t2 725 16) + 1), .inr (.inr (some 725))] dM_150_34 (fun _ => rfl) (Or.inr rfl) ?_
    refine gsPut dM_150_35 sk_725 rfl rfl rfl (by decide) ?_
    refine gs0 39 [(0, .inr (.inr (some 725))), (1, .inl x1), (2, .inl x2)] [.inl 1] dM_150_38 (fun _ => rfl) (Or.inr rfl) ?_
    refine gsRet (r := some (.inl 1)) dM_150_39 (fun _ => rfl) (Or.inr rfl) ?_
    exact hn
  · replace hn := hn.2 c5
    refine gs0 10 [(0, .inr (.inr (some 725))), (1, .inl x1), (2, .inl x2)] [.inl 0] dM_150_9 (fun _ => rfl) (Or.inr rfl) ?_
    refine gsRet (r := some (.inl 0)) dM_150_10 (fun _ => rfl) (Or.inr rfl) ?_
    exact hn
def g_151_13  (y1 : Int32) (y3 : Int32) (y4 : Int32) (sg : rSg) (P : Option rv → rSg → Prop) : Prop := GoS rSkel 2 9 6 (some .boolean) false prog_11_method_16_code 13 [(0, .inr (.inr (some 725))), (1, .inl y1), (3, .inl y3), (4, .inl y4)] [] sg P
set_option maxRecDepth 100000 in
theorem w_151_13 (sg : rSg)  (y1 : Int32) (y3 : Int32) (y4 : Int32) {P : Option rv → rSg → Prop} (h :
    ((sg 725 17) ≤ y3 → 
      (rBool y4 = true ∧
      P (some (.inl y4)) (up2 sg 725 17 y3))) ∧
    (¬ ((sg 725 17) ≤ y3) → 
      (¬ y4 = 0 → 
        (rBool y4 = true ∧
        P (some (.inl y4)) (up2 sg 725 17 y3))) ∧
      (¬ (¬ y4 = 0) → 
        (rIn ((sg 725 17) - 1) 8000 = true ∧
        EvS rSkel 2 146 [.inr (.inr (some 725)), .inl (sg 738 (((sg 725 17) - 1).toNatClampNeg))] (up2 sg 725 17 ((sg 725 17) - 1)) (fun v6 t7 => ∃ n9, v6 = some (.inl n9) ∧
          EvS rSkel 1 147 [.inl n9] t7 (fun v10 t11 => ∃ n13, v10 = some (.inl n13) ∧
            (n13 = 0 → 
              ((n9 / 2) < 75 → 
                g_151_13 y1 y3 0 t11 P) ∧
              (¬ ((n9 / 2) < 75) → 
                EvS rSkel 2 152 [.inr (.inr (some 725)), .inl n9] t11 (fun v16 t17 => v16 = none ∧
                  g_151_13 y1 y3 0 t17 P))) ∧
            (¬ (n13 = 0) → 
              EvS rSkel 1 148 [.inl n9] t11 (fun v19 t20 => ∃ n22, v19 = some (.inl n22) ∧
                (¬ n22 = y1 → 
                  ((n9 / 2) < 75 → 
                    g_151_13 y1 y3 0 t20 P) ∧
                  (¬ ((n9 / 2) < 75) → 
                    EvS rSkel 2 152 [.inr (.inr (some 725)), .inl n9] t20 (fun v25 t26 => v25 = none ∧
                      g_151_13 y1 y3 0 t26 P))) ∧
                (¬ (¬ n22 = y1) → 
                  ((n9 / 2) < 75 → 
                    g_151_13 y1 y3 1 t20 P) ∧
                  (¬ ((n9 / 2) < 75) → 
                    EvS rSkel 2 152 [.inr (.inr (some 725)), .inl n9] t20 (fun v29 t30 => v29 = none ∧
                      g_151_13 y1 y3 1 t30 P))))))))))) : g_151_13 y1 y3 y4 sg P := by
  show GoS rSkel 2 9 6 (some .boolean) false prog_11_method_16_code 13 [(0, .inr (.inr (some 725))), (1, .inl y1), (3, .inl y3), (4, .inl y4)] [] sg P
  refine gs0 14 [(0, .inr (.inr (some 725))), (1, .inl y1), (3, .inl y3), (4, .inl y4)] [.inr (.inr (some 725))] dM_151_13 (fun _ => rfl) (Or.inr rfl) ?_
  refine gsGetE (sg 725 17) dM_151_14 sk_725 rfl rfl rfl ?_
  refine gs0 18 [(0, .inr (.inr (some 725))), (1, .inl y1), (3, .inl y3), (4, .inl y4)] [.inl y3, .inl (sg 725 17)] dM_151_17 (fun _ => rfl) (Or.inr rfl) ?_
  refine gsIf (t := 93) (C := (sg 725 17) ≤ y3) (r := []) dM_151_18 (fun _ => rfl) (Or.inr rfl) (rTest_iff .le (sg 725 17) y3) (fun c4 => ?_) (fun c4 => ?_)
  · replace h := h.1 c4
    refine gs0 94 [(0, .inr (.inr (some 725))), (1, .inl y1), (3, .inl y3), (4, .inl y4)] [.inr (.inr (some 725))] dM_151_93 (fun _ => rfl) (Or.inr rfl) ?_
    refine gs0 95 [(0, .inr (.inr (some 725))), (1, .inl y1), (3, .inl y3), (4, .inl y4)] [.inl y3, .inr (.inr (some 725))] dM_151_94 (fun _ => rfl) (Or.inr rfl) ?_
    refine gsPut dM_151_95 sk_725 rfl rfl rfl (by decide) ?_
    refine gs0 100 [(0, .inr (.inr (some 725))), (1, .inl y1), (3, .inl y3), (4, .inl y4)] [.inl y4] dM_151_98 (fun _ => rfl) (Or.inr rfl) ?_
    refine gsRet (r := some (.inl y4)) dM_151_100 (fun _ => rRetB h.1) (Or.inr rfl) ?_
    replace h := h.2
    exact h
  · replace h := h.2 c4
    refine gs0 23 [(0, .inr (.inr (some 725))), (1, .inl y1), (3, .inl y3), (4, .inl y4)] [.inl y4] dM_151_21 (fun _ => rfl) (Or.inr rfl) ?_
    refine gsIf (t := 93) (C := ¬ y4 = 0) (r := []) dM_151_23 (fun _ => rfl) (Or.inr rfl) (rTest_iff .ne y4 0) (fun c5 => ?_) (fun c5 => ?_)
    · replace h := h.1 c5
      refine gs0 94 [(0, .inr (.inr (some 725))), (1, .inl y1), (3, .inl y3), (4, .inl y4)] [.inr (.inr (some 725))] dM_151_93 (fun _ => rfl) (Or.inr rfl) ?_
      refine gs0 95 [(0, .inr (.inr (some 725))), (1, .inl y1), (3, .inl y3), (4, .inl y4)] [.inl y3, .inr (.inr (some 725))] dM_151_94 (fun _ => rfl) (Or.inr rfl) ?_
      refine gsPut dM_151_95 sk_725 rfl rfl rfl (by decide) ?_
      refine gs0 100 [(0, .inr (.inr (some 725))), (1, .inl y1), (3, .inl y3), (4, .inl y4)] [.inl y4] dM_151_98 (fun _ => rfl) (Or.inr rfl) ?_
      refine gsRet (r := some (.inl y4)) dM_151_100 (fun _ => rRetB h.1) (Or.inr rfl) ?_
      replace h := h.2
      exact h
    · replace h := h.2 c5
      refine gs0 27 [(0, .inr (.inr (some 725))), (1, .inl y1), (3, .inl y3), (4, .inl y4)] [.inr (.inr (some 725))] dM_151_26 (fun _ => rfl) (Or.inr rfl) ?_
      refine gs0 28 [(0, .inr (.inr (some 725))), (1, .inl y1), (3, .inl y3), (4, .inl y4)] [.inr (.inr (some 725)), .inr (.inr (some 725))] dM_151_27 (fun _ => rfl) (Or.inr rfl) ?_
      refine gsGetE (sg 725 17) dM_151_28 sk_725 rfl rfl rfl ?_
      refine gs0 32 [(0, .inr (.inr (some 725))), (1, .inl y1), (3, .inl y3), (4, .inl y4)] [.inl 1, .inl (sg 725 17), .inr (.inr (some 725))] dM_151_31 (fun _ => rfl) (Or.inr rfl) ?_
      refine gs0 33 [(0, .inr (.inr (some 725))), (1, .inl y1), (3, .inl y3), (4, .inl y4)] [.inl ((sg 725 17) - 1), .inr (.inr (some 725))] dM_151_32 (fun _ => rfl) (Or.inr rfl) ?_
      refine gsPut dM_151_33 sk_725 rfl rfl rfl (by decide) ?_
      refine gs0 37 [(0, .inr (.inr (some 725))), (1, .inl y1), (3, .inl y3), (4, .inl y4)] [.inr (.inr (some 725))] dM_151_36 (fun _ => rfl) (Or.inr rfl) ?_
      refine gs0 38 [(0, .inr (.inr (some 725))), (1, .inl y1), (3, .inl y3), (4, .inl y4)] [.inr (.inr (some 725)), .inr (.inr (some 725))] dM_151_37 (fun _ => rfl) (Or.inr rfl) ?_
      refine gsGetR (some 738) dM_151_38 sk_725 rfl rfl ?_
      refine gs0 42 [(0, .inr (.inr (some 725))), (1, .inl y1), (3, .inl y3), (4, .inl y4)] [.inr (.inr (some 725)), .inr (.inr (some 738)), .inr (.inr (some 725))] dM_151_41 (fun _ => rfl) (Or.inr rfl) ?_
      refine gsGetE ((sg 725 17) - 1) dM_151_42 sk_725 rfl rfl (up2_same _ _ _ _) ?_
      refine gsIaldN (((sg 725 17) - 1).toNatClampNeg) (sg 738 (((sg 725 17) - 1).toNatClampNeg)) dM_151_45 sk_738 h.1 rfl (congrFun (up2_nk _ _ _ (by decide)) _) ?_
      replace h := h.2
      refine gsCallV (y := 146) (k := 725) (as := [.inr (.inr (some 725)), .inl (sg 738 (((sg 725 17) - 1).toNatClampNeg))]) (r := []) dM_151_46 rfl rfl rfl (Nat.le_of_ble_eq_true rfl) sk_725 rfl (Nat.le_of_ble_eq_true rfl) (EvS.up h (Nat.le_of_ble_eq_true rfl)) (fun v6 t7 hv8 => ?_)
      obtain ⟨n9, rfl, hn⟩ := hv8
      clear h
      show GoS _ _ _ _ _ _ _ _ [(0, .inr (.inr (some 725))), (1, .inl y1), (3, .inl y3), (4, .inl y4)] [.inl n9] t7 _
      refine gs0 51 [(5, .inl n9), (0, .inr (.inr (some 725))), (1, .inl y1), (3, .inl y3), (4, .inl y4)] [] dM_151_49 (fun _ => rfl) (Or.inr rfl) ?_
      refine gs0 53 [(5, .inl n9), (0, .inr (.inr (some 725))), (1, .inl y1), (3, .inl y3), (4, .inl y4)] [.inl n9] dM_151_51 (fun _ => rfl) (Or.inr rfl) ?_
      refine gsCallS (y := 147) (as := [.inl n9]) (r := []) dM_151_53 rfl (Or.inl rfl) rfl rfl (Nat.le_of_ble_eq_true rfl) (EvS.up hn (Nat.le_of_ble_eq_true rfl)) (fun v10 t11 hv12 => ?_)
      obtain ⟨n13, rfl, hnn⟩ := hv12
      clear hn
      show GoS _ _ _ _ _ _ _ _ [(5, .inl n9), (0, .inr (.inr (some 725))), (1, .inl y1), (3, .inl y3), (4, .inl y4)] [.inl n13] t11 _
      refine gsIf (t := 72) (C := n13 = 0) (r := []) dM_151_56 (fun _ => rfl) (Or.inr rfl) (rTest_iff .eq n13 0) (fun c14 => ?_) (fun c14 => ?_)
      · replace hnn := hnn.1 c14
        refine gs0 73 [(5, .inl n9), (0, .inr (.inr (some 725))), (1, .inl y1), (3, .inl y3), (4, .inl y4)] [.inl 0] dM_151_72 (fun _ => rfl) (Or.inr rfl) ?_
        refine gs0 75 [(4, .inl 0), (5, .inl n9), (0, .inr (.inr (some 725))), (1, .inl y1), (3, .inl y3)] [] dM_151_73 (fun _ => rfl) (Or.inr rfl) ?_
        refine gs0 77 [(4, .inl 0), (5, .inl n9), (0, .inr (.inr (some 725))), (1, .inl y1), (3, .inl y3)] [.inl n9] dM_151_75 (fun _ => rfl) (Or.inr rfl) ?_
        refine gs0 78 [(4, .inl 0), (5, .inl n9), (0, .inr (.inr (some 725))), (1, .inl y1), (3, .inl y3)] [.inl 2, .inl n9] dM_151_77 (fun _ => rfl) (Or.inr rfl) ?_
        refine gs0 79 [(4, .inl 0), (5, .inl n9), (0, .inr (.inr (some 725))), (1, .inl y1), (3, .inl y3)] [.inl (n9 / 2)] dM_151_78 (fun _ => rfl) (Or.inr rfl) ?_
        refine gs0 81 [(4, .inl 0), (5, .inl n9), (0, .inr (.inr (some 725))), (1, .inl y1), (3, .inl y3)] [.inl 75, .inl (n9 / 2)] dM_151_79 (fun _ => rfl) (Or.inr rfl) ?_
        refine gsIf (t := 90) (C := (n9 / 2) < 75) (r := []) dM_151_81 (fun _ => rfl) (Or.inr rfl) (rTest_iff .lt (n9 / 2) 75) (fun c15 => ?_) (fun c15 => ?_)
        · replace hnn := hnn.1 c15
          refine gs0 13 [(4, .inl 0), (5, .inl n9), (0, .inr (.inr (some 725))), (1, .inl y1), (3, .inl y3)] [] dM_151_90 (fun _ => rfl) (Or.inr rfl) ?_
          exact GoS.sub (Lnd_keys (ks := [0, 1, 3, 4]) rfl (by decide)) (Lsub_cons rfl (Lsub_cons rfl (Lsub_cons rfl (Lsub_cons rfl Lsub_nil)))) hnn
        · replace hnn := hnn.2 c15
          refine gs0 85 [(4, .inl 0), (5, .inl n9), (0, .inr (.inr (some 725))), (1, .inl y1), (3, .inl y3)] [.inr (.inr (some 725))] dM_151_84 (fun _ => rfl) (Or.inr rfl) ?_
          refine gs0 87 [(4, .inl 0), (5, .inl n9), (0, .inr (.inr (some 725))), (1, .inl y1), (3, .inl y3)] [.inl n9, .inr (.inr (some 725))] dM_151_85 (fun _ => rfl) (Or.inr rfl) ?_
          refine gsCallV (y := 152) (k := 725) (as := [.inr (.inr (some 725)), .inl n9]) (r := []) dM_151_87 rfl rfl rfl (Nat.le_of_ble_eq_true rfl) sk_725 rfl (Nat.le_of_ble_eq_true rfl) (EvS.up hnn (Nat.le_of_ble_eq_true rfl)) (fun v16 t17 hv18 => ?_)
          obtain ⟨rfl, hnnn⟩ := hv18
          clear hnn
          show GoS _ _ _ _ _ _ _ _ [(4, .inl 0), (5, .inl n9), (0, .inr (.inr (some 725))), (1, .inl y1), (3, .inl y3)] [] t17 _
          refine gs0 13 [(4, .inl 0), (5, .inl n9), (0, .inr (.inr (some 725))), (1, .inl y1), (3, .inl y3)] [] dM_151_90 (fun _ => rfl) (Or.inr rfl) ?_
          exact GoS.sub (Lnd_keys (ks := [0, 1, 3, 4]) rfl (by decide)) (Lsub_cons rfl (Lsub_cons rfl (Lsub_cons rfl (Lsub_cons rfl Lsub_nil)))) hnnn
      · replace hnn := hnn.2 c14
        refine gs0 61 [(5, .inl n9), (0, .inr (.inr (some 725))), (1, .inl y1), (3, .inl y3), (4, .inl y4)] [.inl n9] dM_151_59 (fun _ => rfl) (Or.inr rfl) ?_
        refine gsCallS (y := 148) (as := [.inl n9]) (r := []) dM_151_61 rfl (Or.inl rfl) rfl rfl (Nat.le_of_ble_eq_true rfl) (EvS.up hnn (Nat.le_of_ble_eq_true rfl)) (fun v19 t20 hv21 => ?_)
        obtain ⟨n22, rfl, hnnn⟩ := hv21
        clear hnn
        show GoS _ _ _ _ _ _ _ _ [(5, .inl n9), (0, .inr (.inr (some 725))), (1, .inl y1), (3, .inl y3), (4, .inl y4)] [.inl n22] t20 _
        refine gs0 65 [(5, .inl n9), (0, .inr (.inr (some 725))), (1, .inl y1), (3, .inl y3), (4, .inl y4)] [.inl y1, .inl n22] dM_151_64 (fun _ => rfl) (Or.inr rfl) ?_
        refine gsIf (t := 72) (C := ¬ n22 = y1) (r := []) dM_151_65 (fun _ => rfl) (Or.inr rfl) (rTest_iff .ne n22 y1) (fun c23 => ?_) (fun c23 => ?_)
        · replace hnnn := hnnn.1 c23
          refine gs0 73 [(5, .inl n9), (0, .inr (.inr (some 725))), (1, .inl y1), (3, .inl y3), (4, .inl y4)] [.inl 0] dM_151_72 (fun _ => rfl) (Or.inr rfl) ?_
          refine gs0 75 [(4, .inl 0), (5, .inl n9), (0, .inr (.inr (some 725))), (1, .inl y1), (3, .inl y3)] [] dM_151_73 (fun _ => rfl) (Or.inr rfl) ?_
          refine gs0 77 [(4, .inl 0), (5, .inl n9), (0, .inr (.inr (some 725))), (1, .inl y1), (3, .inl y3)] [.inl n9] dM_151_75 (fun _ => rfl) (Or.inr rfl) ?_
          refine gs0 78 [(4, .inl 0), (5, .inl n9), (0, .inr (.inr (some 725))), (1, .inl y1), (3, .inl y3)] [.inl 2, .inl n9] dM_151_77 (fun _ => rfl) (Or.inr rfl) ?_
          refine gs0 79 [(4, .inl 0), (5, .inl n9), (0, .inr (.inr (some 725))), (1, .inl y1), (3, .inl y3)] [.inl (n9 / 2)] dM_151_78 (fun _ => rfl) (Or.inr rfl) ?_
          refine gs0 81 [(4, .inl 0), (5, .inl n9), (0, .inr (.inr (some 725))), (1, .inl y1), (3, .inl y3)] [.inl 75, .inl (n9 / 2)] dM_151_79 (fun _ => rfl) (Or.inr rfl) ?_
          refine gsIf (t := 90) (C := (n9 / 2) < 75) (r := []) dM_151_81 (fun _ => rfl) (Or.inr rfl) (rTest_iff .lt (n9 / 2) 75) (fun c24 => ?_) (fun c24 => ?_)
          · replace hnnn := hnnn.1 c24
            refine gs0 13 [(4, .inl 0), (5, .inl n9), (0, .inr (.inr (some 725))), (1, .inl y1), (3, .inl y3)] [] dM_151_90 (fun _ => rfl) (Or.inr rfl) ?_
            exact GoS.sub (Lnd_keys (ks := [0, 1, 3, 4]) rfl (by decide)) (Lsub_cons rfl (Lsub_cons rfl (Lsub_cons rfl (Lsub_cons rfl Lsub_nil)))) hnnn
          · replace hnnn := hnnn.2 c24
            refine gs0 85 [(4, .inl 0), (5, .inl n9), (0, .inr (.inr (some 725))), (1, .inl y1), (3, .inl y3)] [.inr (.inr (some 725))] dM_151_84 (fun _ => rfl) (Or.inr rfl) ?_
            refine gs0 87 [(4, .inl 0), (5, .inl n9), (0, .inr (.inr (some 725))), (1, .inl y1), (3, .inl y3)] [.inl n9, .inr (.inr (some 725))] dM_151_85 (fun _ => rfl) (Or.inr rfl) ?_
            refine gsCallV (y := 152) (k := 725) (as := [.inr (.inr (some 725)), .inl n9]) (r := []) dM_151_87 rfl rfl rfl (Nat.le_of_ble_eq_true rfl) sk_725 rfl (Nat.le_of_ble_eq_true rfl) (EvS.up hnnn (Nat.le_of_ble_eq_true rfl)) (fun v25 t26 hv27 => ?_)
            obtain ⟨rfl, hnnnn⟩ := hv27
            clear hnnn
            show GoS _ _ _ _ _ _ _ _ [(4, .inl 0), (5, .inl n9), (0, .inr (.inr (some 725))), (1, .inl y1), (3, .inl y3)] [] t26 _
            refine gs0 13 [(4, .inl 0), (5, .inl n9), (0, .inr (.inr (some 725))), (1, .inl y1), (3, .inl y3)] [] dM_151_90 (fun _ => rfl) (Or.inr rfl) ?_
            exact GoS.sub (Lnd_keys (ks := [0, 1, 3, 4]) rfl (by decide)) (Lsub_cons rfl (Lsub_cons rfl (Lsub_cons rfl (Lsub_cons rfl Lsub_nil)))) hnnnn
        · replace hnnn := hnnn.2 c23
          refine gs0 69 [(5, .inl n9), (0, .inr (.inr (some 725))), (1, .inl y1), (3, .inl y3), (4, .inl y4)] [.inl 1] dM_151_68 (fun _ => rfl) (Or.inr rfl) ?_
          refine gs0 73 [(5, .inl n9), (0, .inr (.inr (some 725))), (1, .inl y1), (3, .inl y3), (4, .inl y4)] [.inl 1] dM_151_69 (fun _ => rfl) (Or.inr rfl) ?_
          refine gs0 75 [(4, .inl 1), (5, .inl n9), (0, .inr (.inr (some 725))), (1, .inl y1), (3, .inl y3)] [] dM_151_73 (fun _ => rfl) (Or.inr rfl) ?_
          refine gs0 77 [(4, .inl 1), (5, .inl n9), (0, .inr (.inr (some 725))), (1, .inl y1), (3, .inl y3)] [.inl n9] dM_151_75 (fun _ => rfl) (Or.inr rfl) ?_
          refine gs0 78 [(4, .inl 1), (5, .inl n9), (0, .inr (.inr (some 725))), (1, .inl y1), (3, .inl y3)] [.inl 2, .inl n9] dM_151_77 (fun _ => rfl) (Or.inr rfl) ?_
          refine gs0 79 [(4, .inl 1), (5, .inl n9), (0, .inr (.inr (some 725))), (1, .inl y1), (3, .inl y3)] [.inl (n9 / 2)] dM_151_78 (fun _ => rfl) (Or.inr rfl) ?_
          refine gs0 81 [(4, .inl 1), (5, .inl n9), (0, .inr (.inr (some 725))), (1, .inl y1), (3, .inl y3)] [.inl 75, .inl (n9 / 2)] dM_151_79 (fun _ => rfl) (Or.inr rfl) ?_
          refine gsIf (t := 90) (C := (n9 / 2) < 75) (r := []) dM_151_81 (fun _ => rfl) (Or.inr rfl) (rTest_iff .lt (n9 / 2) 75) (fun c28 => ?_) (fun c28 => ?_)
          · replace hnnn := hnnn.1 c28
            refine gs0 13 [(4, .inl 1), (5, .inl n9), (0, .inr (.inr (some 725))), (1, .inl y1), (3, .inl y3)] [] dM_151_90 (fun _ => rfl) (Or.inr rfl) ?_
            exact GoS.sub (Lnd_keys (ks := [0, 1, 3, 4]) rfl (by decide)) (Lsub_cons rfl (Lsub_cons rfl (Lsub_cons rfl (Lsub_cons rfl Lsub_nil)))) hnnn
          · replace hnnn := hnnn.2 c28
            refine gs0 85 [(4, .inl 1), (5, .inl n9), (0, .inr (.inr (some 725))), (1, .inl y1), (3, .inl y3)] [.inr (.inr (some 725))] dM_151_84 (fun _ => rfl) (Or.inr rfl) ?_
            refine gs0 87 [(4, .inl 1), (5, .inl n9), (0, .inr (.inr (some 725))), (1, .inl y1), (3, .inl y3)] [.inl n9, .inr (.inr (some 725))] dM_151_85 (fun _ => rfl) (Or.inr rfl) ?_
            refine gsCallV (y := 152) (k := 725) (as := [.inr (.inr (some 725)), .inl n9]) (r := []) dM_151_87 rfl rfl rfl (Nat.le_of_ble_eq_true rfl) sk_725 rfl (Nat.le_of_ble_eq_true rfl) (EvS.up hnnn (Nat.le_of_ble_eq_true rfl)) (fun v29 t30 hv31 => ?_)
            obtain ⟨rfl, hnnnn⟩ := hv31
            clear hnnn
            show GoS _ _ _ _ _ _ _ _ [(4, .inl 1), (5, .inl n9), (0, .inr (.inr (some 725))), (1, .inl y1), (3, .inl y3)] [] t30 _
            refine gs0 13 [(4, .inl 1), (5, .inl n9), (0, .inr (.inr (some 725))), (1, .inl y1), (3, .inl y3)] [] dM_151_90 (fun _ => rfl) (Or.inr rfl) ?_
            exact GoS.sub (Lnd_keys (ks := [0, 1, 3, 4]) rfl (by decide)) (Lsub_cons rfl (Lsub_cons rfl (Lsub_cons rfl (Lsub_cons rfl Lsub_nil)))) hnnnn
set_option maxRecDepth 100000 in
/-- GoalsInAQueueModel.isWithin -/
theorem w_151 (sg : rSg) (x1 : Int32) (x2 : Int32) {P : Option rv → rSg → Prop} (h :
    EvS rSkel 1 118 [.inr (.inr (some 725)), .inl x2] sg (fun v1 t2 => v1 = none ∧
      g_151_13 x1 (sg 725 17) 0 t2 P)) : EvS rSkel 3 151 [.inr (.inr (some 725)), .inl x1, .inl x2] sg P := by
  refine EvS.of (ini := false) rfl ⟨rfl, Nat.le_of_ble_eq_true rfl⟩ rfl ?_
  show GoS rSkel 2 9 6 (some .boolean) false prog_11_method_16_code 0 [(0, .inr (.inr (some 725))), (1, .inl x1), (2, .inl x2)] [] sg _
  refine gs0 1 [(0, .inr (.inr (some 725))), (1, .inl x1), (2, .inl x2)] [.inr (.inr (some 725))] dM_151_0 (fun _ => rfl) (Or.inr rfl) ?_
  refine gsGetE (sg 725 17) dM_151_1 sk_725 rfl rfl rfl ?_
  refine gs0 5 [(3, .inl (sg 725 17)), (0, .inr (.inr (some 725))), (1, .inl x1), (2, .inl x2)] [] dM_151_4 (fun _ => rfl) (Or.inr rfl) ?_
  refine gs0 6 [(3, .inl (sg 725 17)), (0, .inr (.inr (some 725))), (1, .inl x1), (2, .inl x2)] [.inl 0] dM_151_5 (fun _ => rfl) (Or.inr rfl) ?_
  refine gs0 8 [(4, .inl 0), (3, .inl (sg 725 17)), (0, .inr (.inr (some 725))), (1, .inl x1), (2, .inl x2)] [] dM_151_6 (fun _ => rfl) (Or.inr rfl) ?_
  refine gs0 9 [(4, .inl 0), (3, .inl (sg 725 17)), (0, .inr (.inr (some 725))), (1, .inl x1), (2, .inl x2)] [.inr (.inr (some 725))] dM_151_8 (fun _ => rfl) (Or.inr rfl) ?_
  refine gs0 10 [(4, .inl 0), (3, .inl (sg 725 17)), (0, .inr (.inr (some 725))), (1, .inl x1), (2, .inl x2)] [.inl x2, .inr (.inr (some 725))] dM_151_9 (fun _ => rfl) (Or.inr rfl) ?_
  refine gsCallV (y := 118) (k := 725) (as := [.inr (.inr (some 725)), .inl x2]) (r := []) dM_151_10 rfl rfl rfl (Nat.le_of_ble_eq_true rfl) sk_725 rfl (Nat.le_of_ble_eq_true rfl) (EvS.up h (Nat.le_of_ble_eq_true rfl)) (fun v1 t2 hv3 => ?_)
  obtain ⟨rfl, hn⟩ := hv3
  clear h
  show GoS _ _ _ _ _ _ _ _ [(4, .inl 0), (3, .inl (sg 725 17)), (0, .inr (.inr (some 725))), (1, .inl x1), (2, .inl x2)] [] t2 _
  exact GoS.sub (Lnd_keys (ks := [0, 1, 3, 4]) rfl (by decide)) (Lsub_cons rfl (Lsub_cons rfl (Lsub_cons rfl (Lsub_cons rfl Lsub_nil)))) hn
set_option maxRecDepth 100000 in
/-- GoalsInAQueueModel.pilesParts -/
theorem w_152 (sg : rSg) (x1 : Int32) {P : Option rv → rSg → Prop} (h :
    (rIn (x1 / 2) 6000 = true ∧
    EvS rSkel 1 118 [.inr (.inr (some 725)), .inl ((2 * (sg 727 ((x1 / 2).toNatClampNeg))) + (irem x1 2))] sg (fun v1 t2 => v1 = none ∧
      (rIn (x1 / 2) 6000 = true ∧
      EvS rSkel 1 118 [.inr (.inr (some 725)), .inl ((2 * (t2 728 ((x1 / 2).toNatClampNeg))) + (irem x1 2))] t2 (fun v4 t5 => v4 = none ∧
        P none t5))))) : EvS rSkel 2 152 [.inr (.inr (some 725)), .inl x1] sg P := by
  refine EvS.of (ini := false) rfl ⟨rfl, Nat.le_of_ble_eq_true rfl⟩ rfl ?_
  show GoS rSkel 1 9 2 none false prog_11_method_15_code 0 [(0, .inr (.inr (some 725))), (1, .inl x1)] [] sg _
  refine gs0 1 [(0, .inr (.inr (some 725))), (1, .inl x1)] [.inr (.inr (some 725))] dM_152_0 (fun _ => rfl) (Or.inr rfl) ?_
  refine gs0 2 [(0, .inr (.inr (some 725))), (1, .inl x1)] [.inl 2, .inr (.inr (some 725))] dM_152_1 (fun _ => rfl) (Or.inr rfl) ?_
  refine gs0 3 [(0, .inr (.inr (some 725))), (1, .inl x1)] [.inr (.inr (some 725)), .inl 2, .inr (.inr (some 725))] dM_152_2 (fun _ => rfl) (Or.inr rfl) ?_
  refine gsGetR (some 727) dM_152_3 sk_725 rfl rfl ?_
  refine gs0 7 [(0, .inr (.inr (some 725))), (1, .inl x1)] [.inl x1, .inr (.inr (some 727)), .inl 2, .inr (.inr (some 725))] dM_152_6 (fun _ => rfl) (Or.inr rfl) ?_
  refine gs0 8 [(0, .inr (.inr (some 725))), (1, .inl x1)] [.inl 2, .inl x1, .inr (.inr (some 727)), .inl 2, .inr (.inr (some 725))] dM_152_7 (fun _ => rfl) (Or.inr rfl) ?_
  refine gs0 9 [(0, .inr (.inr (some 725))), (1, .inl x1)] [.inl (x1 / 2), .inr (.inr (some 727)), .inl 2, .inr (.inr (some 725))] dM_152_8 (fun _ => rfl) (Or.inr rfl) ?_
  refine gsIaldN ((x1 / 2).toNatClampNeg) (sg 727 ((x1 / 2).toNatClampNeg)) dM_152_9 sk_727 h.1 rfl rfl ?_
  replace h := h.2
  refine gs0 11 [(0, .inr (.inr (some 725))), (1, .inl x1)] [.inl (2 * (sg 727 ((x1 / 2).toNatClampNeg))), .inr (.inr (some 725))] dM_152_10 (fun _ => rfl) (Or.inr rfl) ?_
  refine gs0 12 [(0, .inr (.inr (some 725))), (1, .inl x1)] [.inl x1, .inl (2 * (sg 727 ((x1 / 2).toNatClampNeg))), .inr (.inr (some 725))] dM_152_11 (fun _ => rfl) (Or.inr rfl) ?_
  refine gs0 13 [(0, .inr (.inr (some 725))), (1, .inl x1)] [.inl 2, .inl x1, .inl (2 * (sg 727 ((x1 / 2).toNatClampNeg))), .inr (.inr (some 725))] dM_152_12 (fun _ => rfl) (Or.inr rfl) ?_
  refine gs0 14 [(0, .inr (.inr (some 725))), (1, .inl x1)] [.inl (irem x1 2), .inl (2 * (sg 727 ((x1 / 2).toNatClampNeg))), .inr (.inr (some 725))] dM_152_13 (fun _ => rfl) (Or.inr rfl) ?_
  refine gs0 15 [(0, .inr (.inr (some 725))), (1, .inl x1)] [.inl ((2 * (sg 727 ((x1 / 2).toNatClampNeg))) + (irem x1 2)), .inr (.inr (some 725))] dM_152_14 (fun _ => rfl) (Or.inr rfl) ?_
  refine gsCallV (y := 118) (k := 725) (as := [.inr (.inr (some 725)), .inl ((2 * (sg 727 ((x1 / 2).toNatClampNeg))) + (irem x1 2))]) (r := []) dM_152_15 rfl rfl rfl (Nat.le_of_ble_eq_true rfl) sk_725 rfl (Nat.le_of_ble_eq_true rfl) (EvS.up h (Nat.le_of_ble_eq_true rfl)) (fun v1 t2 hv3 => ?_)
  obtain ⟨rfl, hn⟩ := hv3
  clear h
  show GoS _ _ _ _ _ _ _ _ [(0, .inr (.inr (some 725))), (1, .inl x1)] [] t2 _
  refine gs0 19 [(0, .inr (.inr (some 725))), (1, .inl x1)] [.inr (.inr (some 725))] dM_152_18 (fun _ => rfl) (Or.inr rfl) ?_
  refine gs0 20 [(0, .inr (.inr (some 725))), (1, .inl x1)] [.inl 2, .inr (.inr (some 725))] dM_152_19 (fun _ => rfl) (Or.inr rfl) ?_
  refine gs0 21 [(0, .inr (.inr (some 725))), (1, .inl x1)] [.inr (.inr (some 725)), .inl 2, .inr (.inr (some 725))] dM_152_20 (fun _ => rfl) (Or.inr rfl) ?_
  refine gsGetR (some 728) dM_152_21 sk_725 rfl rfl ?_
  refine gs0 25 [(0, .inr (.inr (some 725))), (1, .inl x1)] [.inl x1, .inr (.inr (some 728)), .inl 2, .inr (.inr (some 725))] dM_152_24 (fun _ => rfl) (Or.inr rfl) ?_
  refine gs0 26 [(0, .inr (.inr (some 725))), (1, .inl x1)] [.inl 2, .inl x1, .inr (.inr (some 728)), .inl 2, .inr (.inr (some 725))] dM_152_25 (fun _ => rfl) (Or.inr rfl) ?_
  refine gs0 27 [(0, .inr (.inr (some 725))), (1, .inl x1)] [.inl (x1 / 2), .inr (.inr (some 728)), .inl 2, .inr (.inr (some 725))] dM_152_26 (fun _ => rfl) (Or.inr rfl) ?_
  refine gsIaldN ((x1 / 2).toNatClampNeg) (t2 728 ((x1 / 2).toNatClampNeg)) dM_152_27 sk_728 hn.1 rfl rfl ?_
  replace hn := hn.2
  refine gs0 29 [(0, .inr (.inr (some 725))), (1, .inl x1)] [.inl (2 * (t2 728 ((x1 / 2).toNatClampNeg))), .inr (.inr (some 725))] dM_152_28 (fun _ => rfl) (Or.inr rfl) ?_
  refine gs0 30 [(0, .inr (.inr (some 725))), (1, .inl x1)] [.inl x1, .inl (2 * (t2 728 ((x1 / 2).toNatClampNeg))), .inr (.inr (some 725))] dM_152_29 (fun _ => rfl) (Or.inr rfl) ?_
  refine gs0 31 [(0, .inr (.inr (some 725))), (1, .inl x1)] [.inl 2, .inl x1, .inl (2 * (t2 728 ((x1 / 2).toNatClampNeg))), .inr (.inr (some 725))] dM_152_30 (fun _ => rfl) (Or.inr rfl) ?_
  refine gs0 32 [(0, .inr (.inr (some 725))), (1, .inl x1)] [.inl (irem x1 2), .inl (2 * (t2 728 ((x1 / 2).toNatClampNeg))), .inr (.inr (some 725))] dM_152_31 (fun _ => rfl) (Or.inr rfl) ?_
  refine gs0 33 [(0, .inr (.inr (some 725))), (1, .inl x1)] [.inl ((2 * (t2 728 ((x1 / 2).toNatClampNeg))) + (irem x1 2)), .inr (.inr (some 725))] dM_152_32 (fun _ => rfl) (Or.inr rfl) ?_
  refine gsCallV (y := 118) (k := 725) (as := [.inr (.inr (some 725)), .inl ((2 * (t2 728 ((x1 / 2).toNatClampNeg))) + (irem x1 2))]) (r := []) dM_152_33 rfl rfl rfl (Nat.le_of_ble_eq_true rfl) sk_725 rfl (Nat.le_of_ble_eq_true rfl) (EvS.up hn (Nat.le_of_ble_eq_true rfl)) (fun v4 t5 hv6 => ?_)
  obtain ⟨rfl, hnn⟩ := hv6
  clear hn
  show GoS _ _ _ _ _ _ _ _ [(0, .inr (.inr (some 725))), (1, .inl x1)] [] t5 _
  refine gsRet (r := none) dM_152_36 (fun _ => rfl) (Or.inr rfl) ?_
  exact hnn
set_option maxRecDepth 100000 in
/-- GoalsInAQueueModel.goesOn -/
theorem w_153 (sg : rSg) (x1 : Int32) {P : Option rv → rSg → Prop} (h :
    (x1 = 0 → 
      P none sg) ∧
    (¬ (x1 = 0) → 
      EvS rSkel 9 154 [.inr (.inr (some 725))] sg (fun v2 t3 => ∃ n5, v2 = some (.inl n5) ∧
        (n5 = 0 → 
          P none t3) ∧
        (¬ (n5 = 0) → 
          EvS rSkel 2 124 [.inr (.inr (some 725))] t3 (fun v7 t8 => v7 = none ∧
            P none t8))))) : EvS rSkel 10 153 [.inr (.inr (some 725)), .inl x1] sg P := by
  refine EvS.of (ini := false) rfl ⟨rfl, Nat.le_of_ble_eq_true rfl⟩ rfl ?_
  show GoS rSkel 9 9 2 none false prog_11_method_30_code 0 [(0, .inr (.inr (some 725))), (1, .inl x1)] [] sg _
  refine gs0 1 [(0, .inr (.inr (some 725))), (1, .inl x1)] [.inl x1] dM_153_0 (fun _ => rfl) (Or.inr rfl) ?_
  refine gsIf (t := 15) (C := x1 = 0) (r := []) dM_153_1 (fun _ => rfl) (Or.inr rfl) (rTest_iff .eq x1 0) (fun c1 => ?_) (fun c1 => ?_)
  · replace h := h.1 c1
    refine gsRet (r := none) dM_153_15 (fun _ => rfl) (Or.inr rfl) ?_
    exact h
  · replace h := h.2 c1
    refine gs0 5 [(0, .inr (.inr (some 725))), (1, .inl x1)] [.inr (.inr (some 725))] dM_153_4 (fun _ => rfl) (Or.inr rfl) ?_
    refine gsCallV (y := 154) (k := 725) (as := [.inr (.inr (some 725))]) (r := []) dM_153_5 rfl rfl rfl (Nat.le_of_ble_eq_true rfl) sk_725 rfl (Nat.le_of_ble_eq_true rfl) (EvS.up h (Nat.le_of_ble_eq_true rfl)) (fun v2 t3 hv4 => ?_)
    obtain ⟨n5, rfl, hn⟩ := hv4
    clear h
    show GoS _ _ _ _ _ _ _ _ [(0, .inr (.inr (some 725))), (1, .inl x1)] [.inl n5] t3 _
    refine gsIf (t := 15) (C := n5 = 0) (r := []) dM_153_8 (fun _ => rfl) (Or.inr rfl) (rTest_iff .eq n5 0) (fun c6 => ?_) (fun c6 => ?_)
    · replace hn := hn.1 c6
      refine gsRet (r := none) dM_153_15 (fun _ => rfl) (Or.inr rfl) ?_
      exact hn
    · replace hn := hn.2 c6
      refine gs0 12 [(0, .inr (.inr (some 725))), (1, .inl x1)] [.inr (.inr (some 725))] dM_153_11 (fun _ => rfl) (Or.inr rfl) ?_
      refine gsCallV (y := 124) (k := 725) (as := [.inr (.inr (some 725))]) (r := []) dM_153_12 rfl rfl rfl (Nat.le_of_ble_eq_true rfl) sk_725 rfl (Nat.le_of_ble_eq_true rfl) (EvS.up hn (Nat.le_of_ble_eq_true rfl)) (fun v7 t8 hv9 => ?_)
      obtain ⟨rfl, hnn⟩ := hv9
      clear hn
      show GoS _ _ _ _ _ _ _ _ [(0, .inr (.inr (some 725))), (1, .inl x1)] [] t8 _
      refine gsRet (r := none) dM_153_15 (fun _ => rfl) (Or.inr rfl) ?_
      exact hnn
def g_154_7  (y1 : Int32) (y2 : Int32) (sg : rSg) (P : Option rv → rSg → Prop) : Prop := GoS rSkel 8 9 4 (some .boolean) false prog_11_method_28_code 7 [(0, .inr (.inr (some 725))), (1, .inl y1), (2, .inl y2)] [] sg P
set_option maxRecDepth 100000 in
theorem w_154_7 (sg : rSg)  (y1 : Int32) (y2 : Int32) {P : Option rv → rSg → Prop} (h :
    (y2 ≤ 0 → 
      (y1 = 0 → 
        P (some (.inl 1)) sg) ∧
      (¬ (y1 = 0) → 
        EvS rSkel 8 157 [.inr (.inr (some 725))] sg (fun v3 t4 => v3 = none ∧
          P (some (.inl 1)) t4))) ∧
    (¬ (y2 ≤ 0) → 
      EvS rSkel 7 155 [.inr (.inr (some 725)), .inl y2] sg (fun v6 t7 => ∃ n9, v6 = some (.inl n9) ∧
        (¬ n9 = 0 → 
          (¬ n9 = 2 → 
            (rIn y2 20000 = true ∧
            g_154_7 (y1 ||| 0) (t7 735 y2.toNatClampNeg) t7 P)) ∧
          (¬ (¬ n9 = 2) → 
            (rIn y2 20000 = true ∧
            g_154_7 (y1 ||| 1) (t7 735 y2.toNatClampNeg) t7 P))) ∧
        (¬ (¬ n9 = 0) → 
          P (some (.inl 0)) t7)))) : g_154_7 y1 y2 sg P := by
  show GoS rSkel 8 9 4 (some .boolean) false prog_11_method_28_code 7 [(0, .inr (.inr (some 725))), (1, .inl y1), (2, .inl y2)] [] sg P
  refine gs0 8 [(0, .inr (.inr (some 725))), (1, .inl y1), (2, .inl y2)] [.inl y2] dM_154_7 (fun _ => rfl) (Or.inr rfl) ?_
  refine gsIf (t := 46) (C := y2 ≤ 0) (r := []) dM_154_8 (fun _ => rfl) (Or.inr rfl) (rTest_iff .le y2 0) (fun c1 => ?_) (fun c1 => ?_)
  · replace h := h.1 c1
    refine gs0 47 [(0, .inr (.inr (some 725))), (1, .inl y1), (2, .inl y2)] [.inl y1] dM_154_46 (fun _ => rfl) (Or.inr rfl) ?_
    refine gsIf (t := 54) (C := y1 = 0) (r := []) dM_154_47 (fun _ => rfl) (Or.inr rfl) (rTest_iff .eq y1 0) (fun c2 => ?_) (fun c2 => ?_)
    · replace h := h.1 c2
      refine gs0 55 [(0, .inr (.inr (some 725))), (1, .inl y1), (2, .inl y2)] [.inl 1] dM_154_54 (fun _ => rfl) (Or.inr rfl) ?_
      refine gsRet (r := some (.inl 1)) dM_154_55 (fun _ => rfl) (Or.inr rfl) ?_
      exact h
    · replace h := h.2 c2
      refine gs0 51 [(0, .inr (.inr (some 725))), (1, .inl y1), (2, .inl y2)] [.inr (.inr (some 725))] dM_154_50 (fun _ => rfl) (Or.inr rfl) ?_
      refine gsCallV (y := 157) (k := 725) (as := [.inr (.inr (some 725))]) (r := []) dM_154_51 rfl rfl rfl (Nat.le_of_ble_eq_true rfl) sk_725 rfl (Nat.le_of_ble_eq_true rfl) (EvS.up h (Nat.le_of_ble_eq_true rfl)) (fun v3 t4 hv5 => ?_)
      obtain ⟨rfl, hn⟩ := hv5
      clear h
      show GoS _ _ _ _ _ _ _ _ [(0, .inr (.inr (some 725))), (1, .inl y1), (2, .inl y2)] [] t4 _
      refine gs0 55 [(0, .inr (.inr (some 725))), (1, .inl y1), (2, .inl y2)] [.inl 1] dM_154_54 (fun _ => rfl) (Or.inr rfl) ?_
      refine gsRet (r := some (.inl 1)) dM_154_55 (fun _ => rfl) (Or.inr rfl) ?_
      exact hn
  · replace h := h.2 c1
    refine gs0 12 [(0, .inr (.inr (some 725))), (1, .inl y1), (2, .inl y2)] [.inr (.inr (some 725))] dM_154_11 (fun _ => rfl) (Or.inr rfl) ?_
    refine gs0 13 [(0, .inr (.inr (some 725))), (1, .inl y1), (2, .inl y2)] [.inl y2, .inr (.inr (some 725))] dM_154_12 (fun _ => rfl) (Or.inr rfl) ?_
    refine gsCallV (y := 155) (k := 725) (as := [.inr (.inr (some 725)), .inl y2]) (r := []) dM_154_13 rfl rfl rfl (Nat.le_of_ble_eq_true rfl) sk_725 rfl (Nat.le_of_ble_eq_true rfl) (EvS.up h (Nat.le_of_ble_eq_true rfl)) (fun v6 t7 hv8 => ?_)
    obtain ⟨n9, rfl, hn⟩ := hv8
    clear h
    show GoS _ _ _ _ _ _ _ _ [(0, .inr (.inr (some 725))), (1, .inl y1), (2, .inl y2)] [.inl n9] t7 _
    refine gs0 17 [(3, .inl n9), (0, .inr (.inr (some 725))), (1, .inl y1), (2, .inl y2)] [] dM_154_16 (fun _ => rfl) (Or.inr rfl) ?_
    refine gs0 18 [(3, .inl n9), (0, .inr (.inr (some 725))), (1, .inl y1), (2, .inl y2)] [.inl n9] dM_154_17 (fun _ => rfl) (Or.inr rfl) ?_
    refine gsIf (t := 23) (C := ¬ n9 = 0) (r := []) dM_154_18 (fun _ => rfl) (Or.inr rfl) (rTest_iff .ne n9 0) (fun c10 => ?_) (fun c10 => ?_)
    · replace hn := hn.1 c10
      refine gs0 24 [(3, .inl n9), (0, .inr (.inr (some 725))), (1, .inl y1), (2, .inl y2)] [.inl y1] dM_154_23 (fun _ => rfl) (Or.inr rfl) ?_
      refine gs0 25 [(3, .inl n9), (0, .inr (.inr (some 725))), (1, .inl y1), (2, .inl y2)] [.inl n9, .inl y1] dM_154_24 (fun _ => rfl) (Or.inr rfl) ?_
      refine gs0 26 [(3, .inl n9), (0, .inr (.inr (some 725))), (1, .inl y1), (2, .inl y2)] [.inl 2, .inl n9, .inl y1] dM_154_25 (fun _ => rfl) (Or.inr rfl) ?_
      refine gsIf (t := 33) (C := ¬ n9 = 2) (r := [.inl y1]) dM_154_26 (fun _ => rfl) (Or.inr rfl) (rTest_iff .ne n9 2) (fun c11 => ?_) (fun c11 => ?_)
      · replace hn := hn.1 c11
        refine gs0 34 [(3, .inl n9), (0, .inr (.inr (some 725))), (1, .inl y1), (2, .inl y2)] [.inl 0, .inl y1] dM_154_33 (fun _ => rfl) (Or.inr rfl) ?_
        refine gs0 35 [(3, .inl n9), (0, .inr (.inr (some 725))), (1, .inl y1), (2, .inl y2)] [.inl (y1 ||| 0)] dM_154_34 (fun _ => rfl) (Or.inr rfl) ?_
        refine gs0 36 [(1, .inl (y1 ||| 0)), (3, .inl n9), (0, .inr (.inr (some 725))), (2, .inl y2)] [] dM_154_35 (fun _ => rfl) (Or.inr rfl) ?_
        refine gs0 37 [(1, .inl (y1 ||| 0)), (3, .inl n9), (0, .inr (.inr (some 725))), (2, .inl y2)] [.inr (.inr (some 725))] dM_154_36 (fun _ => rfl) (Or.inr rfl) ?_
        refine gsGetR (some 735) dM_154_37 sk_725 rfl rfl ?_
        refine gs0 41 [(1, .inl (y1 ||| 0)), (3, .inl n9), (0, .inr (.inr (some 725))), (2, .inl y2)] [.inl y2, .inr (.inr (some 735))] dM_154_40 (fun _ => rfl) (Or.inr rfl) ?_
        refine gsIaldN y2.toNatClampNeg (t7 735 y2.toNatClampNeg) dM_154_41 sk_735 hn.1 rfl rfl ?_
        replace hn := hn.2
        refine gs0 43 [(2, .inl (t7 735 y2.toNatClampNeg)), (1, .inl (y1 ||| 0)), (3, .inl n9), (0, .inr (.inr (some 725)))] [] dM_154_42 (fun _ => rfl) (Or.inr rfl) ?_
        refine gs0 7 [(2, .inl (t7 735 y2.toNatClampNeg)), (1, .inl (y1 ||| 0)), (3, .inl n9), (0, .inr (.inr (some 725)))] [] dM_154_43 (fun _ => rfl) (Or.inr rfl) ?_
        exact GoS.sub (Lnd_keys (ks := [0, 1, 2]) rfl (by decide)) (Lsub_cons rfl (Lsub_cons rfl (Lsub_cons rfl Lsub_nil))) hn
      · replace hn := hn.2 c11
        refine gs0 30 [(3, .inl n9), (0, .inr (.inr (some 725))), (1, .inl y1), (2, .inl y2)] [.inl 1, .inl y1] dM_154_29 (fun _ => rfl) (Or.inr rfl) ?_
        refine gs0 34 [(3, .inl n9), (0, .inr (.inr (some 725))), (1, .inl y1), (2, .inl y2)] [.inl 1, .inl y1] dM_154_30 (fun _ => rfl) (Or.inr rfl) ?_
        refine gs0 35 [(3, .inl n9), (0, .inr (.inr (some 725))), (1, .inl y1), (2, .inl y2)] [.inl (y1 ||| 1)] dM_154_34 (fun _ => rfl) (Or.inr rfl) ?_
        refine gs0 36 [(1, .inl (y1 ||| 1)), (3, .inl n9), (0, .inr (.inr (some 725))), (2, .inl y2)] [] dM_154_35 (fun _ => rfl) (Or.inr rfl) ?_
        refine gs0 37 [(1, .inl (y1 ||| 1)), (3, .inl n9), (0, .inr (.inr (some 725))), (2, .inl y2)] [.inr (.inr (some 725))] dM_154_36 (fun _ => rfl) (Or.inr rfl) ?_
        refine gsGetR (some 735) dM_154_37 sk_725 rfl rfl ?_
        refine gs0 41 [(1, .inl (y1 ||| 1)), (3, .inl n9), (0, .inr (.inr (some 725))), (2, .inl y2)] [.inl y2, .inr (.inr (some 735))] dM_154_40 (fun _ => rfl) (Or.inr rfl) ?_
        refine gsIaldN y2.toNatClampNeg (t7 735 y2.toNatClampNeg) dM_154_41 sk_735 hn.1 rfl rfl ?_
        replace hn := hn.2
        refine gs0 43 [(2, .inl (t7 735 y2.toNatClampNeg)), (1, .inl (y1 ||| 1)), (3, .inl n9), (0, .inr (.inr (some 725)))] [] dM_154_42 (fun _ => rfl) (Or.inr rfl) ?_
        refine gs0 7 [(2, .inl (t7 735 y2.toNatClampNeg)), (1, .inl (y1 ||| 1)), (3, .inl n9), (0, .inr (.inr (some 725)))] [] dM_154_43 (fun _ => rfl) (Or.inr rfl) ?_
        exact GoS.sub (Lnd_keys (ks := [0, 1, 2]) rfl (by decide)) (Lsub_cons rfl (Lsub_cons rfl (Lsub_cons rfl Lsub_nil))) hn
    · replace hn := hn.2 c10
      refine gs0 22 [(3, .inl n9), (0, .inr (.inr (some 725))), (1, .inl y1), (2, .inl y2)] [.inl 0] dM_154_21 (fun _ => rfl) (Or.inr rfl) ?_
      refine gsRet (r := some (.inl 0)) dM_154_22 (fun _ => rfl) (Or.inr rfl) ?_
      exact hn
set_option maxRecDepth 100000 in
/-- GoalsInAQueueModel.looks -/
theorem w_154 (sg : rSg)  {P : Option rv → rSg → Prop} (h :
    g_154_7 0 (sg 725 19) sg P) : EvS rSkel 9 154 [.inr (.inr (some 725))] sg P := by
  refine EvS.of (ini := false) rfl ⟨rfl, Nat.le_of_ble_eq_true rfl⟩ rfl ?_
  show GoS rSkel 8 9 4 (some .boolean) false prog_11_method_28_code 0 [(0, .inr (.inr (some 725)))] [] sg _
  refine gs0 1 [(0, .inr (.inr (some 725)))] [.inl 0] dM_154_0 (fun _ => rfl) (Or.inr rfl) ?_
  refine gs0 2 [(1, .inl 0), (0, .inr (.inr (some 725)))] [] dM_154_1 (fun _ => rfl) (Or.inr rfl) ?_
  refine gs0 3 [(1, .inl 0), (0, .inr (.inr (some 725)))] [.inr (.inr (some 725))] dM_154_2 (fun _ => rfl) (Or.inr rfl) ?_
  refine gsGetE (sg 725 19) dM_154_3 sk_725 rfl rfl rfl ?_
  refine gs0 7 [(2, .inl (sg 725 19)), (1, .inl 0), (0, .inr (.inr (some 725)))] [] dM_154_6 (fun _ => rfl) (Or.inr rfl) ?_
  exact GoS.sub (Lnd_keys (ks := [0, 1, 2]) rfl (by decide)) (Lsub_cons rfl (Lsub_cons rfl (Lsub_cons rfl Lsub_nil))) h
set_option maxRecDepth 100000 in
/-- GoalsInAQueueModel.looksAt -/
theorem w_155 (sg : rSg) (x1 : Int32) {P : Option rv → rSg → Prop} (h :
    (rIn x1 20000 = true ∧
    rIn x1 20000 = true ∧
    EvS rSkel 6 145 [.inr (.inr (some 725)), .inl (2 * (sg 733 x1.toNatClampNeg)), .inl (2 * (sg 734 x1.toNatClampNeg))] sg (fun v1 t2 => ∃ n4, v1 = some (.inl n4) ∧
      (n4 = 0 → 
        EvS rSkel 1 156 [.inr (.inr (some 725)), .inl (sg 725 16)] t2 (fun v6 t7 => v6 = none ∧
          (n4 = 0 → 
            P (some (.inl 2)) t7) ∧
          (¬ (n4 = 0) → 
            P (some (.inl 1)) t7))) ∧
      (¬ (n4 = 0) → 
        (¬ (t2 725 16) = (sg 725 16) → 
          EvS rSkel 1 156 [.inr (.inr (some 725)), .inl (sg 725 16)] t2 (fun v12 t13 => v12 = none ∧
            (n4 = 0 → 
              P (some (.inl 2)) t13) ∧
            (¬ (n4 = 0) → 
              P (some (.inl 1)) t13))) ∧
        (¬ (¬ (t2 725 16) = (sg 725 16)) → 
          EvS rSkel 1 156 [.inr (.inr (some 725)), .inl (sg 725 16)] t2 (fun v17 t18 => v17 = none ∧
            P (some (.inl 0)) t18)))))) : EvS rSkel 7 155 [.inr (.inr (some 725)), .inl x1] sg P := by
  refine EvS.of (ini := false) rfl ⟨rfl, Nat.le_of_ble_eq_true rfl⟩ rfl ?_
  show GoS rSkel 6 9 5 (some .int) false prog_11_method_26_code 0 [(0, .inr (.inr (some 725))), (1, .inl x1)] [] sg _
  refine gs0 1 [(0, .inr (.inr (some 725))), (1, .inl x1)] [.inr (.inr (some 725))] dM_155_0 (fun _ => rfl) (Or.inr rfl) ?_
  refine gsGetE (sg 725 16) dM_155_1 sk_725 rfl rfl rfl ?_
  refine gs0 5 [(2, .inl (sg 725 16)), (0, .inr (.inr (some 725))), (1, .inl x1)] [] dM_155_4 (fun _ => rfl) (Or.inr rfl) ?_
  refine gs0 6 [(2, .inl (sg 725 16)), (0, .inr (.inr (some 725))), (1, .inl x1)] [.inr (.inr (some 725))] dM_155_5 (fun _ => rfl) (Or.inr rfl) ?_
  refine gs0 7 [(2, .inl (sg 725 16)), (0, .inr (.inr (some 725))), (1, .inl x1)] [.inl 2, .inr (.inr (some 725))] dM_155_6 (fun _ => rfl) (Or.inr rfl) ?_
  refine gs0 8 [(2, .inl (sg 725 16)), (0, .inr (.inr (some 725))), (1, .inl x1)] [.inr (.inr (some 725)), .inl 2, .inr (.inr (some 725))] dM_155_7 (fun _ => rfl) (Or.inr rfl) ?_
  refine gsGetR (some 733) dM_155_8 sk_725 rfl rfl ?_
  refine gs0 12 [(2, .inl (sg 725 16)), (0, .inr (.inr (some 725))), (1, .inl x1)] [.inl x1, .inr (.inr (some 733)), .inl 2, .inr (.inr (some 725))] dM_155_11 (fun _ => rfl) (Or.inr rfl) ?_
  refine gsIaldN x1.toNatClampNeg (sg 733 x1.toNatClampNeg) dM_155_12 sk_733 h.1 rfl rfl ?_
  replace h := h.2
  refine gs0 14 [(2, .inl (sg 725 16)), (0, .inr (.inr (some 725))), (1, .inl x1)] [.inl (2 * (sg 733 x1.toNatClampNeg)), .inr (.inr (some 725))] dM_155_13 (fun _ => rfl) (Or.inr rfl) ?_
  refine gs0 15 [(2, .inl (sg 725 16)), (0, .inr (.inr (some 725))), (1, .inl x1)] [.inl 2, .inl (2 * (sg 733 x1.toNatClampNeg)), .inr (.inr (some 725))] dM_155_14 (fun _ => rfl) (Or.inr rfl) ?_
  refine gs0 16 [(2, .inl (sg 725 16)), (0, .inr (.inr (some 725))), (1, .inl x1)] [.inr (.inr (some 725)), .inl 2, .inl (2 * (sg 733 x1.toNatClampNeg)), .inr (.inr (some 725))] dM_155_15 (fun _ => rfl) (Or.inr rfl) ?_
  refine gsGetR (some 734) dM_155_16 sk_725 rfl rfl ?_
  refine gs0 20 [(2, .inl (sg 725 16)), (0, .inr (.inr (some 725))), (1, .inl x1)] [.inl x1, .inr (.inr (some 734)), .inl 2, .inl (2 * (sg 733 x1.toNatClampNeg)), .inr (.inr (some 725))] dM_155_19 (fun _ => rfl) (Or.inr rfl) ?_
  refine gsIaldN x1.toNatClampNeg (sg 734 x1.toNatClampNeg) dM_155_20 sk_734 h.1 rfl rfl ?_
  replace h := h.2
  refine gs0 22 [(2, .inl (sg 725 16)), (0, .inr (.inr (some 725))), (1, .inl x1)] [.inl (2 * (sg 734 x1.toNatClampNeg)), .inl (2 * (sg 733 x1.toNatClampNeg)), .inr (.inr (some 725))] dM_155_21 (fun _ => rfl) (Or.inr rfl) ?_
  refine gsCallV (y := 145) (k := 725) (as := [.inr (.inr (some 725)), .inl (2 * (sg 733 x1.toNatClampNeg)), .inl (2 * (sg 734 x1.toNatClampNeg))]) (r := []) dM_155_22 rfl rfl rfl (Nat.le_of_ble_eq_true rfl) sk_725 rfl (Nat.le_of_ble_eq_true rfl) (EvS.up h (Nat.le_of_ble_eq_true rfl)) (fun v1 t2 hv3 => ?_)
  obtain ⟨n4, rfl, hn⟩ := hv3
  clear h
  show GoS _ _ _ _ _ _ _ _ [(2, .inl (sg 725 16)), (0, .inr (.inr (some 725))), (1, .inl x1)] [.inl n4] t2 _
  refine gs0 26 [(3, .inl n4), (2, .inl (sg 725 16)), (0, .inr (.inr (some 725))), (1, .inl x1)] [] dM_155_25 (fun _ => rfl) (Or.inr rfl) ?_
  refine gs0 27 [(3, .inl n4), (2, .inl (sg 725 16)), (0, .inr (.inr (some 725))), (1, .inl x1)] [.inl n4] dM_155_26 (fun _ => rfl) (Or.inr rfl) ?_
  refine gsIf (t := 42) (C := n4 = 0) (r := []) dM_155_27 (fun _ => rfl) (Or.inr rfl) (rTest_iff .eq n4 0) (fun c5 => ?_) (fun c5 => ?_)
  · replace hn := hn.1 c5
    refine gs0 43 [(3, .inl n4), (2, .inl (sg 725 16)), (0, .inr (.inr (some 725))), (1, .inl x1)] [.inl 0] dM_155_42 (fun _ => rfl) (Or.inr rfl) ?_
    refine gs0 45 [(4, .inl 0), (3, .inl n4), (2, .inl (sg 725 16)), (0, .inr (.inr (some 725))), (1, .inl x1)] [] dM_155_43 (fun _ => rfl) (Or.inr rfl) ?_
    refine gs0 46 [(4, .inl 0), (3, .inl n4), (2, .inl (sg 725 16)), (0, .inr (.inr (some 725))), (1, .inl x1)] [.inr (.inr (some 725))] dM_155_45 (fun _ => rfl) (Or.inr rfl) ?_
    refine gs0 47 [(4, .inl 0), (3, .inl n4), (2, .inl (sg 725 16)), (0, .inr (.inr (some 725))), (1, .inl x1)] [.inl (sg 725 16), .inr (.inr (some 725))] dM_155_46 (fun _ => rfl) (Or.inr rfl) ?_
    refine gsCallV (y := 156) (k := 725) (as := [.inr (.inr (some 725)), .inl (sg 725 16)]) (r := []) dM_155_47 rfl rfl rfl (Nat.le_of_ble_eq_true rfl) sk_725 rfl (Nat.le_of_ble_eq_true rfl) (EvS.up hn (Nat.le_of_ble_eq_true rfl)) (fun v6 t7 hv8 => ?_)
    obtain ⟨rfl, hnn⟩ := hv8
    clear hn
    show GoS _ _ _ _ _ _ _ _ [(4, .inl 0), (3, .inl n4), (2, .inl (sg 725 16)), (0, .inr (.inr (some 725))), (1, .inl x1)] [] t7 _
    refine gs0 52 [(4, .inl 0), (3, .inl n4), (2, .inl (sg 725 16)), (0, .inr (.inr (some 725))), (1, .inl x1)] [.inl 0] dM_155_50 (fun _ => rfl) (Or.inr rfl) ?_
    refine gsIf (t := 59) (C := 0 = 0) (r := []) dM_155_52 (fun _ => rfl) (Or.inr rfl) (rTest_iff .eq 0 0) (fun c9 => ?_) (fun c9 => absurd (by decide) c9)
    refine gs0 60 [(4, .inl 0), (3, .inl n4), (2, .inl (sg 725 16)), (0, .inr (.inr (some 725))), (1, .inl x1)] [.inl n4] dM_155_59 (fun _ => rfl) (Or.inr rfl) ?_
    refine gsIf (t := 67) (C := n4 = 0) (r := []) dM_155_60 (fun _ => rfl) (Or.inr rfl) (rTest_iff .eq n4 0) (fun c10 => ?_) (fun c10 => ?_)
    · replace hnn := hnn.1 c10
      refine gs0 68 [(4, .inl 0), (3, .inl n4), (2, .inl (sg 725 16)), (0, .inr (.inr (some 725))), (1, .inl x1)] [.inl 2] dM_155_67 (fun _ => rfl) (Or.inr rfl) ?_
      refine gsRet (r := some (.inl 2)) dM_155_68 (fun _ => rfl) (Or.inr rfl) ?_
      exact hnn
    · replace hnn := hnn.2 c10
      refine gs0 64 [(4, .inl 0), (3, .inl n4), (2, .inl (sg 725 16)), (0, .inr (.inr (some 725))), (1, .inl x1)] [.inl 1] dM_155_63 (fun _ => rfl) (Or.inr rfl) ?_
      refine gs0 68 [(4, .inl 0), (3, .inl n4), (2, .inl (sg 725 16)), (0, .inr (.inr (some 725))), (1, .inl x1)] [.inl 1] dM_155_64 (fun _ => rfl) (Or.inr rfl) ?_
      refine gsRet (r := some (.inl 1)) dM_155_68 (fun _ => rfl) (Or.inr rfl) ?_
      exact hnn
  · replace hn := hn.2 c5
    refine gs0 31 [(3, .inl n4), (2, .inl (sg 725 16)), (0, .inr (.inr (some 725))), (1, .inl x1)] [.inr (.inr (some 725))] dM_155_30 (fun _ => rfl) (Or.inr rfl) ?_
    refine gsGetE (t2 725 16) dM_155_31 sk_725 rfl rfl rfl ?_
    refine gs0 35 [(3, .inl n4), (2, .inl (sg 725 16)), (0, .inr (.inr (some 725))), (1, .inl x1)] [.inl (sg 725 16), .inl (t2 725 16)] dM_155_34 (fun _ => rfl) (Or.inr rfl) ?_
    refine gsIf (t := 42) (C := ¬ (t2 725 16) = (sg 725 16)) (r := []) dM_155_35 (fun _ => rfl) (Or.inr rfl) (rTest_iff .ne (t2 725 16) (sg 725 16)) (fun c11 => ?_) (fun c11 => ?_)
    · replace hn := hn.1 c11
      refine gs0 43 [(3, .inl n4), (2, .inl (sg 725 16)), (0, .inr (.inr (some 725))), (1, .inl x1)] [.inl 0] dM_155_42 (fun _ => rfl) (Or.inr rfl) ?_
      refine gs0 45 [(4, .inl 0), (3, .inl n4), (2, .inl (sg 725 16)), (0, .inr (.inr (some 725))), (1, .inl x1)] [] dM_155_43 (fun _ => rfl) (Or.inr rfl) ?_
      refine gs0 46 [(4, .inl 0), (3, .inl n4), (2, .inl (sg 725 16)), (0, .inr (.inr (some 725))), (1, .inl x1)] [.inr (.inr (some 725))] dM_155_45 (fun _ => rfl) (Or.inr rfl) ?_
      refine gs0 47 [(4, .inl 0), (3, .inl n4), (2, .inl (sg 725 16)), (0, .inr (.inr (some 725))), (1, .inl x1)] [.inl (sg 725 16), .inr (.inr (some 725))] dM_155_46 (fun _ => rfl) (Or.inr rfl) ?_
      refine gsCallV (y := 156) (k := 725) (as := [.inr (.inr (some 725)), .inl (sg 725 16)]) (r := []) dM_155_47 rfl rfl rfl (Nat.le_of_ble_eq_true rfl) sk_725 rfl (Nat.le_of_ble_eq_true rfl) (EvS.up hn (Nat.le_of_ble_eq_true rfl)) (fun v12 t13 hv14 => ?_)
      obtain ⟨rfl, hnn⟩ := hv14
      clear hn
      show GoS _ _ _ _ _ _ _ _ [(4, .inl 0), (3, .inl n4), (2, .inl (sg 725 16)), (0, .inr (.inr (some 725))), (1, .inl x1)] [] t13 _
      refine gs0 52 [(4, .inl 0), (3, .inl n4), (2, .inl (sg 725 16)), (0, .inr (.inr (some 725))), (1, .inl x1)] [.inl 0] dM_155_50 (fun _ => rfl) (Or.inr rfl) ?_
      refine gsIf (t := 59) (C := 0 = 0) (r := []) dM_155_52 (fun _ => rfl) (Or.inr rfl) (rTest_iff .eq 0 0) (fun c15 => ?_) (fun c15 => absurd (by decide) c15)
      refine gs0 60 [(4, .inl 0), (3, .inl n4), (2, .inl (sg 725 16)), (0, .inr (.inr (some 725))), (1, .inl x1)] [.inl n4] dM_155_59 (fun _ => rfl) (Or.inr rfl) ?_
      refine gsIf (t := 67) (C := n4 = 0) (r := []) dM_155_60 (fun _ => rfl) (Or.inr rfl) (rTest_iff .eq n4 0) (fun c16 => ?_) (fun c16 => ?_)
      · replace hnn := hnn.1 c16
        refine gs0 68 [(4, .inl 0), (3, .inl n4), (2, .inl (sg 725 16)), (0, .inr (.inr (some 725))), (1, .inl x1)] [.inl 2] dM_155_67 (fun _ => rfl) (Or.inr rfl) ?_
        refine gsRet (r := some (.inl 2)) dM_155_68 (fun _ => rfl) (Or.inr rfl) ?_
        exact hnn
      · replace hnn := hnn.2 c16
        refine gs0 64 [(4, .inl 0), (3, .inl n4), (2, .inl (sg 725 16)), (0, .inr (.inr (some 725))), (1, .inl x1)] [.inl 1] dM_155_63 (fun _ => rfl) (Or.inr rfl) ?_
        refine gs0 68 [(4, .inl 0), (3, .inl n4), (2, .inl (sg 725 16)), (0, .inr (.inr (some 725))), (1, .inl x1)] [.inl 1] dM_155_64 (fun _ => rfl) (Or.inr rfl) ?_
        refine gsRet (r := some (.inl 1)) dM_155_68 (fun _ => rfl) (Or.inr rfl) ?_
        exact hnn
    · replace hn := hn.2 c11
      refine gs0 39 [(3, .inl n4), (2, .inl (sg 725 16)), (0, .inr (.inr (some 725))), (1, .inl x1)] [.inl 1] dM_155_38 (fun _ => rfl) (Or.inr rfl) ?_
      refine gs0 43 [(3, .inl n4), (2, .inl (sg 725 16)), (0, .inr (.inr (some 725))), (1, .inl x1)] [.inl 1] dM_155_39 (fun _ => rfl) (Or.inr rfl) ?_
      refine gs0 45 [(4, .inl 1), (3, .inl n4), (2, .inl (sg 725 16)), (0, .inr (.inr (some 725))), (1, .inl x1)] [] dM_155_43 (fun _ => rfl) (Or.inr rfl) ?_
      refine gs0 46 [(4, .inl 1), (3, .inl n4), (2, .inl (sg 725 16)), (0, .inr (.inr (some 725))), (1, .inl x1)] [.inr (.inr (some 725))] dM_155_45 (fun _ => rfl) (Or.inr rfl) ?_
      refine gs0 47 [(4, .inl 1), (3, .inl n4), (2, .inl (sg 725 16)), (0, .inr (.inr (some 725))), (1, .inl x1)] [.inl (sg 725 16), .inr (.inr (some 725))] dM_155_46 (fun _ => rfl) (Or.inr rfl) ?_
      refine gsCallV (y := 156) (k := 725) (as := [.inr (.inr (some 725)), .inl (sg 725 16)]) (r := []) dM_155_47 rfl rfl rfl (Nat.le_of_ble_eq_true rfl) sk_725 rfl (Nat.le_of_ble_eq_true rfl) (EvS.up hn (Nat.le_of_ble_eq_true rfl)) (fun v17 t18 hv19 => ?_)
      obtain ⟨rfl, hnn⟩ := hv19
      clear hn
      show GoS _ _ _ _ _ _ _ _ [(4, .inl 1), (3, .inl n4), (2, .inl (sg 725 16)), (0, .inr (.inr (some 725))), (1, .inl x1)] [] t18 _
      refine gs0 52 [(4, .inl 1), (3, .inl n4), (2, .inl (sg 725 16)), (0, .inr (.inr (some 725))), (1, .inl x1)] [.inl 1] dM_155_50 (fun _ => rfl) (Or.inr rfl) ?_
      refine gsIf (t := 59) (C := 1 = 0) (r := []) dM_155_52 (fun _ => rfl) (Or.inr rfl) (rTest_iff .eq 1 0) (fun c20 => absurd c20 (by decide)) (fun c20 => ?_)
      refine gs0 56 [(4, .inl 1), (3, .inl n4), (2, .inl (sg 725 16)), (0, .inr (.inr (some 725))), (1, .inl x1)] [.inl 0] dM_155_55 (fun _ => rfl) (Or.inr rfl) ?_
      refine gs0 68 [(4, .inl 1), (3, .inl n4), (2, .inl (sg 725 16)), (0, .inr (.inr (some 725))), (1, .inl x1)] [.inl 0] dM_155_56 (fun _ => rfl) (Or.inr rfl) ?_
      refine gsRet (r := some (.inl 0)) dM_155_68 (fun _ => rfl) (Or.inr rfl) ?_
      exact hnn
def g_156_0  (y1 : Int32) (sg : rSg) (P : Option rv → rSg → Prop) : Prop := GoS rSkel 0 9 2 none false prog_11_method_13_code 0 [(0, .inr (.inr (some 725))), (1, .inl y1)] [] sg P
set_option maxRecDepth 100000 in
theorem w_156_0 (sg : rSg)  (y1 : Int32) {P : Option rv → rSg → Prop} (h :
    ((sg 725 16) ≤ y1 → 
      P none sg) ∧
    (¬ ((sg 725 16) ≤ y1) → 
      (rIn ((sg 725 16) - 1) 4000 = true ∧
      rIn (sg 737 (((sg 725 16) - 1).toNatClampNeg)) 128 = true ∧
      g_156_0 y1 (up2 (up2 sg 725 16 ((sg 725 16) - 1)) 736 ((sg 737 (((sg 725 16) - 1).toNatClampNeg)).toNatClampNeg) ((-9))) P))) : g_156_0 y1 sg P := by
  show GoS rSkel 0 9 2 none false prog_11_method_13_code 0 [(0, .inr (.inr (some 725))), (1, .inl y1)] [] sg P
  refine gs0 1 [(0, .inr (.inr (some 725))), (1, .inl y1)] [.inr (.inr (some 725))] dM_156_0 (fun _ => rfl) (Or.inr rfl) ?_
  refine gsGetE (sg 725 16) dM_156_1 sk_725 rfl rfl rfl ?_
  refine gs0 5 [(0, .inr (.inr (some 725))), (1, .inl y1)] [.inl y1, .inl (sg 725 16)] dM_156_4 (fun _ => rfl) (Or.inr rfl) ?_
  refine gsIf (t := 37) (C := (sg 725 16) ≤ y1) (r := []) dM_156_5 (fun _ => rfl) (Or.inr rfl) (rTest_iff .le (sg 725 16) y1) (fun c1 => ?_) (fun c1 => ?_)
  · replace h := h.1 c1
    refine gsRet (r := none) dM_156_37 (fun _ => rfl) (Or.inr rfl) ?_
    exact h
  · replace h := h.2 c1
    refine gs0 9 [(0, .inr (.inr (some 725))), (1, .inl y1)] [.inr (.inr (some 725))] dM_156_8 (fun _ => rfl) (Or.inr rfl) ?_
    refine gs0 10 [(0, .inr (.inr (some 725))), (1, .inl y1)] [.inr (.inr (some 725)), .inr (.inr (some 725))] dM_156_9 (fun _ => rfl) (Or.inr rfl) ?_
    refine gsGetE (sg 725 16) dM_156_10 sk_725 rfl rfl rfl ?_
    refine gs0 14 [(0, .inr (.inr (some 725))), (1, .inl y1)] [.inl 1, .inl (sg 725 16), .inr (.inr (some 725))] dM_156_13 (fun _ => rfl) (Or.inr rfl) ?_
    refine gs0 15 [(0, .inr (.inr (some 725))), (1, .inl y1)] [.inl ((sg 725 16) - 1), .inr (.inr (some 725))] dM_156_14 (fun _ => rfl) (Or.inr rfl) ?_
    refine gsPut dM_156_15 sk_725 rfl rfl rfl (by decide) ?_
    refine gs0 19 [(0, .inr (.inr (some 725))), (1, .inl y1)] [.inr (.inr (some 725))] dM_156_18 (fun _ => rfl) (Or.inr rfl) ?_
    refine gsGetR (some 736) dM_156_19 sk_725 rfl rfl ?_
    refine gs0 23 [(0, .inr (.inr (some 725))), (1, .inl y1)] [.inr (.inr (some 725)), .inr (.inr (some 736))] dM_156_22 (fun _ => rfl) (Or.inr rfl) ?_
    refine gsGetR (some 737) dM_156_23 sk_725 rfl rfl ?_
    refine gs0 27 [(0, .inr (.inr (some 725))), (1, .inl y1)] [.inr (.inr (some 725)), .inr (.inr (some 737)), .inr (.inr (some 736))] dM_156_26 (fun _ => rfl) (Or.inr rfl) ?_
    refine gsGetE ((sg 725 16) - 1) dM_156_27 sk_725 rfl rfl (up2_same _ _ _ _) ?_
    refine gsIaldN (((sg 725 16) - 1).toNatClampNeg) (sg 737 (((sg 725 16) - 1).toNatClampNeg)) dM_156_30 sk_737 h.1 rfl (congrFun (up2_nk _ _ _ (by decide)) _) ?_
    replace h := h.2
    refine gs0 33 [(0, .inr (.inr (some 725))), (1, .inl y1)] [.inl ((-9)), .inl (sg 737 (((sg 725 16) - 1).toNatClampNeg)), .inr (.inr (some 736))] dM_156_31 (fun _ => rfl) (Or.inr rfl) ?_
    refine gsIastN ((sg 737 (((sg 725 16) - 1).toNatClampNeg)).toNatClampNeg) dM_156_33 sk_736 h.1 rfl ?_
    replace h := h.2
    refine gs0 0 [(0, .inr (.inr (some 725))), (1, .inl y1)] [] dM_156_34 (fun _ => rfl) (Or.inr rfl) ?_
    exact GoS.sub (Lnd_keys (ks := [0, 1]) rfl (by decide)) (Lsub_cons rfl (Lsub_cons rfl Lsub_nil)) h
set_option maxRecDepth 100000 in
/-- GoalsInAQueueModel.undoes -/
theorem w_156 (sg : rSg) (x1 : Int32) {P : Option rv → rSg → Prop} (h :
    g_156_0 x1 sg P) : EvS rSkel 1 156 [.inr (.inr (some 725)), .inl x1] sg P := by
  refine EvS.of (ini := false) rfl ⟨rfl, Nat.le_of_ble_eq_true rfl⟩ rfl ?_
  show GoS rSkel 0 9 2 none false prog_11_method_13_code 0 [(0, .inr (.inr (some 725))), (1, .inl x1)] [] sg _
  exact GoS.sub (Lnd_keys (ks := [0, 1]) rfl (by decide)) (Lsub_cons rfl (Lsub_cons rfl Lsub_nil)) h
def g_157_7  (y1 : Int32) (y2 : Int32) (sg : rSg) (P : Option rv → rSg → Prop) : Prop := GoS rSkel 7 9 3 none false prog_11_method_27_code 7 [(0, .inr (.inr (some 725))), (1, .inl y1), (2, .inl y2)] [] sg P
set_option maxRecDepth 100000 in
theorem w_157_7 (sg : rSg)  (y1 : Int32) (y2 : Int32) {P : Option rv → rSg → Prop} (h :
    (y2 ≤ 0 → 
      P none (up2 sg 725 19 y1)) ∧
    (¬ (y2 ≤ 0) → 
      EvS rSkel 7 155 [.inr (.inr (some 725)), .inl y2] sg (fun v2 t3 => ∃ n5, v2 = some (.inl n5) ∧
        (¬ n5 = 1 → 
          (rIn y2 20000 = true ∧
          g_157_7 y1 (t3 735 y2.toNatClampNeg) t3 P)) ∧
        (¬ (¬ n5 = 1) → 
          (rIn y2 20000 = true ∧
          rIn y2 20000 = true ∧
          EvS rSkel 1 123 [.inr (.inr (some 725)), .inl (t3 733 y2.toNatClampNeg), .inl (t3 734 y2.toNatClampNeg), .inl y1] t3 (fun v7 t8 => ∃ n10, v7 = some (.inl n10) ∧
            (rIn y2 20000 = true ∧
            g_157_7 n10 (t8 735 y2.toNatClampNeg) t8 P))))))) : g_157_7 y1 y2 sg P := by
  show GoS rSkel 7 9 3 none false prog_11_method_27_code 7 [(0, .inr (.inr (some 725))), (1, .inl y1), (2, .inl y2)] [] sg P
  refine gs0 8 [(0, .inr (.inr (some 725))), (1, .inl y1), (2, .inl y2)] [.inl y2] dM_157_7 (fun _ => rfl) (Or.inr rfl) ?_
  refine gsIf (t := 48) (C := y2 ≤ 0) (r := []) dM_157_8 (fun _ => rfl) (Or.inr rfl) (rTest_iff .le y2 0) (fun c1 => ?_) (fun c1 => ?_)
  · replace h := h.1 c1
    refine gs0 49 [(0, .inr (.inr (some 725))), (1, .inl y1), (2, .inl y2)] [.inr (.inr (some 725))] dM_157_48 (fun _ => rfl) (Or.inr rfl) ?_
    refine gs0 50 [(0, .inr (.inr (some 725))), (1, .inl y1), (2, .inl y2)] [.inl y1, .inr (.inr (some 725))] dM_157_49 (fun _ => rfl) (Or.inr rfl) ?_
    refine gsPut dM_157_50 sk_725 rfl rfl rfl (by decide) ?_
    refine gsRet (r := none) dM_157_53 (fun _ => rfl) (Or.inr rfl) ?_
    exact h
  · replace h := h.2 c1
    refine gs0 12 [(0, .inr (.inr (some 725))), (1, .inl y1), (2, .inl y2)] [.inr (.inr (some 725))] dM_157_11 (fun _ => rfl) (Or.inr rfl) ?_
    refine gs0 13 [(0, .inr (.inr (some 725))), (1, .inl y1), (2, .inl y2)] [.inl y2, .inr (.inr (some 725))] dM_157_12 (fun _ => rfl) (Or.inr rfl) ?_
    refine gsCallV (y := 155) (k := 725) (as := [.inr (.inr (some 725)), .inl y2]) (r := []) dM_157_13 rfl rfl rfl (Nat.le_of_ble_eq_true rfl) sk_725 rfl (Nat.le_of_ble_eq_true rfl) (EvS.up h (Nat.le_of_ble_eq_true rfl)) (fun v2 t3 hv4 => ?_)
    obtain ⟨n5, rfl, hn⟩ := hv4
    clear h
    show GoS _ _ _ _ _ _ _ _ [(0, .inr (.inr (some 725))), (1, .inl y1), (2, .inl y2)] [.inl n5] t3 _
    refine gs0 17 [(0, .inr (.inr (some 725))), (1, .inl y1), (2, .inl y2)] [.inl 1, .inl n5] dM_157_16 (fun _ => rfl) (Or.inr rfl) ?_
    refine gsIf (t := 38) (C := ¬ n5 = 1) (r := []) dM_157_17 (fun _ => rfl) (Or.inr rfl) (rTest_iff .ne n5 1) (fun c6 => ?_) (fun c6 => ?_)
    · replace hn := hn.1 c6
      refine gs0 39 [(0, .inr (.inr (some 725))), (1, .inl y1), (2, .inl y2)] [.inr (.inr (some 725))] dM_157_38 (fun _ => rfl) (Or.inr rfl) ?_
      refine gsGetR (some 735) dM_157_39 sk_725 rfl rfl ?_
      refine gs0 43 [(0, .inr (.inr (some 725))), (1, .inl y1), (2, .inl y2)] [.inl y2, .inr (.inr (some 735))] dM_157_42 (fun _ => rfl) (Or.inr rfl) ?_
      refine gsIaldN y2.toNatClampNeg (t3 735 y2.toNatClampNeg) dM_157_43 sk_735 hn.1 rfl rfl ?_
      replace hn := hn.2
      refine gs0 45 [(2, .inl (t3 735 y2.toNatClampNeg)), (0, .inr (.inr (some 725))), (1, .inl y1)] [] dM_157_44 (fun _ => rfl) (Or.inr rfl) ?_
      refine gs0 7 [(2, .inl (t3 735 y2.toNatClampNeg)), (0, .inr (.inr (some 725))), (1, .inl y1)] [] dM_157_45 (fun _ => rfl) (Or.inr rfl) ?_
      exact GoS.sub (Lnd_keys (ks := [0, 1, 2]) rfl (by decide)) (Lsub_cons rfl (Lsub_cons rfl (Lsub_cons rfl Lsub_nil))) hn
    · replace hn := hn.2 c6
      refine gs0 21 [(0, .inr (.inr (some 725))), (1, .inl y1), (2, .inl y2)] [.inr (.inr (some 725))] dM_157_20 (fun _ => rfl) (Or.inr rfl) ?_
      refine gs0 22 [(0, .inr (.inr (some 725))), (1, .inl y1), (2, .inl y2)] [.inr (.inr (some 725)), .inr (.inr (some 725))] dM_157_21 (fun _ => rfl) (Or.inr rfl) ?_
      refine gsGetR (some 733) dM_157_22 sk_725 rfl rfl ?_
      refine gs0 26 [(0, .inr (.inr (some 725))), (1, .inl y1), (2, .inl y2)] [.inl y2, .inr (.inr (some 733)), .inr (.inr (some 725))] dM_157_25 (fun _ => rfl) (Or.inr rfl) ?_
      refine gsIaldN y2.toNatClampNeg (t3 733 y2.toNatClampNeg) dM_157_26 sk_733 hn.1 rfl rfl ?_
      replace hn := hn.2
      refine gs0 28 [(0, .inr (.inr (some 725))), (1, .inl y1), (2, .inl y2)] [.inr (.inr (some 725)), .inl (t3 733 y2.toNatClampNeg), .inr (.inr (some 725))] dM_157_27 (fun _ => rfl) (Or.inr rfl) ?_
      refine gsGetR (some 734) dM_157_28 sk_725 rfl rfl ?_
      refine gs0 32 [(0, .inr (.inr (some 725))), (1, .inl y1), (2, .inl y2)] [.inl y2, .inr (.inr (some 734)), .inl (t3 733 y2.toNatClampNeg), .inr (.inr (some 725))] dM_157_31 (fun _ => rfl) (Or.inr rfl) ?_
      refine gsIaldN y2.toNatClampNeg (t3 734 y2.toNatClampNeg) dM_157_32 sk_734 hn.1 rfl rfl ?_
      replace hn := hn.2
      refine gs0 34 [(0, .inr (.inr (some 725))), (1, .inl y1), (2, .inl y2)] [.inl y1, .inl (t3 734 y2.toNatClampNeg), .inl (t3 733 y2.toNatClampNeg), .inr (.inr (some 725))] dM_157_33 (fun _ => rfl) (Or.inr rfl) ?_
      refine gsCallV (y := 123) (k := 725) (as := [.inr (.inr (some 725)), .inl (t3 733 y2.toNatClampNeg), .inl (t3 734 y2.toNatClampNeg), .inl y1]) (r := []) dM_157_34 rfl rfl rfl (Nat.le_of_ble_eq_true rfl) sk_725 rfl (Nat.le_of_ble_eq_true rfl) (EvS.up hn (Nat.le_of_ble_eq_true rfl)) (fun v7 t8 hv9 => ?_)
      obtain ⟨n10, rfl, hnn⟩ := hv9
      clear hn
      show GoS _ _ _ _ _ _ _ _ [(0, .inr (.inr (some 725))), (1, .inl y1), (2, .inl y2)] [.inl n10] t8 _
      refine gs0 38 [(1, .inl n10), (0, .inr (.inr (some 725))), (2, .inl y2)] [] dM_157_37 (fun _ => rfl) (Or.inr rfl) ?_
      refine gs0 39 [(1, .inl n10), (0, .inr (.inr (some 725))), (2, .inl y2)] [.inr (.inr (some 725))] dM_157_38 (fun _ => rfl) (Or.inr rfl) ?_
      refine gsGetR (some 735) dM_157_39 sk_725 rfl rfl ?_
      refine gs0 43 [(1, .inl n10), (0, .inr (.inr (some 725))), (2, .inl y2)] [.inl y2, .inr (.inr (some 735))] dM_157_42 (fun _ => rfl) (Or.inr rfl) ?_
      refine gsIaldN y2.toNatClampNeg (t8 735 y2.toNatClampNeg) dM_157_43 sk_735 hnn.1 rfl rfl ?_
      replace hnn := hnn.2
      refine gs0 45 [(2, .inl (t8 735 y2.toNatClampNeg)), (1, .inl n10), (0, .inr (.inr (some 725)))] [] dM_157_44 (fun _ => rfl) (Or.inr rfl) ?_
      refine gs0 7 [(2, .inl (t8 735 y2.toNatClampNeg)), (1, .inl n10), (0, .inr (.inr (some 725)))] [] dM_157_45 (fun _ => rfl) (Or.inr rfl) ?_
      exact GoS.sub (Lnd_keys (ks := [0, 1, 2]) rfl (by decide)) (Lsub_cons rfl (Lsub_cons rfl (Lsub_cons rfl Lsub_nil))) hnn
set_option maxRecDepth 100000 in
/-- GoalsInAQueueModel.leavesOut -/
theorem w_157 (sg : rSg)  {P : Option rv → rSg → Prop} (h :
    g_157_7 0 (sg 725 19) sg P) : EvS rSkel 8 157 [.inr (.inr (some 725))] sg P := by
  refine EvS.of (ini := false) rfl ⟨rfl, Nat.le_of_ble_eq_true rfl⟩ rfl ?_
  show GoS rSkel 7 9 3 none false prog_11_method_27_code 0 [(0, .inr (.inr (some 725)))] [] sg _
  refine gs0 1 [(0, .inr (.inr (some 725)))] [.inl 0] dM_157_0 (fun _ => rfl) (Or.inr rfl) ?_
  refine gs0 2 [(1, .inl 0), (0, .inr (.inr (some 725)))] [] dM_157_1 (fun _ => rfl) (Or.inr rfl) ?_
  refine gs0 3 [(1, .inl 0), (0, .inr (.inr (some 725)))] [.inr (.inr (some 725))] dM_157_2 (fun _ => rfl) (Or.inr rfl) ?_
  refine gsGetE (sg 725 19) dM_157_3 sk_725 rfl rfl rfl ?_
  refine gs0 7 [(2, .inl (sg 725 19)), (1, .inl 0), (0, .inr (.inr (some 725)))] [] dM_157_6 (fun _ => rfl) (Or.inr rfl) ?_
  exact GoS.sub (Lnd_keys (ks := [0, 1, 2]) rfl (by decide)) (Lsub_cons rfl (Lsub_cons rfl (Lsub_cons rfl Lsub_nil))) h
set_option maxRecDepth 100000 in
/-- GoalsInAQueueModel.doesEither -/
theorem w_158 (sg : rSg) (x1 : Int32) (x2 : Int32) {P : Option rv → rSg → Prop} (h :
    (rIn x2 3000 = true ∧
    EvS rSkel 1 123 [.inr (.inr (some 725)), .inl (sg 730 x2.toNatClampNeg), .inl 0, .inl (sg 725 18)] sg (fun v1 t2 => ∃ n4, v1 = some (.inl n4) ∧
      EvS rSkel 2 124 [.inr (.inr (some 725))] (up2 t2 725 18 n4) (fun v5 t6 => v5 = none ∧
        EvS rSkel 2 140 [.inr (.inr (some 725)), .inl x1] t6 (fun v8 t9 => v8 = none ∧
          (rIn x2 3000 = true ∧
          EvS rSkel 1 123 [.inr (.inr (some 725)), .inl (t9 731 x2.toNatClampNeg), .inl 0, .inl (sg 725 18)] t9 (fun v11 t12 => ∃ n14, v11 = some (.inl n14) ∧
            EvS rSkel 2 124 [.inr (.inr (some 725))] (up2 t12 725 18 n14) (fun v15 t16 => v15 = none ∧
              P none t16)))))))) : EvS rSkel 3 158 [.inr (.inr (some 725)), .inl x1, .inl x2] sg P := by
  refine EvS.of (ini := false) rfl ⟨rfl, Nat.le_of_ble_eq_true rfl⟩ rfl ?_
  show GoS rSkel 2 9 4 none false prog_11_method_33_code 0 [(0, .inr (.inr (some 725))), (1, .inl x1), (2, .inl x2)] [] sg _
  refine gs0 1 [(0, .inr (.inr (some 725))), (1, .inl x1), (2, .inl x2)] [.inr (.inr (some 725))] dM_158_0 (fun _ => rfl) (Or.inr rfl) ?_
  refine gsGetE (sg 725 18) dM_158_1 sk_725 rfl rfl rfl ?_
  refine gs0 5 [(3, .inl (sg 725 18)), (0, .inr (.inr (some 725))), (1, .inl x1), (2, .inl x2)] [] dM_158_4 (fun _ => rfl) (Or.inr rfl) ?_
  refine gs0 6 [(3, .inl (sg 725 18)), (0, .inr (.inr (some 725))), (1, .inl x1), (2, .inl x2)] [.inr (.inr (some 725))] dM_158_5 (fun _ => rfl) (Or.inr rfl) ?_
  refine gs0 7 [(3, .inl (sg 725 18)), (0, .inr (.inr (some 725))), (1, .inl x1), (2, .inl x2)] [.inr (.inr (some 725)), .inr (.inr (some 725))] dM_158_6 (fun _ => rfl) (Or.inr rfl) ?_
  refine gs0 8 [(3, .inl (sg 725 18)), (0, .inr (.inr (some 725))), (1, .inl x1), (2, .inl x2)] [.inr (.inr (some 725)), .inr (.inr (some 725)), .inr (.inr (some 725))] dM_158_7 (fun _ => rfl) (Or.inr rfl) ?_
  refine gsGetR (some 730) dM_158_8 sk_725 rfl rfl ?_
  refine gs0 12 [(3, .inl (sg 725 18)), (0, .inr (.inr (some 725))), (1, .inl x1), (2, .inl x2)] [.inl x2, .inr (.inr (some 730)), .inr (.inr (some 725)), .inr (.inr (some 725))] dM_158_11 (fun _ => rfl) (Or.inr rfl) ?_
  refine gsIaldN x2.toNatClampNeg (sg 730 x2.toNatClampNeg) dM_158_12 sk_730 h.1 rfl rfl ?_
  replace h := h.2
  refine gs0 14 [(3, .inl (sg 725 18)), (0, .inr (.inr (some 725))), (1, .inl x1), (2, .inl x2)] [.inl 0, .inl (sg 730 x2.toNatClampNeg), .inr (.inr (some 725)), .inr (.inr (some 725))] dM_158_13 (fun _ => rfl) (Or.inr rfl) ?_
  refine gs0 15 [(3, .inl (sg 725 18)), (0, .inr (.inr (some 725))), (1, .inl x1), (2, .inl x2)] [.inl (sg 725 18), .inl 0, .inl (sg 730 x2.toNatClampNeg), .inr (.inr (some 725)), .inr (.inr (some 725))] dM_158_14 (fun _ => rfl) (Or.inr rfl) ?_
  refine gsCallV (y := 123) (k := 725) (as := [.inr (.inr (some 725)), .inl (sg 730 x2.toNatClampNeg), .inl 0, .inl (sg 725 18)]) (r := [.inr (.inr (some 725))]) dM_158_15 rfl rfl rfl (Nat.le_of_ble_eq_true rfl) sk_725 rfl (Nat.le_of_ble_eq_true rfl) (EvS.up h (Nat.le_of_ble_eq_true rfl)) (fun v1 t2 hv3 => ?_)
  obtain ⟨n4, rfl, hn⟩ := hv3
  clear h
  show GoS _ _ _ _ _ _ _ _ [(3, .inl (sg 725 18)), (0, .inr (.inr (some 725))), (1, .inl x1), (2, .inl x2)] [.inl n4, .inr (.inr (some 725))] t2 _
  refine gsPut dM_158_18 sk_725 rfl rfl rfl (by decide) ?_
  refine gs0 22 [(3, .inl (sg 725 18)), (0, .inr (.inr (some 725))), (1, .inl x1), (2, .inl x2)] [.inr (.inr (some 725))] dM_158_21 (fun _ => rfl) (Or.inr rfl) ?_
  refine gsCallV (y := 124) (k := 725) (as := [.inr (.inr (some 725))]) (r := []) dM_158_22 rfl rfl rfl (Nat.le_of_ble_eq_true rfl) sk_725 rfl (Nat.le_of_ble_eq_true rfl) (EvS.up hn (Nat.le_of_ble_eq_true rfl)) (fun v5 t6 hv7 => ?_)
  obtain ⟨rfl, hnn⟩ := hv7
  clear hn
  show GoS _ _ _ _ _ _ _ _ [(3, .inl (sg 725 18)), (0, .inr (.inr (some 725))), (1, .inl x1), (2, .inl x2)] [] t6 _
  refine gs0 26 [(3, .inl (sg 725 18)), (0, .inr (.inr (some 725))), (1, .inl x1), (2, .inl x2)] [.inr (.inr (some 725))] dM_158_25 (fun _ => rfl) (Or.inr rfl) ?_
  refine gs0 27 [(3, .inl (sg 725 18)), (0, .inr (.inr (some 725))), (1, .inl x1), (2, .inl x2)] [.inl x1, .inr (.inr (some 725))] dM_158_26 (fun _ => rfl) (Or.inr rfl) ?_
  refine gsCallV (y := 140) (k := 725) (as := [.inr (.inr (some 725)), .inl x1]) (r := []) dM_158_27 rfl rfl rfl (Nat.le_of_ble_eq_true rfl) sk_725 rfl (Nat.le_of_ble_eq_true rfl) (EvS.up hnn (Nat.le_of_ble_eq_true rfl)) (fun v8 t9 hv10 => ?_)
  obtain ⟨rfl, hnnn⟩ := hv10
  clear hnn
  show GoS _ _ _ _ _ _ _ _ [(3, .inl (sg 725 18)), (0, .inr (.inr (some 725))), (1, .inl x1), (2, .inl x2)] [] t9 _
  refine gs0 31 [(3, .inl (sg 725 18)), (0, .inr (.inr (some 725))), (1, .inl x1), (2, .inl x2)] [.inr (.inr (some 725))] dM_158_30 (fun _ => rfl) (Or.inr rfl) ?_
  refine gs0 32 [(3, .inl (sg 725 18)), (0, .inr (.inr (some 725))), (1, .inl x1), (2, .inl x2)] [.inr (.inr (some 725)), .inr (.inr (some 725))] dM_158_31 (fun _ => rfl) (Or.inr rfl) ?_
  refine gs0 33 [(3, .inl (sg 725 18)), (0, .inr (.inr (some 725))), (1, .inl x1), (2, .inl x2)] [.inr (.inr (some 725)), .inr (.inr (some 725)), .inr (.inr (some 725))] dM_158_32 (fun _ => rfl) (Or.inr rfl) ?_
  refine gsGetR (some 731) dM_158_33 sk_725 rfl rfl ?_
  refine gs0 37 [(3, .inl (sg 725 18)), (0, .inr (.inr (some 725))), (1, .inl x1), (2, .inl x2)] [.inl x2, .inr (.inr (some 731)), .inr (.inr (some 725)), .inr (.inr (some 725))] dM_158_36 (fun _ => rfl) (Or.inr rfl) ?_
  refine gsIaldN x2.toNatClampNeg (t9 731 x2.toNatClampNeg) dM_158_37 sk_731 hnnn.1 rfl rfl ?_
  replace hnnn := hnnn.2
  refine gs0 39 [(3, .inl (sg 725 18)), (0, .inr (.inr (some 725))), (1, .inl x1), (2, .inl x2)] [.inl 0, .inl (t9 731 x2.toNatClampNeg), .inr (.inr (some 725)), .inr (.inr (some 725))] dM_158_38 (fun _ => rfl) (Or.inr rfl) ?_
  refine gs0 40 [(3, .inl (sg 725 18)), (0, .inr (.inr (some 725))), (1, .inl x1), (2, .inl x2)] [.inl (sg 725 18), .inl 0, .inl (t9 731 x2.toNatClampNeg), .inr (.inr (some 725)), .inr (.inr (some 725))] dM_158_39 (fun _ => rfl) (Or.inr rfl) ?_
  refine gsCallV (y := 123) (k := 725) (as := [.inr (.inr (some 725)), .inl (t9 731 x2.toNatClampNeg), .inl 0, .inl (sg 725 18)]) (r := [.inr (.inr (some 725))]) dM_158_40 rfl rfl rfl (Nat.le_of_ble_eq_true rfl) sk_725 rfl (Nat.le_of_ble_eq_true rfl) (EvS.up hnnn (Nat.le_of_ble_eq_true rfl)) (fun v11 t12 hv13 => ?_)
  obtain ⟨n14, rfl, hnnnn⟩ := hv13
  clear hnnn
  show GoS _ _ _ _ _ _ _ _ [(3, .inl (sg 725 18)), (0, .inr (.inr (some 725))), (1, .inl x1), (2, .inl x2)] [.inl n14, .inr (.inr (some 725))] t12 _
  refine gsPut dM_158_43 sk_725 rfl rfl rfl (by decide) ?_
  refine gs0 47 [(3, .inl (sg 725 18)), (0, .inr (.inr (some 725))), (1, .inl x1), (2, .inl x2)] [.inr (.inr (some 725))] dM_158_46 (fun _ => rfl) (Or.inr rfl) ?_
  refine gsCallV (y := 124) (k := 725) (as := [.inr (.inr (some 725))]) (r := []) dM_158_47 rfl rfl rfl (Nat.le_of_ble_eq_true rfl) sk_725 rfl (Nat.le_of_ble_eq_true rfl) (EvS.up hnnnn (Nat.le_of_ble_eq_true rfl)) (fun v15 t16 hv17 => ?_)
  obtain ⟨rfl, hnnnnn⟩ := hv17
  clear hnnnn
  show GoS _ _ _ _ _ _ _ _ [(3, .inl (sg 725 18)), (0, .inr (.inr (some 725))), (1, .inl x1), (2, .inl x2)] [] t16 _
  refine gsRet (r := none) dM_158_50 (fun _ => rfl) (Or.inr rfl) ?_
  exact hnnnnn
set_option maxRecDepth 100000 in
/-- GoalsInAQueueModel.doesAppend -/
theorem w_159 (sg : rSg) (x1 : Int32) (x2 : Int32) {P : Option rv → rSg → Prop} (h :
    (rIn x2 3000 = true ∧
    rIn x2 3000 = true ∧
    EvS rSkel 7 144 [.inr (.inr (some 725)), .inl (sg 730 x2.toNatClampNeg), .inl 74] sg (fun v1 t2 => ∃ n4, v1 = some (.inl n4) ∧
      (n4 = 0 → 
        EvS rSkel 10 153 [.inr (.inr (some 725)), .inl 0] t2 (fun v6 t7 => v6 = none ∧
          EvS rSkel 2 140 [.inr (.inr (some 725)), .inl x1] t7 (fun v9 t10 => v9 = none ∧
            (rIn x2 3000 = true ∧
            EvS rSkel 1 120 [.inr (.inr (some 725)), .inl 65, .inl ((t10 725 20) + 1), .inl (t10 731 x2.toNatClampNeg), .inl ((t10 725 20) + 2)] (up2 t10 725 20 ((t10 725 20) + 3)) (fun v12 t13 => ∃ n15, v12 = some (.inl n15) ∧
              EvS rSkel 1 123 [.inr (.inr (some 725)), .inl n15, .inl 0, .inl (sg 725 18)] t13 (fun v16 t17 => ∃ n19, v16 = some (.inl n19) ∧
                EvS rSkel 1 117 [.inr (.inr (some 725)), .inl (t10 725 20), .inl ((t10 725 20) + 1)] (up2 t17 725 18 n19) (fun v20 t21 => ∃ n23, v20 = some (.inl n23) ∧
                  EvS rSkel 7 144 [.inr (.inr (some 725)), .inl (sg 730 x2.toNatClampNeg), .inl n23] t21 (fun v24 t25 => ∃ n27, v24 = some (.inl n27) ∧
                    (n27 = 0 → 
                      EvS rSkel 10 153 [.inr (.inr (some 725)), .inl 0] t25 (fun v29 t30 => v29 = none ∧
                        P none t30)) ∧
                    (¬ (n27 = 0) → 
                      EvS rSkel 1 117 [.inr (.inr (some 725)), .inl (t10 725 20), .inl ((t10 725 20) + 2)] t25 (fun v32 t33 => ∃ n35, v32 = some (.inl n35) ∧
                        EvS rSkel 7 144 [.inr (.inr (some 725)), .inl (sg 732 x2.toNatClampNeg), .inl n35] t33 (fun v36 t37 => ∃ n39, v36 = some (.inl n39) ∧
                          (n39 = 0 → 
                            EvS rSkel 10 153 [.inr (.inr (some 725)), .inl 0] t37 (fun v41 t42 => v41 = none ∧
                              P none t42)) ∧
                          (¬ (n39 = 0) → 
                            EvS rSkel 10 153 [.inr (.inr (some 725)), .inl 1] t37 (fun v44 t45 => v44 = none ∧
                              P none t45))))))))))))) ∧
      (¬ (n4 = 0) → 
        (rIn x2 3000 = true ∧
        EvS rSkel 7 144 [.inr (.inr (some 725)), .inl (t2 731 x2.toNatClampNeg), .inl (sg 732 x2.toNatClampNeg)] t2 (fun v47 t48 => ∃ n50, v47 = some (.inl n50) ∧
          (n50 = 0 → 
            EvS rSkel 10 153 [.inr (.inr (some 725)), .inl 0] t48 (fun v52 t53 => v52 = none ∧
              EvS rSkel 2 140 [.inr (.inr (some 725)), .inl x1] t53 (fun v55 t56 => v55 = none ∧
                (rIn x2 3000 = true ∧
                EvS rSkel 1 120 [.inr (.inr (some 725)), .inl 65, .inl ((t56 725 20) + 1), .inl (t56 731 x2.toNatClampNeg), .inl ((t56 725 20) + 2)] (up2 t56 725 20 ((t56 725 20) + 3)) (fun v58 t59 => ∃ n61, v58 = some (.inl n61) ∧
                  EvS rSkel 1 123 [.inr (.inr (some 725)), .inl n61, .inl 0, .inl (sg 725 18)] t59 (fun v62 t63 => ∃ n65, v62 = some (.inl n65) ∧
                    EvS rSkel 1 117 [.inr (.inr (some 725)), .inl (t56 725 20), .inl ((t56 725 20) + 1)] (up2 t63 725 18 n65) (fun v66 t67 => ∃ n69, v66 = some (.inl n69) ∧
                      EvS rSkel 7 144 [.inr (.inr (some 725)), .inl (sg 730 x2.toNatClampNeg), .inl n69] t67 (fun v70 t71 => ∃ n73, v70 = some (.inl n73) ∧
                        (n73 = 0 → 
                          EvS rSkel 10 153 [.inr (.inr (some 725)), .inl 0] t71 (fun v75 t76 => v75 = none ∧
                            P none t76)) ∧
                        (¬ (n73 = 0) → 
                          EvS rSkel 1 117 [.inr (.inr (some 725)), .inl (t56 725 20), .inl ((t56 725 20) + 2)] t71 (fun v78 t79 => ∃ n81, v78 = some (.inl n81) ∧
                            EvS rSkel 7 144 [.inr (.inr (some 725)), .inl (sg 732 x2.toNatClampNeg), .inl n81] t79 (fun v82 t83 => ∃ n85, v82 = some (.inl n85) ∧
                              (n85 = 0 → 
                                EvS rSkel 10 153 [.inr (.inr (some 725)), .inl 0] t83 (fun v87 t88 => v87 = none ∧
                                  P none t88)) ∧
                              (¬ (n85 = 0) → 
                                EvS rSkel 10 153 [.inr (.inr (some 725)), .inl 1] t83 (fun v90 t91 => v90 = none ∧
                                  P none t91))))))))))))) ∧
          (¬ (n50 = 0) → 
            EvS rSkel 10 153 [.inr (.inr (some 725)), .inl 1] t48 (fun v93 t94 => v93 = none ∧
              EvS rSkel 2 140 [.inr (.inr (some 725)), .inl x1] t94 (fun v96 t97 => v96 = none ∧
                (rIn x2 3000 = true ∧
                EvS rSkel 1 120 [.inr (.inr (some 725)), .inl 65, .inl ((t97 725 20) + 1), .inl (t97 731 x2.toNatClampNeg), .inl ((t97 725 20) + 2)] (up2 t97 725 20 ((t97 725 20) + 3)) (fun v99 t100 => ∃ n102, v99 = some (.inl n102) ∧
                  EvS rSkel 1 123 [.inr (.inr (some 725)), .inl n102, .inl 0, .inl (sg 725 18)] t100 (fun v103 t104 => ∃ n106, v103 = some (.inl n106) ∧
                    EvS rSkel 1 117 [.inr (.inr (some 725)), .inl (t97 725 20), .inl ((t97 725 20) + 1)] (up2 t104 725 18 n106) (fun v107 t108 => ∃ n110, v107 = some (.inl n110) ∧
                      EvS rSkel 7 144 [.inr (.inr (some 725)), .inl (sg 730 x2.toNatClampNeg), .inl n110] t108 (fun v111 t112 => ∃ n114, v111 = some (.inl n114) ∧
                        (n114 = 0 → 
                          EvS rSkel 10 153 [.inr (.inr (some 725)), .inl 0] t112 (fun v116 t117 => v116 = none ∧
                            P none t117)) ∧
                        (¬ (n114 = 0) → 
                          EvS rSkel 1 117 [.inr (.inr (some 725)), .inl (t97 725 20), .inl ((t97 725 20) + 2)] t112 (fun v119 t120 => ∃ n122, v119 = some (.inl n122) ∧
                            EvS rSkel 7 144 [.inr (.inr (some 725)), .inl (sg 732 x2.toNatClampNeg), .inl n122] t120 (fun v123 t124 => ∃ n126, v123 = some (.inl n126) ∧
                              (n126 = 0 → 
                                EvS rSkel 10 153 [.inr (.inr (some 725)), .inl 0] t124 (fun v128 t129 => v128 = none ∧
                                  P none t129)) ∧
                              (¬ (n126 = 0) → 
                                EvS rSkel 10 153 [.inr (.inr (some 725)), .inl 1] t124 (fun v131 t132 => v131 = none ∧
                                  P none t132))))))))))))))))))) : EvS rSkel 11 159 [.inr (.inr (some 725)), .inl x1, .inl x2] sg P := by
  refine EvS.of (ini := false) rfl ⟨rfl, Nat.le_of_ble_eq_true rfl⟩ rfl ?_
  show GoS rSkel 10 9 7 none false prog_11_method_31_code 0 [(0, .inr (.inr (some 725))), (1, .inl x1), (2, .inl x2)] [] sg _
  refine gs0 1 [(0, .inr (.inr (some 725))), (1, .inl x1), (2, .inl x2)] [.inr (.inr (some 725))] dM_159_0 (fun _ => rfl) (Or.inr rfl) ?_
  refine gsGetE (sg 725 18) dM_159_1 sk_725 rfl rfl rfl ?_
  refine gs0 5 [(3, .inl (sg 725 18)), (0, .inr (.inr (some 725))), (1, .inl x1), (2, .inl x2)] [] dM_159_4 (fun _ => rfl) (Or.inr rfl) ?_
  refine gs0 6 [(3, .inl (sg 725 18)), (0, .inr (.inr (some 725))), (1, .inl x1), (2, .inl x2)] [.inr (.inr (some 725))] dM_159_5 (fun _ => rfl) (Or.inr rfl) ?_
  refine gsGetR (some 730) dM_159_6 sk_725 rfl rfl ?_
  refine gs0 10 [(3, .inl (sg 725 18)), (0, .inr (.inr (some 725))), (1, .inl x1), (2, .inl x2)] [.inl x2, .inr (.inr (some 730))] dM_159_9 (fun _ => rfl) (Or.inr rfl) ?_
  refine gsIaldN x2.toNatClampNeg (sg 730 x2.toNatClampNeg) dM_159_10 sk_730 h.1 rfl rfl ?_
  replace h := h.2
  refine gs0 13 [(4, .inl (sg 730 x2.toNatClampNeg)), (3, .inl (sg 725 18)), (0, .inr (.inr (some 725))), (1, .inl x1), (2, .inl x2)] [] dM_159_11 (fun _ => rfl) (Or.inr rfl) ?_
  refine gs0 14 [(4, .inl (sg 730 x2.toNatClampNeg)), (3, .inl (sg 725 18)), (0, .inr (.inr (some 725))), (1, .inl x1), (2, .inl x2)] [.inr (.inr (some 725))] dM_159_13 (fun _ => rfl) (Or.inr rfl) ?_
  refine gsGetR (some 732) dM_159_14 sk_725 rfl rfl ?_
  refine gs0 18 [(4, .inl (sg 730 x2.toNatClampNeg)), (3, .inl (sg 725 18)), (0, .inr (.inr (some 725))), (1, .inl x1), (2, .inl x2)] [.inl x2, .inr (.inr (some 732))] dM_159_17 (fun _ => rfl) (Or.inr rfl) ?_
  refine gsIaldN x2.toNatClampNeg (sg 732 x2.toNatClampNeg) dM_159_18 sk_732 h.1 rfl rfl ?_
  replace h := h.2
  refine gs0 21 [(5, .inl (sg 732 x2.toNatClampNeg)), (4, .inl (sg 730 x2.toNatClampNeg)), (3, .inl (sg 725 18)), (0, .inr (.inr (some 725))), (1, .inl x1), (2, .inl x2)] [] dM_159_19 (fun _ => rfl) (Or.inr rfl) ?_
  refine gs0 22 [(5, .inl (sg 732 x2.toNatClampNeg)), (4, .inl (sg 730 x2.toNatClampNeg)), (3, .inl (sg 725 18)), (0, .inr (.inr (some 725))), (1, .inl x1), (2, .inl x2)] [.inr (.inr (some 725))] dM_159_21 (fun _ => rfl) (Or.inr rfl) ?_
  refine gs0 23 [(5, .inl (sg 732 x2.toNatClampNeg)), (4, .inl (sg 730 x2.toNatClampNeg)), (3, .inl (sg 725 18)), (0, .inr (.inr (some 725))), (1, .inl x1), (2, .inl x2)] [.inr (.inr (some 725)), .inr (.inr (some 725))] dM_159_22 (fun _ => rfl) (Or.inr rfl) ?_
  refine gs0 25 [(5, .inl (sg 732 x2.toNatClampNeg)), (4, .inl (sg 730 x2.toNatClampNeg)), (3, .inl (sg 725 18)), (0, .inr (.inr (some 725))), (1, .inl x1), (2, .inl x2)] [.inl (sg 730 x2.toNatClampNeg), .inr (.inr (some 725)), .inr (.inr (some 725))] dM_159_23 (fun _ => rfl) (Or.inr rfl) ?_
  refine gs0 27 [(5, .inl (sg 732 x2.toNatClampNeg)), (4, .inl (sg 730 x2.toNatClampNeg)), (3, .inl (sg 725 18)), (0, .inr (.inr (some 725))), (1, .inl x1), (2, .inl x2)] [.inl 74, .inl (sg 730 x2.toNatClampNeg), .inr (.inr (some 725)), .inr (.inr (some 725))] dM_159_25 (fun _ => rfl) (Or.inr rfl) ?_
  refine gsCallV (y := 144) (k := 725) (as := [.inr (.inr (some 725)), .inl (sg 730 x2.toNatClampNeg), .inl 74]) (r := [.inr (.inr (some 725))]) dM_159_27 rfl rfl rfl (Nat.le_of_ble_eq_true rfl) sk_725 rfl (Nat.le_of_ble_eq_true rfl) (EvS.up h (Nat.le_of_ble_eq_true rfl)) (fun v1 t2 hv3 => ?_)
  obtain ⟨n4, rfl, hn⟩ := hv3
  clear h
  show GoS _ _ _ _ _ _ _ _ [(5, .inl (sg 732 x2.toNatClampNeg)), (4, .inl (sg 730 x2.toNatClampNeg)), (3, .inl (sg 725 18)), (0, .inr (.inr (some 725))), (1, .inl x1), (2, .inl x2)] [.inl n4, .inr (.inr (some 725))] t2 _
  refine gsIf (t := 52) (C := n4 = 0) (r := [.inr (.inr (some 725))]) dM_159_30 (fun _ => rfl) (Or.inr rfl) (rTest_iff .eq n4 0) (fun c5 => ?_) (fun c5 => ?_)
  · replace hn := hn.1 c5
    refine gs0 53 [(5, .inl (sg 732 x2.toNatClampNeg)), (4, .inl (sg 730 x2.toNatClampNeg)), (3, .inl (sg 725 18)), (0, .inr (.inr (some 725))), (1, .inl x1), (2, .inl x2)] [.inl 0, .inr (.inr (some 725))] dM_159_52 (fun _ => rfl) (Or.inr rfl) ?_
    refine gsCallV (y := 153) (k := 725) (as := [.inr (.inr (some 725)), .inl 0]) (r := []) dM_159_53 rfl rfl rfl (Nat.le_of_ble_eq_true rfl) sk_725 rfl (Nat.le_of_ble_eq_true rfl) (EvS.up hn (Nat.le_of_ble_eq_true rfl)) (fun v6 t7 hv8 => ?_)
    obtain ⟨rfl, hnn⟩ := hv8
    clear hn
    show GoS _ _ _ _ _ _ _ _ [(5, .inl (sg 732 x2.toNatClampNeg)), (4, .inl (sg 730 x2.toNatClampNeg)), (3, .inl (sg 725 18)), (0, .inr (.inr (some 725))), (1, .inl x1), (2, .inl x2)] [] t7 _
    refine gs0 57 [(5, .inl (sg 732 x2.toNatClampNeg)), (4, .inl (sg 730 x2.toNatClampNeg)), (3, .inl (sg 725 18)), (0, .inr (.inr (some 725))), (1, .inl x1), (2, .inl x2)] [.inr (.inr (some 725))] dM_159_56 (fun _ => rfl) (Or.inr rfl) ?_
    refine gs0 58 [(5, .inl (sg 732 x2.toNatClampNeg)), (4, .inl (sg 730 x2.toNatClampNeg)), (3, .inl (sg 725 18)), (0, .inr (.inr (some 725))), (1, .inl x1), (2, .inl x2)] [.inl x1, .inr (.inr (some 725))] dM_159_57 (fun _ => rfl) (Or.inr rfl) ?_
    refine gsCallV (y := 140) (k := 725) (as := [.inr (.inr (some 725)), .inl x1]) (r := []) dM_159_58 rfl rfl rfl (Nat.le_of_ble_eq_true rfl) sk_725 rfl (Nat.le_of_ble_eq_true rfl) (EvS.up hnn (Nat.le_of_ble_eq_true rfl)) (fun v9 t10 hv11 => ?_)
    obtain ⟨rfl, hnnn⟩ := hv11
    clear hnn
    show GoS _ _ _ _ _ _ _ _ [(5, .inl (sg 732 x2.toNatClampNeg)), (4, .inl (sg 730 x2.toNatClampNeg)), (3, .inl (sg 725 18)), (0, .inr (.inr (some 725))), (1, .inl x1), (2, .inl x2)] [] t10 _
    refine gs0 62 [(5, .inl (sg 732 x2.toNatClampNeg)), (4, .inl (sg 730 x2.toNatClampNeg)), (3, .inl (sg 725 18)), (0, .inr (.inr (some 725))), (1, .inl x1), (2, .inl x2)] [.inr (.inr (some 725))] dM_159_61 (fun _ => rfl) (Or.inr rfl) ?_
    refine gsGetE (t10 725 20) dM_159_62 sk_725 rfl rfl rfl ?_
    refine gs0 67 [(6, .inl (t10 725 20)), (5, .inl (sg 732 x2.toNatClampNeg)), (4, .inl (sg 730 x2.toNatClampNeg)), (3, .inl (sg 725 18)), (0, .inr (.inr (some 725))), (1, .inl x1), (2, .inl x2)] [] dM_159_65 (fun _ => rfl) (Or.inr rfl) ?_
    refine gs0 68 [(6, .inl (t10 725 20)), (5, .inl (sg 732 x2.toNatClampNeg)), (4, .inl (sg 730 x2.toNatClampNeg)), (3, .inl (sg 725 18)), (0, .inr (.inr (some 725))), (1, .inl x1), (2, .inl x2)] [.inr (.inr (some 725))] dM_159_67 (fun _ => rfl) (Or.inr rfl) ?_
    refine gs0 69 [(6, .inl (t10 725 20)), (5, .inl (sg 732 x2.toNatClampNeg)), (4, .inl (sg 730 x2.toNatClampNeg)), (3, .inl (sg 725 18)), (0, .inr (.inr (some 725))), (1, .inl x1), (2, .inl x2)] [.inr (.inr (some 725)), .inr (.inr (some 725))] dM_159_68 (fun _ => rfl) (Or.inr rfl) ?_
    refine gsGetE (t10 725 20) dM_159_69 sk_725 rfl rfl rfl ?_
    refine gs0 73 [(6, .inl (t10 725 20)), (5, .inl (sg 732 x2.toNatClampNeg)), (4, .inl (sg 730 x2.toNatClampNeg)), (3, .inl (sg 725 18)), (0, .inr (.inr (some 725))), (1, .inl x1), (2, .inl x2)] [.inl 3, .inl (t10 725 20), .inr (.inr (some 725))] dM_159_72 (fun _ => rfl) (Or.inr rfl) ?_
    refine gs0 74 [(6, .inl (t10 725 20)), (5, .inl (sg 732 x2.toNatClampNeg)), (4, .inl (sg 730 x2.toNatClampNeg)), (3, .inl (sg 725 18)), (0, .inr (.inr (some 725))), (1, .inl x1), (2, .inl x2)] [.inl ((t10 725 20) + 3), .inr (.inr (some 725))] dM_159_73 (fun _ => rfl) (Or.inr rfl) ?_
    refine gsPut dM_159_74 sk_725 rfl rfl rfl (by decide) ?_
    refine gs0 78 [(6, .inl (t10 725 20)), (5, .inl (sg 732 x2.toNatClampNeg)), (4, .inl (sg 730 x2.toNatClampNeg)), (3, .inl (sg 725 18)), (0, .inr (.inr (some 725))), (1, .inl x1), (2, .inl x2)] [.inr (.inr (some 725))] dM_159_77 (fun _ => rfl) (Or.inr rfl) ?_
    refine gs0 79 [(6, .inl (t10 725 20)), (5, .inl (sg 732 x2.toNatClampNeg)), (4, .inl (sg 730 x2.toNatClampNeg)), (3, .inl (sg 725 18)), (0, .inr (.inr (some 725))), (1, .inl x1), (2, .inl x2)] [.inr (.inr (some 725)), .inr (.inr (some 725))] dM_159_78 (fun _ => rfl) (Or.inr rfl) ?_
    refine gs0 80 [(6, .inl (t10 725 20)), (5, .inl (sg 732 x2.toNatClampNeg)), (4, .inl (sg 730 x2.toNatClampNeg)), (3, .inl (sg 725 18)), (0, .inr (.inr (some 725))), (1, .inl x1), (2, .inl x2)] [.inr (.inr (some 725)), .inr (.inr (some 725)), .inr (.inr (some 725))] dM_159_79 (fun _ => rfl) (Or.inr rfl) ?_
    refine gs0 82 [(6, .inl (t10 725 20)), (5, .inl (sg 732 x2.toNatClampNeg)), (4, .inl (sg 730 x2.toNatClampNeg)), (3, .inl (sg 725 18)), (0, .inr (.inr (some 725))), (1, .inl x1), (2, .inl x2)] [.inl 65, .inr (.inr (some 725)), .inr (.inr (some 725)), .inr (.inr (some 725))] dM_159_80 (fun _ => rfl) (Or.inr rfl) ?_
    refine gs0 84 [(6, .inl (t10 725 20)), (5, .inl (sg 732 x2.toNatClampNeg)), (4, .inl (sg 730 x2.toNatClampNeg)), (3, .inl (sg 725 18)), (0, .inr (.inr (some 725))), (1, .inl x1), (2, .inl x2)] [.inl (t10 725 20), .inl 65, .inr (.inr (some 725)), .inr (.inr (some 725)), .inr (.inr (some 725))] dM_159_82 (fun _ => rfl) (Or.inr rfl) ?_
    refine gs0 85 [(6, .inl (t10 725 20)), (5, .inl (sg 732 x2.toNatClampNeg)), (4, .inl (sg 730 x2.toNatClampNeg)), (3, .inl (sg 725 18)), (0, .inr (.inr (some 725))), (1, .inl x1), (2, .inl x2)] [.inl 1, .inl (t10 725 20), .inl 65, .inr (.inr (some 725)), .inr (.inr (some 725)), .inr (.inr (some 725))] dM_159_84 (fun _ => rfl) (Or.inr rfl) ?_
    refine gs0 86 [(6, .inl (t10 725 20)), (5, .inl (sg 732 x2.toNatClampNeg)), (4, .inl (sg 730 x2.toNatClampNeg)), (3, .inl (sg 725 18)), (0, .inr (.inr (some 725))), (1, .inl x1), (2, .inl x2)] [.inl ((t10 725 20) + 1), .inl 65, .inr (.inr (some 725)), .inr (.inr (some 725)), .inr (.inr (some 725))] dM_159_85 (fun _ => rfl) (Or.inr rfl) ?_
    refine gs0 87 [(6, .inl (t10 725 20)), (5, .inl (sg 732 x2.toNatClampNeg)), (4, .inl (sg 730 x2.toNatClampNeg)), (3, .inl (sg 725 18)), (0, .inr (.inr (some 725))), (1, .inl x1), (2, .inl x2)] [.inr (.inr (some 725)), .inl ((t10 725 20) + 1), .inl 65, .inr (.inr (some 725)), .inr (.inr (some 725)), .inr (.inr (some 725))] dM_159_86 (fun _ => rfl) (Or.inr rfl) ?_
    refine gsGetR (some 731) dM_159_87 sk_725 rfl rfl ?_
    refine gs0 91 [(6, .inl (t10 725 20)), (5, .inl (sg 732 x2.toNatClampNeg)), (4, .inl (sg 730 x2.toNatClampNeg)), (3, .inl (sg 725 18)), (0, .inr (.inr (some 725))), (1, .inl x1), (2, .inl x2)] [.inl x2, .inr (.inr (some 731)), .inl ((t10 725 20) + 1), .inl 65, .inr (.inr (some 725)), .inr (.inr (some 725)), .inr (.inr (some 725))] dM_159_90 (fun _ => rfl) (Or.inr rfl) ?_
    refine gsIaldN x2.toNatClampNeg (t10 731 x2.toNatClampNeg) dM_159_91 sk_731 hnnn.1 rfl (congrFun (up2_nk _ _ _ (by decide)) _) ?_
    replace hnnn := hnnn.2
    refine gs0 94 [(6, .inl (t10 725 20)), (5, .inl (sg 732 x2.toNatClampNeg)), (4, .inl (sg 730 x2.toNatClampNeg)), (3, .inl (sg 725 18)), (0, .inr (.inr (some 725))), (1, .inl x1), (2, .inl x2)] [.inl (t10 725 20), .inl (t10 731 x2.toNatClampNeg), .inl ((t10 725 20) + 1), .inl 65, .inr (.inr (some 725)), .inr (.inr (some 725)), .inr (.inr (some 725))] dM_159_92 (fun _ => rfl) (Or.inr rfl) ?_
    refine gs0 95 [(6, .inl (t10 725 20)), (5, .inl (sg 732 x2.toNatClampNeg)), (4, .inl (sg 730 x2.toNatClampNeg)), (3, .inl (sg 725 18)), (0, .inr (.inr (some 725))), (1, .inl x1), (2, .inl x2)] [.inl 2, .inl (t10 725 20), .inl (t10 731 x2.toNatClampNeg), .inl ((t10 725 20) + 1), .inl 65, .inr (.inr (some 725)), .inr (.inr (some 725)), .inr (.inr (some 725))] dM_159_94 (fun _ => rfl) (Or.inr rfl) ?_
    refine gs0 96 [(6, .inl (t10 725 20)), (5, .inl (sg 732 x2.toNatClampNeg)), (4, .inl (sg 730 x2.toNatClampNeg)), (3, .inl (sg 725 18)), (0, .inr (.inr (some 725))), (1, .inl x1), (2, .inl x2)] [.inl ((t10 725 20) + 2), .inl (t10 731 x2.toNatClampNeg), .inl ((t10 725 20) + 1), .inl 65, .inr (.inr (some 725)), .inr (.inr (some 725)), .inr (.inr (some 725))] dM_159_95 (fun _ => rfl) (Or.inr rfl) ?_
    refine gsCallV (y := 120) (k := 725) (as := [.inr (.inr (some 725)), .inl 65, .inl ((t10 725 20) + 1), .inl (t10 731 x2.toNatClampNeg), .inl ((t10 725 20) + 2)]) (r := [.inr (.inr (some 725)), .inr (.inr (some 725))]) dM_159_96 rfl rfl rfl (Nat.le_of_ble_eq_true rfl) sk_725 rfl (Nat.le_of_ble_eq_true rfl) (EvS.up hnnn (Nat.le_of_ble_eq_true rfl)) (fun v12 t13 hv14 => ?_)
    obtain ⟨n15, rfl, hnnnn⟩ := hv14
    clear hnnn
    show GoS _ _ _ _ _ _ _ _ [(6, .inl (t10 725 20)), (5, .inl (sg 732 x2.toNatClampNeg)), (4, .inl (sg 730 x2.toNatClampNeg)), (3, .inl (sg 725 18)), (0, .inr (.inr (some 725))), (1, .inl x1), (2, .inl x2)] [.inl n15, .inr (.inr (some 725)), .inr (.inr (some 725))] t13 _
    refine gs0 100 [(6, .inl (t10 725 20)), (5, .inl (sg 732 x2.toNatClampNeg)), (4, .inl (sg 730 x2.toNatClampNeg)), (3, .inl (sg 725 18)), (0, .inr (.inr (some 725))), (1, .inl x1), (2, .inl x2)] [.inl 0, .inl n15, .inr (.inr (some 725)), .inr (.inr (some 725))] dM_159_99 (fun _ => rfl) (Or.inr rfl) ?_
    refine gs0 101 [(6, .inl (t10 725 20)), (5, .inl (sg 732 x2.toNatClampNeg)), (4, .inl (sg 730 x2.toNatClampNeg)), (3, .inl (sg 725 18)), (0, .inr (.inr (some 725))), (1, .inl x1), (2, .inl x2)] [.inl (sg 725 18), .inl 0, .inl n15, .inr (.inr (some 725)), .inr (.inr (some 725))] dM_159_100 (fun _ => rfl) (Or.inr rfl) ?_
    refine gsCallV (y := 123) (k := 725) (as := [.inr (.inr (some 725)), .inl n15, .inl 0, .inl (sg 725 18)]) (r := [.inr (.inr (some 725))]) dM_159_101 rfl rfl rfl (Nat.le_of_ble_eq_true rfl) sk_725 rfl (Nat.le_of_ble_eq_true rfl) (EvS.up hnnnn (Nat.le_of_ble_eq_true rfl)) (fun v16 t17 hv18 => ?_)
    obtain ⟨n19, rfl, hnnnnn⟩ := hv18
    clear hnnnn
    show GoS _ _ _ _ _ _ _ _ [(6, .inl (t10 725 20)), (5, .inl (sg 732 x2.toNatClampNeg)), (4, .inl (sg 730 x2.toNatClampNeg)), (3, .inl (sg 725 18)), (0, .inr (.inr (some 725))), (1, .inl x1), (2, .inl x2)] [.inl n19, .inr (.inr (some 725))] t17 _
    refine gsPut dM_159_104 sk_725 rfl rfl rfl (by decide) ?_
    refine gs0 108 [(6, .inl (t10 725 20)), (5, .inl (sg 732 x2.toNatClampNeg)), (4, .inl (sg 730 x2.toNatClampNeg)), (3, .inl (sg 725 18)), (0, .inr (.inr (some 725))), (1, .inl x1), (2, .inl x2)] [.inr (.inr (some 725))] dM_159_107 (fun _ => rfl) (Or.inr rfl) ?_
    refine gs0 109 [(6, .inl (t10 725 20)), (5, .inl (sg 732 x2.toNatClampNeg)), (4, .inl (sg 730 x2.toNatClampNeg)), (3, .inl (sg 725 18)), (0, .inr (.inr (some 725))), (1, .inl x1), (2, .inl x2)] [.inr (.inr (some 725)), .inr (.inr (some 725))] dM_159_108 (fun _ => rfl) (Or.inr rfl) ?_
    refine gs0 111 [(6, .inl (t10 725 20)), (5, .inl (sg 732 x2.toNatClampNeg)), (4, .inl (sg 730 x2.toNatClampNeg)), (3, .inl (sg 725 18)), (0, .inr (.inr (some 725))), (1, .inl x1), (2, .inl x2)] [.inl (sg 730 x2.toNatClampNeg), .inr (.inr (some 725)), .inr (.inr (some 725))] dM_159_109 (fun _ => rfl) (Or.inr rfl) ?_
    refine gs0 112 [(6, .inl (t10 725 20)), (5, .inl (sg 732 x2.toNatClampNeg)), (4, .inl (sg 730 x2.toNatClampNeg)), (3, .inl (sg 725 18)), (0, .inr (.inr (some 725))), (1, .inl x1), (2, .inl x2)] [.inr (.inr (some 725)), .inl (sg 730 x2.toNatClampNeg), .inr (.inr (some 725)), .inr (.inr (some 725))] dM_159_111 (fun _ => rfl) (Or.inr rfl) ?_
    refine gs0 114 [(6, .inl (t10 725 20)), (5, .inl (sg 732 x2.toNatClampNeg)), (4, .inl (sg 730 x2.toNatClampNeg)), (3, .inl (sg 725 18)), (0, .inr (.inr (some 725))), (1, .inl x1), (2, .inl x2)] [.inl (t10 725 20), .inr (.inr (some 725)), .inl (sg 730 x2.toNatClampNeg), .inr (.inr (some 725)), .inr (.inr (some 725))] dM_159_112 (fun _ => rfl) (Or.inr rfl) ?_
    refine gs0 116 [(6, .inl (t10 725 20)), (5, .inl (sg 732 x2.toNatClampNeg)), (4, .inl (sg 730 x2.toNatClampNeg)), (3, .inl (sg 725 18)), (0, .inr (.inr (some 725))), (1, .inl x1), (2, .inl x2)] [.inl (t10 725 20), .inl (t10 725 20), .inr (.inr (some 725)), .inl (sg 730 x2.toNatClampNeg), .inr (.inr (some 725)), .inr (.inr (some 725))] dM_159_114 (fun _ => rfl) (Or.inr rfl) ?_
    refine gs0 117 [(6, .inl (t10 725 20)), (5, .inl (sg 732 x2.toNatClampNeg)), (4, .inl (sg 730 x2.toNatClampNeg)), (3, .inl (sg 725 18)), (0, .inr (.inr (some 725))), (1, .inl x1), (2, .inl x2)] [.inl 1, .inl (t10 725 20), .inl (t10 725 20), .inr (.inr (some 725)), .inl (sg 730 x2.toNatClampNeg), .inr (.inr (some 725)), .inr (.inr (some 725))] dM_159_116 (fun _ => rfl) (Or.inr rfl) ?_
    refine gs0 118 [(6, .inl (t10 725 20)), (5, .inl (sg 732 x2.toNatClampNeg)), (4, .inl (sg 730 x2.toNatClampNeg)), (3, .inl (sg 725 18)), (0, .inr (.inr (some 725))), (1, .inl x1), (2, .inl x2)] [.inl ((t10 725 20) + 1), .inl (t10 725 20), .inr (.inr (some 725)), .inl (sg 730 x2.toNatClampNeg), .inr (.inr (some 725)), .inr (.inr (some 725))] dM_159_117 (fun _ => rfl) (Or.inr rfl) ?_
    refine gsCallV (y := 117) (k := 725) (as := [.inr (.inr (some 725)), .inl (t10 725 20), .inl ((t10 725 20) + 1)]) (r := [.inl (sg 730 x2.toNatClampNeg), .inr (.inr (some 725)), .inr (.inr (some 725))]) dM_159_118 rfl rfl rfl (Nat.le_of_ble_eq_true rfl) sk_725 rfl (Nat.le_of_ble_eq_true rfl) (EvS.up hnnnnn (Nat.le_of_ble_eq_true rfl)) (fun v20 t21 hv22 => ?_)
    obtain ⟨n23, rfl, hnnnnnn⟩ := hv22
    clear hnnnnn
    show GoS _ _ _ _ _ _ _ _ [(6, .inl (t10 725 20)), (5, .inl (sg 732 x2.toNatClampNeg)), (4, .inl (sg 730 x2.toNatClampNeg)), (3, .inl (sg 725 18)), (0, .inr (.inr (some 725))), (1, .inl x1), (2, .inl x2)] [.inl n23, .inl (sg 730 x2.toNatClampNeg), .inr (.inr (some 725)), .inr (.inr (some 725))] t21 _
    refine gsCallV (y := 144) (k := 725) (as := [.inr (.inr (some 725)), .inl (sg 730 x2.toNatClampNeg), .inl n23]) (r := [.inr (.inr (some 725))]) dM_159_121 rfl rfl rfl (Nat.le_of_ble_eq_true rfl) sk_725 rfl (Nat.le_of_ble_eq_true rfl) (EvS.up hnnnnnn (Nat.le_of_ble_eq_true rfl)) (fun v24 t25 hv26 => ?_)
    obtain ⟨n27, rfl, hnnnnnnn⟩ := hv26
    clear hnnnnnn
    show GoS _ _ _ _ _ _ _ _ [(6, .inl (t10 725 20)), (5, .inl (sg 732 x2.toNatClampNeg)), (4, .inl (sg 730 x2.toNatClampNeg)), (3, .inl (sg 725 18)), (0, .inr (.inr (some 725))), (1, .inl x1), (2, .inl x2)] [.inl n27, .inr (.inr (some 725))] t25 _
    refine gsIf (t := 150) (C := n27 = 0) (r := [.inr (.inr (some 725))]) dM_159_124 (fun _ => rfl) (Or.inr rfl) (rTest_iff .eq n27 0) (fun c28 => ?_) (fun c28 => ?_)
    · replace hnnnnnnn := hnnnnnnn.1 c28
      refine gs0 151 [(6, .inl (t10 725 20)), (5, .inl (sg 732 x2.toNatClampNeg)), (4, .inl (sg 730 x2.toNatClampNeg)), (3, .inl (sg 725 18)), (0, .inr (.inr (some 725))), (1, .inl x1), (2, .inl x2)] [.inl 0, .inr (.inr (some 725))] dM_159_150 (fun _ => rfl) (Or.inr rfl) ?_
      refine gsCallV (y := 153) (k := 725) (as := [.inr (.inr (some 725)), .inl 0]) (r := []) dM_159_151 rfl rfl rfl (Nat.le_of_ble_eq_true rfl) sk_725 rfl (Nat.le_of_ble_eq_true rfl) (EvS.up hnnnnnnn (Nat.le_of_ble_eq_true rfl)) (fun v29 t30 hv31 => ?_)
      obtain ⟨rfl, hnnnnnnnn⟩ := hv31
      clear hnnnnnnn
      show GoS _ _ _ _ _ _ _ _ [(6, .inl (t10 725 20)), (5, .inl (sg 732 x2.toNatClampNeg)), (4, .inl (sg 730 x2.toNatClampNeg)), (3, .inl (sg 725 18)), (0, .inr (.inr (some 725))), (1, .inl x1), (2, .inl x2)] [] t30 _
      refine gsRet (r := none) dM_159_154 (fun _ => rfl) (Or.inr rfl) ?_
      exact hnnnnnnnn
    · replace hnnnnnnn := hnnnnnnn.2 c28
      refine gs0 128 [(6, .inl (t10 725 20)), (5, .inl (sg 732 x2.toNatClampNeg)), (4, .inl (sg 730 x2.toNatClampNeg)), (3, .inl (sg 725 18)), (0, .inr (.inr (some 725))), (1, .inl x1), (2, .inl x2)] [.inr (.inr (some 725)), .inr (.inr (some 725))] dM_159_127 (fun _ => rfl) (Or.inr rfl) ?_
      refine gs0 130 [(6, .inl (t10 725 20)), (5, .inl (sg 732 x2.toNatClampNeg)), (4, .inl (sg 730 x2.toNatClampNeg)), (3, .inl (sg 725 18)), (0, .inr (.inr (some 725))), (1, .inl x1), (2, .inl x2)] [.inl (sg 732 x2.toNatClampNeg), .inr (.inr (some 725)), .inr (.inr (some 725))] dM_159_128 (fun _ => rfl) (Or.inr rfl) ?_
      refine gs0 131 [(6, .inl (t10 725 20)), (5, .inl (sg 732 x2.toNatClampNeg)), (4, .inl (sg 730 x2.toNatClampNeg)), (3, .inl (sg 725 18)), (0, .inr (.inr (some 725))), (1, .inl x1), (2, .inl x2)] [.inr (.inr (some 725)), .inl (sg 732 x2.toNatClampNeg), .inr (.inr (some 725)), .inr (.inr (some 725))] dM_159_130 (fun _ => rfl) (Or.inr rfl) ?_
      refine gs0 133 [(6, .inl (t10 725 20)), (5, .inl (sg 732 x2.toNatClampNeg)), (4, .inl (sg 730 x2.toNatClampNeg)), (3, .inl (sg 725 18)), (0, .inr (.inr (some 725))), (1, .inl x1), (2, .inl x2)] [.inl (t10 725 20), .inr (.inr (some 725)), .inl (sg 732 x2.toNatClampNeg), .inr (.inr (some 725)), .inr (.inr (some 725))] dM_159_131 (fun _ => rfl) (Or.inr rfl) ?_
      refine gs0 135 [(6, .inl (t10 725 20)), (5, .inl (sg 732 x2.toNatClampNeg)), (4, .inl (sg 730 x2.toNatClampNeg)), (3, .inl (sg 725 18)), (0, .inr (.inr (some 725))), (1, .inl x1), (2, .inl x2)] [.inl (t10 725 20), .inl (t10 725 20), .inr (.inr (some 725)), .inl (sg 732 x2.toNatClampNeg), .inr (.inr (some 725)), .inr (.inr (some 725))] dM_159_133 (fun _ => rfl) (Or.inr rfl) ?_
      refine gs0 136 [(6, .inl (t10 725 20)), (5, .inl (sg 732 x2.toNatClampNeg)), (4, .inl (sg 730 x2.toNatClampNeg)), (3, .inl (sg 725 18)), (0, .inr (.inr (some 725))), (1, .inl x1), (2, .inl x2)] [.inl 2, .inl (t10 725 20), .inl (t10 725 20), .inr (.inr (some 725)), .inl (sg 732 x2.toNatClampNeg), .inr (.inr (some 725)), .inr (.inr (some 725))] dM_159_135 (fun _ => rfl) (Or.inr rfl) ?_
      refine gs0 137 [(6, .inl (t10 725 20)), (5, .inl (sg 732 x2.toNatClampNeg)), (4, .inl (sg 730 x2.toNatClampNeg)), (3, .inl (sg 725 18)), (0, .inr (.inr (some 725))), (1, .inl x1), (2, .inl x2)] [.inl ((t10 725 20) + 2), .inl (t10 725 20), .inr (.inr (some 725)), .inl (sg 732 x2.toNatClampNeg), .inr (.inr (some 725)), .inr (.inr (some 725))] dM_159_136 (fun _ => rfl) (Or.inr rfl) ?_
      refine gsCallV (y := 117) (k := 725) (as := [.inr (.inr (some 725)), .inl (t10 725 20), .inl ((t10 725 20) + 2)]) (r := [.inl (sg 732 x2.toNatClampNeg), .inr (.inr (some 725)), .inr (.inr (some 725))]) dM_159_137 rfl rfl rfl (Nat.le_of_ble_eq_true rfl) sk_725 rfl (Nat.le_of_ble_eq_true rfl) (EvS.up hnnnnnnn (Nat.le_of_ble_eq_true rfl)) (fun v32 t33 hv34 => ?_)
      obtain ⟨n35, rfl, hnnnnnnnn⟩ := hv34
      clear hnnnnnnn
      show GoS _ _ _ _ _ _ _ _ [(6, .inl (t10 725 20)), (5, .inl (sg 732 x2.toNatClampNeg)), (4, .inl (sg 730 x2.toNatClampNeg)), (3, .inl (sg 725 18)), (0, .inr (.inr (some 725))), (1, .inl x1), (2, .inl x2)] [.inl n35, .inl (sg 732 x2.toNatClampNeg), .inr (.inr (some 725)), .inr (.inr (some 725))] t33 _
      refine gsCallV (y := 144) (k := 725) (as := [.inr (.inr (some 725)), .inl (sg 732 x2.toNatClampNeg), .inl n35]) (r := [.inr (.inr (some 725))]) dM_159_140 rfl rfl rfl (Nat.le_of_ble_eq_true rfl) sk_725 rfl (Nat.le_of_ble_eq_true rfl) (EvS.up hnnnnnnnn (Nat.le_of_ble_eq_true rfl)) (fun v36 t37 hv38 => ?_)
      obtain ⟨n39, rfl, hnnnnnnnnn⟩ := hv38
      clear hnnnnnnnn
      show GoS _ _ _ _ _ _ _ _ [(6, .inl (t10 725 20)), (5, .inl (sg 732 x2.toNatClampNeg)), (4, .inl (sg 730 x2.toNatClampNeg)), (3, .inl (sg 725 18)), (0, .inr (.inr (some 725))), (1, .inl x1), (2, .inl x2)] [.inl n39, .inr (.inr (some 725))] t37 _
      refine gsIf (t := 150) (C := n39 = 0) (r := [.inr (.inr (some 725))]) dM_159_143 (fun _ => rfl) (Or.inr rfl) (rTest_iff .eq n39 0) (fun c40 => ?_) (fun c40 => ?_)
      · replace hnnnnnnnnn := hnnnnnnnnn.1 c40
        refine gs0 151 [(6, .inl (t10 725 20)), (5, .inl (sg 732 x2.toNatClampNeg)), (4, .inl (sg 730 x2.toNatClampNeg)), (3, .inl (sg 725 18)), (0, .inr (.inr (some 725))), (1, .inl x1), (2, .inl x2)] [.inl 0, .inr (.inr (some 725))] dM_159_150 (fun _ => rfl) (Or.inr rfl) ?_
        refine gsCallV (y := 153) (k := 725) (as := [.inr (.inr (some 725)), .inl 0]) (r := []) dM_159_151 rfl rfl rfl (Nat.le_of_ble_eq_true rfl) sk_725 rfl (Nat.le_of_ble_eq_true rfl) (EvS.up hnnnnnnnnn (Nat.le_of_ble_eq_true rfl)) (fun v41 t42 hv43 => ?_)
        obtain ⟨rfl, hnnnnnnnnnn⟩ := hv43
        clear hnnnnnnnnn
        show GoS _ _ _ _ _ _ _ _ [(6, .inl (t10 725 20)), (5, .inl (sg 732 x2.toNatClampNeg)), (4, .inl (sg 730 x2.toNatClampNeg)), (3, .inl (sg 725 18)), (0, .inr (.inr (some 725))), (1, .inl x1), (2, .inl x2)] [] t42 _
        refine gsRet (r := none) dM_159_154 (fun _ => rfl) (Or.inr rfl) ?_
        exact hnnnnnnnnnn
      · replace hnnnnnnnnn := hnnnnnnnnn.2 c40
        refine gs0 147 [(6, .inl (t10 725 20)), (5, .inl (sg 732 x2.toNatClampNeg)), (4, .inl (sg 730 x2.toNatClampNeg)), (3, .inl (sg 725 18)), (0, .inr (.inr (some 725))), (1, .inl x1), (2, .inl x2)] [.inl 1, .inr (.inr (some 725))] dM_159_146 (fun _ => rfl) (Or.inr rfl) ?_
        refine gs0 151 [(6, .inl (t10 725 20)), (5, .inl (sg 732 x2.toNatClampNeg)), (4, .inl (sg 730 x2.toNatClampNeg)), (3, .inl (sg 725 18)), (0, .inr (.inr (some 725))), (1, .inl x1), (2, .inl x2)] [.inl 1, .inr (.inr (some 725))] dM_159_147 (fun _ => rfl) (Or.inr rfl) ?_
        refine gsCallV (y := 153) (k := 725) (as := [.inr (.inr (some 725)), .inl 1]) (r := []) dM_159_151 rfl rfl rfl (Nat.le_of_ble_eq_true rfl) sk_725 rfl (Nat.le_of_ble_eq_true rfl) (EvS.up hnnnnnnnnn (Nat.le_of_ble_eq_true rfl)) (fun v44 t45 hv46 => ?_)
        obtain ⟨rfl, hnnnnnnnnnn⟩ := hv46
        clear hnnnnnnnnn
        show GoS _ _ _ _ _ _ _ _ [(6, .inl (t10 725 20)), (5, .inl (sg 732 x2.toNatClampNeg)), (4, .inl (sg 730 x2.toNatClampNeg)), (3, .inl (sg 725 18)), (0, .inr (.inr (some 725))), (1, .inl x1), (2, .inl x2)] [] t45 _
        refine gsRet (r := none) dM_159_154 (fun _ => rfl) (Or.inr rfl) ?_
        exact hnnnnnnnnnn
  · replace hn := hn.2 c5
    refine gs0 34 [(5, .inl (sg 732 x2.toNatClampNeg)), (4, .inl (sg 730 x2.toNatClampNeg)), (3, .inl (sg 725 18)), (0, .inr (.inr (some 725))), (1, .inl x1), (2, .inl x2)] [.inr (.inr (some 725)), .inr (.inr (some 725))] dM_159_33 (fun _ => rfl) (Or.inr rfl) ?_
    refine gs0 35 [(5, .inl (sg 732 x2.toNatClampNeg)), (4, .inl (sg 730 x2.toNatClampNeg)), (3, .inl (sg 725 18)), (0, .inr (.inr (some 725))), (1, .inl x1), (2, .inl x2)] [.inr (.inr (some 725)), .inr (.inr (some 725)), .inr (.inr (some 725))] dM_159_34 (fun _ => rfl) (Or.inr rfl) ?_
    refine gsGetR (some 731) dM_159_35 sk_725 rfl rfl ?_
    refine gs0 39 [(5, .inl (sg 732 x2.toNatClampNeg)), (4, .inl (sg 730 x2.toNatClampNeg)), (3, .inl (sg 725 18)), (0, .inr (.inr (some 725))), (1, .inl x1), (2, .inl x2)] [.inl x2, .inr (.inr (some 731)), .inr (.inr (some 725)), .inr (.inr (some 725))] dM_159_38 (fun _ => rfl) (Or.inr rfl) ?_
    refine gsIaldN x2.toNatClampNeg (t2 731 x2.toNatClampNeg) dM_159_39 sk_731 hn.1 rfl rfl ?_
    replace hn := hn.2
    refine gs0 42 [(5, .inl (sg 732 x2.toNatClampNeg)), (4, .inl (sg 730 x2.toNatClampNeg)), (3, .inl (sg 725 18)), (0, .inr (.inr (some 725))), (1, .inl x1), (2, .inl x2)] [.inl (sg 732 x2.toNatClampNeg), .inl (t2 731 x2.toNatClampNeg), .inr (.inr (some 725)), .inr (.inr (some 725))] dM_159_40 (fun _ => rfl) (Or.inr rfl) ?_
    refine gsCallV (y := 144) (k := 725) (as := [.inr (.inr (some 725)), .inl (t2 731 x2.toNatClampNeg), .inl (sg 732 x2.toNatClampNeg)]) (r := [.inr (.inr (some 725))]) dM_159_42 rfl rfl rfl (Nat.le_of_ble_eq_true rfl) sk_725 rfl (Nat.le_of_ble_eq_true rfl) (EvS.up hn (Nat.le_of_ble_eq_true rfl)) (fun v47 t48 hv49 => ?_)
    obtain ⟨n50, rfl, hnn⟩ := hv49
    clear hn
    show GoS _ _ _ _ _ _ _ _ [(5, .inl (sg 732 x2.toNatClampNeg)), (4, .inl (sg 730 x2.toNatClampNeg)), (3, .inl (sg 725 18)), (0, .inr (.inr (some 725))), (1, .inl x1), (2, .inl x2)] [.inl n50, .inr (.inr (some 725))] t48 _
    refine gsIf (t := 52) (C := n50 = 0) (r := [.inr (.inr (some 725))]) dM_159_45 (fun _ => rfl) (Or.inr rfl) (rTest_iff .eq n50 0) (fun c51 => ?_) (fun c51 => ?_)
    · replace hnn := hnn.1 c51
      refine gs0 53 [(5, .inl (sg 732 x2.toNatClampNeg)), (4, .inl (sg 730 x2.toNatClampNeg)), (3, .inl (sg 725 18)), (0, .inr (.inr (some 725))), (1, .inl x1), (2, .inl x2)] [.inl 0, .inr (.inr (some 725))] dM_159_52 (fun _ => rfl) (Or.inr rfl) ?_
      refine gsCallV (y := 153) (k := 725) (as := [.inr (.inr (some 725)), .inl 0]) (r := []) dM_159_53 rfl rfl rfl (Nat.le_of_ble_eq_true rfl) sk_725 rfl (Nat.le_of_ble_eq_true rfl) (EvS.up hnn (Nat.le_of_ble_eq_true rfl)) (fun v52 t53 hv54 => ?_)
      obtain ⟨rfl, hnnn⟩ := hv54
      clear hnn
      show GoS _ _ _ _ _ _ _ _ [(5, .inl (sg 732 x2.toNatClampNeg)), (4, .inl (sg 730 x2.toNatClampNeg)), (3, .inl (sg 725 18)), (0, .inr (.inr (some 725))), (1, .inl x1), (2, .inl x2)] [] t53 _
      refine gs0 57 [(5, .inl (sg 732 x2.toNatClampNeg)), (4, .inl (sg 730 x2.toNatClampNeg)), (3, .inl (sg 725 18)), (0, .inr (.inr (some 725))), (1, .inl x1), (2, .inl x2)] [.inr (.inr (some 725))] dM_159_56 (fun _ => rfl) (Or.inr rfl) ?_
      refine gs0 58 [(5, .inl (sg 732 x2.toNatClampNeg)), (4, .inl (sg 730 x2.toNatClampNeg)), (3, .inl (sg 725 18)), (0, .inr (.inr (some 725))), (1, .inl x1), (2, .inl x2)] [.inl x1, .inr (.inr (some 725))] dM_159_57 (fun _ => rfl) (Or.inr rfl) ?_
      refine gsCallV (y := 140) (k := 725) (as := [.inr (.inr (some 725)), .inl x1]) (r := []) dM_159_58 rfl rfl rfl (Nat.le_of_ble_eq_true rfl) sk_725 rfl (Nat.le_of_ble_eq_true rfl) (EvS.up hnnn (Nat.le_of_ble_eq_true rfl)) (fun v55 t56 hv57 => ?_)
      obtain ⟨rfl, hnnnn⟩ := hv57
      clear hnnn
      show GoS _ _ _ _ _ _ _ _ [(5, .inl (sg 732 x2.toNatClampNeg)), (4, .inl (sg 730 x2.toNatClampNeg)), (3, .inl (sg 725 18)), (0, .inr (.inr (some 725))), (1, .inl x1), (2, .inl x2)] [] t56 _
      refine gs0 62 [(5, .inl (sg 732 x2.toNatClampNeg)), (4, .inl (sg 730 x2.toNatClampNeg)), (3, .inl (sg 725 18)), (0, .inr (.inr (some 725))), (1, .inl x1), (2, .inl x2)] [.inr (.inr (some 725))] dM_159_61 (fun _ => rfl) (Or.inr rfl) ?_
      refine gsGetE (t56 725 20) dM_159_62 sk_725 rfl rfl rfl ?_
      refine gs0 67 [(6, .inl (t56 725 20)), (5, .inl (sg 732 x2.toNatClampNeg)), (4, .inl (sg 730 x2.toNatClampNeg)), (3, .inl (sg 725 18)), (0, .inr (.inr (some 725))), (1, .inl x1), (2, .inl x2)] [] dM_159_65 (fun _ => rfl) (Or.inr rfl) ?_
      refine gs0 68 [(6, .inl (t56 725 20)), (5, .inl (sg 732 x2.toNatClampNeg)), (4, .inl (sg 730 x2.toNatClampNeg)), (3, .inl (sg 725 18)), (0, .inr (.inr (some 725))), (1, .inl x1), (2, .inl x2)] [.inr (.inr (some 725))] dM_159_67 (fun _ => rfl) (Or.inr rfl) ?_
      refine gs0 69 [(6, .inl (t56 725 20)), (5, .inl (sg 732 x2.toNatClampNeg)), (4, .inl (sg 730 x2.toNatClampNeg)), (3, .inl (sg 725 18)), (0, .inr (.inr (some 725))), (1, .inl x1), (2, .inl x2)] [.inr (.inr (some 725)), .inr (.inr (some 725))] dM_159_68 (fun _ => rfl) (Or.inr rfl) ?_
      refine gsGetE (t56 725 20) dM_159_69 sk_725 rfl rfl rfl ?_
      refine gs0 73 [(6, .inl (t56 725 20)), (5, .inl (sg 732 x2.toNatClampNeg)), (4, .inl (sg 730 x2.toNatClampNeg)), (3, .inl (sg 725 18)), (0, .inr (.inr (some 725))), (1, .inl x1), (2, .inl x2)] [.inl 3, .inl (t56 725 20), .inr (.inr (some 725))] dM_159_72 (fun _ => rfl) (Or.inr rfl) ?_
      refine gs0 74 [(6, .inl (t56 725 20)), (5, .inl (sg 732 x2.toNatClampNeg)), (4, .inl (sg 730 x2.toNatClampNeg)), (3, .inl (sg 725 18)), (0, .inr (.inr (some 725))), (1, .inl x1), (2, .inl x2)] [.inl ((t56 725 20) + 3), .inr (.inr (some 725))] dM_159_73 (fun _ => rfl) (Or.inr rfl) ?_
      refine gsPut dM_159_74 sk_725 rfl rfl rfl (by decide) ?_
      refine gs0 78 [(6, .inl (t56 725 20)), (5, .inl (sg 732 x2.toNatClampNeg)), (4, .inl (sg 730 x2.toNatClampNeg)), (3, .inl (sg 725 18)), (0, .inr (.inr (some 725))), (1, .inl x1), (2, .inl x2)] [.inr (.inr (some 725))] dM_159_77 (fun _ => rfl) (Or.inr rfl) ?_
      refine gs0 79 [(6, .inl (t56 725 20)), (5, .inl (sg 732 x2.toNatClampNeg)), (4, .inl (sg 730 x2.toNatClampNeg)), (3, .inl (sg 725 18)), (0, .inr (.inr (some 725))), (1, .inl x1), (2, .inl x2)] [.inr (.inr (some 725)), .inr (.inr (some 725))] dM_159_78 (fun _ => rfl) (Or.inr rfl) ?_
      refine gs0 80 [(6, .inl (t56 725 20)), (5, .inl (sg 732 x2.toNatClampNeg)), (4, .inl (sg 730 x2.toNatClampNeg)), (3, .inl (sg 725 18)), (0, .inr (.inr (some 725))), (1, .inl x1), (2, .inl x2)] [.inr (.inr (some 725)), .inr (.inr (some 725)), .inr (.inr (some 725))] dM_159_79 (fun _ => rfl) (Or.inr rfl) ?_
      refine gs0 82 [(6, .inl (t56 725 20)), (5, .inl (sg 732 x2.toNatClampNeg)), (4, .inl (sg 730 x2.toNatClampNeg)), (3, .inl (sg 725 18)), (0, .inr (.inr (some 725))), (1, .inl x1), (2, .inl x2)] [.inl 65, .inr (.inr (some 725)), .inr (.inr (some 725)), .inr (.inr (some 725))] dM_159_80 (fun _ => rfl) (Or.inr rfl) ?_
      refine gs0 84 [(6, .inl (t56 725 20)), (5, .inl (sg 732 x2.toNatClampNeg)), (4, .inl (sg 730 x2.toNatClampNeg)), (3, .inl (sg 725 18)), (0, .inr (.inr (some 725))), (1, .inl x1), (2, .inl x2)] [.inl (t56 725 20), .inl 65, .inr (.inr (some 725)), .inr (.inr (some 725)), .inr (.inr (some 725))] dM_159_82 (fun _ => rfl) (Or.inr rfl) ?_
      refine gs0 85 [(6, .inl (t56 725 20)), (5, .inl (sg 732 x2.toNatClampNeg)), (4, .inl (sg 730 x2.toNatClampNeg)), (3, .inl (sg 725 18)), (0, .inr (.inr (some 725))), (1, .inl x1), (2, .inl x2)] [.inl 1, .inl (t56 725 20), .inl 65, .inr (.inr (some 725)), .inr (.inr (some 725)), .inr (.inr (some 725))] dM_159_84 (fun _ => rfl) (Or.inr rfl) ?_
      refine gs0 86 [(6, .inl (t56 725 20)), (5, .inl (sg 732 x2.toNatClampNeg)), (4, .inl (sg 730 x2.toNatClampNeg)), (3, .inl (sg 725 18)), (0, .inr (.inr (some 725))), (1, .inl x1), (2, .inl x2)] [.inl ((t56 725 20) + 1), .inl 65, .inr (.inr (some 725)), .inr (.inr (some 725)), .inr (.inr (some 725))] dM_159_85 (fun _ => rfl) (Or.inr rfl) ?_
      refine gs0 87 [(6, .inl (t56 725 20)), (5, .inl (sg 732 x2.toNatClampNeg)), (4, .inl (sg 730 x2.toNatClampNeg)), (3, .inl (sg 725 18)), (0, .inr (.inr (some 725))), (1, .inl x1), (2, .inl x2)] [.inr (.inr (some 725)), .inl ((t56 725 20) + 1), .inl 65, .inr (.inr (some 725)), .inr (.inr (some 725)), .inr (.inr (some 725))] dM_159_86 (fun _ => rfl) (Or.inr rfl) ?_
      refine gsGetR (some 731) dM_159_87 sk_725 rfl rfl ?_
      refine gs0 91 [(6, .inl (t56 725 20)), (5, .inl (sg 732 x2.toNatClampNeg)), (4, .inl (sg 730 x2.toNatClampNeg)), (3, .inl (sg 725 18)), (0, .inr (.inr (some 725))), (1, .inl x1), (2, .inl x2)] [.inl x2, .inr (.inr (some 731)), .inl ((t56 725 20) + 1), .inl 65, .inr (.inr (some 725)), .inr (.inr (some 725)), .inr (.inr (some 725))] dM_159_90 (fun _ => rfl) (Or.inr rfl) ?_
      refine gsIaldN x2.toNatClampNeg (t56 731 x2.toNatClampNeg) dM_159_91 sk_731 hnnnn.1 rfl (congrFun (up2_nk _ _ _ (by decide)) _) ?_
      replace hnnnn := hnnnn.2
      refine gs0 94 [(6, .inl (t56 725 20)), (5, .inl (sg 732 x2.toNatClampNeg)), (4, .inl (sg 730 x2.toNatClampNeg)), (3, .inl (sg 725 18)), (0, .inr (.inr (some 725))), (1, .inl x1), (2, .inl x2)] [.inl (t56 725 20), .inl (t56 731 x2.toNatClampNeg), .inl ((t56 725 20) + 1), .inl 65, .inr (.inr (some 725)), .inr (.inr (some 725)), .inr (.inr (some 725))] dM_159_92 (fun _ => rfl) (Or.inr rfl) ?_
      refine gs0 95 [(6, .inl (t56 725 20)), (5, .inl (sg 732 x2.toNatClampNeg)), (4, .inl (sg 730 x2.toNatClampNeg)), (3, .inl (sg 725 18)), (0, .inr (.inr (some 725))), (1, .inl x1), (2, .inl x2)] [.inl 2, .inl (t56 725 20), .inl (t56 731 x2.toNatClampNeg), .inl ((t56 725 20) + 1), .inl 65, .inr (.inr (some 725)), .inr (.inr (some 725)), .inr (.inr (some 725))] dM_159_94 (fun _ => rfl) (Or.inr rfl) ?_
      refine gs0 96 [(6, .inl (t56 725 20)), (5, .inl (sg 732 x2.toNatClampNeg)), (4, .inl (sg 730 x2.toNatClampNeg)), (3, .inl (sg 725 18)), (0, .inr (.inr (some 725))), (1, .inl x1), (2, .inl x2)] [.inl ((t56 725 20) + 2), .inl (t56 731 x2.toNatClampNeg), .inl ((t56 725 20) + 1), .inl 65, .inr (.inr (some 725)), .inr (.inr (some 725)), .inr (.inr (some 725))] dM_159_95 (fun _ => rfl) (Or.inr rfl) ?_
      refine gsCallV (y := 120) (k := 725) (as := [.inr (.inr (some 725)), .inl 65, .inl ((t56 725 20) + 1), .inl (t56 731 x2.toNatClampNeg), .inl ((t56 725 20) + 2)]) (r := [.inr (.inr (some 725)), .inr (.inr (some 725))]) dM_159_96 rfl rfl rfl (Nat.le_of_ble_eq_true rfl) sk_725 rfl (Nat.le_of_ble_eq_true rfl) (EvS.up hnnnn (Nat.le_of_ble_eq_true rfl)) (fun v58 t59 hv60 => ?_)
      obtain ⟨n61, rfl, hnnnnn⟩ := hv60
      clear hnnnn
      show GoS _ _ _ _ _ _ _ _ [(6, .inl (t56 725 20)), (5, .inl (sg 732 x2.toNatClampNeg)), (4, .inl (sg 730 x2.toNatClampNeg)), (3, .inl (sg 725 18)), (0, .inr (.inr (some 725))), (1, .inl x1), (2, .inl x2)] [.inl n61, .inr (.inr (some 725)), .inr (.inr (some 725))] t59 _
      refine gs0 100 [(6, .inl (t56 725 20)), (5, .inl (sg 732 x2.toNatClampNeg)), (4, .inl (sg 730 x2.toNatClampNeg)), (3, .inl (sg 725 18)), (0, .inr (.inr (some 725))), (1, .inl x1), (2, .inl x2)] [.inl 0, .inl n61, .inr (.inr (some 725)), .inr (.inr (some 725))] dM_159_99 (fun _ => rfl) (Or.inr rfl) ?_
      refine gs0 101 [(6, .inl (t56 725 20)), (5, .inl (sg 732 x2.toNatClampNeg)), (4, .inl (sg 730 x2.toNatClampNeg)), (3, .inl (sg 725 18)), (0, .inr (.inr (some 725))), (1, .inl x1), (2, .inl x2)] [.inl (sg 725 18), .inl 0, .inl n61, .inr (.inr (some 725)), .inr (.inr (some 725))] dM_159_100 (fun _ => rfl) (Or.inr rfl) ?_
      refine gsCallV (y := 123) (k := 725) (as := [.inr (.inr (some 725)), .inl n61, .inl 0, .inl (sg 725 18)]) (r := [.inr (.inr (some 725))]) dM_159_101 rfl rfl rfl (Nat.le_of_ble_eq_true rfl) sk_725 rfl (Nat.le_of_ble_eq_true rfl) (EvS.up hnnnnn (Nat.le_of_ble_eq_true rfl)) (fun v62 t63 hv64 => ?_)
      obtain ⟨n65, rfl, hnnnnnn⟩ := hv64
      clear hnnnnn
      show GoS _ _ _ _ _ _ _ _ [(6, .inl (t56 725 20)), (5, .inl (sg 732 x2.toNatClampNeg)), (4, .inl (sg 730 x2.toNatClampNeg)), (3, .inl (sg 725 18)), (0, .inr (.inr (some 725))), (1, .inl x1), (2, .inl x2)] [.inl n65, .inr (.inr (some 725))] t63 _
      refine gsPut dM_159_104 sk_725 rfl rfl rfl (by decide) ?_
      refine gs0 108 [(6, .inl (t56 725 20)), (5, .inl (sg 732 x2.toNatClampNeg)), (4, .inl (sg 730 x2.toNatClampNeg)), (3, .inl (sg 725 18)), (0, .inr (.inr (some 725))), (1, .inl x1), (2, .inl x2)] [.inr (.inr (some 725))] dM_159_107 (fun _ => rfl) (Or.inr rfl) ?_
      refine gs0 109 [(6, .inl (t56 725 20)), (5, .inl (sg 732 x2.toNatClampNeg)), (4, .inl (sg 730 x2.toNatClampNeg)), (3, .inl (sg 725 18)), (0, .inr (.inr (some 725))), (1, .inl x1), (2, .inl x2)] [.inr (.inr (some 725)), .inr (.inr (some 725))] dM_159_108 (fun _ => rfl) (Or.inr rfl) ?_
      refine gs0 111 [(6, .inl (t56 725 20)), (5, .inl (sg 732 x2.toNatClampNeg)), (4, .inl (sg 730 x2.toNatClampNeg)), (3, .inl (sg 725 18)), (0, .inr (.inr (some 725))), (1, .inl x1), (2, .inl x2)] [.inl (sg 730 x2.toNatClampNeg), .inr (.inr (some 725)), .inr (.inr (some 725))] dM_159_109 (fun _ => rfl) (Or.inr rfl) ?_
      refine gs0 112 [(6, .inl (t56 725 20)), (5, .inl (sg 732 x2.toNatClampNeg)), (4, .inl (sg 730 x2.toNatClampNeg)), (3, .inl (sg 725 18)), (0, .inr (.inr (some 725))), (1, .inl x1), (2, .inl x2)] [.inr (.inr (some 725)), .inl (sg 730 x2.toNatClampNeg), .inr (.inr (some 725)), .inr (.inr (some 725))] dM_159_111 (fun _ => rfl) (Or.inr rfl) ?_
      refine gs0 114 [(6, .inl (t56 725 20)), (5, .inl (sg 732 x2.toNatClampNeg)), (4, .inl (sg 730 x2.toNatClampNeg)), (3, .inl (sg 725 18)), (0, .inr (.inr (some 725))), (1, .inl x1), (2, .inl x2)] [.inl (t56 725 20), .inr (.inr (some 725)), .inl (sg 730 x2.toNatClampNeg), .inr (.inr (some 725)), .inr (.inr (some 725))] dM_159_112 (fun _ => rfl) (Or.inr rfl) ?_
      refine gs0 116 [(6, .inl (t56 725 20)), (5, .inl (sg 732 x2.toNatClampNeg)), (4, .inl (sg 730 x2.toNatClampNeg)), (3, .inl (sg 725 18)), (0, .inr (.inr (some 725))), (1, .inl x1), (2, .inl x2)] [.inl (t56 725 20), .inl (t56 725 20), .inr (.inr (some 725)), .inl (sg 730 x2.toNatClampNeg), .inr (.inr (some 725)), .inr (.inr (some 725))] dM_159_114 (fun _ => rfl) (Or.inr rfl) ?_
      refine gs0 117 [(6, .inl (t56 725 20)), (5, .inl (sg 732 x2.toNatClampNeg)), (4, .inl (sg 730 x2.toNatClampNeg)), (3, .inl (sg 725 18)), (0, .inr (.inr (some 725))), (1, .inl x1), (2, .inl x2)] [.inl 1, .inl (t56 725 20), .inl (t56 725 20), .inr (.inr (some 725)), .inl (sg 730 x2.toNatClampNeg), .inr (.inr (some 725)), .inr (.inr (some 725))] dM_159_116 (fun _ => rfl) (Or.inr rfl) ?_
      refine gs0 118 [(6, .inl (t56 725 20)), (5, .inl (sg 732 x2.toNatClampNeg)), (4, .inl (sg 730 x2.toNatClampNeg)), (3, .inl (sg 725 18)), (0, .inr (.inr (some 725))), (1, .inl x1), (2, .inl x2)] [.inl ((t56 725 20) + 1), .inl (t56 725 20), .inr (.inr (some 725)), .inl (sg 730 x2.toNatClampNeg), .inr (.inr (some 725)), .inr (.inr (some 725))] dM_159_117 (fun _ => rfl) (Or.inr rfl) ?_
      refine gsCallV (y := 117) (k := 725) (as := [.inr (.inr (some 725)), .inl (t56 725 20), .inl ((t56 725 20) + 1)]) (r := [.inl (sg 730 x2.toNatClampNeg), .inr (.inr (some 725)), .inr (.inr (some 725))]) dM_159_118 rfl rfl rfl (Nat.le_of_ble_eq_true rfl) sk_725 rfl (Nat.le_of_ble_eq_true rfl) (EvS.up hnnnnnn (Nat.le_of_ble_eq_true rfl)) (fun v66 t67 hv68 => ?_)
      obtain ⟨n69, rfl, hnnnnnnn⟩ := hv68
      clear hnnnnnn
      show GoS _ _ _ _ _ _ _ _ [(6, .inl (t56 725 20)), (5, .inl (sg 732 x2.toNatClampNeg)), (4, .inl (sg 730 x2.toNatClampNeg)), (3, .inl (sg 725 18)), (0, .inr (.inr (some 725))), (1, .inl x1), (2, .inl x2)] [.inl n69, .inl (sg 730 x2.toNatClampNeg), .inr (.inr (some 725)), .inr (.inr (some 725))] t67 _
      refine gsCallV (y := 144) (k := 725) (as := [.inr (.inr (some 725)), .inl (sg 730 x2.toNatClampNeg), .inl n69]) (r := [.inr (.inr (some 725))]) dM_159_121 rfl rfl rfl (Nat.le_of_ble_eq_true rfl) sk_725 rfl (Nat.le_of_ble_eq_true rfl) (EvS.up hnnnnnnn (Nat.le_of_ble_eq_true rfl)) (fun v70 t71 hv72 => ?_)
      obtain ⟨n73, rfl, hnnnnnnnn⟩ := hv72
      clear hnnnnnnn
      show GoS _ _ _ _ _ _ _ _ [(6, .inl (t56 725 20)), (5, .inl (sg 732 x2.toNatClampNeg)), (4, .inl (sg 730 x2.toNatClampNeg)), (3, .inl (sg 725 18)), (0, .inr (.inr (some 725))), (1, .inl x1), (2, .inl x2)] [.inl n73, .inr (.inr (some 725))] t71 _
      refine gsIf (t := 150) (C := n73 = 0) (r := [.inr (.inr (some 725))]) dM_159_124 (fun _ => rfl) (Or.inr rfl) (rTest_iff .eq n73 0) (fun c74 => ?_) (fun c74 => ?_)
      · replace hnnnnnnnn := hnnnnnnnn.1 c74
        refine gs0 151 [(6, .inl (t56 725 20)), (5, .inl (sg 732 x2.toNatClampNeg)), (4, .inl (sg 730 x2.toNatClampNeg)), (3, .inl (sg 725 18)), (0, .inr (.inr (some 725))), (1, .inl x1), (2, .inl x2)] [.inl 0, .inr (.inr (some 725))] dM_159_150 (fun _ => rfl) (Or.inr rfl) ?_
        refine gsCallV (y := 153) (k := 725) (as := [.inr (.inr (some 725)), .inl 0]) (r := []) dM_159_151 rfl rfl rfl (Nat.le_of_ble_eq_true rfl) sk_725 rfl (Nat.le_of_ble_eq_true rfl) (EvS.up hnnnnnnnn (Nat.le_of_ble_eq_true rfl)) (fun v75 t76 hv77 => ?_)
        obtain ⟨rfl, hnnnnnnnnn⟩ := hv77
        clear hnnnnnnnn
        show GoS _ _ _ _ _ _ _ _ [(6, .inl (t56 725 20)), (5, .inl (sg 732 x2.toNatClampNeg)), (4, .inl (sg 730 x2.toNatClampNeg)), (3, .inl (sg 725 18)), (0, .inr (.inr (some 725))), (1, .inl x1), (2, .inl x2)] [] t76 _
        refine gsRet (r := none) dM_159_154 (fun _ => rfl) (Or.inr rfl) ?_
        exact hnnnnnnnnn
      · replace hnnnnnnnn := hnnnnnnnn.2 c74
        refine gs0 128 [(6, .inl (t56 725 20)), (5, .inl (sg 732 x2.toNatClampNeg)), (4, .inl (sg 730 x2.toNatClampNeg)), (3, .inl (sg 725 18)), (0, .inr (.inr (some 725))), (1, .inl x1), (2, .inl x2)] [.inr (.inr (some 725)), .inr (.inr (some 725))] dM_159_127 (fun _ => rfl) (Or.inr rfl) ?_
        refine gs0 130 [(6, .inl (t56 725 20)), (5, .inl (sg 732 x2.toNatClampNeg)), (4, .inl (sg 730 x2.toNatClampNeg)), (3, .inl (sg 725 18)), (0, .inr (.inr (some 725))), (1, .inl x1), (2, .inl x2)] [.inl (sg 732 x2.toNatClampNeg), .inr (.inr (some 725)), .inr (.inr (some 725))] dM_159_128 (fun _ => rfl) (Or.inr rfl) ?_
        refine gs0 131 [(6, .inl (t56 725 20)), (5, .inl (sg 732 x2.toNatClampNeg)), (4, .inl (sg 730 x2.toNatClampNeg)), (3, .inl (sg 725 18)), (0, .inr (.inr (some 725))), (1, .inl x1), (2, .inl x2)] [.inr (.inr (some 725)), .inl (sg 732 x2.toNatClampNeg), .inr (.inr (some 725)), .inr (.inr (some 725))] dM_159_130 (fun _ => rfl) (Or.inr rfl) ?_
        refine gs0 133 [(6, .inl (t56 725 20)), (5, .inl (sg 732 x2.toNatClampNeg)), (4, .inl (sg 730 x2.toNatClampNeg)), (3, .inl (sg 725 18)), (0, .inr (.inr (some 725))), (1, .inl x1), (2, .inl x2)] [.inl (t56 725 20), .inr (.inr (some 725)), .inl (sg 732 x2.toNatClampNeg), .inr (.inr (some 725)), .inr (.inr (some 725))] dM_159_131 (fun _ => rfl) (Or.inr rfl) ?_
        refine gs0 135 [(6, .inl (t56 725 20)), (5, .inl (sg 732 x2.toNatClampNeg)), (4, .inl (sg 730 x2.toNatClampNeg)), (3, .inl (sg 725 18)), (0, .inr (.inr (some 725))), (1, .inl x1), (2, .inl x2)] [.inl (t56 725 20), .inl (t56 725 20), .inr (.inr (some 725)), .inl (sg 732 x2.toNatClampNeg), .inr (.inr (some 725)), .inr (.inr (some 725))] dM_159_133 (fun _ => rfl) (Or.inr rfl) ?_
        refine gs0 136 [(6, .inl (t56 725 20)), (5, .inl (sg 732 x2.toNatClampNeg)), (4, .inl (sg 730 x2.toNatClampNeg)), (3, .inl (sg 725 18)), (0, .inr (.inr (some 725))), (1, .inl x1), (2, .inl x2)] [.inl 2, .inl (t56 725 20), .inl (t56 725 20), .inr (.inr (some 725)), .inl (sg 732 x2.toNatClampNeg), .inr (.inr (some 725)), .inr (.inr (some 725))] dM_159_135 (fun _ => rfl) (Or.inr rfl) ?_
        refine gs0 137 [(6, .inl (t56 725 20)), (5, .inl (sg 732 x2.toNatClampNeg)), (4, .inl (sg 730 x2.toNatClampNeg)), (3, .inl (sg 725 18)), (0, .inr (.inr (some 725))), (1, .inl x1), (2, .inl x2)] [.inl ((t56 725 20) + 2), .inl (t56 725 20), .inr (.inr (some 725)), .inl (sg 732 x2.toNatClampNeg), .inr (.inr (some 725)), .inr (.inr (some 725))] dM_159_136 (fun _ => rfl) (Or.inr rfl) ?_
        refine gsCallV (y := 117) (k := 725) (as := [.inr (.inr (some 725)), .inl (t56 725 20), .inl ((t56 725 20) + 2)]) (r := [.inl (sg 732 x2.toNatClampNeg), .inr (.inr (some 725)), .inr (.inr (some 725))]) dM_159_137 rfl rfl rfl (Nat.le_of_ble_eq_true rfl) sk_725 rfl (Nat.le_of_ble_eq_true rfl) (EvS.up hnnnnnnnn (Nat.le_of_ble_eq_true rfl)) (fun v78 t79 hv80 => ?_)
        obtain ⟨n81, rfl, hnnnnnnnnn⟩ := hv80
        clear hnnnnnnnn
        show GoS _ _ _ _ _ _ _ _ [(6, .inl (t56 725 20)), (5, .inl (sg 732 x2.toNatClampNeg)), (4, .inl (sg 730 x2.toNatClampNeg)), (3, .inl (sg 725 18)), (0, .inr (.inr (some 725))), (1, .inl x1), (2, .inl x2)] [.inl n81, .inl (sg 732 x2.toNatClampNeg), .inr (.inr (some 725)), .inr (.inr (some 725))] t79 _
        refine gsCallV (y := 144) (k := 725) (as := [.inr (.inr (some 725)), .inl (sg 732 x2.toNatClampNeg), .inl n81]) (r := [.inr (.inr (some 725))]) dM_159_140 rfl rfl rfl (Nat.le_of_ble_eq_true rfl) sk_725 rfl (Nat.le_of_ble_eq_true rfl) (EvS.up hnnnnnnnnn (Nat.le_of_ble_eq_true rfl)) (fun v82 t83 hv84 => ?_)
        obtain ⟨n85, rfl, hnnnnnnnnnn⟩ := hv84
        clear hnnnnnnnnn
        show GoS _ _ _ _ _ _ _ _ [(6, .inl (t56 725 20)), (5, .inl (sg 732 x2.toNatClampNeg)), (4, .inl (sg 730 x2.toNatClampNeg)), (3, .inl (sg 725 18)), (0, .inr (.inr (some 725))), (1, .inl x1), (2, .inl x2)] [.inl n85, .inr (.inr (some 725))] t83 _
        refine gsIf (t := 150) (C := n85 = 0) (r := [.inr (.inr (some 725))]) dM_159_143 (fun _ => rfl) (Or.inr rfl) (rTest_iff .eq n85 0) (fun c86 => ?_) (fun c86 => ?_)
        · replace hnnnnnnnnnn := hnnnnnnnnnn.1 c86
          refine gs0 151 [(6, .inl (t56 725 20)), (5, .inl (sg 732 x2.toNatClampNeg)), (4, .inl (sg 730 x2.toNatClampNeg)), (3, .inl (sg 725 18)), (0, .inr (.inr (some 725))), (1, .inl x1), (2, .inl x2)] [.inl 0, .inr (.inr (some 725))] dM_159_150 (fun _ => rfl) (Or.inr rfl) ?_
          refine gsCallV (y := 153) (k := 725) (as := [.inr (.inr (some 725)), .inl 0]) (r := []) dM_159_151 rfl rfl rfl (Nat.le_of_ble_eq_true rfl) sk_725 rfl (Nat.le_of_ble_eq_true rfl) (EvS.up hnnnnnnnnnn (Nat.le_of_ble_eq_true rfl)) (fun v87 t88 hv89 => ?_)
          obtain ⟨rfl, hnnnnnnnnnnn⟩ := hv89
          clear hnnnnnnnnnn
          show GoS _ _ _ _ _ _ _ _ [(6, .inl (t56 725 20)), (5, .inl (sg 732 x2.toNatClampNeg)), (4, .inl (sg 730 x2.toNatClampNeg)), (3, .inl (sg 725 18)), (0, .inr (.inr (some 725))), (1, .inl x1), (2, .inl x2)] [] t88 _
          refine gsRet (r := none) dM_159_154 (fun _ => rfl) (Or.inr rfl) ?_
          exact hnnnnnnnnnnn
        · replace hnnnnnnnnnn := hnnnnnnnnnn.2 c86
          refine gs0 147 [(6, .inl (t56 725 20)), (5, .inl (sg 732 x2.toNatClampNeg)), (4, .inl (sg 730 x2.toNatClampNeg)), (3, .inl (sg 725 18)), (0, .inr (.inr (some 725))), (1, .inl x1), (2, .inl x2)] [.inl 1, .inr (.inr (some 725))] dM_159_146 (fun _ => rfl) (Or.inr rfl) ?_
          refine gs0 151 [(6, .inl (t56 725 20)), (5, .inl (sg 732 x2.toNatClampNeg)), (4, .inl (sg 730 x2.toNatClampNeg)), (3, .inl (sg 725 18)), (0, .inr (.inr (some 725))), (1, .inl x1), (2, .inl x2)] [.inl 1, .inr (.inr (some 725))] dM_159_147 (fun _ => rfl) (Or.inr rfl) ?_
          refine gsCallV (y := 153) (k := 725) (as := [.inr (.inr (some 725)), .inl 1]) (r := []) dM_159_151 rfl rfl rfl (Nat.le_of_ble_eq_true rfl) sk_725 rfl (Nat.le_of_ble_eq_true rfl) (EvS.up hnnnnnnnnnn (Nat.le_of_ble_eq_true rfl)) (fun v90 t91 hv92 => ?_)
          obtain ⟨rfl, hnnnnnnnnnnn⟩ := hv92
          clear hnnnnnnnnnn
          show GoS _ _ _ _ _ _ _ _ [(6, .inl (t56 725 20)), (5, .inl (sg 732 x2.toNatClampNeg)), (4, .inl (sg 730 x2.toNatClampNeg)), (3, .inl (sg 725 18)), (0, .inr (.inr (some 725))), (1, .inl x1), (2, .inl x2)] [] t91 _
          refine gsRet (r := none) dM_159_154 (fun _ => rfl) (Or.inr rfl) ?_
          exact hnnnnnnnnnnn
    · replace hnn := hnn.2 c51
      refine gs0 49 [(5, .inl (sg 732 x2.toNatClampNeg)), (4, .inl (sg 730 x2.toNatClampNeg)), (3, .inl (sg 725 18)), (0, .inr (.inr (some 725))), (1, .inl x1), (2, .inl x2)] [.inl 1, .inr (.inr (some 725))] dM_159_48 (fun _ => rfl) (Or.inr rfl) ?_
      refine gs0 53 [(5, .inl (sg 732 x2.toNatClampNeg)), (4, .inl (sg 730 x2.toNatClampNeg)), (3, .inl (sg 725 18)), (0, .inr (.inr (some 725))), (1, .inl x1), (2, .inl x2)] [.inl 1, .inr (.inr (some 725))] dM_159_49 (fun _ => rfl) (Or.inr rfl) ?_
      refine gsCallV (y := 153) (k := 725) (as := [.inr (.inr (some 725)), .inl 1]) (r := []) dM_159_53 rfl rfl rfl (Nat.le_of_ble_eq_true rfl) sk_725 rfl (Nat.le_of_ble_eq_true rfl) (EvS.up hnn (Nat.le_of_ble_eq_true rfl)) (fun v93 t94 hv95 => ?_)
      obtain ⟨rfl, hnnn⟩ := hv95
      clear hnn
      show GoS _ _ _ _ _ _ _ _ [(5, .inl (sg 732 x2.toNatClampNeg)), (4, .inl (sg 730 x2.toNatClampNeg)), (3, .inl (sg 725 18)), (0, .inr (.inr (some 725))), (1, .inl x1), (2, .inl x2)] [] t94 _
      refine gs0 57 [(5, .inl (sg 732 x2.toNatClampNeg)), (4, .inl (sg 730 x2.toNatClampNeg)), (3, .inl (sg 725 18)), (0, .inr (.inr (some 725))), (1, .inl x1), (2, .inl x2)] [.inr (.inr (some 725))] dM_159_56 (fun _ => rfl) (Or.inr rfl) ?_
      refine gs0 58 [(5, .inl (sg 732 x2.toNatClampNeg)), (4, .inl (sg 730 x2.toNatClampNeg)), (3, .inl (sg 725 18)), (0, .inr (.inr (some 725))), (1, .inl x1), (2, .inl x2)] [.inl x1, .inr (.inr (some 725))] dM_159_57 (fun _ => rfl) (Or.inr rfl) ?_
      refine gsCallV (y := 140) (k := 725) (as := [.inr (.inr (some 725)), .inl x1]) (r := []) dM_159_58 rfl rfl rfl (Nat.le_of_ble_eq_true rfl) sk_725 rfl (Nat.le_of_ble_eq_true rfl) (EvS.up hnnn (Nat.le_of_ble_eq_true rfl)) (fun v96 t97 hv98 => ?_)
      obtain ⟨rfl, hnnnn⟩ := hv98
      clear hnnn
      show GoS _ _ _ _ _ _ _ _ [(5, .inl (sg 732 x2.toNatClampNeg)), (4, .inl (sg 730 x2.toNatClampNeg)), (3, .inl (sg 725 18)), (0, .inr (.inr (some 725))), (1, .inl x1), (2, .inl x2)] [] t97 _
      refine gs0 62 [(5, .inl (sg 732 x2.toNatClampNeg)), (4, .inl (sg 730 x2.toNatClampNeg)), (3, .inl (sg 725 18)), (0, .inr (.inr (some 725))), (1, .inl x1), (2, .inl x2)] [.inr (.inr (some 725))] dM_159_61 (fun _ => rfl) (Or.inr rfl) ?_
      refine gsGetE (t97 725 20) dM_159_62 sk_725 rfl rfl rfl ?_
      refine gs0 67 [(6, .inl (t97 725 20)), (5, .inl (sg 732 x2.toNatClampNeg)), (4, .inl (sg 730 x2.toNatClampNeg)), (3, .inl (sg 725 18)), (0, .inr (.inr (some 725))), (1, .inl x1), (2, .inl x2)] [] dM_159_65 (fun _ => rfl) (Or.inr rfl) ?_
      refine gs0 68 [(6, .inl (t97 725 20)), (5, .inl (sg 732 x2.toNatClampNeg)), (4, .inl (sg 730 x2.toNatClampNeg)), (3, .inl (sg 725 18)), (0, .inr (.inr (some 725))), (1, .inl x1), (2, .inl x2)] [.inr (.inr (some 725))] dM_159_67 (fun _ => rfl) (Or.inr rfl) ?_
      refine gs0 69 [(6, .inl (t97 725 20)), (5, .inl (sg 732 x2.toNatClampNeg)), (4, .inl (sg 730 x2.toNatClampNeg)), (3, .inl (sg 725 18)), (0, .inr (.inr (some 725))), (1, .inl x1), (2, .inl x2)] [.inr (.inr (some 725)), .inr (.inr (some 725))] dM_159_68 (fun _ => rfl) (Or.inr rfl) ?_
      refine gsGetE (t97 725 20) dM_159_69 sk_725 rfl rfl rfl ?_
      refine gs0 73 [(6, .inl (t97 725 20)), (5, .inl (sg 732 x2.toNatClampNeg)), (4, .inl (sg 730 x2.toNatClampNeg)), (3, .inl (sg 725 18)), (0, .inr (.inr (some 725))), (1, .inl x1), (2, .inl x2)] [.inl 3, .inl (t97 725 20), .inr (.inr (some 725))] dM_159_72 (fun _ => rfl) (Or.inr rfl) ?_
      refine gs0 74 [(6, .inl (t97 725 20)), (5, .inl (sg 732 x2.toNatClampNeg)), (4, .inl (sg 730 x2.toNatClampNeg)), (3, .inl (sg 725 18)), (0, .inr (.inr (some 725))), (1, .inl x1), (2, .inl x2)] [.inl ((t97 725 20) + 3), .inr (.inr (some 725))] dM_159_73 (fun _ => rfl) (Or.inr rfl) ?_
      refine gsPut dM_159_74 sk_725 rfl rfl rfl (by decide) ?_
      refine gs0 78 [(6, .inl (t97 725 20)), (5, .inl (sg 732 x2.toNatClampNeg)), (4, .inl (sg 730 x2.toNatClampNeg)), (3, .inl (sg 725 18)), (0, .inr (.inr (some 725))), (1, .inl x1), (2, .inl x2)] [.inr (.inr (some 725))] dM_159_77 (fun _ => rfl) (Or.inr rfl) ?_
      refine gs0 79 [(6, .inl (t97 725 20)), (5, .inl (sg 732 x2.toNatClampNeg)), (4, .inl (sg 730 x2.toNatClampNeg)), (3, .inl (sg 725 18)), (0, .inr (.inr (some 725))), (1, .inl x1), (2, .inl x2)] [.inr (.inr (some 725)), .inr (.inr (some 725))] dM_159_78 (fun _ => rfl) (Or.inr rfl) ?_
      refine gs0 80 [(6, .inl (t97 725 20)), (5, .inl (sg 732 x2.toNatClampNeg)), (4, .inl (sg 730 x2.toNatClampNeg)), (3, .inl (sg 725 18)), (0, .inr (.inr (some 725))), (1, .inl x1), (2, .inl x2)] [.inr (.inr (some 725)), .inr (.inr (some 725)), .inr (.inr (some 725))] dM_159_79 (fun _ => rfl) (Or.inr rfl) ?_
      refine gs0 82 [(6, .inl (t97 725 20)), (5, .inl (sg 732 x2.toNatClampNeg)), (4, .inl (sg 730 x2.toNatClampNeg)), (3, .inl (sg 725 18)), (0, .inr (.inr (some 725))), (1, .inl x1), (2, .inl x2)] [.inl 65, .inr (.inr (some 725)), .inr (.inr (some 725)), .inr (.inr (some 725))] dM_159_80 (fun _ => rfl) (Or.inr rfl) ?_
      refine gs0 84 [(6, .inl (t97 725 20)), (5, .inl (sg 732 x2.toNatClampNeg)), (4, .inl (sg 730 x2.toNatClampNeg)), (3, .inl (sg 725 18)), (0, .inr (.inr (some 725))), (1, .inl x1), (2, .inl x2)] [.inl (t97 725 20), .inl 65, .inr (.inr (some 725)), .inr (.inr (some 725)), .inr (.inr (some 725))] dM_159_82 (fun _ => rfl) (Or.inr rfl) ?_
      refine gs0 85 [(6, .inl (t97 725 20)), (5, .inl (sg 732 x2.toNatClampNeg)), (4, .inl (sg 730 x2.toNatClampNeg)), (3, .inl (sg 725 18)), (0, .inr (.inr (some 725))), (1, .inl x1), (2, .inl x2)] [.inl 1, .inl (t97 725 20), .inl 65, .inr (.inr (some 725)), .inr (.inr (some 725)), .inr (.inr (some 725))] dM_159_84 (fun _ => rfl) (Or.inr rfl) ?_
      refine gs0 86 [(6, .inl (t97 725 20)), (5, .inl (sg 732 x2.toNatClampNeg)), (4, .inl (sg 730 x2.toNatClampNeg)), (3, .inl (sg 725 18)), (0, .inr (.inr (some 725))), (1, .inl x1), (2, .inl x2)] [.inl ((t97 725 20) + 1), .inl 65, .inr (.inr (some 725)), .inr (.inr (some 725)), .inr (.inr (some 725))] dM_159_85 (fun _ => rfl) (Or.inr rfl) ?_
      refine gs0 87 [(6, .inl (t97 725 20)), (5, .inl (sg 732 x2.toNatClampNeg)), (4, .inl (sg 730 x2.toNatClampNeg)), (3, .inl (sg 725 18)), (0, .inr (.inr (some 725))), (1, .inl x1), (2, .inl x2)] [.inr (.inr (some 725)), .inl ((t97 725 20) + 1), .inl 65, .inr (.inr (some 725)), .inr (.inr (some 725)), .inr (.inr (some 725))] dM_159_86 (fun _ => rfl) (Or.inr rfl) ?_
      refine gsGetR (some 731) dM_159_87 sk_725 rfl rfl ?_
      refine gs0 91 [(6, .inl (t97 725 20)), (5, .inl (sg 732 x2.toNatClampNeg)), (4, .inl (sg 730 x2.toNatClampNeg)), (3, .inl (sg 725 18)), (0, .inr (.inr (some 725))), (1, .inl x1), (2, .inl x2)] [.inl x2, .inr (.inr (some 731)), .inl ((t97 725 20) + 1), .inl 65, .inr (.inr (some 725)), .inr (.inr (some 725)), .inr (.inr (some 725))] dM_159_90 (fun _ => rfl) (Or.inr rfl) ?_
      refine gsIaldN x2.toNatClampNeg (t97 731 x2.toNatClampNeg) dM_159_91 sk_731 hnnnn.1 rfl (congrFun (up2_nk _ _ _ (by decide)) _) ?_
      replace hnnnn := hnnnn.2
      refine gs0 94 [(6, .inl (t97 725 20)), (5, .inl (sg 732 x2.toNatClampNeg)), (4, .inl (sg 730 x2.toNatClampNeg)), (3, .inl (sg 725 18)), (0, .inr (.inr (some 725))), (1, .inl x1), (2, .inl x2)] [.inl (t97 725 20), .inl (t97 731 x2.toNatClampNeg), .inl ((t97 725 20) + 1), .inl 65, .inr (.inr (some 725)), .inr (.inr (some 725)), .inr (.inr (some 725))] dM_159_92 (fun _ => rfl) (Or.inr rfl) ?_
      refine gs0 95 [(6, .inl (t97 725 20)), (5, .inl (sg 732 x2.toNatClampNeg)), (4, .inl (sg 730 x2.toNatClampNeg)), (3, .inl (sg 725 18)), (0, .inr (.inr (some 725))), (1, .inl x1), (2, .inl x2)] [.inl 2, .inl (t97 725 20), .inl (t97 731 x2.toNatClampNeg), .inl ((t97 725 20) + 1), .inl 65, .inr (.inr (some 725)), .inr (.inr (some 725)), .inr (.inr (some 725))] dM_159_94 (fun _ => rfl) (Or.inr rfl) ?_
      refine gs0 96 [(6, .inl (t97 725 20)), (5, .inl (sg 732 x2.toNatClampNeg)), (4, .inl (sg 730 x2.toNatClampNeg)), (3, .inl (sg 725 18)), (0, .inr (.inr (some 725))), (1, .inl x1), (2, .inl x2)] [.inl ((t97 725 20) + 2), .inl (t97 731 x2.toNatClampNeg), .inl ((t97 725 20) + 1), .inl 65, .inr (.inr (some 725)), .inr (.inr (some 725)), .inr (.inr (some 725))] dM_159_95 (fun _ => rfl) (Or.inr rfl) ?_
      refine gsCallV (y := 120) (k := 725) (as := [.inr (.inr (some 725)), .inl 65, .inl ((t97 725 20) + 1), .inl (t97 731 x2.toNatClampNeg), .inl ((t97 725 20) + 2)]) (r := [.inr (.inr (some 725)), .inr (.inr (some 725))]) dM_159_96 rfl rfl rfl (Nat.le_of_ble_eq_true rfl) sk_725 rfl (Nat.le_of_ble_eq_true rfl) (EvS.up hnnnn (Nat.le_of_ble_eq_true rfl)) (fun v99 t100 hv101 => ?_)
      obtain ⟨n102, rfl, hnnnnn⟩ := hv101
      clear hnnnn
      show GoS _ _ _ _ _ _ _ _ [(6, .inl (t97 725 20)), (5, .inl (sg 732 x2.toNatClampNeg)), (4, .inl (sg 730 x2.toNatClampNeg)), (3, .inl (sg 725 18)), (0, .inr (.inr (some 725))), (1, .inl x1), (2, .inl x2)] [.inl n102, .inr (.inr (some 725)), .inr (.inr (some 725))] t100 _
      refine gs0 100 [(6, .inl (t97 725 20)), (5, .inl (sg 732 x2.toNatClampNeg)), (4, .inl (sg 730 x2.toNatClampNeg)), (3, .inl (sg 725 18)), (0, .inr (.inr (some 725))), (1, .inl x1), (2, .inl x2)] [.inl 0, .inl n102, .inr (.inr (some 725)), .inr (.inr (some 725))] dM_159_99 (fun _ => rfl) (Or.inr rfl) ?_
      refine gs0 101 [(6, .inl (t97 725 20)), (5, .inl (sg 732 x2.toNatClampNeg)), (4, .inl (sg 730 x2.toNatClampNeg)), (3, .inl (sg 725 18)), (0, .inr (.inr (some 725))), (1, .inl x1), (2, .inl x2)] [.inl (sg 725 18), .inl 0, .inl n102, .inr (.inr (some 725)), .inr (.inr (some 725))] dM_159_100 (fun _ => rfl) (Or.inr rfl) ?_
      refine gsCallV (y := 123) (k := 725) (as := [.inr (.inr (some 725)), .inl n102, .inl 0, .inl (sg 725 18)]) (r := [.inr (.inr (some 725))]) dM_159_101 rfl rfl rfl (Nat.le_of_ble_eq_true rfl) sk_725 rfl (Nat.le_of_ble_eq_true rfl) (EvS.up hnnnnn (Nat.le_of_ble_eq_true rfl)) (fun v103 t104 hv105 => ?_)
      obtain ⟨n106, rfl, hnnnnnn⟩ := hv105
      clear hnnnnn
      show GoS _ _ _ _ _ _ _ _ [(6, .inl (t97 725 20)), (5, .inl (sg 732 x2.toNatClampNeg)), (4, .inl (sg 730 x2.toNatClampNeg)), (3, .inl (sg 725 18)), (0, .inr (.inr (some 725))), (1, .inl x1), (2, .inl x2)] [.inl n106, .inr (.inr (some 725))] t104 _
      refine gsPut dM_159_104 sk_725 rfl rfl rfl (by decide) ?_
      refine gs0 108 [(6, .inl (t97 725 20)), (5, .inl (sg 732 x2.toNatClampNeg)), (4, .inl (sg 730 x2.toNatClampNeg)), (3, .inl (sg 725 18)), (0, .inr (.inr (some 725))), (1, .inl x1), (2, .inl x2)] [.inr (.inr (some 725))] dM_159_107 (fun _ => rfl) (Or.inr rfl) ?_
      refine gs0 109 [(6, .inl (t97 725 20)), (5, .inl (sg 732 x2.toNatClampNeg)), (4, .inl (sg 730 x2.toNatClampNeg)), (3, .inl (sg 725 18)), (0, .inr (.inr (some 725))), (1, .inl x1), (2, .inl x2)] [.inr (.inr (some 725)), .inr (.inr (some 725))] dM_159_108 (fun _ => rfl) (Or.inr rfl) ?_
      refine gs0 111 [(6, .inl (t97 725 20)), (5, .inl (sg 732 x2.toNatClampNeg)), (4, .inl (sg 730 x2.toNatClampNeg)), (3, .inl (sg 725 18)), (0, .inr (.inr (some 725))), (1, .inl x1), (2, .inl x2)] [.inl (sg 730 x2.toNatClampNeg), .inr (.inr (some 725)), .inr (.inr (some 725))] dM_159_109 (fun _ => rfl) (Or.inr rfl) ?_
      refine gs0 112 [(6, .inl (t97 725 20)), (5, .inl (sg 732 x2.toNatClampNeg)), (4, .inl (sg 730 x2.toNatClampNeg)), (3, .inl (sg 725 18)), (0, .inr (.inr (some 725))), (1, .inl x1), (2, .inl x2)] [.inr (.inr (some 725)), .inl (sg 730 x2.toNatClampNeg), .inr (.inr (some 725)), .inr (.inr (some 725))] dM_159_111 (fun _ => rfl) (Or.inr rfl) ?_
      refine gs0 114 [(6, .inl (t97 725 20)), (5, .inl (sg 732 x2.toNatClampNeg)), (4, .inl (sg 730 x2.toNatClampNeg)), (3, .inl (sg 725 18)), (0, .inr (.inr (some 725))), (1, .inl x1), (2, .inl x2)] [.inl (t97 725 20), .inr (.inr (some 725)), .inl (sg 730 x2.toNatClampNeg), .inr (.inr (some 725)), .inr (.inr (some 725))] dM_159_112 (fun _ => rfl) (Or.inr rfl) ?_
      refine gs0 116 [(6, .inl (t97 725 20)), (5, .inl (sg 732 x2.toNatClampNeg)), (4, .inl (sg 730 x2.toNatClampNeg)), (3, .inl (sg 725 18)), (0, .inr (.inr (some 725))), (1, .inl x1), (2, .inl x2)] [.inl (t97 725 20), .inl (t97 725 20), .inr (.inr (some 725)), .inl (sg 730 x2.toNatClampNeg), .inr (.inr (some 725)), .inr (.inr (some 725))] dM_159_114 (fun _ => rfl) (Or.inr rfl) ?_
      refine gs0 117 [(6, .inl (t97 725 20)), (5, .inl (sg 732 x2.toNatClampNeg)), (4, .inl (sg 730 x2.toNatClampNeg)), (3, .inl (sg 725 18)), (0, .inr (.inr (some 725))), (1, .inl x1), (2, .inl x2)] [.inl 1, .inl (t97 725 20), .inl (t97 725 20), .inr (.inr (some 725)), .inl (sg 730 x2.toNatClampNeg), .inr (.inr (some 725)), .inr (.inr (some 725))] dM_159_116 (fun _ => rfl) (Or.inr rfl) ?_
      refine gs0 118 [(6, .inl (t97 725 20)), (5, .inl (sg 732 x2.toNatClampNeg)), (4, .inl (sg 730 x2.toNatClampNeg)), (3, .inl (sg 725 18)), (0, .inr (.inr (some 725))), (1, .inl x1), (2, .inl x2)] [.inl ((t97 725 20) + 1), .inl (t97 725 20), .inr (.inr (some 725)), .inl (sg 730 x2.toNatClampNeg), .inr (.inr (some 725)), .inr (.inr (some 725))] dM_159_117 (fun _ => rfl) (Or.inr rfl) ?_
      refine gsCallV (y := 117) (k := 725) (as := [.inr (.inr (some 725)), .inl (t97 725 20), .inl ((t97 725 20) + 1)]) (r := [.inl (sg 730 x2.toNatClampNeg), .inr (.inr (some 725)), .inr (.inr (some 725))]) dM_159_118 rfl rfl rfl (Nat.le_of_ble_eq_true rfl) sk_725 rfl (Nat.le_of_ble_eq_true rfl) (EvS.up hnnnnnn (Nat.le_of_ble_eq_true rfl)) (fun v107 t108 hv109 => ?_)
      obtain ⟨n110, rfl, hnnnnnnn⟩ := hv109
      clear hnnnnnn
      show GoS _ _ _ _ _ _ _ _ [(6, .inl (t97 725 20)), (5, .inl (sg 732 x2.toNatClampNeg)), (4, .inl (sg 730 x2.toNatClampNeg)), (3, .inl (sg 725 18)), (0, .inr (.inr (some 725))), (1, .inl x1), (2, .inl x2)] [.inl n110, .inl (sg 730 x2.toNatClampNeg), .inr (.inr (some 725)), .inr (.inr (some 725))] t108 _
      refine gsCallV (y := 144) (k := 725) (as := [.inr (.inr (some 725)), .inl (sg 730 x2.toNatClampNeg), .inl n110]) (r := [.inr (.inr (some 725))]) dM_159_121 rfl rfl rfl (Nat.le_of_ble_eq_true rfl) sk_725 rfl (Nat.le_of_ble_eq_true rfl) (EvS.up hnnnnnnn (Nat.le_of_ble_eq_true rfl)) (fun v111 t112 hv113 => ?_)
      obtain ⟨n114, rfl, hnnnnnnnn⟩ := hv113
      clear hnnnnnnn
      show GoS _ _ _ _ _ _ _ _ [(6, .inl (t97 725 20)), (5, .inl (sg 732 x2.toNatClampNeg)), (4, .inl (sg 730 x2.toNatClampNeg)), (3, .inl (sg 725 18)), (0, .inr (.inr (some 725))), (1, .inl x1), (2, .inl x2)] [.inl n114, .inr (.inr (some 725))] t112 _
      refine gsIf (t := 150) (C := n114 = 0) (r := [.inr (.inr (some 725))]) dM_159_124 (fun _ => rfl) (Or.inr rfl) (rTest_iff .eq n114 0) (fun c115 => ?_) (fun c115 => ?_)
      · replace hnnnnnnnn := hnnnnnnnn.1 c115
        refine gs0 151 [(6, .inl (t97 725 20)), (5, .inl (sg 732 x2.toNatClampNeg)), (4, .inl (sg 730 x2.toNatClampNeg)), (3, .inl (sg 725 18)), (0, .inr (.inr (some 725))), (1, .inl x1), (2, .inl x2)] [.inl 0, .inr (.inr (some 725))] dM_159_150 (fun _ => rfl) (Or.inr rfl) ?_
        refine gsCallV (y := 153) (k := 725) (as := [.inr (.inr (some 725)), .inl 0]) (r := []) dM_159_151 rfl rfl rfl (Nat.le_of_ble_eq_true rfl) sk_725 rfl (Nat.le_of_ble_eq_true rfl) (EvS.up hnnnnnnnn (Nat.le_of_ble_eq_true rfl)) (fun v116 t117 hv118 => ?_)
        obtain ⟨rfl, hnnnnnnnnn⟩ := hv118
        clear hnnnnnnnn
        show GoS _ _ _ _ _ _ _ _ [(6, .inl (t97 725 20)), (5, .inl (sg 732 x2.toNatClampNeg)), (4, .inl (sg 730 x2.toNatClampNeg)), (3, .inl (sg 725 18)), (0, .inr (.inr (some 725))), (1, .inl x1), (2, .inl x2)] [] t117 _
        refine gsRet (r := none) dM_159_154 (fun _ => rfl) (Or.inr rfl) ?_
        exact hnnnnnnnnn
      · replace hnnnnnnnn := hnnnnnnnn.2 c115
        refine gs0 128 [(6, .inl (t97 725 20)), (5, .inl (sg 732 x2.toNatClampNeg)), (4, .inl (sg 730 x2.toNatClampNeg)), (3, .inl (sg 725 18)), (0, .inr (.inr (some 725))), (1, .inl x1), (2, .inl x2)] [.inr (.inr (some 725)), .inr (.inr (some 725))] dM_159_127 (fun _ => rfl) (Or.inr rfl) ?_
        refine gs0 130 [(6, .inl (t97 725 20)), (5, .inl (sg 732 x2.toNatClampNeg)), (4, .inl (sg 730 x2.toNatClampNeg)), (3, .inl (sg 725 18)), (0, .inr (.inr (some 725))), (1, .inl x1), (2, .inl x2)] [.inl (sg 732 x2.toNatClampNeg), .inr (.inr (some 725)), .inr (.inr (some 725))] dM_159_128 (fun _ => rfl) (Or.inr rfl) ?_
        refine gs0 131 [(6, .inl (t97 725 20)), (5, .inl (sg 732 x2.toNatClampNeg)), (4, .inl (sg 730 x2.toNatClampNeg)), (3, .inl (sg 725 18)), (0, .inr (.inr (some 725))), (1, .inl x1), (2, .inl x2)] [.inr (.inr (some 725)), .inl (sg 732 x2.toNatClampNeg), .inr (.inr (some 725)), .inr (.inr (some 725))] dM_159_130 (fun _ => rfl) (Or.inr rfl) ?_
        refine gs0 133 [(6, .inl (t97 725 20)), (5, .inl (sg 732 x2.toNatClampNeg)), (4, .inl (sg 730 x2.toNatClampNeg)), (3, .inl (sg 725 18)), (0, .inr (.inr (some 725))), (1, .inl x1), (2, .inl x2)] [.inl (t97 725 20), .inr (.inr (some 725)), .inl (sg 732 x2.toNatClampNeg), .inr (.inr (some 725)), .inr (.inr (some 725))] dM_159_131 (fun _ => rfl) (Or.inr rfl) ?_
        refine gs0 135 [(6, .inl (t97 725 20)), (5, .inl (sg 732 x2.toNatClampNeg)), (4, .inl (sg 730 x2.toNatClampNeg)), (3, .inl (sg 725 18)), (0, .inr (.inr (some 725))), (1, .inl x1), (2, .inl x2)] [.inl (t97 725 20), .inl (t97 725 20), .inr (.inr (some 725)), .inl (sg 732 x2.toNatClampNeg), .inr (.inr (some 725)), .inr (.inr (some 725))] dM_159_133 (fun _ => rfl) (Or.inr rfl) ?_
        refine gs0 136 [(6, .inl (t97 725 20)), (5, .inl (sg 732 x2.toNatClampNeg)), (4, .inl (sg 730 x2.toNatClampNeg)), (3, .inl (sg 725 18)), (0, .inr (.inr (some 725))), (1, .inl x1), (2, .inl x2)] [.inl 2, .inl (t97 725 20), .inl (t97 725 20), .inr (.inr (some 725)), .inl (sg 732 x2.toNatClampNeg), .inr (.inr (some 725)), .inr (.inr (some 725))] dM_159_135 (fun _ => rfl) (Or.inr rfl) ?_
        refine gs0 137 [(6, .inl (t97 725 20)), (5, .inl (sg 732 x2.toNatClampNeg)), (4, .inl (sg 730 x2.toNatClampNeg)), (3, .inl (sg 725 18)), (0, .inr (.inr (some 725))), (1, .inl x1), (2, .inl x2)] [.inl ((t97 725 20) + 2), .inl (t97 725 20), .inr (.inr (some 725)), .inl (sg 732 x2.toNatClampNeg), .inr (.inr (some 725)), .inr (.inr (some 725))] dM_159_136 (fun _ => rfl) (Or.inr rfl) ?_
        refine gsCallV (y := 117) (k := 725) (as := [.inr (.inr (some 725)), .inl (t97 725 20), .inl ((t97 725 20) + 2)]) (r := [.inl (sg 732 x2.toNatClampNeg), .inr (.inr (some 725)), .inr (.inr (some 725))]) dM_159_137 rfl rfl rfl (Nat.le_of_ble_eq_true rfl) sk_725 rfl (Nat.le_of_ble_eq_true rfl) (EvS.up hnnnnnnnn (Nat.le_of_ble_eq_true rfl)) (fun v119 t120 hv121 => ?_)
        obtain ⟨n122, rfl, hnnnnnnnnn⟩ := hv121
        clear hnnnnnnnn
        show GoS _ _ _ _ _ _ _ _ [(6, .inl (t97 725 20)), (5, .inl (sg 732 x2.toNatClampNeg)), (4, .inl (sg 730 x2.toNatClampNeg)), (3, .inl (sg 725 18)), (0, .inr (.inr (some 725))), (1, .inl x1), (2, .inl x2)] [.inl n122, .inl (sg 732 x2.toNatClampNeg), .inr (.inr (some 725)), .inr (.inr (some 725))] t120 _
        refine gsCallV (y := 144) (k := 725) (as := [.inr (.inr (some 725)), .inl (sg 732 x2.toNatClampNeg), .inl n122]) (r := [.inr (.inr (some 725))]) dM_159_140 rfl rfl rfl (Nat.le_of_ble_eq_true rfl) sk_725 rfl (Nat.le_of_ble_eq_true rfl) (EvS.up hnnnnnnnnn (Nat.le_of_ble_eq_true rfl)) (fun v123 t124 hv125 => ?_)
        obtain ⟨n126, rfl, hnnnnnnnnnn⟩ := hv125
        clear hnnnnnnnnn
        show GoS _ _ _ _ _ _ _ _ [(6, .inl (t97 725 20)), (5, .inl (sg 732 x2.toNatClampNeg)), (4, .inl (sg 730 x2.toNatClampNeg)), (3, .inl (sg 725 18)), (0, .inr (.inr (some 725))), (1, .inl x1), (2, .inl x2)] [.inl n126, .inr (.inr (some 725))] t124 _
        refine gsIf (t := 150) (C := n126 = 0) (r := [.inr (.inr (some 725))]) dM_159_143 (fun _ => rfl) (Or.inr rfl) (rTest_iff .eq n126 0) (fun c127 => ?_) (fun c127 => ?_)
        · replace hnnnnnnnnnn := hnnnnnnnnnn.1 c127
          refine gs0 151 [(6, .inl (t97 725 20)), (5, .inl (sg 732 x2.toNatClampNeg)), (4, .inl (sg 730 x2.toNatClampNeg)), (3, .inl (sg 725 18)), (0, .inr (.inr (some 725))), (1, .inl x1), (2, .inl x2)] [.inl 0, .inr (.inr (some 725))] dM_159_150 (fun _ => rfl) (Or.inr rfl) ?_
          refine gsCallV (y := 153) (k := 725) (as := [.inr (.inr (some 725)), .inl 0]) (r := []) dM_159_151 rfl rfl rfl (Nat.le_of_ble_eq_true rfl) sk_725 rfl (Nat.le_of_ble_eq_true rfl) (EvS.up hnnnnnnnnnn (Nat.le_of_ble_eq_true rfl)) (fun v128 t129 hv130 => ?_)
          obtain ⟨rfl, hnnnnnnnnnnn⟩ := hv130
          clear hnnnnnnnnnn
          show GoS _ _ _ _ _ _ _ _ [(6, .inl (t97 725 20)), (5, .inl (sg 732 x2.toNatClampNeg)), (4, .inl (sg 730 x2.toNatClampNeg)), (3, .inl (sg 725 18)), (0, .inr (.inr (some 725))), (1, .inl x1), (2, .inl x2)] [] t129 _
          refine gsRet (r := none) dM_159_154 (fun _ => rfl) (Or.inr rfl) ?_
          exact hnnnnnnnnnnn
        · replace hnnnnnnnnnn := hnnnnnnnnnn.2 c127
          refine gs0 147 [(6, .inl (t97 725 20)), (5, .inl (sg 732 x2.toNatClampNeg)), (4, .inl (sg 730 x2.toNatClampNeg)), (3, .inl (sg 725 18)), (0, .inr (.inr (some 725))), (1, .inl x1), (2, .inl x2)] [.inl 1, .inr (.inr (some 725))] dM_159_146 (fun _ => rfl) (Or.inr rfl) ?_
          refine gs0 151 [(6, .inl (t97 725 20)), (5, .inl (sg 732 x2.toNatClampNeg)), (4, .inl (sg 730 x2.toNatClampNeg)), (3, .inl (sg 725 18)), (0, .inr (.inr (some 725))), (1, .inl x1), (2, .inl x2)] [.inl 1, .inr (.inr (some 725))] dM_159_147 (fun _ => rfl) (Or.inr rfl) ?_
          refine gsCallV (y := 153) (k := 725) (as := [.inr (.inr (some 725)), .inl 1]) (r := []) dM_159_151 rfl rfl rfl (Nat.le_of_ble_eq_true rfl) sk_725 rfl (Nat.le_of_ble_eq_true rfl) (EvS.up hnnnnnnnnnn (Nat.le_of_ble_eq_true rfl)) (fun v131 t132 hv133 => ?_)
          obtain ⟨rfl, hnnnnnnnnnnn⟩ := hv133
          clear hnnnnnnnnnn
          show GoS _ _ _ _ _ _ _ _ [(6, .inl (t97 725 20)), (5, .inl (sg 732 x2.toNatClampNeg)), (4, .inl (sg 730 x2.toNatClampNeg)), (3, .inl (sg 725 18)), (0, .inr (.inr (some 725))), (1, .inl x1), (2, .inl x2)] [] t132 _
          refine gsRet (r := none) dM_159_154 (fun _ => rfl) (Or.inr rfl) ?_
          exact hnnnnnnnnnnn
set_option maxRecDepth 100000 in
/-- GoalsInAQueueModel.doesMember -/
theorem w_160 (sg : rSg) (x1 : Int32) (x2 : Int32) {P : Option rv → rSg → Prop} (h :
    (rIn x2 3000 = true ∧
    rIn x2 3000 = true ∧
    EvS rSkel 1 117 [.inr (.inr (some 725)), .inl (sg 730 x2.toNatClampNeg), .inl (sg 725 20)] (up2 sg 725 20 ((sg 725 20) + 1)) (fun v1 t2 => ∃ n4, v1 = some (.inl n4) ∧
      EvS rSkel 7 144 [.inr (.inr (some 725)), .inl (sg 731 x2.toNatClampNeg), .inl n4] t2 (fun v5 t6 => ∃ n8, v5 = some (.inl n8) ∧
        EvS rSkel 10 153 [.inr (.inr (some 725)), .inl n8] t6 (fun v9 t10 => v9 = none ∧
          EvS rSkel 2 140 [.inr (.inr (some 725)), .inl x1] t10 (fun v12 t13 => v12 = none ∧
            (rIn x2 3000 = true ∧
            EvS rSkel 1 120 [.inr (.inr (some 725)), .inl 77, .inl (t13 730 x2.toNatClampNeg), .inl ((t13 725 20) + 1), .inl 0] (up2 t13 725 20 ((t13 725 20) + 2)) (fun v15 t16 => ∃ n18, v15 = some (.inl n18) ∧
              EvS rSkel 1 123 [.inr (.inr (some 725)), .inl n18, .inl 0, .inl (sg 725 18)] t16 (fun v19 t20 => ∃ n22, v19 = some (.inl n22) ∧
                (rIn x2 3000 = true ∧
                EvS rSkel 1 117 [.inr (.inr (some 725)), .inl (t13 725 20), .inl ((t13 725 20) + 1)] (up2 t20 725 18 n22) (fun v23 t24 => ∃ n26, v23 = some (.inl n26) ∧
                  EvS rSkel 7 144 [.inr (.inr (some 725)), .inl (t20 731 x2.toNatClampNeg), .inl n26] t24 (fun v27 t28 => ∃ n30, v27 = some (.inl n30) ∧
                    EvS rSkel 10 153 [.inr (.inr (some 725)), .inl n30] t28 (fun v31 t32 => v31 = none ∧
                      P none t32))))))))))))) : EvS rSkel 11 160 [.inr (.inr (some 725)), .inl x1, .inl x2] sg P := by
  refine EvS.of (ini := false) rfl ⟨rfl, Nat.le_of_ble_eq_true rfl⟩ rfl ?_
  show GoS rSkel 10 9 6 none false prog_11_method_32_code 0 [(0, .inr (.inr (some 725))), (1, .inl x1), (2, .inl x2)] [] sg _
  refine gs0 1 [(0, .inr (.inr (some 725))), (1, .inl x1), (2, .inl x2)] [.inr (.inr (some 725))] dM_160_0 (fun _ => rfl) (Or.inr rfl) ?_
  refine gsGetE (sg 725 18) dM_160_1 sk_725 rfl rfl rfl ?_
  refine gs0 5 [(3, .inl (sg 725 18)), (0, .inr (.inr (some 725))), (1, .inl x1), (2, .inl x2)] [] dM_160_4 (fun _ => rfl) (Or.inr rfl) ?_
  refine gs0 6 [(3, .inl (sg 725 18)), (0, .inr (.inr (some 725))), (1, .inl x1), (2, .inl x2)] [.inr (.inr (some 725))] dM_160_5 (fun _ => rfl) (Or.inr rfl) ?_
  refine gsGetE (sg 725 20) dM_160_6 sk_725 rfl rfl rfl ?_
  refine gs0 11 [(4, .inl (sg 725 20)), (3, .inl (sg 725 18)), (0, .inr (.inr (some 725))), (1, .inl x1), (2, .inl x2)] [] dM_160_9 (fun _ => rfl) (Or.inr rfl) ?_
  refine gs0 12 [(4, .inl (sg 725 20)), (3, .inl (sg 725 18)), (0, .inr (.inr (some 725))), (1, .inl x1), (2, .inl x2)] [.inr (.inr (some 725))] dM_160_11 (fun _ => rfl) (Or.inr rfl) ?_
  refine gs0 13 [(4, .inl (sg 725 20)), (3, .inl (sg 725 18)), (0, .inr (.inr (some 725))), (1, .inl x1), (2, .inl x2)] [.inr (.inr (some 725)), .inr (.inr (some 725))] dM_160_12 (fun _ => rfl) (Or.inr rfl) ?_
  refine gsGetE (sg 725 20) dM_160_13 sk_725 rfl rfl rfl ?_
  refine gs0 17 [(4, .inl (sg 725 20)), (3, .inl (sg 725 18)), (0, .inr (.inr (some 725))), (1, .inl x1), (2, .inl x2)] [.inl 1, .inl (sg 725 20), .inr (.inr (some 725))] dM_160_16 (fun _ => rfl) (Or.inr rfl) ?_
  refine gs0 18 [(4, .inl (sg 725 20)), (3, .inl (sg 725 18)), (0, .inr (.inr (some 725))), (1, .inl x1), (2, .inl x2)] [.inl ((sg 725 20) + 1), .inr (.inr (some 725))] dM_160_17 (fun _ => rfl) (Or.inr rfl) ?_
  refine gsPut dM_160_18 sk_725 rfl rfl rfl (by decide) ?_
  refine gs0 22 [(4, .inl (sg 725 20)), (3, .inl (sg 725 18)), (0, .inr (.inr (some 725))), (1, .inl x1), (2, .inl x2)] [.inr (.inr (some 725))] dM_160_21 (fun _ => rfl) (Or.inr rfl) ?_
  refine gs0 23 [(4, .inl (sg 725 20)), (3, .inl (sg 725 18)), (0, .inr (.inr (some 725))), (1, .inl x1), (2, .inl x2)] [.inr (.inr (some 725)), .inr (.inr (some 725))] dM_160_22 (fun _ => rfl) (Or.inr rfl) ?_
  refine gs0 24 [(4, .inl (sg 725 20)), (3, .inl (sg 725 18)), (0, .inr (.inr (some 725))), (1, .inl x1), (2, .inl x2)] [.inr (.inr (some 725)), .inr (.inr (some 725)), .inr (.inr (some 725))] dM_160_23 (fun _ => rfl) (Or.inr rfl) ?_
  refine gsGetR (some 731) dM_160_24 sk_725 rfl rfl ?_
  refine gs0 28 [(4, .inl (sg 725 20)), (3, .inl (sg 725 18)), (0, .inr (.inr (some 725))), (1, .inl x1), (2, .inl x2)] [.inl x2, .inr (.inr (some 731)), .inr (.inr (some 725)), .inr (.inr (some 725))] dM_160_27 (fun _ => rfl) (Or.inr rfl) ?_
  refine gsIaldN x2.toNatClampNeg (sg 731 x2.toNatClampNeg) dM_160_28 sk_731 h.1 rfl (congrFun (up2_nk _ _ _ (by decide)) _) ?_
  replace h := h.2
  refine gs0 30 [(4, .inl (sg 725 20)), (3, .inl (sg 725 18)), (0, .inr (.inr (some 725))), (1, .inl x1), (2, .inl x2)] [.inr (.inr (some 725)), .inl (sg 731 x2.toNatClampNeg), .inr (.inr (some 725)), .inr (.inr (some 725))] dM_160_29 (fun _ => rfl) (Or.inr rfl) ?_
  refine gs0 31 [(4, .inl (sg 725 20)), (3, .inl (sg 725 18)), (0, .inr (.inr (some 725))), (1, .inl x1), (2, .inl x2)] [.inr (.inr (some 725)), .inr (.inr (some 725)), .inl (sg 731 x2.toNatClampNeg), .inr (.inr (some 725)), .inr (.inr (some 725))] dM_160_30 (fun _ => rfl) (Or.inr rfl) ?_
  refine gsGetR (some 730) dM_160_31 sk_725 rfl rfl ?_
  refine gs0 35 [(4, .inl (sg 725 20)), (3, .inl (sg 725 18)), (0, .inr (.inr (some 725))), (1, .inl x1), (2, .inl x2)] [.inl x2, .inr (.inr (some 730)), .inr (.inr (some 725)), .inl (sg 731 x2.toNatClampNeg), .inr (.inr (some 725)), .inr (.inr (some 725))] dM_160_34 (fun _ => rfl) (Or.inr rfl) ?_
  refine gsIaldN x2.toNatClampNeg (sg 730 x2.toNatClampNeg) dM_160_35 sk_730 h.1 rfl (congrFun (up2_nk _ _ _ (by decide)) _) ?_
  replace h := h.2
  refine gs0 38 [(4, .inl (sg 725 20)), (3, .inl (sg 725 18)), (0, .inr (.inr (some 725))), (1, .inl x1), (2, .inl x2)] [.inl (sg 725 20), .inl (sg 730 x2.toNatClampNeg), .inr (.inr (some 725)), .inl (sg 731 x2.toNatClampNeg), .inr (.inr (some 725)), .inr (.inr (some 725))] dM_160_36 (fun _ => rfl) (Or.inr rfl) ?_
  refine gsCallV (y := 117) (k := 725) (as := [.inr (.inr (some 725)), .inl (sg 730 x2.toNatClampNeg), .inl (sg 725 20)]) (r := [.inl (sg 731 x2.toNatClampNeg), .inr (.inr (some 725)), .inr (.inr (some 725))]) dM_160_38 rfl rfl rfl (Nat.le_of_ble_eq_true rfl) sk_725 rfl (Nat.le_of_ble_eq_true rfl) (EvS.up h (Nat.le_of_ble_eq_true rfl)) (fun v1 t2 hv3 => ?_)
  obtain ⟨n4, rfl, hn⟩ := hv3
  clear h
  show GoS _ _ _ _ _ _ _ _ [(4, .inl (sg 725 20)), (3, .inl (sg 725 18)), (0, .inr (.inr (some 725))), (1, .inl x1), (2, .inl x2)] [.inl n4, .inl (sg 731 x2.toNatClampNeg), .inr (.inr (some 725)), .inr (.inr (some 725))] t2 _
  refine gsCallV (y := 144) (k := 725) (as := [.inr (.inr (some 725)), .inl (sg 731 x2.toNatClampNeg), .inl n4]) (r := [.inr (.inr (some 725))]) dM_160_41 rfl rfl rfl (Nat.le_of_ble_eq_true rfl) sk_725 rfl (Nat.le_of_ble_eq_true rfl) (EvS.up hn (Nat.le_of_ble_eq_true rfl)) (fun v5 t6 hv7 => ?_)
  obtain ⟨n8, rfl, hnn⟩ := hv7
  clear hn
  show GoS _ _ _ _ _ _ _ _ [(4, .inl (sg 725 20)), (3, .inl (sg 725 18)), (0, .inr (.inr (some 725))), (1, .inl x1), (2, .inl x2)] [.inl n8, .inr (.inr (some 725))] t6 _
  refine gsCallV (y := 153) (k := 725) (as := [.inr (.inr (some 725)), .inl n8]) (r := []) dM_160_44 rfl rfl rfl (Nat.le_of_ble_eq_true rfl) sk_725 rfl (Nat.le_of_ble_eq_true rfl) (EvS.up hnn (Nat.le_of_ble_eq_true rfl)) (fun v9 t10 hv11 => ?_)
  obtain ⟨rfl, hnnn⟩ := hv11
  clear hnn
  show GoS _ _ _ _ _ _ _ _ [(4, .inl (sg 725 20)), (3, .inl (sg 725 18)), (0, .inr (.inr (some 725))), (1, .inl x1), (2, .inl x2)] [] t10 _
  refine gs0 48 [(4, .inl (sg 725 20)), (3, .inl (sg 725 18)), (0, .inr (.inr (some 725))), (1, .inl x1), (2, .inl x2)] [.inr (.inr (some 725))] dM_160_47 (fun _ => rfl) (Or.inr rfl) ?_
  refine gs0 49 [(4, .inl (sg 725 20)), (3, .inl (sg 725 18)), (0, .inr (.inr (some 725))), (1, .inl x1), (2, .inl x2)] [.inl x1, .inr (.inr (some 725))] dM_160_48 (fun _ => rfl) (Or.inr rfl) ?_
  refine gsCallV (y := 140) (k := 725) (as := [.inr (.inr (some 725)), .inl x1]) (r := []) dM_160_49 rfl rfl rfl (Nat.le_of_ble_eq_true rfl) sk_725 rfl (Nat.le_of_ble_eq_true rfl) (EvS.up hnnn (Nat.le_of_ble_eq_true rfl)) (fun v12 t13 hv14 => ?_)
  obtain ⟨rfl, hnnnn⟩ := hv14
  clear hnnn
  show GoS _ _ _ _ _ _ _ _ [(4, .inl (sg 725 20)), (3, .inl (sg 725 18)), (0, .inr (.inr (some 725))), (1, .inl x1), (2, .inl x2)] [] t13 _
  refine gs0 53 [(4, .inl (sg 725 20)), (3, .inl (sg 725 18)), (0, .inr (.inr (some 725))), (1, .inl x1), (2, .inl x2)] [.inr (.inr (some 725))] dM_160_52 (fun _ => rfl) (Or.inr rfl) ?_
  refine gsGetE (t13 725 20) dM_160_53 sk_725 rfl rfl rfl ?_
  refine gs0 58 [(5, .inl (t13 725 20)), (4, .inl (sg 725 20)), (3, .inl (sg 725 18)), (0, .inr (.inr (some 725))), (1, .inl x1), (2, .inl x2)] [] dM_160_56 (fun _ => rfl) (Or.inr rfl) ?_
  refine gs0 59 [(5, .inl (t13 725 20)), (4, .inl (sg 725 20)), (3, .inl (sg 725 18)), (0, .inr (.inr (some 725))), (1, .inl x1), (2, .inl x2)] [.inr (.inr (some 725))] dM_160_58 (fun _ => rfl) (Or.inr rfl) ?_
  refine gs0 60 [(5, .inl (t13 725 20)), (4, .inl (sg 725 20)), (3, .inl (sg 725 18)), (0, .inr (.inr (some 725))), (1, .inl x1), (2, .inl x2)] [.inr (.inr (some 725)), .inr (.inr (some 725))] dM_160_59 (fun _ => rfl) (Or.inr rfl) ?_
  refine gsGetE (t13 725 20) dM_160_60 sk_725 rfl rfl rfl ?_
  refine gs0 64 [(5, .inl (t13 725 20)), (4, .inl (sg 725 20)), (3, .inl (sg 725 18)), (0, .inr (.inr (some 725))), (1, .inl x1), (2, .inl x2)] [.inl 2, .inl (t13 725 20), .inr (.inr (some 725))] dM_160_63 (fun _ => rfl) (Or.inr rfl) ?_
  refine gs0 65 [(5, .inl (t13 725 20)), (4, .inl (sg 725 20)), (3, .inl (sg 725 18)), (0, .inr (.inr (some 725))), (1, .inl x1), (2, .inl x2)] [.inl ((t13 725 20) + 2), .inr (.inr (some 725))] dM_160_64 (fun _ => rfl) (Or.inr rfl) ?_
  refine gsPut dM_160_65 sk_725 rfl rfl rfl (by decide) ?_
  refine gs0 69 [(5, .inl (t13 725 20)), (4, .inl (sg 725 20)), (3, .inl (sg 725 18)), (0, .inr (.inr (some 725))), (1, .inl x1), (2, .inl x2)] [.inr (.inr (some 725))] dM_160_68 (fun _ => rfl) (Or.inr rfl) ?_
  refine gs0 70 [(5, .inl (t13 725 20)), (4, .inl (sg 725 20)), (3, .inl (sg 725 18)), (0, .inr (.inr (some 725))), (1, .inl x1), (2, .inl x2)] [.inr (.inr (some 725)), .inr (.inr (some 725))] dM_160_69 (fun _ => rfl) (Or.inr rfl) ?_
  refine gs0 71 [(5, .inl (t13 725 20)), (4, .inl (sg 725 20)), (3, .inl (sg 725 18)), (0, .inr (.inr (some 725))), (1, .inl x1), (2, .inl x2)] [.inr (.inr (some 725)), .inr (.inr (some 725)), .inr (.inr (some 725))] dM_160_70 (fun _ => rfl) (Or.inr rfl) ?_
  refine gs0 73 [(5, .inl (t13 725 20)), (4, .inl (sg 725 20)), (3, .inl (sg 725 18)), (0, .inr (.inr (some 725))), (1, .inl x1), (2, .inl x2)] [.inl 77, .inr (.inr (some 725)), .inr (.inr (some 725)), .inr (.inr (some 725))] dM_160_71 (fun _ => rfl) (Or.inr rfl) ?_
  refine gs0 74 [(5, .inl (t13 725 20)), (4, .inl (sg 725 20)), (3, .inl (sg 725 18)), (0, .inr (.inr (some 725))), (1, .inl x1), (2, .inl x2)] [.inr (.inr (some 725)), .inl 77, .inr (.inr (some 725)), .inr (.inr (some 725)), .inr (.inr (some 725))] dM_160_73 (fun _ => rfl) (Or.inr rfl) ?_
  refine gsGetR (some 730) dM_160_74 sk_725 rfl rfl ?_
  refine gs0 78 [(5, .inl (t13 725 20)), (4, .inl (sg 725 20)), (3, .inl (sg 725 18)), (0, .inr (.inr (some 725))), (1, .inl x1), (2, .inl x2)] [.inl x2, .inr (.inr (some 730)), .inl 77, .inr (.inr (some 725)), .inr (.inr (some 725)), .inr (.inr (some 725))] dM_160_77 (fun _ => rfl) (Or.inr rfl) ?_
  refine gsIaldN x2.toNatClampNeg (t13 730 x2.toNatClampNeg) dM_160_78 sk_730 hnnnn.1 rfl (congrFun (up2_nk _ _ _ (by decide)) _) ?_
  replace hnnnn := hnnnn.2
  refine gs0 81 [(5, .inl (t13 725 20)), (4, .inl (sg 725 20)), (3, .inl (sg 725 18)), (0, .inr (.inr (some 725))), (1, .inl x1), (2, .inl x2)] [.inl (t13 725 20), .inl (t13 730 x2.toNatClampNeg), .inl 77, .inr (.inr (some 725)), .inr (.inr (some 725)), .inr (.inr (some 725))] dM_160_79 (fun _ => rfl) (Or.inr rfl) ?_
  refine gs0 82 [(5, .inl (t13 725 20)), (4, .inl (sg 725 20)), (3, .inl (sg 725 18)), (0, .inr (.inr (some 725))), (1, .inl x1), (2, .inl x2)] [.inl 1, .inl (t13 725 20), .inl (t13 730 x2.toNatClampNeg), .inl 77, .inr (.inr (some 725)), .inr (.inr (some 725)), .inr (.inr (some 725))] dM_160_81 (fun _ => rfl) (Or.inr rfl) ?_
  refine gs0 83 [(5, .inl (t13 725 20)), (4, .inl (sg 725 20)), (3, .inl (sg 725 18)), (0, .inr (.inr (some 725))), (1, .inl x1), (2, .inl x2)] [.inl ((t13 725 20) + 1), .inl (t13 730 x2.toNatClampNeg), .inl 77, .inr (.inr (some 725)), .inr (.inr (some 725)), .inr (.inr (some 725))] dM_160_82 (fun _ => rfl) (Or.inr rfl) ?_
  refine gs0 84 [(5, .inl (t13 725 20)), (4, .inl (sg 725 20)), (3, .inl (sg 725 18)), (0, .inr (.inr (some 725))), (1, .inl x1), (2, .inl x2)] [.inl 0, .inl ((t13 725 20) + 1), .inl (t13 730 x2.toNatClampNeg), .inl 77, .inr (.inr (some 725)), .inr (.inr (some 725)), .inr (.inr (some 725))] dM_160_83 (fun _ => rfl) (Or.inr rfl) ?_
  refine gsCallV (y := 120) (k := 725) (as := [.inr (.inr (some 725)), .inl 77, .inl (t13 730 x2.toNatClampNeg), .inl ((t13 725 20) + 1), .inl 0]) (r := [.inr (.inr (some 725)), .inr (.inr (some 725))]) dM_160_84 rfl rfl rfl (Nat.le_of_ble_eq_true rfl) sk_725 rfl (Nat.le_of_ble_eq_true rfl) (EvS.up hnnnn (Nat.le_of_ble_eq_true rfl)) (fun v15 t16 hv17 => ?_)
  obtain ⟨n18, rfl, hnnnnn⟩ := hv17
  clear hnnnn
  show GoS _ _ _ _ _ _ _ _ [(5, .inl (t13 725 20)), (4, .inl (sg 725 20)), (3, .inl (sg 725 18)), (0, .inr (.inr (some 725))), (1, .inl x1), (2, .inl x2)] [.inl n18, .inr (.inr (some 725)), .inr (.inr (some 725))] t16 _
  refine gs0 88 [(5, .inl (t13 725 20)), (4, .inl (sg 725 20)), (3, .inl (sg 725 18)), (0, .inr (.inr (some 725))), (1, .inl x1), (2, .inl x2)] [.inl 0, .inl n18, .inr (.inr (some 725)), .inr (.inr (some 725))] dM_160_87 (fun _ => rfl) (Or.inr rfl) ?_
  refine gs0 89 [(5, .inl (t13 725 20)), (4, .inl (sg 725 20)), (3, .inl (sg 725 18)), (0, .inr (.inr (some 725))), (1, .inl x1), (2, .inl x2)] [.inl (sg 725 18), .inl 0, .inl n18, .inr (.inr (some 725)), .inr (.inr (some 725))] dM_160_88 (fun _ => rfl) (Or.inr rfl) ?_
  refine gsCallV (y := 123) (k := 725) (as := [.inr (.inr (some 725)), .inl n18, .inl 0, .inl (sg 725 18)]) (r := [.inr (.inr (some 725))]) dM_160_89 rfl rfl rfl (Nat.le_of_ble_eq_true rfl) sk_725 rfl (Nat.le_of_ble_eq_true rfl) (EvS.up hnnnnn (Nat.le_of_ble_eq_true rfl)) (fun v19 t20 hv21 => ?_)
  obtain ⟨n22, rfl, hnnnnnn⟩ := hv21
  clear hnnnnn
  show GoS _ _ _ _ _ _ _ _ [(5, .inl (t13 725 20)), (4, .inl (sg 725 20)), (3, .inl (sg 725 18)), (0, .inr (.inr (some 725))), (1, .inl x1), (2, .inl x2)] [.inl n22, .inr (.inr (some 725))] t20 _
  refine gsPut dM_160_92 sk_725 rfl rfl rfl (by decide) ?_
  refine gs0 96 [(5, .inl (t13 725 20)), (4, .inl (sg 725 20)), (3, .inl (sg 725 18)), (0, .inr (.inr (some 725))), (1, .inl x1), (2, .inl x2)] [.inr (.inr (some 725))] dM_160_95 (fun _ => rfl) (Or.inr rfl) ?_
  refine gs0 97 [(5, .inl (t13 725 20)), (4, .inl (sg 725 20)), (3, .inl (sg 725 18)), (0, .inr (.inr (some 725))), (1, .inl x1), (2, .inl x2)] [.inr (.inr (some 725)), .inr (.inr (some 725))] dM_160_96 (fun _ => rfl) (Or.inr rfl) ?_
  refine gs0 98 [(5, .inl (t13 725 20)), (4, .inl (sg 725 20)), (3, .inl (sg 725 18)), (0, .inr (.inr (some 725))), (1, .inl x1), (2, .inl x2)] [.inr (.inr (some 725)), .inr (.inr (some 725)), .inr (.inr (some 725))] dM_160_97 (fun _ => rfl) (Or.inr rfl) ?_
  refine gsGetR (some 731) dM_160_98 sk_725 rfl rfl ?_
  refine gs0 102 [(5, .inl (t13 725 20)), (4, .inl (sg 725 20)), (3, .inl (sg 725 18)), (0, .inr (.inr (some 725))), (1, .inl x1), (2, .inl x2)] [.inl x2, .inr (.inr (some 731)), .inr (.inr (some 725)), .inr (.inr (some 725))] dM_160_101 (fun _ => rfl) (Or.inr rfl) ?_
  refine gsIaldN x2.toNatClampNeg (t20 731 x2.toNatClampNeg) dM_160_102 sk_731 hnnnnnn.1 rfl (congrFun (up2_nk _ _ _ (by decide)) _) ?_
  replace hnnnnnn := hnnnnnn.2
  refine gs0 104 [(5, .inl (t13 725 20)), (4, .inl (sg 725 20)), (3, .inl (sg 725 18)), (0, .inr (.inr (some 725))), (1, .inl x1), (2, .inl x2)] [.inr (.inr (some 725)), .inl (t20 731 x2.toNatClampNeg), .inr (.inr (some 725)), .inr (.inr (some 725))] dM_160_103 (fun _ => rfl) (Or.inr rfl) ?_
  refine gs0 106 [(5, .inl (t13 725 20)), (4, .inl (sg 725 20)), (3, .inl (sg 725 18)), (0, .inr (.inr (some 725))), (1, .inl x1), (2, .inl x2)] [.inl (t13 725 20), .inr (.inr (some 725)), .inl (t20 731 x2.toNatClampNeg), .inr (.inr (some 725)), .inr (.inr (some 725))] dM_160_104 (fun _ => rfl) (Or.inr rfl) ?_
  refine gs0 108 [(5, .inl (t13 725 20)), (4, .inl (sg 725 20)), (3, .inl (sg 725 18)), (0, .inr (.inr (some 725))), (1, .inl x1), (2, .inl x2)] [.inl (t13 725 20), .inl (t13 725 20), .inr (.inr (some 725)), .inl (t20 731 x2.toNatClampNeg), .inr (.inr (some 725)), .inr (.inr (some 725))] dM_160_106 (fun _ => rfl) (Or.inr rfl) ?_
  refine gs0 109 [(5, .inl (t13 725 20)), (4, .inl (sg 725 20)), (3, .inl (sg 725 18)), (0, .inr (.inr (some 725))), (1, .inl x1), (2, .inl x2)] [.inl 1, .inl (t13 725 20), .inl (t13 725 20), .inr (.inr (some 725)), .inl (t20 731 x2.toNatClampNeg), .inr (.inr (some 725)), .inr (.inr (some 725))] dM_160_108 (fun _ => rfl) (Or.inr rfl) ?_
  refine gs0 110 [(5, .inl (t13 725 20)), (4, .inl (sg 725 20)), (3, .inl (sg 725 18)), (0, .inr (.inr (some 725))), (1, .inl x1), (2, .inl x2)] [.inl ((t13 725 20) + 1), .inl (t13 725 20), .inr (.inr (some 725)), .inl (t20 731 x2.toNatClampNeg), .inr (.inr (some 725)), .inr (.inr (some 725))] dM_160_109 (fun _ => rfl) (Or.inr rfl) ?_
  refine gsCallV (y := 117) (k := 725) (as := [.inr (.inr (some 725)), .inl (t13 725 20), .inl ((t13 725 20) + 1)]) (r := [.inl (t20 731 x2.toNatClampNeg), .inr (.inr (some 725)), .inr (.inr (some 725))]) dM_160_110 rfl rfl rfl (Nat.le_of_ble_eq_true rfl) sk_725 rfl (Nat.le_of_ble_eq_true rfl) (EvS.up hnnnnnn (Nat.le_of_ble_eq_true rfl)) (fun v23 t24 hv25 => ?_)
  obtain ⟨n26, rfl, hnnnnnnn⟩ := hv25
  clear hnnnnnn
  show GoS _ _ _ _ _ _ _ _ [(5, .inl (t13 725 20)), (4, .inl (sg 725 20)), (3, .inl (sg 725 18)), (0, .inr (.inr (some 725))), (1, .inl x1), (2, .inl x2)] [.inl n26, .inl (t20 731 x2.toNatClampNeg), .inr (.inr (some 725)), .inr (.inr (some 725))] t24 _
  refine gsCallV (y := 144) (k := 725) (as := [.inr (.inr (some 725)), .inl (t20 731 x2.toNatClampNeg), .inl n26]) (r := [.inr (.inr (some 725))]) dM_160_113 rfl rfl rfl (Nat.le_of_ble_eq_true rfl) sk_725 rfl (Nat.le_of_ble_eq_true rfl) (EvS.up hnnnnnnn (Nat.le_of_ble_eq_true rfl)) (fun v27 t28 hv29 => ?_)
  obtain ⟨n30, rfl, hnnnnnnnn⟩ := hv29
  clear hnnnnnnn
  show GoS _ _ _ _ _ _ _ _ [(5, .inl (t13 725 20)), (4, .inl (sg 725 20)), (3, .inl (sg 725 18)), (0, .inr (.inr (some 725))), (1, .inl x1), (2, .inl x2)] [.inl n30, .inr (.inr (some 725))] t28 _
  refine gsCallV (y := 153) (k := 725) (as := [.inr (.inr (some 725)), .inl n30]) (r := []) dM_160_116 rfl rfl rfl (Nat.le_of_ble_eq_true rfl) sk_725 rfl (Nat.le_of_ble_eq_true rfl) (EvS.up hnnnnnnnn (Nat.le_of_ble_eq_true rfl)) (fun v31 t32 hv33 => ?_)
  obtain ⟨rfl, hnnnnnnnnn⟩ := hv33
  clear hnnnnnnnn
  show GoS _ _ _ _ _ _ _ _ [(5, .inl (t13 725 20)), (4, .inl (sg 725 20)), (3, .inl (sg 725 18)), (0, .inr (.inr (some 725))), (1, .inl x1), (2, .inl x2)] [] t32 _
  refine gsRet (r := none) dM_160_119 (fun _ => rfl) (Or.inr rfl) ?_
  exact hnnnnnnnnn
set_option maxRecDepth 100000 in
/-- GoalsInAQueueModel.steps -/
theorem w_161 (sg : rSg) (x1 : Int32) {P : Option rv → rSg → Prop} (h :
    EvS rSkel 1 127 [.inl x1, .inl 1, .inl 100] sg (fun v1 t2 => ∃ n4, v1 = some (.inl n4) ∧
      (¬ n4 = 0 → 
        (n4 = 0 → 
          EvS rSkel 14 137 [.inr (.inr (some 725)), .inl x1] t2 (fun v7 t8 => v7 = none ∧
            P (some (.inl (t8 748 0))) t8)) ∧
        (¬ (n4 = 0) → 
          EvS rSkel 1 128 [.inr (.inr (some 725)), .inl n4] t2 (fun v10 t11 => ∃ n13, v10 = some (.inl n13) ∧
            P (some (.inl n13)) t11))) ∧
      (¬ (¬ n4 = 0) → 
        (((t2 749 0) + x1) ≤ 300 → 
          (n4 = 0 → 
            EvS rSkel 14 137 [.inr (.inr (some 725)), .inl x1] t2 (fun v16 t17 => v16 = none ∧
              P (some (.inl (t17 748 0))) t17)) ∧
          (¬ (n4 = 0) → 
            EvS rSkel 1 128 [.inr (.inr (some 725)), .inl n4] t2 (fun v19 t20 => ∃ n22, v19 = some (.inl n22) ∧
              P (some (.inl n22)) t20))) ∧
        (¬ (((t2 749 0) + x1) ≤ 300) → 
          EvS rSkel 1 128 [.inr (.inr (some 725)), .inl ((-6))] t2 (fun v24 t25 => ∃ n27, v24 = some (.inl n27) ∧
            P (some (.inl n27)) t25))))) : EvS rSkel 15 161 [.inr (.inr (some 725)), .inl x1] sg P := by
  refine EvS.of (ini := false) rfl ⟨rfl, Nat.le_of_ble_eq_true rfl⟩ rfl ?_
  show GoS rSkel 14 9 3 (some .int) false prog_11_method_51_code 0 [(0, .inr (.inr (some 725))), (1, .inl x1)] [] sg _
  refine gs0 1 [(0, .inr (.inr (some 725))), (1, .inl x1)] [.inl x1] dM_161_0 (fun _ => rfl) (Or.inr rfl) ?_
  refine gs0 2 [(0, .inr (.inr (some 725))), (1, .inl x1)] [.inl 1, .inl x1] dM_161_1 (fun _ => rfl) (Or.inr rfl) ?_
  refine gs0 4 [(0, .inr (.inr (some 725))), (1, .inl x1)] [.inl 100, .inl 1, .inl x1] dM_161_2 (fun _ => rfl) (Or.inr rfl) ?_
  refine gsCallS (y := 127) (as := [.inl x1, .inl 1, .inl 100]) (r := []) dM_161_4 rfl (Or.inl rfl) rfl rfl (Nat.le_of_ble_eq_true rfl) (EvS.up h (Nat.le_of_ble_eq_true rfl)) (fun v1 t2 hv3 => ?_)
  obtain ⟨n4, rfl, hn⟩ := hv3
  clear h
  show GoS _ _ _ _ _ _ _ _ [(0, .inr (.inr (some 725))), (1, .inl x1)] [.inl n4] t2 _
  refine gs0 8 [(2, .inl n4), (0, .inr (.inr (some 725))), (1, .inl x1)] [] dM_161_7 (fun _ => rfl) (Or.inr rfl) ?_
  refine gs0 9 [(2, .inl n4), (0, .inr (.inr (some 725))), (1, .inl x1)] [.inl n4] dM_161_8 (fun _ => rfl) (Or.inr rfl) ?_
  refine gsIf (t := 29) (C := ¬ n4 = 0) (r := []) dM_161_9 (fun _ => rfl) (Or.inr rfl) (rTest_iff .ne n4 0) (fun c5 => ?_) (fun c5 => ?_)
  · replace hn := hn.1 c5
    refine gs0 30 [(2, .inl n4), (0, .inr (.inr (some 725))), (1, .inl x1)] [.inl n4] dM_161_29 (fun _ => rfl) (Or.inr rfl) ?_
    refine gsIf (t := 39) (C := n4 = 0) (r := []) dM_161_30 (fun _ => rfl) (Or.inr rfl) (rTest_iff .eq n4 0) (fun c6 => ?_) (fun c6 => ?_)
    · replace hn := hn.1 c6
      refine gs0 40 [(2, .inl n4), (0, .inr (.inr (some 725))), (1, .inl x1)] [.inr (.inr (some 725))] dM_161_39 (fun _ => rfl) (Or.inr rfl) ?_
      refine gs0 41 [(2, .inl n4), (0, .inr (.inr (some 725))), (1, .inl x1)] [.inl x1, .inr (.inr (some 725))] dM_161_40 (fun _ => rfl) (Or.inr rfl) ?_
      refine gsCallV (y := 137) (k := 725) (as := [.inr (.inr (some 725)), .inl x1]) (r := []) dM_161_41 rfl rfl rfl (Nat.le_of_ble_eq_true rfl) sk_725 rfl (Nat.le_of_ble_eq_true rfl) (EvS.up hn (Nat.le_of_ble_eq_true rfl)) (fun v7 t8 hv9 => ?_)
      obtain ⟨rfl, hnn⟩ := hv9
      clear hn
      show GoS _ _ _ _ _ _ _ _ [(2, .inl n4), (0, .inr (.inr (some 725))), (1, .inl x1)] [] t8 _
      refine gs0 45 [(2, .inl n4), (0, .inr (.inr (some 725))), (1, .inl x1)] [.inr (.inr (some 725))] dM_161_44 (fun _ => rfl) (Or.inr rfl) ?_
      refine gsGetR (some 748) dM_161_45 sk_725 rfl rfl ?_
      refine gs0 49 [(2, .inl n4), (0, .inr (.inr (some 725))), (1, .inl x1)] [.inl 0, .inr (.inr (some 748))] dM_161_48 (fun _ => rfl) (Or.inr rfl) ?_
      refine gsIaldN 0 (t8 748 0) dM_161_49 sk_748 rfl rfl rfl ?_
      refine gsRet (r := some (.inl (t8 748 0))) dM_161_50 (fun _ => rfl) (Or.inr rfl) ?_
      exact hnn
    · replace hn := hn.2 c6
      refine gs0 34 [(2, .inl n4), (0, .inr (.inr (some 725))), (1, .inl x1)] [.inr (.inr (some 725))] dM_161_33 (fun _ => rfl) (Or.inr rfl) ?_
      refine gs0 35 [(2, .inl n4), (0, .inr (.inr (some 725))), (1, .inl x1)] [.inl n4, .inr (.inr (some 725))] dM_161_34 (fun _ => rfl) (Or.inr rfl) ?_
      refine gsCallV (y := 128) (k := 725) (as := [.inr (.inr (some 725)), .inl n4]) (r := []) dM_161_35 rfl rfl rfl (Nat.le_of_ble_eq_true rfl) sk_725 rfl (Nat.le_of_ble_eq_true rfl) (EvS.up hn (Nat.le_of_ble_eq_true rfl)) (fun v10 t11 hv12 => ?_)
      obtain ⟨n13, rfl, hnn⟩ := hv12
      clear hn
      show GoS _ _ _ _ _ _ _ _ [(2, .inl n4), (0, .inr (.inr (some 725))), (1, .inl x1)] [.inl n13] t11 _
      refine gsRet (r := some (.inl n13)) dM_161_38 (fun _ => rfl) (Or.inr rfl) ?_
      exact hnn
  · replace hn := hn.2 c5
    refine gs0 13 [(2, .inl n4), (0, .inr (.inr (some 725))), (1, .inl x1)] [.inr (.inr (some 725))] dM_161_12 (fun _ => rfl) (Or.inr rfl) ?_
    refine gsGetR (some 749) dM_161_13 sk_725 rfl rfl ?_
    refine gs0 17 [(2, .inl n4), (0, .inr (.inr (some 725))), (1, .inl x1)] [.inl 0, .inr (.inr (some 749))] dM_161_16 (fun _ => rfl) (Or.inr rfl) ?_
    refine gsIaldN 0 (t2 749 0) dM_161_17 sk_749 rfl rfl rfl ?_
    refine gs0 19 [(2, .inl n4), (0, .inr (.inr (some 725))), (1, .inl x1)] [.inl x1, .inl (t2 749 0)] dM_161_18 (fun _ => rfl) (Or.inr rfl) ?_
    refine gs0 20 [(2, .inl n4), (0, .inr (.inr (some 725))), (1, .inl x1)] [.inl ((t2 749 0) + x1)] dM_161_19 (fun _ => rfl) (Or.inr rfl) ?_
    refine gs0 23 [(2, .inl n4), (0, .inr (.inr (some 725))), (1, .inl x1)] [.inl 300, .inl ((t2 749 0) + x1)] dM_161_20 (fun _ => rfl) (Or.inr rfl) ?_
    refine gsIf (t := 29) (C := ((t2 749 0) + x1) ≤ 300) (r := []) dM_161_23 (fun _ => rfl) (Or.inr rfl) (rTest_iff .le ((t2 749 0) + x1) 300) (fun c14 => ?_) (fun c14 => ?_)
    · replace hn := hn.1 c14
      refine gs0 30 [(2, .inl n4), (0, .inr (.inr (some 725))), (1, .inl x1)] [.inl n4] dM_161_29 (fun _ => rfl) (Or.inr rfl) ?_
      refine gsIf (t := 39) (C := n4 = 0) (r := []) dM_161_30 (fun _ => rfl) (Or.inr rfl) (rTest_iff .eq n4 0) (fun c15 => ?_) (fun c15 => ?_)
      · replace hn := hn.1 c15
        refine gs0 40 [(2, .inl n4), (0, .inr (.inr (some 725))), (1, .inl x1)] [.inr (.inr (some 725))] dM_161_39 (fun _ => rfl) (Or.inr rfl) ?_
        refine gs0 41 [(2, .inl n4), (0, .inr (.inr (some 725))), (1, .inl x1)] [.inl x1, .inr (.inr (some 725))] dM_161_40 (fun _ => rfl) (Or.inr rfl) ?_
        refine gsCallV (y := 137) (k := 725) (as := [.inr (.inr (some 725)), .inl x1]) (r := []) dM_161_41 rfl rfl rfl (Nat.le_of_ble_eq_true rfl) sk_725 rfl (Nat.le_of_ble_eq_true rfl) (EvS.up hn (Nat.le_of_ble_eq_true rfl)) (fun v16 t17 hv18 => ?_)
        obtain ⟨rfl, hnn⟩ := hv18
        clear hn
        show GoS _ _ _ _ _ _ _ _ [(2, .inl n4), (0, .inr (.inr (some 725))), (1, .inl x1)] [] t17 _
        refine gs0 45 [(2, .inl n4), (0, .inr (.inr (some 725))), (1, .inl x1)] [.inr (.inr (some 725))] dM_161_44 (fun _ => rfl) (Or.inr rfl) ?_
        refine gsGetR (some 748) dM_161_45 sk_725 rfl rfl ?_
        refine gs0 49 [(2, .inl n4), (0, .inr (.inr (some 725))), (1, .inl x1)] [.inl 0, .inr (.inr (some 748))] dM_161_48 (fun _ => rfl) (Or.inr rfl) ?_
        refine gsIaldN 0 (t17 748 0) dM_161_49 sk_748 rfl rfl rfl ?_
        refine gsRet (r := some (.inl (t17 748 0))) dM_161_50 (fun _ => rfl) (Or.inr rfl) ?_
        exact hnn
      · replace hn := hn.2 c15
        refine gs0 34 [(2, .inl n4), (0, .inr (.inr (some 725))), (1, .inl x1)] [.inr (.inr (some 725))] dM_161_33 (fun _ => rfl) (Or.inr rfl) ?_
        refine gs0 35 [(2, .inl n4), (0, .inr (.inr (some 725))), (1, .inl x1)] [.inl n4, .inr (.inr (some 725))] dM_161_34 (fun _ => rfl) (Or.inr rfl) ?_
        refine gsCallV (y := 128) (k := 725) (as := [.inr (.inr (some 725)), .inl n4]) (r := []) dM_161_35 rfl rfl rfl (Nat.le_of_ble_eq_true rfl) sk_725 rfl (Nat.le_of_ble_eq_true rfl) (EvS.up hn (Nat.le_of_ble_eq_true rfl)) (fun v19 t20 hv21 => ?_)
        obtain ⟨n22, rfl, hnn⟩ := hv21
        clear hn
        show GoS _ _ _ _ _ _ _ _ [(2, .inl n4), (0, .inr (.inr (some 725))), (1, .inl x1)] [.inl n22] t20 _
        refine gsRet (r := some (.inl n22)) dM_161_38 (fun _ => rfl) (Or.inr rfl) ?_
        exact hnn
    · replace hn := hn.2 c14
      refine gs0 28 [(2, .inl n4), (0, .inr (.inr (some 725))), (1, .inl x1)] [.inl ((-6))] dM_161_26 (fun _ => rfl) (Or.inr rfl) ?_
      refine gs0 29 [(2, .inl ((-6))), (0, .inr (.inr (some 725))), (1, .inl x1)] [] dM_161_28 (fun _ => rfl) (Or.inr rfl) ?_
      refine gs0 30 [(2, .inl ((-6))), (0, .inr (.inr (some 725))), (1, .inl x1)] [.inl ((-6))] dM_161_29 (fun _ => rfl) (Or.inr rfl) ?_
      refine gsIf (t := 39) (C := ((-6)) = 0) (r := []) dM_161_30 (fun _ => rfl) (Or.inr rfl) (rTest_iff .eq ((-6)) 0) (fun c23 => absurd c23 (by decide)) (fun c23 => ?_)
      refine gs0 34 [(2, .inl ((-6))), (0, .inr (.inr (some 725))), (1, .inl x1)] [.inr (.inr (some 725))] dM_161_33 (fun _ => rfl) (Or.inr rfl) ?_
      refine gs0 35 [(2, .inl ((-6))), (0, .inr (.inr (some 725))), (1, .inl x1)] [.inl ((-6)), .inr (.inr (some 725))] dM_161_34 (fun _ => rfl) (Or.inr rfl) ?_
      refine gsCallV (y := 128) (k := 725) (as := [.inr (.inr (some 725)), .inl ((-6))]) (r := []) dM_161_35 rfl rfl rfl (Nat.le_of_ble_eq_true rfl) sk_725 rfl (Nat.le_of_ble_eq_true rfl) (EvS.up hn (Nat.le_of_ble_eq_true rfl)) (fun v24 t25 hv26 => ?_)
      obtain ⟨n27, rfl, hnn⟩ := hv26
      clear hn
      show GoS _ _ _ _ _ _ _ _ [(2, .inl ((-6))), (0, .inr (.inr (some 725))), (1, .inl x1)] [.inl n27] t25 _
      refine gsRet (r := some (.inl n27)) dM_161_38 (fun _ => rfl) (Or.inr rfl) ?_
      exact hnn
set_option maxRecDepth 100000 in
/-- GoalsInAQueueModel.answers -/
theorem w_162 (sg : rSg)  {P : Option rv → rSg → Prop} (h :
    P (some (.inl (sg 748 0))) sg) : EvS rSkel 1 162 [.inr (.inr (some 725))] sg P := by
  refine EvS.of (ini := false) rfl ⟨rfl, Nat.le_of_ble_eq_true rfl⟩ rfl ?_
  show GoS rSkel 0 9 1 (some .int) false prog_11_method_60_code 0 [(0, .inr (.inr (some 725)))] [] sg _
  refine gs0 1 [(0, .inr (.inr (some 725)))] [.inr (.inr (some 725))] dM_162_0 (fun _ => rfl) (Or.inr rfl) ?_
  refine gsGetR (some 748) dM_162_1 sk_725 rfl rfl ?_
  refine gs0 5 [(0, .inr (.inr (some 725)))] [.inl 0, .inr (.inr (some 748))] dM_162_4 (fun _ => rfl) (Or.inr rfl) ?_
  refine gsIaldN 0 (sg 748 0) dM_162_5 sk_748 rfl rfl rfl ?_
  refine gsRet (r := some (.inl (sg 748 0))) dM_162_6 (fun _ => rfl) (Or.inr rfl) ?_
  exact h
set_option maxRecDepth 100000 in
/-- GoalsInAQueueModel.length -/
theorem w_163 (sg : rSg) (x1 : Int32) (x2 : Int32) {P : Option rv → rSg → Prop} (h :
    EvS rSkel 2 164 [.inr (.inr (some 725)), .inl x1] sg (fun v1 t2 => ∃ n4, v1 = some (.inl n4) ∧
      (n4 = 0 → 
        EvS rSkel 1 128 [.inr (.inr (some 725)), .inl ((-1))] t2 (fun v6 t7 => ∃ n9, v6 = some (.inl n9) ∧
          P (some (.inl n9)) t7)) ∧
      (¬ (n4 = 0) → 
        EvS rSkel 2 165 [.inl x2] t2 (fun v10 t11 => ∃ n13, v10 = some (.inl n13) ∧
          (¬ n13 = 0 → 
            EvS rSkel 5 166 [.inr (.inr (some 725)), .inl x1, .inl x2] t11 (fun v15 t16 => v15 = none ∧
              P (some (.inl (t16 725 51))) t16)) ∧
          (¬ (¬ n13 = 0) → 
            EvS rSkel 1 128 [.inr (.inr (some 725)), .inl ((-1))] t11 (fun v18 t19 => ∃ n21, v18 = some (.inl n21) ∧
              P (some (.inl n21)) t19)))))) : EvS rSkel 6 163 [.inr (.inr (some 725)), .inl x1, .inl x2] sg P := by
  refine EvS.of (ini := false) rfl ⟨rfl, Nat.le_of_ble_eq_true rfl⟩ rfl ?_
  show GoS rSkel 5 9 3 (some .int) false prog_11_method_61_code 0 [(0, .inr (.inr (some 725))), (1, .inl x1), (2, .inl x2)] [] sg _
  refine gs0 1 [(0, .inr (.inr (some 725))), (1, .inl x1), (2, .inl x2)] [.inr (.inr (some 725))] dM_163_0 (fun _ => rfl) (Or.inr rfl) ?_
  refine gs0 2 [(0, .inr (.inr (some 725))), (1, .inl x1), (2, .inl x2)] [.inl x1, .inr (.inr (some 725))] dM_163_1 (fun _ => rfl) (Or.inr rfl) ?_
  refine gsCallV (y := 164) (k := 725) (as := [.inr (.inr (some 725)), .inl x1]) (r := []) dM_163_2 rfl rfl rfl (Nat.le_of_ble_eq_true rfl) sk_725 rfl (Nat.le_of_ble_eq_true rfl) (EvS.up h (Nat.le_of_ble_eq_true rfl)) (fun v1 t2 hv3 => ?_)
  obtain ⟨n4, rfl, hn⟩ := hv3
  clear h
  show GoS _ _ _ _ _ _ _ _ [(0, .inr (.inr (some 725))), (1, .inl x1), (2, .inl x2)] [.inl n4] t2 _
  refine gsIf (t := 15) (C := n4 = 0) (r := []) dM_163_5 (fun _ => rfl) (Or.inr rfl) (rTest_iff .eq n4 0) (fun c5 => ?_) (fun c5 => ?_)
  · replace hn := hn.1 c5
    refine gs0 16 [(0, .inr (.inr (some 725))), (1, .inl x1), (2, .inl x2)] [.inr (.inr (some 725))] dM_163_15 (fun _ => rfl) (Or.inr rfl) ?_
    refine gs0 17 [(0, .inr (.inr (some 725))), (1, .inl x1), (2, .inl x2)] [.inl ((-1)), .inr (.inr (some 725))] dM_163_16 (fun _ => rfl) (Or.inr rfl) ?_
    refine gsCallV (y := 128) (k := 725) (as := [.inr (.inr (some 725)), .inl ((-1))]) (r := []) dM_163_17 rfl rfl rfl (Nat.le_of_ble_eq_true rfl) sk_725 rfl (Nat.le_of_ble_eq_true rfl) (EvS.up hn (Nat.le_of_ble_eq_true rfl)) (fun v6 t7 hv8 => ?_)
    obtain ⟨n9, rfl, hnn⟩ := hv8
    clear hn
    show GoS _ _ _ _ _ _ _ _ [(0, .inr (.inr (some 725))), (1, .inl x1), (2, .inl x2)] [.inl n9] t7 _
    refine gsRet (r := some (.inl n9)) dM_163_20 (fun _ => rfl) (Or.inr rfl) ?_
    exact hnn
  · replace hn := hn.2 c5
    refine gs0 9 [(0, .inr (.inr (some 725))), (1, .inl x1), (2, .inl x2)] [.inl x2] dM_163_8 (fun _ => rfl) (Or.inr rfl) ?_
    refine gsCallS (y := 165) (as := [.inl x2]) (r := []) dM_163_9 rfl (Or.inl rfl) rfl rfl (Nat.le_of_ble_eq_true rfl) (EvS.up hn (Nat.le_of_ble_eq_true rfl)) (fun v10 t11 hv12 => ?_)
    obtain ⟨n13, rfl, hnn⟩ := hv12
    clear hn
    show GoS _ _ _ _ _ _ _ _ [(0, .inr (.inr (some 725))), (1, .inl x1), (2, .inl x2)] [.inl n13] t11 _
    refine gsIf (t := 21) (C := ¬ n13 = 0) (r := []) dM_163_12 (fun _ => rfl) (Or.inr rfl) (rTest_iff .ne n13 0) (fun c14 => ?_) (fun c14 => ?_)
    · replace hnn := hnn.1 c14
      refine gs0 22 [(0, .inr (.inr (some 725))), (1, .inl x1), (2, .inl x2)] [.inr (.inr (some 725))] dM_163_21 (fun _ => rfl) (Or.inr rfl) ?_
      refine gs0 23 [(0, .inr (.inr (some 725))), (1, .inl x1), (2, .inl x2)] [.inl x1, .inr (.inr (some 725))] dM_163_22 (fun _ => rfl) (Or.inr rfl) ?_
      refine gs0 24 [(0, .inr (.inr (some 725))), (1, .inl x1), (2, .inl x2)] [.inl x2, .inl x1, .inr (.inr (some 725))] dM_163_23 (fun _ => rfl) (Or.inr rfl) ?_
      refine gsCallV (y := 166) (k := 725) (as := [.inr (.inr (some 725)), .inl x1, .inl x2]) (r := []) dM_163_24 rfl rfl rfl (Nat.le_of_ble_eq_true rfl) sk_725 rfl (Nat.le_of_ble_eq_true rfl) (EvS.up hnn (Nat.le_of_ble_eq_true rfl)) (fun v15 t16 hv17 => ?_)
      obtain ⟨rfl, hnnn⟩ := hv17
      clear hnn
      show GoS _ _ _ _ _ _ _ _ [(0, .inr (.inr (some 725))), (1, .inl x1), (2, .inl x2)] [] t16 _
      refine gs0 28 [(0, .inr (.inr (some 725))), (1, .inl x1), (2, .inl x2)] [.inr (.inr (some 725))] dM_163_27 (fun _ => rfl) (Or.inr rfl) ?_
      refine gsGetE (t16 725 51) dM_163_28 sk_725 rfl rfl rfl ?_
      refine gsRet (r := some (.inl (t16 725 51))) dM_163_31 (fun _ => rfl) (Or.inr rfl) ?_
      exact hnnn
    · replace hnn := hnn.2 c14
      refine gs0 16 [(0, .inr (.inr (some 725))), (1, .inl x1), (2, .inl x2)] [.inr (.inr (some 725))] dM_163_15 (fun _ => rfl) (Or.inr rfl) ?_
      refine gs0 17 [(0, .inr (.inr (some 725))), (1, .inl x1), (2, .inl x2)] [.inl ((-1)), .inr (.inr (some 725))] dM_163_16 (fun _ => rfl) (Or.inr rfl) ?_
      refine gsCallV (y := 128) (k := 725) (as := [.inr (.inr (some 725)), .inl ((-1))]) (r := []) dM_163_17 rfl rfl rfl (Nat.le_of_ble_eq_true rfl) sk_725 rfl (Nat.le_of_ble_eq_true rfl) (EvS.up hnn (Nat.le_of_ble_eq_true rfl)) (fun v18 t19 hv20 => ?_)
      obtain ⟨n21, rfl, hnnn⟩ := hv20
      clear hnn
      show GoS _ _ _ _ _ _ _ _ [(0, .inr (.inr (some 725))), (1, .inl x1), (2, .inl x2)] [.inl n21] t19 _
      refine gsRet (r := some (.inl n21)) dM_163_20 (fun _ => rfl) (Or.inr rfl) ?_
      exact hnnn
set_option maxRecDepth 100000 in
/-- GoalsInAQueueModel.isAnswer -/
theorem w_164 (sg : rSg) (x1 : Int32) {P : Option rv → rSg → Prop} (h :
    EvS rSkel 1 119 [.inl x1, .inl 0, .inl ((sg 748 0) - 1)] sg (fun v1 t2 => ∃ n4, v1 = some (.inl n4) ∧
      (rBool n4 = true ∧
      P (some (.inl n4)) t2))) : EvS rSkel 2 164 [.inr (.inr (some 725)), .inl x1] sg P := by
  refine EvS.of (ini := false) rfl ⟨rfl, Nat.le_of_ble_eq_true rfl⟩ rfl ?_
  show GoS rSkel 1 9 2 (some .boolean) false prog_11_method_58_code 0 [(0, .inr (.inr (some 725))), (1, .inl x1)] [] sg _
  refine gs0 1 [(0, .inr (.inr (some 725))), (1, .inl x1)] [.inl x1] dM_164_0 (fun _ => rfl) (Or.inr rfl) ?_
  refine gs0 2 [(0, .inr (.inr (some 725))), (1, .inl x1)] [.inl 0, .inl x1] dM_164_1 (fun _ => rfl) (Or.inr rfl) ?_
  refine gs0 3 [(0, .inr (.inr (some 725))), (1, .inl x1)] [.inr (.inr (some 725)), .inl 0, .inl x1] dM_164_2 (fun _ => rfl) (Or.inr rfl) ?_
  refine gsGetR (some 748) dM_164_3 sk_725 rfl rfl ?_
  refine gs0 7 [(0, .inr (.inr (some 725))), (1, .inl x1)] [.inl 0, .inr (.inr (some 748)), .inl 0, .inl x1] dM_164_6 (fun _ => rfl) (Or.inr rfl) ?_
  refine gsIaldN 0 (sg 748 0) dM_164_7 sk_748 rfl rfl rfl ?_
  refine gs0 9 [(0, .inr (.inr (some 725))), (1, .inl x1)] [.inl 1, .inl (sg 748 0), .inl 0, .inl x1] dM_164_8 (fun _ => rfl) (Or.inr rfl) ?_
  refine gs0 10 [(0, .inr (.inr (some 725))), (1, .inl x1)] [.inl ((sg 748 0) - 1), .inl 0, .inl x1] dM_164_9 (fun _ => rfl) (Or.inr rfl) ?_
  refine gsCallS (y := 119) (as := [.inl x1, .inl 0, .inl ((sg 748 0) - 1)]) (r := []) dM_164_10 rfl (Or.inl rfl) rfl rfl (Nat.le_of_ble_eq_true rfl) (EvS.up h (Nat.le_of_ble_eq_true rfl)) (fun v1 t2 hv3 => ?_)
  obtain ⟨n4, rfl, hn⟩ := hv3
  clear h
  show GoS _ _ _ _ _ _ _ _ [(0, .inr (.inr (some 725))), (1, .inl x1)] [.inl n4] t2 _
  refine gsRet (r := some (.inl n4)) dM_164_13 (fun _ => rRetB hn.1) (Or.inr rfl) ?_
  replace hn := hn.2
  exact hn
set_option maxRecDepth 100000 in
/-- GoalsInAQueueModel.isNamed -/
theorem w_165 (sg : rSg) (x0 : Int32) {P : Option rv → rSg → Prop} (h :
    EvS rSkel 1 119 [.inl x0, .inl 0, .inl 5] sg (fun v1 t2 => ∃ n4, v1 = some (.inl n4) ∧
      (rBool n4 = true ∧
      P (some (.inl n4)) t2))) : EvS rSkel 2 165 [.inl x0] sg P := by
  refine EvS.of (ini := false) rfl ⟨rfl, Nat.le_of_ble_eq_true rfl⟩ rfl ?_
  show GoS rSkel 1 9 1 (some .boolean) false prog_11_method_59_code 0 [(0, .inl x0)] [] sg _
  refine gs0 1 [(0, .inl x0)] [.inl x0] dM_165_0 (fun _ => rfl) (Or.inr rfl) ?_
  refine gs0 2 [(0, .inl x0)] [.inl 0, .inl x0] dM_165_1 (fun _ => rfl) (Or.inr rfl) ?_
  refine gs0 3 [(0, .inl x0)] [.inl 5, .inl 0, .inl x0] dM_165_2 (fun _ => rfl) (Or.inr rfl) ?_
  refine gsCallS (y := 119) (as := [.inl x0, .inl 0, .inl 5]) (r := []) dM_165_3 rfl (Or.inl rfl) rfl rfl (Nat.le_of_ble_eq_true rfl) (EvS.up h (Nat.le_of_ble_eq_true rfl)) (fun v1 t2 hv3 => ?_)
  obtain ⟨n4, rfl, hn⟩ := hv3
  clear h
  show GoS _ _ _ _ _ _ _ _ [(0, .inl x0)] [.inl n4] t2 _
  refine gsRet (r := some (.inl n4)) dM_165_6 (fun _ => rRetB hn.1) (Or.inr rfl) ?_
  replace hn := hn.2
  exact hn
set_option maxRecDepth 100000 in
/-- GoalsInAQueueModel.findText -/
theorem w_166 (sg : rSg) (x1 : Int32) (x2 : Int32) {P : Option rv → rSg → Prop} (h :
    EvS rSkel 2 167 [.inr (.inr (some 725)), .inl x1] sg (fun v1 t2 => v1 = none ∧
      EvS rSkel 4 168 [.inr (.inr (some 725)), .inl x2] t2 (fun v4 t5 => v4 = none ∧
        P none t5))) : EvS rSkel 5 166 [.inr (.inr (some 725)), .inl x1, .inl x2] sg P := by
  refine EvS.of (ini := false) rfl ⟨rfl, Nat.le_of_ble_eq_true rfl⟩ rfl ?_
  show GoS rSkel 4 9 3 none false prog_11_method_57_code 0 [(0, .inr (.inr (some 725))), (1, .inl x1), (2, .inl x2)] [] sg _
  refine gs0 1 [(0, .inr (.inr (some 725))), (1, .inl x1), (2, .inl x2)] [.inr (.inr (some 725))] dM_166_0 (fun _ => rfl) (Or.inr rfl) ?_
  refine gs0 2 [(0, .inr (.inr (some 725))), (1, .inl x1), (2, .inl x2)] [.inl x1, .inr (.inr (some 725))] dM_166_1 (fun _ => rfl) (Or.inr rfl) ?_
  refine gsCallV (y := 167) (k := 725) (as := [.inr (.inr (some 725)), .inl x1]) (r := []) dM_166_2 rfl rfl rfl (Nat.le_of_ble_eq_true rfl) sk_725 rfl (Nat.le_of_ble_eq_true rfl) (EvS.up h (Nat.le_of_ble_eq_true rfl)) (fun v1 t2 hv3 => ?_)
  obtain ⟨rfl, hn⟩ := hv3
  clear h
  show GoS _ _ _ _ _ _ _ _ [(0, .inr (.inr (some 725))), (1, .inl x1), (2, .inl x2)] [] t2 _
  refine gs0 6 [(0, .inr (.inr (some 725))), (1, .inl x1), (2, .inl x2)] [.inr (.inr (some 725))] dM_166_5 (fun _ => rfl) (Or.inr rfl) ?_
  refine gs0 7 [(0, .inr (.inr (some 725))), (1, .inl x1), (2, .inl x2)] [.inl x2, .inr (.inr (some 725))] dM_166_6 (fun _ => rfl) (Or.inr rfl) ?_
  refine gsCallV (y := 168) (k := 725) (as := [.inr (.inr (some 725)), .inl x2]) (r := []) dM_166_7 rfl rfl rfl (Nat.le_of_ble_eq_true rfl) sk_725 rfl (Nat.le_of_ble_eq_true rfl) (EvS.up hn (Nat.le_of_ble_eq_true rfl)) (fun v4 t5 hv6 => ?_)
  obtain ⟨rfl, hnn⟩ := hv6
  clear hn
  show GoS _ _ _ _ _ _ _ _ [(0, .inr (.inr (some 725))), (1, .inl x1), (2, .inl x2)] [] t5 _
  refine gsRet (r := none) dM_166_10 (fun _ => rfl) (Or.inr rfl) ?_
  exact hnn
def g_167_16  (y2 : Int32) (y3 : Int32) (sg : rSg) (P : Option rv → rSg → Prop) : Prop := GoS rSkel 1 9 4 none false prog_11_method_56_code 16 [(0, .inr (.inr (some 725))), (2, .inl y2), (3, .inl y3)] [] sg P
set_option maxRecDepth 100000 in
theorem w_167_16 (sg : rSg)  (y2 : Int32) (y3 : Int32) {P : Option rv → rSg → Prop} (h :
    (64 ≤ y3 → 
      P none sg) ∧
    (¬ (64 ≤ y3) → 
      (rIn ((64 * y2) + y3) 3840 = true ∧
      rIn y3 128 = true ∧
      g_167_16 y2 (y3 + 1) (up2 sg 736 y3.toNatClampNeg (sg 743 (((64 * y2) + y3).toNatClampNeg))) P))) : g_167_16 y2 y3 sg P := by
  show GoS rSkel 1 9 4 none false prog_11_method_56_code 16 [(0, .inr (.inr (some 725))), (2, .inl y2), (3, .inl y3)] [] sg P
  refine gs0 17 [(0, .inr (.inr (some 725))), (2, .inl y2), (3, .inl y3)] [.inl y3] dM_167_16 (fun _ => rfl) (Or.inr rfl) ?_
  refine gs0 19 [(0, .inr (.inr (some 725))), (2, .inl y2), (3, .inl y3)] [.inl 64, .inl y3] dM_167_17 (fun _ => rfl) (Or.inr rfl) ?_
  refine gsIf (t := 45) (C := 64 ≤ y3) (r := []) dM_167_19 (fun _ => rfl) (Or.inr rfl) (rTest_iff .ge y3 64) (fun c4 => ?_) (fun c4 => ?_)
  · replace h := h.1 c4
    refine gsRet (r := none) dM_167_45 (fun _ => rfl) (Or.inr rfl) ?_
    exact h
  · replace h := h.2 c4
    refine gs0 23 [(0, .inr (.inr (some 725))), (2, .inl y2), (3, .inl y3)] [.inr (.inr (some 725))] dM_167_22 (fun _ => rfl) (Or.inr rfl) ?_
    refine gsGetR (some 736) dM_167_23 sk_725 rfl rfl ?_
    refine gs0 27 [(0, .inr (.inr (some 725))), (2, .inl y2), (3, .inl y3)] [.inl y3, .inr (.inr (some 736))] dM_167_26 (fun _ => rfl) (Or.inr rfl) ?_
    refine gs0 28 [(0, .inr (.inr (some 725))), (2, .inl y2), (3, .inl y3)] [.inr (.inr (some 725)), .inl y3, .inr (.inr (some 736))] dM_167_27 (fun _ => rfl) (Or.inr rfl) ?_
    refine gsGetR (some 743) dM_167_28 sk_725 rfl rfl ?_
    refine gs0 33 [(0, .inr (.inr (some 725))), (2, .inl y2), (3, .inl y3)] [.inl 64, .inr (.inr (some 743)), .inl y3, .inr (.inr (some 736))] dM_167_31 (fun _ => rfl) (Or.inr rfl) ?_
    refine gs0 34 [(0, .inr (.inr (some 725))), (2, .inl y2), (3, .inl y3)] [.inl y2, .inl 64, .inr (.inr (some 743)), .inl y3, .inr (.inr (some 736))] dM_167_33 (fun _ => rfl) (Or.inr rfl) ?_
    refine gs0 35 [(0, .inr (.inr (some 725))), (2, .inl y2), (3, .inl y3)] [.inl (64 * y2), .inr (.inr (some 743)), .inl y3, .inr (.inr (some 736))] dM_167_34 (fun _ => rfl) (Or.inr rfl) ?_
    refine gs0 36 [(0, .inr (.inr (some 725))), (2, .inl y2), (3, .inl y3)] [.inl y3, .inl (64 * y2), .inr (.inr (some 743)), .inl y3, .inr (.inr (some 736))] dM_167_35 (fun _ => rfl) (Or.inr rfl) ?_
    refine gs0 37 [(0, .inr (.inr (some 725))), (2, .inl y2), (3, .inl y3)] [.inl ((64 * y2) + y3), .inr (.inr (some 743)), .inl y3, .inr (.inr (some 736))] dM_167_36 (fun _ => rfl) (Or.inr rfl) ?_
    refine gsIaldN (((64 * y2) + y3).toNatClampNeg) (sg 743 (((64 * y2) + y3).toNatClampNeg)) dM_167_37 sk_743 h.1 rfl rfl ?_
    replace h := h.2
    refine gsIastN y3.toNatClampNeg dM_167_38 sk_736 h.1 rfl ?_
    replace h := h.2
    refine gs0 42 [(3, .inl (y3 + 1)), (0, .inr (.inr (some 725))), (2, .inl y2)] [] dM_167_39 (fun _ => rfl) (Or.inr rfl) ?_
    refine gs0 16 [(3, .inl (y3 + 1)), (0, .inr (.inr (some 725))), (2, .inl y2)] [] dM_167_42 (fun _ => rfl) (Or.inr rfl) ?_
    exact GoS.sub (Lnd_keys (ks := [0, 2, 3]) rfl (by decide)) (Lsub_cons rfl (Lsub_cons rfl (Lsub_cons rfl Lsub_nil))) h
set_option maxRecDepth 100000 in
/-- GoalsInAQueueModel.loadsAnswer -/
theorem w_167 (sg : rSg) (x1 : Int32) {P : Option rv → rSg → Prop} (h :
    EvS rSkel 1 122 [.inr (.inr (some 725))] sg (fun v1 t2 => v1 = none ∧
      g_167_16 ((30 * (t2 725 21)) + x1) 0 t2 P)) : EvS rSkel 2 167 [.inr (.inr (some 725)), .inl x1] sg P := by
  refine EvS.of (ini := false) rfl ⟨rfl, Nat.le_of_ble_eq_true rfl⟩ rfl ?_
  show GoS rSkel 1 9 4 none false prog_11_method_56_code 0 [(0, .inr (.inr (some 725))), (1, .inl x1)] [] sg _
  refine gs0 1 [(0, .inr (.inr (some 725))), (1, .inl x1)] [.inr (.inr (some 725))] dM_167_0 (fun _ => rfl) (Or.inr rfl) ?_
  refine gsCallV (y := 122) (k := 725) (as := [.inr (.inr (some 725))]) (r := []) dM_167_1 rfl rfl rfl (Nat.le_of_ble_eq_true rfl) sk_725 rfl (Nat.le_of_ble_eq_true rfl) (EvS.up h (Nat.le_of_ble_eq_true rfl)) (fun v1 t2 hv3 => ?_)
  obtain ⟨rfl, hn⟩ := hv3
  clear h
  show GoS _ _ _ _ _ _ _ _ [(0, .inr (.inr (some 725))), (1, .inl x1)] [] t2 _
  refine gs0 6 [(0, .inr (.inr (some 725))), (1, .inl x1)] [.inl 30] dM_167_4 (fun _ => rfl) (Or.inr rfl) ?_
  refine gs0 7 [(0, .inr (.inr (some 725))), (1, .inl x1)] [.inr (.inr (some 725)), .inl 30] dM_167_6 (fun _ => rfl) (Or.inr rfl) ?_
  refine gsGetE (t2 725 21) dM_167_7 sk_725 rfl rfl rfl ?_
  refine gs0 11 [(0, .inr (.inr (some 725))), (1, .inl x1)] [.inl (30 * (t2 725 21))] dM_167_10 (fun _ => rfl) (Or.inr rfl) ?_
  refine gs0 12 [(0, .inr (.inr (some 725))), (1, .inl x1)] [.inl x1, .inl (30 * (t2 725 21))] dM_167_11 (fun _ => rfl) (Or.inr rfl) ?_
  refine gs0 13 [(0, .inr (.inr (some 725))), (1, .inl x1)] [.inl ((30 * (t2 725 21)) + x1)] dM_167_12 (fun _ => rfl) (Or.inr rfl) ?_
  refine gs0 14 [(2, .inl ((30 * (t2 725 21)) + x1)), (0, .inr (.inr (some 725))), (1, .inl x1)] [] dM_167_13 (fun _ => rfl) (Or.inr rfl) ?_
  refine gs0 15 [(2, .inl ((30 * (t2 725 21)) + x1)), (0, .inr (.inr (some 725))), (1, .inl x1)] [.inl 0] dM_167_14 (fun _ => rfl) (Or.inr rfl) ?_
  refine gs0 16 [(3, .inl 0), (2, .inl ((30 * (t2 725 21)) + x1)), (0, .inr (.inr (some 725))), (1, .inl x1)] [] dM_167_15 (fun _ => rfl) (Or.inr rfl) ?_
  exact GoS.sub (Lnd_keys (ks := [0, 2, 3]) rfl (by decide)) (Lsub_cons rfl (Lsub_cons rfl (Lsub_cons rfl Lsub_nil))) hn
def g_168_22   (sg : rSg) (P : Option rv → rSg → Prop) : Prop := GoS rSkel 3 9 3 none false prog_11_method_55_code 22 [(0, .inr (.inr (some 725)))] [] sg P
set_option maxRecDepth 100000 in
theorem w_168_22 (sg : rSg)   {P : Option rv → rSg → Prop} (h :
    ((sg 725 17) ≤ 0 → 
      ((sg 725 51) ≤ 200 → 
        P none sg) ∧
      (¬ ((sg 725 51) ≤ 200) → 
        P none (up2 sg 725 51 200))) ∧
    (¬ ((sg 725 17) ≤ 0) → 
      (200 ≤ (sg 725 51) → 
        ((sg 725 51) ≤ 200 → 
          P none sg) ∧
        (¬ ((sg 725 51) ≤ 200) → 
          P none (up2 sg 725 51 200))) ∧
      (¬ (200 ≤ (sg 725 51)) → 
        EvS rSkel 1 116 [.inr (.inr (some 725))] sg (fun v8 t9 => ∃ n11, v8 = some (.inl n11) ∧
          (0 ≤ n11 → 
            EvS rSkel 3 170 [.inr (.inr (some 725)), .inl n11] t9 (fun v13 t14 => v13 = none ∧
              g_168_22 t14 P)) ∧
          (¬ (0 ≤ n11) → 
            EvS rSkel 1 169 [.inr (.inr (some 725)), .inl (-n11)] t9 (fun v16 t17 => v16 = none ∧
              g_168_22 t17 P)))))) : g_168_22 sg P := by
  show GoS rSkel 3 9 3 none false prog_11_method_55_code 22 [(0, .inr (.inr (some 725)))] [] sg P
  refine gs0 23 [(0, .inr (.inr (some 725)))] [.inr (.inr (some 725))] dM_168_22 (fun _ => rfl) (Or.inr rfl) ?_
  refine gsGetE (sg 725 17) dM_168_23 sk_725 rfl rfl rfl ?_
  refine gsIf (t := 65) (C := (sg 725 17) ≤ 0) (r := []) dM_168_26 (fun _ => rfl) (Or.inr rfl) (rTest_iff .le (sg 725 17) 0) (fun c4 => ?_) (fun c4 => ?_)
  · replace h := h.1 c4
    refine gs0 66 [(0, .inr (.inr (some 725)))] [.inr (.inr (some 725))] dM_168_65 (fun _ => rfl) (Or.inr rfl) ?_
    refine gsGetE (sg 725 51) dM_168_66 sk_725 rfl rfl rfl ?_
    refine gs0 72 [(0, .inr (.inr (some 725)))] [.inl 200, .inl (sg 725 51)] dM_168_69 (fun _ => rfl) (Or.inr rfl) ?_
    refine gsIf (t := 82) (C := (sg 725 51) ≤ 200) (r := []) dM_168_72 (fun _ => rfl) (Or.inr rfl) (rTest_iff .le (sg 725 51) 200) (fun c5 => ?_) (fun c5 => ?_)
    · replace h := h.1 c5
      refine gsRet (r := none) dM_168_82 (fun _ => rfl) (Or.inr rfl) ?_
      exact h
    · replace h := h.2 c5
      refine gs0 76 [(0, .inr (.inr (some 725)))] [.inr (.inr (some 725))] dM_168_75 (fun _ => rfl) (Or.inr rfl) ?_
      refine gs0 79 [(0, .inr (.inr (some 725)))] [.inl 200, .inr (.inr (some 725))] dM_168_76 (fun _ => rfl) (Or.inr rfl) ?_
      refine gsPut dM_168_79 sk_725 rfl rfl rfl (by decide) ?_
      refine gsRet (r := none) dM_168_82 (fun _ => rfl) (Or.inr rfl) ?_
      exact h
  · replace h := h.2 c4
    refine gs0 30 [(0, .inr (.inr (some 725)))] [.inr (.inr (some 725))] dM_168_29 (fun _ => rfl) (Or.inr rfl) ?_
    refine gsGetE (sg 725 51) dM_168_30 sk_725 rfl rfl rfl ?_
    refine gs0 36 [(0, .inr (.inr (some 725)))] [.inl 200, .inl (sg 725 51)] dM_168_33 (fun _ => rfl) (Or.inr rfl) ?_
    refine gsIf (t := 65) (C := 200 ≤ (sg 725 51)) (r := []) dM_168_36 (fun _ => rfl) (Or.inr rfl) (rTest_iff .ge (sg 725 51) 200) (fun c6 => ?_) (fun c6 => ?_)
    · replace h := h.1 c6
      refine gs0 66 [(0, .inr (.inr (some 725)))] [.inr (.inr (some 725))] dM_168_65 (fun _ => rfl) (Or.inr rfl) ?_
      refine gsGetE (sg 725 51) dM_168_66 sk_725 rfl rfl rfl ?_
      refine gs0 72 [(0, .inr (.inr (some 725)))] [.inl 200, .inl (sg 725 51)] dM_168_69 (fun _ => rfl) (Or.inr rfl) ?_
      refine gsIf (t := 82) (C := (sg 725 51) ≤ 200) (r := []) dM_168_72 (fun _ => rfl) (Or.inr rfl) (rTest_iff .le (sg 725 51) 200) (fun c7 => ?_) (fun c7 => ?_)
      · replace h := h.1 c7
        refine gsRet (r := none) dM_168_82 (fun _ => rfl) (Or.inr rfl) ?_
        exact h
      · replace h := h.2 c7
        refine gs0 76 [(0, .inr (.inr (some 725)))] [.inr (.inr (some 725))] dM_168_75 (fun _ => rfl) (Or.inr rfl) ?_
        refine gs0 79 [(0, .inr (.inr (some 725)))] [.inl 200, .inr (.inr (some 725))] dM_168_76 (fun _ => rfl) (Or.inr rfl) ?_
        refine gsPut dM_168_79 sk_725 rfl rfl rfl (by decide) ?_
        refine gsRet (r := none) dM_168_82 (fun _ => rfl) (Or.inr rfl) ?_
        exact h
    · replace h := h.2 c6
      refine gs0 40 [(0, .inr (.inr (some 725)))] [.inr (.inr (some 725))] dM_168_39 (fun _ => rfl) (Or.inr rfl) ?_
      refine gsCallV (y := 116) (k := 725) (as := [.inr (.inr (some 725))]) (r := []) dM_168_40 rfl rfl rfl (Nat.le_of_ble_eq_true rfl) sk_725 rfl (Nat.le_of_ble_eq_true rfl) (EvS.up h (Nat.le_of_ble_eq_true rfl)) (fun v8 t9 hv10 => ?_)
      obtain ⟨n11, rfl, hn⟩ := hv10
      clear h
      show GoS _ _ _ _ _ _ _ _ [(0, .inr (.inr (some 725)))] [.inl n11] t9 _
      refine gs0 44 [(2, .inl n11), (0, .inr (.inr (some 725)))] [] dM_168_43 (fun _ => rfl) (Or.inr rfl) ?_
      refine gs0 45 [(2, .inl n11), (0, .inr (.inr (some 725)))] [.inl n11] dM_168_44 (fun _ => rfl) (Or.inr rfl) ?_
      refine gsIf (t := 57) (C := 0 ≤ n11) (r := []) dM_168_45 (fun _ => rfl) (Or.inr rfl) (rTest_iff .ge n11 0) (fun c12 => ?_) (fun c12 => ?_)
      · replace hn := hn.1 c12
        refine gs0 58 [(2, .inl n11), (0, .inr (.inr (some 725)))] [.inr (.inr (some 725))] dM_168_57 (fun _ => rfl) (Or.inr rfl) ?_
        refine gs0 59 [(2, .inl n11), (0, .inr (.inr (some 725)))] [.inl n11, .inr (.inr (some 725))] dM_168_58 (fun _ => rfl) (Or.inr rfl) ?_
        refine gsCallV (y := 170) (k := 725) (as := [.inr (.inr (some 725)), .inl n11]) (r := []) dM_168_59 rfl rfl rfl (Nat.le_of_ble_eq_true rfl) sk_725 rfl (Nat.le_of_ble_eq_true rfl) (EvS.up hn (Nat.le_of_ble_eq_true rfl)) (fun v13 t14 hv15 => ?_)
        obtain ⟨rfl, hnn⟩ := hv15
        clear hn
        show GoS _ _ _ _ _ _ _ _ [(2, .inl n11), (0, .inr (.inr (some 725)))] [] t14 _
        refine gs0 22 [(2, .inl n11), (0, .inr (.inr (some 725)))] [] dM_168_62 (fun _ => rfl) (Or.inr rfl) ?_
        exact GoS.sub (Lnd_keys (ks := [0]) rfl (by decide)) (Lsub_cons rfl Lsub_nil) hnn
      · replace hn := hn.2 c12
        refine gs0 49 [(2, .inl n11), (0, .inr (.inr (some 725)))] [.inr (.inr (some 725))] dM_168_48 (fun _ => rfl) (Or.inr rfl) ?_
        refine gs0 50 [(2, .inl n11), (0, .inr (.inr (some 725)))] [.inl n11, .inr (.inr (some 725))] dM_168_49 (fun _ => rfl) (Or.inr rfl) ?_
        refine gs0 51 [(2, .inl n11), (0, .inr (.inr (some 725)))] [.inl (-n11), .inr (.inr (some 725))] dM_168_50 (fun _ => rfl) (Or.inr rfl) ?_
        refine gsCallV (y := 169) (k := 725) (as := [.inr (.inr (some 725)), .inl (-n11)]) (r := []) dM_168_51 rfl rfl rfl (Nat.le_of_ble_eq_true rfl) sk_725 rfl (Nat.le_of_ble_eq_true rfl) (EvS.up hn (Nat.le_of_ble_eq_true rfl)) (fun v16 t17 hv18 => ?_)
        obtain ⟨rfl, hnn⟩ := hv18
        clear hn
        show GoS _ _ _ _ _ _ _ _ [(2, .inl n11), (0, .inr (.inr (some 725)))] [] t17 _
        refine gs0 62 [(2, .inl n11), (0, .inr (.inr (some 725)))] [] dM_168_54 (fun _ => rfl) (Or.inr rfl) ?_
        refine gs0 22 [(2, .inl n11), (0, .inr (.inr (some 725)))] [] dM_168_62 (fun _ => rfl) (Or.inr rfl) ?_
        exact GoS.sub (Lnd_keys (ks := [0]) rfl (by decide)) (Lsub_cons rfl Lsub_nil) hnn
set_option maxRecDepth 100000 in
/-- GoalsInAQueueModel.writesText -/
theorem w_168 (sg : rSg) (x1 : Int32) {P : Option rv → rSg → Prop} (h :
    EvS rSkel 1 118 [.inr (.inr (some 725)), .inl (2 * x1)] (up2 (up2 (up2 sg 725 51 0) 725 52 0) 725 17 0) (fun v1 t2 => v1 = none ∧
      g_168_22 t2 P)) : EvS rSkel 4 168 [.inr (.inr (some 725)), .inl x1] sg P := by
  refine EvS.of (ini := false) rfl ⟨rfl, Nat.le_of_ble_eq_true rfl⟩ rfl ?_
  show GoS rSkel 3 9 3 none false prog_11_method_55_code 0 [(0, .inr (.inr (some 725))), (1, .inl x1)] [] sg _
  refine gs0 1 [(0, .inr (.inr (some 725))), (1, .inl x1)] [.inr (.inr (some 725))] dM_168_0 (fun _ => rfl) (Or.inr rfl) ?_
  refine gs0 2 [(0, .inr (.inr (some 725))), (1, .inl x1)] [.inl 0, .inr (.inr (some 725))] dM_168_1 (fun _ => rfl) (Or.inr rfl) ?_
  refine gsPut dM_168_2 sk_725 rfl rfl rfl (by decide) ?_
  refine gs0 6 [(0, .inr (.inr (some 725))), (1, .inl x1)] [.inr (.inr (some 725))] dM_168_5 (fun _ => rfl) (Or.inr rfl) ?_
  refine gs0 7 [(0, .inr (.inr (some 725))), (1, .inl x1)] [.inl 0, .inr (.inr (some 725))] dM_168_6 (fun _ => rfl) (Or.inr rfl) ?_
  refine gsPut dM_168_7 sk_725 rfl rfl rfl (by decide) ?_
  refine gs0 11 [(0, .inr (.inr (some 725))), (1, .inl x1)] [.inr (.inr (some 725))] dM_168_10 (fun _ => rfl) (Or.inr rfl) ?_
  refine gs0 12 [(0, .inr (.inr (some 725))), (1, .inl x1)] [.inl 0, .inr (.inr (some 725))] dM_168_11 (fun _ => rfl) (Or.inr rfl) ?_
  refine gsPut dM_168_12 sk_725 rfl rfl rfl (by decide) ?_
  refine gs0 16 [(0, .inr (.inr (some 725))), (1, .inl x1)] [.inr (.inr (some 725))] dM_168_15 (fun _ => rfl) (Or.inr rfl) ?_
  refine gs0 17 [(0, .inr (.inr (some 725))), (1, .inl x1)] [.inl 2, .inr (.inr (some 725))] dM_168_16 (fun _ => rfl) (Or.inr rfl) ?_
  refine gs0 18 [(0, .inr (.inr (some 725))), (1, .inl x1)] [.inl x1, .inl 2, .inr (.inr (some 725))] dM_168_17 (fun _ => rfl) (Or.inr rfl) ?_
  refine gs0 19 [(0, .inr (.inr (some 725))), (1, .inl x1)] [.inl (2 * x1), .inr (.inr (some 725))] dM_168_18 (fun _ => rfl) (Or.inr rfl) ?_
  refine gsCallV (y := 118) (k := 725) (as := [.inr (.inr (some 725)), .inl (2 * x1)]) (r := []) dM_168_19 rfl rfl rfl (Nat.le_of_ble_eq_true rfl) sk_725 rfl (Nat.le_of_ble_eq_true rfl) (EvS.up h (Nat.le_of_ble_eq_true rfl)) (fun v1 t2 hv3 => ?_)
  obtain ⟨rfl, hn⟩ := hv3
  clear h
  show GoS _ _ _ _ _ _ _ _ [(0, .inr (.inr (some 725))), (1, .inl x1)] [] t2 _
  exact GoS.sub (Lnd_keys (ks := [0]) rfl (by decide)) (Lsub_cons rfl Lsub_nil) hn
set_option maxRecDepth 100000 in
/-- GoalsInAQueueModel.writes -/
theorem w_169 (sg : rSg) (x1 : Int32) {P : Option rv → rSg → Prop} (h :
    (200 ≤ (sg 725 51) → 
      P none (up2 sg 725 51 ((sg 725 51) + 1))) ∧
    (¬ (200 ≤ (sg 725 51)) → 
      (rIn (sg 725 51) 200 = true ∧
      P none (up2 (up2 sg 756 ((sg 725 51).toNatClampNeg) x1) 725 51 ((sg 725 51) + 1))))) : EvS rSkel 1 169 [.inr (.inr (some 725)), .inl x1] sg P := by
  refine EvS.of (ini := false) rfl ⟨rfl, Nat.le_of_ble_eq_true rfl⟩ rfl ?_
  show GoS rSkel 0 9 2 none false prog_11_method_52_code 0 [(0, .inr (.inr (some 725))), (1, .inl x1)] [] sg _
  refine gs0 1 [(0, .inr (.inr (some 725))), (1, .inl x1)] [.inr (.inr (some 725))] dM_169_0 (fun _ => rfl) (Or.inr rfl) ?_
  refine gsGetE (sg 725 51) dM_169_1 sk_725 rfl rfl rfl ?_
  refine gs0 7 [(0, .inr (.inr (some 725))), (1, .inl x1)] [.inl 200, .inl (sg 725 51)] dM_169_4 (fun _ => rfl) (Or.inr rfl) ?_
  refine gsIf (t := 20) (C := 200 ≤ (sg 725 51)) (r := []) dM_169_7 (fun _ => rfl) (Or.inr rfl) (rTest_iff .ge (sg 725 51) 200) (fun c1 => ?_) (fun c1 => ?_)
  · replace h := h.1 c1
    refine gs0 21 [(0, .inr (.inr (some 725))), (1, .inl x1)] [.inr (.inr (some 725))] dM_169_20 (fun _ => rfl) (Or.inr rfl) ?_
    refine gs0 22 [(0, .inr (.inr (some 725))), (1, .inl x1)] [.inr (.inr (some 725)), .inr (.inr (some 725))] dM_169_21 (fun _ => rfl) (Or.inr rfl) ?_
    refine gsGetE (sg 725 51) dM_169_22 sk_725 rfl rfl rfl ?_
    refine gs0 26 [(0, .inr (.inr (some 725))), (1, .inl x1)] [.inl 1, .inl (sg 725 51), .inr (.inr (some 725))] dM_169_25 (fun _ => rfl) (Or.inr rfl) ?_
    refine gs0 27 [(0, .inr (.inr (some 725))), (1, .inl x1)] [.inl ((sg 725 51) + 1), .inr (.inr (some 725))] dM_169_26 (fun _ => rfl) (Or.inr rfl) ?_
    refine gsPut dM_169_27 sk_725 rfl rfl rfl (by decide) ?_
    refine gsRet (r := none) dM_169_30 (fun _ => rfl) (Or.inr rfl) ?_
    exact h
  · replace h := h.2 c1
    refine gs0 11 [(0, .inr (.inr (some 725))), (1, .inl x1)] [.inr (.inr (some 725))] dM_169_10 (fun _ => rfl) (Or.inr rfl) ?_
    refine gsGetR (some 756) dM_169_11 sk_725 rfl rfl ?_
    refine gs0 15 [(0, .inr (.inr (some 725))), (1, .inl x1)] [.inr (.inr (some 725)), .inr (.inr (some 756))] dM_169_14 (fun _ => rfl) (Or.inr rfl) ?_
    refine gsGetE (sg 725 51) dM_169_15 sk_725 rfl rfl rfl ?_
    refine gs0 19 [(0, .inr (.inr (some 725))), (1, .inl x1)] [.inl x1, .inl (sg 725 51), .inr (.inr (some 756))] dM_169_18 (fun _ => rfl) (Or.inr rfl) ?_
    refine gsIastN ((sg 725 51).toNatClampNeg) dM_169_19 sk_756 h.1 rfl ?_
    replace h := h.2
    refine gs0 21 [(0, .inr (.inr (some 725))), (1, .inl x1)] [.inr (.inr (some 725))] dM_169_20 (fun _ => rfl) (Or.inr rfl) ?_
    refine gs0 22 [(0, .inr (.inr (some 725))), (1, .inl x1)] [.inr (.inr (some 725)), .inr (.inr (some 725))] dM_169_21 (fun _ => rfl) (Or.inr rfl) ?_
    refine gsGetE (sg 725 51) dM_169_22 sk_725 rfl rfl (congrFun (up2_nk _ _ _ (by decide)) _) ?_
    refine gs0 26 [(0, .inr (.inr (some 725))), (1, .inl x1)] [.inl 1, .inl (sg 725 51), .inr (.inr (some 725))] dM_169_25 (fun _ => rfl) (Or.inr rfl) ?_
    refine gs0 27 [(0, .inr (.inr (some 725))), (1, .inl x1)] [.inl ((sg 725 51) + 1), .inr (.inr (some 725))] dM_169_26 (fun _ => rfl) (Or.inr rfl) ?_
    refine gsPut dM_169_27 sk_725 rfl rfl rfl (by decide) ?_
    refine gsRet (r := none) dM_169_30 (fun _ => rfl) (Or.inr rfl) ?_
    exact h
