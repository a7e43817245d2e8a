theorem dM_170_0 : decode prog_11_method_54_code 0 = .ok (.aload_n 0, 1) := by decide +kernel
theorem dM_170_1 : decode prog_11_method_54_code 1 = .ok (.iload_n 1, 1) := by decide +kernel
theorem dM_170_2 : decode prog_11_method_54_code 2 = .ok (.invokevirtual 148, 3) := by decide +kernel
theorem dM_170_5 : decode prog_11_method_54_code 5 = .ok (.istore_n 2, 1) := by decide +kernel
theorem dM_170_6 : decode prog_11_method_54_code 6 = .ok (.iload_n 2, 1) := by decide +kernel
theorem dM_170_7 : decode prog_11_method_54_code 7 = .ok (.iconst 2, 1) := by decide +kernel
theorem dM_170_8 : decode prog_11_method_54_code 8 = .ok (.idiv, 1) := by decide +kernel
theorem dM_170_9 : decode prog_11_method_54_code 9 = .ok (.istore_n 3, 1) := by decide +kernel
theorem dM_170_10 : decode prog_11_method_54_code 10 = .ok (.iload_n 2, 1) := by decide +kernel
theorem dM_170_11 : decode prog_11_method_54_code 11 = .ok (.invokestatic 130, 3) := by decide +kernel
theorem dM_170_14 : decode prog_11_method_54_code 14 = .ok (.ifCond .eq 30, 3) := by decide +kernel
theorem dM_170_17 : decode prog_11_method_54_code 17 = .ok (.aload_n 0, 1) := by decide +kernel
theorem dM_170_18 : decode prog_11_method_54_code 18 = .ok (.bipush 95, 2) := by decide +kernel
theorem dM_170_20 : decode prog_11_method_54_code 20 = .ok (.invokevirtual 319, 3) := by decide +kernel
theorem dM_170_23 : decode prog_11_method_54_code 23 = .ok (.aload_n 0, 1) := by decide +kernel
theorem dM_170_24 : decode prog_11_method_54_code 24 = .ok (.bipush 48, 2) := by decide +kernel
theorem dM_170_26 : decode prog_11_method_54_code 26 = .ok (.aload_n 0, 1) := by decide +kernel
theorem dM_170_27 : decode prog_11_method_54_code 27 = .ok (.iload_n 2, 1) := by decide +kernel
theorem dM_170_28 : decode prog_11_method_54_code 28 = .ok (.invokestatic 134, 3) := by decide +kernel
theorem dM_170_31 : decode prog_11_method_54_code 31 = .ok (.invokevirtual 322, 3) := by decide +kernel
theorem dM_170_34 : decode prog_11_method_54_code 34 = .ok (.bipush 10, 2) := by decide +kernel
theorem dM_170_36 : decode prog_11_method_54_code 36 = .ok (.irem, 1) := by decide +kernel
theorem dM_170_37 : decode prog_11_method_54_code 37 = .ok (.iadd, 1) := by decide +kernel
theorem dM_170_38 : decode prog_11_method_54_code 38 = .ok (.invokevirtual 319, 3) := by decide +kernel
theorem dM_170_41 : decode prog_11_method_54_code 41 = .ok (.goto 80, 3) := by decide +kernel
theorem dM_170_44 : decode prog_11_method_54_code 44 = .ok (.iload_n 3, 1) := by decide +kernel
theorem dM_170_45 : decode prog_11_method_54_code 45 = .ok (.bipush 74, 2) := by decide +kernel
theorem dM_170_47 : decode prog_11_method_54_code 47 = .ok (.if_icmp .ge 17, 3) := by decide +kernel
theorem dM_170_50 : decode prog_11_method_54_code 50 = .ok (.aload_n 0, 1) := by decide +kernel
theorem dM_170_51 : decode prog_11_method_54_code 51 = .ok (.bipush 48, 2) := by decide +kernel
theorem dM_170_53 : decode prog_11_method_54_code 53 = .ok (.iload_n 3, 1) := by decide +kernel
theorem dM_170_54 : decode prog_11_method_54_code 54 = .ok (.iadd, 1) := by decide +kernel
theorem dM_170_55 : decode prog_11_method_54_code 55 = .ok (.bipush 64, 2) := by decide +kernel
theorem dM_170_57 : decode prog_11_method_54_code 57 = .ok (.isub, 1) := by decide +kernel
theorem dM_170_58 : decode prog_11_method_54_code 58 = .ok (.invokevirtual 319, 3) := by decide +kernel
theorem dM_170_61 : decode prog_11_method_54_code 61 = .ok (.goto 60, 3) := by decide +kernel
theorem dM_170_64 : decode prog_11_method_54_code 64 = .ok (.iload_n 3, 1) := by decide +kernel
theorem dM_170_65 : decode prog_11_method_54_code 65 = .ok (.bipush 74, 2) := by decide +kernel
theorem dM_170_67 : decode prog_11_method_54_code 67 = .ok (.if_icmp .ne 12, 3) := by decide +kernel
theorem dM_170_70 : decode prog_11_method_54_code 70 = .ok (.aload_n 0, 1) := by decide +kernel
theorem dM_170_71 : decode prog_11_method_54_code 71 = .ok (.bipush 110, 2) := by decide +kernel
theorem dM_170_73 : decode prog_11_method_54_code 73 = .ok (.invokevirtual 319, 3) := by decide +kernel
theorem dM_170_76 : decode prog_11_method_54_code 76 = .ok (.goto 45, 3) := by decide +kernel
theorem dM_170_79 : decode prog_11_method_54_code 79 = .ok (.aload_n 0, 1) := by decide +kernel
theorem dM_170_80 : decode prog_11_method_54_code 80 = .ok (.bipush 40, 2) := by decide +kernel
theorem dM_170_82 : decode prog_11_method_54_code 82 = .ok (.invokevirtual 319, 3) := by decide +kernel
theorem dM_170_85 : decode prog_11_method_54_code 85 = .ok (.aload_n 0, 1) := by decide +kernel
theorem dM_170_86 : decode prog_11_method_54_code 86 = .ok (.bipush (-41), 2) := by decide +kernel
theorem dM_170_88 : decode prog_11_method_54_code 88 = .ok (.invokevirtual 144, 3) := by decide +kernel
theorem dM_170_91 : decode prog_11_method_54_code 91 = .ok (.aload_n 0, 1) := by decide +kernel
theorem dM_170_92 : decode prog_11_method_54_code 92 = .ok (.iconst 2, 1) := by decide +kernel
theorem dM_170_93 : decode prog_11_method_54_code 93 = .ok (.aload_n 0, 1) := by decide +kernel
theorem dM_170_94 : decode prog_11_method_54_code 94 = .ok (.getfield 16, 3) := by decide +kernel
theorem dM_170_97 : decode prog_11_method_54_code 97 = .ok (.iload_n 3, 1) := by decide +kernel
theorem dM_170_98 : decode prog_11_method_54_code 98 = .ok (.iaload, 1) := by decide +kernel
theorem dM_170_99 : decode prog_11_method_54_code 99 = .ok (.imul, 1) := by decide +kernel
theorem dM_170_100 : decode prog_11_method_54_code 100 = .ok (.invokevirtual 144, 3) := by decide +kernel
theorem dM_170_103 : decode prog_11_method_54_code 103 = .ok (.aload_n 0, 1) := by decide +kernel
theorem dM_170_104 : decode prog_11_method_54_code 104 = .ok (.bipush (-46), 2) := by decide +kernel
theorem dM_170_106 : decode prog_11_method_54_code 106 = .ok (.invokevirtual 144, 3) := by decide +kernel
theorem dM_170_109 : decode prog_11_method_54_code 109 = .ok (.aload_n 0, 1) := by decide +kernel
theorem dM_170_110 : decode prog_11_method_54_code 110 = .ok (.iconst 2, 1) := by decide +kernel
theorem dM_170_111 : decode prog_11_method_54_code 111 = .ok (.aload_n 0, 1) := by decide +kernel
theorem dM_170_112 : decode prog_11_method_54_code 112 = .ok (.getfield 13, 3) := by decide +kernel
theorem dM_170_115 : decode prog_11_method_54_code 115 = .ok (.iload_n 3, 1) := by decide +kernel
theorem dM_170_116 : decode prog_11_method_54_code 116 = .ok (.iaload, 1) := by decide +kernel
theorem dM_170_117 : decode prog_11_method_54_code 117 = .ok (.imul, 1) := by decide +kernel
theorem dM_170_118 : decode prog_11_method_54_code 118 = .ok (.invokevirtual 144, 3) := by decide +kernel
theorem dM_170_121 : decode prog_11_method_54_code 121 = .ok (.return_, 1) := by decide +kernel
theorem dM_171_0 : decode prog_11_method_53_code 0 = .ok (.iconst 0, 1) := by decide +kernel
theorem dM_171_1 : decode prog_11_method_53_code 1 = .ok (.istore_n 2, 1) := by decide +kernel
theorem dM_171_2 : decode prog_11_method_53_code 2 = .ok (.iload_n 2, 1) := by decide +kernel
theorem dM_171_3 : decode prog_11_method_53_code 3 = .ok (.aload_n 0, 1) := by decide +kernel
theorem dM_171_4 : decode prog_11_method_53_code 4 = .ok (.getfield 316, 3) := by decide +kernel
theorem dM_171_7 : decode prog_11_method_53_code 7 = .ok (.if_icmp .ge 21, 3) := by decide +kernel
theorem dM_171_10 : decode prog_11_method_53_code 10 = .ok (.aload_n 0, 1) := by decide +kernel
theorem dM_171_11 : decode prog_11_method_53_code 11 = .ok (.getfield 103, 3) := by decide +kernel
theorem dM_171_14 : decode prog_11_method_53_code 14 = .ok (.iload_n 2, 1) := by decide +kernel
theorem dM_171_15 : decode prog_11_method_53_code 15 = .ok (.iaload, 1) := by decide +kernel
theorem dM_171_16 : decode prog_11_method_53_code 16 = .ok (.iload_n 1, 1) := by decide +kernel
theorem dM_171_17 : decode prog_11_method_53_code 17 = .ok (.if_icmp .ne 5, 3) := by decide +kernel
theorem dM_171_20 : decode prog_11_method_53_code 20 = .ok (.iload_n 2, 1) := by decide +kernel
theorem dM_171_21 : decode prog_11_method_53_code 21 = .ok (.ireturn, 1) := by decide +kernel
theorem dM_171_22 : decode prog_11_method_53_code 22 = .ok (.iinc 2 1, 3) := by decide +kernel
theorem dM_171_25 : decode prog_11_method_53_code 25 = .ok (.goto (-23), 3) := by decide +kernel
theorem dM_171_28 : decode prog_11_method_53_code 28 = .ok (.aload_n 0, 1) := by decide +kernel
theorem dM_171_29 : decode prog_11_method_53_code 29 = .ok (.getfield 103, 3) := by decide +kernel
theorem dM_171_32 : decode prog_11_method_53_code 32 = .ok (.aload_n 0, 1) := by decide +kernel
theorem dM_171_33 : decode prog_11_method_53_code 33 = .ok (.getfield 316, 3) := by decide +kernel
theorem dM_171_36 : decode prog_11_method_53_code 36 = .ok (.iload_n 1, 1) := by decide +kernel
theorem dM_171_37 : decode prog_11_method_53_code 37 = .ok (.iastore, 1) := by decide +kernel
theorem dM_171_38 : decode prog_11_method_53_code 38 = .ok (.aload_n 0, 1) := by decide +kernel
theorem dM_171_39 : decode prog_11_method_53_code 39 = .ok (.dup, 1) := by decide +kernel
theorem dM_171_40 : decode prog_11_method_53_code 40 = .ok (.getfield 316, 3) := by decide +kernel
theorem dM_171_43 : decode prog_11_method_53_code 43 = .ok (.iconst 1, 1) := by decide +kernel
theorem dM_171_44 : decode prog_11_method_53_code 44 = .ok (.iadd, 1) := by decide +kernel
theorem dM_171_45 : decode prog_11_method_53_code 45 = .ok (.putfield 316, 3) := by decide +kernel
theorem dM_171_48 : decode prog_11_method_53_code 48 = .ok (.aload_n 0, 1) := by decide +kernel
theorem dM_171_49 : decode prog_11_method_53_code 49 = .ok (.getfield 316, 3) := by decide +kernel
theorem dM_171_52 : decode prog_11_method_53_code 52 = .ok (.iconst 1, 1) := by decide +kernel
theorem dM_171_53 : decode prog_11_method_53_code 53 = .ok (.isub, 1) := by decide +kernel
theorem dM_171_54 : decode prog_11_method_53_code 54 = .ok (.ireturn, 1) := by decide +kernel
theorem dM_172_0 : decode prog_11_method_62_code 0 = .ok (.aload_n 0, 1) := by decide +kernel
theorem dM_172_1 : decode prog_11_method_62_code 1 = .ok (.iload_n 1, 1) := by decide +kernel
theorem dM_172_2 : decode prog_11_method_62_code 2 = .ok (.invokevirtual 334, 3) := by decide +kernel
theorem dM_172_5 : decode prog_11_method_62_code 5 = .ok (.ifCond .eq 10, 3) := by decide +kernel
theorem dM_172_8 : decode prog_11_method_62_code 8 = .ok (.iload_n 2, 1) := by decide +kernel
theorem dM_172_9 : decode prog_11_method_62_code 9 = .ok (.invokestatic 337, 3) := by decide +kernel
theorem dM_172_12 : decode prog_11_method_62_code 12 = .ok (.ifCond .ne 7, 3) := by decide +kernel
theorem dM_172_15 : decode prog_11_method_62_code 15 = .ok (.iconst (-1), 1) := by decide +kernel
theorem dM_172_16 : decode prog_11_method_62_code 16 = .ok (.goto 13, 3) := by decide +kernel
theorem dM_172_19 : decode prog_11_method_62_code 19 = .ok (.iload_n 3, 1) := by decide +kernel
theorem dM_172_20 : decode prog_11_method_62_code 20 = .ok (.ifCond .ge 8, 3) := by decide +kernel
theorem dM_172_23 : decode prog_11_method_62_code 23 = .ok (.bipush (-4), 2) := by decide +kernel
theorem dM_172_25 : decode prog_11_method_62_code 25 = .ok (.goto 4, 3) := by decide +kernel
theorem dM_172_28 : decode prog_11_method_62_code 28 = .ok (.iconst 0, 1) := by decide +kernel
theorem dM_172_29 : decode prog_11_method_62_code 29 = .ok (.istore 4, 2) := by decide +kernel
theorem dM_172_31 : decode prog_11_method_62_code 31 = .ok (.iload 4, 2) := by decide +kernel
theorem dM_172_33 : decode prog_11_method_62_code 33 = .ok (.ifCond .eq 10, 3) := by decide +kernel
theorem dM_172_36 : decode prog_11_method_62_code 36 = .ok (.aload_n 0, 1) := by decide +kernel
theorem dM_172_37 : decode prog_11_method_62_code 37 = .ok (.iload 4, 2) := by decide +kernel
theorem dM_172_39 : decode prog_11_method_62_code 39 = .ok (.invokevirtual 247, 3) := by decide +kernel
theorem dM_172_42 : decode prog_11_method_62_code 42 = .ok (.ireturn, 1) := by decide +kernel
theorem dM_172_43 : decode prog_11_method_62_code 43 = .ok (.aload_n 0, 1) := by decide +kernel
theorem dM_172_44 : decode prog_11_method_62_code 44 = .ok (.iload_n 1, 1) := by decide +kernel
theorem dM_172_45 : decode prog_11_method_62_code 45 = .ok (.iload_n 2, 1) := by decide +kernel
theorem dM_172_46 : decode prog_11_method_62_code 46 = .ok (.invokevirtual 340, 3) := by decide +kernel
theorem dM_172_49 : decode prog_11_method_62_code 49 = .ok (.iload_n 3, 1) := by decide +kernel
theorem dM_172_50 : decode prog_11_method_62_code 50 = .ok (.aload_n 0, 1) := by decide +kernel
theorem dM_172_51 : decode prog_11_method_62_code 51 = .ok (.getfield 313, 3) := by decide +kernel
theorem dM_172_54 : decode prog_11_method_62_code 54 = .ok (.if_icmp .ge 12, 3) := by decide +kernel
theorem dM_172_57 : decode prog_11_method_62_code 57 = .ok (.aload_n 0, 1) := by decide +kernel
theorem dM_172_58 : decode prog_11_method_62_code 58 = .ok (.getfield 100, 3) := by decide +kernel
theorem dM_172_61 : decode prog_11_method_62_code 61 = .ok (.iload_n 3, 1) := by decide +kernel
theorem dM_172_62 : decode prog_11_method_62_code 62 = .ok (.iaload, 1) := by decide +kernel
theorem dM_172_63 : decode prog_11_method_62_code 63 = .ok (.goto 5, 3) := by decide +kernel
theorem dM_172_66 : decode prog_11_method_62_code 66 = .ok (.bipush (-9), 2) := by decide +kernel
theorem dM_172_68 : decode prog_11_method_62_code 68 = .ok (.ireturn, 1) := by decide +kernel
theorem dM_173_0 : decode prog_11_method_63_code 0 = .ok (.aload_n 0, 1) := by decide +kernel
theorem dM_173_1 : decode prog_11_method_63_code 1 = .ok (.iload_n 1, 1) := by decide +kernel
theorem dM_173_2 : decode prog_11_method_63_code 2 = .ok (.invokevirtual 334, 3) := by decide +kernel
theorem dM_173_5 : decode prog_11_method_63_code 5 = .ok (.ifCond .eq 12, 3) := by decide +kernel
theorem dM_173_8 : decode prog_11_method_63_code 8 = .ok (.aload_n 0, 1) := by decide +kernel
theorem dM_173_9 : decode prog_11_method_63_code 9 = .ok (.getfield 64, 3) := by decide +kernel
theorem dM_173_12 : decode prog_11_method_63_code 12 = .ok (.iload_n 1, 1) := by decide +kernel
theorem dM_173_13 : decode prog_11_method_63_code 13 = .ok (.iaload, 1) := by decide +kernel
theorem dM_173_14 : decode prog_11_method_63_code 14 = .ok (.goto 8, 3) := by decide +kernel
theorem dM_173_17 : decode prog_11_method_63_code 17 = .ok (.aload_n 0, 1) := by decide +kernel
theorem dM_173_18 : decode prog_11_method_63_code 18 = .ok (.iconst (-1), 1) := by decide +kernel
theorem dM_173_19 : decode prog_11_method_63_code 19 = .ok (.invokevirtual 247, 3) := by decide +kernel
theorem dM_173_22 : decode prog_11_method_63_code 22 = .ok (.ireturn, 1) := by decide +kernel
theorem dM_174_0 : decode prog_11_method_64_code 0 = .ok (.aload_n 0, 1) := by decide +kernel
theorem dM_174_1 : decode prog_11_method_64_code 1 = .ok (.iload_n 1, 1) := by decide +kernel
theorem dM_174_2 : decode prog_11_method_64_code 2 = .ok (.invokevirtual 334, 3) := by decide +kernel
theorem dM_174_5 : decode prog_11_method_64_code 5 = .ok (.ifCond .eq 12, 3) := by decide +kernel
theorem dM_174_8 : decode prog_11_method_64_code 8 = .ok (.aload_n 0, 1) := by decide +kernel
theorem dM_174_9 : decode prog_11_method_64_code 9 = .ok (.getfield 67, 3) := by decide +kernel
theorem dM_174_12 : decode prog_11_method_64_code 12 = .ok (.iload_n 1, 1) := by decide +kernel
theorem dM_174_13 : decode prog_11_method_64_code 13 = .ok (.iaload, 1) := by decide +kernel
theorem dM_174_14 : decode prog_11_method_64_code 14 = .ok (.goto 8, 3) := by decide +kernel
theorem dM_174_17 : decode prog_11_method_64_code 17 = .ok (.aload_n 0, 1) := by decide +kernel
theorem dM_174_18 : decode prog_11_method_64_code 18 = .ok (.iconst (-1), 1) := by decide +kernel
theorem dM_174_19 : decode prog_11_method_64_code 19 = .ok (.invokevirtual 247, 3) := by decide +kernel
theorem dM_174_22 : decode prog_11_method_64_code 22 = .ok (.ireturn, 1) := by decide +kernel
theorem dM_175_0 : decode prog_11_method_65_code 0 = .ok (.aload_n 0, 1) := by decide +kernel
theorem dM_175_1 : decode prog_11_method_65_code 1 = .ok (.iconst 0, 1) := by decide +kernel
theorem dM_175_2 : decode prog_11_method_65_code 2 = .ok (.invokevirtual 179, 3) := by decide +kernel
theorem dM_175_5 : decode prog_11_method_65_code 5 = .ok (.istore_n 2, 1) := by decide +kernel
theorem dM_175_6 : decode prog_11_method_65_code 6 = .ok (.iload_n 1, 1) := by decide +kernel
theorem dM_175_7 : decode prog_11_method_65_code 7 = .ok (.tableswitch 129 0 5 #[37, 44, 51, 58, 83, 108], 37) := by decide +kernel
theorem dM_175_44 : decode prog_11_method_65_code 44 = .ok (.aload_n 0, 1) := by decide +kernel
theorem dM_175_45 : decode prog_11_method_65_code 45 = .ok (.getfield 73, 3) := by decide +kernel
theorem dM_175_48 : decode prog_11_method_65_code 48 = .ok (.iconst 0, 1) := by decide +kernel
theorem dM_175_49 : decode prog_11_method_65_code 49 = .ok (.iaload, 1) := by decide +kernel
theorem dM_175_50 : decode prog_11_method_65_code 50 = .ok (.ireturn, 1) := by decide +kernel
theorem dM_175_51 : decode prog_11_method_65_code 51 = .ok (.aload_n 0, 1) := by decide +kernel
theorem dM_175_52 : decode prog_11_method_65_code 52 = .ok (.getfield 82, 3) := by decide +kernel
theorem dM_175_55 : decode prog_11_method_65_code 55 = .ok (.iconst 0, 1) := by decide +kernel
theorem dM_175_56 : decode prog_11_method_65_code 56 = .ok (.iaload, 1) := by decide +kernel
theorem dM_175_57 : decode prog_11_method_65_code 57 = .ok (.ireturn, 1) := by decide +kernel
theorem dM_175_58 : decode prog_11_method_65_code 58 = .ok (.aload_n 0, 1) := by decide +kernel
theorem dM_175_59 : decode prog_11_method_65_code 59 = .ok (.getfield 85, 3) := by decide +kernel
theorem dM_175_62 : decode prog_11_method_65_code 62 = .ok (.iconst 0, 1) := by decide +kernel
theorem dM_175_63 : decode prog_11_method_65_code 63 = .ok (.iaload, 1) := by decide +kernel
theorem dM_175_64 : decode prog_11_method_65_code 64 = .ok (.ireturn, 1) := by decide +kernel
theorem dM_175_65 : decode prog_11_method_65_code 65 = .ok (.aload_n 0, 1) := by decide +kernel
theorem dM_175_66 : decode prog_11_method_65_code 66 = .ok (.getfield 73, 3) := by decide +kernel
theorem dM_175_69 : decode prog_11_method_65_code 69 = .ok (.iconst 0, 1) := by decide +kernel
theorem dM_175_70 : decode prog_11_method_65_code 70 = .ok (.iaload, 1) := by decide +kernel
theorem dM_175_71 : decode prog_11_method_65_code 71 = .ok (.ifCond .ne 8, 3) := by decide +kernel
theorem dM_175_74 : decode prog_11_method_65_code 74 = .ok (.bipush (-9), 2) := by decide +kernel
theorem dM_175_76 : decode prog_11_method_65_code 76 = .ok (.goto 13, 3) := by decide +kernel
theorem dM_175_79 : decode prog_11_method_65_code 79 = .ok (.aload_n 0, 1) := by decide +kernel
theorem dM_175_80 : decode prog_11_method_65_code 80 = .ok (.aload_n 0, 1) := by decide +kernel
theorem dM_175_81 : decode prog_11_method_65_code 81 = .ok (.getfield 52, 3) := by decide +kernel
theorem dM_175_84 : decode prog_11_method_65_code 84 = .ok (.iload_n 2, 1) := by decide +kernel
theorem dM_175_85 : decode prog_11_method_65_code 85 = .ok (.iaload, 1) := by decide +kernel
theorem dM_175_86 : decode prog_11_method_65_code 86 = .ok (.invokevirtual 233, 3) := by decide +kernel
theorem dM_175_89 : decode prog_11_method_65_code 89 = .ok (.ireturn, 1) := by decide +kernel
theorem dM_175_90 : decode prog_11_method_65_code 90 = .ok (.aload_n 0, 1) := by decide +kernel
theorem dM_175_91 : decode prog_11_method_65_code 91 = .ok (.getfield 73, 3) := by decide +kernel
theorem dM_175_94 : decode prog_11_method_65_code 94 = .ok (.iconst 0, 1) := by decide +kernel
theorem dM_175_95 : decode prog_11_method_65_code 95 = .ok (.iaload, 1) := by decide +kernel
theorem dM_175_96 : decode prog_11_method_65_code 96 = .ok (.ifCond .ne 8, 3) := by decide +kernel
theorem dM_175_99 : decode prog_11_method_65_code 99 = .ok (.bipush (-9), 2) := by decide +kernel
theorem dM_175_101 : decode prog_11_method_65_code 101 = .ok (.goto 13, 3) := by decide +kernel
theorem dM_175_104 : decode prog_11_method_65_code 104 = .ok (.aload_n 0, 1) := by decide +kernel
theorem dM_175_105 : decode prog_11_method_65_code 105 = .ok (.aload_n 0, 1) := by decide +kernel
theorem dM_175_106 : decode prog_11_method_65_code 106 = .ok (.getfield 55, 3) := by decide +kernel
theorem dM_175_109 : decode prog_11_method_65_code 109 = .ok (.iload_n 2, 1) := by decide +kernel
theorem dM_175_110 : decode prog_11_method_65_code 110 = .ok (.iaload, 1) := by decide +kernel
theorem dM_175_111 : decode prog_11_method_65_code 111 = .ok (.invokevirtual 233, 3) := by decide +kernel
theorem dM_175_114 : decode prog_11_method_65_code 114 = .ok (.ireturn, 1) := by decide +kernel
theorem dM_175_115 : decode prog_11_method_65_code 115 = .ok (.aload_n 0, 1) := by decide +kernel
theorem dM_175_116 : decode prog_11_method_65_code 116 = .ok (.getfield 73, 3) := by decide +kernel
theorem dM_175_119 : decode prog_11_method_65_code 119 = .ok (.iconst 0, 1) := by decide +kernel
theorem dM_175_120 : decode prog_11_method_65_code 120 = .ok (.iaload, 1) := by decide +kernel
theorem dM_175_121 : decode prog_11_method_65_code 121 = .ok (.ifCond .ne 8, 3) := by decide +kernel
theorem dM_175_124 : decode prog_11_method_65_code 124 = .ok (.bipush (-9), 2) := by decide +kernel
theorem dM_175_126 : decode prog_11_method_65_code 126 = .ok (.goto 9, 3) := by decide +kernel
theorem dM_175_129 : decode prog_11_method_65_code 129 = .ok (.aload_n 0, 1) := by decide +kernel
theorem dM_175_130 : decode prog_11_method_65_code 130 = .ok (.getfield 58, 3) := by decide +kernel
theorem dM_175_133 : decode prog_11_method_65_code 133 = .ok (.iload_n 2, 1) := by decide +kernel
theorem dM_175_134 : decode prog_11_method_65_code 134 = .ok (.iaload, 1) := by decide +kernel
theorem dM_175_135 : decode prog_11_method_65_code 135 = .ok (.ireturn, 1) := by decide +kernel
theorem dM_175_136 : decode prog_11_method_65_code 136 = .ok (.aload_n 0, 1) := by decide +kernel
theorem dM_175_137 : decode prog_11_method_65_code 137 = .ok (.bipush (-2), 2) := by decide +kernel
theorem dM_175_139 : decode prog_11_method_65_code 139 = .ok (.invokevirtual 247, 3) := by decide +kernel
theorem dM_175_142 : decode prog_11_method_65_code 142 = .ok (.ireturn, 1) := by decide +kernel
theorem dM_176_0 : decode prog_11_method_66_code 0 = .ok (.aload_n 0, 1) := by decide +kernel
theorem dM_176_1 : decode prog_11_method_66_code 1 = .ok (.invokevirtual 294, 3) := by decide +kernel
theorem dM_176_4 : decode prog_11_method_66_code 4 = .ok (.ifCond .eq 7, 3) := by decide +kernel
theorem dM_176_7 : decode prog_11_method_66_code 7 = .ok (.iconst 1, 1) := by decide +kernel
theorem dM_176_8 : decode prog_11_method_66_code 8 = .ok (.goto 4, 3) := by decide +kernel
theorem dM_176_11 : decode prog_11_method_66_code 11 = .ok (.iconst 0, 1) := by decide +kernel
theorem dM_176_12 : decode prog_11_method_66_code 12 = .ok (.ireturn, 1) := by decide +kernel
theorem dM_177_0 : decode prog_11_method_69_code 0 = .ok (.iload_n 1, 1) := by decide +kernel
theorem dM_177_1 : decode prog_11_method_69_code 1 = .ok (.invokestatic 337, 3) := by decide +kernel
theorem dM_177_4 : decode prog_11_method_69_code 4 = .ok (.ifCond .ne 9, 3) := by decide +kernel
theorem dM_177_7 : decode prog_11_method_69_code 7 = .ok (.aload_n 0, 1) := by decide +kernel
theorem dM_177_8 : decode prog_11_method_69_code 8 = .ok (.iconst (-1), 1) := by decide +kernel
theorem dM_177_9 : decode prog_11_method_69_code 9 = .ok (.invokevirtual 247, 3) := by decide +kernel
theorem dM_177_12 : decode prog_11_method_69_code 12 = .ok (.ireturn, 1) := by decide +kernel
theorem dM_177_13 : decode prog_11_method_69_code 13 = .ok (.iconst 0, 1) := by decide +kernel
theorem dM_177_14 : decode prog_11_method_69_code 14 = .ok (.istore_n 2, 1) := by decide +kernel
theorem dM_177_15 : decode prog_11_method_69_code 15 = .ok (.iconst 0, 1) := by decide +kernel
theorem dM_177_16 : decode prog_11_method_69_code 16 = .ok (.istore_n 3, 1) := by decide +kernel
theorem dM_177_17 : decode prog_11_method_69_code 17 = .ok (.iload_n 3, 1) := by decide +kernel
theorem dM_177_18 : decode prog_11_method_69_code 18 = .ok (.aload_n 0, 1) := by decide +kernel
theorem dM_177_19 : decode prog_11_method_69_code 19 = .ok (.getfield 76, 3) := by decide +kernel
theorem dM_177_22 : decode prog_11_method_69_code 22 = .ok (.iconst 0, 1) := by decide +kernel
theorem dM_177_23 : decode prog_11_method_69_code 23 = .ok (.iaload, 1) := by decide +kernel
theorem dM_177_24 : decode prog_11_method_69_code 24 = .ok (.if_icmp .ge 27, 3) := by decide +kernel
theorem dM_177_27 : decode prog_11_method_69_code 27 = .ok (.iload_n 2, 1) := by decide +kernel
theorem dM_177_28 : decode prog_11_method_69_code 28 = .ok (.aload_n 0, 1) := by decide +kernel
theorem dM_177_29 : decode prog_11_method_69_code 29 = .ok (.iload_n 3, 1) := by decide +kernel
theorem dM_177_30 : decode prog_11_method_69_code 30 = .ok (.iload_n 1, 1) := by decide +kernel
theorem dM_177_31 : decode prog_11_method_69_code 31 = .ok (.invokevirtual 346, 3) := by decide +kernel
theorem dM_177_34 : decode prog_11_method_69_code 34 = .ok (.iload_n 3, 1) := by decide +kernel
theorem dM_177_35 : decode prog_11_method_69_code 35 = .ok (.if_icmp .ne 7, 3) := by decide +kernel
theorem dM_177_38 : decode prog_11_method_69_code 38 = .ok (.iconst 1, 1) := by decide +kernel
theorem dM_177_39 : decode prog_11_method_69_code 39 = .ok (.goto 4, 3) := by decide +kernel
theorem dM_177_42 : decode prog_11_method_69_code 42 = .ok (.iconst 0, 1) := by decide +kernel
theorem dM_177_43 : decode prog_11_method_69_code 43 = .ok (.iadd, 1) := by decide +kernel
theorem dM_177_44 : decode prog_11_method_69_code 44 = .ok (.istore_n 2, 1) := by decide +kernel
theorem dM_177_45 : decode prog_11_method_69_code 45 = .ok (.iinc 3 1, 3) := by decide +kernel
theorem dM_177_48 : decode prog_11_method_69_code 48 = .ok (.goto (-31), 3) := by decide +kernel
theorem dM_177_51 : decode prog_11_method_69_code 51 = .ok (.iload_n 2, 1) := by decide +kernel
theorem dM_177_52 : decode prog_11_method_69_code 52 = .ok (.ireturn, 1) := by decide +kernel
theorem dM_178_0 : decode prog_11_method_68_code 0 = .ok (.aload_n 0, 1) := by decide +kernel
theorem dM_178_1 : decode prog_11_method_68_code 1 = .ok (.iload_n 1, 1) := by decide +kernel
theorem dM_178_2 : decode prog_11_method_68_code 2 = .ok (.iload_n 2, 1) := by decide +kernel
theorem dM_178_3 : decode prog_11_method_68_code 3 = .ok (.invokevirtual 340, 3) := by decide +kernel
theorem dM_178_6 : decode prog_11_method_68_code 6 = .ok (.aload_n 0, 1) := by decide +kernel
theorem dM_178_7 : decode prog_11_method_68_code 7 = .ok (.getfield 313, 3) := by decide +kernel
theorem dM_178_10 : decode prog_11_method_68_code 10 = .ok (.istore_n 3, 1) := by decide +kernel
theorem dM_178_11 : decode prog_11_method_68_code 11 = .ok (.iconst 0, 1) := by decide +kernel
theorem dM_178_12 : decode prog_11_method_68_code 12 = .ok (.istore 4, 2) := by decide +kernel
theorem dM_178_14 : decode prog_11_method_68_code 14 = .ok (.iload 4, 2) := by decide +kernel
theorem dM_178_16 : decode prog_11_method_68_code 16 = .ok (.iload_n 3, 1) := by decide +kernel
theorem dM_178_17 : decode prog_11_method_68_code 17 = .ok (.if_icmp .ge 23, 3) := by decide +kernel
theorem dM_178_20 : decode prog_11_method_68_code 20 = .ok (.aload_n 0, 1) := by decide +kernel
theorem dM_178_21 : decode prog_11_method_68_code 21 = .ok (.getfield 106, 3) := by decide +kernel
theorem dM_178_24 : decode prog_11_method_68_code 24 = .ok (.iload 4, 2) := by decide +kernel
theorem dM_178_26 : decode prog_11_method_68_code 26 = .ok (.aload_n 0, 1) := by decide +kernel
theorem dM_178_27 : decode prog_11_method_68_code 27 = .ok (.getfield 100, 3) := by decide +kernel
theorem dM_178_30 : decode prog_11_method_68_code 30 = .ok (.iload 4, 2) := by decide +kernel
theorem dM_178_32 : decode prog_11_method_68_code 32 = .ok (.iaload, 1) := by decide +kernel
theorem dM_178_33 : decode prog_11_method_68_code 33 = .ok (.iastore, 1) := by decide +kernel
theorem dM_178_34 : decode prog_11_method_68_code 34 = .ok (.iinc 4 1, 3) := by decide +kernel
theorem dM_178_37 : decode prog_11_method_68_code 37 = .ok (.goto (-23), 3) := by decide +kernel
theorem dM_178_40 : decode prog_11_method_68_code 40 = .ok (.iconst 0, 1) := by decide +kernel
theorem dM_178_41 : decode prog_11_method_68_code 41 = .ok (.istore 4, 2) := by decide +kernel
theorem dM_178_43 : decode prog_11_method_68_code 43 = .ok (.aload_n 0, 1) := by decide +kernel
theorem dM_178_44 : decode prog_11_method_68_code 44 = .ok (.iload 4, 2) := by decide +kernel
theorem dM_178_46 : decode prog_11_method_68_code 46 = .ok (.iload_n 2, 1) := by decide +kernel
theorem dM_178_47 : decode prog_11_method_68_code 47 = .ok (.iload_n 3, 1) := by decide +kernel
theorem dM_178_48 : decode prog_11_method_68_code 48 = .ok (.invokevirtual 343, 3) := by decide +kernel
theorem dM_178_51 : decode prog_11_method_68_code 51 = .ok (.ifCond .ne 9, 3) := by decide +kernel
theorem dM_178_54 : decode prog_11_method_68_code 54 = .ok (.iinc 4 1, 3) := by decide +kernel
theorem dM_178_57 : decode prog_11_method_68_code 57 = .ok (.goto (-14), 3) := by decide +kernel
theorem dM_178_60 : decode prog_11_method_68_code 60 = .ok (.iload 4, 2) := by decide +kernel
theorem dM_178_62 : decode prog_11_method_68_code 62 = .ok (.ireturn, 1) := by decide +kernel
theorem dM_179_0 : decode prog_11_method_67_code 0 = .ok (.aload_n 0, 1) := by decide +kernel
theorem dM_179_1 : decode prog_11_method_67_code 1 = .ok (.iload_n 1, 1) := by decide +kernel
theorem dM_179_2 : decode prog_11_method_67_code 2 = .ok (.iload_n 2, 1) := by decide +kernel
theorem dM_179_3 : decode prog_11_method_67_code 3 = .ok (.invokevirtual 340, 3) := by decide +kernel
theorem dM_179_6 : decode prog_11_method_67_code 6 = .ok (.aload_n 0, 1) := by decide +kernel
theorem dM_179_7 : decode prog_11_method_67_code 7 = .ok (.getfield 313, 3) := by decide +kernel
theorem dM_179_10 : decode prog_11_method_67_code 10 = .ok (.iload_n 3, 1) := by decide +kernel
theorem dM_179_11 : decode prog_11_method_67_code 11 = .ok (.if_icmp .ne 7, 3) := by decide +kernel
theorem dM_179_14 : decode prog_11_method_67_code 14 = .ok (.iconst 1, 1) := by decide +kernel
theorem dM_179_15 : decode prog_11_method_67_code 15 = .ok (.goto 4, 3) := by decide +kernel
theorem dM_179_18 : decode prog_11_method_67_code 18 = .ok (.iconst 0, 1) := by decide +kernel
theorem dM_179_19 : decode prog_11_method_67_code 19 = .ok (.istore 4, 2) := by decide +kernel
theorem dM_179_21 : decode prog_11_method_67_code 21 = .ok (.iconst 0, 1) := by decide +kernel
theorem dM_179_22 : decode prog_11_method_67_code 22 = .ok (.istore 5, 2) := by decide +kernel
theorem dM_179_24 : decode prog_11_method_67_code 24 = .ok (.iload 5, 2) := by decide +kernel
theorem dM_179_26 : decode prog_11_method_67_code 26 = .ok (.iload_n 3, 1) := by decide +kernel
theorem dM_179_27 : decode prog_11_method_67_code 27 = .ok (.if_icmp .ge 38, 3) := by decide +kernel
theorem dM_179_30 : decode prog_11_method_67_code 30 = .ok (.iload 4, 2) := by decide +kernel
theorem dM_179_32 : decode prog_11_method_67_code 32 = .ok (.ifCond .eq 33, 3) := by decide +kernel
theorem dM_179_35 : decode prog_11_method_67_code 35 = .ok (.aload_n 0, 1) := by decide +kernel
theorem dM_179_36 : decode prog_11_method_67_code 36 = .ok (.getfield 100, 3) := by decide +kernel
theorem dM_179_39 : decode prog_11_method_67_code 39 = .ok (.iload 5, 2) := by decide +kernel
theorem dM_179_41 : decode prog_11_method_67_code 41 = .ok (.iaload, 1) := by decide +kernel
theorem dM_179_42 : decode prog_11_method_67_code 42 = .ok (.aload_n 0, 1) := by decide +kernel
theorem dM_179_43 : decode prog_11_method_67_code 43 = .ok (.getfield 106, 3) := by decide +kernel
theorem dM_179_46 : decode prog_11_method_67_code 46 = .ok (.iload 5, 2) := by decide +kernel
theorem dM_179_48 : decode prog_11_method_67_code 48 = .ok (.iaload, 1) := by decide +kernel
theorem dM_179_49 : decode prog_11_method_67_code 49 = .ok (.if_icmp .ne 7, 3) := by decide +kernel
theorem dM_179_52 : decode prog_11_method_67_code 52 = .ok (.iconst 1, 1) := by decide +kernel
theorem dM_179_53 : decode prog_11_method_67_code 53 = .ok (.goto 4, 3) := by decide +kernel
theorem dM_179_56 : decode prog_11_method_67_code 56 = .ok (.iconst 0, 1) := by decide +kernel
theorem dM_179_57 : decode prog_11_method_67_code 57 = .ok (.istore 4, 2) := by decide +kernel
theorem dM_179_59 : decode prog_11_method_67_code 59 = .ok (.iinc 5 1, 3) := by decide +kernel
theorem dM_179_62 : decode prog_11_method_67_code 62 = .ok (.goto (-38), 3) := by decide +kernel
theorem dM_179_65 : decode prog_11_method_67_code 65 = .ok (.iload 4, 2) := by decide +kernel
theorem dM_179_67 : decode prog_11_method_67_code 67 = .ok (.ireturn, 1) := by decide +kernel
theorem dM_180_0 : decode prog_11_method_70_code 0 = .ok (.aload_n 0, 1) := by decide +kernel
theorem dM_180_1 : decode prog_11_method_70_code 1 = .ok (.iload_n 1, 1) := by decide +kernel
theorem dM_180_2 : decode prog_11_method_70_code 2 = .ok (.invokevirtual 334, 3) := by decide +kernel
theorem dM_180_5 : decode prog_11_method_70_code 5 = .ok (.ifCond .eq 19, 3) := by decide +kernel
theorem dM_180_8 : decode prog_11_method_70_code 8 = .ok (.iload_n 2, 1) := by decide +kernel
theorem dM_180_9 : decode prog_11_method_70_code 9 = .ok (.invokestatic 337, 3) := by decide +kernel
theorem dM_180_12 : decode prog_11_method_70_code 12 = .ok (.ifCond .eq 12, 3) := by decide +kernel
theorem dM_180_15 : decode prog_11_method_70_code 15 = .ok (.aload_n 0, 1) := by decide +kernel
theorem dM_180_16 : decode prog_11_method_70_code 16 = .ok (.iload_n 1, 1) := by decide +kernel
theorem dM_180_17 : decode prog_11_method_70_code 17 = .ok (.iload_n 2, 1) := by decide +kernel
theorem dM_180_18 : decode prog_11_method_70_code 18 = .ok (.invokevirtual 346, 3) := by decide +kernel
theorem dM_180_21 : decode prog_11_method_70_code 21 = .ok (.goto 8, 3) := by decide +kernel
theorem dM_180_24 : decode prog_11_method_70_code 24 = .ok (.aload_n 0, 1) := by decide +kernel
theorem dM_180_25 : decode prog_11_method_70_code 25 = .ok (.iconst (-1), 1) := by decide +kernel
theorem dM_180_26 : decode prog_11_method_70_code 26 = .ok (.invokevirtual 247, 3) := by decide +kernel
theorem dM_180_29 : decode prog_11_method_70_code 29 = .ok (.ireturn, 1) := by decide +kernel
theorem dM_181_0 : decode prog_11_method_71_code 0 = .ok (.aload_n 0, 1) := by decide +kernel
theorem dM_181_1 : decode prog_11_method_71_code 1 = .ok (.iload_n 1, 1) := by decide +kernel
theorem dM_181_2 : decode prog_11_method_71_code 2 = .ok (.invokevirtual 334, 3) := by decide +kernel
theorem dM_181_5 : decode prog_11_method_71_code 5 = .ok (.ifCond .eq 11, 3) := by decide +kernel
theorem dM_181_8 : decode prog_11_method_71_code 8 = .ok (.aload_n 0, 1) := by decide +kernel
theorem dM_181_9 : decode prog_11_method_71_code 9 = .ok (.iload_n 2, 1) := by decide +kernel
theorem dM_181_10 : decode prog_11_method_71_code 10 = .ok (.invokevirtual 334, 3) := by decide +kernel
theorem dM_181_13 : decode prog_11_method_71_code 13 = .ok (.ifCond .ne 9, 3) := by decide +kernel
theorem dM_181_16 : decode prog_11_method_71_code 16 = .ok (.aload_n 0, 1) := by decide +kernel
theorem dM_181_17 : decode prog_11_method_71_code 17 = .ok (.iconst (-1), 1) := by decide +kernel
theorem dM_181_18 : decode prog_11_method_71_code 18 = .ok (.invokevirtual 247, 3) := by decide +kernel
theorem dM_181_21 : decode prog_11_method_71_code 21 = .ok (.ireturn, 1) := by decide +kernel
theorem dM_181_22 : decode prog_11_method_71_code 22 = .ok (.aload_n 0, 1) := by decide +kernel
theorem dM_181_23 : decode prog_11_method_71_code 23 = .ok (.iload_n 1, 1) := by decide +kernel
theorem dM_181_24 : decode prog_11_method_71_code 24 = .ok (.invokevirtual 328, 3) := by decide +kernel
theorem dM_181_27 : decode prog_11_method_71_code 27 = .ok (.iconst 0, 1) := by decide +kernel
theorem dM_181_28 : decode prog_11_method_71_code 28 = .ok (.istore_n 3, 1) := by decide +kernel
theorem dM_181_29 : decode prog_11_method_71_code 29 = .ok (.iload_n 3, 1) := by decide +kernel
theorem dM_181_30 : decode prog_11_method_71_code 30 = .ok (.bipush 64, 2) := by decide +kernel
theorem dM_181_32 : decode prog_11_method_71_code 32 = .ok (.if_icmp .ge 50, 3) := by decide +kernel
theorem dM_181_35 : decode prog_11_method_71_code 35 = .ok (.aload_n 0, 1) := by decide +kernel
theorem dM_181_36 : decode prog_11_method_71_code 36 = .ok (.getfield 40, 3) := by decide +kernel
theorem dM_181_39 : decode prog_11_method_71_code 39 = .ok (.bipush 64, 2) := by decide +kernel
theorem dM_181_41 : decode prog_11_method_71_code 41 = .ok (.iload_n 3, 1) := by decide +kernel
theorem dM_181_42 : decode prog_11_method_71_code 42 = .ok (.iadd, 1) := by decide +kernel
theorem dM_181_43 : decode prog_11_method_71_code 43 = .ok (.aload_n 0, 1) := by decide +kernel
theorem dM_181_44 : decode prog_11_method_71_code 44 = .ok (.getfield 61, 3) := by decide +kernel
theorem dM_181_47 : decode prog_11_method_71_code 47 = .ok (.bipush 64, 2) := by decide +kernel
theorem dM_181_49 : decode prog_11_method_71_code 49 = .ok (.iload_n 2, 1) := by decide +kernel
theorem dM_181_50 : decode prog_11_method_71_code 50 = .ok (.imul, 1) := by decide +kernel
theorem dM_181_51 : decode prog_11_method_71_code 51 = .ok (.iload_n 3, 1) := by decide +kernel
theorem dM_181_52 : decode prog_11_method_71_code 52 = .ok (.iadd, 1) := by decide +kernel
theorem dM_181_53 : decode prog_11_method_71_code 53 = .ok (.iaload, 1) := by decide +kernel
theorem dM_181_54 : decode prog_11_method_71_code 54 = .ok (.ifCond .ge 8, 3) := by decide +kernel
theorem dM_181_57 : decode prog_11_method_71_code 57 = .ok (.bipush (-9), 2) := by decide +kernel
theorem dM_181_59 : decode prog_11_method_71_code 59 = .ok (.goto 16, 3) := by decide +kernel
theorem dM_181_62 : decode prog_11_method_71_code 62 = .ok (.aload_n 0, 1) := by decide +kernel
theorem dM_181_63 : decode prog_11_method_71_code 63 = .ok (.getfield 61, 3) := by decide +kernel
theorem dM_181_66 : decode prog_11_method_71_code 66 = .ok (.bipush 64, 2) := by decide +kernel
theorem dM_181_68 : decode prog_11_method_71_code 68 = .ok (.iload_n 2, 1) := by decide +kernel
theorem dM_181_69 : decode prog_11_method_71_code 69 = .ok (.imul, 1) := by decide +kernel
theorem dM_181_70 : decode prog_11_method_71_code 70 = .ok (.iload_n 3, 1) := by decide +kernel
theorem dM_181_71 : decode prog_11_method_71_code 71 = .ok (.iadd, 1) := by decide +kernel
theorem dM_181_72 : decode prog_11_method_71_code 72 = .ok (.iaload, 1) := by decide +kernel
theorem dM_181_73 : decode prog_11_method_71_code 73 = .ok (.iconst 1, 1) := by decide +kernel
theorem dM_181_74 : decode prog_11_method_71_code 74 = .ok (.iadd, 1) := by decide +kernel
theorem dM_181_75 : decode prog_11_method_71_code 75 = .ok (.iastore, 1) := by decide +kernel
theorem dM_181_76 : decode prog_11_method_71_code 76 = .ok (.iinc 3 1, 3) := by decide +kernel
theorem dM_181_79 : decode prog_11_method_71_code 79 = .ok (.goto (-50), 3) := by decide +kernel
theorem dM_181_82 : decode prog_11_method_71_code 82 = .ok (.iconst 1, 1) := by decide +kernel
theorem dM_181_83 : decode prog_11_method_71_code 83 = .ok (.istore_n 3, 1) := by decide +kernel
theorem dM_181_84 : decode prog_11_method_71_code 84 = .ok (.iconst 0, 1) := by decide +kernel
theorem dM_181_85 : decode prog_11_method_71_code 85 = .ok (.istore 4, 2) := by decide +kernel
theorem dM_181_87 : decode prog_11_method_71_code 87 = .ok (.iload 4, 2) := by decide +kernel
theorem dM_181_89 : decode prog_11_method_71_code 89 = .ok (.bipush 6, 2) := by decide +kernel
theorem dM_181_91 : decode prog_11_method_71_code 91 = .ok (.if_icmp .ge 28, 3) := by decide +kernel
theorem dM_181_94 : decode prog_11_method_71_code 94 = .ok (.iload_n 3, 1) := by decide +kernel
theorem dM_181_95 : decode prog_11_method_71_code 95 = .ok (.ifCond .eq 24, 3) := by decide +kernel
theorem dM_181_98 : decode prog_11_method_71_code 98 = .ok (.aload_n 0, 1) := by decide +kernel
theorem dM_181_99 : decode prog_11_method_71_code 99 = .ok (.iconst 2, 1) := by decide +kernel
theorem dM_181_100 : decode prog_11_method_71_code 100 = .ok (.iload 4, 2) := by decide +kernel
theorem dM_181_102 : decode prog_11_method_71_code 102 = .ok (.imul, 1) := by decide +kernel
theorem dM_181_103 : decode prog_11_method_71_code 103 = .ok (.iconst 2, 1) := by decide +kernel
theorem dM_181_104 : decode prog_11_method_71_code 104 = .ok (.iload 4, 2) := by decide +kernel
theorem dM_181_106 : decode prog_11_method_71_code 106 = .ok (.imul, 1) := by decide +kernel
theorem dM_181_107 : decode prog_11_method_71_code 107 = .ok (.iconst 1, 1) := by decide +kernel
theorem dM_181_108 : decode prog_11_method_71_code 108 = .ok (.iadd, 1) := by decide +kernel
theorem dM_181_109 : decode prog_11_method_71_code 109 = .ok (.invokevirtual 189, 3) := by decide +kernel
theorem dM_181_112 : decode prog_11_method_71_code 112 = .ok (.istore_n 3, 1) := by decide +kernel
theorem dM_181_113 : decode prog_11_method_71_code 113 = .ok (.iinc 4 1, 3) := by decide +kernel
theorem dM_181_116 : decode prog_11_method_71_code 116 = .ok (.goto (-29), 3) := by decide +kernel
theorem dM_181_119 : decode prog_11_method_71_code 119 = .ok (.iload_n 3, 1) := by decide +kernel
theorem dM_181_120 : decode prog_11_method_71_code 120 = .ok (.ifCond .eq 7, 3) := by decide +kernel
theorem dM_181_123 : decode prog_11_method_71_code 123 = .ok (.iconst 1, 1) := by decide +kernel
theorem dM_181_124 : decode prog_11_method_71_code 124 = .ok (.goto 4, 3) := by decide +kernel
theorem dM_181_127 : decode prog_11_method_71_code 127 = .ok (.iconst 0, 1) := by decide +kernel
theorem dM_181_128 : decode prog_11_method_71_code 128 = .ok (.ireturn, 1) := by decide +kernel
theorem dM_182_0 : decode prog_11_method_75_code 0 = .ok (.iload_n 1, 1) := by decide +kernel
theorem dM_182_1 : decode prog_11_method_75_code 1 = .ok (.iconst 1, 1) := by decide +kernel
theorem dM_182_2 : decode prog_11_method_75_code 2 = .ok (.bipush 10, 2) := by decide +kernel
theorem dM_182_4 : decode prog_11_method_75_code 4 = .ok (.invokestatic 242, 3) := by decide +kernel
theorem dM_182_7 : decode prog_11_method_75_code 7 = .ok (.istore_n 2, 1) := by decide +kernel
theorem dM_182_8 : decode prog_11_method_75_code 8 = .ok (.iload_n 2, 1) := by decide +kernel
theorem dM_182_9 : decode prog_11_method_75_code 9 = .ok (.ifCond .eq 9, 3) := by decide +kernel
theorem dM_182_12 : decode prog_11_method_75_code 12 = .ok (.aload_n 0, 1) := by decide +kernel
theorem dM_182_13 : decode prog_11_method_75_code 13 = .ok (.iload_n 2, 1) := by decide +kernel
theorem dM_182_14 : decode prog_11_method_75_code 14 = .ok (.invokevirtual 247, 3) := by decide +kernel
theorem dM_182_17 : decode prog_11_method_75_code 17 = .ok (.ireturn, 1) := by decide +kernel
theorem dM_182_18 : decode prog_11_method_75_code 18 = .ok (.aload_n 0, 1) := by decide +kernel
theorem dM_182_19 : decode prog_11_method_75_code 19 = .ok (.invokevirtual 358, 3) := by decide +kernel
theorem dM_182_22 : decode prog_11_method_75_code 22 = .ok (.aload_n 0, 1) := by decide +kernel
theorem dM_182_23 : decode prog_11_method_75_code 23 = .ok (.iconst 1, 1) := by decide +kernel
theorem dM_182_24 : decode prog_11_method_75_code 24 = .ok (.putfield 164, 3) := by decide +kernel
theorem dM_182_27 : decode prog_11_method_75_code 27 = .ok (.aload_n 0, 1) := by decide +kernel
theorem dM_182_28 : decode prog_11_method_75_code 28 = .ok (.aload_n 0, 1) := by decide +kernel
theorem dM_182_29 : decode prog_11_method_75_code 29 = .ok (.getfield 285, 3) := by decide +kernel
theorem dM_182_32 : decode prog_11_method_75_code 32 = .ok (.invokevirtual 288, 3) := by decide +kernel
theorem dM_182_35 : decode prog_11_method_75_code 35 = .ok (.aload_n 0, 1) := by decide +kernel
theorem dM_182_36 : decode prog_11_method_75_code 36 = .ok (.getfield 76, 3) := by decide +kernel
theorem dM_182_39 : decode prog_11_method_75_code 39 = .ok (.iconst 1, 1) := by decide +kernel
theorem dM_182_40 : decode prog_11_method_75_code 40 = .ok (.iaload, 1) := by decide +kernel
theorem dM_182_41 : decode prog_11_method_75_code 41 = .ok (.iload_n 1, 1) := by decide +kernel
theorem dM_182_42 : decode prog_11_method_75_code 42 = .ok (.if_icmp .ge 29, 3) := by decide +kernel
theorem dM_182_45 : decode prog_11_method_75_code 45 = .ok (.aload_n 0, 1) := by decide +kernel
theorem dM_182_46 : decode prog_11_method_75_code 46 = .ok (.getfield 79, 3) := by decide +kernel
theorem dM_182_49 : decode prog_11_method_75_code 49 = .ok (.iconst 1, 1) := by decide +kernel
theorem dM_182_50 : decode prog_11_method_75_code 50 = .ok (.iaload, 1) := by decide +kernel
theorem dM_182_51 : decode prog_11_method_75_code 51 = .ok (.sipush 300, 3) := by decide +kernel
theorem dM_182_54 : decode prog_11_method_75_code 54 = .ok (.if_icmp .ge 17, 3) := by decide +kernel
theorem dM_182_57 : decode prog_11_method_75_code 57 = .ok (.aload_n 0, 1) := by decide +kernel
theorem dM_182_58 : decode prog_11_method_75_code 58 = .ok (.invokevirtual 294, 3) := by decide +kernel
theorem dM_182_61 : decode prog_11_method_75_code 61 = .ok (.ifCond .ne 10, 3) := by decide +kernel
theorem dM_182_64 : decode prog_11_method_75_code 64 = .ok (.aload_n 0, 1) := by decide +kernel
theorem dM_182_65 : decode prog_11_method_75_code 65 = .ok (.invokevirtual 297, 3) := by decide +kernel
theorem dM_182_68 : decode prog_11_method_75_code 68 = .ok (.goto (-33), 3) := by decide +kernel
theorem dM_182_71 : decode prog_11_method_75_code 71 = .ok (.aload_n 0, 1) := by decide +kernel
theorem dM_182_72 : decode prog_11_method_75_code 72 = .ok (.getfield 76, 3) := by decide +kernel
theorem dM_182_75 : decode prog_11_method_75_code 75 = .ok (.iconst 1, 1) := by decide +kernel
theorem dM_182_76 : decode prog_11_method_75_code 76 = .ok (.iaload, 1) := by decide +kernel
theorem dM_182_77 : decode prog_11_method_75_code 77 = .ok (.iload_n 1, 1) := by decide +kernel
theorem dM_182_78 : decode prog_11_method_75_code 78 = .ok (.if_icmp .lt 12, 3) := by decide +kernel
theorem dM_182_81 : decode prog_11_method_75_code 81 = .ok (.aload_n 0, 1) := by decide +kernel
theorem dM_182_82 : decode prog_11_method_75_code 82 = .ok (.getfield 79, 3) := by decide +kernel
theorem dM_182_85 : decode prog_11_method_75_code 85 = .ok (.iconst 1, 1) := by decide +kernel
theorem dM_182_86 : decode prog_11_method_75_code 86 = .ok (.iaload, 1) := by decide +kernel
theorem dM_182_87 : decode prog_11_method_75_code 87 = .ok (.goto 5, 3) := by decide +kernel
theorem dM_182_90 : decode prog_11_method_75_code 90 = .ok (.bipush (-9), 2) := by decide +kernel
theorem dM_182_92 : decode prog_11_method_75_code 92 = .ok (.istore_n 3, 1) := by decide +kernel
theorem dM_182_93 : decode prog_11_method_75_code 93 = .ok (.aload_n 0, 1) := by decide +kernel
theorem dM_182_94 : decode prog_11_method_75_code 94 = .ok (.invokevirtual 361, 3) := by decide +kernel
theorem dM_182_97 : decode prog_11_method_75_code 97 = .ok (.iload_n 3, 1) := by decide +kernel
theorem dM_182_98 : decode prog_11_method_75_code 98 = .ok (.ireturn, 1) := by decide +kernel
theorem dM_183_0 : decode prog_11_method_72_code 0 = .ok (.aload_n 0, 1) := by decide +kernel
theorem dM_183_1 : decode prog_11_method_72_code 1 = .ok (.aload_n 0, 1) := by decide +kernel
theorem dM_183_2 : decode prog_11_method_72_code 2 = .ok (.getfield 121, 3) := by decide +kernel
theorem dM_183_5 : decode prog_11_method_72_code 5 = .ok (.putfield 349, 3) := by decide +kernel
theorem dM_183_8 : decode prog_11_method_72_code 8 = .ok (.aload_n 0, 1) := by decide +kernel
theorem dM_183_9 : decode prog_11_method_72_code 9 = .ok (.aload_n 0, 1) := by decide +kernel
theorem dM_183_10 : decode prog_11_method_72_code 10 = .ok (.getfield 124, 3) := by decide +kernel
theorem dM_183_13 : decode prog_11_method_72_code 13 = .ok (.putfield 352, 3) := by decide +kernel
theorem dM_183_16 : decode prog_11_method_72_code 16 = .ok (.aload_n 0, 1) := by decide +kernel
theorem dM_183_17 : decode prog_11_method_72_code 17 = .ok (.aload_n 0, 1) := by decide +kernel
theorem dM_183_18 : decode prog_11_method_72_code 18 = .ok (.getfield 127, 3) := by decide +kernel
theorem dM_183_21 : decode prog_11_method_72_code 21 = .ok (.putfield 355, 3) := by decide +kernel
theorem dM_183_24 : decode prog_11_method_72_code 24 = .ok (.return_, 1) := by decide +kernel
theorem dM_184_0 : decode prog_11_method_74_code 0 = .ok (.aload_n 0, 1) := by decide +kernel
theorem dM_184_1 : decode prog_11_method_74_code 1 = .ok (.iconst 0, 1) := by decide +kernel
theorem dM_184_2 : decode prog_11_method_74_code 2 = .ok (.putfield 164, 3) := by decide +kernel
theorem dM_184_5 : decode prog_11_method_74_code 5 = .ok (.aload_n 0, 1) := by decide +kernel
theorem dM_184_6 : decode prog_11_method_74_code 6 = .ok (.aload_n 0, 1) := by decide +kernel
theorem dM_184_7 : decode prog_11_method_74_code 7 = .ok (.getfield 349, 3) := by decide +kernel
theorem dM_184_10 : decode prog_11_method_74_code 10 = .ok (.putfield 121, 3) := by decide +kernel
theorem dM_184_13 : decode prog_11_method_74_code 13 = .ok (.aload_n 0, 1) := by decide +kernel
theorem dM_184_14 : decode prog_11_method_74_code 14 = .ok (.aload_n 0, 1) := by decide +kernel
theorem dM_184_15 : decode prog_11_method_74_code 15 = .ok (.getfield 352, 3) := by decide +kernel
theorem dM_184_18 : decode prog_11_method_74_code 18 = .ok (.putfield 124, 3) := by decide +kernel
theorem dM_184_21 : decode prog_11_method_74_code 21 = .ok (.aload_n 0, 1) := by decide +kernel
theorem dM_184_22 : decode prog_11_method_74_code 22 = .ok (.aload_n 0, 1) := by decide +kernel
theorem dM_184_23 : decode prog_11_method_74_code 23 = .ok (.getfield 355, 3) := by decide +kernel
theorem dM_184_26 : decode prog_11_method_74_code 26 = .ok (.putfield 127, 3) := by decide +kernel
theorem dM_184_29 : decode prog_11_method_74_code 29 = .ok (.return_, 1) := by decide +kernel
theorem dM_185_0 : decode prog_11_method_78_code 0 = .ok (.iload_n 1, 1) := by decide +kernel
theorem dM_185_1 : decode prog_11_method_78_code 1 = .ok (.invokestatic 337, 3) := by decide +kernel
theorem dM_185_4 : decode prog_11_method_78_code 4 = .ok (.ifCond .ne 7, 3) := by decide +kernel
theorem dM_185_7 : decode prog_11_method_78_code 7 = .ok (.iconst (-1), 1) := by decide +kernel
theorem dM_185_8 : decode prog_11_method_78_code 8 = .ok (.goto 10, 3) := by decide +kernel
theorem dM_185_11 : decode prog_11_method_78_code 11 = .ok (.iload_n 2, 1) := by decide +kernel
theorem dM_185_12 : decode prog_11_method_78_code 12 = .ok (.iconst 0, 1) := by decide +kernel
theorem dM_185_13 : decode prog_11_method_78_code 13 = .ok (.bipush 9, 2) := by decide +kernel
theorem dM_185_15 : decode prog_11_method_78_code 15 = .ok (.invokestatic 242, 3) := by decide +kernel
theorem dM_185_18 : decode prog_11_method_78_code 18 = .ok (.istore_n 3, 1) := by decide +kernel
theorem dM_185_19 : decode prog_11_method_78_code 19 = .ok (.iload_n 3, 1) := by decide +kernel
theorem dM_185_20 : decode prog_11_method_78_code 20 = .ok (.ifCond .eq 11, 3) := by decide +kernel
theorem dM_185_23 : decode prog_11_method_78_code 23 = .ok (.aload_n 0, 1) := by decide +kernel
theorem dM_185_24 : decode prog_11_method_78_code 24 = .ok (.iload_n 3, 1) := by decide +kernel
theorem dM_185_25 : decode prog_11_method_78_code 25 = .ok (.invokevirtual 247, 3) := by decide +kernel
theorem dM_185_28 : decode prog_11_method_78_code 28 = .ok (.goto 9, 3) := by decide +kernel
theorem dM_185_31 : decode prog_11_method_78_code 31 = .ok (.aload_n 0, 1) := by decide +kernel
theorem dM_185_32 : decode prog_11_method_78_code 32 = .ok (.iload_n 1, 1) := by decide +kernel
theorem dM_185_33 : decode prog_11_method_78_code 33 = .ok (.iload_n 2, 1) := by decide +kernel
theorem dM_185_34 : decode prog_11_method_78_code 34 = .ok (.invokevirtual 370, 3) := by decide +kernel
theorem dM_185_37 : decode prog_11_method_78_code 37 = .ok (.ireturn, 1) := by decide +kernel
theorem dM_186_0 : decode prog_11_method_77_code 0 = .ok (.aload_n 0, 1) := by decide +kernel
theorem dM_186_1 : decode prog_11_method_77_code 1 = .ok (.invokevirtual 358, 3) := by decide +kernel
theorem dM_186_4 : decode prog_11_method_77_code 4 = .ok (.aload_n 0, 1) := by decide +kernel
theorem dM_186_5 : decode prog_11_method_77_code 5 = .ok (.iload_n 1, 1) := by decide +kernel
theorem dM_186_6 : decode prog_11_method_77_code 6 = .ok (.iload_n 2, 1) := by decide +kernel
theorem dM_186_7 : decode prog_11_method_77_code 7 = .ok (.invokevirtual 367, 3) := by decide +kernel
theorem dM_186_10 : decode prog_11_method_77_code 10 = .ok (.aload_n 0, 1) := by decide +kernel
theorem dM_186_11 : decode prog_11_method_77_code 11 = .ok (.invokevirtual 361, 3) := by decide +kernel
theorem dM_186_14 : decode prog_11_method_77_code 14 = .ok (.aload_n 0, 1) := by decide +kernel
theorem dM_186_15 : decode prog_11_method_77_code 15 = .ok (.getfield 76, 3) := by decide +kernel
theorem dM_186_18 : decode prog_11_method_77_code 18 = .ok (.iconst 1, 1) := by decide +kernel
theorem dM_186_19 : decode prog_11_method_77_code 19 = .ok (.iaload, 1) := by decide +kernel
theorem dM_186_20 : decode prog_11_method_77_code 20 = .ok (.ireturn, 1) := by decide +kernel
theorem dM_187_0 : decode prog_11_method_76_code 0 = .ok (.aload_n 0, 1) := by decide +kernel
theorem dM_187_1 : decode prog_11_method_76_code 1 = .ok (.aload_n 0, 1) := by decide +kernel
theorem dM_187_2 : decode prog_11_method_76_code 2 = .ok (.bipush 38, 2) := by decide +kernel
theorem dM_187_4 : decode prog_11_method_76_code 4 = .ok (.aload_n 0, 1) := by decide +kernel
theorem dM_187_5 : decode prog_11_method_76_code 5 = .ok (.bipush 61, 2) := by decide +kernel
theorem dM_187_7 : decode prog_11_method_76_code 7 = .ok (.iload_n 1, 1) := by decide +kernel
theorem dM_187_8 : decode prog_11_method_76_code 8 = .ok (.bipush 64, 2) := by decide +kernel
theorem dM_187_10 : decode prog_11_method_76_code 10 = .ok (.iload_n 2, 1) := by decide +kernel
theorem dM_187_11 : decode prog_11_method_76_code 11 = .ok (.iadd, 1) := by decide +kernel
theorem dM_187_12 : decode prog_11_method_76_code 12 = .ok (.iconst 0, 1) := by decide +kernel
theorem dM_187_13 : decode prog_11_method_76_code 13 = .ok (.invokevirtual 215, 3) := by decide +kernel
theorem dM_187_16 : decode prog_11_method_76_code 16 = .ok (.aload_n 0, 1) := by decide +kernel
theorem dM_187_17 : decode prog_11_method_76_code 17 = .ok (.getfield 285, 3) := by decide +kernel
theorem dM_187_20 : decode prog_11_method_76_code 20 = .ok (.iconst 0, 1) := by decide +kernel
theorem dM_187_21 : decode prog_11_method_76_code 21 = .ok (.invokevirtual 215, 3) := by decide +kernel
theorem dM_187_24 : decode prog_11_method_76_code 24 = .ok (.invokevirtual 364, 3) := by decide +kernel
theorem dM_187_27 : decode prog_11_method_76_code 27 = .ok (.return_, 1) := by decide +kernel
theorem dM_188_0 : decode prog_11_method_73_code 0 = .ok (.aload_n 0, 1) := by decide +kernel
theorem dM_188_1 : decode prog_11_method_73_code 1 = .ok (.iconst 1, 1) := by decide +kernel
theorem dM_188_2 : decode prog_11_method_73_code 2 = .ok (.putfield 164, 3) := by decide +kernel
theorem dM_188_5 : decode prog_11_method_73_code 5 = .ok (.aload_n 0, 1) := by decide +kernel
theorem dM_188_6 : decode prog_11_method_73_code 6 = .ok (.iload_n 1, 1) := by decide +kernel
theorem dM_188_7 : decode prog_11_method_73_code 7 = .ok (.invokevirtual 288, 3) := by decide +kernel
theorem dM_188_10 : decode prog_11_method_73_code 10 = .ok (.aload_n 0, 1) := by decide +kernel
theorem dM_188_11 : decode prog_11_method_73_code 11 = .ok (.bipush 120, 2) := by decide +kernel
theorem dM_188_13 : decode prog_11_method_73_code 13 = .ok (.invokevirtual 310, 3) := by decide +kernel
theorem dM_188_16 : decode prog_11_method_73_code 16 = .ok (.return_, 1) := by decide +kernel
theorem dM_189_0 : decode prog_11_method_79_code 0 = .ok (.iload_n 1, 1) := by decide +kernel
theorem dM_189_1 : decode prog_11_method_79_code 1 = .ok (.invokestatic 337, 3) := by decide +kernel
theorem dM_189_4 : decode prog_11_method_79_code 4 = .ok (.ifCond .ne 9, 3) := by decide +kernel
theorem dM_189_7 : decode prog_11_method_79_code 7 = .ok (.aload_n 0, 1) := by decide +kernel
theorem dM_189_8 : decode prog_11_method_79_code 8 = .ok (.iconst (-1), 1) := by decide +kernel
theorem dM_189_9 : decode prog_11_method_79_code 9 = .ok (.invokevirtual 247, 3) := by decide +kernel
theorem dM_189_12 : decode prog_11_method_79_code 12 = .ok (.ireturn, 1) := by decide +kernel
theorem dM_189_13 : decode prog_11_method_79_code 13 = .ok (.iconst 0, 1) := by decide +kernel
theorem dM_189_14 : decode prog_11_method_79_code 14 = .ok (.istore_n 2, 1) := by decide +kernel
theorem dM_189_15 : decode prog_11_method_79_code 15 = .ok (.iload_n 2, 1) := by decide +kernel
theorem dM_189_16 : decode prog_11_method_79_code 16 = .ok (.bipush 10, 2) := by decide +kernel
theorem dM_189_18 : decode prog_11_method_79_code 18 = .ok (.if_icmp .ge 20, 3) := by decide +kernel
theorem dM_189_21 : decode prog_11_method_79_code 21 = .ok (.aload_n 0, 1) := by decide +kernel
theorem dM_189_22 : decode prog_11_method_79_code 22 = .ok (.iload_n 1, 1) := by decide +kernel
theorem dM_189_23 : decode prog_11_method_79_code 23 = .ok (.iload_n 2, 1) := by decide +kernel
theorem dM_189_24 : decode prog_11_method_79_code 24 = .ok (.invokevirtual 370, 3) := by decide +kernel
theorem dM_189_27 : decode prog_11_method_79_code 27 = .ok (.ifCond .le 5, 3) := by decide +kernel
theorem dM_189_30 : decode prog_11_method_79_code 30 = .ok (.iload_n 2, 1) := by decide +kernel
theorem dM_189_31 : decode prog_11_method_79_code 31 = .ok (.ireturn, 1) := by decide +kernel
theorem dM_189_32 : decode prog_11_method_79_code 32 = .ok (.iinc 2 1, 3) := by decide +kernel
theorem dM_189_35 : decode prog_11_method_79_code 35 = .ok (.goto (-20), 3) := by decide +kernel
theorem dM_189_38 : decode prog_11_method_79_code 38 = .ok (.bipush (-9), 2) := by decide +kernel
theorem dM_189_40 : decode prog_11_method_79_code 40 = .ok (.ireturn, 1) := by decide +kernel
theorem dM_190_0 : decode prog_11_method_80_code 0 = .ok (.iload_n 1, 1) := by decide +kernel
theorem dM_190_1 : decode prog_11_method_80_code 1 = .ok (.iconst 0, 1) := by decide +kernel
theorem dM_190_2 : decode prog_11_method_80_code 2 = .ok (.iconst 1, 1) := by decide +kernel
theorem dM_190_3 : decode prog_11_method_80_code 3 = .ok (.invokestatic 250, 3) := by decide +kernel
theorem dM_190_6 : decode prog_11_method_80_code 6 = .ok (.ifCond .ne 8, 3) := by decide +kernel
theorem dM_190_9 : decode prog_11_method_80_code 9 = .ok (.bipush (-2), 2) := by decide +kernel
theorem dM_190_11 : decode prog_11_method_80_code 11 = .ok (.goto 37, 3) := by decide +kernel
theorem dM_190_14 : decode prog_11_method_80_code 14 = .ok (.aload_n 0, 1) := by decide +kernel
theorem dM_190_15 : decode prog_11_method_80_code 15 = .ok (.getfield 19, 3) := by decide +kernel
theorem dM_190_18 : decode prog_11_method_80_code 18 = .ok (.aload_n 0, 1) := by decide +kernel
theorem dM_190_19 : decode prog_11_method_80_code 19 = .ok (.getfield 285, 3) := by decide +kernel
theorem dM_190_22 : decode prog_11_method_80_code 22 = .ok (.iaload, 1) := by decide +kernel
theorem dM_190_23 : decode prog_11_method_80_code 23 = .ok (.bipush 38, 2) := by decide +kernel
theorem dM_190_25 : decode prog_11_method_80_code 25 = .ok (.if_icmp .eq 22, 3) := by decide +kernel
theorem dM_190_28 : decode prog_11_method_80_code 28 = .ok (.aload_n 0, 1) := by decide +kernel
theorem dM_190_29 : decode prog_11_method_80_code 29 = .ok (.getfield 19, 3) := by decide +kernel
theorem dM_190_32 : decode prog_11_method_80_code 32 = .ok (.aload_n 0, 1) := by decide +kernel
theorem dM_190_33 : decode prog_11_method_80_code 33 = .ok (.getfield 285, 3) := by decide +kernel
theorem dM_190_36 : decode prog_11_method_80_code 36 = .ok (.iaload, 1) := by decide +kernel
theorem dM_190_37 : decode prog_11_method_80_code 37 = .ok (.bipush 124, 2) := by decide +kernel
theorem dM_190_39 : decode prog_11_method_80_code 39 = .ok (.if_icmp .eq 8, 3) := by decide +kernel
theorem dM_190_42 : decode prog_11_method_80_code 42 = .ok (.bipush (-3), 2) := by decide +kernel
theorem dM_190_44 : decode prog_11_method_80_code 44 = .ok (.goto 4, 3) := by decide +kernel
theorem dM_190_47 : decode prog_11_method_80_code 47 = .ok (.iconst 0, 1) := by decide +kernel
theorem dM_190_48 : decode prog_11_method_80_code 48 = .ok (.istore_n 2, 1) := by decide +kernel
theorem dM_190_49 : decode prog_11_method_80_code 49 = .ok (.iload_n 2, 1) := by decide +kernel
theorem dM_190_50 : decode prog_11_method_80_code 50 = .ok (.ifCond .eq 9, 3) := by decide +kernel
theorem dM_190_53 : decode prog_11_method_80_code 53 = .ok (.aload_n 0, 1) := by decide +kernel
theorem dM_190_54 : decode prog_11_method_80_code 54 = .ok (.iload_n 2, 1) := by decide +kernel
theorem dM_190_55 : decode prog_11_method_80_code 55 = .ok (.invokevirtual 247, 3) := by decide +kernel
theorem dM_190_58 : decode prog_11_method_80_code 58 = .ok (.ireturn, 1) := by decide +kernel
theorem dM_190_59 : decode prog_11_method_80_code 59 = .ok (.aload_n 0, 1) := by decide +kernel
theorem dM_190_60 : decode prog_11_method_80_code 60 = .ok (.invokevirtual 358, 3) := by decide +kernel
theorem dM_190_63 : decode prog_11_method_80_code 63 = .ok (.aload_n 0, 1) := by decide +kernel
theorem dM_190_64 : decode prog_11_method_80_code 64 = .ok (.aload_n 0, 1) := by decide +kernel
theorem dM_190_65 : decode prog_11_method_80_code 65 = .ok (.aload_n 0, 1) := by decide +kernel
theorem dM_190_66 : decode prog_11_method_80_code 66 = .ok (.getfield 19, 3) := by decide +kernel
theorem dM_190_69 : decode prog_11_method_80_code 69 = .ok (.aload_n 0, 1) := by decide +kernel
theorem dM_190_70 : decode prog_11_method_80_code 70 = .ok (.getfield 285, 3) := by decide +kernel
theorem dM_190_73 : decode prog_11_method_80_code 73 = .ok (.iaload, 1) := by decide +kernel
theorem dM_190_74 : decode prog_11_method_80_code 74 = .ok (.aload_n 0, 1) := by decide +kernel
theorem dM_190_75 : decode prog_11_method_80_code 75 = .ok (.getfield 25, 3) := by decide +kernel
theorem dM_190_78 : decode prog_11_method_80_code 78 = .ok (.aload_n 0, 1) := by decide +kernel
theorem dM_190_79 : decode prog_11_method_80_code 79 = .ok (.getfield 285, 3) := by decide +kernel
theorem dM_190_82 : decode prog_11_method_80_code 82 = .ok (.iaload, 1) := by decide +kernel
theorem dM_190_83 : decode prog_11_method_80_code 83 = .ok (.aload_n 0, 1) := by decide +kernel
theorem dM_190_84 : decode prog_11_method_80_code 84 = .ok (.getfield 22, 3) := by decide +kernel
theorem dM_190_87 : decode prog_11_method_80_code 87 = .ok (.aload_n 0, 1) := by decide +kernel
theorem dM_190_88 : decode prog_11_method_80_code 88 = .ok (.getfield 285, 3) := by decide +kernel
theorem dM_190_91 : decode prog_11_method_80_code 91 = .ok (.iaload, 1) := by decide +kernel
theorem dM_190_92 : decode prog_11_method_80_code 92 = .ok (.iconst 0, 1) := by decide +kernel
theorem dM_190_93 : decode prog_11_method_80_code 93 = .ok (.invokevirtual 215, 3) := by decide +kernel
theorem dM_190_96 : decode prog_11_method_80_code 96 = .ok (.invokevirtual 364, 3) := by decide +kernel
theorem dM_190_99 : decode prog_11_method_80_code 99 = .ok (.aload_n 0, 1) := by decide +kernel
theorem dM_190_100 : decode prog_11_method_80_code 100 = .ok (.invokevirtual 361, 3) := by decide +kernel
theorem dM_190_103 : decode prog_11_method_80_code 103 = .ok (.iload_n 1, 1) := by decide +kernel
theorem dM_190_104 : decode prog_11_method_80_code 104 = .ok (.ifCond .ne 12, 3) := by decide +kernel
theorem dM_190_107 : decode prog_11_method_80_code 107 = .ok (.aload_n 0, 1) := by decide +kernel
theorem dM_190_108 : decode prog_11_method_80_code 108 = .ok (.getfield 76, 3) := by decide +kernel
theorem dM_190_111 : decode prog_11_method_80_code 111 = .ok (.iconst 1, 1) := by decide +kernel
theorem dM_190_112 : decode prog_11_method_80_code 112 = .ok (.iaload, 1) := by decide +kernel
theorem dM_190_113 : decode prog_11_method_80_code 113 = .ok (.goto 24, 3) := by decide +kernel
theorem dM_190_116 : decode prog_11_method_80_code 116 = .ok (.aload_n 0, 1) := by decide +kernel
theorem dM_190_117 : decode prog_11_method_80_code 117 = .ok (.getfield 76, 3) := by decide +kernel
theorem dM_190_120 : decode prog_11_method_80_code 120 = .ok (.iconst 1, 1) := by decide +kernel
theorem dM_190_121 : decode prog_11_method_80_code 121 = .ok (.iaload, 1) := by decide +kernel
theorem dM_190_122 : decode prog_11_method_80_code 122 = .ok (.ifCond .ne 8, 3) := by decide +kernel
theorem dM_190_125 : decode prog_11_method_80_code 125 = .ok (.bipush (-9), 2) := by decide +kernel
theorem dM_190_127 : decode prog_11_method_80_code 127 = .ok (.goto 10, 3) := by decide +kernel
theorem dM_190_130 : decode prog_11_method_80_code 130 = .ok (.aload_n 0, 1) := by decide +kernel
theorem dM_190_131 : decode prog_11_method_80_code 131 = .ok (.getfield 64, 3) := by decide +kernel
theorem dM_190_134 : decode prog_11_method_80_code 134 = .ok (.bipush 30, 2) := by decide +kernel
theorem dM_190_136 : decode prog_11_method_80_code 136 = .ok (.iaload, 1) := by decide +kernel
theorem dM_190_137 : decode prog_11_method_80_code 137 = .ok (.ireturn, 1) := by decide +kernel
theorem dM_191_0 : decode prog_11_method_82_code 0 = .ok (.iload_n 1, 1) := by decide +kernel
theorem dM_191_1 : decode prog_11_method_82_code 1 = .ok (.iconst 0, 1) := by decide +kernel
theorem dM_191_2 : decode prog_11_method_82_code 2 = .ok (.iconst 1, 1) := by decide +kernel
theorem dM_191_3 : decode prog_11_method_82_code 3 = .ok (.invokestatic 250, 3) := by decide +kernel
theorem dM_191_6 : decode prog_11_method_82_code 6 = .ok (.ifCond .ne 10, 3) := by decide +kernel
theorem dM_191_9 : decode prog_11_method_82_code 9 = .ok (.aload_n 0, 1) := by decide +kernel
theorem dM_191_10 : decode prog_11_method_82_code 10 = .ok (.bipush (-2), 2) := by decide +kernel
theorem dM_191_12 : decode prog_11_method_82_code 12 = .ok (.invokevirtual 373, 3) := by decide +kernel
theorem dM_191_15 : decode prog_11_method_82_code 15 = .ok (.lreturn, 1) := by decide +kernel
theorem dM_191_16 : decode prog_11_method_82_code 16 = .ok (.aload_n 0, 1) := by decide +kernel
theorem dM_191_17 : decode prog_11_method_82_code 17 = .ok (.getfield 79, 3) := by decide +kernel
theorem dM_191_20 : decode prog_11_method_82_code 20 = .ok (.iconst 0, 1) := by decide +kernel
theorem dM_191_21 : decode prog_11_method_82_code 21 = .ok (.iaload, 1) := by decide +kernel
theorem dM_191_22 : decode prog_11_method_82_code 22 = .ok (.ifCond .ne 6, 3) := by decide +kernel
theorem dM_191_25 : decode prog_11_method_82_code 25 = .ok (.iload_n 1, 1) := by decide +kernel
theorem dM_191_26 : decode prog_11_method_82_code 26 = .ok (.i2l, 1) := by decide +kernel
theorem dM_191_27 : decode prog_11_method_82_code 27 = .ok (.lreturn, 1) := by decide +kernel
theorem dM_191_28 : decode prog_11_method_82_code 28 = .ok (.aload_n 0, 1) := by decide +kernel
theorem dM_191_29 : decode prog_11_method_82_code 29 = .ok (.getfield 76, 3) := by decide +kernel
theorem dM_191_32 : decode prog_11_method_82_code 32 = .ok (.iconst 0, 1) := by decide +kernel
theorem dM_191_33 : decode prog_11_method_82_code 33 = .ok (.iaload, 1) := by decide +kernel
theorem dM_191_34 : decode prog_11_method_82_code 34 = .ok (.i2l, 1) := by decide +kernel
theorem dM_191_35 : decode prog_11_method_82_code 35 = .ok (.aload_n 0, 1) := by decide +kernel
theorem dM_191_36 : decode prog_11_method_82_code 36 = .ok (.getfield 79, 3) := by decide +kernel
theorem dM_191_39 : decode prog_11_method_82_code 39 = .ok (.iconst 0, 1) := by decide +kernel
theorem dM_191_40 : decode prog_11_method_82_code 40 = .ok (.iaload, 1) := by decide +kernel
theorem dM_191_41 : decode prog_11_method_82_code 41 = .ok (.i2l, 1) := by decide +kernel
theorem dM_191_42 : decode prog_11_method_82_code 42 = .ok (.invokestatic 377, 3) := by decide +kernel
theorem dM_191_45 : decode prog_11_method_82_code 45 = .ok (.lstore_n 2, 1) := by decide +kernel
theorem dM_191_46 : decode prog_11_method_82_code 46 = .ok (.iload_n 1, 1) := by decide +kernel
theorem dM_191_47 : decode prog_11_method_82_code 47 = .ok (.ifCond .ne 12, 3) := by decide +kernel
theorem dM_191_50 : decode prog_11_method_82_code 50 = .ok (.aload_n 0, 1) := by decide +kernel
theorem dM_191_51 : decode prog_11_method_82_code 51 = .ok (.getfield 76, 3) := by decide +kernel
theorem dM_191_54 : decode prog_11_method_82_code 54 = .ok (.iconst 0, 1) := by decide +kernel
theorem dM_191_55 : decode prog_11_method_82_code 55 = .ok (.iaload, 1) := by decide +kernel
theorem dM_191_56 : decode prog_11_method_82_code 56 = .ok (.goto 9, 3) := by decide +kernel
theorem dM_191_59 : decode prog_11_method_82_code 59 = .ok (.aload_n 0, 1) := by decide +kernel
theorem dM_191_60 : decode prog_11_method_82_code 60 = .ok (.getfield 79, 3) := by decide +kernel
theorem dM_191_63 : decode prog_11_method_82_code 63 = .ok (.iconst 0, 1) := by decide +kernel
theorem dM_191_64 : decode prog_11_method_82_code 64 = .ok (.iaload, 1) := by decide +kernel
theorem dM_191_65 : decode prog_11_method_82_code 65 = .ok (.i2l, 1) := by decide +kernel
theorem dM_191_66 : decode prog_11_method_82_code 66 = .ok (.lload_n 2, 1) := by decide +kernel
theorem dM_191_67 : decode prog_11_method_82_code 67 = .ok (.ldiv, 1) := by decide +kernel
theorem dM_191_68 : decode prog_11_method_82_code 68 = .ok (.lreturn, 1) := by decide +kernel
theorem dM_192_0 : decode prog_11_method_3_code 0 = .ok (.aload_n 0, 1) := by decide +kernel
theorem dM_192_1 : decode prog_11_method_3_code 1 = .ok (.getfield 7, 3) := by decide +kernel
theorem dM_192_4 : decode prog_11_method_3_code 4 = .ok (.iload_n 1, 1) := by decide +kernel
theorem dM_192_5 : decode prog_11_method_3_code 5 = .ok (.ineg, 1) := by decide +kernel
theorem dM_192_6 : decode prog_11_method_3_code 6 = .ok (.dup2, 1) := by decide +kernel
theorem dM_192_7 : decode prog_11_method_3_code 7 = .ok (.iaload, 1) := by decide +kernel
theorem dM_192_8 : decode prog_11_method_3_code 8 = .ok (.iconst 1, 1) := by decide +kernel
theorem dM_192_9 : decode prog_11_method_3_code 9 = .ok (.iadd, 1) := by decide +kernel
theorem dM_192_10 : decode prog_11_method_3_code 10 = .ok (.iastore, 1) := by decide +kernel
theorem dM_192_11 : decode prog_11_method_3_code 11 = .ok (.ldc2_w 119, 3) := by decide +kernel
theorem dM_192_14 : decode prog_11_method_3_code 14 = .ok (.iload_n 1, 1) := by decide +kernel
theorem dM_192_15 : decode prog_11_method_3_code 15 = .ok (.i2l, 1) := by decide +kernel
theorem dM_192_16 : decode prog_11_method_3_code 16 = .ok (.lsub, 1) := by decide +kernel
theorem dM_192_17 : decode prog_11_method_3_code 17 = .ok (.lreturn, 1) := by decide +kernel
theorem dM_193_0 : decode prog_11_method_81_code 0 = .ok (.lload_n 0, 1) := by decide +kernel
theorem dM_193_1 : decode prog_11_method_81_code 1 = .ok (.lstore 4, 2) := by decide +kernel
theorem dM_193_3 : decode prog_11_method_81_code 3 = .ok (.lload_n 2, 1) := by decide +kernel
theorem dM_193_4 : decode prog_11_method_81_code 4 = .ok (.lstore 6, 2) := by decide +kernel
theorem dM_193_6 : decode prog_11_method_81_code 6 = .ok (.lload 6, 2) := by decide +kernel
theorem dM_193_8 : decode prog_11_method_81_code 8 = .ok (.lconst 0, 1) := by decide +kernel
theorem dM_193_9 : decode prog_11_method_81_code 9 = .ok (.lcmp, 1) := by decide +kernel
theorem dM_193_10 : decode prog_11_method_81_code 10 = .ok (.ifCond .eq 21, 3) := by decide +kernel
theorem dM_193_13 : decode prog_11_method_81_code 13 = .ok (.lload 4, 2) := by decide +kernel
theorem dM_193_15 : decode prog_11_method_81_code 15 = .ok (.lload 6, 2) := by decide +kernel
theorem dM_193_17 : decode prog_11_method_81_code 17 = .ok (.lrem, 1) := by decide +kernel
theorem dM_193_18 : decode prog_11_method_81_code 18 = .ok (.lstore 8, 2) := by decide +kernel
theorem dM_193_20 : decode prog_11_method_81_code 20 = .ok (.lload 6, 2) := by decide +kernel
theorem dM_193_22 : decode prog_11_method_81_code 22 = .ok (.lstore 4, 2) := by decide +kernel
theorem dM_193_24 : decode prog_11_method_81_code 24 = .ok (.lload 8, 2) := by decide +kernel
theorem dM_193_26 : decode prog_11_method_81_code 26 = .ok (.lstore 6, 2) := by decide +kernel
theorem dM_193_28 : decode prog_11_method_81_code 28 = .ok (.goto (-22), 3) := by decide +kernel
theorem dM_193_31 : decode prog_11_method_81_code 31 = .ok (.lload 4, 2) := by decide +kernel
theorem dM_193_33 : decode prog_11_method_81_code 33 = .ok (.lreturn, 1) := by decide +kernel
theorem dM_194_0 : decode prog_11_method_85_code 0 = .ok (.iload_n 1, 1) := by decide +kernel
theorem dM_194_1 : decode prog_11_method_85_code 1 = .ok (.invokestatic 337, 3) := by decide +kernel
theorem dM_194_4 : decode prog_11_method_85_code 4 = .ok (.ifCond .ne 9, 3) := by decide +kernel
theorem dM_194_7 : decode prog_11_method_85_code 7 = .ok (.aload_n 0, 1) := by decide +kernel
theorem dM_194_8 : decode prog_11_method_85_code 8 = .ok (.iconst (-1), 1) := by decide +kernel
theorem dM_194_9 : decode prog_11_method_85_code 9 = .ok (.invokevirtual 247, 3) := by decide +kernel
theorem dM_194_12 : decode prog_11_method_85_code 12 = .ok (.ireturn, 1) := by decide +kernel
theorem dM_194_13 : decode prog_11_method_85_code 13 = .ok (.iconst 0, 1) := by decide +kernel
theorem dM_194_14 : decode prog_11_method_85_code 14 = .ok (.istore_n 2, 1) := by decide +kernel
theorem dM_194_15 : decode prog_11_method_85_code 15 = .ok (.iconst 0, 1) := by decide +kernel
theorem dM_194_16 : decode prog_11_method_85_code 16 = .ok (.istore_n 3, 1) := by decide +kernel
theorem dM_194_17 : decode prog_11_method_85_code 17 = .ok (.iload_n 3, 1) := by decide +kernel
theorem dM_194_18 : decode prog_11_method_85_code 18 = .ok (.bipush 10, 2) := by decide +kernel
theorem dM_194_20 : decode prog_11_method_85_code 20 = .ok (.if_icmp .ge 28, 3) := by decide +kernel
theorem dM_194_23 : decode prog_11_method_85_code 23 = .ok (.iload_n 2, 1) := by decide +kernel
theorem dM_194_24 : decode prog_11_method_85_code 24 = .ok (.aload_n 0, 1) := by decide +kernel
theorem dM_194_25 : decode prog_11_method_85_code 25 = .ok (.iload_n 1, 1) := by decide +kernel
theorem dM_194_26 : decode prog_11_method_85_code 26 = .ok (.iload_n 3, 1) := by decide +kernel
theorem dM_194_27 : decode prog_11_method_85_code 27 = .ok (.invokevirtual 387, 3) := by decide +kernel
theorem dM_194_30 : decode prog_11_method_85_code 30 = .ok (.ifCond .eq 9, 3) := by decide +kernel
theorem dM_194_33 : decode prog_11_method_85_code 33 = .ok (.iconst 1, 1) := by decide +kernel
theorem dM_194_34 : decode prog_11_method_85_code 34 = .ok (.iload_n 3, 1) := by decide +kernel
theorem dM_194_35 : decode prog_11_method_85_code 35 = .ok (.ishl, 1) := by decide +kernel
theorem dM_194_36 : decode prog_11_method_85_code 36 = .ok (.goto 4, 3) := by decide +kernel
theorem dM_194_39 : decode prog_11_method_85_code 39 = .ok (.iconst 0, 1) := by decide +kernel
theorem dM_194_40 : decode prog_11_method_85_code 40 = .ok (.ior, 1) := by decide +kernel
theorem dM_194_41 : decode prog_11_method_85_code 41 = .ok (.istore_n 2, 1) := by decide +kernel
theorem dM_194_42 : decode prog_11_method_85_code 42 = .ok (.iinc 3 1, 3) := by decide +kernel
theorem dM_194_45 : decode prog_11_method_85_code 45 = .ok (.goto (-28), 3) := by decide +kernel
theorem dM_194_48 : decode prog_11_method_85_code 48 = .ok (.iload_n 2, 1) := by decide +kernel
theorem dM_194_49 : decode prog_11_method_85_code 49 = .ok (.ireturn, 1) := by decide +kernel
theorem dM_195_0 : decode prog_11_method_84_code 0 = .ok (.aload_n 0, 1) := by decide +kernel
theorem dM_195_1 : decode prog_11_method_84_code 1 = .ok (.invokevirtual 358, 3) := by decide +kernel
theorem dM_195_4 : decode prog_11_method_84_code 4 = .ok (.aload_n 0, 1) := by decide +kernel
theorem dM_195_5 : decode prog_11_method_84_code 5 = .ok (.iload_n 1, 1) := by decide +kernel
theorem dM_195_6 : decode prog_11_method_84_code 6 = .ok (.iload_n 2, 1) := by decide +kernel
theorem dM_195_7 : decode prog_11_method_84_code 7 = .ok (.invokevirtual 367, 3) := by decide +kernel
theorem dM_195_10 : decode prog_11_method_84_code 10 = .ok (.aload_n 0, 1) := by decide +kernel
theorem dM_195_11 : decode prog_11_method_84_code 11 = .ok (.getfield 76, 3) := by decide +kernel
theorem dM_195_14 : decode prog_11_method_84_code 14 = .ok (.iconst 1, 1) := by decide +kernel
theorem dM_195_15 : decode prog_11_method_84_code 15 = .ok (.iaload, 1) := by decide +kernel
theorem dM_195_16 : decode prog_11_method_84_code 16 = .ok (.ifCond .le 7, 3) := by decide +kernel
theorem dM_195_19 : decode prog_11_method_84_code 19 = .ok (.iconst 1, 1) := by decide +kernel
theorem dM_195_20 : decode prog_11_method_84_code 20 = .ok (.goto 4, 3) := by decide +kernel
theorem dM_195_23 : decode prog_11_method_84_code 23 = .ok (.iconst 0, 1) := by decide +kernel
theorem dM_195_24 : decode prog_11_method_84_code 24 = .ok (.istore_n 3, 1) := by decide +kernel
theorem dM_195_25 : decode prog_11_method_84_code 25 = .ok (.iload_n 3, 1) := by decide +kernel
theorem dM_195_26 : decode prog_11_method_84_code 26 = .ok (.ifCond .eq 14, 3) := by decide +kernel
theorem dM_195_29 : decode prog_11_method_84_code 29 = .ok (.aload_n 0, 1) := by decide +kernel
theorem dM_195_30 : decode prog_11_method_84_code 30 = .ok (.iconst 0, 1) := by decide +kernel
theorem dM_195_31 : decode prog_11_method_84_code 31 = .ok (.iconst 0, 1) := by decide +kernel
theorem dM_195_32 : decode prog_11_method_84_code 32 = .ok (.invokevirtual 340, 3) := by decide +kernel
theorem dM_195_35 : decode prog_11_method_84_code 35 = .ok (.aload_n 0, 1) := by decide +kernel
theorem dM_195_36 : decode prog_11_method_84_code 36 = .ok (.invokevirtual 384, 3) := by decide +kernel
theorem dM_195_39 : decode prog_11_method_84_code 39 = .ok (.istore_n 3, 1) := by decide +kernel
theorem dM_195_40 : decode prog_11_method_84_code 40 = .ok (.aload_n 0, 1) := by decide +kernel
theorem dM_195_41 : decode prog_11_method_84_code 41 = .ok (.invokevirtual 361, 3) := by decide +kernel
theorem dM_195_44 : decode prog_11_method_84_code 44 = .ok (.iload_n 3, 1) := by decide +kernel
theorem dM_195_45 : decode prog_11_method_84_code 45 = .ok (.ireturn, 1) := by decide +kernel
theorem dM_196_0 : decode prog_11_method_83_code 0 = .ok (.aload_n 0, 1) := by decide +kernel
theorem dM_196_1 : decode prog_11_method_83_code 1 = .ok (.getfield 313, 3) := by decide +kernel
theorem dM_196_4 : decode prog_11_method_83_code 4 = .ok (.aload_n 0, 1) := by decide +kernel
theorem dM_196_5 : decode prog_11_method_83_code 5 = .ok (.getfield 381, 3) := by decide +kernel
theorem dM_196_8 : decode prog_11_method_83_code 8 = .ok (.if_icmp .lt 7, 3) := by decide +kernel
theorem dM_196_11 : decode prog_11_method_83_code 11 = .ok (.iconst 1, 1) := by decide +kernel
theorem dM_196_12 : decode prog_11_method_83_code 12 = .ok (.goto 4, 3) := by decide +kernel
theorem dM_196_15 : decode prog_11_method_83_code 15 = .ok (.iconst 0, 1) := by decide +kernel
theorem dM_196_16 : decode prog_11_method_83_code 16 = .ok (.istore_n 1, 1) := by decide +kernel
theorem dM_196_17 : decode prog_11_method_83_code 17 = .ok (.iconst 0, 1) := by decide +kernel
theorem dM_196_18 : decode prog_11_method_83_code 18 = .ok (.istore_n 2, 1) := by decide +kernel
theorem dM_196_19 : decode prog_11_method_83_code 19 = .ok (.iload_n 2, 1) := by decide +kernel
theorem dM_196_20 : decode prog_11_method_83_code 20 = .ok (.aload_n 0, 1) := by decide +kernel
theorem dM_196_21 : decode prog_11_method_83_code 21 = .ok (.getfield 381, 3) := by decide +kernel
theorem dM_196_24 : decode prog_11_method_83_code 24 = .ok (.if_icmp .ge 34, 3) := by decide +kernel
theorem dM_196_27 : decode prog_11_method_83_code 27 = .ok (.iload_n 1, 1) := by decide +kernel
theorem dM_196_28 : decode prog_11_method_83_code 28 = .ok (.ifCond .eq 30, 3) := by decide +kernel
theorem dM_196_31 : decode prog_11_method_83_code 31 = .ok (.aload_n 0, 1) := by decide +kernel
theorem dM_196_32 : decode prog_11_method_83_code 32 = .ok (.getfield 100, 3) := by decide +kernel
theorem dM_196_35 : decode prog_11_method_83_code 35 = .ok (.iload_n 2, 1) := by decide +kernel
theorem dM_196_36 : decode prog_11_method_83_code 36 = .ok (.iaload, 1) := by decide +kernel
theorem dM_196_37 : decode prog_11_method_83_code 37 = .ok (.aload_n 0, 1) := by decide +kernel
theorem dM_196_38 : decode prog_11_method_83_code 38 = .ok (.getfield 109, 3) := by decide +kernel
theorem dM_196_41 : decode prog_11_method_83_code 41 = .ok (.iload_n 2, 1) := by decide +kernel
theorem dM_196_42 : decode prog_11_method_83_code 42 = .ok (.iaload, 1) := by decide +kernel
theorem dM_196_43 : decode prog_11_method_83_code 43 = .ok (.if_icmp .ne 7, 3) := by decide +kernel
theorem dM_196_46 : decode prog_11_method_83_code 46 = .ok (.iconst 1, 1) := by decide +kernel
theorem dM_196_47 : decode prog_11_method_83_code 47 = .ok (.goto 4, 3) := by decide +kernel
theorem dM_196_50 : decode prog_11_method_83_code 50 = .ok (.iconst 0, 1) := by decide +kernel
theorem dM_196_51 : decode prog_11_method_83_code 51 = .ok (.istore_n 1, 1) := by decide +kernel
theorem dM_196_52 : decode prog_11_method_83_code 52 = .ok (.iinc 2 1, 3) := by decide +kernel
theorem dM_196_55 : decode prog_11_method_83_code 55 = .ok (.goto (-36), 3) := by decide +kernel
theorem dM_196_58 : decode prog_11_method_83_code 58 = .ok (.iload_n 1, 1) := by decide +kernel
theorem dM_196_59 : decode prog_11_method_83_code 59 = .ok (.ireturn, 1) := by decide +kernel
theorem dM_197_0 : decode prog_11_method_86_code 0 = .ok (.iload_n 1, 1) := by decide +kernel
theorem dM_197_1 : decode prog_11_method_86_code 1 = .ok (.iconst 0, 1) := by decide +kernel
theorem dM_197_2 : decode prog_11_method_86_code 2 = .ok (.bipush 127, 2) := by decide +kernel
theorem dM_197_4 : decode prog_11_method_86_code 4 = .ok (.invokestatic 242, 3) := by decide +kernel
theorem dM_197_7 : decode prog_11_method_86_code 7 = .ok (.istore_n 2, 1) := by decide +kernel
theorem dM_197_8 : decode prog_11_method_86_code 8 = .ok (.iload_n 2, 1) := by decide +kernel
theorem dM_197_9 : decode prog_11_method_86_code 9 = .ok (.ifCond .ne 15, 3) := by decide +kernel
theorem dM_197_12 : decode prog_11_method_86_code 12 = .ok (.aload_n 0, 1) := by decide +kernel
theorem dM_197_13 : decode prog_11_method_86_code 13 = .ok (.getfield 381, 3) := by decide +kernel
theorem dM_197_16 : decode prog_11_method_86_code 16 = .ok (.bipush 32, 2) := by decide +kernel
theorem dM_197_18 : decode prog_11_method_86_code 18 = .ok (.if_icmp .ne 6, 3) := by decide +kernel
theorem dM_197_21 : decode prog_11_method_86_code 21 = .ok (.bipush (-6), 2) := by decide +kernel
theorem dM_197_23 : decode prog_11_method_86_code 23 = .ok (.istore_n 2, 1) := by decide +kernel
theorem dM_197_24 : decode prog_11_method_86_code 24 = .ok (.iload_n 2, 1) := by decide +kernel
theorem dM_197_25 : decode prog_11_method_86_code 25 = .ok (.ifCond .eq 9, 3) := by decide +kernel
theorem dM_197_28 : decode prog_11_method_86_code 28 = .ok (.aload_n 0, 1) := by decide +kernel
theorem dM_197_29 : decode prog_11_method_86_code 29 = .ok (.iload_n 2, 1) := by decide +kernel
theorem dM_197_30 : decode prog_11_method_86_code 30 = .ok (.invokevirtual 247, 3) := by decide +kernel
theorem dM_197_33 : decode prog_11_method_86_code 33 = .ok (.ireturn, 1) := by decide +kernel
theorem dM_197_34 : decode prog_11_method_86_code 34 = .ok (.aload_n 0, 1) := by decide +kernel
theorem dM_197_35 : decode prog_11_method_86_code 35 = .ok (.getfield 109, 3) := by decide +kernel
theorem dM_197_38 : decode prog_11_method_86_code 38 = .ok (.aload_n 0, 1) := by decide +kernel
theorem dM_197_39 : decode prog_11_method_86_code 39 = .ok (.getfield 381, 3) := by decide +kernel
theorem dM_197_42 : decode prog_11_method_86_code 42 = .ok (.iload_n 1, 1) := by decide +kernel
theorem dM_197_43 : decode prog_11_method_86_code 43 = .ok (.iastore, 1) := by decide +kernel
theorem dM_197_44 : decode prog_11_method_86_code 44 = .ok (.aload_n 0, 1) := by decide +kernel
theorem dM_197_45 : decode prog_11_method_86_code 45 = .ok (.dup, 1) := by decide +kernel
theorem dM_197_46 : decode prog_11_method_86_code 46 = .ok (.getfield 381, 3) := by decide +kernel
theorem dM_197_49 : decode prog_11_method_86_code 49 = .ok (.iconst 1, 1) := by decide +kernel
theorem dM_197_50 : decode prog_11_method_86_code 50 = .ok (.iadd, 1) := by decide +kernel
theorem dM_197_51 : decode prog_11_method_86_code 51 = .ok (.putfield 381, 3) := by decide +kernel
theorem dM_197_54 : decode prog_11_method_86_code 54 = .ok (.aload_n 0, 1) := by decide +kernel
theorem dM_197_55 : decode prog_11_method_86_code 55 = .ok (.getfield 381, 3) := by decide +kernel
theorem dM_197_58 : decode prog_11_method_86_code 58 = .ok (.ireturn, 1) := by decide +kernel
theorem dM_198_0 : decode prog_11_method_87_code 0 = .ok (.aload_n 0, 1) := by decide +kernel
theorem dM_198_1 : decode prog_11_method_87_code 1 = .ok (.iload_n 1, 1) := by decide +kernel
theorem dM_198_2 : decode prog_11_method_87_code 2 = .ok (.invokevirtual 334, 3) := by decide +kernel
theorem dM_198_5 : decode prog_11_method_87_code 5 = .ok (.ifCond .ne 9, 3) := by decide +kernel
theorem dM_198_8 : decode prog_11_method_87_code 8 = .ok (.aload_n 0, 1) := by decide +kernel
theorem dM_198_9 : decode prog_11_method_87_code 9 = .ok (.iconst (-1), 1) := by decide +kernel
theorem dM_198_10 : decode prog_11_method_87_code 10 = .ok (.invokevirtual 247, 3) := by decide +kernel
theorem dM_198_13 : decode prog_11_method_87_code 13 = .ok (.ireturn, 1) := by decide +kernel
theorem dM_198_14 : decode prog_11_method_87_code 14 = .ok (.aload_n 0, 1) := by decide +kernel
theorem dM_198_15 : decode prog_11_method_87_code 15 = .ok (.getfield 381, 3) := by decide +kernel
theorem dM_198_18 : decode prog_11_method_87_code 18 = .ok (.istore_n 2, 1) := by decide +kernel
theorem dM_198_19 : decode prog_11_method_87_code 19 = .ok (.aload_n 0, 1) := by decide +kernel
theorem dM_198_20 : decode prog_11_method_87_code 20 = .ok (.iconst 0, 1) := by decide +kernel
theorem dM_198_21 : decode prog_11_method_87_code 21 = .ok (.putfield 381, 3) := by decide +kernel
theorem dM_198_24 : decode prog_11_method_87_code 24 = .ok (.aload_n 0, 1) := by decide +kernel
theorem dM_198_25 : decode prog_11_method_87_code 25 = .ok (.iload_n 1, 1) := by decide +kernel
theorem dM_198_26 : decode prog_11_method_87_code 26 = .ok (.iconst 0, 1) := by decide +kernel
theorem dM_198_27 : decode prog_11_method_87_code 27 = .ok (.invokevirtual 340, 3) := by decide +kernel
theorem dM_198_30 : decode prog_11_method_87_code 30 = .ok (.iconst 0, 1) := by decide +kernel
theorem dM_198_31 : decode prog_11_method_87_code 31 = .ok (.istore_n 3, 1) := by decide +kernel
theorem dM_198_32 : decode prog_11_method_87_code 32 = .ok (.iload_n 3, 1) := by decide +kernel
theorem dM_198_33 : decode prog_11_method_87_code 33 = .ok (.iload_n 2, 1) := by decide +kernel
theorem dM_198_34 : decode prog_11_method_87_code 34 = .ok (.if_icmp .ge 34, 3) := by decide +kernel
theorem dM_198_37 : decode prog_11_method_87_code 37 = .ok (.iload_n 3, 1) := by decide +kernel
theorem dM_198_38 : decode prog_11_method_87_code 38 = .ok (.aload_n 0, 1) := by decide +kernel
theorem dM_198_39 : decode prog_11_method_87_code 39 = .ok (.getfield 313, 3) := by decide +kernel
theorem dM_198_42 : decode prog_11_method_87_code 42 = .ok (.if_icmp .ge 18, 3) := by decide +kernel
theorem dM_198_45 : decode prog_11_method_87_code 45 = .ok (.aload_n 0, 1) := by decide +kernel
theorem dM_198_46 : decode prog_11_method_87_code 46 = .ok (.getfield 100, 3) := by decide +kernel
theorem dM_198_49 : decode prog_11_method_87_code 49 = .ok (.iload_n 3, 1) := by decide +kernel
theorem dM_198_50 : decode prog_11_method_87_code 50 = .ok (.iaload, 1) := by decide +kernel
theorem dM_198_51 : decode prog_11_method_87_code 51 = .ok (.aload_n 0, 1) := by decide +kernel
theorem dM_198_52 : decode prog_11_method_87_code 52 = .ok (.getfield 109, 3) := by decide +kernel
theorem dM_198_55 : decode prog_11_method_87_code 55 = .ok (.iload_n 3, 1) := by decide +kernel
theorem dM_198_56 : decode prog_11_method_87_code 56 = .ok (.iaload, 1) := by decide +kernel
theorem dM_198_57 : decode prog_11_method_87_code 57 = .ok (.if_icmp .eq 5, 3) := by decide +kernel
theorem dM_198_60 : decode prog_11_method_87_code 60 = .ok (.iload_n 3, 1) := by decide +kernel
theorem dM_198_61 : decode prog_11_method_87_code 61 = .ok (.ireturn, 1) := by decide +kernel
theorem dM_198_62 : decode prog_11_method_87_code 62 = .ok (.iinc 3 1, 3) := by decide +kernel
theorem dM_198_65 : decode prog_11_method_87_code 65 = .ok (.goto (-33), 3) := by decide +kernel
theorem dM_198_68 : decode prog_11_method_87_code 68 = .ok (.iload_n 2, 1) := by decide +kernel
theorem dM_198_69 : decode prog_11_method_87_code 69 = .ok (.aload_n 0, 1) := by decide +kernel
theorem dM_198_70 : decode prog_11_method_87_code 70 = .ok (.getfield 313, 3) := by decide +kernel
theorem dM_198_73 : decode prog_11_method_87_code 73 = .ok (.if_icmp .ge 7, 3) := by decide +kernel
theorem dM_198_76 : decode prog_11_method_87_code 76 = .ok (.iload_n 2, 1) := by decide +kernel
theorem dM_198_77 : decode prog_11_method_87_code 77 = .ok (.goto 5, 3) := by decide +kernel
theorem dM_198_80 : decode prog_11_method_87_code 80 = .ok (.bipush (-9), 2) := by decide +kernel
theorem dM_198_82 : decode prog_11_method_87_code 82 = .ok (.ireturn, 1) := by decide +kernel
theorem dM_199_0 : decode prog_11_method_88_code 0 = .ok (.aload_n 0, 1) := by decide +kernel
theorem dM_199_1 : decode prog_11_method_88_code 1 = .ok (.getfield 381, 3) := by decide +kernel
theorem dM_199_4 : decode prog_11_method_88_code 4 = .ok (.istore_n 1, 1) := by decide +kernel
theorem dM_199_5 : decode prog_11_method_88_code 5 = .ok (.aload_n 0, 1) := by decide +kernel
theorem dM_199_6 : decode prog_11_method_88_code 6 = .ok (.iconst 0, 1) := by decide +kernel
theorem dM_199_7 : decode prog_11_method_88_code 7 = .ok (.putfield 381, 3) := by decide +kernel
theorem dM_199_10 : decode prog_11_method_88_code 10 = .ok (.iload_n 1, 1) := by decide +kernel
theorem dM_199_11 : decode prog_11_method_88_code 11 = .ok (.ireturn, 1) := by decide +kernel
theorem dM_200_0 : decode prog_11_method_94_code 0 = .ok (.iload_n 1, 1) := by decide +kernel
theorem dM_200_1 : decode prog_11_method_94_code 1 = .ok (.iconst 1, 1) := by decide +kernel
theorem dM_200_2 : decode prog_11_method_94_code 2 = .ok (.bipush 20, 2) := by decide +kernel
theorem dM_200_4 : decode prog_11_method_94_code 4 = .ok (.invokestatic 242, 3) := by decide +kernel
theorem dM_200_7 : decode prog_11_method_94_code 7 = .ok (.istore 4, 2) := by decide +kernel
theorem dM_200_9 : decode prog_11_method_94_code 9 = .ok (.iload 4, 2) := by decide +kernel
theorem dM_200_11 : decode prog_11_method_94_code 11 = .ok (.ifCond .ne 16, 3) := by decide +kernel
theorem dM_200_14 : decode prog_11_method_94_code 14 = .ok (.iload_n 3, 1) := by decide +kernel
theorem dM_200_15 : decode prog_11_method_94_code 15 = .ok (.iconst 0, 1) := by decide +kernel
theorem dM_200_16 : decode prog_11_method_94_code 16 = .ok (.iconst 1, 1) := by decide +kernel
theorem dM_200_17 : decode prog_11_method_94_code 17 = .ok (.invokestatic 250, 3) := by decide +kernel
theorem dM_200_20 : decode prog_11_method_94_code 20 = .ok (.ifCond .ne 7, 3) := by decide +kernel
theorem dM_200_23 : decode prog_11_method_94_code 23 = .ok (.bipush (-2), 2) := by decide +kernel
theorem dM_200_25 : decode prog_11_method_94_code 25 = .ok (.istore 4, 2) := by decide +kernel
theorem dM_200_27 : decode prog_11_method_94_code 27 = .ok (.iload 4, 2) := by decide +kernel
theorem dM_200_29 : decode prog_11_method_94_code 29 = .ok (.ifCond .eq 10, 3) := by decide +kernel
theorem dM_200_32 : decode prog_11_method_94_code 32 = .ok (.aload_n 0, 1) := by decide +kernel
theorem dM_200_33 : decode prog_11_method_94_code 33 = .ok (.iload 4, 2) := by decide +kernel
theorem dM_200_35 : decode prog_11_method_94_code 35 = .ok (.invokevirtual 247, 3) := by decide +kernel
theorem dM_200_38 : decode prog_11_method_94_code 38 = .ok (.ireturn, 1) := by decide +kernel
theorem dM_200_39 : decode prog_11_method_94_code 39 = .ok (.aload_n 0, 1) := by decide +kernel
theorem dM_200_40 : decode prog_11_method_94_code 40 = .ok (.iload_n 2, 1) := by decide +kernel
theorem dM_200_41 : decode prog_11_method_94_code 41 = .ok (.putfield 390, 3) := by decide +kernel
theorem dM_200_44 : decode prog_11_method_94_code 44 = .ok (.iconst 0, 1) := by decide +kernel
theorem dM_200_45 : decode prog_11_method_94_code 45 = .ok (.istore 5, 2) := by decide +kernel
theorem dM_200_47 : decode prog_11_method_94_code 47 = .ok (.iconst 0, 1) := by decide +kernel
theorem dM_200_48 : decode prog_11_method_94_code 48 = .ok (.istore 6, 2) := by decide +kernel
theorem dM_200_50 : decode prog_11_method_94_code 50 = .ok (.iload 6, 2) := by decide +kernel
theorem dM_200_52 : decode prog_11_method_94_code 52 = .ok (.iload_n 1, 1) := by decide +kernel
theorem dM_200_53 : decode prog_11_method_94_code 53 = .ok (.if_icmp .ge 41, 3) := by decide +kernel
theorem dM_200_56 : decode prog_11_method_94_code 56 = .ok (.aload_n 0, 1) := by decide +kernel
theorem dM_200_57 : decode prog_11_method_94_code 57 = .ok (.invokevirtual 358, 3) := by decide +kernel
theorem dM_200_60 : decode prog_11_method_94_code 60 = .ok (.aload_n 0, 1) := by decide +kernel
theorem dM_200_61 : decode prog_11_method_94_code 61 = .ok (.invokevirtual 405, 3) := by decide +kernel
theorem dM_200_64 : decode prog_11_method_94_code 64 = .ok (.ifCond .eq 20, 3) := by decide +kernel
theorem dM_200_67 : decode prog_11_method_94_code 67 = .ok (.iload 5, 2) := by decide +kernel
theorem dM_200_69 : decode prog_11_method_94_code 69 = .ok (.iload_n 3, 1) := by decide +kernel
theorem dM_200_70 : decode prog_11_method_94_code 70 = .ok (.ifCond .ne 7, 3) := by decide +kernel
theorem dM_200_73 : decode prog_11_method_94_code 73 = .ok (.iconst 1, 1) := by decide +kernel
theorem dM_200_74 : decode prog_11_method_94_code 74 = .ok (.goto 7, 3) := by decide +kernel
theorem dM_200_77 : decode prog_11_method_94_code 77 = .ok (.aload_n 0, 1) := by decide +kernel
theorem dM_200_78 : decode prog_11_method_94_code 78 = .ok (.invokevirtual 408, 3) := by decide +kernel
theorem dM_200_81 : decode prog_11_method_94_code 81 = .ok (.iadd, 1) := by decide +kernel
theorem dM_200_82 : decode prog_11_method_94_code 82 = .ok (.istore 5, 2) := by decide +kernel
theorem dM_200_84 : decode prog_11_method_94_code 84 = .ok (.aload_n 0, 1) := by decide +kernel
theorem dM_200_85 : decode prog_11_method_94_code 85 = .ok (.invokevirtual 361, 3) := by decide +kernel
theorem dM_200_88 : decode prog_11_method_94_code 88 = .ok (.iinc 6 1, 3) := by decide +kernel
theorem dM_200_91 : decode prog_11_method_94_code 91 = .ok (.goto (-41), 3) := by decide +kernel
theorem dM_200_94 : decode prog_11_method_94_code 94 = .ok (.iload 5, 2) := by decide +kernel
theorem dM_200_96 : decode prog_11_method_94_code 96 = .ok (.ireturn, 1) := by decide +kernel
theorem dM_201_0 : decode prog_11_method_92_code 0 = .ok (.aload_n 0, 1) := by decide +kernel
theorem dM_201_1 : decode prog_11_method_92_code 1 = .ok (.invokevirtual 167, 3) := by decide +kernel
theorem dM_201_4 : decode prog_11_method_92_code 4 = .ok (.iconst 1, 1) := by decide +kernel
theorem dM_201_5 : decode prog_11_method_92_code 5 = .ok (.istore_n 1, 1) := by decide +kernel
theorem dM_201_6 : decode prog_11_method_92_code 6 = .ok (.iconst 0, 1) := by decide +kernel
theorem dM_201_7 : decode prog_11_method_92_code 7 = .ok (.istore_n 2, 1) := by decide +kernel
theorem dM_201_8 : decode prog_11_method_92_code 8 = .ok (.iload_n 2, 1) := by decide +kernel
theorem dM_201_9 : decode prog_11_method_92_code 9 = .ok (.iconst 4, 1) := by decide +kernel
theorem dM_201_10 : decode prog_11_method_92_code 10 = .ok (.if_icmp .ge 40, 3) := by decide +kernel
theorem dM_201_13 : decode prog_11_method_92_code 13 = .ok (.aload_n 0, 1) := by decide +kernel
theorem dM_201_14 : decode prog_11_method_92_code 14 = .ok (.invokevirtual 402, 3) := by decide +kernel
theorem dM_201_17 : decode prog_11_method_92_code 17 = .ok (.istore_n 3, 1) := by decide +kernel
theorem dM_201_18 : decode prog_11_method_92_code 18 = .ok (.aload_n 0, 1) := by decide +kernel
theorem dM_201_19 : decode prog_11_method_92_code 19 = .ok (.invokevirtual 402, 3) := by decide +kernel
theorem dM_201_22 : decode prog_11_method_92_code 22 = .ok (.istore 4, 2) := by decide +kernel
theorem dM_201_24 : decode prog_11_method_92_code 24 = .ok (.iload_n 1, 1) := by decide +kernel
theorem dM_201_25 : decode prog_11_method_92_code 25 = .ok (.ifCond .eq 17, 3) := by decide +kernel
theorem dM_201_28 : decode prog_11_method_92_code 28 = .ok (.aload_n 0, 1) := by decide +kernel
theorem dM_201_29 : decode prog_11_method_92_code 29 = .ok (.iload_n 3, 1) := by decide +kernel
theorem dM_201_30 : decode prog_11_method_92_code 30 = .ok (.iload 4, 2) := by decide +kernel
theorem dM_201_32 : decode prog_11_method_92_code 32 = .ok (.invokevirtual 205, 3) := by decide +kernel
theorem dM_201_35 : decode prog_11_method_92_code 35 = .ok (.ifCond .eq 7, 3) := by decide +kernel
theorem dM_201_38 : decode prog_11_method_92_code 38 = .ok (.iconst 1, 1) := by decide +kernel
theorem dM_201_39 : decode prog_11_method_92_code 39 = .ok (.goto 4, 3) := by decide +kernel
theorem dM_201_42 : decode prog_11_method_92_code 42 = .ok (.iconst 0, 1) := by decide +kernel
theorem dM_201_43 : decode prog_11_method_92_code 43 = .ok (.istore_n 1, 1) := by decide +kernel
theorem dM_201_44 : decode prog_11_method_92_code 44 = .ok (.iinc 2 1, 3) := by decide +kernel
theorem dM_201_47 : decode prog_11_method_92_code 47 = .ok (.goto (-39), 3) := by decide +kernel
theorem dM_201_50 : decode prog_11_method_92_code 50 = .ok (.iload_n 1, 1) := by decide +kernel
theorem dM_201_51 : decode prog_11_method_92_code 51 = .ok (.ireturn, 1) := by decide +kernel
theorem dM_202_0 : decode prog_11_method_91_code 0 = .ok (.aload_n 0, 1) := by decide +kernel
theorem dM_202_1 : decode prog_11_method_91_code 1 = .ok (.iconst 3, 1) := by decide +kernel
theorem dM_202_2 : decode prog_11_method_91_code 2 = .ok (.invokevirtual 396, 3) := by decide +kernel
theorem dM_202_5 : decode prog_11_method_91_code 5 = .ok (.istore_n 1, 1) := by decide +kernel
theorem dM_202_6 : decode prog_11_method_91_code 6 = .ok (.iload_n 1, 1) := by decide +kernel
theorem dM_202_7 : decode prog_11_method_91_code 7 = .ok (.ifCond .ne 10, 3) := by decide +kernel
theorem dM_202_10 : decode prog_11_method_91_code 10 = .ok (.aload_n 0, 1) := by decide +kernel
theorem dM_202_11 : decode prog_11_method_91_code 11 = .ok (.bipush 6, 2) := by decide +kernel
theorem dM_202_13 : decode prog_11_method_91_code 13 = .ok (.invokevirtual 396, 3) := by decide +kernel
theorem dM_202_16 : decode prog_11_method_91_code 16 = .ok (.ireturn, 1) := by decide +kernel
theorem dM_202_17 : decode prog_11_method_91_code 17 = .ok (.iload_n 1, 1) := by decide +kernel
theorem dM_202_18 : decode prog_11_method_91_code 18 = .ok (.iconst 1, 1) := by decide +kernel
theorem dM_202_19 : decode prog_11_method_91_code 19 = .ok (.if_icmp .ne 12, 3) := by decide +kernel
theorem dM_202_22 : decode prog_11_method_91_code 22 = .ok (.bipush 64, 2) := by decide +kernel
theorem dM_202_24 : decode prog_11_method_91_code 24 = .ok (.aload_n 0, 1) := by decide +kernel
theorem dM_202_25 : decode prog_11_method_91_code 25 = .ok (.iconst 3, 1) := by decide +kernel
theorem dM_202_26 : decode prog_11_method_91_code 26 = .ok (.invokevirtual 396, 3) := by decide +kernel
theorem dM_202_29 : decode prog_11_method_91_code 29 = .ok (.iadd, 1) := by decide +kernel
theorem dM_202_30 : decode prog_11_method_91_code 30 = .ok (.ireturn, 1) := by decide +kernel
theorem dM_202_31 : decode prog_11_method_91_code 31 = .ok (.aload_n 0, 1) := by decide +kernel
theorem dM_202_32 : decode prog_11_method_91_code 32 = .ok (.invokevirtual 399, 3) := by decide +kernel
theorem dM_202_35 : decode prog_11_method_91_code 35 = .ok (.istore_n 2, 1) := by decide +kernel
theorem dM_202_36 : decode prog_11_method_91_code 36 = .ok (.aload_n 0, 1) := by decide +kernel
theorem dM_202_37 : decode prog_11_method_91_code 37 = .ok (.iload_n 2, 1) := by decide +kernel
theorem dM_202_38 : decode prog_11_method_91_code 38 = .ok (.aload_n 0, 1) := by decide +kernel
theorem dM_202_39 : decode prog_11_method_91_code 39 = .ok (.invokevirtual 399, 3) := by decide +kernel
theorem dM_202_42 : decode prog_11_method_91_code 42 = .ok (.invokevirtual 219, 3) := by decide +kernel
theorem dM_202_45 : decode prog_11_method_91_code 45 = .ok (.ireturn, 1) := by decide +kernel
theorem dM_203_0 : decode prog_11_method_89_code 0 = .ok (.aload_n 0, 1) := by decide +kernel
theorem dM_203_1 : decode prog_11_method_89_code 1 = .ok (.aload_n 0, 1) := by decide +kernel
theorem dM_203_2 : decode prog_11_method_89_code 2 = .ok (.getfield 390, 3) := by decide +kernel
theorem dM_203_5 : decode prog_11_method_89_code 5 = .ok (.ldc_w 393, 3) := by decide +kernel
theorem dM_203_8 : decode prog_11_method_89_code 8 = .ok (.imul, 1) := by decide +kernel
theorem dM_203_9 : decode prog_11_method_89_code 9 = .ok (.ldc_w 394, 3) := by decide +kernel
theorem dM_203_12 : decode prog_11_method_89_code 12 = .ok (.iadd, 1) := by decide +kernel
theorem dM_203_13 : decode prog_11_method_89_code 13 = .ok (.putfield 390, 3) := by decide +kernel
theorem dM_203_16 : decode prog_11_method_89_code 16 = .ok (.aload_n 0, 1) := by decide +kernel
theorem dM_203_17 : decode prog_11_method_89_code 17 = .ok (.getfield 390, 3) := by decide +kernel
theorem dM_203_20 : decode prog_11_method_89_code 20 = .ok (.ldc_w 395, 3) := by decide +kernel
theorem dM_203_23 : decode prog_11_method_89_code 23 = .ok (.iand, 1) := by decide +kernel
theorem dM_203_24 : decode prog_11_method_89_code 24 = .ok (.sipush 256, 3) := by decide +kernel
theorem dM_203_27 : decode prog_11_method_89_code 27 = .ok (.idiv, 1) := by decide +kernel
theorem dM_203_28 : decode prog_11_method_89_code 28 = .ok (.iload_n 1, 1) := by decide +kernel
theorem dM_203_29 : decode prog_11_method_89_code 29 = .ok (.irem, 1) := by decide +kernel
theorem dM_203_30 : decode prog_11_method_89_code 30 = .ok (.ireturn, 1) := by decide +kernel
theorem dM_204_0 : decode prog_11_method_90_code 0 = .ok (.aload_n 0, 1) := by decide +kernel
theorem dM_204_1 : decode prog_11_method_90_code 1 = .ok (.iconst 2, 1) := by decide +kernel
theorem dM_204_2 : decode prog_11_method_90_code 2 = .ok (.invokevirtual 396, 3) := by decide +kernel
theorem dM_204_5 : decode prog_11_method_90_code 5 = .ok (.ifCond .ne 10, 3) := by decide +kernel
theorem dM_204_8 : decode prog_11_method_90_code 8 = .ok (.aload_n 0, 1) := by decide +kernel
theorem dM_204_9 : decode prog_11_method_90_code 9 = .ok (.bipush 6, 2) := by decide +kernel
theorem dM_204_11 : decode prog_11_method_90_code 11 = .ok (.invokevirtual 396, 3) := by decide +kernel
theorem dM_204_14 : decode prog_11_method_90_code 14 = .ok (.ireturn, 1) := by decide +kernel
theorem dM_204_15 : decode prog_11_method_90_code 15 = .ok (.bipush 64, 2) := by decide +kernel
theorem dM_204_17 : decode prog_11_method_90_code 17 = .ok (.aload_n 0, 1) := by decide +kernel
theorem dM_204_18 : decode prog_11_method_90_code 18 = .ok (.iconst 3, 1) := by decide +kernel
theorem dM_204_19 : decode prog_11_method_90_code 19 = .ok (.invokevirtual 396, 3) := by decide +kernel
theorem dM_204_22 : decode prog_11_method_90_code 22 = .ok (.iadd, 1) := by decide +kernel
theorem dM_204_23 : decode prog_11_method_90_code 23 = .ok (.ireturn, 1) := by decide +kernel
theorem dM_205_0 : decode prog_11_method_93_code 0 = .ok (.iconst 0, 1) := by decide +kernel
theorem dM_205_1 : decode prog_11_method_93_code 1 = .ok (.istore_n 1, 1) := by decide +kernel
theorem dM_205_2 : decode prog_11_method_93_code 2 = .ok (.iconst 0, 1) := by decide +kernel
theorem dM_205_3 : decode prog_11_method_93_code 3 = .ok (.istore_n 2, 1) := by decide +kernel
theorem dM_205_4 : decode prog_11_method_93_code 4 = .ok (.iload_n 2, 1) := by decide +kernel
theorem dM_205_5 : decode prog_11_method_93_code 5 = .ok (.bipush 6, 2) := by decide +kernel
theorem dM_205_7 : decode prog_11_method_93_code 7 = .ok (.if_icmp .ge 30, 3) := by decide +kernel
theorem dM_205_10 : decode prog_11_method_93_code 10 = .ok (.iload_n 1, 1) := by decide +kernel
theorem dM_205_11 : decode prog_11_method_93_code 11 = .ok (.aload_n 0, 1) := by decide +kernel
theorem dM_205_12 : decode prog_11_method_93_code 12 = .ok (.iconst 2, 1) := by decide +kernel
theorem dM_205_13 : decode prog_11_method_93_code 13 = .ok (.iload_n 2, 1) := by decide +kernel
theorem dM_205_14 : decode prog_11_method_93_code 14 = .ok (.imul, 1) := by decide +kernel
theorem dM_205_15 : decode prog_11_method_93_code 15 = .ok (.invokevirtual 148, 3) := by decide +kernel
theorem dM_205_18 : decode prog_11_method_93_code 18 = .ok (.invokestatic 130, 3) := by decide +kernel
theorem dM_205_21 : decode prog_11_method_93_code 21 = .ok (.ifCond .eq 7, 3) := by decide +kernel
theorem dM_205_24 : decode prog_11_method_93_code 24 = .ok (.iconst 0, 1) := by decide +kernel
theorem dM_205_25 : decode prog_11_method_93_code 25 = .ok (.goto 4, 3) := by decide +kernel
theorem dM_205_28 : decode prog_11_method_93_code 28 = .ok (.iconst 1, 1) := by decide +kernel
theorem dM_205_29 : decode prog_11_method_93_code 29 = .ok (.iadd, 1) := by decide +kernel
theorem dM_205_30 : decode prog_11_method_93_code 30 = .ok (.istore_n 1, 1) := by decide +kernel
theorem dM_205_31 : decode prog_11_method_93_code 31 = .ok (.iinc 2 1, 3) := by decide +kernel
theorem dM_205_34 : decode prog_11_method_93_code 34 = .ok (.goto (-30), 3) := by decide +kernel
theorem dM_205_37 : decode prog_11_method_93_code 37 = .ok (.iload_n 1, 1) := by decide +kernel
theorem dM_205_38 : decode prog_11_method_93_code 38 = .ok (.ireturn, 1) := by decide +kernel
theorem dM_206_0 : decode prog_11_method_95_code 0 = .ok (.iload_n 1, 1) := by decide +kernel
theorem dM_206_1 : decode prog_11_method_95_code 1 = .ok (.bipush 11, 2) := by decide +kernel
theorem dM_206_3 : decode prog_11_method_95_code 3 = .ok (.bipush 16, 2) := by decide +kernel
theorem dM_206_5 : decode prog_11_method_95_code 5 = .ok (.invokestatic 250, 3) := by decide +kernel
theorem dM_206_8 : decode prog_11_method_95_code 8 = .ok (.ifCond .eq 13, 3) := by decide +kernel
theorem dM_206_11 : decode prog_11_method_95_code 11 = .ok (.aload_n 0, 1) := by decide +kernel
theorem dM_206_12 : decode prog_11_method_95_code 12 = .ok (.getfield 7, 3) := by decide +kernel
theorem dM_206_15 : decode prog_11_method_95_code 15 = .ok (.iload_n 1, 1) := by decide +kernel
theorem dM_206_16 : decode prog_11_method_95_code 16 = .ok (.bipush 10, 2) := by decide +kernel
theorem dM_206_18 : decode prog_11_method_95_code 18 = .ok (.isub, 1) := by decide +kernel
theorem dM_206_19 : decode prog_11_method_95_code 19 = .ok (.iaload, 1) := by decide +kernel
theorem dM_206_20 : decode prog_11_method_95_code 20 = .ok (.ireturn, 1) := by decide +kernel
theorem dM_206_21 : decode prog_11_method_95_code 21 = .ok (.aload_n 0, 1) := by decide +kernel
theorem dM_206_22 : decode prog_11_method_95_code 22 = .ok (.invokevirtual 411, 3) := by decide +kernel
theorem dM_206_25 : decode prog_11_method_95_code 25 = .ok (.iload_n 1, 1) := by decide +kernel
theorem dM_206_26 : decode prog_11_method_95_code 26 = .ok (.tableswitch 94 0 7 #[46, 53, 60, 65, 70, 77, 84, 89], 46) := by decide +kernel
theorem dM_206_72 : decode prog_11_method_95_code 72 = .ok (.aload_n 0, 1) := by decide +kernel
theorem dM_206_73 : decode prog_11_method_95_code 73 = .ok (.getfield 79, 3) := by decide +kernel
theorem dM_206_76 : decode prog_11_method_95_code 76 = .ok (.iconst 0, 1) := by decide +kernel
theorem dM_206_77 : decode prog_11_method_95_code 77 = .ok (.iaload, 1) := by decide +kernel
theorem dM_206_78 : decode prog_11_method_95_code 78 = .ok (.ireturn, 1) := by decide +kernel
theorem dM_206_79 : decode prog_11_method_95_code 79 = .ok (.aload_n 0, 1) := by decide +kernel
theorem dM_206_80 : decode prog_11_method_95_code 80 = .ok (.getfield 76, 3) := by decide +kernel
theorem dM_206_83 : decode prog_11_method_95_code 83 = .ok (.iconst 0, 1) := by decide +kernel
theorem dM_206_84 : decode prog_11_method_95_code 84 = .ok (.iaload, 1) := by decide +kernel
theorem dM_206_85 : decode prog_11_method_95_code 85 = .ok (.ireturn, 1) := by decide +kernel
theorem dM_206_86 : decode prog_11_method_95_code 86 = .ok (.aload_n 0, 1) := by decide +kernel
theorem dM_206_87 : decode prog_11_method_95_code 87 = .ok (.getfield 266, 3) := by decide +kernel
theorem dM_206_90 : decode prog_11_method_95_code 90 = .ok (.ireturn, 1) := by decide +kernel
theorem dM_206_91 : decode prog_11_method_95_code 91 = .ok (.aload_n 0, 1) := by decide +kernel
theorem dM_206_92 : decode prog_11_method_95_code 92 = .ok (.getfield 254, 3) := by decide +kernel
theorem dM_206_95 : decode prog_11_method_95_code 95 = .ok (.ireturn, 1) := by decide +kernel
theorem dM_206_96 : decode prog_11_method_95_code 96 = .ok (.aload_n 0, 1) := by decide +kernel
theorem dM_206_97 : decode prog_11_method_95_code 97 = .ok (.getfield 73, 3) := by decide +kernel
theorem dM_206_100 : decode prog_11_method_95_code 100 = .ok (.iconst 0, 1) := by decide +kernel
theorem dM_206_101 : decode prog_11_method_95_code 101 = .ok (.iaload, 1) := by decide +kernel
theorem dM_206_102 : decode prog_11_method_95_code 102 = .ok (.ireturn, 1) := by decide +kernel
theorem dM_206_103 : decode prog_11_method_95_code 103 = .ok (.aload_n 0, 1) := by decide +kernel
theorem dM_206_104 : decode prog_11_method_95_code 104 = .ok (.getfield 82, 3) := by decide +kernel
theorem dM_206_107 : decode prog_11_method_95_code 107 = .ok (.iconst 0, 1) := by decide +kernel
theorem dM_206_108 : decode prog_11_method_95_code 108 = .ok (.iaload, 1) := by decide +kernel
theorem dM_206_109 : decode prog_11_method_95_code 109 = .ok (.ireturn, 1) := by decide +kernel
theorem dM_206_110 : decode prog_11_method_95_code 110 = .ok (.aload_n 0, 1) := by decide +kernel
theorem dM_206_111 : decode prog_11_method_95_code 111 = .ok (.getfield 381, 3) := by decide +kernel
theorem dM_206_114 : decode prog_11_method_95_code 114 = .ok (.ireturn, 1) := by decide +kernel
theorem dM_206_115 : decode prog_11_method_95_code 115 = .ok (.aload_n 0, 1) := by decide +kernel
theorem dM_206_116 : decode prog_11_method_95_code 116 = .ok (.getfield 244, 3) := by decide +kernel
theorem dM_206_119 : decode prog_11_method_95_code 119 = .ok (.ireturn, 1) := by decide +kernel
theorem dM_206_120 : decode prog_11_method_95_code 120 = .ok (.bipush (-9), 2) := by decide +kernel
theorem dM_206_122 : decode prog_11_method_95_code 122 = .ok (.ireturn, 1) := by decide +kernel
theorem dM_207_0 : decode prog_11_method_47_code 0 = .ok (.aload_n 0, 1) := by decide +kernel
theorem dM_207_1 : decode prog_11_method_47_code 1 = .ok (.iconst 0, 1) := by decide +kernel
theorem dM_207_2 : decode prog_11_method_47_code 2 = .ok (.putfield 266, 3) := by decide +kernel
theorem dM_207_5 : decode prog_11_method_47_code 5 = .ok (.aload_n 0, 1) := by decide +kernel
theorem dM_207_6 : decode prog_11_method_47_code 6 = .ok (.iconst 0, 1) := by decide +kernel
theorem dM_207_7 : decode prog_11_method_47_code 7 = .ok (.putfield 254, 3) := by decide +kernel
theorem dM_207_10 : decode prog_11_method_47_code 10 = .ok (.iconst 0, 1) := by decide +kernel
theorem dM_207_11 : decode prog_11_method_47_code 11 = .ok (.istore_n 1, 1) := by decide +kernel
theorem dM_207_12 : decode prog_11_method_47_code 12 = .ok (.iload_n 1, 1) := by decide +kernel
theorem dM_207_13 : decode prog_11_method_47_code 13 = .ok (.aload_n 0, 1) := by decide +kernel
theorem dM_207_14 : decode prog_11_method_47_code 14 = .ok (.getfield 112, 3) := by decide +kernel
theorem dM_207_17 : decode prog_11_method_47_code 17 = .ok (.if_icmp .ge 98, 3) := by decide +kernel
theorem dM_207_20 : decode prog_11_method_47_code 20 = .ok (.aload_n 0, 1) := by decide +kernel
theorem dM_207_21 : decode prog_11_method_47_code 21 = .ok (.getfield 91, 3) := by decide +kernel
theorem dM_207_24 : decode prog_11_method_47_code 24 = .ok (.iload_n 1, 1) := by decide +kernel
theorem dM_207_25 : decode prog_11_method_47_code 25 = .ok (.iaload, 1) := by decide +kernel
theorem dM_207_26 : decode prog_11_method_47_code 26 = .ok (.istore_n 2, 1) := by decide +kernel
theorem dM_207_27 : decode prog_11_method_47_code 27 = .ok (.iload_n 2, 1) := by decide +kernel
theorem dM_207_28 : decode prog_11_method_47_code 28 = .ok (.bipush 97, 2) := by decide +kernel
theorem dM_207_30 : decode prog_11_method_47_code 30 = .ok (.bipush 102, 2) := by decide +kernel
theorem dM_207_32 : decode prog_11_method_47_code 32 = .ok (.invokestatic 250, 3) := by decide +kernel
theorem dM_207_35 : decode prog_11_method_47_code 35 = .ok (.ifCond .ne 26, 3) := by decide +kernel
theorem dM_207_38 : decode prog_11_method_47_code 38 = .ok (.iload_n 2, 1) := by decide +kernel
theorem dM_207_39 : decode prog_11_method_47_code 39 = .ok (.bipush 48, 2) := by decide +kernel
theorem dM_207_41 : decode prog_11_method_47_code 41 = .ok (.bipush 57, 2) := by decide +kernel
theorem dM_207_43 : decode prog_11_method_47_code 43 = .ok (.invokestatic 250, 3) := by decide +kernel
theorem dM_207_46 : decode prog_11_method_47_code 46 = .ok (.ifCond .ne 15, 3) := by decide +kernel
theorem dM_207_49 : decode prog_11_method_47_code 49 = .ok (.iload_n 2, 1) := by decide +kernel
theorem dM_207_50 : decode prog_11_method_47_code 50 = .ok (.bipush 110, 2) := by decide +kernel
theorem dM_207_52 : decode prog_11_method_47_code 52 = .ok (.if_icmp .eq 9, 3) := by decide +kernel
theorem dM_207_55 : decode prog_11_method_47_code 55 = .ok (.iload_n 2, 1) := by decide +kernel
theorem dM_207_56 : decode prog_11_method_47_code 56 = .ok (.bipush 40, 2) := by decide +kernel
theorem dM_207_58 : decode prog_11_method_47_code 58 = .ok (.if_icmp .ne 7, 3) := by decide +kernel
theorem dM_207_61 : decode prog_11_method_47_code 61 = .ok (.iconst 1, 1) := by decide +kernel
theorem dM_207_62 : decode prog_11_method_47_code 62 = .ok (.goto 4, 3) := by decide +kernel
theorem dM_207_65 : decode prog_11_method_47_code 65 = .ok (.iconst 0, 1) := by decide +kernel
theorem dM_207_66 : decode prog_11_method_47_code 66 = .ok (.istore_n 3, 1) := by decide +kernel
theorem dM_207_67 : decode prog_11_method_47_code 67 = .ok (.aload_n 0, 1) := by decide +kernel
theorem dM_207_68 : decode prog_11_method_47_code 68 = .ok (.dup, 1) := by decide +kernel
theorem dM_207_69 : decode prog_11_method_47_code 69 = .ok (.getfield 254, 3) := by decide +kernel
theorem dM_207_72 : decode prog_11_method_47_code 72 = .ok (.iload_n 3, 1) := by decide +kernel
theorem dM_207_73 : decode prog_11_method_47_code 73 = .ok (.ifCond .eq 7, 3) := by decide +kernel
theorem dM_207_76 : decode prog_11_method_47_code 76 = .ok (.iconst 1, 1) := by decide +kernel
theorem dM_207_77 : decode prog_11_method_47_code 77 = .ok (.goto 4, 3) := by decide +kernel
theorem dM_207_80 : decode prog_11_method_47_code 80 = .ok (.iconst 0, 1) := by decide +kernel
theorem dM_207_81 : decode prog_11_method_47_code 81 = .ok (.iadd, 1) := by decide +kernel
theorem dM_207_82 : decode prog_11_method_47_code 82 = .ok (.putfield 254, 3) := by decide +kernel
theorem dM_207_85 : decode prog_11_method_47_code 85 = .ok (.aload_n 0, 1) := by decide +kernel
theorem dM_207_86 : decode prog_11_method_47_code 86 = .ok (.dup, 1) := by decide +kernel
theorem dM_207_87 : decode prog_11_method_47_code 87 = .ok (.getfield 266, 3) := by decide +kernel
theorem dM_207_90 : decode prog_11_method_47_code 90 = .ok (.iload_n 3, 1) := by decide +kernel
theorem dM_207_91 : decode prog_11_method_47_code 91 = .ok (.ifCond .ne 9, 3) := by decide +kernel
theorem dM_207_94 : decode prog_11_method_47_code 94 = .ok (.iload_n 2, 1) := by decide +kernel
theorem dM_207_95 : decode prog_11_method_47_code 95 = .ok (.bipush 41, 2) := by decide +kernel
theorem dM_207_97 : decode prog_11_method_47_code 97 = .ok (.if_icmp .ne 7, 3) := by decide +kernel
theorem dM_207_100 : decode prog_11_method_47_code 100 = .ok (.iconst 0, 1) := by decide +kernel
theorem dM_207_101 : decode prog_11_method_47_code 101 = .ok (.goto 4, 3) := by decide +kernel
theorem dM_207_104 : decode prog_11_method_47_code 104 = .ok (.iconst 1, 1) := by decide +kernel
theorem dM_207_105 : decode prog_11_method_47_code 105 = .ok (.iadd, 1) := by decide +kernel
theorem dM_207_106 : decode prog_11_method_47_code 106 = .ok (.putfield 266, 3) := by decide +kernel
theorem dM_207_109 : decode prog_11_method_47_code 109 = .ok (.iinc 1 1, 3) := by decide +kernel
theorem dM_207_112 : decode prog_11_method_47_code 112 = .ok (.goto (-100), 3) := by decide +kernel
theorem dM_207_115 : decode prog_11_method_47_code 115 = .ok (.return_, 1) := by decide +kernel
theorem dM_208_0 : decode prog_12_method_49_code 0 = .ok (.iload_n 0, 1) := by decide +kernel
theorem dM_208_1 : decode prog_12_method_49_code 1 = .ok (.iload_n 0, 1) := by decide +kernel
theorem dM_208_2 : decode prog_12_method_49_code 2 = .ok (.iconst 1, 1) := by decide +kernel
theorem dM_208_3 : decode prog_12_method_49_code 3 = .ok (.iushr, 1) := by decide +kernel
theorem dM_208_4 : decode prog_12_method_49_code 4 = .ok (.ldc_w 265, 3) := by decide +kernel
theorem dM_208_7 : decode prog_12_method_49_code 7 = .ok (.iand, 1) := by decide +kernel
theorem dM_208_8 : decode prog_12_method_49_code 8 = .ok (.isub, 1) := by decide +kernel
theorem dM_208_9 : decode prog_12_method_49_code 9 = .ok (.istore_n 0, 1) := by decide +kernel
theorem dM_208_10 : decode prog_12_method_49_code 10 = .ok (.iload_n 0, 1) := by decide +kernel
theorem dM_208_11 : decode prog_12_method_49_code 11 = .ok (.ldc_w 266, 3) := by decide +kernel
theorem dM_208_14 : decode prog_12_method_49_code 14 = .ok (.iand, 1) := by decide +kernel
theorem dM_208_15 : decode prog_12_method_49_code 15 = .ok (.iload_n 0, 1) := by decide +kernel
theorem dM_208_16 : decode prog_12_method_49_code 16 = .ok (.iconst 2, 1) := by decide +kernel
theorem dM_208_17 : decode prog_12_method_49_code 17 = .ok (.iushr, 1) := by decide +kernel
theorem dM_208_18 : decode prog_12_method_49_code 18 = .ok (.ldc_w 266, 3) := by decide +kernel
theorem dM_208_21 : decode prog_12_method_49_code 21 = .ok (.iand, 1) := by decide +kernel
theorem dM_208_22 : decode prog_12_method_49_code 22 = .ok (.iadd, 1) := by decide +kernel
theorem dM_208_23 : decode prog_12_method_49_code 23 = .ok (.istore_n 0, 1) := by decide +kernel
theorem dM_208_24 : decode prog_12_method_49_code 24 = .ok (.iload_n 0, 1) := by decide +kernel
theorem dM_208_25 : decode prog_12_method_49_code 25 = .ok (.iload_n 0, 1) := by decide +kernel
theorem dM_208_26 : decode prog_12_method_49_code 26 = .ok (.iconst 4, 1) := by decide +kernel
theorem dM_208_27 : decode prog_12_method_49_code 27 = .ok (.iushr, 1) := by decide +kernel
theorem dM_208_28 : decode prog_12_method_49_code 28 = .ok (.iadd, 1) := by decide +kernel
theorem dM_208_29 : decode prog_12_method_49_code 29 = .ok (.ldc_w 267, 3) := by decide +kernel
theorem dM_208_32 : decode prog_12_method_49_code 32 = .ok (.iand, 1) := by decide +kernel
theorem dM_208_33 : decode prog_12_method_49_code 33 = .ok (.istore_n 0, 1) := by decide +kernel
theorem dM_208_34 : decode prog_12_method_49_code 34 = .ok (.iload_n 0, 1) := by decide +kernel
theorem dM_208_35 : decode prog_12_method_49_code 35 = .ok (.iload_n 0, 1) := by decide +kernel
theorem dM_208_36 : decode prog_12_method_49_code 36 = .ok (.bipush 8, 2) := by decide +kernel
theorem dM_208_38 : decode prog_12_method_49_code 38 = .ok (.iushr, 1) := by decide +kernel
theorem dM_208_39 : decode prog_12_method_49_code 39 = .ok (.iadd, 1) := by decide +kernel
theorem dM_208_40 : decode prog_12_method_49_code 40 = .ok (.istore_n 0, 1) := by decide +kernel
theorem dM_208_41 : decode prog_12_method_49_code 41 = .ok (.iload_n 0, 1) := by decide +kernel
theorem dM_208_42 : decode prog_12_method_49_code 42 = .ok (.iload_n 0, 1) := by decide +kernel
theorem dM_208_43 : decode prog_12_method_49_code 43 = .ok (.bipush 16, 2) := by decide +kernel
theorem dM_208_45 : decode prog_12_method_49_code 45 = .ok (.iushr, 1) := by decide +kernel
theorem dM_208_46 : decode prog_12_method_49_code 46 = .ok (.iadd, 1) := by decide +kernel
theorem dM_208_47 : decode prog_12_method_49_code 47 = .ok (.istore_n 0, 1) := by decide +kernel
theorem dM_208_48 : decode prog_12_method_49_code 48 = .ok (.iload_n 0, 1) := by decide +kernel
theorem dM_208_49 : decode prog_12_method_49_code 49 = .ok (.bipush 63, 2) := by decide +kernel
theorem dM_208_51 : decode prog_12_method_49_code 51 = .ok (.iand, 1) := by decide +kernel
theorem dM_208_52 : decode prog_12_method_49_code 52 = .ok (.ireturn, 1) := by decide +kernel
theorem dM_209_0 : decode prog_15_method_103_code 0 = .ok (.iconst 0, 1) := by decide +kernel
theorem dM_209_1 : decode prog_15_method_103_code 1 = .ok (.istore_n 2, 1) := by decide +kernel
theorem dM_209_2 : decode prog_15_method_103_code 2 = .ok (.aload_n 0, 1) := by decide +kernel
theorem dM_209_3 : decode prog_15_method_103_code 3 = .ok (.arraylength, 1) := by decide +kernel
theorem dM_209_4 : decode prog_15_method_103_code 4 = .ok (.istore_n 3, 1) := by decide +kernel
theorem dM_209_5 : decode prog_15_method_103_code 5 = .ok (.iload_n 2, 1) := by decide +kernel
theorem dM_209_6 : decode prog_15_method_103_code 6 = .ok (.iload_n 3, 1) := by decide +kernel
theorem dM_209_7 : decode prog_15_method_103_code 7 = .ok (.if_icmp .ge 13, 3) := by decide +kernel
theorem dM_209_10 : decode prog_15_method_103_code 10 = .ok (.aload_n 0, 1) := by decide +kernel
theorem dM_209_11 : decode prog_15_method_103_code 11 = .ok (.iload_n 2, 1) := by decide +kernel
theorem dM_209_12 : decode prog_15_method_103_code 12 = .ok (.iload_n 1, 1) := by decide +kernel
theorem dM_209_13 : decode prog_15_method_103_code 13 = .ok (.iastore, 1) := by decide +kernel
theorem dM_209_14 : decode prog_15_method_103_code 14 = .ok (.iinc 2 1, 3) := by decide +kernel
theorem dM_209_17 : decode prog_15_method_103_code 17 = .ok (.goto (-12), 3) := by decide +kernel
theorem dM_209_20 : decode prog_15_method_103_code 20 = .ok (.return_, 1) := by decide +kernel
set_option maxRecDepth 100000 in
/-- GoalsInAQueueModel.writesTerm -/
theorem w_170 (sg : rSg) (x1 : Int32) {P : Option rv → rSg → Prop} (h :
    EvS rSkel 2 146 [.inr (.inr (some 725)), .inl x1] sg (fun v1 t2 => ∃ n4, v1 = some (.inl n4) ∧
      EvS rSkel 1 147 [.inl n4] t2 (fun v5 t6 => ∃ n8, v5 = some (.inl n8) ∧
        (n8 = 0 → 
          (74 ≤ (n4 / 2) → 
            (¬ (n4 / 2) = 74 → 
              EvS rSkel 1 169 [.inr (.inr (some 725)), .inl 40] t6 (fun v12 t13 => v12 = none ∧
                EvS rSkel 1 118 [.inr (.inr (some 725)), .inl ((-41))] t13 (fun v15 t16 => v15 = none ∧
                  (rIn (n4 / 2) 6000 = true ∧
                  EvS rSkel 1 118 [.inr (.inr (some 725)), .inl (2 * (t16 728 ((n4 / 2).toNatClampNeg)))] t16 (fun v18 t19 => v18 = none ∧
                    EvS rSkel 1 118 [.inr (.inr (some 725)), .inl ((-46))] t19 (fun v21 t22 => v21 = none ∧
                      (rIn (n4 / 2) 6000 = true ∧
                      EvS rSkel 1 118 [.inr (.inr (some 725)), .inl (2 * (t22 727 ((n4 / 2).toNatClampNeg)))] t22 (fun v24 t25 => v24 = none ∧
                        P none t25)))))))) ∧
            (¬ (¬ (n4 / 2) = 74) → 
              EvS rSkel 1 169 [.inr (.inr (some 725)), .inl 110] t6 (fun v27 t28 => v27 = none ∧
                P none t28))) ∧
          (¬ (74 ≤ (n4 / 2)) → 
            EvS rSkel 1 169 [.inr (.inr (some 725)), .inl ((48 + (n4 / 2)) - 64)] t6 (fun v30 t31 => v30 = none ∧
              P none t31))) ∧
        (¬ (n8 = 0) → 
          EvS rSkel 1 169 [.inr (.inr (some 725)), .inl 95] t6 (fun v33 t34 => v33 = none ∧
            EvS rSkel 1 148 [.inl n4] t34 (fun v36 t37 => ∃ n39, v36 = some (.inl n39) ∧
              EvS rSkel 1 171 [.inr (.inr (some 725)), .inl n39] t37 (fun v40 t41 => ∃ n43, v40 = some (.inl n43) ∧
                EvS rSkel 1 169 [.inr (.inr (some 725)), .inl (48 + (irem n43 10))] t41 (fun v44 t45 => v44 = none ∧
                  P none t45)))))))) : EvS rSkel 3 170 [.inr (.inr (some 725)), .inl x1] sg P := by
  refine EvS.of (ini := false) rfl ⟨rfl, Nat.le_of_ble_eq_true rfl⟩ rfl ?_
  show GoS rSkel 2 9 4 none false prog_11_method_54_code 0 [(0, .inr (.inr (some 725))), (1, .inl x1)] [] sg _
  refine gs0 1 [(0, .inr (.inr (some 725))), (1, .inl x1)] [.inr (.inr (some 725))] dM_170_0 (fun _ => rfl) (Or.inr rfl) ?_
  refine gs0 2 [(0, .inr (.inr (some 725))), (1, .inl x1)] [.inl x1, .inr (.inr (some 725))] dM_170_1 (fun _ => rfl) (Or.inr rfl) ?_
  refine gsCallV (y := 146) (k := 725) (as := [.inr (.inr (some 725)), .inl x1]) (r := []) dM_170_2 rfl rfl rfl (Nat.le_of_ble_eq_true rfl) sk_725 rfl (Nat.le_of_ble_eq_true rfl) (EvS.up h (Nat.le_of_ble_eq_true rfl)) (fun v1 t2 hv3 => ?_)
  obtain ⟨n4, rfl, hn⟩ := hv3
  clear h
  show GoS _ _ _ _ _ _ _ _ [(0, .inr (.inr (some 725))), (1, .inl x1)] [.inl n4] t2 _
  refine gs0 6 [(2, .inl n4), (0, .inr (.inr (some 725))), (1, .inl x1)] [] dM_170_5 (fun _ => rfl) (Or.inr rfl) ?_
  refine gs0 7 [(2, .inl n4), (0, .inr (.inr (some 725))), (1, .inl x1)] [.inl n4] dM_170_6 (fun _ => rfl) (Or.inr rfl) ?_
  refine gs0 8 [(2, .inl n4), (0, .inr (.inr (some 725))), (1, .inl x1)] [.inl 2, .inl n4] dM_170_7 (fun _ => rfl) (Or.inr rfl) ?_
  refine gs0 9 [(2, .inl n4), (0, .inr (.inr (some 725))), (1, .inl x1)] [.inl (n4 / 2)] dM_170_8 (fun _ => rfl) (Or.inr rfl) ?_
  refine gs0 10 [(3, .inl (n4 / 2)), (2, .inl n4), (0, .inr (.inr (some 725))), (1, .inl x1)] [] dM_170_9 (fun _ => rfl) (Or.inr rfl) ?_
  refine gs0 11 [(3, .inl (n4 / 2)), (2, .inl n4), (0, .inr (.inr (some 725))), (1, .inl x1)] [.inl n4] dM_170_10 (fun _ => rfl) (Or.inr rfl) ?_
  refine gsCallS (y := 147) (as := [.inl n4]) (r := []) dM_170_11 rfl (Or.inl rfl) rfl rfl (Nat.le_of_ble_eq_true rfl) (EvS.up hn (Nat.le_of_ble_eq_true rfl)) (fun v5 t6 hv7 => ?_)
  obtain ⟨n8, rfl, hnn⟩ := hv7
  clear hn
  show GoS _ _ _ _ _ _ _ _ [(3, .inl (n4 / 2)), (2, .inl n4), (0, .inr (.inr (some 725))), (1, .inl x1)] [.inl n8] t6 _
  refine gsIf (t := 44) (C := n8 = 0) (r := []) dM_170_14 (fun _ => rfl) (Or.inr rfl) (rTest_iff .eq n8 0) (fun c9 => ?_) (fun c9 => ?_)
  · replace hnn := hnn.1 c9
    refine gs0 45 [(3, .inl (n4 / 2)), (2, .inl n4), (0, .inr (.inr (some 725))), (1, .inl x1)] [.inl (n4 / 2)] dM_170_44 (fun _ => rfl) (Or.inr rfl) ?_
    refine gs0 47 [(3, .inl (n4 / 2)), (2, .inl n4), (0, .inr (.inr (some 725))), (1, .inl x1)] [.inl 74, .inl (n4 / 2)] dM_170_45 (fun _ => rfl) (Or.inr rfl) ?_
    refine gsIf (t := 64) (C := 74 ≤ (n4 / 2)) (r := []) dM_170_47 (fun _ => rfl) (Or.inr rfl) (rTest_iff .ge (n4 / 2) 74) (fun c10 => ?_) (fun c10 => ?_)
    · replace hnn := hnn.1 c10
      refine gs0 65 [(3, .inl (n4 / 2)), (2, .inl n4), (0, .inr (.inr (some 725))), (1, .inl x1)] [.inl (n4 / 2)] dM_170_64 (fun _ => rfl) (Or.inr rfl) ?_
      refine gs0 67 [(3, .inl (n4 / 2)), (2, .inl n4), (0, .inr (.inr (some 725))), (1, .inl x1)] [.inl 74, .inl (n4 / 2)] dM_170_65 (fun _ => rfl) (Or.inr rfl) ?_
      refine gsIf (t := 79) (C := ¬ (n4 / 2) = 74) (r := []) dM_170_67 (fun _ => rfl) (Or.inr rfl) (rTest_iff .ne (n4 / 2) 74) (fun c11 => ?_) (fun c11 => ?_)
      · replace hnn := hnn.1 c11
        refine gs0 80 [(3, .inl (n4 / 2)), (2, .inl n4), (0, .inr (.inr (some 725))), (1, .inl x1)] [.inr (.inr (some 725))] dM_170_79 (fun _ => rfl) (Or.inr rfl) ?_
        refine gs0 82 [(3, .inl (n4 / 2)), (2, .inl n4), (0, .inr (.inr (some 725))), (1, .inl x1)] [.inl 40, .inr (.inr (some 725))] dM_170_80 (fun _ => rfl) (Or.inr rfl) ?_
        refine gsCallV (y := 169) (k := 725) (as := [.inr (.inr (some 725)), .inl 40]) (r := []) dM_170_82 rfl rfl rfl (Nat.le_of_ble_eq_true rfl) sk_725 rfl (Nat.le_of_ble_eq_true rfl) (EvS.up hnn (Nat.le_of_ble_eq_true rfl)) (fun v12 t13 hv14 => ?_)
        obtain ⟨rfl, hnnn⟩ := hv14
        clear hnn
        show GoS _ _ _ _ _ _ _ _ [(3, .inl (n4 / 2)), (2, .inl n4), (0, .inr (.inr (some 725))), (1, .inl x1)] [] t13 _
        refine gs0 86 [(3, .inl (n4 / 2)), (2, .inl n4), (0, .inr (.inr (some 725))), (1, .inl x1)] [.inr (.inr (some 725))] dM_170_85 (fun _ => rfl) (Or.inr rfl) ?_
        refine gs0 88 [(3, .inl (n4 / 2)), (2, .inl n4), (0, .inr (.inr (some 725))), (1, .inl x1)] [.inl ((-41)), .inr (.inr (some 725))] dM_170_86 (fun _ => rfl) (Or.inr rfl) ?_
        refine gsCallV (y := 118) (k := 725) (as := [.inr (.inr (some 725)), .inl ((-41))]) (r := []) dM_170_88 rfl rfl rfl (Nat.le_of_ble_eq_true rfl) sk_725 rfl (Nat.le_of_ble_eq_true rfl) (EvS.up hnnn (Nat.le_of_ble_eq_true rfl)) (fun v15 t16 hv17 => ?_)
        obtain ⟨rfl, hnnnn⟩ := hv17
        clear hnnn
        show GoS _ _ _ _ _ _ _ _ [(3, .inl (n4 / 2)), (2, .inl n4), (0, .inr (.inr (some 725))), (1, .inl x1)] [] t16 _
        refine gs0 92 [(3, .inl (n4 / 2)), (2, .inl n4), (0, .inr (.inr (some 725))), (1, .inl x1)] [.inr (.inr (some 725))] dM_170_91 (fun _ => rfl) (Or.inr rfl) ?_
        refine gs0 93 [(3, .inl (n4 / 2)), (2, .inl n4), (0, .inr (.inr (some 725))), (1, .inl x1)] [.inl 2, .inr (.inr (some 725))] dM_170_92 (fun _ => rfl) (Or.inr rfl) ?_
        refine gs0 94 [(3, .inl (n4 / 2)), (2, .inl n4), (0, .inr (.inr (some 725))), (1, .inl x1)] [.inr (.inr (some 725)), .inl 2, .inr (.inr (some 725))] dM_170_93 (fun _ => rfl) (Or.inr rfl) ?_
        refine gsGetR (some 728) dM_170_94 sk_725 rfl rfl ?_
        refine gs0 98 [(3, .inl (n4 / 2)), (2, .inl n4), (0, .inr (.inr (some 725))), (1, .inl x1)] [.inl (n4 / 2), .inr (.inr (some 728)), .inl 2, .inr (.inr (some 725))] dM_170_97 (fun _ => rfl) (Or.inr rfl) ?_
        refine gsIaldN ((n4 / 2).toNatClampNeg) (t16 728 ((n4 / 2).toNatClampNeg)) dM_170_98 sk_728 hnnnn.1 rfl rfl ?_
        replace hnnnn := hnnnn.2
        refine gs0 100 [(3, .inl (n4 / 2)), (2, .inl n4), (0, .inr (.inr (some 725))), (1, .inl x1)] [.inl (2 * (t16 728 ((n4 / 2).toNatClampNeg))), .inr (.inr (some 725))] dM_170_99 (fun _ => rfl) (Or.inr rfl) ?_
        refine gsCallV (y := 118) (k := 725) (as := [.inr (.inr (some 725)), .inl (2 * (t16 728 ((n4 / 2).toNatClampNeg)))]) (r := []) dM_170_100 rfl rfl rfl (Nat.le_of_ble_eq_true rfl) sk_725 rfl (Nat.le_of_ble_eq_true rfl) (EvS.up hnnnn (Nat.le_of_ble_eq_true rfl)) (fun v18 t19 hv20 => ?_)
        obtain ⟨rfl, hnnnnn⟩ := hv20
        clear hnnnn
        show GoS _ _ _ _ _ _ _ _ [(3, .inl (n4 / 2)), (2, .inl n4), (0, .inr (.inr (some 725))), (1, .inl x1)] [] t19 _
        refine gs0 104 [(3, .inl (n4 / 2)), (2, .inl n4), (0, .inr (.inr (some 725))), (1, .inl x1)] [.inr (.inr (some 725))] dM_170_103 (fun _ => rfl) (Or.inr rfl) ?_
        refine gs0 106 [(3, .inl (n4 / 2)), (2, .inl n4), (0, .inr (.inr (some 725))), (1, .inl x1)] [.inl ((-46)), .inr (.inr (some 725))] dM_170_104 (fun _ => rfl) (Or.inr rfl) ?_
        refine gsCallV (y := 118) (k := 725) (as := [.inr (.inr (some 725)), .inl ((-46))]) (r := []) dM_170_106 rfl rfl rfl (Nat.le_of_ble_eq_true rfl) sk_725 rfl (Nat.le_of_ble_eq_true rfl) (EvS.up hnnnnn (Nat.le_of_ble_eq_true rfl)) (fun v21 t22 hv23 => ?_)
        obtain ⟨rfl, hnnnnnn⟩ := hv23
        clear hnnnnn
        show GoS _ _ _ _ _ _ _ _ [(3, .inl (n4 / 2)), (2, .inl n4), (0, .inr (.inr (some 725))), (1, .inl x1)] [] t22 _
        refine gs0 110 [(3, .inl (n4 / 2)), (2, .inl n4), (0, .inr (.inr (some 725))), (1, .inl x1)] [.inr (.inr (some 725))] dM_170_109 (fun _ => rfl) (Or.inr rfl) ?_
        refine gs0 111 [(3, .inl (n4 / 2)), (2, .inl n4), (0, .inr (.inr (some 725))), (1, .inl x1)] [.inl 2, .inr (.inr (some 725))] dM_170_110 (fun _ => rfl) (Or.inr rfl) ?_
        refine gs0 112 [(3, .inl (n4 / 2)), (2, .inl n4), (0, .inr (.inr (some 725))), (1, .inl x1)] [.inr (.inr (some 725)), .inl 2, .inr (.inr (some 725))] dM_170_111 (fun _ => rfl) (Or.inr rfl) ?_
        refine gsGetR (some 727) dM_170_112 sk_725 rfl rfl ?_
        refine gs0 116 [(3, .inl (n4 / 2)), (2, .inl n4), (0, .inr (.inr (some 725))), (1, .inl x1)] [.inl (n4 / 2), .inr (.inr (some 727)), .inl 2, .inr (.inr (some 725))] dM_170_115 (fun _ => rfl) (Or.inr rfl) ?_
        refine gsIaldN ((n4 / 2).toNatClampNeg) (t22 727 ((n4 / 2).toNatClampNeg)) dM_170_116 sk_727 hnnnnnn.1 rfl rfl ?_
        replace hnnnnnn := hnnnnnn.2
        refine gs0 118 [(3, .inl (n4 / 2)), (2, .inl n4), (0, .inr (.inr (some 725))), (1, .inl x1)] [.inl (2 * (t22 727 ((n4 / 2).toNatClampNeg))), .inr (.inr (some 725))] dM_170_117 (fun _ => rfl) (Or.inr rfl) ?_
        refine gsCallV (y := 118) (k := 725) (as := [.inr (.inr (some 725)), .inl (2 * (t22 727 ((n4 / 2).toNatClampNeg)))]) (r := []) dM_170_118 rfl rfl rfl (Nat.le_of_ble_eq_true rfl) sk_725 rfl (Nat.le_of_ble_eq_true rfl) (EvS.up hnnnnnn (Nat.le_of_ble_eq_true rfl)) (fun v24 t25 hv26 => ?_)
        obtain ⟨rfl, hnnnnnnn⟩ := hv26
        clear hnnnnnn
        show GoS _ _ _ _ _ _ _ _ [(3, .inl (n4 / 2)), (2, .inl n4), (0, .inr (.inr (some 725))), (1, .inl x1)] [] t25 _
        refine gsRet (r := none) dM_170_121 (fun _ => rfl) (Or.inr rfl) ?_
        exact hnnnnnnn
      · replace hnn := hnn.2 c11
        refine gs0 71 [(3, .inl (n4 / 2)), (2, .inl n4), (0, .inr (.inr (some 725))), (1, .inl x1)] [.inr (.inr (some 725))] dM_170_70 (fun _ => rfl) (Or.inr rfl) ?_
        refine gs0 73 [(3, .inl (n4 / 2)), (2, .inl n4), (0, .inr (.inr (some 725))), (1, .inl x1)] [.inl 110, .inr (.inr (some 725))] dM_170_71 (fun _ => rfl) (Or.inr rfl) ?_
        refine gsCallV (y := 169) (k := 725) (as := [.inr (.inr (some 725)), .inl 110]) (r := []) dM_170_73 rfl rfl rfl (Nat.le_of_ble_eq_true rfl) sk_725 rfl (Nat.le_of_ble_eq_true rfl) (EvS.up hnn (Nat.le_of_ble_eq_true rfl)) (fun v27 t28 hv29 => ?_)
        obtain ⟨rfl, hnnn⟩ := hv29
        clear hnn
        show GoS _ _ _ _ _ _ _ _ [(3, .inl (n4 / 2)), (2, .inl n4), (0, .inr (.inr (some 725))), (1, .inl x1)] [] t28 _
        refine gs0 121 [(3, .inl (n4 / 2)), (2, .inl n4), (0, .inr (.inr (some 725))), (1, .inl x1)] [] dM_170_76 (fun _ => rfl) (Or.inr rfl) ?_
        refine gsRet (r := none) dM_170_121 (fun _ => rfl) (Or.inr rfl) ?_
        exact hnnn
    · replace hnn := hnn.2 c10
      refine gs0 51 [(3, .inl (n4 / 2)), (2, .inl n4), (0, .inr (.inr (some 725))), (1, .inl x1)] [.inr (.inr (some 725))] dM_170_50 (fun _ => rfl) (Or.inr rfl) ?_
      refine gs0 53 [(3, .inl (n4 / 2)), (2, .inl n4), (0, .inr (.inr (some 725))), (1, .inl x1)] [.inl 48, .inr (.inr (some 725))] dM_170_51 (fun _ => rfl) (Or.inr rfl) ?_
      refine gs0 54 [(3, .inl (n4 / 2)), (2, .inl n4), (0, .inr (.inr (some 725))), (1, .inl x1)] [.inl (n4 / 2), .inl 48, .inr (.inr (some 725))] dM_170_53 (fun _ => rfl) (Or.inr rfl) ?_
      refine gs0 55 [(3, .inl (n4 / 2)), (2, .inl n4), (0, .inr (.inr (some 725))), (1, .inl x1)] [.inl (48 + (n4 / 2)), .inr (.inr (some 725))] dM_170_54 (fun _ => rfl) (Or.inr rfl) ?_
      refine gs0 57 [(3, .inl (n4 / 2)), (2, .inl n4), (0, .inr (.inr (some 725))), (1, .inl x1)] [.inl 64, .inl (48 + (n4 / 2)), .inr (.inr (some 725))] dM_170_55 (fun _ => rfl) (Or.inr rfl) ?_
      refine gs0 58 [(3, .inl (n4 / 2)), (2, .inl n4), (0, .inr (.inr (some 725))), (1, .inl x1)] [.inl ((48 + (n4 / 2)) - 64), .inr (.inr (some 725))] dM_170_57 (fun _ => rfl) (Or.inr rfl) ?_
      refine gsCallV (y := 169) (k := 725) (as := [.inr (.inr (some 725)), .inl ((48 + (n4 / 2)) - 64)]) (r := []) dM_170_58 rfl rfl rfl (Nat.le_of_ble_eq_true rfl) sk_725 rfl (Nat.le_of_ble_eq_true rfl) (EvS.up hnn (Nat.le_of_ble_eq_true rfl)) (fun v30 t31 hv32 => ?_)
      obtain ⟨rfl, hnnn⟩ := hv32
      clear hnn
      show GoS _ _ _ _ _ _ _ _ [(3, .inl (n4 / 2)), (2, .inl n4), (0, .inr (.inr (some 725))), (1, .inl x1)] [] t31 _
      refine gs0 121 [(3, .inl (n4 / 2)), (2, .inl n4), (0, .inr (.inr (some 725))), (1, .inl x1)] [] dM_170_61 (fun _ => rfl) (Or.inr rfl) ?_
      refine gsRet (r := none) dM_170_121 (fun _ => rfl) (Or.inr rfl) ?_
      exact hnnn
  · replace hnn := hnn.2 c9
    refine gs0 18 [(3, .inl (n4 / 2)), (2, .inl n4), (0, .inr (.inr (some 725))), (1, .inl x1)] [.inr (.inr (some 725))] dM_170_17 (fun _ => rfl) (Or.inr rfl) ?_
    refine gs0 20 [(3, .inl (n4 / 2)), (2, .inl n4), (0, .inr (.inr (some 725))), (1, .inl x1)] [.inl 95, .inr (.inr (some 725))] dM_170_18 (fun _ => rfl) (Or.inr rfl) ?_
    refine gsCallV (y := 169) (k := 725) (as := [.inr (.inr (some 725)), .inl 95]) (r := []) dM_170_20 rfl rfl rfl (Nat.le_of_ble_eq_true rfl) sk_725 rfl (Nat.le_of_ble_eq_true rfl) (EvS.up hnn (Nat.le_of_ble_eq_true rfl)) (fun v33 t34 hv35 => ?_)
    obtain ⟨rfl, hnnn⟩ := hv35
    clear hnn
    show GoS _ _ _ _ _ _ _ _ [(3, .inl (n4 / 2)), (2, .inl n4), (0, .inr (.inr (some 725))), (1, .inl x1)] [] t34 _
    refine gs0 24 [(3, .inl (n4 / 2)), (2, .inl n4), (0, .inr (.inr (some 725))), (1, .inl x1)] [.inr (.inr (some 725))] dM_170_23 (fun _ => rfl) (Or.inr rfl) ?_
    refine gs0 26 [(3, .inl (n4 / 2)), (2, .inl n4), (0, .inr (.inr (some 725))), (1, .inl x1)] [.inl 48, .inr (.inr (some 725))] dM_170_24 (fun _ => rfl) (Or.inr rfl) ?_
    refine gs0 27 [(3, .inl (n4 / 2)), (2, .inl n4), (0, .inr (.inr (some 725))), (1, .inl x1)] [.inr (.inr (some 725)), .inl 48, .inr (.inr (some 725))] dM_170_26 (fun _ => rfl) (Or.inr rfl) ?_
    refine gs0 28 [(3, .inl (n4 / 2)), (2, .inl n4), (0, .inr (.inr (some 725))), (1, .inl x1)] [.inl n4, .inr (.inr (some 725)), .inl 48, .inr (.inr (some 725))] dM_170_27 (fun _ => rfl) (Or.inr rfl) ?_
    refine gsCallS (y := 148) (as := [.inl n4]) (r := [.inr (.inr (some 725)), .inl 48, .inr (.inr (some 725))]) dM_170_28 rfl (Or.inl rfl) rfl rfl (Nat.le_of_ble_eq_true rfl) (EvS.up hnnn (Nat.le_of_ble_eq_true rfl)) (fun v36 t37 hv38 => ?_)
    obtain ⟨n39, rfl, hnnnn⟩ := hv38
    clear hnnn
    show GoS _ _ _ _ _ _ _ _ [(3, .inl (n4 / 2)), (2, .inl n4), (0, .inr (.inr (some 725))), (1, .inl x1)] [.inl n39, .inr (.inr (some 725)), .inl 48, .inr (.inr (some 725))] t37 _
    refine gsCallV (y := 171) (k := 725) (as := [.inr (.inr (some 725)), .inl n39]) (r := [.inl 48, .inr (.inr (some 725))]) dM_170_31 rfl rfl rfl (Nat.le_of_ble_eq_true rfl) sk_725 rfl (Nat.le_of_ble_eq_true rfl) (EvS.up hnnnn (Nat.le_of_ble_eq_true rfl)) (fun v40 t41 hv42 => ?_)
    obtain ⟨n43, rfl, hnnnnn⟩ := hv42
    clear hnnnn
    show GoS _ _ _ _ _ _ _ _ [(3, .inl (n4 / 2)), (2, .inl n4), (0, .inr (.inr (some 725))), (1, .inl x1)] [.inl n43, .inl 48, .inr (.inr (some 725))] t41 _
    refine gs0 36 [(3, .inl (n4 / 2)), (2, .inl n4), (0, .inr (.inr (some 725))), (1, .inl x1)] [.inl 10, .inl n43, .inl 48, .inr (.inr (some 725))] dM_170_34 (fun _ => rfl) (Or.inr rfl) ?_
    refine gs0 37 [(3, .inl (n4 / 2)), (2, .inl n4), (0, .inr (.inr (some 725))), (1, .inl x1)] [.inl (irem n43 10), .inl 48, .inr (.inr (some 725))] dM_170_36 (fun _ => rfl) (Or.inr rfl) ?_
    refine gs0 38 [(3, .inl (n4 / 2)), (2, .inl n4), (0, .inr (.inr (some 725))), (1, .inl x1)] [.inl (48 + (irem n43 10)), .inr (.inr (some 725))] dM_170_37 (fun _ => rfl) (Or.inr rfl) ?_
    refine gsCallV (y := 169) (k := 725) (as := [.inr (.inr (some 725)), .inl (48 + (irem n43 10))]) (r := []) dM_170_38 rfl rfl rfl (Nat.le_of_ble_eq_true rfl) sk_725 rfl (Nat.le_of_ble_eq_true rfl) (EvS.up hnnnnn (Nat.le_of_ble_eq_true rfl)) (fun v44 t45 hv46 => ?_)
    obtain ⟨rfl, hnnnnnn⟩ := hv46
    clear hnnnnn
    show GoS _ _ _ _ _ _ _ _ [(3, .inl (n4 / 2)), (2, .inl n4), (0, .inr (.inr (some 725))), (1, .inl x1)] [] t45 _
    refine gs0 121 [(3, .inl (n4 / 2)), (2, .inl n4), (0, .inr (.inr (some 725))), (1, .inl x1)] [] dM_170_41 (fun _ => rfl) (Or.inr rfl) ?_
    refine gsRet (r := none) dM_170_121 (fun _ => rfl) (Or.inr rfl) ?_
    exact hnnnnnn
def g_171_2  (y1 : Int32) (y2 : Int32) (sg : rSg) (P : Option rv → rSg → Prop) : Prop := GoS rSkel 0 9 3 (some .int) false prog_11_method_53_code 2 [(0, .inr (.inr (some 725))), (1, .inl y1), (2, .inl y2)] [] sg P
set_option maxRecDepth 100000 in
theorem w_171_2 (sg : rSg)  (y1 : Int32) (y2 : Int32) {P : Option rv → rSg → Prop} (h :
    ((sg 725 52) ≤ y2 → 
      (rIn (sg 725 52) 128 = true ∧
      P (some (.inl (((sg 725 52) + 1) - 1))) (up2 (up2 sg 757 ((sg 725 52).toNatClampNeg) y1) 725 52 ((sg 725 52) + 1)))) ∧
    (¬ ((sg 725 52) ≤ y2) → 
      (rIn y2 128 = true ∧
      (¬ (sg 757 y2.toNatClampNeg) = y1 → 
        g_171_2 y1 (y2 + 1) sg P) ∧
      (¬ (¬ (sg 757 y2.toNatClampNeg) = y1) → 
        P (some (.inl y2)) sg)))) : g_171_2 y1 y2 sg P := by
  show GoS rSkel 0 9 3 (some .int) false prog_11_method_53_code 2 [(0, .inr (.inr (some 725))), (1, .inl y1), (2, .inl y2)] [] sg P
  refine gs0 3 [(0, .inr (.inr (some 725))), (1, .inl y1), (2, .inl y2)] [.inl y2] dM_171_2 (fun _ => rfl) (Or.inr rfl) ?_
  refine gs0 4 [(0, .inr (.inr (some 725))), (1, .inl y1), (2, .inl y2)] [.inr (.inr (some 725)), .inl y2] dM_171_3 (fun _ => rfl) (Or.inr rfl) ?_
  refine gsGetE (sg 725 52) dM_171_4 sk_725 rfl rfl rfl ?_
  refine gsIf (t := 28) (C := (sg 725 52) ≤ y2) (r := []) dM_171_7 (fun _ => rfl) (Or.inr rfl) (rTest_iff .ge y2 (sg 725 52)) (fun c1 => ?_) (fun c1 => ?_)
  · replace h := h.1 c1
    refine gs0 29 [(0, .inr (.inr (some 725))), (1, .inl y1), (2, .inl y2)] [.inr (.inr (some 725))] dM_171_28 (fun _ => rfl) (Or.inr rfl) ?_
    refine gsGetR (some 757) dM_171_29 sk_725 rfl rfl ?_
    refine gs0 33 [(0, .inr (.inr (some 725))), (1, .inl y1), (2, .inl y2)] [.inr (.inr (some 725)), .inr (.inr (some 757))] dM_171_32 (fun _ => rfl) (Or.inr rfl) ?_
    refine gsGetE (sg 725 52) dM_171_33 sk_725 rfl rfl rfl ?_
    refine gs0 37 [(0, .inr (.inr (some 725))), (1, .inl y1), (2, .inl y2)] [.inl y1, .inl (sg 725 52), .inr (.inr (some 757))] dM_171_36 (fun _ => rfl) (Or.inr rfl) ?_
    refine gsIastN ((sg 725 52).toNatClampNeg) dM_171_37 sk_757 h.1 rfl ?_
    replace h := h.2
    refine gs0 39 [(0, .inr (.inr (some 725))), (1, .inl y1), (2, .inl y2)] [.inr (.inr (some 725))] dM_171_38 (fun _ => rfl) (Or.inr rfl) ?_
    refine gs0 40 [(0, .inr (.inr (some 725))), (1, .inl y1), (2, .inl y2)] [.inr (.inr (some 725)), .inr (.inr (some 725))] dM_171_39 (fun _ => rfl) (Or.inr rfl) ?_
    refine gsGetE (sg 725 52) dM_171_40 sk_725 rfl rfl (congrFun (up2_nk _ _ _ (by decide)) _) ?_
    refine gs0 44 [(0, .inr (.inr (some 725))), (1, .inl y1), (2, .inl y2)] [.inl 1, .inl (sg 725 52), .inr (.inr (some 725))] dM_171_43 (fun _ => rfl) (Or.inr rfl) ?_
    refine gs0 45 [(0, .inr (.inr (some 725))), (1, .inl y1), (2, .inl y2)] [.inl ((sg 725 52) + 1), .inr (.inr (some 725))] dM_171_44 (fun _ => rfl) (Or.inr rfl) ?_
    refine gsPut dM_171_45 sk_725 rfl rfl rfl (by decide) ?_
    refine gs0 49 [(0, .inr (.inr (some 725))), (1, .inl y1), (2, .inl y2)] [.inr (.inr (some 725))] dM_171_48 (fun _ => rfl) (Or.inr rfl) ?_
    refine gsGetE ((sg 725 52) + 1) dM_171_49 sk_725 rfl rfl (up2_same _ _ _ _) ?_
    refine gs0 53 [(0, .inr (.inr (some 725))), (1, .inl y1), (2, .inl y2)] [.inl 1, .inl ((sg 725 52) + 1)] dM_171_52 (fun _ => rfl) (Or.inr rfl) ?_
    refine gs0 54 [(0, .inr (.inr (some 725))), (1, .inl y1), (2, .inl y2)] [.inl (((sg 725 52) + 1) - 1)] dM_171_53 (fun _ => rfl) (Or.inr rfl) ?_
    refine gsRet (r := some (.inl (((sg 725 52) + 1) - 1))) dM_171_54 (fun _ => rfl) (Or.inr rfl) ?_
    exact h
  · replace h := h.2 c1
    refine gs0 11 [(0, .inr (.inr (some 725))), (1, .inl y1), (2, .inl y2)] [.inr (.inr (some 725))] dM_171_10 (fun _ => rfl) (Or.inr rfl) ?_
    refine gsGetR (some 757) dM_171_11 sk_725 rfl rfl ?_
    refine gs0 15 [(0, .inr (.inr (some 725))), (1, .inl y1), (2, .inl y2)] [.inl y2, .inr (.inr (some 757))] dM_171_14 (fun _ => rfl) (Or.inr rfl) ?_
    refine gsIaldN y2.toNatClampNeg (sg 757 y2.toNatClampNeg) dM_171_15 sk_757 h.1 rfl rfl ?_
    replace h := h.2
    refine gs0 17 [(0, .inr (.inr (some 725))), (1, .inl y1), (2, .inl y2)] [.inl y1, .inl (sg 757 y2.toNatClampNeg)] dM_171_16 (fun _ => rfl) (Or.inr rfl) ?_
    refine gsIf (t := 22) (C := ¬ (sg 757 y2.toNatClampNeg) = y1) (r := []) dM_171_17 (fun _ => rfl) (Or.inr rfl) (rTest_iff .ne (sg 757 y2.toNatClampNeg) y1) (fun c2 => ?_) (fun c2 => ?_)
    · replace h := h.1 c2
      refine gs0 25 [(2, .inl (y2 + 1)), (0, .inr (.inr (some 725))), (1, .inl y1)] [] dM_171_22 (fun _ => rfl) (Or.inr rfl) ?_
      refine gs0 2 [(2, .inl (y2 + 1)), (0, .inr (.inr (some 725))), (1, .inl y1)] [] dM_171_25 (fun _ => rfl) (Or.inr rfl) ?_
      exact GoS.sub (Lnd_keys (ks := [0, 1, 2]) rfl (by decide)) (Lsub_cons rfl (Lsub_cons rfl (Lsub_cons rfl Lsub_nil))) h
    · replace h := h.2 c2
      refine gs0 21 [(0, .inr (.inr (some 725))), (1, .inl y1), (2, .inl y2)] [.inl y2] dM_171_20 (fun _ => rfl) (Or.inr rfl) ?_
      refine gsRet (r := some (.inl y2)) dM_171_21 (fun _ => rfl) (Or.inr rfl) ?_
      exact h
set_option maxRecDepth 100000 in
/-- GoalsInAQueueModel.nameOf -/
theorem w_171 (sg : rSg) (x1 : Int32) {P : Option rv → rSg → Prop} (h :
    g_171_2 x1 0 sg P) : EvS rSkel 1 171 [.inr (.inr (some 725)), .inl x1] sg P := by
  refine EvS.of (ini := false) rfl ⟨rfl, Nat.le_of_ble_eq_true rfl⟩ rfl ?_
  show GoS rSkel 0 9 3 (some .int) false prog_11_method_53_code 0 [(0, .inr (.inr (some 725))), (1, .inl x1)] [] sg _
  refine gs0 1 [(0, .inr (.inr (some 725))), (1, .inl x1)] [.inl 0] dM_171_0 (fun _ => rfl) (Or.inr rfl) ?_
  refine gs0 2 [(2, .inl 0), (0, .inr (.inr (some 725))), (1, .inl x1)] [] dM_171_1 (fun _ => rfl) (Or.inr rfl) ?_
  exact GoS.sub (Lnd_keys (ks := [0, 1, 2]) rfl (by decide)) (Lsub_cons rfl (Lsub_cons rfl (Lsub_cons rfl Lsub_nil))) h
set_option maxRecDepth 100000 in
/-- GoalsInAQueueModel.text -/
theorem w_172 (sg : rSg) (x1 : Int32) (x2 : Int32) (x3 : Int32) {P : Option rv → rSg → Prop} (h :
    EvS rSkel 2 164 [.inr (.inr (some 725)), .inl x1] sg (fun v1 t2 => ∃ n4, v1 = some (.inl n4) ∧
      (n4 = 0 → 
        EvS rSkel 1 128 [.inr (.inr (some 725)), .inl ((-1))] t2 (fun v7 t8 => ∃ n10, v7 = some (.inl n10) ∧
          P (some (.inl n10)) t8)) ∧
      (¬ (n4 = 0) → 
        EvS rSkel 2 165 [.inl x2] t2 (fun v11 t12 => ∃ n14, v11 = some (.inl n14) ∧
          (¬ n14 = 0 → 
            (0 ≤ x3 → 
              EvS rSkel 5 166 [.inr (.inr (some 725)), .inl x1, .inl x2] t12 (fun v18 t19 => v18 = none ∧
                ((t19 725 51) ≤ x3 → 
                  P (some (.inl ((-9)))) t19) ∧
                (¬ ((t19 725 51) ≤ x3) → 
                  (rIn x3 200 = true ∧
                  P (some (.inl (t19 756 x3.toNatClampNeg))) t19)))) ∧
            (¬ (0 ≤ x3) → 
              EvS rSkel 1 128 [.inr (.inr (some 725)), .inl ((-4))] t12 (fun v23 t24 => ∃ n26, v23 = some (.inl n26) ∧
                P (some (.inl n26)) t24))) ∧
          (¬ (¬ n14 = 0) → 
            EvS rSkel 1 128 [.inr (.inr (some 725)), .inl ((-1))] t12 (fun v28 t29 => ∃ n31, v28 = some (.inl n31) ∧
              P (some (.inl n31)) t29)))))) : EvS rSkel 6 172 [.inr (.inr (some 725)), .inl x1, .inl x2, .inl x3] sg P := by
  refine EvS.of (ini := false) rfl ⟨rfl, Nat.le_of_ble_eq_true rfl⟩ rfl ?_
  show GoS rSkel 5 9 5 (some .int) false prog_11_method_62_code 0 [(0, .inr (.inr (some 725))), (1, .inl x1), (2, .inl x2), (3, .inl x3)] [] sg _
  refine gs0 1 [(0, .inr (.inr (some 725))), (1, .inl x1), (2, .inl x2), (3, .inl x3)] [.inr (.inr (some 725))] dM_172_0 (fun _ => rfl) (Or.inr rfl) ?_
  refine gs0 2 [(0, .inr (.inr (some 725))), (1, .inl x1), (2, .inl x2), (3, .inl x3)] [.inl x1, .inr (.inr (some 725))] dM_172_1 (fun _ => rfl) (Or.inr rfl) ?_
  refine gsCallV (y := 164) (k := 725) (as := [.inr (.inr (some 725)), .inl x1]) (r := []) dM_172_2 rfl rfl rfl (Nat.le_of_ble_eq_true rfl) sk_725 rfl (Nat.le_of_ble_eq_true rfl) (EvS.up h (Nat.le_of_ble_eq_true rfl)) (fun v1 t2 hv3 => ?_)
  obtain ⟨n4, rfl, hn⟩ := hv3
  clear h
  show GoS _ _ _ _ _ _ _ _ [(0, .inr (.inr (some 725))), (1, .inl x1), (2, .inl x2), (3, .inl x3)] [.inl n4] t2 _
  refine gsIf (t := 15) (C := n4 = 0) (r := []) dM_172_5 (fun _ => rfl) (Or.inr rfl) (rTest_iff .eq n4 0) (fun c5 => ?_) (fun c5 => ?_)
  · replace hn := hn.1 c5
    refine gs0 16 [(0, .inr (.inr (some 725))), (1, .inl x1), (2, .inl x2), (3, .inl x3)] [.inl ((-1))] dM_172_15 (fun _ => rfl) (Or.inr rfl) ?_
    refine gs0 29 [(0, .inr (.inr (some 725))), (1, .inl x1), (2, .inl x2), (3, .inl x3)] [.inl ((-1))] dM_172_16 (fun _ => rfl) (Or.inr rfl) ?_
    refine gs0 31 [(4, .inl ((-1))), (0, .inr (.inr (some 725))), (1, .inl x1), (2, .inl x2), (3, .inl x3)] [] dM_172_29 (fun _ => rfl) (Or.inr rfl) ?_
    refine gs0 33 [(4, .inl ((-1))), (0, .inr (.inr (some 725))), (1, .inl x1), (2, .inl x2), (3, .inl x3)] [.inl ((-1))] dM_172_31 (fun _ => rfl) (Or.inr rfl) ?_
    refine gsIf (t := 43) (C := ((-1)) = 0) (r := []) dM_172_33 (fun _ => rfl) (Or.inr rfl) (rTest_iff .eq ((-1)) 0) (fun c6 => absurd c6 (by decide)) (fun c6 => ?_)
    refine gs0 37 [(4, .inl ((-1))), (0, .inr (.inr (some 725))), (1, .inl x1), (2, .inl x2), (3, .inl x3)] [.inr (.inr (some 725))] dM_172_36 (fun _ => rfl) (Or.inr rfl) ?_
    refine gs0 39 [(4, .inl ((-1))), (0, .inr (.inr (some 725))), (1, .inl x1), (2, .inl x2), (3, .inl x3)] [.inl ((-1)), .inr (.inr (some 725))] dM_172_37 (fun _ => rfl) (Or.inr rfl) ?_
    refine gsCallV (y := 128) (k := 725) (as := [.inr (.inr (some 725)), .inl ((-1))]) (r := []) dM_172_39 rfl rfl rfl (Nat.le_of_ble_eq_true rfl) sk_725 rfl (Nat.le_of_ble_eq_true rfl) (EvS.up hn (Nat.le_of_ble_eq_true rfl)) (fun v7 t8 hv9 => ?_)
    obtain ⟨n10, rfl, hnn⟩ := hv9
    clear hn
    show GoS _ _ _ _ _ _ _ _ [(4, .inl ((-1))), (0, .inr (.inr (some 725))), (1, .inl x1), (2, .inl x2), (3, .inl x3)] [.inl n10] t8 _
    refine gsRet (r := some (.inl n10)) dM_172_42 (fun _ => rfl) (Or.inr rfl) ?_
    exact hnn
  · replace hn := hn.2 c5
    refine gs0 9 [(0, .inr (.inr (some 725))), (1, .inl x1), (2, .inl x2), (3, .inl x3)] [.inl x2] dM_172_8 (fun _ => rfl) (Or.inr rfl) ?_
    refine gsCallS (y := 165) (as := [.inl x2]) (r := []) dM_172_9 rfl (Or.inl rfl) rfl rfl (Nat.le_of_ble_eq_true rfl) (EvS.up hn (Nat.le_of_ble_eq_true rfl)) (fun v11 t12 hv13 => ?_)
    obtain ⟨n14, rfl, hnn⟩ := hv13
    clear hn
    show GoS _ _ _ _ _ _ _ _ [(0, .inr (.inr (some 725))), (1, .inl x1), (2, .inl x2), (3, .inl x3)] [.inl n14] t12 _
    refine gsIf (t := 19) (C := ¬ n14 = 0) (r := []) dM_172_12 (fun _ => rfl) (Or.inr rfl) (rTest_iff .ne n14 0) (fun c15 => ?_) (fun c15 => ?_)
    · replace hnn := hnn.1 c15
      refine gs0 20 [(0, .inr (.inr (some 725))), (1, .inl x1), (2, .inl x2), (3, .inl x3)] [.inl x3] dM_172_19 (fun _ => rfl) (Or.inr rfl) ?_
      refine gsIf (t := 28) (C := 0 ≤ x3) (r := []) dM_172_20 (fun _ => rfl) (Or.inr rfl) (rTest_iff .ge x3 0) (fun c16 => ?_) (fun c16 => ?_)
      · replace hnn := hnn.1 c16
        refine gs0 29 [(0, .inr (.inr (some 725))), (1, .inl x1), (2, .inl x2), (3, .inl x3)] [.inl 0] dM_172_28 (fun _ => rfl) (Or.inr rfl) ?_
        refine gs0 31 [(4, .inl 0), (0, .inr (.inr (some 725))), (1, .inl x1), (2, .inl x2), (3, .inl x3)] [] dM_172_29 (fun _ => rfl) (Or.inr rfl) ?_
        refine gs0 33 [(4, .inl 0), (0, .inr (.inr (some 725))), (1, .inl x1), (2, .inl x2), (3, .inl x3)] [.inl 0] dM_172_31 (fun _ => rfl) (Or.inr rfl) ?_
        refine gsIf (t := 43) (C := 0 = 0) (r := []) dM_172_33 (fun _ => rfl) (Or.inr rfl) (rTest_iff .eq 0 0) (fun c17 => ?_) (fun c17 => absurd (by decide) c17)
        refine gs0 44 [(4, .inl 0), (0, .inr (.inr (some 725))), (1, .inl x1), (2, .inl x2), (3, .inl x3)] [.inr (.inr (some 725))] dM_172_43 (fun _ => rfl) (Or.inr rfl) ?_
        refine gs0 45 [(4, .inl 0), (0, .inr (.inr (some 725))), (1, .inl x1), (2, .inl x2), (3, .inl x3)] [.inl x1, .inr (.inr (some 725))] dM_172_44 (fun _ => rfl) (Or.inr rfl) ?_
        refine gs0 46 [(4, .inl 0), (0, .inr (.inr (some 725))), (1, .inl x1), (2, .inl x2), (3, .inl x3)] [.inl x2, .inl x1, .inr (.inr (some 725))] dM_172_45 (fun _ => rfl) (Or.inr rfl) ?_
        refine gsCallV (y := 166) (k := 725) (as := [.inr (.inr (some 725)), .inl x1, .inl x2]) (r := []) dM_172_46 rfl rfl rfl (Nat.le_of_ble_eq_true rfl) sk_725 rfl (Nat.le_of_ble_eq_true rfl) (EvS.up hnn (Nat.le_of_ble_eq_true rfl)) (fun v18 t19 hv20 => ?_)
        obtain ⟨rfl, hnnn⟩ := hv20
        clear hnn
        show GoS _ _ _ _ _ _ _ _ [(4, .inl 0), (0, .inr (.inr (some 725))), (1, .inl x1), (2, .inl x2), (3, .inl x3)] [] t19 _
        refine gs0 50 [(4, .inl 0), (0, .inr (.inr (some 725))), (1, .inl x1), (2, .inl x2), (3, .inl x3)] [.inl x3] dM_172_49 (fun _ => rfl) (Or.inr rfl) ?_
        refine gs0 51 [(4, .inl 0), (0, .inr (.inr (some 725))), (1, .inl x1), (2, .inl x2), (3, .inl x3)] [.inr (.inr (some 725)), .inl x3] dM_172_50 (fun _ => rfl) (Or.inr rfl) ?_
        refine gsGetE (t19 725 51) dM_172_51 sk_725 rfl rfl rfl ?_
        refine gsIf (t := 66) (C := (t19 725 51) ≤ x3) (r := []) dM_172_54 (fun _ => rfl) (Or.inr rfl) (rTest_iff .ge x3 (t19 725 51)) (fun c21 => ?_) (fun c21 => ?_)
        · replace hnnn := hnnn.1 c21
          refine gs0 68 [(4, .inl 0), (0, .inr (.inr (some 725))), (1, .inl x1), (2, .inl x2), (3, .inl x3)] [.inl ((-9))] dM_172_66 (fun _ => rfl) (Or.inr rfl) ?_
          refine gsRet (r := some (.inl ((-9)))) dM_172_68 (fun _ => rfl) (Or.inr rfl) ?_
          exact hnnn
        · replace hnnn := hnnn.2 c21
          refine gs0 58 [(4, .inl 0), (0, .inr (.inr (some 725))), (1, .inl x1), (2, .inl x2), (3, .inl x3)] [.inr (.inr (some 725))] dM_172_57 (fun _ => rfl) (Or.inr rfl) ?_
          refine gsGetR (some 756) dM_172_58 sk_725 rfl rfl ?_
          refine gs0 62 [(4, .inl 0), (0, .inr (.inr (some 725))), (1, .inl x1), (2, .inl x2), (3, .inl x3)] [.inl x3, .inr (.inr (some 756))] dM_172_61 (fun _ => rfl) (Or.inr rfl) ?_
          refine gsIaldN x3.toNatClampNeg (t19 756 x3.toNatClampNeg) dM_172_62 sk_756 hnnn.1 rfl rfl ?_
          replace hnnn := hnnn.2
          refine gs0 68 [(4, .inl 0), (0, .inr (.inr (some 725))), (1, .inl x1), (2, .inl x2), (3, .inl x3)] [.inl (t19 756 x3.toNatClampNeg)] dM_172_63 (fun _ => rfl) (Or.inr rfl) ?_
          refine gsRet (r := some (.inl (t19 756 x3.toNatClampNeg))) dM_172_68 (fun _ => rfl) (Or.inr rfl) ?_
          exact hnnn
      · replace hnn := hnn.2 c16
        refine gs0 25 [(0, .inr (.inr (some 725))), (1, .inl x1), (2, .inl x2), (3, .inl x3)] [.inl ((-4))] dM_172_23 (fun _ => rfl) (Or.inr rfl) ?_
        refine gs0 29 [(0, .inr (.inr (some 725))), (1, .inl x1), (2, .inl x2), (3, .inl x3)] [.inl ((-4))] dM_172_25 (fun _ => rfl) (Or.inr rfl) ?_
        refine gs0 31 [(4, .inl ((-4))), (0, .inr (.inr (some 725))), (1, .inl x1), (2, .inl x2), (3, .inl x3)] [] dM_172_29 (fun _ => rfl) (Or.inr rfl) ?_
        refine gs0 33 [(4, .inl ((-4))), (0, .inr (.inr (some 725))), (1, .inl x1), (2, .inl x2), (3, .inl x3)] [.inl ((-4))] dM_172_31 (fun _ => rfl) (Or.inr rfl) ?_
        refine gsIf (t := 43) (C := ((-4)) = 0) (r := []) dM_172_33 (fun _ => rfl) (Or.inr rfl) (rTest_iff .eq ((-4)) 0) (fun c22 => absurd c22 (by decide)) (fun c22 => ?_)
        refine gs0 37 [(4, .inl ((-4))), (0, .inr (.inr (some 725))), (1, .inl x1), (2, .inl x2), (3, .inl x3)] [.inr (.inr (some 725))] dM_172_36 (fun _ => rfl) (Or.inr rfl) ?_
        refine gs0 39 [(4, .inl ((-4))), (0, .inr (.inr (some 725))), (1, .inl x1), (2, .inl x2), (3, .inl x3)] [.inl ((-4)), .inr (.inr (some 725))] dM_172_37 (fun _ => rfl) (Or.inr rfl) ?_
        refine gsCallV (y := 128) (k := 725) (as := [.inr (.inr (some 725)), .inl ((-4))]) (r := []) dM_172_39 rfl rfl rfl (Nat.le_of_ble_eq_true rfl) sk_725 rfl (Nat.le_of_ble_eq_true rfl) (EvS.up hnn (Nat.le_of_ble_eq_true rfl)) (fun v23 t24 hv25 => ?_)
        obtain ⟨n26, rfl, hnnn⟩ := hv25
        clear hnn
        show GoS _ _ _ _ _ _ _ _ [(4, .inl ((-4))), (0, .inr (.inr (some 725))), (1, .inl x1), (2, .inl x2), (3, .inl x3)] [.inl n26] t24 _
        refine gsRet (r := some (.inl n26)) dM_172_42 (fun _ => rfl) (Or.inr rfl) ?_
        exact hnnn
    · replace hnn := hnn.2 c15
      refine gs0 16 [(0, .inr (.inr (some 725))), (1, .inl x1), (2, .inl x2), (3, .inl x3)] [.inl ((-1))] dM_172_15 (fun _ => rfl) (Or.inr rfl) ?_
      refine gs0 29 [(0, .inr (.inr (some 725))), (1, .inl x1), (2, .inl x2), (3, .inl x3)] [.inl ((-1))] dM_172_16 (fun _ => rfl) (Or.inr rfl) ?_
      refine gs0 31 [(4, .inl ((-1))), (0, .inr (.inr (some 725))), (1, .inl x1), (2, .inl x2), (3, .inl x3)] [] dM_172_29 (fun _ => rfl) (Or.inr rfl) ?_
      refine gs0 33 [(4, .inl ((-1))), (0, .inr (.inr (some 725))), (1, .inl x1), (2, .inl x2), (3, .inl x3)] [.inl ((-1))] dM_172_31 (fun _ => rfl) (Or.inr rfl) ?_
      refine gsIf (t := 43) (C := ((-1)) = 0) (r := []) dM_172_33 (fun _ => rfl) (Or.inr rfl) (rTest_iff .eq ((-1)) 0) (fun c27 => absurd c27 (by decide)) (fun c27 => ?_)
      refine gs0 37 [(4, .inl ((-1))), (0, .inr (.inr (some 725))), (1, .inl x1), (2, .inl x2), (3, .inl x3)] [.inr (.inr (some 725))] dM_172_36 (fun _ => rfl) (Or.inr rfl) ?_
      refine gs0 39 [(4, .inl ((-1))), (0, .inr (.inr (some 725))), (1, .inl x1), (2, .inl x2), (3, .inl x3)] [.inl ((-1)), .inr (.inr (some 725))] dM_172_37 (fun _ => rfl) (Or.inr rfl) ?_
      refine gsCallV (y := 128) (k := 725) (as := [.inr (.inr (some 725)), .inl ((-1))]) (r := []) dM_172_39 rfl rfl rfl (Nat.le_of_ble_eq_true rfl) sk_725 rfl (Nat.le_of_ble_eq_true rfl) (EvS.up hnn (Nat.le_of_ble_eq_true rfl)) (fun v28 t29 hv30 => ?_)
      obtain ⟨n31, rfl, hnnn⟩ := hv30
      clear hnn
      show GoS _ _ _ _ _ _ _ _ [(4, .inl ((-1))), (0, .inr (.inr (some 725))), (1, .inl x1), (2, .inl x2), (3, .inl x3)] [.inl n31] t29 _
      refine gsRet (r := some (.inl n31)) dM_172_42 (fun _ => rfl) (Or.inr rfl) ?_
      exact hnnn
set_option maxRecDepth 100000 in
/-- GoalsInAQueueModel.when -/
theorem w_173 (sg : rSg) (x1 : Int32) {P : Option rv → rSg → Prop} (h :
    EvS rSkel 2 164 [.inr (.inr (some 725)), .inl x1] sg (fun v1 t2 => ∃ n4, v1 = some (.inl n4) ∧
      (n4 = 0 → 
        EvS rSkel 1 128 [.inr (.inr (some 725)), .inl ((-1))] t2 (fun v6 t7 => ∃ n9, v6 = some (.inl n9) ∧
          P (some (.inl n9)) t7)) ∧
      (¬ (n4 = 0) → 
        (rIn x1 60 = true ∧
        P (some (.inl (t2 744 x1.toNatClampNeg))) t2)))) : EvS rSkel 3 173 [.inr (.inr (some 725)), .inl x1] sg P := by
  refine EvS.of (ini := false) rfl ⟨rfl, Nat.le_of_ble_eq_true rfl⟩ rfl ?_
  show GoS rSkel 2 9 2 (some .int) false prog_11_method_63_code 0 [(0, .inr (.inr (some 725))), (1, .inl x1)] [] sg _
  refine gs0 1 [(0, .inr (.inr (some 725))), (1, .inl x1)] [.inr (.inr (some 725))] dM_173_0 (fun _ => rfl) (Or.inr rfl) ?_
  refine gs0 2 [(0, .inr (.inr (some 725))), (1, .inl x1)] [.inl x1, .inr (.inr (some 725))] dM_173_1 (fun _ => rfl) (Or.inr rfl) ?_
  refine gsCallV (y := 164) (k := 725) (as := [.inr (.inr (some 725)), .inl x1]) (r := []) dM_173_2 rfl rfl rfl (Nat.le_of_ble_eq_true rfl) sk_725 rfl (Nat.le_of_ble_eq_true rfl) (EvS.up h (Nat.le_of_ble_eq_true rfl)) (fun v1 t2 hv3 => ?_)
  obtain ⟨n4, rfl, hn⟩ := hv3
  clear h
  show GoS _ _ _ _ _ _ _ _ [(0, .inr (.inr (some 725))), (1, .inl x1)] [.inl n4] t2 _
  refine gsIf (t := 17) (C := n4 = 0) (r := []) dM_173_5 (fun _ => rfl) (Or.inr rfl) (rTest_iff .eq n4 0) (fun c5 => ?_) (fun c5 => ?_)
  · replace hn := hn.1 c5
    refine gs0 18 [(0, .inr (.inr (some 725))), (1, .inl x1)] [.inr (.inr (some 725))] dM_173_17 (fun _ => rfl) (Or.inr rfl) ?_
    refine gs0 19 [(0, .inr (.inr (some 725))), (1, .inl x1)] [.inl ((-1)), .inr (.inr (some 725))] dM_173_18 (fun _ => rfl) (Or.inr rfl) ?_
    refine gsCallV (y := 128) (k := 725) (as := [.inr (.inr (some 725)), .inl ((-1))]) (r := []) dM_173_19 rfl rfl rfl (Nat.le_of_ble_eq_true rfl) sk_725 rfl (Nat.le_of_ble_eq_true rfl) (EvS.up hn (Nat.le_of_ble_eq_true rfl)) (fun v6 t7 hv8 => ?_)
    obtain ⟨n9, rfl, hnn⟩ := hv8
    clear hn
    show GoS _ _ _ _ _ _ _ _ [(0, .inr (.inr (some 725))), (1, .inl x1)] [.inl n9] t7 _
    refine gsRet (r := some (.inl n9)) dM_173_22 (fun _ => rfl) (Or.inr rfl) ?_
    exact hnn
  · replace hn := hn.2 c5
    refine gs0 9 [(0, .inr (.inr (some 725))), (1, .inl x1)] [.inr (.inr (some 725))] dM_173_8 (fun _ => rfl) (Or.inr rfl) ?_
    refine gsGetR (some 744) dM_173_9 sk_725 rfl rfl ?_
    refine gs0 13 [(0, .inr (.inr (some 725))), (1, .inl x1)] [.inl x1, .inr (.inr (some 744))] dM_173_12 (fun _ => rfl) (Or.inr rfl) ?_
    refine gsIaldN x1.toNatClampNeg (t2 744 x1.toNatClampNeg) dM_173_13 sk_744 hn.1 rfl rfl ?_
    replace hn := hn.2
    refine gs0 22 [(0, .inr (.inr (some 725))), (1, .inl x1)] [.inl (t2 744 x1.toNatClampNeg)] dM_173_14 (fun _ => rfl) (Or.inr rfl) ?_
    refine gsRet (r := some (.inl (t2 744 x1.toNatClampNeg))) dM_173_22 (fun _ => rfl) (Or.inr rfl) ?_
    exact hn
set_option maxRecDepth 100000 in
/-- GoalsInAQueueModel.kept -/
theorem w_174 (sg : rSg) (x1 : Int32) {P : Option rv → rSg → Prop} (h :
    EvS rSkel 2 164 [.inr (.inr (some 725)), .inl x1] sg (fun v1 t2 => ∃ n4, v1 = some (.inl n4) ∧
      (n4 = 0 → 
        EvS rSkel 1 128 [.inr (.inr (some 725)), .inl ((-1))] t2 (fun v6 t7 => ∃ n9, v6 = some (.inl n9) ∧
          P (some (.inl n9)) t7)) ∧
      (¬ (n4 = 0) → 
        (rIn x1 60 = true ∧
        P (some (.inl (t2 745 x1.toNatClampNeg))) t2)))) : EvS rSkel 3 174 [.inr (.inr (some 725)), .inl x1] sg P := by
  refine EvS.of (ini := false) rfl ⟨rfl, Nat.le_of_ble_eq_true rfl⟩ rfl ?_
  show GoS rSkel 2 9 2 (some .int) false prog_11_method_64_code 0 [(0, .inr (.inr (some 725))), (1, .inl x1)] [] sg _
  refine gs0 1 [(0, .inr (.inr (some 725))), (1, .inl x1)] [.inr (.inr (some 725))] dM_174_0 (fun _ => rfl) (Or.inr rfl) ?_
  refine gs0 2 [(0, .inr (.inr (some 725))), (1, .inl x1)] [.inl x1, .inr (.inr (some 725))] dM_174_1 (fun _ => rfl) (Or.inr rfl) ?_
  refine gsCallV (y := 164) (k := 725) (as := [.inr (.inr (some 725)), .inl x1]) (r := []) dM_174_2 rfl rfl rfl (Nat.le_of_ble_eq_true rfl) sk_725 rfl (Nat.le_of_ble_eq_true rfl) (EvS.up h (Nat.le_of_ble_eq_true rfl)) (fun v1 t2 hv3 => ?_)
  obtain ⟨n4, rfl, hn⟩ := hv3
  clear h
  show GoS _ _ _ _ _ _ _ _ [(0, .inr (.inr (some 725))), (1, .inl x1)] [.inl n4] t2 _
  refine gsIf (t := 17) (C := n4 = 0) (r := []) dM_174_5 (fun _ => rfl) (Or.inr rfl) (rTest_iff .eq n4 0) (fun c5 => ?_) (fun c5 => ?_)
  · replace hn := hn.1 c5
    refine gs0 18 [(0, .inr (.inr (some 725))), (1, .inl x1)] [.inr (.inr (some 725))] dM_174_17 (fun _ => rfl) (Or.inr rfl) ?_
    refine gs0 19 [(0, .inr (.inr (some 725))), (1, .inl x1)] [.inl ((-1)), .inr (.inr (some 725))] dM_174_18 (fun _ => rfl) (Or.inr rfl) ?_
    refine gsCallV (y := 128) (k := 725) (as := [.inr (.inr (some 725)), .inl ((-1))]) (r := []) dM_174_19 rfl rfl rfl (Nat.le_of_ble_eq_true rfl) sk_725 rfl (Nat.le_of_ble_eq_true rfl) (EvS.up hn (Nat.le_of_ble_eq_true rfl)) (fun v6 t7 hv8 => ?_)
    obtain ⟨n9, rfl, hnn⟩ := hv8
    clear hn
    show GoS _ _ _ _ _ _ _ _ [(0, .inr (.inr (some 725))), (1, .inl x1)] [.inl n9] t7 _
    refine gsRet (r := some (.inl n9)) dM_174_22 (fun _ => rfl) (Or.inr rfl) ?_
    exact hnn
  · replace hn := hn.2 c5
    refine gs0 9 [(0, .inr (.inr (some 725))), (1, .inl x1)] [.inr (.inr (some 725))] dM_174_8 (fun _ => rfl) (Or.inr rfl) ?_
    refine gsGetR (some 745) dM_174_9 sk_725 rfl rfl ?_
    refine gs0 13 [(0, .inr (.inr (some 725))), (1, .inl x1)] [.inl x1, .inr (.inr (some 745))] dM_174_12 (fun _ => rfl) (Or.inr rfl) ?_
    refine gsIaldN x1.toNatClampNeg (t2 745 x1.toNatClampNeg) dM_174_13 sk_745 hn.1 rfl rfl ?_
    replace hn := hn.2
    refine gs0 22 [(0, .inr (.inr (some 725))), (1, .inl x1)] [.inl (t2 745 x1.toNatClampNeg)] dM_174_14 (fun _ => rfl) (Or.inr rfl) ?_
    refine gsRet (r := some (.inl (t2 745 x1.toNatClampNeg))) dM_174_22 (fun _ => rfl) (Or.inr rfl) ?_
    exact hn
set_option maxRecDepth 100000 in
/-- GoalsInAQueueModel.queue -/
theorem w_175 (sg : rSg) (x1 : Int32) {P : Option rv → rSg → Prop} (h :
    EvS rSkel 1 125 [.inr (.inr (some 725)), .inl 0] sg (fun v1 t2 => ∃ n4, v1 = some (.inl n4) ∧
      (x1 = 0 → 
        P (some (.inl (t2 747 0))) t2) ∧
      (x1 = 1 → 
        P (some (.inl (t2 750 0))) t2) ∧
      (x1 = 2 → 
        P (some (.inl (t2 751 0))) t2) ∧
      (x1 = 3 → 
        (¬ (t2 747 0) = 0 → 
          (rIn n4 84 = true ∧
          EvS rSkel 1 142 [.inr (.inr (some 725)), .inl (t2 740 n4.toNatClampNeg)] t2 (fun v7 t8 => ∃ n10, v7 = some (.inl n10) ∧
            P (some (.inl n10)) t8))) ∧
        (¬ (¬ (t2 747 0) = 0) → 
          P (some (.inl ((-9)))) t2)) ∧
      (x1 = 4 → 
        (¬ (t2 747 0) = 0 → 
          (rIn n4 84 = true ∧
          EvS rSkel 1 142 [.inr (.inr (some 725)), .inl (t2 741 n4.toNatClampNeg)] t2 (fun v12 t13 => ∃ n15, v12 = some (.inl n15) ∧
            P (some (.inl n15)) t13))) ∧
        (¬ (¬ (t2 747 0) = 0) → 
          P (some (.inl ((-9)))) t2)) ∧
      (x1 = 5 → 
        (¬ (t2 747 0) = 0 → 
          (rIn n4 84 = true ∧
          P (some (.inl (t2 742 n4.toNatClampNeg))) t2)) ∧
        (¬ (¬ (t2 747 0) = 0) → 
          P (some (.inl ((-9)))) t2)) ∧
      (¬ x1 = 0 ∧ ¬ x1 = 1 ∧ ¬ x1 = 2 ∧ ¬ x1 = 3 ∧ ¬ x1 = 4 ∧ ¬ x1 = 5 →
        EvS rSkel 1 128 [.inr (.inr (some 725)), .inl ((-2))] t2 (fun v17 t18 => ∃ n20, v17 = some (.inl n20) ∧
          P (some (.inl n20)) t18)))) : EvS rSkel 2 175 [.inr (.inr (some 725)), .inl x1] sg P := by
  refine EvS.of (ini := false) rfl ⟨rfl, Nat.le_of_ble_eq_true rfl⟩ rfl ?_
  show GoS rSkel 1 9 3 (some .int) false prog_11_method_65_code 0 [(0, .inr (.inr (some 725))), (1, .inl x1)] [] sg _
  refine gs0 1 [(0, .inr (.inr (some 725))), (1, .inl x1)] [.inr (.inr (some 725))] dM_175_0 (fun _ => rfl) (Or.inr rfl) ?_
  refine gs0 2 [(0, .inr (.inr (some 725))), (1, .inl x1)] [.inl 0, .inr (.inr (some 725))] dM_175_1 (fun _ => rfl) (Or.inr rfl) ?_
  refine gsCallV (y := 125) (k := 725) (as := [.inr (.inr (some 725)), .inl 0]) (r := []) dM_175_2 rfl rfl rfl (Nat.le_of_ble_eq_true rfl) sk_725 rfl (Nat.le_of_ble_eq_true rfl) (EvS.up h (Nat.le_of_ble_eq_true rfl)) (fun v1 t2 hv3 => ?_)
  obtain ⟨n4, rfl, hn⟩ := hv3
  clear h
  show GoS _ _ _ _ _ _ _ _ [(0, .inr (.inr (some 725))), (1, .inl x1)] [.inl n4] t2 _
  refine gs0 6 [(2, .inl n4), (0, .inr (.inr (some 725))), (1, .inl x1)] [] dM_175_5 (fun _ => rfl) (Or.inr rfl) ?_
  refine gs0 7 [(2, .inl n4), (0, .inr (.inr (some 725))), (1, .inl x1)] [.inl x1] dM_175_6 (fun _ => rfl) (Or.inr rfl) ?_
  by_cases c5_0 : x1 = 0
  · replace hn := hn.1 c5_0
    refine gs0 44 [(2, .inl n4), (0, .inr (.inr (some 725))), (1, .inl x1)] [] dM_175_7 (fun _ => by rw [c5_0]; rfl) (Or.inl rfl) ?_
    refine gs0 45 [(2, .inl n4), (0, .inr (.inr (some 725))), (1, .inl x1)] [.inr (.inr (some 725))] dM_175_44 (fun _ => rfl) (Or.inr rfl) ?_
    refine gsGetR (some 747) dM_175_45 sk_725 rfl rfl ?_
    refine gs0 49 [(2, .inl n4), (0, .inr (.inr (some 725))), (1, .inl x1)] [.inl 0, .inr (.inr (some 747))] dM_175_48 (fun _ => rfl) (Or.inr rfl) ?_
    refine gsIaldN 0 (t2 747 0) dM_175_49 sk_747 rfl rfl rfl ?_
    refine gsRet (r := some (.inl (t2 747 0))) dM_175_50 (fun _ => rfl) (Or.inr rfl) ?_
    exact hn
  replace hn := hn.2
  by_cases c5_1 : x1 = 1
  · replace hn := hn.1 c5_1
    refine gs0 51 [(2, .inl n4), (0, .inr (.inr (some 725))), (1, .inl x1)] [] dM_175_7 (fun _ => by rw [c5_1]; rfl) (Or.inl rfl) ?_
    refine gs0 52 [(2, .inl n4), (0, .inr (.inr (some 725))), (1, .inl x1)] [.inr (.inr (some 725))] dM_175_51 (fun _ => rfl) (Or.inr rfl) ?_
    refine gsGetR (some 750) dM_175_52 sk_725 rfl rfl ?_
    refine gs0 56 [(2, .inl n4), (0, .inr (.inr (some 725))), (1, .inl x1)] [.inl 0, .inr (.inr (some 750))] dM_175_55 (fun _ => rfl) (Or.inr rfl) ?_
    refine gsIaldN 0 (t2 750 0) dM_175_56 sk_750 rfl rfl rfl ?_
    refine gsRet (r := some (.inl (t2 750 0))) dM_175_57 (fun _ => rfl) (Or.inr rfl) ?_
    exact hn
  replace hn := hn.2
  by_cases c5_2 : x1 = 2
  · replace hn := hn.1 c5_2
    refine gs0 58 [(2, .inl n4), (0, .inr (.inr (some 725))), (1, .inl x1)] [] dM_175_7 (fun _ => by rw [c5_2]; rfl) (Or.inl rfl) ?_
    refine gs0 59 [(2, .inl n4), (0, .inr (.inr (some 725))), (1, .inl x1)] [.inr (.inr (some 725))] dM_175_58 (fun _ => rfl) (Or.inr rfl) ?_
    refine gsGetR (some 751) dM_175_59 sk_725 rfl rfl ?_
    refine gs0 63 [(2, .inl n4), (0, .inr (.inr (some 725))), (1, .inl x1)] [.inl 0, .inr (.inr (some 751))] dM_175_62 (fun _ => rfl) (Or.inr rfl) ?_
    refine gsIaldN 0 (t2 751 0) dM_175_63 sk_751 rfl rfl rfl ?_
    refine gsRet (r := some (.inl (t2 751 0))) dM_175_64 (fun _ => rfl) (Or.inr rfl) ?_
    exact hn
  replace hn := hn.2
  by_cases c5_3 : x1 = 3
  · replace hn := hn.1 c5_3
    refine gs0 65 [(2, .inl n4), (0, .inr (.inr (some 725))), (1, .inl x1)] [] dM_175_7 (fun _ => by rw [c5_3]; rfl) (Or.inl rfl) ?_
    refine gs0 66 [(2, .inl n4), (0, .inr (.inr (some 725))), (1, .inl x1)] [.inr (.inr (some 725))] dM_175_65 (fun _ => rfl) (Or.inr rfl) ?_
    refine gsGetR (some 747) dM_175_66 sk_725 rfl rfl ?_
    refine gs0 70 [(2, .inl n4), (0, .inr (.inr (some 725))), (1, .inl x1)] [.inl 0, .inr (.inr (some 747))] dM_175_69 (fun _ => rfl) (Or.inr rfl) ?_
    refine gsIaldN 0 (t2 747 0) dM_175_70 sk_747 rfl rfl rfl ?_
    refine gsIf (t := 79) (C := ¬ (t2 747 0) = 0) (r := []) dM_175_71 (fun _ => rfl) (Or.inr rfl) (rTest_iff .ne (t2 747 0) 0) (fun c6 => ?_) (fun c6 => ?_)
    · replace hn := hn.1 c6
      refine gs0 80 [(2, .inl n4), (0, .inr (.inr (some 725))), (1, .inl x1)] [.inr (.inr (some 725))] dM_175_79 (fun _ => rfl) (Or.inr rfl) ?_
      refine gs0 81 [(2, .inl n4), (0, .inr (.inr (some 725))), (1, .inl x1)] [.inr (.inr (some 725)), .inr (.inr (some 725))] dM_175_80 (fun _ => rfl) (Or.inr rfl) ?_
      refine gsGetR (some 740) dM_175_81 sk_725 rfl rfl ?_
      refine gs0 85 [(2, .inl n4), (0, .inr (.inr (some 725))), (1, .inl x1)] [.inl n4, .inr (.inr (some 740)), .inr (.inr (some 725))] dM_175_84 (fun _ => rfl) (Or.inr rfl) ?_
      refine gsIaldN n4.toNatClampNeg (t2 740 n4.toNatClampNeg) dM_175_85 sk_740 hn.1 rfl rfl ?_
      replace hn := hn.2
      refine gsCallV (y := 142) (k := 725) (as := [.inr (.inr (some 725)), .inl (t2 740 n4.toNatClampNeg)]) (r := []) dM_175_86 rfl rfl rfl (Nat.le_of_ble_eq_true rfl) sk_725 rfl (Nat.le_of_ble_eq_true rfl) (EvS.up hn (Nat.le_of_ble_eq_true rfl)) (fun v7 t8 hv9 => ?_)
      obtain ⟨n10, rfl, hnn⟩ := hv9
      clear hn
      show GoS _ _ _ _ _ _ _ _ [(2, .inl n4), (0, .inr (.inr (some 725))), (1, .inl x1)] [.inl n10] t8 _
      refine gsRet (r := some (.inl n10)) dM_175_89 (fun _ => rfl) (Or.inr rfl) ?_
      exact hnn
    · replace hn := hn.2 c6
      refine gs0 76 [(2, .inl n4), (0, .inr (.inr (some 725))), (1, .inl x1)] [.inl ((-9))] dM_175_74 (fun _ => rfl) (Or.inr rfl) ?_
      refine gs0 89 [(2, .inl n4), (0, .inr (.inr (some 725))), (1, .inl x1)] [.inl ((-9))] dM_175_76 (fun _ => rfl) (Or.inr rfl) ?_
      refine gsRet (r := some (.inl ((-9)))) dM_175_89 (fun _ => rfl) (Or.inr rfl) ?_
      exact hn
  replace hn := hn.2
  by_cases c5_4 : x1 = 4
  · replace hn := hn.1 c5_4
    refine gs0 90 [(2, .inl n4), (0, .inr (.inr (some 725))), (1, .inl x1)] [] dM_175_7 (fun _ => by rw [c5_4]; rfl) (Or.inl rfl) ?_
    refine gs0 91 [(2, .inl n4), (0, .inr (.inr (some 725))), (1, .inl x1)] [.inr (.inr (some 725))] dM_175_90 (fun _ => rfl) (Or.inr rfl) ?_
    refine gsGetR (some 747) dM_175_91 sk_725 rfl rfl ?_
    refine gs0 95 [(2, .inl n4), (0, .inr (.inr (some 725))), (1, .inl x1)] [.inl 0, .inr (.inr (some 747))] dM_175_94 (fun _ => rfl) (Or.inr rfl) ?_
    refine gsIaldN 0 (t2 747 0) dM_175_95 sk_747 rfl rfl rfl ?_
    refine gsIf (t := 104) (C := ¬ (t2 747 0) = 0) (r := []) dM_175_96 (fun _ => rfl) (Or.inr rfl) (rTest_iff .ne (t2 747 0) 0) (fun c11 => ?_) (fun c11 => ?_)
    · replace hn := hn.1 c11
      refine gs0 105 [(2, .inl n4), (0, .inr (.inr (some 725))), (1, .inl x1)] [.inr (.inr (some 725))] dM_175_104 (fun _ => rfl) (Or.inr rfl) ?_
      refine gs0 106 [(2, .inl n4), (0, .inr (.inr (some 725))), (1, .inl x1)] [.inr (.inr (some 725)), .inr (.inr (some 725))] dM_175_105 (fun _ => rfl) (Or.inr rfl) ?_
      refine gsGetR (some 741) dM_175_106 sk_725 rfl rfl ?_
      refine gs0 110 [(2, .inl n4), (0, .inr (.inr (some 725))), (1, .inl x1)] [.inl n4, .inr (.inr (some 741)), .inr (.inr (some 725))] dM_175_109 (fun _ => rfl) (Or.inr rfl) ?_
      refine gsIaldN n4.toNatClampNeg (t2 741 n4.toNatClampNeg) dM_175_110 sk_741 hn.1 rfl rfl ?_
      replace hn := hn.2
      refine gsCallV (y := 142) (k := 725) (as := [.inr (.inr (some 725)), .inl (t2 741 n4.toNatClampNeg)]) (r := []) dM_175_111 rfl rfl rfl (Nat.le_of_ble_eq_true rfl) sk_725 rfl (Nat.le_of_ble_eq_true rfl) (EvS.up hn (Nat.le_of_ble_eq_true rfl)) (fun v12 t13 hv14 => ?_)
      obtain ⟨n15, rfl, hnn⟩ := hv14
      clear hn
      show GoS _ _ _ _ _ _ _ _ [(2, .inl n4), (0, .inr (.inr (some 725))), (1, .inl x1)] [.inl n15] t13 _
      refine gsRet (r := some (.inl n15)) dM_175_114 (fun _ => rfl) (Or.inr rfl) ?_
      exact hnn
    · replace hn := hn.2 c11
      refine gs0 101 [(2, .inl n4), (0, .inr (.inr (some 725))), (1, .inl x1)] [.inl ((-9))] dM_175_99 (fun _ => rfl) (Or.inr rfl) ?_
      refine gs0 114 [(2, .inl n4), (0, .inr (.inr (some 725))), (1, .inl x1)] [.inl ((-9))] dM_175_101 (fun _ => rfl) (Or.inr rfl) ?_
      refine gsRet (r := some (.inl ((-9)))) dM_175_114 (fun _ => rfl) (Or.inr rfl) ?_
      exact hn
  replace hn := hn.2
  by_cases c5_5 : x1 = 5
  · replace hn := hn.1 c5_5
    refine gs0 115 [(2, .inl n4), (0, .inr (.inr (some 725))), (1, .inl x1)] [] dM_175_7 (fun _ => by rw [c5_5]; rfl) (Or.inl rfl) ?_
    refine gs0 116 [(2, .inl n4), (0, .inr (.inr (some 725))), (1, .inl x1)] [.inr (.inr (some 725))] dM_175_115 (fun _ => rfl) (Or.inr rfl) ?_
    refine gsGetR (some 747) dM_175_116 sk_725 rfl rfl ?_
    refine gs0 120 [(2, .inl n4), (0, .inr (.inr (some 725))), (1, .inl x1)] [.inl 0, .inr (.inr (some 747))] dM_175_119 (fun _ => rfl) (Or.inr rfl) ?_
    refine gsIaldN 0 (t2 747 0) dM_175_120 sk_747 rfl rfl rfl ?_
    refine gsIf (t := 129) (C := ¬ (t2 747 0) = 0) (r := []) dM_175_121 (fun _ => rfl) (Or.inr rfl) (rTest_iff .ne (t2 747 0) 0) (fun c16 => ?_) (fun c16 => ?_)
    · replace hn := hn.1 c16
      refine gs0 130 [(2, .inl n4), (0, .inr (.inr (some 725))), (1, .inl x1)] [.inr (.inr (some 725))] dM_175_129 (fun _ => rfl) (Or.inr rfl) ?_
      refine gsGetR (some 742) dM_175_130 sk_725 rfl rfl ?_
      refine gs0 134 [(2, .inl n4), (0, .inr (.inr (some 725))), (1, .inl x1)] [.inl n4, .inr (.inr (some 742))] dM_175_133 (fun _ => rfl) (Or.inr rfl) ?_
      refine gsIaldN n4.toNatClampNeg (t2 742 n4.toNatClampNeg) dM_175_134 sk_742 hn.1 rfl rfl ?_
      replace hn := hn.2
      refine gsRet (r := some (.inl (t2 742 n4.toNatClampNeg))) dM_175_135 (fun _ => rfl) (Or.inr rfl) ?_
      exact hn
    · replace hn := hn.2 c16
      refine gs0 126 [(2, .inl n4), (0, .inr (.inr (some 725))), (1, .inl x1)] [.inl ((-9))] dM_175_124 (fun _ => rfl) (Or.inr rfl) ?_
      refine gs0 135 [(2, .inl n4), (0, .inr (.inr (some 725))), (1, .inl x1)] [.inl ((-9))] dM_175_126 (fun _ => rfl) (Or.inr rfl) ?_
      refine gsRet (r := some (.inl ((-9)))) dM_175_135 (fun _ => rfl) (Or.inr rfl) ?_
      exact hn
  replace hn := hn.2
  replace hn := hn ⟨c5_0, c5_1, c5_2, c5_3, c5_4, c5_5⟩
  have ec5_0 := i32_ne c5_0 (show (0 : Int32).toInt = 0 by decide)
  have ec5_1 := i32_ne c5_1 (show (1 : Int32).toInt = 1 by decide)
  have ec5_2 := i32_ne c5_2 (show (2 : Int32).toInt = 2 by decide)
  have ec5_3 := i32_ne c5_3 (show (3 : Int32).toInt = 3 by decide)
  have ec5_4 := i32_ne c5_4 (show (4 : Int32).toInt = 4 by decide)
  have ec5_5 := i32_ne c5_5 (show (5 : Int32).toInt = 5 by decide)
  refine gs0 136 [(2, .inl n4), (0, .inr (.inr (some 725))), (1, .inl x1)] [] dM_175_7 (fun _ => swT_out (by omega) rfl) (Or.inl rfl) ?_
  refine gs0 137 [(2, .inl n4), (0, .inr (.inr (some 725))), (1, .inl x1)] [.inr (.inr (some 725))] dM_175_136 (fun _ => rfl) (Or.inr rfl) ?_
  refine gs0 139 [(2, .inl n4), (0, .inr (.inr (some 725))), (1, .inl x1)] [.inl ((-2)), .inr (.inr (some 725))] dM_175_137 (fun _ => rfl) (Or.inr rfl) ?_
  refine gsCallV (y := 128) (k := 725) (as := [.inr (.inr (some 725)), .inl ((-2))]) (r := []) dM_175_139 rfl rfl rfl (Nat.le_of_ble_eq_true rfl) sk_725 rfl (Nat.le_of_ble_eq_true rfl) (EvS.up hn (Nat.le_of_ble_eq_true rfl)) (fun v17 t18 hv19 => ?_)
  obtain ⟨n20, rfl, hnn⟩ := hv19
  clear hn
  show GoS _ _ _ _ _ _ _ _ [(2, .inl n4), (0, .inr (.inr (some 725))), (1, .inl x1)] [.inl n20] t18 _
  refine gsRet (r := some (.inl n20)) dM_175_142 (fun _ => rfl) (Or.inr rfl) ?_
  exact hnn
set_option maxRecDepth 100000 in
/-- GoalsInAQueueModel.done -/
theorem w_176 (sg : rSg)  {P : Option rv → rSg → Prop} (h :
    EvS rSkel 1 138 [.inr (.inr (some 725))] sg (fun v1 t2 => ∃ n4, v1 = some (.inl n4) ∧
      (n4 = 0 → 
        P (some (.inl 0)) t2) ∧
      (¬ (n4 = 0) → 
        P (some (.inl 1)) t2))) : EvS rSkel 2 176 [.inr (.inr (some 725))] sg P := by
  refine EvS.of (ini := false) rfl ⟨rfl, Nat.le_of_ble_eq_true rfl⟩ rfl ?_
  show GoS rSkel 1 9 1 (some .int) false prog_11_method_66_code 0 [(0, .inr (.inr (some 725)))] [] sg _
  refine gs0 1 [(0, .inr (.inr (some 725)))] [.inr (.inr (some 725))] dM_176_0 (fun _ => rfl) (Or.inr rfl) ?_
  refine gsCallV (y := 138) (k := 725) (as := [.inr (.inr (some 725))]) (r := []) dM_176_1 rfl rfl rfl (Nat.le_of_ble_eq_true rfl) sk_725 rfl (Nat.le_of_ble_eq_true rfl) (EvS.up h (Nat.le_of_ble_eq_true rfl)) (fun v1 t2 hv3 => ?_)
  obtain ⟨n4, rfl, hn⟩ := hv3
  clear h
  show GoS _ _ _ _ _ _ _ _ [(0, .inr (.inr (some 725)))] [.inl n4] t2 _
  refine gsIf (t := 11) (C := n4 = 0) (r := []) dM_176_4 (fun _ => rfl) (Or.inr rfl) (rTest_iff .eq n4 0) (fun c5 => ?_) (fun c5 => ?_)
  · replace hn := hn.1 c5
    refine gs0 12 [(0, .inr (.inr (some 725)))] [.inl 0] dM_176_11 (fun _ => rfl) (Or.inr rfl) ?_
    refine gsRet (r := some (.inl 0)) dM_176_12 (fun _ => rfl) (Or.inr rfl) ?_
    exact hn
  · replace hn := hn.2 c5
    refine gs0 8 [(0, .inr (.inr (some 725)))] [.inl 1] dM_176_7 (fun _ => rfl) (Or.inr rfl) ?_
    refine gs0 12 [(0, .inr (.inr (some 725)))] [.inl 1] dM_176_8 (fun _ => rfl) (Or.inr rfl) ?_
    refine gsRet (r := some (.inl 1)) dM_176_12 (fun _ => rfl) (Or.inr rfl) ?_
    exact hn
def g_177_17  (y1 : Int32) (y2 : Int32) (y3 : Int32) (sg : rSg) (P : Option rv → rSg → Prop) : Prop := GoS rSkel 7 9 4 (some .int) false prog_11_method_69_code 17 [(0, .inr (.inr (some 725))), (1, .inl y1), (2, .inl y2), (3, .inl y3)] [] sg P
set_option maxRecDepth 100000 in
theorem w_177_17 (sg : rSg)  (y1 : Int32) (y2 : Int32) (y3 : Int32) {P : Option rv → rSg → Prop} (h :
    ((sg 748 0) ≤ y3 → 
      P (some (.inl y2)) sg) ∧
    (¬ ((sg 748 0) ≤ y3) → 
      EvS rSkel 7 178 [.inr (.inr (some 725)), .inl y3, .inl y1] sg (fun v11 t12 => ∃ n14, v11 = some (.inl n14) ∧
        (¬ n14 = y3 → 
          g_177_17 y1 (y2 + 0) (y3 + 1) t12 P) ∧
        (¬ (¬ n14 = y3) → 
          g_177_17 y1 (y2 + 1) (y3 + 1) t12 P)))) : g_177_17 y1 y2 y3 sg P := by
  show GoS rSkel 7 9 4 (some .int) false prog_11_method_69_code 17 [(0, .inr (.inr (some 725))), (1, .inl y1), (2, .inl y2), (3, .inl y3)] [] sg P
  refine gs0 18 [(0, .inr (.inr (some 725))), (1, .inl y1), (2, .inl y2), (3, .inl y3)] [.inl y3] dM_177_17 (fun _ => rfl) (Or.inr rfl) ?_
  refine gs0 19 [(0, .inr (.inr (some 725))), (1, .inl y1), (2, .inl y2), (3, .inl y3)] [.inr (.inr (some 725)), .inl y3] dM_177_18 (fun _ => rfl) (Or.inr rfl) ?_
  refine gsGetR (some 748) dM_177_19 sk_725 rfl rfl ?_
  refine gs0 23 [(0, .inr (.inr (some 725))), (1, .inl y1), (2, .inl y2), (3, .inl y3)] [.inl 0, .inr (.inr (some 748)), .inl y3] dM_177_22 (fun _ => rfl) (Or.inr rfl) ?_
  refine gsIaldN 0 (sg 748 0) dM_177_23 sk_748 rfl rfl rfl ?_
  refine gsIf (t := 51) (C := (sg 748 0) ≤ y3) (r := []) dM_177_24 (fun _ => rfl) (Or.inr rfl) (rTest_iff .ge y3 (sg 748 0)) (fun c10 => ?_) (fun c10 => ?_)
  · replace h := h.1 c10
    refine gs0 52 [(0, .inr (.inr (some 725))), (1, .inl y1), (2, .inl y2), (3, .inl y3)] [.inl y2] dM_177_51 (fun _ => rfl) (Or.inr rfl) ?_
    refine gsRet (r := some (.inl y2)) dM_177_52 (fun _ => rfl) (Or.inr rfl) ?_
    exact h
  · replace h := h.2 c10
    refine gs0 28 [(0, .inr (.inr (some 725))), (1, .inl y1), (2, .inl y2), (3, .inl y3)] [.inl y2] dM_177_27 (fun _ => rfl) (Or.inr rfl) ?_
    refine gs0 29 [(0, .inr (.inr (some 725))), (1, .inl y1), (2, .inl y2), (3, .inl y3)] [.inr (.inr (some 725)), .inl y2] dM_177_28 (fun _ => rfl) (Or.inr rfl) ?_
    refine gs0 30 [(0, .inr (.inr (some 725))), (1, .inl y1), (2, .inl y2), (3, .inl y3)] [.inl y3, .inr (.inr (some 725)), .inl y2] dM_177_29 (fun _ => rfl) (Or.inr rfl) ?_
    refine gs0 31 [(0, .inr (.inr (some 725))), (1, .inl y1), (2, .inl y2), (3, .inl y3)] [.inl y1, .inl y3, .inr (.inr (some 725)), .inl y2] dM_177_30 (fun _ => rfl) (Or.inr rfl) ?_
    refine gsCallV (y := 178) (k := 725) (as := [.inr (.inr (some 725)), .inl y3, .inl y1]) (r := [.inl y2]) dM_177_31 rfl rfl rfl (Nat.le_of_ble_eq_true rfl) sk_725 rfl (Nat.le_of_ble_eq_true rfl) (EvS.up h (Nat.le_of_ble_eq_true rfl)) (fun v11 t12 hv13 => ?_)
    obtain ⟨n14, rfl, hn⟩ := hv13
    clear h
    show GoS _ _ _ _ _ _ _ _ [(0, .inr (.inr (some 725))), (1, .inl y1), (2, .inl y2), (3, .inl y3)] [.inl n14, .inl y2] t12 _
    refine gs0 35 [(0, .inr (.inr (some 725))), (1, .inl y1), (2, .inl y2), (3, .inl y3)] [.inl y3, .inl n14, .inl y2] dM_177_34 (fun _ => rfl) (Or.inr rfl) ?_
    refine gsIf (t := 42) (C := ¬ n14 = y3) (r := [.inl y2]) dM_177_35 (fun _ => rfl) (Or.inr rfl) (rTest_iff .ne n14 y3) (fun c15 => ?_) (fun c15 => ?_)
    · replace hn := hn.1 c15
      refine gs0 43 [(0, .inr (.inr (some 725))), (1, .inl y1), (2, .inl y2), (3, .inl y3)] [.inl 0, .inl y2] dM_177_42 (fun _ => rfl) (Or.inr rfl) ?_
      refine gs0 44 [(0, .inr (.inr (some 725))), (1, .inl y1), (2, .inl y2), (3, .inl y3)] [.inl (y2 + 0)] dM_177_43 (fun _ => rfl) (Or.inr rfl) ?_
      refine gs0 45 [(2, .inl (y2 + 0)), (0, .inr (.inr (some 725))), (1, .inl y1), (3, .inl y3)] [] dM_177_44 (fun _ => rfl) (Or.inr rfl) ?_
      refine gs0 48 [(3, .inl (y3 + 1)), (2, .inl (y2 + 0)), (0, .inr (.inr (some 725))), (1, .inl y1)] [] dM_177_45 (fun _ => rfl) (Or.inr rfl) ?_
      refine gs0 17 [(3, .inl (y3 + 1)), (2, .inl (y2 + 0)), (0, .inr (.inr (some 725))), (1, .inl y1)] [] dM_177_48 (fun _ => rfl) (Or.inr rfl) ?_
      exact GoS.sub (Lnd_keys (ks := [0, 1, 2, 3]) rfl (by decide)) (Lsub_cons rfl (Lsub_cons rfl (Lsub_cons rfl (Lsub_cons rfl Lsub_nil)))) hn
    · replace hn := hn.2 c15
      refine gs0 39 [(0, .inr (.inr (some 725))), (1, .inl y1), (2, .inl y2), (3, .inl y3)] [.inl 1, .inl y2] dM_177_38 (fun _ => rfl) (Or.inr rfl) ?_
      refine gs0 43 [(0, .inr (.inr (some 725))), (1, .inl y1), (2, .inl y2), (3, .inl y3)] [.inl 1, .inl y2] dM_177_39 (fun _ => rfl) (Or.inr rfl) ?_
      refine gs0 44 [(0, .inr (.inr (some 725))), (1, .inl y1), (2, .inl y2), (3, .inl y3)] [.inl (y2 + 1)] dM_177_43 (fun _ => rfl) (Or.inr rfl) ?_
      refine gs0 45 [(2, .inl (y2 + 1)), (0, .inr (.inr (some 725))), (1, .inl y1), (3, .inl y3)] [] dM_177_44 (fun _ => rfl) (Or.inr rfl) ?_
      refine gs0 48 [(3, .inl (y3 + 1)), (2, .inl (y2 + 1)), (0, .inr (.inr (some 725))), (1, .inl y1)] [] dM_177_45 (fun _ => rfl) (Or.inr rfl) ?_
      refine gs0 17 [(3, .inl (y3 + 1)), (2, .inl (y2 + 1)), (0, .inr (.inr (some 725))), (1, .inl y1)] [] dM_177_48 (fun _ => rfl) (Or.inr rfl) ?_
      exact GoS.sub (Lnd_keys (ks := [0, 1, 2, 3]) rfl (by decide)) (Lsub_cons rfl (Lsub_cons rfl (Lsub_cons rfl (Lsub_cons rfl Lsub_nil)))) hn
set_option maxRecDepth 100000 in
/-- GoalsInAQueueModel.different -/
theorem w_177 (sg : rSg) (x1 : Int32) {P : Option rv → rSg → Prop} (h :
    EvS rSkel 2 165 [.inl x1] sg (fun v1 t2 => ∃ n4, v1 = some (.inl n4) ∧
      (¬ n4 = 0 → 
        g_177_17 x1 0 0 t2 P) ∧
      (¬ (¬ n4 = 0) → 
        EvS rSkel 1 128 [.inr (.inr (some 725)), .inl ((-1))] t2 (fun v6 t7 => ∃ n9, v6 = some (.inl n9) ∧
          P (some (.inl n9)) t7)))) : EvS rSkel 8 177 [.inr (.inr (some 725)), .inl x1] sg P := by
  refine EvS.of (ini := false) rfl ⟨rfl, Nat.le_of_ble_eq_true rfl⟩ rfl ?_
  show GoS rSkel 7 9 4 (some .int) false prog_11_method_69_code 0 [(0, .inr (.inr (some 725))), (1, .inl x1)] [] sg _
  refine gs0 1 [(0, .inr (.inr (some 725))), (1, .inl x1)] [.inl x1] dM_177_0 (fun _ => rfl) (Or.inr rfl) ?_
  refine gsCallS (y := 165) (as := [.inl x1]) (r := []) dM_177_1 rfl (Or.inl rfl) rfl rfl (Nat.le_of_ble_eq_true rfl) (EvS.up h (Nat.le_of_ble_eq_true rfl)) (fun v1 t2 hv3 => ?_)
  obtain ⟨n4, rfl, hn⟩ := hv3
  clear h
  show GoS _ _ _ _ _ _ _ _ [(0, .inr (.inr (some 725))), (1, .inl x1)] [.inl n4] t2 _
  refine gsIf (t := 13) (C := ¬ n4 = 0) (r := []) dM_177_4 (fun _ => rfl) (Or.inr rfl) (rTest_iff .ne n4 0) (fun c5 => ?_) (fun c5 => ?_)
  · replace hn := hn.1 c5
    refine gs0 14 [(0, .inr (.inr (some 725))), (1, .inl x1)] [.inl 0] dM_177_13 (fun _ => rfl) (Or.inr rfl) ?_
    refine gs0 15 [(2, .inl 0), (0, .inr (.inr (some 725))), (1, .inl x1)] [] dM_177_14 (fun _ => rfl) (Or.inr rfl) ?_
    refine gs0 16 [(2, .inl 0), (0, .inr (.inr (some 725))), (1, .inl x1)] [.inl 0] dM_177_15 (fun _ => rfl) (Or.inr rfl) ?_
    refine gs0 17 [(3, .inl 0), (2, .inl 0), (0, .inr (.inr (some 725))), (1, .inl x1)] [] dM_177_16 (fun _ => rfl) (Or.inr rfl) ?_
    exact GoS.sub (Lnd_keys (ks := [0, 1, 2, 3]) rfl (by decide)) (Lsub_cons rfl (Lsub_cons rfl (Lsub_cons rfl (Lsub_cons rfl Lsub_nil)))) hn
  · replace hn := hn.2 c5
    refine gs0 8 [(0, .inr (.inr (some 725))), (1, .inl x1)] [.inr (.inr (some 725))] dM_177_7 (fun _ => rfl) (Or.inr rfl) ?_
    refine gs0 9 [(0, .inr (.inr (some 725))), (1, .inl x1)] [.inl ((-1)), .inr (.inr (some 725))] dM_177_8 (fun _ => rfl) (Or.inr rfl) ?_
    refine gsCallV (y := 128) (k := 725) (as := [.inr (.inr (some 725)), .inl ((-1))]) (r := []) dM_177_9 rfl rfl rfl (Nat.le_of_ble_eq_true rfl) sk_725 rfl (Nat.le_of_ble_eq_true rfl) (EvS.up hn (Nat.le_of_ble_eq_true rfl)) (fun v6 t7 hv8 => ?_)
    obtain ⟨n9, rfl, hnn⟩ := hv8
    clear hn
    show GoS _ _ _ _ _ _ _ _ [(0, .inr (.inr (some 725))), (1, .inl x1)] [.inl n9] t7 _
    refine gsRet (r := some (.inl n9)) dM_177_12 (fun _ => rfl) (Or.inr rfl) ?_
    exact hnn
def g_178_14  (y2 : Int32) (y3 : Int32) (y4 : Int32) (sg : rSg) (P : Option rv → rSg → Prop) : Prop := GoS rSkel 6 9 5 (some .int) false prog_11_method_68_code 14 [(0, .inr (.inr (some 725))), (2, .inl y2), (3, .inl y3), (4, .inl y4)] [] sg P
def g_178_43  (y2 : Int32) (y3 : Int32) (y4 : Int32) (sg : rSg) (P : Option rv → rSg → Prop) : Prop := GoS rSkel 6 9 5 (some .int) false prog_11_method_68_code 43 [(0, .inr (.inr (some 725))), (2, .inl y2), (3, .inl y3), (4, .inl y4)] [] sg P
set_option maxRecDepth 100000 in
theorem w_178_14 (sg : rSg)  (y2 : Int32) (y3 : Int32) (y4 : Int32) {P : Option rv → rSg → Prop} (h :
    (y3 ≤ y4 → 
      g_178_43 y2 y3 0 sg P) ∧
    (¬ (y3 ≤ y4) → 
      (rIn y4 200 = true ∧
      rIn y4 200 = true ∧
      g_178_14 y2 y3 (y4 + 1) (up2 sg 758 y4.toNatClampNeg (sg 756 y4.toNatClampNeg)) P))) : g_178_14 y2 y3 y4 sg P := by
  show GoS rSkel 6 9 5 (some .int) false prog_11_method_68_code 14 [(0, .inr (.inr (some 725))), (2, .inl y2), (3, .inl y3), (4, .inl y4)] [] sg P
  refine gs0 16 [(0, .inr (.inr (some 725))), (2, .inl y2), (3, .inl y3), (4, .inl y4)] [.inl y4] dM_178_14 (fun _ => rfl) (Or.inr rfl) ?_
  refine gs0 17 [(0, .inr (.inr (some 725))), (2, .inl y2), (3, .inl y3), (4, .inl y4)] [.inl y3, .inl y4] dM_178_16 (fun _ => rfl) (Or.inr rfl) ?_
  refine gsIf (t := 40) (C := y3 ≤ y4) (r := []) dM_178_17 (fun _ => rfl) (Or.inr rfl) (rTest_iff .ge y4 y3) (fun c4 => ?_) (fun c4 => ?_)
  · replace h := h.1 c4
    refine gs0 41 [(0, .inr (.inr (some 725))), (2, .inl y2), (3, .inl y3), (4, .inl y4)] [.inl 0] dM_178_40 (fun _ => rfl) (Or.inr rfl) ?_
    refine gs0 43 [(4, .inl 0), (0, .inr (.inr (some 725))), (2, .inl y2), (3, .inl y3)] [] dM_178_41 (fun _ => rfl) (Or.inr rfl) ?_
    exact GoS.sub (Lnd_keys (ks := [0, 2, 3, 4]) rfl (by decide)) (Lsub_cons rfl (Lsub_cons rfl (Lsub_cons rfl (Lsub_cons rfl Lsub_nil)))) h
  · replace h := h.2 c4
    refine gs0 21 [(0, .inr (.inr (some 725))), (2, .inl y2), (3, .inl y3), (4, .inl y4)] [.inr (.inr (some 725))] dM_178_20 (fun _ => rfl) (Or.inr rfl) ?_
    refine gsGetR (some 758) dM_178_21 sk_725 rfl rfl ?_
    refine gs0 26 [(0, .inr (.inr (some 725))), (2, .inl y2), (3, .inl y3), (4, .inl y4)] [.inl y4, .inr (.inr (some 758))] dM_178_24 (fun _ => rfl) (Or.inr rfl) ?_
    refine gs0 27 [(0, .inr (.inr (some 725))), (2, .inl y2), (3, .inl y3), (4, .inl y4)] [.inr (.inr (some 725)), .inl y4, .inr (.inr (some 758))] dM_178_26 (fun _ => rfl) (Or.inr rfl) ?_
    refine gsGetR (some 756) dM_178_27 sk_725 rfl rfl ?_
    refine gs0 32 [(0, .inr (.inr (some 725))), (2, .inl y2), (3, .inl y3), (4, .inl y4)] [.inl y4, .inr (.inr (some 756)), .inl y4, .inr (.inr (some 758))] dM_178_30 (fun _ => rfl) (Or.inr rfl) ?_
    refine gsIaldN y4.toNatClampNeg (sg 756 y4.toNatClampNeg) dM_178_32 sk_756 h.1 rfl rfl ?_
    replace h := h.2
    refine gsIastN y4.toNatClampNeg dM_178_33 sk_758 h.1 rfl ?_
    replace h := h.2
    refine gs0 37 [(4, .inl (y4 + 1)), (0, .inr (.inr (some 725))), (2, .inl y2), (3, .inl y3)] [] dM_178_34 (fun _ => rfl) (Or.inr rfl) ?_
    refine gs0 14 [(4, .inl (y4 + 1)), (0, .inr (.inr (some 725))), (2, .inl y2), (3, .inl y3)] [] dM_178_37 (fun _ => rfl) (Or.inr rfl) ?_
    exact GoS.sub (Lnd_keys (ks := [0, 2, 3, 4]) rfl (by decide)) (Lsub_cons rfl (Lsub_cons rfl (Lsub_cons rfl (Lsub_cons rfl Lsub_nil)))) h
set_option maxRecDepth 100000 in
theorem w_178_43 (sg : rSg)  (y2 : Int32) (y3 : Int32) (y4 : Int32) {P : Option rv → rSg → Prop} (h :
    EvS rSkel 6 179 [.inr (.inr (some 725)), .inl y4, .inl y2, .inl y3] sg (fun v5 t6 => ∃ n8, v5 = some (.inl n8) ∧
      (¬ n8 = 0 → 
        P (some (.inl y4)) t6) ∧
      (¬ (¬ n8 = 0) → 
        g_178_43 y2 y3 (y4 + 1) t6 P))) : g_178_43 y2 y3 y4 sg P := by
  show GoS rSkel 6 9 5 (some .int) false prog_11_method_68_code 43 [(0, .inr (.inr (some 725))), (2, .inl y2), (3, .inl y3), (4, .inl y4)] [] sg P
  refine gs0 44 [(0, .inr (.inr (some 725))), (2, .inl y2), (3, .inl y3), (4, .inl y4)] [.inr (.inr (some 725))] dM_178_43 (fun _ => rfl) (Or.inr rfl) ?_
  refine gs0 46 [(0, .inr (.inr (some 725))), (2, .inl y2), (3, .inl y3), (4, .inl y4)] [.inl y4, .inr (.inr (some 725))] dM_178_44 (fun _ => rfl) (Or.inr rfl) ?_
  refine gs0 47 [(0, .inr (.inr (some 725))), (2, .inl y2), (3, .inl y3), (4, .inl y4)] [.inl y2, .inl y4, .inr (.inr (some 725))] dM_178_46 (fun _ => rfl) (Or.inr rfl) ?_
  refine gs0 48 [(0, .inr (.inr (some 725))), (2, .inl y2), (3, .inl y3), (4, .inl y4)] [.inl y3, .inl y2, .inl y4, .inr (.inr (some 725))] dM_178_47 (fun _ => rfl) (Or.inr rfl) ?_
  refine gsCallV (y := 179) (k := 725) (as := [.inr (.inr (some 725)), .inl y4, .inl y2, .inl y3]) (r := []) dM_178_48 rfl rfl rfl (Nat.le_of_ble_eq_true rfl) sk_725 rfl (Nat.le_of_ble_eq_true rfl) (EvS.up h (Nat.le_of_ble_eq_true rfl)) (fun v5 t6 hv7 => ?_)
  obtain ⟨n8, rfl, hn⟩ := hv7
  clear h
  show GoS _ _ _ _ _ _ _ _ [(0, .inr (.inr (some 725))), (2, .inl y2), (3, .inl y3), (4, .inl y4)] [.inl n8] t6 _
  refine gsIf (t := 60) (C := ¬ n8 = 0) (r := []) dM_178_51 (fun _ => rfl) (Or.inr rfl) (rTest_iff .ne n8 0) (fun c9 => ?_) (fun c9 => ?_)
  · replace hn := hn.1 c9
    refine gs0 62 [(0, .inr (.inr (some 725))), (2, .inl y2), (3, .inl y3), (4, .inl y4)] [.inl y4] dM_178_60 (fun _ => rfl) (Or.inr rfl) ?_
    refine gsRet (r := some (.inl y4)) dM_178_62 (fun _ => rfl) (Or.inr rfl) ?_
    exact hn
  · replace hn := hn.2 c9
    refine gs0 57 [(4, .inl (y4 + 1)), (0, .inr (.inr (some 725))), (2, .inl y2), (3, .inl y3)] [] dM_178_54 (fun _ => rfl) (Or.inr rfl) ?_
    refine gs0 43 [(4, .inl (y4 + 1)), (0, .inr (.inr (some 725))), (2, .inl y2), (3, .inl y3)] [] dM_178_57 (fun _ => rfl) (Or.inr rfl) ?_
    exact GoS.sub (Lnd_keys (ks := [0, 2, 3, 4]) rfl (by decide)) (Lsub_cons rfl (Lsub_cons rfl (Lsub_cons rfl (Lsub_cons rfl Lsub_nil)))) hn
set_option maxRecDepth 100000 in
/-- GoalsInAQueueModel.earliestLike -/
theorem w_178 (sg : rSg) (x1 : Int32) (x2 : Int32) {P : Option rv → rSg → Prop} (h :
    EvS rSkel 5 166 [.inr (.inr (some 725)), .inl x1, .inl x2] sg (fun v1 t2 => v1 = none ∧
      g_178_14 x2 (t2 725 51) 0 t2 P)) : EvS rSkel 7 178 [.inr (.inr (some 725)), .inl x1, .inl x2] sg P := by
  refine EvS.of (ini := false) rfl ⟨rfl, Nat.le_of_ble_eq_true rfl⟩ rfl ?_
  show GoS rSkel 6 9 5 (some .int) false prog_11_method_68_code 0 [(0, .inr (.inr (some 725))), (1, .inl x1), (2, .inl x2)] [] sg _
  refine gs0 1 [(0, .inr (.inr (some 725))), (1, .inl x1), (2, .inl x2)] [.inr (.inr (some 725))] dM_178_0 (fun _ => rfl) (Or.inr rfl) ?_
  refine gs0 2 [(0, .inr (.inr (some 725))), (1, .inl x1), (2, .inl x2)] [.inl x1, .inr (.inr (some 725))] dM_178_1 (fun _ => rfl) (Or.inr rfl) ?_
  refine gs0 3 [(0, .inr (.inr (some 725))), (1, .inl x1), (2, .inl x2)] [.inl x2, .inl x1, .inr (.inr (some 725))] dM_178_2 (fun _ => rfl) (Or.inr rfl) ?_
  refine gsCallV (y := 166) (k := 725) (as := [.inr (.inr (some 725)), .inl x1, .inl x2]) (r := []) dM_178_3 rfl rfl rfl (Nat.le_of_ble_eq_true rfl) sk_725 rfl (Nat.le_of_ble_eq_true rfl) (EvS.up h (Nat.le_of_ble_eq_true rfl)) (fun v1 t2 hv3 => ?_)
  obtain ⟨rfl, hn⟩ := hv3
  clear h
  show GoS _ _ _ _ _ _ _ _ [(0, .inr (.inr (some 725))), (1, .inl x1), (2, .inl x2)] [] t2 _
  refine gs0 7 [(0, .inr (.inr (some 725))), (1, .inl x1), (2, .inl x2)] [.inr (.inr (some 725))] dM_178_6 (fun _ => rfl) (Or.inr rfl) ?_
  refine gsGetE (t2 725 51) dM_178_7 sk_725 rfl rfl rfl ?_
  refine gs0 11 [(3, .inl (t2 725 51)), (0, .inr (.inr (some 725))), (1, .inl x1), (2, .inl x2)] [] dM_178_10 (fun _ => rfl) (Or.inr rfl) ?_
  refine gs0 12 [(3, .inl (t2 725 51)), (0, .inr (.inr (some 725))), (1, .inl x1), (2, .inl x2)] [.inl 0] dM_178_11 (fun _ => rfl) (Or.inr rfl) ?_
  refine gs0 14 [(4, .inl 0), (3, .inl (t2 725 51)), (0, .inr (.inr (some 725))), (1, .inl x1), (2, .inl x2)] [] dM_178_12 (fun _ => rfl) (Or.inr rfl) ?_
  exact GoS.sub (Lnd_keys (ks := [0, 2, 3, 4]) rfl (by decide)) (Lsub_cons rfl (Lsub_cons rfl (Lsub_cons rfl (Lsub_cons rfl Lsub_nil)))) hn
def g_179_24  (y3 : Int32) (y4 : Int32) (y5 : Int32) (sg : rSg) (P : Option rv → rSg → Prop) : Prop := GoS rSkel 5 9 6 (some .boolean) false prog_11_method_67_code 24 [(0, .inr (.inr (some 725))), (3, .inl y3), (4, .inl y4), (5, .inl y5)] [] sg P
set_option maxRecDepth 100000 in
theorem w_179_24 (sg : rSg)  (y3 : Int32) (y4 : Int32) (y5 : Int32) {P : Option rv → rSg → Prop} (h :
    (y3 ≤ y5 → 
      (rBool y4 = true ∧
      P (some (.inl y4)) sg)) ∧
    (¬ (y3 ≤ y5) → 
      (y4 = 0 → 
        (rBool y4 = true ∧
        P (some (.inl y4)) sg)) ∧
      (¬ (y4 = 0) → 
        (rIn y5 200 = true ∧
        rIn y5 200 = true ∧
        (¬ (sg 756 y5.toNatClampNeg) = (sg 758 y5.toNatClampNeg) → 
          g_179_24 y3 0 (y5 + 1) sg P) ∧
        (¬ (¬ (sg 756 y5.toNatClampNeg) = (sg 758 y5.toNatClampNeg)) → 
          g_179_24 y3 1 (y5 + 1) sg P))))) : g_179_24 y3 y4 y5 sg P := by
  show GoS rSkel 5 9 6 (some .boolean) false prog_11_method_67_code 24 [(0, .inr (.inr (some 725))), (3, .inl y3), (4, .inl y4), (5, .inl y5)] [] sg P
  refine gs0 26 [(0, .inr (.inr (some 725))), (3, .inl y3), (4, .inl y4), (5, .inl y5)] [.inl y5] dM_179_24 (fun _ => rfl) (Or.inr rfl) ?_
  refine gs0 27 [(0, .inr (.inr (some 725))), (3, .inl y3), (4, .inl y4), (5, .inl y5)] [.inl y3, .inl y5] dM_179_26 (fun _ => rfl) (Or.inr rfl) ?_
  refine gsIf (t := 65) (C := y3 ≤ y5) (r := []) dM_179_27 (fun _ => rfl) (Or.inr rfl) (rTest_iff .ge y5 y3) (fun c5 => ?_) (fun c5 => ?_)
  · replace h := h.1 c5
    refine gs0 67 [(0, .inr (.inr (some 725))), (3, .inl y3), (4, .inl y4), (5, .inl y5)] [.inl y4] dM_179_65 (fun _ => rfl) (Or.inr rfl) ?_
    refine gsRet (r := some (.inl y4)) dM_179_67 (fun _ => rRetB h.1) (Or.inr rfl) ?_
    replace h := h.2
    exact h
  · replace h := h.2 c5
    refine gs0 32 [(0, .inr (.inr (some 725))), (3, .inl y3), (4, .inl y4), (5, .inl y5)] [.inl y4] dM_179_30 (fun _ => rfl) (Or.inr rfl) ?_
    refine gsIf (t := 65) (C := y4 = 0) (r := []) dM_179_32 (fun _ => rfl) (Or.inr rfl) (rTest_iff .eq y4 0) (fun c6 => ?_) (fun c6 => ?_)
    · replace h := h.1 c6
      refine gs0 67 [(0, .inr (.inr (some 725))), (3, .inl y3), (4, .inl y4), (5, .inl y5)] [.inl y4] dM_179_65 (fun _ => rfl) (Or.inr rfl) ?_
      refine gsRet (r := some (.inl y4)) dM_179_67 (fun _ => rRetB h.1) (Or.inr rfl) ?_
      replace h := h.2
      exact h
    · replace h := h.2 c6
      refine gs0 36 [(0, .inr (.inr (some 725))), (3, .inl y3), (4, .inl y4), (5, .inl y5)] [.inr (.inr (some 725))] dM_179_35 (fun _ => rfl) (Or.inr rfl) ?_
      refine gsGetR (some 756) dM_179_36 sk_725 rfl rfl ?_
      refine gs0 41 [(0, .inr (.inr (some 725))), (3, .inl y3), (4, .inl y4), (5, .inl y5)] [.inl y5, .inr (.inr (some 756))] dM_179_39 (fun _ => rfl) (Or.inr rfl) ?_
      refine gsIaldN y5.toNatClampNeg (sg 756 y5.toNatClampNeg) dM_179_41 sk_756 h.1 rfl rfl ?_
      replace h := h.2
      refine gs0 43 [(0, .inr (.inr (some 725))), (3, .inl y3), (4, .inl y4), (5, .inl y5)] [.inr (.inr (some 725)), .inl (sg 756 y5.toNatClampNeg)] dM_179_42 (fun _ => rfl) (Or.inr rfl) ?_
      refine gsGetR (some 758) dM_179_43 sk_725 rfl rfl ?_
      refine gs0 48 [(0, .inr (.inr (some 725))), (3, .inl y3), (4, .inl y4), (5, .inl y5)] [.inl y5, .inr (.inr (some 758)), .inl (sg 756 y5.toNatClampNeg)] dM_179_46 (fun _ => rfl) (Or.inr rfl) ?_
      refine gsIaldN y5.toNatClampNeg (sg 758 y5.toNatClampNeg) dM_179_48 sk_758 h.1 rfl rfl ?_
      replace h := h.2
      refine gsIf (t := 56) (C := ¬ (sg 756 y5.toNatClampNeg) = (sg 758 y5.toNatClampNeg)) (r := []) dM_179_49 (fun _ => rfl) (Or.inr rfl) (rTest_iff .ne (sg 756 y5.toNatClampNeg) (sg 758 y5.toNatClampNeg)) (fun c7 => ?_) (fun c7 => ?_)
      · replace h := h.1 c7
        refine gs0 57 [(0, .inr (.inr (some 725))), (3, .inl y3), (4, .inl y4), (5, .inl y5)] [.inl 0] dM_179_56 (fun _ => rfl) (Or.inr rfl) ?_
        refine gs0 59 [(4, .inl 0), (0, .inr (.inr (some 725))), (3, .inl y3), (5, .inl y5)] [] dM_179_57 (fun _ => rfl) (Or.inr rfl) ?_
        refine gs0 62 [(5, .inl (y5 + 1)), (4, .inl 0), (0, .inr (.inr (some 725))), (3, .inl y3)] [] dM_179_59 (fun _ => rfl) (Or.inr rfl) ?_
        refine gs0 24 [(5, .inl (y5 + 1)), (4, .inl 0), (0, .inr (.inr (some 725))), (3, .inl y3)] [] dM_179_62 (fun _ => rfl) (Or.inr rfl) ?_
        exact GoS.sub (Lnd_keys (ks := [0, 3, 4, 5]) rfl (by decide)) (Lsub_cons rfl (Lsub_cons rfl (Lsub_cons rfl (Lsub_cons rfl Lsub_nil)))) h
      · replace h := h.2 c7
        refine gs0 53 [(0, .inr (.inr (some 725))), (3, .inl y3), (4, .inl y4), (5, .inl y5)] [.inl 1] dM_179_52 (fun _ => rfl) (Or.inr rfl) ?_
        refine gs0 57 [(0, .inr (.inr (some 725))), (3, .inl y3), (4, .inl y4), (5, .inl y5)] [.inl 1] dM_179_53 (fun _ => rfl) (Or.inr rfl) ?_
        refine gs0 59 [(4, .inl 1), (0, .inr (.inr (some 725))), (3, .inl y3), (5, .inl y5)] [] dM_179_57 (fun _ => rfl) (Or.inr rfl) ?_
        refine gs0 62 [(5, .inl (y5 + 1)), (4, .inl 1), (0, .inr (.inr (some 725))), (3, .inl y3)] [] dM_179_59 (fun _ => rfl) (Or.inr rfl) ?_
        refine gs0 24 [(5, .inl (y5 + 1)), (4, .inl 1), (0, .inr (.inr (some 725))), (3, .inl y3)] [] dM_179_62 (fun _ => rfl) (Or.inr rfl) ?_
        exact GoS.sub (Lnd_keys (ks := [0, 3, 4, 5]) rfl (by decide)) (Lsub_cons rfl (Lsub_cons rfl (Lsub_cons rfl (Lsub_cons rfl Lsub_nil)))) h
set_option maxRecDepth 100000 in
/-- GoalsInAQueueModel.isTextLike -/
theorem w_179 (sg : rSg) (x1 : Int32) (x2 : Int32) (x3 : Int32) {P : Option rv → rSg → Prop} (h :
    EvS rSkel 5 166 [.inr (.inr (some 725)), .inl x1, .inl x2] sg (fun v1 t2 => v1 = none ∧
      (¬ (t2 725 51) = x3 → 
        g_179_24 x3 0 0 t2 P) ∧
      (¬ (¬ (t2 725 51) = x3) → 
        g_179_24 x3 1 0 t2 P))) : EvS rSkel 6 179 [.inr (.inr (some 725)), .inl x1, .inl x2, .inl x3] sg P := by
  refine EvS.of (ini := false) rfl ⟨rfl, Nat.le_of_ble_eq_true rfl⟩ rfl ?_
  show GoS rSkel 5 9 6 (some .boolean) false prog_11_method_67_code 0 [(0, .inr (.inr (some 725))), (1, .inl x1), (2, .inl x2), (3, .inl x3)] [] sg _
  refine gs0 1 [(0, .inr (.inr (some 725))), (1, .inl x1), (2, .inl x2), (3, .inl x3)] [.inr (.inr (some 725))] dM_179_0 (fun _ => rfl) (Or.inr rfl) ?_
  refine gs0 2 [(0, .inr (.inr (some 725))), (1, .inl x1), (2, .inl x2), (3, .inl x3)] [.inl x1, .inr (.inr (some 725))] dM_179_1 (fun _ => rfl) (Or.inr rfl) ?_
  refine gs0 3 [(0, .inr (.inr (some 725))), (1, .inl x1), (2, .inl x2), (3, .inl x3)] [.inl x2, .inl x1, .inr (.inr (some 725))] dM_179_2 (fun _ => rfl) (Or.inr rfl) ?_
  refine gsCallV (y := 166) (k := 725) (as := [.inr (.inr (some 725)), .inl x1, .inl x2]) (r := []) dM_179_3 rfl rfl rfl (Nat.le_of_ble_eq_true rfl) sk_725 rfl (Nat.le_of_ble_eq_true rfl) (EvS.up h (Nat.le_of_ble_eq_true rfl)) (fun v1 t2 hv3 => ?_)
  obtain ⟨rfl, hn⟩ := hv3
  clear h
  show GoS _ _ _ _ _ _ _ _ [(0, .inr (.inr (some 725))), (1, .inl x1), (2, .inl x2), (3, .inl x3)] [] t2 _
  refine gs0 7 [(0, .inr (.inr (some 725))), (1, .inl x1), (2, .inl x2), (3, .inl x3)] [.inr (.inr (some 725))] dM_179_6 (fun _ => rfl) (Or.inr rfl) ?_
  refine gsGetE (t2 725 51) dM_179_7 sk_725 rfl rfl rfl ?_
  refine gs0 11 [(0, .inr (.inr (some 725))), (1, .inl x1), (2, .inl x2), (3, .inl x3)] [.inl x3, .inl (t2 725 51)] dM_179_10 (fun _ => rfl) (Or.inr rfl) ?_
  refine gsIf (t := 18) (C := ¬ (t2 725 51) = x3) (r := []) dM_179_11 (fun _ => rfl) (Or.inr rfl) (rTest_iff .ne (t2 725 51) x3) (fun c4 => ?_) (fun c4 => ?_)
  · replace hn := hn.1 c4
    refine gs0 19 [(0, .inr (.inr (some 725))), (1, .inl x1), (2, .inl x2), (3, .inl x3)] [.inl 0] dM_179_18 (fun _ => rfl) (Or.inr rfl) ?_
    refine gs0 21 [(4, .inl 0), (0, .inr (.inr (some 725))), (1, .inl x1), (2, .inl x2), (3, .inl x3)] [] dM_179_19 (fun _ => rfl) (Or.inr rfl) ?_
    refine gs0 22 [(4, .inl 0), (0, .inr (.inr (some 725))), (1, .inl x1), (2, .inl x2), (3, .inl x3)] [.inl 0] dM_179_21 (fun _ => rfl) (Or.inr rfl) ?_
    refine gs0 24 [(5, .inl 0), (4, .inl 0), (0, .inr (.inr (some 725))), (1, .inl x1), (2, .inl x2), (3, .inl x3)] [] dM_179_22 (fun _ => rfl) (Or.inr rfl) ?_
    exact GoS.sub (Lnd_keys (ks := [0, 3, 4, 5]) rfl (by decide)) (Lsub_cons rfl (Lsub_cons rfl (Lsub_cons rfl (Lsub_cons rfl Lsub_nil)))) hn
  · replace hn := hn.2 c4
    refine gs0 15 [(0, .inr (.inr (some 725))), (1, .inl x1), (2, .inl x2), (3, .inl x3)] [.inl 1] dM_179_14 (fun _ => rfl) (Or.inr rfl) ?_
    refine gs0 19 [(0, .inr (.inr (some 725))), (1, .inl x1), (2, .inl x2), (3, .inl x3)] [.inl 1] dM_179_15 (fun _ => rfl) (Or.inr rfl) ?_
    refine gs0 21 [(4, .inl 1), (0, .inr (.inr (some 725))), (1, .inl x1), (2, .inl x2), (3, .inl x3)] [] dM_179_19 (fun _ => rfl) (Or.inr rfl) ?_
    refine gs0 22 [(4, .inl 1), (0, .inr (.inr (some 725))), (1, .inl x1), (2, .inl x2), (3, .inl x3)] [.inl 0] dM_179_21 (fun _ => rfl) (Or.inr rfl) ?_
    refine gs0 24 [(5, .inl 0), (4, .inl 1), (0, .inr (.inr (some 725))), (1, .inl x1), (2, .inl x2), (3, .inl x3)] [] dM_179_22 (fun _ => rfl) (Or.inr rfl) ?_
    exact GoS.sub (Lnd_keys (ks := [0, 3, 4, 5]) rfl (by decide)) (Lsub_cons rfl (Lsub_cons rfl (Lsub_cons rfl (Lsub_cons rfl Lsub_nil)))) hn
set_option maxRecDepth 100000 in
/-- GoalsInAQueueModel.earliest -/
theorem w_180 (sg : rSg) (x1 : Int32) (x2 : Int32) {P : Option rv → rSg → Prop} (h :
    EvS rSkel 2 164 [.inr (.inr (some 725)), .inl x1] sg (fun v1 t2 => ∃ n4, v1 = some (.inl n4) ∧
      (n4 = 0 → 
        EvS rSkel 1 128 [.inr (.inr (some 725)), .inl ((-1))] t2 (fun v6 t7 => ∃ n9, v6 = some (.inl n9) ∧
          P (some (.inl n9)) t7)) ∧
      (¬ (n4 = 0) → 
        EvS rSkel 2 165 [.inl x2] t2 (fun v10 t11 => ∃ n13, v10 = some (.inl n13) ∧
          (n13 = 0 → 
            EvS rSkel 1 128 [.inr (.inr (some 725)), .inl ((-1))] t11 (fun v15 t16 => ∃ n18, v15 = some (.inl n18) ∧
              P (some (.inl n18)) t16)) ∧
          (¬ (n13 = 0) → 
            EvS rSkel 7 178 [.inr (.inr (some 725)), .inl x1, .inl x2] t11 (fun v19 t20 => ∃ n22, v19 = some (.inl n22) ∧
              P (some (.inl n22)) t20)))))) : EvS rSkel 8 180 [.inr (.inr (some 725)), .inl x1, .inl x2] sg P := by
  refine EvS.of (ini := false) rfl ⟨rfl, Nat.le_of_ble_eq_true rfl⟩ rfl ?_
  show GoS rSkel 7 9 3 (some .int) false prog_11_method_70_code 0 [(0, .inr (.inr (some 725))), (1, .inl x1), (2, .inl x2)] [] sg _
  refine gs0 1 [(0, .inr (.inr (some 725))), (1, .inl x1), (2, .inl x2)] [.inr (.inr (some 725))] dM_180_0 (fun _ => rfl) (Or.inr rfl) ?_
  refine gs0 2 [(0, .inr (.inr (some 725))), (1, .inl x1), (2, .inl x2)] [.inl x1, .inr (.inr (some 725))] dM_180_1 (fun _ => rfl) (Or.inr rfl) ?_
  refine gsCallV (y := 164) (k := 725) (as := [.inr (.inr (some 725)), .inl x1]) (r := []) dM_180_2 rfl rfl rfl (Nat.le_of_ble_eq_true rfl) sk_725 rfl (Nat.le_of_ble_eq_true rfl) (EvS.up h (Nat.le_of_ble_eq_true rfl)) (fun v1 t2 hv3 => ?_)
  obtain ⟨n4, rfl, hn⟩ := hv3
  clear h
  show GoS _ _ _ _ _ _ _ _ [(0, .inr (.inr (some 725))), (1, .inl x1), (2, .inl x2)] [.inl n4] t2 _
  refine gsIf (t := 24) (C := n4 = 0) (r := []) dM_180_5 (fun _ => rfl) (Or.inr rfl) (rTest_iff .eq n4 0) (fun c5 => ?_) (fun c5 => ?_)
  · replace hn := hn.1 c5
    refine gs0 25 [(0, .inr (.inr (some 725))), (1, .inl x1), (2, .inl x2)] [.inr (.inr (some 725))] dM_180_24 (fun _ => rfl) (Or.inr rfl) ?_
    refine gs0 26 [(0, .inr (.inr (some 725))), (1, .inl x1), (2, .inl x2)] [.inl ((-1)), .inr (.inr (some 725))] dM_180_25 (fun _ => rfl) (Or.inr rfl) ?_
    refine gsCallV (y := 128) (k := 725) (as := [.inr (.inr (some 725)), .inl ((-1))]) (r := []) dM_180_26 rfl rfl rfl (Nat.le_of_ble_eq_true rfl) sk_725 rfl (Nat.le_of_ble_eq_true rfl) (EvS.up hn (Nat.le_of_ble_eq_true rfl)) (fun v6 t7 hv8 => ?_)
    obtain ⟨n9, rfl, hnn⟩ := hv8
    clear hn
    show GoS _ _ _ _ _ _ _ _ [(0, .inr (.inr (some 725))), (1, .inl x1), (2, .inl x2)] [.inl n9] t7 _
    refine gsRet (r := some (.inl n9)) dM_180_29 (fun _ => rfl) (Or.inr rfl) ?_
    exact hnn
  · replace hn := hn.2 c5
    refine gs0 9 [(0, .inr (.inr (some 725))), (1, .inl x1), (2, .inl x2)] [.inl x2] dM_180_8 (fun _ => rfl) (Or.inr rfl) ?_
    refine gsCallS (y := 165) (as := [.inl x2]) (r := []) dM_180_9 rfl (Or.inl rfl) rfl rfl (Nat.le_of_ble_eq_true rfl) (EvS.up hn (Nat.le_of_ble_eq_true rfl)) (fun v10 t11 hv12 => ?_)
    obtain ⟨n13, rfl, hnn⟩ := hv12
    clear hn
    show GoS _ _ _ _ _ _ _ _ [(0, .inr (.inr (some 725))), (1, .inl x1), (2, .inl x2)] [.inl n13] t11 _
    refine gsIf (t := 24) (C := n13 = 0) (r := []) dM_180_12 (fun _ => rfl) (Or.inr rfl) (rTest_iff .eq n13 0) (fun c14 => ?_) (fun c14 => ?_)
    · replace hnn := hnn.1 c14
      refine gs0 25 [(0, .inr (.inr (some 725))), (1, .inl x1), (2, .inl x2)] [.inr (.inr (some 725))] dM_180_24 (fun _ => rfl) (Or.inr rfl) ?_
      refine gs0 26 [(0, .inr (.inr (some 725))), (1, .inl x1), (2, .inl x2)] [.inl ((-1)), .inr (.inr (some 725))] dM_180_25 (fun _ => rfl) (Or.inr rfl) ?_
      refine gsCallV (y := 128) (k := 725) (as := [.inr (.inr (some 725)), .inl ((-1))]) (r := []) dM_180_26 rfl rfl rfl (Nat.le_of_ble_eq_true rfl) sk_725 rfl (Nat.le_of_ble_eq_true rfl) (EvS.up hnn (Nat.le_of_ble_eq_true rfl)) (fun v15 t16 hv17 => ?_)
      obtain ⟨n18, rfl, hnnn⟩ := hv17
      clear hnn
      show GoS _ _ _ _ _ _ _ _ [(0, .inr (.inr (some 725))), (1, .inl x1), (2, .inl x2)] [.inl n18] t16 _
      refine gsRet (r := some (.inl n18)) dM_180_29 (fun _ => rfl) (Or.inr rfl) ?_
      exact hnnn
    · replace hnn := hnn.2 c14
      refine gs0 16 [(0, .inr (.inr (some 725))), (1, .inl x1), (2, .inl x2)] [.inr (.inr (some 725))] dM_180_15 (fun _ => rfl) (Or.inr rfl) ?_
      refine gs0 17 [(0, .inr (.inr (some 725))), (1, .inl x1), (2, .inl x2)] [.inl x1, .inr (.inr (some 725))] dM_180_16 (fun _ => rfl) (Or.inr rfl) ?_
      refine gs0 18 [(0, .inr (.inr (some 725))), (1, .inl x1), (2, .inl x2)] [.inl x2, .inl x1, .inr (.inr (some 725))] dM_180_17 (fun _ => rfl) (Or.inr rfl) ?_
      refine gsCallV (y := 178) (k := 725) (as := [.inr (.inr (some 725)), .inl x1, .inl x2]) (r := []) dM_180_18 rfl rfl rfl (Nat.le_of_ble_eq_true rfl) sk_725 rfl (Nat.le_of_ble_eq_true rfl) (EvS.up hnn (Nat.le_of_ble_eq_true rfl)) (fun v19 t20 hv21 => ?_)
      obtain ⟨n22, rfl, hnnn⟩ := hv21
      clear hnn
      show GoS _ _ _ _ _ _ _ _ [(0, .inr (.inr (some 725))), (1, .inl x1), (2, .inl x2)] [.inl n22] t20 _
      refine gs0 29 [(0, .inr (.inr (some 725))), (1, .inl x1), (2, .inl x2)] [.inl n22] dM_180_21 (fun _ => rfl) (Or.inr rfl) ?_
      refine gsRet (r := some (.inl n22)) dM_180_29 (fun _ => rfl) (Or.inr rfl) ?_
      exact hnnn
def g_181_29  (y2 : Int32) (y3 : Int32) (sg : rSg) (P : Option rv → rSg → Prop) : Prop := GoS rSkel 6 9 5 (some .int) false prog_11_method_71_code 29 [(0, .inr (.inr (some 725))), (2, .inl y2), (3, .inl y3)] [] sg P
def g_181_87  (y3 : Int32) (y4 : Int32) (sg : rSg) (P : Option rv → rSg → Prop) : Prop := GoS rSkel 6 9 5 (some .int) false prog_11_method_71_code 87 [(0, .inr (.inr (some 725))), (3, .inl y3), (4, .inl y4)] [] sg P
set_option maxRecDepth 100000 in
theorem w_181_29 (sg : rSg)  (y2 : Int32) (y3 : Int32) {P : Option rv → rSg → Prop} (h :
    (64 ≤ y3 → 
      g_181_87 1 0 sg P) ∧
    (¬ (64 ≤ y3) → 
      (rIn ((64 * y2) + y3) 3840 = true ∧
      (0 ≤ (sg 743 (((64 * y2) + y3).toNatClampNeg)) → 
        (rIn ((64 * y2) + y3) 3840 = true ∧
        rIn (64 + y3) 128 = true ∧
        g_181_29 y2 (y3 + 1) (up2 sg 736 ((64 + y3).toNatClampNeg) ((sg 743 (((64 * y2) + y3).toNatClampNeg)) + 1)) P)) ∧
      (¬ (0 ≤ (sg 743 (((64 * y2) + y3).toNatClampNeg))) → 
        (rIn (64 + y3) 128 = true ∧
        g_181_29 y2 (y3 + 1) (up2 sg 736 ((64 + y3).toNatClampNeg) ((-9))) P))))) : g_181_29 y2 y3 sg P := by
  show GoS rSkel 6 9 5 (some .int) false prog_11_method_71_code 29 [(0, .inr (.inr (some 725))), (2, .inl y2), (3, .inl y3)] [] sg P
  refine gs0 30 [(0, .inr (.inr (some 725))), (2, .inl y2), (3, .inl y3)] [.inl y3] dM_181_29 (fun _ => rfl) (Or.inr rfl) ?_
  refine gs0 32 [(0, .inr (.inr (some 725))), (2, .inl y2), (3, .inl y3)] [.inl 64, .inl y3] dM_181_30 (fun _ => rfl) (Or.inr rfl) ?_
  refine gsIf (t := 82) (C := 64 ≤ y3) (r := []) dM_181_32 (fun _ => rfl) (Or.inr rfl) (rTest_iff .ge y3 64) (fun c22 => ?_) (fun c22 => ?_)
  · replace h := h.1 c22
    refine gs0 83 [(0, .inr (.inr (some 725))), (2, .inl y2), (3, .inl y3)] [.inl 1] dM_181_82 (fun _ => rfl) (Or.inr rfl) ?_
    refine gs0 84 [(3, .inl 1), (0, .inr (.inr (some 725))), (2, .inl y2)] [] dM_181_83 (fun _ => rfl) (Or.inr rfl) ?_
    refine gs0 85 [(3, .inl 1), (0, .inr (.inr (some 725))), (2, .inl y2)] [.inl 0] dM_181_84 (fun _ => rfl) (Or.inr rfl) ?_
    refine gs0 87 [(4, .inl 0), (3, .inl 1), (0, .inr (.inr (some 725))), (2, .inl y2)] [] dM_181_85 (fun _ => rfl) (Or.inr rfl) ?_
    exact GoS.sub (Lnd_keys (ks := [0, 3, 4]) rfl (by decide)) (Lsub_cons rfl (Lsub_cons rfl (Lsub_cons rfl Lsub_nil))) h
  · replace h := h.2 c22
    refine gs0 36 [(0, .inr (.inr (some 725))), (2, .inl y2), (3, .inl y3)] [.inr (.inr (some 725))] dM_181_35 (fun _ => rfl) (Or.inr rfl) ?_
    refine gsGetR (some 736) dM_181_36 sk_725 rfl rfl ?_
    refine gs0 41 [(0, .inr (.inr (some 725))), (2, .inl y2), (3, .inl y3)] [.inl 64, .inr (.inr (some 736))] dM_181_39 (fun _ => rfl) (Or.inr rfl) ?_
    refine gs0 42 [(0, .inr (.inr (some 725))), (2, .inl y2), (3, .inl y3)] [.inl y3, .inl 64, .inr (.inr (some 736))] dM_181_41 (fun _ => rfl) (Or.inr rfl) ?_
    refine gs0 43 [(0, .inr (.inr (some 725))), (2, .inl y2), (3, .inl y3)] [.inl (64 + y3), .inr (.inr (some 736))] dM_181_42 (fun _ => rfl) (Or.inr rfl) ?_
    refine gs0 44 [(0, .inr (.inr (some 725))), (2, .inl y2), (3, .inl y3)] [.inr (.inr (some 725)), .inl (64 + y3), .inr (.inr (some 736))] dM_181_43 (fun _ => rfl) (Or.inr rfl) ?_
    refine gsGetR (some 743) dM_181_44 sk_725 rfl rfl ?_
    refine gs0 49 [(0, .inr (.inr (some 725))), (2, .inl y2), (3, .inl y3)] [.inl 64, .inr (.inr (some 743)), .inl (64 + y3), .inr (.inr (some 736))] dM_181_47 (fun _ => rfl) (Or.inr rfl) ?_
    refine gs0 50 [(0, .inr (.inr (some 725))), (2, .inl y2), (3, .inl y3)] [.inl y2, .inl 64, .inr (.inr (some 743)), .inl (64 + y3), .inr (.inr (some 736))] dM_181_49 (fun _ => rfl) (Or.inr rfl) ?_
    refine gs0 51 [(0, .inr (.inr (some 725))), (2, .inl y2), (3, .inl y3)] [.inl (64 * y2), .inr (.inr (some 743)), .inl (64 + y3), .inr (.inr (some 736))] dM_181_50 (fun _ => rfl) (Or.inr rfl) ?_
    refine gs0 52 [(0, .inr (.inr (some 725))), (2, .inl y2), (3, .inl y3)] [.inl y3, .inl (64 * y2), .inr (.inr (some 743)), .inl (64 + y3), .inr (.inr (some 736))] dM_181_51 (fun _ => rfl) (Or.inr rfl) ?_
    refine gs0 53 [(0, .inr (.inr (some 725))), (2, .inl y2), (3, .inl y3)] [.inl ((64 * y2) + y3), .inr (.inr (some 743)), .inl (64 + y3), .inr (.inr (some 736))] dM_181_52 (fun _ => rfl) (Or.inr rfl) ?_
    refine gsIaldN (((64 * y2) + y3).toNatClampNeg) (sg 743 (((64 * y2) + y3).toNatClampNeg)) dM_181_53 sk_743 h.1 rfl rfl ?_
    replace h := h.2
    refine gsIf (t := 62) (C := 0 ≤ (sg 743 (((64 * y2) + y3).toNatClampNeg))) (r := [.inl (64 + y3), .inr (.inr (some 736))]) dM_181_54 (fun _ => rfl) (Or.inr rfl) (rTest_iff .ge (sg 743 (((64 * y2) + y3).toNatClampNeg)) 0) (fun c23 => ?_) (fun c23 => ?_)
    · replace h := h.1 c23
      refine gs0 63 [(0, .inr (.inr (some 725))), (2, .inl y2), (3, .inl y3)] [.inr (.inr (some 725)), .inl (64 + y3), .inr (.inr (some 736))] dM_181_62 (fun _ => rfl) (Or.inr rfl) ?_
      refine gsGetR (some 743) dM_181_63 sk_725 rfl rfl ?_
      refine gs0 68 [(0, .inr (.inr (some 725))), (2, .inl y2), (3, .inl y3)] [.inl 64, .inr (.inr (some 743)), .inl (64 + y3), .inr (.inr (some 736))] dM_181_66 (fun _ => rfl) (Or.inr rfl) ?_
      refine gs0 69 [(0, .inr (.inr (some 725))), (2, .inl y2), (3, .inl y3)] [.inl y2, .inl 64, .inr (.inr (some 743)), .inl (64 + y3), .inr (.inr (some 736))] dM_181_68 (fun _ => rfl) (Or.inr rfl) ?_
      refine gs0 70 [(0, .inr (.inr (some 725))), (2, .inl y2), (3, .inl y3)] [.inl (64 * y2), .inr (.inr (some 743)), .inl (64 + y3), .inr (.inr (some 736))] dM_181_69 (fun _ => rfl) (Or.inr rfl) ?_
      refine gs0 71 [(0, .inr (.inr (some 725))), (2, .inl y2), (3, .inl y3)] [.inl y3, .inl (64 * y2), .inr (.inr (some 743)), .inl (64 + y3), .inr (.inr (some 736))] dM_181_70 (fun _ => rfl) (Or.inr rfl) ?_
      refine gs0 72 [(0, .inr (.inr (some 725))), (2, .inl y2), (3, .inl y3)] [.inl ((64 * y2) + y3), .inr (.inr (some 743)), .inl (64 + y3), .inr (.inr (some 736))] dM_181_71 (fun _ => rfl) (Or.inr rfl) ?_
      refine gsIaldN (((64 * y2) + y3).toNatClampNeg) (sg 743 (((64 * y2) + y3).toNatClampNeg)) dM_181_72 sk_743 h.1 rfl rfl ?_
      replace h := h.2
      refine gs0 74 [(0, .inr (.inr (some 725))), (2, .inl y2), (3, .inl y3)] [.inl 1, .inl (sg 743 (((64 * y2) + y3).toNatClampNeg)), .inl (64 + y3), .inr (.inr (some 736))] dM_181_73 (fun _ => rfl) (Or.inr rfl) ?_
      refine gs0 75 [(0, .inr (.inr (some 725))), (2, .inl y2), (3, .inl y3)] [.inl ((sg 743 (((64 * y2) + y3).toNatClampNeg)) + 1), .inl (64 + y3), .inr (.inr (some 736))] dM_181_74 (fun _ => rfl) (Or.inr rfl) ?_
      refine gsIastN ((64 + y3).toNatClampNeg) dM_181_75 sk_736 h.1 rfl ?_
      replace h := h.2
      refine gs0 79 [(3, .inl (y3 + 1)), (0, .inr (.inr (some 725))), (2, .inl y2)] [] dM_181_76 (fun _ => rfl) (Or.inr rfl) ?_
      refine gs0 29 [(3, .inl (y3 + 1)), (0, .inr (.inr (some 725))), (2, .inl y2)] [] dM_181_79 (fun _ => rfl) (Or.inr rfl) ?_
      exact GoS.sub (Lnd_keys (ks := [0, 2, 3]) rfl (by decide)) (Lsub_cons rfl (Lsub_cons rfl (Lsub_cons rfl Lsub_nil))) h
    · replace h := h.2 c23
      refine gs0 59 [(0, .inr (.inr (some 725))), (2, .inl y2), (3, .inl y3)] [.inl ((-9)), .inl (64 + y3), .inr (.inr (some 736))] dM_181_57 (fun _ => rfl) (Or.inr rfl) ?_
      refine gs0 75 [(0, .inr (.inr (some 725))), (2, .inl y2), (3, .inl y3)] [.inl ((-9)), .inl (64 + y3), .inr (.inr (some 736))] dM_181_59 (fun _ => rfl) (Or.inr rfl) ?_
      refine gsIastN ((64 + y3).toNatClampNeg) dM_181_75 sk_736 h.1 rfl ?_
      replace h := h.2
      refine gs0 79 [(3, .inl (y3 + 1)), (0, .inr (.inr (some 725))), (2, .inl y2)] [] dM_181_76 (fun _ => rfl) (Or.inr rfl) ?_
      refine gs0 29 [(3, .inl (y3 + 1)), (0, .inr (.inr (some 725))), (2, .inl y2)] [] dM_181_79 (fun _ => rfl) (Or.inr rfl) ?_
      exact GoS.sub (Lnd_keys (ks := [0, 2, 3]) rfl (by decide)) (Lsub_cons rfl (Lsub_cons rfl (Lsub_cons rfl Lsub_nil))) h
set_option maxRecDepth 100000 in
theorem w_181_87 (sg : rSg)  (y3 : Int32) (y4 : Int32) {P : Option rv → rSg → Prop} (h :
    (6 ≤ y4 → 
      (y3 = 0 → 
        P (some (.inl 0)) sg) ∧
      (¬ (y3 = 0) → 
        P (some (.inl 1)) sg)) ∧
    (¬ (6 ≤ y4) → 
      (y3 = 0 → 
        (y3 = 0 → 
          P (some (.inl 0)) sg) ∧
        (¬ (y3 = 0) → 
          P (some (.inl 1)) sg)) ∧
      (¬ (y3 = 0) → 
        EvS rSkel 6 145 [.inr (.inr (some 725)), .inl (2 * y4), .inl ((2 * y4) + 1)] sg (fun v28 t29 => ∃ n31, v28 = some (.inl n31) ∧
          g_181_87 n31 (y4 + 1) t29 P)))) : g_181_87 y3 y4 sg P := by
  show GoS rSkel 6 9 5 (some .int) false prog_11_method_71_code 87 [(0, .inr (.inr (some 725))), (3, .inl y3), (4, .inl y4)] [] sg P
  refine gs0 89 [(0, .inr (.inr (some 725))), (3, .inl y3), (4, .inl y4)] [.inl y4] dM_181_87 (fun _ => rfl) (Or.inr rfl) ?_
  refine gs0 91 [(0, .inr (.inr (some 725))), (3, .inl y3), (4, .inl y4)] [.inl 6, .inl y4] dM_181_89 (fun _ => rfl) (Or.inr rfl) ?_
  refine gsIf (t := 119) (C := 6 ≤ y4) (r := []) dM_181_91 (fun _ => rfl) (Or.inr rfl) (rTest_iff .ge y4 6) (fun c24 => ?_) (fun c24 => ?_)
  · replace h := h.1 c24
    refine gs0 120 [(0, .inr (.inr (some 725))), (3, .inl y3), (4, .inl y4)] [.inl y3] dM_181_119 (fun _ => rfl) (Or.inr rfl) ?_
    refine gsIf (t := 127) (C := y3 = 0) (r := []) dM_181_120 (fun _ => rfl) (Or.inr rfl) (rTest_iff .eq y3 0) (fun c25 => ?_) (fun c25 => ?_)
    · replace h := h.1 c25
      refine gs0 128 [(0, .inr (.inr (some 725))), (3, .inl y3), (4, .inl y4)] [.inl 0] dM_181_127 (fun _ => rfl) (Or.inr rfl) ?_
      refine gsRet (r := some (.inl 0)) dM_181_128 (fun _ => rfl) (Or.inr rfl) ?_
      exact h
    · replace h := h.2 c25
      refine gs0 124 [(0, .inr (.inr (some 725))), (3, .inl y3), (4, .inl y4)] [.inl 1] dM_181_123 (fun _ => rfl) (Or.inr rfl) ?_
      refine gs0 128 [(0, .inr (.inr (some 725))), (3, .inl y3), (4, .inl y4)] [.inl 1] dM_181_124 (fun _ => rfl) (Or.inr rfl) ?_
      refine gsRet (r := some (.inl 1)) dM_181_128 (fun _ => rfl) (Or.inr rfl) ?_
      exact h
  · replace h := h.2 c24
    refine gs0 95 [(0, .inr (.inr (some 725))), (3, .inl y3), (4, .inl y4)] [.inl y3] dM_181_94 (fun _ => rfl) (Or.inr rfl) ?_
    refine gsIf (t := 119) (C := y3 = 0) (r := []) dM_181_95 (fun _ => rfl) (Or.inr rfl) (rTest_iff .eq y3 0) (fun c26 => ?_) (fun c26 => ?_)
    · replace h := h.1 c26
      refine gs0 120 [(0, .inr (.inr (some 725))), (3, .inl y3), (4, .inl y4)] [.inl y3] dM_181_119 (fun _ => rfl) (Or.inr rfl) ?_
      refine gsIf (t := 127) (C := y3 = 0) (r := []) dM_181_120 (fun _ => rfl) (Or.inr rfl) (rTest_iff .eq y3 0) (fun c27 => ?_) (fun c27 => ?_)
      · replace h := h.1 c27
        refine gs0 128 [(0, .inr (.inr (some 725))), (3, .inl y3), (4, .inl y4)] [.inl 0] dM_181_127 (fun _ => rfl) (Or.inr rfl) ?_
        refine gsRet (r := some (.inl 0)) dM_181_128 (fun _ => rfl) (Or.inr rfl) ?_
        exact h
      · replace h := h.2 c27
        refine gs0 124 [(0, .inr (.inr (some 725))), (3, .inl y3), (4, .inl y4)] [.inl 1] dM_181_123 (fun _ => rfl) (Or.inr rfl) ?_
        refine gs0 128 [(0, .inr (.inr (some 725))), (3, .inl y3), (4, .inl y4)] [.inl 1] dM_181_124 (fun _ => rfl) (Or.inr rfl) ?_
        refine gsRet (r := some (.inl 1)) dM_181_128 (fun _ => rfl) (Or.inr rfl) ?_
        exact h
    · replace h := h.2 c26
      refine gs0 99 [(0, .inr (.inr (some 725))), (3, .inl y3), (4, .inl y4)] [.inr (.inr (some 725))] dM_181_98 (fun _ => rfl) (Or.inr rfl) ?_
      refine gs0 100 [(0, .inr (.inr (some 725))), (3, .inl y3), (4, .inl y4)] [.inl 2, .inr (.inr (some 725))] dM_181_99 (fun _ => rfl) (Or.inr rfl) ?_
      refine gs0 102 [(0, .inr (.inr (some 725))), (3, .inl y3), (4, .inl y4)] [.inl y4, .inl 2, .inr (.inr (some 725))] dM_181_100 (fun _ => rfl) (Or.inr rfl) ?_
      refine gs0 103 [(0, .inr (.inr (some 725))), (3, .inl y3), (4, .inl y4)] [.inl (2 * y4), .inr (.inr (some 725))] dM_181_102 (fun _ => rfl) (Or.inr rfl) ?_
      refine gs0 104 [(0, .inr (.inr (some 725))), (3, .inl y3), (4, .inl y4)] [.inl 2, .inl (2 * y4), .inr (.inr (some 725))] dM_181_103 (fun _ => rfl) (Or.inr rfl) ?_
      refine gs0 106 [(0, .inr (.inr (some 725))), (3, .inl y3), (4, .inl y4)] [.inl y4, .inl 2, .inl (2 * y4), .inr (.inr (some 725))] dM_181_104 (fun _ => rfl) (Or.inr rfl) ?_
      refine gs0 107 [(0, .inr (.inr (some 725))), (3, .inl y3), (4, .inl y4)] [.inl (2 * y4), .inl (2 * y4), .inr (.inr (some 725))] dM_181_106 (fun _ => rfl) (Or.inr rfl) ?_
      refine gs0 108 [(0, .inr (.inr (some 725))), (3, .inl y3), (4, .inl y4)] [.inl 1, .inl (2 * y4), .inl (2 * y4), .inr (.inr (some 725))] dM_181_107 (fun _ => rfl) (Or.inr rfl) ?_
      refine gs0 109 [(0, .inr (.inr (some 725))), (3, .inl y3), (4, .inl y4)] [.inl ((2 * y4) + 1), .inl (2 * y4), .inr (.inr (some 725))] dM_181_108 (fun _ => rfl) (Or.inr rfl) ?_
      refine gsCallV (y := 145) (k := 725) (as := [.inr (.inr (some 725)), .inl (2 * y4), .inl ((2 * y4) + 1)]) (r := []) dM_181_109 rfl rfl rfl (Nat.le_of_ble_eq_true rfl) sk_725 rfl (Nat.le_of_ble_eq_true rfl) (EvS.up h (Nat.le_of_ble_eq_true rfl)) (fun v28 t29 hv30 => ?_)
      obtain ⟨n31, rfl, hn⟩ := hv30
      clear h
      show GoS _ _ _ _ _ _ _ _ [(0, .inr (.inr (some 725))), (3, .inl y3), (4, .inl y4)] [.inl n31] t29 _
      refine gs0 113 [(3, .inl n31), (0, .inr (.inr (some 725))), (4, .inl y4)] [] dM_181_112 (fun _ => rfl) (Or.inr rfl) ?_
      refine gs0 116 [(4, .inl (y4 + 1)), (3, .inl n31), (0, .inr (.inr (some 725)))] [] dM_181_113 (fun _ => rfl) (Or.inr rfl) ?_
      refine gs0 87 [(4, .inl (y4 + 1)), (3, .inl n31), (0, .inr (.inr (some 725)))] [] dM_181_116 (fun _ => rfl) (Or.inr rfl) ?_
      exact GoS.sub (Lnd_keys (ks := [0, 3, 4]) rfl (by decide)) (Lsub_cons rfl (Lsub_cons rfl (Lsub_cons rfl Lsub_nil))) hn
set_option maxRecDepth 100000 in
/-- GoalsInAQueueModel.meet -/
theorem w_181 (sg : rSg) (x1 : Int32) (x2 : Int32) {P : Option rv → rSg → Prop} (h :
    EvS rSkel 2 164 [.inr (.inr (some 725)), .inl x1] sg (fun v1 t2 => ∃ n4, v1 = some (.inl n4) ∧
      (n4 = 0 → 
        EvS rSkel 1 128 [.inr (.inr (some 725)), .inl ((-1))] t2 (fun v6 t7 => ∃ n9, v6 = some (.inl n9) ∧
          P (some (.inl n9)) t7)) ∧
      (¬ (n4 = 0) → 
        EvS rSkel 2 164 [.inr (.inr (some 725)), .inl x2] t2 (fun v10 t11 => ∃ n13, v10 = some (.inl n13) ∧
          (¬ n13 = 0 → 
            EvS rSkel 2 167 [.inr (.inr (some 725)), .inl x1] t11 (fun v15 t16 => v15 = none ∧
              g_181_29 x2 0 t16 P)) ∧
          (¬ (¬ n13 = 0) → 
            EvS rSkel 1 128 [.inr (.inr (some 725)), .inl ((-1))] t11 (fun v18 t19 => ∃ n21, v18 = some (.inl n21) ∧
              P (some (.inl n21)) t19)))))) : EvS rSkel 7 181 [.inr (.inr (some 725)), .inl x1, .inl x2] sg P := by
  refine EvS.of (ini := false) rfl ⟨rfl, Nat.le_of_ble_eq_true rfl⟩ rfl ?_
  show GoS rSkel 6 9 5 (some .int) false prog_11_method_71_code 0 [(0, .inr (.inr (some 725))), (1, .inl x1), (2, .inl x2)] [] sg _
  refine gs0 1 [(0, .inr (.inr (some 725))), (1, .inl x1), (2, .inl x2)] [.inr (.inr (some 725))] dM_181_0 (fun _ => rfl) (Or.inr rfl) ?_
  refine gs0 2 [(0, .inr (.inr (some 725))), (1, .inl x1), (2, .inl x2)] [.inl x1, .inr (.inr (some 725))] dM_181_1 (fun _ => rfl) (Or.inr rfl) ?_
  refine gsCallV (y := 164) (k := 725) (as := [.inr (.inr (some 725)), .inl x1]) (r := []) dM_181_2 rfl rfl rfl (Nat.le_of_ble_eq_true rfl) sk_725 rfl (Nat.le_of_ble_eq_true rfl) (EvS.up h (Nat.le_of_ble_eq_true rfl)) (fun v1 t2 hv3 => ?_)
  obtain ⟨n4, rfl, hn⟩ := hv3
  clear h
  show GoS _ _ _ _ _ _ _ _ [(0, .inr (.inr (some 725))), (1, .inl x1), (2, .inl x2)] [.inl n4] t2 _
  refine gsIf (t := 16) (C := n4 = 0) (r := []) dM_181_5 (fun _ => rfl) (Or.inr rfl) (rTest_iff .eq n4 0) (fun c5 => ?_) (fun c5 => ?_)
  · replace hn := hn.1 c5
    refine gs0 17 [(0, .inr (.inr (some 725))), (1, .inl x1), (2, .inl x2)] [.inr (.inr (some 725))] dM_181_16 (fun _ => rfl) (Or.inr rfl) ?_
    refine gs0 18 [(0, .inr (.inr (some 725))), (1, .inl x1), (2, .inl x2)] [.inl ((-1)), .inr (.inr (some 725))] dM_181_17 (fun _ => rfl) (Or.inr rfl) ?_
    refine gsCallV (y := 128) (k := 725) (as := [.inr (.inr (some 725)), .inl ((-1))]) (r := []) dM_181_18 rfl rfl rfl (Nat.le_of_ble_eq_true rfl) sk_725 rfl (Nat.le_of_ble_eq_true rfl) (EvS.up hn (Nat.le_of_ble_eq_true rfl)) (fun v6 t7 hv8 => ?_)
    obtain ⟨n9, rfl, hnn⟩ := hv8
    clear hn
    show GoS _ _ _ _ _ _ _ _ [(0, .inr (.inr (some 725))), (1, .inl x1), (2, .inl x2)] [.inl n9] t7 _
    refine gsRet (r := some (.inl n9)) dM_181_21 (fun _ => rfl) (Or.inr rfl) ?_
    exact hnn
  · replace hn := hn.2 c5
    refine gs0 9 [(0, .inr (.inr (some 725))), (1, .inl x1), (2, .inl x2)] [.inr (.inr (some 725))] dM_181_8 (fun _ => rfl) (Or.inr rfl) ?_
    refine gs0 10 [(0, .inr (.inr (some 725))), (1, .inl x1), (2, .inl x2)] [.inl x2, .inr (.inr (some 725))] dM_181_9 (fun _ => rfl) (Or.inr rfl) ?_
    refine gsCallV (y := 164) (k := 725) (as := [.inr (.inr (some 725)), .inl x2]) (r := []) dM_181_10 rfl rfl rfl (Nat.le_of_ble_eq_true rfl) sk_725 rfl (Nat.le_of_ble_eq_true rfl) (EvS.up hn (Nat.le_of_ble_eq_true rfl)) (fun v10 t11 hv12 => ?_)
    obtain ⟨n13, rfl, hnn⟩ := hv12
    clear hn
    show GoS _ _ _ _ _ _ _ _ [(0, .inr (.inr (some 725))), (1, .inl x1), (2, .inl x2)] [.inl n13] t11 _
    refine gsIf (t := 22) (C := ¬ n13 = 0) (r := []) dM_181_13 (fun _ => rfl) (Or.inr rfl) (rTest_iff .ne n13 0) (fun c14 => ?_) (fun c14 => ?_)
    · replace hnn := hnn.1 c14
      refine gs0 23 [(0, .inr (.inr (some 725))), (1, .inl x1), (2, .inl x2)] [.inr (.inr (some 725))] dM_181_22 (fun _ => rfl) (Or.inr rfl) ?_
      refine gs0 24 [(0, .inr (.inr (some 725))), (1, .inl x1), (2, .inl x2)] [.inl x1, .inr (.inr (some 725))] dM_181_23 (fun _ => rfl) (Or.inr rfl) ?_
      refine gsCallV (y := 167) (k := 725) (as := [.inr (.inr (some 725)), .inl x1]) (r := []) dM_181_24 rfl rfl rfl (Nat.le_of_ble_eq_true rfl) sk_725 rfl (Nat.le_of_ble_eq_true rfl) (EvS.up hnn (Nat.le_of_ble_eq_true rfl)) (fun v15 t16 hv17 => ?_)
      obtain ⟨rfl, hnnn⟩ := hv17
      clear hnn
      show GoS _ _ _ _ _ _ _ _ [(0, .inr (.inr (some 725))), (1, .inl x1), (2, .inl x2)] [] t16 _
      refine gs0 28 [(0, .inr (.inr (some 725))), (1, .inl x1), (2, .inl x2)] [.inl 0] dM_181_27 (fun _ => rfl) (Or.inr rfl) ?_
      refine gs0 29 [(3, .inl 0), (0, .inr (.inr (some 725))), (1, .inl x1), (2, .inl x2)] [] dM_181_28 (fun _ => rfl) (Or.inr rfl) ?_
      exact GoS.sub (Lnd_keys (ks := [0, 2, 3]) rfl (by decide)) (Lsub_cons rfl (Lsub_cons rfl (Lsub_cons rfl Lsub_nil))) hnnn
    · replace hnn := hnn.2 c14
      refine gs0 17 [(0, .inr (.inr (some 725))), (1, .inl x1), (2, .inl x2)] [.inr (.inr (some 725))] dM_181_16 (fun _ => rfl) (Or.inr rfl) ?_
      refine gs0 18 [(0, .inr (.inr (some 725))), (1, .inl x1), (2, .inl x2)] [.inl ((-1)), .inr (.inr (some 725))] dM_181_17 (fun _ => rfl) (Or.inr rfl) ?_
      refine gsCallV (y := 128) (k := 725) (as := [.inr (.inr (some 725)), .inl ((-1))]) (r := []) dM_181_18 rfl rfl rfl (Nat.le_of_ble_eq_true rfl) sk_725 rfl (Nat.le_of_ble_eq_true rfl) (EvS.up hnn (Nat.le_of_ble_eq_true rfl)) (fun v18 t19 hv20 => ?_)
      obtain ⟨n21, rfl, hnnn⟩ := hv20
      clear hnn
      show GoS _ _ _ _ _ _ _ _ [(0, .inr (.inr (some 725))), (1, .inl x1), (2, .inl x2)] [.inl n21] t19 _
      refine gsRet (r := some (.inl n21)) dM_181_21 (fun _ => rfl) (Or.inr rfl) ?_
      exact hnnn
def g_182_35  (y1 : Int32) (sg : rSg) (P : Option rv → rSg → Prop) : Prop := GoS rSkel 13 9 4 (some .int) false prog_11_method_75_code 35 [(0, .inr (.inr (some 725))), (1, .inl y1)] [] sg P
set_option maxRecDepth 100000 in
theorem w_182_35 (sg : rSg)  (y1 : Int32) {P : Option rv → rSg → Prop} (h :
    (y1 ≤ (sg 748 1) → 
      ((sg 748 1) < y1 → 
        EvS rSkel 1 184 [.inr (.inr (some 725))] sg (fun v18 t19 => v18 = none ∧
          P (some (.inl ((-9)))) t19)) ∧
      (¬ ((sg 748 1) < y1) → 
        EvS rSkel 1 184 [.inr (.inr (some 725))] sg (fun v21 t22 => v21 = none ∧
          P (some (.inl (sg 749 1))) t22))) ∧
    (¬ (y1 ≤ (sg 748 1)) → 
      (300 ≤ (sg 749 1) → 
        ((sg 748 1) < y1 → 
          EvS rSkel 1 184 [.inr (.inr (some 725))] sg (fun v26 t27 => v26 = none ∧
            P (some (.inl ((-9)))) t27)) ∧
        (¬ ((sg 748 1) < y1) → 
          EvS rSkel 1 184 [.inr (.inr (some 725))] sg (fun v29 t30 => v29 = none ∧
            P (some (.inl (sg 749 1))) t30))) ∧
      (¬ (300 ≤ (sg 749 1)) → 
        EvS rSkel 1 138 [.inr (.inr (some 725))] sg (fun v32 t33 => ∃ n35, v32 = some (.inl n35) ∧
          (¬ n35 = 0 → 
            ((t33 748 1) < y1 → 
              EvS rSkel 1 184 [.inr (.inr (some 725))] t33 (fun v38 t39 => v38 = none ∧
                P (some (.inl ((-9)))) t39)) ∧
            (¬ ((t33 748 1) < y1) → 
              EvS rSkel 1 184 [.inr (.inr (some 725))] t33 (fun v41 t42 => v41 = none ∧
                P (some (.inl (t33 749 1))) t42))) ∧
          (¬ (¬ n35 = 0) → 
            EvS rSkel 13 139 [.inr (.inr (some 725))] t33 (fun v44 t45 => v44 = none ∧
              g_182_35 y1 t45 P)))))) : g_182_35 y1 sg P := by
  show GoS rSkel 13 9 4 (some .int) false prog_11_method_75_code 35 [(0, .inr (.inr (some 725))), (1, .inl y1)] [] sg P
  refine gs0 36 [(0, .inr (.inr (some 725))), (1, .inl y1)] [.inr (.inr (some 725))] dM_182_35 (fun _ => rfl) (Or.inr rfl) ?_
  refine gsGetR (some 748) dM_182_36 sk_725 rfl rfl ?_
  refine gs0 40 [(0, .inr (.inr (some 725))), (1, .inl y1)] [.inl 1, .inr (.inr (some 748))] dM_182_39 (fun _ => rfl) (Or.inr rfl) ?_
  refine gsIaldN 1 (sg 748 1) dM_182_40 sk_748 rfl rfl rfl ?_
  refine gs0 42 [(0, .inr (.inr (some 725))), (1, .inl y1)] [.inl y1, .inl (sg 748 1)] dM_182_41 (fun _ => rfl) (Or.inr rfl) ?_
  refine gsIf (t := 71) (C := y1 ≤ (sg 748 1)) (r := []) dM_182_42 (fun _ => rfl) (Or.inr rfl) (rTest_iff .ge (sg 748 1) y1) (fun c16 => ?_) (fun c16 => ?_)
  · replace h := h.1 c16
    refine gs0 72 [(0, .inr (.inr (some 725))), (1, .inl y1)] [.inr (.inr (some 725))] dM_182_71 (fun _ => rfl) (Or.inr rfl) ?_
    refine gsGetR (some 748) dM_182_72 sk_725 rfl rfl ?_
    refine gs0 76 [(0, .inr (.inr (some 725))), (1, .inl y1)] [.inl 1, .inr (.inr (some 748))] dM_182_75 (fun _ => rfl) (Or.inr rfl) ?_
    refine gsIaldN 1 (sg 748 1) dM_182_76 sk_748 rfl rfl rfl ?_
    refine gs0 78 [(0, .inr (.inr (some 725))), (1, .inl y1)] [.inl y1, .inl (sg 748 1)] dM_182_77 (fun _ => rfl) (Or.inr rfl) ?_
    refine gsIf (t := 90) (C := (sg 748 1) < y1) (r := []) dM_182_78 (fun _ => rfl) (Or.inr rfl) (rTest_iff .lt (sg 748 1) y1) (fun c17 => ?_) (fun c17 => ?_)
    · replace h := h.1 c17
      refine gs0 92 [(0, .inr (.inr (some 725))), (1, .inl y1)] [.inl ((-9))] dM_182_90 (fun _ => rfl) (Or.inr rfl) ?_
      refine gs0 93 [(3, .inl ((-9))), (0, .inr (.inr (some 725))), (1, .inl y1)] [] dM_182_92 (fun _ => rfl) (Or.inr rfl) ?_
      refine gs0 94 [(3, .inl ((-9))), (0, .inr (.inr (some 725))), (1, .inl y1)] [.inr (.inr (some 725))] dM_182_93 (fun _ => rfl) (Or.inr rfl) ?_
      refine gsCallV (y := 184) (k := 725) (as := [.inr (.inr (some 725))]) (r := []) dM_182_94 rfl rfl rfl (Nat.le_of_ble_eq_true rfl) sk_725 rfl (Nat.le_of_ble_eq_true rfl) (EvS.up h (Nat.le_of_ble_eq_true rfl)) (fun v18 t19 hv20 => ?_)
      obtain ⟨rfl, hn⟩ := hv20
      clear h
      show GoS _ _ _ _ _ _ _ _ [(3, .inl ((-9))), (0, .inr (.inr (some 725))), (1, .inl y1)] [] t19 _
      refine gs0 98 [(3, .inl ((-9))), (0, .inr (.inr (some 725))), (1, .inl y1)] [.inl ((-9))] dM_182_97 (fun _ => rfl) (Or.inr rfl) ?_
      refine gsRet (r := some (.inl ((-9)))) dM_182_98 (fun _ => rfl) (Or.inr rfl) ?_
      exact hn
    · replace h := h.2 c17
      refine gs0 82 [(0, .inr (.inr (some 725))), (1, .inl y1)] [.inr (.inr (some 725))] dM_182_81 (fun _ => rfl) (Or.inr rfl) ?_
      refine gsGetR (some 749) dM_182_82 sk_725 rfl rfl ?_
      refine gs0 86 [(0, .inr (.inr (some 725))), (1, .inl y1)] [.inl 1, .inr (.inr (some 749))] dM_182_85 (fun _ => rfl) (Or.inr rfl) ?_
      refine gsIaldN 1 (sg 749 1) dM_182_86 sk_749 rfl rfl rfl ?_
      refine gs0 92 [(0, .inr (.inr (some 725))), (1, .inl y1)] [.inl (sg 749 1)] dM_182_87 (fun _ => rfl) (Or.inr rfl) ?_
      refine gs0 93 [(3, .inl (sg 749 1)), (0, .inr (.inr (some 725))), (1, .inl y1)] [] dM_182_92 (fun _ => rfl) (Or.inr rfl) ?_
      refine gs0 94 [(3, .inl (sg 749 1)), (0, .inr (.inr (some 725))), (1, .inl y1)] [.inr (.inr (some 725))] dM_182_93 (fun _ => rfl) (Or.inr rfl) ?_
      refine gsCallV (y := 184) (k := 725) (as := [.inr (.inr (some 725))]) (r := []) dM_182_94 rfl rfl rfl (Nat.le_of_ble_eq_true rfl) sk_725 rfl (Nat.le_of_ble_eq_true rfl) (EvS.up h (Nat.le_of_ble_eq_true rfl)) (fun v21 t22 hv23 => ?_)
      obtain ⟨rfl, hn⟩ := hv23
      clear h
      show GoS _ _ _ _ _ _ _ _ [(3, .inl (sg 749 1)), (0, .inr (.inr (some 725))), (1, .inl y1)] [] t22 _
      refine gs0 98 [(3, .inl (sg 749 1)), (0, .inr (.inr (some 725))), (1, .inl y1)] [.inl (sg 749 1)] dM_182_97 (fun _ => rfl) (Or.inr rfl) ?_
      refine gsRet (r := some (.inl (sg 749 1))) dM_182_98 (fun _ => rfl) (Or.inr rfl) ?_
      exact hn
  · replace h := h.2 c16
    refine gs0 46 [(0, .inr (.inr (some 725))), (1, .inl y1)] [.inr (.inr (some 725))] dM_182_45 (fun _ => rfl) (Or.inr rfl) ?_
    refine gsGetR (some 749) dM_182_46 sk_725 rfl rfl ?_
    refine gs0 50 [(0, .inr (.inr (some 725))), (1, .inl y1)] [.inl 1, .inr (.inr (some 749))] dM_182_49 (fun _ => rfl) (Or.inr rfl) ?_
    refine gsIaldN 1 (sg 749 1) dM_182_50 sk_749 rfl rfl rfl ?_
    refine gs0 54 [(0, .inr (.inr (some 725))), (1, .inl y1)] [.inl 300, .inl (sg 749 1)] dM_182_51 (fun _ => rfl) (Or.inr rfl) ?_
    refine gsIf (t := 71) (C := 300 ≤ (sg 749 1)) (r := []) dM_182_54 (fun _ => rfl) (Or.inr rfl) (rTest_iff .ge (sg 749 1) 300) (fun c24 => ?_) (fun c24 => ?_)
    · replace h := h.1 c24
      refine gs0 72 [(0, .inr (.inr (some 725))), (1, .inl y1)] [.inr (.inr (some 725))] dM_182_71 (fun _ => rfl) (Or.inr rfl) ?_
      refine gsGetR (some 748) dM_182_72 sk_725 rfl rfl ?_
      refine gs0 76 [(0, .inr (.inr (some 725))), (1, .inl y1)] [.inl 1, .inr (.inr (some 748))] dM_182_75 (fun _ => rfl) (Or.inr rfl) ?_
      refine gsIaldN 1 (sg 748 1) dM_182_76 sk_748 rfl rfl rfl ?_
      refine gs0 78 [(0, .inr (.inr (some 725))), (1, .inl y1)] [.inl y1, .inl (sg 748 1)] dM_182_77 (fun _ => rfl) (Or.inr rfl) ?_
      refine gsIf (t := 90) (C := (sg 748 1) < y1) (r := []) dM_182_78 (fun _ => rfl) (Or.inr rfl) (rTest_iff .lt (sg 748 1) y1) (fun c25 => ?_) (fun c25 => ?_)
      · replace h := h.1 c25
        refine gs0 92 [(0, .inr (.inr (some 725))), (1, .inl y1)] [.inl ((-9))] dM_182_90 (fun _ => rfl) (Or.inr rfl) ?_
        refine gs0 93 [(3, .inl ((-9))), (0, .inr (.inr (some 725))), (1, .inl y1)] [] dM_182_92 (fun _ => rfl) (Or.inr rfl) ?_
        refine gs0 94 [(3, .inl ((-9))), (0, .inr (.inr (some 725))), (1, .inl y1)] [.inr (.inr (some 725))] dM_182_93 (fun _ => rfl) (Or.inr rfl) ?_
        refine gsCallV (y := 184) (k := 725) (as := [.inr (.inr (some 725))]) (r := []) dM_182_94 rfl rfl rfl (Nat.le_of_ble_eq_true rfl) sk_725 rfl (Nat.le_of_ble_eq_true rfl) (EvS.up h (Nat.le_of_ble_eq_true rfl)) (fun v26 t27 hv28 => ?_)
        obtain ⟨rfl, hn⟩ := hv28
        clear h
        show GoS _ _ _ _ _ _ _ _ [(3, .inl ((-9))), (0, .inr (.inr (some 725))), (1, .inl y1)] [] t27 _
        refine gs0 98 [(3, .inl ((-9))), (0, .inr (.inr (some 725))), (1, .inl y1)] [.inl ((-9))] dM_182_97 (fun _ => rfl) (Or.inr rfl) ?_
        refine gsRet (r := some (.inl ((-9)))) dM_182_98 (fun _ => rfl) (Or.inr rfl) ?_
        exact hn
      · replace h := h.2 c25
        refine gs0 82 [(0, .inr (.inr (some 725))), (1, .inl y1)] [.inr (.inr (some 725))] dM_182_81 (fun _ => rfl) (Or.inr rfl) ?_
        refine gsGetR (some 749) dM_182_82 sk_725 rfl rfl ?_
        refine gs0 86 [(0, .inr (.inr (some 725))), (1, .inl y1)] [.inl 1, .inr (.inr (some 749))] dM_182_85 (fun _ => rfl) (Or.inr rfl) ?_
        refine gsIaldN 1 (sg 749 1) dM_182_86 sk_749 rfl rfl rfl ?_
        refine gs0 92 [(0, .inr (.inr (some 725))), (1, .inl y1)] [.inl (sg 749 1)] dM_182_87 (fun _ => rfl) (Or.inr rfl) ?_
        refine gs0 93 [(3, .inl (sg 749 1)), (0, .inr (.inr (some 725))), (1, .inl y1)] [] dM_182_92 (fun _ => rfl) (Or.inr rfl) ?_
        refine gs0 94 [(3, .inl (sg 749 1)), (0, .inr (.inr (some 725))), (1, .inl y1)] [.inr (.inr (some 725))] dM_182_93 (fun _ => rfl) (Or.inr rfl) ?_
        refine gsCallV (y := 184) (k := 725) (as := [.inr (.inr (some 725))]) (r := []) dM_182_94 rfl rfl rfl (Nat.le_of_ble_eq_true rfl) sk_725 rfl (Nat.le_of_ble_eq_true rfl) (EvS.up h (Nat.le_of_ble_eq_true rfl)) (fun v29 t30 hv31 => ?_)
        obtain ⟨rfl, hn⟩ := hv31
        clear h
        show GoS _ _ _ _ _ _ _ _ [(3, .inl (sg 749 1)), (0, .inr (.inr (some 725))), (1, .inl y1)] [] t30 _
        refine gs0 98 [(3, .inl (sg 749 1)), (0, .inr (.inr (some 725))), (1, .inl y1)] [.inl (sg 749 1)] dM_182_97 (fun _ => rfl) (Or.inr rfl) ?_
        refine gsRet (r := some (.inl (sg 749 1))) dM_182_98 (fun _ => rfl) (Or.inr rfl) ?_
        exact hn
    · replace h := h.2 c24
      refine gs0 58 [(0, .inr (.inr (some 725))), (1, .inl y1)] [.inr (.inr (some 725))] dM_182_57 (fun _ => rfl) (Or.inr rfl) ?_
      refine gsCallV (y := 138) (k := 725) (as := [.inr (.inr (some 725))]) (r := []) dM_182_58 rfl rfl rfl (Nat.le_of_ble_eq_true rfl) sk_725 rfl (Nat.le_of_ble_eq_true rfl) (EvS.up h (Nat.le_of_ble_eq_true rfl)) (fun v32 t33 hv34 => ?_)
      obtain ⟨n35, rfl, hn⟩ := hv34
      clear h
      show GoS _ _ _ _ _ _ _ _ [(0, .inr (.inr (some 725))), (1, .inl y1)] [.inl n35] t33 _
      refine gsIf (t := 71) (C := ¬ n35 = 0) (r := []) dM_182_61 (fun _ => rfl) (Or.inr rfl) (rTest_iff .ne n35 0) (fun c36 => ?_) (fun c36 => ?_)
      · replace hn := hn.1 c36
        refine gs0 72 [(0, .inr (.inr (some 725))), (1, .inl y1)] [.inr (.inr (some 725))] dM_182_71 (fun _ => rfl) (Or.inr rfl) ?_
        refine gsGetR (some 748) dM_182_72 sk_725 rfl rfl ?_
        refine gs0 76 [(0, .inr (.inr (some 725))), (1, .inl y1)] [.inl 1, .inr (.inr (some 748))] dM_182_75 (fun _ => rfl) (Or.inr rfl) ?_
        refine gsIaldN 1 (t33 748 1) dM_182_76 sk_748 rfl rfl rfl ?_
        refine gs0 78 [(0, .inr (.inr (some 725))), (1, .inl y1)] [.inl y1, .inl (t33 748 1)] dM_182_77 (fun _ => rfl) (Or.inr rfl) ?_
        refine gsIf (t := 90) (C := (t33 748 1) < y1) (r := []) dM_182_78 (fun _ => rfl) (Or.inr rfl) (rTest_iff .lt (t33 748 1) y1) (fun c37 => ?_) (fun c37 => ?_)
        · replace hn := hn.1 c37
          refine gs0 92 [(0, .inr (.inr (some 725))), (1, .inl y1)] [.inl ((-9))] dM_182_90 (fun _ => rfl) (Or.inr rfl) ?_
          refine gs0 93 [(3, .inl ((-9))), (0, .inr (.inr (some 725))), (1, .inl y1)] [] dM_182_92 (fun _ => rfl) (Or.inr rfl) ?_
          refine gs0 94 [(3, .inl ((-9))), (0, .inr (.inr (some 725))), (1, .inl y1)] [.inr (.inr (some 725))] dM_182_93 (fun _ => rfl) (Or.inr rfl) ?_
          refine gsCallV (y := 184) (k := 725) (as := [.inr (.inr (some 725))]) (r := []) dM_182_94 rfl rfl rfl (Nat.le_of_ble_eq_true rfl) sk_725 rfl (Nat.le_of_ble_eq_true rfl) (EvS.up hn (Nat.le_of_ble_eq_true rfl)) (fun v38 t39 hv40 => ?_)
          obtain ⟨rfl, hnn⟩ := hv40
          clear hn
          show GoS _ _ _ _ _ _ _ _ [(3, .inl ((-9))), (0, .inr (.inr (some 725))), (1, .inl y1)] [] t39 _
          refine gs0 98 [(3, .inl ((-9))), (0, .inr (.inr (some 725))), (1, .inl y1)] [.inl ((-9))] dM_182_97 (fun _ => rfl) (Or.inr rfl) ?_
          refine gsRet (r := some (.inl ((-9)))) dM_182_98 (fun _ => rfl) (Or.inr rfl) ?_
          exact hnn
        · replace hn := hn.2 c37
          refine gs0 82 [(0, .inr (.inr (some 725))), (1, .inl y1)] [.inr (.inr (some 725))] dM_182_81 (fun _ => rfl) (Or.inr rfl) ?_
          refine gsGetR (some 749) dM_182_82 sk_725 rfl rfl ?_
          refine gs0 86 [(0, .inr (.inr (some 725))), (1, .inl y1)] [.inl 1, .inr (.inr (some 749))] dM_182_85 (fun _ => rfl) (Or.inr rfl) ?_
          refine gsIaldN 1 (t33 749 1) dM_182_86 sk_749 rfl rfl rfl ?_
          refine gs0 92 [(0, .inr (.inr (some 725))), (1, .inl y1)] [.inl (t33 749 1)] dM_182_87 (fun _ => rfl) (Or.inr rfl) ?_
          refine gs0 93 [(3, .inl (t33 749 1)), (0, .inr (.inr (some 725))), (1, .inl y1)] [] dM_182_92 (fun _ => rfl) (Or.inr rfl) ?_
          refine gs0 94 [(3, .inl (t33 749 1)), (0, .inr (.inr (some 725))), (1, .inl y1)] [.inr (.inr (some 725))] dM_182_93 (fun _ => rfl) (Or.inr rfl) ?_
          refine gsCallV (y := 184) (k := 725) (as := [.inr (.inr (some 725))]) (r := []) dM_182_94 rfl rfl rfl (Nat.le_of_ble_eq_true rfl) sk_725 rfl (Nat.le_of_ble_eq_true rfl) (EvS.up hn (Nat.le_of_ble_eq_true rfl)) (fun v41 t42 hv43 => ?_)
          obtain ⟨rfl, hnn⟩ := hv43
          clear hn
          show GoS _ _ _ _ _ _ _ _ [(3, .inl (t33 749 1)), (0, .inr (.inr (some 725))), (1, .inl y1)] [] t42 _
          refine gs0 98 [(3, .inl (t33 749 1)), (0, .inr (.inr (some 725))), (1, .inl y1)] [.inl (t33 749 1)] dM_182_97 (fun _ => rfl) (Or.inr rfl) ?_
          refine gsRet (r := some (.inl (t33 749 1))) dM_182_98 (fun _ => rfl) (Or.inr rfl) ?_
          exact hnn
      · replace hn := hn.2 c36
        refine gs0 65 [(0, .inr (.inr (some 725))), (1, .inl y1)] [.inr (.inr (some 725))] dM_182_64 (fun _ => rfl) (Or.inr rfl) ?_
        refine gsCallV (y := 139) (k := 725) (as := [.inr (.inr (some 725))]) (r := []) dM_182_65 rfl rfl rfl (Nat.le_of_ble_eq_true rfl) sk_725 rfl (Nat.le_of_ble_eq_true rfl) (EvS.up hn (Nat.le_of_ble_eq_true rfl)) (fun v44 t45 hv46 => ?_)
        obtain ⟨rfl, hnn⟩ := hv46
        clear hn
        show GoS _ _ _ _ _ _ _ _ [(0, .inr (.inr (some 725))), (1, .inl y1)] [] t45 _
        refine gs0 35 [(0, .inr (.inr (some 725))), (1, .inl y1)] [] dM_182_68 (fun _ => rfl) (Or.inr rfl) ?_
        exact GoS.sub (Lnd_keys (ks := [0, 1]) rfl (by decide)) (Lsub_cons rfl (Lsub_cons rfl Lsub_nil)) hnn
set_option maxRecDepth 100000 in
/-- GoalsInAQueueModel.need -/
theorem w_182 (sg : rSg) (x1 : Int32) {P : Option rv → rSg → Prop} (h :
    EvS rSkel 1 127 [.inl x1, .inl 1, .inl 10] sg (fun v1 t2 => ∃ n4, v1 = some (.inl n4) ∧
      (n4 = 0 → 
        EvS rSkel 1 183 [.inr (.inr (some 725))] t2 (fun v6 t7 => v6 = none ∧
          EvS rSkel 3 121 [.inr (.inr (some 725)), .inl (t7 725 47)] (up2 t7 725 21 1) (fun v9 t10 => v9 = none ∧
            g_182_35 x1 t10 P))) ∧
      (¬ (n4 = 0) → 
        EvS rSkel 1 128 [.inr (.inr (some 725)), .inl n4] t2 (fun v12 t13 => ∃ n15, v12 = some (.inl n15) ∧
          P (some (.inl n15)) t13)))) : EvS rSkel 14 182 [.inr (.inr (some 725)), .inl x1] sg P := by
  refine EvS.of (ini := false) rfl ⟨rfl, Nat.le_of_ble_eq_true rfl⟩ rfl ?_
  show GoS rSkel 13 9 4 (some .int) false prog_11_method_75_code 0 [(0, .inr (.inr (some 725))), (1, .inl x1)] [] sg _
  refine gs0 1 [(0, .inr (.inr (some 725))), (1, .inl x1)] [.inl x1] dM_182_0 (fun _ => rfl) (Or.inr rfl) ?_
  refine gs0 2 [(0, .inr (.inr (some 725))), (1, .inl x1)] [.inl 1, .inl x1] dM_182_1 (fun _ => rfl) (Or.inr rfl) ?_
  refine gs0 4 [(0, .inr (.inr (some 725))), (1, .inl x1)] [.inl 10, .inl 1, .inl x1] dM_182_2 (fun _ => rfl) (Or.inr rfl) ?_
  refine gsCallS (y := 127) (as := [.inl x1, .inl 1, .inl 10]) (r := []) dM_182_4 rfl (Or.inl rfl) rfl rfl (Nat.le_of_ble_eq_true rfl) (EvS.up h (Nat.le_of_ble_eq_true rfl)) (fun v1 t2 hv3 => ?_)
  obtain ⟨n4, rfl, hn⟩ := hv3
  clear h
  show GoS _ _ _ _ _ _ _ _ [(0, .inr (.inr (some 725))), (1, .inl x1)] [.inl n4] t2 _
  refine gs0 8 [(2, .inl n4), (0, .inr (.inr (some 725))), (1, .inl x1)] [] dM_182_7 (fun _ => rfl) (Or.inr rfl) ?_
  refine gs0 9 [(2, .inl n4), (0, .inr (.inr (some 725))), (1, .inl x1)] [.inl n4] dM_182_8 (fun _ => rfl) (Or.inr rfl) ?_
  refine gsIf (t := 18) (C := n4 = 0) (r := []) dM_182_9 (fun _ => rfl) (Or.inr rfl) (rTest_iff .eq n4 0) (fun c5 => ?_) (fun c5 => ?_)
  · replace hn := hn.1 c5
    refine gs0 19 [(2, .inl n4), (0, .inr (.inr (some 725))), (1, .inl x1)] [.inr (.inr (some 725))] dM_182_18 (fun _ => rfl) (Or.inr rfl) ?_
    refine gsCallV (y := 183) (k := 725) (as := [.inr (.inr (some 725))]) (r := []) dM_182_19 rfl rfl rfl (Nat.le_of_ble_eq_true rfl) sk_725 rfl (Nat.le_of_ble_eq_true rfl) (EvS.up hn (Nat.le_of_ble_eq_true rfl)) (fun v6 t7 hv8 => ?_)
    obtain ⟨rfl, hnn⟩ := hv8
    clear hn
    show GoS _ _ _ _ _ _ _ _ [(2, .inl n4), (0, .inr (.inr (some 725))), (1, .inl x1)] [] t7 _
    refine gs0 23 [(2, .inl n4), (0, .inr (.inr (some 725))), (1, .inl x1)] [.inr (.inr (some 725))] dM_182_22 (fun _ => rfl) (Or.inr rfl) ?_
    refine gs0 24 [(2, .inl n4), (0, .inr (.inr (some 725))), (1, .inl x1)] [.inl 1, .inr (.inr (some 725))] dM_182_23 (fun _ => rfl) (Or.inr rfl) ?_
    refine gsPut dM_182_24 sk_725 rfl rfl rfl (by decide) ?_
    refine gs0 28 [(2, .inl n4), (0, .inr (.inr (some 725))), (1, .inl x1)] [.inr (.inr (some 725))] dM_182_27 (fun _ => rfl) (Or.inr rfl) ?_
    refine gs0 29 [(2, .inl n4), (0, .inr (.inr (some 725))), (1, .inl x1)] [.inr (.inr (some 725)), .inr (.inr (some 725))] dM_182_28 (fun _ => rfl) (Or.inr rfl) ?_
    refine gsGetE (t7 725 47) dM_182_29 sk_725 rfl rfl (up2_nj _ _ _ (by decide)) ?_
    refine gsCallV (y := 121) (k := 725) (as := [.inr (.inr (some 725)), .inl (t7 725 47)]) (r := []) dM_182_32 rfl rfl rfl (Nat.le_of_ble_eq_true rfl) sk_725 rfl (Nat.le_of_ble_eq_true rfl) (EvS.up hnn (Nat.le_of_ble_eq_true rfl)) (fun v9 t10 hv11 => ?_)
    obtain ⟨rfl, hnnn⟩ := hv11
    clear hnn
    show GoS _ _ _ _ _ _ _ _ [(2, .inl n4), (0, .inr (.inr (some 725))), (1, .inl x1)] [] t10 _
    exact GoS.sub (Lnd_keys (ks := [0, 1]) rfl (by decide)) (Lsub_cons rfl (Lsub_cons rfl Lsub_nil)) hnnn
  · replace hn := hn.2 c5
    refine gs0 13 [(2, .inl n4), (0, .inr (.inr (some 725))), (1, .inl x1)] [.inr (.inr (some 725))] dM_182_12 (fun _ => rfl) (Or.inr rfl) ?_
    refine gs0 14 [(2, .inl n4), (0, .inr (.inr (some 725))), (1, .inl x1)] [.inl n4, .inr (.inr (some 725))] dM_182_13 (fun _ => rfl) (Or.inr rfl) ?_
    refine gsCallV (y := 128) (k := 725) (as := [.inr (.inr (some 725)), .inl n4]) (r := []) dM_182_14 rfl rfl rfl (Nat.le_of_ble_eq_true rfl) sk_725 rfl (Nat.le_of_ble_eq_true rfl) (EvS.up hn (Nat.le_of_ble_eq_true rfl)) (fun v12 t13 hv14 => ?_)
    obtain ⟨n15, rfl, hnn⟩ := hv14
    clear hn
    show GoS _ _ _ _ _ _ _ _ [(2, .inl n4), (0, .inr (.inr (some 725))), (1, .inl x1)] [.inl n15] t13 _
    refine gsRet (r := some (.inl n15)) dM_182_17 (fun _ => rfl) (Or.inr rfl) ?_
    exact hnn
set_option maxRecDepth 100000 in
/-- GoalsInAQueueModel.minds -/
theorem w_183 (sg : rSg)  {P : Option rv → rSg → Prop} (h :
    P none (up2 (up2 (up2 sg 725 54 (sg 725 10)) 725 55 (sg 725 11)) 725 56 (sg 725 12))) : EvS rSkel 1 183 [.inr (.inr (some 725))] sg P := by
  refine EvS.of (ini := false) rfl ⟨rfl, Nat.le_of_ble_eq_true rfl⟩ rfl ?_
  show GoS rSkel 0 9 1 none false prog_11_method_72_code 0 [(0, .inr (.inr (some 725)))] [] sg _
  refine gs0 1 [(0, .inr (.inr (some 725)))] [.inr (.inr (some 725))] dM_183_0 (fun _ => rfl) (Or.inr rfl) ?_
  refine gs0 2 [(0, .inr (.inr (some 725)))] [.inr (.inr (some 725)), .inr (.inr (some 725))] dM_183_1 (fun _ => rfl) (Or.inr rfl) ?_
  refine gsGetE (sg 725 10) dM_183_2 sk_725 rfl rfl rfl ?_
  refine gsPut dM_183_5 sk_725 rfl rfl rfl (by decide) ?_
  refine gs0 9 [(0, .inr (.inr (some 725)))] [.inr (.inr (some 725))] dM_183_8 (fun _ => rfl) (Or.inr rfl) ?_
  refine gs0 10 [(0, .inr (.inr (some 725)))] [.inr (.inr (some 725)), .inr (.inr (some 725))] dM_183_9 (fun _ => rfl) (Or.inr rfl) ?_
  refine gsGetE (sg 725 11) dM_183_10 sk_725 rfl rfl (up2_nj _ _ _ (by decide)) ?_
  refine gsPut dM_183_13 sk_725 rfl rfl rfl (by decide) ?_
  refine gs0 17 [(0, .inr (.inr (some 725)))] [.inr (.inr (some 725))] dM_183_16 (fun _ => rfl) (Or.inr rfl) ?_
  refine gs0 18 [(0, .inr (.inr (some 725)))] [.inr (.inr (some 725)), .inr (.inr (some 725))] dM_183_17 (fun _ => rfl) (Or.inr rfl) ?_
  refine gsGetE (sg 725 12) dM_183_18 sk_725 rfl rfl ((up2_nj _ _ _ (by decide)).trans (up2_nj _ _ _ (by decide))) ?_
  refine gsPut dM_183_21 sk_725 rfl rfl rfl (by decide) ?_
  refine gsRet (r := none) dM_183_24 (fun _ => rfl) (Or.inr rfl) ?_
  exact h
set_option maxRecDepth 100000 in
/-- GoalsInAQueueModel.forgets -/
theorem w_184 (sg : rSg)  {P : Option rv → rSg → Prop} (h :
    P none (up2 (up2 (up2 (up2 sg 725 21 0) 725 10 (sg 725 54)) 725 11 (sg 725 55)) 725 12 (sg 725 56))) : EvS rSkel 1 184 [.inr (.inr (some 725))] sg P := by
  refine EvS.of (ini := false) rfl ⟨rfl, Nat.le_of_ble_eq_true rfl⟩ rfl ?_
  show GoS rSkel 0 9 1 none false prog_11_method_74_code 0 [(0, .inr (.inr (some 725)))] [] sg _
  refine gs0 1 [(0, .inr (.inr (some 725)))] [.inr (.inr (some 725))] dM_184_0 (fun _ => rfl) (Or.inr rfl) ?_
  refine gs0 2 [(0, .inr (.inr (some 725)))] [.inl 0, .inr (.inr (some 725))] dM_184_1 (fun _ => rfl) (Or.inr rfl) ?_
  refine gsPut dM_184_2 sk_725 rfl rfl rfl (by decide) ?_
  refine gs0 6 [(0, .inr (.inr (some 725)))] [.inr (.inr (some 725))] dM_184_5 (fun _ => rfl) (Or.inr rfl) ?_
  refine gs0 7 [(0, .inr (.inr (some 725)))] [.inr (.inr (some 725)), .inr (.inr (some 725))] dM_184_6 (fun _ => rfl) (Or.inr rfl) ?_
  refine gsGetE (sg 725 54) dM_184_7 sk_725 rfl rfl (up2_nj _ _ _ (by decide)) ?_
  refine gsPut dM_184_10 sk_725 rfl rfl rfl (by decide) ?_
  refine gs0 14 [(0, .inr (.inr (some 725)))] [.inr (.inr (some 725))] dM_184_13 (fun _ => rfl) (Or.inr rfl) ?_
  refine gs0 15 [(0, .inr (.inr (some 725)))] [.inr (.inr (some 725)), .inr (.inr (some 725))] dM_184_14 (fun _ => rfl) (Or.inr rfl) ?_
  refine gsGetE (sg 725 55) dM_184_15 sk_725 rfl rfl ((up2_nj _ _ _ (by decide)).trans (up2_nj _ _ _ (by decide))) ?_
  refine gsPut dM_184_18 sk_725 rfl rfl rfl (by decide) ?_
  refine gs0 22 [(0, .inr (.inr (some 725)))] [.inr (.inr (some 725))] dM_184_21 (fun _ => rfl) (Or.inr rfl) ?_
  refine gs0 23 [(0, .inr (.inr (some 725)))] [.inr (.inr (some 725)), .inr (.inr (some 725))] dM_184_22 (fun _ => rfl) (Or.inr rfl) ?_
  refine gsGetE (sg 725 56) dM_184_23 sk_725 rfl rfl ((up2_nj _ _ _ (by decide)).trans ((up2_nj _ _ _ (by decide)).trans (up2_nj _ _ _ (by decide)))) ?_
  refine gsPut dM_184_26 sk_725 rfl rfl rfl (by decide) ?_
  refine gsRet (r := none) dM_184_29 (fun _ => rfl) (Or.inr rfl) ?_
  exact h
set_option maxRecDepth 100000 in
/-- GoalsInAQueueModel.left -/
theorem w_185 (sg : rSg) (x1 : Int32) (x2 : Int32) {P : Option rv → rSg → Prop} (h :
    EvS rSkel 2 165 [.inl x1] sg (fun v1 t2 => ∃ n4, v1 = some (.inl n4) ∧
      (¬ n4 = 0 → 
        EvS rSkel 1 127 [.inl x2, .inl 0, .inl 9] t2 (fun v6 t7 => ∃ n9, v6 = some (.inl n9) ∧
          (n9 = 0 → 
            EvS rSkel 17 186 [.inr (.inr (some 725)), .inl x1, .inl x2] t7 (fun v11 t12 => ∃ n14, v11 = some (.inl n14) ∧
              P (some (.inl n14)) t12)) ∧
          (¬ (n9 = 0) → 
            EvS rSkel 1 128 [.inr (.inr (some 725)), .inl n9] t7 (fun v15 t16 => ∃ n18, v15 = some (.inl n18) ∧
              P (some (.inl n18)) t16)))) ∧
      (¬ (¬ n4 = 0) → 
        EvS rSkel 1 128 [.inr (.inr (some 725)), .inl ((-1))] t2 (fun v20 t21 => ∃ n23, v20 = some (.inl n23) ∧
          P (some (.inl n23)) t21)))) : EvS rSkel 18 185 [.inr (.inr (some 725)), .inl x1, .inl x2] sg P := by
  refine EvS.of (ini := false) rfl ⟨rfl, Nat.le_of_ble_eq_true rfl⟩ rfl ?_
  show GoS rSkel 17 9 4 (some .int) false prog_11_method_78_code 0 [(0, .inr (.inr (some 725))), (1, .inl x1), (2, .inl x2)] [] sg _
  refine gs0 1 [(0, .inr (.inr (some 725))), (1, .inl x1), (2, .inl x2)] [.inl x1] dM_185_0 (fun _ => rfl) (Or.inr rfl) ?_
  refine gsCallS (y := 165) (as := [.inl x1]) (r := []) dM_185_1 rfl (Or.inl rfl) rfl rfl (Nat.le_of_ble_eq_true rfl) (EvS.up h (Nat.le_of_ble_eq_true rfl)) (fun v1 t2 hv3 => ?_)
  obtain ⟨n4, rfl, hn⟩ := hv3
  clear h
  show GoS _ _ _ _ _ _ _ _ [(0, .inr (.inr (some 725))), (1, .inl x1), (2, .inl x2)] [.inl n4] t2 _
  refine gsIf (t := 11) (C := ¬ n4 = 0) (r := []) dM_185_4 (fun _ => rfl) (Or.inr rfl) (rTest_iff .ne n4 0) (fun c5 => ?_) (fun c5 => ?_)
  · replace hn := hn.1 c5
    refine gs0 12 [(0, .inr (.inr (some 725))), (1, .inl x1), (2, .inl x2)] [.inl x2] dM_185_11 (fun _ => rfl) (Or.inr rfl) ?_
    refine gs0 13 [(0, .inr (.inr (some 725))), (1, .inl x1), (2, .inl x2)] [.inl 0, .inl x2] dM_185_12 (fun _ => rfl) (Or.inr rfl) ?_
    refine gs0 15 [(0, .inr (.inr (some 725))), (1, .inl x1), (2, .inl x2)] [.inl 9, .inl 0, .inl x2] dM_185_13 (fun _ => rfl) (Or.inr rfl) ?_
    refine gsCallS (y := 127) (as := [.inl x2, .inl 0, .inl 9]) (r := []) dM_185_15 rfl (Or.inl rfl) rfl rfl (Nat.le_of_ble_eq_true rfl) (EvS.up hn (Nat.le_of_ble_eq_true rfl)) (fun v6 t7 hv8 => ?_)
    obtain ⟨n9, rfl, hnn⟩ := hv8
    clear hn
    show GoS _ _ _ _ _ _ _ _ [(0, .inr (.inr (some 725))), (1, .inl x1), (2, .inl x2)] [.inl n9] t7 _
    refine gs0 19 [(3, .inl n9), (0, .inr (.inr (some 725))), (1, .inl x1), (2, .inl x2)] [] dM_185_18 (fun _ => rfl) (Or.inr rfl) ?_
    refine gs0 20 [(3, .inl n9), (0, .inr (.inr (some 725))), (1, .inl x1), (2, .inl x2)] [.inl n9] dM_185_19 (fun _ => rfl) (Or.inr rfl) ?_
    refine gsIf (t := 31) (C := n9 = 0) (r := []) dM_185_20 (fun _ => rfl) (Or.inr rfl) (rTest_iff .eq n9 0) (fun c10 => ?_) (fun c10 => ?_)
    · replace hnn := hnn.1 c10
      refine gs0 32 [(3, .inl n9), (0, .inr (.inr (some 725))), (1, .inl x1), (2, .inl x2)] [.inr (.inr (some 725))] dM_185_31 (fun _ => rfl) (Or.inr rfl) ?_
      refine gs0 33 [(3, .inl n9), (0, .inr (.inr (some 725))), (1, .inl x1), (2, .inl x2)] [.inl x1, .inr (.inr (some 725))] dM_185_32 (fun _ => rfl) (Or.inr rfl) ?_
      refine gs0 34 [(3, .inl n9), (0, .inr (.inr (some 725))), (1, .inl x1), (2, .inl x2)] [.inl x2, .inl x1, .inr (.inr (some 725))] dM_185_33 (fun _ => rfl) (Or.inr rfl) ?_
      refine gsCallV (y := 186) (k := 725) (as := [.inr (.inr (some 725)), .inl x1, .inl x2]) (r := []) dM_185_34 rfl rfl rfl (Nat.le_of_ble_eq_true rfl) sk_725 rfl (Nat.le_of_ble_eq_true rfl) (EvS.up hnn (Nat.le_of_ble_eq_true rfl)) (fun v11 t12 hv13 => ?_)
      obtain ⟨n14, rfl, hnnn⟩ := hv13
      clear hnn
      show GoS _ _ _ _ _ _ _ _ [(3, .inl n9), (0, .inr (.inr (some 725))), (1, .inl x1), (2, .inl x2)] [.inl n14] t12 _
      refine gsRet (r := some (.inl n14)) dM_185_37 (fun _ => rfl) (Or.inr rfl) ?_
      exact hnnn
    · replace hnn := hnn.2 c10
      refine gs0 24 [(3, .inl n9), (0, .inr (.inr (some 725))), (1, .inl x1), (2, .inl x2)] [.inr (.inr (some 725))] dM_185_23 (fun _ => rfl) (Or.inr rfl) ?_
      refine gs0 25 [(3, .inl n9), (0, .inr (.inr (some 725))), (1, .inl x1), (2, .inl x2)] [.inl n9, .inr (.inr (some 725))] dM_185_24 (fun _ => rfl) (Or.inr rfl) ?_
      refine gsCallV (y := 128) (k := 725) (as := [.inr (.inr (some 725)), .inl n9]) (r := []) dM_185_25 rfl rfl rfl (Nat.le_of_ble_eq_true rfl) sk_725 rfl (Nat.le_of_ble_eq_true rfl) (EvS.up hnn (Nat.le_of_ble_eq_true rfl)) (fun v15 t16 hv17 => ?_)
      obtain ⟨n18, rfl, hnnn⟩ := hv17
      clear hnn
      show GoS _ _ _ _ _ _ _ _ [(3, .inl n9), (0, .inr (.inr (some 725))), (1, .inl x1), (2, .inl x2)] [.inl n18] t16 _
      refine gs0 37 [(3, .inl n9), (0, .inr (.inr (some 725))), (1, .inl x1), (2, .inl x2)] [.inl n18] dM_185_28 (fun _ => rfl) (Or.inr rfl) ?_
      refine gsRet (r := some (.inl n18)) dM_185_37 (fun _ => rfl) (Or.inr rfl) ?_
      exact hnnn
  · replace hn := hn.2 c5
    refine gs0 8 [(0, .inr (.inr (some 725))), (1, .inl x1), (2, .inl x2)] [.inl ((-1))] dM_185_7 (fun _ => rfl) (Or.inr rfl) ?_
    refine gs0 18 [(0, .inr (.inr (some 725))), (1, .inl x1), (2, .inl x2)] [.inl ((-1))] dM_185_8 (fun _ => rfl) (Or.inr rfl) ?_
    refine gs0 19 [(3, .inl ((-1))), (0, .inr (.inr (some 725))), (1, .inl x1), (2, .inl x2)] [] dM_185_18 (fun _ => rfl) (Or.inr rfl) ?_
    refine gs0 20 [(3, .inl ((-1))), (0, .inr (.inr (some 725))), (1, .inl x1), (2, .inl x2)] [.inl ((-1))] dM_185_19 (fun _ => rfl) (Or.inr rfl) ?_
    refine gsIf (t := 31) (C := ((-1)) = 0) (r := []) dM_185_20 (fun _ => rfl) (Or.inr rfl) (rTest_iff .eq ((-1)) 0) (fun c19 => absurd c19 (by decide)) (fun c19 => ?_)
    refine gs0 24 [(3, .inl ((-1))), (0, .inr (.inr (some 725))), (1, .inl x1), (2, .inl x2)] [.inr (.inr (some 725))] dM_185_23 (fun _ => rfl) (Or.inr rfl) ?_
    refine gs0 25 [(3, .inl ((-1))), (0, .inr (.inr (some 725))), (1, .inl x1), (2, .inl x2)] [.inl ((-1)), .inr (.inr (some 725))] dM_185_24 (fun _ => rfl) (Or.inr rfl) ?_
    refine gsCallV (y := 128) (k := 725) (as := [.inr (.inr (some 725)), .inl ((-1))]) (r := []) dM_185_25 rfl rfl rfl (Nat.le_of_ble_eq_true rfl) sk_725 rfl (Nat.le_of_ble_eq_true rfl) (EvS.up hn (Nat.le_of_ble_eq_true rfl)) (fun v20 t21 hv22 => ?_)
    obtain ⟨n23, rfl, hnn⟩ := hv22
    clear hn
    show GoS _ _ _ _ _ _ _ _ [(3, .inl ((-1))), (0, .inr (.inr (some 725))), (1, .inl x1), (2, .inl x2)] [.inl n23] t21 _
    refine gs0 37 [(3, .inl ((-1))), (0, .inr (.inr (some 725))), (1, .inl x1), (2, .inl x2)] [.inl n23] dM_185_28 (fun _ => rfl) (Or.inr rfl) ?_
    refine gsRet (r := some (.inl n23)) dM_185_37 (fun _ => rfl) (Or.inr rfl) ?_
    exact hnn
set_option maxRecDepth 100000 in
/-- GoalsInAQueueModel.leftBy -/
theorem w_186 (sg : rSg) (x1 : Int32) (x2 : Int32) {P : Option rv → rSg → Prop} (h :
    EvS rSkel 1 183 [.inr (.inr (some 725))] sg (fun v1 t2 => v1 = none ∧
      EvS rSkel 16 187 [.inr (.inr (some 725)), .inl x1, .inl x2] t2 (fun v4 t5 => v4 = none ∧
        EvS rSkel 1 184 [.inr (.inr (some 725))] t5 (fun v7 t8 => v7 = none ∧
          P (some (.inl (t8 748 1))) t8)))) : EvS rSkel 17 186 [.inr (.inr (some 725)), .inl x1, .inl x2] sg P := by
  refine EvS.of (ini := false) rfl ⟨rfl, Nat.le_of_ble_eq_true rfl⟩ rfl ?_
  show GoS rSkel 16 9 3 (some .int) false prog_11_method_77_code 0 [(0, .inr (.inr (some 725))), (1, .inl x1), (2, .inl x2)] [] sg _
  refine gs0 1 [(0, .inr (.inr (some 725))), (1, .inl x1), (2, .inl x2)] [.inr (.inr (some 725))] dM_186_0 (fun _ => rfl) (Or.inr rfl) ?_
  refine gsCallV (y := 183) (k := 725) (as := [.inr (.inr (some 725))]) (r := []) dM_186_1 rfl rfl rfl (Nat.le_of_ble_eq_true rfl) sk_725 rfl (Nat.le_of_ble_eq_true rfl) (EvS.up h (Nat.le_of_ble_eq_true rfl)) (fun v1 t2 hv3 => ?_)
  obtain ⟨rfl, hn⟩ := hv3
  clear h
  show GoS _ _ _ _ _ _ _ _ [(0, .inr (.inr (some 725))), (1, .inl x1), (2, .inl x2)] [] t2 _
  refine gs0 5 [(0, .inr (.inr (some 725))), (1, .inl x1), (2, .inl x2)] [.inr (.inr (some 725))] dM_186_4 (fun _ => rfl) (Or.inr rfl) ?_
  refine gs0 6 [(0, .inr (.inr (some 725))), (1, .inl x1), (2, .inl x2)] [.inl x1, .inr (.inr (some 725))] dM_186_5 (fun _ => rfl) (Or.inr rfl) ?_
  refine gs0 7 [(0, .inr (.inr (some 725))), (1, .inl x1), (2, .inl x2)] [.inl x2, .inl x1, .inr (.inr (some 725))] dM_186_6 (fun _ => rfl) (Or.inr rfl) ?_
  refine gsCallV (y := 187) (k := 725) (as := [.inr (.inr (some 725)), .inl x1, .inl x2]) (r := []) dM_186_7 rfl rfl rfl (Nat.le_of_ble_eq_true rfl) sk_725 rfl (Nat.le_of_ble_eq_true rfl) (EvS.up hn (Nat.le_of_ble_eq_true rfl)) (fun v4 t5 hv6 => ?_)
  obtain ⟨rfl, hnn⟩ := hv6
  clear hn
  show GoS _ _ _ _ _ _ _ _ [(0, .inr (.inr (some 725))), (1, .inl x1), (2, .inl x2)] [] t5 _
  refine gs0 11 [(0, .inr (.inr (some 725))), (1, .inl x1), (2, .inl x2)] [.inr (.inr (some 725))] dM_186_10 (fun _ => rfl) (Or.inr rfl) ?_
  refine gsCallV (y := 184) (k := 725) (as := [.inr (.inr (some 725))]) (r := []) dM_186_11 rfl rfl rfl (Nat.le_of_ble_eq_true rfl) sk_725 rfl (Nat.le_of_ble_eq_true rfl) (EvS.up hnn (Nat.le_of_ble_eq_true rfl)) (fun v7 t8 hv9 => ?_)
  obtain ⟨rfl, hnnn⟩ := hv9
  clear hnn
  show GoS _ _ _ _ _ _ _ _ [(0, .inr (.inr (some 725))), (1, .inl x1), (2, .inl x2)] [] t8 _
  refine gs0 15 [(0, .inr (.inr (some 725))), (1, .inl x1), (2, .inl x2)] [.inr (.inr (some 725))] dM_186_14 (fun _ => rfl) (Or.inr rfl) ?_
  refine gsGetR (some 748) dM_186_15 sk_725 rfl rfl ?_
  refine gs0 19 [(0, .inr (.inr (some 725))), (1, .inl x1), (2, .inl x2)] [.inl 1, .inr (.inr (some 748))] dM_186_18 (fun _ => rfl) (Or.inr rfl) ?_
  refine gsIaldN 1 (t8 748 1) dM_186_19 sk_748 rfl rfl rfl ?_
  refine gsRet (r := some (.inl (t8 748 1))) dM_186_20 (fun _ => rfl) (Or.inr rfl) ?_
  exact hnnn
set_option maxRecDepth 100000 in
/-- GoalsInAQueueModel.searchesLeft -/
theorem w_187 (sg : rSg) (x1 : Int32) (x2 : Int32) {P : Option rv → rSg → Prop} (h :
    EvS rSkel 1 120 [.inr (.inr (some 725)), .inl 61, .inl x1, .inl (64 + x2), .inl 0] sg (fun v1 t2 => ∃ n4, v1 = some (.inl n4) ∧
      EvS rSkel 1 120 [.inr (.inr (some 725)), .inl 38, .inl n4, .inl (t2 725 47), .inl 0] t2 (fun v5 t6 => ∃ n8, v5 = some (.inl n8) ∧
        EvS rSkel 15 188 [.inr (.inr (some 725)), .inl n8] t6 (fun v9 t10 => v9 = none ∧
          P none t10)))) : EvS rSkel 16 187 [.inr (.inr (some 725)), .inl x1, .inl x2] sg P := by
  refine EvS.of (ini := false) rfl ⟨rfl, Nat.le_of_ble_eq_true rfl⟩ rfl ?_
  show GoS rSkel 15 9 3 none false prog_11_method_76_code 0 [(0, .inr (.inr (some 725))), (1, .inl x1), (2, .inl x2)] [] sg _
  refine gs0 1 [(0, .inr (.inr (some 725))), (1, .inl x1), (2, .inl x2)] [.inr (.inr (some 725))] dM_187_0 (fun _ => rfl) (Or.inr rfl) ?_
  refine gs0 2 [(0, .inr (.inr (some 725))), (1, .inl x1), (2, .inl x2)] [.inr (.inr (some 725)), .inr (.inr (some 725))] dM_187_1 (fun _ => rfl) (Or.inr rfl) ?_
  refine gs0 4 [(0, .inr (.inr (some 725))), (1, .inl x1), (2, .inl x2)] [.inl 38, .inr (.inr (some 725)), .inr (.inr (some 725))] dM_187_2 (fun _ => rfl) (Or.inr rfl) ?_
  refine gs0 5 [(0, .inr (.inr (some 725))), (1, .inl x1), (2, .inl x2)] [.inr (.inr (some 725)), .inl 38, .inr (.inr (some 725)), .inr (.inr (some 725))] dM_187_4 (fun _ => rfl) (Or.inr rfl) ?_
  refine gs0 7 [(0, .inr (.inr (some 725))), (1, .inl x1), (2, .inl x2)] [.inl 61, .inr (.inr (some 725)), .inl 38, .inr (.inr (some 725)), .inr (.inr (some 725))] dM_187_5 (fun _ => rfl) (Or.inr rfl) ?_
  refine gs0 8 [(0, .inr (.inr (some 725))), (1, .inl x1), (2, .inl x2)] [.inl x1, .inl 61, .inr (.inr (some 725)), .inl 38, .inr (.inr (some 725)), .inr (.inr (some 725))] dM_187_7 (fun _ => rfl) (Or.inr rfl) ?_
  refine gs0 10 [(0, .inr (.inr (some 725))), (1, .inl x1), (2, .inl x2)] [.inl 64, .inl x1, .inl 61, .inr (.inr (some 725)), .inl 38, .inr (.inr (some 725)), .inr (.inr (some 725))] dM_187_8 (fun _ => rfl) (Or.inr rfl) ?_
  refine gs0 11 [(0, .inr (.inr (some 725))), (1, .inl x1), (2, .inl x2)] [.inl x2, .inl 64, .inl x1, .inl 61, .inr (.inr (some 725)), .inl 38, .inr (.inr (some 725)), .inr (.inr (some 725))] dM_187_10 (fun _ => rfl) (Or.inr rfl) ?_
  refine gs0 12 [(0, .inr (.inr (some 725))), (1, .inl x1), (2, .inl x2)] [.inl (64 + x2), .inl x1, .inl 61, .inr (.inr (some 725)), .inl 38, .inr (.inr (some 725)), .inr (.inr (some 725))] dM_187_11 (fun _ => rfl) (Or.inr rfl) ?_
  refine gs0 13 [(0, .inr (.inr (some 725))), (1, .inl x1), (2, .inl x2)] [.inl 0, .inl (64 + x2), .inl x1, .inl 61, .inr (.inr (some 725)), .inl 38, .inr (.inr (some 725)), .inr (.inr (some 725))] dM_187_12 (fun _ => rfl) (Or.inr rfl) ?_
  refine gsCallV (y := 120) (k := 725) (as := [.inr (.inr (some 725)), .inl 61, .inl x1, .inl (64 + x2), .inl 0]) (r := [.inl 38, .inr (.inr (some 725)), .inr (.inr (some 725))]) dM_187_13 rfl rfl rfl (Nat.le_of_ble_eq_true rfl) sk_725 rfl (Nat.le_of_ble_eq_true rfl) (EvS.up h (Nat.le_of_ble_eq_true rfl)) (fun v1 t2 hv3 => ?_)
  obtain ⟨n4, rfl, hn⟩ := hv3
  clear h
  show GoS _ _ _ _ _ _ _ _ [(0, .inr (.inr (some 725))), (1, .inl x1), (2, .inl x2)] [.inl n4, .inl 38, .inr (.inr (some 725)), .inr (.inr (some 725))] t2 _
  refine gs0 17 [(0, .inr (.inr (some 725))), (1, .inl x1), (2, .inl x2)] [.inr (.inr (some 725)), .inl n4, .inl 38, .inr (.inr (some 725)), .inr (.inr (some 725))] dM_187_16 (fun _ => rfl) (Or.inr rfl) ?_
  refine gsGetE (t2 725 47) dM_187_17 sk_725 rfl rfl rfl ?_
  refine gs0 21 [(0, .inr (.inr (some 725))), (1, .inl x1), (2, .inl x2)] [.inl 0, .inl (t2 725 47), .inl n4, .inl 38, .inr (.inr (some 725)), .inr (.inr (some 725))] dM_187_20 (fun _ => rfl) (Or.inr rfl) ?_
  refine gsCallV (y := 120) (k := 725) (as := [.inr (.inr (some 725)), .inl 38, .inl n4, .inl (t2 725 47), .inl 0]) (r := [.inr (.inr (some 725))]) dM_187_21 rfl rfl rfl (Nat.le_of_ble_eq_true rfl) sk_725 rfl (Nat.le_of_ble_eq_true rfl) (EvS.up hn (Nat.le_of_ble_eq_true rfl)) (fun v5 t6 hv7 => ?_)
  obtain ⟨n8, rfl, hnn⟩ := hv7
  clear hn
  show GoS _ _ _ _ _ _ _ _ [(0, .inr (.inr (some 725))), (1, .inl x1), (2, .inl x2)] [.inl n8, .inr (.inr (some 725))] t6 _
  refine gsCallV (y := 188) (k := 725) (as := [.inr (.inr (some 725)), .inl n8]) (r := []) dM_187_24 rfl rfl rfl (Nat.le_of_ble_eq_true rfl) sk_725 rfl (Nat.le_of_ble_eq_true rfl) (EvS.up hnn (Nat.le_of_ble_eq_true rfl)) (fun v9 t10 hv11 => ?_)
  obtain ⟨rfl, hnnn⟩ := hv11
  clear hnn
  show GoS _ _ _ _ _ _ _ _ [(0, .inr (.inr (some 725))), (1, .inl x1), (2, .inl x2)] [] t10 _
  refine gsRet (r := none) dM_187_27 (fun _ => rfl) (Or.inr rfl) ?_
  exact hnnn
set_option maxRecDepth 100000 in
/-- GoalsInAQueueModel.searches -/
theorem w_188 (sg : rSg) (x1 : Int32) {P : Option rv → rSg → Prop} (h :
    EvS rSkel 3 121 [.inr (.inr (some 725)), .inl x1] (up2 sg 725 21 1) (fun v1 t2 => v1 = none ∧
      EvS rSkel 14 137 [.inr (.inr (some 725)), .inl 120] t2 (fun v4 t5 => v4 = none ∧
        P none t5))) : EvS rSkel 15 188 [.inr (.inr (some 725)), .inl x1] sg P := by
  refine EvS.of (ini := false) rfl ⟨rfl, Nat.le_of_ble_eq_true rfl⟩ rfl ?_
  show GoS rSkel 14 9 2 none false prog_11_method_73_code 0 [(0, .inr (.inr (some 725))), (1, .inl x1)] [] sg _
  refine gs0 1 [(0, .inr (.inr (some 725))), (1, .inl x1)] [.inr (.inr (some 725))] dM_188_0 (fun _ => rfl) (Or.inr rfl) ?_
  refine gs0 2 [(0, .inr (.inr (some 725))), (1, .inl x1)] [.inl 1, .inr (.inr (some 725))] dM_188_1 (fun _ => rfl) (Or.inr rfl) ?_
  refine gsPut dM_188_2 sk_725 rfl rfl rfl (by decide) ?_
  refine gs0 6 [(0, .inr (.inr (some 725))), (1, .inl x1)] [.inr (.inr (some 725))] dM_188_5 (fun _ => rfl) (Or.inr rfl) ?_
  refine gs0 7 [(0, .inr (.inr (some 725))), (1, .inl x1)] [.inl x1, .inr (.inr (some 725))] dM_188_6 (fun _ => rfl) (Or.inr rfl) ?_
  refine gsCallV (y := 121) (k := 725) (as := [.inr (.inr (some 725)), .inl x1]) (r := []) dM_188_7 rfl rfl rfl (Nat.le_of_ble_eq_true rfl) sk_725 rfl (Nat.le_of_ble_eq_true rfl) (EvS.up h (Nat.le_of_ble_eq_true rfl)) (fun v1 t2 hv3 => ?_)
  obtain ⟨rfl, hn⟩ := hv3
  clear h
  show GoS _ _ _ _ _ _ _ _ [(0, .inr (.inr (some 725))), (1, .inl x1)] [] t2 _
  refine gs0 11 [(0, .inr (.inr (some 725))), (1, .inl x1)] [.inr (.inr (some 725))] dM_188_10 (fun _ => rfl) (Or.inr rfl) ?_
  refine gs0 13 [(0, .inr (.inr (some 725))), (1, .inl x1)] [.inl 120, .inr (.inr (some 725))] dM_188_11 (fun _ => rfl) (Or.inr rfl) ?_
  refine gsCallV (y := 137) (k := 725) (as := [.inr (.inr (some 725)), .inl 120]) (r := []) dM_188_13 rfl rfl rfl (Nat.le_of_ble_eq_true rfl) sk_725 rfl (Nat.le_of_ble_eq_true rfl) (EvS.up hn (Nat.le_of_ble_eq_true rfl)) (fun v4 t5 hv6 => ?_)
  obtain ⟨rfl, hnn⟩ := hv6
  clear hn
  show GoS _ _ _ _ _ _ _ _ [(0, .inr (.inr (some 725))), (1, .inl x1)] [] t5 _
  refine gsRet (r := none) dM_188_16 (fun _ => rfl) (Or.inr rfl) ?_
  exact hnn
def g_189_15  (y1 : Int32) (y2 : Int32) (sg : rSg) (P : Option rv → rSg → Prop) : Prop := GoS rSkel 17 9 3 (some .int) false prog_11_method_79_code 15 [(0, .inr (.inr (some 725))), (1, .inl y1), (2, .inl y2)] [] sg P
set_option maxRecDepth 100000 in
theorem w_189_15 (sg : rSg)  (y1 : Int32) (y2 : Int32) {P : Option rv → rSg → Prop} (h :
    (10 ≤ y2 → 
      P (some (.inl ((-9)))) sg) ∧
    (¬ (10 ≤ y2) → 
      EvS rSkel 17 186 [.inr (.inr (some 725)), .inl y1, .inl y2] sg (fun v11 t12 => ∃ n14, v11 = some (.inl n14) ∧
        (n14 ≤ 0 → 
          g_189_15 y1 (y2 + 1) t12 P) ∧
        (¬ (n14 ≤ 0) → 
          P (some (.inl y2)) t12)))) : g_189_15 y1 y2 sg P := by
  show GoS rSkel 17 9 3 (some .int) false prog_11_method_79_code 15 [(0, .inr (.inr (some 725))), (1, .inl y1), (2, .inl y2)] [] sg P
  refine gs0 16 [(0, .inr (.inr (some 725))), (1, .inl y1), (2, .inl y2)] [.inl y2] dM_189_15 (fun _ => rfl) (Or.inr rfl) ?_
  refine gs0 18 [(0, .inr (.inr (some 725))), (1, .inl y1), (2, .inl y2)] [.inl 10, .inl y2] dM_189_16 (fun _ => rfl) (Or.inr rfl) ?_
  refine gsIf (t := 38) (C := 10 ≤ y2) (r := []) dM_189_18 (fun _ => rfl) (Or.inr rfl) (rTest_iff .ge y2 10) (fun c10 => ?_) (fun c10 => ?_)
  · replace h := h.1 c10
    refine gs0 40 [(0, .inr (.inr (some 725))), (1, .inl y1), (2, .inl y2)] [.inl ((-9))] dM_189_38 (fun _ => rfl) (Or.inr rfl) ?_
    refine gsRet (r := some (.inl ((-9)))) dM_189_40 (fun _ => rfl) (Or.inr rfl) ?_
    exact h
  · replace h := h.2 c10
    refine gs0 22 [(0, .inr (.inr (some 725))), (1, .inl y1), (2, .inl y2)] [.inr (.inr (some 725))] dM_189_21 (fun _ => rfl) (Or.inr rfl) ?_
    refine gs0 23 [(0, .inr (.inr (some 725))), (1, .inl y1), (2, .inl y2)] [.inl y1, .inr (.inr (some 725))] dM_189_22 (fun _ => rfl) (Or.inr rfl) ?_
    refine gs0 24 [(0, .inr (.inr (some 725))), (1, .inl y1), (2, .inl y2)] [.inl y2, .inl y1, .inr (.inr (some 725))] dM_189_23 (fun _ => rfl) (Or.inr rfl) ?_
    refine gsCallV (y := 186) (k := 725) (as := [.inr (.inr (some 725)), .inl y1, .inl y2]) (r := []) dM_189_24 rfl rfl rfl (Nat.le_of_ble_eq_true rfl) sk_725 rfl (Nat.le_of_ble_eq_true rfl) (EvS.up h (Nat.le_of_ble_eq_true rfl)) (fun v11 t12 hv13 => ?_)
    obtain ⟨n14, rfl, hn⟩ := hv13
    clear h
    show GoS _ _ _ _ _ _ _ _ [(0, .inr (.inr (some 725))), (1, .inl y1), (2, .inl y2)] [.inl n14] t12 _
    refine gsIf (t := 32) (C := n14 ≤ 0) (r := []) dM_189_27 (fun _ => rfl) (Or.inr rfl) (rTest_iff .le n14 0) (fun c15 => ?_) (fun c15 => ?_)
    · replace hn := hn.1 c15
      refine gs0 35 [(2, .inl (y2 + 1)), (0, .inr (.inr (some 725))), (1, .inl y1)] [] dM_189_32 (fun _ => rfl) (Or.inr rfl) ?_
      refine gs0 15 [(2, .inl (y2 + 1)), (0, .inr (.inr (some 725))), (1, .inl y1)] [] dM_189_35 (fun _ => rfl) (Or.inr rfl) ?_
      exact GoS.sub (Lnd_keys (ks := [0, 1, 2]) rfl (by decide)) (Lsub_cons rfl (Lsub_cons rfl (Lsub_cons rfl Lsub_nil))) hn
    · replace hn := hn.2 c15
      refine gs0 31 [(0, .inr (.inr (some 725))), (1, .inl y1), (2, .inl y2)] [.inl y2] dM_189_30 (fun _ => rfl) (Or.inr rfl) ?_
      refine gsRet (r := some (.inl y2)) dM_189_31 (fun _ => rfl) (Or.inr rfl) ?_
      exact hn
set_option maxRecDepth 100000 in
/-- GoalsInAQueueModel.least -/
theorem w_189 (sg : rSg) (x1 : Int32) {P : Option rv → rSg → Prop} (h :
    EvS rSkel 2 165 [.inl x1] sg (fun v1 t2 => ∃ n4, v1 = some (.inl n4) ∧
      (¬ n4 = 0 → 
        g_189_15 x1 0 t2 P) ∧
      (¬ (¬ n4 = 0) → 
        EvS rSkel 1 128 [.inr (.inr (some 725)), .inl ((-1))] t2 (fun v6 t7 => ∃ n9, v6 = some (.inl n9) ∧
          P (some (.inl n9)) t7)))) : EvS rSkel 18 189 [.inr (.inr (some 725)), .inl x1] sg P := by
  refine EvS.of (ini := false) rfl ⟨rfl, Nat.le_of_ble_eq_true rfl⟩ rfl ?_
  show GoS rSkel 17 9 3 (some .int) false prog_11_method_79_code 0 [(0, .inr (.inr (some 725))), (1, .inl x1)] [] sg _
  refine gs0 1 [(0, .inr (.inr (some 725))), (1, .inl x1)] [.inl x1] dM_189_0 (fun _ => rfl) (Or.inr rfl) ?_
  refine gsCallS (y := 165) (as := [.inl x1]) (r := []) dM_189_1 rfl (Or.inl rfl) rfl rfl (Nat.le_of_ble_eq_true rfl) (EvS.up h (Nat.le_of_ble_eq_true rfl)) (fun v1 t2 hv3 => ?_)
  obtain ⟨n4, rfl, hn⟩ := hv3
  clear h
  show GoS _ _ _ _ _ _ _ _ [(0, .inr (.inr (some 725))), (1, .inl x1)] [.inl n4] t2 _
  refine gsIf (t := 13) (C := ¬ n4 = 0) (r := []) dM_189_4 (fun _ => rfl) (Or.inr rfl) (rTest_iff .ne n4 0) (fun c5 => ?_) (fun c5 => ?_)
  · replace hn := hn.1 c5
    refine gs0 14 [(0, .inr (.inr (some 725))), (1, .inl x1)] [.inl 0] dM_189_13 (fun _ => rfl) (Or.inr rfl) ?_
    refine gs0 15 [(2, .inl 0), (0, .inr (.inr (some 725))), (1, .inl x1)] [] dM_189_14 (fun _ => rfl) (Or.inr rfl) ?_
    exact GoS.sub (Lnd_keys (ks := [0, 1, 2]) rfl (by decide)) (Lsub_cons rfl (Lsub_cons rfl (Lsub_cons rfl Lsub_nil))) hn
  · replace hn := hn.2 c5
    refine gs0 8 [(0, .inr (.inr (some 725))), (1, .inl x1)] [.inr (.inr (some 725))] dM_189_7 (fun _ => rfl) (Or.inr rfl) ?_
    refine gs0 9 [(0, .inr (.inr (some 725))), (1, .inl x1)] [.inl ((-1)), .inr (.inr (some 725))] dM_189_8 (fun _ => rfl) (Or.inr rfl) ?_
    refine gsCallV (y := 128) (k := 725) (as := [.inr (.inr (some 725)), .inl ((-1))]) (r := []) dM_189_9 rfl rfl rfl (Nat.le_of_ble_eq_true rfl) sk_725 rfl (Nat.le_of_ble_eq_true rfl) (EvS.up hn (Nat.le_of_ble_eq_true rfl)) (fun v6 t7 hv8 => ?_)
    obtain ⟨n9, rfl, hnn⟩ := hv8
    clear hn
    show GoS _ _ _ _ _ _ _ _ [(0, .inr (.inr (some 725))), (1, .inl x1)] [.inl n9] t7 _
    refine gsRet (r := some (.inl n9)) dM_189_12 (fun _ => rfl) (Or.inr rfl) ?_
    exact hnn
set_option maxRecDepth 100000 in
/-- GoalsInAQueueModel.turned -/
theorem w_190 (sg : rSg) (x1 : Int32) {P : Option rv → rSg → Prop} (h :
    EvS rSkel 1 119 [.inl x1, .inl 0, .inl 1] sg (fun v1 t2 => ∃ n4, v1 = some (.inl n4) ∧
      (¬ n4 = 0 → 
        (rIn (t2 725 47) 3000 = true ∧
        ((t2 729 ((t2 725 47).toNatClampNeg)) = 38 → 
          EvS rSkel 1 183 [.inr (.inr (some 725))] t2 (fun v8 t9 => v8 = none ∧
            (rIn (t9 725 47) 3000 = true ∧
            rIn (t9 725 47) 3000 = true ∧
            rIn (t9 725 47) 3000 = true ∧
            EvS rSkel 1 120 [.inr (.inr (some 725)), .inl (t9 729 ((t9 725 47).toNatClampNeg)), .inl (t9 731 ((t9 725 47).toNatClampNeg)), .inl (t9 730 ((t9 725 47).toNatClampNeg)), .inl 0] t9 (fun v11 t12 => ∃ n14, v11 = some (.inl n14) ∧
              EvS rSkel 15 188 [.inr (.inr (some 725)), .inl n14] t12 (fun v15 t16 => v15 = none ∧
                EvS rSkel 1 184 [.inr (.inr (some 725))] t16 (fun v18 t19 => v18 = none ∧
                  (¬ x1 = 0 → 
                    (¬ (t19 748 1) = 0 → 
                      P (some (.inl (t19 744 30))) t19) ∧
                    (¬ (¬ (t19 748 1) = 0) → 
                      P (some (.inl ((-9)))) t19)) ∧
                  (¬ (¬ x1 = 0) → 
                    P (some (.inl (t19 748 1))) t19))))))) ∧
        (¬ ((t2 729 ((t2 725 47).toNatClampNeg)) = 38) → 
          (rIn (t2 725 47) 3000 = true ∧
          ((t2 729 ((t2 725 47).toNatClampNeg)) = 124 → 
            EvS rSkel 1 183 [.inr (.inr (some 725))] t2 (fun v25 t26 => v25 = none ∧
              (rIn (t26 725 47) 3000 = true ∧
              rIn (t26 725 47) 3000 = true ∧
              rIn (t26 725 47) 3000 = true ∧
              EvS rSkel 1 120 [.inr (.inr (some 725)), .inl (t26 729 ((t26 725 47).toNatClampNeg)), .inl (t26 731 ((t26 725 47).toNatClampNeg)), .inl (t26 730 ((t26 725 47).toNatClampNeg)), .inl 0] t26 (fun v28 t29 => ∃ n31, v28 = some (.inl n31) ∧
                EvS rSkel 15 188 [.inr (.inr (some 725)), .inl n31] t29 (fun v32 t33 => v32 = none ∧
                  EvS rSkel 1 184 [.inr (.inr (some 725))] t33 (fun v35 t36 => v35 = none ∧
                    (¬ x1 = 0 → 
                      (¬ (t36 748 1) = 0 → 
                        P (some (.inl (t36 744 30))) t36) ∧
                      (¬ (¬ (t36 748 1) = 0) → 
                        P (some (.inl ((-9)))) t36)) ∧
                    (¬ (¬ x1 = 0) → 
                      P (some (.inl (t36 748 1))) t36))))))) ∧
          (¬ ((t2 729 ((t2 725 47).toNatClampNeg)) = 124) → 
            EvS rSkel 1 128 [.inr (.inr (some 725)), .inl ((-3))] t2 (fun v41 t42 => ∃ n44, v41 = some (.inl n44) ∧
              P (some (.inl n44)) t42)))))) ∧
      (¬ (¬ n4 = 0) → 
        EvS rSkel 1 128 [.inr (.inr (some 725)), .inl ((-2))] t2 (fun v46 t47 => ∃ n49, v46 = some (.inl n49) ∧
          P (some (.inl n49)) t47)))) : EvS rSkel 16 190 [.inr (.inr (some 725)), .inl x1] sg P := by
  refine EvS.of (ini := false) rfl ⟨rfl, Nat.le_of_ble_eq_true rfl⟩ rfl ?_
  show GoS rSkel 15 9 3 (some .int) false prog_11_method_80_code 0 [(0, .inr (.inr (some 725))), (1, .inl x1)] [] sg _
  refine gs0 1 [(0, .inr (.inr (some 725))), (1, .inl x1)] [.inl x1] dM_190_0 (fun _ => rfl) (Or.inr rfl) ?_
  refine gs0 2 [(0, .inr (.inr (some 725))), (1, .inl x1)] [.inl 0, .inl x1] dM_190_1 (fun _ => rfl) (Or.inr rfl) ?_
  refine gs0 3 [(0, .inr (.inr (some 725))), (1, .inl x1)] [.inl 1, .inl 0, .inl x1] dM_190_2 (fun _ => rfl) (Or.inr rfl) ?_
  refine gsCallS (y := 119) (as := [.inl x1, .inl 0, .inl 1]) (r := []) dM_190_3 rfl (Or.inl rfl) rfl rfl (Nat.le_of_ble_eq_true rfl) (EvS.up h (Nat.le_of_ble_eq_true rfl)) (fun v1 t2 hv3 => ?_)
  obtain ⟨n4, rfl, hn⟩ := hv3
  clear h
  show GoS _ _ _ _ _ _ _ _ [(0, .inr (.inr (some 725))), (1, .inl x1)] [.inl n4] t2 _
  refine gsIf (t := 14) (C := ¬ n4 = 0) (r := []) dM_190_6 (fun _ => rfl) (Or.inr rfl) (rTest_iff .ne n4 0) (fun c5 => ?_) (fun c5 => ?_)
  · replace hn := hn.1 c5
    refine gs0 15 [(0, .inr (.inr (some 725))), (1, .inl x1)] [.inr (.inr (some 725))] dM_190_14 (fun _ => rfl) (Or.inr rfl) ?_
    refine gsGetR (some 729) dM_190_15 sk_725 rfl rfl ?_
    refine gs0 19 [(0, .inr (.inr (some 725))), (1, .inl x1)] [.inr (.inr (some 725)), .inr (.inr (some 729))] dM_190_18 (fun _ => rfl) (Or.inr rfl) ?_
    refine gsGetE (t2 725 47) dM_190_19 sk_725 rfl rfl rfl ?_
    refine gsIaldN ((t2 725 47).toNatClampNeg) (t2 729 ((t2 725 47).toNatClampNeg)) dM_190_22 sk_729 hn.1 rfl rfl ?_
    replace hn := hn.2
    refine gs0 25 [(0, .inr (.inr (some 725))), (1, .inl x1)] [.inl 38, .inl (t2 729 ((t2 725 47).toNatClampNeg))] dM_190_23 (fun _ => rfl) (Or.inr rfl) ?_
    refine gsIf (t := 47) (C := (t2 729 ((t2 725 47).toNatClampNeg)) = 38) (r := []) dM_190_25 (fun _ => rfl) (Or.inr rfl) (rTest_iff .eq (t2 729 ((t2 725 47).toNatClampNeg)) 38) (fun c6 => ?_) (fun c6 => ?_)
    · replace hn := hn.1 c6
      refine gs0 48 [(0, .inr (.inr (some 725))), (1, .inl x1)] [.inl 0] dM_190_47 (fun _ => rfl) (Or.inr rfl) ?_
      refine gs0 49 [(2, .inl 0), (0, .inr (.inr (some 725))), (1, .inl x1)] [] dM_190_48 (fun _ => rfl) (Or.inr rfl) ?_
      refine gs0 50 [(2, .inl 0), (0, .inr (.inr (some 725))), (1, .inl x1)] [.inl 0] dM_190_49 (fun _ => rfl) (Or.inr rfl) ?_
      refine gsIf (t := 59) (C := 0 = 0) (r := []) dM_190_50 (fun _ => rfl) (Or.inr rfl) (rTest_iff .eq 0 0) (fun c7 => ?_) (fun c7 => absurd (by decide) c7)
      refine gs0 60 [(2, .inl 0), (0, .inr (.inr (some 725))), (1, .inl x1)] [.inr (.inr (some 725))] dM_190_59 (fun _ => rfl) (Or.inr rfl) ?_
      refine gsCallV (y := 183) (k := 725) (as := [.inr (.inr (some 725))]) (r := []) dM_190_60 rfl rfl rfl (Nat.le_of_ble_eq_true rfl) sk_725 rfl (Nat.le_of_ble_eq_true rfl) (EvS.up hn (Nat.le_of_ble_eq_true rfl)) (fun v8 t9 hv10 => ?_)
      obtain ⟨rfl, hnn⟩ := hv10
      clear hn
      show GoS _ _ _ _ _ _ _ _ [(2, .inl 0), (0, .inr (.inr (some 725))), (1, .inl x1)] [] t9 _
      refine gs0 64 [(2, .inl 0), (0, .inr (.inr (some 725))), (1, .inl x1)] [.inr (.inr (some 725))] dM_190_63 (fun _ => rfl) (Or.inr rfl) ?_
      refine gs0 65 [(2, .inl 0), (0, .inr (.inr (some 725))), (1, .inl x1)] [.inr (.inr (some 725)), .inr (.inr (some 725))] dM_190_64 (fun _ => rfl) (Or.inr rfl) ?_
      refine gs0 66 [(2, .inl 0), (0, .inr (.inr (some 725))), (1, .inl x1)] [.inr (.inr (some 725)), .inr (.inr (some 725)), .inr (.inr (some 725))] dM_190_65 (fun _ => rfl) (Or.inr rfl) ?_
      refine gsGetR (some 729) dM_190_66 sk_725 rfl rfl ?_
      refine gs0 70 [(2, .inl 0), (0, .inr (.inr (some 725))), (1, .inl x1)] [.inr (.inr (some 725)), .inr (.inr (some 729)), .inr (.inr (some 725)), .inr (.inr (some 725))] dM_190_69 (fun _ => rfl) (Or.inr rfl) ?_
      refine gsGetE (t9 725 47) dM_190_70 sk_725 rfl rfl rfl ?_
      refine gsIaldN ((t9 725 47).toNatClampNeg) (t9 729 ((t9 725 47).toNatClampNeg)) dM_190_73 sk_729 hnn.1 rfl rfl ?_
      replace hnn := hnn.2
      refine gs0 75 [(2, .inl 0), (0, .inr (.inr (some 725))), (1, .inl x1)] [.inr (.inr (some 725)), .inl (t9 729 ((t9 725 47).toNatClampNeg)), .inr (.inr (some 725)), .inr (.inr (some 725))] dM_190_74 (fun _ => rfl) (Or.inr rfl) ?_
      refine gsGetR (some 731) dM_190_75 sk_725 rfl rfl ?_
      refine gs0 79 [(2, .inl 0), (0, .inr (.inr (some 725))), (1, .inl x1)] [.inr (.inr (some 725)), .inr (.inr (some 731)), .inl (t9 729 ((t9 725 47).toNatClampNeg)), .inr (.inr (some 725)), .inr (.inr (some 725))] dM_190_78 (fun _ => rfl) (Or.inr rfl) ?_
      refine gsGetE (t9 725 47) dM_190_79 sk_725 rfl rfl rfl ?_
      refine gsIaldN ((t9 725 47).toNatClampNeg) (t9 731 ((t9 725 47).toNatClampNeg)) dM_190_82 sk_731 hnn.1 rfl rfl ?_
      replace hnn := hnn.2
      refine gs0 84 [(2, .inl 0), (0, .inr (.inr (some 725))), (1, .inl x1)] [.inr (.inr (some 725)), .inl (t9 731 ((t9 725 47).toNatClampNeg)), .inl (t9 729 ((t9 725 47).toNatClampNeg)), .inr (.inr (some 725)), .inr (.inr (some 725))] dM_190_83 (fun _ => rfl) (Or.inr rfl) ?_
      refine gsGetR (some 730) dM_190_84 sk_725 rfl rfl ?_
      refine gs0 88 [(2, .inl 0), (0, .inr (.inr (some 725))), (1, .inl x1)] [.inr (.inr (some 725)), .inr (.inr (some 730)), .inl (t9 731 ((t9 725 47).toNatClampNeg)), .inl (t9 729 ((t9 725 47).toNatClampNeg)), .inr (.inr (some 725)), .inr (.inr (some 725))] dM_190_87 (fun _ => rfl) (Or.inr rfl) ?_
      refine gsGetE (t9 725 47) dM_190_88 sk_725 rfl rfl rfl ?_
      refine gsIaldN ((t9 725 47).toNatClampNeg) (t9 730 ((t9 725 47).toNatClampNeg)) dM_190_91 sk_730 hnn.1 rfl rfl ?_
      replace hnn := hnn.2
      refine gs0 93 [(2, .inl 0), (0, .inr (.inr (some 725))), (1, .inl x1)] [.inl 0, .inl (t9 730 ((t9 725 47).toNatClampNeg)), .inl (t9 731 ((t9 725 47).toNatClampNeg)), .inl (t9 729 ((t9 725 47).toNatClampNeg)), .inr (.inr (some 725)), .inr (.inr (some 725))] dM_190_92 (fun _ => rfl) (Or.inr rfl) ?_
      refine gsCallV (y := 120) (k := 725) (as := [.inr (.inr (some 725)), .inl (t9 729 ((t9 725 47).toNatClampNeg)), .inl (t9 731 ((t9 725 47).toNatClampNeg)), .inl (t9 730 ((t9 725 47).toNatClampNeg)), .inl 0]) (r := [.inr (.inr (some 725))]) dM_190_93 rfl rfl rfl (Nat.le_of_ble_eq_true rfl) sk_725 rfl (Nat.le_of_ble_eq_true rfl) (EvS.up hnn (Nat.le_of_ble_eq_true rfl)) (fun v11 t12 hv13 => ?_)
      obtain ⟨n14, rfl, hnnn⟩ := hv13
      clear hnn
      show GoS _ _ _ _ _ _ _ _ [(2, .inl 0), (0, .inr (.inr (some 725))), (1, .inl x1)] [.inl n14, .inr (.inr (some 725))] t12 _
      refine gsCallV (y := 188) (k := 725) (as := [.inr (.inr (some 725)), .inl n14]) (r := []) dM_190_96 rfl rfl rfl (Nat.le_of_ble_eq_true rfl) sk_725 rfl (Nat.le_of_ble_eq_true rfl) (EvS.up hnnn (Nat.le_of_ble_eq_true rfl)) (fun v15 t16 hv17 => ?_)
      obtain ⟨rfl, hnnnn⟩ := hv17
      clear hnnn
      show GoS _ _ _ _ _ _ _ _ [(2, .inl 0), (0, .inr (.inr (some 725))), (1, .inl x1)] [] t16 _
      refine gs0 100 [(2, .inl 0), (0, .inr (.inr (some 725))), (1, .inl x1)] [.inr (.inr (some 725))] dM_190_99 (fun _ => rfl) (Or.inr rfl) ?_
      refine gsCallV (y := 184) (k := 725) (as := [.inr (.inr (some 725))]) (r := []) dM_190_100 rfl rfl rfl (Nat.le_of_ble_eq_true rfl) sk_725 rfl (Nat.le_of_ble_eq_true rfl) (EvS.up hnnnn (Nat.le_of_ble_eq_true rfl)) (fun v18 t19 hv20 => ?_)
      obtain ⟨rfl, hnnnnn⟩ := hv20
      clear hnnnn
      show GoS _ _ _ _ _ _ _ _ [(2, .inl 0), (0, .inr (.inr (some 725))), (1, .inl x1)] [] t19 _
      refine gs0 104 [(2, .inl 0), (0, .inr (.inr (some 725))), (1, .inl x1)] [.inl x1] dM_190_103 (fun _ => rfl) (Or.inr rfl) ?_
      refine gsIf (t := 116) (C := ¬ x1 = 0) (r := []) dM_190_104 (fun _ => rfl) (Or.inr rfl) (rTest_iff .ne x1 0) (fun c21 => ?_) (fun c21 => ?_)
      · replace hnnnnn := hnnnnn.1 c21
        refine gs0 117 [(2, .inl 0), (0, .inr (.inr (some 725))), (1, .inl x1)] [.inr (.inr (some 725))] dM_190_116 (fun _ => rfl) (Or.inr rfl) ?_
        refine gsGetR (some 748) dM_190_117 sk_725 rfl rfl ?_
        refine gs0 121 [(2, .inl 0), (0, .inr (.inr (some 725))), (1, .inl x1)] [.inl 1, .inr (.inr (some 748))] dM_190_120 (fun _ => rfl) (Or.inr rfl) ?_
        refine gsIaldN 1 (t19 748 1) dM_190_121 sk_748 rfl rfl rfl ?_
        refine gsIf (t := 130) (C := ¬ (t19 748 1) = 0) (r := []) dM_190_122 (fun _ => rfl) (Or.inr rfl) (rTest_iff .ne (t19 748 1) 0) (fun c22 => ?_) (fun c22 => ?_)
        · replace hnnnnn := hnnnnn.1 c22
          refine gs0 131 [(2, .inl 0), (0, .inr (.inr (some 725))), (1, .inl x1)] [.inr (.inr (some 725))] dM_190_130 (fun _ => rfl) (Or.inr rfl) ?_
          refine gsGetR (some 744) dM_190_131 sk_725 rfl rfl ?_
          refine gs0 136 [(2, .inl 0), (0, .inr (.inr (some 725))), (1, .inl x1)] [.inl 30, .inr (.inr (some 744))] dM_190_134 (fun _ => rfl) (Or.inr rfl) ?_
          refine gsIaldN 30 (t19 744 30) dM_190_136 sk_744 rfl rfl rfl ?_
          refine gsRet (r := some (.inl (t19 744 30))) dM_190_137 (fun _ => rfl) (Or.inr rfl) ?_
          exact hnnnnn
        · replace hnnnnn := hnnnnn.2 c22
          refine gs0 127 [(2, .inl 0), (0, .inr (.inr (some 725))), (1, .inl x1)] [.inl ((-9))] dM_190_125 (fun _ => rfl) (Or.inr rfl) ?_
          refine gs0 137 [(2, .inl 0), (0, .inr (.inr (some 725))), (1, .inl x1)] [.inl ((-9))] dM_190_127 (fun _ => rfl) (Or.inr rfl) ?_
          refine gsRet (r := some (.inl ((-9)))) dM_190_137 (fun _ => rfl) (Or.inr rfl) ?_
          exact hnnnnn
      · replace hnnnnn := hnnnnn.2 c21
        refine gs0 108 [(2, .inl 0), (0, .inr (.inr (some 725))), (1, .inl x1)] [.inr (.inr (some 725))] dM_190_107 (fun _ => rfl) (Or.inr rfl) ?_
        refine gsGetR (some 748) dM_190_108 sk_725 rfl rfl ?_
        refine gs0 112 [(2, .inl 0), (0, .inr (.inr (some 725))), (1, .inl x1)] [.inl 1, .inr (.inr (some 748))] dM_190_111 (fun _ => rfl) (Or.inr rfl) ?_
        refine gsIaldN 1 (t19 748 1) dM_190_112 sk_748 rfl rfl rfl ?_
        refine gs0 137 [(2, .inl 0), (0, .inr (.inr (some 725))), (1, .inl x1)] [.inl (t19 748 1)] dM_190_113 (fun _ => rfl) (Or.inr rfl) ?_
        refine gsRet (r := some (.inl (t19 748 1))) dM_190_137 (fun _ => rfl) (Or.inr rfl) ?_
        exact hnnnnn
    · replace hn := hn.2 c6
      refine gs0 29 [(0, .inr (.inr (some 725))), (1, .inl x1)] [.inr (.inr (some 725))] dM_190_28 (fun _ => rfl) (Or.inr rfl) ?_
      refine gsGetR (some 729) dM_190_29 sk_725 rfl rfl ?_
      refine gs0 33 [(0, .inr (.inr (some 725))), (1, .inl x1)] [.inr (.inr (some 725)), .inr (.inr (some 729))] dM_190_32 (fun _ => rfl) (Or.inr rfl) ?_
      refine gsGetE (t2 725 47) dM_190_33 sk_725 rfl rfl rfl ?_
      refine gsIaldN ((t2 725 47).toNatClampNeg) (t2 729 ((t2 725 47).toNatClampNeg)) dM_190_36 sk_729 hn.1 rfl rfl ?_
      replace hn := hn.2
      refine gs0 39 [(0, .inr (.inr (some 725))), (1, .inl x1)] [.inl 124, .inl (t2 729 ((t2 725 47).toNatClampNeg))] dM_190_37 (fun _ => rfl) (Or.inr rfl) ?_
      refine gsIf (t := 47) (C := (t2 729 ((t2 725 47).toNatClampNeg)) = 124) (r := []) dM_190_39 (fun _ => rfl) (Or.inr rfl) (rTest_iff .eq (t2 729 ((t2 725 47).toNatClampNeg)) 124) (fun c23 => ?_) (fun c23 => ?_)
      · replace hn := hn.1 c23
        refine gs0 48 [(0, .inr (.inr (some 725))), (1, .inl x1)] [.inl 0] dM_190_47 (fun _ => rfl) (Or.inr rfl) ?_
        refine gs0 49 [(2, .inl 0), (0, .inr (.inr (some 725))), (1, .inl x1)] [] dM_190_48 (fun _ => rfl) (Or.inr rfl) ?_
        refine gs0 50 [(2, .inl 0), (0, .inr (.inr (some 725))), (1, .inl x1)] [.inl 0] dM_190_49 (fun _ => rfl) (Or.inr rfl) ?_
        refine gsIf (t := 59) (C := 0 = 0) (r := []) dM_190_50 (fun _ => rfl) (Or.inr rfl) (rTest_iff .eq 0 0) (fun c24 => ?_) (fun c24 => absurd (by decide) c24)
        refine gs0 60 [(2, .inl 0), (0, .inr (.inr (some 725))), (1, .inl x1)] [.inr (.inr (some 725))] dM_190_59 (fun _ => rfl) (Or.inr rfl) ?_
        refine gsCallV (y := 183) (k := 725) (as := [.inr (.inr (some 725))]) (r := []) dM_190_60 rfl rfl rfl (Nat.le_of_ble_eq_true rfl) sk_725 rfl (Nat.le_of_ble_eq_true rfl) (EvS.up hn (Nat.le_of_ble_eq_true rfl)) (fun v25 t26 hv27 => ?_)
        obtain ⟨rfl, hnn⟩ := hv27
        clear hn
        show GoS _ _ _ _ _ _ _ _ [(2, .inl 0), (0, .inr (.inr (some 725))), (1, .inl x1)] [] t26 _
        refine gs0 64 [(2, .inl 0), (0, .inr (.inr (some 725))), (1, .inl x1)] [.inr (.inr (some 725))] dM_190_63 (fun _ => rfl) (Or.inr rfl) ?_
        refine gs0 65 [(2, .inl 0), (0, .inr (.inr (some 725))), (1, .inl x1)] [.inr (.inr (some 725)), .inr (.inr (some 725))] dM_190_64 (fun _ => rfl) (Or.inr rfl) ?_
        refine gs0 66 [(2, .inl 0), (0, .inr (.inr (some 725))), (1, .inl x1)] [.inr (.inr (some 725)), .inr (.inr (some 725)), .inr (.inr (some 725))] dM_190_65 (fun _ => rfl) (Or.inr rfl) ?_
        refine gsGetR (some 729) dM_190_66 sk_725 rfl rfl ?_
        refine gs0 70 [(2, .inl 0), (0, .inr (.inr (some 725))), (1, .inl x1)] [.inr (.inr (some 725)), .inr (.inr (some 729)), .inr (.inr (some 725)), .inr (.inr (some 725))] dM_190_69 (fun _ => rfl) (Or.inr rfl) ?_
        refine gsGetE (t26 725 47) dM_190_70 sk_725 rfl rfl rfl ?_
        refine gsIaldN ((t26 725 47).toNatClampNeg) (t26 729 ((t26 725 47).toNatClampNeg)) dM_190_73 sk_729 hnn.1 rfl rfl ?_
        replace hnn := hnn.2
        refine gs0 75 [(2, .inl 0), (0, .inr (.inr (some 725))), (1, .inl x1)] [.inr (.inr (some 725)), .inl (t26 729 ((t26 725 47).toNatClampNeg)), .inr (.inr (some 725)), .inr (.inr (some 725))] dM_190_74 (fun _ => rfl) (Or.inr rfl) ?_
        refine gsGetR (some 731) dM_190_75 sk_725 rfl rfl ?_
        refine gs0 79 [(2, .inl 0), (0, .inr (.inr (some 725))), (1, .inl x1)] [.inr (.inr (some 725)), .inr (.inr (some 731)), .inl (t26 729 ((t26 725 47).toNatClampNeg)), .inr (.inr (some 725)), .inr (.inr (some 725))] dM_190_78 (fun _ => rfl) (Or.inr rfl) ?_
        refine gsGetE (t26 725 47) dM_190_79 sk_725 rfl rfl rfl ?_
        refine gsIaldN ((t26 725 47).toNatClampNeg) (t26 731 ((t26 725 47).toNatClampNeg)) dM_190_82 sk_731 hnn.1 rfl rfl ?_
        replace hnn := hnn.2
        refine gs0 84 [(2, .inl 0), (0, .inr (.inr (some 725))), (1, .inl x1)] [.inr (.inr (some 725)), .inl (t26 731 ((t26 725 47).toNatClampNeg)), .inl (t26 729 ((t26 725 47).toNatClampNeg)), .inr (.inr (some 725)), .inr (.inr (some 725))] dM_190_83 (fun _ => rfl) (Or.inr rfl) ?_
        refine gsGetR (some 730) dM_190_84 sk_725 rfl rfl ?_
        refine gs0 88 [(2, .inl 0), (0, .inr (.inr (some 725))), (1, .inl x1)] [.inr (.inr (some 725)), .inr (.inr (some 730)), .inl (t26 731 ((t26 725 47).toNatClampNeg)), .inl (t26 729 ((t26 725 47).toNatClampNeg)), .inr (.inr (some 725)), .inr (.inr (some 725))] dM_190_87 (fun _ => rfl) (Or.inr rfl) ?_
        refine gsGetE (t26 725 47) dM_190_88 sk_725 rfl rfl rfl ?_
        refine gsIaldN ((t26 725 47).toNatClampNeg) (t26 730 ((t26 725 47).toNatClampNeg)) dM_190_91 sk_730 hnn.1 rfl rfl ?_
        replace hnn := hnn.2
        refine gs0 93 [(2, .inl 0), (0, .inr (.inr (some 725))), (1, .inl x1)] [.inl 0, .inl (t26 730 ((t26 725 47).toNatClampNeg)), .inl (t26 731 ((t26 725 47).toNatClampNeg)), .inl (t26 729 ((t26 725 47).toNatClampNeg)), .inr (.inr (some 725)), .inr (.inr (some 725))] dM_190_92 (fun _ => rfl) (Or.inr rfl) ?_
        refine gsCallV (y := 120) (k := 725) (as := [.inr (.inr (some 725)), .inl (t26 729 ((t26 725 47).toNatClampNeg)), .inl (t26 731 ((t26 725 47).toNatClampNeg)), .inl (t26 730 ((t26 725 47).toNatClampNeg)), .inl 0]) (r := [.inr (.inr (some 725))]) dM_190_93 rfl rfl rfl (Nat.le_of_ble_eq_true rfl) sk_725 rfl (Nat.le_of_ble_eq_true rfl) (EvS.up hnn (Nat.le_of_ble_eq_true rfl)) (fun v28 t29 hv30 => ?_)
        obtain ⟨n31, rfl, hnnn⟩ := hv30
        clear hnn
        show GoS _ _ _ _ _ _ _ _ [(2, .inl 0), (0, .inr (.inr (some 725))), (1, .inl x1)] [.inl n31, .inr (.inr (some 725))] t29 _
        refine gsCallV (y := 188) (k := 725) (as := [.inr (.inr (some 725)), .inl n31]) (r := []) dM_190_96 rfl rfl rfl (Nat.le_of_ble_eq_true rfl) sk_725 rfl (Nat.le_of_ble_eq_true rfl) (EvS.up hnnn (Nat.le_of_ble_eq_true rfl)) (fun v32 t33 hv34 => ?_)
        obtain ⟨rfl, hnnnn⟩ := hv34
        clear hnnn
        show GoS _ _ _ _ _ _ _ _ [(2, .inl 0), (0, .inr (.inr (some 725))), (1, .inl x1)] [] t33 _
        refine gs0 100 [(2, .inl 0), (0, .inr (.inr (some 725))), (1, .inl x1)] [.inr (.inr (some 725))] dM_190_99 (fun _ => rfl) (Or.inr rfl) ?_
        refine gsCallV (y := 184) (k := 725) (as := [.inr (.inr (some 725))]) (r := []) dM_190_100 rfl rfl rfl (Nat.le_of_ble_eq_true rfl) sk_725 rfl (Nat.le_of_ble_eq_true rfl) (EvS.up hnnnn (Nat.le_of_ble_eq_true rfl)) (fun v35 t36 hv37 => ?_)
        obtain ⟨rfl, hnnnnn⟩ := hv37
        clear hnnnn
        show GoS _ _ _ _ _ _ _ _ [(2, .inl 0), (0, .inr (.inr (some 725))), (1, .inl x1)] [] t36 _
        refine gs0 104 [(2, .inl 0), (0, .inr (.inr (some 725))), (1, .inl x1)] [.inl x1] dM_190_103 (fun _ => rfl) (Or.inr rfl) ?_
        refine gsIf (t := 116) (C := ¬ x1 = 0) (r := []) dM_190_104 (fun _ => rfl) (Or.inr rfl) (rTest_iff .ne x1 0) (fun c38 => ?_) (fun c38 => ?_)
        · replace hnnnnn := hnnnnn.1 c38
          refine gs0 117 [(2, .inl 0), (0, .inr (.inr (some 725))), (1, .inl x1)] [.inr (.inr (some 725))] dM_190_116 (fun _ => rfl) (Or.inr rfl) ?_
          refine gsGetR (some 748) dM_190_117 sk_725 rfl rfl ?_
          refine gs0 121 [(2, .inl 0), (0, .inr (.inr (some 725))), (1, .inl x1)] [.inl 1, .inr (.inr (some 748))] dM_190_120 (fun _ => rfl) (Or.inr rfl) ?_
          refine gsIaldN 1 (t36 748 1) dM_190_121 sk_748 rfl rfl rfl ?_
          refine gsIf (t := 130) (C := ¬ (t36 748 1) = 0) (r := []) dM_190_122 (fun _ => rfl) (Or.inr rfl) (rTest_iff .ne (t36 748 1) 0) (fun c39 => ?_) (fun c39 => ?_)
          · replace hnnnnn := hnnnnn.1 c39
            refine gs0 131 [(2, .inl 0), (0, .inr (.inr (some 725))), (1, .inl x1)] [.inr (.inr (some 725))] dM_190_130 (fun _ => rfl) (Or.inr rfl) ?_
            refine gsGetR (some 744) dM_190_131 sk_725 rfl rfl ?_
            refine gs0 136 [(2, .inl 0), (0, .inr (.inr (some 725))), (1, .inl x1)] [.inl 30, .inr (.inr (some 744))] dM_190_134 (fun _ => rfl) (Or.inr rfl) ?_
            refine gsIaldN 30 (t36 744 30) dM_190_136 sk_744 rfl rfl rfl ?_
            refine gsRet (r := some (.inl (t36 744 30))) dM_190_137 (fun _ => rfl) (Or.inr rfl) ?_
            exact hnnnnn
          · replace hnnnnn := hnnnnn.2 c39
            refine gs0 127 [(2, .inl 0), (0, .inr (.inr (some 725))), (1, .inl x1)] [.inl ((-9))] dM_190_125 (fun _ => rfl) (Or.inr rfl) ?_
            refine gs0 137 [(2, .inl 0), (0, .inr (.inr (some 725))), (1, .inl x1)] [.inl ((-9))] dM_190_127 (fun _ => rfl) (Or.inr rfl) ?_
            refine gsRet (r := some (.inl ((-9)))) dM_190_137 (fun _ => rfl) (Or.inr rfl) ?_
            exact hnnnnn
        · replace hnnnnn := hnnnnn.2 c38
          refine gs0 108 [(2, .inl 0), (0, .inr (.inr (some 725))), (1, .inl x1)] [.inr (.inr (some 725))] dM_190_107 (fun _ => rfl) (Or.inr rfl) ?_
          refine gsGetR (some 748) dM_190_108 sk_725 rfl rfl ?_
          refine gs0 112 [(2, .inl 0), (0, .inr (.inr (some 725))), (1, .inl x1)] [.inl 1, .inr (.inr (some 748))] dM_190_111 (fun _ => rfl) (Or.inr rfl) ?_
          refine gsIaldN 1 (t36 748 1) dM_190_112 sk_748 rfl rfl rfl ?_
          refine gs0 137 [(2, .inl 0), (0, .inr (.inr (some 725))), (1, .inl x1)] [.inl (t36 748 1)] dM_190_113 (fun _ => rfl) (Or.inr rfl) ?_
          refine gsRet (r := some (.inl (t36 748 1))) dM_190_137 (fun _ => rfl) (Or.inr rfl) ?_
          exact hnnnnn
      · replace hn := hn.2 c23
        refine gs0 44 [(0, .inr (.inr (some 725))), (1, .inl x1)] [.inl ((-3))] dM_190_42 (fun _ => rfl) (Or.inr rfl) ?_
        refine gs0 48 [(0, .inr (.inr (some 725))), (1, .inl x1)] [.inl ((-3))] dM_190_44 (fun _ => rfl) (Or.inr rfl) ?_
        refine gs0 49 [(2, .inl ((-3))), (0, .inr (.inr (some 725))), (1, .inl x1)] [] dM_190_48 (fun _ => rfl) (Or.inr rfl) ?_
        refine gs0 50 [(2, .inl ((-3))), (0, .inr (.inr (some 725))), (1, .inl x1)] [.inl ((-3))] dM_190_49 (fun _ => rfl) (Or.inr rfl) ?_
        refine gsIf (t := 59) (C := ((-3)) = 0) (r := []) dM_190_50 (fun _ => rfl) (Or.inr rfl) (rTest_iff .eq ((-3)) 0) (fun c40 => absurd c40 (by decide)) (fun c40 => ?_)
        refine gs0 54 [(2, .inl ((-3))), (0, .inr (.inr (some 725))), (1, .inl x1)] [.inr (.inr (some 725))] dM_190_53 (fun _ => rfl) (Or.inr rfl) ?_
        refine gs0 55 [(2, .inl ((-3))), (0, .inr (.inr (some 725))), (1, .inl x1)] [.inl ((-3)), .inr (.inr (some 725))] dM_190_54 (fun _ => rfl) (Or.inr rfl) ?_
        refine gsCallV (y := 128) (k := 725) (as := [.inr (.inr (some 725)), .inl ((-3))]) (r := []) dM_190_55 rfl rfl rfl (Nat.le_of_ble_eq_true rfl) sk_725 rfl (Nat.le_of_ble_eq_true rfl) (EvS.up hn (Nat.le_of_ble_eq_true rfl)) (fun v41 t42 hv43 => ?_)
        obtain ⟨n44, rfl, hnn⟩ := hv43
        clear hn
        show GoS _ _ _ _ _ _ _ _ [(2, .inl ((-3))), (0, .inr (.inr (some 725))), (1, .inl x1)] [.inl n44] t42 _
        refine gsRet (r := some (.inl n44)) dM_190_58 (fun _ => rfl) (Or.inr rfl) ?_
        exact hnn
  · replace hn := hn.2 c5
    refine gs0 11 [(0, .inr (.inr (some 725))), (1, .inl x1)] [.inl ((-2))] dM_190_9 (fun _ => rfl) (Or.inr rfl) ?_
    refine gs0 48 [(0, .inr (.inr (some 725))), (1, .inl x1)] [.inl ((-2))] dM_190_11 (fun _ => rfl) (Or.inr rfl) ?_
    refine gs0 49 [(2, .inl ((-2))), (0, .inr (.inr (some 725))), (1, .inl x1)] [] dM_190_48 (fun _ => rfl) (Or.inr rfl) ?_
    refine gs0 50 [(2, .inl ((-2))), (0, .inr (.inr (some 725))), (1, .inl x1)] [.inl ((-2))] dM_190_49 (fun _ => rfl) (Or.inr rfl) ?_
    refine gsIf (t := 59) (C := ((-2)) = 0) (r := []) dM_190_50 (fun _ => rfl) (Or.inr rfl) (rTest_iff .eq ((-2)) 0) (fun c45 => absurd c45 (by decide)) (fun c45 => ?_)
    refine gs0 54 [(2, .inl ((-2))), (0, .inr (.inr (some 725))), (1, .inl x1)] [.inr (.inr (some 725))] dM_190_53 (fun _ => rfl) (Or.inr rfl) ?_
    refine gs0 55 [(2, .inl ((-2))), (0, .inr (.inr (some 725))), (1, .inl x1)] [.inl ((-2)), .inr (.inr (some 725))] dM_190_54 (fun _ => rfl) (Or.inr rfl) ?_
    refine gsCallV (y := 128) (k := 725) (as := [.inr (.inr (some 725)), .inl ((-2))]) (r := []) dM_190_55 rfl rfl rfl (Nat.le_of_ble_eq_true rfl) sk_725 rfl (Nat.le_of_ble_eq_true rfl) (EvS.up hn (Nat.le_of_ble_eq_true rfl)) (fun v46 t47 hv48 => ?_)
    obtain ⟨n49, rfl, hnn⟩ := hv48
    clear hn
    show GoS _ _ _ _ _ _ _ _ [(2, .inl ((-2))), (0, .inr (.inr (some 725))), (1, .inl x1)] [.inl n49] t47 _
    refine gsRet (r := some (.inl n49)) dM_190_58 (fun _ => rfl) (Or.inr rfl) ?_
    exact hnn
set_option maxRecDepth 100000 in
/-- GoalsInAQueueModel.share -/
theorem w_191 (sg : rSg) (x1 : Int32) {P : Option rv → rSg → Prop} (h :
    EvS rSkel 1 119 [.inl x1, .inl 0, .inl 1] sg (fun v1 t2 => ∃ n4, v1 = some (.inl n4) ∧
      (¬ n4 = 0 → 
        (¬ (t2 749 0) = 0 → 
          EvS rSkel 1 193 [.inr (.inl ((t2 748 0).toInt64)), .inr (.inl ((t2 749 0).toInt64))] t2 (fun v7 t8 => ∃ n10, v7 = some (.inr (.inl n10)) ∧
            (¬ x1 = 0 → 
              (¬ n10 = 0 ∧
              P (some (.inr (.inl (((t8 749 0).toInt64) / n10)))) t8)) ∧
            (¬ (¬ x1 = 0) → 
              (¬ n10 = 0 ∧
              P (some (.inr (.inl (((t8 748 0).toInt64) / n10)))) t8)))) ∧
        (¬ (¬ (t2 749 0) = 0) → 
          P (some (.inr (.inl x1.toInt64))) t2)) ∧
      (¬ (¬ n4 = 0) → 
        EvS rSkel 1 192 [.inr (.inr (some 725)), .inl ((-2))] t2 (fun v12 t13 => ∃ n15, v12 = some (.inr (.inl n15)) ∧
          P (some (.inr (.inl n15))) t13)))) : EvS rSkel 2 191 [.inr (.inr (some 725)), .inl x1] sg P := by
  refine EvS.of (ini := false) rfl ⟨rfl, Nat.le_of_ble_eq_true rfl⟩ rfl ?_
  show GoS rSkel 1 9 4 (some .long) false prog_11_method_82_code 0 [(0, .inr (.inr (some 725))), (1, .inl x1)] [] sg _
  refine gs0 1 [(0, .inr (.inr (some 725))), (1, .inl x1)] [.inl x1] dM_191_0 (fun _ => rfl) (Or.inr rfl) ?_
  refine gs0 2 [(0, .inr (.inr (some 725))), (1, .inl x1)] [.inl 0, .inl x1] dM_191_1 (fun _ => rfl) (Or.inr rfl) ?_
  refine gs0 3 [(0, .inr (.inr (some 725))), (1, .inl x1)] [.inl 1, .inl 0, .inl x1] dM_191_2 (fun _ => rfl) (Or.inr rfl) ?_
  refine gsCallS (y := 119) (as := [.inl x1, .inl 0, .inl 1]) (r := []) dM_191_3 rfl (Or.inl rfl) rfl rfl (Nat.le_of_ble_eq_true rfl) (EvS.up h (Nat.le_of_ble_eq_true rfl)) (fun v1 t2 hv3 => ?_)
  obtain ⟨n4, rfl, hn⟩ := hv3
  clear h
  show GoS _ _ _ _ _ _ _ _ [(0, .inr (.inr (some 725))), (1, .inl x1)] [.inl n4] t2 _
  refine gsIf (t := 16) (C := ¬ n4 = 0) (r := []) dM_191_6 (fun _ => rfl) (Or.inr rfl) (rTest_iff .ne n4 0) (fun c5 => ?_) (fun c5 => ?_)
  · replace hn := hn.1 c5
    refine gs0 17 [(0, .inr (.inr (some 725))), (1, .inl x1)] [.inr (.inr (some 725))] dM_191_16 (fun _ => rfl) (Or.inr rfl) ?_
    refine gsGetR (some 749) dM_191_17 sk_725 rfl rfl ?_
    refine gs0 21 [(0, .inr (.inr (some 725))), (1, .inl x1)] [.inl 0, .inr (.inr (some 749))] dM_191_20 (fun _ => rfl) (Or.inr rfl) ?_
    refine gsIaldN 0 (t2 749 0) dM_191_21 sk_749 rfl rfl rfl ?_
    refine gsIf (t := 28) (C := ¬ (t2 749 0) = 0) (r := []) dM_191_22 (fun _ => rfl) (Or.inr rfl) (rTest_iff .ne (t2 749 0) 0) (fun c6 => ?_) (fun c6 => ?_)
    · replace hn := hn.1 c6
      refine gs0 29 [(0, .inr (.inr (some 725))), (1, .inl x1)] [.inr (.inr (some 725))] dM_191_28 (fun _ => rfl) (Or.inr rfl) ?_
      refine gsGetR (some 748) dM_191_29 sk_725 rfl rfl ?_
      refine gs0 33 [(0, .inr (.inr (some 725))), (1, .inl x1)] [.inl 0, .inr (.inr (some 748))] dM_191_32 (fun _ => rfl) (Or.inr rfl) ?_
      refine gsIaldN 0 (t2 748 0) dM_191_33 sk_748 rfl rfl rfl ?_
      refine gs0 35 [(0, .inr (.inr (some 725))), (1, .inl x1)] [.inr (.inl ((t2 748 0).toInt64))] dM_191_34 (fun _ => rfl) (Or.inr rfl) ?_
      refine gs0 36 [(0, .inr (.inr (some 725))), (1, .inl x1)] [.inr (.inr (some 725)), .inr (.inl ((t2 748 0).toInt64))] dM_191_35 (fun _ => rfl) (Or.inr rfl) ?_
      refine gsGetR (some 749) dM_191_36 sk_725 rfl rfl ?_
      refine gs0 40 [(0, .inr (.inr (some 725))), (1, .inl x1)] [.inl 0, .inr (.inr (some 749)), .inr (.inl ((t2 748 0).toInt64))] dM_191_39 (fun _ => rfl) (Or.inr rfl) ?_
      refine gsIaldN 0 (t2 749 0) dM_191_40 sk_749 rfl rfl rfl ?_
      refine gs0 42 [(0, .inr (.inr (some 725))), (1, .inl x1)] [.inr (.inl ((t2 749 0).toInt64)), .inr (.inl ((t2 748 0).toInt64))] dM_191_41 (fun _ => rfl) (Or.inr rfl) ?_
      refine gsCallS (y := 193) (as := [.inr (.inl ((t2 748 0).toInt64)), .inr (.inl ((t2 749 0).toInt64))]) (r := []) dM_191_42 rfl (Or.inl rfl) rfl rfl (Nat.le_of_ble_eq_true rfl) (EvS.up hn (Nat.le_of_ble_eq_true rfl)) (fun v7 t8 hv9 => ?_)
      obtain ⟨n10, rfl, hnn⟩ := hv9
      clear hn
      show GoS _ _ _ _ _ _ _ _ [(0, .inr (.inr (some 725))), (1, .inl x1)] [.inr (.inl n10)] t8 _
      refine gs0 46 [(2, .inr (.inl n10)), (0, .inr (.inr (some 725))), (1, .inl x1)] [] dM_191_45 (fun _ => rfl) (Or.inr rfl) ?_
      refine gs0 47 [(2, .inr (.inl n10)), (0, .inr (.inr (some 725))), (1, .inl x1)] [.inl x1] dM_191_46 (fun _ => rfl) (Or.inr rfl) ?_
      refine gsIf (t := 59) (C := ¬ x1 = 0) (r := []) dM_191_47 (fun _ => rfl) (Or.inr rfl) (rTest_iff .ne x1 0) (fun c11 => ?_) (fun c11 => ?_)
      · replace hnn := hnn.1 c11
        refine gs0 60 [(2, .inr (.inl n10)), (0, .inr (.inr (some 725))), (1, .inl x1)] [.inr (.inr (some 725))] dM_191_59 (fun _ => rfl) (Or.inr rfl) ?_
        refine gsGetR (some 749) dM_191_60 sk_725 rfl rfl ?_
        refine gs0 64 [(2, .inr (.inl n10)), (0, .inr (.inr (some 725))), (1, .inl x1)] [.inl 0, .inr (.inr (some 749))] dM_191_63 (fun _ => rfl) (Or.inr rfl) ?_
        refine gsIaldN 0 (t8 749 0) dM_191_64 sk_749 rfl rfl rfl ?_
        refine gs0 66 [(2, .inr (.inl n10)), (0, .inr (.inr (some 725))), (1, .inl x1)] [.inr (.inl ((t8 749 0).toInt64))] dM_191_65 (fun _ => rfl) (Or.inr rfl) ?_
        refine gs0 67 [(2, .inr (.inl n10)), (0, .inr (.inr (some 725))), (1, .inl x1)] [.inr (.inl n10), .inr (.inl ((t8 749 0).toInt64))] dM_191_66 (fun _ => rfl) (Or.inr rfl) ?_
        refine gs0 68 [(2, .inr (.inl n10)), (0, .inr (.inr (some 725))), (1, .inl x1)] [.inr (.inl (((t8 749 0).toInt64) / n10))] dM_191_67 (fun _ => rIns_ldiv hnn.1) (Or.inr rfl) ?_
        replace hnn := hnn.2
        refine gsRet (r := some (.inr (.inl (((t8 749 0).toInt64) / n10)))) dM_191_68 (fun _ => rfl) (Or.inr rfl) ?_
        exact hnn
      · replace hnn := hnn.2 c11
        refine gs0 51 [(2, .inr (.inl n10)), (0, .inr (.inr (some 725))), (1, .inl x1)] [.inr (.inr (some 725))] dM_191_50 (fun _ => rfl) (Or.inr rfl) ?_
        refine gsGetR (some 748) dM_191_51 sk_725 rfl rfl ?_
        refine gs0 55 [(2, .inr (.inl n10)), (0, .inr (.inr (some 725))), (1, .inl x1)] [.inl 0, .inr (.inr (some 748))] dM_191_54 (fun _ => rfl) (Or.inr rfl) ?_
        refine gsIaldN 0 (t8 748 0) dM_191_55 sk_748 rfl rfl rfl ?_
        refine gs0 65 [(2, .inr (.inl n10)), (0, .inr (.inr (some 725))), (1, .inl x1)] [.inl (t8 748 0)] dM_191_56 (fun _ => rfl) (Or.inr rfl) ?_
        refine gs0 66 [(2, .inr (.inl n10)), (0, .inr (.inr (some 725))), (1, .inl x1)] [.inr (.inl ((t8 748 0).toInt64))] dM_191_65 (fun _ => rfl) (Or.inr rfl) ?_
        refine gs0 67 [(2, .inr (.inl n10)), (0, .inr (.inr (some 725))), (1, .inl x1)] [.inr (.inl n10), .inr (.inl ((t8 748 0).toInt64))] dM_191_66 (fun _ => rfl) (Or.inr rfl) ?_
        refine gs0 68 [(2, .inr (.inl n10)), (0, .inr (.inr (some 725))), (1, .inl x1)] [.inr (.inl (((t8 748 0).toInt64) / n10))] dM_191_67 (fun _ => rIns_ldiv hnn.1) (Or.inr rfl) ?_
        replace hnn := hnn.2
        refine gsRet (r := some (.inr (.inl (((t8 748 0).toInt64) / n10)))) dM_191_68 (fun _ => rfl) (Or.inr rfl) ?_
        exact hnn
    · replace hn := hn.2 c6
      refine gs0 26 [(0, .inr (.inr (some 725))), (1, .inl x1)] [.inl x1] dM_191_25 (fun _ => rfl) (Or.inr rfl) ?_
      refine gs0 27 [(0, .inr (.inr (some 725))), (1, .inl x1)] [.inr (.inl x1.toInt64)] dM_191_26 (fun _ => rfl) (Or.inr rfl) ?_
      refine gsRet (r := some (.inr (.inl x1.toInt64))) dM_191_27 (fun _ => rfl) (Or.inr rfl) ?_
      exact hn
  · replace hn := hn.2 c5
    refine gs0 10 [(0, .inr (.inr (some 725))), (1, .inl x1)] [.inr (.inr (some 725))] dM_191_9 (fun _ => rfl) (Or.inr rfl) ?_
    refine gs0 12 [(0, .inr (.inr (some 725))), (1, .inl x1)] [.inl ((-2)), .inr (.inr (some 725))] dM_191_10 (fun _ => rfl) (Or.inr rfl) ?_
    refine gsCallV (y := 192) (k := 725) (as := [.inr (.inr (some 725)), .inl ((-2))]) (r := []) dM_191_12 rfl rfl rfl (Nat.le_of_ble_eq_true rfl) sk_725 rfl (Nat.le_of_ble_eq_true rfl) (EvS.up hn (Nat.le_of_ble_eq_true rfl)) (fun v12 t13 hv14 => ?_)
    obtain ⟨n15, rfl, hnn⟩ := hv14
    clear hn
    show GoS _ _ _ _ _ _ _ _ [(0, .inr (.inr (some 725))), (1, .inl x1)] [.inr (.inl n15)] t13 _
    refine gsRet (r := some (.inr (.inl n15))) dM_191_15 (fun _ => rfl) (Or.inr rfl) ?_
    exact hnn
set_option maxRecDepth 100000 in
/-- GoalsInAQueueModel.lowestOf -/
theorem w_192 (sg : rSg) (x1 : Int32) {P : Option rv → rSg → Prop} (h :
    (rIn (-x1) 7 = true ∧
    rIn (-x1) 7 = true ∧
    P (some (.inr (.inl (4000000000000000000 - x1.toInt64)))) (up2 sg 726 ((-x1).toNatClampNeg) ((sg 726 ((-x1).toNatClampNeg)) + 1)))) : EvS rSkel 1 192 [.inr (.inr (some 725)), .inl x1] sg P := by
  refine EvS.of (ini := false) rfl ⟨rfl, Nat.le_of_ble_eq_true rfl⟩ rfl ?_
  show GoS rSkel 0 9 2 (some .long) false prog_11_method_3_code 0 [(0, .inr (.inr (some 725))), (1, .inl x1)] [] sg _
  refine gs0 1 [(0, .inr (.inr (some 725))), (1, .inl x1)] [.inr (.inr (some 725))] dM_192_0 (fun _ => rfl) (Or.inr rfl) ?_
  refine gsGetR (some 726) dM_192_1 sk_725 rfl rfl ?_
  refine gs0 5 [(0, .inr (.inr (some 725))), (1, .inl x1)] [.inl x1, .inr (.inr (some 726))] dM_192_4 (fun _ => rfl) (Or.inr rfl) ?_
  refine gs0 6 [(0, .inr (.inr (some 725))), (1, .inl x1)] [.inl (-x1), .inr (.inr (some 726))] dM_192_5 (fun _ => rfl) (Or.inr rfl) ?_
  refine gs0 7 [(0, .inr (.inr (some 725))), (1, .inl x1)] [.inl (-x1), .inr (.inr (some 726)), .inl (-x1), .inr (.inr (some 726))] dM_192_6 (fun _ => rfl) (Or.inr rfl) ?_
  refine gsIaldN ((-x1).toNatClampNeg) (sg 726 ((-x1).toNatClampNeg)) dM_192_7 sk_726 h.1 rfl rfl ?_
  replace h := h.2
  refine gs0 9 [(0, .inr (.inr (some 725))), (1, .inl x1)] [.inl 1, .inl (sg 726 ((-x1).toNatClampNeg)), .inl (-x1), .inr (.inr (some 726))] dM_192_8 (fun _ => rfl) (Or.inr rfl) ?_
  refine gs0 10 [(0, .inr (.inr (some 725))), (1, .inl x1)] [.inl ((sg 726 ((-x1).toNatClampNeg)) + 1), .inl (-x1), .inr (.inr (some 726))] dM_192_9 (fun _ => rfl) (Or.inr rfl) ?_
  refine gsIastN ((-x1).toNatClampNeg) dM_192_10 sk_726 h.1 rfl ?_
  replace h := h.2
  refine gs0 14 [(0, .inr (.inr (some 725))), (1, .inl x1)] [.inr (.inl 4000000000000000000)] dM_192_11 (fun _ => rfl) (Or.inr rfl) ?_
  refine gs0 15 [(0, .inr (.inr (some 725))), (1, .inl x1)] [.inl x1, .inr (.inl 4000000000000000000)] dM_192_14 (fun _ => rfl) (Or.inr rfl) ?_
  refine gs0 16 [(0, .inr (.inr (some 725))), (1, .inl x1)] [.inr (.inl x1.toInt64), .inr (.inl 4000000000000000000)] dM_192_15 (fun _ => rfl) (Or.inr rfl) ?_
  refine gs0 17 [(0, .inr (.inr (some 725))), (1, .inl x1)] [.inr (.inl (4000000000000000000 - x1.toInt64))] dM_192_16 (fun _ => rfl) (Or.inr rfl) ?_
  refine gsRet (r := some (.inr (.inl (4000000000000000000 - x1.toInt64)))) dM_192_17 (fun _ => rfl) (Or.inr rfl) ?_
  exact h
def g_193_6  (y4 : Int64) (y6 : Int64) (sg : rSg) (P : Option rv → rSg → Prop) : Prop := GoS rSkel 0 9 10 (some .long) false prog_11_method_81_code 6 [(4, .inr (.inl y4)), (6, .inr (.inl y6))] [] sg P
set_option maxRecDepth 100000 in
theorem w_193_6 (sg : rSg)  (y4 : Int64) (y6 : Int64) {P : Option rv → rSg → Prop} (h :
    ((lg_cmp y6 0) = 0 → 
      P (some (.inr (.inl y4))) sg) ∧
    (¬ ((lg_cmp y6 0) = 0) → 
      (¬ y6 = 0 ∧
      g_193_6 y6 (y4 - y4 / y6 * y6) sg P))) : g_193_6 y4 y6 sg P := by
  show GoS rSkel 0 9 10 (some .long) false prog_11_method_81_code 6 [(4, .inr (.inl y4)), (6, .inr (.inl y6))] [] sg P
  refine gs0 8 [(4, .inr (.inl y4)), (6, .inr (.inl y6))] [.inr (.inl y6)] dM_193_6 (fun _ => rfl) (Or.inr rfl) ?_
  refine gs0 9 [(4, .inr (.inl y4)), (6, .inr (.inl y6))] [.inr (.inl 0), .inr (.inl y6)] dM_193_8 (fun _ => rfl) (Or.inr rfl) ?_
  refine gs0 10 [(4, .inr (.inl y4)), (6, .inr (.inl y6))] [.inl (lg_cmp y6 0)] dM_193_9 (fun _ => rfl) (Or.inr rfl) ?_
  refine gsIf (t := 31) (C := (lg_cmp y6 0) = 0) (r := []) dM_193_10 (fun _ => rfl) (Or.inr rfl) (rTest_iff .eq (lg_cmp y6 0) 0) (fun c1 => ?_) (fun c1 => ?_)
  · replace h := h.1 c1
    refine gs0 33 [(4, .inr (.inl y4)), (6, .inr (.inl y6))] [.inr (.inl y4)] dM_193_31 (fun _ => rfl) (Or.inr rfl) ?_
    refine gsRet (r := some (.inr (.inl y4))) dM_193_33 (fun _ => rfl) (Or.inr rfl) ?_
    exact h
  · replace h := h.2 c1
    refine gs0 15 [(4, .inr (.inl y4)), (6, .inr (.inl y6))] [.inr (.inl y4)] dM_193_13 (fun _ => rfl) (Or.inr rfl) ?_
    refine gs0 17 [(4, .inr (.inl y4)), (6, .inr (.inl y6))] [.inr (.inl y6), .inr (.inl y4)] dM_193_15 (fun _ => rfl) (Or.inr rfl) ?_
    refine gs0 18 [(4, .inr (.inl y4)), (6, .inr (.inl y6))] [.inr (.inl (y4 - y4 / y6 * y6))] dM_193_17 (fun _ => rIns_lrem h.1) (Or.inr rfl) ?_
    replace h := h.2
    refine gs0 20 [(8, .inr (.inl (y4 - y4 / y6 * y6))), (4, .inr (.inl y4)), (6, .inr (.inl y6))] [] dM_193_18 (fun _ => rfl) (Or.inr rfl) ?_
    refine gs0 22 [(8, .inr (.inl (y4 - y4 / y6 * y6))), (4, .inr (.inl y4)), (6, .inr (.inl y6))] [.inr (.inl y6)] dM_193_20 (fun _ => rfl) (Or.inr rfl) ?_
    refine gs0 24 [(4, .inr (.inl y6)), (8, .inr (.inl (y4 - y4 / y6 * y6))), (6, .inr (.inl y6))] [] dM_193_22 (fun _ => rfl) (Or.inr rfl) ?_
    refine gs0 26 [(4, .inr (.inl y6)), (8, .inr (.inl (y4 - y4 / y6 * y6))), (6, .inr (.inl y6))] [.inr (.inl (y4 - y4 / y6 * y6))] dM_193_24 (fun _ => rfl) (Or.inr rfl) ?_
    refine gs0 28 [(6, .inr (.inl (y4 - y4 / y6 * y6))), (4, .inr (.inl y6)), (8, .inr (.inl (y4 - y4 / y6 * y6)))] [] dM_193_26 (fun _ => rfl) (Or.inr rfl) ?_
    refine gs0 6 [(6, .inr (.inl (y4 - y4 / y6 * y6))), (4, .inr (.inl y6)), (8, .inr (.inl (y4 - y4 / y6 * y6)))] [] dM_193_28 (fun _ => rfl) (Or.inr rfl) ?_
    exact GoS.sub (Lnd_keys (ks := [4, 6]) rfl (by decide)) (Lsub_cons rfl (Lsub_cons rfl Lsub_nil)) h
set_option maxRecDepth 100000 in
/-- GoalsInAQueueModel.divisor -/
theorem w_193 (sg : rSg) (x0 : Int64) (x2 : Int64) {P : Option rv → rSg → Prop} (h :
    g_193_6 x0 x2 sg P) : EvS rSkel 1 193 [.inr (.inl x0), .inr (.inl x2)] sg P := by
  refine EvS.of (ini := false) rfl ⟨rfl, Nat.le_of_ble_eq_true rfl⟩ rfl ?_
  show GoS rSkel 0 9 10 (some .long) false prog_11_method_81_code 0 [(0, .inr (.inl x0)), (2, .inr (.inl x2))] [] sg _
  refine gs0 1 [(0, .inr (.inl x0)), (2, .inr (.inl x2))] [.inr (.inl x0)] dM_193_0 (fun _ => rfl) (Or.inr rfl) ?_
  refine gs0 3 [(4, .inr (.inl x0)), (0, .inr (.inl x0)), (2, .inr (.inl x2))] [] dM_193_1 (fun _ => rfl) (Or.inr rfl) ?_
  refine gs0 4 [(4, .inr (.inl x0)), (0, .inr (.inl x0)), (2, .inr (.inl x2))] [.inr (.inl x2)] dM_193_3 (fun _ => rfl) (Or.inr rfl) ?_
  refine gs0 6 [(6, .inr (.inl x2)), (4, .inr (.inl x0)), (0, .inr (.inl x0)), (2, .inr (.inl x2))] [] dM_193_4 (fun _ => rfl) (Or.inr rfl) ?_
  exact GoS.sub (Lnd_keys (ks := [4, 6]) rfl (by decide)) (Lsub_cons rfl (Lsub_cons rfl Lsub_nil)) h
def g_194_17  (y1 : Int32) (y2 : Int32) (y3 : Int32) (sg : rSg) (P : Option rv → rSg → Prop) : Prop := GoS rSkel 17 9 4 (some .int) false prog_11_method_85_code 17 [(0, .inr (.inr (some 725))), (1, .inl y1), (2, .inl y2), (3, .inl y3)] [] sg P
set_option maxRecDepth 100000 in
theorem w_194_17 (sg : rSg)  (y1 : Int32) (y2 : Int32) (y3 : Int32) {P : Option rv → rSg → Prop} (h :
    (10 ≤ y3 → 
      P (some (.inl y2)) sg) ∧
    (¬ (10 ≤ y3) → 
      EvS rSkel 17 195 [.inr (.inr (some 725)), .inl y1, .inl y3] sg (fun v11 t12 => ∃ n14, v11 = some (.inl n14) ∧
        (n14 = 0 → 
          g_194_17 y1 (y2 ||| 0) (y3 + 1) t12 P) ∧
        (¬ (n14 = 0) → 
          g_194_17 y1 (y2 ||| (1 <<< (y3 &&& 31))) (y3 + 1) t12 P)))) : g_194_17 y1 y2 y3 sg P := by
  show GoS rSkel 17 9 4 (some .int) false prog_11_method_85_code 17 [(0, .inr (.inr (some 725))), (1, .inl y1), (2, .inl y2), (3, .inl y3)] [] sg P
  refine gs0 18 [(0, .inr (.inr (some 725))), (1, .inl y1), (2, .inl y2), (3, .inl y3)] [.inl y3] dM_194_17 (fun _ => rfl) (Or.inr rfl) ?_
  refine gs0 20 [(0, .inr (.inr (some 725))), (1, .inl y1), (2, .inl y2), (3, .inl y3)] [.inl 10, .inl y3] dM_194_18 (fun _ => rfl) (Or.inr rfl) ?_
  refine gsIf (t := 48) (C := 10 ≤ y3) (r := []) dM_194_20 (fun _ => rfl) (Or.inr rfl) (rTest_iff .ge y3 10) (fun c10 => ?_) (fun c10 => ?_)
  · replace h := h.1 c10
    refine gs0 49 [(0, .inr (.inr (some 725))), (1, .inl y1), (2, .inl y2), (3, .inl y3)] [.inl y2] dM_194_48 (fun _ => rfl) (Or.inr rfl) ?_
    refine gsRet (r := some (.inl y2)) dM_194_49 (fun _ => rfl) (Or.inr rfl) ?_
    exact h
  · replace h := h.2 c10
    refine gs0 24 [(0, .inr (.inr (some 725))), (1, .inl y1), (2, .inl y2), (3, .inl y3)] [.inl y2] dM_194_23 (fun _ => rfl) (Or.inr rfl) ?_
    refine gs0 25 [(0, .inr (.inr (some 725))), (1, .inl y1), (2, .inl y2), (3, .inl y3)] [.inr (.inr (some 725)), .inl y2] dM_194_24 (fun _ => rfl) (Or.inr rfl) ?_
    refine gs0 26 [(0, .inr (.inr (some 725))), (1, .inl y1), (2, .inl y2), (3, .inl y3)] [.inl y1, .inr (.inr (some 725)), .inl y2] dM_194_25 (fun _ => rfl) (Or.inr rfl) ?_
    refine gs0 27 [(0, .inr (.inr (some 725))), (1, .inl y1), (2, .inl y2), (3, .inl y3)] [.inl y3, .inl y1, .inr (.inr (some 725)), .inl y2] dM_194_26 (fun _ => rfl) (Or.inr rfl) ?_
    refine gsCallV (y := 195) (k := 725) (as := [.inr (.inr (some 725)), .inl y1, .inl y3]) (r := [.inl y2]) dM_194_27 rfl rfl rfl (Nat.le_of_ble_eq_true rfl) sk_725 rfl (Nat.le_of_ble_eq_true rfl) (EvS.up h (Nat.le_of_ble_eq_true rfl)) (fun v11 t12 hv13 => ?_)
    obtain ⟨n14, rfl, hn⟩ := hv13
    clear h
    show GoS _ _ _ _ _ _ _ _ [(0, .inr (.inr (some 725))), (1, .inl y1), (2, .inl y2), (3, .inl y3)] [.inl n14, .inl y2] t12 _
    refine gsIf (t := 39) (C := n14 = 0) (r := [.inl y2]) dM_194_30 (fun _ => rfl) (Or.inr rfl) (rTest_iff .eq n14 0) (fun c15 => ?_) (fun c15 => ?_)
    · replace hn := hn.1 c15
      refine gs0 40 [(0, .inr (.inr (some 725))), (1, .inl y1), (2, .inl y2), (3, .inl y3)] [.inl 0, .inl y2] dM_194_39 (fun _ => rfl) (Or.inr rfl) ?_
      refine gs0 41 [(0, .inr (.inr (some 725))), (1, .inl y1), (2, .inl y2), (3, .inl y3)] [.inl (y2 ||| 0)] dM_194_40 (fun _ => rfl) (Or.inr rfl) ?_
      refine gs0 42 [(2, .inl (y2 ||| 0)), (0, .inr (.inr (some 725))), (1, .inl y1), (3, .inl y3)] [] dM_194_41 (fun _ => rfl) (Or.inr rfl) ?_
      refine gs0 45 [(3, .inl (y3 + 1)), (2, .inl (y2 ||| 0)), (0, .inr (.inr (some 725))), (1, .inl y1)] [] dM_194_42 (fun _ => rfl) (Or.inr rfl) ?_
      refine gs0 17 [(3, .inl (y3 + 1)), (2, .inl (y2 ||| 0)), (0, .inr (.inr (some 725))), (1, .inl y1)] [] dM_194_45 (fun _ => rfl) (Or.inr rfl) ?_
      exact GoS.sub (Lnd_keys (ks := [0, 1, 2, 3]) rfl (by decide)) (Lsub_cons rfl (Lsub_cons rfl (Lsub_cons rfl (Lsub_cons rfl Lsub_nil)))) hn
    · replace hn := hn.2 c15
      refine gs0 34 [(0, .inr (.inr (some 725))), (1, .inl y1), (2, .inl y2), (3, .inl y3)] [.inl 1, .inl y2] dM_194_33 (fun _ => rfl) (Or.inr rfl) ?_
      refine gs0 35 [(0, .inr (.inr (some 725))), (1, .inl y1), (2, .inl y2), (3, .inl y3)] [.inl y3, .inl 1, .inl y2] dM_194_34 (fun _ => rfl) (Or.inr rfl) ?_
      refine gs0 36 [(0, .inr (.inr (some 725))), (1, .inl y1), (2, .inl y2), (3, .inl y3)] [.inl (1 <<< (y3 &&& 31)), .inl y2] dM_194_35 (fun _ => rfl) (Or.inr rfl) ?_
      refine gs0 40 [(0, .inr (.inr (some 725))), (1, .inl y1), (2, .inl y2), (3, .inl y3)] [.inl (1 <<< (y3 &&& 31)), .inl y2] dM_194_36 (fun _ => rfl) (Or.inr rfl) ?_
      refine gs0 41 [(0, .inr (.inr (some 725))), (1, .inl y1), (2, .inl y2), (3, .inl y3)] [.inl (y2 ||| (1 <<< (y3 &&& 31)))] dM_194_40 (fun _ => rfl) (Or.inr rfl) ?_
      refine gs0 42 [(2, .inl (y2 ||| (1 <<< (y3 &&& 31)))), (0, .inr (.inr (some 725))), (1, .inl y1), (3, .inl y3)] [] dM_194_41 (fun _ => rfl) (Or.inr rfl) ?_
      refine gs0 45 [(3, .inl (y3 + 1)), (2, .inl (y2 ||| (1 <<< (y3 &&& 31)))), (0, .inr (.inr (some 725))), (1, .inl y1)] [] dM_194_42 (fun _ => rfl) (Or.inr rfl) ?_
      refine gs0 17 [(3, .inl (y3 + 1)), (2, .inl (y2 ||| (1 <<< (y3 &&& 31)))), (0, .inr (.inr (some 725))), (1, .inl y1)] [] dM_194_45 (fun _ => rfl) (Or.inr rfl) ?_
      exact GoS.sub (Lnd_keys (ks := [0, 1, 2, 3]) rfl (by decide)) (Lsub_cons rfl (Lsub_cons rfl (Lsub_cons rfl (Lsub_cons rfl Lsub_nil)))) hn
set_option maxRecDepth 100000 in
/-- GoalsInAQueueModel.which -/
theorem w_194 (sg : rSg) (x1 : Int32) {P : Option rv → rSg → Prop} (h :
    EvS rSkel 2 165 [.inl x1] sg (fun v1 t2 => ∃ n4, v1 = some (.inl n4) ∧
      (¬ n4 = 0 → 
        g_194_17 x1 0 0 t2 P) ∧
      (¬ (¬ n4 = 0) → 
        EvS rSkel 1 128 [.inr (.inr (some 725)), .inl ((-1))] t2 (fun v6 t7 => ∃ n9, v6 = some (.inl n9) ∧
          P (some (.inl n9)) t7)))) : EvS rSkel 18 194 [.inr (.inr (some 725)), .inl x1] sg P := by
  refine EvS.of (ini := false) rfl ⟨rfl, Nat.le_of_ble_eq_true rfl⟩ rfl ?_
  show GoS rSkel 17 9 4 (some .int) false prog_11_method_85_code 0 [(0, .inr (.inr (some 725))), (1, .inl x1)] [] sg _
  refine gs0 1 [(0, .inr (.inr (some 725))), (1, .inl x1)] [.inl x1] dM_194_0 (fun _ => rfl) (Or.inr rfl) ?_
  refine gsCallS (y := 165) (as := [.inl x1]) (r := []) dM_194_1 rfl (Or.inl rfl) rfl rfl (Nat.le_of_ble_eq_true rfl) (EvS.up h (Nat.le_of_ble_eq_true rfl)) (fun v1 t2 hv3 => ?_)
  obtain ⟨n4, rfl, hn⟩ := hv3
  clear h
  show GoS _ _ _ _ _ _ _ _ [(0, .inr (.inr (some 725))), (1, .inl x1)] [.inl n4] t2 _
  refine gsIf (t := 13) (C := ¬ n4 = 0) (r := []) dM_194_4 (fun _ => rfl) (Or.inr rfl) (rTest_iff .ne n4 0) (fun c5 => ?_) (fun c5 => ?_)
  · replace hn := hn.1 c5
    refine gs0 14 [(0, .inr (.inr (some 725))), (1, .inl x1)] [.inl 0] dM_194_13 (fun _ => rfl) (Or.inr rfl) ?_
    refine gs0 15 [(2, .inl 0), (0, .inr (.inr (some 725))), (1, .inl x1)] [] dM_194_14 (fun _ => rfl) (Or.inr rfl) ?_
    refine gs0 16 [(2, .inl 0), (0, .inr (.inr (some 725))), (1, .inl x1)] [.inl 0] dM_194_15 (fun _ => rfl) (Or.inr rfl) ?_
    refine gs0 17 [(3, .inl 0), (2, .inl 0), (0, .inr (.inr (some 725))), (1, .inl x1)] [] dM_194_16 (fun _ => rfl) (Or.inr rfl) ?_
    exact GoS.sub (Lnd_keys (ks := [0, 1, 2, 3]) rfl (by decide)) (Lsub_cons rfl (Lsub_cons rfl (Lsub_cons rfl (Lsub_cons rfl Lsub_nil)))) hn
  · replace hn := hn.2 c5
    refine gs0 8 [(0, .inr (.inr (some 725))), (1, .inl x1)] [.inr (.inr (some 725))] dM_194_7 (fun _ => rfl) (Or.inr rfl) ?_
    refine gs0 9 [(0, .inr (.inr (some 725))), (1, .inl x1)] [.inl ((-1)), .inr (.inr (some 725))] dM_194_8 (fun _ => rfl) (Or.inr rfl) ?_
    refine gsCallV (y := 128) (k := 725) (as := [.inr (.inr (some 725)), .inl ((-1))]) (r := []) dM_194_9 rfl rfl rfl (Nat.le_of_ble_eq_true rfl) sk_725 rfl (Nat.le_of_ble_eq_true rfl) (EvS.up hn (Nat.le_of_ble_eq_true rfl)) (fun v6 t7 hv8 => ?_)
    obtain ⟨n9, rfl, hnn⟩ := hv8
    clear hn
    show GoS _ _ _ _ _ _ _ _ [(0, .inr (.inr (some 725))), (1, .inl x1)] [.inl n9] t7 _
    refine gsRet (r := some (.inl n9)) dM_194_12 (fun _ => rfl) (Or.inr rfl) ?_
    exact hnn
set_option maxRecDepth 100000 in
/-- GoalsInAQueueModel.bringsSo -/
theorem w_195 (sg : rSg) (x1 : Int32) (x2 : Int32) {P : Option rv → rSg → Prop} (h :
    EvS rSkel 1 183 [.inr (.inr (some 725))] sg (fun v1 t2 => v1 = none ∧
      EvS rSkel 16 187 [.inr (.inr (some 725)), .inl x1, .inl x2] t2 (fun v4 t5 => v4 = none ∧
        ((t5 748 1) ≤ 0 → 
          EvS rSkel 1 184 [.inr (.inr (some 725))] t5 (fun v9 t10 => v9 = none ∧
            P (some (.inl 0)) t10)) ∧
        (¬ ((t5 748 1) ≤ 0) → 
          EvS rSkel 5 166 [.inr (.inr (some 725)), .inl 0, .inl 0] t5 (fun v13 t14 => v13 = none ∧
            EvS rSkel 1 196 [.inr (.inr (some 725))] t14 (fun v16 t17 => ∃ n19, v16 = some (.inl n19) ∧
              EvS rSkel 1 184 [.inr (.inr (some 725))] t17 (fun v20 t21 => v20 = none ∧
                (rBool n19 = true ∧
                P (some (.inl n19)) t21)))))))) : EvS rSkel 17 195 [.inr (.inr (some 725)), .inl x1, .inl x2] sg P := by
  refine EvS.of (ini := false) rfl ⟨rfl, Nat.le_of_ble_eq_true rfl⟩ rfl ?_
  show GoS rSkel 16 9 4 (some .boolean) false prog_11_method_84_code 0 [(0, .inr (.inr (some 725))), (1, .inl x1), (2, .inl x2)] [] sg _
  refine gs0 1 [(0, .inr (.inr (some 725))), (1, .inl x1), (2, .inl x2)] [.inr (.inr (some 725))] dM_195_0 (fun _ => rfl) (Or.inr rfl) ?_
  refine gsCallV (y := 183) (k := 725) (as := [.inr (.inr (some 725))]) (r := []) dM_195_1 rfl rfl rfl (Nat.le_of_ble_eq_true rfl) sk_725 rfl (Nat.le_of_ble_eq_true rfl) (EvS.up h (Nat.le_of_ble_eq_true rfl)) (fun v1 t2 hv3 => ?_)
  obtain ⟨rfl, hn⟩ := hv3
  clear h
  show GoS _ _ _ _ _ _ _ _ [(0, .inr (.inr (some 725))), (1, .inl x1), (2, .inl x2)] [] t2 _
  refine gs0 5 [(0, .inr (.inr (some 725))), (1, .inl x1), (2, .inl x2)] [.inr (.inr (some 725))] dM_195_4 (fun _ => rfl) (Or.inr rfl) ?_
  refine gs0 6 [(0, .inr (.inr (some 725))), (1, .inl x1), (2, .inl x2)] [.inl x1, .inr (.inr (some 725))] dM_195_5 (fun _ => rfl) (Or.inr rfl) ?_
  refine gs0 7 [(0, .inr (.inr (some 725))), (1, .inl x1), (2, .inl x2)] [.inl x2, .inl x1, .inr (.inr (some 725))] dM_195_6 (fun _ => rfl) (Or.inr rfl) ?_
  refine gsCallV (y := 187) (k := 725) (as := [.inr (.inr (some 725)), .inl x1, .inl x2]) (r := []) dM_195_7 rfl rfl rfl (Nat.le_of_ble_eq_true rfl) sk_725 rfl (Nat.le_of_ble_eq_true rfl) (EvS.up hn (Nat.le_of_ble_eq_true rfl)) (fun v4 t5 hv6 => ?_)
  obtain ⟨rfl, hnn⟩ := hv6
  clear hn
  show GoS _ _ _ _ _ _ _ _ [(0, .inr (.inr (some 725))), (1, .inl x1), (2, .inl x2)] [] t5 _
  refine gs0 11 [(0, .inr (.inr (some 725))), (1, .inl x1), (2, .inl x2)] [.inr (.inr (some 725))] dM_195_10 (fun _ => rfl) (Or.inr rfl) ?_
  refine gsGetR (some 748) dM_195_11 sk_725 rfl rfl ?_
  refine gs0 15 [(0, .inr (.inr (some 725))), (1, .inl x1), (2, .inl x2)] [.inl 1, .inr (.inr (some 748))] dM_195_14 (fun _ => rfl) (Or.inr rfl) ?_
  refine gsIaldN 1 (t5 748 1) dM_195_15 sk_748 rfl rfl rfl ?_
  refine gsIf (t := 23) (C := (t5 748 1) ≤ 0) (r := []) dM_195_16 (fun _ => rfl) (Or.inr rfl) (rTest_iff .le (t5 748 1) 0) (fun c7 => ?_) (fun c7 => ?_)
  · replace hnn := hnn.1 c7
    refine gs0 24 [(0, .inr (.inr (some 725))), (1, .inl x1), (2, .inl x2)] [.inl 0] dM_195_23 (fun _ => rfl) (Or.inr rfl) ?_
    refine gs0 25 [(3, .inl 0), (0, .inr (.inr (some 725))), (1, .inl x1), (2, .inl x2)] [] dM_195_24 (fun _ => rfl) (Or.inr rfl) ?_
    refine gs0 26 [(3, .inl 0), (0, .inr (.inr (some 725))), (1, .inl x1), (2, .inl x2)] [.inl 0] dM_195_25 (fun _ => rfl) (Or.inr rfl) ?_
    refine gsIf (t := 40) (C := 0 = 0) (r := []) dM_195_26 (fun _ => rfl) (Or.inr rfl) (rTest_iff .eq 0 0) (fun c8 => ?_) (fun c8 => absurd (by decide) c8)
    refine gs0 41 [(3, .inl 0), (0, .inr (.inr (some 725))), (1, .inl x1), (2, .inl x2)] [.inr (.inr (some 725))] dM_195_40 (fun _ => rfl) (Or.inr rfl) ?_
    refine gsCallV (y := 184) (k := 725) (as := [.inr (.inr (some 725))]) (r := []) dM_195_41 rfl rfl rfl (Nat.le_of_ble_eq_true rfl) sk_725 rfl (Nat.le_of_ble_eq_true rfl) (EvS.up hnn (Nat.le_of_ble_eq_true rfl)) (fun v9 t10 hv11 => ?_)
    obtain ⟨rfl, hnnn⟩ := hv11
    clear hnn
    show GoS _ _ _ _ _ _ _ _ [(3, .inl 0), (0, .inr (.inr (some 725))), (1, .inl x1), (2, .inl x2)] [] t10 _
    refine gs0 45 [(3, .inl 0), (0, .inr (.inr (some 725))), (1, .inl x1), (2, .inl x2)] [.inl 0] dM_195_44 (fun _ => rfl) (Or.inr rfl) ?_
    refine gsRet (r := some (.inl 0)) dM_195_45 (fun _ => rfl) (Or.inr rfl) ?_
    exact hnnn
  · replace hnn := hnn.2 c7
    refine gs0 20 [(0, .inr (.inr (some 725))), (1, .inl x1), (2, .inl x2)] [.inl 1] dM_195_19 (fun _ => rfl) (Or.inr rfl) ?_
    refine gs0 24 [(0, .inr (.inr (some 725))), (1, .inl x1), (2, .inl x2)] [.inl 1] dM_195_20 (fun _ => rfl) (Or.inr rfl) ?_
    refine gs0 25 [(3, .inl 1), (0, .inr (.inr (some 725))), (1, .inl x1), (2, .inl x2)] [] dM_195_24 (fun _ => rfl) (Or.inr rfl) ?_
    refine gs0 26 [(3, .inl 1), (0, .inr (.inr (some 725))), (1, .inl x1), (2, .inl x2)] [.inl 1] dM_195_25 (fun _ => rfl) (Or.inr rfl) ?_
    refine gsIf (t := 40) (C := 1 = 0) (r := []) dM_195_26 (fun _ => rfl) (Or.inr rfl) (rTest_iff .eq 1 0) (fun c12 => absurd c12 (by decide)) (fun c12 => ?_)
    refine gs0 30 [(3, .inl 1), (0, .inr (.inr (some 725))), (1, .inl x1), (2, .inl x2)] [.inr (.inr (some 725))] dM_195_29 (fun _ => rfl) (Or.inr rfl) ?_
    refine gs0 31 [(3, .inl 1), (0, .inr (.inr (some 725))), (1, .inl x1), (2, .inl x2)] [.inl 0, .inr (.inr (some 725))] dM_195_30 (fun _ => rfl) (Or.inr rfl) ?_
    refine gs0 32 [(3, .inl 1), (0, .inr (.inr (some 725))), (1, .inl x1), (2, .inl x2)] [.inl 0, .inl 0, .inr (.inr (some 725))] dM_195_31 (fun _ => rfl) (Or.inr rfl) ?_
    refine gsCallV (y := 166) (k := 725) (as := [.inr (.inr (some 725)), .inl 0, .inl 0]) (r := []) dM_195_32 rfl rfl rfl (Nat.le_of_ble_eq_true rfl) sk_725 rfl (Nat.le_of_ble_eq_true rfl) (EvS.up hnn (Nat.le_of_ble_eq_true rfl)) (fun v13 t14 hv15 => ?_)
    obtain ⟨rfl, hnnn⟩ := hv15
    clear hnn
    show GoS _ _ _ _ _ _ _ _ [(3, .inl 1), (0, .inr (.inr (some 725))), (1, .inl x1), (2, .inl x2)] [] t14 _
    refine gs0 36 [(3, .inl 1), (0, .inr (.inr (some 725))), (1, .inl x1), (2, .inl x2)] [.inr (.inr (some 725))] dM_195_35 (fun _ => rfl) (Or.inr rfl) ?_
    refine gsCallV (y := 196) (k := 725) (as := [.inr (.inr (some 725))]) (r := []) dM_195_36 rfl rfl rfl (Nat.le_of_ble_eq_true rfl) sk_725 rfl (Nat.le_of_ble_eq_true rfl) (EvS.up hnnn (Nat.le_of_ble_eq_true rfl)) (fun v16 t17 hv18 => ?_)
    obtain ⟨n19, rfl, hnnnn⟩ := hv18
    clear hnnn
    show GoS _ _ _ _ _ _ _ _ [(3, .inl 1), (0, .inr (.inr (some 725))), (1, .inl x1), (2, .inl x2)] [.inl n19] t17 _
    refine gs0 40 [(3, .inl n19), (0, .inr (.inr (some 725))), (1, .inl x1), (2, .inl x2)] [] dM_195_39 (fun _ => rfl) (Or.inr rfl) ?_
    refine gs0 41 [(3, .inl n19), (0, .inr (.inr (some 725))), (1, .inl x1), (2, .inl x2)] [.inr (.inr (some 725))] dM_195_40 (fun _ => rfl) (Or.inr rfl) ?_
    refine gsCallV (y := 184) (k := 725) (as := [.inr (.inr (some 725))]) (r := []) dM_195_41 rfl rfl rfl (Nat.le_of_ble_eq_true rfl) sk_725 rfl (Nat.le_of_ble_eq_true rfl) (EvS.up hnnnn (Nat.le_of_ble_eq_true rfl)) (fun v20 t21 hv22 => ?_)
    obtain ⟨rfl, hnnnnn⟩ := hv22
    clear hnnnn
    show GoS _ _ _ _ _ _ _ _ [(3, .inl n19), (0, .inr (.inr (some 725))), (1, .inl x1), (2, .inl x2)] [] t21 _
    refine gs0 45 [(3, .inl n19), (0, .inr (.inr (some 725))), (1, .inl x1), (2, .inl x2)] [.inl n19] dM_195_44 (fun _ => rfl) (Or.inr rfl) ?_
    refine gsRet (r := some (.inl n19)) dM_195_45 (fun _ => rRetB hnnnnn.1) (Or.inr rfl) ?_
    replace hnnnnn := hnnnnn.2
    exact hnnnnn
def g_196_19  (y1 : Int32) (y2 : Int32) (sg : rSg) (P : Option rv → rSg → Prop) : Prop := GoS rSkel 0 9 3 (some .boolean) false prog_11_method_83_code 19 [(0, .inr (.inr (some 725))), (1, .inl y1), (2, .inl y2)] [] sg P
set_option maxRecDepth 100000 in
theorem w_196_19 (sg : rSg)  (y1 : Int32) (y2 : Int32) {P : Option rv → rSg → Prop} (h :
    ((sg 725 58) ≤ y2 → 
      (rBool y1 = true ∧
      P (some (.inl y1)) sg)) ∧
    (¬ ((sg 725 58) ≤ y2) → 
      (y1 = 0 → 
        (rBool y1 = true ∧
        P (some (.inl y1)) sg)) ∧
      (¬ (y1 = 0) → 
        (rIn y2 200 = true ∧
        rIn y2 32 = true ∧
        (¬ (sg 756 y2.toNatClampNeg) = (sg 759 y2.toNatClampNeg) → 
          g_196_19 0 (y2 + 1) sg P) ∧
        (¬ (¬ (sg 756 y2.toNatClampNeg) = (sg 759 y2.toNatClampNeg)) → 
          g_196_19 1 (y2 + 1) sg P))))) : g_196_19 y1 y2 sg P := by
  show GoS rSkel 0 9 3 (some .boolean) false prog_11_method_83_code 19 [(0, .inr (.inr (some 725))), (1, .inl y1), (2, .inl y2)] [] sg P
  refine gs0 20 [(0, .inr (.inr (some 725))), (1, .inl y1), (2, .inl y2)] [.inl y2] dM_196_19 (fun _ => rfl) (Or.inr rfl) ?_
  refine gs0 21 [(0, .inr (.inr (some 725))), (1, .inl y1), (2, .inl y2)] [.inr (.inr (some 725)), .inl y2] dM_196_20 (fun _ => rfl) (Or.inr rfl) ?_
  refine gsGetE (sg 725 58) dM_196_21 sk_725 rfl rfl rfl ?_
  refine gsIf (t := 58) (C := (sg 725 58) ≤ y2) (r := []) dM_196_24 (fun _ => rfl) (Or.inr rfl) (rTest_iff .ge y2 (sg 725 58)) (fun c2 => ?_) (fun c2 => ?_)
  · replace h := h.1 c2
    refine gs0 59 [(0, .inr (.inr (some 725))), (1, .inl y1), (2, .inl y2)] [.inl y1] dM_196_58 (fun _ => rfl) (Or.inr rfl) ?_
    refine gsRet (r := some (.inl y1)) dM_196_59 (fun _ => rRetB h.1) (Or.inr rfl) ?_
    replace h := h.2
    exact h
  · replace h := h.2 c2
    refine gs0 28 [(0, .inr (.inr (some 725))), (1, .inl y1), (2, .inl y2)] [.inl y1] dM_196_27 (fun _ => rfl) (Or.inr rfl) ?_
    refine gsIf (t := 58) (C := y1 = 0) (r := []) dM_196_28 (fun _ => rfl) (Or.inr rfl) (rTest_iff .eq y1 0) (fun c3 => ?_) (fun c3 => ?_)
    · replace h := h.1 c3
      refine gs0 59 [(0, .inr (.inr (some 725))), (1, .inl y1), (2, .inl y2)] [.inl y1] dM_196_58 (fun _ => rfl) (Or.inr rfl) ?_
      refine gsRet (r := some (.inl y1)) dM_196_59 (fun _ => rRetB h.1) (Or.inr rfl) ?_
      replace h := h.2
      exact h
    · replace h := h.2 c3
      refine gs0 32 [(0, .inr (.inr (some 725))), (1, .inl y1), (2, .inl y2)] [.inr (.inr (some 725))] dM_196_31 (fun _ => rfl) (Or.inr rfl) ?_
      refine gsGetR (some 756) dM_196_32 sk_725 rfl rfl ?_
      refine gs0 36 [(0, .inr (.inr (some 725))), (1, .inl y1), (2, .inl y2)] [.inl y2, .inr (.inr (some 756))] dM_196_35 (fun _ => rfl) (Or.inr rfl) ?_
      refine gsIaldN y2.toNatClampNeg (sg 756 y2.toNatClampNeg) dM_196_36 sk_756 h.1 rfl rfl ?_
      replace h := h.2
      refine gs0 38 [(0, .inr (.inr (some 725))), (1, .inl y1), (2, .inl y2)] [.inr (.inr (some 725)), .inl (sg 756 y2.toNatClampNeg)] dM_196_37 (fun _ => rfl) (Or.inr rfl) ?_
      refine gsGetR (some 759) dM_196_38 sk_725 rfl rfl ?_
      refine gs0 42 [(0, .inr (.inr (some 725))), (1, .inl y1), (2, .inl y2)] [.inl y2, .inr (.inr (some 759)), .inl (sg 756 y2.toNatClampNeg)] dM_196_41 (fun _ => rfl) (Or.inr rfl) ?_
      refine gsIaldN y2.toNatClampNeg (sg 759 y2.toNatClampNeg) dM_196_42 sk_759 h.1 rfl rfl ?_
      replace h := h.2
      refine gsIf (t := 50) (C := ¬ (sg 756 y2.toNatClampNeg) = (sg 759 y2.toNatClampNeg)) (r := []) dM_196_43 (fun _ => rfl) (Or.inr rfl) (rTest_iff .ne (sg 756 y2.toNatClampNeg) (sg 759 y2.toNatClampNeg)) (fun c4 => ?_) (fun c4 => ?_)
      · replace h := h.1 c4
        refine gs0 51 [(0, .inr (.inr (some 725))), (1, .inl y1), (2, .inl y2)] [.inl 0] dM_196_50 (fun _ => rfl) (Or.inr rfl) ?_
        refine gs0 52 [(1, .inl 0), (0, .inr (.inr (some 725))), (2, .inl y2)] [] dM_196_51 (fun _ => rfl) (Or.inr rfl) ?_
        refine gs0 55 [(2, .inl (y2 + 1)), (1, .inl 0), (0, .inr (.inr (some 725)))] [] dM_196_52 (fun _ => rfl) (Or.inr rfl) ?_
        refine gs0 19 [(2, .inl (y2 + 1)), (1, .inl 0), (0, .inr (.inr (some 725)))] [] dM_196_55 (fun _ => rfl) (Or.inr rfl) ?_
        exact GoS.sub (Lnd_keys (ks := [0, 1, 2]) rfl (by decide)) (Lsub_cons rfl (Lsub_cons rfl (Lsub_cons rfl Lsub_nil))) h
      · replace h := h.2 c4
        refine gs0 47 [(0, .inr (.inr (some 725))), (1, .inl y1), (2, .inl y2)] [.inl 1] dM_196_46 (fun _ => rfl) (Or.inr rfl) ?_
        refine gs0 51 [(0, .inr (.inr (some 725))), (1, .inl y1), (2, .inl y2)] [.inl 1] dM_196_47 (fun _ => rfl) (Or.inr rfl) ?_
        refine gs0 52 [(1, .inl 1), (0, .inr (.inr (some 725))), (2, .inl y2)] [] dM_196_51 (fun _ => rfl) (Or.inr rfl) ?_
        refine gs0 55 [(2, .inl (y2 + 1)), (1, .inl 1), (0, .inr (.inr (some 725)))] [] dM_196_52 (fun _ => rfl) (Or.inr rfl) ?_
        refine gs0 19 [(2, .inl (y2 + 1)), (1, .inl 1), (0, .inr (.inr (some 725)))] [] dM_196_55 (fun _ => rfl) (Or.inr rfl) ?_
        exact GoS.sub (Lnd_keys (ks := [0, 1, 2]) rfl (by decide)) (Lsub_cons rfl (Lsub_cons rfl (Lsub_cons rfl Lsub_nil))) h
set_option maxRecDepth 100000 in
/-- GoalsInAQueueModel.beginsSo -/
theorem w_196 (sg : rSg)  {P : Option rv → rSg → Prop} (h :
    ((sg 725 51) < (sg 725 58) → 
      g_196_19 0 0 sg P) ∧
    (¬ ((sg 725 51) < (sg 725 58)) → 
      g_196_19 1 0 sg P)) : EvS rSkel 1 196 [.inr (.inr (some 725))] sg P := by
  refine EvS.of (ini := false) rfl ⟨rfl, Nat.le_of_ble_eq_true rfl⟩ rfl ?_
  show GoS rSkel 0 9 3 (some .boolean) false prog_11_method_83_code 0 [(0, .inr (.inr (some 725)))] [] sg _
  refine gs0 1 [(0, .inr (.inr (some 725)))] [.inr (.inr (some 725))] dM_196_0 (fun _ => rfl) (Or.inr rfl) ?_
  refine gsGetE (sg 725 51) dM_196_1 sk_725 rfl rfl rfl ?_
  refine gs0 5 [(0, .inr (.inr (some 725)))] [.inr (.inr (some 725)), .inl (sg 725 51)] dM_196_4 (fun _ => rfl) (Or.inr rfl) ?_
  refine gsGetE (sg 725 58) dM_196_5 sk_725 rfl rfl rfl ?_
  refine gsIf (t := 15) (C := (sg 725 51) < (sg 725 58)) (r := []) dM_196_8 (fun _ => rfl) (Or.inr rfl) (rTest_iff .lt (sg 725 51) (sg 725 58)) (fun c1 => ?_) (fun c1 => ?_)
  · replace h := h.1 c1
    refine gs0 16 [(0, .inr (.inr (some 725)))] [.inl 0] dM_196_15 (fun _ => rfl) (Or.inr rfl) ?_
    refine gs0 17 [(1, .inl 0), (0, .inr (.inr (some 725)))] [] dM_196_16 (fun _ => rfl) (Or.inr rfl) ?_
    refine gs0 18 [(1, .inl 0), (0, .inr (.inr (some 725)))] [.inl 0] dM_196_17 (fun _ => rfl) (Or.inr rfl) ?_
    refine gs0 19 [(2, .inl 0), (1, .inl 0), (0, .inr (.inr (some 725)))] [] dM_196_18 (fun _ => rfl) (Or.inr rfl) ?_
    exact GoS.sub (Lnd_keys (ks := [0, 1, 2]) rfl (by decide)) (Lsub_cons rfl (Lsub_cons rfl (Lsub_cons rfl Lsub_nil))) h
  · replace h := h.2 c1
    refine gs0 12 [(0, .inr (.inr (some 725)))] [.inl 1] dM_196_11 (fun _ => rfl) (Or.inr rfl) ?_
    refine gs0 16 [(0, .inr (.inr (some 725)))] [.inl 1] dM_196_12 (fun _ => rfl) (Or.inr rfl) ?_
    refine gs0 17 [(1, .inl 1), (0, .inr (.inr (some 725)))] [] dM_196_16 (fun _ => rfl) (Or.inr rfl) ?_
    refine gs0 18 [(1, .inl 1), (0, .inr (.inr (some 725)))] [.inl 0] dM_196_17 (fun _ => rfl) (Or.inr rfl) ?_
    refine gs0 19 [(2, .inl 0), (1, .inl 1), (0, .inr (.inr (some 725)))] [] dM_196_18 (fun _ => rfl) (Or.inr rfl) ?_
    exact GoS.sub (Lnd_keys (ks := [0, 1, 2]) rfl (by decide)) (Lsub_cons rfl (Lsub_cons rfl (Lsub_cons rfl Lsub_nil))) h
set_option maxRecDepth 100000 in
/-- GoalsInAQueueModel.row -/
theorem w_197 (sg : rSg) (x1 : Int32) {P : Option rv → rSg → Prop} (h :
    EvS rSkel 1 127 [.inl x1, .inl 0, .inl 127] sg (fun v1 t2 => ∃ n4, v1 = some (.inl n4) ∧
      (¬ n4 = 0 → 
        (n4 = 0 → 
          (rIn (t2 725 58) 32 = true ∧
          P (some (.inl ((t2 725 58) + 1))) (up2 (up2 t2 759 ((t2 725 58).toNatClampNeg) x1) 725 58 ((t2 725 58) + 1)))) ∧
        (¬ (n4 = 0) → 
          EvS rSkel 1 128 [.inr (.inr (some 725)), .inl n4] t2 (fun v7 t8 => ∃ n10, v7 = some (.inl n10) ∧
            P (some (.inl n10)) t8))) ∧
      (¬ (¬ n4 = 0) → 
        (¬ (t2 725 58) = 32 → 
          (n4 = 0 → 
            (rIn (t2 725 58) 32 = true ∧
            P (some (.inl ((t2 725 58) + 1))) (up2 (up2 t2 759 ((t2 725 58).toNatClampNeg) x1) 725 58 ((t2 725 58) + 1)))) ∧
          (¬ (n4 = 0) → 
            EvS rSkel 1 128 [.inr (.inr (some 725)), .inl n4] t2 (fun v13 t14 => ∃ n16, v13 = some (.inl n16) ∧
              P (some (.inl n16)) t14))) ∧
        (¬ (¬ (t2 725 58) = 32) → 
          EvS rSkel 1 128 [.inr (.inr (some 725)), .inl ((-6))] t2 (fun v18 t19 => ∃ n21, v18 = some (.inl n21) ∧
            P (some (.inl n21)) t19))))) : EvS rSkel 2 197 [.inr (.inr (some 725)), .inl x1] sg P := by
  refine EvS.of (ini := false) rfl ⟨rfl, Nat.le_of_ble_eq_true rfl⟩ rfl ?_
  show GoS rSkel 1 9 3 (some .int) false prog_11_method_86_code 0 [(0, .inr (.inr (some 725))), (1, .inl x1)] [] sg _
  refine gs0 1 [(0, .inr (.inr (some 725))), (1, .inl x1)] [.inl x1] dM_197_0 (fun _ => rfl) (Or.inr rfl) ?_
  refine gs0 2 [(0, .inr (.inr (some 725))), (1, .inl x1)] [.inl 0, .inl x1] dM_197_1 (fun _ => rfl) (Or.inr rfl) ?_
  refine gs0 4 [(0, .inr (.inr (some 725))), (1, .inl x1)] [.inl 127, .inl 0, .inl x1] dM_197_2 (fun _ => rfl) (Or.inr rfl) ?_
  refine gsCallS (y := 127) (as := [.inl x1, .inl 0, .inl 127]) (r := []) dM_197_4 rfl (Or.inl rfl) rfl rfl (Nat.le_of_ble_eq_true rfl) (EvS.up h (Nat.le_of_ble_eq_true rfl)) (fun v1 t2 hv3 => ?_)
  obtain ⟨n4, rfl, hn⟩ := hv3
  clear h
  show GoS _ _ _ _ _ _ _ _ [(0, .inr (.inr (some 725))), (1, .inl x1)] [.inl n4] t2 _
  refine gs0 8 [(2, .inl n4), (0, .inr (.inr (some 725))), (1, .inl x1)] [] dM_197_7 (fun _ => rfl) (Or.inr rfl) ?_
  refine gs0 9 [(2, .inl n4), (0, .inr (.inr (some 725))), (1, .inl x1)] [.inl n4] dM_197_8 (fun _ => rfl) (Or.inr rfl) ?_
  refine gsIf (t := 24) (C := ¬ n4 = 0) (r := []) dM_197_9 (fun _ => rfl) (Or.inr rfl) (rTest_iff .ne n4 0) (fun c5 => ?_) (fun c5 => ?_)
  · replace hn := hn.1 c5
    refine gs0 25 [(2, .inl n4), (0, .inr (.inr (some 725))), (1, .inl x1)] [.inl n4] dM_197_24 (fun _ => rfl) (Or.inr rfl) ?_
    refine gsIf (t := 34) (C := n4 = 0) (r := []) dM_197_25 (fun _ => rfl) (Or.inr rfl) (rTest_iff .eq n4 0) (fun c6 => ?_) (fun c6 => ?_)
    · replace hn := hn.1 c6
      refine gs0 35 [(2, .inl n4), (0, .inr (.inr (some 725))), (1, .inl x1)] [.inr (.inr (some 725))] dM_197_34 (fun _ => rfl) (Or.inr rfl) ?_
      refine gsGetR (some 759) dM_197_35 sk_725 rfl rfl ?_
      refine gs0 39 [(2, .inl n4), (0, .inr (.inr (some 725))), (1, .inl x1)] [.inr (.inr (some 725)), .inr (.inr (some 759))] dM_197_38 (fun _ => rfl) (Or.inr rfl) ?_
      refine gsGetE (t2 725 58) dM_197_39 sk_725 rfl rfl rfl ?_
      refine gs0 43 [(2, .inl n4), (0, .inr (.inr (some 725))), (1, .inl x1)] [.inl x1, .inl (t2 725 58), .inr (.inr (some 759))] dM_197_42 (fun _ => rfl) (Or.inr rfl) ?_
      refine gsIastN ((t2 725 58).toNatClampNeg) dM_197_43 sk_759 hn.1 rfl ?_
      replace hn := hn.2
      refine gs0 45 [(2, .inl n4), (0, .inr (.inr (some 725))), (1, .inl x1)] [.inr (.inr (some 725))] dM_197_44 (fun _ => rfl) (Or.inr rfl) ?_
      refine gs0 46 [(2, .inl n4), (0, .inr (.inr (some 725))), (1, .inl x1)] [.inr (.inr (some 725)), .inr (.inr (some 725))] dM_197_45 (fun _ => rfl) (Or.inr rfl) ?_
      refine gsGetE (t2 725 58) dM_197_46 sk_725 rfl rfl (congrFun (up2_nk _ _ _ (by decide)) _) ?_
      refine gs0 50 [(2, .inl n4), (0, .inr (.inr (some 725))), (1, .inl x1)] [.inl 1, .inl (t2 725 58), .inr (.inr (some 725))] dM_197_49 (fun _ => rfl) (Or.inr rfl) ?_
      refine gs0 51 [(2, .inl n4), (0, .inr (.inr (some 725))), (1, .inl x1)] [.inl ((t2 725 58) + 1), .inr (.inr (some 725))] dM_197_50 (fun _ => rfl) (Or.inr rfl) ?_
      refine gsPut dM_197_51 sk_725 rfl rfl rfl (by decide) ?_
      refine gs0 55 [(2, .inl n4), (0, .inr (.inr (some 725))), (1, .inl x1)] [.inr (.inr (some 725))] dM_197_54 (fun _ => rfl) (Or.inr rfl) ?_
      refine gsGetE ((t2 725 58) + 1) dM_197_55 sk_725 rfl rfl (up2_same _ _ _ _) ?_
      refine gsRet (r := some (.inl ((t2 725 58) + 1))) dM_197_58 (fun _ => rfl) (Or.inr rfl) ?_
      exact hn
    · replace hn := hn.2 c6
      refine gs0 29 [(2, .inl n4), (0, .inr (.inr (some 725))), (1, .inl x1)] [.inr (.inr (some 725))] dM_197_28 (fun _ => rfl) (Or.inr rfl) ?_
      refine gs0 30 [(2, .inl n4), (0, .inr (.inr (some 725))), (1, .inl x1)] [.inl n4, .inr (.inr (some 725))] dM_197_29 (fun _ => rfl) (Or.inr rfl) ?_
      refine gsCallV (y := 128) (k := 725) (as := [.inr (.inr (some 725)), .inl n4]) (r := []) dM_197_30 rfl rfl rfl (Nat.le_of_ble_eq_true rfl) sk_725 rfl (Nat.le_of_ble_eq_true rfl) (EvS.up hn (Nat.le_of_ble_eq_true rfl)) (fun v7 t8 hv9 => ?_)
      obtain ⟨n10, rfl, hnn⟩ := hv9
      clear hn
      show GoS _ _ _ _ _ _ _ _ [(2, .inl n4), (0, .inr (.inr (some 725))), (1, .inl x1)] [.inl n10] t8 _
      refine gsRet (r := some (.inl n10)) dM_197_33 (fun _ => rfl) (Or.inr rfl) ?_
      exact hnn
  · replace hn := hn.2 c5
    refine gs0 13 [(2, .inl n4), (0, .inr (.inr (some 725))), (1, .inl x1)] [.inr (.inr (some 725))] dM_197_12 (fun _ => rfl) (Or.inr rfl) ?_
    refine gsGetE (t2 725 58) dM_197_13 sk_725 rfl rfl rfl ?_
    refine gs0 18 [(2, .inl n4), (0, .inr (.inr (some 725))), (1, .inl x1)] [.inl 32, .inl (t2 725 58)] dM_197_16 (fun _ => rfl) (Or.inr rfl) ?_
    refine gsIf (t := 24) (C := ¬ (t2 725 58) = 32) (r := []) dM_197_18 (fun _ => rfl) (Or.inr rfl) (rTest_iff .ne (t2 725 58) 32) (fun c11 => ?_) (fun c11 => ?_)
    · replace hn := hn.1 c11
      refine gs0 25 [(2, .inl n4), (0, .inr (.inr (some 725))), (1, .inl x1)] [.inl n4] dM_197_24 (fun _ => rfl) (Or.inr rfl) ?_
      refine gsIf (t := 34) (C := n4 = 0) (r := []) dM_197_25 (fun _ => rfl) (Or.inr rfl) (rTest_iff .eq n4 0) (fun c12 => ?_) (fun c12 => ?_)
      · replace hn := hn.1 c12
        refine gs0 35 [(2, .inl n4), (0, .inr (.inr (some 725))), (1, .inl x1)] [.inr (.inr (some 725))] dM_197_34 (fun _ => rfl) (Or.inr rfl) ?_
        refine gsGetR (some 759) dM_197_35 sk_725 rfl rfl ?_
        refine gs0 39 [(2, .inl n4), (0, .inr (.inr (some 725))), (1, .inl x1)] [.inr (.inr (some 725)), .inr (.inr (some 759))] dM_197_38 (fun _ => rfl) (Or.inr rfl) ?_
        refine gsGetE (t2 725 58) dM_197_39 sk_725 rfl rfl rfl ?_
        refine gs0 43 [(2, .inl n4), (0, .inr (.inr (some 725))), (1, .inl x1)] [.inl x1, .inl (t2 725 58), .inr (.inr (some 759))] dM_197_42 (fun _ => rfl) (Or.inr rfl) ?_
        refine gsIastN ((t2 725 58).toNatClampNeg) dM_197_43 sk_759 hn.1 rfl ?_
        replace hn := hn.2
        refine gs0 45 [(2, .inl n4), (0, .inr (.inr (some 725))), (1, .inl x1)] [.inr (.inr (some 725))] dM_197_44 (fun _ => rfl) (Or.inr rfl) ?_
        refine gs0 46 [(2, .inl n4), (0, .inr (.inr (some 725))), (1, .inl x1)] [.inr (.inr (some 725)), .inr (.inr (some 725))] dM_197_45 (fun _ => rfl) (Or.inr rfl) ?_
        refine gsGetE (t2 725 58) dM_197_46 sk_725 rfl rfl (congrFun (up2_nk _ _ _ (by decide)) _) ?_
        refine gs0 50 [(2, .inl n4), (0, .inr (.inr (some 725))), (1, .inl x1)] [.inl 1, .inl (t2 725 58), .inr (.inr (some 725))] dM_197_49 (fun _ => rfl) (Or.inr rfl) ?_
        refine gs0 51 [(2, .inl n4), (0, .inr (.inr (some 725))), (1, .inl x1)] [.inl ((t2 725 58) + 1), .inr (.inr (some 725))] dM_197_50 (fun _ => rfl) (Or.inr rfl) ?_
        refine gsPut dM_197_51 sk_725 rfl rfl rfl (by decide) ?_
        refine gs0 55 [(2, .inl n4), (0, .inr (.inr (some 725))), (1, .inl x1)] [.inr (.inr (some 725))] dM_197_54 (fun _ => rfl) (Or.inr rfl) ?_
        refine gsGetE ((t2 725 58) + 1) dM_197_55 sk_725 rfl rfl (up2_same _ _ _ _) ?_
        refine gsRet (r := some (.inl ((t2 725 58) + 1))) dM_197_58 (fun _ => rfl) (Or.inr rfl) ?_
        exact hn
      · replace hn := hn.2 c12
        refine gs0 29 [(2, .inl n4), (0, .inr (.inr (some 725))), (1, .inl x1)] [.inr (.inr (some 725))] dM_197_28 (fun _ => rfl) (Or.inr rfl) ?_
        refine gs0 30 [(2, .inl n4), (0, .inr (.inr (some 725))), (1, .inl x1)] [.inl n4, .inr (.inr (some 725))] dM_197_29 (fun _ => rfl) (Or.inr rfl) ?_
        refine gsCallV (y := 128) (k := 725) (as := [.inr (.inr (some 725)), .inl n4]) (r := []) dM_197_30 rfl rfl rfl (Nat.le_of_ble_eq_true rfl) sk_725 rfl (Nat.le_of_ble_eq_true rfl) (EvS.up hn (Nat.le_of_ble_eq_true rfl)) (fun v13 t14 hv15 => ?_)
        obtain ⟨n16, rfl, hnn⟩ := hv15
        clear hn
        show GoS _ _ _ _ _ _ _ _ [(2, .inl n4), (0, .inr (.inr (some 725))), (1, .inl x1)] [.inl n16] t14 _
        refine gsRet (r := some (.inl n16)) dM_197_33 (fun _ => rfl) (Or.inr rfl) ?_
        exact hnn
    · replace hn := hn.2 c11
      refine gs0 23 [(2, .inl n4), (0, .inr (.inr (some 725))), (1, .inl x1)] [.inl ((-6))] dM_197_21 (fun _ => rfl) (Or.inr rfl) ?_
      refine gs0 24 [(2, .inl ((-6))), (0, .inr (.inr (some 725))), (1, .inl x1)] [] dM_197_23 (fun _ => rfl) (Or.inr rfl) ?_
      refine gs0 25 [(2, .inl ((-6))), (0, .inr (.inr (some 725))), (1, .inl x1)] [.inl ((-6))] dM_197_24 (fun _ => rfl) (Or.inr rfl) ?_
      refine gsIf (t := 34) (C := ((-6)) = 0) (r := []) dM_197_25 (fun _ => rfl) (Or.inr rfl) (rTest_iff .eq ((-6)) 0) (fun c17 => absurd c17 (by decide)) (fun c17 => ?_)
      refine gs0 29 [(2, .inl ((-6))), (0, .inr (.inr (some 725))), (1, .inl x1)] [.inr (.inr (some 725))] dM_197_28 (fun _ => rfl) (Or.inr rfl) ?_
      refine gs0 30 [(2, .inl ((-6))), (0, .inr (.inr (some 725))), (1, .inl x1)] [.inl ((-6)), .inr (.inr (some 725))] dM_197_29 (fun _ => rfl) (Or.inr rfl) ?_
      refine gsCallV (y := 128) (k := 725) (as := [.inr (.inr (some 725)), .inl ((-6))]) (r := []) dM_197_30 rfl rfl rfl (Nat.le_of_ble_eq_true rfl) sk_725 rfl (Nat.le_of_ble_eq_true rfl) (EvS.up hn (Nat.le_of_ble_eq_true rfl)) (fun v18 t19 hv20 => ?_)
      obtain ⟨n21, rfl, hnn⟩ := hv20
      clear hn
      show GoS _ _ _ _ _ _ _ _ [(2, .inl ((-6))), (0, .inr (.inr (some 725))), (1, .inl x1)] [.inl n21] t19 _
      refine gsRet (r := some (.inl n21)) dM_197_33 (fun _ => rfl) (Or.inr rfl) ?_
      exact hnn
def g_198_32  (y2 : Int32) (y3 : Int32) (sg : rSg) (P : Option rv → rSg → Prop) : Prop := GoS rSkel 5 9 4 (some .int) false prog_11_method_87_code 32 [(0, .inr (.inr (some 725))), (2, .inl y2), (3, .inl y3)] [] sg P
set_option maxRecDepth 100000 in
theorem w_198_32 (sg : rSg)  (y2 : Int32) (y3 : Int32) {P : Option rv → rSg → Prop} (h :
    (y2 ≤ y3 → 
      ((sg 725 51) ≤ y2 → 
        P (some (.inl ((-9)))) sg) ∧
      (¬ ((sg 725 51) ≤ y2) → 
        P (some (.inl y2)) sg)) ∧
    (¬ (y2 ≤ y3) → 
      ((sg 725 51) ≤ y3 → 
        P (some (.inl y3)) sg) ∧
      (¬ ((sg 725 51) ≤ y3) → 
        (rIn y3 200 = true ∧
        rIn y3 32 = true ∧
        ((sg 756 y3.toNatClampNeg) = (sg 759 y3.toNatClampNeg) → 
          g_198_32 y2 (y3 + 1) sg P) ∧
        (¬ ((sg 756 y3.toNatClampNeg) = (sg 759 y3.toNatClampNeg)) → 
          P (some (.inl y3)) sg))))) : g_198_32 y2 y3 sg P := by
  show GoS rSkel 5 9 4 (some .int) false prog_11_method_87_code 32 [(0, .inr (.inr (some 725))), (2, .inl y2), (3, .inl y3)] [] sg P
  refine gs0 33 [(0, .inr (.inr (some 725))), (2, .inl y2), (3, .inl y3)] [.inl y3] dM_198_32 (fun _ => rfl) (Or.inr rfl) ?_
  refine gs0 34 [(0, .inr (.inr (some 725))), (2, .inl y2), (3, .inl y3)] [.inl y2, .inl y3] dM_198_33 (fun _ => rfl) (Or.inr rfl) ?_
  refine gsIf (t := 68) (C := y2 ≤ y3) (r := []) dM_198_34 (fun _ => rfl) (Or.inr rfl) (rTest_iff .ge y3 y2) (fun c13 => ?_) (fun c13 => ?_)
  · replace h := h.1 c13
    refine gs0 69 [(0, .inr (.inr (some 725))), (2, .inl y2), (3, .inl y3)] [.inl y2] dM_198_68 (fun _ => rfl) (Or.inr rfl) ?_
    refine gs0 70 [(0, .inr (.inr (some 725))), (2, .inl y2), (3, .inl y3)] [.inr (.inr (some 725)), .inl y2] dM_198_69 (fun _ => rfl) (Or.inr rfl) ?_
    refine gsGetE (sg 725 51) dM_198_70 sk_725 rfl rfl rfl ?_
    refine gsIf (t := 80) (C := (sg 725 51) ≤ y2) (r := []) dM_198_73 (fun _ => rfl) (Or.inr rfl) (rTest_iff .ge y2 (sg 725 51)) (fun c14 => ?_) (fun c14 => ?_)
    · replace h := h.1 c14
      refine gs0 82 [(0, .inr (.inr (some 725))), (2, .inl y2), (3, .inl y3)] [.inl ((-9))] dM_198_80 (fun _ => rfl) (Or.inr rfl) ?_
      refine gsRet (r := some (.inl ((-9)))) dM_198_82 (fun _ => rfl) (Or.inr rfl) ?_
      exact h
    · replace h := h.2 c14
      refine gs0 77 [(0, .inr (.inr (some 725))), (2, .inl y2), (3, .inl y3)] [.inl y2] dM_198_76 (fun _ => rfl) (Or.inr rfl) ?_
      refine gs0 82 [(0, .inr (.inr (some 725))), (2, .inl y2), (3, .inl y3)] [.inl y2] dM_198_77 (fun _ => rfl) (Or.inr rfl) ?_
      refine gsRet (r := some (.inl y2)) dM_198_82 (fun _ => rfl) (Or.inr rfl) ?_
      exact h
  · replace h := h.2 c13
    refine gs0 38 [(0, .inr (.inr (some 725))), (2, .inl y2), (3, .inl y3)] [.inl y3] dM_198_37 (fun _ => rfl) (Or.inr rfl) ?_
    refine gs0 39 [(0, .inr (.inr (some 725))), (2, .inl y2), (3, .inl y3)] [.inr (.inr (some 725)), .inl y3] dM_198_38 (fun _ => rfl) (Or.inr rfl) ?_
    refine gsGetE (sg 725 51) dM_198_39 sk_725 rfl rfl rfl ?_
    refine gsIf (t := 60) (C := (sg 725 51) ≤ y3) (r := []) dM_198_42 (fun _ => rfl) (Or.inr rfl) (rTest_iff .ge y3 (sg 725 51)) (fun c15 => ?_) (fun c15 => ?_)
    · replace h := h.1 c15
      refine gs0 61 [(0, .inr (.inr (some 725))), (2, .inl y2), (3, .inl y3)] [.inl y3] dM_198_60 (fun _ => rfl) (Or.inr rfl) ?_
      refine gsRet (r := some (.inl y3)) dM_198_61 (fun _ => rfl) (Or.inr rfl) ?_
      exact h
    · replace h := h.2 c15
      refine gs0 46 [(0, .inr (.inr (some 725))), (2, .inl y2), (3, .inl y3)] [.inr (.inr (some 725))] dM_198_45 (fun _ => rfl) (Or.inr rfl) ?_
      refine gsGetR (some 756) dM_198_46 sk_725 rfl rfl ?_
      refine gs0 50 [(0, .inr (.inr (some 725))), (2, .inl y2), (3, .inl y3)] [.inl y3, .inr (.inr (some 756))] dM_198_49 (fun _ => rfl) (Or.inr rfl) ?_
      refine gsIaldN y3.toNatClampNeg (sg 756 y3.toNatClampNeg) dM_198_50 sk_756 h.1 rfl rfl ?_
      replace h := h.2
      refine gs0 52 [(0, .inr (.inr (some 725))), (2, .inl y2), (3, .inl y3)] [.inr (.inr (some 725)), .inl (sg 756 y3.toNatClampNeg)] dM_198_51 (fun _ => rfl) (Or.inr rfl) ?_
      refine gsGetR (some 759) dM_198_52 sk_725 rfl rfl ?_
      refine gs0 56 [(0, .inr (.inr (some 725))), (2, .inl y2), (3, .inl y3)] [.inl y3, .inr (.inr (some 759)), .inl (sg 756 y3.toNatClampNeg)] dM_198_55 (fun _ => rfl) (Or.inr rfl) ?_
      refine gsIaldN y3.toNatClampNeg (sg 759 y3.toNatClampNeg) dM_198_56 sk_759 h.1 rfl rfl ?_
      replace h := h.2
      refine gsIf (t := 62) (C := (sg 756 y3.toNatClampNeg) = (sg 759 y3.toNatClampNeg)) (r := []) dM_198_57 (fun _ => rfl) (Or.inr rfl) (rTest_iff .eq (sg 756 y3.toNatClampNeg) (sg 759 y3.toNatClampNeg)) (fun c16 => ?_) (fun c16 => ?_)
      · replace h := h.1 c16
        refine gs0 65 [(3, .inl (y3 + 1)), (0, .inr (.inr (some 725))), (2, .inl y2)] [] dM_198_62 (fun _ => rfl) (Or.inr rfl) ?_
        refine gs0 32 [(3, .inl (y3 + 1)), (0, .inr (.inr (some 725))), (2, .inl y2)] [] dM_198_65 (fun _ => rfl) (Or.inr rfl) ?_
        exact GoS.sub (Lnd_keys (ks := [0, 2, 3]) rfl (by decide)) (Lsub_cons rfl (Lsub_cons rfl (Lsub_cons rfl Lsub_nil))) h
      · replace h := h.2 c16
        refine gs0 61 [(0, .inr (.inr (some 725))), (2, .inl y2), (3, .inl y3)] [.inl y3] dM_198_60 (fun _ => rfl) (Or.inr rfl) ?_
        refine gsRet (r := some (.inl y3)) dM_198_61 (fun _ => rfl) (Or.inr rfl) ?_
        exact h
set_option maxRecDepth 100000 in
/-- GoalsInAQueueModel.judge -/
theorem w_198 (sg : rSg) (x1 : Int32) {P : Option rv → rSg → Prop} (h :
    EvS rSkel 2 164 [.inr (.inr (some 725)), .inl x1] sg (fun v1 t2 => ∃ n4, v1 = some (.inl n4) ∧
      (¬ n4 = 0 → 
        EvS rSkel 5 166 [.inr (.inr (some 725)), .inl x1, .inl 0] (up2 t2 725 58 0) (fun v6 t7 => v6 = none ∧
          g_198_32 (t2 725 58) 0 t7 P)) ∧
      (¬ (¬ n4 = 0) → 
        EvS rSkel 1 128 [.inr (.inr (some 725)), .inl ((-1))] t2 (fun v9 t10 => ∃ n12, v9 = some (.inl n12) ∧
          P (some (.inl n12)) t10)))) : EvS rSkel 6 198 [.inr (.inr (some 725)), .inl x1] sg P := by
  refine EvS.of (ini := false) rfl ⟨rfl, Nat.le_of_ble_eq_true rfl⟩ rfl ?_
  show GoS rSkel 5 9 4 (some .int) false prog_11_method_87_code 0 [(0, .inr (.inr (some 725))), (1, .inl x1)] [] sg _
  refine gs0 1 [(0, .inr (.inr (some 725))), (1, .inl x1)] [.inr (.inr (some 725))] dM_198_0 (fun _ => rfl) (Or.inr rfl) ?_
  refine gs0 2 [(0, .inr (.inr (some 725))), (1, .inl x1)] [.inl x1, .inr (.inr (some 725))] dM_198_1 (fun _ => rfl) (Or.inr rfl) ?_
  refine gsCallV (y := 164) (k := 725) (as := [.inr (.inr (some 725)), .inl x1]) (r := []) dM_198_2 rfl rfl rfl (Nat.le_of_ble_eq_true rfl) sk_725 rfl (Nat.le_of_ble_eq_true rfl) (EvS.up h (Nat.le_of_ble_eq_true rfl)) (fun v1 t2 hv3 => ?_)
  obtain ⟨n4, rfl, hn⟩ := hv3
  clear h
  show GoS _ _ _ _ _ _ _ _ [(0, .inr (.inr (some 725))), (1, .inl x1)] [.inl n4] t2 _
  refine gsIf (t := 14) (C := ¬ n4 = 0) (r := []) dM_198_5 (fun _ => rfl) (Or.inr rfl) (rTest_iff .ne n4 0) (fun c5 => ?_) (fun c5 => ?_)
  · replace hn := hn.1 c5
    refine gs0 15 [(0, .inr (.inr (some 725))), (1, .inl x1)] [.inr (.inr (some 725))] dM_198_14 (fun _ => rfl) (Or.inr rfl) ?_
    refine gsGetE (t2 725 58) dM_198_15 sk_725 rfl rfl rfl ?_
    refine gs0 19 [(2, .inl (t2 725 58)), (0, .inr (.inr (some 725))), (1, .inl x1)] [] dM_198_18 (fun _ => rfl) (Or.inr rfl) ?_
    refine gs0 20 [(2, .inl (t2 725 58)), (0, .inr (.inr (some 725))), (1, .inl x1)] [.inr (.inr (some 725))] dM_198_19 (fun _ => rfl) (Or.inr rfl) ?_
    refine gs0 21 [(2, .inl (t2 725 58)), (0, .inr (.inr (some 725))), (1, .inl x1)] [.inl 0, .inr (.inr (some 725))] dM_198_20 (fun _ => rfl) (Or.inr rfl) ?_
    refine gsPut dM_198_21 sk_725 rfl rfl rfl (by decide) ?_
    refine gs0 25 [(2, .inl (t2 725 58)), (0, .inr (.inr (some 725))), (1, .inl x1)] [.inr (.inr (some 725))] dM_198_24 (fun _ => rfl) (Or.inr rfl) ?_
    refine gs0 26 [(2, .inl (t2 725 58)), (0, .inr (.inr (some 725))), (1, .inl x1)] [.inl x1, .inr (.inr (some 725))] dM_198_25 (fun _ => rfl) (Or.inr rfl) ?_
    refine gs0 27 [(2, .inl (t2 725 58)), (0, .inr (.inr (some 725))), (1, .inl x1)] [.inl 0, .inl x1, .inr (.inr (some 725))] dM_198_26 (fun _ => rfl) (Or.inr rfl) ?_
    refine gsCallV (y := 166) (k := 725) (as := [.inr (.inr (some 725)), .inl x1, .inl 0]) (r := []) dM_198_27 rfl rfl rfl (Nat.le_of_ble_eq_true rfl) sk_725 rfl (Nat.le_of_ble_eq_true rfl) (EvS.up hn (Nat.le_of_ble_eq_true rfl)) (fun v6 t7 hv8 => ?_)
    obtain ⟨rfl, hnn⟩ := hv8
    clear hn
    show GoS _ _ _ _ _ _ _ _ [(2, .inl (t2 725 58)), (0, .inr (.inr (some 725))), (1, .inl x1)] [] t7 _
    refine gs0 31 [(2, .inl (t2 725 58)), (0, .inr (.inr (some 725))), (1, .inl x1)] [.inl 0] dM_198_30 (fun _ => rfl) (Or.inr rfl) ?_
    refine gs0 32 [(3, .inl 0), (2, .inl (t2 725 58)), (0, .inr (.inr (some 725))), (1, .inl x1)] [] dM_198_31 (fun _ => rfl) (Or.inr rfl) ?_
    exact GoS.sub (Lnd_keys (ks := [0, 2, 3]) rfl (by decide)) (Lsub_cons rfl (Lsub_cons rfl (Lsub_cons rfl Lsub_nil))) hnn
  · replace hn := hn.2 c5
    refine gs0 9 [(0, .inr (.inr (some 725))), (1, .inl x1)] [.inr (.inr (some 725))] dM_198_8 (fun _ => rfl) (Or.inr rfl) ?_
    refine gs0 10 [(0, .inr (.inr (some 725))), (1, .inl x1)] [.inl ((-1)), .inr (.inr (some 725))] dM_198_9 (fun _ => rfl) (Or.inr rfl) ?_
    refine gsCallV (y := 128) (k := 725) (as := [.inr (.inr (some 725)), .inl ((-1))]) (r := []) dM_198_10 rfl rfl rfl (Nat.le_of_ble_eq_true rfl) sk_725 rfl (Nat.le_of_ble_eq_true rfl) (EvS.up hn (Nat.le_of_ble_eq_true rfl)) (fun v9 t10 hv11 => ?_)
    obtain ⟨n12, rfl, hnn⟩ := hv11
    clear hn
    show GoS _ _ _ _ _ _ _ _ [(0, .inr (.inr (some 725))), (1, .inl x1)] [.inl n12] t10 _
    refine gsRet (r := some (.inl n12)) dM_198_13 (fun _ => rfl) (Or.inr rfl) ?_
    exact hnn
set_option maxRecDepth 100000 in
/-- GoalsInAQueueModel.clear -/
theorem w_199 (sg : rSg)  {P : Option rv → rSg → Prop} (h :
    P (some (.inl (sg 725 58))) (up2 sg 725 58 0)) : EvS rSkel 1 199 [.inr (.inr (some 725))] sg P := by
  refine EvS.of (ini := false) rfl ⟨rfl, Nat.le_of_ble_eq_true rfl⟩ rfl ?_
  show GoS rSkel 0 9 2 (some .int) false prog_11_method_88_code 0 [(0, .inr (.inr (some 725)))] [] sg _
  refine gs0 1 [(0, .inr (.inr (some 725)))] [.inr (.inr (some 725))] dM_199_0 (fun _ => rfl) (Or.inr rfl) ?_
  refine gsGetE (sg 725 58) dM_199_1 sk_725 rfl rfl rfl ?_
  refine gs0 5 [(1, .inl (sg 725 58)), (0, .inr (.inr (some 725)))] [] dM_199_4 (fun _ => rfl) (Or.inr rfl) ?_
  refine gs0 6 [(1, .inl (sg 725 58)), (0, .inr (.inr (some 725)))] [.inr (.inr (some 725))] dM_199_5 (fun _ => rfl) (Or.inr rfl) ?_
  refine gs0 7 [(1, .inl (sg 725 58)), (0, .inr (.inr (some 725)))] [.inl 0, .inr (.inr (some 725))] dM_199_6 (fun _ => rfl) (Or.inr rfl) ?_
  refine gsPut dM_199_7 sk_725 rfl rfl rfl (by decide) ?_
  refine gs0 11 [(1, .inl (sg 725 58)), (0, .inr (.inr (some 725)))] [.inl (sg 725 58)] dM_199_10 (fun _ => rfl) (Or.inr rfl) ?_
  refine gsRet (r := some (.inl (sg 725 58))) dM_199_11 (fun _ => rfl) (Or.inr rfl) ?_
  exact h
def g_200_50  (y1 : Int32) (y3 : Int32) (y5 : Int32) (y6 : Int32) (sg : rSg) (P : Option rv → rSg → Prop) : Prop := GoS rSkel 8 9 7 (some .int) false prog_11_method_94_code 50 [(0, .inr (.inr (some 725))), (1, .inl y1), (3, .inl y3), (5, .inl y5), (6, .inl y6)] [] sg P
set_option maxRecDepth 100000 in
theorem w_200_50 (sg : rSg)  (y1 : Int32) (y3 : Int32) (y5 : Int32) (y6 : Int32) {P : Option rv → rSg → Prop} (h :
    (y1 ≤ y6 → 
      P (some (.inl y5)) sg) ∧
    (¬ (y1 ≤ y6) → 
      EvS rSkel 1 183 [.inr (.inr (some 725))] sg (fun v27 t28 => v27 = none ∧
        EvS rSkel 8 201 [.inr (.inr (some 725))] t28 (fun v30 t31 => ∃ n33, v30 = some (.inl n33) ∧
          (n33 = 0 → 
            EvS rSkel 1 184 [.inr (.inr (some 725))] t31 (fun v35 t36 => v35 = none ∧
              g_200_50 y1 y3 y5 (y6 + 1) t36 P)) ∧
          (¬ (n33 = 0) → 
            (¬ y3 = 0 → 
              EvS rSkel 3 205 [.inr (.inr (some 725))] t31 (fun v39 t40 => ∃ n42, v39 = some (.inl n42) ∧
                EvS rSkel 1 184 [.inr (.inr (some 725))] t40 (fun v43 t44 => v43 = none ∧
                  g_200_50 y1 y3 (y5 + n42) (y6 + 1) t44 P))) ∧
            (¬ (¬ y3 = 0) → 
              EvS rSkel 1 184 [.inr (.inr (some 725))] t31 (fun v46 t47 => v46 = none ∧
                g_200_50 y1 y3 (y5 + 1) (y6 + 1) t47 P))))))) : g_200_50 y1 y3 y5 y6 sg P := by
  show GoS rSkel 8 9 7 (some .int) false prog_11_method_94_code 50 [(0, .inr (.inr (some 725))), (1, .inl y1), (3, .inl y3), (5, .inl y5), (6, .inl y6)] [] sg P
  refine gs0 52 [(0, .inr (.inr (some 725))), (1, .inl y1), (3, .inl y3), (5, .inl y5), (6, .inl y6)] [.inl y6] dM_200_50 (fun _ => rfl) (Or.inr rfl) ?_
  refine gs0 53 [(0, .inr (.inr (some 725))), (1, .inl y1), (3, .inl y3), (5, .inl y5), (6, .inl y6)] [.inl y1, .inl y6] dM_200_52 (fun _ => rfl) (Or.inr rfl) ?_
  refine gsIf (t := 94) (C := y1 ≤ y6) (r := []) dM_200_53 (fun _ => rfl) (Or.inr rfl) (rTest_iff .ge y6 y1) (fun c26 => ?_) (fun c26 => ?_)
  · replace h := h.1 c26
    refine gs0 96 [(0, .inr (.inr (some 725))), (1, .inl y1), (3, .inl y3), (5, .inl y5), (6, .inl y6)] [.inl y5] dM_200_94 (fun _ => rfl) (Or.inr rfl) ?_
    refine gsRet (r := some (.inl y5)) dM_200_96 (fun _ => rfl) (Or.inr rfl) ?_
    exact h
  · replace h := h.2 c26
    refine gs0 57 [(0, .inr (.inr (some 725))), (1, .inl y1), (3, .inl y3), (5, .inl y5), (6, .inl y6)] [.inr (.inr (some 725))] dM_200_56 (fun _ => rfl) (Or.inr rfl) ?_
    refine gsCallV (y := 183) (k := 725) (as := [.inr (.inr (some 725))]) (r := []) dM_200_57 rfl rfl rfl (Nat.le_of_ble_eq_true rfl) sk_725 rfl (Nat.le_of_ble_eq_true rfl) (EvS.up h (Nat.le_of_ble_eq_true rfl)) (fun v27 t28 hv29 => ?_)
    obtain ⟨rfl, hn⟩ := hv29
    clear h
    show GoS _ _ _ _ _ _ _ _ [(0, .inr (.inr (some 725))), (1, .inl y1), (3, .inl y3), (5, .inl y5), (6, .inl y6)] [] t28 _
    refine gs0 61 [(0, .inr (.inr (some 725))), (1, .inl y1), (3, .inl y3), (5, .inl y5), (6, .inl y6)] [.inr (.inr (some 725))] dM_200_60 (fun _ => rfl) (Or.inr rfl) ?_
    refine gsCallV (y := 201) (k := 725) (as := [.inr (.inr (some 725))]) (r := []) dM_200_61 rfl rfl rfl (Nat.le_of_ble_eq_true rfl) sk_725 rfl (Nat.le_of_ble_eq_true rfl) (EvS.up hn (Nat.le_of_ble_eq_true rfl)) (fun v30 t31 hv32 => ?_)
    obtain ⟨n33, rfl, hnn⟩ := hv32
    clear hn
    show GoS _ _ _ _ _ _ _ _ [(0, .inr (.inr (some 725))), (1, .inl y1), (3, .inl y3), (5, .inl y5), (6, .inl y6)] [.inl n33] t31 _
    refine gsIf (t := 84) (C := n33 = 0) (r := []) dM_200_64 (fun _ => rfl) (Or.inr rfl) (rTest_iff .eq n33 0) (fun c34 => ?_) (fun c34 => ?_)
    · replace hnn := hnn.1 c34
      refine gs0 85 [(0, .inr (.inr (some 725))), (1, .inl y1), (3, .inl y3), (5, .inl y5), (6, .inl y6)] [.inr (.inr (some 725))] dM_200_84 (fun _ => rfl) (Or.inr rfl) ?_
      refine gsCallV (y := 184) (k := 725) (as := [.inr (.inr (some 725))]) (r := []) dM_200_85 rfl rfl rfl (Nat.le_of_ble_eq_true rfl) sk_725 rfl (Nat.le_of_ble_eq_true rfl) (EvS.up hnn (Nat.le_of_ble_eq_true rfl)) (fun v35 t36 hv37 => ?_)
      obtain ⟨rfl, hnnn⟩ := hv37
      clear hnn
      show GoS _ _ _ _ _ _ _ _ [(0, .inr (.inr (some 725))), (1, .inl y1), (3, .inl y3), (5, .inl y5), (6, .inl y6)] [] t36 _
      refine gs0 91 [(6, .inl (y6 + 1)), (0, .inr (.inr (some 725))), (1, .inl y1), (3, .inl y3), (5, .inl y5)] [] dM_200_88 (fun _ => rfl) (Or.inr rfl) ?_
      refine gs0 50 [(6, .inl (y6 + 1)), (0, .inr (.inr (some 725))), (1, .inl y1), (3, .inl y3), (5, .inl y5)] [] dM_200_91 (fun _ => rfl) (Or.inr rfl) ?_
      exact GoS.sub (Lnd_keys (ks := [0, 1, 3, 5, 6]) rfl (by decide)) (Lsub_cons rfl (Lsub_cons rfl (Lsub_cons rfl (Lsub_cons rfl (Lsub_cons rfl Lsub_nil))))) hnnn
    · replace hnn := hnn.2 c34
      refine gs0 69 [(0, .inr (.inr (some 725))), (1, .inl y1), (3, .inl y3), (5, .inl y5), (6, .inl y6)] [.inl y5] dM_200_67 (fun _ => rfl) (Or.inr rfl) ?_
      refine gs0 70 [(0, .inr (.inr (some 725))), (1, .inl y1), (3, .inl y3), (5, .inl y5), (6, .inl y6)] [.inl y3, .inl y5] dM_200_69 (fun _ => rfl) (Or.inr rfl) ?_
      refine gsIf (t := 77) (C := ¬ y3 = 0) (r := [.inl y5]) dM_200_70 (fun _ => rfl) (Or.inr rfl) (rTest_iff .ne y3 0) (fun c38 => ?_) (fun c38 => ?_)
      · replace hnn := hnn.1 c38
        refine gs0 78 [(0, .inr (.inr (some 725))), (1, .inl y1), (3, .inl y3), (5, .inl y5), (6, .inl y6)] [.inr (.inr (some 725)), .inl y5] dM_200_77 (fun _ => rfl) (Or.inr rfl) ?_
        refine gsCallV (y := 205) (k := 725) (as := [.inr (.inr (some 725))]) (r := [.inl y5]) dM_200_78 rfl rfl rfl (Nat.le_of_ble_eq_true rfl) sk_725 rfl (Nat.le_of_ble_eq_true rfl) (EvS.up hnn (Nat.le_of_ble_eq_true rfl)) (fun v39 t40 hv41 => ?_)
        obtain ⟨n42, rfl, hnnn⟩ := hv41
        clear hnn
        show GoS _ _ _ _ _ _ _ _ [(0, .inr (.inr (some 725))), (1, .inl y1), (3, .inl y3), (5, .inl y5), (6, .inl y6)] [.inl n42, .inl y5] t40 _
        refine gs0 82 [(0, .inr (.inr (some 725))), (1, .inl y1), (3, .inl y3), (5, .inl y5), (6, .inl y6)] [.inl (y5 + n42)] dM_200_81 (fun _ => rfl) (Or.inr rfl) ?_
        refine gs0 84 [(5, .inl (y5 + n42)), (0, .inr (.inr (some 725))), (1, .inl y1), (3, .inl y3), (6, .inl y6)] [] dM_200_82 (fun _ => rfl) (Or.inr rfl) ?_
        refine gs0 85 [(5, .inl (y5 + n42)), (0, .inr (.inr (some 725))), (1, .inl y1), (3, .inl y3), (6, .inl y6)] [.inr (.inr (some 725))] dM_200_84 (fun _ => rfl) (Or.inr rfl) ?_
        refine gsCallV (y := 184) (k := 725) (as := [.inr (.inr (some 725))]) (r := []) dM_200_85 rfl rfl rfl (Nat.le_of_ble_eq_true rfl) sk_725 rfl (Nat.le_of_ble_eq_true rfl) (EvS.up hnnn (Nat.le_of_ble_eq_true rfl)) (fun v43 t44 hv45 => ?_)
        obtain ⟨rfl, hnnnn⟩ := hv45
        clear hnnn
        show GoS _ _ _ _ _ _ _ _ [(5, .inl (y5 + n42)), (0, .inr (.inr (some 725))), (1, .inl y1), (3, .inl y3), (6, .inl y6)] [] t44 _
        refine gs0 91 [(6, .inl (y6 + 1)), (5, .inl (y5 + n42)), (0, .inr (.inr (some 725))), (1, .inl y1), (3, .inl y3)] [] dM_200_88 (fun _ => rfl) (Or.inr rfl) ?_
        refine gs0 50 [(6, .inl (y6 + 1)), (5, .inl (y5 + n42)), (0, .inr (.inr (some 725))), (1, .inl y1), (3, .inl y3)] [] dM_200_91 (fun _ => rfl) (Or.inr rfl) ?_
        exact GoS.sub (Lnd_keys (ks := [0, 1, 3, 5, 6]) rfl (by decide)) (Lsub_cons rfl (Lsub_cons rfl (Lsub_cons rfl (Lsub_cons rfl (Lsub_cons rfl Lsub_nil))))) hnnnn
      · replace hnn := hnn.2 c38
        refine gs0 74 [(0, .inr (.inr (some 725))), (1, .inl y1), (3, .inl y3), (5, .inl y5), (6, .inl y6)] [.inl 1, .inl y5] dM_200_73 (fun _ => rfl) (Or.inr rfl) ?_
        refine gs0 81 [(0, .inr (.inr (some 725))), (1, .inl y1), (3, .inl y3), (5, .inl y5), (6, .inl y6)] [.inl 1, .inl y5] dM_200_74 (fun _ => rfl) (Or.inr rfl) ?_
        refine gs0 82 [(0, .inr (.inr (some 725))), (1, .inl y1), (3, .inl y3), (5, .inl y5), (6, .inl y6)] [.inl (y5 + 1)] dM_200_81 (fun _ => rfl) (Or.inr rfl) ?_
        refine gs0 84 [(5, .inl (y5 + 1)), (0, .inr (.inr (some 725))), (1, .inl y1), (3, .inl y3), (6, .inl y6)] [] dM_200_82 (fun _ => rfl) (Or.inr rfl) ?_
        refine gs0 85 [(5, .inl (y5 + 1)), (0, .inr (.inr (some 725))), (1, .inl y1), (3, .inl y3), (6, .inl y6)] [.inr (.inr (some 725))] dM_200_84 (fun _ => rfl) (Or.inr rfl) ?_
        refine gsCallV (y := 184) (k := 725) (as := [.inr (.inr (some 725))]) (r := []) dM_200_85 rfl rfl rfl (Nat.le_of_ble_eq_true rfl) sk_725 rfl (Nat.le_of_ble_eq_true rfl) (EvS.up hnn (Nat.le_of_ble_eq_true rfl)) (fun v46 t47 hv48 => ?_)
        obtain ⟨rfl, hnnn⟩ := hv48
        clear hnn
        show GoS _ _ _ _ _ _ _ _ [(5, .inl (y5 + 1)), (0, .inr (.inr (some 725))), (1, .inl y1), (3, .inl y3), (6, .inl y6)] [] t47 _
        refine gs0 91 [(6, .inl (y6 + 1)), (5, .inl (y5 + 1)), (0, .inr (.inr (some 725))), (1, .inl y1), (3, .inl y3)] [] dM_200_88 (fun _ => rfl) (Or.inr rfl) ?_
        refine gs0 50 [(6, .inl (y6 + 1)), (5, .inl (y5 + 1)), (0, .inr (.inr (some 725))), (1, .inl y1), (3, .inl y3)] [] dM_200_91 (fun _ => rfl) (Or.inr rfl) ?_
        exact GoS.sub (Lnd_keys (ks := [0, 1, 3, 5, 6]) rfl (by decide)) (Lsub_cons rfl (Lsub_cons rfl (Lsub_cons rfl (Lsub_cons rfl (Lsub_cons rfl Lsub_nil))))) hnnn
set_option maxRecDepth 100000 in
/-- GoalsInAQueueModel.lots -/
theorem w_200 (sg : rSg) (x1 : Int32) (x2 : Int32) (x3 : Int32) {P : Option rv → rSg → Prop} (h :
    EvS rSkel 1 127 [.inl x1, .inl 1, .inl 20] sg (fun v1 t2 => ∃ n4, v1 = some (.inl n4) ∧
      (¬ n4 = 0 → 
        (n4 = 0 → 
          g_200_50 x1 x3 0 0 (up2 t2 725 59 x2) P) ∧
        (¬ (n4 = 0) → 
          EvS rSkel 1 128 [.inr (.inr (some 725)), .inl n4] t2 (fun v7 t8 => ∃ n10, v7 = some (.inl n10) ∧
            P (some (.inl n10)) t8))) ∧
      (¬ (¬ n4 = 0) → 
        EvS rSkel 1 119 [.inl x3, .inl 0, .inl 1] t2 (fun v11 t12 => ∃ n14, v11 = some (.inl n14) ∧
          (¬ n14 = 0 → 
            (n4 = 0 → 
              g_200_50 x1 x3 0 0 (up2 t12 725 59 x2) P) ∧
            (¬ (n4 = 0) → 
              EvS rSkel 1 128 [.inr (.inr (some 725)), .inl n4] t12 (fun v17 t18 => ∃ n20, v17 = some (.inl n20) ∧
                P (some (.inl n20)) t18))) ∧
          (¬ (¬ n14 = 0) → 
            EvS rSkel 1 128 [.inr (.inr (some 725)), .inl ((-2))] t12 (fun v22 t23 => ∃ n25, v22 = some (.inl n25) ∧
              P (some (.inl n25)) t23)))))) : EvS rSkel 9 200 [.inr (.inr (some 725)), .inl x1, .inl x2, .inl x3] sg P := by
  refine EvS.of (ini := false) rfl ⟨rfl, Nat.le_of_ble_eq_true rfl⟩ rfl ?_
  show GoS rSkel 8 9 7 (some .int) false prog_11_method_94_code 0 [(0, .inr (.inr (some 725))), (1, .inl x1), (2, .inl x2), (3, .inl x3)] [] sg _
  refine gs0 1 [(0, .inr (.inr (some 725))), (1, .inl x1), (2, .inl x2), (3, .inl x3)] [.inl x1] dM_200_0 (fun _ => rfl) (Or.inr rfl) ?_
  refine gs0 2 [(0, .inr (.inr (some 725))), (1, .inl x1), (2, .inl x2), (3, .inl x3)] [.inl 1, .inl x1] dM_200_1 (fun _ => rfl) (Or.inr rfl) ?_
  refine gs0 4 [(0, .inr (.inr (some 725))), (1, .inl x1), (2, .inl x2), (3, .inl x3)] [.inl 20, .inl 1, .inl x1] dM_200_2 (fun _ => rfl) (Or.inr rfl) ?_
  refine gsCallS (y := 127) (as := [.inl x1, .inl 1, .inl 20]) (r := []) dM_200_4 rfl (Or.inl rfl) rfl rfl (Nat.le_of_ble_eq_true rfl) (EvS.up h (Nat.le_of_ble_eq_true rfl)) (fun v1 t2 hv3 => ?_)
  obtain ⟨n4, rfl, hn⟩ := hv3
  clear h
  show GoS _ _ _ _ _ _ _ _ [(0, .inr (.inr (some 725))), (1, .inl x1), (2, .inl x2), (3, .inl x3)] [.inl n4] t2 _
  refine gs0 9 [(4, .inl n4), (0, .inr (.inr (some 725))), (1, .inl x1), (2, .inl x2), (3, .inl x3)] [] dM_200_7 (fun _ => rfl) (Or.inr rfl) ?_
  refine gs0 11 [(4, .inl n4), (0, .inr (.inr (some 725))), (1, .inl x1), (2, .inl x2), (3, .inl x3)] [.inl n4] dM_200_9 (fun _ => rfl) (Or.inr rfl) ?_
  refine gsIf (t := 27) (C := ¬ n4 = 0) (r := []) dM_200_11 (fun _ => rfl) (Or.inr rfl) (rTest_iff .ne n4 0) (fun c5 => ?_) (fun c5 => ?_)
  · replace hn := hn.1 c5
    refine gs0 29 [(4, .inl n4), (0, .inr (.inr (some 725))), (1, .inl x1), (2, .inl x2), (3, .inl x3)] [.inl n4] dM_200_27 (fun _ => rfl) (Or.inr rfl) ?_
    refine gsIf (t := 39) (C := n4 = 0) (r := []) dM_200_29 (fun _ => rfl) (Or.inr rfl) (rTest_iff .eq n4 0) (fun c6 => ?_) (fun c6 => ?_)
    · replace hn := hn.1 c6
      refine gs0 40 [(4, .inl n4), (0, .inr (.inr (some 725))), (1, .inl x1), (2, .inl x2), (3, .inl x3)] [.inr (.inr (some 725))] dM_200_39 (fun _ => rfl) (Or.inr rfl) ?_
      refine gs0 41 [(4, .inl n4), (0, .inr (.inr (some 725))), (1, .inl x1), (2, .inl x2), (3, .inl x3)] [.inl x2, .inr (.inr (some 725))] dM_200_40 (fun _ => rfl) (Or.inr rfl) ?_
      refine gsPut dM_200_41 sk_725 rfl rfl rfl (by decide) ?_
      refine gs0 45 [(4, .inl n4), (0, .inr (.inr (some 725))), (1, .inl x1), (2, .inl x2), (3, .inl x3)] [.inl 0] dM_200_44 (fun _ => rfl) (Or.inr rfl) ?_
      refine gs0 47 [(5, .inl 0), (4, .inl n4), (0, .inr (.inr (some 725))), (1, .inl x1), (2, .inl x2), (3, .inl x3)] [] dM_200_45 (fun _ => rfl) (Or.inr rfl) ?_
      refine gs0 48 [(5, .inl 0), (4, .inl n4), (0, .inr (.inr (some 725))), (1, .inl x1), (2, .inl x2), (3, .inl x3)] [.inl 0] dM_200_47 (fun _ => rfl) (Or.inr rfl) ?_
      refine gs0 50 [(6, .inl 0), (5, .inl 0), (4, .inl n4), (0, .inr (.inr (some 725))), (1, .inl x1), (2, .inl x2), (3, .inl x3)] [] dM_200_48 (fun _ => rfl) (Or.inr rfl) ?_
      exact GoS.sub (Lnd_keys (ks := [0, 1, 3, 5, 6]) rfl (by decide)) (Lsub_cons rfl (Lsub_cons rfl (Lsub_cons rfl (Lsub_cons rfl (Lsub_cons rfl Lsub_nil))))) hn
    · replace hn := hn.2 c6
      refine gs0 33 [(4, .inl n4), (0, .inr (.inr (some 725))), (1, .inl x1), (2, .inl x2), (3, .inl x3)] [.inr (.inr (some 725))] dM_200_32 (fun _ => rfl) (Or.inr rfl) ?_
      refine gs0 35 [(4, .inl n4), (0, .inr (.inr (some 725))), (1, .inl x1), (2, .inl x2), (3, .inl x3)] [.inl n4, .inr (.inr (some 725))] dM_200_33 (fun _ => rfl) (Or.inr rfl) ?_
      refine gsCallV (y := 128) (k := 725) (as := [.inr (.inr (some 725)), .inl n4]) (r := []) dM_200_35 rfl rfl rfl (Nat.le_of_ble_eq_true rfl) sk_725 rfl (Nat.le_of_ble_eq_true rfl) (EvS.up hn (Nat.le_of_ble_eq_true rfl)) (fun v7 t8 hv9 => ?_)
      obtain ⟨n10, rfl, hnn⟩ := hv9
      clear hn
      show GoS _ _ _ _ _ _ _ _ [(4, .inl n4), (0, .inr (.inr (some 725))), (1, .inl x1), (2, .inl x2), (3, .inl x3)] [.inl n10] t8 _
      refine gsRet (r := some (.inl n10)) dM_200_38 (fun _ => rfl) (Or.inr rfl) ?_
      exact hnn
  · replace hn := hn.2 c5
    refine gs0 15 [(4, .inl n4), (0, .inr (.inr (some 725))), (1, .inl x1), (2, .inl x2), (3, .inl x3)] [.inl x3] dM_200_14 (fun _ => rfl) (Or.inr rfl) ?_
    refine gs0 16 [(4, .inl n4), (0, .inr (.inr (some 725))), (1, .inl x1), (2, .inl x2), (3, .inl x3)] [.inl 0, .inl x3] dM_200_15 (fun _ => rfl) (Or.inr rfl) ?_
    refine gs0 17 [(4, .inl n4), (0, .inr (.inr (some 725))), (1, .inl x1), (2, .inl x2), (3, .inl x3)] [.inl 1, .inl 0, .inl x3] dM_200_16 (fun _ => rfl) (Or.inr rfl) ?_
    refine gsCallS (y := 119) (as := [.inl x3, .inl 0, .inl 1]) (r := []) dM_200_17 rfl (Or.inl rfl) rfl rfl (Nat.le_of_ble_eq_true rfl) (EvS.up hn (Nat.le_of_ble_eq_true rfl)) (fun v11 t12 hv13 => ?_)
    obtain ⟨n14, rfl, hnn⟩ := hv13
    clear hn
    show GoS _ _ _ _ _ _ _ _ [(4, .inl n4), (0, .inr (.inr (some 725))), (1, .inl x1), (2, .inl x2), (3, .inl x3)] [.inl n14] t12 _
    refine gsIf (t := 27) (C := ¬ n14 = 0) (r := []) dM_200_20 (fun _ => rfl) (Or.inr rfl) (rTest_iff .ne n14 0) (fun c15 => ?_) (fun c15 => ?_)
    · replace hnn := hnn.1 c15
      refine gs0 29 [(4, .inl n4), (0, .inr (.inr (some 725))), (1, .inl x1), (2, .inl x2), (3, .inl x3)] [.inl n4] dM_200_27 (fun _ => rfl) (Or.inr rfl) ?_
      refine gsIf (t := 39) (C := n4 = 0) (r := []) dM_200_29 (fun _ => rfl) (Or.inr rfl) (rTest_iff .eq n4 0) (fun c16 => ?_) (fun c16 => ?_)
      · replace hnn := hnn.1 c16
        refine gs0 40 [(4, .inl n4), (0, .inr (.inr (some 725))), (1, .inl x1), (2, .inl x2), (3, .inl x3)] [.inr (.inr (some 725))] dM_200_39 (fun _ => rfl) (Or.inr rfl) ?_
        refine gs0 41 [(4, .inl n4), (0, .inr (.inr (some 725))), (1, .inl x1), (2, .inl x2), (3, .inl x3)] [.inl x2, .inr (.inr (some 725))] dM_200_40 (fun _ => rfl) (Or.inr rfl) ?_
        refine gsPut dM_200_41 sk_725 rfl rfl rfl (by decide) ?_
        refine gs0 45 [(4, .inl n4), (0, .inr (.inr (some 725))), (1, .inl x1), (2, .inl x2), (3, .inl x3)] [.inl 0] dM_200_44 (fun _ => rfl) (Or.inr rfl) ?_
        refine gs0 47 [(5, .inl 0), (4, .inl n4), (0, .inr (.inr (some 725))), (1, .inl x1), (2, .inl x2), (3, .inl x3)] [] dM_200_45 (fun _ => rfl) (Or.inr rfl) ?_
        refine gs0 48 [(5, .inl 0), (4, .inl n4), (0, .inr (.inr (some 725))), (1, .inl x1), (2, .inl x2), (3, .inl x3)] [.inl 0] dM_200_47 (fun _ => rfl) (Or.inr rfl) ?_
        refine gs0 50 [(6, .inl 0), (5, .inl 0), (4, .inl n4), (0, .inr (.inr (some 725))), (1, .inl x1), (2, .inl x2), (3, .inl x3)] [] dM_200_48 (fun _ => rfl) (Or.inr rfl) ?_
        exact GoS.sub (Lnd_keys (ks := [0, 1, 3, 5, 6]) rfl (by decide)) (Lsub_cons rfl (Lsub_cons rfl (Lsub_cons rfl (Lsub_cons rfl (Lsub_cons rfl Lsub_nil))))) hnn
      · replace hnn := hnn.2 c16
        refine gs0 33 [(4, .inl n4), (0, .inr (.inr (some 725))), (1, .inl x1), (2, .inl x2), (3, .inl x3)] [.inr (.inr (some 725))] dM_200_32 (fun _ => rfl) (Or.inr rfl) ?_
        refine gs0 35 [(4, .inl n4), (0, .inr (.inr (some 725))), (1, .inl x1), (2, .inl x2), (3, .inl x3)] [.inl n4, .inr (.inr (some 725))] dM_200_33 (fun _ => rfl) (Or.inr rfl) ?_
        refine gsCallV (y := 128) (k := 725) (as := [.inr (.inr (some 725)), .inl n4]) (r := []) dM_200_35 rfl rfl rfl (Nat.le_of_ble_eq_true rfl) sk_725 rfl (Nat.le_of_ble_eq_true rfl) (EvS.up hnn (Nat.le_of_ble_eq_true rfl)) (fun v17 t18 hv19 => ?_)
        obtain ⟨n20, rfl, hnnn⟩ := hv19
        clear hnn
        show GoS _ _ _ _ _ _ _ _ [(4, .inl n4), (0, .inr (.inr (some 725))), (1, .inl x1), (2, .inl x2), (3, .inl x3)] [.inl n20] t18 _
        refine gsRet (r := some (.inl n20)) dM_200_38 (fun _ => rfl) (Or.inr rfl) ?_
        exact hnnn
    · replace hnn := hnn.2 c15
      refine gs0 25 [(4, .inl n4), (0, .inr (.inr (some 725))), (1, .inl x1), (2, .inl x2), (3, .inl x3)] [.inl ((-2))] dM_200_23 (fun _ => rfl) (Or.inr rfl) ?_
      refine gs0 27 [(4, .inl ((-2))), (0, .inr (.inr (some 725))), (1, .inl x1), (2, .inl x2), (3, .inl x3)] [] dM_200_25 (fun _ => rfl) (Or.inr rfl) ?_
      refine gs0 29 [(4, .inl ((-2))), (0, .inr (.inr (some 725))), (1, .inl x1), (2, .inl x2), (3, .inl x3)] [.inl ((-2))] dM_200_27 (fun _ => rfl) (Or.inr rfl) ?_
      refine gsIf (t := 39) (C := ((-2)) = 0) (r := []) dM_200_29 (fun _ => rfl) (Or.inr rfl) (rTest_iff .eq ((-2)) 0) (fun c21 => absurd c21 (by decide)) (fun c21 => ?_)
      refine gs0 33 [(4, .inl ((-2))), (0, .inr (.inr (some 725))), (1, .inl x1), (2, .inl x2), (3, .inl x3)] [.inr (.inr (some 725))] dM_200_32 (fun _ => rfl) (Or.inr rfl) ?_
      refine gs0 35 [(4, .inl ((-2))), (0, .inr (.inr (some 725))), (1, .inl x1), (2, .inl x2), (3, .inl x3)] [.inl ((-2)), .inr (.inr (some 725))] dM_200_33 (fun _ => rfl) (Or.inr rfl) ?_
      refine gsCallV (y := 128) (k := 725) (as := [.inr (.inr (some 725)), .inl ((-2))]) (r := []) dM_200_35 rfl rfl rfl (Nat.le_of_ble_eq_true rfl) sk_725 rfl (Nat.le_of_ble_eq_true rfl) (EvS.up hnn (Nat.le_of_ble_eq_true rfl)) (fun v22 t23 hv24 => ?_)
      obtain ⟨n25, rfl, hnnn⟩ := hv24
      clear hnn
      show GoS _ _ _ _ _ _ _ _ [(4, .inl ((-2))), (0, .inr (.inr (some 725))), (1, .inl x1), (2, .inl x2), (3, .inl x3)] [.inl n25] t23 _
      refine gsRet (r := some (.inl n25)) dM_200_38 (fun _ => rfl) (Or.inr rfl) ?_
      exact hnnn
def g_201_8  (y1 : Int32) (y2 : Int32) (sg : rSg) (P : Option rv → rSg → Prop) : Prop := GoS rSkel 7 9 5 (some .boolean) false prog_11_method_92_code 8 [(0, .inr (.inr (some 725))), (1, .inl y1), (2, .inl y2)] [] sg P
set_option maxRecDepth 100000 in
theorem w_201_8 (sg : rSg)  (y1 : Int32) (y2 : Int32) {P : Option rv → rSg → Prop} (h :
    (4 ≤ y2 → 
      (rBool y1 = true ∧
      P (some (.inl y1)) sg)) ∧
    (¬ (4 ≤ y2) → 
      EvS rSkel 3 202 [.inr (.inr (some 725))] sg (fun v5 t6 => ∃ n8, v5 = some (.inl n8) ∧
        EvS rSkel 3 202 [.inr (.inr (some 725))] t6 (fun v9 t10 => ∃ n12, v9 = some (.inl n12) ∧
          (y1 = 0 → 
            g_201_8 0 (y2 + 1) t10 P) ∧
          (¬ (y1 = 0) → 
            EvS rSkel 7 144 [.inr (.inr (some 725)), .inl n8, .inl n12] t10 (fun v14 t15 => ∃ n17, v14 = some (.inl n17) ∧
              (n17 = 0 → 
                g_201_8 0 (y2 + 1) t15 P) ∧
              (¬ (n17 = 0) → 
                g_201_8 1 (y2 + 1) t15 P))))))) : g_201_8 y1 y2 sg P := by
  show GoS rSkel 7 9 5 (some .boolean) false prog_11_method_92_code 8 [(0, .inr (.inr (some 725))), (1, .inl y1), (2, .inl y2)] [] sg P
  refine gs0 9 [(0, .inr (.inr (some 725))), (1, .inl y1), (2, .inl y2)] [.inl y2] dM_201_8 (fun _ => rfl) (Or.inr rfl) ?_
  refine gs0 10 [(0, .inr (.inr (some 725))), (1, .inl y1), (2, .inl y2)] [.inl 4, .inl y2] dM_201_9 (fun _ => rfl) (Or.inr rfl) ?_
  refine gsIf (t := 50) (C := 4 ≤ y2) (r := []) dM_201_10 (fun _ => rfl) (Or.inr rfl) (rTest_iff .ge y2 4) (fun c4 => ?_) (fun c4 => ?_)
  · replace h := h.1 c4
    refine gs0 51 [(0, .inr (.inr (some 725))), (1, .inl y1), (2, .inl y2)] [.inl y1] dM_201_50 (fun _ => rfl) (Or.inr rfl) ?_
    refine gsRet (r := some (.inl y1)) dM_201_51 (fun _ => rRetB h.1) (Or.inr rfl) ?_
    replace h := h.2
    exact h
  · replace h := h.2 c4
    refine gs0 14 [(0, .inr (.inr (some 725))), (1, .inl y1), (2, .inl y2)] [.inr (.inr (some 725))] dM_201_13 (fun _ => rfl) (Or.inr rfl) ?_
    refine gsCallV (y := 202) (k := 725) (as := [.inr (.inr (some 725))]) (r := []) dM_201_14 rfl rfl rfl (Nat.le_of_ble_eq_true rfl) sk_725 rfl (Nat.le_of_ble_eq_true rfl) (EvS.up h (Nat.le_of_ble_eq_true rfl)) (fun v5 t6 hv7 => ?_)
    obtain ⟨n8, rfl, hn⟩ := hv7
    clear h
    show GoS _ _ _ _ _ _ _ _ [(0, .inr (.inr (some 725))), (1, .inl y1), (2, .inl y2)] [.inl n8] t6 _
    refine gs0 18 [(3, .inl n8), (0, .inr (.inr (some 725))), (1, .inl y1), (2, .inl y2)] [] dM_201_17 (fun _ => rfl) (Or.inr rfl) ?_
    refine gs0 19 [(3, .inl n8), (0, .inr (.inr (some 725))), (1, .inl y1), (2, .inl y2)] [.inr (.inr (some 725))] dM_201_18 (fun _ => rfl) (Or.inr rfl) ?_
    refine gsCallV (y := 202) (k := 725) (as := [.inr (.inr (some 725))]) (r := []) dM_201_19 rfl rfl rfl (Nat.le_of_ble_eq_true rfl) sk_725 rfl (Nat.le_of_ble_eq_true rfl) (EvS.up hn (Nat.le_of_ble_eq_true rfl)) (fun v9 t10 hv11 => ?_)
    obtain ⟨n12, rfl, hnn⟩ := hv11
    clear hn
    show GoS _ _ _ _ _ _ _ _ [(3, .inl n8), (0, .inr (.inr (some 725))), (1, .inl y1), (2, .inl y2)] [.inl n12] t10 _
    refine gs0 24 [(4, .inl n12), (3, .inl n8), (0, .inr (.inr (some 725))), (1, .inl y1), (2, .inl y2)] [] dM_201_22 (fun _ => rfl) (Or.inr rfl) ?_
    refine gs0 25 [(4, .inl n12), (3, .inl n8), (0, .inr (.inr (some 725))), (1, .inl y1), (2, .inl y2)] [.inl y1] dM_201_24 (fun _ => rfl) (Or.inr rfl) ?_
    refine gsIf (t := 42) (C := y1 = 0) (r := []) dM_201_25 (fun _ => rfl) (Or.inr rfl) (rTest_iff .eq y1 0) (fun c13 => ?_) (fun c13 => ?_)
    · replace hnn := hnn.1 c13
      refine gs0 43 [(4, .inl n12), (3, .inl n8), (0, .inr (.inr (some 725))), (1, .inl y1), (2, .inl y2)] [.inl 0] dM_201_42 (fun _ => rfl) (Or.inr rfl) ?_
      refine gs0 44 [(1, .inl 0), (4, .inl n12), (3, .inl n8), (0, .inr (.inr (some 725))), (2, .inl y2)] [] dM_201_43 (fun _ => rfl) (Or.inr rfl) ?_
      refine gs0 47 [(2, .inl (y2 + 1)), (1, .inl 0), (4, .inl n12), (3, .inl n8), (0, .inr (.inr (some 725)))] [] dM_201_44 (fun _ => rfl) (Or.inr rfl) ?_
      refine gs0 8 [(2, .inl (y2 + 1)), (1, .inl 0), (4, .inl n12), (3, .inl n8), (0, .inr (.inr (some 725)))] [] dM_201_47 (fun _ => rfl) (Or.inr rfl) ?_
      exact GoS.sub (Lnd_keys (ks := [0, 1, 2]) rfl (by decide)) (Lsub_cons rfl (Lsub_cons rfl (Lsub_cons rfl Lsub_nil))) hnn
    · replace hnn := hnn.2 c13
      refine gs0 29 [(4, .inl n12), (3, .inl n8), (0, .inr (.inr (some 725))), (1, .inl y1), (2, .inl y2)] [.inr (.inr (some 725))] dM_201_28 (fun _ => rfl) (Or.inr rfl) ?_
      refine gs0 30 [(4, .inl n12), (3, .inl n8), (0, .inr (.inr (some 725))), (1, .inl y1), (2, .inl y2)] [.inl n8, .inr (.inr (some 725))] dM_201_29 (fun _ => rfl) (Or.inr rfl) ?_
      refine gs0 32 [(4, .inl n12), (3, .inl n8), (0, .inr (.inr (some 725))), (1, .inl y1), (2, .inl y2)] [.inl n12, .inl n8, .inr (.inr (some 725))] dM_201_30 (fun _ => rfl) (Or.inr rfl) ?_
      refine gsCallV (y := 144) (k := 725) (as := [.inr (.inr (some 725)), .inl n8, .inl n12]) (r := []) dM_201_32 rfl rfl rfl (Nat.le_of_ble_eq_true rfl) sk_725 rfl (Nat.le_of_ble_eq_true rfl) (EvS.up hnn (Nat.le_of_ble_eq_true rfl)) (fun v14 t15 hv16 => ?_)
      obtain ⟨n17, rfl, hnnn⟩ := hv16
      clear hnn
      show GoS _ _ _ _ _ _ _ _ [(4, .inl n12), (3, .inl n8), (0, .inr (.inr (some 725))), (1, .inl y1), (2, .inl y2)] [.inl n17] t15 _
      refine gsIf (t := 42) (C := n17 = 0) (r := []) dM_201_35 (fun _ => rfl) (Or.inr rfl) (rTest_iff .eq n17 0) (fun c18 => ?_) (fun c18 => ?_)
      · replace hnnn := hnnn.1 c18
        refine gs0 43 [(4, .inl n12), (3, .inl n8), (0, .inr (.inr (some 725))), (1, .inl y1), (2, .inl y2)] [.inl 0] dM_201_42 (fun _ => rfl) (Or.inr rfl) ?_
        refine gs0 44 [(1, .inl 0), (4, .inl n12), (3, .inl n8), (0, .inr (.inr (some 725))), (2, .inl y2)] [] dM_201_43 (fun _ => rfl) (Or.inr rfl) ?_
        refine gs0 47 [(2, .inl (y2 + 1)), (1, .inl 0), (4, .inl n12), (3, .inl n8), (0, .inr (.inr (some 725)))] [] dM_201_44 (fun _ => rfl) (Or.inr rfl) ?_
        refine gs0 8 [(2, .inl (y2 + 1)), (1, .inl 0), (4, .inl n12), (3, .inl n8), (0, .inr (.inr (some 725)))] [] dM_201_47 (fun _ => rfl) (Or.inr rfl) ?_
        exact GoS.sub (Lnd_keys (ks := [0, 1, 2]) rfl (by decide)) (Lsub_cons rfl (Lsub_cons rfl (Lsub_cons rfl Lsub_nil))) hnnn
      · replace hnnn := hnnn.2 c18
        refine gs0 39 [(4, .inl n12), (3, .inl n8), (0, .inr (.inr (some 725))), (1, .inl y1), (2, .inl y2)] [.inl 1] dM_201_38 (fun _ => rfl) (Or.inr rfl) ?_
        refine gs0 43 [(4, .inl n12), (3, .inl n8), (0, .inr (.inr (some 725))), (1, .inl y1), (2, .inl y2)] [.inl 1] dM_201_39 (fun _ => rfl) (Or.inr rfl) ?_
        refine gs0 44 [(1, .inl 1), (4, .inl n12), (3, .inl n8), (0, .inr (.inr (some 725))), (2, .inl y2)] [] dM_201_43 (fun _ => rfl) (Or.inr rfl) ?_
        refine gs0 47 [(2, .inl (y2 + 1)), (1, .inl 1), (4, .inl n12), (3, .inl n8), (0, .inr (.inr (some 725)))] [] dM_201_44 (fun _ => rfl) (Or.inr rfl) ?_
        refine gs0 8 [(2, .inl (y2 + 1)), (1, .inl 1), (4, .inl n12), (3, .inl n8), (0, .inr (.inr (some 725)))] [] dM_201_47 (fun _ => rfl) (Or.inr rfl) ?_
        exact GoS.sub (Lnd_keys (ks := [0, 1, 2]) rfl (by decide)) (Lsub_cons rfl (Lsub_cons rfl (Lsub_cons rfl Lsub_nil))) hnnn
set_option maxRecDepth 100000 in
/-- GoalsInAQueueModel.holdsByLot -/
theorem w_201 (sg : rSg)  {P : Option rv → rSg → Prop} (h :
    EvS rSkel 1 122 [.inr (.inr (some 725))] sg (fun v1 t2 => v1 = none ∧
      g_201_8 1 0 t2 P)) : EvS rSkel 8 201 [.inr (.inr (some 725))] sg P := by
  refine EvS.of (ini := false) rfl ⟨rfl, Nat.le_of_ble_eq_true rfl⟩ rfl ?_
  show GoS rSkel 7 9 5 (some .boolean) false prog_11_method_92_code 0 [(0, .inr (.inr (some 725)))] [] sg _
  refine gs0 1 [(0, .inr (.inr (some 725)))] [.inr (.inr (some 725))] dM_201_0 (fun _ => rfl) (Or.inr rfl) ?_
  refine gsCallV (y := 122) (k := 725) (as := [.inr (.inr (some 725))]) (r := []) dM_201_1 rfl rfl rfl (Nat.le_of_ble_eq_true rfl) sk_725 rfl (Nat.le_of_ble_eq_true rfl) (EvS.up h (Nat.le_of_ble_eq_true rfl)) (fun v1 t2 hv3 => ?_)
  obtain ⟨rfl, hn⟩ := hv3
  clear h
  show GoS _ _ _ _ _ _ _ _ [(0, .inr (.inr (some 725)))] [] t2 _
  refine gs0 5 [(0, .inr (.inr (some 725)))] [.inl 1] dM_201_4 (fun _ => rfl) (Or.inr rfl) ?_
  refine gs0 6 [(1, .inl 1), (0, .inr (.inr (some 725)))] [] dM_201_5 (fun _ => rfl) (Or.inr rfl) ?_
  refine gs0 7 [(1, .inl 1), (0, .inr (.inr (some 725)))] [.inl 0] dM_201_6 (fun _ => rfl) (Or.inr rfl) ?_
  refine gs0 8 [(2, .inl 0), (1, .inl 1), (0, .inr (.inr (some 725)))] [] dM_201_7 (fun _ => rfl) (Or.inr rfl) ?_
  exact GoS.sub (Lnd_keys (ks := [0, 1, 2]) rfl (by decide)) (Lsub_cons rfl (Lsub_cons rfl (Lsub_cons rfl Lsub_nil))) hn
set_option maxRecDepth 100000 in
/-- GoalsInAQueueModel.termByLot -/
theorem w_202 (sg : rSg)  {P : Option rv → rSg → Prop} (h :
    EvS rSkel 1 203 [.inr (.inr (some 725)), .inl 3] sg (fun v1 t2 => ∃ n4, v1 = some (.inl n4) ∧
      (¬ n4 = 0 → 
        (¬ n4 = 1 → 
          EvS rSkel 2 204 [.inr (.inr (some 725))] t2 (fun v7 t8 => ∃ n10, v7 = some (.inl n10) ∧
            EvS rSkel 2 204 [.inr (.inr (some 725))] t8 (fun v11 t12 => ∃ n14, v11 = some (.inl n14) ∧
              EvS rSkel 1 117 [.inr (.inr (some 725)), .inl n10, .inl n14] t12 (fun v15 t16 => ∃ n18, v15 = some (.inl n18) ∧
                P (some (.inl n18)) t16)))) ∧
        (¬ (¬ n4 = 1) → 
          EvS rSkel 1 203 [.inr (.inr (some 725)), .inl 3] t2 (fun v19 t20 => ∃ n22, v19 = some (.inl n22) ∧
            P (some (.inl (64 + n22))) t20))) ∧
      (¬ (¬ n4 = 0) → 
        EvS rSkel 1 203 [.inr (.inr (some 725)), .inl 6] t2 (fun v23 t24 => ∃ n26, v23 = some (.inl n26) ∧
          P (some (.inl n26)) t24)))) : EvS rSkel 3 202 [.inr (.inr (some 725))] sg P := by
  refine EvS.of (ini := false) rfl ⟨rfl, Nat.le_of_ble_eq_true rfl⟩ rfl ?_
  show GoS rSkel 2 9 3 (some .int) false prog_11_method_91_code 0 [(0, .inr (.inr (some 725)))] [] sg _
  refine gs0 1 [(0, .inr (.inr (some 725)))] [.inr (.inr (some 725))] dM_202_0 (fun _ => rfl) (Or.inr rfl) ?_
  refine gs0 2 [(0, .inr (.inr (some 725)))] [.inl 3, .inr (.inr (some 725))] dM_202_1 (fun _ => rfl) (Or.inr rfl) ?_
  refine gsCallV (y := 203) (k := 725) (as := [.inr (.inr (some 725)), .inl 3]) (r := []) dM_202_2 rfl rfl rfl (Nat.le_of_ble_eq_true rfl) sk_725 rfl (Nat.le_of_ble_eq_true rfl) (EvS.up h (Nat.le_of_ble_eq_true rfl)) (fun v1 t2 hv3 => ?_)
  obtain ⟨n4, rfl, hn⟩ := hv3
  clear h
  show GoS _ _ _ _ _ _ _ _ [(0, .inr (.inr (some 725)))] [.inl n4] t2 _
  refine gs0 6 [(1, .inl n4), (0, .inr (.inr (some 725)))] [] dM_202_5 (fun _ => rfl) (Or.inr rfl) ?_
  refine gs0 7 [(1, .inl n4), (0, .inr (.inr (some 725)))] [.inl n4] dM_202_6 (fun _ => rfl) (Or.inr rfl) ?_
  refine gsIf (t := 17) (C := ¬ n4 = 0) (r := []) dM_202_7 (fun _ => rfl) (Or.inr rfl) (rTest_iff .ne n4 0) (fun c5 => ?_) (fun c5 => ?_)
  · replace hn := hn.1 c5
    refine gs0 18 [(1, .inl n4), (0, .inr (.inr (some 725)))] [.inl n4] dM_202_17 (fun _ => rfl) (Or.inr rfl) ?_
    refine gs0 19 [(1, .inl n4), (0, .inr (.inr (some 725)))] [.inl 1, .inl n4] dM_202_18 (fun _ => rfl) (Or.inr rfl) ?_
    refine gsIf (t := 31) (C := ¬ n4 = 1) (r := []) dM_202_19 (fun _ => rfl) (Or.inr rfl) (rTest_iff .ne n4 1) (fun c6 => ?_) (fun c6 => ?_)
    · replace hn := hn.1 c6
      refine gs0 32 [(1, .inl n4), (0, .inr (.inr (some 725)))] [.inr (.inr (some 725))] dM_202_31 (fun _ => rfl) (Or.inr rfl) ?_
      refine gsCallV (y := 204) (k := 725) (as := [.inr (.inr (some 725))]) (r := []) dM_202_32 rfl rfl rfl (Nat.le_of_ble_eq_true rfl) sk_725 rfl (Nat.le_of_ble_eq_true rfl) (EvS.up hn (Nat.le_of_ble_eq_true rfl)) (fun v7 t8 hv9 => ?_)
      obtain ⟨n10, rfl, hnn⟩ := hv9
      clear hn
      show GoS _ _ _ _ _ _ _ _ [(1, .inl n4), (0, .inr (.inr (some 725)))] [.inl n10] t8 _
      refine gs0 36 [(2, .inl n10), (1, .inl n4), (0, .inr (.inr (some 725)))] [] dM_202_35 (fun _ => rfl) (Or.inr rfl) ?_
      refine gs0 37 [(2, .inl n10), (1, .inl n4), (0, .inr (.inr (some 725)))] [.inr (.inr (some 725))] dM_202_36 (fun _ => rfl) (Or.inr rfl) ?_
      refine gs0 38 [(2, .inl n10), (1, .inl n4), (0, .inr (.inr (some 725)))] [.inl n10, .inr (.inr (some 725))] dM_202_37 (fun _ => rfl) (Or.inr rfl) ?_
      refine gs0 39 [(2, .inl n10), (1, .inl n4), (0, .inr (.inr (some 725)))] [.inr (.inr (some 725)), .inl n10, .inr (.inr (some 725))] dM_202_38 (fun _ => rfl) (Or.inr rfl) ?_
      refine gsCallV (y := 204) (k := 725) (as := [.inr (.inr (some 725))]) (r := [.inl n10, .inr (.inr (some 725))]) dM_202_39 rfl rfl rfl (Nat.le_of_ble_eq_true rfl) sk_725 rfl (Nat.le_of_ble_eq_true rfl) (EvS.up hnn (Nat.le_of_ble_eq_true rfl)) (fun v11 t12 hv13 => ?_)
      obtain ⟨n14, rfl, hnnn⟩ := hv13
      clear hnn
      show GoS _ _ _ _ _ _ _ _ [(2, .inl n10), (1, .inl n4), (0, .inr (.inr (some 725)))] [.inl n14, .inl n10, .inr (.inr (some 725))] t12 _
      refine gsCallV (y := 117) (k := 725) (as := [.inr (.inr (some 725)), .inl n10, .inl n14]) (r := []) dM_202_42 rfl rfl rfl (Nat.le_of_ble_eq_true rfl) sk_725 rfl (Nat.le_of_ble_eq_true rfl) (EvS.up hnnn (Nat.le_of_ble_eq_true rfl)) (fun v15 t16 hv17 => ?_)
      obtain ⟨n18, rfl, hnnnn⟩ := hv17
      clear hnnn
      show GoS _ _ _ _ _ _ _ _ [(2, .inl n10), (1, .inl n4), (0, .inr (.inr (some 725)))] [.inl n18] t16 _
      refine gsRet (r := some (.inl n18)) dM_202_45 (fun _ => rfl) (Or.inr rfl) ?_
      exact hnnnn
    · replace hn := hn.2 c6
      refine gs0 24 [(1, .inl n4), (0, .inr (.inr (some 725)))] [.inl 64] dM_202_22 (fun _ => rfl) (Or.inr rfl) ?_
      refine gs0 25 [(1, .inl n4), (0, .inr (.inr (some 725)))] [.inr (.inr (some 725)), .inl 64] dM_202_24 (fun _ => rfl) (Or.inr rfl) ?_
      refine gs0 26 [(1, .inl n4), (0, .inr (.inr (some 725)))] [.inl 3, .inr (.inr (some 725)), .inl 64] dM_202_25 (fun _ => rfl) (Or.inr rfl) ?_
      refine gsCallV (y := 203) (k := 725) (as := [.inr (.inr (some 725)), .inl 3]) (r := [.inl 64]) dM_202_26 rfl rfl rfl (Nat.le_of_ble_eq_true rfl) sk_725 rfl (Nat.le_of_ble_eq_true rfl) (EvS.up hn (Nat.le_of_ble_eq_true rfl)) (fun v19 t20 hv21 => ?_)
      obtain ⟨n22, rfl, hnn⟩ := hv21
      clear hn
      show GoS _ _ _ _ _ _ _ _ [(1, .inl n4), (0, .inr (.inr (some 725)))] [.inl n22, .inl 64] t20 _
      refine gs0 30 [(1, .inl n4), (0, .inr (.inr (some 725)))] [.inl (64 + n22)] dM_202_29 (fun _ => rfl) (Or.inr rfl) ?_
      refine gsRet (r := some (.inl (64 + n22))) dM_202_30 (fun _ => rfl) (Or.inr rfl) ?_
      exact hnn
  · replace hn := hn.2 c5
    refine gs0 11 [(1, .inl n4), (0, .inr (.inr (some 725)))] [.inr (.inr (some 725))] dM_202_10 (fun _ => rfl) (Or.inr rfl) ?_
    refine gs0 13 [(1, .inl n4), (0, .inr (.inr (some 725)))] [.inl 6, .inr (.inr (some 725))] dM_202_11 (fun _ => rfl) (Or.inr rfl) ?_
    refine gsCallV (y := 203) (k := 725) (as := [.inr (.inr (some 725)), .inl 6]) (r := []) dM_202_13 rfl rfl rfl (Nat.le_of_ble_eq_true rfl) sk_725 rfl (Nat.le_of_ble_eq_true rfl) (EvS.up hn (Nat.le_of_ble_eq_true rfl)) (fun v23 t24 hv25 => ?_)
    obtain ⟨n26, rfl, hnn⟩ := hv25
    clear hn
    show GoS _ _ _ _ _ _ _ _ [(1, .inl n4), (0, .inr (.inr (some 725)))] [.inl n26] t24 _
    refine gsRet (r := some (.inl n26)) dM_202_16 (fun _ => rfl) (Or.inr rfl) ?_
    exact hnn
set_option maxRecDepth 100000 in
/-- GoalsInAQueueModel.draw -/
theorem w_203 (sg : rSg) (x1 : Int32) {P : Option rv → rSg → Prop} (h :
    (¬ x1 = 0 ∧
    P (some (.inl (irem (((((sg 725 59) * 1664525) + 1013904223) &&& 2147483647) / 256) x1))) (up2 sg 725 59 (((sg 725 59) * 1664525) + 1013904223)))) : EvS rSkel 1 203 [.inr (.inr (some 725)), .inl x1] sg P := by
  refine EvS.of (ini := false) rfl ⟨rfl, Nat.le_of_ble_eq_true rfl⟩ rfl ?_
  show GoS rSkel 0 9 2 (some .int) false prog_11_method_89_code 0 [(0, .inr (.inr (some 725))), (1, .inl x1)] [] sg _
  refine gs0 1 [(0, .inr (.inr (some 725))), (1, .inl x1)] [.inr (.inr (some 725))] dM_203_0 (fun _ => rfl) (Or.inr rfl) ?_
  refine gs0 2 [(0, .inr (.inr (some 725))), (1, .inl x1)] [.inr (.inr (some 725)), .inr (.inr (some 725))] dM_203_1 (fun _ => rfl) (Or.inr rfl) ?_
  refine gsGetE (sg 725 59) dM_203_2 sk_725 rfl rfl rfl ?_
  refine gs0 8 [(0, .inr (.inr (some 725))), (1, .inl x1)] [.inl 1664525, .inl (sg 725 59), .inr (.inr (some 725))] dM_203_5 (fun _ => rfl) (Or.inr rfl) ?_
  refine gs0 9 [(0, .inr (.inr (some 725))), (1, .inl x1)] [.inl ((sg 725 59) * 1664525), .inr (.inr (some 725))] dM_203_8 (fun _ => rfl) (Or.inr rfl) ?_
  refine gs0 12 [(0, .inr (.inr (some 725))), (1, .inl x1)] [.inl 1013904223, .inl ((sg 725 59) * 1664525), .inr (.inr (some 725))] dM_203_9 (fun _ => rfl) (Or.inr rfl) ?_
  refine gs0 13 [(0, .inr (.inr (some 725))), (1, .inl x1)] [.inl (((sg 725 59) * 1664525) + 1013904223), .inr (.inr (some 725))] dM_203_12 (fun _ => rfl) (Or.inr rfl) ?_
  refine gsPut dM_203_13 sk_725 rfl rfl rfl (by decide) ?_
  refine gs0 17 [(0, .inr (.inr (some 725))), (1, .inl x1)] [.inr (.inr (some 725))] dM_203_16 (fun _ => rfl) (Or.inr rfl) ?_
  refine gsGetE (((sg 725 59) * 1664525) + 1013904223) dM_203_17 sk_725 rfl rfl (up2_same _ _ _ _) ?_
  refine gs0 23 [(0, .inr (.inr (some 725))), (1, .inl x1)] [.inl 2147483647, .inl (((sg 725 59) * 1664525) + 1013904223)] dM_203_20 (fun _ => rfl) (Or.inr rfl) ?_
  refine gs0 24 [(0, .inr (.inr (some 725))), (1, .inl x1)] [.inl ((((sg 725 59) * 1664525) + 1013904223) &&& 2147483647)] dM_203_23 (fun _ => rfl) (Or.inr rfl) ?_
  refine gs0 27 [(0, .inr (.inr (some 725))), (1, .inl x1)] [.inl 256, .inl ((((sg 725 59) * 1664525) + 1013904223) &&& 2147483647)] dM_203_24 (fun _ => rfl) (Or.inr rfl) ?_
  refine gs0 28 [(0, .inr (.inr (some 725))), (1, .inl x1)] [.inl (((((sg 725 59) * 1664525) + 1013904223) &&& 2147483647) / 256)] dM_203_27 (fun _ => rfl) (Or.inr rfl) ?_
  refine gs0 29 [(0, .inr (.inr (some 725))), (1, .inl x1)] [.inl x1, .inl (((((sg 725 59) * 1664525) + 1013904223) &&& 2147483647) / 256)] dM_203_28 (fun _ => rfl) (Or.inr rfl) ?_
  refine gs0 30 [(0, .inr (.inr (some 725))), (1, .inl x1)] [.inl (irem (((((sg 725 59) * 1664525) + 1013904223) &&& 2147483647) / 256) x1)] dM_203_29 (fun _ => rIns_irem h.1) (Or.inr rfl) ?_
  replace h := h.2
  refine gsRet (r := some (.inl (irem (((((sg 725 59) * 1664525) + 1013904223) &&& 2147483647) / 256) x1))) dM_203_30 (fun _ => rfl) (Or.inr rfl) ?_
  exact h
set_option maxRecDepth 100000 in
/-- GoalsInAQueueModel.partByLot -/
theorem w_204 (sg : rSg)  {P : Option rv → rSg → Prop} (h :
    EvS rSkel 1 203 [.inr (.inr (some 725)), .inl 2] sg (fun v1 t2 => ∃ n4, v1 = some (.inl n4) ∧
      (¬ n4 = 0 → 
        EvS rSkel 1 203 [.inr (.inr (some 725)), .inl 3] t2 (fun v6 t7 => ∃ n9, v6 = some (.inl n9) ∧
          P (some (.inl (64 + n9))) t7)) ∧
      (¬ (¬ n4 = 0) → 
        EvS rSkel 1 203 [.inr (.inr (some 725)), .inl 6] t2 (fun v10 t11 => ∃ n13, v10 = some (.inl n13) ∧
          P (some (.inl n13)) t11)))) : EvS rSkel 2 204 [.inr (.inr (some 725))] sg P := by
  refine EvS.of (ini := false) rfl ⟨rfl, Nat.le_of_ble_eq_true rfl⟩ rfl ?_
  show GoS rSkel 1 9 1 (some .int) false prog_11_method_90_code 0 [(0, .inr (.inr (some 725)))] [] sg _
  refine gs0 1 [(0, .inr (.inr (some 725)))] [.inr (.inr (some 725))] dM_204_0 (fun _ => rfl) (Or.inr rfl) ?_
  refine gs0 2 [(0, .inr (.inr (some 725)))] [.inl 2, .inr (.inr (some 725))] dM_204_1 (fun _ => rfl) (Or.inr rfl) ?_
  refine gsCallV (y := 203) (k := 725) (as := [.inr (.inr (some 725)), .inl 2]) (r := []) dM_204_2 rfl rfl rfl (Nat.le_of_ble_eq_true rfl) sk_725 rfl (Nat.le_of_ble_eq_true rfl) (EvS.up h (Nat.le_of_ble_eq_true rfl)) (fun v1 t2 hv3 => ?_)
  obtain ⟨n4, rfl, hn⟩ := hv3
  clear h
  show GoS _ _ _ _ _ _ _ _ [(0, .inr (.inr (some 725)))] [.inl n4] t2 _
  refine gsIf (t := 15) (C := ¬ n4 = 0) (r := []) dM_204_5 (fun _ => rfl) (Or.inr rfl) (rTest_iff .ne n4 0) (fun c5 => ?_) (fun c5 => ?_)
  · replace hn := hn.1 c5
    refine gs0 17 [(0, .inr (.inr (some 725)))] [.inl 64] dM_204_15 (fun _ => rfl) (Or.inr rfl) ?_
    refine gs0 18 [(0, .inr (.inr (some 725)))] [.inr (.inr (some 725)), .inl 64] dM_204_17 (fun _ => rfl) (Or.inr rfl) ?_
    refine gs0 19 [(0, .inr (.inr (some 725)))] [.inl 3, .inr (.inr (some 725)), .inl 64] dM_204_18 (fun _ => rfl) (Or.inr rfl) ?_
    refine gsCallV (y := 203) (k := 725) (as := [.inr (.inr (some 725)), .inl 3]) (r := [.inl 64]) dM_204_19 rfl rfl rfl (Nat.le_of_ble_eq_true rfl) sk_725 rfl (Nat.le_of_ble_eq_true rfl) (EvS.up hn (Nat.le_of_ble_eq_true rfl)) (fun v6 t7 hv8 => ?_)
    obtain ⟨n9, rfl, hnn⟩ := hv8
    clear hn
    show GoS _ _ _ _ _ _ _ _ [(0, .inr (.inr (some 725)))] [.inl n9, .inl 64] t7 _
    refine gs0 23 [(0, .inr (.inr (some 725)))] [.inl (64 + n9)] dM_204_22 (fun _ => rfl) (Or.inr rfl) ?_
    refine gsRet (r := some (.inl (64 + n9))) dM_204_23 (fun _ => rfl) (Or.inr rfl) ?_
    exact hnn
  · replace hn := hn.2 c5
    refine gs0 9 [(0, .inr (.inr (some 725)))] [.inr (.inr (some 725))] dM_204_8 (fun _ => rfl) (Or.inr rfl) ?_
    refine gs0 11 [(0, .inr (.inr (some 725)))] [.inl 6, .inr (.inr (some 725))] dM_204_9 (fun _ => rfl) (Or.inr rfl) ?_
    refine gsCallV (y := 203) (k := 725) (as := [.inr (.inr (some 725)), .inl 6]) (r := []) dM_204_11 rfl rfl rfl (Nat.le_of_ble_eq_true rfl) sk_725 rfl (Nat.le_of_ble_eq_true rfl) (EvS.up hn (Nat.le_of_ble_eq_true rfl)) (fun v10 t11 hv12 => ?_)
    obtain ⟨n13, rfl, hnn⟩ := hv12
    clear hn
    show GoS _ _ _ _ _ _ _ _ [(0, .inr (.inr (some 725)))] [.inl n13] t11 _
    refine gsRet (r := some (.inl n13)) dM_204_14 (fun _ => rfl) (Or.inr rfl) ?_
    exact hnn
def g_205_4  (y1 : Int32) (y2 : Int32) (sg : rSg) (P : Option rv → rSg → Prop) : Prop := GoS rSkel 2 9 3 (some .int) false prog_11_method_93_code 4 [(0, .inr (.inr (some 725))), (1, .inl y1), (2, .inl y2)] [] sg P
set_option maxRecDepth 100000 in
theorem w_205_4 (sg : rSg)  (y1 : Int32) (y2 : Int32) {P : Option rv → rSg → Prop} (h :
    (6 ≤ y2 → 
      P (some (.inl y1)) sg) ∧
    (¬ (6 ≤ y2) → 
      EvS rSkel 2 146 [.inr (.inr (some 725)), .inl (2 * y2)] sg (fun v2 t3 => ∃ n5, v2 = some (.inl n5) ∧
        EvS rSkel 1 147 [.inl n5] t3 (fun v6 t7 => ∃ n9, v6 = some (.inl n9) ∧
          (n9 = 0 → 
            g_205_4 (y1 + 1) (y2 + 1) t7 P) ∧
          (¬ (n9 = 0) → 
            g_205_4 (y1 + 0) (y2 + 1) t7 P))))) : g_205_4 y1 y2 sg P := by
  show GoS rSkel 2 9 3 (some .int) false prog_11_method_93_code 4 [(0, .inr (.inr (some 725))), (1, .inl y1), (2, .inl y2)] [] sg P
  refine gs0 5 [(0, .inr (.inr (some 725))), (1, .inl y1), (2, .inl y2)] [.inl y2] dM_205_4 (fun _ => rfl) (Or.inr rfl) ?_
  refine gs0 7 [(0, .inr (.inr (some 725))), (1, .inl y1), (2, .inl y2)] [.inl 6, .inl y2] dM_205_5 (fun _ => rfl) (Or.inr rfl) ?_
  refine gsIf (t := 37) (C := 6 ≤ y2) (r := []) dM_205_7 (fun _ => rfl) (Or.inr rfl) (rTest_iff .ge y2 6) (fun c1 => ?_) (fun c1 => ?_)
  · replace h := h.1 c1
    refine gs0 38 [(0, .inr (.inr (some 725))), (1, .inl y1), (2, .inl y2)] [.inl y1] dM_205_37 (fun _ => rfl) (Or.inr rfl) ?_
    refine gsRet (r := some (.inl y1)) dM_205_38 (fun _ => rfl) (Or.inr rfl) ?_
    exact h
  · replace h := h.2 c1
    refine gs0 11 [(0, .inr (.inr (some 725))), (1, .inl y1), (2, .inl y2)] [.inl y1] dM_205_10 (fun _ => rfl) (Or.inr rfl) ?_
    refine gs0 12 [(0, .inr (.inr (some 725))), (1, .inl y1), (2, .inl y2)] [.inr (.inr (some 725)), .inl y1] dM_205_11 (fun _ => rfl) (Or.inr rfl) ?_
    refine gs0 13 [(0, .inr (.inr (some 725))), (1, .inl y1), (2, .inl y2)] [.inl 2, .inr (.inr (some 725)), .inl y1] dM_205_12 (fun _ => rfl) (Or.inr rfl) ?_
    refine gs0 14 [(0, .inr (.inr (some 725))), (1, .inl y1), (2, .inl y2)] [.inl y2, .inl 2, .inr (.inr (some 725)), .inl y1] dM_205_13 (fun _ => rfl) (Or.inr rfl) ?_
    refine gs0 15 [(0, .inr (.inr (some 725))), (1, .inl y1), (2, .inl y2)] [.inl (2 * y2), .inr (.inr (some 725)), .inl y1] dM_205_14 (fun _ => rfl) (Or.inr rfl) ?_
    refine gsCallV (y := 146) (k := 725) (as := [.inr (.inr (some 725)), .inl (2 * y2)]) (r := [.inl y1]) dM_205_15 rfl rfl rfl (Nat.le_of_ble_eq_true rfl) sk_725 rfl (Nat.le_of_ble_eq_true rfl) (EvS.up h (Nat.le_of_ble_eq_true rfl)) (fun v2 t3 hv4 => ?_)
    obtain ⟨n5, rfl, hn⟩ := hv4
    clear h
    show GoS _ _ _ _ _ _ _ _ [(0, .inr (.inr (some 725))), (1, .inl y1), (2, .inl y2)] [.inl n5, .inl y1] t3 _
    refine gsCallS (y := 147) (as := [.inl n5]) (r := [.inl y1]) dM_205_18 rfl (Or.inl rfl) rfl rfl (Nat.le_of_ble_eq_true rfl) (EvS.up hn (Nat.le_of_ble_eq_true rfl)) (fun v6 t7 hv8 => ?_)
    obtain ⟨n9, rfl, hnn⟩ := hv8
    clear hn
    show GoS _ _ _ _ _ _ _ _ [(0, .inr (.inr (some 725))), (1, .inl y1), (2, .inl y2)] [.inl n9, .inl y1] t7 _
    refine gsIf (t := 28) (C := n9 = 0) (r := [.inl y1]) dM_205_21 (fun _ => rfl) (Or.inr rfl) (rTest_iff .eq n9 0) (fun c10 => ?_) (fun c10 => ?_)
    · replace hnn := hnn.1 c10
      refine gs0 29 [(0, .inr (.inr (some 725))), (1, .inl y1), (2, .inl y2)] [.inl 1, .inl y1] dM_205_28 (fun _ => rfl) (Or.inr rfl) ?_
      refine gs0 30 [(0, .inr (.inr (some 725))), (1, .inl y1), (2, .inl y2)] [.inl (y1 + 1)] dM_205_29 (fun _ => rfl) (Or.inr rfl) ?_
      refine gs0 31 [(1, .inl (y1 + 1)), (0, .inr (.inr (some 725))), (2, .inl y2)] [] dM_205_30 (fun _ => rfl) (Or.inr rfl) ?_
      refine gs0 34 [(2, .inl (y2 + 1)), (1, .inl (y1 + 1)), (0, .inr (.inr (some 725)))] [] dM_205_31 (fun _ => rfl) (Or.inr rfl) ?_
      refine gs0 4 [(2, .inl (y2 + 1)), (1, .inl (y1 + 1)), (0, .inr (.inr (some 725)))] [] dM_205_34 (fun _ => rfl) (Or.inr rfl) ?_
      exact GoS.sub (Lnd_keys (ks := [0, 1, 2]) rfl (by decide)) (Lsub_cons rfl (Lsub_cons rfl (Lsub_cons rfl Lsub_nil))) hnn
    · replace hnn := hnn.2 c10
      refine gs0 25 [(0, .inr (.inr (some 725))), (1, .inl y1), (2, .inl y2)] [.inl 0, .inl y1] dM_205_24 (fun _ => rfl) (Or.inr rfl) ?_
      refine gs0 29 [(0, .inr (.inr (some 725))), (1, .inl y1), (2, .inl y2)] [.inl 0, .inl y1] dM_205_25 (fun _ => rfl) (Or.inr rfl) ?_
      refine gs0 30 [(0, .inr (.inr (some 725))), (1, .inl y1), (2, .inl y2)] [.inl (y1 + 0)] dM_205_29 (fun _ => rfl) (Or.inr rfl) ?_
      refine gs0 31 [(1, .inl (y1 + 0)), (0, .inr (.inr (some 725))), (2, .inl y2)] [] dM_205_30 (fun _ => rfl) (Or.inr rfl) ?_
      refine gs0 34 [(2, .inl (y2 + 1)), (1, .inl (y1 + 0)), (0, .inr (.inr (some 725)))] [] dM_205_31 (fun _ => rfl) (Or.inr rfl) ?_
      refine gs0 4 [(2, .inl (y2 + 1)), (1, .inl (y1 + 0)), (0, .inr (.inr (some 725)))] [] dM_205_34 (fun _ => rfl) (Or.inr rfl) ?_
      exact GoS.sub (Lnd_keys (ks := [0, 1, 2]) rfl (by decide)) (Lsub_cons rfl (Lsub_cons rfl (Lsub_cons rfl Lsub_nil))) hnn
set_option maxRecDepth 100000 in
/-- GoalsInAQueueModel.manyClosed -/
theorem w_205 (sg : rSg)  {P : Option rv → rSg → Prop} (h :
    g_205_4 0 0 sg P) : EvS rSkel 3 205 [.inr (.inr (some 725))] sg P := by
  refine EvS.of (ini := false) rfl ⟨rfl, Nat.le_of_ble_eq_true rfl⟩ rfl ?_
  show GoS rSkel 2 9 3 (some .int) false prog_11_method_93_code 0 [(0, .inr (.inr (some 725)))] [] sg _
  refine gs0 1 [(0, .inr (.inr (some 725)))] [.inl 0] dM_205_0 (fun _ => rfl) (Or.inr rfl) ?_
  refine gs0 2 [(1, .inl 0), (0, .inr (.inr (some 725)))] [] dM_205_1 (fun _ => rfl) (Or.inr rfl) ?_
  refine gs0 3 [(1, .inl 0), (0, .inr (.inr (some 725)))] [.inl 0] dM_205_2 (fun _ => rfl) (Or.inr rfl) ?_
  refine gs0 4 [(2, .inl 0), (1, .inl 0), (0, .inr (.inr (some 725)))] [] dM_205_3 (fun _ => rfl) (Or.inr rfl) ?_
  exact GoS.sub (Lnd_keys (ks := [0, 1, 2]) rfl (by decide)) (Lsub_cons rfl (Lsub_cons rfl (Lsub_cons rfl Lsub_nil))) h
set_option maxRecDepth 100000 in
/-- GoalsInAQueueModel.count -/
theorem w_206 (sg : rSg) (x1 : Int32) {P : Option rv → rSg → Prop} (h :
    EvS rSkel 1 119 [.inl x1, .inl 11, .inl 16] sg (fun v1 t2 => ∃ n4, v1 = some (.inl n4) ∧
      (n4 = 0 → 
        EvS rSkel 2 207 [.inr (.inr (some 725))] t2 (fun v6 t7 => v6 = none ∧
          (x1 = 0 → 
            P (some (.inl (t7 749 0))) t7) ∧
          (x1 = 1 → 
            P (some (.inl (t7 748 0))) t7) ∧
          (x1 = 2 → 
            P (some (.inl (t7 725 45))) t7) ∧
          (x1 = 3 → 
            P (some (.inl (t7 725 46))) t7) ∧
          (x1 = 4 → 
            P (some (.inl (t7 747 0))) t7) ∧
          (x1 = 5 → 
            P (some (.inl (t7 750 0))) t7) ∧
          (x1 = 6 → 
            P (some (.inl (t7 725 58))) t7) ∧
          (x1 = 7 → 
            P (some (.inl (t7 725 39))) t7) ∧
          (¬ x1 = 0 ∧ ¬ x1 = 1 ∧ ¬ x1 = 2 ∧ ¬ x1 = 3 ∧ ¬ x1 = 4 ∧ ¬ x1 = 5 ∧ ¬ x1 = 6 ∧ ¬ x1 = 7 →
            P (some (.inl ((-9)))) t7))) ∧
      (¬ (n4 = 0) → 
        (rIn (x1 - 10) 7 = true ∧
        P (some (.inl (t2 726 ((x1 - 10).toNatClampNeg)))) t2)))) : EvS rSkel 3 206 [.inr (.inr (some 725)), .inl x1] sg P := by
  refine EvS.of (ini := false) rfl ⟨rfl, Nat.le_of_ble_eq_true rfl⟩ rfl ?_
  show GoS rSkel 2 9 2 (some .int) false prog_11_method_95_code 0 [(0, .inr (.inr (some 725))), (1, .inl x1)] [] sg _
  refine gs0 1 [(0, .inr (.inr (some 725))), (1, .inl x1)] [.inl x1] dM_206_0 (fun _ => rfl) (Or.inr rfl) ?_
  refine gs0 3 [(0, .inr (.inr (some 725))), (1, .inl x1)] [.inl 11, .inl x1] dM_206_1 (fun _ => rfl) (Or.inr rfl) ?_
  refine gs0 5 [(0, .inr (.inr (some 725))), (1, .inl x1)] [.inl 16, .inl 11, .inl x1] dM_206_3 (fun _ => rfl) (Or.inr rfl) ?_
  refine gsCallS (y := 119) (as := [.inl x1, .inl 11, .inl 16]) (r := []) dM_206_5 rfl (Or.inl rfl) rfl rfl (Nat.le_of_ble_eq_true rfl) (EvS.up h (Nat.le_of_ble_eq_true rfl)) (fun v1 t2 hv3 => ?_)
  obtain ⟨n4, rfl, hn⟩ := hv3
  clear h
  show GoS _ _ _ _ _ _ _ _ [(0, .inr (.inr (some 725))), (1, .inl x1)] [.inl n4] t2 _
  refine gsIf (t := 21) (C := n4 = 0) (r := []) dM_206_8 (fun _ => rfl) (Or.inr rfl) (rTest_iff .eq n4 0) (fun c5 => ?_) (fun c5 => ?_)
  · replace hn := hn.1 c5
    refine gs0 22 [(0, .inr (.inr (some 725))), (1, .inl x1)] [.inr (.inr (some 725))] dM_206_21 (fun _ => rfl) (Or.inr rfl) ?_
    refine gsCallV (y := 207) (k := 725) (as := [.inr (.inr (some 725))]) (r := []) dM_206_22 rfl rfl rfl (Nat.le_of_ble_eq_true rfl) sk_725 rfl (Nat.le_of_ble_eq_true rfl) (EvS.up hn (Nat.le_of_ble_eq_true rfl)) (fun v6 t7 hv8 => ?_)
    obtain ⟨rfl, hnn⟩ := hv8
    clear hn
    show GoS _ _ _ _ _ _ _ _ [(0, .inr (.inr (some 725))), (1, .inl x1)] [] t7 _
    refine gs0 26 [(0, .inr (.inr (some 725))), (1, .inl x1)] [.inl x1] dM_206_25 (fun _ => rfl) (Or.inr rfl) ?_
    by_cases c9_0 : x1 = 0
    · replace hnn := hnn.1 c9_0
      refine gs0 72 [(0, .inr (.inr (some 725))), (1, .inl x1)] [] dM_206_26 (fun _ => by rw [c9_0]; rfl) (Or.inl rfl) ?_
      refine gs0 73 [(0, .inr (.inr (some 725))), (1, .inl x1)] [.inr (.inr (some 725))] dM_206_72 (fun _ => rfl) (Or.inr rfl) ?_
      refine gsGetR (some 749) dM_206_73 sk_725 rfl rfl ?_
      refine gs0 77 [(0, .inr (.inr (some 725))), (1, .inl x1)] [.inl 0, .inr (.inr (some 749))] dM_206_76 (fun _ => rfl) (Or.inr rfl) ?_
      refine gsIaldN 0 (t7 749 0) dM_206_77 sk_749 rfl rfl rfl ?_
      refine gsRet (r := some (.inl (t7 749 0))) dM_206_78 (fun _ => rfl) (Or.inr rfl) ?_
      exact hnn
    replace hnn := hnn.2
    by_cases c9_1 : x1 = 1
    · replace hnn := hnn.1 c9_1
      refine gs0 79 [(0, .inr (.inr (some 725))), (1, .inl x1)] [] dM_206_26 (fun _ => by rw [c9_1]; rfl) (Or.inl rfl) ?_
      refine gs0 80 [(0, .inr (.inr (some 725))), (1, .inl x1)] [.inr (.inr (some 725))] dM_206_79 (fun _ => rfl) (Or.inr rfl) ?_
      refine gsGetR (some 748) dM_206_80 sk_725 rfl rfl ?_
      refine gs0 84 [(0, .inr (.inr (some 725))), (1, .inl x1)] [.inl 0, .inr (.inr (some 748))] dM_206_83 (fun _ => rfl) (Or.inr rfl) ?_
      refine gsIaldN 0 (t7 748 0) dM_206_84 sk_748 rfl rfl rfl ?_
      refine gsRet (r := some (.inl (t7 748 0))) dM_206_85 (fun _ => rfl) (Or.inr rfl) ?_
      exact hnn
    replace hnn := hnn.2
    by_cases c9_2 : x1 = 2
    · replace hnn := hnn.1 c9_2
      refine gs0 86 [(0, .inr (.inr (some 725))), (1, .inl x1)] [] dM_206_26 (fun _ => by rw [c9_2]; rfl) (Or.inl rfl) ?_
      refine gs0 87 [(0, .inr (.inr (some 725))), (1, .inl x1)] [.inr (.inr (some 725))] dM_206_86 (fun _ => rfl) (Or.inr rfl) ?_
      refine gsGetE (t7 725 45) dM_206_87 sk_725 rfl rfl rfl ?_
      refine gsRet (r := some (.inl (t7 725 45))) dM_206_90 (fun _ => rfl) (Or.inr rfl) ?_
      exact hnn
    replace hnn := hnn.2
    by_cases c9_3 : x1 = 3
    · replace hnn := hnn.1 c9_3
      refine gs0 91 [(0, .inr (.inr (some 725))), (1, .inl x1)] [] dM_206_26 (fun _ => by rw [c9_3]; rfl) (Or.inl rfl) ?_
      refine gs0 92 [(0, .inr (.inr (some 725))), (1, .inl x1)] [.inr (.inr (some 725))] dM_206_91 (fun _ => rfl) (Or.inr rfl) ?_
      refine gsGetE (t7 725 46) dM_206_92 sk_725 rfl rfl rfl ?_
      refine gsRet (r := some (.inl (t7 725 46))) dM_206_95 (fun _ => rfl) (Or.inr rfl) ?_
      exact hnn
    replace hnn := hnn.2
    by_cases c9_4 : x1 = 4
    · replace hnn := hnn.1 c9_4
      refine gs0 96 [(0, .inr (.inr (some 725))), (1, .inl x1)] [] dM_206_26 (fun _ => by rw [c9_4]; rfl) (Or.inl rfl) ?_
      refine gs0 97 [(0, .inr (.inr (some 725))), (1, .inl x1)] [.inr (.inr (some 725))] dM_206_96 (fun _ => rfl) (Or.inr rfl) ?_
      refine gsGetR (some 747) dM_206_97 sk_725 rfl rfl ?_
      refine gs0 101 [(0, .inr (.inr (some 725))), (1, .inl x1)] [.inl 0, .inr (.inr (some 747))] dM_206_100 (fun _ => rfl) (Or.inr rfl) ?_
      refine gsIaldN 0 (t7 747 0) dM_206_101 sk_747 rfl rfl rfl ?_
      refine gsRet (r := some (.inl (t7 747 0))) dM_206_102 (fun _ => rfl) (Or.inr rfl) ?_
      exact hnn
    replace hnn := hnn.2
    by_cases c9_5 : x1 = 5
    · replace hnn := hnn.1 c9_5
      refine gs0 103 [(0, .inr (.inr (some 725))), (1, .inl x1)] [] dM_206_26 (fun _ => by rw [c9_5]; rfl) (Or.inl rfl) ?_
      refine gs0 104 [(0, .inr (.inr (some 725))), (1, .inl x1)] [.inr (.inr (some 725))] dM_206_103 (fun _ => rfl) (Or.inr rfl) ?_
      refine gsGetR (some 750) dM_206_104 sk_725 rfl rfl ?_
      refine gs0 108 [(0, .inr (.inr (some 725))), (1, .inl x1)] [.inl 0, .inr (.inr (some 750))] dM_206_107 (fun _ => rfl) (Or.inr rfl) ?_
      refine gsIaldN 0 (t7 750 0) dM_206_108 sk_750 rfl rfl rfl ?_
      refine gsRet (r := some (.inl (t7 750 0))) dM_206_109 (fun _ => rfl) (Or.inr rfl) ?_
      exact hnn
    replace hnn := hnn.2
    by_cases c9_6 : x1 = 6
    · replace hnn := hnn.1 c9_6
      refine gs0 110 [(0, .inr (.inr (some 725))), (1, .inl x1)] [] dM_206_26 (fun _ => by rw [c9_6]; rfl) (Or.inl rfl) ?_
      refine gs0 111 [(0, .inr (.inr (some 725))), (1, .inl x1)] [.inr (.inr (some 725))] dM_206_110 (fun _ => rfl) (Or.inr rfl) ?_
      refine gsGetE (t7 725 58) dM_206_111 sk_725 rfl rfl rfl ?_
      refine gsRet (r := some (.inl (t7 725 58))) dM_206_114 (fun _ => rfl) (Or.inr rfl) ?_
      exact hnn
    replace hnn := hnn.2
    by_cases c9_7 : x1 = 7
    · replace hnn := hnn.1 c9_7
      refine gs0 115 [(0, .inr (.inr (some 725))), (1, .inl x1)] [] dM_206_26 (fun _ => by rw [c9_7]; rfl) (Or.inl rfl) ?_
      refine gs0 116 [(0, .inr (.inr (some 725))), (1, .inl x1)] [.inr (.inr (some 725))] dM_206_115 (fun _ => rfl) (Or.inr rfl) ?_
      refine gsGetE (t7 725 39) dM_206_116 sk_725 rfl rfl rfl ?_
      refine gsRet (r := some (.inl (t7 725 39))) dM_206_119 (fun _ => rfl) (Or.inr rfl) ?_
      exact hnn
    replace hnn := hnn.2
    replace hnn := hnn ⟨c9_0, c9_1, c9_2, c9_3, c9_4, c9_5, c9_6, c9_7⟩
    have ec9_0 := i32_ne c9_0 (show (0 : Int32).toInt = 0 by decide)
    have ec9_1 := i32_ne c9_1 (show (1 : Int32).toInt = 1 by decide)
    have ec9_2 := i32_ne c9_2 (show (2 : Int32).toInt = 2 by decide)
    have ec9_3 := i32_ne c9_3 (show (3 : Int32).toInt = 3 by decide)
    have ec9_4 := i32_ne c9_4 (show (4 : Int32).toInt = 4 by decide)
    have ec9_5 := i32_ne c9_5 (show (5 : Int32).toInt = 5 by decide)
    have ec9_6 := i32_ne c9_6 (show (6 : Int32).toInt = 6 by decide)
    have ec9_7 := i32_ne c9_7 (show (7 : Int32).toInt = 7 by decide)
    refine gs0 120 [(0, .inr (.inr (some 725))), (1, .inl x1)] [] dM_206_26 (fun _ => swT_out (by omega) rfl) (Or.inl rfl) ?_
    refine gs0 122 [(0, .inr (.inr (some 725))), (1, .inl x1)] [.inl ((-9))] dM_206_120 (fun _ => rfl) (Or.inr rfl) ?_
    refine gsRet (r := some (.inl ((-9)))) dM_206_122 (fun _ => rfl) (Or.inr rfl) ?_
    exact hnn
  · replace hn := hn.2 c5
    refine gs0 12 [(0, .inr (.inr (some 725))), (1, .inl x1)] [.inr (.inr (some 725))] dM_206_11 (fun _ => rfl) (Or.inr rfl) ?_
    refine gsGetR (some 726) dM_206_12 sk_725 rfl rfl ?_
    refine gs0 16 [(0, .inr (.inr (some 725))), (1, .inl x1)] [.inl x1, .inr (.inr (some 726))] dM_206_15 (fun _ => rfl) (Or.inr rfl) ?_
    refine gs0 18 [(0, .inr (.inr (some 725))), (1, .inl x1)] [.inl 10, .inl x1, .inr (.inr (some 726))] dM_206_16 (fun _ => rfl) (Or.inr rfl) ?_
    refine gs0 19 [(0, .inr (.inr (some 725))), (1, .inl x1)] [.inl (x1 - 10), .inr (.inr (some 726))] dM_206_18 (fun _ => rfl) (Or.inr rfl) ?_
    refine gsIaldN ((x1 - 10).toNatClampNeg) (t2 726 ((x1 - 10).toNatClampNeg)) dM_206_19 sk_726 hn.1 rfl rfl ?_
    replace hn := hn.2
    refine gsRet (r := some (.inl (t2 726 ((x1 - 10).toNatClampNeg)))) dM_206_20 (fun _ => rfl) (Or.inr rfl) ?_
    exact hn
def g_207_12  (y1 : Int32) (sg : rSg) (P : Option rv → rSg → Prop) : Prop := GoS rSkel 1 9 4 none false prog_11_method_47_code 12 [(0, .inr (.inr (some 725))), (1, .inl y1)] [] sg P
def g_207_66  (y1 : Int32) (y2 : Int32) (z0 : Int32) (sg : rSg) (P : Option rv → rSg → Prop) : Prop := GoS rSkel 1 9 4 none false prog_11_method_47_code 66 [(0, .inr (.inr (some 725))), (1, .inl y1), (2, .inl y2)] [.inl z0] sg P
set_option maxRecDepth 100000 in
theorem w_207_12 (sg : rSg)  (y1 : Int32) {P : Option rv → rSg → Prop} (h :
    ((sg 725 40) ≤ y1 → 
      P none sg) ∧
    (¬ ((sg 725 40) ≤ y1) → 
      (rIn y1 96 = true ∧
      EvS rSkel 1 119 [.inl (sg 753 y1.toNatClampNeg), .inl 97, .inl 102] sg (fun v2 t3 => ∃ n5, v2 = some (.inl n5) ∧
        (¬ n5 = 0 → 
          g_207_66 y1 (sg 753 y1.toNatClampNeg) 1 t3 P) ∧
        (¬ (¬ n5 = 0) → 
          EvS rSkel 1 119 [.inl (sg 753 y1.toNatClampNeg), .inl 48, .inl 57] t3 (fun v7 t8 => ∃ n10, v7 = some (.inl n10) ∧
            (¬ n10 = 0 → 
              g_207_66 y1 (sg 753 y1.toNatClampNeg) 1 t8 P) ∧
            (¬ (¬ n10 = 0) → 
              ((sg 753 y1.toNatClampNeg) = 110 → 
                g_207_66 y1 (sg 753 y1.toNatClampNeg) 1 t8 P) ∧
              (¬ ((sg 753 y1.toNatClampNeg) = 110) → 
                (¬ (sg 753 y1.toNatClampNeg) = 40 → 
                  g_207_66 y1 (sg 753 y1.toNatClampNeg) 0 t8 P) ∧
                (¬ (¬ (sg 753 y1.toNatClampNeg) = 40) → 
                  g_207_66 y1 (sg 753 y1.toNatClampNeg) 1 t8 P))))))))) : g_207_12 y1 sg P := by
  show GoS rSkel 1 9 4 none false prog_11_method_47_code 12 [(0, .inr (.inr (some 725))), (1, .inl y1)] [] sg P
  refine gs0 13 [(0, .inr (.inr (some 725))), (1, .inl y1)] [.inl y1] dM_207_12 (fun _ => rfl) (Or.inr rfl) ?_
  refine gs0 14 [(0, .inr (.inr (some 725))), (1, .inl y1)] [.inr (.inr (some 725)), .inl y1] dM_207_13 (fun _ => rfl) (Or.inr rfl) ?_
  refine gsGetE (sg 725 40) dM_207_14 sk_725 rfl rfl rfl ?_
  refine gsIf (t := 115) (C := (sg 725 40) ≤ y1) (r := []) dM_207_17 (fun _ => rfl) (Or.inr rfl) (rTest_iff .ge y1 (sg 725 40)) (fun c1 => ?_) (fun c1 => ?_)
  · replace h := h.1 c1
    refine gsRet (r := none) dM_207_115 (fun _ => rfl) (Or.inr rfl) ?_
    exact h
  · replace h := h.2 c1
    refine gs0 21 [(0, .inr (.inr (some 725))), (1, .inl y1)] [.inr (.inr (some 725))] dM_207_20 (fun _ => rfl) (Or.inr rfl) ?_
    refine gsGetR (some 753) dM_207_21 sk_725 rfl rfl ?_
    refine gs0 25 [(0, .inr (.inr (some 725))), (1, .inl y1)] [.inl y1, .inr (.inr (some 753))] dM_207_24 (fun _ => rfl) (Or.inr rfl) ?_
    refine gsIaldN y1.toNatClampNeg (sg 753 y1.toNatClampNeg) dM_207_25 sk_753 h.1 rfl rfl ?_
    replace h := h.2
    refine gs0 27 [(2, .inl (sg 753 y1.toNatClampNeg)), (0, .inr (.inr (some 725))), (1, .inl y1)] [] dM_207_26 (fun _ => rfl) (Or.inr rfl) ?_
    refine gs0 28 [(2, .inl (sg 753 y1.toNatClampNeg)), (0, .inr (.inr (some 725))), (1, .inl y1)] [.inl (sg 753 y1.toNatClampNeg)] dM_207_27 (fun _ => rfl) (Or.inr rfl) ?_
    refine gs0 30 [(2, .inl (sg 753 y1.toNatClampNeg)), (0, .inr (.inr (some 725))), (1, .inl y1)] [.inl 97, .inl (sg 753 y1.toNatClampNeg)] dM_207_28 (fun _ => rfl) (Or.inr rfl) ?_
    refine gs0 32 [(2, .inl (sg 753 y1.toNatClampNeg)), (0, .inr (.inr (some 725))), (1, .inl y1)] [.inl 102, .inl 97, .inl (sg 753 y1.toNatClampNeg)] dM_207_30 (fun _ => rfl) (Or.inr rfl) ?_
    refine gsCallS (y := 119) (as := [.inl (sg 753 y1.toNatClampNeg), .inl 97, .inl 102]) (r := []) dM_207_32 rfl (Or.inl rfl) rfl rfl (Nat.le_of_ble_eq_true rfl) (EvS.up h (Nat.le_of_ble_eq_true rfl)) (fun v2 t3 hv4 => ?_)
    obtain ⟨n5, rfl, hn⟩ := hv4
    clear h
    show GoS _ _ _ _ _ _ _ _ [(2, .inl (sg 753 y1.toNatClampNeg)), (0, .inr (.inr (some 725))), (1, .inl y1)] [.inl n5] t3 _
    refine gsIf (t := 61) (C := ¬ n5 = 0) (r := []) dM_207_35 (fun _ => rfl) (Or.inr rfl) (rTest_iff .ne n5 0) (fun c6 => ?_) (fun c6 => ?_)
    · replace hn := hn.1 c6
      refine gs0 62 [(2, .inl (sg 753 y1.toNatClampNeg)), (0, .inr (.inr (some 725))), (1, .inl y1)] [.inl 1] dM_207_61 (fun _ => rfl) (Or.inr rfl) ?_
      refine gs0 66 [(2, .inl (sg 753 y1.toNatClampNeg)), (0, .inr (.inr (some 725))), (1, .inl y1)] [.inl 1] dM_207_62 (fun _ => rfl) (Or.inr rfl) ?_
      exact GoS.sub (Lnd_keys (ks := [0, 1, 2]) rfl (by decide)) (Lsub_cons rfl (Lsub_cons rfl (Lsub_cons rfl Lsub_nil))) hn
    · replace hn := hn.2 c6
      refine gs0 39 [(2, .inl (sg 753 y1.toNatClampNeg)), (0, .inr (.inr (some 725))), (1, .inl y1)] [.inl (sg 753 y1.toNatClampNeg)] dM_207_38 (fun _ => rfl) (Or.inr rfl) ?_
      refine gs0 41 [(2, .inl (sg 753 y1.toNatClampNeg)), (0, .inr (.inr (some 725))), (1, .inl y1)] [.inl 48, .inl (sg 753 y1.toNatClampNeg)] dM_207_39 (fun _ => rfl) (Or.inr rfl) ?_
      refine gs0 43 [(2, .inl (sg 753 y1.toNatClampNeg)), (0, .inr (.inr (some 725))), (1, .inl y1)] [.inl 57, .inl 48, .inl (sg 753 y1.toNatClampNeg)] dM_207_41 (fun _ => rfl) (Or.inr rfl) ?_
      refine gsCallS (y := 119) (as := [.inl (sg 753 y1.toNatClampNeg), .inl 48, .inl 57]) (r := []) dM_207_43 rfl (Or.inl rfl) rfl rfl (Nat.le_of_ble_eq_true rfl) (EvS.up hn (Nat.le_of_ble_eq_true rfl)) (fun v7 t8 hv9 => ?_)
      obtain ⟨n10, rfl, hnn⟩ := hv9
      clear hn
      show GoS _ _ _ _ _ _ _ _ [(2, .inl (sg 753 y1.toNatClampNeg)), (0, .inr (.inr (some 725))), (1, .inl y1)] [.inl n10] t8 _
      refine gsIf (t := 61) (C := ¬ n10 = 0) (r := []) dM_207_46 (fun _ => rfl) (Or.inr rfl) (rTest_iff .ne n10 0) (fun c11 => ?_) (fun c11 => ?_)
      · replace hnn := hnn.1 c11
        refine gs0 62 [(2, .inl (sg 753 y1.toNatClampNeg)), (0, .inr (.inr (some 725))), (1, .inl y1)] [.inl 1] dM_207_61 (fun _ => rfl) (Or.inr rfl) ?_
        refine gs0 66 [(2, .inl (sg 753 y1.toNatClampNeg)), (0, .inr (.inr (some 725))), (1, .inl y1)] [.inl 1] dM_207_62 (fun _ => rfl) (Or.inr rfl) ?_
        exact GoS.sub (Lnd_keys (ks := [0, 1, 2]) rfl (by decide)) (Lsub_cons rfl (Lsub_cons rfl (Lsub_cons rfl Lsub_nil))) hnn
      · replace hnn := hnn.2 c11
        refine gs0 50 [(2, .inl (sg 753 y1.toNatClampNeg)), (0, .inr (.inr (some 725))), (1, .inl y1)] [.inl (sg 753 y1.toNatClampNeg)] dM_207_49 (fun _ => rfl) (Or.inr rfl) ?_
        refine gs0 52 [(2, .inl (sg 753 y1.toNatClampNeg)), (0, .inr (.inr (some 725))), (1, .inl y1)] [.inl 110, .inl (sg 753 y1.toNatClampNeg)] dM_207_50 (fun _ => rfl) (Or.inr rfl) ?_
        refine gsIf (t := 61) (C := (sg 753 y1.toNatClampNeg) = 110) (r := []) dM_207_52 (fun _ => rfl) (Or.inr rfl) (rTest_iff .eq (sg 753 y1.toNatClampNeg) 110) (fun c12 => ?_) (fun c12 => ?_)
        · replace hnn := hnn.1 c12
          refine gs0 62 [(2, .inl (sg 753 y1.toNatClampNeg)), (0, .inr (.inr (some 725))), (1, .inl y1)] [.inl 1] dM_207_61 (fun _ => rfl) (Or.inr rfl) ?_
          refine gs0 66 [(2, .inl (sg 753 y1.toNatClampNeg)), (0, .inr (.inr (some 725))), (1, .inl y1)] [.inl 1] dM_207_62 (fun _ => rfl) (Or.inr rfl) ?_
          exact GoS.sub (Lnd_keys (ks := [0, 1, 2]) rfl (by decide)) (Lsub_cons rfl (Lsub_cons rfl (Lsub_cons rfl Lsub_nil))) hnn
        · replace hnn := hnn.2 c12
          refine gs0 56 [(2, .inl (sg 753 y1.toNatClampNeg)), (0, .inr (.inr (some 725))), (1, .inl y1)] [.inl (sg 753 y1.toNatClampNeg)] dM_207_55 (fun _ => rfl) (Or.inr rfl) ?_
          refine gs0 58 [(2, .inl (sg 753 y1.toNatClampNeg)), (0, .inr (.inr (some 725))), (1, .inl y1)] [.inl 40, .inl (sg 753 y1.toNatClampNeg)] dM_207_56 (fun _ => rfl) (Or.inr rfl) ?_
          refine gsIf (t := 65) (C := ¬ (sg 753 y1.toNatClampNeg) = 40) (r := []) dM_207_58 (fun _ => rfl) (Or.inr rfl) (rTest_iff .ne (sg 753 y1.toNatClampNeg) 40) (fun c13 => ?_) (fun c13 => ?_)
          · replace hnn := hnn.1 c13
            refine gs0 66 [(2, .inl (sg 753 y1.toNatClampNeg)), (0, .inr (.inr (some 725))), (1, .inl y1)] [.inl 0] dM_207_65 (fun _ => rfl) (Or.inr rfl) ?_
            exact GoS.sub (Lnd_keys (ks := [0, 1, 2]) rfl (by decide)) (Lsub_cons rfl (Lsub_cons rfl (Lsub_cons rfl Lsub_nil))) hnn
          · replace hnn := hnn.2 c13
            refine gs0 62 [(2, .inl (sg 753 y1.toNatClampNeg)), (0, .inr (.inr (some 725))), (1, .inl y1)] [.inl 1] dM_207_61 (fun _ => rfl) (Or.inr rfl) ?_
            refine gs0 66 [(2, .inl (sg 753 y1.toNatClampNeg)), (0, .inr (.inr (some 725))), (1, .inl y1)] [.inl 1] dM_207_62 (fun _ => rfl) (Or.inr rfl) ?_
            exact GoS.sub (Lnd_keys (ks := [0, 1, 2]) rfl (by decide)) (Lsub_cons rfl (Lsub_cons rfl (Lsub_cons rfl Lsub_nil))) hnn
set_option maxRecDepth 100000 in
theorem w_207_66 (sg : rSg)  (y1 : Int32) (y2 : Int32) (z0 : Int32) {P : Option rv → rSg → Prop} (h :
    (z0 = 0 → 
      (¬ z0 = 0 → 
        g_207_12 (y1 + 1) (up2 (up2 sg 725 46 ((sg 725 46) + 0)) 725 45 ((sg 725 45) + 0)) P) ∧
      (¬ (¬ z0 = 0) → 
        (¬ y2 = 41 → 
          g_207_12 (y1 + 1) (up2 (up2 sg 725 46 ((sg 725 46) + 0)) 725 45 ((sg 725 45) + 1)) P) ∧
        (¬ (¬ y2 = 41) → 
          g_207_12 (y1 + 1) (up2 (up2 sg 725 46 ((sg 725 46) + 0)) 725 45 ((sg 725 45) + 0)) P))) ∧
    (¬ (z0 = 0) → 
      (¬ z0 = 0 → 
        g_207_12 (y1 + 1) (up2 (up2 sg 725 46 ((sg 725 46) + 1)) 725 45 ((sg 725 45) + 0)) P) ∧
      (¬ (¬ z0 = 0) → 
        (¬ y2 = 41 → 
          g_207_12 (y1 + 1) (up2 (up2 sg 725 46 ((sg 725 46) + 1)) 725 45 ((sg 725 45) + 1)) P) ∧
        (¬ (¬ y2 = 41) → 
          g_207_12 (y1 + 1) (up2 (up2 sg 725 46 ((sg 725 46) + 1)) 725 45 ((sg 725 45) + 0)) P)))) : g_207_66 y1 y2 z0 sg P := by
  show GoS rSkel 1 9 4 none false prog_11_method_47_code 66 [(0, .inr (.inr (some 725))), (1, .inl y1), (2, .inl y2)] [.inl z0] sg P
  refine gs0 67 [(3, .inl z0), (0, .inr (.inr (some 725))), (1, .inl y1), (2, .inl y2)] [] dM_207_66 (fun _ => rfl) (Or.inr rfl) ?_
  refine gs0 68 [(3, .inl z0), (0, .inr (.inr (some 725))), (1, .inl y1), (2, .inl y2)] [.inr (.inr (some 725))] dM_207_67 (fun _ => rfl) (Or.inr rfl) ?_
  refine gs0 69 [(3, .inl z0), (0, .inr (.inr (some 725))), (1, .inl y1), (2, .inl y2)] [.inr (.inr (some 725)), .inr (.inr (some 725))] dM_207_68 (fun _ => rfl) (Or.inr rfl) ?_
  refine gsGetE (sg 725 46) dM_207_69 sk_725 rfl rfl rfl ?_
  refine gs0 73 [(3, .inl z0), (0, .inr (.inr (some 725))), (1, .inl y1), (2, .inl y2)] [.inl z0, .inl (sg 725 46), .inr (.inr (some 725))] dM_207_72 (fun _ => rfl) (Or.inr rfl) ?_
  refine gsIf (t := 80) (C := z0 = 0) (r := [.inl (sg 725 46), .inr (.inr (some 725))]) dM_207_73 (fun _ => rfl) (Or.inr rfl) (rTest_iff .eq z0 0) (fun c14 => ?_) (fun c14 => ?_)
  · replace h := h.1 c14
    refine gs0 81 [(3, .inl z0), (0, .inr (.inr (some 725))), (1, .inl y1), (2, .inl y2)] [.inl 0, .inl (sg 725 46), .inr (.inr (some 725))] dM_207_80 (fun _ => rfl) (Or.inr rfl) ?_
    refine gs0 82 [(3, .inl z0), (0, .inr (.inr (some 725))), (1, .inl y1), (2, .inl y2)] [.inl ((sg 725 46) + 0), .inr (.inr (some 725))] dM_207_81 (fun _ => rfl) (Or.inr rfl) ?_
    refine gsPut dM_207_82 sk_725 rfl rfl rfl (by decide) ?_
    refine gs0 86 [(3, .inl z0), (0, .inr (.inr (some 725))), (1, .inl y1), (2, .inl y2)] [.inr (.inr (some 725))] dM_207_85 (fun _ => rfl) (Or.inr rfl) ?_
    refine gs0 87 [(3, .inl z0), (0, .inr (.inr (some 725))), (1, .inl y1), (2, .inl y2)] [.inr (.inr (some 725)), .inr (.inr (some 725))] dM_207_86 (fun _ => rfl) (Or.inr rfl) ?_
    refine gsGetE (sg 725 45) dM_207_87 sk_725 rfl rfl (up2_nj _ _ _ (by decide)) ?_
    refine gs0 91 [(3, .inl z0), (0, .inr (.inr (some 725))), (1, .inl y1), (2, .inl y2)] [.inl z0, .inl (sg 725 45), .inr (.inr (some 725))] dM_207_90 (fun _ => rfl) (Or.inr rfl) ?_
    refine gsIf (t := 100) (C := ¬ z0 = 0) (r := [.inl (sg 725 45), .inr (.inr (some 725))]) dM_207_91 (fun _ => rfl) (Or.inr rfl) (rTest_iff .ne z0 0) (fun c15 => ?_) (fun c15 => ?_)
    · replace h := h.1 c15
      refine gs0 101 [(3, .inl z0), (0, .inr (.inr (some 725))), (1, .inl y1), (2, .inl y2)] [.inl 0, .inl (sg 725 45), .inr (.inr (some 725))] dM_207_100 (fun _ => rfl) (Or.inr rfl) ?_
      refine gs0 105 [(3, .inl z0), (0, .inr (.inr (some 725))), (1, .inl y1), (2, .inl y2)] [.inl 0, .inl (sg 725 45), .inr (.inr (some 725))] dM_207_101 (fun _ => rfl) (Or.inr rfl) ?_
      refine gs0 106 [(3, .inl z0), (0, .inr (.inr (some 725))), (1, .inl y1), (2, .inl y2)] [.inl ((sg 725 45) + 0), .inr (.inr (some 725))] dM_207_105 (fun _ => rfl) (Or.inr rfl) ?_
      refine gsPut dM_207_106 sk_725 rfl rfl rfl (by decide) ?_
      refine gs0 112 [(1, .inl (y1 + 1)), (3, .inl z0), (0, .inr (.inr (some 725))), (2, .inl y2)] [] dM_207_109 (fun _ => rfl) (Or.inr rfl) ?_
      refine gs0 12 [(1, .inl (y1 + 1)), (3, .inl z0), (0, .inr (.inr (some 725))), (2, .inl y2)] [] dM_207_112 (fun _ => rfl) (Or.inr rfl) ?_
      exact GoS.sub (Lnd_keys (ks := [0, 1]) rfl (by decide)) (Lsub_cons rfl (Lsub_cons rfl Lsub_nil)) h
    · replace h := h.2 c15
      refine gs0 95 [(3, .inl z0), (0, .inr (.inr (some 725))), (1, .inl y1), (2, .inl y2)] [.inl y2, .inl (sg 725 45), .inr (.inr (some 725))] dM_207_94 (fun _ => rfl) (Or.inr rfl) ?_
      refine gs0 97 [(3, .inl z0), (0, .inr (.inr (some 725))), (1, .inl y1), (2, .inl y2)] [.inl 41, .inl y2, .inl (sg 725 45), .inr (.inr (some 725))] dM_207_95 (fun _ => rfl) (Or.inr rfl) ?_
      refine gsIf (t := 104) (C := ¬ y2 = 41) (r := [.inl (sg 725 45), .inr (.inr (some 725))]) dM_207_97 (fun _ => rfl) (Or.inr rfl) (rTest_iff .ne y2 41) (fun c16 => ?_) (fun c16 => ?_)
      · replace h := h.1 c16
        refine gs0 105 [(3, .inl z0), (0, .inr (.inr (some 725))), (1, .inl y1), (2, .inl y2)] [.inl 1, .inl (sg 725 45), .inr (.inr (some 725))] dM_207_104 (fun _ => rfl) (Or.inr rfl) ?_
        refine gs0 106 [(3, .inl z0), (0, .inr (.inr (some 725))), (1, .inl y1), (2, .inl y2)] [.inl ((sg 725 45) + 1), .inr (.inr (some 725))] dM_207_105 (fun _ => rfl) (Or.inr rfl) ?_
        refine gsPut dM_207_106 sk_725 rfl rfl rfl (by decide) ?_
        refine gs0 112 [(1, .inl (y1 + 1)), (3, .inl z0), (0, .inr (.inr (some 725))), (2, .inl y2)] [] dM_207_109 (fun _ => rfl) (Or.inr rfl) ?_
        refine gs0 12 [(1, .inl (y1 + 1)), (3, .inl z0), (0, .inr (.inr (some 725))), (2, .inl y2)] [] dM_207_112 (fun _ => rfl) (Or.inr rfl) ?_
        exact GoS.sub (Lnd_keys (ks := [0, 1]) rfl (by decide)) (Lsub_cons rfl (Lsub_cons rfl Lsub_nil)) h
      · replace h := h.2 c16
        refine gs0 101 [(3, .inl z0), (0, .inr (.inr (some 725))), (1, .inl y1), (2, .inl y2)] [.inl 0, .inl (sg 725 45), .inr (.inr (some 725))] dM_207_100 (fun _ => rfl) (Or.inr rfl) ?_
        refine gs0 105 [(3, .inl z0), (0, .inr (.inr (some 725))), (1, .inl y1), (2, .inl y2)] [.inl 0, .inl (sg 725 45), .inr (.inr (some 725))] dM_207_101 (fun _ => rfl) (Or.inr rfl) ?_
        refine gs0 106 [(3, .inl z0), (0, .inr (.inr (some 725))), (1, .inl y1), (2, .inl y2)] [.inl ((sg 725 45) + 0), .inr (.inr (some 725))] dM_207_105 (fun _ => rfl) (Or.inr rfl) ?_
        refine gsPut dM_207_106 sk_725 rfl rfl rfl (by decide) ?_
        refine gs0 112 [(1, .inl (y1 + 1)), (3, .inl z0), (0, .inr (.inr (some 725))), (2, .inl y2)] [] dM_207_109 (fun _ => rfl) (Or.inr rfl) ?_
        refine gs0 12 [(1, .inl (y1 + 1)), (3, .inl z0), (0, .inr (.inr (some 725))), (2, .inl y2)] [] dM_207_112 (fun _ => rfl) (Or.inr rfl) ?_
        exact GoS.sub (Lnd_keys (ks := [0, 1]) rfl (by decide)) (Lsub_cons rfl (Lsub_cons rfl Lsub_nil)) h
  · replace h := h.2 c14
    refine gs0 77 [(3, .inl z0), (0, .inr (.inr (some 725))), (1, .inl y1), (2, .inl y2)] [.inl 1, .inl (sg 725 46), .inr (.inr (some 725))] dM_207_76 (fun _ => rfl) (Or.inr rfl) ?_
    refine gs0 81 [(3, .inl z0), (0, .inr (.inr (some 725))), (1, .inl y1), (2, .inl y2)] [.inl 1, .inl (sg 725 46), .inr (.inr (some 725))] dM_207_77 (fun _ => rfl) (Or.inr rfl) ?_
    refine gs0 82 [(3, .inl z0), (0, .inr (.inr (some 725))), (1, .inl y1), (2, .inl y2)] [.inl ((sg 725 46) + 1), .inr (.inr (some 725))] dM_207_81 (fun _ => rfl) (Or.inr rfl) ?_
    refine gsPut dM_207_82 sk_725 rfl rfl rfl (by decide) ?_
    refine gs0 86 [(3, .inl z0), (0, .inr (.inr (some 725))), (1, .inl y1), (2, .inl y2)] [.inr (.inr (some 725))] dM_207_85 (fun _ => rfl) (Or.inr rfl) ?_
    refine gs0 87 [(3, .inl z0), (0, .inr (.inr (some 725))), (1, .inl y1), (2, .inl y2)] [.inr (.inr (some 725)), .inr (.inr (some 725))] dM_207_86 (fun _ => rfl) (Or.inr rfl) ?_
    refine gsGetE (sg 725 45) dM_207_87 sk_725 rfl rfl (up2_nj _ _ _ (by decide)) ?_
    refine gs0 91 [(3, .inl z0), (0, .inr (.inr (some 725))), (1, .inl y1), (2, .inl y2)] [.inl z0, .inl (sg 725 45), .inr (.inr (some 725))] dM_207_90 (fun _ => rfl) (Or.inr rfl) ?_
    refine gsIf (t := 100) (C := ¬ z0 = 0) (r := [.inl (sg 725 45), .inr (.inr (some 725))]) dM_207_91 (fun _ => rfl) (Or.inr rfl) (rTest_iff .ne z0 0) (fun c17 => ?_) (fun c17 => ?_)
    · replace h := h.1 c17
      refine gs0 101 [(3, .inl z0), (0, .inr (.inr (some 725))), (1, .inl y1), (2, .inl y2)] [.inl 0, .inl (sg 725 45), .inr (.inr (some 725))] dM_207_100 (fun _ => rfl) (Or.inr rfl) ?_
      refine gs0 105 [(3, .inl z0), (0, .inr (.inr (some 725))), (1, .inl y1), (2, .inl y2)] [.inl 0, .inl (sg 725 45), .inr (.inr (some 725))] dM_207_101 (fun _ => rfl) (Or.inr rfl) ?_
      refine gs0 106 [(3, .inl z0), (0, .inr (.inr (some 725))), (1, .inl y1), (2, .inl y2)] [.inl ((sg 725 45) + 0), .inr (.inr (some 725))] dM_207_105 (fun _ => rfl) (Or.inr rfl) ?_
      refine gsPut dM_207_106 sk_725 rfl rfl rfl (by decide) ?_
      refine gs0 112 [(1, .inl (y1 + 1)), (3, .inl z0), (0, .inr (.inr (some 725))), (2, .inl y2)] [] dM_207_109 (fun _ => rfl) (Or.inr rfl) ?_
      refine gs0 12 [(1, .inl (y1 + 1)), (3, .inl z0), (0, .inr (.inr (some 725))), (2, .inl y2)] [] dM_207_112 (fun _ => rfl) (Or.inr rfl) ?_
      exact GoS.sub (Lnd_keys (ks := [0, 1]) rfl (by decide)) (Lsub_cons rfl (Lsub_cons rfl Lsub_nil)) h
    · replace h := h.2 c17
      refine gs0 95 [(3, .inl z0), (0, .inr (.inr (some 725))), (1, .inl y1), (2, .inl y2)] [.inl y2, .inl (sg 725 45), .inr (.inr (some 725))] dM_207_94 (fun _ => rfl) (Or.inr rfl) ?_
      refine gs0 97 [(3, .inl z0), (0, .inr (.inr (some 725))), (1, .inl y1), (2, .inl y2)] [.inl 41, .inl y2, .inl (sg 725 45), .inr (.inr (some 725))] dM_207_95 (fun _ => rfl) (Or.inr rfl) ?_
      refine gsIf (t := 104) (C := ¬ y2 = 41) (r := [.inl (sg 725 45), .inr (.inr (some 725))]) dM_207_97 (fun _ => rfl) (Or.inr rfl) (rTest_iff .ne y2 41) (fun c18 => ?_) (fun c18 => ?_)
      · replace h := h.1 c18
        refine gs0 105 [(3, .inl z0), (0, .inr (.inr (some 725))), (1, .inl y1), (2, .inl y2)] [.inl 1, .inl (sg 725 45), .inr (.inr (some 725))] dM_207_104 (fun _ => rfl) (Or.inr rfl) ?_
        refine gs0 106 [(3, .inl z0), (0, .inr (.inr (some 725))), (1, .inl y1), (2, .inl y2)] [.inl ((sg 725 45) + 1), .inr (.inr (some 725))] dM_207_105 (fun _ => rfl) (Or.inr rfl) ?_
        refine gsPut dM_207_106 sk_725 rfl rfl rfl (by decide) ?_
        refine gs0 112 [(1, .inl (y1 + 1)), (3, .inl z0), (0, .inr (.inr (some 725))), (2, .inl y2)] [] dM_207_109 (fun _ => rfl) (Or.inr rfl) ?_
        refine gs0 12 [(1, .inl (y1 + 1)), (3, .inl z0), (0, .inr (.inr (some 725))), (2, .inl y2)] [] dM_207_112 (fun _ => rfl) (Or.inr rfl) ?_
        exact GoS.sub (Lnd_keys (ks := [0, 1]) rfl (by decide)) (Lsub_cons rfl (Lsub_cons rfl Lsub_nil)) h
      · replace h := h.2 c18
        refine gs0 101 [(3, .inl z0), (0, .inr (.inr (some 725))), (1, .inl y1), (2, .inl y2)] [.inl 0, .inl (sg 725 45), .inr (.inr (some 725))] dM_207_100 (fun _ => rfl) (Or.inr rfl) ?_
        refine gs0 105 [(3, .inl z0), (0, .inr (.inr (some 725))), (1, .inl y1), (2, .inl y2)] [.inl 0, .inl (sg 725 45), .inr (.inr (some 725))] dM_207_101 (fun _ => rfl) (Or.inr rfl) ?_
        refine gs0 106 [(3, .inl z0), (0, .inr (.inr (some 725))), (1, .inl y1), (2, .inl y2)] [.inl ((sg 725 45) + 0), .inr (.inr (some 725))] dM_207_105 (fun _ => rfl) (Or.inr rfl) ?_
        refine gsPut dM_207_106 sk_725 rfl rfl rfl (by decide) ?_
        refine gs0 112 [(1, .inl (y1 + 1)), (3, .inl z0), (0, .inr (.inr (some 725))), (2, .inl y2)] [] dM_207_109 (fun _ => rfl) (Or.inr rfl) ?_
        refine gs0 12 [(1, .inl (y1 + 1)), (3, .inl z0), (0, .inr (.inr (some 725))), (2, .inl y2)] [] dM_207_112 (fun _ => rfl) (Or.inr rfl) ?_
        exact GoS.sub (Lnd_keys (ks := [0, 1]) rfl (by decide)) (Lsub_cons rfl (Lsub_cons rfl Lsub_nil)) h
set_option maxRecDepth 100000 in
/-- GoalsInAQueueModel.counts -/
theorem w_207 (sg : rSg)  {P : Option rv → rSg → Prop} (h :
    g_207_12 0 (up2 (up2 sg 725 45 0) 725 46 0) P) : EvS rSkel 2 207 [.inr (.inr (some 725))] sg P := by
  refine EvS.of (ini := false) rfl ⟨rfl, Nat.le_of_ble_eq_true rfl⟩ rfl ?_
  show GoS rSkel 1 9 4 none false prog_11_method_47_code 0 [(0, .inr (.inr (some 725)))] [] sg _
  refine gs0 1 [(0, .inr (.inr (some 725)))] [.inr (.inr (some 725))] dM_207_0 (fun _ => rfl) (Or.inr rfl) ?_
  refine gs0 2 [(0, .inr (.inr (some 725)))] [.inl 0, .inr (.inr (some 725))] dM_207_1 (fun _ => rfl) (Or.inr rfl) ?_
  refine gsPut dM_207_2 sk_725 rfl rfl rfl (by decide) ?_
  refine gs0 6 [(0, .inr (.inr (some 725)))] [.inr (.inr (some 725))] dM_207_5 (fun _ => rfl) (Or.inr rfl) ?_
  refine gs0 7 [(0, .inr (.inr (some 725)))] [.inl 0, .inr (.inr (some 725))] dM_207_6 (fun _ => rfl) (Or.inr rfl) ?_
  refine gsPut dM_207_7 sk_725 rfl rfl rfl (by decide) ?_
  refine gs0 11 [(0, .inr (.inr (some 725)))] [.inl 0] dM_207_10 (fun _ => rfl) (Or.inr rfl) ?_
  refine gs0 12 [(1, .inl 0), (0, .inr (.inr (some 725)))] [] dM_207_11 (fun _ => rfl) (Or.inr rfl) ?_
  exact GoS.sub (Lnd_keys (ks := [0, 1]) rfl (by decide)) (Lsub_cons rfl (Lsub_cons rfl Lsub_nil)) h
set_option maxRecDepth 100000 in
/-- java/lang/Integer.bitCount -/
theorem w_208 (sg : rSg) (x0 : Int32) {P : Option rv → rSg → Prop} (h :
    P (some (.inl ((((((((x0 - ((iush x0 1) &&& 1431655765)) &&& 858993459) + ((iush (x0 - ((iush x0 1) &&& 1431655765)) 2) &&& 858993459)) + (iush (((x0 - ((iush x0 1) &&& 1431655765)) &&& 858993459) + ((iush (x0 - ((iush x0 1) &&& 1431655765)) 2) &&& 858993459)) 4)) &&& 252645135) + (iush (((((x0 - ((iush x0 1) &&& 1431655765)) &&& 858993459) + ((iush (x0 - ((iush x0 1) &&& 1431655765)) 2) &&& 858993459)) + (iush (((x0 - ((iush x0 1) &&& 1431655765)) &&& 858993459) + ((iush (x0 - ((iush x0 1) &&& 1431655765)) 2) &&& 858993459)) 4)) &&& 252645135) 8)) + (iush ((((((x0 - ((iush x0 1) &&& 1431655765)) &&& 858993459) + ((iush (x0 - ((iush x0 1) &&& 1431655765)) 2) &&& 858993459)) + (iush (((x0 - ((iush x0 1) &&& 1431655765)) &&& 858993459) + ((iush (x0 - ((iush x0 1) &&& 1431655765)) 2) &&& 858993459)) 4)) &&& 252645135) + (iush (((((x0 - ((iush x0 1) &&& 1431655765)) &&& 858993459) + ((iush (x0 - ((iush x0 1) &&& 1431655765)) 2) &&& 858993459)) + (iush (((x0 - ((iush x0 1) &&& 1431655765)) &&& 858993459) + ((iush (x0 - ((iush x0 1) &&& 1431655765)) 2) &&& 858993459)) 4)) &&& 252645135) 8)) 16)) &&& 63))) sg) : EvS rSkel 1 208 [.inl x0] sg P := by
  refine EvS.of (ini := false) rfl ⟨rfl, Nat.le_of_ble_eq_true rfl⟩ rfl ?_
  show GoS rSkel 0 11 1 (some .int) false prog_12_method_49_code 0 [(0, .inl x0)] [] sg _
  refine gs0 1 [(0, .inl x0)] [.inl x0] dM_208_0 (fun _ => rfl) (Or.inr rfl) ?_
  refine gs0 2 [(0, .inl x0)] [.inl x0, .inl x0] dM_208_1 (fun _ => rfl) (Or.inr rfl) ?_
  refine gs0 3 [(0, .inl x0)] [.inl 1, .inl x0, .inl x0] dM_208_2 (fun _ => rfl) (Or.inr rfl) ?_
  refine gs0 4 [(0, .inl x0)] [.inl (iush x0 1), .inl x0] dM_208_3 (fun _ => rfl) (Or.inr rfl) ?_
  refine gs0 7 [(0, .inl x0)] [.inl 1431655765, .inl (iush x0 1), .inl x0] dM_208_4 (fun _ => rfl) (Or.inr rfl) ?_
  refine gs0 8 [(0, .inl x0)] [.inl ((iush x0 1) &&& 1431655765), .inl x0] dM_208_7 (fun _ => rfl) (Or.inr rfl) ?_
  refine gs0 9 [(0, .inl x0)] [.inl (x0 - ((iush x0 1) &&& 1431655765))] dM_208_8 (fun _ => rfl) (Or.inr rfl) ?_
  refine gs0 10 [(0, .inl (x0 - ((iush x0 1) &&& 1431655765)))] [] dM_208_9 (fun _ => rfl) (Or.inr rfl) ?_
  refine gs0 11 [(0, .inl (x0 - ((iush x0 1) &&& 1431655765)))] [.inl (x0 - ((iush x0 1) &&& 1431655765))] dM_208_10 (fun _ => rfl) (Or.inr rfl) ?_
  refine gs0 14 [(0, .inl (x0 - ((iush x0 1) &&& 1431655765)))] [.inl 858993459, .inl (x0 - ((iush x0 1) &&& 1431655765))] dM_208_11 (fun _ => rfl) (Or.inr rfl) ?_
  refine gs0 15 [(0, .inl (x0 - ((iush x0 1) &&& 1431655765)))] [.inl ((x0 - ((iush x0 1) &&& 1431655765)) &&& 858993459)] dM_208_14 (fun _ => rfl) (Or.inr rfl) ?_
  refine gs0 16 [(0, .inl (x0 - ((iush x0 1) &&& 1431655765)))] [.inl (x0 - ((iush x0 1) &&& 1431655765)), .inl ((x0 - ((iush x0 1) &&& 1431655765)) &&& 858993459)] dM_208_15 (fun _ => rfl) (Or.inr rfl) ?_
  refine gs0 17 [(0, .inl (x0 - ((iush x0 1) &&& 1431655765)))] [.inl 2, .inl (x0 - ((iush x0 1) &&& 1431655765)), .inl ((x0 - ((iush x0 1) &&& 1431655765)) &&& 858993459)] dM_208_16 (fun _ => rfl) (Or.inr rfl) ?_
  refine gs0 18 [(0, .inl (x0 - ((iush x0 1) &&& 1431655765)))] [.inl (iush (x0 - ((iush x0 1) &&& 1431655765)) 2), .inl ((x0 - ((iush x0 1) &&& 1431655765)) &&& 858993459)] dM_208_17 (fun _ => rfl) (Or.inr rfl) ?_
  refine gs0 21 [(0, .inl (x0 - ((iush x0 1) &&& 1431655765)))] [.inl 858993459, .inl (iush (x0 - ((iush x0 1) &&& 1431655765)) 2), .inl ((x0 - ((iush x0 1) &&& 1431655765)) &&& 858993459)] dM_208_18 (fun _ => rfl) (Or.inr rfl) ?_
  refine gs0 22 [(0, .inl (x0 - ((iush x0 1) &&& 1431655765)))] [.inl ((iush (x0 - ((iush x0 1) &&& 1431655765)) 2) &&& 858993459), .inl ((x0 - ((iush x0 1) &&& 1431655765)) &&& 858993459)] dM_208_21 (fun _ => rfl) (Or.inr rfl) ?_
  refine gs0 23 [(0, .inl (x0 - ((iush x0 1) &&& 1431655765)))] [.inl (((x0 - ((iush x0 1) &&& 1431655765)) &&& 858993459) + ((iush (x0 - ((iush x0 1) &&& 1431655765)) 2) &&& 858993459))] dM_208_22 (fun _ => rfl) (Or.inr rfl) ?_
  refine gs0 24 [(0, .inl (((x0 - ((iush x0 1) &&& 1431655765)) &&& 858993459) + ((iush (x0 - ((iush x0 1) &&& 1431655765)) 2) &&& 858993459)))] [] dM_208_23 (fun _ => rfl) (Or.inr rfl) ?_
  refine gs0 25 [(0, .inl (((x0 - ((iush x0 1) &&& 1431655765)) &&& 858993459) + ((iush (x0 - ((iush x0 1) &&& 1431655765)) 2) &&& 858993459)))] [.inl (((x0 - ((iush x0 1) &&& 1431655765)) &&& 858993459) + ((iush (x0 - ((iush x0 1) &&& 1431655765)) 2) &&& 858993459))] dM_208_24 (fun _ => rfl) (Or.inr rfl) ?_
  refine gs0 26 [(0, .inl (((x0 - ((iush x0 1) &&& 1431655765)) &&& 858993459) + ((iush (x0 - ((iush x0 1) &&& 1431655765)) 2) &&& 858993459)))] [.inl (((x0 - ((iush x0 1) &&& 1431655765)) &&& 858993459) + ((iush (x0 - ((iush x0 1) &&& 1431655765)) 2) &&& 858993459)), .inl (((x0 - ((iush x0 1) &&& 1431655765)) &&& 858993459) + ((iush (x0 - ((iush x0 1) &&& 1431655765)) 2) &&& 858993459))] dM_208_25 (fun _ => rfl) (Or.inr rfl) ?_
  refine gs0 27 [(0, .inl (((x0 - ((iush x0 1) &&& 1431655765)) &&& 858993459) + ((iush (x0 - ((iush x0 1) &&& 1431655765)) 2) &&& 858993459)))] [.inl 4, .inl (((x0 - ((iush x0 1) &&& 1431655765)) &&& 858993459) + ((iush (x0 - ((iush x0 1) &&& 1431655765)) 2) &&& 858993459)), .inl (((x0 - ((iush x0 1) &&& 1431655765)) &&& 858993459) + ((iush (x0 - ((iush x0 1) &&& 1431655765)) 2) &&& 858993459))] dM_208_26 (fun _ => rfl) (Or.inr rfl) ?_
  refine gs0 28 [(0, .inl (((x0 - ((iush x0 1) &&& 1431655765)) &&& 858993459) + ((iush (x0 - ((iush x0 1) &&& 1431655765)) 2) &&& 858993459)))] [.inl (iush (((x0 - ((iush x0 1) &&& 1431655765)) &&& 858993459) + ((iush (x0 - ((iush x0 1) &&& 1431655765)) 2) &&& 858993459)) 4), .inl (((x0 - ((iush x0 1) &&& 1431655765)) &&& 858993459) + ((iush (x0 - ((iush x0 1) &&& 1431655765)) 2) &&& 858993459))] dM_208_27 (fun _ => rfl) (Or.inr rfl) ?_
  refine gs0 29 [(0, .inl (((x0 - ((iush x0 1) &&& 1431655765)) &&& 858993459) + ((iush (x0 - ((iush x0 1) &&& 1431655765)) 2) &&& 858993459)))] [.inl ((((x0 - ((iush x0 1) &&& 1431655765)) &&& 858993459) + ((iush (x0 - ((iush x0 1) &&& 1431655765)) 2) &&& 858993459)) + (iush (((x0 - ((iush x0 1) &&& 1431655765)) &&& 858993459) + ((iush (x0 - ((iush x0 1) &&& 1431655765)) 2) &&& 858993459)) 4))] dM_208_28 (fun _ => rfl) (Or.inr rfl) ?_
  refine gs0 32 [(0, .inl (((x0 - ((iush x0 1) &&& 1431655765)) &&& 858993459) + ((iush (x0 - ((iush x0 1) &&& 1431655765)) 2) &&& 858993459)))] [.inl 252645135, .inl ((((x0 - ((iush x0 1) &&& 1431655765)) &&& 858993459) + ((iush (x0 - ((iush x0 1) &&& 1431655765)) 2) &&& 858993459)) + (iush (((x0 - ((iush x0 1) &&& 1431655765)) &&& 858993459) + ((iush (x0 - ((iush x0 1) &&& 1431655765)) 2) &&& 858993459)) 4))] dM_208_29 (fun _ => rfl) (Or.inr rfl) ?_
  refine gs0 33 [(0, .inl (((x0 - ((iush x0 1) &&& 1431655765)) &&& 858993459) + ((iush (x0 - ((iush x0 1) &&& 1431655765)) 2) &&& 858993459)))] [.inl (((((x0 - ((iush x0 1) &&& 1431655765)) &&& 858993459) + ((iush (x0 - ((iush x0 1) &&& 1431655765)) 2) &&& 858993459)) + (iush (((x0 - ((iush x0 1) &&& 1431655765)) &&& 858993459) + ((iush (x0 - ((iush x0 1) &&& 1431655765)) 2) &&& 858993459)) 4)) &&& 252645135)] dM_208_32 (fun _ => rfl) (Or.inr rfl) ?_
  refine gs0 34 [(0, .inl (((((x0 - ((iush x0 1) &&& 1431655765)) &&& 858993459) + ((iush (x0 - ((iush x0 1) &&& 1431655765)) 2) &&& 858993459)) + (iush (((x0 - ((iush x0 1) &&& 1431655765)) &&& 858993459) + ((iush (x0 - ((iush x0 1) &&& 1431655765)) 2) &&& 858993459)) 4)) &&& 252645135))] [] dM_208_33 (fun _ => rfl) (Or.inr rfl) ?_
  refine gs0 35 [(0, .inl (((((x0 - ((iush x0 1) &&& 1431655765)) &&& 858993459) + ((iush (x0 - ((iush x0 1) &&& 1431655765)) 2) &&& 858993459)) + (iush (((x0 - ((iush x0 1) &&& 1431655765)) &&& 858993459) + ((iush (x0 - ((iush x0 1) &&& 1431655765)) 2) &&& 858993459)) 4)) &&& 252645135))] [.inl (((((x0 - ((iush x0 1) &&& 1431655765)) &&& 858993459) + ((iush (x0 - ((iush x0 1) &&& 1431655765)) 2) &&& 858993459)) + (iush (((x0 - ((iush x0 1) &&& 1431655765)) &&& 858993459) + ((iush (x0 - ((iush x0 1) &&& 1431655765)) 2) &&& 858993459)) 4)) &&& 252645135)] dM_208_34 (fun _ => rfl) (Or.inr rfl) ?_
  refine gs0 36 [(0, .inl (((((x0 - ((iush x0 1) &&& 1431655765)) &&& 858993459) + ((iush (x0 - ((iush x0 1) &&& 1431655765)) 2) &&& 858993459)) + (iush (((x0 - ((iush x0 1) &&& 1431655765)) &&& 858993459) + ((iush (x0 - ((iush x0 1) &&& 1431655765)) 2) &&& 858993459)) 4)) &&& 252645135))] [.inl (((((x0 - ((iush x0 1) &&& 1431655765)) &&& 858993459) + ((iush (x0 - ((iush x0 1) &&& 1431655765)) 2) &&& 858993459)) + (iush (((x0 - ((iush x0 1) &&& 1431655765)) &&& 858993459) + ((iush (x0 - ((iush x0 1) &&& 1431655765)) 2) &&& 858993459)) 4)) &&& 252645135), .inl (((((x0 - ((iush x0 1) &&& 1431655765)) &&& 858993459) + ((iush (x0 - ((iush x0 1) &&& 1431655765)) 2) &&& 858993459)) + (iush (((x0 - ((iush x0 1) &&& 1431655765)) &&& 858993459) + ((iush (x0 - ((iush x0 1) &&& 1431655765)) 2) &&& 858993459)) 4)) &&& 252645135)] dM_208_35 (fun _ => rfl) (Or.inr rfl) ?_
  refine gs0 38 [(0, .inl (((((x0 - ((iush x0 1) &&& 1431655765)) &&& 858993459) + ((iush (x0 - ((iush x0 1) &&& 1431655765)) 2) &&& 858993459)) + (iush (((x0 - ((iush x0 1) &&& 1431655765)) &&& 858993459) + ((iush (x0 - ((iush x0 1) &&& 1431655765)) 2) &&& 858993459)) 4)) &&& 252645135))] [.inl 8, .inl (((((x0 - ((iush x0 1) &&& 1431655765)) &&& 858993459) + ((iush (x0 - ((iush x0 1) &&& 1431655765)) 2) &&& 858993459)) + (iush (((x0 - ((iush x0 1) &&& 1431655765)) &&& 858993459) + ((iush (x0 - ((iush x0 1) &&& 1431655765)) 2) &&& 858993459)) 4)) &&& 252645135), .inl (((((x0 - ((iush x0 1) &&& 1431655765)) &&& 858993459) + ((iush (x0 - ((iush x0 1) &&& 1431655765)) 2) &&& 858993459)) + (iush (((x0 - ((iush x0 1) &&& 1431655765)) &&& 858993459) + ((iush (x0 - ((iush x0 1) &&& 1431655765)) 2) &&& 858993459)) 4)) &&& 252645135)] dM_208_36 (fun _ => rfl) (Or.inr rfl) ?_
  refine gs0 39 [(0, .inl (((((x0 - ((iush x0 1) &&& 1431655765)) &&& 858993459) + ((iush (x0 - ((iush x0 1) &&& 1431655765)) 2) &&& 858993459)) + (iush (((x0 - ((iush x0 1) &&& 1431655765)) &&& 858993459) + ((iush (x0 - ((iush x0 1) &&& 1431655765)) 2) &&& 858993459)) 4)) &&& 252645135))] [.inl (iush (((((x0 - ((iush x0 1) &&& 1431655765)) &&& 858993459) + ((iush (x0 - ((iush x0 1) &&& 1431655765)) 2) &&& 858993459)) + (iush (((x0 - ((iush x0 1) &&& 1431655765)) &&& 858993459) + ((iush (x0 - ((iush x0 1) &&& 1431655765)) 2) &&& 858993459)) 4)) &&& 252645135) 8), .inl (((((x0 - ((iush x0 1) &&& 1431655765)) &&& 858993459) + ((iush (x0 - ((iush x0 1) &&& 1431655765)) 2) &&& 858993459)) + (iush (((x0 - ((iush x0 1) &&& 1431655765)) &&& 858993459) + ((iush (x0 - ((iush x0 1) &&& 1431655765)) 2) &&& 858993459)) 4)) &&& 252645135)] dM_208_38 (fun _ => rfl) (Or.inr rfl) ?_
  refine gs0 40 [(0, .inl (((((x0 - ((iush x0 1) &&& 1431655765)) &&& 858993459) + ((iush (x0 - ((iush x0 1) &&& 1431655765)) 2) &&& 858993459)) + (iush (((x0 - ((iush x0 1) &&& 1431655765)) &&& 858993459) + ((iush (x0 - ((iush x0 1) &&& 1431655765)) 2) &&& 858993459)) 4)) &&& 252645135))] [.inl ((((((x0 - ((iush x0 1) &&& 1431655765)) &&& 858993459) + ((iush (x0 - ((iush x0 1) &&& 1431655765)) 2) &&& 858993459)) + (iush (((x0 - ((iush x0 1) &&& 1431655765)) &&& 858993459) + ((iush (x0 - ((iush x0 1) &&& 1431655765)) 2) &&& 858993459)) 4)) &&& 252645135) + (iush (((((x0 - ((iush x0 1) &&& 1431655765)) &&& 858993459) + ((iush (x0 - ((iush x0 1) &&& 1431655765)) 2) &&& 858993459)) + (iush (((x0 - ((iush x0 1) &&& 1431655765)) &&& 858993459) + ((iush (x0 - ((iush x0 1) &&& 1431655765)) 2) &&& 858993459)) 4)) &&& 252645135) 8))] dM_208_39 (fun _ => rfl) (Or.inr rfl) ?_
  refine gs0 41 [(0, .inl ((((((x0 - ((iush x0 1) &&& 1431655765)) &&& 858993459) + ((iush (x0 - ((iush x0 1) &&& 1431655765)) 2) &&& 858993459)) + (iush (((x0 - ((iush x0 1) &&& 1431655765)) &&& 858993459) + ((iush (x0 - ((iush x0 1) &&& 1431655765)) 2) &&& 858993459)) 4)) &&& 252645135) + (iush (((((x0 - ((iush x0 1) &&& 1431655765)) &&& 858993459) + ((iush (x0 - ((iush x0 1) &&& 1431655765)) 2) &&& 858993459)) + (iush (((x0 - ((iush x0 1) &&& 1431655765)) &&& 858993459) + ((iush (x0 - ((iush x0 1) &&& 1431655765)) 2) &&& 858993459)) 4)) &&& 252645135) 8)))] [] dM_208_40 (fun _ => rfl) (Or.inr rfl) ?_
  refine gs0 42 [(0, .inl ((((((x0 - ((iush x0 1) &&& 1431655765)) &&& 858993459) + ((iush (x0 - ((iush x0 1) &&& 1431655765)) 2) &&& 858993459)) + (iush (((x0 - ((iush x0 1) &&& 1431655765)) &&& 858993459) + ((iush (x0 - ((iush x0 1) &&& 1431655765)) 2) &&& 858993459)) 4)) &&& 252645135) + (iush (((((x0 - ((iush x0 1) &&& 1431655765)) &&& 858993459) + ((iush (x0 - ((iush x0 1) &&& 1431655765)) 2) &&& 858993459)) + (iush (((x0 - ((iush x0 1) &&& 1431655765)) &&& 858993459) + ((iush (x0 - ((iush x0 1) &&& 1431655765)) 2) &&& 858993459)) 4)) &&& 252645135) 8)))] [.inl ((((((x0 - ((iush x0 1) &&& 1431655765)) &&& 858993459) + ((iush (x0 - ((iush x0 1) &&& 1431655765)) 2) &&& 858993459)) + (iush (((x0 - ((iush x0 1) &&& 1431655765)) &&& 858993459) + ((iush (x0 - ((iush x0 1) &&& 1431655765)) 2) &&& 858993459)) 4)) &&& 252645135) + (iush (((((x0 - ((iush x0 1) &&& 1431655765)) &&& 858993459) + ((iush (x0 - ((iush x0 1) &&& 1431655765)) 2) &&& 858993459)) + (iush (((x0 - ((iush x0 1) &&& 1431655765)) &&& 858993459) + ((iush (x0 - ((iush x0 1) &&& 1431655765)) 2) &&& 858993459)) 4)) &&& 252645135) 8))] dM_208_41 (fun _ => rfl) (Or.inr rfl) ?_
  refine gs0 43 [(0, .inl ((((((x0 - ((iush x0 1) &&& 1431655765)) &&& 858993459) + ((iush (x0 - ((iush x0 1) &&& 1431655765)) 2) &&& 858993459)) + (iush (((x0 - ((iush x0 1) &&& 1431655765)) &&& 858993459) + ((iush (x0 - ((iush x0 1) &&& 1431655765)) 2) &&& 858993459)) 4)) &&& 252645135) + (iush (((((x0 - ((iush x0 1) &&& 1431655765)) &&& 858993459) + ((iush (x0 - ((iush x0 1) &&& 1431655765)) 2) &&& 858993459)) + (iush (((x0 - ((iush x0 1) &&& 1431655765)) &&& 858993459) + ((iush (x0 - ((iush x0 1) &&& 1431655765)) 2) &&& 858993459)) 4)) &&& 252645135) 8)))] [.inl ((((((x0 - ((iush x0 1) &&& 1431655765)) &&& 858993459) + ((iush (x0 - ((iush x0 1) &&& 1431655765)) 2) &&& 858993459)) + (iush (((x0 - ((iush x0 1) &&& 1431655765)) &&& 858993459) + ((iush (x0 - ((iush x0 1) &&& 1431655765)) 2) &&& 858993459)) 4)) &&& 252645135) + (iush (((((x0 - ((iush x0 1) &&& 1431655765)) &&& 858993459) + ((iush (x0 - ((iush x0 1) &&& 1431655765)) 2) &&& 858993459)) + (iush (((x0 - ((iush x0 1) &&& 1431655765)) &&& 858993459) + ((iush (x0 - ((iush x0 1) &&& 1431655765)) 2) &&& 858993459)) 4)) &&& 252645135) 8)), .inl ((((((x0 - ((iush x0 1) &&& 1431655765)) &&& 858993459) + ((iush (x0 - ((iush x0 1) &&& 1431655765)) 2) &&& 858993459)) + (iush (((x0 - ((iush x0 1) &&& 1431655765)) &&& 858993459) + ((iush (x0 - ((iush x0 1) &&& 1431655765)) 2) &&& 858993459)) 4)) &&& 252645135) + (iush (((((x0 - ((iush x0 1) &&& 1431655765)) &&& 858993459) + ((iush (x0 - ((iush x0 1) &&& 1431655765)) 2) &&& 858993459)) + (iush (((x0 - ((iush x0 1) &&& 1431655765)) &&& 858993459) + ((iush (x0 - ((iush x0 1) &&& 1431655765)) 2) &&& 858993459)) 4)) &&& 252645135) 8))] dM_208_42 (fun _ => rfl) (Or.inr rfl) ?_
  refine gs0 45 [(0, .inl ((((((x0 - ((iush x0 1) &&& 1431655765)) &&& 858993459) + ((iush (x0 - ((iush x0 1) &&& 1431655765)) 2) &&& 858993459)) + (iush (((x0 - ((iush x0 1) &&& 1431655765)) &&& 858993459) + ((iush (x0 - ((iush x0 1) &&& 1431655765)) 2) &&& 858993459)) 4)) &&& 252645135) + (iush (((((x0 - ((iush x0 1) &&& 1431655765)) &&& 858993459) + ((iush (x0 - ((iush x0 1) &&& 1431655765)) 2) &&& 858993459)) + (iush (((x0 - ((iush x0 1) &&& 1431655765)) &&& 858993459) + ((iush (x0 - ((iush x0 1) &&& 1431655765)) 2) &&& 858993459)) 4)) &&& 252645135) 8)))] [.inl 16, .inl ((((((x0 - ((iush x0 1) &&& 1431655765)) &&& 858993459) + ((iush (x0 - ((iush x0 1) &&& 1431655765)) 2) &&& 858993459)) + (iush (((x0 - ((iush x0 1) &&& 1431655765)) &&& 858993459) + ((iush (x0 - ((iush x0 1) &&& 1431655765)) 2) &&& 858993459)) 4)) &&& 252645135) + (iush (((((x0 - ((iush x0 1) &&& 1431655765)) &&& 858993459) + ((iush (x0 - ((iush x0 1) &&& 1431655765)) 2) &&& 858993459)) + (iush (((x0 - ((iush x0 1) &&& 1431655765)) &&& 858993459) + ((iush (x0 - ((iush x0 1) &&& 1431655765)) 2) &&& 858993459)) 4)) &&& 252645135) 8)), .inl ((((((x0 - ((iush x0 1) &&& 1431655765)) &&& 858993459) + ((iush (x0 - ((iush x0 1) &&& 1431655765)) 2) &&& 858993459)) + (iush (((x0 - ((iush x0 1) &&& 1431655765)) &&& 858993459) + ((iush (x0 - ((iush x0 1) &&& 1431655765)) 2) &&& 858993459)) 4)) &&& 252645135) + (iush (((((x0 - ((iush x0 1) &&& 1431655765)) &&& 858993459) + ((iush (x0 - ((iush x0 1) &&& 1431655765)) 2) &&& 858993459)) + (iush (((x0 - ((iush x0 1) &&& 1431655765)) &&& 858993459) + ((iush (x0 - ((iush x0 1) &&& 1431655765)) 2) &&& 858993459)) 4)) &&& 252645135) 8))] dM_208_43 (fun _ => rfl) (Or.inr rfl) ?_
  refine gs0 46 [(0, .inl ((((((x0 - ((iush x0 1) &&& 1431655765)) &&& 858993459) + ((iush (x0 - ((iush x0 1) &&& 1431655765)) 2) &&& 858993459)) + (iush (((x0 - ((iush x0 1) &&& 1431655765)) &&& 858993459) + ((iush (x0 - ((iush x0 1) &&& 1431655765)) 2) &&& 858993459)) 4)) &&& 252645135) + (iush (((((x0 - ((iush x0 1) &&& 1431655765)) &&& 858993459) + ((iush (x0 - ((iush x0 1) &&& 1431655765)) 2) &&& 858993459)) + (iush (((x0 - ((iush x0 1) &&& 1431655765)) &&& 858993459) + ((iush (x0 - ((iush x0 1) &&& 1431655765)) 2) &&& 858993459)) 4)) &&& 252645135) 8)))] [.inl (iush ((((((x0 - ((iush x0 1) &&& 1431655765)) &&& 858993459) + ((iush (x0 - ((iush x0 1) &&& 1431655765)) 2) &&& 858993459)) + (iush (((x0 - ((iush x0 1) &&& 1431655765)) &&& 858993459) + ((iush (x0 - ((iush x0 1) &&& 1431655765)) 2) &&& 858993459)) 4)) &&& 252645135) + (iush (((((x0 - ((iush x0 1) &&& 1431655765)) &&& 858993459) + ((iush (x0 - ((iush x0 1) &&& 1431655765)) 2) &&& 858993459)) + (iush (((x0 - ((iush x0 1) &&& 1431655765)) &&& 858993459) + ((iush (x0 - ((iush x0 1) &&& 1431655765)) 2) &&& 858993459)) 4)) &&& 252645135) 8)) 16), .inl ((((((x0 - ((iush x0 1) &&& 1431655765)) &&& 858993459) + ((iush (x0 - ((iush x0 1) &&& 1431655765)) 2) &&& 858993459)) + (iush (((x0 - ((iush x0 1) &&& 1431655765)) &&& 858993459) + ((iush (x0 - ((iush x0 1) &&& 1431655765)) 2) &&& 858993459)) 4)) &&& 252645135) + (iush (((((x0 - ((iush x0 1) &&& 1431655765)) &&& 858993459) + ((iush (x0 - ((iush x0 1) &&& 1431655765)) 2) &&& 858993459)) + (iush (((x0 - ((iush x0 1) &&& 1431655765)) &&& 858993459) + ((iush (x0 - ((iush x0 1) &&& 1431655765)) 2) &&& 858993459)) 4)) &&& 252645135) 8))] dM_208_45 (fun _ => rfl) (Or.inr rfl) ?_
  refine gs0 47 [(0, .inl ((((((x0 - ((iush x0 1) &&& 1431655765)) &&& 858993459) + ((iush (x0 - ((iush x0 1) &&& 1431655765)) 2) &&& 858993459)) + (iush (((x0 - ((iush x0 1) &&& 1431655765)) &&& 858993459) + ((iush (x0 - ((iush x0 1) &&& 1431655765)) 2) &&& 858993459)) 4)) &&& 252645135) + (iush (((((x0 - ((iush x0 1) &&& 1431655765)) &&& 858993459) + ((iush (x0 - ((iush x0 1) &&& 1431655765)) 2) &&& 858993459)) + (iush (((x0 - ((iush x0 1) &&& 1431655765)) &&& 858993459) + ((iush (x0 - ((iush x0 1) &&& 1431655765)) 2) &&& 858993459)) 4)) &&& 252645135) 8)))] [.inl (((((((x0 - ((iush x0 1) &&& 1431655765)) &&& 858993459) + ((iush (x0 - ((iush x0 1) &&& 1431655765)) 2) &&& 858993459)) + (iush (((x0 - ((iush x0 1) &&& 1431655765)) &&& 858993459) + ((iush (x0 - ((iush x0 1) &&& 1431655765)) 2) &&& 858993459)) 4)) &&& 252645135) + (iush (((((x0 - ((iush x0 1) &&& 1431655765)) &&& 858993459) + ((iush (x0 - ((iush x0 1) &&& 1431655765)) 2) &&& 858993459)) + (iush (((x0 - ((iush x0 1) &&& 1431655765)) &&& 858993459) + ((iush (x0 - ((iush x0 1) &&& 1431655765)) 2) &&& 858993459)) 4)) &&& 252645135) 8)) + (iush ((((((x0 - ((iush x0 1) &&& 1431655765)) &&& 858993459) + ((iush (x0 - ((iush x0 1) &&& 1431655765)) 2) &&& 858993459)) + (iush (((x0 - ((iush x0 1) &&& 1431655765)) &&& 858993459) + ((iush (x0 - ((iush x0 1) &&& 1431655765)) 2) &&& 858993459)) 4)) &&& 252645135) + (iush (((((x0 - ((iush x0 1) &&& 1431655765)) &&& 858993459) + ((iush (x0 - ((iush x0 1) &&& 1431655765)) 2) &&& 858993459)) + (iush (((x0 - ((iush x0 1) &&& 1431655765)) &&& 858993459) + ((iush (x0 - ((iush x0 1) &&& 1431655765)) 2) &&& 858993459)) 4)) &&& 252645135) 8)) 16))] dM_208_46 (fun _ => rfl) (Or.inr rfl) ?_
  refine gs0 48 [(0, .inl (((((((x0 - ((iush x0 1) &&& 1431655765)) &&& 858993459) + ((iush (x0 - ((iush x0 1) &&& 1431655765)) 2) &&& 858993459)) + (iush (((x0 - ((iush x0 1) &&& 1431655765)) &&& 858993459) + ((iush (x0 - ((iush x0 1) &&& 1431655765)) 2) &&& 858993459)) 4)) &&& 252645135) + (iush (((((x0 - ((iush x0 1) &&& 1431655765)) &&& 858993459) + ((iush (x0 - ((iush x0 1) &&& 1431655765)) 2) &&& 858993459)) + (iush (((x0 - ((iush x0 1) &&& 1431655765)) &&& 858993459) + ((iush (x0 - ((iush x0 1) &&& 1431655765)) 2) &&& 858993459)) 4)) &&& 252645135) 8)) + (iush ((((((x0 - ((iush x0 1) &&& 1431655765)) &&& 858993459) + ((iush (x0 - ((iush x0 1) &&& 1431655765)) 2) &&& 858993459)) + (iush (((x0 - ((iush x0 1) &&& 1431655765)) &&& 858993459) + ((iush (x0 - ((iush x0 1) &&& 1431655765)) 2) &&& 858993459)) 4)) &&& 252645135) + (iush (((((x0 - ((iush x0 1) &&& 1431655765)) &&& 858993459) + ((iush (x0 - ((iush x0 1) &&& 1431655765)) 2) &&& 858993459)) + (iush (((x0 - ((iush x0 1) &&& 1431655765)) &&& 858993459) + ((iush (x0 - ((iush x0 1) &&& 1431655765)) 2) &&& 858993459)) 4)) &&& 252645135) 8)) 16)))] [] dM_208_47 (fun _ => rfl) (Or.inr rfl) ?_
  refine gs0 49 [(0, .inl (((((((x0 - ((iush x0 1) &&& 1431655765)) &&& 858993459) + ((iush (x0 - ((iush x0 1) &&& 1431655765)) 2) &&& 858993459)) + (iush (((x0 - ((iush x0 1) &&& 1431655765)) &&& 858993459) + ((iush (x0 - ((iush x0 1) &&& 1431655765)) 2) &&& 858993459)) 4)) &&& 252645135) + (iush (((((x0 - ((iush x0 1) &&& 1431655765)) &&& 858993459) + ((iush (x0 - ((iush x0 1) &&& 1431655765)) 2) &&& 858993459)) + (iush (((x0 - ((iush x0 1) &&& 1431655765)) &&& 858993459) + ((iush (x0 - ((iush x0 1) &&& 1431655765)) 2) &&& 858993459)) 4)) &&& 252645135) 8)) + (iush ((((((x0 - ((iush x0 1) &&& 1431655765)) &&& 858993459) + ((iush (x0 - ((iush x0 1) &&& 1431655765)) 2) &&& 858993459)) + (iush (((x0 - ((iush x0 1) &&& 1431655765)) &&& 858993459) + ((iush (x0 - ((iush x0 1) &&& 1431655765)) 2) &&& 858993459)) 4)) &&& 252645135) + (iush (((((x0 - ((iush x0 1) &&& 1431655765)) &&& 858993459) + ((iush (x0 - ((iush x0 1) &&& 1431655765)) 2) &&& 858993459)) + (iush (((x0 - ((iush x0 1) &&& 1431655765)) &&& 858993459) + ((iush (x0 - ((iush x0 1) &&& 1431655765)) 2) &&& 858993459)) 4)) &&& 252645135) 8)) 16)))] [.inl (((((((x0 - ((iush x0 1) &&& 1431655765)) &&& 858993459) + ((iush (x0 - ((iush x0 1) &&& 1431655765)) 2) &&& 858993459)) + (iush (((x0 - ((iush x0 1) &&& 1431655765)) &&& 858993459) + ((iush (x0 - ((iush x0 1) &&& 1431655765)) 2) &&& 858993459)) 4)) &&& 252645135) + (iush (((((x0 - ((iush x0 1) &&& 1431655765)) &&& 858993459) + ((iush (x0 - ((iush x0 1) &&& 1431655765)) 2) &&& 858993459)) + (iush (((x0 - ((iush x0 1) &&& 1431655765)) &&& 858993459) + ((iush (x0 - ((iush x0 1) &&& 1431655765)) 2) &&& 858993459)) 4)) &&& 252645135) 8)) + (iush ((((((x0 - ((iush x0 1) &&& 1431655765)) &&& 858993459) + ((iush (x0 - ((iush x0 1) &&& 1431655765)) 2) &&& 858993459)) + (iush (((x0 - ((iush x0 1) &&& 1431655765)) &&& 858993459) + ((iush (x0 - ((iush x0 1) &&& 1431655765)) 2) &&& 858993459)) 4)) &&& 252645135) + (iush (((((x0 - ((iush x0 1) &&& 1431655765)) &&& 858993459) + ((iush (x0 - ((iush x0 1) &&& 1431655765)) 2) &&& 858993459)) + (iush (((x0 - ((iush x0 1) &&& 1431655765)) &&& 858993459) + ((iush (x0 - ((iush x0 1) &&& 1431655765)) 2) &&& 858993459)) 4)) &&& 252645135) 8)) 16))] dM_208_48 (fun _ => rfl) (Or.inr rfl) ?_
  refine gs0 51 [(0, .inl (((((((x0 - ((iush x0 1) &&& 1431655765)) &&& 858993459) + ((iush (x0 - ((iush x0 1) &&& 1431655765)) 2) &&& 858993459)) + (iush (((x0 - ((iush x0 1) &&& 1431655765)) &&& 858993459) + ((iush (x0 - ((iush x0 1) &&& 1431655765)) 2) &&& 858993459)) 4)) &&& 252645135) + (iush (((((x0 - ((iush x0 1) &&& 1431655765)) &&& 858993459) + ((iush (x0 - ((iush x0 1) &&& 1431655765)) 2) &&& 858993459)) + (iush (((x0 - ((iush x0 1) &&& 1431655765)) &&& 858993459) + ((iush (x0 - ((iush x0 1) &&& 1431655765)) 2) &&& 858993459)) 4)) &&& 252645135) 8)) + (iush ((((((x0 - ((iush x0 1) &&& 1431655765)) &&& 858993459) + ((iush (x0 - ((iush x0 1) &&& 1431655765)) 2) &&& 858993459)) + (iush (((x0 - ((iush x0 1) &&& 1431655765)) &&& 858993459) + ((iush (x0 - ((iush x0 1) &&& 1431655765)) 2) &&& 858993459)) 4)) &&& 252645135) + (iush (((((x0 - ((iush x0 1) &&& 1431655765)) &&& 858993459) + ((iush (x0 - ((iush x0 1) &&& 1431655765)) 2) &&& 858993459)) + (iush (((x0 - ((iush x0 1) &&& 1431655765)) &&& 858993459) + ((iush (x0 - ((iush x0 1) &&& 1431655765)) 2) &&& 858993459)) 4)) &&& 252645135) 8)) 16)))] [.inl 63, .inl (((((((x0 - ((iush x0 1) &&& 1431655765)) &&& 858993459) + ((iush (x0 - ((iush x0 1) &&& 1431655765)) 2) &&& 858993459)) + (iush (((x0 - ((iush x0 1) &&& 1431655765)) &&& 858993459) + ((iush (x0 - ((iush x0 1) &&& 1431655765)) 2) &&& 858993459)) 4)) &&& 252645135) + (iush (((((x0 - ((iush x0 1) &&& 1431655765)) &&& 858993459) + ((iush (x0 - ((iush x0 1) &&& 1431655765)) 2) &&& 858993459)) + (iush (((x0 - ((iush x0 1) &&& 1431655765)) &&& 858993459) + ((iush (x0 - ((iush x0 1) &&& 1431655765)) 2) &&& 858993459)) 4)) &&& 252645135) 8)) + (iush ((((((x0 - ((iush x0 1) &&& 1431655765)) &&& 858993459) + ((iush (x0 - ((iush x0 1) &&& 1431655765)) 2) &&& 858993459)) + (iush (((x0 - ((iush x0 1) &&& 1431655765)) &&& 858993459) + ((iush (x0 - ((iush x0 1) &&& 1431655765)) 2) &&& 858993459)) 4)) &&& 252645135) + (iush (((((x0 - ((iush x0 1) &&& 1431655765)) &&& 858993459) + ((iush (x0 - ((iush x0 1) &&& 1431655765)) 2) &&& 858993459)) + (iush (((x0 - ((iush x0 1) &&& 1431655765)) &&& 858993459) + ((iush (x0 - ((iush x0 1) &&& 1431655765)) 2) &&& 858993459)) 4)) &&& 252645135) 8)) 16))] dM_208_49 (fun _ => rfl) (Or.inr rfl) ?_
  refine gs0 52 [(0, .inl (((((((x0 - ((iush x0 1) &&& 1431655765)) &&& 858993459) + ((iush (x0 - ((iush x0 1) &&& 1431655765)) 2) &&& 858993459)) + (iush (((x0 - ((iush x0 1) &&& 1431655765)) &&& 858993459) + ((iush (x0 - ((iush x0 1) &&& 1431655765)) 2) &&& 858993459)) 4)) &&& 252645135) + (iush (((((x0 - ((iush x0 1) &&& 1431655765)) &&& 858993459) + ((iush (x0 - ((iush x0 1) &&& 1431655765)) 2) &&& 858993459)) + (iush (((x0 - ((iush x0 1) &&& 1431655765)) &&& 858993459) + ((iush (x0 - ((iush x0 1) &&& 1431655765)) 2) &&& 858993459)) 4)) &&& 252645135) 8)) + (iush ((((((x0 - ((iush x0 1) &&& 1431655765)) &&& 858993459) + ((iush (x0 - ((iush x0 1) &&& 1431655765)) 2) &&& 858993459)) + (iush (((x0 - ((iush x0 1) &&& 1431655765)) &&& 858993459) + ((iush (x0 - ((iush x0 1) &&& 1431655765)) 2) &&& 858993459)) 4)) &&& 252645135) + (iush (((((x0 - ((iush x0 1) &&& 1431655765)) &&& 858993459) + ((iush (x0 - ((iush x0 1) &&& 1431655765)) 2) &&& 858993459)) + (iush (((x0 - ((iush x0 1) &&& 1431655765)) &&& 858993459) + ((iush (x0 - ((iush x0 1) &&& 1431655765)) 2) &&& 858993459)) 4)) &&& 252645135) 8)) 16)))] [.inl ((((((((x0 - ((iush x0 1) &&& 1431655765)) &&& 858993459) + ((iush (x0 - ((iush x0 1) &&& 1431655765)) 2) &&& 858993459)) + (iush (((x0 - ((iush x0 1) &&& 1431655765)) &&& 858993459) + ((iush (x0 - ((iush x0 1) &&& 1431655765)) 2) &&& 858993459)) 4)) &&& 252645135) + (iush (((((x0 - ((iush x0 1) &&& 1431655765)) &&& 858993459) + ((iush (x0 - ((iush x0 1) &&& 1431655765)) 2) &&& 858993459)) + (iush (((x0 - ((iush x0 1) &&& 1431655765)) &&& 858993459) + ((iush (x0 - ((iush x0 1) &&& 1431655765)) 2) &&& 858993459)) 4)) &&& 252645135) 8)) + (iush ((((((x0 - ((iush x0 1) &&& 1431655765)) &&& 858993459) + ((iush (x0 - ((iush x0 1) &&& 1431655765)) 2) &&& 858993459)) + (iush (((x0 - ((iush x0 1) &&& 1431655765)) &&& 858993459) + ((iush (x0 - ((iush x0 1) &&& 1431655765)) 2) &&& 858993459)) 4)) &&& 252645135) + (iush (((((x0 - ((iush x0 1) &&& 1431655765)) &&& 858993459) + ((iush (x0 - ((iush x0 1) &&& 1431655765)) 2) &&& 858993459)) + (iush (((x0 - ((iush x0 1) &&& 1431655765)) &&& 858993459) + ((iush (x0 - ((iush x0 1) &&& 1431655765)) 2) &&& 858993459)) 4)) &&& 252645135) 8)) 16)) &&& 63)] dM_208_51 (fun _ => rfl) (Or.inr rfl) ?_
  refine gsRet (r := some (.inl ((((((((x0 - ((iush x0 1) &&& 1431655765)) &&& 858993459) + ((iush (x0 - ((iush x0 1) &&& 1431655765)) 2) &&& 858993459)) + (iush (((x0 - ((iush x0 1) &&& 1431655765)) &&& 858993459) + ((iush (x0 - ((iush x0 1) &&& 1431655765)) 2) &&& 858993459)) 4)) &&& 252645135) + (iush (((((x0 - ((iush x0 1) &&& 1431655765)) &&& 858993459) + ((iush (x0 - ((iush x0 1) &&& 1431655765)) 2) &&& 858993459)) + (iush (((x0 - ((iush x0 1) &&& 1431655765)) &&& 858993459) + ((iush (x0 - ((iush x0 1) &&& 1431655765)) 2) &&& 858993459)) 4)) &&& 252645135) 8)) + (iush ((((((x0 - ((iush x0 1) &&& 1431655765)) &&& 858993459) + ((iush (x0 - ((iush x0 1) &&& 1431655765)) 2) &&& 858993459)) + (iush (((x0 - ((iush x0 1) &&& 1431655765)) &&& 858993459) + ((iush (x0 - ((iush x0 1) &&& 1431655765)) 2) &&& 858993459)) 4)) &&& 252645135) + (iush (((((x0 - ((iush x0 1) &&& 1431655765)) &&& 858993459) + ((iush (x0 - ((iush x0 1) &&& 1431655765)) 2) &&& 858993459)) + (iush (((x0 - ((iush x0 1) &&& 1431655765)) &&& 858993459) + ((iush (x0 - ((iush x0 1) &&& 1431655765)) 2) &&& 858993459)) 4)) &&& 252645135) 8)) 16)) &&& 63))) dM_208_52 (fun _ => rfl) (Or.inr rfl) ?_
  exact h
def g_209_5 (kb : Nat) (nb : Nat) (y1 : Int32) (y2 : Int32) (y3 : Int32) (sg : rSg) (P : Option rv → rSg → Prop) : Prop := GoS rSkel 0 13 4 none false prog_15_method_103_code 5 [(0, .inr (.inr (some kb))), (1, .inl y1), (2, .inl y2), (3, .inl y3)] [] sg P
set_option maxRecDepth 100000 in
theorem w_209_5 (sg : rSg) (kb nb : Nat) (hkb : isArr kb nb) (y1 : Int32) (y2 : Int32) (y3 : Int32) {P : Option rv → rSg → Prop} (h :
    (y3 ≤ y2 → 
      P none sg) ∧
    (¬ (y3 ≤ y2) → 
      (rIn y2 nb = true ∧
      g_209_5 kb nb y1 (y2 + 1) y3 (up2 sg kb y2.toNatClampNeg y1) P))) : g_209_5 kb nb y1 y2 y3 sg P := by
  show GoS rSkel 0 13 4 none false prog_15_method_103_code 5 [(0, .inr (.inr (some kb))), (1, .inl y1), (2, .inl y2), (3, .inl y3)] [] sg P
  have b_kb := hkb.1
  refine gs0 6 [(0, .inr (.inr (some kb))), (1, .inl y1), (2, .inl y2), (3, .inl y3)] [.inl y2] dM_209_5 (fun _ => rfl) (Or.inr rfl) ?_
  refine gs0 7 [(0, .inr (.inr (some kb))), (1, .inl y1), (2, .inl y2), (3, .inl y3)] [.inl y3, .inl y2] dM_209_6 (fun _ => rfl) (Or.inr rfl) ?_
  refine gsIf (t := 20) (C := y3 ≤ y2) (r := []) dM_209_7 (fun _ => rfl) (Or.inr rfl) (rTest_iff .ge y2 y3) (fun c1 => ?_) (fun c1 => ?_)
  · replace h := h.1 c1
    refine gsRet (r := none) dM_209_20 (fun _ => rfl) (Or.inr rfl) ?_
    exact h
  · replace h := h.2 c1
    refine gs0 11 [(0, .inr (.inr (some kb))), (1, .inl y1), (2, .inl y2), (3, .inl y3)] [.inr (.inr (some kb))] dM_209_10 (fun _ => rfl) (Or.inr rfl) ?_
    refine gs0 12 [(0, .inr (.inr (some kb))), (1, .inl y1), (2, .inl y2), (3, .inl y3)] [.inl y2, .inr (.inr (some kb))] dM_209_11 (fun _ => rfl) (Or.inr rfl) ?_
    refine gs0 13 [(0, .inr (.inr (some kb))), (1, .inl y1), (2, .inl y2), (3, .inl y3)] [.inl y1, .inl y2, .inr (.inr (some kb))] dM_209_12 (fun _ => rfl) (Or.inr rfl) ?_
    refine gsIastN y2.toNatClampNeg dM_209_13 hkb.2 h.1 rfl ?_
    replace h := h.2
    refine gs0 17 [(2, .inl (y2 + 1)), (0, .inr (.inr (some kb))), (1, .inl y1), (3, .inl y3)] [] dM_209_14 (fun _ => rfl) (Or.inr rfl) ?_
    refine gs0 5 [(2, .inl (y2 + 1)), (0, .inr (.inr (some kb))), (1, .inl y1), (3, .inl y3)] [] dM_209_17 (fun _ => rfl) (Or.inr rfl) ?_
    exact GoS.sub (Lnd_keys (ks := [0, 1, 2, 3]) rfl (by decide)) (Lsub_cons rfl (Lsub_cons rfl (Lsub_cons rfl (Lsub_cons rfl Lsub_nil)))) h
set_option maxRecDepth 100000 in
/-- java/util/Arrays.fill -/
theorem w_209 (sg : rSg) (kb nb : Nat) (hkb : isArr kb nb) (x1 : Int32) {P : Option rv → rSg → Prop} (h :
    g_209_5 kb nb x1 0 (Int32.ofNat nb) sg P) : EvS rSkel 1 209 [.inr (.inr (some kb)), .inl x1] sg P := by
  refine EvS.of (ini := false) rfl ⟨rfl, Nat.le_of_ble_eq_true rfl⟩ rfl ?_
  show GoS rSkel 0 13 4 none false prog_15_method_103_code 0 [(0, .inr (.inr (some kb))), (1, .inl x1)] [] sg _
  have b_kb := hkb.1
  refine gs0 1 [(0, .inr (.inr (some kb))), (1, .inl x1)] [.inl 0] dM_209_0 (fun _ => rfl) (Or.inr rfl) ?_
  refine gs0 2 [(2, .inl 0), (0, .inr (.inr (some kb))), (1, .inl x1)] [] dM_209_1 (fun _ => rfl) (Or.inr rfl) ?_
  refine gs0 3 [(2, .inl 0), (0, .inr (.inr (some kb))), (1, .inl x1)] [.inr (.inr (some kb))] dM_209_2 (fun _ => rfl) (Or.inr rfl) ?_
  refine gsAlen dM_209_3 hkb.2 ?_
  refine gs0 5 [(3, .inl (Int32.ofNat nb)), (2, .inl 0), (0, .inr (.inr (some kb))), (1, .inl x1)] [] dM_209_4 (fun _ => rfl) (Or.inr rfl) ?_
  exact GoS.sub (Lnd_keys (ks := [0, 1, 2, 3]) rfl (by decide)) (Lsub_cons rfl (Lsub_cons rfl (Lsub_cons rfl (Lsub_cons rfl Lsub_nil)))) h
