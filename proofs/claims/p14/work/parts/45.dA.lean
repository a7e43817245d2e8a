theorem dM_1_0 : decode prog_2_method_3_code 0 = .ok (.aload_n 0, 1) := by decide +kernel
theorem dM_1_1 : decode prog_2_method_3_code 1 = .ok (.iconst 3, 1) := by decide +kernel
theorem dM_1_2 : decode prog_2_method_3_code 2 = .ok (.invokevirtual 18, 3) := by decide +kernel
theorem dM_1_5 : decode prog_2_method_3_code 5 = .ok (.lookupswitch 44 #[(0, 27), (1, 34)], 27) := by decide +kernel
theorem dM_1_32 : decode prog_2_method_3_code 32 = .ok (.aload_n 0, 1) := by decide +kernel
theorem dM_1_33 : decode prog_2_method_3_code 33 = .ok (.bipush 6, 2) := by decide +kernel
theorem dM_1_35 : decode prog_2_method_3_code 35 = .ok (.invokevirtual 18, 3) := by decide +kernel
theorem dM_1_38 : decode prog_2_method_3_code 38 = .ok (.ireturn, 1) := by decide +kernel
theorem dM_1_39 : decode prog_2_method_3_code 39 = .ok (.sipush 128, 3) := by decide +kernel
theorem dM_1_42 : decode prog_2_method_3_code 42 = .ok (.aload_n 0, 1) := by decide +kernel
theorem dM_1_43 : decode prog_2_method_3_code 43 = .ok (.iconst 3, 1) := by decide +kernel
theorem dM_1_44 : decode prog_2_method_3_code 44 = .ok (.invokevirtual 18, 3) := by decide +kernel
theorem dM_1_47 : decode prog_2_method_3_code 47 = .ok (.iadd, 1) := by decide +kernel
theorem dM_1_48 : decode prog_2_method_3_code 48 = .ok (.ireturn, 1) := by decide +kernel
theorem dM_1_49 : decode prog_2_method_3_code 49 = .ok (.aload_n 0, 1) := by decide +kernel
theorem dM_1_50 : decode prog_2_method_3_code 50 = .ok (.invokevirtual 22, 3) := by decide +kernel
theorem dM_1_53 : decode prog_2_method_3_code 53 = .ok (.istore_n 2, 1) := by decide +kernel
theorem dM_1_54 : decode prog_2_method_3_code 54 = .ok (.aload_n 0, 1) := by decide +kernel
theorem dM_1_55 : decode prog_2_method_3_code 55 = .ok (.invokevirtual 22, 3) := by decide +kernel
theorem dM_1_58 : decode prog_2_method_3_code 58 = .ok (.istore_n 3, 1) := by decide +kernel
theorem dM_1_59 : decode prog_2_method_3_code 59 = .ok (.aload_n 1, 1) := by decide +kernel
theorem dM_1_60 : decode prog_2_method_3_code 60 = .ok (.iload_n 2, 1) := by decide +kernel
theorem dM_1_61 : decode prog_2_method_3_code 61 = .ok (.iload_n 3, 1) := by decide +kernel
theorem dM_1_62 : decode prog_2_method_3_code 62 = .ok (.invokevirtual 26, 3) := by decide +kernel
theorem dM_1_65 : decode prog_2_method_3_code 65 = .ok (.ireturn, 1) := by decide +kernel
theorem dM_2_0 : decode prog_2_method_2_code 0 = .ok (.aload_n 0, 1) := by decide +kernel
theorem dM_2_1 : decode prog_2_method_2_code 1 = .ok (.aload_n 0, 1) := by decide +kernel
theorem dM_2_2 : decode prog_2_method_2_code 2 = .ok (.getfield 9, 3) := by decide +kernel
theorem dM_2_5 : decode prog_2_method_2_code 5 = .ok (.ldc 15, 2) := by decide +kernel
theorem dM_2_7 : decode prog_2_method_2_code 7 = .ok (.imul, 1) := by decide +kernel
theorem dM_2_8 : decode prog_2_method_2_code 8 = .ok (.ldc 16, 2) := by decide +kernel
theorem dM_2_10 : decode prog_2_method_2_code 10 = .ok (.iadd, 1) := by decide +kernel
theorem dM_2_11 : decode prog_2_method_2_code 11 = .ok (.putfield 9, 3) := by decide +kernel
theorem dM_2_14 : decode prog_2_method_2_code 14 = .ok (.iload_n 1, 1) := by decide +kernel
theorem dM_2_15 : decode prog_2_method_2_code 15 = .ok (.iconst 1, 1) := by decide +kernel
theorem dM_2_16 : decode prog_2_method_2_code 16 = .ok (.if_icmp .ge 7, 3) := by decide +kernel
theorem dM_2_19 : decode prog_2_method_2_code 19 = .ok (.iconst 0, 1) := by decide +kernel
theorem dM_2_20 : decode prog_2_method_2_code 20 = .ok (.goto 16, 3) := by decide +kernel
theorem dM_2_23 : decode prog_2_method_2_code 23 = .ok (.aload_n 0, 1) := by decide +kernel
theorem dM_2_24 : decode prog_2_method_2_code 24 = .ok (.getfield 9, 3) := by decide +kernel
theorem dM_2_27 : decode prog_2_method_2_code 27 = .ok (.ldc 17, 2) := by decide +kernel
theorem dM_2_29 : decode prog_2_method_2_code 29 = .ok (.iand, 1) := by decide +kernel
theorem dM_2_30 : decode prog_2_method_2_code 30 = .ok (.sipush 256, 3) := by decide +kernel
theorem dM_2_33 : decode prog_2_method_2_code 33 = .ok (.idiv, 1) := by decide +kernel
theorem dM_2_34 : decode prog_2_method_2_code 34 = .ok (.iload_n 1, 1) := by decide +kernel
theorem dM_2_35 : decode prog_2_method_2_code 35 = .ok (.irem, 1) := by decide +kernel
theorem dM_2_36 : decode prog_2_method_2_code 36 = .ok (.ireturn, 1) := by decide +kernel
theorem dM_3_0 : decode prog_2_method_4_code 0 = .ok (.aload_n 0, 1) := by decide +kernel
theorem dM_3_1 : decode prog_2_method_4_code 1 = .ok (.iconst 2, 1) := by decide +kernel
theorem dM_3_2 : decode prog_2_method_4_code 2 = .ok (.invokevirtual 18, 3) := by decide +kernel
theorem dM_3_5 : decode prog_2_method_4_code 5 = .ok (.ifCond .ne 12, 3) := by decide +kernel
theorem dM_3_8 : decode prog_2_method_4_code 8 = .ok (.aload_n 0, 1) := by decide +kernel
theorem dM_3_9 : decode prog_2_method_4_code 9 = .ok (.bipush 6, 2) := by decide +kernel
theorem dM_3_11 : decode prog_2_method_4_code 11 = .ok (.invokevirtual 18, 3) := by decide +kernel
theorem dM_3_14 : decode prog_2_method_4_code 14 = .ok (.goto 12, 3) := by decide +kernel
theorem dM_3_17 : decode prog_2_method_4_code 17 = .ok (.sipush 128, 3) := by decide +kernel
theorem dM_3_20 : decode prog_2_method_4_code 20 = .ok (.aload_n 0, 1) := by decide +kernel
theorem dM_3_21 : decode prog_2_method_4_code 21 = .ok (.iconst 3, 1) := by decide +kernel
theorem dM_3_22 : decode prog_2_method_4_code 22 = .ok (.invokevirtual 18, 3) := by decide +kernel
theorem dM_3_25 : decode prog_2_method_4_code 25 = .ok (.iadd, 1) := by decide +kernel
theorem dM_3_26 : decode prog_2_method_4_code 26 = .ok (.ireturn, 1) := by decide +kernel
theorem dM_5_0 : decode prog_3_method_2_code 0 = .ok (.aload_n 0, 1) := by decide +kernel
theorem dM_5_1 : decode prog_3_method_2_code 1 = .ok (.invokevirtual 38, 3) := by decide +kernel
theorem dM_5_4 : decode prog_3_method_2_code 4 = .ok (.aload_n 1, 1) := by decide +kernel
theorem dM_5_5 : decode prog_3_method_2_code 5 = .ok (.invokevirtual 41, 3) := by decide +kernel
theorem dM_5_8 : decode prog_3_method_2_code 8 = .ok (.istore_n 2, 1) := by decide +kernel
theorem dM_5_9 : decode prog_3_method_2_code 9 = .ok (.iconst 0, 1) := by decide +kernel
theorem dM_5_10 : decode prog_3_method_2_code 10 = .ok (.istore_n 3, 1) := by decide +kernel
theorem dM_5_11 : decode prog_3_method_2_code 11 = .ok (.iload_n 3, 1) := by decide +kernel
theorem dM_5_12 : decode prog_3_method_2_code 12 = .ok (.iload_n 2, 1) := by decide +kernel
theorem dM_5_13 : decode prog_3_method_2_code 13 = .ok (.if_icmp .ge 36, 3) := by decide +kernel
theorem dM_5_16 : decode prog_3_method_2_code 16 = .ok (.aload_n 0, 1) := by decide +kernel
theorem dM_5_17 : decode prog_3_method_2_code 17 = .ok (.getfield 25, 3) := by decide +kernel
theorem dM_5_20 : decode prog_3_method_2_code 20 = .ok (.iconst 1, 1) := by decide +kernel
theorem dM_5_21 : decode prog_3_method_2_code 21 = .ok (.if_icmp .lt 16, 3) := by decide +kernel
theorem dM_5_24 : decode prog_3_method_2_code 24 = .ok (.aload_n 0, 1) := by decide +kernel
theorem dM_5_25 : decode prog_3_method_2_code 25 = .ok (.aload_n 1, 1) := by decide +kernel
theorem dM_5_26 : decode prog_3_method_2_code 26 = .ok (.iload_n 3, 1) := by decide +kernel
theorem dM_5_27 : decode prog_3_method_2_code 27 = .ok (.invokevirtual 47, 3) := by decide +kernel
theorem dM_5_30 : decode prog_3_method_2_code 30 = .ok (.iload_n 3, 1) := by decide +kernel
theorem dM_5_31 : decode prog_3_method_2_code 31 = .ok (.invokevirtual 51, 3) := by decide +kernel
theorem dM_5_34 : decode prog_3_method_2_code 34 = .ok (.ifCond .ne 9, 3) := by decide +kernel
theorem dM_5_37 : decode prog_3_method_2_code 37 = .ok (.sipush (-1000), 3) := by decide +kernel
theorem dM_5_40 : decode prog_3_method_2_code 40 = .ok (.iload_n 3, 1) := by decide +kernel
theorem dM_5_41 : decode prog_3_method_2_code 41 = .ok (.isub, 1) := by decide +kernel
theorem dM_5_42 : decode prog_3_method_2_code 42 = .ok (.ireturn, 1) := by decide +kernel
theorem dM_5_43 : decode prog_3_method_2_code 43 = .ok (.iinc 3 1, 3) := by decide +kernel
theorem dM_5_46 : decode prog_3_method_2_code 46 = .ok (.goto (-35), 3) := by decide +kernel
theorem dM_5_49 : decode prog_3_method_2_code 49 = .ok (.aload_n 0, 1) := by decide +kernel
theorem dM_5_50 : decode prog_3_method_2_code 50 = .ok (.getfield 25, 3) := by decide +kernel
theorem dM_5_53 : decode prog_3_method_2_code 53 = .ok (.ifCond .le 9, 3) := by decide +kernel
theorem dM_5_56 : decode prog_3_method_2_code 56 = .ok (.sipush (-1000), 3) := by decide +kernel
theorem dM_5_59 : decode prog_3_method_2_code 59 = .ok (.iload_n 2, 1) := by decide +kernel
theorem dM_5_60 : decode prog_3_method_2_code 60 = .ok (.isub, 1) := by decide +kernel
theorem dM_5_61 : decode prog_3_method_2_code 61 = .ok (.ireturn, 1) := by decide +kernel
theorem dM_5_62 : decode prog_3_method_2_code 62 = .ok (.aload_n 0, 1) := by decide +kernel
theorem dM_5_63 : decode prog_3_method_2_code 63 = .ok (.getfield 35, 3) := by decide +kernel
theorem dM_5_66 : decode prog_3_method_2_code 66 = .ok (.iconst (-1), 1) := by decide +kernel
theorem dM_5_67 : decode prog_3_method_2_code 67 = .ok (.if_icmp .eq 12, 3) := by decide +kernel
theorem dM_5_70 : decode prog_3_method_2_code 70 = .ok (.sipush (-2000), 3) := by decide +kernel
theorem dM_5_73 : decode prog_3_method_2_code 73 = .ok (.aload_n 0, 1) := by decide +kernel
theorem dM_5_74 : decode prog_3_method_2_code 74 = .ok (.getfield 35, 3) := by decide +kernel
theorem dM_5_77 : decode prog_3_method_2_code 77 = .ok (.isub, 1) := by decide +kernel
theorem dM_5_78 : decode prog_3_method_2_code 78 = .ok (.ireturn, 1) := by decide +kernel
theorem dM_5_79 : decode prog_3_method_2_code 79 = .ok (.aload_n 0, 1) := by decide +kernel
theorem dM_5_80 : decode prog_3_method_2_code 80 = .ok (.getfield 9, 3) := by decide +kernel
theorem dM_5_83 : decode prog_3_method_2_code 83 = .ok (.iconst 0, 1) := by decide +kernel
theorem dM_5_84 : decode prog_3_method_2_code 84 = .ok (.aload_n 0, 1) := by decide +kernel
theorem dM_5_85 : decode prog_3_method_2_code 85 = .ok (.getfield 32, 3) := by decide +kernel
theorem dM_5_88 : decode prog_3_method_2_code 88 = .ok (.invokevirtual 55, 3) := by decide +kernel
theorem dM_5_91 : decode prog_3_method_2_code 91 = .ok (.aload_n 0, 1) := by decide +kernel
theorem dM_5_92 : decode prog_3_method_2_code 92 = .ok (.getfield 29, 3) := by decide +kernel
theorem dM_5_95 : decode prog_3_method_2_code 95 = .ok (.ireturn, 1) := by decide +kernel
theorem dM_6_0 : decode prog_3_method_3_code 0 = .ok (.aload_n 0, 1) := by decide +kernel
theorem dM_6_1 : decode prog_3_method_3_code 1 = .ok (.getfield 9, 3) := by decide +kernel
theorem dM_6_4 : decode prog_3_method_3_code 4 = .ok (.invokevirtual 61, 3) := by decide +kernel
theorem dM_6_7 : decode prog_3_method_3_code 7 = .ok (.aload_n 0, 1) := by decide +kernel
theorem dM_6_8 : decode prog_3_method_3_code 8 = .ok (.iconst 0, 1) := by decide +kernel
theorem dM_6_9 : decode prog_3_method_3_code 9 = .ok (.putfield 25, 3) := by decide +kernel
theorem dM_6_12 : decode prog_3_method_3_code 12 = .ok (.aload_n 0, 1) := by decide +kernel
theorem dM_6_13 : decode prog_3_method_3_code 13 = .ok (.iconst 0, 1) := by decide +kernel
theorem dM_6_14 : decode prog_3_method_3_code 14 = .ok (.putfield 29, 3) := by decide +kernel
theorem dM_6_17 : decode prog_3_method_3_code 17 = .ok (.aload_n 0, 1) := by decide +kernel
theorem dM_6_18 : decode prog_3_method_3_code 18 = .ok (.iconst 0, 1) := by decide +kernel
theorem dM_6_19 : decode prog_3_method_3_code 19 = .ok (.putfield 32, 3) := by decide +kernel
theorem dM_6_22 : decode prog_3_method_3_code 22 = .ok (.aload_n 0, 1) := by decide +kernel
theorem dM_6_23 : decode prog_3_method_3_code 23 = .ok (.iconst (-1), 1) := by decide +kernel
theorem dM_6_24 : decode prog_3_method_3_code 24 = .ok (.putfield 35, 3) := by decide +kernel
theorem dM_6_27 : decode prog_3_method_3_code 27 = .ok (.aload_n 0, 1) := by decide +kernel
theorem dM_6_28 : decode prog_3_method_3_code 28 = .ok (.iconst 0, 1) := by decide +kernel
theorem dM_6_29 : decode prog_3_method_3_code 29 = .ok (.iconst (-1), 1) := by decide +kernel
theorem dM_6_30 : decode prog_3_method_3_code 30 = .ok (.iconst 0, 1) := by decide +kernel
theorem dM_6_31 : decode prog_3_method_3_code 31 = .ok (.invokevirtual 64, 3) := by decide +kernel
theorem dM_6_34 : decode prog_3_method_3_code 34 = .ok (.return_, 1) := by decide +kernel
theorem dM_7_0 : decode prog_3_method_4_code 0 = .ok (.aload_n 0, 1) := by decide +kernel
theorem dM_7_1 : decode prog_3_method_4_code 1 = .ok (.getfield 25, 3) := by decide +kernel
theorem dM_7_4 : decode prog_3_method_4_code 4 = .ok (.ifCond .lt 53, 3) := by decide +kernel
theorem dM_7_7 : decode prog_3_method_4_code 7 = .ok (.aload_n 0, 1) := by decide +kernel
theorem dM_7_8 : decode prog_3_method_4_code 8 = .ok (.getfield 25, 3) := by decide +kernel
theorem dM_7_11 : decode prog_3_method_4_code 11 = .ok (.sipush 196, 3) := by decide +kernel
theorem dM_7_14 : decode prog_3_method_4_code 14 = .ok (.if_icmp .ge 43, 3) := by decide +kernel
theorem dM_7_17 : decode prog_3_method_4_code 17 = .ok (.aload_n 0, 1) := by decide +kernel
theorem dM_7_18 : decode prog_3_method_4_code 18 = .ok (.getfield 15, 3) := by decide +kernel
theorem dM_7_21 : decode prog_3_method_4_code 21 = .ok (.aload_n 0, 1) := by decide +kernel
theorem dM_7_22 : decode prog_3_method_4_code 22 = .ok (.getfield 25, 3) := by decide +kernel
theorem dM_7_25 : decode prog_3_method_4_code 25 = .ok (.iload_n 1, 1) := by decide +kernel
theorem dM_7_26 : decode prog_3_method_4_code 26 = .ok (.iastore, 1) := by decide +kernel
theorem dM_7_27 : decode prog_3_method_4_code 27 = .ok (.aload_n 0, 1) := by decide +kernel
theorem dM_7_28 : decode prog_3_method_4_code 28 = .ok (.getfield 19, 3) := by decide +kernel
theorem dM_7_31 : decode prog_3_method_4_code 31 = .ok (.aload_n 0, 1) := by decide +kernel
theorem dM_7_32 : decode prog_3_method_4_code 32 = .ok (.getfield 25, 3) := by decide +kernel
theorem dM_7_35 : decode prog_3_method_4_code 35 = .ok (.iload_n 2, 1) := by decide +kernel
theorem dM_7_36 : decode prog_3_method_4_code 36 = .ok (.iastore, 1) := by decide +kernel
theorem dM_7_37 : decode prog_3_method_4_code 37 = .ok (.aload_n 0, 1) := by decide +kernel
theorem dM_7_38 : decode prog_3_method_4_code 38 = .ok (.getfield 22, 3) := by decide +kernel
theorem dM_7_41 : decode prog_3_method_4_code 41 = .ok (.aload_n 0, 1) := by decide +kernel
theorem dM_7_42 : decode prog_3_method_4_code 42 = .ok (.getfield 25, 3) := by decide +kernel
theorem dM_7_45 : decode prog_3_method_4_code 45 = .ok (.iload_n 3, 1) := by decide +kernel
theorem dM_7_46 : decode prog_3_method_4_code 46 = .ok (.iastore, 1) := by decide +kernel
theorem dM_7_47 : decode prog_3_method_4_code 47 = .ok (.aload_n 0, 1) := by decide +kernel
theorem dM_7_48 : decode prog_3_method_4_code 48 = .ok (.dup, 1) := by decide +kernel
theorem dM_7_49 : decode prog_3_method_4_code 49 = .ok (.getfield 25, 3) := by decide +kernel
theorem dM_7_52 : decode prog_3_method_4_code 52 = .ok (.iconst 1, 1) := by decide +kernel
theorem dM_7_53 : decode prog_3_method_4_code 53 = .ok (.iadd, 1) := by decide +kernel
theorem dM_7_54 : decode prog_3_method_4_code 54 = .ok (.putfield 25, 3) := by decide +kernel
theorem dM_7_57 : decode prog_3_method_4_code 57 = .ok (.return_, 1) := by decide +kernel
theorem dM_8_0 : decode prog_3_method_5_code 0 = .ok (.aload_n 0, 1) := by decide +kernel
theorem dM_8_1 : decode prog_3_method_5_code 1 = .ok (.dup, 1) := by decide +kernel
theorem dM_8_2 : decode prog_3_method_5_code 2 = .ok (.getfield 25, 3) := by decide +kernel
theorem dM_8_5 : decode prog_3_method_5_code 5 = .ok (.iconst 1, 1) := by decide +kernel
theorem dM_8_6 : decode prog_3_method_5_code 6 = .ok (.isub, 1) := by decide +kernel
theorem dM_8_7 : decode prog_3_method_5_code 7 = .ok (.putfield 25, 3) := by decide +kernel
theorem dM_8_10 : decode prog_3_method_5_code 10 = .ok (.aload_n 0, 1) := by decide +kernel
theorem dM_8_11 : decode prog_3_method_5_code 11 = .ok (.getfield 25, 3) := by decide +kernel
theorem dM_8_14 : decode prog_3_method_5_code 14 = .ok (.ifCond .lt 13, 3) := by decide +kernel
theorem dM_8_17 : decode prog_3_method_5_code 17 = .ok (.aload_n 0, 1) := by decide +kernel
theorem dM_8_18 : decode prog_3_method_5_code 18 = .ok (.getfield 25, 3) := by decide +kernel
theorem dM_8_21 : decode prog_3_method_5_code 21 = .ok (.sipush 196, 3) := by decide +kernel
theorem dM_8_24 : decode prog_3_method_5_code 24 = .ok (.if_icmp .lt 5, 3) := by decide +kernel
theorem dM_8_27 : decode prog_3_method_5_code 27 = .ok (.iconst 0, 1) := by decide +kernel
theorem dM_8_28 : decode prog_3_method_5_code 28 = .ok (.ireturn, 1) := by decide +kernel
theorem dM_8_29 : decode prog_3_method_5_code 29 = .ok (.aload_n 0, 1) := by decide +kernel
theorem dM_8_30 : decode prog_3_method_5_code 30 = .ok (.getfield 19, 3) := by decide +kernel
theorem dM_8_33 : decode prog_3_method_5_code 33 = .ok (.aload_n 0, 1) := by decide +kernel
theorem dM_8_34 : decode prog_3_method_5_code 34 = .ok (.getfield 25, 3) := by decide +kernel
theorem dM_8_37 : decode prog_3_method_5_code 37 = .ok (.iaload, 1) := by decide +kernel
theorem dM_8_38 : decode prog_3_method_5_code 38 = .ok (.istore_n 3, 1) := by decide +kernel
theorem dM_8_39 : decode prog_3_method_5_code 39 = .ok (.aload_n 0, 1) := by decide +kernel
theorem dM_8_40 : decode prog_3_method_5_code 40 = .ok (.getfield 22, 3) := by decide +kernel
theorem dM_8_43 : decode prog_3_method_5_code 43 = .ok (.aload_n 0, 1) := by decide +kernel
theorem dM_8_44 : decode prog_3_method_5_code 44 = .ok (.getfield 25, 3) := by decide +kernel
theorem dM_8_47 : decode prog_3_method_5_code 47 = .ok (.iaload, 1) := by decide +kernel
theorem dM_8_48 : decode prog_3_method_5_code 48 = .ok (.istore 4, 2) := by decide +kernel
theorem dM_8_50 : decode prog_3_method_5_code 50 = .ok (.aload_n 0, 1) := by decide +kernel
theorem dM_8_51 : decode prog_3_method_5_code 51 = .ok (.getfield 15, 3) := by decide +kernel
theorem dM_8_54 : decode prog_3_method_5_code 54 = .ok (.aload_n 0, 1) := by decide +kernel
theorem dM_8_55 : decode prog_3_method_5_code 55 = .ok (.getfield 25, 3) := by decide +kernel
theorem dM_8_58 : decode prog_3_method_5_code 58 = .ok (.iaload, 1) := by decide +kernel
theorem dM_8_59 : decode prog_3_method_5_code 59 = .ok (.lookupswitch 45 #[(0, 25), (1, 35)], 25) := by decide +kernel
theorem dM_8_84 : decode prog_3_method_5_code 84 = .ok (.aload_n 0, 1) := by decide +kernel
theorem dM_8_85 : decode prog_3_method_5_code 85 = .ok (.iload_n 1, 1) := by decide +kernel
theorem dM_8_86 : decode prog_3_method_5_code 86 = .ok (.iload_n 2, 1) := by decide +kernel
theorem dM_8_87 : decode prog_3_method_5_code 87 = .ok (.iload_n 3, 1) := by decide +kernel
theorem dM_8_88 : decode prog_3_method_5_code 88 = .ok (.iload 4, 2) := by decide +kernel
theorem dM_8_90 : decode prog_3_method_5_code 90 = .ok (.invokevirtual 68, 3) := by decide +kernel
theorem dM_8_93 : decode prog_3_method_5_code 93 = .ok (.ireturn, 1) := by decide +kernel
theorem dM_8_94 : decode prog_3_method_5_code 94 = .ok (.aload_n 0, 1) := by decide +kernel
theorem dM_8_95 : decode prog_3_method_5_code 95 = .ok (.iload_n 1, 1) := by decide +kernel
theorem dM_8_96 : decode prog_3_method_5_code 96 = .ok (.iload_n 2, 1) := by decide +kernel
theorem dM_8_97 : decode prog_3_method_5_code 97 = .ok (.iload_n 3, 1) := by decide +kernel
theorem dM_8_98 : decode prog_3_method_5_code 98 = .ok (.iload 4, 2) := by decide +kernel
theorem dM_8_100 : decode prog_3_method_5_code 100 = .ok (.invokevirtual 72, 3) := by decide +kernel
theorem dM_8_103 : decode prog_3_method_5_code 103 = .ok (.ireturn, 1) := by decide +kernel
theorem dM_8_104 : decode prog_3_method_5_code 104 = .ok (.iload_n 1, 1) := by decide +kernel
theorem dM_8_105 : decode prog_3_method_5_code 105 = .ok (.bipush 41, 2) := by decide +kernel
theorem dM_8_107 : decode prog_3_method_5_code 107 = .ok (.if_icmp .ne 7, 3) := by decide +kernel
theorem dM_8_110 : decode prog_3_method_5_code 110 = .ok (.iconst 1, 1) := by decide +kernel
theorem dM_8_111 : decode prog_3_method_5_code 111 = .ok (.goto 4, 3) := by decide +kernel
theorem dM_8_114 : decode prog_3_method_5_code 114 = .ok (.iconst 0, 1) := by decide +kernel
theorem dM_8_115 : decode prog_3_method_5_code 115 = .ok (.ireturn, 1) := by decide +kernel
theorem dM_9_0 : decode prog_3_method_6_code 0 = .ok (.iload_n 1, 1) := by decide +kernel
theorem dM_9_1 : decode prog_3_method_6_code 1 = .ok (.invokestatic 75, 3) := by decide +kernel
theorem dM_9_4 : decode prog_3_method_6_code 4 = .ok (.istore 5, 2) := by decide +kernel
theorem dM_9_6 : decode prog_3_method_6_code 6 = .ok (.iload 5, 2) := by decide +kernel
theorem dM_9_8 : decode prog_3_method_6_code 8 = .ok (.ifCond .ge 5, 3) := by decide +kernel
theorem dM_9_11 : decode prog_3_method_6_code 11 = .ok (.iconst 0, 1) := by decide +kernel
theorem dM_9_12 : decode prog_3_method_6_code 12 = .ok (.ireturn, 1) := by decide +kernel
theorem dM_9_13 : decode prog_3_method_6_code 13 = .ok (.aload_n 0, 1) := by decide +kernel
theorem dM_9_14 : decode prog_3_method_6_code 14 = .ok (.dup, 1) := by decide +kernel
theorem dM_9_15 : decode prog_3_method_6_code 15 = .ok (.getfield 29, 3) := by decide +kernel
theorem dM_9_18 : decode prog_3_method_6_code 18 = .ok (.iconst 1, 1) := by decide +kernel
theorem dM_9_19 : decode prog_3_method_6_code 19 = .ok (.iadd, 1) := by decide +kernel
theorem dM_9_20 : decode prog_3_method_6_code 20 = .ok (.putfield 29, 3) := by decide +kernel
theorem dM_9_23 : decode prog_3_method_6_code 23 = .ok (.aload_n 0, 1) := by decide +kernel
theorem dM_9_24 : decode prog_3_method_6_code 24 = .ok (.getfield 29, 3) := by decide +kernel
theorem dM_9_27 : decode prog_3_method_6_code 27 = .ok (.bipush 24, 2) := by decide +kernel
theorem dM_9_29 : decode prog_3_method_6_code 29 = .ok (.if_icmp .le 16, 3) := by decide +kernel
theorem dM_9_32 : decode prog_3_method_6_code 32 = .ok (.aload_n 0, 1) := by decide +kernel
theorem dM_9_33 : decode prog_3_method_6_code 33 = .ok (.getfield 35, 3) := by decide +kernel
theorem dM_9_36 : decode prog_3_method_6_code 36 = .ok (.iconst (-1), 1) := by decide +kernel
theorem dM_9_37 : decode prog_3_method_6_code 37 = .ok (.if_icmp .ne 8, 3) := by decide +kernel
theorem dM_9_40 : decode prog_3_method_6_code 40 = .ok (.aload_n 0, 1) := by decide +kernel
theorem dM_9_41 : decode prog_3_method_6_code 41 = .ok (.iload_n 2, 1) := by decide +kernel
theorem dM_9_42 : decode prog_3_method_6_code 42 = .ok (.putfield 35, 3) := by decide +kernel
theorem dM_9_45 : decode prog_3_method_6_code 45 = .ok (.aload_n 0, 1) := by decide +kernel
theorem dM_9_46 : decode prog_3_method_6_code 46 = .ok (.getfield 35, 3) := by decide +kernel
theorem dM_9_49 : decode prog_3_method_6_code 49 = .ok (.iconst (-1), 1) := by decide +kernel
theorem dM_9_50 : decode prog_3_method_6_code 50 = .ok (.if_icmp .ne 14, 3) := by decide +kernel
theorem dM_9_53 : decode prog_3_method_6_code 53 = .ok (.aload_n 0, 1) := by decide +kernel
theorem dM_9_54 : decode prog_3_method_6_code 54 = .ok (.getfield 9, 3) := by decide +kernel
theorem dM_9_57 : decode prog_3_method_6_code 57 = .ok (.iload_n 1, 1) := by decide +kernel
theorem dM_9_58 : decode prog_3_method_6_code 58 = .ok (.invokevirtual 78, 3) := by decide +kernel
theorem dM_9_61 : decode prog_3_method_6_code 61 = .ok (.goto 4, 3) := by decide +kernel
theorem dM_9_64 : decode prog_3_method_6_code 64 = .ok (.iconst (-1), 1) := by decide +kernel
theorem dM_9_65 : decode prog_3_method_6_code 65 = .ok (.istore 6, 2) := by decide +kernel
theorem dM_9_67 : decode prog_3_method_6_code 67 = .ok (.aload_n 0, 1) := by decide +kernel
theorem dM_9_68 : decode prog_3_method_6_code 68 = .ok (.getfield 9, 3) := by decide +kernel
theorem dM_9_71 : decode prog_3_method_6_code 71 = .ok (.iload_n 3, 1) := by decide +kernel
theorem dM_9_72 : decode prog_3_method_6_code 72 = .ok (.iload 4, 2) := by decide +kernel
theorem dM_9_74 : decode prog_3_method_6_code 74 = .ok (.iload 6, 2) := by decide +kernel
theorem dM_9_76 : decode prog_3_method_6_code 76 = .ok (.invokevirtual 81, 3) := by decide +kernel
theorem dM_9_79 : decode prog_3_method_6_code 79 = .ok (.iload_n 1, 1) := by decide +kernel
theorem dM_9_80 : decode prog_3_method_6_code 80 = .ok (.bipush 38, 2) := by decide +kernel
theorem dM_9_82 : decode prog_3_method_6_code 82 = .ok (.if_icmp .eq 9, 3) := by decide +kernel
theorem dM_9_85 : decode prog_3_method_6_code 85 = .ok (.iload_n 1, 1) := by decide +kernel
theorem dM_9_86 : decode prog_3_method_6_code 86 = .ok (.bipush 124, 2) := by decide +kernel
theorem dM_9_88 : decode prog_3_method_6_code 88 = .ok (.if_icmp .ne 7, 3) := by decide +kernel
theorem dM_9_91 : decode prog_3_method_6_code 91 = .ok (.iconst 0, 1) := by decide +kernel
theorem dM_9_92 : decode prog_3_method_6_code 92 = .ok (.goto 4, 3) := by decide +kernel
theorem dM_9_95 : decode prog_3_method_6_code 95 = .ok (.iconst 1, 1) := by decide +kernel
theorem dM_9_96 : decode prog_3_method_6_code 96 = .ok (.istore 7, 2) := by decide +kernel
theorem dM_9_98 : decode prog_3_method_6_code 98 = .ok (.iload 5, 2) := by decide +kernel
theorem dM_9_100 : decode prog_3_method_6_code 100 = .ok (.iconst 1, 1) := by decide +kernel
theorem dM_9_101 : decode prog_3_method_6_code 101 = .ok (.isub, 1) := by decide +kernel
theorem dM_9_102 : decode prog_3_method_6_code 102 = .ok (.istore 8, 2) := by decide +kernel
theorem dM_9_104 : decode prog_3_method_6_code 104 = .ok (.iload 8, 2) := by decide +kernel
theorem dM_9_106 : decode prog_3_method_6_code 106 = .ok (.ifCond .lt 19, 3) := by decide +kernel
theorem dM_9_109 : decode prog_3_method_6_code 109 = .ok (.aload_n 0, 1) := by decide +kernel
theorem dM_9_110 : decode prog_3_method_6_code 110 = .ok (.iload 7, 2) := by decide +kernel
theorem dM_9_112 : decode prog_3_method_6_code 112 = .ok (.iload 6, 2) := by decide +kernel
theorem dM_9_114 : decode prog_3_method_6_code 114 = .ok (.iload 8, 2) := by decide +kernel
theorem dM_9_116 : decode prog_3_method_6_code 116 = .ok (.invokevirtual 64, 3) := by decide +kernel
theorem dM_9_119 : decode prog_3_method_6_code 119 = .ok (.iinc 8 (-1), 3) := by decide +kernel
theorem dM_9_122 : decode prog_3_method_6_code 122 = .ok (.goto (-18), 3) := by decide +kernel
theorem dM_9_125 : decode prog_3_method_6_code 125 = .ok (.iconst 1, 1) := by decide +kernel
theorem dM_9_126 : decode prog_3_method_6_code 126 = .ok (.ireturn, 1) := by decide +kernel
theorem dM_10_0 : decode prog_3_method_8_code 0 = .ok (.iload_n 0, 1) := by decide +kernel
theorem dM_10_1 : decode prog_3_method_8_code 1 = .ok (.lookupswitch 81 #[(33, 79), (35, 75), (38, 75), (42, 79), (61, 75), (65, 77), (77, 75), (124, 75)], 75) := by decide +kernel
theorem dM_10_76 : decode prog_3_method_8_code 76 = .ok (.iconst 2, 1) := by decide +kernel
theorem dM_10_77 : decode prog_3_method_8_code 77 = .ok (.ireturn, 1) := by decide +kernel
theorem dM_10_78 : decode prog_3_method_8_code 78 = .ok (.iconst 3, 1) := by decide +kernel
theorem dM_10_79 : decode prog_3_method_8_code 79 = .ok (.ireturn, 1) := by decide +kernel
theorem dM_10_80 : decode prog_3_method_8_code 80 = .ok (.iconst 0, 1) := by decide +kernel
theorem dM_10_81 : decode prog_3_method_8_code 81 = .ok (.ireturn, 1) := by decide +kernel
theorem dM_10_82 : decode prog_3_method_8_code 82 = .ok (.iconst (-1), 1) := by decide +kernel
theorem dM_10_83 : decode prog_3_method_8_code 83 = .ok (.ireturn, 1) := by decide +kernel
theorem dM_11_0 : decode prog_3_method_7_code 0 = .ok (.iload_n 1, 1) := by decide +kernel
theorem dM_11_1 : decode prog_3_method_7_code 1 = .ok (.invokestatic 84, 3) := by decide +kernel
theorem dM_11_4 : decode prog_3_method_7_code 4 = .ok (.istore 5, 2) := by decide +kernel
theorem dM_11_6 : decode prog_3_method_7_code 6 = .ok (.iload 5, 2) := by decide +kernel
theorem dM_11_8 : decode prog_3_method_7_code 8 = .ok (.iconst (-1), 1) := by decide +kernel
theorem dM_11_9 : decode prog_3_method_7_code 9 = .ok (.if_icmp .ne 11, 3) := by decide +kernel
theorem dM_11_12 : decode prog_3_method_7_code 12 = .ok (.iload_n 1, 1) := by decide +kernel
theorem dM_11_13 : decode prog_3_method_7_code 13 = .ok (.bipush 40, 2) := by decide +kernel
theorem dM_11_15 : decode prog_3_method_7_code 15 = .ok (.if_icmp .eq 5, 3) := by decide +kernel
theorem dM_11_18 : decode prog_3_method_7_code 18 = .ok (.iconst 0, 1) := by decide +kernel
theorem dM_11_19 : decode prog_3_method_7_code 19 = .ok (.ireturn, 1) := by decide +kernel
theorem dM_11_20 : decode prog_3_method_7_code 20 = .ok (.aload_n 0, 1) := by decide +kernel
theorem dM_11_21 : decode prog_3_method_7_code 21 = .ok (.dup, 1) := by decide +kernel
theorem dM_11_22 : decode prog_3_method_7_code 22 = .ok (.getfield 32, 3) := by decide +kernel
theorem dM_11_25 : decode prog_3_method_7_code 25 = .ok (.iconst 1, 1) := by decide +kernel
theorem dM_11_26 : decode prog_3_method_7_code 26 = .ok (.iadd, 1) := by decide +kernel
theorem dM_11_27 : decode prog_3_method_7_code 27 = .ok (.putfield 32, 3) := by decide +kernel
theorem dM_11_30 : decode prog_3_method_7_code 30 = .ok (.aload_n 0, 1) := by decide +kernel
theorem dM_11_31 : decode prog_3_method_7_code 31 = .ok (.getfield 32, 3) := by decide +kernel
theorem dM_11_34 : decode prog_3_method_7_code 34 = .ok (.bipush 40, 2) := by decide +kernel
theorem dM_11_36 : decode prog_3_method_7_code 36 = .ok (.if_icmp .le 16, 3) := by decide +kernel
theorem dM_11_39 : decode prog_3_method_7_code 39 = .ok (.aload_n 0, 1) := by decide +kernel
theorem dM_11_40 : decode prog_3_method_7_code 40 = .ok (.getfield 35, 3) := by decide +kernel
theorem dM_11_43 : decode prog_3_method_7_code 43 = .ok (.iconst (-1), 1) := by decide +kernel
theorem dM_11_44 : decode prog_3_method_7_code 44 = .ok (.if_icmp .ne 8, 3) := by decide +kernel
theorem dM_11_47 : decode prog_3_method_7_code 47 = .ok (.aload_n 0, 1) := by decide +kernel
theorem dM_11_48 : decode prog_3_method_7_code 48 = .ok (.iload_n 2, 1) := by decide +kernel
theorem dM_11_49 : decode prog_3_method_7_code 49 = .ok (.putfield 35, 3) := by decide +kernel
theorem dM_11_52 : decode prog_3_method_7_code 52 = .ok (.iload_n 1, 1) := by decide +kernel
theorem dM_11_53 : decode prog_3_method_7_code 53 = .ok (.bipush 40, 2) := by decide +kernel
theorem dM_11_55 : decode prog_3_method_7_code 55 = .ok (.if_icmp .ne 53, 3) := by decide +kernel
theorem dM_11_58 : decode prog_3_method_7_code 58 = .ok (.aload_n 0, 1) := by decide +kernel
theorem dM_11_59 : decode prog_3_method_7_code 59 = .ok (.getfield 35, 3) := by decide +kernel
theorem dM_11_62 : decode prog_3_method_7_code 62 = .ok (.iconst (-1), 1) := by decide +kernel
theorem dM_11_63 : decode prog_3_method_7_code 63 = .ok (.if_icmp .ne 19, 3) := by decide +kernel
theorem dM_11_66 : decode prog_3_method_7_code 66 = .ok (.aload_n 0, 1) := by decide +kernel
theorem dM_11_67 : decode prog_3_method_7_code 67 = .ok (.getfield 9, 3) := by decide +kernel
theorem dM_11_70 : decode prog_3_method_7_code 70 = .ok (.sipush 138, 3) := by decide +kernel
theorem dM_11_73 : decode prog_3_method_7_code 73 = .ok (.sipush 138, 3) := by decide +kernel
theorem dM_11_76 : decode prog_3_method_7_code 76 = .ok (.invokevirtual 87, 3) := by decide +kernel
theorem dM_11_79 : decode prog_3_method_7_code 79 = .ok (.goto 4, 3) := by decide +kernel
theorem dM_11_82 : decode prog_3_method_7_code 82 = .ok (.iconst (-1), 1) := by decide +kernel
theorem dM_11_83 : decode prog_3_method_7_code 83 = .ok (.istore 5, 2) := by decide +kernel
theorem dM_11_85 : decode prog_3_method_7_code 85 = .ok (.aload_n 0, 1) := by decide +kernel
theorem dM_11_86 : decode prog_3_method_7_code 86 = .ok (.iconst 2, 1) := by decide +kernel
theorem dM_11_87 : decode prog_3_method_7_code 87 = .ok (.iconst (-1), 1) := by decide +kernel
theorem dM_11_88 : decode prog_3_method_7_code 88 = .ok (.iconst 0, 1) := by decide +kernel
theorem dM_11_89 : decode prog_3_method_7_code 89 = .ok (.invokevirtual 64, 3) := by decide +kernel
theorem dM_11_92 : decode prog_3_method_7_code 92 = .ok (.aload_n 0, 1) := by decide +kernel
theorem dM_11_93 : decode prog_3_method_7_code 93 = .ok (.iconst 1, 1) := by decide +kernel
theorem dM_11_94 : decode prog_3_method_7_code 94 = .ok (.iload 5, 2) := by decide +kernel
theorem dM_11_96 : decode prog_3_method_7_code 96 = .ok (.iconst 1, 1) := by decide +kernel
theorem dM_11_97 : decode prog_3_method_7_code 97 = .ok (.invokevirtual 64, 3) := by decide +kernel
theorem dM_11_100 : decode prog_3_method_7_code 100 = .ok (.aload_n 0, 1) := by decide +kernel
theorem dM_11_101 : decode prog_3_method_7_code 101 = .ok (.iconst 1, 1) := by decide +kernel
theorem dM_11_102 : decode prog_3_method_7_code 102 = .ok (.iload 5, 2) := by decide +kernel
theorem dM_11_104 : decode prog_3_method_7_code 104 = .ok (.iconst 0, 1) := by decide +kernel
theorem dM_11_105 : decode prog_3_method_7_code 105 = .ok (.invokevirtual 64, 3) := by decide +kernel
theorem dM_11_108 : decode prog_3_method_7_code 108 = .ok (.iload_n 3, 1) := by decide +kernel
theorem dM_11_109 : decode prog_3_method_7_code 109 = .ok (.invokestatic 91, 3) := by decide +kernel
theorem dM_11_112 : decode prog_3_method_7_code 112 = .ok (.ifCond .eq 18, 3) := by decide +kernel
theorem dM_11_115 : decode prog_3_method_7_code 115 = .ok (.aload_n 0, 1) := by decide +kernel
theorem dM_11_116 : decode prog_3_method_7_code 116 = .ok (.getfield 9, 3) := by decide +kernel
theorem dM_11_119 : decode prog_3_method_7_code 119 = .ok (.iload_n 3, 1) := by decide +kernel
theorem dM_11_120 : decode prog_3_method_7_code 120 = .ok (.iload 4, 2) := by decide +kernel
theorem dM_11_122 : decode prog_3_method_7_code 122 = .ok (.iload 5, 2) := by decide +kernel
theorem dM_11_124 : decode prog_3_method_7_code 124 = .ok (.invokevirtual 95, 3) := by decide +kernel
theorem dM_11_127 : decode prog_3_method_7_code 127 = .ok (.goto 15, 3) := by decide +kernel
theorem dM_11_130 : decode prog_3_method_7_code 130 = .ok (.aload_n 0, 1) := by decide +kernel
theorem dM_11_131 : decode prog_3_method_7_code 131 = .ok (.getfield 9, 3) := by decide +kernel
theorem dM_11_134 : decode prog_3_method_7_code 134 = .ok (.iload_n 3, 1) := by decide +kernel
theorem dM_11_135 : decode prog_3_method_7_code 135 = .ok (.iload 4, 2) := by decide +kernel
theorem dM_11_137 : decode prog_3_method_7_code 137 = .ok (.iload 5, 2) := by decide +kernel
theorem dM_11_139 : decode prog_3_method_7_code 139 = .ok (.invokevirtual 81, 3) := by decide +kernel
theorem dM_11_142 : decode prog_3_method_7_code 142 = .ok (.iconst 1, 1) := by decide +kernel
theorem dM_11_143 : decode prog_3_method_7_code 143 = .ok (.ireturn, 1) := by decide +kernel
theorem dM_12_0 : decode prog_3_method_9_code 0 = .ok (.iload_n 0, 1) := by decide +kernel
theorem dM_12_1 : decode prog_3_method_9_code 1 = .ok (.bipush 97, 2) := by decide +kernel
theorem dM_12_3 : decode prog_3_method_9_code 3 = .ok (.if_icmp .lt 14, 3) := by decide +kernel
theorem dM_12_6 : decode prog_3_method_9_code 6 = .ok (.iload_n 0, 1) := by decide +kernel
theorem dM_12_7 : decode prog_3_method_9_code 7 = .ok (.bipush 103, 2) := by decide +kernel
theorem dM_12_9 : decode prog_3_method_9_code 9 = .ok (.if_icmp .ge 8, 3) := by decide +kernel
theorem dM_12_12 : decode prog_3_method_9_code 12 = .ok (.iload_n 0, 1) := by decide +kernel
theorem dM_12_13 : decode prog_3_method_9_code 13 = .ok (.bipush 97, 2) := by decide +kernel
theorem dM_12_15 : decode prog_3_method_9_code 15 = .ok (.isub, 1) := by decide +kernel
theorem dM_12_16 : decode prog_3_method_9_code 16 = .ok (.ireturn, 1) := by decide +kernel
theorem dM_12_17 : decode prog_3_method_9_code 17 = .ok (.iload_n 0, 1) := by decide +kernel
theorem dM_12_18 : decode prog_3_method_9_code 18 = .ok (.bipush 48, 2) := by decide +kernel
theorem dM_12_20 : decode prog_3_method_9_code 20 = .ok (.if_icmp .lt 18, 3) := by decide +kernel
theorem dM_12_23 : decode prog_3_method_9_code 23 = .ok (.iload_n 0, 1) := by decide +kernel
theorem dM_12_24 : decode prog_3_method_9_code 24 = .ok (.bipush 58, 2) := by decide +kernel
theorem dM_12_26 : decode prog_3_method_9_code 26 = .ok (.if_icmp .ge 12, 3) := by decide +kernel
theorem dM_12_29 : decode prog_3_method_9_code 29 = .ok (.sipush 128, 3) := by decide +kernel
theorem dM_12_32 : decode prog_3_method_9_code 32 = .ok (.iload_n 0, 1) := by decide +kernel
theorem dM_12_33 : decode prog_3_method_9_code 33 = .ok (.iadd, 1) := by decide +kernel
theorem dM_12_34 : decode prog_3_method_9_code 34 = .ok (.bipush 48, 2) := by decide +kernel
theorem dM_12_36 : decode prog_3_method_9_code 36 = .ok (.isub, 1) := by decide +kernel
theorem dM_12_37 : decode prog_3_method_9_code 37 = .ok (.ireturn, 1) := by decide +kernel
theorem dM_12_38 : decode prog_3_method_9_code 38 = .ok (.iload_n 0, 1) := by decide +kernel
theorem dM_12_39 : decode prog_3_method_9_code 39 = .ok (.bipush 110, 2) := by decide +kernel
theorem dM_12_41 : decode prog_3_method_9_code 41 = .ok (.if_icmp .ne 9, 3) := by decide +kernel
theorem dM_12_44 : decode prog_3_method_9_code 44 = .ok (.sipush 138, 3) := by decide +kernel
theorem dM_12_47 : decode prog_3_method_9_code 47 = .ok (.goto 4, 3) := by decide +kernel
theorem dM_12_50 : decode prog_3_method_9_code 50 = .ok (.iconst (-1), 1) := by decide +kernel
theorem dM_12_51 : decode prog_3_method_9_code 51 = .ok (.ireturn, 1) := by decide +kernel
theorem dM_14_0 : decode prog_4_method_2_code 0 = .ok (.aload_n 0, 1) := by decide +kernel
theorem dM_14_1 : decode prog_4_method_2_code 1 = .ok (.getfield 21, 3) := by decide +kernel
theorem dM_14_4 : decode prog_4_method_2_code 4 = .ok (.aload_n 0, 1) := by decide +kernel
theorem dM_14_5 : decode prog_4_method_2_code 5 = .ok (.getfield 15, 3) := by decide +kernel
theorem dM_14_8 : decode prog_4_method_2_code 8 = .ok (.arraylength, 1) := by decide +kernel
theorem dM_14_9 : decode prog_4_method_2_code 9 = .ok (.if_icmp .lt 7, 3) := by decide +kernel
theorem dM_14_12 : decode prog_4_method_2_code 12 = .ok (.iconst 1, 1) := by decide +kernel
theorem dM_14_13 : decode prog_4_method_2_code 13 = .ok (.goto 4, 3) := by decide +kernel
theorem dM_14_16 : decode prog_4_method_2_code 16 = .ok (.iconst 0, 1) := by decide +kernel
theorem dM_14_17 : decode prog_4_method_2_code 17 = .ok (.ireturn, 1) := by decide +kernel
theorem dM_15_0 : decode prog_4_method_3_code 0 = .ok (.aload_n 0, 1) := by decide +kernel
theorem dM_15_1 : decode prog_4_method_3_code 1 = .ok (.getfield 21, 3) := by decide +kernel
theorem dM_15_4 : decode prog_4_method_3_code 4 = .ok (.ifCond .lt 35, 3) := by decide +kernel
theorem dM_15_7 : decode prog_4_method_3_code 7 = .ok (.aload_n 0, 1) := by decide +kernel
theorem dM_15_8 : decode prog_4_method_3_code 8 = .ok (.getfield 21, 3) := by decide +kernel
theorem dM_15_11 : decode prog_4_method_3_code 11 = .ok (.aload_n 0, 1) := by decide +kernel
theorem dM_15_12 : decode prog_4_method_3_code 12 = .ok (.getfield 15, 3) := by decide +kernel
theorem dM_15_15 : decode prog_4_method_3_code 15 = .ok (.arraylength, 1) := by decide +kernel
theorem dM_15_16 : decode prog_4_method_3_code 16 = .ok (.if_icmp .ge 23, 3) := by decide +kernel
theorem dM_15_19 : decode prog_4_method_3_code 19 = .ok (.aload_n 0, 1) := by decide +kernel
theorem dM_15_20 : decode prog_4_method_3_code 20 = .ok (.getfield 15, 3) := by decide +kernel
theorem dM_15_23 : decode prog_4_method_3_code 23 = .ok (.aload_n 0, 1) := by decide +kernel
theorem dM_15_24 : decode prog_4_method_3_code 24 = .ok (.getfield 21, 3) := by decide +kernel
theorem dM_15_27 : decode prog_4_method_3_code 27 = .ok (.iload_n 1, 1) := by decide +kernel
theorem dM_15_28 : decode prog_4_method_3_code 28 = .ok (.iastore, 1) := by decide +kernel
theorem dM_15_29 : decode prog_4_method_3_code 29 = .ok (.aload_n 0, 1) := by decide +kernel
theorem dM_15_30 : decode prog_4_method_3_code 30 = .ok (.dup, 1) := by decide +kernel
theorem dM_15_31 : decode prog_4_method_3_code 31 = .ok (.getfield 21, 3) := by decide +kernel
theorem dM_15_34 : decode prog_4_method_3_code 34 = .ok (.iconst 1, 1) := by decide +kernel
theorem dM_15_35 : decode prog_4_method_3_code 35 = .ok (.iadd, 1) := by decide +kernel
theorem dM_15_36 : decode prog_4_method_3_code 36 = .ok (.putfield 21, 3) := by decide +kernel
theorem dM_15_39 : decode prog_4_method_3_code 39 = .ok (.aload_n 0, 1) := by decide +kernel
theorem dM_15_40 : decode prog_4_method_3_code 40 = .ok (.getfield 21, 3) := by decide +kernel
theorem dM_15_43 : decode prog_4_method_3_code 43 = .ok (.ireturn, 1) := by decide +kernel
theorem dM_16_0 : decode prog_4_method_5_code 0 = .ok (.aload_n 0, 1) := by decide +kernel
theorem dM_16_1 : decode prog_4_method_5_code 1 = .ok (.getfield 21, 3) := by decide +kernel
theorem dM_16_4 : decode prog_4_method_5_code 4 = .ok (.ireturn, 1) := by decide +kernel
theorem dM_17_0 : decode prog_4_method_4_code 0 = .ok (.iload_n 1, 1) := by decide +kernel
theorem dM_17_1 : decode prog_4_method_4_code 1 = .ok (.ifCond .lt 29, 3) := by decide +kernel
theorem dM_17_4 : decode prog_4_method_4_code 4 = .ok (.iload_n 1, 1) := by decide +kernel
theorem dM_17_5 : decode prog_4_method_4_code 5 = .ok (.aload_n 0, 1) := by decide +kernel
theorem dM_17_6 : decode prog_4_method_4_code 6 = .ok (.getfield 21, 3) := by decide +kernel
theorem dM_17_9 : decode prog_4_method_4_code 9 = .ok (.if_icmp .ge 21, 3) := by decide +kernel
theorem dM_17_12 : decode prog_4_method_4_code 12 = .ok (.iload_n 1, 1) := by decide +kernel
theorem dM_17_13 : decode prog_4_method_4_code 13 = .ok (.aload_n 0, 1) := by decide +kernel
theorem dM_17_14 : decode prog_4_method_4_code 14 = .ok (.getfield 15, 3) := by decide +kernel
theorem dM_17_17 : decode prog_4_method_4_code 17 = .ok (.arraylength, 1) := by decide +kernel
theorem dM_17_18 : decode prog_4_method_4_code 18 = .ok (.if_icmp .ge 12, 3) := by decide +kernel
theorem dM_17_21 : decode prog_4_method_4_code 21 = .ok (.aload_n 0, 1) := by decide +kernel
theorem dM_17_22 : decode prog_4_method_4_code 22 = .ok (.getfield 15, 3) := by decide +kernel
theorem dM_17_25 : decode prog_4_method_4_code 25 = .ok (.iload_n 1, 1) := by decide +kernel
theorem dM_17_26 : decode prog_4_method_4_code 26 = .ok (.iaload, 1) := by decide +kernel
theorem dM_17_27 : decode prog_4_method_4_code 27 = .ok (.goto 5, 3) := by decide +kernel
theorem dM_17_30 : decode prog_4_method_4_code 30 = .ok (.bipush (-9), 2) := by decide +kernel
theorem dM_17_32 : decode prog_4_method_4_code 32 = .ok (.ireturn, 1) := by decide +kernel
theorem dM_18_0 : decode prog_4_method_6_code 0 = .ok (.aload_n 0, 1) := by decide +kernel
theorem dM_18_1 : decode prog_4_method_6_code 1 = .ok (.iconst 0, 1) := by decide +kernel
theorem dM_18_2 : decode prog_4_method_6_code 2 = .ok (.putfield 21, 3) := by decide +kernel
theorem dM_18_5 : decode prog_4_method_6_code 5 = .ok (.return_, 1) := by decide +kernel
theorem dM_20_0 : decode prog_5_method_2_code 0 = .ok (.aload_n 0, 1) := by decide +kernel
theorem dM_20_1 : decode prog_5_method_2_code 1 = .ok (.iconst 0, 1) := by decide +kernel
theorem dM_20_2 : decode prog_5_method_2_code 2 = .ok (.putfield 21, 3) := by decide +kernel
theorem dM_20_5 : decode prog_5_method_2_code 5 = .ok (.aload_n 0, 1) := by decide +kernel
theorem dM_20_6 : decode prog_5_method_2_code 6 = .ok (.iconst 0, 1) := by decide +kernel
theorem dM_20_7 : decode prog_5_method_2_code 7 = .ok (.putfield 25, 3) := by decide +kernel
theorem dM_20_10 : decode prog_5_method_2_code 10 = .ok (.return_, 1) := by decide +kernel
theorem dM_21_0 : decode prog_5_method_7_code 0 = .ok (.aload_n 0, 1) := by decide +kernel
theorem dM_21_1 : decode prog_5_method_7_code 1 = .ok (.getfield 21, 3) := by decide +kernel
theorem dM_21_4 : decode prog_5_method_7_code 4 = .ok (.ifCond .lt 13, 3) := by decide +kernel
theorem dM_21_7 : decode prog_5_method_7_code 7 = .ok (.aload_n 0, 1) := by decide +kernel
theorem dM_21_8 : decode prog_5_method_7_code 8 = .ok (.getfield 21, 3) := by decide +kernel
theorem dM_21_11 : decode prog_5_method_7_code 11 = .ok (.sipush 326, 3) := by decide +kernel
theorem dM_21_14 : decode prog_5_method_7_code 14 = .ok (.if_icmp .lt 5, 3) := by decide +kernel
theorem dM_21_17 : decode prog_5_method_7_code 17 = .ok (.iconst (-1), 1) := by decide +kernel
theorem dM_21_18 : decode prog_5_method_7_code 18 = .ok (.ireturn, 1) := by decide +kernel
theorem dM_21_19 : decode prog_5_method_7_code 19 = .ok (.aload_n 0, 1) := by decide +kernel
theorem dM_21_20 : decode prog_5_method_7_code 20 = .ok (.getfield 9, 3) := by decide +kernel
theorem dM_21_23 : decode prog_5_method_7_code 23 = .ok (.aload_n 0, 1) := by decide +kernel
theorem dM_21_24 : decode prog_5_method_7_code 24 = .ok (.getfield 21, 3) := by decide +kernel
theorem dM_21_27 : decode prog_5_method_7_code 27 = .ok (.iload_n 1, 1) := by decide +kernel
theorem dM_21_28 : decode prog_5_method_7_code 28 = .ok (.iastore, 1) := by decide +kernel
theorem dM_21_29 : decode prog_5_method_7_code 29 = .ok (.aload_n 0, 1) := by decide +kernel
theorem dM_21_30 : decode prog_5_method_7_code 30 = .ok (.dup, 1) := by decide +kernel
theorem dM_21_31 : decode prog_5_method_7_code 31 = .ok (.getfield 21, 3) := by decide +kernel
theorem dM_21_34 : decode prog_5_method_7_code 34 = .ok (.iconst 1, 1) := by decide +kernel
theorem dM_21_35 : decode prog_5_method_7_code 35 = .ok (.iadd, 1) := by decide +kernel
theorem dM_21_36 : decode prog_5_method_7_code 36 = .ok (.putfield 21, 3) := by decide +kernel
theorem dM_21_39 : decode prog_5_method_7_code 39 = .ok (.aload_n 0, 1) := by decide +kernel
theorem dM_21_40 : decode prog_5_method_7_code 40 = .ok (.getfield 21, 3) := by decide +kernel
theorem dM_21_43 : decode prog_5_method_7_code 43 = .ok (.iconst 1, 1) := by decide +kernel
theorem dM_21_44 : decode prog_5_method_7_code 44 = .ok (.isub, 1) := by decide +kernel
theorem dM_21_45 : decode prog_5_method_7_code 45 = .ok (.ireturn, 1) := by decide +kernel
theorem dM_22_0 : decode prog_5_method_9_code 0 = .ok (.iload_n 1, 1) := by decide +kernel
theorem dM_22_1 : decode prog_5_method_9_code 1 = .ok (.ifCond .lt 30, 3) := by decide +kernel
theorem dM_22_4 : decode prog_5_method_9_code 4 = .ok (.iload_n 1, 1) := by decide +kernel
theorem dM_22_5 : decode prog_5_method_9_code 5 = .ok (.sipush 326, 3) := by decide +kernel
theorem dM_22_8 : decode prog_5_method_9_code 8 = .ok (.if_icmp .ge 23, 3) := by decide +kernel
theorem dM_22_11 : decode prog_5_method_9_code 11 = .ok (.iload_n 2, 1) := by decide +kernel
theorem dM_22_12 : decode prog_5_method_9_code 12 = .ok (.ifCond .lt 19, 3) := by decide +kernel
theorem dM_22_15 : decode prog_5_method_9_code 15 = .ok (.iload_n 2, 1) := by decide +kernel
theorem dM_22_16 : decode prog_5_method_9_code 16 = .ok (.iconst 3, 1) := by decide +kernel
theorem dM_22_17 : decode prog_5_method_9_code 17 = .ok (.if_icmp .ge 14, 3) := by decide +kernel
theorem dM_22_20 : decode prog_5_method_9_code 20 = .ok (.aload_n 0, 1) := by decide +kernel
theorem dM_22_21 : decode prog_5_method_9_code 21 = .ok (.getfield 15, 3) := by decide +kernel
theorem dM_22_24 : decode prog_5_method_9_code 24 = .ok (.iconst 3, 1) := by decide +kernel
theorem dM_22_25 : decode prog_5_method_9_code 25 = .ok (.iload_n 1, 1) := by decide +kernel
theorem dM_22_26 : decode prog_5_method_9_code 26 = .ok (.imul, 1) := by decide +kernel
theorem dM_22_27 : decode prog_5_method_9_code 27 = .ok (.iload_n 2, 1) := by decide +kernel
theorem dM_22_28 : decode prog_5_method_9_code 28 = .ok (.iadd, 1) := by decide +kernel
theorem dM_22_29 : decode prog_5_method_9_code 29 = .ok (.iload_n 3, 1) := by decide +kernel
theorem dM_22_30 : decode prog_5_method_9_code 30 = .ok (.iastore, 1) := by decide +kernel
theorem dM_22_31 : decode prog_5_method_9_code 31 = .ok (.return_, 1) := by decide +kernel
theorem dM_23_0 : decode prog_5_method_8_code 0 = .ok (.aload_n 0, 1) := by decide +kernel
theorem dM_23_1 : decode prog_5_method_8_code 1 = .ok (.getfield 25, 3) := by decide +kernel
theorem dM_23_4 : decode prog_5_method_8_code 4 = .ok (.ifCond .lt 13, 3) := by decide +kernel
theorem dM_23_7 : decode prog_5_method_8_code 7 = .ok (.aload_n 0, 1) := by decide +kernel
theorem dM_23_8 : decode prog_5_method_8_code 8 = .ok (.getfield 25, 3) := by decide +kernel
theorem dM_23_11 : decode prog_5_method_8_code 11 = .ok (.sipush 640, 3) := by decide +kernel
theorem dM_23_14 : decode prog_5_method_8_code 14 = .ok (.if_icmp .lt 7, 3) := by decide +kernel
theorem dM_23_17 : decode prog_5_method_8_code 17 = .ok (.sipush 138, 3) := by decide +kernel
theorem dM_23_20 : decode prog_5_method_8_code 20 = .ok (.ireturn, 1) := by decide +kernel
theorem dM_23_21 : decode prog_5_method_8_code 21 = .ok (.aload_n 0, 1) := by decide +kernel
theorem dM_23_22 : decode prog_5_method_8_code 22 = .ok (.getfield 18, 3) := by decide +kernel
theorem dM_23_25 : decode prog_5_method_8_code 25 = .ok (.iconst 2, 1) := by decide +kernel
theorem dM_23_26 : decode prog_5_method_8_code 26 = .ok (.aload_n 0, 1) := by decide +kernel
theorem dM_23_27 : decode prog_5_method_8_code 27 = .ok (.getfield 25, 3) := by decide +kernel
theorem dM_23_30 : decode prog_5_method_8_code 30 = .ok (.imul, 1) := by decide +kernel
theorem dM_23_31 : decode prog_5_method_8_code 31 = .ok (.iload_n 1, 1) := by decide +kernel
theorem dM_23_32 : decode prog_5_method_8_code 32 = .ok (.iastore, 1) := by decide +kernel
theorem dM_23_33 : decode prog_5_method_8_code 33 = .ok (.aload_n 0, 1) := by decide +kernel
theorem dM_23_34 : decode prog_5_method_8_code 34 = .ok (.getfield 18, 3) := by decide +kernel
theorem dM_23_37 : decode prog_5_method_8_code 37 = .ok (.iconst 2, 1) := by decide +kernel
theorem dM_23_38 : decode prog_5_method_8_code 38 = .ok (.aload_n 0, 1) := by decide +kernel
theorem dM_23_39 : decode prog_5_method_8_code 39 = .ok (.getfield 25, 3) := by decide +kernel
theorem dM_23_42 : decode prog_5_method_8_code 42 = .ok (.imul, 1) := by decide +kernel
theorem dM_23_43 : decode prog_5_method_8_code 43 = .ok (.iconst 1, 1) := by decide +kernel
theorem dM_23_44 : decode prog_5_method_8_code 44 = .ok (.iadd, 1) := by decide +kernel
theorem dM_23_45 : decode prog_5_method_8_code 45 = .ok (.iload_n 2, 1) := by decide +kernel
theorem dM_23_46 : decode prog_5_method_8_code 46 = .ok (.iastore, 1) := by decide +kernel
theorem dM_23_47 : decode prog_5_method_8_code 47 = .ok (.aload_n 0, 1) := by decide +kernel
theorem dM_23_48 : decode prog_5_method_8_code 48 = .ok (.dup, 1) := by decide +kernel
theorem dM_23_49 : decode prog_5_method_8_code 49 = .ok (.getfield 25, 3) := by decide +kernel
theorem dM_23_52 : decode prog_5_method_8_code 52 = .ok (.iconst 1, 1) := by decide +kernel
theorem dM_23_53 : decode prog_5_method_8_code 53 = .ok (.iadd, 1) := by decide +kernel
theorem dM_23_54 : decode prog_5_method_8_code 54 = .ok (.putfield 25, 3) := by decide +kernel
theorem dM_23_57 : decode prog_5_method_8_code 57 = .ok (.sipush 256, 3) := by decide +kernel
theorem dM_23_60 : decode prog_5_method_8_code 60 = .ok (.aload_n 0, 1) := by decide +kernel
theorem dM_23_61 : decode prog_5_method_8_code 61 = .ok (.getfield 25, 3) := by decide +kernel
theorem dM_23_64 : decode prog_5_method_8_code 64 = .ok (.iadd, 1) := by decide +kernel
theorem dM_23_65 : decode prog_5_method_8_code 65 = .ok (.iconst 1, 1) := by decide +kernel
theorem dM_23_66 : decode prog_5_method_8_code 66 = .ok (.isub, 1) := by decide +kernel
theorem dM_23_67 : decode prog_5_method_8_code 67 = .ok (.ireturn, 1) := by decide +kernel
theorem dM_24_0 : decode prog_5_method_10_code 0 = .ok (.iconst 2, 1) := by decide +kernel
theorem dM_24_1 : decode prog_5_method_10_code 1 = .ok (.iload_n 1, 1) := by decide +kernel
theorem dM_24_2 : decode prog_5_method_10_code 2 = .ok (.sipush 256, 3) := by decide +kernel
theorem dM_24_5 : decode prog_5_method_10_code 5 = .ok (.isub, 1) := by decide +kernel
theorem dM_24_6 : decode prog_5_method_10_code 6 = .ok (.imul, 1) := by decide +kernel
theorem dM_24_7 : decode prog_5_method_10_code 7 = .ok (.iload_n 2, 1) := by decide +kernel
theorem dM_24_8 : decode prog_5_method_10_code 8 = .ok (.iadd, 1) := by decide +kernel
theorem dM_24_9 : decode prog_5_method_10_code 9 = .ok (.istore 4, 2) := by decide +kernel
theorem dM_24_11 : decode prog_5_method_10_code 11 = .ok (.iload_n 2, 1) := by decide +kernel
theorem dM_24_12 : decode prog_5_method_10_code 12 = .ok (.ifCond .lt 31, 3) := by decide +kernel
theorem dM_24_15 : decode prog_5_method_10_code 15 = .ok (.iload_n 2, 1) := by decide +kernel
theorem dM_24_16 : decode prog_5_method_10_code 16 = .ok (.iconst 2, 1) := by decide +kernel
theorem dM_24_17 : decode prog_5_method_10_code 17 = .ok (.if_icmp .ge 26, 3) := by decide +kernel
theorem dM_24_20 : decode prog_5_method_10_code 20 = .ok (.iload 4, 2) := by decide +kernel
theorem dM_24_22 : decode prog_5_method_10_code 22 = .ok (.ifCond .lt 21, 3) := by decide +kernel
theorem dM_24_25 : decode prog_5_method_10_code 25 = .ok (.iload 4, 2) := by decide +kernel
theorem dM_24_27 : decode prog_5_method_10_code 27 = .ok (.aload_n 0, 1) := by decide +kernel
theorem dM_24_28 : decode prog_5_method_10_code 28 = .ok (.getfield 18, 3) := by decide +kernel
theorem dM_24_31 : decode prog_5_method_10_code 31 = .ok (.arraylength, 1) := by decide +kernel
theorem dM_24_32 : decode prog_5_method_10_code 32 = .ok (.if_icmp .ge 11, 3) := by decide +kernel
theorem dM_24_35 : decode prog_5_method_10_code 35 = .ok (.aload_n 0, 1) := by decide +kernel
theorem dM_24_36 : decode prog_5_method_10_code 36 = .ok (.getfield 18, 3) := by decide +kernel
theorem dM_24_39 : decode prog_5_method_10_code 39 = .ok (.iload 4, 2) := by decide +kernel
theorem dM_24_41 : decode prog_5_method_10_code 41 = .ok (.iload_n 3, 1) := by decide +kernel
theorem dM_24_42 : decode prog_5_method_10_code 42 = .ok (.iastore, 1) := by decide +kernel
theorem dM_24_43 : decode prog_5_method_10_code 43 = .ok (.return_, 1) := by decide +kernel
theorem dM_25_0 : decode prog_5_method_3_code 0 = .ok (.aload_n 0, 1) := by decide +kernel
theorem dM_25_1 : decode prog_5_method_3_code 1 = .ok (.iload_n 1, 1) := by decide +kernel
theorem dM_25_2 : decode prog_5_method_3_code 2 = .ok (.putfield 28, 3) := by decide +kernel
theorem dM_25_5 : decode prog_5_method_3_code 5 = .ok (.aload_n 0, 1) := by decide +kernel
theorem dM_25_6 : decode prog_5_method_3_code 6 = .ok (.aload_n 0, 1) := by decide +kernel
theorem dM_25_7 : decode prog_5_method_3_code 7 = .ok (.getfield 21, 3) := by decide +kernel
theorem dM_25_10 : decode prog_5_method_3_code 10 = .ok (.putfield 31, 3) := by decide +kernel
theorem dM_25_13 : decode prog_5_method_3_code 13 = .ok (.aload_n 0, 1) := by decide +kernel
theorem dM_25_14 : decode prog_5_method_3_code 14 = .ok (.aload_n 0, 1) := by decide +kernel
theorem dM_25_15 : decode prog_5_method_3_code 15 = .ok (.getfield 25, 3) := by decide +kernel
theorem dM_25_18 : decode prog_5_method_3_code 18 = .ok (.putfield 34, 3) := by decide +kernel
theorem dM_25_21 : decode prog_5_method_3_code 21 = .ok (.aload_n 0, 1) := by decide +kernel
theorem dM_25_22 : decode prog_5_method_3_code 22 = .ok (.iload_n 2, 1) := by decide +kernel
theorem dM_25_23 : decode prog_5_method_3_code 23 = .ok (.putfield 37, 3) := by decide +kernel
theorem dM_25_26 : decode prog_5_method_3_code 26 = .ok (.return_, 1) := by decide +kernel
theorem dM_26_0 : decode prog_5_method_4_code 0 = .ok (.aload_n 0, 1) := by decide +kernel
theorem dM_26_1 : decode prog_5_method_4_code 1 = .ok (.aload_n 1, 1) := by decide +kernel
theorem dM_26_2 : decode prog_5_method_4_code 2 = .ok (.aload_n 1, 1) := by decide +kernel
theorem dM_26_3 : decode prog_5_method_4_code 3 = .ok (.getfield 31, 3) := by decide +kernel
theorem dM_26_6 : decode prog_5_method_4_code 6 = .ok (.aload_n 1, 1) := by decide +kernel
theorem dM_26_7 : decode prog_5_method_4_code 7 = .ok (.getfield 34, 3) := by decide +kernel
theorem dM_26_10 : decode prog_5_method_4_code 10 = .ok (.invokevirtual 40, 3) := by decide +kernel
theorem dM_26_13 : decode prog_5_method_4_code 13 = .ok (.return_, 1) := by decide +kernel
theorem dM_27_0 : decode prog_5_method_6_code 0 = .ok (.aload_n 0, 1) := by decide +kernel
theorem dM_27_1 : decode prog_5_method_6_code 1 = .ok (.iload_n 2, 1) := by decide +kernel
theorem dM_27_2 : decode prog_5_method_6_code 2 = .ok (.iconst 0, 1) := by decide +kernel
theorem dM_27_3 : decode prog_5_method_6_code 3 = .ok (.invokestatic 44, 3) := by decide +kernel
theorem dM_27_6 : decode prog_5_method_6_code 6 = .ok (.sipush 326, 3) := by decide +kernel
theorem dM_27_9 : decode prog_5_method_6_code 9 = .ok (.invokestatic 50, 3) := by decide +kernel
theorem dM_27_12 : decode prog_5_method_6_code 12 = .ok (.putfield 21, 3) := by decide +kernel
theorem dM_27_15 : decode prog_5_method_6_code 15 = .ok (.aload_n 0, 1) := by decide +kernel
theorem dM_27_16 : decode prog_5_method_6_code 16 = .ok (.iload_n 3, 1) := by decide +kernel
theorem dM_27_17 : decode prog_5_method_6_code 17 = .ok (.iconst 0, 1) := by decide +kernel
theorem dM_27_18 : decode prog_5_method_6_code 18 = .ok (.invokestatic 44, 3) := by decide +kernel
theorem dM_27_21 : decode prog_5_method_6_code 21 = .ok (.sipush 640, 3) := by decide +kernel
theorem dM_27_24 : decode prog_5_method_6_code 24 = .ok (.invokestatic 50, 3) := by decide +kernel
theorem dM_27_27 : decode prog_5_method_6_code 27 = .ok (.putfield 25, 3) := by decide +kernel
theorem dM_27_30 : decode prog_5_method_6_code 30 = .ok (.aload_n 1, 1) := by decide +kernel
theorem dM_27_31 : decode prog_5_method_6_code 31 = .ok (.getfield 9, 3) := by decide +kernel
theorem dM_27_34 : decode prog_5_method_6_code 34 = .ok (.iconst 0, 1) := by decide +kernel
theorem dM_27_35 : decode prog_5_method_6_code 35 = .ok (.aload_n 0, 1) := by decide +kernel
theorem dM_27_36 : decode prog_5_method_6_code 36 = .ok (.getfield 9, 3) := by decide +kernel
theorem dM_27_39 : decode prog_5_method_6_code 39 = .ok (.iconst 0, 1) := by decide +kernel
theorem dM_27_40 : decode prog_5_method_6_code 40 = .ok (.aload_n 0, 1) := by decide +kernel
theorem dM_27_41 : decode prog_5_method_6_code 41 = .ok (.getfield 21, 3) := by decide +kernel
theorem dM_27_44 : decode prog_5_method_6_code 44 = .ok (.invokestatic 53, 3) := by decide +kernel
theorem dM_27_47 : decode prog_5_method_6_code 47 = .ok (.aload_n 1, 1) := by decide +kernel
theorem dM_27_48 : decode prog_5_method_6_code 48 = .ok (.getfield 15, 3) := by decide +kernel
theorem dM_27_51 : decode prog_5_method_6_code 51 = .ok (.iconst 0, 1) := by decide +kernel
theorem dM_27_52 : decode prog_5_method_6_code 52 = .ok (.aload_n 0, 1) := by decide +kernel
theorem dM_27_53 : decode prog_5_method_6_code 53 = .ok (.getfield 15, 3) := by decide +kernel
theorem dM_27_56 : decode prog_5_method_6_code 56 = .ok (.iconst 0, 1) := by decide +kernel
theorem dM_27_57 : decode prog_5_method_6_code 57 = .ok (.iconst 3, 1) := by decide +kernel
theorem dM_27_58 : decode prog_5_method_6_code 58 = .ok (.aload_n 0, 1) := by decide +kernel
theorem dM_27_59 : decode prog_5_method_6_code 59 = .ok (.getfield 21, 3) := by decide +kernel
theorem dM_27_62 : decode prog_5_method_6_code 62 = .ok (.imul, 1) := by decide +kernel
theorem dM_27_63 : decode prog_5_method_6_code 63 = .ok (.invokestatic 53, 3) := by decide +kernel
theorem dM_27_66 : decode prog_5_method_6_code 66 = .ok (.aload_n 1, 1) := by decide +kernel
theorem dM_27_67 : decode prog_5_method_6_code 67 = .ok (.getfield 18, 3) := by decide +kernel
theorem dM_27_70 : decode prog_5_method_6_code 70 = .ok (.iconst 0, 1) := by decide +kernel
theorem dM_27_71 : decode prog_5_method_6_code 71 = .ok (.aload_n 0, 1) := by decide +kernel
theorem dM_27_72 : decode prog_5_method_6_code 72 = .ok (.getfield 18, 3) := by decide +kernel
theorem dM_27_75 : decode prog_5_method_6_code 75 = .ok (.iconst 0, 1) := by decide +kernel
theorem dM_27_76 : decode prog_5_method_6_code 76 = .ok (.iconst 2, 1) := by decide +kernel
theorem dM_27_77 : decode prog_5_method_6_code 77 = .ok (.aload_n 0, 1) := by decide +kernel
theorem dM_27_78 : decode prog_5_method_6_code 78 = .ok (.getfield 25, 3) := by decide +kernel
theorem dM_27_81 : decode prog_5_method_6_code 81 = .ok (.imul, 1) := by decide +kernel
theorem dM_27_82 : decode prog_5_method_6_code 82 = .ok (.invokestatic 53, 3) := by decide +kernel
theorem dM_27_85 : decode prog_5_method_6_code 85 = .ok (.aload_n 0, 1) := by decide +kernel
theorem dM_27_86 : decode prog_5_method_6_code 86 = .ok (.aload_n 1, 1) := by decide +kernel
theorem dM_27_87 : decode prog_5_method_6_code 87 = .ok (.getfield 28, 3) := by decide +kernel
theorem dM_27_90 : decode prog_5_method_6_code 90 = .ok (.putfield 28, 3) := by decide +kernel
theorem dM_27_93 : decode prog_5_method_6_code 93 = .ok (.aload_n 0, 1) := by decide +kernel
theorem dM_27_94 : decode prog_5_method_6_code 94 = .ok (.aload_n 1, 1) := by decide +kernel
theorem dM_27_95 : decode prog_5_method_6_code 95 = .ok (.getfield 31, 3) := by decide +kernel
theorem dM_27_98 : decode prog_5_method_6_code 98 = .ok (.putfield 31, 3) := by decide +kernel
theorem dM_27_101 : decode prog_5_method_6_code 101 = .ok (.aload_n 0, 1) := by decide +kernel
theorem dM_27_102 : decode prog_5_method_6_code 102 = .ok (.aload_n 1, 1) := by decide +kernel
theorem dM_27_103 : decode prog_5_method_6_code 103 = .ok (.getfield 34, 3) := by decide +kernel
theorem dM_27_106 : decode prog_5_method_6_code 106 = .ok (.putfield 34, 3) := by decide +kernel
theorem dM_27_109 : decode prog_5_method_6_code 109 = .ok (.aload_n 0, 1) := by decide +kernel
theorem dM_27_110 : decode prog_5_method_6_code 110 = .ok (.aload_n 1, 1) := by decide +kernel
theorem dM_27_111 : decode prog_5_method_6_code 111 = .ok (.getfield 37, 3) := by decide +kernel
theorem dM_27_114 : decode prog_5_method_6_code 114 = .ok (.putfield 37, 3) := by decide +kernel
theorem dM_27_117 : decode prog_5_method_6_code 117 = .ok (.return_, 1) := by decide +kernel
theorem dM_28_0 : decode prog_5_method_12_code 0 = .ok (.iload_n 1, 1) := by decide +kernel
theorem dM_28_1 : decode prog_5_method_12_code 1 = .ok (.ifCond .lt 32, 3) := by decide +kernel
theorem dM_28_4 : decode prog_5_method_12_code 4 = .ok (.iload_n 1, 1) := by decide +kernel
theorem dM_28_5 : decode prog_5_method_12_code 5 = .ok (.sipush 326, 3) := by decide +kernel
theorem dM_28_8 : decode prog_5_method_12_code 8 = .ok (.if_icmp .ge 25, 3) := by decide +kernel
theorem dM_28_11 : decode prog_5_method_12_code 11 = .ok (.iload_n 2, 1) := by decide +kernel
theorem dM_28_12 : decode prog_5_method_12_code 12 = .ok (.ifCond .lt 21, 3) := by decide +kernel
theorem dM_28_15 : decode prog_5_method_12_code 15 = .ok (.iload_n 2, 1) := by decide +kernel
theorem dM_28_16 : decode prog_5_method_12_code 16 = .ok (.iconst 3, 1) := by decide +kernel
theorem dM_28_17 : decode prog_5_method_12_code 17 = .ok (.if_icmp .ge 16, 3) := by decide +kernel
theorem dM_28_20 : decode prog_5_method_12_code 20 = .ok (.aload_n 0, 1) := by decide +kernel
theorem dM_28_21 : decode prog_5_method_12_code 21 = .ok (.getfield 15, 3) := by decide +kernel
theorem dM_28_24 : decode prog_5_method_12_code 24 = .ok (.iconst 3, 1) := by decide +kernel
theorem dM_28_25 : decode prog_5_method_12_code 25 = .ok (.iload_n 1, 1) := by decide +kernel
theorem dM_28_26 : decode prog_5_method_12_code 26 = .ok (.imul, 1) := by decide +kernel
theorem dM_28_27 : decode prog_5_method_12_code 27 = .ok (.iload_n 2, 1) := by decide +kernel
theorem dM_28_28 : decode prog_5_method_12_code 28 = .ok (.iadd, 1) := by decide +kernel
theorem dM_28_29 : decode prog_5_method_12_code 29 = .ok (.iaload, 1) := by decide +kernel
theorem dM_28_30 : decode prog_5_method_12_code 30 = .ok (.goto 6, 3) := by decide +kernel
theorem dM_28_33 : decode prog_5_method_12_code 33 = .ok (.sipush 138, 3) := by decide +kernel
theorem dM_28_36 : decode prog_5_method_12_code 36 = .ok (.ireturn, 1) := by decide +kernel
theorem dM_29_0 : decode prog_5_method_11_code 0 = .ok (.iload_n 1, 1) := by decide +kernel
theorem dM_29_1 : decode prog_5_method_11_code 1 = .ok (.ifCond .lt 19, 3) := by decide +kernel
theorem dM_29_4 : decode prog_5_method_11_code 4 = .ok (.iload_n 1, 1) := by decide +kernel
theorem dM_29_5 : decode prog_5_method_11_code 5 = .ok (.sipush 326, 3) := by decide +kernel
theorem dM_29_8 : decode prog_5_method_11_code 8 = .ok (.if_icmp .ge 12, 3) := by decide +kernel
theorem dM_29_11 : decode prog_5_method_11_code 11 = .ok (.aload_n 0, 1) := by decide +kernel
theorem dM_29_12 : decode prog_5_method_11_code 12 = .ok (.getfield 9, 3) := by decide +kernel
theorem dM_29_15 : decode prog_5_method_11_code 15 = .ok (.iload_n 1, 1) := by decide +kernel
theorem dM_29_16 : decode prog_5_method_11_code 16 = .ok (.iaload, 1) := by decide +kernel
theorem dM_29_17 : decode prog_5_method_11_code 17 = .ok (.goto 5, 3) := by decide +kernel
theorem dM_29_20 : decode prog_5_method_11_code 20 = .ok (.bipush 33, 2) := by decide +kernel
theorem dM_29_22 : decode prog_5_method_11_code 22 = .ok (.ireturn, 1) := by decide +kernel
theorem dM_30_0 : decode prog_5_method_13_code 0 = .ok (.iload_n 1, 1) := by decide +kernel
theorem dM_30_1 : decode prog_5_method_13_code 1 = .ok (.sipush 1280, 3) := by decide +kernel
theorem dM_30_4 : decode prog_5_method_13_code 4 = .ok (.if_icmp .lt 7, 3) := by decide +kernel
theorem dM_30_7 : decode prog_5_method_13_code 7 = .ok (.iconst 1, 1) := by decide +kernel
theorem dM_30_8 : decode prog_5_method_13_code 8 = .ok (.goto 4, 3) := by decide +kernel
theorem dM_30_11 : decode prog_5_method_13_code 11 = .ok (.iconst 0, 1) := by decide +kernel
theorem dM_30_12 : decode prog_5_method_13_code 12 = .ok (.istore_n 3, 1) := by decide +kernel
theorem dM_30_13 : decode prog_5_method_13_code 13 = .ok (.iconst 2, 1) := by decide +kernel
theorem dM_30_14 : decode prog_5_method_13_code 14 = .ok (.iload_n 1, 1) := by decide +kernel
theorem dM_30_15 : decode prog_5_method_13_code 15 = .ok (.iload_n 3, 1) := by decide +kernel
theorem dM_30_16 : decode prog_5_method_13_code 16 = .ok (.ifCond .eq 9, 3) := by decide +kernel
theorem dM_30_19 : decode prog_5_method_13_code 19 = .ok (.sipush 1280, 3) := by decide +kernel
theorem dM_30_22 : decode prog_5_method_13_code 22 = .ok (.goto 6, 3) := by decide +kernel
theorem dM_30_25 : decode prog_5_method_13_code 25 = .ok (.sipush 256, 3) := by decide +kernel
theorem dM_30_28 : decode prog_5_method_13_code 28 = .ok (.isub, 1) := by decide +kernel
theorem dM_30_29 : decode prog_5_method_13_code 29 = .ok (.imul, 1) := by decide +kernel
theorem dM_30_30 : decode prog_5_method_13_code 30 = .ok (.iload_n 2, 1) := by decide +kernel
theorem dM_30_31 : decode prog_5_method_13_code 31 = .ok (.iadd, 1) := by decide +kernel
theorem dM_30_32 : decode prog_5_method_13_code 32 = .ok (.istore 4, 2) := by decide +kernel
theorem dM_30_34 : decode prog_5_method_13_code 34 = .ok (.iload_n 2, 1) := by decide +kernel
theorem dM_30_35 : decode prog_5_method_13_code 35 = .ok (.ifCond .lt 23, 3) := by decide +kernel
theorem dM_30_38 : decode prog_5_method_13_code 38 = .ok (.iload_n 2, 1) := by decide +kernel
theorem dM_30_39 : decode prog_5_method_13_code 39 = .ok (.iconst 1, 1) := by decide +kernel
theorem dM_30_40 : decode prog_5_method_13_code 40 = .ok (.if_icmp .gt 18, 3) := by decide +kernel
theorem dM_30_43 : decode prog_5_method_13_code 43 = .ok (.iload 4, 2) := by decide +kernel
theorem dM_30_45 : decode prog_5_method_13_code 45 = .ok (.ifCond .lt 13, 3) := by decide +kernel
theorem dM_30_48 : decode prog_5_method_13_code 48 = .ok (.iload 4, 2) := by decide +kernel
theorem dM_30_50 : decode prog_5_method_13_code 50 = .ok (.aload_n 0, 1) := by decide +kernel
theorem dM_30_51 : decode prog_5_method_13_code 51 = .ok (.getfield 18, 3) := by decide +kernel
theorem dM_30_54 : decode prog_5_method_13_code 54 = .ok (.arraylength, 1) := by decide +kernel
theorem dM_30_55 : decode prog_5_method_13_code 55 = .ok (.if_icmp .lt 7, 3) := by decide +kernel
theorem dM_30_58 : decode prog_5_method_13_code 58 = .ok (.sipush 138, 3) := by decide +kernel
theorem dM_30_61 : decode prog_5_method_13_code 61 = .ok (.ireturn, 1) := by decide +kernel
theorem dM_30_62 : decode prog_5_method_13_code 62 = .ok (.iload_n 3, 1) := by decide +kernel
theorem dM_30_63 : decode prog_5_method_13_code 63 = .ok (.ifCond .eq 16, 3) := by decide +kernel
theorem dM_30_66 : decode prog_5_method_13_code 66 = .ok (.aload_n 0, 1) := by decide +kernel
theorem dM_30_67 : decode prog_5_method_13_code 67 = .ok (.getfield 18, 3) := by decide +kernel
theorem dM_30_70 : decode prog_5_method_13_code 70 = .ok (.iload 4, 2) := by decide +kernel
theorem dM_30_72 : decode prog_5_method_13_code 72 = .ok (.iaload, 1) := by decide +kernel
theorem dM_30_73 : decode prog_5_method_13_code 73 = .ok (.invokestatic 59, 3) := by decide +kernel
theorem dM_30_76 : decode prog_5_method_13_code 76 = .ok (.goto 10, 3) := by decide +kernel
theorem dM_30_79 : decode prog_5_method_13_code 79 = .ok (.aload_n 0, 1) := by decide +kernel
theorem dM_30_80 : decode prog_5_method_13_code 80 = .ok (.getfield 18, 3) := by decide +kernel
theorem dM_30_83 : decode prog_5_method_13_code 83 = .ok (.iload 4, 2) := by decide +kernel
theorem dM_30_85 : decode prog_5_method_13_code 85 = .ok (.iaload, 1) := by decide +kernel
theorem dM_30_86 : decode prog_5_method_13_code 86 = .ok (.ireturn, 1) := by decide +kernel
theorem dM_31_0 : decode prog_5_method_5_code 0 = .ok (.aload_n 0, 1) := by decide +kernel
theorem dM_31_1 : decode prog_5_method_5_code 1 = .ok (.aload_n 1, 1) := by decide +kernel
theorem dM_31_2 : decode prog_5_method_5_code 2 = .ok (.aload_n 1, 1) := by decide +kernel
theorem dM_31_3 : decode prog_5_method_5_code 3 = .ok (.getfield 21, 3) := by decide +kernel
theorem dM_31_6 : decode prog_5_method_5_code 6 = .ok (.aload_n 1, 1) := by decide +kernel
theorem dM_31_7 : decode prog_5_method_5_code 7 = .ok (.getfield 25, 3) := by decide +kernel
theorem dM_31_10 : decode prog_5_method_5_code 10 = .ok (.invokevirtual 40, 3) := by decide +kernel
theorem dM_31_13 : decode prog_5_method_5_code 13 = .ok (.return_, 1) := by decide +kernel
set_option maxRecDepth 100000 in
/-- GoalsInAQueue$Draws.drawTerm -/
theorem w_1 (sg : rSg) (s : Nat) (hs : isScr s) {P : Option rv → rSg → Prop} (h :
    EvS rSkel 1 2 [.inr (.inr (some 686)), .inl 3] sg (fun v1 t2 => ∃ n4, v1 = some (.inl n4) ∧
      (n4 = 0 → 
        EvS rSkel 1 2 [.inr (.inr (some 686)), .inl 6] t2 (fun v6 t7 => ∃ n9, v6 = some (.inl n9) ∧
          P (some (.inl n9)) t7)) ∧
      (n4 = 1 → 
        EvS rSkel 1 2 [.inr (.inr (some 686)), .inl 3] t2 (fun v10 t11 => ∃ n13, v10 = some (.inl n13) ∧
          P (some (.inl (128 + n13))) t11)) ∧
      (¬ n4 = 0 ∧ ¬ n4 = 1 →
        EvS rSkel 2 3 [.inr (.inr (some 686))] t2 (fun v14 t15 => ∃ n17, v14 = some (.inl n17) ∧
          EvS rSkel 2 3 [.inr (.inr (some 686))] t15 (fun v18 t19 => ∃ n21, v18 = some (.inl n21) ∧
            EvS rSkel 1 23 [.inr (.inr (some s)), .inl n17, .inl n21] t19 (fun v22 t23 => ∃ n25, v22 = some (.inl n25) ∧
              P (some (.inl n25)) t23)))))) : EvS rSkel 3 1 [.inr (.inr (some 686)), .inr (.inr (some s))] sg P := by
  refine EvS.of (ini := false) rfl ⟨rfl, Nat.le_of_ble_eq_true rfl⟩ rfl ?_
  show GoS rSkel 2 0 4 (some .int) false prog_2_method_3_code 0 [(0, .inr (.inr (some 686))), (1, .inr (.inr (some s)))] [] sg _
  have b_s := hs.1
  refine gs0 1 [(0, .inr (.inr (some 686))), (1, .inr (.inr (some s)))] [.inr (.inr (some 686))] dM_1_0 (fun _ => rfl) (Or.inr rfl) ?_
  refine gs0 2 [(0, .inr (.inr (some 686))), (1, .inr (.inr (some s)))] [.inl 3, .inr (.inr (some 686))] dM_1_1 (fun _ => rfl) (Or.inr rfl) ?_
  refine gsCallV (y := 2) (k := 686) (as := [.inr (.inr (some 686)), .inl 3]) (r := []) dM_1_2 rfl rfl rfl (Nat.le_of_ble_eq_true rfl) sk_686 rfl (Nat.le_of_ble_eq_true rfl) (EvS.up h (Nat.le_of_ble_eq_true rfl)) (fun v1 t2 hv3 => ?_)
  obtain ⟨n4, rfl, hn⟩ := hv3
  clear h
  show GoS _ _ _ _ _ _ _ _ [(0, .inr (.inr (some 686))), (1, .inr (.inr (some s)))] [.inl n4] t2 _
  by_cases c5_0 : n4 = 0
  · replace hn := hn.1 c5_0
    refine gs0 32 [(0, .inr (.inr (some 686))), (1, .inr (.inr (some s)))] [] dM_1_5 (fun _ => by rw [c5_0]; rfl) (Or.inl rfl) ?_
    refine gs0 33 [(0, .inr (.inr (some 686))), (1, .inr (.inr (some s)))] [.inr (.inr (some 686))] dM_1_32 (fun _ => rfl) (Or.inr rfl) ?_
    refine gs0 35 [(0, .inr (.inr (some 686))), (1, .inr (.inr (some s)))] [.inl 6, .inr (.inr (some 686))] dM_1_33 (fun _ => rfl) (Or.inr rfl) ?_
    refine gsCallV (y := 2) (k := 686) (as := [.inr (.inr (some 686)), .inl 6]) (r := []) dM_1_35 rfl rfl rfl (Nat.le_of_ble_eq_true rfl) sk_686 rfl (Nat.le_of_ble_eq_true rfl) (EvS.up hn (Nat.le_of_ble_eq_true rfl)) (fun v6 t7 hv8 => ?_)
    obtain ⟨n9, rfl, hnn⟩ := hv8
    clear hn
    show GoS _ _ _ _ _ _ _ _ [(0, .inr (.inr (some 686))), (1, .inr (.inr (some s)))] [.inl n9] t7 _
    refine gsRet (r := some (.inl n9)) dM_1_38 (fun _ => rfl) (Or.inr rfl) ?_
    exact hnn
  replace hn := hn.2
  by_cases c5_1 : n4 = 1
  · replace hn := hn.1 c5_1
    refine gs0 39 [(0, .inr (.inr (some 686))), (1, .inr (.inr (some s)))] [] dM_1_5 (fun _ => by rw [c5_1]; rfl) (Or.inl rfl) ?_
    refine gs0 42 [(0, .inr (.inr (some 686))), (1, .inr (.inr (some s)))] [.inl 128] dM_1_39 (fun _ => rfl) (Or.inr rfl) ?_
    refine gs0 43 [(0, .inr (.inr (some 686))), (1, .inr (.inr (some s)))] [.inr (.inr (some 686)), .inl 128] dM_1_42 (fun _ => rfl) (Or.inr rfl) ?_
    refine gs0 44 [(0, .inr (.inr (some 686))), (1, .inr (.inr (some s)))] [.inl 3, .inr (.inr (some 686)), .inl 128] dM_1_43 (fun _ => rfl) (Or.inr rfl) ?_
    refine gsCallV (y := 2) (k := 686) (as := [.inr (.inr (some 686)), .inl 3]) (r := [.inl 128]) dM_1_44 rfl rfl rfl (Nat.le_of_ble_eq_true rfl) sk_686 rfl (Nat.le_of_ble_eq_true rfl) (EvS.up hn (Nat.le_of_ble_eq_true rfl)) (fun v10 t11 hv12 => ?_)
    obtain ⟨n13, rfl, hnn⟩ := hv12
    clear hn
    show GoS _ _ _ _ _ _ _ _ [(0, .inr (.inr (some 686))), (1, .inr (.inr (some s)))] [.inl n13, .inl 128] t11 _
    refine gs0 48 [(0, .inr (.inr (some 686))), (1, .inr (.inr (some s)))] [.inl (128 + n13)] dM_1_47 (fun _ => rfl) (Or.inr rfl) ?_
    refine gsRet (r := some (.inl (128 + n13))) dM_1_48 (fun _ => rfl) (Or.inr rfl) ?_
    exact hnn
  replace hn := hn.2
  replace hn := hn ⟨c5_0, c5_1⟩
  have ec5_0 := i32_ne c5_0 (show (0 : Int32).toInt = 0 by decide)
  have ec5_1 := i32_ne c5_1 (show (1 : Int32).toInt = 1 by decide)
  refine gs0 49 [(0, .inr (.inr (some 686))), (1, .inr (.inr (some s)))] [] dM_1_5 (fun _ => swL_out (by decide) (by simp [Op.lookupswitch.offset, Ne.symm ec5_0, Ne.symm ec5_1]) rfl) (Or.inl rfl) ?_
  refine gs0 50 [(0, .inr (.inr (some 686))), (1, .inr (.inr (some s)))] [.inr (.inr (some 686))] dM_1_49 (fun _ => rfl) (Or.inr rfl) ?_
  refine gsCallV (y := 3) (k := 686) (as := [.inr (.inr (some 686))]) (r := []) dM_1_50 rfl rfl rfl (Nat.le_of_ble_eq_true rfl) sk_686 rfl (Nat.le_of_ble_eq_true rfl) (EvS.up hn (Nat.le_of_ble_eq_true rfl)) (fun v14 t15 hv16 => ?_)
  obtain ⟨n17, rfl, hnn⟩ := hv16
  clear hn
  show GoS _ _ _ _ _ _ _ _ [(0, .inr (.inr (some 686))), (1, .inr (.inr (some s)))] [.inl n17] t15 _
  refine gs0 54 [(2, .inl n17), (0, .inr (.inr (some 686))), (1, .inr (.inr (some s)))] [] dM_1_53 (fun _ => rfl) (Or.inr rfl) ?_
  refine gs0 55 [(2, .inl n17), (0, .inr (.inr (some 686))), (1, .inr (.inr (some s)))] [.inr (.inr (some 686))] dM_1_54 (fun _ => rfl) (Or.inr rfl) ?_
  refine gsCallV (y := 3) (k := 686) (as := [.inr (.inr (some 686))]) (r := []) dM_1_55 rfl rfl rfl (Nat.le_of_ble_eq_true rfl) sk_686 rfl (Nat.le_of_ble_eq_true rfl) (EvS.up hnn (Nat.le_of_ble_eq_true rfl)) (fun v18 t19 hv20 => ?_)
  obtain ⟨n21, rfl, hnnn⟩ := hv20
  clear hnn
  show GoS _ _ _ _ _ _ _ _ [(2, .inl n17), (0, .inr (.inr (some 686))), (1, .inr (.inr (some s)))] [.inl n21] t19 _
  refine gs0 59 [(3, .inl n21), (2, .inl n17), (0, .inr (.inr (some 686))), (1, .inr (.inr (some s)))] [] dM_1_58 (fun _ => rfl) (Or.inr rfl) ?_
  refine gs0 60 [(3, .inl n21), (2, .inl n17), (0, .inr (.inr (some 686))), (1, .inr (.inr (some s)))] [.inr (.inr (some s))] dM_1_59 (fun _ => rfl) (Or.inr rfl) ?_
  refine gs0 61 [(3, .inl n21), (2, .inl n17), (0, .inr (.inr (some 686))), (1, .inr (.inr (some s)))] [.inl n17, .inr (.inr (some s))] dM_1_60 (fun _ => rfl) (Or.inr rfl) ?_
  refine gs0 62 [(3, .inl n21), (2, .inl n17), (0, .inr (.inr (some 686))), (1, .inr (.inr (some s)))] [.inl n21, .inl n17, .inr (.inr (some s))] dM_1_61 (fun _ => rfl) (Or.inr rfl) ?_
  refine gsCallV (y := 23) (k := s) (as := [.inr (.inr (some s)), .inl n17, .inl n21]) (r := []) dM_1_62 rfl rfl rfl (Nat.le_of_ble_eq_true rfl) hs.2.1 rfl (Nat.le_of_ble_eq_true rfl) (EvS.up hnnn (Nat.le_of_ble_eq_true rfl)) (fun v22 t23 hv24 => ?_)
  obtain ⟨n25, rfl, hnnnn⟩ := hv24
  clear hnnn
  show GoS _ _ _ _ _ _ _ _ [(3, .inl n21), (2, .inl n17), (0, .inr (.inr (some 686))), (1, .inr (.inr (some s)))] [.inl n25] t23 _
  refine gsRet (r := some (.inl n25)) dM_1_65 (fun _ => rfl) (Or.inr rfl) ?_
  exact hnnnn
set_option maxRecDepth 100000 in
/-- GoalsInAQueue$Draws.below -/
theorem w_2 (sg : rSg) (x1 : Int32) {P : Option rv → rSg → Prop} (h :
    (1 ≤ x1 → 
      (¬ x1 = 0 ∧
      P (some (.inl (irem (((((sg 686 0) * 1664525) + 1013904223) &&& 2147483647) / 256) x1))) (up2 sg 686 0 (((sg 686 0) * 1664525) + 1013904223)))) ∧
    (¬ (1 ≤ x1) → 
      P (some (.inl 0)) (up2 sg 686 0 (((sg 686 0) * 1664525) + 1013904223)))) : EvS rSkel 1 2 [.inr (.inr (some 686)), .inl x1] sg P := by
  refine EvS.of (ini := false) rfl ⟨rfl, Nat.le_of_ble_eq_true rfl⟩ rfl ?_
  show GoS rSkel 0 0 2 (some .int) false prog_2_method_2_code 0 [(0, .inr (.inr (some 686))), (1, .inl x1)] [] sg _
  refine gs0 1 [(0, .inr (.inr (some 686))), (1, .inl x1)] [.inr (.inr (some 686))] dM_2_0 (fun _ => rfl) (Or.inr rfl) ?_
  refine gs0 2 [(0, .inr (.inr (some 686))), (1, .inl x1)] [.inr (.inr (some 686)), .inr (.inr (some 686))] dM_2_1 (fun _ => rfl) (Or.inr rfl) ?_
  refine gsGetE (sg 686 0) dM_2_2 sk_686 rfl rfl rfl ?_
  refine gs0 7 [(0, .inr (.inr (some 686))), (1, .inl x1)] [.inl 1664525, .inl (sg 686 0), .inr (.inr (some 686))] dM_2_5 (fun _ => rfl) (Or.inr rfl) ?_
  refine gs0 8 [(0, .inr (.inr (some 686))), (1, .inl x1)] [.inl ((sg 686 0) * 1664525), .inr (.inr (some 686))] dM_2_7 (fun _ => rfl) (Or.inr rfl) ?_
  refine gs0 10 [(0, .inr (.inr (some 686))), (1, .inl x1)] [.inl 1013904223, .inl ((sg 686 0) * 1664525), .inr (.inr (some 686))] dM_2_8 (fun _ => rfl) (Or.inr rfl) ?_
  refine gs0 11 [(0, .inr (.inr (some 686))), (1, .inl x1)] [.inl (((sg 686 0) * 1664525) + 1013904223), .inr (.inr (some 686))] dM_2_10 (fun _ => rfl) (Or.inr rfl) ?_
  refine gsPut dM_2_11 sk_686 rfl rfl rfl (by decide) ?_
  refine gs0 15 [(0, .inr (.inr (some 686))), (1, .inl x1)] [.inl x1] dM_2_14 (fun _ => rfl) (Or.inr rfl) ?_
  refine gs0 16 [(0, .inr (.inr (some 686))), (1, .inl x1)] [.inl 1, .inl x1] dM_2_15 (fun _ => rfl) (Or.inr rfl) ?_
  refine gsIf (t := 23) (C := 1 ≤ x1) (r := []) dM_2_16 (fun _ => rfl) (Or.inr rfl) (rTest_iff .ge x1 1) (fun c1 => ?_) (fun c1 => ?_)
  · replace h := h.1 c1
    refine gs0 24 [(0, .inr (.inr (some 686))), (1, .inl x1)] [.inr (.inr (some 686))] dM_2_23 (fun _ => rfl) (Or.inr rfl) ?_
    refine gsGetE (((sg 686 0) * 1664525) + 1013904223) dM_2_24 sk_686 rfl rfl (up2_same _ _ _ _) ?_
    refine gs0 29 [(0, .inr (.inr (some 686))), (1, .inl x1)] [.inl 2147483647, .inl (((sg 686 0) * 1664525) + 1013904223)] dM_2_27 (fun _ => rfl) (Or.inr rfl) ?_
    refine gs0 30 [(0, .inr (.inr (some 686))), (1, .inl x1)] [.inl ((((sg 686 0) * 1664525) + 1013904223) &&& 2147483647)] dM_2_29 (fun _ => rfl) (Or.inr rfl) ?_
    refine gs0 33 [(0, .inr (.inr (some 686))), (1, .inl x1)] [.inl 256, .inl ((((sg 686 0) * 1664525) + 1013904223) &&& 2147483647)] dM_2_30 (fun _ => rfl) (Or.inr rfl) ?_
    refine gs0 34 [(0, .inr (.inr (some 686))), (1, .inl x1)] [.inl (((((sg 686 0) * 1664525) + 1013904223) &&& 2147483647) / 256)] dM_2_33 (fun _ => rfl) (Or.inr rfl) ?_
    refine gs0 35 [(0, .inr (.inr (some 686))), (1, .inl x1)] [.inl x1, .inl (((((sg 686 0) * 1664525) + 1013904223) &&& 2147483647) / 256)] dM_2_34 (fun _ => rfl) (Or.inr rfl) ?_
    refine gs0 36 [(0, .inr (.inr (some 686))), (1, .inl x1)] [.inl (irem (((((sg 686 0) * 1664525) + 1013904223) &&& 2147483647) / 256) x1)] dM_2_35 (fun _ => rIns_irem h.1) (Or.inr rfl) ?_
    replace h := h.2
    refine gsRet (r := some (.inl (irem (((((sg 686 0) * 1664525) + 1013904223) &&& 2147483647) / 256) x1))) dM_2_36 (fun _ => rfl) (Or.inr rfl) ?_
    exact h
  · replace h := h.2 c1
    refine gs0 20 [(0, .inr (.inr (some 686))), (1, .inl x1)] [.inl 0] dM_2_19 (fun _ => rfl) (Or.inr rfl) ?_
    refine gs0 36 [(0, .inr (.inr (some 686))), (1, .inl x1)] [.inl 0] dM_2_20 (fun _ => rfl) (Or.inr rfl) ?_
    refine gsRet (r := some (.inl 0)) dM_2_36 (fun _ => rfl) (Or.inr rfl) ?_
    exact h
set_option maxRecDepth 100000 in
/-- GoalsInAQueue$Draws.drawHalf -/
theorem w_3 (sg : rSg)  {P : Option rv → rSg → Prop} (h :
    EvS rSkel 1 2 [.inr (.inr (some 686)), .inl 2] sg (fun v1 t2 => ∃ n4, v1 = some (.inl n4) ∧
      (¬ n4 = 0 → 
        EvS rSkel 1 2 [.inr (.inr (some 686)), .inl 3] t2 (fun v6 t7 => ∃ n9, v6 = some (.inl n9) ∧
          P (some (.inl (128 + n9))) t7)) ∧
      (¬ (¬ n4 = 0) → 
        EvS rSkel 1 2 [.inr (.inr (some 686)), .inl 6] t2 (fun v10 t11 => ∃ n13, v10 = some (.inl n13) ∧
          P (some (.inl n13)) t11)))) : EvS rSkel 2 3 [.inr (.inr (some 686))] sg P := by
  refine EvS.of (ini := false) rfl ⟨rfl, Nat.le_of_ble_eq_true rfl⟩ rfl ?_
  show GoS rSkel 1 0 1 (some .int) false prog_2_method_4_code 0 [(0, .inr (.inr (some 686)))] [] sg _
  refine gs0 1 [(0, .inr (.inr (some 686)))] [.inr (.inr (some 686))] dM_3_0 (fun _ => rfl) (Or.inr rfl) ?_
  refine gs0 2 [(0, .inr (.inr (some 686)))] [.inl 2, .inr (.inr (some 686))] dM_3_1 (fun _ => rfl) (Or.inr rfl) ?_
  refine gsCallV (y := 2) (k := 686) (as := [.inr (.inr (some 686)), .inl 2]) (r := []) dM_3_2 rfl rfl rfl (Nat.le_of_ble_eq_true rfl) sk_686 rfl (Nat.le_of_ble_eq_true rfl) (EvS.up h (Nat.le_of_ble_eq_true rfl)) (fun v1 t2 hv3 => ?_)
  obtain ⟨n4, rfl, hn⟩ := hv3
  clear h
  show GoS _ _ _ _ _ _ _ _ [(0, .inr (.inr (some 686)))] [.inl n4] t2 _
  refine gsIf (t := 17) (C := ¬ n4 = 0) (r := []) dM_3_5 (fun _ => rfl) (Or.inr rfl) (rTest_iff .ne n4 0) (fun c5 => ?_) (fun c5 => ?_)
  · replace hn := hn.1 c5
    refine gs0 20 [(0, .inr (.inr (some 686)))] [.inl 128] dM_3_17 (fun _ => rfl) (Or.inr rfl) ?_
    refine gs0 21 [(0, .inr (.inr (some 686)))] [.inr (.inr (some 686)), .inl 128] dM_3_20 (fun _ => rfl) (Or.inr rfl) ?_
    refine gs0 22 [(0, .inr (.inr (some 686)))] [.inl 3, .inr (.inr (some 686)), .inl 128] dM_3_21 (fun _ => rfl) (Or.inr rfl) ?_
    refine gsCallV (y := 2) (k := 686) (as := [.inr (.inr (some 686)), .inl 3]) (r := [.inl 128]) dM_3_22 rfl rfl rfl (Nat.le_of_ble_eq_true rfl) sk_686 rfl (Nat.le_of_ble_eq_true rfl) (EvS.up hn (Nat.le_of_ble_eq_true rfl)) (fun v6 t7 hv8 => ?_)
    obtain ⟨n9, rfl, hnn⟩ := hv8
    clear hn
    show GoS _ _ _ _ _ _ _ _ [(0, .inr (.inr (some 686)))] [.inl n9, .inl 128] t7 _
    refine gs0 26 [(0, .inr (.inr (some 686)))] [.inl (128 + n9)] dM_3_25 (fun _ => rfl) (Or.inr rfl) ?_
    refine gsRet (r := some (.inl (128 + n9))) dM_3_26 (fun _ => rfl) (Or.inr rfl) ?_
    exact hnn
  · replace hn := hn.2 c5
    refine gs0 9 [(0, .inr (.inr (some 686)))] [.inr (.inr (some 686))] dM_3_8 (fun _ => rfl) (Or.inr rfl) ?_
    refine gs0 11 [(0, .inr (.inr (some 686)))] [.inl 6, .inr (.inr (some 686))] dM_3_9 (fun _ => rfl) (Or.inr rfl) ?_
    refine gsCallV (y := 2) (k := 686) (as := [.inr (.inr (some 686)), .inl 6]) (r := []) dM_3_11 rfl rfl rfl (Nat.le_of_ble_eq_true rfl) sk_686 rfl (Nat.le_of_ble_eq_true rfl) (EvS.up hn (Nat.le_of_ble_eq_true rfl)) (fun v10 t11 hv12 => ?_)
    obtain ⟨n13, rfl, hnn⟩ := hv12
    clear hn
    show GoS _ _ _ _ _ _ _ _ [(0, .inr (.inr (some 686)))] [.inl n13] t11 _
    refine gs0 26 [(0, .inr (.inr (some 686)))] [.inl n13] dM_3_14 (fun _ => rfl) (Or.inr rfl) ?_
    refine gsRet (r := some (.inl n13)) dM_3_26 (fun _ => rfl) (Or.inr rfl) ?_
    exact hnn
def g_5_11 (r : Nat) (rn : Nat) (y2 : Int32) (y3 : Int32) (sg : rSg) (P : Option rv → rSg → Prop) : Prop := GoS rSkel 3 1 4 (some .int) false prog_3_method_2_code 11 [(0, .inr (.inr (some 678))), (1, .inr (.inr (some r))), (2, .inl y2), (3, .inl y3)] [] sg P
set_option maxRecDepth 100000 in
theorem w_5_11 (sg : rSg) (r rn : Nat) (hr : isRow r rn) (y2 : Int32) (y3 : Int32) {P : Option rv → rSg → Prop} (h :
    (y2 ≤ y3 → 
      ((sg 678 4) ≤ 0 → 
        ((sg 678 7) = ((-1)) → 
          EvS rSkel 1 25 [.inr (.inr (some 231)), .inl 0, .inl (sg 678 6)] sg (fun v11 t12 => v11 = none ∧
            P (some (.inl (t12 678 5))) t12)) ∧
        (¬ ((sg 678 7) = ((-1))) → 
          P (some (.inl (((-2000)) - (sg 678 7)))) sg)) ∧
      (¬ ((sg 678 4) ≤ 0) → 
        P (some (.inl (((-1000)) - y2))) sg)) ∧
    (¬ (y2 ≤ y3) → 
      ((sg 678 4) < 1 → 
        P (some (.inl (((-1000)) - y3))) sg) ∧
      (¬ ((sg 678 4) < 1) → 
        EvS rSkel 1 17 [.inr (.inr (some r)), .inl y3] sg (fun v15 t16 => ∃ n18, v15 = some (.inl n18) ∧
          EvS rSkel 3 8 [.inr (.inr (some 678)), .inl n18, .inl y3] t16 (fun v19 t20 => ∃ n22, v19 = some (.inl n22) ∧
            (¬ n22 = 0 → 
              g_5_11 r rn y2 (y3 + 1) t20 P) ∧
            (¬ (¬ n22 = 0) → 
              P (some (.inl (((-1000)) - y3))) t20)))))) : g_5_11 r rn y2 y3 sg P := by
  show GoS rSkel 3 1 4 (some .int) false prog_3_method_2_code 11 [(0, .inr (.inr (some 678))), (1, .inr (.inr (some r))), (2, .inl y2), (3, .inl y3)] [] sg P
  have b_r := hr.1
  refine gs0 12 [(0, .inr (.inr (some 678))), (1, .inr (.inr (some r))), (2, .inl y2), (3, .inl y3)] [.inl y3] dM_5_11 (fun _ => rfl) (Or.inr rfl) ?_
  refine gs0 13 [(0, .inr (.inr (some 678))), (1, .inr (.inr (some r))), (2, .inl y2), (3, .inl y3)] [.inl y2, .inl y3] dM_5_12 (fun _ => rfl) (Or.inr rfl) ?_
  refine gsIf (t := 49) (C := y2 ≤ y3) (r := []) dM_5_13 (fun _ => rfl) (Or.inr rfl) (rTest_iff .ge y3 y2) (fun c8 => ?_) (fun c8 => ?_)
  · replace h := h.1 c8
    refine gs0 50 [(0, .inr (.inr (some 678))), (1, .inr (.inr (some r))), (2, .inl y2), (3, .inl y3)] [.inr (.inr (some 678))] dM_5_49 (fun _ => rfl) (Or.inr rfl) ?_
    refine gsGetE (sg 678 4) dM_5_50 sk_678 rfl rfl rfl ?_
    refine gsIf (t := 62) (C := (sg 678 4) ≤ 0) (r := []) dM_5_53 (fun _ => rfl) (Or.inr rfl) (rTest_iff .le (sg 678 4) 0) (fun c9 => ?_) (fun c9 => ?_)
    · replace h := h.1 c9
      refine gs0 63 [(0, .inr (.inr (some 678))), (1, .inr (.inr (some r))), (2, .inl y2), (3, .inl y3)] [.inr (.inr (some 678))] dM_5_62 (fun _ => rfl) (Or.inr rfl) ?_
      refine gsGetE (sg 678 7) dM_5_63 sk_678 rfl rfl rfl ?_
      refine gs0 67 [(0, .inr (.inr (some 678))), (1, .inr (.inr (some r))), (2, .inl y2), (3, .inl y3)] [.inl ((-1)), .inl (sg 678 7)] dM_5_66 (fun _ => rfl) (Or.inr rfl) ?_
      refine gsIf (t := 79) (C := (sg 678 7) = ((-1))) (r := []) dM_5_67 (fun _ => rfl) (Or.inr rfl) (rTest_iff .eq (sg 678 7) ((-1))) (fun c10 => ?_) (fun c10 => ?_)
      · replace h := h.1 c10
        refine gs0 80 [(0, .inr (.inr (some 678))), (1, .inr (.inr (some r))), (2, .inl y2), (3, .inl y3)] [.inr (.inr (some 678))] dM_5_79 (fun _ => rfl) (Or.inr rfl) ?_
        refine gsGetR (some 231) dM_5_80 sk_678 rfl rfl ?_
        refine gs0 84 [(0, .inr (.inr (some 678))), (1, .inr (.inr (some r))), (2, .inl y2), (3, .inl y3)] [.inl 0, .inr (.inr (some 231))] dM_5_83 (fun _ => rfl) (Or.inr rfl) ?_
        refine gs0 85 [(0, .inr (.inr (some 678))), (1, .inr (.inr (some r))), (2, .inl y2), (3, .inl y3)] [.inr (.inr (some 678)), .inl 0, .inr (.inr (some 231))] dM_5_84 (fun _ => rfl) (Or.inr rfl) ?_
        refine gsGetE (sg 678 6) dM_5_85 sk_678 rfl rfl rfl ?_
        refine gsCallV (y := 25) (k := 231) (as := [.inr (.inr (some 231)), .inl 0, .inl (sg 678 6)]) (r := []) dM_5_88 rfl rfl rfl (Nat.le_of_ble_eq_true rfl) sk_231 rfl (Nat.le_of_ble_eq_true rfl) (EvS.up h (Nat.le_of_ble_eq_true rfl)) (fun v11 t12 hv13 => ?_)
        obtain ⟨rfl, hn⟩ := hv13
        clear h
        show GoS _ _ _ _ _ _ _ _ [(0, .inr (.inr (some 678))), (1, .inr (.inr (some r))), (2, .inl y2), (3, .inl y3)] [] t12 _
        refine gs0 92 [(0, .inr (.inr (some 678))), (1, .inr (.inr (some r))), (2, .inl y2), (3, .inl y3)] [.inr (.inr (some 678))] dM_5_91 (fun _ => rfl) (Or.inr rfl) ?_
        refine gsGetE (t12 678 5) dM_5_92 sk_678 rfl rfl rfl ?_
        refine gsRet (r := some (.inl (t12 678 5))) dM_5_95 (fun _ => rfl) (Or.inr rfl) ?_
        exact hn
      · replace h := h.2 c10
        refine gs0 73 [(0, .inr (.inr (some 678))), (1, .inr (.inr (some r))), (2, .inl y2), (3, .inl y3)] [.inl ((-2000))] dM_5_70 (fun _ => rfl) (Or.inr rfl) ?_
        refine gs0 74 [(0, .inr (.inr (some 678))), (1, .inr (.inr (some r))), (2, .inl y2), (3, .inl y3)] [.inr (.inr (some 678)), .inl ((-2000))] dM_5_73 (fun _ => rfl) (Or.inr rfl) ?_
        refine gsGetE (sg 678 7) dM_5_74 sk_678 rfl rfl rfl ?_
        refine gs0 78 [(0, .inr (.inr (some 678))), (1, .inr (.inr (some r))), (2, .inl y2), (3, .inl y3)] [.inl (((-2000)) - (sg 678 7))] dM_5_77 (fun _ => rfl) (Or.inr rfl) ?_
        refine gsRet (r := some (.inl (((-2000)) - (sg 678 7)))) dM_5_78 (fun _ => rfl) (Or.inr rfl) ?_
        exact h
    · replace h := h.2 c9
      refine gs0 59 [(0, .inr (.inr (some 678))), (1, .inr (.inr (some r))), (2, .inl y2), (3, .inl y3)] [.inl ((-1000))] dM_5_56 (fun _ => rfl) (Or.inr rfl) ?_
      refine gs0 60 [(0, .inr (.inr (some 678))), (1, .inr (.inr (some r))), (2, .inl y2), (3, .inl y3)] [.inl y2, .inl ((-1000))] dM_5_59 (fun _ => rfl) (Or.inr rfl) ?_
      refine gs0 61 [(0, .inr (.inr (some 678))), (1, .inr (.inr (some r))), (2, .inl y2), (3, .inl y3)] [.inl (((-1000)) - y2)] dM_5_60 (fun _ => rfl) (Or.inr rfl) ?_
      refine gsRet (r := some (.inl (((-1000)) - y2))) dM_5_61 (fun _ => rfl) (Or.inr rfl) ?_
      exact h
  · replace h := h.2 c8
    refine gs0 17 [(0, .inr (.inr (some 678))), (1, .inr (.inr (some r))), (2, .inl y2), (3, .inl y3)] [.inr (.inr (some 678))] dM_5_16 (fun _ => rfl) (Or.inr rfl) ?_
    refine gsGetE (sg 678 4) dM_5_17 sk_678 rfl rfl rfl ?_
    refine gs0 21 [(0, .inr (.inr (some 678))), (1, .inr (.inr (some r))), (2, .inl y2), (3, .inl y3)] [.inl 1, .inl (sg 678 4)] dM_5_20 (fun _ => rfl) (Or.inr rfl) ?_
    refine gsIf (t := 37) (C := (sg 678 4) < 1) (r := []) dM_5_21 (fun _ => rfl) (Or.inr rfl) (rTest_iff .lt (sg 678 4) 1) (fun c14 => ?_) (fun c14 => ?_)
    · replace h := h.1 c14
      refine gs0 40 [(0, .inr (.inr (some 678))), (1, .inr (.inr (some r))), (2, .inl y2), (3, .inl y3)] [.inl ((-1000))] dM_5_37 (fun _ => rfl) (Or.inr rfl) ?_
      refine gs0 41 [(0, .inr (.inr (some 678))), (1, .inr (.inr (some r))), (2, .inl y2), (3, .inl y3)] [.inl y3, .inl ((-1000))] dM_5_40 (fun _ => rfl) (Or.inr rfl) ?_
      refine gs0 42 [(0, .inr (.inr (some 678))), (1, .inr (.inr (some r))), (2, .inl y2), (3, .inl y3)] [.inl (((-1000)) - y3)] dM_5_41 (fun _ => rfl) (Or.inr rfl) ?_
      refine gsRet (r := some (.inl (((-1000)) - y3))) dM_5_42 (fun _ => rfl) (Or.inr rfl) ?_
      exact h
    · replace h := h.2 c14
      refine gs0 25 [(0, .inr (.inr (some 678))), (1, .inr (.inr (some r))), (2, .inl y2), (3, .inl y3)] [.inr (.inr (some 678))] dM_5_24 (fun _ => rfl) (Or.inr rfl) ?_
      refine gs0 26 [(0, .inr (.inr (some 678))), (1, .inr (.inr (some r))), (2, .inl y2), (3, .inl y3)] [.inr (.inr (some r)), .inr (.inr (some 678))] dM_5_25 (fun _ => rfl) (Or.inr rfl) ?_
      refine gs0 27 [(0, .inr (.inr (some 678))), (1, .inr (.inr (some r))), (2, .inl y2), (3, .inl y3)] [.inl y3, .inr (.inr (some r)), .inr (.inr (some 678))] dM_5_26 (fun _ => rfl) (Or.inr rfl) ?_
      refine gsCallV (y := 17) (k := r) (as := [.inr (.inr (some r)), .inl y3]) (r := [.inr (.inr (some 678))]) dM_5_27 rfl rfl rfl (Nat.le_of_ble_eq_true rfl) hr.2.1 rfl (Nat.le_of_ble_eq_true rfl) (EvS.up h (Nat.le_of_ble_eq_true rfl)) (fun v15 t16 hv17 => ?_)
      obtain ⟨n18, rfl, hn⟩ := hv17
      clear h
      show GoS _ _ _ _ _ _ _ _ [(0, .inr (.inr (some 678))), (1, .inr (.inr (some r))), (2, .inl y2), (3, .inl y3)] [.inl n18, .inr (.inr (some 678))] t16 _
      refine gs0 31 [(0, .inr (.inr (some 678))), (1, .inr (.inr (some r))), (2, .inl y2), (3, .inl y3)] [.inl y3, .inl n18, .inr (.inr (some 678))] dM_5_30 (fun _ => rfl) (Or.inr rfl) ?_
      refine gsCallV (y := 8) (k := 678) (as := [.inr (.inr (some 678)), .inl n18, .inl y3]) (r := []) dM_5_31 rfl rfl rfl (Nat.le_of_ble_eq_true rfl) sk_678 rfl (Nat.le_of_ble_eq_true rfl) (EvS.up hn (Nat.le_of_ble_eq_true rfl)) (fun v19 t20 hv21 => ?_)
      obtain ⟨n22, rfl, hnn⟩ := hv21
      clear hn
      show GoS _ _ _ _ _ _ _ _ [(0, .inr (.inr (some 678))), (1, .inr (.inr (some r))), (2, .inl y2), (3, .inl y3)] [.inl n22] t20 _
      refine gsIf (t := 43) (C := ¬ n22 = 0) (r := []) dM_5_34 (fun _ => rfl) (Or.inr rfl) (rTest_iff .ne n22 0) (fun c23 => ?_) (fun c23 => ?_)
      · replace hnn := hnn.1 c23
        refine gs0 46 [(3, .inl (y3 + 1)), (0, .inr (.inr (some 678))), (1, .inr (.inr (some r))), (2, .inl y2)] [] dM_5_43 (fun _ => rfl) (Or.inr rfl) ?_
        refine gs0 11 [(3, .inl (y3 + 1)), (0, .inr (.inr (some 678))), (1, .inr (.inr (some r))), (2, .inl y2)] [] dM_5_46 (fun _ => rfl) (Or.inr rfl) ?_
        exact GoS.sub (Lnd_keys (ks := [0, 1, 2, 3]) rfl (by decide)) (Lsub_cons rfl (Lsub_cons rfl (Lsub_cons rfl (Lsub_cons rfl Lsub_nil)))) hnn
      · replace hnn := hnn.2 c23
        refine gs0 40 [(0, .inr (.inr (some 678))), (1, .inr (.inr (some r))), (2, .inl y2), (3, .inl y3)] [.inl ((-1000))] dM_5_37 (fun _ => rfl) (Or.inr rfl) ?_
        refine gs0 41 [(0, .inr (.inr (some 678))), (1, .inr (.inr (some r))), (2, .inl y2), (3, .inl y3)] [.inl y3, .inl ((-1000))] dM_5_40 (fun _ => rfl) (Or.inr rfl) ?_
        refine gs0 42 [(0, .inr (.inr (some 678))), (1, .inr (.inr (some r))), (2, .inl y2), (3, .inl y3)] [.inl (((-1000)) - y3)] dM_5_41 (fun _ => rfl) (Or.inr rfl) ?_
        refine gsRet (r := some (.inl (((-1000)) - y3))) dM_5_42 (fun _ => rfl) (Or.inr rfl) ?_
        exact hnn
set_option maxRecDepth 100000 in
/-- GoalsInAQueue$Reader.read -/
theorem w_5 (sg : rSg) (r rn : Nat) (hr : isRow r rn) {P : Option rv → rSg → Prop} (h :
    EvS rSkel 2 6 [.inr (.inr (some 678))] sg (fun v1 t2 => v1 = none ∧
      EvS rSkel 1 16 [.inr (.inr (some r))] t2 (fun v4 t5 => ∃ n7, v4 = some (.inl n7) ∧
        g_5_11 r rn n7 0 t5 P))) : EvS rSkel 4 5 [.inr (.inr (some 678)), .inr (.inr (some r))] sg P := by
  refine EvS.of (ini := false) rfl ⟨rfl, Nat.le_of_ble_eq_true rfl⟩ rfl ?_
  show GoS rSkel 3 1 4 (some .int) false prog_3_method_2_code 0 [(0, .inr (.inr (some 678))), (1, .inr (.inr (some r)))] [] sg _
  have b_r := hr.1
  refine gs0 1 [(0, .inr (.inr (some 678))), (1, .inr (.inr (some r)))] [.inr (.inr (some 678))] dM_5_0 (fun _ => rfl) (Or.inr rfl) ?_
  refine gsCallV (y := 6) (k := 678) (as := [.inr (.inr (some 678))]) (r := []) dM_5_1 rfl rfl rfl (Nat.le_of_ble_eq_true rfl) sk_678 rfl (Nat.le_of_ble_eq_true rfl) (EvS.up h (Nat.le_of_ble_eq_true rfl)) (fun v1 t2 hv3 => ?_)
  obtain ⟨rfl, hn⟩ := hv3
  clear h
  show GoS _ _ _ _ _ _ _ _ [(0, .inr (.inr (some 678))), (1, .inr (.inr (some r)))] [] t2 _
  refine gs0 5 [(0, .inr (.inr (some 678))), (1, .inr (.inr (some r)))] [.inr (.inr (some r))] dM_5_4 (fun _ => rfl) (Or.inr rfl) ?_
  refine gsCallV (y := 16) (k := r) (as := [.inr (.inr (some r))]) (r := []) dM_5_5 rfl rfl rfl (Nat.le_of_ble_eq_true rfl) hr.2.1 rfl (Nat.le_of_ble_eq_true rfl) (EvS.up hn (Nat.le_of_ble_eq_true rfl)) (fun v4 t5 hv6 => ?_)
  obtain ⟨n7, rfl, hnn⟩ := hv6
  clear hn
  show GoS _ _ _ _ _ _ _ _ [(0, .inr (.inr (some 678))), (1, .inr (.inr (some r)))] [.inl n7] t5 _
  refine gs0 9 [(2, .inl n7), (0, .inr (.inr (some 678))), (1, .inr (.inr (some r)))] [] dM_5_8 (fun _ => rfl) (Or.inr rfl) ?_
  refine gs0 10 [(2, .inl n7), (0, .inr (.inr (some 678))), (1, .inr (.inr (some r)))] [.inl 0] dM_5_9 (fun _ => rfl) (Or.inr rfl) ?_
  refine gs0 11 [(3, .inl 0), (2, .inl n7), (0, .inr (.inr (some 678))), (1, .inr (.inr (some r)))] [] dM_5_10 (fun _ => rfl) (Or.inr rfl) ?_
  exact GoS.sub (Lnd_keys (ks := [0, 1, 2, 3]) rfl (by decide)) (Lsub_cons rfl (Lsub_cons rfl (Lsub_cons rfl (Lsub_cons rfl Lsub_nil)))) hnn
set_option maxRecDepth 100000 in
/-- GoalsInAQueue$Reader.begin -/
theorem w_6 (sg : rSg)  {P : Option rv → rSg → Prop} (h :
    EvS rSkel 1 20 [.inr (.inr (some 231))] sg (fun v1 t2 => v1 = none ∧
      EvS rSkel 1 7 [.inr (.inr (some 678)), .inl 0, .inl ((-1)), .inl 0] (up2 (up2 (up2 (up2 t2 678 4 0) 678 5 0) 678 6 0) 678 7 ((-1))) (fun v4 t5 => v4 = none ∧
        P none t5))) : EvS rSkel 2 6 [.inr (.inr (some 678))] sg P := by
  refine EvS.of (ini := false) rfl ⟨rfl, Nat.le_of_ble_eq_true rfl⟩ rfl ?_
  show GoS rSkel 1 1 1 none false prog_3_method_3_code 0 [(0, .inr (.inr (some 678)))] [] sg _
  refine gs0 1 [(0, .inr (.inr (some 678)))] [.inr (.inr (some 678))] dM_6_0 (fun _ => rfl) (Or.inr rfl) ?_
  refine gsGetR (some 231) dM_6_1 sk_678 rfl rfl ?_
  refine gsCallV (y := 20) (k := 231) (as := [.inr (.inr (some 231))]) (r := []) dM_6_4 rfl rfl rfl (Nat.le_of_ble_eq_true rfl) sk_231 rfl (Nat.le_of_ble_eq_true rfl) (EvS.up h (Nat.le_of_ble_eq_true rfl)) (fun v1 t2 hv3 => ?_)
  obtain ⟨rfl, hn⟩ := hv3
  clear h
  show GoS _ _ _ _ _ _ _ _ [(0, .inr (.inr (some 678)))] [] t2 _
  refine gs0 8 [(0, .inr (.inr (some 678)))] [.inr (.inr (some 678))] dM_6_7 (fun _ => rfl) (Or.inr rfl) ?_
  refine gs0 9 [(0, .inr (.inr (some 678)))] [.inl 0, .inr (.inr (some 678))] dM_6_8 (fun _ => rfl) (Or.inr rfl) ?_
  refine gsPut dM_6_9 sk_678 rfl rfl rfl (by decide) ?_
  refine gs0 13 [(0, .inr (.inr (some 678)))] [.inr (.inr (some 678))] dM_6_12 (fun _ => rfl) (Or.inr rfl) ?_
  refine gs0 14 [(0, .inr (.inr (some 678)))] [.inl 0, .inr (.inr (some 678))] dM_6_13 (fun _ => rfl) (Or.inr rfl) ?_
  refine gsPut dM_6_14 sk_678 rfl rfl rfl (by decide) ?_
  refine gs0 18 [(0, .inr (.inr (some 678)))] [.inr (.inr (some 678))] dM_6_17 (fun _ => rfl) (Or.inr rfl) ?_
  refine gs0 19 [(0, .inr (.inr (some 678)))] [.inl 0, .inr (.inr (some 678))] dM_6_18 (fun _ => rfl) (Or.inr rfl) ?_
  refine gsPut dM_6_19 sk_678 rfl rfl rfl (by decide) ?_
  refine gs0 23 [(0, .inr (.inr (some 678)))] [.inr (.inr (some 678))] dM_6_22 (fun _ => rfl) (Or.inr rfl) ?_
  refine gs0 24 [(0, .inr (.inr (some 678)))] [.inl ((-1)), .inr (.inr (some 678))] dM_6_23 (fun _ => rfl) (Or.inr rfl) ?_
  refine gsPut dM_6_24 sk_678 rfl rfl rfl (by decide) ?_
  refine gs0 28 [(0, .inr (.inr (some 678)))] [.inr (.inr (some 678))] dM_6_27 (fun _ => rfl) (Or.inr rfl) ?_
  refine gs0 29 [(0, .inr (.inr (some 678)))] [.inl 0, .inr (.inr (some 678))] dM_6_28 (fun _ => rfl) (Or.inr rfl) ?_
  refine gs0 30 [(0, .inr (.inr (some 678)))] [.inl ((-1)), .inl 0, .inr (.inr (some 678))] dM_6_29 (fun _ => rfl) (Or.inr rfl) ?_
  refine gs0 31 [(0, .inr (.inr (some 678)))] [.inl 0, .inl ((-1)), .inl 0, .inr (.inr (some 678))] dM_6_30 (fun _ => rfl) (Or.inr rfl) ?_
  refine gsCallV (y := 7) (k := 678) (as := [.inr (.inr (some 678)), .inl 0, .inl ((-1)), .inl 0]) (r := []) dM_6_31 rfl rfl rfl (Nat.le_of_ble_eq_true rfl) sk_678 rfl (Nat.le_of_ble_eq_true rfl) (EvS.up hn (Nat.le_of_ble_eq_true rfl)) (fun v4 t5 hv6 => ?_)
  obtain ⟨rfl, hnn⟩ := hv6
  clear hn
  show GoS _ _ _ _ _ _ _ _ [(0, .inr (.inr (some 678)))] [] t5 _
  refine gsRet (r := none) dM_6_34 (fun _ => rfl) (Or.inr rfl) ?_
  exact hnn
set_option maxRecDepth 100000 in
/-- GoalsInAQueue$Reader.push -/
theorem w_7 (sg : rSg) (x1 : Int32) (x2 : Int32) (x3 : Int32) {P : Option rv → rSg → Prop} (h :
    ((sg 678 4) < 0 → 
      P none sg) ∧
    (¬ ((sg 678 4) < 0) → 
      (196 ≤ (sg 678 4) → 
        P none sg) ∧
      (¬ (196 ≤ (sg 678 4)) → 
        (rIn (sg 678 4) 196 = true ∧
        rIn (sg 678 4) 196 = true ∧
        rIn (sg 678 4) 196 = true ∧
        P none (up2 (up2 (up2 (up2 sg 679 ((sg 678 4).toNatClampNeg) x1) 680 ((sg 678 4).toNatClampNeg) x2) 681 ((sg 678 4).toNatClampNeg) x3) 678 4 ((sg 678 4) + 1)))))) : EvS rSkel 1 7 [.inr (.inr (some 678)), .inl x1, .inl x2, .inl x3] sg P := by
  refine EvS.of (ini := false) rfl ⟨rfl, Nat.le_of_ble_eq_true rfl⟩ rfl ?_
  show GoS rSkel 0 1 4 none false prog_3_method_4_code 0 [(0, .inr (.inr (some 678))), (1, .inl x1), (2, .inl x2), (3, .inl x3)] [] sg _
  refine gs0 1 [(0, .inr (.inr (some 678))), (1, .inl x1), (2, .inl x2), (3, .inl x3)] [.inr (.inr (some 678))] dM_7_0 (fun _ => rfl) (Or.inr rfl) ?_
  refine gsGetE (sg 678 4) dM_7_1 sk_678 rfl rfl rfl ?_
  refine gsIf (t := 57) (C := (sg 678 4) < 0) (r := []) dM_7_4 (fun _ => rfl) (Or.inr rfl) (rTest_iff .lt (sg 678 4) 0) (fun c1 => ?_) (fun c1 => ?_)
  · replace h := h.1 c1
    refine gsRet (r := none) dM_7_57 (fun _ => rfl) (Or.inr rfl) ?_
    exact h
  · replace h := h.2 c1
    refine gs0 8 [(0, .inr (.inr (some 678))), (1, .inl x1), (2, .inl x2), (3, .inl x3)] [.inr (.inr (some 678))] dM_7_7 (fun _ => rfl) (Or.inr rfl) ?_
    refine gsGetE (sg 678 4) dM_7_8 sk_678 rfl rfl rfl ?_
    refine gs0 14 [(0, .inr (.inr (some 678))), (1, .inl x1), (2, .inl x2), (3, .inl x3)] [.inl 196, .inl (sg 678 4)] dM_7_11 (fun _ => rfl) (Or.inr rfl) ?_
    refine gsIf (t := 57) (C := 196 ≤ (sg 678 4)) (r := []) dM_7_14 (fun _ => rfl) (Or.inr rfl) (rTest_iff .ge (sg 678 4) 196) (fun c2 => ?_) (fun c2 => ?_)
    · replace h := h.1 c2
      refine gsRet (r := none) dM_7_57 (fun _ => rfl) (Or.inr rfl) ?_
      exact h
    · replace h := h.2 c2
      refine gs0 18 [(0, .inr (.inr (some 678))), (1, .inl x1), (2, .inl x2), (3, .inl x3)] [.inr (.inr (some 678))] dM_7_17 (fun _ => rfl) (Or.inr rfl) ?_
      refine gsGetR (some 679) dM_7_18 sk_678 rfl rfl ?_
      refine gs0 22 [(0, .inr (.inr (some 678))), (1, .inl x1), (2, .inl x2), (3, .inl x3)] [.inr (.inr (some 678)), .inr (.inr (some 679))] dM_7_21 (fun _ => rfl) (Or.inr rfl) ?_
      refine gsGetE (sg 678 4) dM_7_22 sk_678 rfl rfl rfl ?_
      refine gs0 26 [(0, .inr (.inr (some 678))), (1, .inl x1), (2, .inl x2), (3, .inl x3)] [.inl x1, .inl (sg 678 4), .inr (.inr (some 679))] dM_7_25 (fun _ => rfl) (Or.inr rfl) ?_
      refine gsIastN ((sg 678 4).toNatClampNeg) dM_7_26 sk_679 h.1 rfl ?_
      replace h := h.2
      refine gs0 28 [(0, .inr (.inr (some 678))), (1, .inl x1), (2, .inl x2), (3, .inl x3)] [.inr (.inr (some 678))] dM_7_27 (fun _ => rfl) (Or.inr rfl) ?_
      refine gsGetR (some 680) dM_7_28 sk_678 rfl rfl ?_
      refine gs0 32 [(0, .inr (.inr (some 678))), (1, .inl x1), (2, .inl x2), (3, .inl x3)] [.inr (.inr (some 678)), .inr (.inr (some 680))] dM_7_31 (fun _ => rfl) (Or.inr rfl) ?_
      refine gsGetE (sg 678 4) dM_7_32 sk_678 rfl rfl (congrFun (up2_nk _ _ _ (by decide)) _) ?_
      refine gs0 36 [(0, .inr (.inr (some 678))), (1, .inl x1), (2, .inl x2), (3, .inl x3)] [.inl x2, .inl (sg 678 4), .inr (.inr (some 680))] dM_7_35 (fun _ => rfl) (Or.inr rfl) ?_
      refine gsIastN ((sg 678 4).toNatClampNeg) dM_7_36 sk_680 h.1 rfl ?_
      replace h := h.2
      refine gs0 38 [(0, .inr (.inr (some 678))), (1, .inl x1), (2, .inl x2), (3, .inl x3)] [.inr (.inr (some 678))] dM_7_37 (fun _ => rfl) (Or.inr rfl) ?_
      refine gsGetR (some 681) dM_7_38 sk_678 rfl rfl ?_
      refine gs0 42 [(0, .inr (.inr (some 678))), (1, .inl x1), (2, .inl x2), (3, .inl x3)] [.inr (.inr (some 678)), .inr (.inr (some 681))] dM_7_41 (fun _ => rfl) (Or.inr rfl) ?_
      refine gsGetE (sg 678 4) dM_7_42 sk_678 rfl rfl ((congrFun (up2_nk _ _ _ (by decide)) _).trans (congrFun (up2_nk _ _ _ (by decide)) _)) ?_
      refine gs0 46 [(0, .inr (.inr (some 678))), (1, .inl x1), (2, .inl x2), (3, .inl x3)] [.inl x3, .inl (sg 678 4), .inr (.inr (some 681))] dM_7_45 (fun _ => rfl) (Or.inr rfl) ?_
      refine gsIastN ((sg 678 4).toNatClampNeg) dM_7_46 sk_681 h.1 rfl ?_
      replace h := h.2
      refine gs0 48 [(0, .inr (.inr (some 678))), (1, .inl x1), (2, .inl x2), (3, .inl x3)] [.inr (.inr (some 678))] dM_7_47 (fun _ => rfl) (Or.inr rfl) ?_
      refine gs0 49 [(0, .inr (.inr (some 678))), (1, .inl x1), (2, .inl x2), (3, .inl x3)] [.inr (.inr (some 678)), .inr (.inr (some 678))] dM_7_48 (fun _ => rfl) (Or.inr rfl) ?_
      refine gsGetE (sg 678 4) dM_7_49 sk_678 rfl rfl ((congrFun (up2_nk _ _ _ (by decide)) _).trans ((congrFun (up2_nk _ _ _ (by decide)) _).trans (congrFun (up2_nk _ _ _ (by decide)) _))) ?_
      refine gs0 53 [(0, .inr (.inr (some 678))), (1, .inl x1), (2, .inl x2), (3, .inl x3)] [.inl 1, .inl (sg 678 4), .inr (.inr (some 678))] dM_7_52 (fun _ => rfl) (Or.inr rfl) ?_
      refine gs0 54 [(0, .inr (.inr (some 678))), (1, .inl x1), (2, .inl x2), (3, .inl x3)] [.inl ((sg 678 4) + 1), .inr (.inr (some 678))] dM_7_53 (fun _ => rfl) (Or.inr rfl) ?_
      refine gsPut dM_7_54 sk_678 rfl rfl rfl (by decide) ?_
      refine gsRet (r := none) dM_7_57 (fun _ => rfl) (Or.inr rfl) ?_
      exact h
set_option maxRecDepth 100000 in
/-- GoalsInAQueue$Reader.takes -/
theorem w_8 (sg : rSg) (x1 : Int32) (x2 : Int32) {P : Option rv → rSg → Prop} (h :
    (((sg 678 4) - 1) < 0 → 
      P (some (.inl 0)) (up2 sg 678 4 ((sg 678 4) - 1))) ∧
    (¬ (((sg 678 4) - 1) < 0) → 
      (((sg 678 4) - 1) < 196 → 
        (rIn ((sg 678 4) - 1) 196 = true ∧
        rIn ((sg 678 4) - 1) 196 = true ∧
        rIn ((sg 678 4) - 1) 196 = true ∧
        ((sg 679 (((sg 678 4) - 1).toNatClampNeg)) = 0 → 
          EvS rSkel 2 9 [.inr (.inr (some 678)), .inl x1, .inl x2, .inl (sg 680 (((sg 678 4) - 1).toNatClampNeg)), .inl (sg 681 (((sg 678 4) - 1).toNatClampNeg))] (up2 sg 678 4 ((sg 678 4) - 1)) (fun v4 t5 => ∃ n7, v4 = some (.inl n7) ∧
            (rBool n7 = true ∧
            P (some (.inl n7)) t5))) ∧
        ((sg 679 (((sg 678 4) - 1).toNatClampNeg)) = 1 → 
          EvS rSkel 2 11 [.inr (.inr (some 678)), .inl x1, .inl x2, .inl (sg 680 (((sg 678 4) - 1).toNatClampNeg)), .inl (sg 681 (((sg 678 4) - 1).toNatClampNeg))] (up2 sg 678 4 ((sg 678 4) - 1)) (fun v8 t9 => ∃ n11, v8 = some (.inl n11) ∧
            (rBool n11 = true ∧
            P (some (.inl n11)) t9))) ∧
        (¬ (sg 679 (((sg 678 4) - 1).toNatClampNeg)) = 0 ∧ ¬ (sg 679 (((sg 678 4) - 1).toNatClampNeg)) = 1 →
          (¬ x1 = 41 → 
            P (some (.inl 0)) (up2 sg 678 4 ((sg 678 4) - 1))) ∧
          (¬ (¬ x1 = 41) → 
            P (some (.inl 1)) (up2 sg 678 4 ((sg 678 4) - 1)))))) ∧
      (¬ (((sg 678 4) - 1) < 196) → 
        P (some (.inl 0)) (up2 sg 678 4 ((sg 678 4) - 1))))) : EvS rSkel 3 8 [.inr (.inr (some 678)), .inl x1, .inl x2] sg P := by
  refine EvS.of (ini := false) rfl ⟨rfl, Nat.le_of_ble_eq_true rfl⟩ rfl ?_
  show GoS rSkel 2 1 5 (some .boolean) false prog_3_method_5_code 0 [(0, .inr (.inr (some 678))), (1, .inl x1), (2, .inl x2)] [] sg _
  refine gs0 1 [(0, .inr (.inr (some 678))), (1, .inl x1), (2, .inl x2)] [.inr (.inr (some 678))] dM_8_0 (fun _ => rfl) (Or.inr rfl) ?_
  refine gs0 2 [(0, .inr (.inr (some 678))), (1, .inl x1), (2, .inl x2)] [.inr (.inr (some 678)), .inr (.inr (some 678))] dM_8_1 (fun _ => rfl) (Or.inr rfl) ?_
  refine gsGetE (sg 678 4) dM_8_2 sk_678 rfl rfl rfl ?_
  refine gs0 6 [(0, .inr (.inr (some 678))), (1, .inl x1), (2, .inl x2)] [.inl 1, .inl (sg 678 4), .inr (.inr (some 678))] dM_8_5 (fun _ => rfl) (Or.inr rfl) ?_
  refine gs0 7 [(0, .inr (.inr (some 678))), (1, .inl x1), (2, .inl x2)] [.inl ((sg 678 4) - 1), .inr (.inr (some 678))] dM_8_6 (fun _ => rfl) (Or.inr rfl) ?_
  refine gsPut dM_8_7 sk_678 rfl rfl rfl (by decide) ?_
  refine gs0 11 [(0, .inr (.inr (some 678))), (1, .inl x1), (2, .inl x2)] [.inr (.inr (some 678))] dM_8_10 (fun _ => rfl) (Or.inr rfl) ?_
  refine gsGetE ((sg 678 4) - 1) dM_8_11 sk_678 rfl rfl (up2_same _ _ _ _) ?_
  refine gsIf (t := 27) (C := ((sg 678 4) - 1) < 0) (r := []) dM_8_14 (fun _ => rfl) (Or.inr rfl) (rTest_iff .lt ((sg 678 4) - 1) 0) (fun c1 => ?_) (fun c1 => ?_)
  · replace h := h.1 c1
    refine gs0 28 [(0, .inr (.inr (some 678))), (1, .inl x1), (2, .inl x2)] [.inl 0] dM_8_27 (fun _ => rfl) (Or.inr rfl) ?_
    refine gsRet (r := some (.inl 0)) dM_8_28 (fun _ => rfl) (Or.inr rfl) ?_
    exact h
  · replace h := h.2 c1
    refine gs0 18 [(0, .inr (.inr (some 678))), (1, .inl x1), (2, .inl x2)] [.inr (.inr (some 678))] dM_8_17 (fun _ => rfl) (Or.inr rfl) ?_
    refine gsGetE ((sg 678 4) - 1) dM_8_18 sk_678 rfl rfl (up2_same _ _ _ _) ?_
    refine gs0 24 [(0, .inr (.inr (some 678))), (1, .inl x1), (2, .inl x2)] [.inl 196, .inl ((sg 678 4) - 1)] dM_8_21 (fun _ => rfl) (Or.inr rfl) ?_
    refine gsIf (t := 29) (C := ((sg 678 4) - 1) < 196) (r := []) dM_8_24 (fun _ => rfl) (Or.inr rfl) (rTest_iff .lt ((sg 678 4) - 1) 196) (fun c2 => ?_) (fun c2 => ?_)
    · replace h := h.1 c2
      refine gs0 30 [(0, .inr (.inr (some 678))), (1, .inl x1), (2, .inl x2)] [.inr (.inr (some 678))] dM_8_29 (fun _ => rfl) (Or.inr rfl) ?_
      refine gsGetR (some 680) dM_8_30 sk_678 rfl rfl ?_
      refine gs0 34 [(0, .inr (.inr (some 678))), (1, .inl x1), (2, .inl x2)] [.inr (.inr (some 678)), .inr (.inr (some 680))] dM_8_33 (fun _ => rfl) (Or.inr rfl) ?_
      refine gsGetE ((sg 678 4) - 1) dM_8_34 sk_678 rfl rfl (up2_same _ _ _ _) ?_
      refine gsIaldN (((sg 678 4) - 1).toNatClampNeg) (sg 680 (((sg 678 4) - 1).toNatClampNeg)) dM_8_37 sk_680 h.1 rfl (congrFun (up2_nk _ _ _ (by decide)) _) ?_
      replace h := h.2
      refine gs0 39 [(3, .inl (sg 680 (((sg 678 4) - 1).toNatClampNeg))), (0, .inr (.inr (some 678))), (1, .inl x1), (2, .inl x2)] [] dM_8_38 (fun _ => rfl) (Or.inr rfl) ?_
      refine gs0 40 [(3, .inl (sg 680 (((sg 678 4) - 1).toNatClampNeg))), (0, .inr (.inr (some 678))), (1, .inl x1), (2, .inl x2)] [.inr (.inr (some 678))] dM_8_39 (fun _ => rfl) (Or.inr rfl) ?_
      refine gsGetR (some 681) dM_8_40 sk_678 rfl rfl ?_
      refine gs0 44 [(3, .inl (sg 680 (((sg 678 4) - 1).toNatClampNeg))), (0, .inr (.inr (some 678))), (1, .inl x1), (2, .inl x2)] [.inr (.inr (some 678)), .inr (.inr (some 681))] dM_8_43 (fun _ => rfl) (Or.inr rfl) ?_
      refine gsGetE ((sg 678 4) - 1) dM_8_44 sk_678 rfl rfl (up2_same _ _ _ _) ?_
      refine gsIaldN (((sg 678 4) - 1).toNatClampNeg) (sg 681 (((sg 678 4) - 1).toNatClampNeg)) dM_8_47 sk_681 h.1 rfl (congrFun (up2_nk _ _ _ (by decide)) _) ?_
      replace h := h.2
      refine gs0 50 [(4, .inl (sg 681 (((sg 678 4) - 1).toNatClampNeg))), (3, .inl (sg 680 (((sg 678 4) - 1).toNatClampNeg))), (0, .inr (.inr (some 678))), (1, .inl x1), (2, .inl x2)] [] dM_8_48 (fun _ => rfl) (Or.inr rfl) ?_
      refine gs0 51 [(4, .inl (sg 681 (((sg 678 4) - 1).toNatClampNeg))), (3, .inl (sg 680 (((sg 678 4) - 1).toNatClampNeg))), (0, .inr (.inr (some 678))), (1, .inl x1), (2, .inl x2)] [.inr (.inr (some 678))] dM_8_50 (fun _ => rfl) (Or.inr rfl) ?_
      refine gsGetR (some 679) dM_8_51 sk_678 rfl rfl ?_
      refine gs0 55 [(4, .inl (sg 681 (((sg 678 4) - 1).toNatClampNeg))), (3, .inl (sg 680 (((sg 678 4) - 1).toNatClampNeg))), (0, .inr (.inr (some 678))), (1, .inl x1), (2, .inl x2)] [.inr (.inr (some 678)), .inr (.inr (some 679))] dM_8_54 (fun _ => rfl) (Or.inr rfl) ?_
      refine gsGetE ((sg 678 4) - 1) dM_8_55 sk_678 rfl rfl (up2_same _ _ _ _) ?_
      refine gsIaldN (((sg 678 4) - 1).toNatClampNeg) (sg 679 (((sg 678 4) - 1).toNatClampNeg)) dM_8_58 sk_679 h.1 rfl (congrFun (up2_nk _ _ _ (by decide)) _) ?_
      replace h := h.2
      by_cases c3_0 : (sg 679 (((sg 678 4) - 1).toNatClampNeg)) = 0
      · replace h := h.1 c3_0
        refine gs0 84 [(4, .inl (sg 681 (((sg 678 4) - 1).toNatClampNeg))), (3, .inl (sg 680 (((sg 678 4) - 1).toNatClampNeg))), (0, .inr (.inr (some 678))), (1, .inl x1), (2, .inl x2)] [] dM_8_59 (fun _ => by rw [c3_0]; rfl) (Or.inl rfl) ?_
        refine gs0 85 [(4, .inl (sg 681 (((sg 678 4) - 1).toNatClampNeg))), (3, .inl (sg 680 (((sg 678 4) - 1).toNatClampNeg))), (0, .inr (.inr (some 678))), (1, .inl x1), (2, .inl x2)] [.inr (.inr (some 678))] dM_8_84 (fun _ => rfl) (Or.inr rfl) ?_
        refine gs0 86 [(4, .inl (sg 681 (((sg 678 4) - 1).toNatClampNeg))), (3, .inl (sg 680 (((sg 678 4) - 1).toNatClampNeg))), (0, .inr (.inr (some 678))), (1, .inl x1), (2, .inl x2)] [.inl x1, .inr (.inr (some 678))] dM_8_85 (fun _ => rfl) (Or.inr rfl) ?_
        refine gs0 87 [(4, .inl (sg 681 (((sg 678 4) - 1).toNatClampNeg))), (3, .inl (sg 680 (((sg 678 4) - 1).toNatClampNeg))), (0, .inr (.inr (some 678))), (1, .inl x1), (2, .inl x2)] [.inl x2, .inl x1, .inr (.inr (some 678))] dM_8_86 (fun _ => rfl) (Or.inr rfl) ?_
        refine gs0 88 [(4, .inl (sg 681 (((sg 678 4) - 1).toNatClampNeg))), (3, .inl (sg 680 (((sg 678 4) - 1).toNatClampNeg))), (0, .inr (.inr (some 678))), (1, .inl x1), (2, .inl x2)] [.inl (sg 680 (((sg 678 4) - 1).toNatClampNeg)), .inl x2, .inl x1, .inr (.inr (some 678))] dM_8_87 (fun _ => rfl) (Or.inr rfl) ?_
        refine gs0 90 [(4, .inl (sg 681 (((sg 678 4) - 1).toNatClampNeg))), (3, .inl (sg 680 (((sg 678 4) - 1).toNatClampNeg))), (0, .inr (.inr (some 678))), (1, .inl x1), (2, .inl x2)] [.inl (sg 681 (((sg 678 4) - 1).toNatClampNeg)), .inl (sg 680 (((sg 678 4) - 1).toNatClampNeg)), .inl x2, .inl x1, .inr (.inr (some 678))] dM_8_88 (fun _ => rfl) (Or.inr rfl) ?_
        refine gsCallV (y := 9) (k := 678) (as := [.inr (.inr (some 678)), .inl x1, .inl x2, .inl (sg 680 (((sg 678 4) - 1).toNatClampNeg)), .inl (sg 681 (((sg 678 4) - 1).toNatClampNeg))]) (r := []) dM_8_90 rfl rfl rfl (Nat.le_of_ble_eq_true rfl) sk_678 rfl (Nat.le_of_ble_eq_true rfl) (EvS.up h (Nat.le_of_ble_eq_true rfl)) (fun v4 t5 hv6 => ?_)
        obtain ⟨n7, rfl, hn⟩ := hv6
        clear h
        show GoS _ _ _ _ _ _ _ _ [(4, .inl (sg 681 (((sg 678 4) - 1).toNatClampNeg))), (3, .inl (sg 680 (((sg 678 4) - 1).toNatClampNeg))), (0, .inr (.inr (some 678))), (1, .inl x1), (2, .inl x2)] [.inl n7] t5 _
        refine gsRet (r := some (.inl n7)) dM_8_93 (fun _ => rRetB hn.1) (Or.inr rfl) ?_
        replace hn := hn.2
        exact hn
      replace h := h.2
      by_cases c3_1 : (sg 679 (((sg 678 4) - 1).toNatClampNeg)) = 1
      · replace h := h.1 c3_1
        refine gs0 94 [(4, .inl (sg 681 (((sg 678 4) - 1).toNatClampNeg))), (3, .inl (sg 680 (((sg 678 4) - 1).toNatClampNeg))), (0, .inr (.inr (some 678))), (1, .inl x1), (2, .inl x2)] [] dM_8_59 (fun _ => by rw [c3_1]; rfl) (Or.inl rfl) ?_
        refine gs0 95 [(4, .inl (sg 681 (((sg 678 4) - 1).toNatClampNeg))), (3, .inl (sg 680 (((sg 678 4) - 1).toNatClampNeg))), (0, .inr (.inr (some 678))), (1, .inl x1), (2, .inl x2)] [.inr (.inr (some 678))] dM_8_94 (fun _ => rfl) (Or.inr rfl) ?_
        refine gs0 96 [(4, .inl (sg 681 (((sg 678 4) - 1).toNatClampNeg))), (3, .inl (sg 680 (((sg 678 4) - 1).toNatClampNeg))), (0, .inr (.inr (some 678))), (1, .inl x1), (2, .inl x2)] [.inl x1, .inr (.inr (some 678))] dM_8_95 (fun _ => rfl) (Or.inr rfl) ?_
        refine gs0 97 [(4, .inl (sg 681 (((sg 678 4) - 1).toNatClampNeg))), (3, .inl (sg 680 (((sg 678 4) - 1).toNatClampNeg))), (0, .inr (.inr (some 678))), (1, .inl x1), (2, .inl x2)] [.inl x2, .inl x1, .inr (.inr (some 678))] dM_8_96 (fun _ => rfl) (Or.inr rfl) ?_
        refine gs0 98 [(4, .inl (sg 681 (((sg 678 4) - 1).toNatClampNeg))), (3, .inl (sg 680 (((sg 678 4) - 1).toNatClampNeg))), (0, .inr (.inr (some 678))), (1, .inl x1), (2, .inl x2)] [.inl (sg 680 (((sg 678 4) - 1).toNatClampNeg)), .inl x2, .inl x1, .inr (.inr (some 678))] dM_8_97 (fun _ => rfl) (Or.inr rfl) ?_
        refine gs0 100 [(4, .inl (sg 681 (((sg 678 4) - 1).toNatClampNeg))), (3, .inl (sg 680 (((sg 678 4) - 1).toNatClampNeg))), (0, .inr (.inr (some 678))), (1, .inl x1), (2, .inl x2)] [.inl (sg 681 (((sg 678 4) - 1).toNatClampNeg)), .inl (sg 680 (((sg 678 4) - 1).toNatClampNeg)), .inl x2, .inl x1, .inr (.inr (some 678))] dM_8_98 (fun _ => rfl) (Or.inr rfl) ?_
        refine gsCallV (y := 11) (k := 678) (as := [.inr (.inr (some 678)), .inl x1, .inl x2, .inl (sg 680 (((sg 678 4) - 1).toNatClampNeg)), .inl (sg 681 (((sg 678 4) - 1).toNatClampNeg))]) (r := []) dM_8_100 rfl rfl rfl (Nat.le_of_ble_eq_true rfl) sk_678 rfl (Nat.le_of_ble_eq_true rfl) (EvS.up h (Nat.le_of_ble_eq_true rfl)) (fun v8 t9 hv10 => ?_)
        obtain ⟨n11, rfl, hn⟩ := hv10
        clear h
        show GoS _ _ _ _ _ _ _ _ [(4, .inl (sg 681 (((sg 678 4) - 1).toNatClampNeg))), (3, .inl (sg 680 (((sg 678 4) - 1).toNatClampNeg))), (0, .inr (.inr (some 678))), (1, .inl x1), (2, .inl x2)] [.inl n11] t9 _
        refine gsRet (r := some (.inl n11)) dM_8_103 (fun _ => rRetB hn.1) (Or.inr rfl) ?_
        replace hn := hn.2
        exact hn
      replace h := h.2
      replace h := h ⟨c3_0, c3_1⟩
      have ec3_0 := i32_ne c3_0 (show (0 : Int32).toInt = 0 by decide)
      have ec3_1 := i32_ne c3_1 (show (1 : Int32).toInt = 1 by decide)
      refine gs0 104 [(4, .inl (sg 681 (((sg 678 4) - 1).toNatClampNeg))), (3, .inl (sg 680 (((sg 678 4) - 1).toNatClampNeg))), (0, .inr (.inr (some 678))), (1, .inl x1), (2, .inl x2)] [] dM_8_59 (fun _ => swL_out (by decide) (by simp [Op.lookupswitch.offset, Ne.symm ec3_0, Ne.symm ec3_1]) rfl) (Or.inl rfl) ?_
      refine gs0 105 [(4, .inl (sg 681 (((sg 678 4) - 1).toNatClampNeg))), (3, .inl (sg 680 (((sg 678 4) - 1).toNatClampNeg))), (0, .inr (.inr (some 678))), (1, .inl x1), (2, .inl x2)] [.inl x1] dM_8_104 (fun _ => rfl) (Or.inr rfl) ?_
      refine gs0 107 [(4, .inl (sg 681 (((sg 678 4) - 1).toNatClampNeg))), (3, .inl (sg 680 (((sg 678 4) - 1).toNatClampNeg))), (0, .inr (.inr (some 678))), (1, .inl x1), (2, .inl x2)] [.inl 41, .inl x1] dM_8_105 (fun _ => rfl) (Or.inr rfl) ?_
      refine gsIf (t := 114) (C := ¬ x1 = 41) (r := []) dM_8_107 (fun _ => rfl) (Or.inr rfl) (rTest_iff .ne x1 41) (fun c12 => ?_) (fun c12 => ?_)
      · replace h := h.1 c12
        refine gs0 115 [(4, .inl (sg 681 (((sg 678 4) - 1).toNatClampNeg))), (3, .inl (sg 680 (((sg 678 4) - 1).toNatClampNeg))), (0, .inr (.inr (some 678))), (1, .inl x1), (2, .inl x2)] [.inl 0] dM_8_114 (fun _ => rfl) (Or.inr rfl) ?_
        refine gsRet (r := some (.inl 0)) dM_8_115 (fun _ => rfl) (Or.inr rfl) ?_
        exact h
      · replace h := h.2 c12
        refine gs0 111 [(4, .inl (sg 681 (((sg 678 4) - 1).toNatClampNeg))), (3, .inl (sg 680 (((sg 678 4) - 1).toNatClampNeg))), (0, .inr (.inr (some 678))), (1, .inl x1), (2, .inl x2)] [.inl 1] dM_8_110 (fun _ => rfl) (Or.inr rfl) ?_
        refine gs0 115 [(4, .inl (sg 681 (((sg 678 4) - 1).toNatClampNeg))), (3, .inl (sg 680 (((sg 678 4) - 1).toNatClampNeg))), (0, .inr (.inr (some 678))), (1, .inl x1), (2, .inl x2)] [.inl 1] dM_8_111 (fun _ => rfl) (Or.inr rfl) ?_
        refine gsRet (r := some (.inl 1)) dM_8_115 (fun _ => rfl) (Or.inr rfl) ?_
        exact h
    · replace h := h.2 c2
      refine gs0 28 [(0, .inr (.inr (some 678))), (1, .inl x1), (2, .inl x2)] [.inl 0] dM_8_27 (fun _ => rfl) (Or.inr rfl) ?_
      refine gsRet (r := some (.inl 0)) dM_8_28 (fun _ => rfl) (Or.inr rfl) ?_
      exact h
def g_9_45  (y1 : Int32) (y3 : Int32) (y4 : Int32) (y5 : Int32) (sg : rSg) (P : Option rv → rSg → Prop) : Prop := GoS rSkel 1 1 9 (some .boolean) false prog_3_method_6_code 45 [(0, .inr (.inr (some 678))), (1, .inl y1), (3, .inl y3), (4, .inl y4), (5, .inl y5)] [] sg P
def g_9_104  (y6 : Int32) (y7 : Int32) (y8 : Int32) (sg : rSg) (P : Option rv → rSg → Prop) : Prop := GoS rSkel 1 1 9 (some .boolean) false prog_3_method_6_code 104 [(0, .inr (.inr (some 678))), (6, .inl y6), (7, .inl y7), (8, .inl y8)] [] sg P
set_option maxRecDepth 100000 in
theorem w_9_45 (sg : rSg)  (y1 : Int32) (y3 : Int32) (y4 : Int32) (y5 : Int32) {P : Option rv → rSg → Prop} (h :
    (¬ (sg 678 7) = ((-1)) → 
      EvS rSkel 1 22 [.inr (.inr (some 231)), .inl y3, .inl y4, .inl ((-1))] sg (fun v9 t10 => v9 = none ∧
        (y1 = 38 → 
          g_9_104 ((-1)) 0 (y5 - 1) t10 P) ∧
        (¬ (y1 = 38) → 
          (¬ y1 = 124 → 
            g_9_104 ((-1)) 1 (y5 - 1) t10 P) ∧
          (¬ (¬ y1 = 124) → 
            g_9_104 ((-1)) 0 (y5 - 1) t10 P)))) ∧
    (¬ (¬ (sg 678 7) = ((-1))) → 
      EvS rSkel 1 21 [.inr (.inr (some 231)), .inl y1] sg (fun v14 t15 => ∃ n17, v14 = some (.inl n17) ∧
        EvS rSkel 1 22 [.inr (.inr (some 231)), .inl y3, .inl y4, .inl n17] t15 (fun v18 t19 => v18 = none ∧
          (y1 = 38 → 
            g_9_104 n17 0 (y5 - 1) t19 P) ∧
          (¬ (y1 = 38) → 
            (¬ y1 = 124 → 
              g_9_104 n17 1 (y5 - 1) t19 P) ∧
            (¬ (¬ y1 = 124) → 
              g_9_104 n17 0 (y5 - 1) t19 P)))))) : g_9_45 y1 y3 y4 y5 sg P := by
  show GoS rSkel 1 1 9 (some .boolean) false prog_3_method_6_code 45 [(0, .inr (.inr (some 678))), (1, .inl y1), (3, .inl y3), (4, .inl y4), (5, .inl y5)] [] sg P
  refine gs0 46 [(0, .inr (.inr (some 678))), (1, .inl y1), (3, .inl y3), (4, .inl y4), (5, .inl y5)] [.inr (.inr (some 678))] dM_9_45 (fun _ => rfl) (Or.inr rfl) ?_
  refine gsGetE (sg 678 7) dM_9_46 sk_678 rfl rfl rfl ?_
  refine gs0 50 [(0, .inr (.inr (some 678))), (1, .inl y1), (3, .inl y3), (4, .inl y4), (5, .inl y5)] [.inl ((-1)), .inl (sg 678 7)] dM_9_49 (fun _ => rfl) (Or.inr rfl) ?_
  refine gsIf (t := 64) (C := ¬ (sg 678 7) = ((-1))) (r := []) dM_9_50 (fun _ => rfl) (Or.inr rfl) (rTest_iff .ne (sg 678 7) ((-1))) (fun c8 => ?_) (fun c8 => ?_)
  · replace h := h.1 c8
    refine gs0 65 [(0, .inr (.inr (some 678))), (1, .inl y1), (3, .inl y3), (4, .inl y4), (5, .inl y5)] [.inl ((-1))] dM_9_64 (fun _ => rfl) (Or.inr rfl) ?_
    refine gs0 67 [(6, .inl ((-1))), (0, .inr (.inr (some 678))), (1, .inl y1), (3, .inl y3), (4, .inl y4), (5, .inl y5)] [] dM_9_65 (fun _ => rfl) (Or.inr rfl) ?_
    refine gs0 68 [(6, .inl ((-1))), (0, .inr (.inr (some 678))), (1, .inl y1), (3, .inl y3), (4, .inl y4), (5, .inl y5)] [.inr (.inr (some 678))] dM_9_67 (fun _ => rfl) (Or.inr rfl) ?_
    refine gsGetR (some 231) dM_9_68 sk_678 rfl rfl ?_
    refine gs0 72 [(6, .inl ((-1))), (0, .inr (.inr (some 678))), (1, .inl y1), (3, .inl y3), (4, .inl y4), (5, .inl y5)] [.inl y3, .inr (.inr (some 231))] dM_9_71 (fun _ => rfl) (Or.inr rfl) ?_
    refine gs0 74 [(6, .inl ((-1))), (0, .inr (.inr (some 678))), (1, .inl y1), (3, .inl y3), (4, .inl y4), (5, .inl y5)] [.inl y4, .inl y3, .inr (.inr (some 231))] dM_9_72 (fun _ => rfl) (Or.inr rfl) ?_
    refine gs0 76 [(6, .inl ((-1))), (0, .inr (.inr (some 678))), (1, .inl y1), (3, .inl y3), (4, .inl y4), (5, .inl y5)] [.inl ((-1)), .inl y4, .inl y3, .inr (.inr (some 231))] dM_9_74 (fun _ => rfl) (Or.inr rfl) ?_
    refine gsCallV (y := 22) (k := 231) (as := [.inr (.inr (some 231)), .inl y3, .inl y4, .inl ((-1))]) (r := []) dM_9_76 rfl rfl rfl (Nat.le_of_ble_eq_true rfl) sk_231 rfl (Nat.le_of_ble_eq_true rfl) (EvS.up h (Nat.le_of_ble_eq_true rfl)) (fun v9 t10 hv11 => ?_)
    obtain ⟨rfl, hn⟩ := hv11
    clear h
    show GoS _ _ _ _ _ _ _ _ [(6, .inl ((-1))), (0, .inr (.inr (some 678))), (1, .inl y1), (3, .inl y3), (4, .inl y4), (5, .inl y5)] [] t10 _
    refine gs0 80 [(6, .inl ((-1))), (0, .inr (.inr (some 678))), (1, .inl y1), (3, .inl y3), (4, .inl y4), (5, .inl y5)] [.inl y1] dM_9_79 (fun _ => rfl) (Or.inr rfl) ?_
    refine gs0 82 [(6, .inl ((-1))), (0, .inr (.inr (some 678))), (1, .inl y1), (3, .inl y3), (4, .inl y4), (5, .inl y5)] [.inl 38, .inl y1] dM_9_80 (fun _ => rfl) (Or.inr rfl) ?_
    refine gsIf (t := 91) (C := y1 = 38) (r := []) dM_9_82 (fun _ => rfl) (Or.inr rfl) (rTest_iff .eq y1 38) (fun c12 => ?_) (fun c12 => ?_)
    · replace hn := hn.1 c12
      refine gs0 92 [(6, .inl ((-1))), (0, .inr (.inr (some 678))), (1, .inl y1), (3, .inl y3), (4, .inl y4), (5, .inl y5)] [.inl 0] dM_9_91 (fun _ => rfl) (Or.inr rfl) ?_
      refine gs0 96 [(6, .inl ((-1))), (0, .inr (.inr (some 678))), (1, .inl y1), (3, .inl y3), (4, .inl y4), (5, .inl y5)] [.inl 0] dM_9_92 (fun _ => rfl) (Or.inr rfl) ?_
      refine gs0 98 [(7, .inl 0), (6, .inl ((-1))), (0, .inr (.inr (some 678))), (1, .inl y1), (3, .inl y3), (4, .inl y4), (5, .inl y5)] [] dM_9_96 (fun _ => rfl) (Or.inr rfl) ?_
      refine gs0 100 [(7, .inl 0), (6, .inl ((-1))), (0, .inr (.inr (some 678))), (1, .inl y1), (3, .inl y3), (4, .inl y4), (5, .inl y5)] [.inl y5] dM_9_98 (fun _ => rfl) (Or.inr rfl) ?_
      refine gs0 101 [(7, .inl 0), (6, .inl ((-1))), (0, .inr (.inr (some 678))), (1, .inl y1), (3, .inl y3), (4, .inl y4), (5, .inl y5)] [.inl 1, .inl y5] dM_9_100 (fun _ => rfl) (Or.inr rfl) ?_
      refine gs0 102 [(7, .inl 0), (6, .inl ((-1))), (0, .inr (.inr (some 678))), (1, .inl y1), (3, .inl y3), (4, .inl y4), (5, .inl y5)] [.inl (y5 - 1)] dM_9_101 (fun _ => rfl) (Or.inr rfl) ?_
      refine gs0 104 [(8, .inl (y5 - 1)), (7, .inl 0), (6, .inl ((-1))), (0, .inr (.inr (some 678))), (1, .inl y1), (3, .inl y3), (4, .inl y4), (5, .inl y5)] [] dM_9_102 (fun _ => rfl) (Or.inr rfl) ?_
      exact GoS.sub (Lnd_keys (ks := [0, 6, 7, 8]) rfl (by decide)) (Lsub_cons rfl (Lsub_cons rfl (Lsub_cons rfl (Lsub_cons rfl Lsub_nil)))) hn
    · replace hn := hn.2 c12
      refine gs0 86 [(6, .inl ((-1))), (0, .inr (.inr (some 678))), (1, .inl y1), (3, .inl y3), (4, .inl y4), (5, .inl y5)] [.inl y1] dM_9_85 (fun _ => rfl) (Or.inr rfl) ?_
      refine gs0 88 [(6, .inl ((-1))), (0, .inr (.inr (some 678))), (1, .inl y1), (3, .inl y3), (4, .inl y4), (5, .inl y5)] [.inl 124, .inl y1] dM_9_86 (fun _ => rfl) (Or.inr rfl) ?_
      refine gsIf (t := 95) (C := ¬ y1 = 124) (r := []) dM_9_88 (fun _ => rfl) (Or.inr rfl) (rTest_iff .ne y1 124) (fun c13 => ?_) (fun c13 => ?_)
      · replace hn := hn.1 c13
        refine gs0 96 [(6, .inl ((-1))), (0, .inr (.inr (some 678))), (1, .inl y1), (3, .inl y3), (4, .inl y4), (5, .inl y5)] [.inl 1] dM_9_95 (fun _ => rfl) (Or.inr rfl) ?_
        refine gs0 98 [(7, .inl 1), (6, .inl ((-1))), (0, .inr (.inr (some 678))), (1, .inl y1), (3, .inl y3), (4, .inl y4), (5, .inl y5)] [] dM_9_96 (fun _ => rfl) (Or.inr rfl) ?_
        refine gs0 100 [(7, .inl 1), (6, .inl ((-1))), (0, .inr (.inr (some 678))), (1, .inl y1), (3, .inl y3), (4, .inl y4), (5, .inl y5)] [.inl y5] dM_9_98 (fun _ => rfl) (Or.inr rfl) ?_
        refine gs0 101 [(7, .inl 1), (6, .inl ((-1))), (0, .inr (.inr (some 678))), (1, .inl y1), (3, .inl y3), (4, .inl y4), (5, .inl y5)] [.inl 1, .inl y5] dM_9_100 (fun _ => rfl) (Or.inr rfl) ?_
        refine gs0 102 [(7, .inl 1), (6, .inl ((-1))), (0, .inr (.inr (some 678))), (1, .inl y1), (3, .inl y3), (4, .inl y4), (5, .inl y5)] [.inl (y5 - 1)] dM_9_101 (fun _ => rfl) (Or.inr rfl) ?_
        refine gs0 104 [(8, .inl (y5 - 1)), (7, .inl 1), (6, .inl ((-1))), (0, .inr (.inr (some 678))), (1, .inl y1), (3, .inl y3), (4, .inl y4), (5, .inl y5)] [] dM_9_102 (fun _ => rfl) (Or.inr rfl) ?_
        exact GoS.sub (Lnd_keys (ks := [0, 6, 7, 8]) rfl (by decide)) (Lsub_cons rfl (Lsub_cons rfl (Lsub_cons rfl (Lsub_cons rfl Lsub_nil)))) hn
      · replace hn := hn.2 c13
        refine gs0 92 [(6, .inl ((-1))), (0, .inr (.inr (some 678))), (1, .inl y1), (3, .inl y3), (4, .inl y4), (5, .inl y5)] [.inl 0] dM_9_91 (fun _ => rfl) (Or.inr rfl) ?_
        refine gs0 96 [(6, .inl ((-1))), (0, .inr (.inr (some 678))), (1, .inl y1), (3, .inl y3), (4, .inl y4), (5, .inl y5)] [.inl 0] dM_9_92 (fun _ => rfl) (Or.inr rfl) ?_
        refine gs0 98 [(7, .inl 0), (6, .inl ((-1))), (0, .inr (.inr (some 678))), (1, .inl y1), (3, .inl y3), (4, .inl y4), (5, .inl y5)] [] dM_9_96 (fun _ => rfl) (Or.inr rfl) ?_
        refine gs0 100 [(7, .inl 0), (6, .inl ((-1))), (0, .inr (.inr (some 678))), (1, .inl y1), (3, .inl y3), (4, .inl y4), (5, .inl y5)] [.inl y5] dM_9_98 (fun _ => rfl) (Or.inr rfl) ?_
        refine gs0 101 [(7, .inl 0), (6, .inl ((-1))), (0, .inr (.inr (some 678))), (1, .inl y1), (3, .inl y3), (4, .inl y4), (5, .inl y5)] [.inl 1, .inl y5] dM_9_100 (fun _ => rfl) (Or.inr rfl) ?_
        refine gs0 102 [(7, .inl 0), (6, .inl ((-1))), (0, .inr (.inr (some 678))), (1, .inl y1), (3, .inl y3), (4, .inl y4), (5, .inl y5)] [.inl (y5 - 1)] dM_9_101 (fun _ => rfl) (Or.inr rfl) ?_
        refine gs0 104 [(8, .inl (y5 - 1)), (7, .inl 0), (6, .inl ((-1))), (0, .inr (.inr (some 678))), (1, .inl y1), (3, .inl y3), (4, .inl y4), (5, .inl y5)] [] dM_9_102 (fun _ => rfl) (Or.inr rfl) ?_
        exact GoS.sub (Lnd_keys (ks := [0, 6, 7, 8]) rfl (by decide)) (Lsub_cons rfl (Lsub_cons rfl (Lsub_cons rfl (Lsub_cons rfl Lsub_nil)))) hn
  · replace h := h.2 c8
    refine gs0 54 [(0, .inr (.inr (some 678))), (1, .inl y1), (3, .inl y3), (4, .inl y4), (5, .inl y5)] [.inr (.inr (some 678))] dM_9_53 (fun _ => rfl) (Or.inr rfl) ?_
    refine gsGetR (some 231) dM_9_54 sk_678 rfl rfl ?_
    refine gs0 58 [(0, .inr (.inr (some 678))), (1, .inl y1), (3, .inl y3), (4, .inl y4), (5, .inl y5)] [.inl y1, .inr (.inr (some 231))] dM_9_57 (fun _ => rfl) (Or.inr rfl) ?_
    refine gsCallV (y := 21) (k := 231) (as := [.inr (.inr (some 231)), .inl y1]) (r := []) dM_9_58 rfl rfl rfl (Nat.le_of_ble_eq_true rfl) sk_231 rfl (Nat.le_of_ble_eq_true rfl) (EvS.up h (Nat.le_of_ble_eq_true rfl)) (fun v14 t15 hv16 => ?_)
    obtain ⟨n17, rfl, hn⟩ := hv16
    clear h
    show GoS _ _ _ _ _ _ _ _ [(0, .inr (.inr (some 678))), (1, .inl y1), (3, .inl y3), (4, .inl y4), (5, .inl y5)] [.inl n17] t15 _
    refine gs0 65 [(0, .inr (.inr (some 678))), (1, .inl y1), (3, .inl y3), (4, .inl y4), (5, .inl y5)] [.inl n17] dM_9_61 (fun _ => rfl) (Or.inr rfl) ?_
    refine gs0 67 [(6, .inl n17), (0, .inr (.inr (some 678))), (1, .inl y1), (3, .inl y3), (4, .inl y4), (5, .inl y5)] [] dM_9_65 (fun _ => rfl) (Or.inr rfl) ?_
    refine gs0 68 [(6, .inl n17), (0, .inr (.inr (some 678))), (1, .inl y1), (3, .inl y3), (4, .inl y4), (5, .inl y5)] [.inr (.inr (some 678))] dM_9_67 (fun _ => rfl) (Or.inr rfl) ?_
    refine gsGetR (some 231) dM_9_68 sk_678 rfl rfl ?_
    refine gs0 72 [(6, .inl n17), (0, .inr (.inr (some 678))), (1, .inl y1), (3, .inl y3), (4, .inl y4), (5, .inl y5)] [.inl y3, .inr (.inr (some 231))] dM_9_71 (fun _ => rfl) (Or.inr rfl) ?_
    refine gs0 74 [(6, .inl n17), (0, .inr (.inr (some 678))), (1, .inl y1), (3, .inl y3), (4, .inl y4), (5, .inl y5)] [.inl y4, .inl y3, .inr (.inr (some 231))] dM_9_72 (fun _ => rfl) (Or.inr rfl) ?_
    refine gs0 76 [(6, .inl n17), (0, .inr (.inr (some 678))), (1, .inl y1), (3, .inl y3), (4, .inl y4), (5, .inl y5)] [.inl n17, .inl y4, .inl y3, .inr (.inr (some 231))] dM_9_74 (fun _ => rfl) (Or.inr rfl) ?_
    refine gsCallV (y := 22) (k := 231) (as := [.inr (.inr (some 231)), .inl y3, .inl y4, .inl n17]) (r := []) dM_9_76 rfl rfl rfl (Nat.le_of_ble_eq_true rfl) sk_231 rfl (Nat.le_of_ble_eq_true rfl) (EvS.up hn (Nat.le_of_ble_eq_true rfl)) (fun v18 t19 hv20 => ?_)
    obtain ⟨rfl, hnn⟩ := hv20
    clear hn
    show GoS _ _ _ _ _ _ _ _ [(6, .inl n17), (0, .inr (.inr (some 678))), (1, .inl y1), (3, .inl y3), (4, .inl y4), (5, .inl y5)] [] t19 _
    refine gs0 80 [(6, .inl n17), (0, .inr (.inr (some 678))), (1, .inl y1), (3, .inl y3), (4, .inl y4), (5, .inl y5)] [.inl y1] dM_9_79 (fun _ => rfl) (Or.inr rfl) ?_
    refine gs0 82 [(6, .inl n17), (0, .inr (.inr (some 678))), (1, .inl y1), (3, .inl y3), (4, .inl y4), (5, .inl y5)] [.inl 38, .inl y1] dM_9_80 (fun _ => rfl) (Or.inr rfl) ?_
    refine gsIf (t := 91) (C := y1 = 38) (r := []) dM_9_82 (fun _ => rfl) (Or.inr rfl) (rTest_iff .eq y1 38) (fun c21 => ?_) (fun c21 => ?_)
    · replace hnn := hnn.1 c21
      refine gs0 92 [(6, .inl n17), (0, .inr (.inr (some 678))), (1, .inl y1), (3, .inl y3), (4, .inl y4), (5, .inl y5)] [.inl 0] dM_9_91 (fun _ => rfl) (Or.inr rfl) ?_
      refine gs0 96 [(6, .inl n17), (0, .inr (.inr (some 678))), (1, .inl y1), (3, .inl y3), (4, .inl y4), (5, .inl y5)] [.inl 0] dM_9_92 (fun _ => rfl) (Or.inr rfl) ?_
      refine gs0 98 [(7, .inl 0), (6, .inl n17), (0, .inr (.inr (some 678))), (1, .inl y1), (3, .inl y3), (4, .inl y4), (5, .inl y5)] [] dM_9_96 (fun _ => rfl) (Or.inr rfl) ?_
      refine gs0 100 [(7, .inl 0), (6, .inl n17), (0, .inr (.inr (some 678))), (1, .inl y1), (3, .inl y3), (4, .inl y4), (5, .inl y5)] [.inl y5] dM_9_98 (fun _ => rfl) (Or.inr rfl) ?_
      refine gs0 101 [(7, .inl 0), (6, .inl n17), (0, .inr (.inr (some 678))), (1, .inl y1), (3, .inl y3), (4, .inl y4), (5, .inl y5)] [.inl 1, .inl y5] dM_9_100 (fun _ => rfl) (Or.inr rfl) ?_
      refine gs0 102 [(7, .inl 0), (6, .inl n17), (0, .inr (.inr (some 678))), (1, .inl y1), (3, .inl y3), (4, .inl y4), (5, .inl y5)] [.inl (y5 - 1)] dM_9_101 (fun _ => rfl) (Or.inr rfl) ?_
      refine gs0 104 [(8, .inl (y5 - 1)), (7, .inl 0), (6, .inl n17), (0, .inr (.inr (some 678))), (1, .inl y1), (3, .inl y3), (4, .inl y4), (5, .inl y5)] [] dM_9_102 (fun _ => rfl) (Or.inr rfl) ?_
      exact GoS.sub (Lnd_keys (ks := [0, 6, 7, 8]) rfl (by decide)) (Lsub_cons rfl (Lsub_cons rfl (Lsub_cons rfl (Lsub_cons rfl Lsub_nil)))) hnn
    · replace hnn := hnn.2 c21
      refine gs0 86 [(6, .inl n17), (0, .inr (.inr (some 678))), (1, .inl y1), (3, .inl y3), (4, .inl y4), (5, .inl y5)] [.inl y1] dM_9_85 (fun _ => rfl) (Or.inr rfl) ?_
      refine gs0 88 [(6, .inl n17), (0, .inr (.inr (some 678))), (1, .inl y1), (3, .inl y3), (4, .inl y4), (5, .inl y5)] [.inl 124, .inl y1] dM_9_86 (fun _ => rfl) (Or.inr rfl) ?_
      refine gsIf (t := 95) (C := ¬ y1 = 124) (r := []) dM_9_88 (fun _ => rfl) (Or.inr rfl) (rTest_iff .ne y1 124) (fun c22 => ?_) (fun c22 => ?_)
      · replace hnn := hnn.1 c22
        refine gs0 96 [(6, .inl n17), (0, .inr (.inr (some 678))), (1, .inl y1), (3, .inl y3), (4, .inl y4), (5, .inl y5)] [.inl 1] dM_9_95 (fun _ => rfl) (Or.inr rfl) ?_
        refine gs0 98 [(7, .inl 1), (6, .inl n17), (0, .inr (.inr (some 678))), (1, .inl y1), (3, .inl y3), (4, .inl y4), (5, .inl y5)] [] dM_9_96 (fun _ => rfl) (Or.inr rfl) ?_
        refine gs0 100 [(7, .inl 1), (6, .inl n17), (0, .inr (.inr (some 678))), (1, .inl y1), (3, .inl y3), (4, .inl y4), (5, .inl y5)] [.inl y5] dM_9_98 (fun _ => rfl) (Or.inr rfl) ?_
        refine gs0 101 [(7, .inl 1), (6, .inl n17), (0, .inr (.inr (some 678))), (1, .inl y1), (3, .inl y3), (4, .inl y4), (5, .inl y5)] [.inl 1, .inl y5] dM_9_100 (fun _ => rfl) (Or.inr rfl) ?_
        refine gs0 102 [(7, .inl 1), (6, .inl n17), (0, .inr (.inr (some 678))), (1, .inl y1), (3, .inl y3), (4, .inl y4), (5, .inl y5)] [.inl (y5 - 1)] dM_9_101 (fun _ => rfl) (Or.inr rfl) ?_
        refine gs0 104 [(8, .inl (y5 - 1)), (7, .inl 1), (6, .inl n17), (0, .inr (.inr (some 678))), (1, .inl y1), (3, .inl y3), (4, .inl y4), (5, .inl y5)] [] dM_9_102 (fun _ => rfl) (Or.inr rfl) ?_
        exact GoS.sub (Lnd_keys (ks := [0, 6, 7, 8]) rfl (by decide)) (Lsub_cons rfl (Lsub_cons rfl (Lsub_cons rfl (Lsub_cons rfl Lsub_nil)))) hnn
      · replace hnn := hnn.2 c22
        refine gs0 92 [(6, .inl n17), (0, .inr (.inr (some 678))), (1, .inl y1), (3, .inl y3), (4, .inl y4), (5, .inl y5)] [.inl 0] dM_9_91 (fun _ => rfl) (Or.inr rfl) ?_
        refine gs0 96 [(6, .inl n17), (0, .inr (.inr (some 678))), (1, .inl y1), (3, .inl y3), (4, .inl y4), (5, .inl y5)] [.inl 0] dM_9_92 (fun _ => rfl) (Or.inr rfl) ?_
        refine gs0 98 [(7, .inl 0), (6, .inl n17), (0, .inr (.inr (some 678))), (1, .inl y1), (3, .inl y3), (4, .inl y4), (5, .inl y5)] [] dM_9_96 (fun _ => rfl) (Or.inr rfl) ?_
        refine gs0 100 [(7, .inl 0), (6, .inl n17), (0, .inr (.inr (some 678))), (1, .inl y1), (3, .inl y3), (4, .inl y4), (5, .inl y5)] [.inl y5] dM_9_98 (fun _ => rfl) (Or.inr rfl) ?_
        refine gs0 101 [(7, .inl 0), (6, .inl n17), (0, .inr (.inr (some 678))), (1, .inl y1), (3, .inl y3), (4, .inl y4), (5, .inl y5)] [.inl 1, .inl y5] dM_9_100 (fun _ => rfl) (Or.inr rfl) ?_
        refine gs0 102 [(7, .inl 0), (6, .inl n17), (0, .inr (.inr (some 678))), (1, .inl y1), (3, .inl y3), (4, .inl y4), (5, .inl y5)] [.inl (y5 - 1)] dM_9_101 (fun _ => rfl) (Or.inr rfl) ?_
        refine gs0 104 [(8, .inl (y5 - 1)), (7, .inl 0), (6, .inl n17), (0, .inr (.inr (some 678))), (1, .inl y1), (3, .inl y3), (4, .inl y4), (5, .inl y5)] [] dM_9_102 (fun _ => rfl) (Or.inr rfl) ?_
        exact GoS.sub (Lnd_keys (ks := [0, 6, 7, 8]) rfl (by decide)) (Lsub_cons rfl (Lsub_cons rfl (Lsub_cons rfl (Lsub_cons rfl Lsub_nil)))) hnn
set_option maxRecDepth 100000 in
theorem w_9_104 (sg : rSg)  (y6 : Int32) (y7 : Int32) (y8 : Int32) {P : Option rv → rSg → Prop} (h :
    (y8 < 0 → 
      P (some (.inl 1)) sg) ∧
    (¬ (y8 < 0) → 
      EvS rSkel 1 7 [.inr (.inr (some 678)), .inl y7, .inl y6, .inl y8] sg (fun v24 t25 => v24 = none ∧
        g_9_104 y6 y7 (y8 + (-1)) t25 P))) : g_9_104 y6 y7 y8 sg P := by
  show GoS rSkel 1 1 9 (some .boolean) false prog_3_method_6_code 104 [(0, .inr (.inr (some 678))), (6, .inl y6), (7, .inl y7), (8, .inl y8)] [] sg P
  refine gs0 106 [(0, .inr (.inr (some 678))), (6, .inl y6), (7, .inl y7), (8, .inl y8)] [.inl y8] dM_9_104 (fun _ => rfl) (Or.inr rfl) ?_
  refine gsIf (t := 125) (C := y8 < 0) (r := []) dM_9_106 (fun _ => rfl) (Or.inr rfl) (rTest_iff .lt y8 0) (fun c23 => ?_) (fun c23 => ?_)
  · replace h := h.1 c23
    refine gs0 126 [(0, .inr (.inr (some 678))), (6, .inl y6), (7, .inl y7), (8, .inl y8)] [.inl 1] dM_9_125 (fun _ => rfl) (Or.inr rfl) ?_
    refine gsRet (r := some (.inl 1)) dM_9_126 (fun _ => rfl) (Or.inr rfl) ?_
    exact h
  · replace h := h.2 c23
    refine gs0 110 [(0, .inr (.inr (some 678))), (6, .inl y6), (7, .inl y7), (8, .inl y8)] [.inr (.inr (some 678))] dM_9_109 (fun _ => rfl) (Or.inr rfl) ?_
    refine gs0 112 [(0, .inr (.inr (some 678))), (6, .inl y6), (7, .inl y7), (8, .inl y8)] [.inl y7, .inr (.inr (some 678))] dM_9_110 (fun _ => rfl) (Or.inr rfl) ?_
    refine gs0 114 [(0, .inr (.inr (some 678))), (6, .inl y6), (7, .inl y7), (8, .inl y8)] [.inl y6, .inl y7, .inr (.inr (some 678))] dM_9_112 (fun _ => rfl) (Or.inr rfl) ?_
    refine gs0 116 [(0, .inr (.inr (some 678))), (6, .inl y6), (7, .inl y7), (8, .inl y8)] [.inl y8, .inl y6, .inl y7, .inr (.inr (some 678))] dM_9_114 (fun _ => rfl) (Or.inr rfl) ?_
    refine gsCallV (y := 7) (k := 678) (as := [.inr (.inr (some 678)), .inl y7, .inl y6, .inl y8]) (r := []) dM_9_116 rfl rfl rfl (Nat.le_of_ble_eq_true rfl) sk_678 rfl (Nat.le_of_ble_eq_true rfl) (EvS.up h (Nat.le_of_ble_eq_true rfl)) (fun v24 t25 hv26 => ?_)
    obtain ⟨rfl, hn⟩ := hv26
    clear h
    show GoS _ _ _ _ _ _ _ _ [(0, .inr (.inr (some 678))), (6, .inl y6), (7, .inl y7), (8, .inl y8)] [] t25 _
    refine gs0 122 [(8, .inl (y8 + (-1))), (0, .inr (.inr (some 678))), (6, .inl y6), (7, .inl y7)] [] dM_9_119 (fun _ => rfl) (Or.inr rfl) ?_
    refine gs0 104 [(8, .inl (y8 + (-1))), (0, .inr (.inr (some 678))), (6, .inl y6), (7, .inl y7)] [] dM_9_122 (fun _ => rfl) (Or.inr rfl) ?_
    exact GoS.sub (Lnd_keys (ks := [0, 6, 7, 8]) rfl (by decide)) (Lsub_cons rfl (Lsub_cons rfl (Lsub_cons rfl (Lsub_cons rfl Lsub_nil)))) hn
set_option maxRecDepth 100000 in
/-- GoalsInAQueue$Reader.takesGoal -/
theorem w_9 (sg : rSg) (x1 : Int32) (x2 : Int32) (x3 : Int32) (x4 : Int32) {P : Option rv → rSg → Prop} (h :
    EvS rSkel 1 10 [.inl x1] sg (fun v1 t2 => ∃ n4, v1 = some (.inl n4) ∧
      (0 ≤ n4 → 
        (((t2 678 5) + 1) ≤ 24 → 
          g_9_45 x1 x3 x4 n4 (up2 t2 678 5 ((t2 678 5) + 1)) P) ∧
        (¬ (((t2 678 5) + 1) ≤ 24) → 
          (¬ (t2 678 7) = ((-1)) → 
            g_9_45 x1 x3 x4 n4 (up2 t2 678 5 ((t2 678 5) + 1)) P) ∧
          (¬ (¬ (t2 678 7) = ((-1))) → 
            g_9_45 x1 x3 x4 n4 (up2 (up2 t2 678 5 ((t2 678 5) + 1)) 678 7 x2) P))) ∧
      (¬ (0 ≤ n4) → 
        P (some (.inl 0)) t2))) : EvS rSkel 2 9 [.inr (.inr (some 678)), .inl x1, .inl x2, .inl x3, .inl x4] sg P := by
  refine EvS.of (ini := false) rfl ⟨rfl, Nat.le_of_ble_eq_true rfl⟩ rfl ?_
  show GoS rSkel 1 1 9 (some .boolean) false prog_3_method_6_code 0 [(0, .inr (.inr (some 678))), (1, .inl x1), (2, .inl x2), (3, .inl x3), (4, .inl x4)] [] sg _
  refine gs0 1 [(0, .inr (.inr (some 678))), (1, .inl x1), (2, .inl x2), (3, .inl x3), (4, .inl x4)] [.inl x1] dM_9_0 (fun _ => rfl) (Or.inr rfl) ?_
  refine gsCallS (y := 10) (as := [.inl x1]) (r := []) dM_9_1 rfl (Or.inl rfl) rfl rfl (Nat.le_of_ble_eq_true rfl) (EvS.up h (Nat.le_of_ble_eq_true rfl)) (fun v1 t2 hv3 => ?_)
  obtain ⟨n4, rfl, hn⟩ := hv3
  clear h
  show GoS _ _ _ _ _ _ _ _ [(0, .inr (.inr (some 678))), (1, .inl x1), (2, .inl x2), (3, .inl x3), (4, .inl x4)] [.inl n4] t2 _
  refine gs0 6 [(5, .inl n4), (0, .inr (.inr (some 678))), (1, .inl x1), (2, .inl x2), (3, .inl x3), (4, .inl x4)] [] dM_9_4 (fun _ => rfl) (Or.inr rfl) ?_
  refine gs0 8 [(5, .inl n4), (0, .inr (.inr (some 678))), (1, .inl x1), (2, .inl x2), (3, .inl x3), (4, .inl x4)] [.inl n4] dM_9_6 (fun _ => rfl) (Or.inr rfl) ?_
  refine gsIf (t := 13) (C := 0 ≤ n4) (r := []) dM_9_8 (fun _ => rfl) (Or.inr rfl) (rTest_iff .ge n4 0) (fun c5 => ?_) (fun c5 => ?_)
  · replace hn := hn.1 c5
    refine gs0 14 [(5, .inl n4), (0, .inr (.inr (some 678))), (1, .inl x1), (2, .inl x2), (3, .inl x3), (4, .inl x4)] [.inr (.inr (some 678))] dM_9_13 (fun _ => rfl) (Or.inr rfl) ?_
    refine gs0 15 [(5, .inl n4), (0, .inr (.inr (some 678))), (1, .inl x1), (2, .inl x2), (3, .inl x3), (4, .inl x4)] [.inr (.inr (some 678)), .inr (.inr (some 678))] dM_9_14 (fun _ => rfl) (Or.inr rfl) ?_
    refine gsGetE (t2 678 5) dM_9_15 sk_678 rfl rfl rfl ?_
    refine gs0 19 [(5, .inl n4), (0, .inr (.inr (some 678))), (1, .inl x1), (2, .inl x2), (3, .inl x3), (4, .inl x4)] [.inl 1, .inl (t2 678 5), .inr (.inr (some 678))] dM_9_18 (fun _ => rfl) (Or.inr rfl) ?_
    refine gs0 20 [(5, .inl n4), (0, .inr (.inr (some 678))), (1, .inl x1), (2, .inl x2), (3, .inl x3), (4, .inl x4)] [.inl ((t2 678 5) + 1), .inr (.inr (some 678))] dM_9_19 (fun _ => rfl) (Or.inr rfl) ?_
    refine gsPut dM_9_20 sk_678 rfl rfl rfl (by decide) ?_
    refine gs0 24 [(5, .inl n4), (0, .inr (.inr (some 678))), (1, .inl x1), (2, .inl x2), (3, .inl x3), (4, .inl x4)] [.inr (.inr (some 678))] dM_9_23 (fun _ => rfl) (Or.inr rfl) ?_
    refine gsGetE ((t2 678 5) + 1) dM_9_24 sk_678 rfl rfl (up2_same _ _ _ _) ?_
    refine gs0 29 [(5, .inl n4), (0, .inr (.inr (some 678))), (1, .inl x1), (2, .inl x2), (3, .inl x3), (4, .inl x4)] [.inl 24, .inl ((t2 678 5) + 1)] dM_9_27 (fun _ => rfl) (Or.inr rfl) ?_
    refine gsIf (t := 45) (C := ((t2 678 5) + 1) ≤ 24) (r := []) dM_9_29 (fun _ => rfl) (Or.inr rfl) (rTest_iff .le ((t2 678 5) + 1) 24) (fun c6 => ?_) (fun c6 => ?_)
    · replace hn := hn.1 c6
      exact GoS.sub (Lnd_keys (ks := [0, 1, 3, 4, 5]) rfl (by decide)) (Lsub_cons rfl (Lsub_cons rfl (Lsub_cons rfl (Lsub_cons rfl (Lsub_cons rfl Lsub_nil))))) hn
    · replace hn := hn.2 c6
      refine gs0 33 [(5, .inl n4), (0, .inr (.inr (some 678))), (1, .inl x1), (2, .inl x2), (3, .inl x3), (4, .inl x4)] [.inr (.inr (some 678))] dM_9_32 (fun _ => rfl) (Or.inr rfl) ?_
      refine gsGetE (t2 678 7) dM_9_33 sk_678 rfl rfl (up2_nj _ _ _ (by decide)) ?_
      refine gs0 37 [(5, .inl n4), (0, .inr (.inr (some 678))), (1, .inl x1), (2, .inl x2), (3, .inl x3), (4, .inl x4)] [.inl ((-1)), .inl (t2 678 7)] dM_9_36 (fun _ => rfl) (Or.inr rfl) ?_
      refine gsIf (t := 45) (C := ¬ (t2 678 7) = ((-1))) (r := []) dM_9_37 (fun _ => rfl) (Or.inr rfl) (rTest_iff .ne (t2 678 7) ((-1))) (fun c7 => ?_) (fun c7 => ?_)
      · replace hn := hn.1 c7
        exact GoS.sub (Lnd_keys (ks := [0, 1, 3, 4, 5]) rfl (by decide)) (Lsub_cons rfl (Lsub_cons rfl (Lsub_cons rfl (Lsub_cons rfl (Lsub_cons rfl Lsub_nil))))) hn
      · replace hn := hn.2 c7
        refine gs0 41 [(5, .inl n4), (0, .inr (.inr (some 678))), (1, .inl x1), (2, .inl x2), (3, .inl x3), (4, .inl x4)] [.inr (.inr (some 678))] dM_9_40 (fun _ => rfl) (Or.inr rfl) ?_
        refine gs0 42 [(5, .inl n4), (0, .inr (.inr (some 678))), (1, .inl x1), (2, .inl x2), (3, .inl x3), (4, .inl x4)] [.inl x2, .inr (.inr (some 678))] dM_9_41 (fun _ => rfl) (Or.inr rfl) ?_
        refine gsPut dM_9_42 sk_678 rfl rfl rfl (by decide) ?_
        exact GoS.sub (Lnd_keys (ks := [0, 1, 3, 4, 5]) rfl (by decide)) (Lsub_cons rfl (Lsub_cons rfl (Lsub_cons rfl (Lsub_cons rfl (Lsub_cons rfl Lsub_nil))))) hn
  · replace hn := hn.2 c5
    refine gs0 12 [(5, .inl n4), (0, .inr (.inr (some 678))), (1, .inl x1), (2, .inl x2), (3, .inl x3), (4, .inl x4)] [.inl 0] dM_9_11 (fun _ => rfl) (Or.inr rfl) ?_
    refine gsRet (r := some (.inl 0)) dM_9_12 (fun _ => rfl) (Or.inr rfl) ?_
    exact hn
set_option maxRecDepth 100000 in
/-- GoalsInAQueue$Reader.partsOf -/
theorem w_10 (sg : rSg) (x0 : Int32) {P : Option rv → rSg → Prop} (h :
    (x0 = 33 → 
      P (some (.inl 0)) sg) ∧
    (x0 = 35 → 
      P (some (.inl 2)) sg) ∧
    (x0 = 38 → 
      P (some (.inl 2)) sg) ∧
    (x0 = 42 → 
      P (some (.inl 0)) sg) ∧
    (x0 = 61 → 
      P (some (.inl 2)) sg) ∧
    (x0 = 65 → 
      P (some (.inl 3)) sg) ∧
    (x0 = 77 → 
      P (some (.inl 2)) sg) ∧
    (x0 = 124 → 
      P (some (.inl 2)) sg) ∧
    (¬ x0 = 33 ∧ ¬ x0 = 35 ∧ ¬ x0 = 38 ∧ ¬ x0 = 42 ∧ ¬ x0 = 61 ∧ ¬ x0 = 65 ∧ ¬ x0 = 77 ∧ ¬ x0 = 124 →
      P (some (.inl ((-1)))) sg)) : EvS rSkel 1 10 [.inl x0] sg P := by
  refine EvS.of (ini := false) rfl ⟨rfl, Nat.le_of_ble_eq_true rfl⟩ rfl ?_
  show GoS rSkel 0 1 1 (some .int) false prog_3_method_8_code 0 [(0, .inl x0)] [] sg _
  refine gs0 1 [(0, .inl x0)] [.inl x0] dM_10_0 (fun _ => rfl) (Or.inr rfl) ?_
  by_cases c1_33 : x0 = 33
  · replace h := h.1 c1_33
    refine gs0 80 [(0, .inl x0)] [] dM_10_1 (fun _ => by rw [c1_33]; rfl) (Or.inl rfl) ?_
    refine gs0 81 [(0, .inl x0)] [.inl 0] dM_10_80 (fun _ => rfl) (Or.inr rfl) ?_
    refine gsRet (r := some (.inl 0)) dM_10_81 (fun _ => rfl) (Or.inr rfl) ?_
    exact h
  replace h := h.2
  by_cases c1_35 : x0 = 35
  · replace h := h.1 c1_35
    refine gs0 76 [(0, .inl x0)] [] dM_10_1 (fun _ => by rw [c1_35]; rfl) (Or.inl rfl) ?_
    refine gs0 77 [(0, .inl x0)] [.inl 2] dM_10_76 (fun _ => rfl) (Or.inr rfl) ?_
    refine gsRet (r := some (.inl 2)) dM_10_77 (fun _ => rfl) (Or.inr rfl) ?_
    exact h
  replace h := h.2
  by_cases c1_38 : x0 = 38
  · replace h := h.1 c1_38
    refine gs0 76 [(0, .inl x0)] [] dM_10_1 (fun _ => by rw [c1_38]; rfl) (Or.inl rfl) ?_
    refine gs0 77 [(0, .inl x0)] [.inl 2] dM_10_76 (fun _ => rfl) (Or.inr rfl) ?_
    refine gsRet (r := some (.inl 2)) dM_10_77 (fun _ => rfl) (Or.inr rfl) ?_
    exact h
  replace h := h.2
  by_cases c1_42 : x0 = 42
  · replace h := h.1 c1_42
    refine gs0 80 [(0, .inl x0)] [] dM_10_1 (fun _ => by rw [c1_42]; rfl) (Or.inl rfl) ?_
    refine gs0 81 [(0, .inl x0)] [.inl 0] dM_10_80 (fun _ => rfl) (Or.inr rfl) ?_
    refine gsRet (r := some (.inl 0)) dM_10_81 (fun _ => rfl) (Or.inr rfl) ?_
    exact h
  replace h := h.2
  by_cases c1_61 : x0 = 61
  · replace h := h.1 c1_61
    refine gs0 76 [(0, .inl x0)] [] dM_10_1 (fun _ => by rw [c1_61]; rfl) (Or.inl rfl) ?_
    refine gs0 77 [(0, .inl x0)] [.inl 2] dM_10_76 (fun _ => rfl) (Or.inr rfl) ?_
    refine gsRet (r := some (.inl 2)) dM_10_77 (fun _ => rfl) (Or.inr rfl) ?_
    exact h
  replace h := h.2
  by_cases c1_65 : x0 = 65
  · replace h := h.1 c1_65
    refine gs0 78 [(0, .inl x0)] [] dM_10_1 (fun _ => by rw [c1_65]; rfl) (Or.inl rfl) ?_
    refine gs0 79 [(0, .inl x0)] [.inl 3] dM_10_78 (fun _ => rfl) (Or.inr rfl) ?_
    refine gsRet (r := some (.inl 3)) dM_10_79 (fun _ => rfl) (Or.inr rfl) ?_
    exact h
  replace h := h.2
  by_cases c1_77 : x0 = 77
  · replace h := h.1 c1_77
    refine gs0 76 [(0, .inl x0)] [] dM_10_1 (fun _ => by rw [c1_77]; rfl) (Or.inl rfl) ?_
    refine gs0 77 [(0, .inl x0)] [.inl 2] dM_10_76 (fun _ => rfl) (Or.inr rfl) ?_
    refine gsRet (r := some (.inl 2)) dM_10_77 (fun _ => rfl) (Or.inr rfl) ?_
    exact h
  replace h := h.2
  by_cases c1_124 : x0 = 124
  · replace h := h.1 c1_124
    refine gs0 76 [(0, .inl x0)] [] dM_10_1 (fun _ => by rw [c1_124]; rfl) (Or.inl rfl) ?_
    refine gs0 77 [(0, .inl x0)] [.inl 2] dM_10_76 (fun _ => rfl) (Or.inr rfl) ?_
    refine gsRet (r := some (.inl 2)) dM_10_77 (fun _ => rfl) (Or.inr rfl) ?_
    exact h
  replace h := h.2
  replace h := h ⟨c1_33, c1_35, c1_38, c1_42, c1_61, c1_65, c1_77, c1_124⟩
  have ec1_33 := i32_ne c1_33 (show (33 : Int32).toInt = 33 by decide)
  have ec1_35 := i32_ne c1_35 (show (35 : Int32).toInt = 35 by decide)
  have ec1_38 := i32_ne c1_38 (show (38 : Int32).toInt = 38 by decide)
  have ec1_42 := i32_ne c1_42 (show (42 : Int32).toInt = 42 by decide)
  have ec1_61 := i32_ne c1_61 (show (61 : Int32).toInt = 61 by decide)
  have ec1_65 := i32_ne c1_65 (show (65 : Int32).toInt = 65 by decide)
  have ec1_77 := i32_ne c1_77 (show (77 : Int32).toInt = 77 by decide)
  have ec1_124 := i32_ne c1_124 (show (124 : Int32).toInt = 124 by decide)
  refine gs0 82 [(0, .inl x0)] [] dM_10_1 (fun _ => swL_out (by decide) (by simp [Op.lookupswitch.offset, Ne.symm ec1_33, Ne.symm ec1_35, Ne.symm ec1_38, Ne.symm ec1_42, Ne.symm ec1_61, Ne.symm ec1_65, Ne.symm ec1_77, Ne.symm ec1_124]) rfl) (Or.inl rfl) ?_
  refine gs0 83 [(0, .inl x0)] [.inl ((-1))] dM_10_82 (fun _ => rfl) (Or.inr rfl) ?_
  refine gsRet (r := some (.inl ((-1)))) dM_10_83 (fun _ => rfl) (Or.inr rfl) ?_
  exact h
def g_11_52  (y1 : Int32) (y3 : Int32) (y4 : Int32) (y5 : Int32) (sg : rSg) (P : Option rv → rSg → Prop) : Prop := GoS rSkel 1 1 6 (some .boolean) false prog_3_method_7_code 52 [(0, .inr (.inr (some 678))), (1, .inl y1), (3, .inl y3), (4, .inl y4), (5, .inl y5)] [] sg P
set_option maxRecDepth 100000 in
theorem w_11_52 (sg : rSg)  (y1 : Int32) (y3 : Int32) (y4 : Int32) (y5 : Int32) {P : Option rv → rSg → Prop} (h :
    (¬ y1 = 40 → 
      EvS rSkel 1 74 [.inl y3] sg (fun v12 t13 => ∃ n15, v12 = some (.inl n15) ∧
        (n15 = 0 → 
          EvS rSkel 1 22 [.inr (.inr (some 231)), .inl y3, .inl y4, .inl y5] t13 (fun v17 t18 => v17 = none ∧
            P (some (.inl 1)) t18)) ∧
        (¬ (n15 = 0) → 
          EvS rSkel 1 24 [.inr (.inr (some 231)), .inl y3, .inl y4, .inl y5] t13 (fun v20 t21 => v20 = none ∧
            P (some (.inl 1)) t21)))) ∧
    (¬ (¬ y1 = 40) → 
      (¬ (sg 678 7) = ((-1)) → 
        EvS rSkel 1 7 [.inr (.inr (some 678)), .inl 2, .inl ((-1)), .inl 0] sg (fun v24 t25 => v24 = none ∧
          EvS rSkel 1 7 [.inr (.inr (some 678)), .inl 1, .inl ((-1)), .inl 1] t25 (fun v27 t28 => v27 = none ∧
            EvS rSkel 1 7 [.inr (.inr (some 678)), .inl 1, .inl ((-1)), .inl 0] t28 (fun v30 t31 => v30 = none ∧
              EvS rSkel 1 74 [.inl y3] t31 (fun v33 t34 => ∃ n36, v33 = some (.inl n36) ∧
                (n36 = 0 → 
                  EvS rSkel 1 22 [.inr (.inr (some 231)), .inl y3, .inl y4, .inl ((-1))] t34 (fun v38 t39 => v38 = none ∧
                    P (some (.inl 1)) t39)) ∧
                (¬ (n36 = 0) → 
                  EvS rSkel 1 24 [.inr (.inr (some 231)), .inl y3, .inl y4, .inl ((-1))] t34 (fun v41 t42 => v41 = none ∧
                    P (some (.inl 1)) t42))))))) ∧
      (¬ (¬ (sg 678 7) = ((-1))) → 
        EvS rSkel 1 23 [.inr (.inr (some 231)), .inl 138, .inl 138] sg (fun v44 t45 => ∃ n47, v44 = some (.inl n47) ∧
          EvS rSkel 1 7 [.inr (.inr (some 678)), .inl 2, .inl ((-1)), .inl 0] t45 (fun v48 t49 => v48 = none ∧
            EvS rSkel 1 7 [.inr (.inr (some 678)), .inl 1, .inl n47, .inl 1] t49 (fun v51 t52 => v51 = none ∧
              EvS rSkel 1 7 [.inr (.inr (some 678)), .inl 1, .inl n47, .inl 0] t52 (fun v54 t55 => v54 = none ∧
                EvS rSkel 1 74 [.inl y3] t55 (fun v57 t58 => ∃ n60, v57 = some (.inl n60) ∧
                  (n60 = 0 → 
                    EvS rSkel 1 22 [.inr (.inr (some 231)), .inl y3, .inl y4, .inl n47] t58 (fun v62 t63 => v62 = none ∧
                      P (some (.inl 1)) t63)) ∧
                  (¬ (n60 = 0) → 
                    EvS rSkel 1 24 [.inr (.inr (some 231)), .inl y3, .inl y4, .inl n47] t58 (fun v65 t66 => v65 = none ∧
                      P (some (.inl 1)) t66)))))))))) : g_11_52 y1 y3 y4 y5 sg P := by
  show GoS rSkel 1 1 6 (some .boolean) false prog_3_method_7_code 52 [(0, .inr (.inr (some 678))), (1, .inl y1), (3, .inl y3), (4, .inl y4), (5, .inl y5)] [] sg P
  refine gs0 53 [(0, .inr (.inr (some 678))), (1, .inl y1), (3, .inl y3), (4, .inl y4), (5, .inl y5)] [.inl y1] dM_11_52 (fun _ => rfl) (Or.inr rfl) ?_
  refine gs0 55 [(0, .inr (.inr (some 678))), (1, .inl y1), (3, .inl y3), (4, .inl y4), (5, .inl y5)] [.inl 40, .inl y1] dM_11_53 (fun _ => rfl) (Or.inr rfl) ?_
  refine gsIf (t := 108) (C := ¬ y1 = 40) (r := []) dM_11_55 (fun _ => rfl) (Or.inr rfl) (rTest_iff .ne y1 40) (fun c11 => ?_) (fun c11 => ?_)
  · replace h := h.1 c11
    refine gs0 109 [(0, .inr (.inr (some 678))), (1, .inl y1), (3, .inl y3), (4, .inl y4), (5, .inl y5)] [.inl y3] dM_11_108 (fun _ => rfl) (Or.inr rfl) ?_
    refine gsCallS (y := 74) (as := [.inl y3]) (r := []) dM_11_109 rfl (Or.inr rfl) rfl rfl (Nat.le_of_ble_eq_true rfl) (EvS.up h (Nat.le_of_ble_eq_true rfl)) (fun v12 t13 hv14 => ?_)
    obtain ⟨n15, rfl, hn⟩ := hv14
    clear h
    show GoS _ _ _ _ _ _ _ _ [(0, .inr (.inr (some 678))), (1, .inl y1), (3, .inl y3), (4, .inl y4), (5, .inl y5)] [.inl n15] t13 _
    refine gsIf (t := 130) (C := n15 = 0) (r := []) dM_11_112 (fun _ => rfl) (Or.inr rfl) (rTest_iff .eq n15 0) (fun c16 => ?_) (fun c16 => ?_)
    · replace hn := hn.1 c16
      refine gs0 131 [(0, .inr (.inr (some 678))), (1, .inl y1), (3, .inl y3), (4, .inl y4), (5, .inl y5)] [.inr (.inr (some 678))] dM_11_130 (fun _ => rfl) (Or.inr rfl) ?_
      refine gsGetR (some 231) dM_11_131 sk_678 rfl rfl ?_
      refine gs0 135 [(0, .inr (.inr (some 678))), (1, .inl y1), (3, .inl y3), (4, .inl y4), (5, .inl y5)] [.inl y3, .inr (.inr (some 231))] dM_11_134 (fun _ => rfl) (Or.inr rfl) ?_
      refine gs0 137 [(0, .inr (.inr (some 678))), (1, .inl y1), (3, .inl y3), (4, .inl y4), (5, .inl y5)] [.inl y4, .inl y3, .inr (.inr (some 231))] dM_11_135 (fun _ => rfl) (Or.inr rfl) ?_
      refine gs0 139 [(0, .inr (.inr (some 678))), (1, .inl y1), (3, .inl y3), (4, .inl y4), (5, .inl y5)] [.inl y5, .inl y4, .inl y3, .inr (.inr (some 231))] dM_11_137 (fun _ => rfl) (Or.inr rfl) ?_
      refine gsCallV (y := 22) (k := 231) (as := [.inr (.inr (some 231)), .inl y3, .inl y4, .inl y5]) (r := []) dM_11_139 rfl rfl rfl (Nat.le_of_ble_eq_true rfl) sk_231 rfl (Nat.le_of_ble_eq_true rfl) (EvS.up hn (Nat.le_of_ble_eq_true rfl)) (fun v17 t18 hv19 => ?_)
      obtain ⟨rfl, hnn⟩ := hv19
      clear hn
      show GoS _ _ _ _ _ _ _ _ [(0, .inr (.inr (some 678))), (1, .inl y1), (3, .inl y3), (4, .inl y4), (5, .inl y5)] [] t18 _
      refine gs0 143 [(0, .inr (.inr (some 678))), (1, .inl y1), (3, .inl y3), (4, .inl y4), (5, .inl y5)] [.inl 1] dM_11_142 (fun _ => rfl) (Or.inr rfl) ?_
      refine gsRet (r := some (.inl 1)) dM_11_143 (fun _ => rfl) (Or.inr rfl) ?_
      exact hnn
    · replace hn := hn.2 c16
      refine gs0 116 [(0, .inr (.inr (some 678))), (1, .inl y1), (3, .inl y3), (4, .inl y4), (5, .inl y5)] [.inr (.inr (some 678))] dM_11_115 (fun _ => rfl) (Or.inr rfl) ?_
      refine gsGetR (some 231) dM_11_116 sk_678 rfl rfl ?_
      refine gs0 120 [(0, .inr (.inr (some 678))), (1, .inl y1), (3, .inl y3), (4, .inl y4), (5, .inl y5)] [.inl y3, .inr (.inr (some 231))] dM_11_119 (fun _ => rfl) (Or.inr rfl) ?_
      refine gs0 122 [(0, .inr (.inr (some 678))), (1, .inl y1), (3, .inl y3), (4, .inl y4), (5, .inl y5)] [.inl y4, .inl y3, .inr (.inr (some 231))] dM_11_120 (fun _ => rfl) (Or.inr rfl) ?_
      refine gs0 124 [(0, .inr (.inr (some 678))), (1, .inl y1), (3, .inl y3), (4, .inl y4), (5, .inl y5)] [.inl y5, .inl y4, .inl y3, .inr (.inr (some 231))] dM_11_122 (fun _ => rfl) (Or.inr rfl) ?_
      refine gsCallV (y := 24) (k := 231) (as := [.inr (.inr (some 231)), .inl y3, .inl y4, .inl y5]) (r := []) dM_11_124 rfl rfl rfl (Nat.le_of_ble_eq_true rfl) sk_231 rfl (Nat.le_of_ble_eq_true rfl) (EvS.up hn (Nat.le_of_ble_eq_true rfl)) (fun v20 t21 hv22 => ?_)
      obtain ⟨rfl, hnn⟩ := hv22
      clear hn
      show GoS _ _ _ _ _ _ _ _ [(0, .inr (.inr (some 678))), (1, .inl y1), (3, .inl y3), (4, .inl y4), (5, .inl y5)] [] t21 _
      refine gs0 142 [(0, .inr (.inr (some 678))), (1, .inl y1), (3, .inl y3), (4, .inl y4), (5, .inl y5)] [] dM_11_127 (fun _ => rfl) (Or.inr rfl) ?_
      refine gs0 143 [(0, .inr (.inr (some 678))), (1, .inl y1), (3, .inl y3), (4, .inl y4), (5, .inl y5)] [.inl 1] dM_11_142 (fun _ => rfl) (Or.inr rfl) ?_
      refine gsRet (r := some (.inl 1)) dM_11_143 (fun _ => rfl) (Or.inr rfl) ?_
      exact hnn
  · replace h := h.2 c11
    refine gs0 59 [(0, .inr (.inr (some 678))), (1, .inl y1), (3, .inl y3), (4, .inl y4), (5, .inl y5)] [.inr (.inr (some 678))] dM_11_58 (fun _ => rfl) (Or.inr rfl) ?_
    refine gsGetE (sg 678 7) dM_11_59 sk_678 rfl rfl rfl ?_
    refine gs0 63 [(0, .inr (.inr (some 678))), (1, .inl y1), (3, .inl y3), (4, .inl y4), (5, .inl y5)] [.inl ((-1)), .inl (sg 678 7)] dM_11_62 (fun _ => rfl) (Or.inr rfl) ?_
    refine gsIf (t := 82) (C := ¬ (sg 678 7) = ((-1))) (r := []) dM_11_63 (fun _ => rfl) (Or.inr rfl) (rTest_iff .ne (sg 678 7) ((-1))) (fun c23 => ?_) (fun c23 => ?_)
    · replace h := h.1 c23
      refine gs0 83 [(0, .inr (.inr (some 678))), (1, .inl y1), (3, .inl y3), (4, .inl y4), (5, .inl y5)] [.inl ((-1))] dM_11_82 (fun _ => rfl) (Or.inr rfl) ?_
      refine gs0 85 [(5, .inl ((-1))), (0, .inr (.inr (some 678))), (1, .inl y1), (3, .inl y3), (4, .inl y4)] [] dM_11_83 (fun _ => rfl) (Or.inr rfl) ?_
      refine gs0 86 [(5, .inl ((-1))), (0, .inr (.inr (some 678))), (1, .inl y1), (3, .inl y3), (4, .inl y4)] [.inr (.inr (some 678))] dM_11_85 (fun _ => rfl) (Or.inr rfl) ?_
      refine gs0 87 [(5, .inl ((-1))), (0, .inr (.inr (some 678))), (1, .inl y1), (3, .inl y3), (4, .inl y4)] [.inl 2, .inr (.inr (some 678))] dM_11_86 (fun _ => rfl) (Or.inr rfl) ?_
      refine gs0 88 [(5, .inl ((-1))), (0, .inr (.inr (some 678))), (1, .inl y1), (3, .inl y3), (4, .inl y4)] [.inl ((-1)), .inl 2, .inr (.inr (some 678))] dM_11_87 (fun _ => rfl) (Or.inr rfl) ?_
      refine gs0 89 [(5, .inl ((-1))), (0, .inr (.inr (some 678))), (1, .inl y1), (3, .inl y3), (4, .inl y4)] [.inl 0, .inl ((-1)), .inl 2, .inr (.inr (some 678))] dM_11_88 (fun _ => rfl) (Or.inr rfl) ?_
      refine gsCallV (y := 7) (k := 678) (as := [.inr (.inr (some 678)), .inl 2, .inl ((-1)), .inl 0]) (r := []) dM_11_89 rfl rfl rfl (Nat.le_of_ble_eq_true rfl) sk_678 rfl (Nat.le_of_ble_eq_true rfl) (EvS.up h (Nat.le_of_ble_eq_true rfl)) (fun v24 t25 hv26 => ?_)
      obtain ⟨rfl, hn⟩ := hv26
      clear h
      show GoS _ _ _ _ _ _ _ _ [(5, .inl ((-1))), (0, .inr (.inr (some 678))), (1, .inl y1), (3, .inl y3), (4, .inl y4)] [] t25 _
      refine gs0 93 [(5, .inl ((-1))), (0, .inr (.inr (some 678))), (1, .inl y1), (3, .inl y3), (4, .inl y4)] [.inr (.inr (some 678))] dM_11_92 (fun _ => rfl) (Or.inr rfl) ?_
      refine gs0 94 [(5, .inl ((-1))), (0, .inr (.inr (some 678))), (1, .inl y1), (3, .inl y3), (4, .inl y4)] [.inl 1, .inr (.inr (some 678))] dM_11_93 (fun _ => rfl) (Or.inr rfl) ?_
      refine gs0 96 [(5, .inl ((-1))), (0, .inr (.inr (some 678))), (1, .inl y1), (3, .inl y3), (4, .inl y4)] [.inl ((-1)), .inl 1, .inr (.inr (some 678))] dM_11_94 (fun _ => rfl) (Or.inr rfl) ?_
      refine gs0 97 [(5, .inl ((-1))), (0, .inr (.inr (some 678))), (1, .inl y1), (3, .inl y3), (4, .inl y4)] [.inl 1, .inl ((-1)), .inl 1, .inr (.inr (some 678))] dM_11_96 (fun _ => rfl) (Or.inr rfl) ?_
      refine gsCallV (y := 7) (k := 678) (as := [.inr (.inr (some 678)), .inl 1, .inl ((-1)), .inl 1]) (r := []) dM_11_97 rfl rfl rfl (Nat.le_of_ble_eq_true rfl) sk_678 rfl (Nat.le_of_ble_eq_true rfl) (EvS.up hn (Nat.le_of_ble_eq_true rfl)) (fun v27 t28 hv29 => ?_)
      obtain ⟨rfl, hnn⟩ := hv29
      clear hn
      show GoS _ _ _ _ _ _ _ _ [(5, .inl ((-1))), (0, .inr (.inr (some 678))), (1, .inl y1), (3, .inl y3), (4, .inl y4)] [] t28 _
      refine gs0 101 [(5, .inl ((-1))), (0, .inr (.inr (some 678))), (1, .inl y1), (3, .inl y3), (4, .inl y4)] [.inr (.inr (some 678))] dM_11_100 (fun _ => rfl) (Or.inr rfl) ?_
      refine gs0 102 [(5, .inl ((-1))), (0, .inr (.inr (some 678))), (1, .inl y1), (3, .inl y3), (4, .inl y4)] [.inl 1, .inr (.inr (some 678))] dM_11_101 (fun _ => rfl) (Or.inr rfl) ?_
      refine gs0 104 [(5, .inl ((-1))), (0, .inr (.inr (some 678))), (1, .inl y1), (3, .inl y3), (4, .inl y4)] [.inl ((-1)), .inl 1, .inr (.inr (some 678))] dM_11_102 (fun _ => rfl) (Or.inr rfl) ?_
      refine gs0 105 [(5, .inl ((-1))), (0, .inr (.inr (some 678))), (1, .inl y1), (3, .inl y3), (4, .inl y4)] [.inl 0, .inl ((-1)), .inl 1, .inr (.inr (some 678))] dM_11_104 (fun _ => rfl) (Or.inr rfl) ?_
      refine gsCallV (y := 7) (k := 678) (as := [.inr (.inr (some 678)), .inl 1, .inl ((-1)), .inl 0]) (r := []) dM_11_105 rfl rfl rfl (Nat.le_of_ble_eq_true rfl) sk_678 rfl (Nat.le_of_ble_eq_true rfl) (EvS.up hnn (Nat.le_of_ble_eq_true rfl)) (fun v30 t31 hv32 => ?_)
      obtain ⟨rfl, hnnn⟩ := hv32
      clear hnn
      show GoS _ _ _ _ _ _ _ _ [(5, .inl ((-1))), (0, .inr (.inr (some 678))), (1, .inl y1), (3, .inl y3), (4, .inl y4)] [] t31 _
      refine gs0 109 [(5, .inl ((-1))), (0, .inr (.inr (some 678))), (1, .inl y1), (3, .inl y3), (4, .inl y4)] [.inl y3] dM_11_108 (fun _ => rfl) (Or.inr rfl) ?_
      refine gsCallS (y := 74) (as := [.inl y3]) (r := []) dM_11_109 rfl (Or.inr rfl) rfl rfl (Nat.le_of_ble_eq_true rfl) (EvS.up hnnn (Nat.le_of_ble_eq_true rfl)) (fun v33 t34 hv35 => ?_)
      obtain ⟨n36, rfl, hnnnn⟩ := hv35
      clear hnnn
      show GoS _ _ _ _ _ _ _ _ [(5, .inl ((-1))), (0, .inr (.inr (some 678))), (1, .inl y1), (3, .inl y3), (4, .inl y4)] [.inl n36] t34 _
      refine gsIf (t := 130) (C := n36 = 0) (r := []) dM_11_112 (fun _ => rfl) (Or.inr rfl) (rTest_iff .eq n36 0) (fun c37 => ?_) (fun c37 => ?_)
      · replace hnnnn := hnnnn.1 c37
        refine gs0 131 [(5, .inl ((-1))), (0, .inr (.inr (some 678))), (1, .inl y1), (3, .inl y3), (4, .inl y4)] [.inr (.inr (some 678))] dM_11_130 (fun _ => rfl) (Or.inr rfl) ?_
        refine gsGetR (some 231) dM_11_131 sk_678 rfl rfl ?_
        refine gs0 135 [(5, .inl ((-1))), (0, .inr (.inr (some 678))), (1, .inl y1), (3, .inl y3), (4, .inl y4)] [.inl y3, .inr (.inr (some 231))] dM_11_134 (fun _ => rfl) (Or.inr rfl) ?_
        refine gs0 137 [(5, .inl ((-1))), (0, .inr (.inr (some 678))), (1, .inl y1), (3, .inl y3), (4, .inl y4)] [.inl y4, .inl y3, .inr (.inr (some 231))] dM_11_135 (fun _ => rfl) (Or.inr rfl) ?_
        refine gs0 139 [(5, .inl ((-1))), (0, .inr (.inr (some 678))), (1, .inl y1), (3, .inl y3), (4, .inl y4)] [.inl ((-1)), .inl y4, .inl y3, .inr (.inr (some 231))] dM_11_137 (fun _ => rfl) (Or.inr rfl) ?_
        refine gsCallV (y := 22) (k := 231) (as := [.inr (.inr (some 231)), .inl y3, .inl y4, .inl ((-1))]) (r := []) dM_11_139 rfl rfl rfl (Nat.le_of_ble_eq_true rfl) sk_231 rfl (Nat.le_of_ble_eq_true rfl) (EvS.up hnnnn (Nat.le_of_ble_eq_true rfl)) (fun v38 t39 hv40 => ?_)
        obtain ⟨rfl, hnnnnn⟩ := hv40
        clear hnnnn
        show GoS _ _ _ _ _ _ _ _ [(5, .inl ((-1))), (0, .inr (.inr (some 678))), (1, .inl y1), (3, .inl y3), (4, .inl y4)] [] t39 _
        refine gs0 143 [(5, .inl ((-1))), (0, .inr (.inr (some 678))), (1, .inl y1), (3, .inl y3), (4, .inl y4)] [.inl 1] dM_11_142 (fun _ => rfl) (Or.inr rfl) ?_
        refine gsRet (r := some (.inl 1)) dM_11_143 (fun _ => rfl) (Or.inr rfl) ?_
        exact hnnnnn
      · replace hnnnn := hnnnn.2 c37
        refine gs0 116 [(5, .inl ((-1))), (0, .inr (.inr (some 678))), (1, .inl y1), (3, .inl y3), (4, .inl y4)] [.inr (.inr (some 678))] dM_11_115 (fun _ => rfl) (Or.inr rfl) ?_
        refine gsGetR (some 231) dM_11_116 sk_678 rfl rfl ?_
        refine gs0 120 [(5, .inl ((-1))), (0, .inr (.inr (some 678))), (1, .inl y1), (3, .inl y3), (4, .inl y4)] [.inl y3, .inr (.inr (some 231))] dM_11_119 (fun _ => rfl) (Or.inr rfl) ?_
        refine gs0 122 [(5, .inl ((-1))), (0, .inr (.inr (some 678))), (1, .inl y1), (3, .inl y3), (4, .inl y4)] [.inl y4, .inl y3, .inr (.inr (some 231))] dM_11_120 (fun _ => rfl) (Or.inr rfl) ?_
        refine gs0 124 [(5, .inl ((-1))), (0, .inr (.inr (some 678))), (1, .inl y1), (3, .inl y3), (4, .inl y4)] [.inl ((-1)), .inl y4, .inl y3, .inr (.inr (some 231))] dM_11_122 (fun _ => rfl) (Or.inr rfl) ?_
        refine gsCallV (y := 24) (k := 231) (as := [.inr (.inr (some 231)), .inl y3, .inl y4, .inl ((-1))]) (r := []) dM_11_124 rfl rfl rfl (Nat.le_of_ble_eq_true rfl) sk_231 rfl (Nat.le_of_ble_eq_true rfl) (EvS.up hnnnn (Nat.le_of_ble_eq_true rfl)) (fun v41 t42 hv43 => ?_)
        obtain ⟨rfl, hnnnnn⟩ := hv43
        clear hnnnn
        show GoS _ _ _ _ _ _ _ _ [(5, .inl ((-1))), (0, .inr (.inr (some 678))), (1, .inl y1), (3, .inl y3), (4, .inl y4)] [] t42 _
        refine gs0 142 [(5, .inl ((-1))), (0, .inr (.inr (some 678))), (1, .inl y1), (3, .inl y3), (4, .inl y4)] [] dM_11_127 (fun _ => rfl) (Or.inr rfl) ?_
        refine gs0 143 [(5, .inl ((-1))), (0, .inr (.inr (some 678))), (1, .inl y1), (3, .inl y3), (4, .inl y4)] [.inl 1] dM_11_142 (fun _ => rfl) (Or.inr rfl) ?_
        refine gsRet (r := some (.inl 1)) dM_11_143 (fun _ => rfl) (Or.inr rfl) ?_
        exact hnnnnn
    · replace h := h.2 c23
      refine gs0 67 [(0, .inr (.inr (some 678))), (1, .inl y1), (3, .inl y3), (4, .inl y4), (5, .inl y5)] [.inr (.inr (some 678))] dM_11_66 (fun _ => rfl) (Or.inr rfl) ?_
      refine gsGetR (some 231) dM_11_67 sk_678 rfl rfl ?_
      refine gs0 73 [(0, .inr (.inr (some 678))), (1, .inl y1), (3, .inl y3), (4, .inl y4), (5, .inl y5)] [.inl 138, .inr (.inr (some 231))] dM_11_70 (fun _ => rfl) (Or.inr rfl) ?_
      refine gs0 76 [(0, .inr (.inr (some 678))), (1, .inl y1), (3, .inl y3), (4, .inl y4), (5, .inl y5)] [.inl 138, .inl 138, .inr (.inr (some 231))] dM_11_73 (fun _ => rfl) (Or.inr rfl) ?_
      refine gsCallV (y := 23) (k := 231) (as := [.inr (.inr (some 231)), .inl 138, .inl 138]) (r := []) dM_11_76 rfl rfl rfl (Nat.le_of_ble_eq_true rfl) sk_231 rfl (Nat.le_of_ble_eq_true rfl) (EvS.up h (Nat.le_of_ble_eq_true rfl)) (fun v44 t45 hv46 => ?_)
      obtain ⟨n47, rfl, hn⟩ := hv46
      clear h
      show GoS _ _ _ _ _ _ _ _ [(0, .inr (.inr (some 678))), (1, .inl y1), (3, .inl y3), (4, .inl y4), (5, .inl y5)] [.inl n47] t45 _
      refine gs0 83 [(0, .inr (.inr (some 678))), (1, .inl y1), (3, .inl y3), (4, .inl y4), (5, .inl y5)] [.inl n47] dM_11_79 (fun _ => rfl) (Or.inr rfl) ?_
      refine gs0 85 [(5, .inl n47), (0, .inr (.inr (some 678))), (1, .inl y1), (3, .inl y3), (4, .inl y4)] [] dM_11_83 (fun _ => rfl) (Or.inr rfl) ?_
      refine gs0 86 [(5, .inl n47), (0, .inr (.inr (some 678))), (1, .inl y1), (3, .inl y3), (4, .inl y4)] [.inr (.inr (some 678))] dM_11_85 (fun _ => rfl) (Or.inr rfl) ?_
      refine gs0 87 [(5, .inl n47), (0, .inr (.inr (some 678))), (1, .inl y1), (3, .inl y3), (4, .inl y4)] [.inl 2, .inr (.inr (some 678))] dM_11_86 (fun _ => rfl) (Or.inr rfl) ?_
      refine gs0 88 [(5, .inl n47), (0, .inr (.inr (some 678))), (1, .inl y1), (3, .inl y3), (4, .inl y4)] [.inl ((-1)), .inl 2, .inr (.inr (some 678))] dM_11_87 (fun _ => rfl) (Or.inr rfl) ?_
      refine gs0 89 [(5, .inl n47), (0, .inr (.inr (some 678))), (1, .inl y1), (3, .inl y3), (4, .inl y4)] [.inl 0, .inl ((-1)), .inl 2, .inr (.inr (some 678))] dM_11_88 (fun _ => rfl) (Or.inr rfl) ?_
      refine gsCallV (y := 7) (k := 678) (as := [.inr (.inr (some 678)), .inl 2, .inl ((-1)), .inl 0]) (r := []) dM_11_89 rfl rfl rfl (Nat.le_of_ble_eq_true rfl) sk_678 rfl (Nat.le_of_ble_eq_true rfl) (EvS.up hn (Nat.le_of_ble_eq_true rfl)) (fun v48 t49 hv50 => ?_)
      obtain ⟨rfl, hnn⟩ := hv50
      clear hn
      show GoS _ _ _ _ _ _ _ _ [(5, .inl n47), (0, .inr (.inr (some 678))), (1, .inl y1), (3, .inl y3), (4, .inl y4)] [] t49 _
      refine gs0 93 [(5, .inl n47), (0, .inr (.inr (some 678))), (1, .inl y1), (3, .inl y3), (4, .inl y4)] [.inr (.inr (some 678))] dM_11_92 (fun _ => rfl) (Or.inr rfl) ?_
      refine gs0 94 [(5, .inl n47), (0, .inr (.inr (some 678))), (1, .inl y1), (3, .inl y3), (4, .inl y4)] [.inl 1, .inr (.inr (some 678))] dM_11_93 (fun _ => rfl) (Or.inr rfl) ?_
      refine gs0 96 [(5, .inl n47), (0, .inr (.inr (some 678))), (1, .inl y1), (3, .inl y3), (4, .inl y4)] [.inl n47, .inl 1, .inr (.inr (some 678))] dM_11_94 (fun _ => rfl) (Or.inr rfl) ?_
      refine gs0 97 [(5, .inl n47), (0, .inr (.inr (some 678))), (1, .inl y1), (3, .inl y3), (4, .inl y4)] [.inl 1, .inl n47, .inl 1, .inr (.inr (some 678))] dM_11_96 (fun _ => rfl) (Or.inr rfl) ?_
      refine gsCallV (y := 7) (k := 678) (as := [.inr (.inr (some 678)), .inl 1, .inl n47, .inl 1]) (r := []) dM_11_97 rfl rfl rfl (Nat.le_of_ble_eq_true rfl) sk_678 rfl (Nat.le_of_ble_eq_true rfl) (EvS.up hnn (Nat.le_of_ble_eq_true rfl)) (fun v51 t52 hv53 => ?_)
      obtain ⟨rfl, hnnn⟩ := hv53
      clear hnn
      show GoS _ _ _ _ _ _ _ _ [(5, .inl n47), (0, .inr (.inr (some 678))), (1, .inl y1), (3, .inl y3), (4, .inl y4)] [] t52 _
      refine gs0 101 [(5, .inl n47), (0, .inr (.inr (some 678))), (1, .inl y1), (3, .inl y3), (4, .inl y4)] [.inr (.inr (some 678))] dM_11_100 (fun _ => rfl) (Or.inr rfl) ?_
      refine gs0 102 [(5, .inl n47), (0, .inr (.inr (some 678))), (1, .inl y1), (3, .inl y3), (4, .inl y4)] [.inl 1, .inr (.inr (some 678))] dM_11_101 (fun _ => rfl) (Or.inr rfl) ?_
      refine gs0 104 [(5, .inl n47), (0, .inr (.inr (some 678))), (1, .inl y1), (3, .inl y3), (4, .inl y4)] [.inl n47, .inl 1, .inr (.inr (some 678))] dM_11_102 (fun _ => rfl) (Or.inr rfl) ?_
      refine gs0 105 [(5, .inl n47), (0, .inr (.inr (some 678))), (1, .inl y1), (3, .inl y3), (4, .inl y4)] [.inl 0, .inl n47, .inl 1, .inr (.inr (some 678))] dM_11_104 (fun _ => rfl) (Or.inr rfl) ?_
      refine gsCallV (y := 7) (k := 678) (as := [.inr (.inr (some 678)), .inl 1, .inl n47, .inl 0]) (r := []) dM_11_105 rfl rfl rfl (Nat.le_of_ble_eq_true rfl) sk_678 rfl (Nat.le_of_ble_eq_true rfl) (EvS.up hnnn (Nat.le_of_ble_eq_true rfl)) (fun v54 t55 hv56 => ?_)
      obtain ⟨rfl, hnnnn⟩ := hv56
      clear hnnn
      show GoS _ _ _ _ _ _ _ _ [(5, .inl n47), (0, .inr (.inr (some 678))), (1, .inl y1), (3, .inl y3), (4, .inl y4)] [] t55 _
      refine gs0 109 [(5, .inl n47), (0, .inr (.inr (some 678))), (1, .inl y1), (3, .inl y3), (4, .inl y4)] [.inl y3] dM_11_108 (fun _ => rfl) (Or.inr rfl) ?_
      refine gsCallS (y := 74) (as := [.inl y3]) (r := []) dM_11_109 rfl (Or.inr rfl) rfl rfl (Nat.le_of_ble_eq_true rfl) (EvS.up hnnnn (Nat.le_of_ble_eq_true rfl)) (fun v57 t58 hv59 => ?_)
      obtain ⟨n60, rfl, hnnnnn⟩ := hv59
      clear hnnnn
      show GoS _ _ _ _ _ _ _ _ [(5, .inl n47), (0, .inr (.inr (some 678))), (1, .inl y1), (3, .inl y3), (4, .inl y4)] [.inl n60] t58 _
      refine gsIf (t := 130) (C := n60 = 0) (r := []) dM_11_112 (fun _ => rfl) (Or.inr rfl) (rTest_iff .eq n60 0) (fun c61 => ?_) (fun c61 => ?_)
      · replace hnnnnn := hnnnnn.1 c61
        refine gs0 131 [(5, .inl n47), (0, .inr (.inr (some 678))), (1, .inl y1), (3, .inl y3), (4, .inl y4)] [.inr (.inr (some 678))] dM_11_130 (fun _ => rfl) (Or.inr rfl) ?_
        refine gsGetR (some 231) dM_11_131 sk_678 rfl rfl ?_
        refine gs0 135 [(5, .inl n47), (0, .inr (.inr (some 678))), (1, .inl y1), (3, .inl y3), (4, .inl y4)] [.inl y3, .inr (.inr (some 231))] dM_11_134 (fun _ => rfl) (Or.inr rfl) ?_
        refine gs0 137 [(5, .inl n47), (0, .inr (.inr (some 678))), (1, .inl y1), (3, .inl y3), (4, .inl y4)] [.inl y4, .inl y3, .inr (.inr (some 231))] dM_11_135 (fun _ => rfl) (Or.inr rfl) ?_
        refine gs0 139 [(5, .inl n47), (0, .inr (.inr (some 678))), (1, .inl y1), (3, .inl y3), (4, .inl y4)] [.inl n47, .inl y4, .inl y3, .inr (.inr (some 231))] dM_11_137 (fun _ => rfl) (Or.inr rfl) ?_
        refine gsCallV (y := 22) (k := 231) (as := [.inr (.inr (some 231)), .inl y3, .inl y4, .inl n47]) (r := []) dM_11_139 rfl rfl rfl (Nat.le_of_ble_eq_true rfl) sk_231 rfl (Nat.le_of_ble_eq_true rfl) (EvS.up hnnnnn (Nat.le_of_ble_eq_true rfl)) (fun v62 t63 hv64 => ?_)
        obtain ⟨rfl, hnnnnnn⟩ := hv64
        clear hnnnnn
        show GoS _ _ _ _ _ _ _ _ [(5, .inl n47), (0, .inr (.inr (some 678))), (1, .inl y1), (3, .inl y3), (4, .inl y4)] [] t63 _
        refine gs0 143 [(5, .inl n47), (0, .inr (.inr (some 678))), (1, .inl y1), (3, .inl y3), (4, .inl y4)] [.inl 1] dM_11_142 (fun _ => rfl) (Or.inr rfl) ?_
        refine gsRet (r := some (.inl 1)) dM_11_143 (fun _ => rfl) (Or.inr rfl) ?_
        exact hnnnnnn
      · replace hnnnnn := hnnnnn.2 c61
        refine gs0 116 [(5, .inl n47), (0, .inr (.inr (some 678))), (1, .inl y1), (3, .inl y3), (4, .inl y4)] [.inr (.inr (some 678))] dM_11_115 (fun _ => rfl) (Or.inr rfl) ?_
        refine gsGetR (some 231) dM_11_116 sk_678 rfl rfl ?_
        refine gs0 120 [(5, .inl n47), (0, .inr (.inr (some 678))), (1, .inl y1), (3, .inl y3), (4, .inl y4)] [.inl y3, .inr (.inr (some 231))] dM_11_119 (fun _ => rfl) (Or.inr rfl) ?_
        refine gs0 122 [(5, .inl n47), (0, .inr (.inr (some 678))), (1, .inl y1), (3, .inl y3), (4, .inl y4)] [.inl y4, .inl y3, .inr (.inr (some 231))] dM_11_120 (fun _ => rfl) (Or.inr rfl) ?_
        refine gs0 124 [(5, .inl n47), (0, .inr (.inr (some 678))), (1, .inl y1), (3, .inl y3), (4, .inl y4)] [.inl n47, .inl y4, .inl y3, .inr (.inr (some 231))] dM_11_122 (fun _ => rfl) (Or.inr rfl) ?_
        refine gsCallV (y := 24) (k := 231) (as := [.inr (.inr (some 231)), .inl y3, .inl y4, .inl n47]) (r := []) dM_11_124 rfl rfl rfl (Nat.le_of_ble_eq_true rfl) sk_231 rfl (Nat.le_of_ble_eq_true rfl) (EvS.up hnnnnn (Nat.le_of_ble_eq_true rfl)) (fun v65 t66 hv67 => ?_)
        obtain ⟨rfl, hnnnnnn⟩ := hv67
        clear hnnnnn
        show GoS _ _ _ _ _ _ _ _ [(5, .inl n47), (0, .inr (.inr (some 678))), (1, .inl y1), (3, .inl y3), (4, .inl y4)] [] t66 _
        refine gs0 142 [(5, .inl n47), (0, .inr (.inr (some 678))), (1, .inl y1), (3, .inl y3), (4, .inl y4)] [] dM_11_127 (fun _ => rfl) (Or.inr rfl) ?_
        refine gs0 143 [(5, .inl n47), (0, .inr (.inr (some 678))), (1, .inl y1), (3, .inl y3), (4, .inl y4)] [.inl 1] dM_11_142 (fun _ => rfl) (Or.inr rfl) ?_
        refine gsRet (r := some (.inl 1)) dM_11_143 (fun _ => rfl) (Or.inr rfl) ?_
        exact hnnnnnn
set_option maxRecDepth 100000 in
/-- GoalsInAQueue$Reader.takesTerm -/
theorem w_11 (sg : rSg) (x1 : Int32) (x2 : Int32) (x3 : Int32) (x4 : Int32) {P : Option rv → rSg → Prop} (h :
    EvS rSkel 1 12 [.inl x1] sg (fun v1 t2 => ∃ n4, v1 = some (.inl n4) ∧
      (¬ n4 = ((-1)) → 
        (((t2 678 6) + 1) ≤ 40 → 
          g_11_52 x1 x3 x4 n4 (up2 t2 678 6 ((t2 678 6) + 1)) P) ∧
        (¬ (((t2 678 6) + 1) ≤ 40) → 
          (¬ (t2 678 7) = ((-1)) → 
            g_11_52 x1 x3 x4 n4 (up2 t2 678 6 ((t2 678 6) + 1)) P) ∧
          (¬ (¬ (t2 678 7) = ((-1))) → 
            g_11_52 x1 x3 x4 n4 (up2 (up2 t2 678 6 ((t2 678 6) + 1)) 678 7 x2) P))) ∧
      (¬ (¬ n4 = ((-1))) → 
        (x1 = 40 → 
          (((t2 678 6) + 1) ≤ 40 → 
            g_11_52 x1 x3 x4 n4 (up2 t2 678 6 ((t2 678 6) + 1)) P) ∧
          (¬ (((t2 678 6) + 1) ≤ 40) → 
            (¬ (t2 678 7) = ((-1)) → 
              g_11_52 x1 x3 x4 n4 (up2 t2 678 6 ((t2 678 6) + 1)) P) ∧
            (¬ (¬ (t2 678 7) = ((-1))) → 
              g_11_52 x1 x3 x4 n4 (up2 (up2 t2 678 6 ((t2 678 6) + 1)) 678 7 x2) P))) ∧
        (¬ (x1 = 40) → 
          P (some (.inl 0)) t2)))) : EvS rSkel 2 11 [.inr (.inr (some 678)), .inl x1, .inl x2, .inl x3, .inl x4] sg P := by
  refine EvS.of (ini := false) rfl ⟨rfl, Nat.le_of_ble_eq_true rfl⟩ rfl ?_
  show GoS rSkel 1 1 6 (some .boolean) false prog_3_method_7_code 0 [(0, .inr (.inr (some 678))), (1, .inl x1), (2, .inl x2), (3, .inl x3), (4, .inl x4)] [] sg _
  refine gs0 1 [(0, .inr (.inr (some 678))), (1, .inl x1), (2, .inl x2), (3, .inl x3), (4, .inl x4)] [.inl x1] dM_11_0 (fun _ => rfl) (Or.inr rfl) ?_
  refine gsCallS (y := 12) (as := [.inl x1]) (r := []) dM_11_1 rfl (Or.inl rfl) rfl rfl (Nat.le_of_ble_eq_true rfl) (EvS.up h (Nat.le_of_ble_eq_true rfl)) (fun v1 t2 hv3 => ?_)
  obtain ⟨n4, rfl, hn⟩ := hv3
  clear h
  show GoS _ _ _ _ _ _ _ _ [(0, .inr (.inr (some 678))), (1, .inl x1), (2, .inl x2), (3, .inl x3), (4, .inl x4)] [.inl n4] t2 _
  refine gs0 6 [(5, .inl n4), (0, .inr (.inr (some 678))), (1, .inl x1), (2, .inl x2), (3, .inl x3), (4, .inl x4)] [] dM_11_4 (fun _ => rfl) (Or.inr rfl) ?_
  refine gs0 8 [(5, .inl n4), (0, .inr (.inr (some 678))), (1, .inl x1), (2, .inl x2), (3, .inl x3), (4, .inl x4)] [.inl n4] dM_11_6 (fun _ => rfl) (Or.inr rfl) ?_
  refine gs0 9 [(5, .inl n4), (0, .inr (.inr (some 678))), (1, .inl x1), (2, .inl x2), (3, .inl x3), (4, .inl x4)] [.inl ((-1)), .inl n4] dM_11_8 (fun _ => rfl) (Or.inr rfl) ?_
  refine gsIf (t := 20) (C := ¬ n4 = ((-1))) (r := []) dM_11_9 (fun _ => rfl) (Or.inr rfl) (rTest_iff .ne n4 ((-1))) (fun c5 => ?_) (fun c5 => ?_)
  · replace hn := hn.1 c5
    refine gs0 21 [(5, .inl n4), (0, .inr (.inr (some 678))), (1, .inl x1), (2, .inl x2), (3, .inl x3), (4, .inl x4)] [.inr (.inr (some 678))] dM_11_20 (fun _ => rfl) (Or.inr rfl) ?_
    refine gs0 22 [(5, .inl n4), (0, .inr (.inr (some 678))), (1, .inl x1), (2, .inl x2), (3, .inl x3), (4, .inl x4)] [.inr (.inr (some 678)), .inr (.inr (some 678))] dM_11_21 (fun _ => rfl) (Or.inr rfl) ?_
    refine gsGetE (t2 678 6) dM_11_22 sk_678 rfl rfl rfl ?_
    refine gs0 26 [(5, .inl n4), (0, .inr (.inr (some 678))), (1, .inl x1), (2, .inl x2), (3, .inl x3), (4, .inl x4)] [.inl 1, .inl (t2 678 6), .inr (.inr (some 678))] dM_11_25 (fun _ => rfl) (Or.inr rfl) ?_
    refine gs0 27 [(5, .inl n4), (0, .inr (.inr (some 678))), (1, .inl x1), (2, .inl x2), (3, .inl x3), (4, .inl x4)] [.inl ((t2 678 6) + 1), .inr (.inr (some 678))] dM_11_26 (fun _ => rfl) (Or.inr rfl) ?_
    refine gsPut dM_11_27 sk_678 rfl rfl rfl (by decide) ?_
    refine gs0 31 [(5, .inl n4), (0, .inr (.inr (some 678))), (1, .inl x1), (2, .inl x2), (3, .inl x3), (4, .inl x4)] [.inr (.inr (some 678))] dM_11_30 (fun _ => rfl) (Or.inr rfl) ?_
    refine gsGetE ((t2 678 6) + 1) dM_11_31 sk_678 rfl rfl (up2_same _ _ _ _) ?_
    refine gs0 36 [(5, .inl n4), (0, .inr (.inr (some 678))), (1, .inl x1), (2, .inl x2), (3, .inl x3), (4, .inl x4)] [.inl 40, .inl ((t2 678 6) + 1)] dM_11_34 (fun _ => rfl) (Or.inr rfl) ?_
    refine gsIf (t := 52) (C := ((t2 678 6) + 1) ≤ 40) (r := []) dM_11_36 (fun _ => rfl) (Or.inr rfl) (rTest_iff .le ((t2 678 6) + 1) 40) (fun c6 => ?_) (fun c6 => ?_)
    · replace hn := hn.1 c6
      exact GoS.sub (Lnd_keys (ks := [0, 1, 3, 4, 5]) rfl (by decide)) (Lsub_cons rfl (Lsub_cons rfl (Lsub_cons rfl (Lsub_cons rfl (Lsub_cons rfl Lsub_nil))))) hn
    · replace hn := hn.2 c6
      refine gs0 40 [(5, .inl n4), (0, .inr (.inr (some 678))), (1, .inl x1), (2, .inl x2), (3, .inl x3), (4, .inl x4)] [.inr (.inr (some 678))] dM_11_39 (fun _ => rfl) (Or.inr rfl) ?_
      refine gsGetE (t2 678 7) dM_11_40 sk_678 rfl rfl (up2_nj _ _ _ (by decide)) ?_
      refine gs0 44 [(5, .inl n4), (0, .inr (.inr (some 678))), (1, .inl x1), (2, .inl x2), (3, .inl x3), (4, .inl x4)] [.inl ((-1)), .inl (t2 678 7)] dM_11_43 (fun _ => rfl) (Or.inr rfl) ?_
      refine gsIf (t := 52) (C := ¬ (t2 678 7) = ((-1))) (r := []) dM_11_44 (fun _ => rfl) (Or.inr rfl) (rTest_iff .ne (t2 678 7) ((-1))) (fun c7 => ?_) (fun c7 => ?_)
      · replace hn := hn.1 c7
        exact GoS.sub (Lnd_keys (ks := [0, 1, 3, 4, 5]) rfl (by decide)) (Lsub_cons rfl (Lsub_cons rfl (Lsub_cons rfl (Lsub_cons rfl (Lsub_cons rfl Lsub_nil))))) hn
      · replace hn := hn.2 c7
        refine gs0 48 [(5, .inl n4), (0, .inr (.inr (some 678))), (1, .inl x1), (2, .inl x2), (3, .inl x3), (4, .inl x4)] [.inr (.inr (some 678))] dM_11_47 (fun _ => rfl) (Or.inr rfl) ?_
        refine gs0 49 [(5, .inl n4), (0, .inr (.inr (some 678))), (1, .inl x1), (2, .inl x2), (3, .inl x3), (4, .inl x4)] [.inl x2, .inr (.inr (some 678))] dM_11_48 (fun _ => rfl) (Or.inr rfl) ?_
        refine gsPut dM_11_49 sk_678 rfl rfl rfl (by decide) ?_
        exact GoS.sub (Lnd_keys (ks := [0, 1, 3, 4, 5]) rfl (by decide)) (Lsub_cons rfl (Lsub_cons rfl (Lsub_cons rfl (Lsub_cons rfl (Lsub_cons rfl Lsub_nil))))) hn
  · replace hn := hn.2 c5
    refine gs0 13 [(5, .inl n4), (0, .inr (.inr (some 678))), (1, .inl x1), (2, .inl x2), (3, .inl x3), (4, .inl x4)] [.inl x1] dM_11_12 (fun _ => rfl) (Or.inr rfl) ?_
    refine gs0 15 [(5, .inl n4), (0, .inr (.inr (some 678))), (1, .inl x1), (2, .inl x2), (3, .inl x3), (4, .inl x4)] [.inl 40, .inl x1] dM_11_13 (fun _ => rfl) (Or.inr rfl) ?_
    refine gsIf (t := 20) (C := x1 = 40) (r := []) dM_11_15 (fun _ => rfl) (Or.inr rfl) (rTest_iff .eq x1 40) (fun c8 => ?_) (fun c8 => ?_)
    · replace hn := hn.1 c8
      refine gs0 21 [(5, .inl n4), (0, .inr (.inr (some 678))), (1, .inl x1), (2, .inl x2), (3, .inl x3), (4, .inl x4)] [.inr (.inr (some 678))] dM_11_20 (fun _ => rfl) (Or.inr rfl) ?_
      refine gs0 22 [(5, .inl n4), (0, .inr (.inr (some 678))), (1, .inl x1), (2, .inl x2), (3, .inl x3), (4, .inl x4)] [.inr (.inr (some 678)), .inr (.inr (some 678))] dM_11_21 (fun _ => rfl) (Or.inr rfl) ?_
      refine gsGetE (t2 678 6) dM_11_22 sk_678 rfl rfl rfl ?_
      refine gs0 26 [(5, .inl n4), (0, .inr (.inr (some 678))), (1, .inl x1), (2, .inl x2), (3, .inl x3), (4, .inl x4)] [.inl 1, .inl (t2 678 6), .inr (.inr (some 678))] dM_11_25 (fun _ => rfl) (Or.inr rfl) ?_
      refine gs0 27 [(5, .inl n4), (0, .inr (.inr (some 678))), (1, .inl x1), (2, .inl x2), (3, .inl x3), (4, .inl x4)] [.inl ((t2 678 6) + 1), .inr (.inr (some 678))] dM_11_26 (fun _ => rfl) (Or.inr rfl) ?_
      refine gsPut dM_11_27 sk_678 rfl rfl rfl (by decide) ?_
      refine gs0 31 [(5, .inl n4), (0, .inr (.inr (some 678))), (1, .inl x1), (2, .inl x2), (3, .inl x3), (4, .inl x4)] [.inr (.inr (some 678))] dM_11_30 (fun _ => rfl) (Or.inr rfl) ?_
      refine gsGetE ((t2 678 6) + 1) dM_11_31 sk_678 rfl rfl (up2_same _ _ _ _) ?_
      refine gs0 36 [(5, .inl n4), (0, .inr (.inr (some 678))), (1, .inl x1), (2, .inl x2), (3, .inl x3), (4, .inl x4)] [.inl 40, .inl ((t2 678 6) + 1)] dM_11_34 (fun _ => rfl) (Or.inr rfl) ?_
      refine gsIf (t := 52) (C := ((t2 678 6) + 1) ≤ 40) (r := []) dM_11_36 (fun _ => rfl) (Or.inr rfl) (rTest_iff .le ((t2 678 6) + 1) 40) (fun c9 => ?_) (fun c9 => ?_)
      · replace hn := hn.1 c9
        exact GoS.sub (Lnd_keys (ks := [0, 1, 3, 4, 5]) rfl (by decide)) (Lsub_cons rfl (Lsub_cons rfl (Lsub_cons rfl (Lsub_cons rfl (Lsub_cons rfl Lsub_nil))))) hn
      · replace hn := hn.2 c9
        refine gs0 40 [(5, .inl n4), (0, .inr (.inr (some 678))), (1, .inl x1), (2, .inl x2), (3, .inl x3), (4, .inl x4)] [.inr (.inr (some 678))] dM_11_39 (fun _ => rfl) (Or.inr rfl) ?_
        refine gsGetE (t2 678 7) dM_11_40 sk_678 rfl rfl (up2_nj _ _ _ (by decide)) ?_
        refine gs0 44 [(5, .inl n4), (0, .inr (.inr (some 678))), (1, .inl x1), (2, .inl x2), (3, .inl x3), (4, .inl x4)] [.inl ((-1)), .inl (t2 678 7)] dM_11_43 (fun _ => rfl) (Or.inr rfl) ?_
        refine gsIf (t := 52) (C := ¬ (t2 678 7) = ((-1))) (r := []) dM_11_44 (fun _ => rfl) (Or.inr rfl) (rTest_iff .ne (t2 678 7) ((-1))) (fun c10 => ?_) (fun c10 => ?_)
        · replace hn := hn.1 c10
          exact GoS.sub (Lnd_keys (ks := [0, 1, 3, 4, 5]) rfl (by decide)) (Lsub_cons rfl (Lsub_cons rfl (Lsub_cons rfl (Lsub_cons rfl (Lsub_cons rfl Lsub_nil))))) hn
        · replace hn := hn.2 c10
          refine gs0 48 [(5, .inl n4), (0, .inr (.inr (some 678))), (1, .inl x1), (2, .inl x2), (3, .inl x3), (4, .inl x4)] [.inr (.inr (some 678))] dM_11_47 (fun _ => rfl) (Or.inr rfl) ?_
          refine gs0 49 [(5, .inl n4), (0, .inr (.inr (some 678))), (1, .inl x1), (2, .inl x2), (3, .inl x3), (4, .inl x4)] [.inl x2, .inr (.inr (some 678))] dM_11_48 (fun _ => rfl) (Or.inr rfl) ?_
          refine gsPut dM_11_49 sk_678 rfl rfl rfl (by decide) ?_
          exact GoS.sub (Lnd_keys (ks := [0, 1, 3, 4, 5]) rfl (by decide)) (Lsub_cons rfl (Lsub_cons rfl (Lsub_cons rfl (Lsub_cons rfl (Lsub_cons rfl Lsub_nil))))) hn
    · replace hn := hn.2 c8
      refine gs0 19 [(5, .inl n4), (0, .inr (.inr (some 678))), (1, .inl x1), (2, .inl x2), (3, .inl x3), (4, .inl x4)] [.inl 0] dM_11_18 (fun _ => rfl) (Or.inr rfl) ?_
      refine gsRet (r := some (.inl 0)) dM_11_19 (fun _ => rfl) (Or.inr rfl) ?_
      exact hn
def g_12_17  (y0 : Int32) (sg : rSg) (P : Option rv → rSg → Prop) : Prop := GoS rSkel 0 1 1 (some .int) false prog_3_method_9_code 17 [(0, .inl y0)] [] sg P
set_option maxRecDepth 100000 in
theorem w_12_17 (sg : rSg)  (y0 : Int32) {P : Option rv → rSg → Prop} (h :
    (y0 < 48 → 
      (¬ y0 = 110 → 
        P (some (.inl ((-1)))) sg) ∧
      (¬ (¬ y0 = 110) → 
        P (some (.inl 138)) sg)) ∧
    (¬ (y0 < 48) → 
      (58 ≤ y0 → 
        (¬ y0 = 110 → 
          P (some (.inl ((-1)))) sg) ∧
        (¬ (¬ y0 = 110) → 
          P (some (.inl 138)) sg)) ∧
      (¬ (58 ≤ y0) → 
        P (some (.inl ((128 + y0) - 48))) sg))) : g_12_17 y0 sg P := by
  show GoS rSkel 0 1 1 (some .int) false prog_3_method_9_code 17 [(0, .inl y0)] [] sg P
  refine gs0 18 [(0, .inl y0)] [.inl y0] dM_12_17 (fun _ => rfl) (Or.inr rfl) ?_
  refine gs0 20 [(0, .inl y0)] [.inl 48, .inl y0] dM_12_18 (fun _ => rfl) (Or.inr rfl) ?_
  refine gsIf (t := 38) (C := y0 < 48) (r := []) dM_12_20 (fun _ => rfl) (Or.inr rfl) (rTest_iff .lt y0 48) (fun c3 => ?_) (fun c3 => ?_)
  · replace h := h.1 c3
    refine gs0 39 [(0, .inl y0)] [.inl y0] dM_12_38 (fun _ => rfl) (Or.inr rfl) ?_
    refine gs0 41 [(0, .inl y0)] [.inl 110, .inl y0] dM_12_39 (fun _ => rfl) (Or.inr rfl) ?_
    refine gsIf (t := 50) (C := ¬ y0 = 110) (r := []) dM_12_41 (fun _ => rfl) (Or.inr rfl) (rTest_iff .ne y0 110) (fun c4 => ?_) (fun c4 => ?_)
    · replace h := h.1 c4
      refine gs0 51 [(0, .inl y0)] [.inl ((-1))] dM_12_50 (fun _ => rfl) (Or.inr rfl) ?_
      refine gsRet (r := some (.inl ((-1)))) dM_12_51 (fun _ => rfl) (Or.inr rfl) ?_
      exact h
    · replace h := h.2 c4
      refine gs0 47 [(0, .inl y0)] [.inl 138] dM_12_44 (fun _ => rfl) (Or.inr rfl) ?_
      refine gs0 51 [(0, .inl y0)] [.inl 138] dM_12_47 (fun _ => rfl) (Or.inr rfl) ?_
      refine gsRet (r := some (.inl 138)) dM_12_51 (fun _ => rfl) (Or.inr rfl) ?_
      exact h
  · replace h := h.2 c3
    refine gs0 24 [(0, .inl y0)] [.inl y0] dM_12_23 (fun _ => rfl) (Or.inr rfl) ?_
    refine gs0 26 [(0, .inl y0)] [.inl 58, .inl y0] dM_12_24 (fun _ => rfl) (Or.inr rfl) ?_
    refine gsIf (t := 38) (C := 58 ≤ y0) (r := []) dM_12_26 (fun _ => rfl) (Or.inr rfl) (rTest_iff .ge y0 58) (fun c5 => ?_) (fun c5 => ?_)
    · replace h := h.1 c5
      refine gs0 39 [(0, .inl y0)] [.inl y0] dM_12_38 (fun _ => rfl) (Or.inr rfl) ?_
      refine gs0 41 [(0, .inl y0)] [.inl 110, .inl y0] dM_12_39 (fun _ => rfl) (Or.inr rfl) ?_
      refine gsIf (t := 50) (C := ¬ y0 = 110) (r := []) dM_12_41 (fun _ => rfl) (Or.inr rfl) (rTest_iff .ne y0 110) (fun c6 => ?_) (fun c6 => ?_)
      · replace h := h.1 c6
        refine gs0 51 [(0, .inl y0)] [.inl ((-1))] dM_12_50 (fun _ => rfl) (Or.inr rfl) ?_
        refine gsRet (r := some (.inl ((-1)))) dM_12_51 (fun _ => rfl) (Or.inr rfl) ?_
        exact h
      · replace h := h.2 c6
        refine gs0 47 [(0, .inl y0)] [.inl 138] dM_12_44 (fun _ => rfl) (Or.inr rfl) ?_
        refine gs0 51 [(0, .inl y0)] [.inl 138] dM_12_47 (fun _ => rfl) (Or.inr rfl) ?_
        refine gsRet (r := some (.inl 138)) dM_12_51 (fun _ => rfl) (Or.inr rfl) ?_
        exact h
    · replace h := h.2 c5
      refine gs0 32 [(0, .inl y0)] [.inl 128] dM_12_29 (fun _ => rfl) (Or.inr rfl) ?_
      refine gs0 33 [(0, .inl y0)] [.inl y0, .inl 128] dM_12_32 (fun _ => rfl) (Or.inr rfl) ?_
      refine gs0 34 [(0, .inl y0)] [.inl (128 + y0)] dM_12_33 (fun _ => rfl) (Or.inr rfl) ?_
      refine gs0 36 [(0, .inl y0)] [.inl 48, .inl (128 + y0)] dM_12_34 (fun _ => rfl) (Or.inr rfl) ?_
      refine gs0 37 [(0, .inl y0)] [.inl ((128 + y0) - 48)] dM_12_36 (fun _ => rfl) (Or.inr rfl) ?_
      refine gsRet (r := some (.inl ((128 + y0) - 48))) dM_12_37 (fun _ => rfl) (Or.inr rfl) ?_
      exact h
set_option maxRecDepth 100000 in
/-- GoalsInAQueue$Reader.termOf -/
theorem w_12 (sg : rSg) (x0 : Int32) {P : Option rv → rSg → Prop} (h :
    (x0 < 97 → 
      g_12_17 x0 sg P) ∧
    (¬ (x0 < 97) → 
      (103 ≤ x0 → 
        g_12_17 x0 sg P) ∧
      (¬ (103 ≤ x0) → 
        P (some (.inl (x0 - 97))) sg))) : EvS rSkel 1 12 [.inl x0] sg P := by
  refine EvS.of (ini := false) rfl ⟨rfl, Nat.le_of_ble_eq_true rfl⟩ rfl ?_
  show GoS rSkel 0 1 1 (some .int) false prog_3_method_9_code 0 [(0, .inl x0)] [] sg _
  refine gs0 1 [(0, .inl x0)] [.inl x0] dM_12_0 (fun _ => rfl) (Or.inr rfl) ?_
  refine gs0 3 [(0, .inl x0)] [.inl 97, .inl x0] dM_12_1 (fun _ => rfl) (Or.inr rfl) ?_
  refine gsIf (t := 17) (C := x0 < 97) (r := []) dM_12_3 (fun _ => rfl) (Or.inr rfl) (rTest_iff .lt x0 97) (fun c1 => ?_) (fun c1 => ?_)
  · replace h := h.1 c1
    exact GoS.sub (Lnd_keys (ks := [0]) rfl (by decide)) (Lsub_cons rfl Lsub_nil) h
  · replace h := h.2 c1
    refine gs0 7 [(0, .inl x0)] [.inl x0] dM_12_6 (fun _ => rfl) (Or.inr rfl) ?_
    refine gs0 9 [(0, .inl x0)] [.inl 103, .inl x0] dM_12_7 (fun _ => rfl) (Or.inr rfl) ?_
    refine gsIf (t := 17) (C := 103 ≤ x0) (r := []) dM_12_9 (fun _ => rfl) (Or.inr rfl) (rTest_iff .ge x0 103) (fun c2 => ?_) (fun c2 => ?_)
    · replace h := h.1 c2
      exact GoS.sub (Lnd_keys (ks := [0]) rfl (by decide)) (Lsub_cons rfl Lsub_nil) h
    · replace h := h.2 c2
      refine gs0 13 [(0, .inl x0)] [.inl x0] dM_12_12 (fun _ => rfl) (Or.inr rfl) ?_
      refine gs0 15 [(0, .inl x0)] [.inl 97, .inl x0] dM_12_13 (fun _ => rfl) (Or.inr rfl) ?_
      refine gs0 16 [(0, .inl x0)] [.inl (x0 - 97)] dM_12_15 (fun _ => rfl) (Or.inr rfl) ?_
      refine gsRet (r := some (.inl (x0 - 97))) dM_12_16 (fun _ => rfl) (Or.inr rfl) ?_
      exact h
set_option maxRecDepth 100000 in
/-- GoalsInAQueue$Row.isFull -/
theorem w_14 (sg : rSg) (r rn : Nat) (hr : isRow r rn) {P : Option rv → rSg → Prop} (h :
    ((sg r 1) < (Int32.ofNat rn) → 
      P (some (.inl 0)) sg) ∧
    (¬ ((sg r 1) < (Int32.ofNat rn)) → 
      P (some (.inl 1)) sg)) : EvS rSkel 1 14 [.inr (.inr (some r))] sg P := by
  refine EvS.of (ini := false) rfl ⟨rfl, Nat.le_of_ble_eq_true rfl⟩ rfl ?_
  show GoS rSkel 0 2 1 (some .boolean) false prog_4_method_2_code 0 [(0, .inr (.inr (some r)))] [] sg _
  have b_r := hr.1
  refine gs0 1 [(0, .inr (.inr (some r)))] [.inr (.inr (some r))] dM_14_0 (fun _ => rfl) (Or.inr rfl) ?_
  refine gsGetE (sg r 1) dM_14_1 hr.2.1 rfl rfl rfl ?_
  refine gs0 5 [(0, .inr (.inr (some r)))] [.inr (.inr (some r)), .inl (sg r 1)] dM_14_4 (fun _ => rfl) (Or.inr rfl) ?_
  refine gsGetR (some (r + 1)) dM_14_5 hr.2.1 rfl rfl ?_
  refine gsAlen dM_14_8 hr.2.2 ?_
  refine gsIf (t := 16) (C := (sg r 1) < (Int32.ofNat rn)) (r := []) dM_14_9 (fun _ => rfl) (Or.inr rfl) (rTest_iff .lt (sg r 1) (Int32.ofNat rn)) (fun c1 => ?_) (fun c1 => ?_)
  · replace h := h.1 c1
    refine gs0 17 [(0, .inr (.inr (some r)))] [.inl 0] dM_14_16 (fun _ => rfl) (Or.inr rfl) ?_
    refine gsRet (r := some (.inl 0)) dM_14_17 (fun _ => rfl) (Or.inr rfl) ?_
    exact h
  · replace h := h.2 c1
    refine gs0 13 [(0, .inr (.inr (some r)))] [.inl 1] dM_14_12 (fun _ => rfl) (Or.inr rfl) ?_
    refine gs0 17 [(0, .inr (.inr (some r)))] [.inl 1] dM_14_13 (fun _ => rfl) (Or.inr rfl) ?_
    refine gsRet (r := some (.inl 1)) dM_14_17 (fun _ => rfl) (Or.inr rfl) ?_
    exact h
set_option maxRecDepth 100000 in
/-- GoalsInAQueue$Row.add -/
theorem w_15 (sg : rSg) (r rn : Nat) (hr : isRow r rn) (x1 : Int32) {P : Option rv → rSg → Prop} (h :
    ((sg r 1) < 0 → 
      P (some (.inl (sg r 1))) sg) ∧
    (¬ ((sg r 1) < 0) → 
      ((Int32.ofNat rn) ≤ (sg r 1) → 
        P (some (.inl (sg r 1))) sg) ∧
      (¬ ((Int32.ofNat rn) ≤ (sg r 1)) → 
        (rIn (sg r 1) rn = true ∧
        P (some (.inl ((sg r 1) + 1))) (up2 (up2 sg (r + 1) ((sg r 1).toNatClampNeg) x1) r 1 ((sg r 1) + 1)))))) : EvS rSkel 1 15 [.inr (.inr (some r)), .inl x1] sg P := by
  refine EvS.of (ini := false) rfl ⟨rfl, Nat.le_of_ble_eq_true rfl⟩ rfl ?_
  show GoS rSkel 0 2 2 (some .int) false prog_4_method_3_code 0 [(0, .inr (.inr (some r))), (1, .inl x1)] [] sg _
  have b_r := hr.1
  refine gs0 1 [(0, .inr (.inr (some r))), (1, .inl x1)] [.inr (.inr (some r))] dM_15_0 (fun _ => rfl) (Or.inr rfl) ?_
  refine gsGetE (sg r 1) dM_15_1 hr.2.1 rfl rfl rfl ?_
  refine gsIf (t := 39) (C := (sg r 1) < 0) (r := []) dM_15_4 (fun _ => rfl) (Or.inr rfl) (rTest_iff .lt (sg r 1) 0) (fun c1 => ?_) (fun c1 => ?_)
  · replace h := h.1 c1
    refine gs0 40 [(0, .inr (.inr (some r))), (1, .inl x1)] [.inr (.inr (some r))] dM_15_39 (fun _ => rfl) (Or.inr rfl) ?_
    refine gsGetE (sg r 1) dM_15_40 hr.2.1 rfl rfl rfl ?_
    refine gsRet (r := some (.inl (sg r 1))) dM_15_43 (fun _ => rfl) (Or.inr rfl) ?_
    exact h
  · replace h := h.2 c1
    refine gs0 8 [(0, .inr (.inr (some r))), (1, .inl x1)] [.inr (.inr (some r))] dM_15_7 (fun _ => rfl) (Or.inr rfl) ?_
    refine gsGetE (sg r 1) dM_15_8 hr.2.1 rfl rfl rfl ?_
    refine gs0 12 [(0, .inr (.inr (some r))), (1, .inl x1)] [.inr (.inr (some r)), .inl (sg r 1)] dM_15_11 (fun _ => rfl) (Or.inr rfl) ?_
    refine gsGetR (some (r + 1)) dM_15_12 hr.2.1 rfl rfl ?_
    refine gsAlen dM_15_15 hr.2.2 ?_
    refine gsIf (t := 39) (C := (Int32.ofNat rn) ≤ (sg r 1)) (r := []) dM_15_16 (fun _ => rfl) (Or.inr rfl) (rTest_iff .ge (sg r 1) (Int32.ofNat rn)) (fun c2 => ?_) (fun c2 => ?_)
    · replace h := h.1 c2
      refine gs0 40 [(0, .inr (.inr (some r))), (1, .inl x1)] [.inr (.inr (some r))] dM_15_39 (fun _ => rfl) (Or.inr rfl) ?_
      refine gsGetE (sg r 1) dM_15_40 hr.2.1 rfl rfl rfl ?_
      refine gsRet (r := some (.inl (sg r 1))) dM_15_43 (fun _ => rfl) (Or.inr rfl) ?_
      exact h
    · replace h := h.2 c2
      refine gs0 20 [(0, .inr (.inr (some r))), (1, .inl x1)] [.inr (.inr (some r))] dM_15_19 (fun _ => rfl) (Or.inr rfl) ?_
      refine gsGetR (some (r + 1)) dM_15_20 hr.2.1 rfl rfl ?_
      refine gs0 24 [(0, .inr (.inr (some r))), (1, .inl x1)] [.inr (.inr (some r)), .inr (.inr (some (r + 1)))] dM_15_23 (fun _ => rfl) (Or.inr rfl) ?_
      refine gsGetE (sg r 1) dM_15_24 hr.2.1 rfl rfl rfl ?_
      refine gs0 28 [(0, .inr (.inr (some r))), (1, .inl x1)] [.inl x1, .inl (sg r 1), .inr (.inr (some (r + 1)))] dM_15_27 (fun _ => rfl) (Or.inr rfl) ?_
      refine gsIastN ((sg r 1).toNatClampNeg) dM_15_28 hr.2.2 h.1 rfl ?_
      replace h := h.2
      refine gs0 30 [(0, .inr (.inr (some r))), (1, .inl x1)] [.inr (.inr (some r))] dM_15_29 (fun _ => rfl) (Or.inr rfl) ?_
      refine gs0 31 [(0, .inr (.inr (some r))), (1, .inl x1)] [.inr (.inr (some r)), .inr (.inr (some r))] dM_15_30 (fun _ => rfl) (Or.inr rfl) ?_
      refine gsGetE (sg r 1) dM_15_31 hr.2.1 rfl rfl (congrFun (up2_nk _ _ _ (by omega)) _) ?_
      refine gs0 35 [(0, .inr (.inr (some r))), (1, .inl x1)] [.inl 1, .inl (sg r 1), .inr (.inr (some r))] dM_15_34 (fun _ => rfl) (Or.inr rfl) ?_
      refine gs0 36 [(0, .inr (.inr (some r))), (1, .inl x1)] [.inl ((sg r 1) + 1), .inr (.inr (some r))] dM_15_35 (fun _ => rfl) (Or.inr rfl) ?_
      refine gsPut dM_15_36 hr.2.1 rfl rfl rfl (by decide) ?_
      refine gs0 40 [(0, .inr (.inr (some r))), (1, .inl x1)] [.inr (.inr (some r))] dM_15_39 (fun _ => rfl) (Or.inr rfl) ?_
      refine gsGetE ((sg r 1) + 1) dM_15_40 hr.2.1 rfl rfl (up2_same _ _ _ _) ?_
      refine gsRet (r := some (.inl ((sg r 1) + 1))) dM_15_43 (fun _ => rfl) (Or.inr rfl) ?_
      exact h
set_option maxRecDepth 100000 in
/-- GoalsInAQueue$Row.size -/
theorem w_16 (sg : rSg) (r rn : Nat) (hr : isRow r rn) {P : Option rv → rSg → Prop} (h :
    P (some (.inl (sg r 1))) sg) : EvS rSkel 1 16 [.inr (.inr (some r))] sg P := by
  refine EvS.of (ini := false) rfl ⟨rfl, Nat.le_of_ble_eq_true rfl⟩ rfl ?_
  show GoS rSkel 0 2 1 (some .int) false prog_4_method_5_code 0 [(0, .inr (.inr (some r)))] [] sg _
  have b_r := hr.1
  refine gs0 1 [(0, .inr (.inr (some r)))] [.inr (.inr (some r))] dM_16_0 (fun _ => rfl) (Or.inr rfl) ?_
  refine gsGetE (sg r 1) dM_16_1 hr.2.1 rfl rfl rfl ?_
  refine gsRet (r := some (.inl (sg r 1))) dM_16_4 (fun _ => rfl) (Or.inr rfl) ?_
  exact h
set_option maxRecDepth 100000 in
/-- GoalsInAQueue$Row.at -/
theorem w_17 (sg : rSg) (r rn : Nat) (hr : isRow r rn) (x1 : Int32) {P : Option rv → rSg → Prop} (h :
    (x1 < 0 → 
      P (some (.inl ((-9)))) sg) ∧
    (¬ (x1 < 0) → 
      ((sg r 1) ≤ x1 → 
        P (some (.inl ((-9)))) sg) ∧
      (¬ ((sg r 1) ≤ x1) → 
        ((Int32.ofNat rn) ≤ x1 → 
          P (some (.inl ((-9)))) sg) ∧
        (¬ ((Int32.ofNat rn) ≤ x1) → 
          (rIn x1 rn = true ∧
          P (some (.inl (sg (r + 1) x1.toNatClampNeg))) sg))))) : EvS rSkel 1 17 [.inr (.inr (some r)), .inl x1] sg P := by
  refine EvS.of (ini := false) rfl ⟨rfl, Nat.le_of_ble_eq_true rfl⟩ rfl ?_
  show GoS rSkel 0 2 2 (some .int) false prog_4_method_4_code 0 [(0, .inr (.inr (some r))), (1, .inl x1)] [] sg _
  have b_r := hr.1
  refine gs0 1 [(0, .inr (.inr (some r))), (1, .inl x1)] [.inl x1] dM_17_0 (fun _ => rfl) (Or.inr rfl) ?_
  refine gsIf (t := 30) (C := x1 < 0) (r := []) dM_17_1 (fun _ => rfl) (Or.inr rfl) (rTest_iff .lt x1 0) (fun c1 => ?_) (fun c1 => ?_)
  · replace h := h.1 c1
    refine gs0 32 [(0, .inr (.inr (some r))), (1, .inl x1)] [.inl ((-9))] dM_17_30 (fun _ => rfl) (Or.inr rfl) ?_
    refine gsRet (r := some (.inl ((-9)))) dM_17_32 (fun _ => rfl) (Or.inr rfl) ?_
    exact h
  · replace h := h.2 c1
    refine gs0 5 [(0, .inr (.inr (some r))), (1, .inl x1)] [.inl x1] dM_17_4 (fun _ => rfl) (Or.inr rfl) ?_
    refine gs0 6 [(0, .inr (.inr (some r))), (1, .inl x1)] [.inr (.inr (some r)), .inl x1] dM_17_5 (fun _ => rfl) (Or.inr rfl) ?_
    refine gsGetE (sg r 1) dM_17_6 hr.2.1 rfl rfl rfl ?_
    refine gsIf (t := 30) (C := (sg r 1) ≤ x1) (r := []) dM_17_9 (fun _ => rfl) (Or.inr rfl) (rTest_iff .ge x1 (sg r 1)) (fun c2 => ?_) (fun c2 => ?_)
    · replace h := h.1 c2
      refine gs0 32 [(0, .inr (.inr (some r))), (1, .inl x1)] [.inl ((-9))] dM_17_30 (fun _ => rfl) (Or.inr rfl) ?_
      refine gsRet (r := some (.inl ((-9)))) dM_17_32 (fun _ => rfl) (Or.inr rfl) ?_
      exact h
    · replace h := h.2 c2
      refine gs0 13 [(0, .inr (.inr (some r))), (1, .inl x1)] [.inl x1] dM_17_12 (fun _ => rfl) (Or.inr rfl) ?_
      refine gs0 14 [(0, .inr (.inr (some r))), (1, .inl x1)] [.inr (.inr (some r)), .inl x1] dM_17_13 (fun _ => rfl) (Or.inr rfl) ?_
      refine gsGetR (some (r + 1)) dM_17_14 hr.2.1 rfl rfl ?_
      refine gsAlen dM_17_17 hr.2.2 ?_
      refine gsIf (t := 30) (C := (Int32.ofNat rn) ≤ x1) (r := []) dM_17_18 (fun _ => rfl) (Or.inr rfl) (rTest_iff .ge x1 (Int32.ofNat rn)) (fun c3 => ?_) (fun c3 => ?_)
      · replace h := h.1 c3
        refine gs0 32 [(0, .inr (.inr (some r))), (1, .inl x1)] [.inl ((-9))] dM_17_30 (fun _ => rfl) (Or.inr rfl) ?_
        refine gsRet (r := some (.inl ((-9)))) dM_17_32 (fun _ => rfl) (Or.inr rfl) ?_
        exact h
      · replace h := h.2 c3
        refine gs0 22 [(0, .inr (.inr (some r))), (1, .inl x1)] [.inr (.inr (some r))] dM_17_21 (fun _ => rfl) (Or.inr rfl) ?_
        refine gsGetR (some (r + 1)) dM_17_22 hr.2.1 rfl rfl ?_
        refine gs0 26 [(0, .inr (.inr (some r))), (1, .inl x1)] [.inl x1, .inr (.inr (some (r + 1)))] dM_17_25 (fun _ => rfl) (Or.inr rfl) ?_
        refine gsIaldN x1.toNatClampNeg (sg (r + 1) x1.toNatClampNeg) dM_17_26 hr.2.2 h.1 rfl rfl ?_
        replace h := h.2
        refine gs0 32 [(0, .inr (.inr (some r))), (1, .inl x1)] [.inl (sg (r + 1) x1.toNatClampNeg)] dM_17_27 (fun _ => rfl) (Or.inr rfl) ?_
        refine gsRet (r := some (.inl (sg (r + 1) x1.toNatClampNeg))) dM_17_32 (fun _ => rfl) (Or.inr rfl) ?_
        exact h
set_option maxRecDepth 100000 in
/-- GoalsInAQueue$Row.empty -/
theorem w_18 (sg : rSg) (r rn : Nat) (hr : isRow r rn) {P : Option rv → rSg → Prop} (h :
    P none (up2 sg r 1 0)) : EvS rSkel 1 18 [.inr (.inr (some r))] sg P := by
  refine EvS.of (ini := false) rfl ⟨rfl, Nat.le_of_ble_eq_true rfl⟩ rfl ?_
  show GoS rSkel 0 2 1 none false prog_4_method_6_code 0 [(0, .inr (.inr (some r)))] [] sg _
  have b_r := hr.1
  refine gs0 1 [(0, .inr (.inr (some r)))] [.inr (.inr (some r))] dM_18_0 (fun _ => rfl) (Or.inr rfl) ?_
  refine gs0 2 [(0, .inr (.inr (some r)))] [.inl 0, .inr (.inr (some r))] dM_18_1 (fun _ => rfl) (Or.inr rfl) ?_
  refine gsPut dM_18_2 hr.2.1 rfl rfl rfl (by decide) ?_
  refine gsRet (r := none) dM_18_5 (fun _ => rfl) (Or.inr rfl) ?_
  exact h
set_option maxRecDepth 100000 in
/-- GoalsInAQueue$Script.wipe -/
theorem w_20 (sg : rSg) (s : Nat) (hs : isScr s) {P : Option rv → rSg → Prop} (h :
    P none (up2 (up2 sg s 3 0) s 4 0)) : EvS rSkel 1 20 [.inr (.inr (some s))] sg P := by
  refine EvS.of (ini := false) rfl ⟨rfl, Nat.le_of_ble_eq_true rfl⟩ rfl ?_
  show GoS rSkel 0 3 1 none false prog_5_method_2_code 0 [(0, .inr (.inr (some s)))] [] sg _
  have b_s := hs.1
  refine gs0 1 [(0, .inr (.inr (some s)))] [.inr (.inr (some s))] dM_20_0 (fun _ => rfl) (Or.inr rfl) ?_
  refine gs0 2 [(0, .inr (.inr (some s)))] [.inl 0, .inr (.inr (some s))] dM_20_1 (fun _ => rfl) (Or.inr rfl) ?_
  refine gsPut dM_20_2 hs.2.1 rfl rfl rfl (by decide) ?_
  refine gs0 6 [(0, .inr (.inr (some s)))] [.inr (.inr (some s))] dM_20_5 (fun _ => rfl) (Or.inr rfl) ?_
  refine gs0 7 [(0, .inr (.inr (some s)))] [.inl 0, .inr (.inr (some s))] dM_20_6 (fun _ => rfl) (Or.inr rfl) ?_
  refine gsPut dM_20_7 hs.2.1 rfl rfl rfl (by decide) ?_
  refine gsRet (r := none) dM_20_10 (fun _ => rfl) (Or.inr rfl) ?_
  exact h
set_option maxRecDepth 100000 in
/-- GoalsInAQueue$Script.addGoal -/
theorem w_21 (sg : rSg) (s : Nat) (hs : isScr s) (x1 : Int32) {P : Option rv → rSg → Prop} (h :
    ((sg s 3) < 0 → 
      P (some (.inl ((-1)))) sg) ∧
    (¬ ((sg s 3) < 0) → 
      ((sg s 3) < 326 → 
        (rIn (sg s 3) 326 = true ∧
        P (some (.inl (((sg s 3) + 1) - 1))) (up2 (up2 sg (s + 1) ((sg s 3).toNatClampNeg) x1) s 3 ((sg s 3) + 1)))) ∧
      (¬ ((sg s 3) < 326) → 
        P (some (.inl ((-1)))) sg))) : EvS rSkel 1 21 [.inr (.inr (some s)), .inl x1] sg P := by
  refine EvS.of (ini := false) rfl ⟨rfl, Nat.le_of_ble_eq_true rfl⟩ rfl ?_
  show GoS rSkel 0 3 2 (some .int) false prog_5_method_7_code 0 [(0, .inr (.inr (some s))), (1, .inl x1)] [] sg _
  have b_s := hs.1
  refine gs0 1 [(0, .inr (.inr (some s))), (1, .inl x1)] [.inr (.inr (some s))] dM_21_0 (fun _ => rfl) (Or.inr rfl) ?_
  refine gsGetE (sg s 3) dM_21_1 hs.2.1 rfl rfl rfl ?_
  refine gsIf (t := 17) (C := (sg s 3) < 0) (r := []) dM_21_4 (fun _ => rfl) (Or.inr rfl) (rTest_iff .lt (sg s 3) 0) (fun c1 => ?_) (fun c1 => ?_)
  · replace h := h.1 c1
    refine gs0 18 [(0, .inr (.inr (some s))), (1, .inl x1)] [.inl ((-1))] dM_21_17 (fun _ => rfl) (Or.inr rfl) ?_
    refine gsRet (r := some (.inl ((-1)))) dM_21_18 (fun _ => rfl) (Or.inr rfl) ?_
    exact h
  · replace h := h.2 c1
    refine gs0 8 [(0, .inr (.inr (some s))), (1, .inl x1)] [.inr (.inr (some s))] dM_21_7 (fun _ => rfl) (Or.inr rfl) ?_
    refine gsGetE (sg s 3) dM_21_8 hs.2.1 rfl rfl rfl ?_
    refine gs0 14 [(0, .inr (.inr (some s))), (1, .inl x1)] [.inl 326, .inl (sg s 3)] dM_21_11 (fun _ => rfl) (Or.inr rfl) ?_
    refine gsIf (t := 19) (C := (sg s 3) < 326) (r := []) dM_21_14 (fun _ => rfl) (Or.inr rfl) (rTest_iff .lt (sg s 3) 326) (fun c2 => ?_) (fun c2 => ?_)
    · replace h := h.1 c2
      refine gs0 20 [(0, .inr (.inr (some s))), (1, .inl x1)] [.inr (.inr (some s))] dM_21_19 (fun _ => rfl) (Or.inr rfl) ?_
      refine gsGetR (some (s + 1)) dM_21_20 hs.2.1 rfl rfl ?_
      refine gs0 24 [(0, .inr (.inr (some s))), (1, .inl x1)] [.inr (.inr (some s)), .inr (.inr (some (s + 1)))] dM_21_23 (fun _ => rfl) (Or.inr rfl) ?_
      refine gsGetE (sg s 3) dM_21_24 hs.2.1 rfl rfl rfl ?_
      refine gs0 28 [(0, .inr (.inr (some s))), (1, .inl x1)] [.inl x1, .inl (sg s 3), .inr (.inr (some (s + 1)))] dM_21_27 (fun _ => rfl) (Or.inr rfl) ?_
      refine gsIastN ((sg s 3).toNatClampNeg) dM_21_28 hs.2.2.1 h.1 rfl ?_
      replace h := h.2
      refine gs0 30 [(0, .inr (.inr (some s))), (1, .inl x1)] [.inr (.inr (some s))] dM_21_29 (fun _ => rfl) (Or.inr rfl) ?_
      refine gs0 31 [(0, .inr (.inr (some s))), (1, .inl x1)] [.inr (.inr (some s)), .inr (.inr (some s))] dM_21_30 (fun _ => rfl) (Or.inr rfl) ?_
      refine gsGetE (sg s 3) dM_21_31 hs.2.1 rfl rfl (congrFun (up2_nk _ _ _ (by omega)) _) ?_
      refine gs0 35 [(0, .inr (.inr (some s))), (1, .inl x1)] [.inl 1, .inl (sg s 3), .inr (.inr (some s))] dM_21_34 (fun _ => rfl) (Or.inr rfl) ?_
      refine gs0 36 [(0, .inr (.inr (some s))), (1, .inl x1)] [.inl ((sg s 3) + 1), .inr (.inr (some s))] dM_21_35 (fun _ => rfl) (Or.inr rfl) ?_
      refine gsPut dM_21_36 hs.2.1 rfl rfl rfl (by decide) ?_
      refine gs0 40 [(0, .inr (.inr (some s))), (1, .inl x1)] [.inr (.inr (some s))] dM_21_39 (fun _ => rfl) (Or.inr rfl) ?_
      refine gsGetE ((sg s 3) + 1) dM_21_40 hs.2.1 rfl rfl (up2_same _ _ _ _) ?_
      refine gs0 44 [(0, .inr (.inr (some s))), (1, .inl x1)] [.inl 1, .inl ((sg s 3) + 1)] dM_21_43 (fun _ => rfl) (Or.inr rfl) ?_
      refine gs0 45 [(0, .inr (.inr (some s))), (1, .inl x1)] [.inl (((sg s 3) + 1) - 1)] dM_21_44 (fun _ => rfl) (Or.inr rfl) ?_
      refine gsRet (r := some (.inl (((sg s 3) + 1) - 1))) dM_21_45 (fun _ => rfl) (Or.inr rfl) ?_
      exact h
    · replace h := h.2 c2
      refine gs0 18 [(0, .inr (.inr (some s))), (1, .inl x1)] [.inl ((-1))] dM_21_17 (fun _ => rfl) (Or.inr rfl) ?_
      refine gsRet (r := some (.inl ((-1)))) dM_21_18 (fun _ => rfl) (Or.inr rfl) ?_
      exact h
set_option maxRecDepth 100000 in
/-- GoalsInAQueue$Script.setPart -/
theorem w_22 (sg : rSg) (s : Nat) (hs : isScr s) (x1 : Int32) (x2 : Int32) (x3 : Int32) {P : Option rv → rSg → Prop} (h :
    (x1 < 0 → 
      P none sg) ∧
    (¬ (x1 < 0) → 
      (326 ≤ x1 → 
        P none sg) ∧
      (¬ (326 ≤ x1) → 
        (x2 < 0 → 
          P none sg) ∧
        (¬ (x2 < 0) → 
          (3 ≤ x2 → 
            P none sg) ∧
          (¬ (3 ≤ x2) → 
            (rIn ((3 * x1) + x2) 978 = true ∧
            P none (up2 sg (s + 2) (((3 * x1) + x2).toNatClampNeg) x3))))))) : EvS rSkel 1 22 [.inr (.inr (some s)), .inl x1, .inl x2, .inl x3] sg P := by
  refine EvS.of (ini := false) rfl ⟨rfl, Nat.le_of_ble_eq_true rfl⟩ rfl ?_
  show GoS rSkel 0 3 4 none false prog_5_method_9_code 0 [(0, .inr (.inr (some s))), (1, .inl x1), (2, .inl x2), (3, .inl x3)] [] sg _
  have b_s := hs.1
  refine gs0 1 [(0, .inr (.inr (some s))), (1, .inl x1), (2, .inl x2), (3, .inl x3)] [.inl x1] dM_22_0 (fun _ => rfl) (Or.inr rfl) ?_
  refine gsIf (t := 31) (C := x1 < 0) (r := []) dM_22_1 (fun _ => rfl) (Or.inr rfl) (rTest_iff .lt x1 0) (fun c1 => ?_) (fun c1 => ?_)
  · replace h := h.1 c1
    refine gsRet (r := none) dM_22_31 (fun _ => rfl) (Or.inr rfl) ?_
    exact h
  · replace h := h.2 c1
    refine gs0 5 [(0, .inr (.inr (some s))), (1, .inl x1), (2, .inl x2), (3, .inl x3)] [.inl x1] dM_22_4 (fun _ => rfl) (Or.inr rfl) ?_
    refine gs0 8 [(0, .inr (.inr (some s))), (1, .inl x1), (2, .inl x2), (3, .inl x3)] [.inl 326, .inl x1] dM_22_5 (fun _ => rfl) (Or.inr rfl) ?_
    refine gsIf (t := 31) (C := 326 ≤ x1) (r := []) dM_22_8 (fun _ => rfl) (Or.inr rfl) (rTest_iff .ge x1 326) (fun c2 => ?_) (fun c2 => ?_)
    · replace h := h.1 c2
      refine gsRet (r := none) dM_22_31 (fun _ => rfl) (Or.inr rfl) ?_
      exact h
    · replace h := h.2 c2
      refine gs0 12 [(0, .inr (.inr (some s))), (1, .inl x1), (2, .inl x2), (3, .inl x3)] [.inl x2] dM_22_11 (fun _ => rfl) (Or.inr rfl) ?_
      refine gsIf (t := 31) (C := x2 < 0) (r := []) dM_22_12 (fun _ => rfl) (Or.inr rfl) (rTest_iff .lt x2 0) (fun c3 => ?_) (fun c3 => ?_)
      · replace h := h.1 c3
        refine gsRet (r := none) dM_22_31 (fun _ => rfl) (Or.inr rfl) ?_
        exact h
      · replace h := h.2 c3
        refine gs0 16 [(0, .inr (.inr (some s))), (1, .inl x1), (2, .inl x2), (3, .inl x3)] [.inl x2] dM_22_15 (fun _ => rfl) (Or.inr rfl) ?_
        refine gs0 17 [(0, .inr (.inr (some s))), (1, .inl x1), (2, .inl x2), (3, .inl x3)] [.inl 3, .inl x2] dM_22_16 (fun _ => rfl) (Or.inr rfl) ?_
        refine gsIf (t := 31) (C := 3 ≤ x2) (r := []) dM_22_17 (fun _ => rfl) (Or.inr rfl) (rTest_iff .ge x2 3) (fun c4 => ?_) (fun c4 => ?_)
        · replace h := h.1 c4
          refine gsRet (r := none) dM_22_31 (fun _ => rfl) (Or.inr rfl) ?_
          exact h
        · replace h := h.2 c4
          refine gs0 21 [(0, .inr (.inr (some s))), (1, .inl x1), (2, .inl x2), (3, .inl x3)] [.inr (.inr (some s))] dM_22_20 (fun _ => rfl) (Or.inr rfl) ?_
          refine gsGetR (some (s + 2)) dM_22_21 hs.2.1 rfl rfl ?_
          refine gs0 25 [(0, .inr (.inr (some s))), (1, .inl x1), (2, .inl x2), (3, .inl x3)] [.inl 3, .inr (.inr (some (s + 2)))] dM_22_24 (fun _ => rfl) (Or.inr rfl) ?_
          refine gs0 26 [(0, .inr (.inr (some s))), (1, .inl x1), (2, .inl x2), (3, .inl x3)] [.inl x1, .inl 3, .inr (.inr (some (s + 2)))] dM_22_25 (fun _ => rfl) (Or.inr rfl) ?_
          refine gs0 27 [(0, .inr (.inr (some s))), (1, .inl x1), (2, .inl x2), (3, .inl x3)] [.inl (3 * x1), .inr (.inr (some (s + 2)))] dM_22_26 (fun _ => rfl) (Or.inr rfl) ?_
          refine gs0 28 [(0, .inr (.inr (some s))), (1, .inl x1), (2, .inl x2), (3, .inl x3)] [.inl x2, .inl (3 * x1), .inr (.inr (some (s + 2)))] dM_22_27 (fun _ => rfl) (Or.inr rfl) ?_
          refine gs0 29 [(0, .inr (.inr (some s))), (1, .inl x1), (2, .inl x2), (3, .inl x3)] [.inl ((3 * x1) + x2), .inr (.inr (some (s + 2)))] dM_22_28 (fun _ => rfl) (Or.inr rfl) ?_
          refine gs0 30 [(0, .inr (.inr (some s))), (1, .inl x1), (2, .inl x2), (3, .inl x3)] [.inl x3, .inl ((3 * x1) + x2), .inr (.inr (some (s + 2)))] dM_22_29 (fun _ => rfl) (Or.inr rfl) ?_
          refine gsIastN (((3 * x1) + x2).toNatClampNeg) dM_22_30 hs.2.2.2.1 h.1 rfl ?_
          replace h := h.2
          refine gsRet (r := none) dM_22_31 (fun _ => rfl) (Or.inr rfl) ?_
          exact h
set_option maxRecDepth 100000 in
/-- GoalsInAQueue$Script.addPair -/
theorem w_23 (sg : rSg) (s : Nat) (hs : isScr s) (x1 : Int32) (x2 : Int32) {P : Option rv → rSg → Prop} (h :
    ((sg s 4) < 0 → 
      P (some (.inl 138)) sg) ∧
    (¬ ((sg s 4) < 0) → 
      ((sg s 4) < 640 → 
        (rIn (2 * (sg s 4)) 1280 = true ∧
        rIn ((2 * (sg s 4)) + 1) 1280 = true ∧
        P (some (.inl ((256 + ((sg s 4) + 1)) - 1))) (up2 (up2 (up2 sg (s + 3) ((2 * (sg s 4)).toNatClampNeg) x1) (s + 3) (((2 * (sg s 4)) + 1).toNatClampNeg) x2) s 4 ((sg s 4) + 1)))) ∧
      (¬ ((sg s 4) < 640) → 
        P (some (.inl 138)) sg))) : EvS rSkel 1 23 [.inr (.inr (some s)), .inl x1, .inl x2] sg P := by
  refine EvS.of (ini := false) rfl ⟨rfl, Nat.le_of_ble_eq_true rfl⟩ rfl ?_
  show GoS rSkel 0 3 3 (some .int) false prog_5_method_8_code 0 [(0, .inr (.inr (some s))), (1, .inl x1), (2, .inl x2)] [] sg _
  have b_s := hs.1
  refine gs0 1 [(0, .inr (.inr (some s))), (1, .inl x1), (2, .inl x2)] [.inr (.inr (some s))] dM_23_0 (fun _ => rfl) (Or.inr rfl) ?_
  refine gsGetE (sg s 4) dM_23_1 hs.2.1 rfl rfl rfl ?_
  refine gsIf (t := 17) (C := (sg s 4) < 0) (r := []) dM_23_4 (fun _ => rfl) (Or.inr rfl) (rTest_iff .lt (sg s 4) 0) (fun c1 => ?_) (fun c1 => ?_)
  · replace h := h.1 c1
    refine gs0 20 [(0, .inr (.inr (some s))), (1, .inl x1), (2, .inl x2)] [.inl 138] dM_23_17 (fun _ => rfl) (Or.inr rfl) ?_
    refine gsRet (r := some (.inl 138)) dM_23_20 (fun _ => rfl) (Or.inr rfl) ?_
    exact h
  · replace h := h.2 c1
    refine gs0 8 [(0, .inr (.inr (some s))), (1, .inl x1), (2, .inl x2)] [.inr (.inr (some s))] dM_23_7 (fun _ => rfl) (Or.inr rfl) ?_
    refine gsGetE (sg s 4) dM_23_8 hs.2.1 rfl rfl rfl ?_
    refine gs0 14 [(0, .inr (.inr (some s))), (1, .inl x1), (2, .inl x2)] [.inl 640, .inl (sg s 4)] dM_23_11 (fun _ => rfl) (Or.inr rfl) ?_
    refine gsIf (t := 21) (C := (sg s 4) < 640) (r := []) dM_23_14 (fun _ => rfl) (Or.inr rfl) (rTest_iff .lt (sg s 4) 640) (fun c2 => ?_) (fun c2 => ?_)
    · replace h := h.1 c2
      refine gs0 22 [(0, .inr (.inr (some s))), (1, .inl x1), (2, .inl x2)] [.inr (.inr (some s))] dM_23_21 (fun _ => rfl) (Or.inr rfl) ?_
      refine gsGetR (some (s + 3)) dM_23_22 hs.2.1 rfl rfl ?_
      refine gs0 26 [(0, .inr (.inr (some s))), (1, .inl x1), (2, .inl x2)] [.inl 2, .inr (.inr (some (s + 3)))] dM_23_25 (fun _ => rfl) (Or.inr rfl) ?_
      refine gs0 27 [(0, .inr (.inr (some s))), (1, .inl x1), (2, .inl x2)] [.inr (.inr (some s)), .inl 2, .inr (.inr (some (s + 3)))] dM_23_26 (fun _ => rfl) (Or.inr rfl) ?_
      refine gsGetE (sg s 4) dM_23_27 hs.2.1 rfl rfl rfl ?_
      refine gs0 31 [(0, .inr (.inr (some s))), (1, .inl x1), (2, .inl x2)] [.inl (2 * (sg s 4)), .inr (.inr (some (s + 3)))] dM_23_30 (fun _ => rfl) (Or.inr rfl) ?_
      refine gs0 32 [(0, .inr (.inr (some s))), (1, .inl x1), (2, .inl x2)] [.inl x1, .inl (2 * (sg s 4)), .inr (.inr (some (s + 3)))] dM_23_31 (fun _ => rfl) (Or.inr rfl) ?_
      refine gsIastN ((2 * (sg s 4)).toNatClampNeg) dM_23_32 hs.2.2.2.2 h.1 rfl ?_
      replace h := h.2
      refine gs0 34 [(0, .inr (.inr (some s))), (1, .inl x1), (2, .inl x2)] [.inr (.inr (some s))] dM_23_33 (fun _ => rfl) (Or.inr rfl) ?_
      refine gsGetR (some (s + 3)) dM_23_34 hs.2.1 rfl rfl ?_
      refine gs0 38 [(0, .inr (.inr (some s))), (1, .inl x1), (2, .inl x2)] [.inl 2, .inr (.inr (some (s + 3)))] dM_23_37 (fun _ => rfl) (Or.inr rfl) ?_
      refine gs0 39 [(0, .inr (.inr (some s))), (1, .inl x1), (2, .inl x2)] [.inr (.inr (some s)), .inl 2, .inr (.inr (some (s + 3)))] dM_23_38 (fun _ => rfl) (Or.inr rfl) ?_
      refine gsGetE (sg s 4) dM_23_39 hs.2.1 rfl rfl (congrFun (up2_nk _ _ _ (by omega)) _) ?_
      refine gs0 43 [(0, .inr (.inr (some s))), (1, .inl x1), (2, .inl x2)] [.inl (2 * (sg s 4)), .inr (.inr (some (s + 3)))] dM_23_42 (fun _ => rfl) (Or.inr rfl) ?_
      refine gs0 44 [(0, .inr (.inr (some s))), (1, .inl x1), (2, .inl x2)] [.inl 1, .inl (2 * (sg s 4)), .inr (.inr (some (s + 3)))] dM_23_43 (fun _ => rfl) (Or.inr rfl) ?_
      refine gs0 45 [(0, .inr (.inr (some s))), (1, .inl x1), (2, .inl x2)] [.inl ((2 * (sg s 4)) + 1), .inr (.inr (some (s + 3)))] dM_23_44 (fun _ => rfl) (Or.inr rfl) ?_
      refine gs0 46 [(0, .inr (.inr (some s))), (1, .inl x1), (2, .inl x2)] [.inl x2, .inl ((2 * (sg s 4)) + 1), .inr (.inr (some (s + 3)))] dM_23_45 (fun _ => rfl) (Or.inr rfl) ?_
      refine gsIastN (((2 * (sg s 4)) + 1).toNatClampNeg) dM_23_46 hs.2.2.2.2 h.1 rfl ?_
      replace h := h.2
      refine gs0 48 [(0, .inr (.inr (some s))), (1, .inl x1), (2, .inl x2)] [.inr (.inr (some s))] dM_23_47 (fun _ => rfl) (Or.inr rfl) ?_
      refine gs0 49 [(0, .inr (.inr (some s))), (1, .inl x1), (2, .inl x2)] [.inr (.inr (some s)), .inr (.inr (some s))] dM_23_48 (fun _ => rfl) (Or.inr rfl) ?_
      refine gsGetE (sg s 4) dM_23_49 hs.2.1 rfl rfl ((congrFun (up2_nk _ _ _ (by omega)) _).trans (congrFun (up2_nk _ _ _ (by omega)) _)) ?_
      refine gs0 53 [(0, .inr (.inr (some s))), (1, .inl x1), (2, .inl x2)] [.inl 1, .inl (sg s 4), .inr (.inr (some s))] dM_23_52 (fun _ => rfl) (Or.inr rfl) ?_
      refine gs0 54 [(0, .inr (.inr (some s))), (1, .inl x1), (2, .inl x2)] [.inl ((sg s 4) + 1), .inr (.inr (some s))] dM_23_53 (fun _ => rfl) (Or.inr rfl) ?_
      refine gsPut dM_23_54 hs.2.1 rfl rfl rfl (by decide) ?_
      refine gs0 60 [(0, .inr (.inr (some s))), (1, .inl x1), (2, .inl x2)] [.inl 256] dM_23_57 (fun _ => rfl) (Or.inr rfl) ?_
      refine gs0 61 [(0, .inr (.inr (some s))), (1, .inl x1), (2, .inl x2)] [.inr (.inr (some s)), .inl 256] dM_23_60 (fun _ => rfl) (Or.inr rfl) ?_
      refine gsGetE ((sg s 4) + 1) dM_23_61 hs.2.1 rfl rfl (up2_same _ _ _ _) ?_
      refine gs0 65 [(0, .inr (.inr (some s))), (1, .inl x1), (2, .inl x2)] [.inl (256 + ((sg s 4) + 1))] dM_23_64 (fun _ => rfl) (Or.inr rfl) ?_
      refine gs0 66 [(0, .inr (.inr (some s))), (1, .inl x1), (2, .inl x2)] [.inl 1, .inl (256 + ((sg s 4) + 1))] dM_23_65 (fun _ => rfl) (Or.inr rfl) ?_
      refine gs0 67 [(0, .inr (.inr (some s))), (1, .inl x1), (2, .inl x2)] [.inl ((256 + ((sg s 4) + 1)) - 1)] dM_23_66 (fun _ => rfl) (Or.inr rfl) ?_
      refine gsRet (r := some (.inl ((256 + ((sg s 4) + 1)) - 1))) dM_23_67 (fun _ => rfl) (Or.inr rfl) ?_
      exact h
    · replace h := h.2 c2
      refine gs0 20 [(0, .inr (.inr (some s))), (1, .inl x1), (2, .inl x2)] [.inl 138] dM_23_17 (fun _ => rfl) (Or.inr rfl) ?_
      refine gsRet (r := some (.inl 138)) dM_23_20 (fun _ => rfl) (Or.inr rfl) ?_
      exact h
set_option maxRecDepth 100000 in
/-- GoalsInAQueue$Script.setHalf -/
theorem w_24 (sg : rSg) (s : Nat) (hs : isScr s) (x1 : Int32) (x2 : Int32) (x3 : Int32) {P : Option rv → rSg → Prop} (h :
    (x2 < 0 → 
      P none sg) ∧
    (¬ (x2 < 0) → 
      (2 ≤ x2 → 
        P none sg) ∧
      (¬ (2 ≤ x2) → 
        (((2 * (x1 - 256)) + x2) < 0 → 
          P none sg) ∧
        (¬ (((2 * (x1 - 256)) + x2) < 0) → 
          ((Int32.ofNat 1280) ≤ ((2 * (x1 - 256)) + x2) → 
            P none sg) ∧
          (¬ ((Int32.ofNat 1280) ≤ ((2 * (x1 - 256)) + x2)) → 
            (rIn ((2 * (x1 - 256)) + x2) 1280 = true ∧
            P none (up2 sg (s + 3) (((2 * (x1 - 256)) + x2).toNatClampNeg) x3))))))) : EvS rSkel 1 24 [.inr (.inr (some s)), .inl x1, .inl x2, .inl x3] sg P := by
  refine EvS.of (ini := false) rfl ⟨rfl, Nat.le_of_ble_eq_true rfl⟩ rfl ?_
  show GoS rSkel 0 3 5 none false prog_5_method_10_code 0 [(0, .inr (.inr (some s))), (1, .inl x1), (2, .inl x2), (3, .inl x3)] [] sg _
  have b_s := hs.1
  refine gs0 1 [(0, .inr (.inr (some s))), (1, .inl x1), (2, .inl x2), (3, .inl x3)] [.inl 2] dM_24_0 (fun _ => rfl) (Or.inr rfl) ?_
  refine gs0 2 [(0, .inr (.inr (some s))), (1, .inl x1), (2, .inl x2), (3, .inl x3)] [.inl x1, .inl 2] dM_24_1 (fun _ => rfl) (Or.inr rfl) ?_
  refine gs0 5 [(0, .inr (.inr (some s))), (1, .inl x1), (2, .inl x2), (3, .inl x3)] [.inl 256, .inl x1, .inl 2] dM_24_2 (fun _ => rfl) (Or.inr rfl) ?_
  refine gs0 6 [(0, .inr (.inr (some s))), (1, .inl x1), (2, .inl x2), (3, .inl x3)] [.inl (x1 - 256), .inl 2] dM_24_5 (fun _ => rfl) (Or.inr rfl) ?_
  refine gs0 7 [(0, .inr (.inr (some s))), (1, .inl x1), (2, .inl x2), (3, .inl x3)] [.inl (2 * (x1 - 256))] dM_24_6 (fun _ => rfl) (Or.inr rfl) ?_
  refine gs0 8 [(0, .inr (.inr (some s))), (1, .inl x1), (2, .inl x2), (3, .inl x3)] [.inl x2, .inl (2 * (x1 - 256))] dM_24_7 (fun _ => rfl) (Or.inr rfl) ?_
  refine gs0 9 [(0, .inr (.inr (some s))), (1, .inl x1), (2, .inl x2), (3, .inl x3)] [.inl ((2 * (x1 - 256)) + x2)] dM_24_8 (fun _ => rfl) (Or.inr rfl) ?_
  refine gs0 11 [(4, .inl ((2 * (x1 - 256)) + x2)), (0, .inr (.inr (some s))), (1, .inl x1), (2, .inl x2), (3, .inl x3)] [] dM_24_9 (fun _ => rfl) (Or.inr rfl) ?_
  refine gs0 12 [(4, .inl ((2 * (x1 - 256)) + x2)), (0, .inr (.inr (some s))), (1, .inl x1), (2, .inl x2), (3, .inl x3)] [.inl x2] dM_24_11 (fun _ => rfl) (Or.inr rfl) ?_
  refine gsIf (t := 43) (C := x2 < 0) (r := []) dM_24_12 (fun _ => rfl) (Or.inr rfl) (rTest_iff .lt x2 0) (fun c1 => ?_) (fun c1 => ?_)
  · replace h := h.1 c1
    refine gsRet (r := none) dM_24_43 (fun _ => rfl) (Or.inr rfl) ?_
    exact h
  · replace h := h.2 c1
    refine gs0 16 [(4, .inl ((2 * (x1 - 256)) + x2)), (0, .inr (.inr (some s))), (1, .inl x1), (2, .inl x2), (3, .inl x3)] [.inl x2] dM_24_15 (fun _ => rfl) (Or.inr rfl) ?_
    refine gs0 17 [(4, .inl ((2 * (x1 - 256)) + x2)), (0, .inr (.inr (some s))), (1, .inl x1), (2, .inl x2), (3, .inl x3)] [.inl 2, .inl x2] dM_24_16 (fun _ => rfl) (Or.inr rfl) ?_
    refine gsIf (t := 43) (C := 2 ≤ x2) (r := []) dM_24_17 (fun _ => rfl) (Or.inr rfl) (rTest_iff .ge x2 2) (fun c2 => ?_) (fun c2 => ?_)
    · replace h := h.1 c2
      refine gsRet (r := none) dM_24_43 (fun _ => rfl) (Or.inr rfl) ?_
      exact h
    · replace h := h.2 c2
      refine gs0 22 [(4, .inl ((2 * (x1 - 256)) + x2)), (0, .inr (.inr (some s))), (1, .inl x1), (2, .inl x2), (3, .inl x3)] [.inl ((2 * (x1 - 256)) + x2)] dM_24_20 (fun _ => rfl) (Or.inr rfl) ?_
      refine gsIf (t := 43) (C := ((2 * (x1 - 256)) + x2) < 0) (r := []) dM_24_22 (fun _ => rfl) (Or.inr rfl) (rTest_iff .lt ((2 * (x1 - 256)) + x2) 0) (fun c3 => ?_) (fun c3 => ?_)
      · replace h := h.1 c3
        refine gsRet (r := none) dM_24_43 (fun _ => rfl) (Or.inr rfl) ?_
        exact h
      · replace h := h.2 c3
        refine gs0 27 [(4, .inl ((2 * (x1 - 256)) + x2)), (0, .inr (.inr (some s))), (1, .inl x1), (2, .inl x2), (3, .inl x3)] [.inl ((2 * (x1 - 256)) + x2)] dM_24_25 (fun _ => rfl) (Or.inr rfl) ?_
        refine gs0 28 [(4, .inl ((2 * (x1 - 256)) + x2)), (0, .inr (.inr (some s))), (1, .inl x1), (2, .inl x2), (3, .inl x3)] [.inr (.inr (some s)), .inl ((2 * (x1 - 256)) + x2)] dM_24_27 (fun _ => rfl) (Or.inr rfl) ?_
        refine gsGetR (some (s + 3)) dM_24_28 hs.2.1 rfl rfl ?_
        refine gsAlen dM_24_31 hs.2.2.2.2 ?_
        refine gsIf (t := 43) (C := (Int32.ofNat 1280) ≤ ((2 * (x1 - 256)) + x2)) (r := []) dM_24_32 (fun _ => rfl) (Or.inr rfl) (rTest_iff .ge ((2 * (x1 - 256)) + x2) (Int32.ofNat 1280)) (fun c4 => ?_) (fun c4 => ?_)
        · replace h := h.1 c4
          refine gsRet (r := none) dM_24_43 (fun _ => rfl) (Or.inr rfl) ?_
          exact h
        · replace h := h.2 c4
          refine gs0 36 [(4, .inl ((2 * (x1 - 256)) + x2)), (0, .inr (.inr (some s))), (1, .inl x1), (2, .inl x2), (3, .inl x3)] [.inr (.inr (some s))] dM_24_35 (fun _ => rfl) (Or.inr rfl) ?_
          refine gsGetR (some (s + 3)) dM_24_36 hs.2.1 rfl rfl ?_
          refine gs0 41 [(4, .inl ((2 * (x1 - 256)) + x2)), (0, .inr (.inr (some s))), (1, .inl x1), (2, .inl x2), (3, .inl x3)] [.inl ((2 * (x1 - 256)) + x2), .inr (.inr (some (s + 3)))] dM_24_39 (fun _ => rfl) (Or.inr rfl) ?_
          refine gs0 42 [(4, .inl ((2 * (x1 - 256)) + x2)), (0, .inr (.inr (some s))), (1, .inl x1), (2, .inl x2), (3, .inl x3)] [.inl x3, .inl ((2 * (x1 - 256)) + x2), .inr (.inr (some (s + 3)))] dM_24_41 (fun _ => rfl) (Or.inr rfl) ?_
          refine gsIastN (((2 * (x1 - 256)) + x2).toNatClampNeg) dM_24_42 hs.2.2.2.2 h.1 rfl ?_
          replace h := h.2
          refine gsRet (r := none) dM_24_43 (fun _ => rfl) (Or.inr rfl) ?_
          exact h
set_option maxRecDepth 100000 in
/-- GoalsInAQueue$Script.seal -/
theorem w_25 (sg : rSg) (s : Nat) (hs : isScr s) (x1 : Int32) (x2 : Int32) {P : Option rv → rSg → Prop} (h :
    P none (up2 (up2 (up2 (up2 sg s 5 x1) s 6 (sg s 3)) s 7 (sg s 4)) s 8 x2)) : EvS rSkel 1 25 [.inr (.inr (some s)), .inl x1, .inl x2] sg P := by
  refine EvS.of (ini := false) rfl ⟨rfl, Nat.le_of_ble_eq_true rfl⟩ rfl ?_
  show GoS rSkel 0 3 3 none false prog_5_method_3_code 0 [(0, .inr (.inr (some s))), (1, .inl x1), (2, .inl x2)] [] sg _
  have b_s := hs.1
  refine gs0 1 [(0, .inr (.inr (some s))), (1, .inl x1), (2, .inl x2)] [.inr (.inr (some s))] dM_25_0 (fun _ => rfl) (Or.inr rfl) ?_
  refine gs0 2 [(0, .inr (.inr (some s))), (1, .inl x1), (2, .inl x2)] [.inl x1, .inr (.inr (some s))] dM_25_1 (fun _ => rfl) (Or.inr rfl) ?_
  refine gsPut dM_25_2 hs.2.1 rfl rfl rfl (by decide) ?_
  refine gs0 6 [(0, .inr (.inr (some s))), (1, .inl x1), (2, .inl x2)] [.inr (.inr (some s))] dM_25_5 (fun _ => rfl) (Or.inr rfl) ?_
  refine gs0 7 [(0, .inr (.inr (some s))), (1, .inl x1), (2, .inl x2)] [.inr (.inr (some s)), .inr (.inr (some s))] dM_25_6 (fun _ => rfl) (Or.inr rfl) ?_
  refine gsGetE (sg s 3) dM_25_7 hs.2.1 rfl rfl (up2_nj _ _ _ (by decide)) ?_
  refine gsPut dM_25_10 hs.2.1 rfl rfl rfl (by decide) ?_
  refine gs0 14 [(0, .inr (.inr (some s))), (1, .inl x1), (2, .inl x2)] [.inr (.inr (some s))] dM_25_13 (fun _ => rfl) (Or.inr rfl) ?_
  refine gs0 15 [(0, .inr (.inr (some s))), (1, .inl x1), (2, .inl x2)] [.inr (.inr (some s)), .inr (.inr (some s))] dM_25_14 (fun _ => rfl) (Or.inr rfl) ?_
  refine gsGetE (sg s 4) dM_25_15 hs.2.1 rfl rfl ((up2_nj _ _ _ (by decide)).trans (up2_nj _ _ _ (by decide))) ?_
  refine gsPut dM_25_18 hs.2.1 rfl rfl rfl (by decide) ?_
  refine gs0 22 [(0, .inr (.inr (some s))), (1, .inl x1), (2, .inl x2)] [.inr (.inr (some s))] dM_25_21 (fun _ => rfl) (Or.inr rfl) ?_
  refine gs0 23 [(0, .inr (.inr (some s))), (1, .inl x1), (2, .inl x2)] [.inl x2, .inr (.inr (some s))] dM_25_22 (fun _ => rfl) (Or.inr rfl) ?_
  refine gsPut dM_25_23 hs.2.1 rfl rfl rfl (by decide) ?_
  refine gsRet (r := none) dM_25_26 (fun _ => rfl) (Or.inr rfl) ?_
  exact h
set_option maxRecDepth 100000 in
/-- GoalsInAQueue$Script.retell -/
theorem w_26 (sg : rSg) (s : Nat) (hs : isScr s) (s2 : Nat) (hs2 : isScr s2) (hss : s + 3 < s2 ∨ s2 + 3 < s) {P : Option rv → rSg → Prop} (h :
    EvS rSkel 1 27 [.inr (.inr (some s)), .inr (.inr (some s2)), .inl (sg s2 6), .inl (sg s2 7)] sg (fun v1 t2 => v1 = none ∧
      P none t2)) : EvS rSkel 2 26 [.inr (.inr (some s)), .inr (.inr (some s2))] sg P := by
  refine EvS.of (ini := false) rfl ⟨rfl, Nat.le_of_ble_eq_true rfl⟩ rfl ?_
  show GoS rSkel 1 3 2 none false prog_5_method_4_code 0 [(0, .inr (.inr (some s))), (1, .inr (.inr (some s2)))] [] sg _
  have b_s := hs.1
  have b_s2 := hs2.1
  refine gs0 1 [(0, .inr (.inr (some s))), (1, .inr (.inr (some s2)))] [.inr (.inr (some s))] dM_26_0 (fun _ => rfl) (Or.inr rfl) ?_
  refine gs0 2 [(0, .inr (.inr (some s))), (1, .inr (.inr (some s2)))] [.inr (.inr (some s2)), .inr (.inr (some s))] dM_26_1 (fun _ => rfl) (Or.inr rfl) ?_
  refine gs0 3 [(0, .inr (.inr (some s))), (1, .inr (.inr (some s2)))] [.inr (.inr (some s2)), .inr (.inr (some s2)), .inr (.inr (some s))] dM_26_2 (fun _ => rfl) (Or.inr rfl) ?_
  refine gsGetE (sg s2 6) dM_26_3 hs2.2.1 rfl rfl rfl ?_
  refine gs0 7 [(0, .inr (.inr (some s))), (1, .inr (.inr (some s2)))] [.inr (.inr (some s2)), .inl (sg s2 6), .inr (.inr (some s2)), .inr (.inr (some s))] dM_26_6 (fun _ => rfl) (Or.inr rfl) ?_
  refine gsGetE (sg s2 7) dM_26_7 hs2.2.1 rfl rfl rfl ?_
  refine gsCallV (y := 27) (k := s) (as := [.inr (.inr (some s)), .inr (.inr (some s2)), .inl (sg s2 6), .inl (sg s2 7)]) (r := []) dM_26_10 rfl rfl rfl (Nat.le_of_ble_eq_true rfl) hs.2.1 rfl (Nat.le_of_ble_eq_true rfl) (EvS.up h (Nat.le_of_ble_eq_true rfl)) (fun v1 t2 hv3 => ?_)
  obtain ⟨rfl, hn⟩ := hv3
  clear h
  show GoS _ _ _ _ _ _ _ _ [(0, .inr (.inr (some s))), (1, .inr (.inr (some s2)))] [] t2 _
  refine gsRet (r := none) dM_26_13 (fun _ => rfl) (Or.inr rfl) ?_
  exact hn
set_option maxRecDepth 100000 in
/-- GoalsInAQueue$Script.copyUpTo -/
theorem w_27 (sg : rSg) (s : Nat) (hs : isScr s) (s2 : Nat) (hs2 : isScr s2) (hss : s + 3 < s2 ∨ s2 + 3 < s) (x2 : Int32) (x3 : Int32) {P : Option rv → rSg → Prop} (h :
    ((¬ (0 : Int32) < 0 ∧ ¬ (0 : Int32) < 0 ∧ ¬ (imin (imax x2 0) 326) < 0 ∧ (0 : Int32).toNatClampNeg + (imin (imax x2 0) 326).toNatClampNeg ≤ 326 ∧ (0 : Int32).toNatClampNeg + (imin (imax x2 0) 326).toNatClampNeg ≤ 326) ∧
    (¬ (0 : Int32) < 0 ∧ ¬ (0 : Int32) < 0 ∧ ¬ (3 * (imin (imax x2 0) 326)) < 0 ∧ (0 : Int32).toNatClampNeg + (3 * (imin (imax x2 0) 326)).toNatClampNeg ≤ 978 ∧ (0 : Int32).toNatClampNeg + (3 * (imin (imax x2 0) 326)).toNatClampNeg ≤ 978) ∧
    (¬ (0 : Int32) < 0 ∧ ¬ (0 : Int32) < 0 ∧ ¬ (2 * (imin (imax x3 0) 640)) < 0 ∧ (0 : Int32).toNatClampNeg + (2 * (imin (imax x3 0) 640)).toNatClampNeg ≤ 1280 ∧ (0 : Int32).toNatClampNeg + (2 * (imin (imax x3 0) 640)).toNatClampNeg ≤ 1280) ∧
    P none (up2 (up2 (up2 (up2 (upC (upC (upC (up2 (up2 sg s 3 (imin (imax x2 0) 326)) s 4 (imin (imax x3 0) 640)) (s + 1) (va_cpy ((up2 (up2 sg s 3 (imin (imax x2 0) 326)) s 4 (imin (imax x3 0) 640)) (s2 + 1)) ((up2 (up2 sg s 3 (imin (imax x2 0) 326)) s 4 (imin (imax x3 0) 640)) (s + 1)) (0 : Int32).toNatClampNeg (0 : Int32).toNatClampNeg (imin (imax x2 0) 326).toNatClampNeg)) (s + 2) (va_cpy ((upC (up2 (up2 sg s 3 (imin (imax x2 0) 326)) s 4 (imin (imax x3 0) 640)) (s + 1) (va_cpy ((up2 (up2 sg s 3 (imin (imax x2 0) 326)) s 4 (imin (imax x3 0) 640)) (s2 + 1)) ((up2 (up2 sg s 3 (imin (imax x2 0) 326)) s 4 (imin (imax x3 0) 640)) (s + 1)) (0 : Int32).toNatClampNeg (0 : Int32).toNatClampNeg (imin (imax x2 0) 326).toNatClampNeg)) (s2 + 2)) ((upC (up2 (up2 sg s 3 (imin (imax x2 0) 326)) s 4 (imin (imax x3 0) 640)) (s + 1) (va_cpy ((up2 (up2 sg s 3 (imin (imax x2 0) 326)) s 4 (imin (imax x3 0) 640)) (s2 + 1)) ((up2 (up2 sg s 3 (imin (imax x2 0) 326)) s 4 (imin (imax x3 0) 640)) (s + 1)) (0 : Int32).toNatClampNeg (0 : Int32).toNatClampNeg (imin (imax x2 0) 326).toNatClampNeg)) (s + 2)) (0 : Int32).toNatClampNeg (0 : Int32).toNatClampNeg (3 * (imin (imax x2 0) 326)).toNatClampNeg)) (s + 3) (va_cpy ((upC (upC (up2 (up2 sg s 3 (imin (imax x2 0) 326)) s 4 (imin (imax x3 0) 640)) (s + 1) (va_cpy ((up2 (up2 sg s 3 (imin (imax x2 0) 326)) s 4 (imin (imax x3 0) 640)) (s2 + 1)) ((up2 (up2 sg s 3 (imin (imax x2 0) 326)) s 4 (imin (imax x3 0) 640)) (s + 1)) (0 : Int32).toNatClampNeg (0 : Int32).toNatClampNeg (imin (imax x2 0) 326).toNatClampNeg)) (s + 2) (va_cpy ((upC (up2 (up2 sg s 3 (imin (imax x2 0) 326)) s 4 (imin (imax x3 0) 640)) (s + 1) (va_cpy ((up2 (up2 sg s 3 (imin (imax x2 0) 326)) s 4 (imin (imax x3 0) 640)) (s2 + 1)) ((up2 (up2 sg s 3 (imin (imax x2 0) 326)) s 4 (imin (imax x3 0) 640)) (s + 1)) (0 : Int32).toNatClampNeg (0 : Int32).toNatClampNeg (imin (imax x2 0) 326).toNatClampNeg)) (s2 + 2)) ((upC (up2 (up2 sg s 3 (imin (imax x2 0) 326)) s 4 (imin (imax x3 0) 640)) (s + 1) (va_cpy ((up2 (up2 sg s 3 (imin (imax x2 0) 326)) s 4 (imin (imax x3 0) 640)) (s2 + 1)) ((up2 (up2 sg s 3 (imin (imax x2 0) 326)) s 4 (imin (imax x3 0) 640)) (s + 1)) (0 : Int32).toNatClampNeg (0 : Int32).toNatClampNeg (imin (imax x2 0) 326).toNatClampNeg)) (s + 2)) (0 : Int32).toNatClampNeg (0 : Int32).toNatClampNeg (3 * (imin (imax x2 0) 326)).toNatClampNeg)) (s2 + 3)) ((upC (upC (up2 (up2 sg s 3 (imin (imax x2 0) 326)) s 4 (imin (imax x3 0) 640)) (s + 1) (va_cpy ((up2 (up2 sg s 3 (imin (imax x2 0) 326)) s 4 (imin (imax x3 0) 640)) (s2 + 1)) ((up2 (up2 sg s 3 (imin (imax x2 0) 326)) s 4 (imin (imax x3 0) 640)) (s + 1)) (0 : Int32).toNatClampNeg (0 : Int32).toNatClampNeg (imin (imax x2 0) 326).toNatClampNeg)) (s + 2) (va_cpy ((upC (up2 (up2 sg s 3 (imin (imax x2 0) 326)) s 4 (imin (imax x3 0) 640)) (s + 1) (va_cpy ((up2 (up2 sg s 3 (imin (imax x2 0) 326)) s 4 (imin (imax x3 0) 640)) (s2 + 1)) ((up2 (up2 sg s 3 (imin (imax x2 0) 326)) s 4 (imin (imax x3 0) 640)) (s + 1)) (0 : Int32).toNatClampNeg (0 : Int32).toNatClampNeg (imin (imax x2 0) 326).toNatClampNeg)) (s2 + 2)) ((upC (up2 (up2 sg s 3 (imin (imax x2 0) 326)) s 4 (imin (imax x3 0) 640)) (s + 1) (va_cpy ((up2 (up2 sg s 3 (imin (imax x2 0) 326)) s 4 (imin (imax x3 0) 640)) (s2 + 1)) ((up2 (up2 sg s 3 (imin (imax x2 0) 326)) s 4 (imin (imax x3 0) 640)) (s + 1)) (0 : Int32).toNatClampNeg (0 : Int32).toNatClampNeg (imin (imax x2 0) 326).toNatClampNeg)) (s + 2)) (0 : Int32).toNatClampNeg (0 : Int32).toNatClampNeg (3 * (imin (imax x2 0) 326)).toNatClampNeg)) (s + 3)) (0 : Int32).toNatClampNeg (0 : Int32).toNatClampNeg (2 * (imin (imax x3 0) 640)).toNatClampNeg)) s 5 (sg s2 5)) s 6 (sg s2 6)) s 7 (sg s2 7)) s 8 (sg s2 8)))) : EvS rSkel 1 27 [.inr (.inr (some s)), .inr (.inr (some s2)), .inl x2, .inl x3] sg P := by
  refine EvS.of (ini := false) rfl ⟨rfl, Nat.le_of_ble_eq_true rfl⟩ rfl ?_
  show GoS rSkel 0 3 4 none false prog_5_method_6_code 0 [(0, .inr (.inr (some s))), (1, .inr (.inr (some s2))), (2, .inl x2), (3, .inl x3)] [] sg _
  have b_s := hs.1
  have b_s2 := hs2.1
  refine gs0 1 [(0, .inr (.inr (some s))), (1, .inr (.inr (some s2))), (2, .inl x2), (3, .inl x3)] [.inr (.inr (some s))] dM_27_0 (fun _ => rfl) (Or.inr rfl) ?_
  refine gs0 2 [(0, .inr (.inr (some s))), (1, .inr (.inr (some s2))), (2, .inl x2), (3, .inl x3)] [.inl x2, .inr (.inr (some s))] dM_27_1 (fun _ => rfl) (Or.inr rfl) ?_
  refine gs0 3 [(0, .inr (.inr (some s))), (1, .inr (.inr (some s2))), (2, .inl x2), (3, .inl x3)] [.inl 0, .inl x2, .inr (.inr (some s))] dM_27_2 (fun _ => rfl) (Or.inr rfl) ?_
  refine gs0 6 [(0, .inr (.inr (some s))), (1, .inr (.inr (some s2))), (2, .inl x2), (3, .inl x3)] [.inl (imax x2 0), .inr (.inr (some s))] dM_27_3 (fun _ => rfl) (Or.inr rfl) ?_
  refine gs0 9 [(0, .inr (.inr (some s))), (1, .inr (.inr (some s2))), (2, .inl x2), (3, .inl x3)] [.inl 326, .inl (imax x2 0), .inr (.inr (some s))] dM_27_6 (fun _ => rfl) (Or.inr rfl) ?_
  refine gs0 12 [(0, .inr (.inr (some s))), (1, .inr (.inr (some s2))), (2, .inl x2), (3, .inl x3)] [.inl (imin (imax x2 0) 326), .inr (.inr (some s))] dM_27_9 (fun _ => rfl) (Or.inr rfl) ?_
  refine gsPut dM_27_12 hs.2.1 rfl rfl rfl (by decide) ?_
  refine gs0 16 [(0, .inr (.inr (some s))), (1, .inr (.inr (some s2))), (2, .inl x2), (3, .inl x3)] [.inr (.inr (some s))] dM_27_15 (fun _ => rfl) (Or.inr rfl) ?_
  refine gs0 17 [(0, .inr (.inr (some s))), (1, .inr (.inr (some s2))), (2, .inl x2), (3, .inl x3)] [.inl x3, .inr (.inr (some s))] dM_27_16 (fun _ => rfl) (Or.inr rfl) ?_
  refine gs0 18 [(0, .inr (.inr (some s))), (1, .inr (.inr (some s2))), (2, .inl x2), (3, .inl x3)] [.inl 0, .inl x3, .inr (.inr (some s))] dM_27_17 (fun _ => rfl) (Or.inr rfl) ?_
  refine gs0 21 [(0, .inr (.inr (some s))), (1, .inr (.inr (some s2))), (2, .inl x2), (3, .inl x3)] [.inl (imax x3 0), .inr (.inr (some s))] dM_27_18 (fun _ => rfl) (Or.inr rfl) ?_
  refine gs0 24 [(0, .inr (.inr (some s))), (1, .inr (.inr (some s2))), (2, .inl x2), (3, .inl x3)] [.inl 640, .inl (imax x3 0), .inr (.inr (some s))] dM_27_21 (fun _ => rfl) (Or.inr rfl) ?_
  refine gs0 27 [(0, .inr (.inr (some s))), (1, .inr (.inr (some s2))), (2, .inl x2), (3, .inl x3)] [.inl (imin (imax x3 0) 640), .inr (.inr (some s))] dM_27_24 (fun _ => rfl) (Or.inr rfl) ?_
  refine gsPut dM_27_27 hs.2.1 rfl rfl rfl (by decide) ?_
  refine gs0 31 [(0, .inr (.inr (some s))), (1, .inr (.inr (some s2))), (2, .inl x2), (3, .inl x3)] [.inr (.inr (some s2))] dM_27_30 (fun _ => rfl) (Or.inr rfl) ?_
  refine gsGetR (some (s2 + 1)) dM_27_31 hs2.2.1 rfl rfl ?_
  refine gs0 35 [(0, .inr (.inr (some s))), (1, .inr (.inr (some s2))), (2, .inl x2), (3, .inl x3)] [.inl 0, .inr (.inr (some (s2 + 1)))] dM_27_34 (fun _ => rfl) (Or.inr rfl) ?_
  refine gs0 36 [(0, .inr (.inr (some s))), (1, .inr (.inr (some s2))), (2, .inl x2), (3, .inl x3)] [.inr (.inr (some s)), .inl 0, .inr (.inr (some (s2 + 1)))] dM_27_35 (fun _ => rfl) (Or.inr rfl) ?_
  refine gsGetR (some (s + 1)) dM_27_36 hs.2.1 rfl rfl ?_
  refine gs0 40 [(0, .inr (.inr (some s))), (1, .inr (.inr (some s2))), (2, .inl x2), (3, .inl x3)] [.inl 0, .inr (.inr (some (s + 1))), .inl 0, .inr (.inr (some (s2 + 1)))] dM_27_39 (fun _ => rfl) (Or.inr rfl) ?_
  refine gs0 41 [(0, .inr (.inr (some s))), (1, .inr (.inr (some s2))), (2, .inl x2), (3, .inl x3)] [.inr (.inr (some s)), .inl 0, .inr (.inr (some (s + 1))), .inl 0, .inr (.inr (some (s2 + 1)))] dM_27_40 (fun _ => rfl) (Or.inr rfl) ?_
  refine gsGetE (imin (imax x2 0) 326) dM_27_41 hs.2.1 rfl rfl ((up2_nj _ _ _ (by decide)).trans (up2_same _ _ _ _)) ?_
  refine gsCopy dM_27_44 rfl (Nat.le_of_ble_eq_true rfl) hs2.2.2.1 hs.2.2.1 h.1 ?_
  replace h := h.2
  refine gs0 48 [(0, .inr (.inr (some s))), (1, .inr (.inr (some s2))), (2, .inl x2), (3, .inl x3)] [.inr (.inr (some s2))] dM_27_47 (fun _ => rfl) (Or.inr rfl) ?_
  refine gsGetR (some (s2 + 2)) dM_27_48 hs2.2.1 rfl rfl ?_
  refine gs0 52 [(0, .inr (.inr (some s))), (1, .inr (.inr (some s2))), (2, .inl x2), (3, .inl x3)] [.inl 0, .inr (.inr (some (s2 + 2)))] dM_27_51 (fun _ => rfl) (Or.inr rfl) ?_
  refine gs0 53 [(0, .inr (.inr (some s))), (1, .inr (.inr (some s2))), (2, .inl x2), (3, .inl x3)] [.inr (.inr (some s)), .inl 0, .inr (.inr (some (s2 + 2)))] dM_27_52 (fun _ => rfl) (Or.inr rfl) ?_
  refine gsGetR (some (s + 2)) dM_27_53 hs.2.1 rfl rfl ?_
  refine gs0 57 [(0, .inr (.inr (some s))), (1, .inr (.inr (some s2))), (2, .inl x2), (3, .inl x3)] [.inl 0, .inr (.inr (some (s + 2))), .inl 0, .inr (.inr (some (s2 + 2)))] dM_27_56 (fun _ => rfl) (Or.inr rfl) ?_
  refine gs0 58 [(0, .inr (.inr (some s))), (1, .inr (.inr (some s2))), (2, .inl x2), (3, .inl x3)] [.inl 3, .inl 0, .inr (.inr (some (s + 2))), .inl 0, .inr (.inr (some (s2 + 2)))] dM_27_57 (fun _ => rfl) (Or.inr rfl) ?_
  refine gs0 59 [(0, .inr (.inr (some s))), (1, .inr (.inr (some s2))), (2, .inl x2), (3, .inl x3)] [.inr (.inr (some s)), .inl 3, .inl 0, .inr (.inr (some (s + 2))), .inl 0, .inr (.inr (some (s2 + 2)))] dM_27_58 (fun _ => rfl) (Or.inr rfl) ?_
  refine gsGetE (imin (imax x2 0) 326) dM_27_59 hs.2.1 rfl rfl ((congrFun (upC_ne _ _ (by omega)) _).trans ((up2_nj _ _ _ (by decide)).trans (up2_same _ _ _ _))) ?_
  refine gs0 63 [(0, .inr (.inr (some s))), (1, .inr (.inr (some s2))), (2, .inl x2), (3, .inl x3)] [.inl (3 * (imin (imax x2 0) 326)), .inl 0, .inr (.inr (some (s + 2))), .inl 0, .inr (.inr (some (s2 + 2)))] dM_27_62 (fun _ => rfl) (Or.inr rfl) ?_
  refine gsCopy dM_27_63 rfl (Nat.le_of_ble_eq_true rfl) hs2.2.2.2.1 hs.2.2.2.1 h.1 ?_
  replace h := h.2
  refine gs0 67 [(0, .inr (.inr (some s))), (1, .inr (.inr (some s2))), (2, .inl x2), (3, .inl x3)] [.inr (.inr (some s2))] dM_27_66 (fun _ => rfl) (Or.inr rfl) ?_
  refine gsGetR (some (s2 + 3)) dM_27_67 hs2.2.1 rfl rfl ?_
  refine gs0 71 [(0, .inr (.inr (some s))), (1, .inr (.inr (some s2))), (2, .inl x2), (3, .inl x3)] [.inl 0, .inr (.inr (some (s2 + 3)))] dM_27_70 (fun _ => rfl) (Or.inr rfl) ?_
  refine gs0 72 [(0, .inr (.inr (some s))), (1, .inr (.inr (some s2))), (2, .inl x2), (3, .inl x3)] [.inr (.inr (some s)), .inl 0, .inr (.inr (some (s2 + 3)))] dM_27_71 (fun _ => rfl) (Or.inr rfl) ?_
  refine gsGetR (some (s + 3)) dM_27_72 hs.2.1 rfl rfl ?_
  refine gs0 76 [(0, .inr (.inr (some s))), (1, .inr (.inr (some s2))), (2, .inl x2), (3, .inl x3)] [.inl 0, .inr (.inr (some (s + 3))), .inl 0, .inr (.inr (some (s2 + 3)))] dM_27_75 (fun _ => rfl) (Or.inr rfl) ?_
  refine gs0 77 [(0, .inr (.inr (some s))), (1, .inr (.inr (some s2))), (2, .inl x2), (3, .inl x3)] [.inl 2, .inl 0, .inr (.inr (some (s + 3))), .inl 0, .inr (.inr (some (s2 + 3)))] dM_27_76 (fun _ => rfl) (Or.inr rfl) ?_
  refine gs0 78 [(0, .inr (.inr (some s))), (1, .inr (.inr (some s2))), (2, .inl x2), (3, .inl x3)] [.inr (.inr (some s)), .inl 2, .inl 0, .inr (.inr (some (s + 3))), .inl 0, .inr (.inr (some (s2 + 3)))] dM_27_77 (fun _ => rfl) (Or.inr rfl) ?_
  refine gsGetE (imin (imax x3 0) 640) dM_27_78 hs.2.1 rfl rfl ((congrFun (upC_ne _ _ (by omega)) _).trans ((congrFun (upC_ne _ _ (by omega)) _).trans (up2_same _ _ _ _))) ?_
  refine gs0 82 [(0, .inr (.inr (some s))), (1, .inr (.inr (some s2))), (2, .inl x2), (3, .inl x3)] [.inl (2 * (imin (imax x3 0) 640)), .inl 0, .inr (.inr (some (s + 3))), .inl 0, .inr (.inr (some (s2 + 3)))] dM_27_81 (fun _ => rfl) (Or.inr rfl) ?_
  refine gsCopy dM_27_82 rfl (Nat.le_of_ble_eq_true rfl) hs2.2.2.2.2 hs.2.2.2.2 h.1 ?_
  replace h := h.2
  refine gs0 86 [(0, .inr (.inr (some s))), (1, .inr (.inr (some s2))), (2, .inl x2), (3, .inl x3)] [.inr (.inr (some s))] dM_27_85 (fun _ => rfl) (Or.inr rfl) ?_
  refine gs0 87 [(0, .inr (.inr (some s))), (1, .inr (.inr (some s2))), (2, .inl x2), (3, .inl x3)] [.inr (.inr (some s2)), .inr (.inr (some s))] dM_27_86 (fun _ => rfl) (Or.inr rfl) ?_
  refine gsGetE (sg s2 5) dM_27_87 hs2.2.1 rfl rfl ((congrFun (upC_ne _ _ (by omega)) _).trans ((congrFun (upC_ne _ _ (by omega)) _).trans ((congrFun (upC_ne _ _ (by omega)) _).trans ((congrFun (up2_nk _ _ _ (by omega)) _).trans (congrFun (up2_nk _ _ _ (by omega)) _))))) ?_
  refine gsPut dM_27_90 hs.2.1 rfl rfl rfl (by decide) ?_
  refine gs0 94 [(0, .inr (.inr (some s))), (1, .inr (.inr (some s2))), (2, .inl x2), (3, .inl x3)] [.inr (.inr (some s))] dM_27_93 (fun _ => rfl) (Or.inr rfl) ?_
  refine gs0 95 [(0, .inr (.inr (some s))), (1, .inr (.inr (some s2))), (2, .inl x2), (3, .inl x3)] [.inr (.inr (some s2)), .inr (.inr (some s))] dM_27_94 (fun _ => rfl) (Or.inr rfl) ?_
  refine gsGetE (sg s2 6) dM_27_95 hs2.2.1 rfl rfl ((congrFun (up2_nk _ _ _ (by omega)) _).trans ((congrFun (upC_ne _ _ (by omega)) _).trans ((congrFun (upC_ne _ _ (by omega)) _).trans ((congrFun (upC_ne _ _ (by omega)) _).trans ((congrFun (up2_nk _ _ _ (by omega)) _).trans (congrFun (up2_nk _ _ _ (by omega)) _)))))) ?_
  refine gsPut dM_27_98 hs.2.1 rfl rfl rfl (by decide) ?_
  refine gs0 102 [(0, .inr (.inr (some s))), (1, .inr (.inr (some s2))), (2, .inl x2), (3, .inl x3)] [.inr (.inr (some s))] dM_27_101 (fun _ => rfl) (Or.inr rfl) ?_
  refine gs0 103 [(0, .inr (.inr (some s))), (1, .inr (.inr (some s2))), (2, .inl x2), (3, .inl x3)] [.inr (.inr (some s2)), .inr (.inr (some s))] dM_27_102 (fun _ => rfl) (Or.inr rfl) ?_
  refine gsGetE (sg s2 7) dM_27_103 hs2.2.1 rfl rfl ((congrFun (up2_nk _ _ _ (by omega)) _).trans ((congrFun (up2_nk _ _ _ (by omega)) _).trans ((congrFun (upC_ne _ _ (by omega)) _).trans ((congrFun (upC_ne _ _ (by omega)) _).trans ((congrFun (upC_ne _ _ (by omega)) _).trans ((congrFun (up2_nk _ _ _ (by omega)) _).trans (congrFun (up2_nk _ _ _ (by omega)) _))))))) ?_
  refine gsPut dM_27_106 hs.2.1 rfl rfl rfl (by decide) ?_
  refine gs0 110 [(0, .inr (.inr (some s))), (1, .inr (.inr (some s2))), (2, .inl x2), (3, .inl x3)] [.inr (.inr (some s))] dM_27_109 (fun _ => rfl) (Or.inr rfl) ?_
  refine gs0 111 [(0, .inr (.inr (some s))), (1, .inr (.inr (some s2))), (2, .inl x2), (3, .inl x3)] [.inr (.inr (some s2)), .inr (.inr (some s))] dM_27_110 (fun _ => rfl) (Or.inr rfl) ?_
  refine gsGetE (sg s2 8) dM_27_111 hs2.2.1 rfl rfl ((congrFun (up2_nk _ _ _ (by omega)) _).trans ((congrFun (up2_nk _ _ _ (by omega)) _).trans ((congrFun (up2_nk _ _ _ (by omega)) _).trans ((congrFun (upC_ne _ _ (by omega)) _).trans ((congrFun (upC_ne _ _ (by omega)) _).trans ((congrFun (upC_ne _ _ (by omega)) _).trans ((congrFun (up2_nk _ _ _ (by omega)) _).trans (congrFun (up2_nk _ _ _ (by omega)) _)))))))) ?_
  refine gsPut dM_27_114 hs.2.1 rfl rfl rfl (by decide) ?_
  refine gsRet (r := none) dM_27_117 (fun _ => rfl) (Or.inr rfl) ?_
  exact h
set_option maxRecDepth 100000 in
/-- GoalsInAQueue$Script.partOf -/
theorem w_28 (sg : rSg) (s : Nat) (hs : isScr s) (x1 : Int32) (x2 : Int32) {P : Option rv → rSg → Prop} (h :
    (x1 < 0 → 
      P (some (.inl 138)) sg) ∧
    (¬ (x1 < 0) → 
      (326 ≤ x1 → 
        P (some (.inl 138)) sg) ∧
      (¬ (326 ≤ x1) → 
        (x2 < 0 → 
          P (some (.inl 138)) sg) ∧
        (¬ (x2 < 0) → 
          (3 ≤ x2 → 
            P (some (.inl 138)) sg) ∧
          (¬ (3 ≤ x2) → 
            (rIn ((3 * x1) + x2) 978 = true ∧
            P (some (.inl (sg (s + 2) (((3 * x1) + x2).toNatClampNeg)))) sg)))))) : EvS rSkel 1 28 [.inr (.inr (some s)), .inl x1, .inl x2] sg P := by
  refine EvS.of (ini := false) rfl ⟨rfl, Nat.le_of_ble_eq_true rfl⟩ rfl ?_
  show GoS rSkel 0 3 3 (some .int) false prog_5_method_12_code 0 [(0, .inr (.inr (some s))), (1, .inl x1), (2, .inl x2)] [] sg _
  have b_s := hs.1
  refine gs0 1 [(0, .inr (.inr (some s))), (1, .inl x1), (2, .inl x2)] [.inl x1] dM_28_0 (fun _ => rfl) (Or.inr rfl) ?_
  refine gsIf (t := 33) (C := x1 < 0) (r := []) dM_28_1 (fun _ => rfl) (Or.inr rfl) (rTest_iff .lt x1 0) (fun c1 => ?_) (fun c1 => ?_)
  · replace h := h.1 c1
    refine gs0 36 [(0, .inr (.inr (some s))), (1, .inl x1), (2, .inl x2)] [.inl 138] dM_28_33 (fun _ => rfl) (Or.inr rfl) ?_
    refine gsRet (r := some (.inl 138)) dM_28_36 (fun _ => rfl) (Or.inr rfl) ?_
    exact h
  · replace h := h.2 c1
    refine gs0 5 [(0, .inr (.inr (some s))), (1, .inl x1), (2, .inl x2)] [.inl x1] dM_28_4 (fun _ => rfl) (Or.inr rfl) ?_
    refine gs0 8 [(0, .inr (.inr (some s))), (1, .inl x1), (2, .inl x2)] [.inl 326, .inl x1] dM_28_5 (fun _ => rfl) (Or.inr rfl) ?_
    refine gsIf (t := 33) (C := 326 ≤ x1) (r := []) dM_28_8 (fun _ => rfl) (Or.inr rfl) (rTest_iff .ge x1 326) (fun c2 => ?_) (fun c2 => ?_)
    · replace h := h.1 c2
      refine gs0 36 [(0, .inr (.inr (some s))), (1, .inl x1), (2, .inl x2)] [.inl 138] dM_28_33 (fun _ => rfl) (Or.inr rfl) ?_
      refine gsRet (r := some (.inl 138)) dM_28_36 (fun _ => rfl) (Or.inr rfl) ?_
      exact h
    · replace h := h.2 c2
      refine gs0 12 [(0, .inr (.inr (some s))), (1, .inl x1), (2, .inl x2)] [.inl x2] dM_28_11 (fun _ => rfl) (Or.inr rfl) ?_
      refine gsIf (t := 33) (C := x2 < 0) (r := []) dM_28_12 (fun _ => rfl) (Or.inr rfl) (rTest_iff .lt x2 0) (fun c3 => ?_) (fun c3 => ?_)
      · replace h := h.1 c3
        refine gs0 36 [(0, .inr (.inr (some s))), (1, .inl x1), (2, .inl x2)] [.inl 138] dM_28_33 (fun _ => rfl) (Or.inr rfl) ?_
        refine gsRet (r := some (.inl 138)) dM_28_36 (fun _ => rfl) (Or.inr rfl) ?_
        exact h
      · replace h := h.2 c3
        refine gs0 16 [(0, .inr (.inr (some s))), (1, .inl x1), (2, .inl x2)] [.inl x2] dM_28_15 (fun _ => rfl) (Or.inr rfl) ?_
        refine gs0 17 [(0, .inr (.inr (some s))), (1, .inl x1), (2, .inl x2)] [.inl 3, .inl x2] dM_28_16 (fun _ => rfl) (Or.inr rfl) ?_
        refine gsIf (t := 33) (C := 3 ≤ x2) (r := []) dM_28_17 (fun _ => rfl) (Or.inr rfl) (rTest_iff .ge x2 3) (fun c4 => ?_) (fun c4 => ?_)
        · replace h := h.1 c4
          refine gs0 36 [(0, .inr (.inr (some s))), (1, .inl x1), (2, .inl x2)] [.inl 138] dM_28_33 (fun _ => rfl) (Or.inr rfl) ?_
          refine gsRet (r := some (.inl 138)) dM_28_36 (fun _ => rfl) (Or.inr rfl) ?_
          exact h
        · replace h := h.2 c4
          refine gs0 21 [(0, .inr (.inr (some s))), (1, .inl x1), (2, .inl x2)] [.inr (.inr (some s))] dM_28_20 (fun _ => rfl) (Or.inr rfl) ?_
          refine gsGetR (some (s + 2)) dM_28_21 hs.2.1 rfl rfl ?_
          refine gs0 25 [(0, .inr (.inr (some s))), (1, .inl x1), (2, .inl x2)] [.inl 3, .inr (.inr (some (s + 2)))] dM_28_24 (fun _ => rfl) (Or.inr rfl) ?_
          refine gs0 26 [(0, .inr (.inr (some s))), (1, .inl x1), (2, .inl x2)] [.inl x1, .inl 3, .inr (.inr (some (s + 2)))] dM_28_25 (fun _ => rfl) (Or.inr rfl) ?_
          refine gs0 27 [(0, .inr (.inr (some s))), (1, .inl x1), (2, .inl x2)] [.inl (3 * x1), .inr (.inr (some (s + 2)))] dM_28_26 (fun _ => rfl) (Or.inr rfl) ?_
          refine gs0 28 [(0, .inr (.inr (some s))), (1, .inl x1), (2, .inl x2)] [.inl x2, .inl (3 * x1), .inr (.inr (some (s + 2)))] dM_28_27 (fun _ => rfl) (Or.inr rfl) ?_
          refine gs0 29 [(0, .inr (.inr (some s))), (1, .inl x1), (2, .inl x2)] [.inl ((3 * x1) + x2), .inr (.inr (some (s + 2)))] dM_28_28 (fun _ => rfl) (Or.inr rfl) ?_
          refine gsIaldN (((3 * x1) + x2).toNatClampNeg) (sg (s + 2) (((3 * x1) + x2).toNatClampNeg)) dM_28_29 hs.2.2.2.1 h.1 rfl rfl ?_
          replace h := h.2
          refine gs0 36 [(0, .inr (.inr (some s))), (1, .inl x1), (2, .inl x2)] [.inl (sg (s + 2) (((3 * x1) + x2).toNatClampNeg))] dM_28_30 (fun _ => rfl) (Or.inr rfl) ?_
          refine gsRet (r := some (.inl (sg (s + 2) (((3 * x1) + x2).toNatClampNeg)))) dM_28_36 (fun _ => rfl) (Or.inr rfl) ?_
          exact h
set_option maxRecDepth 100000 in
/-- GoalsInAQueue$Script.kindOf -/
theorem w_29 (sg : rSg) (s : Nat) (hs : isScr s) (x1 : Int32) {P : Option rv → rSg → Prop} (h :
    (x1 < 0 → 
      P (some (.inl 33)) sg) ∧
    (¬ (x1 < 0) → 
      (326 ≤ x1 → 
        P (some (.inl 33)) sg) ∧
      (¬ (326 ≤ x1) → 
        (rIn x1 326 = true ∧
        P (some (.inl (sg (s + 1) x1.toNatClampNeg))) sg)))) : EvS rSkel 1 29 [.inr (.inr (some s)), .inl x1] sg P := by
  refine EvS.of (ini := false) rfl ⟨rfl, Nat.le_of_ble_eq_true rfl⟩ rfl ?_
  show GoS rSkel 0 3 2 (some .int) false prog_5_method_11_code 0 [(0, .inr (.inr (some s))), (1, .inl x1)] [] sg _
  have b_s := hs.1
  refine gs0 1 [(0, .inr (.inr (some s))), (1, .inl x1)] [.inl x1] dM_29_0 (fun _ => rfl) (Or.inr rfl) ?_
  refine gsIf (t := 20) (C := x1 < 0) (r := []) dM_29_1 (fun _ => rfl) (Or.inr rfl) (rTest_iff .lt x1 0) (fun c1 => ?_) (fun c1 => ?_)
  · replace h := h.1 c1
    refine gs0 22 [(0, .inr (.inr (some s))), (1, .inl x1)] [.inl 33] dM_29_20 (fun _ => rfl) (Or.inr rfl) ?_
    refine gsRet (r := some (.inl 33)) dM_29_22 (fun _ => rfl) (Or.inr rfl) ?_
    exact h
  · replace h := h.2 c1
    refine gs0 5 [(0, .inr (.inr (some s))), (1, .inl x1)] [.inl x1] dM_29_4 (fun _ => rfl) (Or.inr rfl) ?_
    refine gs0 8 [(0, .inr (.inr (some s))), (1, .inl x1)] [.inl 326, .inl x1] dM_29_5 (fun _ => rfl) (Or.inr rfl) ?_
    refine gsIf (t := 20) (C := 326 ≤ x1) (r := []) dM_29_8 (fun _ => rfl) (Or.inr rfl) (rTest_iff .ge x1 326) (fun c2 => ?_) (fun c2 => ?_)
    · replace h := h.1 c2
      refine gs0 22 [(0, .inr (.inr (some s))), (1, .inl x1)] [.inl 33] dM_29_20 (fun _ => rfl) (Or.inr rfl) ?_
      refine gsRet (r := some (.inl 33)) dM_29_22 (fun _ => rfl) (Or.inr rfl) ?_
      exact h
    · replace h := h.2 c2
      refine gs0 12 [(0, .inr (.inr (some s))), (1, .inl x1)] [.inr (.inr (some s))] dM_29_11 (fun _ => rfl) (Or.inr rfl) ?_
      refine gsGetR (some (s + 1)) dM_29_12 hs.2.1 rfl rfl ?_
      refine gs0 16 [(0, .inr (.inr (some s))), (1, .inl x1)] [.inl x1, .inr (.inr (some (s + 1)))] dM_29_15 (fun _ => rfl) (Or.inr rfl) ?_
      refine gsIaldN x1.toNatClampNeg (sg (s + 1) x1.toNatClampNeg) dM_29_16 hs.2.2.1 h.1 rfl rfl ?_
      replace h := h.2
      refine gs0 22 [(0, .inr (.inr (some s))), (1, .inl x1)] [.inl (sg (s + 1) x1.toNatClampNeg)] dM_29_17 (fun _ => rfl) (Or.inr rfl) ?_
      refine gsRet (r := some (.inl (sg (s + 1) x1.toNatClampNeg))) dM_29_22 (fun _ => rfl) (Or.inr rfl) ?_
      exact h
def g_30_28 (s : Nat) (y2 : Int32) (y3 : Int32) (z0 : Int32) (z1 : Int32) (z2 : Int32) (sg : rSg) (P : Option rv → rSg → Prop) : Prop := GoS rSkel 1 3 5 (some .int) false prog_5_method_13_code 28 [(0, .inr (.inr (some s))), (2, .inl y2), (3, .inl y3)] [.inl z0, .inl z1, .inl z2] sg P
set_option maxRecDepth 100000 in
theorem w_30_28 (sg : rSg) (s : Nat) (hs : isScr s) (y2 : Int32) (y3 : Int32) (z0 : Int32) (z1 : Int32) (z2 : Int32) {P : Option rv → rSg → Prop} (h :
    (y2 < 0 → 
      P (some (.inl 138)) sg) ∧
    (¬ (y2 < 0) → 
      (1 < y2 → 
        P (some (.inl 138)) sg) ∧
      (¬ (1 < y2) → 
        (((z2 * (z1 - z0)) + y2) < 0 → 
          P (some (.inl 138)) sg) ∧
        (¬ (((z2 * (z1 - z0)) + y2) < 0) → 
          (((z2 * (z1 - z0)) + y2) < (Int32.ofNat 1280) → 
            (y3 = 0 → 
              (rIn ((z2 * (z1 - z0)) + y2) 1280 = true ∧
              P (some (.inl (sg (s + 3) (((z2 * (z1 - z0)) + y2).toNatClampNeg)))) sg)) ∧
            (¬ (y3 = 0) → 
              (rIn ((z2 * (z1 - z0)) + y2) 1280 = true ∧
              EvS rSkel 1 78 [.inl (sg (s + 3) (((z2 * (z1 - z0)) + y2).toNatClampNeg))] sg (fun v9 t10 => ∃ n12, v9 = some (.inl n12) ∧
                P (some (.inl n12)) t10)))) ∧
          (¬ (((z2 * (z1 - z0)) + y2) < (Int32.ofNat 1280)) → 
            P (some (.inl 138)) sg))))) : g_30_28 s y2 y3 z0 z1 z2 sg P := by
  show GoS rSkel 1 3 5 (some .int) false prog_5_method_13_code 28 [(0, .inr (.inr (some s))), (2, .inl y2), (3, .inl y3)] [.inl z0, .inl z1, .inl z2] sg P
  have b_s := hs.1
  refine gs0 29 [(0, .inr (.inr (some s))), (2, .inl y2), (3, .inl y3)] [.inl (z1 - z0), .inl z2] dM_30_28 (fun _ => rfl) (Or.inr rfl) ?_
  refine gs0 30 [(0, .inr (.inr (some s))), (2, .inl y2), (3, .inl y3)] [.inl (z2 * (z1 - z0))] dM_30_29 (fun _ => rfl) (Or.inr rfl) ?_
  refine gs0 31 [(0, .inr (.inr (some s))), (2, .inl y2), (3, .inl y3)] [.inl y2, .inl (z2 * (z1 - z0))] dM_30_30 (fun _ => rfl) (Or.inr rfl) ?_
  refine gs0 32 [(0, .inr (.inr (some s))), (2, .inl y2), (3, .inl y3)] [.inl ((z2 * (z1 - z0)) + y2)] dM_30_31 (fun _ => rfl) (Or.inr rfl) ?_
  refine gs0 34 [(4, .inl ((z2 * (z1 - z0)) + y2)), (0, .inr (.inr (some s))), (2, .inl y2), (3, .inl y3)] [] dM_30_32 (fun _ => rfl) (Or.inr rfl) ?_
  refine gs0 35 [(4, .inl ((z2 * (z1 - z0)) + y2)), (0, .inr (.inr (some s))), (2, .inl y2), (3, .inl y3)] [.inl y2] dM_30_34 (fun _ => rfl) (Or.inr rfl) ?_
  refine gsIf (t := 58) (C := y2 < 0) (r := []) dM_30_35 (fun _ => rfl) (Or.inr rfl) (rTest_iff .lt y2 0) (fun c4 => ?_) (fun c4 => ?_)
  · replace h := h.1 c4
    refine gs0 61 [(4, .inl ((z2 * (z1 - z0)) + y2)), (0, .inr (.inr (some s))), (2, .inl y2), (3, .inl y3)] [.inl 138] dM_30_58 (fun _ => rfl) (Or.inr rfl) ?_
    refine gsRet (r := some (.inl 138)) dM_30_61 (fun _ => rfl) (Or.inr rfl) ?_
    exact h
  · replace h := h.2 c4
    refine gs0 39 [(4, .inl ((z2 * (z1 - z0)) + y2)), (0, .inr (.inr (some s))), (2, .inl y2), (3, .inl y3)] [.inl y2] dM_30_38 (fun _ => rfl) (Or.inr rfl) ?_
    refine gs0 40 [(4, .inl ((z2 * (z1 - z0)) + y2)), (0, .inr (.inr (some s))), (2, .inl y2), (3, .inl y3)] [.inl 1, .inl y2] dM_30_39 (fun _ => rfl) (Or.inr rfl) ?_
    refine gsIf (t := 58) (C := 1 < y2) (r := []) dM_30_40 (fun _ => rfl) (Or.inr rfl) (rTest_iff .gt y2 1) (fun c5 => ?_) (fun c5 => ?_)
    · replace h := h.1 c5
      refine gs0 61 [(4, .inl ((z2 * (z1 - z0)) + y2)), (0, .inr (.inr (some s))), (2, .inl y2), (3, .inl y3)] [.inl 138] dM_30_58 (fun _ => rfl) (Or.inr rfl) ?_
      refine gsRet (r := some (.inl 138)) dM_30_61 (fun _ => rfl) (Or.inr rfl) ?_
      exact h
    · replace h := h.2 c5
      refine gs0 45 [(4, .inl ((z2 * (z1 - z0)) + y2)), (0, .inr (.inr (some s))), (2, .inl y2), (3, .inl y3)] [.inl ((z2 * (z1 - z0)) + y2)] dM_30_43 (fun _ => rfl) (Or.inr rfl) ?_
      refine gsIf (t := 58) (C := ((z2 * (z1 - z0)) + y2) < 0) (r := []) dM_30_45 (fun _ => rfl) (Or.inr rfl) (rTest_iff .lt ((z2 * (z1 - z0)) + y2) 0) (fun c6 => ?_) (fun c6 => ?_)
      · replace h := h.1 c6
        refine gs0 61 [(4, .inl ((z2 * (z1 - z0)) + y2)), (0, .inr (.inr (some s))), (2, .inl y2), (3, .inl y3)] [.inl 138] dM_30_58 (fun _ => rfl) (Or.inr rfl) ?_
        refine gsRet (r := some (.inl 138)) dM_30_61 (fun _ => rfl) (Or.inr rfl) ?_
        exact h
      · replace h := h.2 c6
        refine gs0 50 [(4, .inl ((z2 * (z1 - z0)) + y2)), (0, .inr (.inr (some s))), (2, .inl y2), (3, .inl y3)] [.inl ((z2 * (z1 - z0)) + y2)] dM_30_48 (fun _ => rfl) (Or.inr rfl) ?_
        refine gs0 51 [(4, .inl ((z2 * (z1 - z0)) + y2)), (0, .inr (.inr (some s))), (2, .inl y2), (3, .inl y3)] [.inr (.inr (some s)), .inl ((z2 * (z1 - z0)) + y2)] dM_30_50 (fun _ => rfl) (Or.inr rfl) ?_
        refine gsGetR (some (s + 3)) dM_30_51 hs.2.1 rfl rfl ?_
        refine gsAlen dM_30_54 hs.2.2.2.2 ?_
        refine gsIf (t := 62) (C := ((z2 * (z1 - z0)) + y2) < (Int32.ofNat 1280)) (r := []) dM_30_55 (fun _ => rfl) (Or.inr rfl) (rTest_iff .lt ((z2 * (z1 - z0)) + y2) (Int32.ofNat 1280)) (fun c7 => ?_) (fun c7 => ?_)
        · replace h := h.1 c7
          refine gs0 63 [(4, .inl ((z2 * (z1 - z0)) + y2)), (0, .inr (.inr (some s))), (2, .inl y2), (3, .inl y3)] [.inl y3] dM_30_62 (fun _ => rfl) (Or.inr rfl) ?_
          refine gsIf (t := 79) (C := y3 = 0) (r := []) dM_30_63 (fun _ => rfl) (Or.inr rfl) (rTest_iff .eq y3 0) (fun c8 => ?_) (fun c8 => ?_)
          · replace h := h.1 c8
            refine gs0 80 [(4, .inl ((z2 * (z1 - z0)) + y2)), (0, .inr (.inr (some s))), (2, .inl y2), (3, .inl y3)] [.inr (.inr (some s))] dM_30_79 (fun _ => rfl) (Or.inr rfl) ?_
            refine gsGetR (some (s + 3)) dM_30_80 hs.2.1 rfl rfl ?_
            refine gs0 85 [(4, .inl ((z2 * (z1 - z0)) + y2)), (0, .inr (.inr (some s))), (2, .inl y2), (3, .inl y3)] [.inl ((z2 * (z1 - z0)) + y2), .inr (.inr (some (s + 3)))] dM_30_83 (fun _ => rfl) (Or.inr rfl) ?_
            refine gsIaldN (((z2 * (z1 - z0)) + y2).toNatClampNeg) (sg (s + 3) (((z2 * (z1 - z0)) + y2).toNatClampNeg)) dM_30_85 hs.2.2.2.2 h.1 rfl rfl ?_
            replace h := h.2
            refine gsRet (r := some (.inl (sg (s + 3) (((z2 * (z1 - z0)) + y2).toNatClampNeg)))) dM_30_86 (fun _ => rfl) (Or.inr rfl) ?_
            exact h
          · replace h := h.2 c8
            refine gs0 67 [(4, .inl ((z2 * (z1 - z0)) + y2)), (0, .inr (.inr (some s))), (2, .inl y2), (3, .inl y3)] [.inr (.inr (some s))] dM_30_66 (fun _ => rfl) (Or.inr rfl) ?_
            refine gsGetR (some (s + 3)) dM_30_67 hs.2.1 rfl rfl ?_
            refine gs0 72 [(4, .inl ((z2 * (z1 - z0)) + y2)), (0, .inr (.inr (some s))), (2, .inl y2), (3, .inl y3)] [.inl ((z2 * (z1 - z0)) + y2), .inr (.inr (some (s + 3)))] dM_30_70 (fun _ => rfl) (Or.inr rfl) ?_
            refine gsIaldN (((z2 * (z1 - z0)) + y2).toNatClampNeg) (sg (s + 3) (((z2 * (z1 - z0)) + y2).toNatClampNeg)) dM_30_72 hs.2.2.2.2 h.1 rfl rfl ?_
            replace h := h.2
            refine gsCallS (y := 78) (as := [.inl (sg (s + 3) (((z2 * (z1 - z0)) + y2).toNatClampNeg))]) (r := []) dM_30_73 rfl (Or.inr rfl) rfl rfl (Nat.le_of_ble_eq_true rfl) (EvS.up h (Nat.le_of_ble_eq_true rfl)) (fun v9 t10 hv11 => ?_)
            obtain ⟨n12, rfl, hn⟩ := hv11
            clear h
            show GoS _ _ _ _ _ _ _ _ [(4, .inl ((z2 * (z1 - z0)) + y2)), (0, .inr (.inr (some s))), (2, .inl y2), (3, .inl y3)] [.inl n12] t10 _
            refine gs0 86 [(4, .inl ((z2 * (z1 - z0)) + y2)), (0, .inr (.inr (some s))), (2, .inl y2), (3, .inl y3)] [.inl n12] dM_30_76 (fun _ => rfl) (Or.inr rfl) ?_
            refine gsRet (r := some (.inl n12)) dM_30_86 (fun _ => rfl) (Or.inr rfl) ?_
            exact hn
        · replace h := h.2 c7
          refine gs0 61 [(4, .inl ((z2 * (z1 - z0)) + y2)), (0, .inr (.inr (some s))), (2, .inl y2), (3, .inl y3)] [.inl 138] dM_30_58 (fun _ => rfl) (Or.inr rfl) ?_
          refine gsRet (r := some (.inl 138)) dM_30_61 (fun _ => rfl) (Or.inr rfl) ?_
          exact h
set_option maxRecDepth 100000 in
/-- GoalsInAQueue$Script.halfOf -/
theorem w_30 (sg : rSg) (s : Nat) (hs : isScr s) (x1 : Int32) (x2 : Int32) {P : Option rv → rSg → Prop} (h :
    (x1 < 1280 → 
      g_30_28 s x2 0 256 x1 2 sg P) ∧
    (¬ (x1 < 1280) → 
      g_30_28 s x2 1 1280 x1 2 sg P)) : EvS rSkel 2 30 [.inr (.inr (some s)), .inl x1, .inl x2] sg P := by
  refine EvS.of (ini := false) rfl ⟨rfl, Nat.le_of_ble_eq_true rfl⟩ rfl ?_
  show GoS rSkel 1 3 5 (some .int) false prog_5_method_13_code 0 [(0, .inr (.inr (some s))), (1, .inl x1), (2, .inl x2)] [] sg _
  have b_s := hs.1
  refine gs0 1 [(0, .inr (.inr (some s))), (1, .inl x1), (2, .inl x2)] [.inl x1] dM_30_0 (fun _ => rfl) (Or.inr rfl) ?_
  refine gs0 4 [(0, .inr (.inr (some s))), (1, .inl x1), (2, .inl x2)] [.inl 1280, .inl x1] dM_30_1 (fun _ => rfl) (Or.inr rfl) ?_
  refine gsIf (t := 11) (C := x1 < 1280) (r := []) dM_30_4 (fun _ => rfl) (Or.inr rfl) (rTest_iff .lt x1 1280) (fun c1 => ?_) (fun c1 => ?_)
  · replace h := h.1 c1
    refine gs0 12 [(0, .inr (.inr (some s))), (1, .inl x1), (2, .inl x2)] [.inl 0] dM_30_11 (fun _ => rfl) (Or.inr rfl) ?_
    refine gs0 13 [(3, .inl 0), (0, .inr (.inr (some s))), (1, .inl x1), (2, .inl x2)] [] dM_30_12 (fun _ => rfl) (Or.inr rfl) ?_
    refine gs0 14 [(3, .inl 0), (0, .inr (.inr (some s))), (1, .inl x1), (2, .inl x2)] [.inl 2] dM_30_13 (fun _ => rfl) (Or.inr rfl) ?_
    refine gs0 15 [(3, .inl 0), (0, .inr (.inr (some s))), (1, .inl x1), (2, .inl x2)] [.inl x1, .inl 2] dM_30_14 (fun _ => rfl) (Or.inr rfl) ?_
    refine gs0 16 [(3, .inl 0), (0, .inr (.inr (some s))), (1, .inl x1), (2, .inl x2)] [.inl 0, .inl x1, .inl 2] dM_30_15 (fun _ => rfl) (Or.inr rfl) ?_
    refine gsIf (t := 25) (C := 0 = 0) (r := [.inl x1, .inl 2]) dM_30_16 (fun _ => rfl) (Or.inr rfl) (rTest_iff .eq 0 0) (fun c2 => ?_) (fun c2 => absurd (by decide) c2)
    refine gs0 28 [(3, .inl 0), (0, .inr (.inr (some s))), (1, .inl x1), (2, .inl x2)] [.inl 256, .inl x1, .inl 2] dM_30_25 (fun _ => rfl) (Or.inr rfl) ?_
    exact GoS.sub (Lnd_keys (ks := [0, 2, 3]) rfl (by decide)) (Lsub_cons rfl (Lsub_cons rfl (Lsub_cons rfl Lsub_nil))) h
  · replace h := h.2 c1
    refine gs0 8 [(0, .inr (.inr (some s))), (1, .inl x1), (2, .inl x2)] [.inl 1] dM_30_7 (fun _ => rfl) (Or.inr rfl) ?_
    refine gs0 12 [(0, .inr (.inr (some s))), (1, .inl x1), (2, .inl x2)] [.inl 1] dM_30_8 (fun _ => rfl) (Or.inr rfl) ?_
    refine gs0 13 [(3, .inl 1), (0, .inr (.inr (some s))), (1, .inl x1), (2, .inl x2)] [] dM_30_12 (fun _ => rfl) (Or.inr rfl) ?_
    refine gs0 14 [(3, .inl 1), (0, .inr (.inr (some s))), (1, .inl x1), (2, .inl x2)] [.inl 2] dM_30_13 (fun _ => rfl) (Or.inr rfl) ?_
    refine gs0 15 [(3, .inl 1), (0, .inr (.inr (some s))), (1, .inl x1), (2, .inl x2)] [.inl x1, .inl 2] dM_30_14 (fun _ => rfl) (Or.inr rfl) ?_
    refine gs0 16 [(3, .inl 1), (0, .inr (.inr (some s))), (1, .inl x1), (2, .inl x2)] [.inl 1, .inl x1, .inl 2] dM_30_15 (fun _ => rfl) (Or.inr rfl) ?_
    refine gsIf (t := 25) (C := 1 = 0) (r := [.inl x1, .inl 2]) dM_30_16 (fun _ => rfl) (Or.inr rfl) (rTest_iff .eq 1 0) (fun c3 => absurd c3 (by decide)) (fun c3 => ?_)
    refine gs0 22 [(3, .inl 1), (0, .inr (.inr (some s))), (1, .inl x1), (2, .inl x2)] [.inl 1280, .inl x1, .inl 2] dM_30_19 (fun _ => rfl) (Or.inr rfl) ?_
    refine gs0 28 [(3, .inl 1), (0, .inr (.inr (some s))), (1, .inl x1), (2, .inl x2)] [.inl 1280, .inl x1, .inl 2] dM_30_22 (fun _ => rfl) (Or.inr rfl) ?_
    exact GoS.sub (Lnd_keys (ks := [0, 2, 3]) rfl (by decide)) (Lsub_cons rfl (Lsub_cons rfl (Lsub_cons rfl Lsub_nil))) h
set_option maxRecDepth 100000 in
/-- GoalsInAQueue$Script.copy -/
theorem w_31 (sg : rSg) (s : Nat) (hs : isScr s) (s2 : Nat) (hs2 : isScr s2) (hss : s + 3 < s2 ∨ s2 + 3 < s) {P : Option rv → rSg → Prop} (h :
    EvS rSkel 1 27 [.inr (.inr (some s)), .inr (.inr (some s2)), .inl (sg s2 3), .inl (sg s2 4)] sg (fun v1 t2 => v1 = none ∧
      P none t2)) : EvS rSkel 2 31 [.inr (.inr (some s)), .inr (.inr (some s2))] sg P := by
  refine EvS.of (ini := false) rfl ⟨rfl, Nat.le_of_ble_eq_true rfl⟩ rfl ?_
  show GoS rSkel 1 3 2 none false prog_5_method_5_code 0 [(0, .inr (.inr (some s))), (1, .inr (.inr (some s2)))] [] sg _
  have b_s := hs.1
  have b_s2 := hs2.1
  refine gs0 1 [(0, .inr (.inr (some s))), (1, .inr (.inr (some s2)))] [.inr (.inr (some s))] dM_31_0 (fun _ => rfl) (Or.inr rfl) ?_
  refine gs0 2 [(0, .inr (.inr (some s))), (1, .inr (.inr (some s2)))] [.inr (.inr (some s2)), .inr (.inr (some s))] dM_31_1 (fun _ => rfl) (Or.inr rfl) ?_
  refine gs0 3 [(0, .inr (.inr (some s))), (1, .inr (.inr (some s2)))] [.inr (.inr (some s2)), .inr (.inr (some s2)), .inr (.inr (some s))] dM_31_2 (fun _ => rfl) (Or.inr rfl) ?_
  refine gsGetE (sg s2 3) dM_31_3 hs2.2.1 rfl rfl rfl ?_
  refine gs0 7 [(0, .inr (.inr (some s))), (1, .inr (.inr (some s2)))] [.inr (.inr (some s2)), .inl (sg s2 3), .inr (.inr (some s2)), .inr (.inr (some s))] dM_31_6 (fun _ => rfl) (Or.inr rfl) ?_
  refine gsGetE (sg s2 4) dM_31_7 hs2.2.1 rfl rfl rfl ?_
  refine gsCallV (y := 27) (k := s) (as := [.inr (.inr (some s)), .inr (.inr (some s2)), .inl (sg s2 3), .inl (sg s2 4)]) (r := []) dM_31_10 rfl rfl rfl (Nat.le_of_ble_eq_true rfl) hs.2.1 rfl (Nat.le_of_ble_eq_true rfl) (EvS.up h (Nat.le_of_ble_eq_true rfl)) (fun v1 t2 hv3 => ?_)
  obtain ⟨rfl, hn⟩ := hv3
  clear h
  show GoS _ _ _ _ _ _ _ _ [(0, .inr (.inr (some s))), (1, .inr (.inr (some s2)))] [] t2 _
  refine gsRet (r := none) dM_31_13 (fun _ => rfl) (Or.inr rfl) ?_
  exact hn
