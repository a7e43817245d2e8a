theorem dM_33_0 : decode prog_6_method_2_code 0 = .ok (.aload_n 0, 1) := by decide +kernel
theorem dM_33_1 : decode prog_6_method_2_code 1 = .ok (.iconst 0, 1) := by decide +kernel
theorem dM_33_2 : decode prog_6_method_2_code 2 = .ok (.putfield 46, 3) := by decide +kernel
theorem dM_33_5 : decode prog_6_method_2_code 5 = .ok (.aload_n 0, 1) := by decide +kernel
theorem dM_33_6 : decode prog_6_method_2_code 6 = .ok (.iconst 0, 1) := by decide +kernel
theorem dM_33_7 : decode prog_6_method_2_code 7 = .ok (.putfield 50, 3) := by decide +kernel
theorem dM_33_10 : decode prog_6_method_2_code 10 = .ok (.aload_n 0, 1) := by decide +kernel
theorem dM_33_11 : decode prog_6_method_2_code 11 = .ok (.iconst 0, 1) := by decide +kernel
theorem dM_33_12 : decode prog_6_method_2_code 12 = .ok (.putfield 53, 3) := by decide +kernel
theorem dM_33_15 : decode prog_6_method_2_code 15 = .ok (.aload_n 0, 1) := by decide +kernel
theorem dM_33_16 : decode prog_6_method_2_code 16 = .ok (.iconst 0, 1) := by decide +kernel
theorem dM_33_17 : decode prog_6_method_2_code 17 = .ok (.putfield 56, 3) := by decide +kernel
theorem dM_33_20 : decode prog_6_method_2_code 20 = .ok (.aload_n 0, 1) := by decide +kernel
theorem dM_33_21 : decode prog_6_method_2_code 21 = .ok (.iconst 0, 1) := by decide +kernel
theorem dM_33_22 : decode prog_6_method_2_code 22 = .ok (.putfield 59, 3) := by decide +kernel
theorem dM_33_25 : decode prog_6_method_2_code 25 = .ok (.aload_n 0, 1) := by decide +kernel
theorem dM_33_26 : decode prog_6_method_2_code 26 = .ok (.iconst 1, 1) := by decide +kernel
theorem dM_33_27 : decode prog_6_method_2_code 27 = .ok (.putfield 62, 3) := by decide +kernel
theorem dM_33_30 : decode prog_6_method_2_code 30 = .ok (.aload_n 0, 1) := by decide +kernel
theorem dM_33_31 : decode prog_6_method_2_code 31 = .ok (.getfield 36, 3) := by decide +kernel
theorem dM_33_34 : decode prog_6_method_2_code 34 = .ok (.invokevirtual 65, 3) := by decide +kernel
theorem dM_33_37 : decode prog_6_method_2_code 37 = .ok (.aload_n 0, 1) := by decide +kernel
theorem dM_33_38 : decode prog_6_method_2_code 38 = .ok (.getfield 36, 3) := by decide +kernel
theorem dM_33_41 : decode prog_6_method_2_code 41 = .ok (.aload_n 0, 1) := by decide +kernel
theorem dM_33_42 : decode prog_6_method_2_code 42 = .ok (.getfield 18, 3) := by decide +kernel
theorem dM_33_45 : decode prog_6_method_2_code 45 = .ok (.getfield 68, 3) := by decide +kernel
theorem dM_33_48 : decode prog_6_method_2_code 48 = .ok (.invokevirtual 71, 3) := by decide +kernel
theorem dM_33_51 : decode prog_6_method_2_code 51 = .ok (.aload_n 0, 1) := by decide +kernel
theorem dM_33_52 : decode prog_6_method_2_code 52 = .ok (.aload_n 0, 1) := by decide +kernel
theorem dM_33_53 : decode prog_6_method_2_code 53 = .ok (.getfield 36, 3) := by decide +kernel
theorem dM_33_56 : decode prog_6_method_2_code 56 = .ok (.invokevirtual 75, 3) := by decide +kernel
theorem dM_33_59 : decode prog_6_method_2_code 59 = .ok (.return_, 1) := by decide +kernel
theorem dM_34_0 : decode prog_6_method_18_code 0 = .ok (.aload_n 1, 1) := by decide +kernel
theorem dM_34_1 : decode prog_6_method_18_code 1 = .ok (.getfield 185, 3) := by decide +kernel
theorem dM_34_4 : decode prog_6_method_18_code 4 = .ok (.bipush 60, 2) := by decide +kernel
theorem dM_34_6 : decode prog_6_method_18_code 6 = .ok (.if_icmp .gt 12, 3) := by decide +kernel
theorem dM_34_9 : decode prog_6_method_18_code 9 = .ok (.aload_n 0, 1) := by decide +kernel
theorem dM_34_10 : decode prog_6_method_18_code 10 = .ok (.getfield 50, 3) := by decide +kernel
theorem dM_34_13 : decode prog_6_method_18_code 13 = .ok (.bipush 40, 2) := by decide +kernel
theorem dM_34_15 : decode prog_6_method_18_code 15 = .ok (.if_icmp .lt 16, 3) := by decide +kernel
theorem dM_34_18 : decode prog_6_method_18_code 18 = .ok (.aload_n 0, 1) := by decide +kernel
theorem dM_34_19 : decode prog_6_method_18_code 19 = .ok (.dup, 1) := by decide +kernel
theorem dM_34_20 : decode prog_6_method_18_code 20 = .ok (.getfield 59, 3) := by decide +kernel
theorem dM_34_23 : decode prog_6_method_18_code 23 = .ok (.iconst 1, 1) := by decide +kernel
theorem dM_34_24 : decode prog_6_method_18_code 24 = .ok (.iadd, 1) := by decide +kernel
theorem dM_34_25 : decode prog_6_method_18_code 25 = .ok (.putfield 59, 3) := by decide +kernel
theorem dM_34_28 : decode prog_6_method_18_code 28 = .ok (.goto 25, 3) := by decide +kernel
theorem dM_34_31 : decode prog_6_method_18_code 31 = .ok (.aload_n 0, 1) := by decide +kernel
theorem dM_34_32 : decode prog_6_method_18_code 32 = .ok (.aload_n 0, 1) := by decide +kernel
theorem dM_34_33 : decode prog_6_method_18_code 33 = .ok (.getfield 50, 3) := by decide +kernel
theorem dM_34_36 : decode prog_6_method_18_code 36 = .ok (.invokevirtual 92, 3) := by decide +kernel
theorem dM_34_39 : decode prog_6_method_18_code 39 = .ok (.aload_n 1, 1) := by decide +kernel
theorem dM_34_40 : decode prog_6_method_18_code 40 = .ok (.invokevirtual 96, 3) := by decide +kernel
theorem dM_34_43 : decode prog_6_method_18_code 43 = .ok (.aload_n 0, 1) := by decide +kernel
theorem dM_34_44 : decode prog_6_method_18_code 44 = .ok (.dup, 1) := by decide +kernel
theorem dM_34_45 : decode prog_6_method_18_code 45 = .ok (.getfield 50, 3) := by decide +kernel
theorem dM_34_48 : decode prog_6_method_18_code 48 = .ok (.iconst 1, 1) := by decide +kernel
theorem dM_34_49 : decode prog_6_method_18_code 49 = .ok (.iadd, 1) := by decide +kernel
theorem dM_34_50 : decode prog_6_method_18_code 50 = .ok (.putfield 50, 3) := by decide +kernel
theorem dM_34_53 : decode prog_6_method_18_code 53 = .ok (.return_, 1) := by decide +kernel
theorem dM_35_0 : decode prog_6_method_8_code 0 = .ok (.aload_n 0, 1) := by decide +kernel
theorem dM_35_1 : decode prog_6_method_8_code 1 = .ok (.getfield 46, 3) := by decide +kernel
theorem dM_35_4 : decode prog_6_method_8_code 4 = .ok (.iload_n 1, 1) := by decide +kernel
theorem dM_35_5 : decode prog_6_method_8_code 5 = .ok (.iadd, 1) := by decide +kernel
theorem dM_35_6 : decode prog_6_method_8_code 6 = .ok (.bipush 40, 2) := by decide +kernel
theorem dM_35_8 : decode prog_6_method_8_code 8 = .ok (.irem, 1) := by decide +kernel
theorem dM_35_9 : decode prog_6_method_8_code 9 = .ok (.istore_n 2, 1) := by decide +kernel
theorem dM_35_10 : decode prog_6_method_8_code 10 = .ok (.iload_n 2, 1) := by decide +kernel
theorem dM_35_11 : decode prog_6_method_8_code 11 = .ok (.ifCond .lt 18, 3) := by decide +kernel
theorem dM_35_14 : decode prog_6_method_8_code 14 = .ok (.iload_n 2, 1) := by decide +kernel
theorem dM_35_15 : decode prog_6_method_8_code 15 = .ok (.bipush 40, 2) := by decide +kernel
theorem dM_35_17 : decode prog_6_method_8_code 17 = .ok (.if_icmp .ge 12, 3) := by decide +kernel
theorem dM_35_20 : decode prog_6_method_8_code 20 = .ok (.aload_n 0, 1) := by decide +kernel
theorem dM_35_21 : decode prog_6_method_8_code 21 = .ok (.getfield 24, 3) := by decide +kernel
theorem dM_35_24 : decode prog_6_method_8_code 24 = .ok (.iload_n 2, 1) := by decide +kernel
theorem dM_35_25 : decode prog_6_method_8_code 25 = .ok (.aaload, 1) := by decide +kernel
theorem dM_35_26 : decode prog_6_method_8_code 26 = .ok (.goto 7, 3) := by decide +kernel
theorem dM_35_29 : decode prog_6_method_8_code 29 = .ok (.aload_n 0, 1) := by decide +kernel
theorem dM_35_30 : decode prog_6_method_8_code 30 = .ok (.getfield 36, 3) := by decide +kernel
theorem dM_35_33 : decode prog_6_method_8_code 33 = .ok (.astore_n 3, 1) := by decide +kernel
theorem dM_35_34 : decode prog_6_method_8_code 34 = .ok (.aload_n 3, 1) := by decide +kernel
theorem dM_35_35 : decode prog_6_method_8_code 35 = .ok (.ifnonnull 10, 3) := by decide +kernel
theorem dM_35_38 : decode prog_6_method_8_code 38 = .ok (.aload_n 0, 1) := by decide +kernel
theorem dM_35_39 : decode prog_6_method_8_code 39 = .ok (.getfield 36, 3) := by decide +kernel
theorem dM_35_42 : decode prog_6_method_8_code 42 = .ok (.goto 4, 3) := by decide +kernel
theorem dM_35_45 : decode prog_6_method_8_code 45 = .ok (.aload_n 3, 1) := by decide +kernel
theorem dM_35_46 : decode prog_6_method_8_code 46 = .ok (.areturn, 1) := by decide +kernel
theorem dM_36_0 : decode prog_6_method_9_code 0 = .ok (.iconst 0, 1) := by decide +kernel
theorem dM_36_1 : decode prog_6_method_9_code 1 = .ok (.istore_n 3, 1) := by decide +kernel
theorem dM_36_2 : decode prog_6_method_9_code 2 = .ok (.iload_n 3, 1) := by decide +kernel
theorem dM_36_3 : decode prog_6_method_9_code 3 = .ok (.iload_n 1, 1) := by decide +kernel
theorem dM_36_4 : decode prog_6_method_9_code 4 = .ok (.if_icmp .ge 111, 3) := by decide +kernel
theorem dM_36_7 : decode prog_6_method_9_code 7 = .ok (.aload_n 0, 1) := by decide +kernel
theorem dM_36_8 : decode prog_6_method_9_code 8 = .ok (.invokevirtual 101, 3) := by decide +kernel
theorem dM_36_11 : decode prog_6_method_9_code 11 = .ok (.ifCond .ne 104, 3) := by decide +kernel
theorem dM_36_14 : decode prog_6_method_9_code 14 = .ok (.aload_n 0, 1) := by decide +kernel
theorem dM_36_15 : decode prog_6_method_9_code 15 = .ok (.getfield 56, 3) := by decide +kernel
theorem dM_36_18 : decode prog_6_method_9_code 18 = .ok (.iload_n 2, 1) := by decide +kernel
theorem dM_36_19 : decode prog_6_method_9_code 19 = .ok (.if_icmp .ge 96, 3) := by decide +kernel
theorem dM_36_22 : decode prog_6_method_9_code 22 = .ok (.aload_n 0, 1) := by decide +kernel
theorem dM_36_23 : decode prog_6_method_9_code 23 = .ok (.dup, 1) := by decide +kernel
theorem dM_36_24 : decode prog_6_method_9_code 24 = .ok (.getfield 53, 3) := by decide +kernel
theorem dM_36_27 : decode prog_6_method_9_code 27 = .ok (.iconst 1, 1) := by decide +kernel
theorem dM_36_28 : decode prog_6_method_9_code 28 = .ok (.iadd, 1) := by decide +kernel
theorem dM_36_29 : decode prog_6_method_9_code 29 = .ok (.putfield 53, 3) := by decide +kernel
theorem dM_36_32 : decode prog_6_method_9_code 32 = .ok (.aload_n 0, 1) := by decide +kernel
theorem dM_36_33 : decode prog_6_method_9_code 33 = .ok (.getfield 36, 3) := by decide +kernel
theorem dM_36_36 : decode prog_6_method_9_code 36 = .ok (.aload_n 0, 1) := by decide +kernel
theorem dM_36_37 : decode prog_6_method_9_code 37 = .ok (.invokevirtual 105, 3) := by decide +kernel
theorem dM_36_40 : decode prog_6_method_9_code 40 = .ok (.invokevirtual 96, 3) := by decide +kernel
theorem dM_36_43 : decode prog_6_method_9_code 43 = .ok (.aload_n 0, 1) := by decide +kernel
theorem dM_36_44 : decode prog_6_method_9_code 44 = .ok (.aload_n 0, 1) := by decide +kernel
theorem dM_36_45 : decode prog_6_method_9_code 45 = .ok (.getfield 46, 3) := by decide +kernel
theorem dM_36_48 : decode prog_6_method_9_code 48 = .ok (.iconst 1, 1) := by decide +kernel
theorem dM_36_49 : decode prog_6_method_9_code 49 = .ok (.iadd, 1) := by decide +kernel
theorem dM_36_50 : decode prog_6_method_9_code 50 = .ok (.bipush 40, 2) := by decide +kernel
theorem dM_36_52 : decode prog_6_method_9_code 52 = .ok (.irem, 1) := by decide +kernel
theorem dM_36_53 : decode prog_6_method_9_code 53 = .ok (.putfield 46, 3) := by decide +kernel
theorem dM_36_56 : decode prog_6_method_9_code 56 = .ok (.aload_n 0, 1) := by decide +kernel
theorem dM_36_57 : decode prog_6_method_9_code 57 = .ok (.dup, 1) := by decide +kernel
theorem dM_36_58 : decode prog_6_method_9_code 58 = .ok (.getfield 50, 3) := by decide +kernel
theorem dM_36_61 : decode prog_6_method_9_code 61 = .ok (.iconst 1, 1) := by decide +kernel
theorem dM_36_62 : decode prog_6_method_9_code 62 = .ok (.isub, 1) := by decide +kernel
theorem dM_36_63 : decode prog_6_method_9_code 63 = .ok (.putfield 50, 3) := by decide +kernel
theorem dM_36_66 : decode prog_6_method_9_code 66 = .ok (.aload_n 0, 1) := by decide +kernel
theorem dM_36_67 : decode prog_6_method_9_code 67 = .ok (.getfield 36, 3) := by decide +kernel
theorem dM_36_70 : decode prog_6_method_9_code 70 = .ok (.getfield 109, 3) := by decide +kernel
theorem dM_36_73 : decode prog_6_method_9_code 73 = .ok (.ifCond .ne 10, 3) := by decide +kernel
theorem dM_36_76 : decode prog_6_method_9_code 76 = .ok (.aload_n 0, 1) := by decide +kernel
theorem dM_36_77 : decode prog_6_method_9_code 77 = .ok (.invokevirtual 112, 3) := by decide +kernel
theorem dM_36_80 : decode prog_6_method_9_code 80 = .ok (.goto 14, 3) := by decide +kernel
theorem dM_36_83 : decode prog_6_method_9_code 83 = .ok (.aload_n 0, 1) := by decide +kernel
theorem dM_36_84 : decode prog_6_method_9_code 84 = .ok (.aload_n 0, 1) := by decide +kernel
theorem dM_36_85 : decode prog_6_method_9_code 85 = .ok (.getfield 36, 3) := by decide +kernel
theorem dM_36_88 : decode prog_6_method_9_code 88 = .ok (.invokevirtual 115, 3) := by decide +kernel
theorem dM_36_91 : decode prog_6_method_9_code 91 = .ok (.invokevirtual 119, 3) := by decide +kernel
theorem dM_36_94 : decode prog_6_method_9_code 94 = .ok (.aload_n 0, 1) := by decide +kernel
theorem dM_36_95 : decode prog_6_method_9_code 95 = .ok (.aload_n 0, 1) := by decide +kernel
theorem dM_36_96 : decode prog_6_method_9_code 96 = .ok (.getfield 62, 3) := by decide +kernel
theorem dM_36_99 : decode prog_6_method_9_code 99 = .ok (.aload_n 0, 1) := by decide +kernel
theorem dM_36_100 : decode prog_6_method_9_code 100 = .ok (.getfield 50, 3) := by decide +kernel
theorem dM_36_103 : decode prog_6_method_9_code 103 = .ok (.invokestatic 83, 3) := by decide +kernel
theorem dM_36_106 : decode prog_6_method_9_code 106 = .ok (.putfield 62, 3) := by decide +kernel
theorem dM_36_109 : decode prog_6_method_9_code 109 = .ok (.iinc 3 1, 3) := by decide +kernel
theorem dM_36_112 : decode prog_6_method_9_code 112 = .ok (.goto (-110), 3) := by decide +kernel
theorem dM_36_115 : decode prog_6_method_9_code 115 = .ok (.return_, 1) := by decide +kernel
theorem dM_37_0 : decode prog_6_method_4_code 0 = .ok (.aload_n 0, 1) := by decide +kernel
theorem dM_37_1 : decode prog_6_method_4_code 1 = .ok (.getfield 50, 3) := by decide +kernel
theorem dM_37_4 : decode prog_6_method_4_code 4 = .ok (.ifCond .eq 12, 3) := by decide +kernel
theorem dM_37_7 : decode prog_6_method_4_code 7 = .ok (.aload_n 0, 1) := by decide +kernel
theorem dM_37_8 : decode prog_6_method_4_code 8 = .ok (.getfield 56, 3) := by decide +kernel
theorem dM_37_11 : decode prog_6_method_4_code 11 = .ok (.bipush 30, 2) := by decide +kernel
theorem dM_37_13 : decode prog_6_method_4_code 13 = .ok (.if_icmp .lt 7, 3) := by decide +kernel
theorem dM_37_16 : decode prog_6_method_4_code 16 = .ok (.iconst 1, 1) := by decide +kernel
theorem dM_37_17 : decode prog_6_method_4_code 17 = .ok (.goto 4, 3) := by decide +kernel
theorem dM_37_20 : decode prog_6_method_4_code 20 = .ok (.iconst 0, 1) := by decide +kernel
theorem dM_37_21 : decode prog_6_method_4_code 21 = .ok (.ireturn, 1) := by decide +kernel
theorem dM_38_0 : decode prog_6_method_7_code 0 = .ok (.aload_n 0, 1) := by decide +kernel
theorem dM_38_1 : decode prog_6_method_7_code 1 = .ok (.iconst 0, 1) := by decide +kernel
theorem dM_38_2 : decode prog_6_method_7_code 2 = .ok (.invokevirtual 92, 3) := by decide +kernel
theorem dM_38_5 : decode prog_6_method_7_code 5 = .ok (.areturn, 1) := by decide +kernel
theorem dM_39_0 : decode prog_6_method_10_code 0 = .ok (.aload_n 0, 1) := by decide +kernel
theorem dM_39_1 : decode prog_6_method_10_code 1 = .ok (.getfield 56, 3) := by decide +kernel
theorem dM_39_4 : decode prog_6_method_10_code 4 = .ok (.ifCond .lt 50, 3) := by decide +kernel
theorem dM_39_7 : decode prog_6_method_10_code 7 = .ok (.aload_n 0, 1) := by decide +kernel
theorem dM_39_8 : decode prog_6_method_10_code 8 = .ok (.getfield 56, 3) := by decide +kernel
theorem dM_39_11 : decode prog_6_method_10_code 11 = .ok (.bipush 30, 2) := by decide +kernel
theorem dM_39_13 : decode prog_6_method_10_code 13 = .ok (.if_icmp .ge 41, 3) := by decide +kernel
theorem dM_39_16 : decode prog_6_method_10_code 16 = .ok (.aload_n 0, 1) := by decide +kernel
theorem dM_39_17 : decode prog_6_method_10_code 17 = .ok (.aload_n 0, 1) := by decide +kernel
theorem dM_39_18 : decode prog_6_method_10_code 18 = .ok (.getfield 56, 3) := by decide +kernel
theorem dM_39_21 : decode prog_6_method_10_code 21 = .ok (.invokevirtual 98, 3) := by decide +kernel
theorem dM_39_24 : decode prog_6_method_10_code 24 = .ok (.aload_n 0, 1) := by decide +kernel
theorem dM_39_25 : decode prog_6_method_10_code 25 = .ok (.getfield 36, 3) := by decide +kernel
theorem dM_39_28 : decode prog_6_method_10_code 28 = .ok (.invokevirtual 96, 3) := by decide +kernel
theorem dM_39_31 : decode prog_6_method_10_code 31 = .ok (.aload_n 0, 1) := by decide +kernel
theorem dM_39_32 : decode prog_6_method_10_code 32 = .ok (.getfield 32, 3) := by decide +kernel
theorem dM_39_35 : decode prog_6_method_10_code 35 = .ok (.aload_n 0, 1) := by decide +kernel
theorem dM_39_36 : decode prog_6_method_10_code 36 = .ok (.getfield 56, 3) := by decide +kernel
theorem dM_39_39 : decode prog_6_method_10_code 39 = .ok (.aload_n 0, 1) := by decide +kernel
theorem dM_39_40 : decode prog_6_method_10_code 40 = .ok (.getfield 53, 3) := by decide +kernel
theorem dM_39_43 : decode prog_6_method_10_code 43 = .ok (.iastore, 1) := by decide +kernel
theorem dM_39_44 : decode prog_6_method_10_code 44 = .ok (.aload_n 0, 1) := by decide +kernel
theorem dM_39_45 : decode prog_6_method_10_code 45 = .ok (.dup, 1) := by decide +kernel
theorem dM_39_46 : decode prog_6_method_10_code 46 = .ok (.getfield 56, 3) := by decide +kernel
theorem dM_39_49 : decode prog_6_method_10_code 49 = .ok (.iconst 1, 1) := by decide +kernel
theorem dM_39_50 : decode prog_6_method_10_code 50 = .ok (.iadd, 1) := by decide +kernel
theorem dM_39_51 : decode prog_6_method_10_code 51 = .ok (.putfield 56, 3) := by decide +kernel
theorem dM_39_54 : decode prog_6_method_10_code 54 = .ok (.return_, 1) := by decide +kernel
theorem dM_40_0 : decode prog_6_method_5_code 0 = .ok (.iload_n 1, 1) := by decide +kernel
theorem dM_40_1 : decode prog_6_method_5_code 1 = .ok (.ifCond .lt 18, 3) := by decide +kernel
theorem dM_40_4 : decode prog_6_method_5_code 4 = .ok (.iload_n 1, 1) := by decide +kernel
theorem dM_40_5 : decode prog_6_method_5_code 5 = .ok (.bipush 30, 2) := by decide +kernel
theorem dM_40_7 : decode prog_6_method_5_code 7 = .ok (.if_icmp .ge 12, 3) := by decide +kernel
theorem dM_40_10 : decode prog_6_method_5_code 10 = .ok (.aload_n 0, 1) := by decide +kernel
theorem dM_40_11 : decode prog_6_method_5_code 11 = .ok (.getfield 29, 3) := by decide +kernel
theorem dM_40_14 : decode prog_6_method_5_code 14 = .ok (.iload_n 1, 1) := by decide +kernel
theorem dM_40_15 : decode prog_6_method_5_code 15 = .ok (.aaload, 1) := by decide +kernel
theorem dM_40_16 : decode prog_6_method_5_code 16 = .ok (.goto 7, 3) := by decide +kernel
theorem dM_40_19 : decode prog_6_method_5_code 19 = .ok (.aload_n 0, 1) := by decide +kernel
theorem dM_40_20 : decode prog_6_method_5_code 20 = .ok (.getfield 36, 3) := by decide +kernel
theorem dM_40_23 : decode prog_6_method_5_code 23 = .ok (.astore_n 2, 1) := by decide +kernel
theorem dM_40_24 : decode prog_6_method_5_code 24 = .ok (.aload_n 2, 1) := by decide +kernel
theorem dM_40_25 : decode prog_6_method_5_code 25 = .ok (.ifnonnull 10, 3) := by decide +kernel
theorem dM_40_28 : decode prog_6_method_5_code 28 = .ok (.aload_n 0, 1) := by decide +kernel
theorem dM_40_29 : decode prog_6_method_5_code 29 = .ok (.getfield 36, 3) := by decide +kernel
theorem dM_40_32 : decode prog_6_method_5_code 32 = .ok (.goto 4, 3) := by decide +kernel
theorem dM_40_35 : decode prog_6_method_5_code 35 = .ok (.aload_n 2, 1) := by decide +kernel
theorem dM_40_36 : decode prog_6_method_5_code 36 = .ok (.areturn, 1) := by decide +kernel
theorem dM_41_0 : decode prog_6_method_11_code 0 = .ok (.aload_n 0, 1) := by decide +kernel
theorem dM_41_1 : decode prog_6_method_11_code 1 = .ok (.getfield 18, 3) := by decide +kernel
theorem dM_41_4 : decode prog_6_method_11_code 4 = .ok (.iload_n 1, 1) := by decide +kernel
theorem dM_41_5 : decode prog_6_method_11_code 5 = .ok (.iconst 0, 1) := by decide +kernel
theorem dM_41_6 : decode prog_6_method_11_code 6 = .ok (.invokevirtual 122, 3) := by decide +kernel
theorem dM_41_9 : decode prog_6_method_11_code 9 = .ok (.istore_n 2, 1) := by decide +kernel
theorem dM_41_10 : decode prog_6_method_11_code 10 = .ok (.aload_n 0, 1) := by decide +kernel
theorem dM_41_11 : decode prog_6_method_11_code 11 = .ok (.getfield 18, 3) := by decide +kernel
theorem dM_41_14 : decode prog_6_method_11_code 14 = .ok (.iload_n 1, 1) := by decide +kernel
theorem dM_41_15 : decode prog_6_method_11_code 15 = .ok (.iconst 1, 1) := by decide +kernel
theorem dM_41_16 : decode prog_6_method_11_code 16 = .ok (.invokevirtual 122, 3) := by decide +kernel
theorem dM_41_19 : decode prog_6_method_11_code 19 = .ok (.istore_n 3, 1) := by decide +kernel
theorem dM_41_20 : decode prog_6_method_11_code 20 = .ok (.aload_n 0, 1) := by decide +kernel
theorem dM_41_21 : decode prog_6_method_11_code 21 = .ok (.getfield 18, 3) := by decide +kernel
theorem dM_41_24 : decode prog_6_method_11_code 24 = .ok (.iload_n 1, 1) := by decide +kernel
theorem dM_41_25 : decode prog_6_method_11_code 25 = .ok (.invokevirtual 125, 3) := by decide +kernel
theorem dM_41_28 : decode prog_6_method_11_code 28 = .ok (.lookupswitch 319 #[(35, 102), (38, 121), (42, 194), (61, 68), (65, 205), (77, 271), (124, 148)], 68) := by decide +kernel
theorem dM_41_96 : decode prog_6_method_11_code 96 = .ok (.aload_n 0, 1) := by decide +kernel
theorem dM_41_97 : decode prog_6_method_11_code 97 = .ok (.getfield 9, 3) := by decide +kernel
theorem dM_41_100 : decode prog_6_method_11_code 100 = .ok (.aload_n 0, 1) := by decide +kernel
theorem dM_41_101 : decode prog_6_method_11_code 101 = .ok (.getfield 18, 3) := by decide +kernel
theorem dM_41_104 : decode prog_6_method_11_code 104 = .ok (.aload_n 0, 1) := by decide +kernel
theorem dM_41_105 : decode prog_6_method_11_code 105 = .ok (.getfield 36, 3) := by decide +kernel
theorem dM_41_108 : decode prog_6_method_11_code 108 = .ok (.getfield 129, 3) := by decide +kernel
theorem dM_41_111 : decode prog_6_method_11_code 111 = .ok (.iload_n 2, 1) := by decide +kernel
theorem dM_41_112 : decode prog_6_method_11_code 112 = .ok (.iload_n 3, 1) := by decide +kernel
theorem dM_41_113 : decode prog_6_method_11_code 113 = .ok (.invokevirtual 132, 3) := by decide +kernel
theorem dM_41_116 : decode prog_6_method_11_code 116 = .ok (.ifCond .eq 231, 3) := by decide +kernel
theorem dM_41_119 : decode prog_6_method_11_code 119 = .ok (.aload_n 0, 1) := by decide +kernel
theorem dM_41_120 : decode prog_6_method_11_code 120 = .ok (.aload_n 0, 1) := by decide +kernel
theorem dM_41_121 : decode prog_6_method_11_code 121 = .ok (.getfield 36, 3) := by decide +kernel
theorem dM_41_124 : decode prog_6_method_11_code 124 = .ok (.invokevirtual 138, 3) := by decide +kernel
theorem dM_41_127 : decode prog_6_method_11_code 127 = .ok (.goto 220, 3) := by decide +kernel
theorem dM_41_130 : decode prog_6_method_11_code 130 = .ok (.aload_n 0, 1) := by decide +kernel
theorem dM_41_131 : decode prog_6_method_11_code 131 = .ok (.getfield 36, 3) := by decide +kernel
theorem dM_41_134 : decode prog_6_method_11_code 134 = .ok (.iload_n 1, 1) := by decide +kernel
theorem dM_41_135 : decode prog_6_method_11_code 135 = .ok (.invokevirtual 141, 3) := by decide +kernel
theorem dM_41_138 : decode prog_6_method_11_code 138 = .ok (.aload_n 0, 1) := by decide +kernel
theorem dM_41_139 : decode prog_6_method_11_code 139 = .ok (.aload_n 0, 1) := by decide +kernel
theorem dM_41_140 : decode prog_6_method_11_code 140 = .ok (.getfield 36, 3) := by decide +kernel
theorem dM_41_143 : decode prog_6_method_11_code 143 = .ok (.invokevirtual 138, 3) := by decide +kernel
theorem dM_41_146 : decode prog_6_method_11_code 146 = .ok (.goto 201, 3) := by decide +kernel
theorem dM_41_149 : decode prog_6_method_11_code 149 = .ok (.aload_n 0, 1) := by decide +kernel
theorem dM_41_150 : decode prog_6_method_11_code 150 = .ok (.getfield 36, 3) := by decide +kernel
theorem dM_41_153 : decode prog_6_method_11_code 153 = .ok (.iload_n 3, 1) := by decide +kernel
theorem dM_41_154 : decode prog_6_method_11_code 154 = .ok (.invokevirtual 71, 3) := by decide +kernel
theorem dM_41_157 : decode prog_6_method_11_code 157 = .ok (.aload_n 0, 1) := by decide +kernel
theorem dM_41_158 : decode prog_6_method_11_code 158 = .ok (.getfield 36, 3) := by decide +kernel
theorem dM_41_161 : decode prog_6_method_11_code 161 = .ok (.iload_n 2, 1) := by decide +kernel
theorem dM_41_162 : decode prog_6_method_11_code 162 = .ok (.invokevirtual 71, 3) := by decide +kernel
theorem dM_41_165 : decode prog_6_method_11_code 165 = .ok (.aload_n 0, 1) := by decide +kernel
theorem dM_41_166 : decode prog_6_method_11_code 166 = .ok (.aload_n 0, 1) := by decide +kernel
theorem dM_41_167 : decode prog_6_method_11_code 167 = .ok (.getfield 36, 3) := by decide +kernel
theorem dM_41_170 : decode prog_6_method_11_code 170 = .ok (.invokevirtual 75, 3) := by decide +kernel
theorem dM_41_173 : decode prog_6_method_11_code 173 = .ok (.goto 174, 3) := by decide +kernel
theorem dM_41_176 : decode prog_6_method_11_code 176 = .ok (.aload_n 0, 1) := by decide +kernel
theorem dM_41_177 : decode prog_6_method_11_code 177 = .ok (.getfield 40, 3) := by decide +kernel
theorem dM_41_180 : decode prog_6_method_11_code 180 = .ok (.aload_n 0, 1) := by decide +kernel
theorem dM_41_181 : decode prog_6_method_11_code 181 = .ok (.getfield 36, 3) := by decide +kernel
theorem dM_41_184 : decode prog_6_method_11_code 184 = .ok (.invokevirtual 96, 3) := by decide +kernel
theorem dM_41_187 : decode prog_6_method_11_code 187 = .ok (.aload_n 0, 1) := by decide +kernel
theorem dM_41_188 : decode prog_6_method_11_code 188 = .ok (.getfield 40, 3) := by decide +kernel
theorem dM_41_191 : decode prog_6_method_11_code 191 = .ok (.iload_n 2, 1) := by decide +kernel
theorem dM_41_192 : decode prog_6_method_11_code 192 = .ok (.invokevirtual 71, 3) := by decide +kernel
theorem dM_41_195 : decode prog_6_method_11_code 195 = .ok (.aload_n 0, 1) := by decide +kernel
theorem dM_41_196 : decode prog_6_method_11_code 196 = .ok (.aload_n 0, 1) := by decide +kernel
theorem dM_41_197 : decode prog_6_method_11_code 197 = .ok (.getfield 40, 3) := by decide +kernel
theorem dM_41_200 : decode prog_6_method_11_code 200 = .ok (.invokevirtual 75, 3) := by decide +kernel
theorem dM_41_203 : decode prog_6_method_11_code 203 = .ok (.aload_n 0, 1) := by decide +kernel
theorem dM_41_204 : decode prog_6_method_11_code 204 = .ok (.getfield 36, 3) := by decide +kernel
theorem dM_41_207 : decode prog_6_method_11_code 207 = .ok (.iload_n 3, 1) := by decide +kernel
theorem dM_41_208 : decode prog_6_method_11_code 208 = .ok (.invokevirtual 71, 3) := by decide +kernel
theorem dM_41_211 : decode prog_6_method_11_code 211 = .ok (.aload_n 0, 1) := by decide +kernel
theorem dM_41_212 : decode prog_6_method_11_code 212 = .ok (.aload_n 0, 1) := by decide +kernel
theorem dM_41_213 : decode prog_6_method_11_code 213 = .ok (.getfield 36, 3) := by decide +kernel
theorem dM_41_216 : decode prog_6_method_11_code 216 = .ok (.invokevirtual 75, 3) := by decide +kernel
theorem dM_41_219 : decode prog_6_method_11_code 219 = .ok (.goto 128, 3) := by decide +kernel
theorem dM_41_222 : decode prog_6_method_11_code 222 = .ok (.aload_n 0, 1) := by decide +kernel
theorem dM_41_223 : decode prog_6_method_11_code 223 = .ok (.aload_n 0, 1) := by decide +kernel
theorem dM_41_224 : decode prog_6_method_11_code 224 = .ok (.getfield 36, 3) := by decide +kernel
theorem dM_41_227 : decode prog_6_method_11_code 227 = .ok (.invokevirtual 75, 3) := by decide +kernel
theorem dM_41_230 : decode prog_6_method_11_code 230 = .ok (.goto 117, 3) := by decide +kernel
theorem dM_41_233 : decode prog_6_method_11_code 233 = .ok (.aload_n 0, 1) := by decide +kernel
theorem dM_41_234 : decode prog_6_method_11_code 234 = .ok (.getfield 40, 3) := by decide +kernel
theorem dM_41_237 : decode prog_6_method_11_code 237 = .ok (.aload_n 0, 1) := by decide +kernel
theorem dM_41_238 : decode prog_6_method_11_code 238 = .ok (.getfield 36, 3) := by decide +kernel
theorem dM_41_241 : decode prog_6_method_11_code 241 = .ok (.invokevirtual 96, 3) := by decide +kernel
theorem dM_41_244 : decode prog_6_method_11_code 244 = .ok (.aload_n 0, 1) := by decide +kernel
theorem dM_41_245 : decode prog_6_method_11_code 245 = .ok (.iload_n 2, 1) := by decide +kernel
theorem dM_41_246 : decode prog_6_method_11_code 246 = .ok (.iload_n 3, 1) := by decide +kernel
theorem dM_41_247 : decode prog_6_method_11_code 247 = .ok (.aload_n 0, 1) := by decide +kernel
theorem dM_41_248 : decode prog_6_method_11_code 248 = .ok (.getfield 18, 3) := by decide +kernel
theorem dM_41_251 : decode prog_6_method_11_code 251 = .ok (.iload_n 1, 1) := by decide +kernel
theorem dM_41_252 : decode prog_6_method_11_code 252 = .ok (.iconst 2, 1) := by decide +kernel
theorem dM_41_253 : decode prog_6_method_11_code 253 = .ok (.invokevirtual 122, 3) := by decide +kernel
theorem dM_41_256 : decode prog_6_method_11_code 256 = .ok (.invokevirtual 144, 3) := by decide +kernel
theorem dM_41_259 : decode prog_6_method_11_code 259 = .ok (.ifCond .eq 11, 3) := by decide +kernel
theorem dM_41_262 : decode prog_6_method_11_code 262 = .ok (.aload_n 0, 1) := by decide +kernel
theorem dM_41_263 : decode prog_6_method_11_code 263 = .ok (.aload_n 0, 1) := by decide +kernel
theorem dM_41_264 : decode prog_6_method_11_code 264 = .ok (.getfield 40, 3) := by decide +kernel
theorem dM_41_267 : decode prog_6_method_11_code 267 = .ok (.invokevirtual 138, 3) := by decide +kernel
theorem dM_41_270 : decode prog_6_method_11_code 270 = .ok (.aload_n 0, 1) := by decide +kernel
theorem dM_41_271 : decode prog_6_method_11_code 271 = .ok (.iload_n 2, 1) := by decide +kernel
theorem dM_41_272 : decode prog_6_method_11_code 272 = .ok (.iload_n 3, 1) := by decide +kernel
theorem dM_41_273 : decode prog_6_method_11_code 273 = .ok (.aload_n 0, 1) := by decide +kernel
theorem dM_41_274 : decode prog_6_method_11_code 274 = .ok (.getfield 18, 3) := by decide +kernel
theorem dM_41_277 : decode prog_6_method_11_code 277 = .ok (.iload_n 1, 1) := by decide +kernel
theorem dM_41_278 : decode prog_6_method_11_code 278 = .ok (.iconst 2, 1) := by decide +kernel
theorem dM_41_279 : decode prog_6_method_11_code 279 = .ok (.invokevirtual 122, 3) := by decide +kernel
theorem dM_41_282 : decode prog_6_method_11_code 282 = .ok (.invokevirtual 148, 3) := by decide +kernel
theorem dM_41_285 : decode prog_6_method_11_code 285 = .ok (.ifCond .eq 62, 3) := by decide +kernel
theorem dM_41_288 : decode prog_6_method_11_code 288 = .ok (.aload_n 0, 1) := by decide +kernel
theorem dM_41_289 : decode prog_6_method_11_code 289 = .ok (.aload_n 0, 1) := by decide +kernel
theorem dM_41_290 : decode prog_6_method_11_code 290 = .ok (.getfield 36, 3) := by decide +kernel
theorem dM_41_293 : decode prog_6_method_11_code 293 = .ok (.invokevirtual 138, 3) := by decide +kernel
theorem dM_41_296 : decode prog_6_method_11_code 296 = .ok (.goto 51, 3) := by decide +kernel
theorem dM_41_299 : decode prog_6_method_11_code 299 = .ok (.aload_n 0, 1) := by decide +kernel
theorem dM_41_300 : decode prog_6_method_11_code 300 = .ok (.getfield 40, 3) := by decide +kernel
theorem dM_41_303 : decode prog_6_method_11_code 303 = .ok (.aload_n 0, 1) := by decide +kernel
theorem dM_41_304 : decode prog_6_method_11_code 304 = .ok (.getfield 36, 3) := by decide +kernel
theorem dM_41_307 : decode prog_6_method_11_code 307 = .ok (.invokevirtual 96, 3) := by decide +kernel
theorem dM_41_310 : decode prog_6_method_11_code 310 = .ok (.aload_n 0, 1) := by decide +kernel
theorem dM_41_311 : decode prog_6_method_11_code 311 = .ok (.iload_n 2, 1) := by decide +kernel
theorem dM_41_312 : decode prog_6_method_11_code 312 = .ok (.iload_n 3, 1) := by decide +kernel
theorem dM_41_313 : decode prog_6_method_11_code 313 = .ok (.invokevirtual 151, 3) := by decide +kernel
theorem dM_41_316 : decode prog_6_method_11_code 316 = .ok (.ifCond .eq 11, 3) := by decide +kernel
theorem dM_41_319 : decode prog_6_method_11_code 319 = .ok (.aload_n 0, 1) := by decide +kernel
theorem dM_41_320 : decode prog_6_method_11_code 320 = .ok (.aload_n 0, 1) := by decide +kernel
theorem dM_41_321 : decode prog_6_method_11_code 321 = .ok (.getfield 40, 3) := by decide +kernel
theorem dM_41_324 : decode prog_6_method_11_code 324 = .ok (.invokevirtual 138, 3) := by decide +kernel
theorem dM_41_327 : decode prog_6_method_11_code 327 = .ok (.aload_n 0, 1) := by decide +kernel
theorem dM_41_328 : decode prog_6_method_11_code 328 = .ok (.iload_n 2, 1) := by decide +kernel
theorem dM_41_329 : decode prog_6_method_11_code 329 = .ok (.iload_n 3, 1) := by decide +kernel
theorem dM_41_330 : decode prog_6_method_11_code 330 = .ok (.invokevirtual 155, 3) := by decide +kernel
theorem dM_41_333 : decode prog_6_method_11_code 333 = .ok (.ifCond .eq 14, 3) := by decide +kernel
theorem dM_41_336 : decode prog_6_method_11_code 336 = .ok (.aload_n 0, 1) := by decide +kernel
theorem dM_41_337 : decode prog_6_method_11_code 337 = .ok (.aload_n 0, 1) := by decide +kernel
theorem dM_41_338 : decode prog_6_method_11_code 338 = .ok (.getfield 36, 3) := by decide +kernel
theorem dM_41_341 : decode prog_6_method_11_code 341 = .ok (.invokevirtual 138, 3) := by decide +kernel
theorem dM_41_344 : decode prog_6_method_11_code 344 = .ok (.goto 3, 3) := by decide +kernel
theorem dM_41_347 : decode prog_6_method_11_code 347 = .ok (.return_, 1) := by decide +kernel
theorem dM_42_0 : decode prog_6_method_17_code 0 = .ok (.iconst 0, 1) := by decide +kernel
theorem dM_42_1 : decode prog_6_method_17_code 1 = .ok (.istore_n 2, 1) := by decide +kernel
theorem dM_42_2 : decode prog_6_method_17_code 2 = .ok (.iload_n 2, 1) := by decide +kernel
theorem dM_42_3 : decode prog_6_method_17_code 3 = .ok (.bipush 32, 2) := by decide +kernel
theorem dM_42_5 : decode prog_6_method_17_code 5 = .ok (.if_icmp .ge 120, 3) := by decide +kernel
theorem dM_42_8 : decode prog_6_method_17_code 8 = .ok (.aload_n 1, 1) := by decide +kernel
theorem dM_42_9 : decode prog_6_method_17_code 9 = .ok (.getfield 175, 3) := by decide +kernel
theorem dM_42_12 : decode prog_6_method_17_code 12 = .ok (.ifCond .eq 113, 3) := by decide +kernel
theorem dM_42_15 : decode prog_6_method_17_code 15 = .ok (.aload_n 1, 1) := by decide +kernel
theorem dM_42_16 : decode prog_6_method_17_code 16 = .ok (.getfield 175, 3) := by decide +kernel
theorem dM_42_19 : decode prog_6_method_17_code 19 = .ok (.iload_n 2, 1) := by decide +kernel
theorem dM_42_20 : decode prog_6_method_17_code 20 = .ok (.iushr, 1) := by decide +kernel
theorem dM_42_21 : decode prog_6_method_17_code 21 = .ok (.iconst 1, 1) := by decide +kernel
theorem dM_42_22 : decode prog_6_method_17_code 22 = .ok (.iand, 1) := by decide +kernel
theorem dM_42_23 : decode prog_6_method_17_code 23 = .ok (.ifCond .ne 6, 3) := by decide +kernel
theorem dM_42_26 : decode prog_6_method_17_code 26 = .ok (.goto 93, 3) := by decide +kernel
theorem dM_42_29 : decode prog_6_method_17_code 29 = .ok (.aload_n 0, 1) := by decide +kernel
theorem dM_42_30 : decode prog_6_method_17_code 30 = .ok (.getfield 9, 3) := by decide +kernel
theorem dM_42_33 : decode prog_6_method_17_code 33 = .ok (.aload_n 0, 1) := by decide +kernel
theorem dM_42_34 : decode prog_6_method_17_code 34 = .ok (.getfield 18, 3) := by decide +kernel
theorem dM_42_37 : decode prog_6_method_17_code 37 = .ok (.aload_n 1, 1) := by decide +kernel
theorem dM_42_38 : decode prog_6_method_17_code 38 = .ok (.getfield 129, 3) := by decide +kernel
theorem dM_42_41 : decode prog_6_method_17_code 41 = .ok (.aload_n 0, 1) := by decide +kernel
theorem dM_42_42 : decode prog_6_method_17_code 42 = .ok (.getfield 18, 3) := by decide +kernel
theorem dM_42_45 : decode prog_6_method_17_code 45 = .ok (.iload_n 2, 1) := by decide +kernel
theorem dM_42_46 : decode prog_6_method_17_code 46 = .ok (.iconst 0, 1) := by decide +kernel
theorem dM_42_47 : decode prog_6_method_17_code 47 = .ok (.invokevirtual 122, 3) := by decide +kernel
theorem dM_42_50 : decode prog_6_method_17_code 50 = .ok (.aload_n 0, 1) := by decide +kernel
theorem dM_42_51 : decode prog_6_method_17_code 51 = .ok (.getfield 18, 3) := by decide +kernel
theorem dM_42_54 : decode prog_6_method_17_code 54 = .ok (.iload_n 2, 1) := by decide +kernel
theorem dM_42_55 : decode prog_6_method_17_code 55 = .ok (.iconst 1, 1) := by decide +kernel
theorem dM_42_56 : decode prog_6_method_17_code 56 = .ok (.invokevirtual 122, 3) := by decide +kernel
theorem dM_42_59 : decode prog_6_method_17_code 59 = .ok (.invokevirtual 132, 3) := by decide +kernel
theorem dM_42_62 : decode prog_6_method_17_code 62 = .ok (.istore_n 3, 1) := by decide +kernel
theorem dM_42_63 : decode prog_6_method_17_code 63 = .ok (.iload_n 3, 1) := by decide +kernel
theorem dM_42_64 : decode prog_6_method_17_code 64 = .ok (.ifCond .eq 17, 3) := by decide +kernel
theorem dM_42_67 : decode prog_6_method_17_code 67 = .ok (.aload_n 0, 1) := by decide +kernel
theorem dM_42_68 : decode prog_6_method_17_code 68 = .ok (.getfield 9, 3) := by decide +kernel
theorem dM_42_71 : decode prog_6_method_17_code 71 = .ok (.getfield 178, 3) := by decide +kernel
theorem dM_42_74 : decode prog_6_method_17_code 74 = .ok (.ifCond .ne 7, 3) := by decide +kernel
theorem dM_42_77 : decode prog_6_method_17_code 77 = .ok (.iconst 1, 1) := by decide +kernel
theorem dM_42_78 : decode prog_6_method_17_code 78 = .ok (.goto 4, 3) := by decide +kernel
theorem dM_42_81 : decode prog_6_method_17_code 81 = .ok (.iconst 0, 1) := by decide +kernel
theorem dM_42_82 : decode prog_6_method_17_code 82 = .ok (.istore 4, 2) := by decide +kernel
theorem dM_42_84 : decode prog_6_method_17_code 84 = .ok (.aload_n 0, 1) := by decide +kernel
theorem dM_42_85 : decode prog_6_method_17_code 85 = .ok (.getfield 9, 3) := by decide +kernel
theorem dM_42_88 : decode prog_6_method_17_code 88 = .ok (.aload_n 1, 1) := by decide +kernel
theorem dM_42_89 : decode prog_6_method_17_code 89 = .ok (.getfield 129, 3) := by decide +kernel
theorem dM_42_92 : decode prog_6_method_17_code 92 = .ok (.invokevirtual 181, 3) := by decide +kernel
theorem dM_42_95 : decode prog_6_method_17_code 95 = .ok (.iload 4, 2) := by decide +kernel
theorem dM_42_97 : decode prog_6_method_17_code 97 = .ok (.ifCond .eq 4, 3) := by decide +kernel
theorem dM_42_100 : decode prog_6_method_17_code 100 = .ok (.return_, 1) := by decide +kernel
theorem dM_42_101 : decode prog_6_method_17_code 101 = .ok (.iload_n 3, 1) := by decide +kernel
theorem dM_42_102 : decode prog_6_method_17_code 102 = .ok (.ifCond .ne 17, 3) := by decide +kernel
theorem dM_42_105 : decode prog_6_method_17_code 105 = .ok (.aload_n 1, 1) := by decide +kernel
theorem dM_42_106 : decode prog_6_method_17_code 106 = .ok (.dup, 1) := by decide +kernel
theorem dM_42_107 : decode prog_6_method_17_code 107 = .ok (.getfield 175, 3) := by decide +kernel
theorem dM_42_110 : decode prog_6_method_17_code 110 = .ok (.iconst 1, 1) := by decide +kernel
theorem dM_42_111 : decode prog_6_method_17_code 111 = .ok (.iload_n 2, 1) := by decide +kernel
theorem dM_42_112 : decode prog_6_method_17_code 112 = .ok (.ishl, 1) := by decide +kernel
theorem dM_42_113 : decode prog_6_method_17_code 113 = .ok (.iconst (-1), 1) := by decide +kernel
theorem dM_42_114 : decode prog_6_method_17_code 114 = .ok (.ixor, 1) := by decide +kernel
theorem dM_42_115 : decode prog_6_method_17_code 115 = .ok (.iand, 1) := by decide +kernel
theorem dM_42_116 : decode prog_6_method_17_code 116 = .ok (.putfield 175, 3) := by decide +kernel
theorem dM_42_119 : decode prog_6_method_17_code 119 = .ok (.iinc 2 1, 3) := by decide +kernel
theorem dM_42_122 : decode prog_6_method_17_code 122 = .ok (.goto (-120), 3) := by decide +kernel
theorem dM_42_125 : decode prog_6_method_17_code 125 = .ok (.aload_n 0, 1) := by decide +kernel
theorem dM_42_126 : decode prog_6_method_17_code 126 = .ok (.aload_n 1, 1) := by decide +kernel
theorem dM_42_127 : decode prog_6_method_17_code 127 = .ok (.invokevirtual 75, 3) := by decide +kernel
theorem dM_42_130 : decode prog_6_method_17_code 130 = .ok (.return_, 1) := by decide +kernel
theorem dM_43_0 : decode prog_6_method_12_code 0 = .ok (.aload_n 0, 1) := by decide +kernel
theorem dM_43_1 : decode prog_6_method_12_code 1 = .ok (.getfield 9, 3) := by decide +kernel
theorem dM_43_4 : decode prog_6_method_12_code 4 = .ok (.aload_n 0, 1) := by decide +kernel
theorem dM_43_5 : decode prog_6_method_12_code 5 = .ok (.getfield 18, 3) := by decide +kernel
theorem dM_43_8 : decode prog_6_method_12_code 8 = .ok (.aload_n 0, 1) := by decide +kernel
theorem dM_43_9 : decode prog_6_method_12_code 9 = .ok (.getfield 40, 3) := by decide +kernel
theorem dM_43_12 : decode prog_6_method_12_code 12 = .ok (.getfield 129, 3) := by decide +kernel
theorem dM_43_15 : decode prog_6_method_12_code 15 = .ok (.iload_n 1, 1) := by decide +kernel
theorem dM_43_16 : decode prog_6_method_12_code 16 = .ok (.sipush 138, 3) := by decide +kernel
theorem dM_43_19 : decode prog_6_method_12_code 19 = .ok (.invokevirtual 132, 3) := by decide +kernel
theorem dM_43_22 : decode prog_6_method_12_code 22 = .ok (.ifCond .eq 30, 3) := by decide +kernel
theorem dM_43_25 : decode prog_6_method_12_code 25 = .ok (.aload_n 0, 1) := by decide +kernel
theorem dM_43_26 : decode prog_6_method_12_code 26 = .ok (.getfield 9, 3) := by decide +kernel
theorem dM_43_29 : decode prog_6_method_12_code 29 = .ok (.aload_n 0, 1) := by decide +kernel
theorem dM_43_30 : decode prog_6_method_12_code 30 = .ok (.getfield 18, 3) := by decide +kernel
theorem dM_43_33 : decode prog_6_method_12_code 33 = .ok (.aload_n 0, 1) := by decide +kernel
theorem dM_43_34 : decode prog_6_method_12_code 34 = .ok (.getfield 40, 3) := by decide +kernel
theorem dM_43_37 : decode prog_6_method_12_code 37 = .ok (.getfield 129, 3) := by decide +kernel
theorem dM_43_40 : decode prog_6_method_12_code 40 = .ok (.iload_n 2, 1) := by decide +kernel
theorem dM_43_41 : decode prog_6_method_12_code 41 = .ok (.iload_n 3, 1) := by decide +kernel
theorem dM_43_42 : decode prog_6_method_12_code 42 = .ok (.invokevirtual 132, 3) := by decide +kernel
theorem dM_43_45 : decode prog_6_method_12_code 45 = .ok (.ifCond .eq 7, 3) := by decide +kernel
theorem dM_43_48 : decode prog_6_method_12_code 48 = .ok (.iconst 1, 1) := by decide +kernel
theorem dM_43_49 : decode prog_6_method_12_code 49 = .ok (.goto 4, 3) := by decide +kernel
theorem dM_43_52 : decode prog_6_method_12_code 52 = .ok (.iconst 0, 1) := by decide +kernel
theorem dM_43_53 : decode prog_6_method_12_code 53 = .ok (.ireturn, 1) := by decide +kernel
theorem dM_44_0 : decode prog_6_method_13_code 0 = .ok (.aload_n 0, 1) := by decide +kernel
theorem dM_44_1 : decode prog_6_method_13_code 1 = .ok (.getfield 36, 3) := by decide +kernel
theorem dM_44_4 : decode prog_6_method_13_code 4 = .ok (.invokevirtual 158, 3) := by decide +kernel
theorem dM_44_7 : decode prog_6_method_13_code 7 = .ok (.istore 4, 2) := by decide +kernel
theorem dM_44_9 : decode prog_6_method_13_code 9 = .ok (.aload_n 0, 1) := by decide +kernel
theorem dM_44_10 : decode prog_6_method_13_code 10 = .ok (.getfield 36, 3) := by decide +kernel
theorem dM_44_13 : decode prog_6_method_13_code 13 = .ok (.invokevirtual 158, 3) := by decide +kernel
theorem dM_44_16 : decode prog_6_method_13_code 16 = .ok (.istore 5, 2) := by decide +kernel
theorem dM_44_18 : decode prog_6_method_13_code 18 = .ok (.aload_n 0, 1) := by decide +kernel
theorem dM_44_19 : decode prog_6_method_13_code 19 = .ok (.getfield 36, 3) := by decide +kernel
theorem dM_44_22 : decode prog_6_method_13_code 22 = .ok (.invokevirtual 158, 3) := by decide +kernel
theorem dM_44_25 : decode prog_6_method_13_code 25 = .ok (.istore 6, 2) := by decide +kernel
theorem dM_44_27 : decode prog_6_method_13_code 27 = .ok (.aload_n 0, 1) := by decide +kernel
theorem dM_44_28 : decode prog_6_method_13_code 28 = .ok (.getfield 36, 3) := by decide +kernel
theorem dM_44_31 : decode prog_6_method_13_code 31 = .ok (.aload_n 0, 1) := by decide +kernel
theorem dM_44_32 : decode prog_6_method_13_code 32 = .ok (.bipush 65, 2) := by decide +kernel
theorem dM_44_34 : decode prog_6_method_13_code 34 = .ok (.iload 5, 2) := by decide +kernel
theorem dM_44_36 : decode prog_6_method_13_code 36 = .ok (.iload_n 2, 1) := by decide +kernel
theorem dM_44_37 : decode prog_6_method_13_code 37 = .ok (.iload 6, 2) := by decide +kernel
theorem dM_44_39 : decode prog_6_method_13_code 39 = .ok (.invokevirtual 161, 3) := by decide +kernel
theorem dM_44_42 : decode prog_6_method_13_code 42 = .ok (.invokevirtual 71, 3) := by decide +kernel
theorem dM_44_45 : decode prog_6_method_13_code 45 = .ok (.aload_n 0, 1) := by decide +kernel
theorem dM_44_46 : decode prog_6_method_13_code 46 = .ok (.getfield 9, 3) := by decide +kernel
theorem dM_44_49 : decode prog_6_method_13_code 49 = .ok (.aload_n 0, 1) := by decide +kernel
theorem dM_44_50 : decode prog_6_method_13_code 50 = .ok (.getfield 18, 3) := by decide +kernel
theorem dM_44_53 : decode prog_6_method_13_code 53 = .ok (.aload_n 0, 1) := by decide +kernel
theorem dM_44_54 : decode prog_6_method_13_code 54 = .ok (.getfield 36, 3) := by decide +kernel
theorem dM_44_57 : decode prog_6_method_13_code 57 = .ok (.getfield 129, 3) := by decide +kernel
theorem dM_44_60 : decode prog_6_method_13_code 60 = .ok (.iload_n 1, 1) := by decide +kernel
theorem dM_44_61 : decode prog_6_method_13_code 61 = .ok (.aload_n 0, 1) := by decide +kernel
theorem dM_44_62 : decode prog_6_method_13_code 62 = .ok (.getfield 18, 3) := by decide +kernel
theorem dM_44_65 : decode prog_6_method_13_code 65 = .ok (.iload 4, 2) := by decide +kernel
theorem dM_44_67 : decode prog_6_method_13_code 67 = .ok (.iload 5, 2) := by decide +kernel
theorem dM_44_69 : decode prog_6_method_13_code 69 = .ok (.invokevirtual 165, 3) := by decide +kernel
theorem dM_44_72 : decode prog_6_method_13_code 72 = .ok (.invokevirtual 132, 3) := by decide +kernel
theorem dM_44_75 : decode prog_6_method_13_code 75 = .ok (.ifCond .eq 40, 3) := by decide +kernel
theorem dM_44_78 : decode prog_6_method_13_code 78 = .ok (.aload_n 0, 1) := by decide +kernel
theorem dM_44_79 : decode prog_6_method_13_code 79 = .ok (.getfield 9, 3) := by decide +kernel
theorem dM_44_82 : decode prog_6_method_13_code 82 = .ok (.aload_n 0, 1) := by decide +kernel
theorem dM_44_83 : decode prog_6_method_13_code 83 = .ok (.getfield 18, 3) := by decide +kernel
theorem dM_44_86 : decode prog_6_method_13_code 86 = .ok (.aload_n 0, 1) := by decide +kernel
theorem dM_44_87 : decode prog_6_method_13_code 87 = .ok (.getfield 36, 3) := by decide +kernel
theorem dM_44_90 : decode prog_6_method_13_code 90 = .ok (.getfield 129, 3) := by decide +kernel
theorem dM_44_93 : decode prog_6_method_13_code 93 = .ok (.iload_n 3, 1) := by decide +kernel
theorem dM_44_94 : decode prog_6_method_13_code 94 = .ok (.aload_n 0, 1) := by decide +kernel
theorem dM_44_95 : decode prog_6_method_13_code 95 = .ok (.getfield 18, 3) := by decide +kernel
theorem dM_44_98 : decode prog_6_method_13_code 98 = .ok (.iload 4, 2) := by decide +kernel
theorem dM_44_100 : decode prog_6_method_13_code 100 = .ok (.iload 6, 2) := by decide +kernel
theorem dM_44_102 : decode prog_6_method_13_code 102 = .ok (.invokevirtual 165, 3) := by decide +kernel
theorem dM_44_105 : decode prog_6_method_13_code 105 = .ok (.invokevirtual 132, 3) := by decide +kernel
theorem dM_44_108 : decode prog_6_method_13_code 108 = .ok (.ifCond .eq 7, 3) := by decide +kernel
theorem dM_44_111 : decode prog_6_method_13_code 111 = .ok (.iconst 1, 1) := by decide +kernel
theorem dM_44_112 : decode prog_6_method_13_code 112 = .ok (.goto 4, 3) := by decide +kernel
theorem dM_44_115 : decode prog_6_method_13_code 115 = .ok (.iconst 0, 1) := by decide +kernel
theorem dM_44_116 : decode prog_6_method_13_code 116 = .ok (.ireturn, 1) := by decide +kernel
theorem dM_45_0 : decode prog_6_method_16_code 0 = .ok (.aload_n 0, 1) := by decide +kernel
theorem dM_45_1 : decode prog_6_method_16_code 1 = .ok (.getfield 18, 3) := by decide +kernel
theorem dM_45_4 : decode prog_6_method_16_code 4 = .ok (.iload_n 1, 1) := by decide +kernel
theorem dM_45_5 : decode prog_6_method_16_code 5 = .ok (.invokevirtual 168, 3) := by decide +kernel
theorem dM_45_8 : decode prog_6_method_16_code 8 = .ok (.istore 5, 2) := by decide +kernel
theorem dM_45_10 : decode prog_6_method_16_code 10 = .ok (.aload_n 0, 1) := by decide +kernel
theorem dM_45_11 : decode prog_6_method_16_code 11 = .ok (.getfield 18, 3) := by decide +kernel
theorem dM_45_14 : decode prog_6_method_16_code 14 = .ok (.iload 5, 2) := by decide +kernel
theorem dM_45_16 : decode prog_6_method_16_code 16 = .ok (.iconst 0, 1) := by decide +kernel
theorem dM_45_17 : decode prog_6_method_16_code 17 = .ok (.iload_n 2, 1) := by decide +kernel
theorem dM_45_18 : decode prog_6_method_16_code 18 = .ok (.invokevirtual 171, 3) := by decide +kernel
theorem dM_45_21 : decode prog_6_method_16_code 21 = .ok (.aload_n 0, 1) := by decide +kernel
theorem dM_45_22 : decode prog_6_method_16_code 22 = .ok (.getfield 18, 3) := by decide +kernel
theorem dM_45_25 : decode prog_6_method_16_code 25 = .ok (.iload 5, 2) := by decide +kernel
theorem dM_45_27 : decode prog_6_method_16_code 27 = .ok (.iconst 1, 1) := by decide +kernel
theorem dM_45_28 : decode prog_6_method_16_code 28 = .ok (.iload_n 3, 1) := by decide +kernel
theorem dM_45_29 : decode prog_6_method_16_code 29 = .ok (.invokevirtual 171, 3) := by decide +kernel
theorem dM_45_32 : decode prog_6_method_16_code 32 = .ok (.aload_n 0, 1) := by decide +kernel
theorem dM_45_33 : decode prog_6_method_16_code 33 = .ok (.getfield 18, 3) := by decide +kernel
theorem dM_45_36 : decode prog_6_method_16_code 36 = .ok (.iload 5, 2) := by decide +kernel
theorem dM_45_38 : decode prog_6_method_16_code 38 = .ok (.iconst 2, 1) := by decide +kernel
theorem dM_45_39 : decode prog_6_method_16_code 39 = .ok (.iload 4, 2) := by decide +kernel
theorem dM_45_41 : decode prog_6_method_16_code 41 = .ok (.invokevirtual 171, 3) := by decide +kernel
theorem dM_45_44 : decode prog_6_method_16_code 44 = .ok (.iload 5, 2) := by decide +kernel
theorem dM_45_46 : decode prog_6_method_16_code 46 = .ok (.ireturn, 1) := by decide +kernel
theorem dM_46_0 : decode prog_6_method_14_code 0 = .ok (.aload_n 0, 1) := by decide +kernel
theorem dM_46_1 : decode prog_6_method_14_code 1 = .ok (.getfield 40, 3) := by decide +kernel
theorem dM_46_4 : decode prog_6_method_14_code 4 = .ok (.invokevirtual 158, 3) := by decide +kernel
theorem dM_46_7 : decode prog_6_method_14_code 7 = .ok (.istore_n 3, 1) := by decide +kernel
theorem dM_46_8 : decode prog_6_method_14_code 8 = .ok (.aload_n 0, 1) := by decide +kernel
theorem dM_46_9 : decode prog_6_method_14_code 9 = .ok (.getfield 9, 3) := by decide +kernel
theorem dM_46_12 : decode prog_6_method_14_code 12 = .ok (.aload_n 0, 1) := by decide +kernel
theorem dM_46_13 : decode prog_6_method_14_code 13 = .ok (.getfield 18, 3) := by decide +kernel
theorem dM_46_16 : decode prog_6_method_14_code 16 = .ok (.aload_n 0, 1) := by decide +kernel
theorem dM_46_17 : decode prog_6_method_14_code 17 = .ok (.getfield 40, 3) := by decide +kernel
theorem dM_46_20 : decode prog_6_method_14_code 20 = .ok (.getfield 129, 3) := by decide +kernel
theorem dM_46_23 : decode prog_6_method_14_code 23 = .ok (.iload_n 2, 1) := by decide +kernel
theorem dM_46_24 : decode prog_6_method_14_code 24 = .ok (.aload_n 0, 1) := by decide +kernel
theorem dM_46_25 : decode prog_6_method_14_code 25 = .ok (.getfield 18, 3) := by decide +kernel
theorem dM_46_28 : decode prog_6_method_14_code 28 = .ok (.iload_n 1, 1) := by decide +kernel
theorem dM_46_29 : decode prog_6_method_14_code 29 = .ok (.iload_n 3, 1) := by decide +kernel
theorem dM_46_30 : decode prog_6_method_14_code 30 = .ok (.invokevirtual 165, 3) := by decide +kernel
theorem dM_46_33 : decode prog_6_method_14_code 33 = .ok (.invokevirtual 132, 3) := by decide +kernel
theorem dM_46_36 : decode prog_6_method_14_code 36 = .ok (.ireturn, 1) := by decide +kernel
theorem dM_47_0 : decode prog_6_method_15_code 0 = .ok (.aload_n 0, 1) := by decide +kernel
theorem dM_47_1 : decode prog_6_method_15_code 1 = .ok (.getfield 36, 3) := by decide +kernel
theorem dM_47_4 : decode prog_6_method_15_code 4 = .ok (.invokevirtual 158, 3) := by decide +kernel
theorem dM_47_7 : decode prog_6_method_15_code 7 = .ok (.istore_n 3, 1) := by decide +kernel
theorem dM_47_8 : decode prog_6_method_15_code 8 = .ok (.aload_n 0, 1) := by decide +kernel
theorem dM_47_9 : decode prog_6_method_15_code 9 = .ok (.getfield 36, 3) := by decide +kernel
theorem dM_47_12 : decode prog_6_method_15_code 12 = .ok (.invokevirtual 158, 3) := by decide +kernel
theorem dM_47_15 : decode prog_6_method_15_code 15 = .ok (.istore 4, 2) := by decide +kernel
theorem dM_47_17 : decode prog_6_method_15_code 17 = .ok (.aload_n 0, 1) := by decide +kernel
theorem dM_47_18 : decode prog_6_method_15_code 18 = .ok (.getfield 36, 3) := by decide +kernel
theorem dM_47_21 : decode prog_6_method_15_code 21 = .ok (.aload_n 0, 1) := by decide +kernel
theorem dM_47_22 : decode prog_6_method_15_code 22 = .ok (.bipush 77, 2) := by decide +kernel
theorem dM_47_24 : decode prog_6_method_15_code 24 = .ok (.iload_n 1, 1) := by decide +kernel
theorem dM_47_25 : decode prog_6_method_15_code 25 = .ok (.iload 4, 2) := by decide +kernel
theorem dM_47_27 : decode prog_6_method_15_code 27 = .ok (.sipush 138, 3) := by decide +kernel
theorem dM_47_30 : decode prog_6_method_15_code 30 = .ok (.invokevirtual 161, 3) := by decide +kernel
theorem dM_47_33 : decode prog_6_method_15_code 33 = .ok (.invokevirtual 71, 3) := by decide +kernel
theorem dM_47_36 : decode prog_6_method_15_code 36 = .ok (.aload_n 0, 1) := by decide +kernel
theorem dM_47_37 : decode prog_6_method_15_code 37 = .ok (.getfield 9, 3) := by decide +kernel
theorem dM_47_40 : decode prog_6_method_15_code 40 = .ok (.aload_n 0, 1) := by decide +kernel
theorem dM_47_41 : decode prog_6_method_15_code 41 = .ok (.getfield 18, 3) := by decide +kernel
theorem dM_47_44 : decode prog_6_method_15_code 44 = .ok (.aload_n 0, 1) := by decide +kernel
theorem dM_47_45 : decode prog_6_method_15_code 45 = .ok (.getfield 36, 3) := by decide +kernel
theorem dM_47_48 : decode prog_6_method_15_code 48 = .ok (.getfield 129, 3) := by decide +kernel
theorem dM_47_51 : decode prog_6_method_15_code 51 = .ok (.iload_n 2, 1) := by decide +kernel
theorem dM_47_52 : decode prog_6_method_15_code 52 = .ok (.aload_n 0, 1) := by decide +kernel
theorem dM_47_53 : decode prog_6_method_15_code 53 = .ok (.getfield 18, 3) := by decide +kernel
theorem dM_47_56 : decode prog_6_method_15_code 56 = .ok (.iload_n 3, 1) := by decide +kernel
theorem dM_47_57 : decode prog_6_method_15_code 57 = .ok (.iload 4, 2) := by decide +kernel
theorem dM_47_59 : decode prog_6_method_15_code 59 = .ok (.invokevirtual 165, 3) := by decide +kernel
theorem dM_47_62 : decode prog_6_method_15_code 62 = .ok (.invokevirtual 132, 3) := by decide +kernel
theorem dM_47_65 : decode prog_6_method_15_code 65 = .ok (.ireturn, 1) := by decide +kernel
theorem dM_48_0 : decode prog_6_method_6_code 0 = .ok (.iload_n 1, 1) := by decide +kernel
theorem dM_48_1 : decode prog_6_method_6_code 1 = .ok (.ifCond .lt 26, 3) := by decide +kernel
theorem dM_48_4 : decode prog_6_method_6_code 4 = .ok (.iload_n 1, 1) := by decide +kernel
theorem dM_48_5 : decode prog_6_method_6_code 5 = .ok (.aload_n 0, 1) := by decide +kernel
theorem dM_48_6 : decode prog_6_method_6_code 6 = .ok (.getfield 56, 3) := by decide +kernel
theorem dM_48_9 : decode prog_6_method_6_code 9 = .ok (.if_icmp .ge 18, 3) := by decide +kernel
theorem dM_48_12 : decode prog_6_method_6_code 12 = .ok (.iload_n 1, 1) := by decide +kernel
theorem dM_48_13 : decode prog_6_method_6_code 13 = .ok (.bipush 30, 2) := by decide +kernel
theorem dM_48_15 : decode prog_6_method_6_code 15 = .ok (.if_icmp .ge 12, 3) := by decide +kernel
theorem dM_48_18 : decode prog_6_method_6_code 18 = .ok (.aload_n 0, 1) := by decide +kernel
theorem dM_48_19 : decode prog_6_method_6_code 19 = .ok (.getfield 32, 3) := by decide +kernel
theorem dM_48_22 : decode prog_6_method_6_code 22 = .ok (.iload_n 1, 1) := by decide +kernel
theorem dM_48_23 : decode prog_6_method_6_code 23 = .ok (.iaload, 1) := by decide +kernel
theorem dM_48_24 : decode prog_6_method_6_code 24 = .ok (.goto 5, 3) := by decide +kernel
theorem dM_48_27 : decode prog_6_method_6_code 27 = .ok (.bipush (-9), 2) := by decide +kernel
theorem dM_48_29 : decode prog_6_method_6_code 29 = .ok (.ireturn, 1) := by decide +kernel
theorem dM_49_0 : decode prog_6_method_3_code 0 = .ok (.aload_n 0, 1) := by decide +kernel
theorem dM_49_1 : decode prog_6_method_3_code 1 = .ok (.getfield 18, 3) := by decide +kernel
theorem dM_49_4 : decode prog_6_method_3_code 4 = .ok (.aload_n 1, 1) := by decide +kernel
theorem dM_49_5 : decode prog_6_method_3_code 5 = .ok (.getfield 18, 3) := by decide +kernel
theorem dM_49_8 : decode prog_6_method_3_code 8 = .ok (.invokevirtual 79, 3) := by decide +kernel
theorem dM_49_11 : decode prog_6_method_3_code 11 = .ok (.aload_n 0, 1) := by decide +kernel
theorem dM_49_12 : decode prog_6_method_3_code 12 = .ok (.iconst 0, 1) := by decide +kernel
theorem dM_49_13 : decode prog_6_method_3_code 13 = .ok (.putfield 46, 3) := by decide +kernel
theorem dM_49_16 : decode prog_6_method_3_code 16 = .ok (.aload_n 0, 1) := by decide +kernel
theorem dM_49_17 : decode prog_6_method_3_code 17 = .ok (.aload_n 1, 1) := by decide +kernel
theorem dM_49_18 : decode prog_6_method_3_code 18 = .ok (.getfield 50, 3) := by decide +kernel
theorem dM_49_21 : decode prog_6_method_3_code 21 = .ok (.iconst 0, 1) := by decide +kernel
theorem dM_49_22 : decode prog_6_method_3_code 22 = .ok (.invokestatic 83, 3) := by decide +kernel
theorem dM_49_25 : decode prog_6_method_3_code 25 = .ok (.bipush 40, 2) := by decide +kernel
theorem dM_49_27 : decode prog_6_method_3_code 27 = .ok (.invokestatic 89, 3) := by decide +kernel
theorem dM_49_30 : decode prog_6_method_3_code 30 = .ok (.putfield 50, 3) := by decide +kernel
theorem dM_49_33 : decode prog_6_method_3_code 33 = .ok (.aload_n 0, 1) := by decide +kernel
theorem dM_49_34 : decode prog_6_method_3_code 34 = .ok (.aload_n 1, 1) := by decide +kernel
theorem dM_49_35 : decode prog_6_method_3_code 35 = .ok (.getfield 53, 3) := by decide +kernel
theorem dM_49_38 : decode prog_6_method_3_code 38 = .ok (.putfield 53, 3) := by decide +kernel
theorem dM_49_41 : decode prog_6_method_3_code 41 = .ok (.aload_n 0, 1) := by decide +kernel
theorem dM_49_42 : decode prog_6_method_3_code 42 = .ok (.aload_n 1, 1) := by decide +kernel
theorem dM_49_43 : decode prog_6_method_3_code 43 = .ok (.getfield 56, 3) := by decide +kernel
theorem dM_49_46 : decode prog_6_method_3_code 46 = .ok (.iconst 0, 1) := by decide +kernel
theorem dM_49_47 : decode prog_6_method_3_code 47 = .ok (.invokestatic 83, 3) := by decide +kernel
theorem dM_49_50 : decode prog_6_method_3_code 50 = .ok (.bipush 30, 2) := by decide +kernel
theorem dM_49_52 : decode prog_6_method_3_code 52 = .ok (.invokestatic 89, 3) := by decide +kernel
theorem dM_49_55 : decode prog_6_method_3_code 55 = .ok (.putfield 56, 3) := by decide +kernel
theorem dM_49_58 : decode prog_6_method_3_code 58 = .ok (.aload_n 0, 1) := by decide +kernel
theorem dM_49_59 : decode prog_6_method_3_code 59 = .ok (.aload_n 1, 1) := by decide +kernel
theorem dM_49_60 : decode prog_6_method_3_code 60 = .ok (.getfield 59, 3) := by decide +kernel
theorem dM_49_63 : decode prog_6_method_3_code 63 = .ok (.putfield 59, 3) := by decide +kernel
theorem dM_49_66 : decode prog_6_method_3_code 66 = .ok (.aload_n 0, 1) := by decide +kernel
theorem dM_49_67 : decode prog_6_method_3_code 67 = .ok (.aload_n 1, 1) := by decide +kernel
theorem dM_49_68 : decode prog_6_method_3_code 68 = .ok (.getfield 62, 3) := by decide +kernel
theorem dM_49_71 : decode prog_6_method_3_code 71 = .ok (.putfield 62, 3) := by decide +kernel
theorem dM_49_74 : decode prog_6_method_3_code 74 = .ok (.iconst 0, 1) := by decide +kernel
theorem dM_49_75 : decode prog_6_method_3_code 75 = .ok (.istore_n 2, 1) := by decide +kernel
theorem dM_49_76 : decode prog_6_method_3_code 76 = .ok (.iload_n 2, 1) := by decide +kernel
theorem dM_49_77 : decode prog_6_method_3_code 77 = .ok (.aload_n 0, 1) := by decide +kernel
theorem dM_49_78 : decode prog_6_method_3_code 78 = .ok (.getfield 50, 3) := by decide +kernel
theorem dM_49_81 : decode prog_6_method_3_code 81 = .ok (.if_icmp .ge 22, 3) := by decide +kernel
theorem dM_49_84 : decode prog_6_method_3_code 84 = .ok (.aload_n 0, 1) := by decide +kernel
theorem dM_49_85 : decode prog_6_method_3_code 85 = .ok (.iload_n 2, 1) := by decide +kernel
theorem dM_49_86 : decode prog_6_method_3_code 86 = .ok (.invokevirtual 92, 3) := by decide +kernel
theorem dM_49_89 : decode prog_6_method_3_code 89 = .ok (.aload_n 1, 1) := by decide +kernel
theorem dM_49_90 : decode prog_6_method_3_code 90 = .ok (.iload_n 2, 1) := by decide +kernel
theorem dM_49_91 : decode prog_6_method_3_code 91 = .ok (.invokevirtual 92, 3) := by decide +kernel
theorem dM_49_94 : decode prog_6_method_3_code 94 = .ok (.invokevirtual 96, 3) := by decide +kernel
theorem dM_49_97 : decode prog_6_method_3_code 97 = .ok (.iinc 2 1, 3) := by decide +kernel
theorem dM_49_100 : decode prog_6_method_3_code 100 = .ok (.goto (-24), 3) := by decide +kernel
theorem dM_49_103 : decode prog_6_method_3_code 103 = .ok (.iconst 0, 1) := by decide +kernel
theorem dM_49_104 : decode prog_6_method_3_code 104 = .ok (.istore_n 2, 1) := by decide +kernel
theorem dM_49_105 : decode prog_6_method_3_code 105 = .ok (.iload_n 2, 1) := by decide +kernel
theorem dM_49_106 : decode prog_6_method_3_code 106 = .ok (.aload_n 0, 1) := by decide +kernel
theorem dM_49_107 : decode prog_6_method_3_code 107 = .ok (.getfield 56, 3) := by decide +kernel
theorem dM_49_110 : decode prog_6_method_3_code 110 = .ok (.if_icmp .ge 34, 3) := by decide +kernel
theorem dM_49_113 : decode prog_6_method_3_code 113 = .ok (.aload_n 0, 1) := by decide +kernel
theorem dM_49_114 : decode prog_6_method_3_code 114 = .ok (.iload_n 2, 1) := by decide +kernel
theorem dM_49_115 : decode prog_6_method_3_code 115 = .ok (.invokevirtual 98, 3) := by decide +kernel
theorem dM_49_118 : decode prog_6_method_3_code 118 = .ok (.aload_n 1, 1) := by decide +kernel
theorem dM_49_119 : decode prog_6_method_3_code 119 = .ok (.iload_n 2, 1) := by decide +kernel
theorem dM_49_120 : decode prog_6_method_3_code 120 = .ok (.invokevirtual 98, 3) := by decide +kernel
theorem dM_49_123 : decode prog_6_method_3_code 123 = .ok (.invokevirtual 96, 3) := by decide +kernel
theorem dM_49_126 : decode prog_6_method_3_code 126 = .ok (.aload_n 0, 1) := by decide +kernel
theorem dM_49_127 : decode prog_6_method_3_code 127 = .ok (.getfield 32, 3) := by decide +kernel
theorem dM_49_130 : decode prog_6_method_3_code 130 = .ok (.iload_n 2, 1) := by decide +kernel
theorem dM_49_131 : decode prog_6_method_3_code 131 = .ok (.aload_n 1, 1) := by decide +kernel
theorem dM_49_132 : decode prog_6_method_3_code 132 = .ok (.getfield 32, 3) := by decide +kernel
theorem dM_49_135 : decode prog_6_method_3_code 135 = .ok (.iload_n 2, 1) := by decide +kernel
theorem dM_49_136 : decode prog_6_method_3_code 136 = .ok (.iaload, 1) := by decide +kernel
theorem dM_49_137 : decode prog_6_method_3_code 137 = .ok (.iastore, 1) := by decide +kernel
theorem dM_49_138 : decode prog_6_method_3_code 138 = .ok (.iinc 2 1, 3) := by decide +kernel
theorem dM_49_141 : decode prog_6_method_3_code 141 = .ok (.goto (-36), 3) := by decide +kernel
theorem dM_49_144 : decode prog_6_method_3_code 144 = .ok (.return_, 1) := by decide +kernel
theorem dM_51_0 : decode prog_7_method_2_code 0 = .ok (.aload_n 0, 1) := by decide +kernel
theorem dM_51_1 : decode prog_7_method_2_code 1 = .ok (.getfield 9, 3) := by decide +kernel
theorem dM_51_4 : decode prog_7_method_2_code 4 = .ok (.iconst (-1), 1) := by decide +kernel
theorem dM_51_5 : decode prog_7_method_2_code 5 = .ok (.invokestatic 21, 3) := by decide +kernel
theorem dM_51_8 : decode prog_7_method_2_code 8 = .ok (.aload_n 0, 1) := by decide +kernel
theorem dM_51_9 : decode prog_7_method_2_code 9 = .ok (.bipush 6, 2) := by decide +kernel
theorem dM_51_11 : decode prog_7_method_2_code 11 = .ok (.putfield 27, 3) := by decide +kernel
theorem dM_51_14 : decode prog_7_method_2_code 14 = .ok (.aload_n 0, 1) := by decide +kernel
theorem dM_51_15 : decode prog_7_method_2_code 15 = .ok (.iconst 0, 1) := by decide +kernel
theorem dM_51_16 : decode prog_7_method_2_code 16 = .ok (.putfield 31, 3) := by decide +kernel
theorem dM_51_19 : decode prog_7_method_2_code 19 = .ok (.aload_n 0, 1) := by decide +kernel
theorem dM_51_20 : decode prog_7_method_2_code 20 = .ok (.iconst 0, 1) := by decide +kernel
theorem dM_51_21 : decode prog_7_method_2_code 21 = .ok (.putfield 34, 3) := by decide +kernel
theorem dM_51_24 : decode prog_7_method_2_code 24 = .ok (.return_, 1) := by decide +kernel
theorem dM_52_0 : decode prog_7_method_5_code 0 = .ok (.aload_n 0, 1) := by decide +kernel
theorem dM_52_1 : decode prog_7_method_5_code 1 = .ok (.getfield 31, 3) := by decide +kernel
theorem dM_52_4 : decode prog_7_method_5_code 4 = .ok (.ifCond .lt 32, 3) := by decide +kernel
theorem dM_52_7 : decode prog_7_method_5_code 7 = .ok (.aload_n 0, 1) := by decide +kernel
theorem dM_52_8 : decode prog_7_method_5_code 8 = .ok (.getfield 31, 3) := by decide +kernel
theorem dM_52_11 : decode prog_7_method_5_code 11 = .ok (.bipush 32, 2) := by decide +kernel
theorem dM_52_13 : decode prog_7_method_5_code 13 = .ok (.if_icmp .ge 23, 3) := by decide +kernel
theorem dM_52_16 : decode prog_7_method_5_code 16 = .ok (.aload_n 0, 1) := by decide +kernel
theorem dM_52_17 : decode prog_7_method_5_code 17 = .ok (.getfield 15, 3) := by decide +kernel
theorem dM_52_20 : decode prog_7_method_5_code 20 = .ok (.aload_n 0, 1) := by decide +kernel
theorem dM_52_21 : decode prog_7_method_5_code 21 = .ok (.getfield 31, 3) := by decide +kernel
theorem dM_52_24 : decode prog_7_method_5_code 24 = .ok (.iload_n 1, 1) := by decide +kernel
theorem dM_52_25 : decode prog_7_method_5_code 25 = .ok (.iastore, 1) := by decide +kernel
theorem dM_52_26 : decode prog_7_method_5_code 26 = .ok (.aload_n 0, 1) := by decide +kernel
theorem dM_52_27 : decode prog_7_method_5_code 27 = .ok (.dup, 1) := by decide +kernel
theorem dM_52_28 : decode prog_7_method_5_code 28 = .ok (.getfield 31, 3) := by decide +kernel
theorem dM_52_31 : decode prog_7_method_5_code 31 = .ok (.iconst 1, 1) := by decide +kernel
theorem dM_52_32 : decode prog_7_method_5_code 32 = .ok (.iadd, 1) := by decide +kernel
theorem dM_52_33 : decode prog_7_method_5_code 33 = .ok (.putfield 31, 3) := by decide +kernel
theorem dM_52_36 : decode prog_7_method_5_code 36 = .ok (.return_, 1) := by decide +kernel
theorem dM_53_0 : decode prog_7_method_3_code 0 = .ok (.aload_n 0, 1) := by decide +kernel
theorem dM_53_1 : decode prog_7_method_3_code 1 = .ok (.aload_n 1, 1) := by decide +kernel
theorem dM_53_2 : decode prog_7_method_3_code 2 = .ok (.getfield 27, 3) := by decide +kernel
theorem dM_53_5 : decode prog_7_method_3_code 5 = .ok (.iconst 0, 1) := by decide +kernel
theorem dM_53_6 : decode prog_7_method_3_code 6 = .ok (.invokestatic 37, 3) := by decide +kernel
theorem dM_53_9 : decode prog_7_method_3_code 9 = .ok (.bipush 64, 2) := by decide +kernel
theorem dM_53_11 : decode prog_7_method_3_code 11 = .ok (.invokestatic 43, 3) := by decide +kernel
theorem dM_53_14 : decode prog_7_method_3_code 14 = .ok (.putfield 27, 3) := by decide +kernel
theorem dM_53_17 : decode prog_7_method_3_code 17 = .ok (.aload_n 0, 1) := by decide +kernel
theorem dM_53_18 : decode prog_7_method_3_code 18 = .ok (.aload_n 1, 1) := by decide +kernel
theorem dM_53_19 : decode prog_7_method_3_code 19 = .ok (.getfield 31, 3) := by decide +kernel
theorem dM_53_22 : decode prog_7_method_3_code 22 = .ok (.iconst 0, 1) := by decide +kernel
theorem dM_53_23 : decode prog_7_method_3_code 23 = .ok (.invokestatic 37, 3) := by decide +kernel
theorem dM_53_26 : decode prog_7_method_3_code 26 = .ok (.bipush 32, 2) := by decide +kernel
theorem dM_53_28 : decode prog_7_method_3_code 28 = .ok (.invokestatic 43, 3) := by decide +kernel
theorem dM_53_31 : decode prog_7_method_3_code 31 = .ok (.putfield 31, 3) := by decide +kernel
theorem dM_53_34 : decode prog_7_method_3_code 34 = .ok (.aload_n 0, 1) := by decide +kernel
theorem dM_53_35 : decode prog_7_method_3_code 35 = .ok (.aload_n 1, 1) := by decide +kernel
theorem dM_53_36 : decode prog_7_method_3_code 36 = .ok (.getfield 34, 3) := by decide +kernel
theorem dM_53_39 : decode prog_7_method_3_code 39 = .ok (.putfield 34, 3) := by decide +kernel
theorem dM_53_42 : decode prog_7_method_3_code 42 = .ok (.aload_n 1, 1) := by decide +kernel
theorem dM_53_43 : decode prog_7_method_3_code 43 = .ok (.getfield 9, 3) := by decide +kernel
theorem dM_53_46 : decode prog_7_method_3_code 46 = .ok (.iconst 0, 1) := by decide +kernel
theorem dM_53_47 : decode prog_7_method_3_code 47 = .ok (.aload_n 0, 1) := by decide +kernel
theorem dM_53_48 : decode prog_7_method_3_code 48 = .ok (.getfield 9, 3) := by decide +kernel
theorem dM_53_51 : decode prog_7_method_3_code 51 = .ok (.iconst 0, 1) := by decide +kernel
theorem dM_53_52 : decode prog_7_method_3_code 52 = .ok (.aload_n 0, 1) := by decide +kernel
theorem dM_53_53 : decode prog_7_method_3_code 53 = .ok (.getfield 27, 3) := by decide +kernel
theorem dM_53_56 : decode prog_7_method_3_code 56 = .ok (.invokestatic 46, 3) := by decide +kernel
theorem dM_53_59 : decode prog_7_method_3_code 59 = .ok (.aload_n 1, 1) := by decide +kernel
theorem dM_53_60 : decode prog_7_method_3_code 60 = .ok (.getfield 15, 3) := by decide +kernel
theorem dM_53_63 : decode prog_7_method_3_code 63 = .ok (.iconst 0, 1) := by decide +kernel
theorem dM_53_64 : decode prog_7_method_3_code 64 = .ok (.aload_n 0, 1) := by decide +kernel
theorem dM_53_65 : decode prog_7_method_3_code 65 = .ok (.getfield 15, 3) := by decide +kernel
theorem dM_53_68 : decode prog_7_method_3_code 68 = .ok (.iconst 0, 1) := by decide +kernel
theorem dM_53_69 : decode prog_7_method_3_code 69 = .ok (.aload_n 0, 1) := by decide +kernel
theorem dM_53_70 : decode prog_7_method_3_code 70 = .ok (.getfield 31, 3) := by decide +kernel
theorem dM_53_73 : decode prog_7_method_3_code 73 = .ok (.invokestatic 46, 3) := by decide +kernel
theorem dM_53_76 : decode prog_7_method_3_code 76 = .ok (.return_, 1) := by decide +kernel
theorem dM_54_0 : decode prog_7_method_6_code 0 = .ok (.aload_n 0, 1) := by decide +kernel
theorem dM_54_1 : decode prog_7_method_6_code 1 = .ok (.getfield 31, 3) := by decide +kernel
theorem dM_54_4 : decode prog_7_method_6_code 4 = .ok (.iconst 1, 1) := by decide +kernel
theorem dM_54_5 : decode prog_7_method_6_code 5 = .ok (.if_icmp .lt 12, 3) := by decide +kernel
theorem dM_54_8 : decode prog_7_method_6_code 8 = .ok (.aload_n 0, 1) := by decide +kernel
theorem dM_54_9 : decode prog_7_method_6_code 9 = .ok (.getfield 31, 3) := by decide +kernel
theorem dM_54_12 : decode prog_7_method_6_code 12 = .ok (.bipush 32, 2) := by decide +kernel
theorem dM_54_14 : decode prog_7_method_6_code 14 = .ok (.if_icmp .le 5, 3) := by decide +kernel
theorem dM_54_17 : decode prog_7_method_6_code 17 = .ok (.iconst (-1), 1) := by decide +kernel
theorem dM_54_18 : decode prog_7_method_6_code 18 = .ok (.ireturn, 1) := by decide +kernel
theorem dM_54_19 : decode prog_7_method_6_code 19 = .ok (.aload_n 0, 1) := by decide +kernel
theorem dM_54_20 : decode prog_7_method_6_code 20 = .ok (.dup, 1) := by decide +kernel
theorem dM_54_21 : decode prog_7_method_6_code 21 = .ok (.getfield 31, 3) := by decide +kernel
theorem dM_54_24 : decode prog_7_method_6_code 24 = .ok (.iconst 1, 1) := by decide +kernel
theorem dM_54_25 : decode prog_7_method_6_code 25 = .ok (.isub, 1) := by decide +kernel
theorem dM_54_26 : decode prog_7_method_6_code 26 = .ok (.putfield 31, 3) := by decide +kernel
theorem dM_54_29 : decode prog_7_method_6_code 29 = .ok (.aload_n 0, 1) := by decide +kernel
theorem dM_54_30 : decode prog_7_method_6_code 30 = .ok (.getfield 15, 3) := by decide +kernel
theorem dM_54_33 : decode prog_7_method_6_code 33 = .ok (.aload_n 0, 1) := by decide +kernel
theorem dM_54_34 : decode prog_7_method_6_code 34 = .ok (.getfield 31, 3) := by decide +kernel
theorem dM_54_37 : decode prog_7_method_6_code 37 = .ok (.iaload, 1) := by decide +kernel
theorem dM_54_38 : decode prog_7_method_6_code 38 = .ok (.ireturn, 1) := by decide +kernel
theorem dM_55_0 : decode prog_7_method_7_code 0 = .ok (.iload_n 1, 1) := by decide +kernel
theorem dM_55_1 : decode prog_7_method_7_code 1 = .ok (.ifCond .lt 21, 3) := by decide +kernel
theorem dM_55_4 : decode prog_7_method_7_code 4 = .ok (.iload_n 1, 1) := by decide +kernel
theorem dM_55_5 : decode prog_7_method_7_code 5 = .ok (.bipush 32, 2) := by decide +kernel
theorem dM_55_7 : decode prog_7_method_7_code 7 = .ok (.if_icmp .ge 15, 3) := by decide +kernel
theorem dM_55_10 : decode prog_7_method_7_code 10 = .ok (.aload_n 0, 1) := by decide +kernel
theorem dM_55_11 : decode prog_7_method_7_code 11 = .ok (.dup, 1) := by decide +kernel
theorem dM_55_12 : decode prog_7_method_7_code 12 = .ok (.getfield 34, 3) := by decide +kernel
theorem dM_55_15 : decode prog_7_method_7_code 15 = .ok (.iconst 1, 1) := by decide +kernel
theorem dM_55_16 : decode prog_7_method_7_code 16 = .ok (.iload_n 1, 1) := by decide +kernel
theorem dM_55_17 : decode prog_7_method_7_code 17 = .ok (.ishl, 1) := by decide +kernel
theorem dM_55_18 : decode prog_7_method_7_code 18 = .ok (.ior, 1) := by decide +kernel
theorem dM_55_19 : decode prog_7_method_7_code 19 = .ok (.putfield 34, 3) := by decide +kernel
theorem dM_55_22 : decode prog_7_method_7_code 22 = .ok (.return_, 1) := by decide +kernel
theorem dM_56_0 : decode prog_7_method_4_code 0 = .ok (.aload_n 0, 1) := by decide +kernel
theorem dM_56_1 : decode prog_7_method_4_code 1 = .ok (.getfield 27, 3) := by decide +kernel
theorem dM_56_4 : decode prog_7_method_4_code 4 = .ok (.ifCond .lt 12, 3) := by decide +kernel
theorem dM_56_7 : decode prog_7_method_4_code 7 = .ok (.aload_n 0, 1) := by decide +kernel
theorem dM_56_8 : decode prog_7_method_4_code 8 = .ok (.getfield 27, 3) := by decide +kernel
theorem dM_56_11 : decode prog_7_method_4_code 11 = .ok (.bipush 64, 2) := by decide +kernel
theorem dM_56_13 : decode prog_7_method_4_code 13 = .ok (.if_icmp .lt 7, 3) := by decide +kernel
theorem dM_56_16 : decode prog_7_method_4_code 16 = .ok (.sipush 138, 3) := by decide +kernel
theorem dM_56_19 : decode prog_7_method_4_code 19 = .ok (.ireturn, 1) := by decide +kernel
theorem dM_56_20 : decode prog_7_method_4_code 20 = .ok (.aload_n 0, 1) := by decide +kernel
theorem dM_56_21 : decode prog_7_method_4_code 21 = .ok (.getfield 9, 3) := by decide +kernel
theorem dM_56_24 : decode prog_7_method_4_code 24 = .ok (.aload_n 0, 1) := by decide +kernel
theorem dM_56_25 : decode prog_7_method_4_code 25 = .ok (.getfield 27, 3) := by decide +kernel
theorem dM_56_28 : decode prog_7_method_4_code 28 = .ok (.iconst (-1), 1) := by decide +kernel
theorem dM_56_29 : decode prog_7_method_4_code 29 = .ok (.iastore, 1) := by decide +kernel
theorem dM_56_30 : decode prog_7_method_4_code 30 = .ok (.aload_n 0, 1) := by decide +kernel
theorem dM_56_31 : decode prog_7_method_4_code 31 = .ok (.dup, 1) := by decide +kernel
theorem dM_56_32 : decode prog_7_method_4_code 32 = .ok (.getfield 27, 3) := by decide +kernel
theorem dM_56_35 : decode prog_7_method_4_code 35 = .ok (.iconst 1, 1) := by decide +kernel
theorem dM_56_36 : decode prog_7_method_4_code 36 = .ok (.iadd, 1) := by decide +kernel
theorem dM_56_37 : decode prog_7_method_4_code 37 = .ok (.putfield 27, 3) := by decide +kernel
theorem dM_56_40 : decode prog_7_method_4_code 40 = .ok (.aload_n 0, 1) := by decide +kernel
theorem dM_56_41 : decode prog_7_method_4_code 41 = .ok (.getfield 27, 3) := by decide +kernel
theorem dM_56_44 : decode prog_7_method_4_code 44 = .ok (.iconst 1, 1) := by decide +kernel
theorem dM_56_45 : decode prog_7_method_4_code 45 = .ok (.isub, 1) := by decide +kernel
theorem dM_56_46 : decode prog_7_method_4_code 46 = .ok (.ireturn, 1) := by decide +kernel
set_option maxRecDepth 100000 in
/-- GoalsInAQueue$Search.begin -/
theorem w_33 (sg : rSg) (b : Nat) (hb : isSea b) {P : Option rv → rSg → Prop} (h :
    EvS rSkel 2 51 [.inr (.inr (some (b + 218)))] (up2 (up2 (up2 (up2 (up2 (up2 sg b 7 0) b 8 0) b 9 0) b 10 0) b 11 0) b 12 1) (fun v1 t2 => v1 = none ∧
      EvS rSkel 1 52 [.inr (.inr (some (b + 218))), .inl (t2 (b + 1) 5)] t2 (fun v4 t5 => v4 = none ∧
        EvS rSkel 2 34 [.inr (.inr (some b)), .inr (.inr (some (b + 218)))] t5 (fun v7 t8 => v7 = none ∧
          P none t8)))) : EvS rSkel 3 33 [.inr (.inr (some b))] sg P := by
  refine EvS.of (ini := false) rfl ⟨rfl, Nat.le_of_ble_eq_true rfl⟩ rfl ?_
  show GoS rSkel 2 4 1 none false prog_6_method_2_code 0 [(0, .inr (.inr (some b)))] [] sg _
  have b_b := hb.1
  refine gs0 1 [(0, .inr (.inr (some b)))] [.inr (.inr (some b))] dM_33_0 (fun _ => rfl) (Or.inr rfl) ?_
  refine gs0 2 [(0, .inr (.inr (some b)))] [.inl 0, .inr (.inr (some b))] dM_33_1 (fun _ => rfl) (Or.inr rfl) ?_
  refine gsPut dM_33_2 hb.2.1 rfl rfl rfl (by decide) ?_
  refine gs0 6 [(0, .inr (.inr (some b)))] [.inr (.inr (some b))] dM_33_5 (fun _ => rfl) (Or.inr rfl) ?_
  refine gs0 7 [(0, .inr (.inr (some b)))] [.inl 0, .inr (.inr (some b))] dM_33_6 (fun _ => rfl) (Or.inr rfl) ?_
  refine gsPut dM_33_7 hb.2.1 rfl rfl rfl (by decide) ?_
  refine gs0 11 [(0, .inr (.inr (some b)))] [.inr (.inr (some b))] dM_33_10 (fun _ => rfl) (Or.inr rfl) ?_
  refine gs0 12 [(0, .inr (.inr (some b)))] [.inl 0, .inr (.inr (some b))] dM_33_11 (fun _ => rfl) (Or.inr rfl) ?_
  refine gsPut dM_33_12 hb.2.1 rfl rfl rfl (by decide) ?_
  refine gs0 16 [(0, .inr (.inr (some b)))] [.inr (.inr (some b))] dM_33_15 (fun _ => rfl) (Or.inr rfl) ?_
  refine gs0 17 [(0, .inr (.inr (some b)))] [.inl 0, .inr (.inr (some b))] dM_33_16 (fun _ => rfl) (Or.inr rfl) ?_
  refine gsPut dM_33_17 hb.2.1 rfl rfl rfl (by decide) ?_
  refine gs0 21 [(0, .inr (.inr (some b)))] [.inr (.inr (some b))] dM_33_20 (fun _ => rfl) (Or.inr rfl) ?_
  refine gs0 22 [(0, .inr (.inr (some b)))] [.inl 0, .inr (.inr (some b))] dM_33_21 (fun _ => rfl) (Or.inr rfl) ?_
  refine gsPut dM_33_22 hb.2.1 rfl rfl rfl (by decide) ?_
  refine gs0 26 [(0, .inr (.inr (some b)))] [.inr (.inr (some b))] dM_33_25 (fun _ => rfl) (Or.inr rfl) ?_
  refine gs0 27 [(0, .inr (.inr (some b)))] [.inl 1, .inr (.inr (some b))] dM_33_26 (fun _ => rfl) (Or.inr rfl) ?_
  refine gsPut dM_33_27 hb.2.1 rfl rfl rfl (by decide) ?_
  refine gs0 31 [(0, .inr (.inr (some b)))] [.inr (.inr (some b))] dM_33_30 (fun _ => rfl) (Or.inr rfl) ?_
  refine gsGetR (some (b + 218)) dM_33_31 hb.2.1 rfl rfl ?_
  refine gsCallV (y := 51) (k := b + 218) (as := [.inr (.inr (some (b + 218)))]) (r := []) dM_33_34 rfl rfl rfl (Nat.le_of_ble_eq_true rfl) hb.2.2.2.2.2.2.1.2.1 rfl (Nat.le_of_ble_eq_true rfl) (EvS.up h (Nat.le_of_ble_eq_true rfl)) (fun v1 t2 hv3 => ?_)
  obtain ⟨rfl, hn⟩ := hv3
  clear h
  show GoS _ _ _ _ _ _ _ _ [(0, .inr (.inr (some b)))] [] t2 _
  refine gs0 38 [(0, .inr (.inr (some b)))] [.inr (.inr (some b))] dM_33_37 (fun _ => rfl) (Or.inr rfl) ?_
  refine gsGetR (some (b + 218)) dM_33_38 hb.2.1 rfl rfl ?_
  refine gs0 42 [(0, .inr (.inr (some b)))] [.inr (.inr (some b)), .inr (.inr (some (b + 218)))] dM_33_41 (fun _ => rfl) (Or.inr rfl) ?_
  refine gsGetR (some (b + 1)) dM_33_42 hb.2.1 rfl rfl ?_
  refine gsGetE (t2 (b + 1) 5) dM_33_45 hb.2.2.2.2.2.1.2.1 rfl rfl rfl ?_
  refine gsCallV (y := 52) (k := b + 218) (as := [.inr (.inr (some (b + 218))), .inl (t2 (b + 1) 5)]) (r := []) dM_33_48 rfl rfl rfl (Nat.le_of_ble_eq_true rfl) hb.2.2.2.2.2.2.1.2.1 rfl (Nat.le_of_ble_eq_true rfl) (EvS.up hn (Nat.le_of_ble_eq_true rfl)) (fun v4 t5 hv6 => ?_)
  obtain ⟨rfl, hnn⟩ := hv6
  clear hn
  show GoS _ _ _ _ _ _ _ _ [(0, .inr (.inr (some b)))] [] t5 _
  refine gs0 52 [(0, .inr (.inr (some b)))] [.inr (.inr (some b))] dM_33_51 (fun _ => rfl) (Or.inr rfl) ?_
  refine gs0 53 [(0, .inr (.inr (some b)))] [.inr (.inr (some b)), .inr (.inr (some b))] dM_33_52 (fun _ => rfl) (Or.inr rfl) ?_
  refine gsGetR (some (b + 218)) dM_33_53 hb.2.1 rfl rfl ?_
  refine gsCallV (y := 34) (k := b) (as := [.inr (.inr (some b)), .inr (.inr (some (b + 218)))]) (r := []) dM_33_56 rfl rfl rfl (Nat.le_of_ble_eq_true rfl) hb.2.1 rfl (Nat.le_of_ble_eq_true rfl) (EvS.up hnn (Nat.le_of_ble_eq_true rfl)) (fun v7 t8 hv9 => ?_)
  obtain ⟨rfl, hnnn⟩ := hv9
  clear hnn
  show GoS _ _ _ _ _ _ _ _ [(0, .inr (.inr (some b)))] [] t8 _
  refine gsRet (r := none) dM_33_59 (fun _ => rfl) (Or.inr rfl) ?_
  exact hnnn
set_option maxRecDepth 100000 in
/-- GoalsInAQueue$Search.enqueue -/
theorem w_34 (sg : rSg) (b : Nat) (hb : isSea b) (k : Nat) (hk : isSt k) {P : Option rv → rSg → Prop} (h :
    (60 < (sg k 2) → 
      P none (up2 sg b 11 ((sg b 11) + 1))) ∧
    (¬ (60 < (sg k 2)) → 
      ((sg b 8) < 40 → 
        EvS rSkel 1 35 [.inr (.inr (some b)), .inl (sg b 8)] sg (fun v3 t4 => ∃ q6, v3 = some (.inr (.inr (some q6))) ∧ isSt q6 ∧
          EvS rSkel 1 53 [.inr (.inr (some q6)), .inr (.inr (some k))] t4 (fun v8 t9 => v8 = none ∧
            P none (up2 t9 b 8 ((t9 b 8) + 1))))) ∧
      (¬ ((sg b 8) < 40) → 
        P none (up2 sg b 11 ((sg b 11) + 1))))) : EvS rSkel 2 34 [.inr (.inr (some b)), .inr (.inr (some k))] sg P := by
  refine EvS.of (ini := false) rfl ⟨rfl, Nat.le_of_ble_eq_true rfl⟩ rfl ?_
  show GoS rSkel 1 4 2 none false prog_6_method_18_code 0 [(0, .inr (.inr (some b))), (1, .inr (.inr (some k)))] [] sg _
  have b_b := hb.1
  have b_k := hk.1
  refine gs0 1 [(0, .inr (.inr (some b))), (1, .inr (.inr (some k)))] [.inr (.inr (some k))] dM_34_0 (fun _ => rfl) (Or.inr rfl) ?_
  refine gsGetE (sg k 2) dM_34_1 hk.2.1 rfl rfl rfl ?_
  refine gs0 6 [(0, .inr (.inr (some b))), (1, .inr (.inr (some k)))] [.inl 60, .inl (sg k 2)] dM_34_4 (fun _ => rfl) (Or.inr rfl) ?_
  refine gsIf (t := 18) (C := 60 < (sg k 2)) (r := []) dM_34_6 (fun _ => rfl) (Or.inr rfl) (rTest_iff .gt (sg k 2) 60) (fun c1 => ?_) (fun c1 => ?_)
  · replace h := h.1 c1
    refine gs0 19 [(0, .inr (.inr (some b))), (1, .inr (.inr (some k)))] [.inr (.inr (some b))] dM_34_18 (fun _ => rfl) (Or.inr rfl) ?_
    refine gs0 20 [(0, .inr (.inr (some b))), (1, .inr (.inr (some k)))] [.inr (.inr (some b)), .inr (.inr (some b))] dM_34_19 (fun _ => rfl) (Or.inr rfl) ?_
    refine gsGetE (sg b 11) dM_34_20 hb.2.1 rfl rfl rfl ?_
    refine gs0 24 [(0, .inr (.inr (some b))), (1, .inr (.inr (some k)))] [.inl 1, .inl (sg b 11), .inr (.inr (some b))] dM_34_23 (fun _ => rfl) (Or.inr rfl) ?_
    refine gs0 25 [(0, .inr (.inr (some b))), (1, .inr (.inr (some k)))] [.inl ((sg b 11) + 1), .inr (.inr (some b))] dM_34_24 (fun _ => rfl) (Or.inr rfl) ?_
    refine gsPut dM_34_25 hb.2.1 rfl rfl rfl (by decide) ?_
    refine gs0 53 [(0, .inr (.inr (some b))), (1, .inr (.inr (some k)))] [] dM_34_28 (fun _ => rfl) (Or.inr rfl) ?_
    refine gsRet (r := none) dM_34_53 (fun _ => rfl) (Or.inr rfl) ?_
    exact h
  · replace h := h.2 c1
    refine gs0 10 [(0, .inr (.inr (some b))), (1, .inr (.inr (some k)))] [.inr (.inr (some b))] dM_34_9 (fun _ => rfl) (Or.inr rfl) ?_
    refine gsGetE (sg b 8) dM_34_10 hb.2.1 rfl rfl rfl ?_
    refine gs0 15 [(0, .inr (.inr (some b))), (1, .inr (.inr (some k)))] [.inl 40, .inl (sg b 8)] dM_34_13 (fun _ => rfl) (Or.inr rfl) ?_
    refine gsIf (t := 31) (C := (sg b 8) < 40) (r := []) dM_34_15 (fun _ => rfl) (Or.inr rfl) (rTest_iff .lt (sg b 8) 40) (fun c2 => ?_) (fun c2 => ?_)
    · replace h := h.1 c2
      refine gs0 32 [(0, .inr (.inr (some b))), (1, .inr (.inr (some k)))] [.inr (.inr (some b))] dM_34_31 (fun _ => rfl) (Or.inr rfl) ?_
      refine gs0 33 [(0, .inr (.inr (some b))), (1, .inr (.inr (some k)))] [.inr (.inr (some b)), .inr (.inr (some b))] dM_34_32 (fun _ => rfl) (Or.inr rfl) ?_
      refine gsGetE (sg b 8) dM_34_33 hb.2.1 rfl rfl rfl ?_
      refine gsCallV (y := 35) (k := b) (as := [.inr (.inr (some b)), .inl (sg b 8)]) (r := []) dM_34_36 rfl rfl rfl (Nat.le_of_ble_eq_true rfl) hb.2.1 rfl (Nat.le_of_ble_eq_true rfl) (EvS.up h (Nat.le_of_ble_eq_true rfl)) (fun v3 t4 hv5 => ?_)
      obtain ⟨q6, rfl, hq7, hn⟩ := hv5
      have b_q6 := hq7.1
      clear h
      show GoS _ _ _ _ _ _ _ _ [(0, .inr (.inr (some b))), (1, .inr (.inr (some k)))] [.inr (.inr (some q6))] t4 _
      refine gs0 40 [(0, .inr (.inr (some b))), (1, .inr (.inr (some k)))] [.inr (.inr (some k)), .inr (.inr (some q6))] dM_34_39 (fun _ => rfl) (Or.inr rfl) ?_
      refine gsCallV (y := 53) (k := q6) (as := [.inr (.inr (some q6)), .inr (.inr (some k))]) (r := []) dM_34_40 rfl rfl rfl (Nat.le_of_ble_eq_true rfl) hq7.2.1 rfl (Nat.le_of_ble_eq_true rfl) (EvS.up hn (Nat.le_of_ble_eq_true rfl)) (fun v8 t9 hv10 => ?_)
      obtain ⟨rfl, hnn⟩ := hv10
      clear hn
      show GoS _ _ _ _ _ _ _ _ [(0, .inr (.inr (some b))), (1, .inr (.inr (some k)))] [] t9 _
      refine gs0 44 [(0, .inr (.inr (some b))), (1, .inr (.inr (some k)))] [.inr (.inr (some b))] dM_34_43 (fun _ => rfl) (Or.inr rfl) ?_
      refine gs0 45 [(0, .inr (.inr (some b))), (1, .inr (.inr (some k)))] [.inr (.inr (some b)), .inr (.inr (some b))] dM_34_44 (fun _ => rfl) (Or.inr rfl) ?_
      refine gsGetE (t9 b 8) dM_34_45 hb.2.1 rfl rfl rfl ?_
      refine gs0 49 [(0, .inr (.inr (some b))), (1, .inr (.inr (some k)))] [.inl 1, .inl (t9 b 8), .inr (.inr (some b))] dM_34_48 (fun _ => rfl) (Or.inr rfl) ?_
      refine gs0 50 [(0, .inr (.inr (some b))), (1, .inr (.inr (some k)))] [.inl ((t9 b 8) + 1), .inr (.inr (some b))] dM_34_49 (fun _ => rfl) (Or.inr rfl) ?_
      refine gsPut dM_34_50 hb.2.1 rfl rfl rfl (by decide) ?_
      refine gsRet (r := none) dM_34_53 (fun _ => rfl) (Or.inr rfl) ?_
      exact hnn
    · replace h := h.2 c2
      refine gs0 19 [(0, .inr (.inr (some b))), (1, .inr (.inr (some k)))] [.inr (.inr (some b))] dM_34_18 (fun _ => rfl) (Or.inr rfl) ?_
      refine gs0 20 [(0, .inr (.inr (some b))), (1, .inr (.inr (some k)))] [.inr (.inr (some b)), .inr (.inr (some b))] dM_34_19 (fun _ => rfl) (Or.inr rfl) ?_
      refine gsGetE (sg b 11) dM_34_20 hb.2.1 rfl rfl rfl ?_
      refine gs0 24 [(0, .inr (.inr (some b))), (1, .inr (.inr (some k)))] [.inl 1, .inl (sg b 11), .inr (.inr (some b))] dM_34_23 (fun _ => rfl) (Or.inr rfl) ?_
      refine gs0 25 [(0, .inr (.inr (some b))), (1, .inr (.inr (some k)))] [.inl ((sg b 11) + 1), .inr (.inr (some b))] dM_34_24 (fun _ => rfl) (Or.inr rfl) ?_
      refine gsPut dM_34_25 hb.2.1 rfl rfl rfl (by decide) ?_
      refine gs0 53 [(0, .inr (.inr (some b))), (1, .inr (.inr (some k)))] [] dM_34_28 (fun _ => rfl) (Or.inr rfl) ?_
      refine gsRet (r := none) dM_34_53 (fun _ => rfl) (Or.inr rfl) ?_
      exact h
set_option maxRecDepth 100000 in
/-- GoalsInAQueue$Search.waitingAt -/
theorem w_35 (sg : rSg) (b : Nat) (hb : isSea b) (x1 : Int32) {P : Option rv → rSg → Prop} (h :
    ((irem ((sg b 7) + x1) 40) < 0 → 
      P (some (.inr (.inr (some (b + 218))))) sg) ∧
    (¬ ((irem ((sg b 7) + x1) 40) < 0) → 
      (40 ≤ (irem ((sg b 7) + x1) 40) → 
        P (some (.inr (.inr (some (b + 218))))) sg) ∧
      (¬ (40 ≤ (irem ((sg b 7) + x1) 40)) → 
        (rIn (irem ((sg b 7) + x1) 40) 40 = true ∧
        ∃ q3, (fun i => if i < 40 then some (b + 6 + 3 * i) else none) (irem ((sg b 7) + x1) 40).toNatClampNeg = some q3 ∧ isSt q3 ∧
          P (some (.inr (.inr (some q3)))) sg)))) : EvS rSkel 1 35 [.inr (.inr (some b)), .inl x1] sg P := by
  refine EvS.of (ini := false) rfl ⟨rfl, Nat.le_of_ble_eq_true rfl⟩ rfl ?_
  show GoS rSkel 0 4 4 (some (.object "GoalsInAQueue$State")) false prog_6_method_8_code 0 [(0, .inr (.inr (some b))), (1, .inl x1)] [] sg _
  have b_b := hb.1
  refine gs0 1 [(0, .inr (.inr (some b))), (1, .inl x1)] [.inr (.inr (some b))] dM_35_0 (fun _ => rfl) (Or.inr rfl) ?_
  refine gsGetE (sg b 7) dM_35_1 hb.2.1 rfl rfl rfl ?_
  refine gs0 5 [(0, .inr (.inr (some b))), (1, .inl x1)] [.inl x1, .inl (sg b 7)] dM_35_4 (fun _ => rfl) (Or.inr rfl) ?_
  refine gs0 6 [(0, .inr (.inr (some b))), (1, .inl x1)] [.inl ((sg b 7) + x1)] dM_35_5 (fun _ => rfl) (Or.inr rfl) ?_
  refine gs0 8 [(0, .inr (.inr (some b))), (1, .inl x1)] [.inl 40, .inl ((sg b 7) + x1)] dM_35_6 (fun _ => rfl) (Or.inr rfl) ?_
  refine gs0 9 [(0, .inr (.inr (some b))), (1, .inl x1)] [.inl (irem ((sg b 7) + x1) 40)] dM_35_8 (fun _ => rfl) (Or.inr rfl) ?_
  refine gs0 10 [(2, .inl (irem ((sg b 7) + x1) 40)), (0, .inr (.inr (some b))), (1, .inl x1)] [] dM_35_9 (fun _ => rfl) (Or.inr rfl) ?_
  refine gs0 11 [(2, .inl (irem ((sg b 7) + x1) 40)), (0, .inr (.inr (some b))), (1, .inl x1)] [.inl (irem ((sg b 7) + x1) 40)] dM_35_10 (fun _ => rfl) (Or.inr rfl) ?_
  refine gsIf (t := 29) (C := (irem ((sg b 7) + x1) 40) < 0) (r := []) dM_35_11 (fun _ => rfl) (Or.inr rfl) (rTest_iff .lt (irem ((sg b 7) + x1) 40) 0) (fun c1 => ?_) (fun c1 => ?_)
  · replace h := h.1 c1
    refine gs0 30 [(2, .inl (irem ((sg b 7) + x1) 40)), (0, .inr (.inr (some b))), (1, .inl x1)] [.inr (.inr (some b))] dM_35_29 (fun _ => rfl) (Or.inr rfl) ?_
    refine gsGetR (some (b + 218)) dM_35_30 hb.2.1 rfl rfl ?_
    refine gs0 34 [(3, .inr (.inr (some (b + 218)))), (2, .inl (irem ((sg b 7) + x1) 40)), (0, .inr (.inr (some b))), (1, .inl x1)] [] dM_35_33 (fun _ => rfl) (Or.inr rfl) ?_
    refine gs0 35 [(3, .inr (.inr (some (b + 218)))), (2, .inl (irem ((sg b 7) + x1) 40)), (0, .inr (.inr (some b))), (1, .inl x1)] [.inr (.inr (some (b + 218)))] dM_35_34 (fun _ => rfl) (Or.inr rfl) ?_
    refine gs0 45 [(3, .inr (.inr (some (b + 218)))), (2, .inl (irem ((sg b 7) + x1) 40)), (0, .inr (.inr (some b))), (1, .inl x1)] [] dM_35_35 (fun _ => rfl) (Or.inr rfl) ?_
    refine gs0 46 [(3, .inr (.inr (some (b + 218)))), (2, .inl (irem ((sg b 7) + x1) 40)), (0, .inr (.inr (some b))), (1, .inl x1)] [.inr (.inr (some (b + 218)))] dM_35_45 (fun _ => rfl) (Or.inr rfl) ?_
    refine gsRet (r := some (.inr (.inr (some (b + 218))))) dM_35_46 (fun _ => rfl) (Or.inr rfl) ?_
    exact h
  · replace h := h.2 c1
    refine gs0 15 [(2, .inl (irem ((sg b 7) + x1) 40)), (0, .inr (.inr (some b))), (1, .inl x1)] [.inl (irem ((sg b 7) + x1) 40)] dM_35_14 (fun _ => rfl) (Or.inr rfl) ?_
    refine gs0 17 [(2, .inl (irem ((sg b 7) + x1) 40)), (0, .inr (.inr (some b))), (1, .inl x1)] [.inl 40, .inl (irem ((sg b 7) + x1) 40)] dM_35_15 (fun _ => rfl) (Or.inr rfl) ?_
    refine gsIf (t := 29) (C := 40 ≤ (irem ((sg b 7) + x1) 40)) (r := []) dM_35_17 (fun _ => rfl) (Or.inr rfl) (rTest_iff .ge (irem ((sg b 7) + x1) 40) 40) (fun c2 => ?_) (fun c2 => ?_)
    · replace h := h.1 c2
      refine gs0 30 [(2, .inl (irem ((sg b 7) + x1) 40)), (0, .inr (.inr (some b))), (1, .inl x1)] [.inr (.inr (some b))] dM_35_29 (fun _ => rfl) (Or.inr rfl) ?_
      refine gsGetR (some (b + 218)) dM_35_30 hb.2.1 rfl rfl ?_
      refine gs0 34 [(3, .inr (.inr (some (b + 218)))), (2, .inl (irem ((sg b 7) + x1) 40)), (0, .inr (.inr (some b))), (1, .inl x1)] [] dM_35_33 (fun _ => rfl) (Or.inr rfl) ?_
      refine gs0 35 [(3, .inr (.inr (some (b + 218)))), (2, .inl (irem ((sg b 7) + x1) 40)), (0, .inr (.inr (some b))), (1, .inl x1)] [.inr (.inr (some (b + 218)))] dM_35_34 (fun _ => rfl) (Or.inr rfl) ?_
      refine gs0 45 [(3, .inr (.inr (some (b + 218)))), (2, .inl (irem ((sg b 7) + x1) 40)), (0, .inr (.inr (some b))), (1, .inl x1)] [] dM_35_35 (fun _ => rfl) (Or.inr rfl) ?_
      refine gs0 46 [(3, .inr (.inr (some (b + 218)))), (2, .inl (irem ((sg b 7) + x1) 40)), (0, .inr (.inr (some b))), (1, .inl x1)] [.inr (.inr (some (b + 218)))] dM_35_45 (fun _ => rfl) (Or.inr rfl) ?_
      refine gsRet (r := some (.inr (.inr (some (b + 218))))) dM_35_46 (fun _ => rfl) (Or.inr rfl) ?_
      exact h
    · replace h := h.2 c2
      refine gs0 21 [(2, .inl (irem ((sg b 7) + x1) 40)), (0, .inr (.inr (some b))), (1, .inl x1)] [.inr (.inr (some b))] dM_35_20 (fun _ => rfl) (Or.inr rfl) ?_
      refine gsGetR (some (b + 5)) dM_35_21 hb.2.1 rfl rfl ?_
      refine gs0 25 [(2, .inl (irem ((sg b 7) + x1) 40)), (0, .inr (.inr (some b))), (1, .inl x1)] [.inl (irem ((sg b 7) + x1) 40), .inr (.inr (some (b + 5)))] dM_35_24 (fun _ => rfl) (Or.inr rfl) ?_
      obtain ⟨hinhq4, q3, hehq4, hq4, h⟩ := h
      refine gsAaldN q3 dM_35_25 hb.2.2.1 hinhq4 hehq4 ?_
      have b_q3 := hq4.1
      refine gs0 33 [(2, .inl (irem ((sg b 7) + x1) 40)), (0, .inr (.inr (some b))), (1, .inl x1)] [.inr (.inr (some q3))] dM_35_26 (fun _ => rfl) (Or.inr rfl) ?_
      refine gs0 34 [(3, .inr (.inr (some q3))), (2, .inl (irem ((sg b 7) + x1) 40)), (0, .inr (.inr (some b))), (1, .inl x1)] [] dM_35_33 (fun _ => rfl) (Or.inr rfl) ?_
      refine gs0 35 [(3, .inr (.inr (some q3))), (2, .inl (irem ((sg b 7) + x1) 40)), (0, .inr (.inr (some b))), (1, .inl x1)] [.inr (.inr (some q3))] dM_35_34 (fun _ => rfl) (Or.inr rfl) ?_
      refine gs0 45 [(3, .inr (.inr (some q3))), (2, .inl (irem ((sg b 7) + x1) 40)), (0, .inr (.inr (some b))), (1, .inl x1)] [] dM_35_35 (fun _ => rfl) (Or.inr rfl) ?_
      refine gs0 46 [(3, .inr (.inr (some q3))), (2, .inl (irem ((sg b 7) + x1) 40)), (0, .inr (.inr (some b))), (1, .inl x1)] [.inr (.inr (some q3))] dM_35_45 (fun _ => rfl) (Or.inr rfl) ?_
      refine gsRet (r := some (.inr (.inr (some q3)))) dM_35_46 (fun _ => rfl) (Or.inr rfl) ?_
      exact h
def g_36_2 (b : Nat) (y1 : Int32) (y2 : Int32) (y3 : Int32) (sg : rSg) (P : Option rv → rSg → Prop) : Prop := GoS rSkel 6 4 4 none false prog_6_method_9_code 2 [(0, .inr (.inr (some b))), (1, .inl y1), (2, .inl y2), (3, .inl y3)] [] sg P
set_option maxRecDepth 100000 in
theorem w_36_2 (sg : rSg) (b : Nat) (hb : isSea b) (y1 : Int32) (y2 : Int32) (y3 : Int32) {P : Option rv → rSg → Prop} (h :
    (y1 ≤ y3 → 
      P none sg) ∧
    (¬ (y1 ≤ y3) → 
      EvS rSkel 1 37 [.inr (.inr (some b))] sg (fun v2 t3 => ∃ n5, v2 = some (.inl n5) ∧
        (¬ n5 = 0 → 
          P none t3) ∧
        (¬ (¬ n5 = 0) → 
          (y2 ≤ (t3 b 10) → 
            P none t3) ∧
          (¬ (y2 ≤ (t3 b 10)) → 
            EvS rSkel 2 38 [.inr (.inr (some b))] (up2 t3 b 9 ((t3 b 9) + 1)) (fun v8 t9 => ∃ q11, v8 = some (.inr (.inr (some q11))) ∧ isSt q11 ∧
              EvS rSkel 1 53 [.inr (.inr (some (b + 218))), .inr (.inr (some q11))] t9 (fun v13 t14 => v13 = none ∧
                (¬ (t14 (b + 218) 3) = 0 → 
                  EvS rSkel 1 54 [.inr (.inr (some (b + 218)))] (up2 (up2 t14 b 7 (irem ((t14 b 7) + 1) 40)) b 8 ((t14 b 8) - 1)) (fun v17 t18 => ∃ n20, v17 = some (.inl n20) ∧
                    EvS rSkel 6 41 [.inr (.inr (some b)), .inl n20] t18 (fun v21 t22 => v21 = none ∧
                      g_36_2 b y1 y2 (y3 + 1) (up2 t22 b 12 (imax (t22 b 12) (t22 b 8))) P))) ∧
                (¬ (¬ (t14 (b + 218) 3) = 0) → 
                  EvS rSkel 2 39 [.inr (.inr (some b))] (up2 (up2 t14 b 7 (irem ((t14 b 7) + 1) 40)) b 8 ((t14 b 8) - 1)) (fun v24 t25 => v24 = none ∧
                    g_36_2 b y1 y2 (y3 + 1) (up2 t25 b 12 (imax (t25 b 12) (t25 b 8))) P))))))))) : g_36_2 b y1 y2 y3 sg P := by
  show GoS rSkel 6 4 4 none false prog_6_method_9_code 2 [(0, .inr (.inr (some b))), (1, .inl y1), (2, .inl y2), (3, .inl y3)] [] sg P
  have b_b := hb.1
  refine gs0 3 [(0, .inr (.inr (some b))), (1, .inl y1), (2, .inl y2), (3, .inl y3)] [.inl y3] dM_36_2 (fun _ => rfl) (Or.inr rfl) ?_
  refine gs0 4 [(0, .inr (.inr (some b))), (1, .inl y1), (2, .inl y2), (3, .inl y3)] [.inl y1, .inl y3] dM_36_3 (fun _ => rfl) (Or.inr rfl) ?_
  refine gsIf (t := 115) (C := y1 ≤ y3) (r := []) dM_36_4 (fun _ => rfl) (Or.inr rfl) (rTest_iff .ge y3 y1) (fun c1 => ?_) (fun c1 => ?_)
  · replace h := h.1 c1
    refine gsRet (r := none) dM_36_115 (fun _ => rfl) (Or.inr rfl) ?_
    exact h
  · replace h := h.2 c1
    refine gs0 8 [(0, .inr (.inr (some b))), (1, .inl y1), (2, .inl y2), (3, .inl y3)] [.inr (.inr (some b))] dM_36_7 (fun _ => rfl) (Or.inr rfl) ?_
    refine gsCallV (y := 37) (k := b) (as := [.inr (.inr (some b))]) (r := []) dM_36_8 rfl rfl rfl (Nat.le_of_ble_eq_true rfl) hb.2.1 rfl (Nat.le_of_ble_eq_true rfl) (EvS.up h (Nat.le_of_ble_eq_true rfl)) (fun v2 t3 hv4 => ?_)
    obtain ⟨n5, rfl, hn⟩ := hv4
    clear h
    show GoS _ _ _ _ _ _ _ _ [(0, .inr (.inr (some b))), (1, .inl y1), (2, .inl y2), (3, .inl y3)] [.inl n5] t3 _
    refine gsIf (t := 115) (C := ¬ n5 = 0) (r := []) dM_36_11 (fun _ => rfl) (Or.inr rfl) (rTest_iff .ne n5 0) (fun c6 => ?_) (fun c6 => ?_)
    · replace hn := hn.1 c6
      refine gsRet (r := none) dM_36_115 (fun _ => rfl) (Or.inr rfl) ?_
      exact hn
    · replace hn := hn.2 c6
      refine gs0 15 [(0, .inr (.inr (some b))), (1, .inl y1), (2, .inl y2), (3, .inl y3)] [.inr (.inr (some b))] dM_36_14 (fun _ => rfl) (Or.inr rfl) ?_
      refine gsGetE (t3 b 10) dM_36_15 hb.2.1 rfl rfl rfl ?_
      refine gs0 19 [(0, .inr (.inr (some b))), (1, .inl y1), (2, .inl y2), (3, .inl y3)] [.inl y2, .inl (t3 b 10)] dM_36_18 (fun _ => rfl) (Or.inr rfl) ?_
      refine gsIf (t := 115) (C := y2 ≤ (t3 b 10)) (r := []) dM_36_19 (fun _ => rfl) (Or.inr rfl) (rTest_iff .ge (t3 b 10) y2) (fun c7 => ?_) (fun c7 => ?_)
      · replace hn := hn.1 c7
        refine gsRet (r := none) dM_36_115 (fun _ => rfl) (Or.inr rfl) ?_
        exact hn
      · replace hn := hn.2 c7
        refine gs0 23 [(0, .inr (.inr (some b))), (1, .inl y1), (2, .inl y2), (3, .inl y3)] [.inr (.inr (some b))] dM_36_22 (fun _ => rfl) (Or.inr rfl) ?_
        refine gs0 24 [(0, .inr (.inr (some b))), (1, .inl y1), (2, .inl y2), (3, .inl y3)] [.inr (.inr (some b)), .inr (.inr (some b))] dM_36_23 (fun _ => rfl) (Or.inr rfl) ?_
        refine gsGetE (t3 b 9) dM_36_24 hb.2.1 rfl rfl rfl ?_
        refine gs0 28 [(0, .inr (.inr (some b))), (1, .inl y1), (2, .inl y2), (3, .inl y3)] [.inl 1, .inl (t3 b 9), .inr (.inr (some b))] dM_36_27 (fun _ => rfl) (Or.inr rfl) ?_
        refine gs0 29 [(0, .inr (.inr (some b))), (1, .inl y1), (2, .inl y2), (3, .inl y3)] [.inl ((t3 b 9) + 1), .inr (.inr (some b))] dM_36_28 (fun _ => rfl) (Or.inr rfl) ?_
        refine gsPut dM_36_29 hb.2.1 rfl rfl rfl (by decide) ?_
        refine gs0 33 [(0, .inr (.inr (some b))), (1, .inl y1), (2, .inl y2), (3, .inl y3)] [.inr (.inr (some b))] dM_36_32 (fun _ => rfl) (Or.inr rfl) ?_
        refine gsGetR (some (b + 218)) dM_36_33 hb.2.1 rfl rfl ?_
        refine gs0 37 [(0, .inr (.inr (some b))), (1, .inl y1), (2, .inl y2), (3, .inl y3)] [.inr (.inr (some b)), .inr (.inr (some (b + 218)))] dM_36_36 (fun _ => rfl) (Or.inr rfl) ?_
        refine gsCallV (y := 38) (k := b) (as := [.inr (.inr (some b))]) (r := [.inr (.inr (some (b + 218)))]) dM_36_37 rfl rfl rfl (Nat.le_of_ble_eq_true rfl) hb.2.1 rfl (Nat.le_of_ble_eq_true rfl) (EvS.up hn (Nat.le_of_ble_eq_true rfl)) (fun v8 t9 hv10 => ?_)
        obtain ⟨q11, rfl, hq12, hnn⟩ := hv10
        have b_q11 := hq12.1
        clear hn
        show GoS _ _ _ _ _ _ _ _ [(0, .inr (.inr (some b))), (1, .inl y1), (2, .inl y2), (3, .inl y3)] [.inr (.inr (some q11)), .inr (.inr (some (b + 218)))] t9 _
        refine gsCallV (y := 53) (k := b + 218) (as := [.inr (.inr (some (b + 218))), .inr (.inr (some q11))]) (r := []) dM_36_40 rfl rfl rfl (Nat.le_of_ble_eq_true rfl) hb.2.2.2.2.2.2.1.2.1 rfl (Nat.le_of_ble_eq_true rfl) (EvS.up hnn (Nat.le_of_ble_eq_true rfl)) (fun v13 t14 hv15 => ?_)
        obtain ⟨rfl, hnnn⟩ := hv15
        clear hnn
        show GoS _ _ _ _ _ _ _ _ [(0, .inr (.inr (some b))), (1, .inl y1), (2, .inl y2), (3, .inl y3)] [] t14 _
        refine gs0 44 [(0, .inr (.inr (some b))), (1, .inl y1), (2, .inl y2), (3, .inl y3)] [.inr (.inr (some b))] dM_36_43 (fun _ => rfl) (Or.inr rfl) ?_
        refine gs0 45 [(0, .inr (.inr (some b))), (1, .inl y1), (2, .inl y2), (3, .inl y3)] [.inr (.inr (some b)), .inr (.inr (some b))] dM_36_44 (fun _ => rfl) (Or.inr rfl) ?_
        refine gsGetE (t14 b 7) dM_36_45 hb.2.1 rfl rfl rfl ?_
        refine gs0 49 [(0, .inr (.inr (some b))), (1, .inl y1), (2, .inl y2), (3, .inl y3)] [.inl 1, .inl (t14 b 7), .inr (.inr (some b))] dM_36_48 (fun _ => rfl) (Or.inr rfl) ?_
        refine gs0 50 [(0, .inr (.inr (some b))), (1, .inl y1), (2, .inl y2), (3, .inl y3)] [.inl ((t14 b 7) + 1), .inr (.inr (some b))] dM_36_49 (fun _ => rfl) (Or.inr rfl) ?_
        refine gs0 52 [(0, .inr (.inr (some b))), (1, .inl y1), (2, .inl y2), (3, .inl y3)] [.inl 40, .inl ((t14 b 7) + 1), .inr (.inr (some b))] dM_36_50 (fun _ => rfl) (Or.inr rfl) ?_
        refine gs0 53 [(0, .inr (.inr (some b))), (1, .inl y1), (2, .inl y2), (3, .inl y3)] [.inl (irem ((t14 b 7) + 1) 40), .inr (.inr (some b))] dM_36_52 (fun _ => rfl) (Or.inr rfl) ?_
        refine gsPut dM_36_53 hb.2.1 rfl rfl rfl (by decide) ?_
        refine gs0 57 [(0, .inr (.inr (some b))), (1, .inl y1), (2, .inl y2), (3, .inl y3)] [.inr (.inr (some b))] dM_36_56 (fun _ => rfl) (Or.inr rfl) ?_
        refine gs0 58 [(0, .inr (.inr (some b))), (1, .inl y1), (2, .inl y2), (3, .inl y3)] [.inr (.inr (some b)), .inr (.inr (some b))] dM_36_57 (fun _ => rfl) (Or.inr rfl) ?_
        refine gsGetE (t14 b 8) dM_36_58 hb.2.1 rfl rfl (up2_nj _ _ _ (by decide)) ?_
        refine gs0 62 [(0, .inr (.inr (some b))), (1, .inl y1), (2, .inl y2), (3, .inl y3)] [.inl 1, .inl (t14 b 8), .inr (.inr (some b))] dM_36_61 (fun _ => rfl) (Or.inr rfl) ?_
        refine gs0 63 [(0, .inr (.inr (some b))), (1, .inl y1), (2, .inl y2), (3, .inl y3)] [.inl ((t14 b 8) - 1), .inr (.inr (some b))] dM_36_62 (fun _ => rfl) (Or.inr rfl) ?_
        refine gsPut dM_36_63 hb.2.1 rfl rfl rfl (by decide) ?_
        refine gs0 67 [(0, .inr (.inr (some b))), (1, .inl y1), (2, .inl y2), (3, .inl y3)] [.inr (.inr (some b))] dM_36_66 (fun _ => rfl) (Or.inr rfl) ?_
        refine gsGetR (some (b + 218)) dM_36_67 hb.2.1 rfl rfl ?_
        refine gsGetE (t14 (b + 218) 3) dM_36_70 hb.2.2.2.2.2.2.1.2.1 rfl rfl ((congrFun (up2_nk _ _ _ (by omega)) _).trans (congrFun (up2_nk _ _ _ (by omega)) _)) ?_
        refine gsIf (t := 83) (C := ¬ (t14 (b + 218) 3) = 0) (r := []) dM_36_73 (fun _ => rfl) (Or.inr rfl) (rTest_iff .ne (t14 (b + 218) 3) 0) (fun c16 => ?_) (fun c16 => ?_)
        · replace hnnn := hnnn.1 c16
          refine gs0 84 [(0, .inr (.inr (some b))), (1, .inl y1), (2, .inl y2), (3, .inl y3)] [.inr (.inr (some b))] dM_36_83 (fun _ => rfl) (Or.inr rfl) ?_
          refine gs0 85 [(0, .inr (.inr (some b))), (1, .inl y1), (2, .inl y2), (3, .inl y3)] [.inr (.inr (some b)), .inr (.inr (some b))] dM_36_84 (fun _ => rfl) (Or.inr rfl) ?_
          refine gsGetR (some (b + 218)) dM_36_85 hb.2.1 rfl rfl ?_
          refine gsCallV (y := 54) (k := b + 218) (as := [.inr (.inr (some (b + 218)))]) (r := [.inr (.inr (some b))]) dM_36_88 rfl rfl rfl (Nat.le_of_ble_eq_true rfl) hb.2.2.2.2.2.2.1.2.1 rfl (Nat.le_of_ble_eq_true rfl) (EvS.up hnnn (Nat.le_of_ble_eq_true rfl)) (fun v17 t18 hv19 => ?_)
          obtain ⟨n20, rfl, hnnnn⟩ := hv19
          clear hnnn
          show GoS _ _ _ _ _ _ _ _ [(0, .inr (.inr (some b))), (1, .inl y1), (2, .inl y2), (3, .inl y3)] [.inl n20, .inr (.inr (some b))] t18 _
          refine gsCallV (y := 41) (k := b) (as := [.inr (.inr (some b)), .inl n20]) (r := []) dM_36_91 rfl rfl rfl (Nat.le_of_ble_eq_true rfl) hb.2.1 rfl (Nat.le_of_ble_eq_true rfl) (EvS.up hnnnn (Nat.le_of_ble_eq_true rfl)) (fun v21 t22 hv23 => ?_)
          obtain ⟨rfl, hnnnnn⟩ := hv23
          clear hnnnn
          show GoS _ _ _ _ _ _ _ _ [(0, .inr (.inr (some b))), (1, .inl y1), (2, .inl y2), (3, .inl y3)] [] t22 _
          refine gs0 95 [(0, .inr (.inr (some b))), (1, .inl y1), (2, .inl y2), (3, .inl y3)] [.inr (.inr (some b))] dM_36_94 (fun _ => rfl) (Or.inr rfl) ?_
          refine gs0 96 [(0, .inr (.inr (some b))), (1, .inl y1), (2, .inl y2), (3, .inl y3)] [.inr (.inr (some b)), .inr (.inr (some b))] dM_36_95 (fun _ => rfl) (Or.inr rfl) ?_
          refine gsGetE (t22 b 12) dM_36_96 hb.2.1 rfl rfl rfl ?_
          refine gs0 100 [(0, .inr (.inr (some b))), (1, .inl y1), (2, .inl y2), (3, .inl y3)] [.inr (.inr (some b)), .inl (t22 b 12), .inr (.inr (some b))] dM_36_99 (fun _ => rfl) (Or.inr rfl) ?_
          refine gsGetE (t22 b 8) dM_36_100 hb.2.1 rfl rfl rfl ?_
          refine gs0 106 [(0, .inr (.inr (some b))), (1, .inl y1), (2, .inl y2), (3, .inl y3)] [.inl (imax (t22 b 12) (t22 b 8)), .inr (.inr (some b))] dM_36_103 (fun _ => rfl) (Or.inr rfl) ?_
          refine gsPut dM_36_106 hb.2.1 rfl rfl rfl (by decide) ?_
          refine gs0 112 [(3, .inl (y3 + 1)), (0, .inr (.inr (some b))), (1, .inl y1), (2, .inl y2)] [] dM_36_109 (fun _ => rfl) (Or.inr rfl) ?_
          refine gs0 2 [(3, .inl (y3 + 1)), (0, .inr (.inr (some b))), (1, .inl y1), (2, .inl y2)] [] dM_36_112 (fun _ => rfl) (Or.inr rfl) ?_
          exact GoS.sub (Lnd_keys (ks := [0, 1, 2, 3]) rfl (by decide)) (Lsub_cons rfl (Lsub_cons rfl (Lsub_cons rfl (Lsub_cons rfl Lsub_nil)))) hnnnnn
        · replace hnnn := hnnn.2 c16
          refine gs0 77 [(0, .inr (.inr (some b))), (1, .inl y1), (2, .inl y2), (3, .inl y3)] [.inr (.inr (some b))] dM_36_76 (fun _ => rfl) (Or.inr rfl) ?_
          refine gsCallV (y := 39) (k := b) (as := [.inr (.inr (some b))]) (r := []) dM_36_77 rfl rfl rfl (Nat.le_of_ble_eq_true rfl) hb.2.1 rfl (Nat.le_of_ble_eq_true rfl) (EvS.up hnnn (Nat.le_of_ble_eq_true rfl)) (fun v24 t25 hv26 => ?_)
          obtain ⟨rfl, hnnnn⟩ := hv26
          clear hnnn
          show GoS _ _ _ _ _ _ _ _ [(0, .inr (.inr (some b))), (1, .inl y1), (2, .inl y2), (3, .inl y3)] [] t25 _
          refine gs0 94 [(0, .inr (.inr (some b))), (1, .inl y1), (2, .inl y2), (3, .inl y3)] [] dM_36_80 (fun _ => rfl) (Or.inr rfl) ?_
          refine gs0 95 [(0, .inr (.inr (some b))), (1, .inl y1), (2, .inl y2), (3, .inl y3)] [.inr (.inr (some b))] dM_36_94 (fun _ => rfl) (Or.inr rfl) ?_
          refine gs0 96 [(0, .inr (.inr (some b))), (1, .inl y1), (2, .inl y2), (3, .inl y3)] [.inr (.inr (some b)), .inr (.inr (some b))] dM_36_95 (fun _ => rfl) (Or.inr rfl) ?_
          refine gsGetE (t25 b 12) dM_36_96 hb.2.1 rfl rfl rfl ?_
          refine gs0 100 [(0, .inr (.inr (some b))), (1, .inl y1), (2, .inl y2), (3, .inl y3)] [.inr (.inr (some b)), .inl (t25 b 12), .inr (.inr (some b))] dM_36_99 (fun _ => rfl) (Or.inr rfl) ?_
          refine gsGetE (t25 b 8) dM_36_100 hb.2.1 rfl rfl rfl ?_
          refine gs0 106 [(0, .inr (.inr (some b))), (1, .inl y1), (2, .inl y2), (3, .inl y3)] [.inl (imax (t25 b 12) (t25 b 8)), .inr (.inr (some b))] dM_36_103 (fun _ => rfl) (Or.inr rfl) ?_
          refine gsPut dM_36_106 hb.2.1 rfl rfl rfl (by decide) ?_
          refine gs0 112 [(3, .inl (y3 + 1)), (0, .inr (.inr (some b))), (1, .inl y1), (2, .inl y2)] [] dM_36_109 (fun _ => rfl) (Or.inr rfl) ?_
          refine gs0 2 [(3, .inl (y3 + 1)), (0, .inr (.inr (some b))), (1, .inl y1), (2, .inl y2)] [] dM_36_112 (fun _ => rfl) (Or.inr rfl) ?_
          exact GoS.sub (Lnd_keys (ks := [0, 1, 2, 3]) rfl (by decide)) (Lsub_cons rfl (Lsub_cons rfl (Lsub_cons rfl (Lsub_cons rfl Lsub_nil)))) hnnnn
set_option maxRecDepth 100000 in
/-- GoalsInAQueue$Search.run -/
theorem w_36 (sg : rSg) (b : Nat) (hb : isSea b) (x1 : Int32) (x2 : Int32) {P : Option rv → rSg → Prop} (h :
    g_36_2 b x1 x2 0 sg P) : EvS rSkel 7 36 [.inr (.inr (some b)), .inl x1, .inl x2] sg P := by
  refine EvS.of (ini := false) rfl ⟨rfl, Nat.le_of_ble_eq_true rfl⟩ rfl ?_
  show GoS rSkel 6 4 4 none false prog_6_method_9_code 0 [(0, .inr (.inr (some b))), (1, .inl x1), (2, .inl x2)] [] sg _
  have b_b := hb.1
  refine gs0 1 [(0, .inr (.inr (some b))), (1, .inl x1), (2, .inl x2)] [.inl 0] dM_36_0 (fun _ => rfl) (Or.inr rfl) ?_
  refine gs0 2 [(3, .inl 0), (0, .inr (.inr (some b))), (1, .inl x1), (2, .inl x2)] [] dM_36_1 (fun _ => rfl) (Or.inr rfl) ?_
  exact GoS.sub (Lnd_keys (ks := [0, 1, 2, 3]) rfl (by decide)) (Lsub_cons rfl (Lsub_cons rfl (Lsub_cons rfl (Lsub_cons rfl Lsub_nil)))) h
set_option maxRecDepth 100000 in
/-- GoalsInAQueue$Search.isDone -/
theorem w_37 (sg : rSg) (b : Nat) (hb : isSea b) {P : Option rv → rSg → Prop} (h :
    ((sg b 8) = 0 → 
      P (some (.inl 1)) sg) ∧
    (¬ ((sg b 8) = 0) → 
      ((sg b 10) < 30 → 
        P (some (.inl 0)) sg) ∧
      (¬ ((sg b 10) < 30) → 
        P (some (.inl 1)) sg))) : EvS rSkel 1 37 [.inr (.inr (some b))] sg P := by
  refine EvS.of (ini := false) rfl ⟨rfl, Nat.le_of_ble_eq_true rfl⟩ rfl ?_
  show GoS rSkel 0 4 1 (some .boolean) false prog_6_method_4_code 0 [(0, .inr (.inr (some b)))] [] sg _
  have b_b := hb.1
  refine gs0 1 [(0, .inr (.inr (some b)))] [.inr (.inr (some b))] dM_37_0 (fun _ => rfl) (Or.inr rfl) ?_
  refine gsGetE (sg b 8) dM_37_1 hb.2.1 rfl rfl rfl ?_
  refine gsIf (t := 16) (C := (sg b 8) = 0) (r := []) dM_37_4 (fun _ => rfl) (Or.inr rfl) (rTest_iff .eq (sg b 8) 0) (fun c1 => ?_) (fun c1 => ?_)
  · replace h := h.1 c1
    refine gs0 17 [(0, .inr (.inr (some b)))] [.inl 1] dM_37_16 (fun _ => rfl) (Or.inr rfl) ?_
    refine gs0 21 [(0, .inr (.inr (some b)))] [.inl 1] dM_37_17 (fun _ => rfl) (Or.inr rfl) ?_
    refine gsRet (r := some (.inl 1)) dM_37_21 (fun _ => rfl) (Or.inr rfl) ?_
    exact h
  · replace h := h.2 c1
    refine gs0 8 [(0, .inr (.inr (some b)))] [.inr (.inr (some b))] dM_37_7 (fun _ => rfl) (Or.inr rfl) ?_
    refine gsGetE (sg b 10) dM_37_8 hb.2.1 rfl rfl rfl ?_
    refine gs0 13 [(0, .inr (.inr (some b)))] [.inl 30, .inl (sg b 10)] dM_37_11 (fun _ => rfl) (Or.inr rfl) ?_
    refine gsIf (t := 20) (C := (sg b 10) < 30) (r := []) dM_37_13 (fun _ => rfl) (Or.inr rfl) (rTest_iff .lt (sg b 10) 30) (fun c2 => ?_) (fun c2 => ?_)
    · replace h := h.1 c2
      refine gs0 21 [(0, .inr (.inr (some b)))] [.inl 0] dM_37_20 (fun _ => rfl) (Or.inr rfl) ?_
      refine gsRet (r := some (.inl 0)) dM_37_21 (fun _ => rfl) (Or.inr rfl) ?_
      exact h
    · replace h := h.2 c2
      refine gs0 17 [(0, .inr (.inr (some b)))] [.inl 1] dM_37_16 (fun _ => rfl) (Or.inr rfl) ?_
      refine gs0 21 [(0, .inr (.inr (some b)))] [.inl 1] dM_37_17 (fun _ => rfl) (Or.inr rfl) ?_
      refine gsRet (r := some (.inl 1)) dM_37_21 (fun _ => rfl) (Or.inr rfl) ?_
      exact h
set_option maxRecDepth 100000 in
/-- GoalsInAQueue$Search.first -/
theorem w_38 (sg : rSg) (b : Nat) (hb : isSea b) {P : Option rv → rSg → Prop} (h :
    EvS rSkel 1 35 [.inr (.inr (some b)), .inl 0] sg (fun v1 t2 => ∃ q4, v1 = some (.inr (.inr (some q4))) ∧ isSt q4 ∧
      P (some (.inr (.inr (some q4)))) t2)) : EvS rSkel 2 38 [.inr (.inr (some b))] sg P := by
  refine EvS.of (ini := false) rfl ⟨rfl, Nat.le_of_ble_eq_true rfl⟩ rfl ?_
  show GoS rSkel 1 4 1 (some (.object "GoalsInAQueue$State")) false prog_6_method_7_code 0 [(0, .inr (.inr (some b)))] [] sg _
  have b_b := hb.1
  refine gs0 1 [(0, .inr (.inr (some b)))] [.inr (.inr (some b))] dM_38_0 (fun _ => rfl) (Or.inr rfl) ?_
  refine gs0 2 [(0, .inr (.inr (some b)))] [.inl 0, .inr (.inr (some b))] dM_38_1 (fun _ => rfl) (Or.inr rfl) ?_
  refine gsCallV (y := 35) (k := b) (as := [.inr (.inr (some b)), .inl 0]) (r := []) dM_38_2 rfl rfl rfl (Nat.le_of_ble_eq_true rfl) hb.2.1 rfl (Nat.le_of_ble_eq_true rfl) (EvS.up h (Nat.le_of_ble_eq_true rfl)) (fun v1 t2 hv3 => ?_)
  obtain ⟨q4, rfl, hq5, hn⟩ := hv3
  have b_q4 := hq5.1
  clear h
  show GoS _ _ _ _ _ _ _ _ [(0, .inr (.inr (some b)))] [.inr (.inr (some q4))] t2 _
  refine gsRet (r := some (.inr (.inr (some q4)))) dM_38_5 (fun _ => rfl) (Or.inr rfl) ?_
  exact hn
set_option maxRecDepth 100000 in
/-- GoalsInAQueue$Search.addAnswer -/
theorem w_39 (sg : rSg) (b : Nat) (hb : isSea b) {P : Option rv → rSg → Prop} (h :
    ((sg b 10) < 0 → 
      P none sg) ∧
    (¬ ((sg b 10) < 0) → 
      (30 ≤ (sg b 10) → 
        P none sg) ∧
      (¬ (30 ≤ (sg b 10)) → 
        EvS rSkel 1 40 [.inr (.inr (some b)), .inl (sg b 10)] sg (fun v3 t4 => ∃ q6, v3 = some (.inr (.inr (some q6))) ∧ isSt q6 ∧
          EvS rSkel 1 53 [.inr (.inr (some q6)), .inr (.inr (some (b + 218)))] t4 (fun v8 t9 => v8 = none ∧
            (rIn (t9 b 10) 30 = true ∧
            P none (up2 (up2 t9 (b + 217) ((t9 b 10).toNatClampNeg) (t9 b 9)) b 10 ((t9 b 10) + 1)))))))) : EvS rSkel 2 39 [.inr (.inr (some b))] sg P := by
  refine EvS.of (ini := false) rfl ⟨rfl, Nat.le_of_ble_eq_true rfl⟩ rfl ?_
  show GoS rSkel 1 4 1 none false prog_6_method_10_code 0 [(0, .inr (.inr (some b)))] [] sg _
  have b_b := hb.1
  refine gs0 1 [(0, .inr (.inr (some b)))] [.inr (.inr (some b))] dM_39_0 (fun _ => rfl) (Or.inr rfl) ?_
  refine gsGetE (sg b 10) dM_39_1 hb.2.1 rfl rfl rfl ?_
  refine gsIf (t := 54) (C := (sg b 10) < 0) (r := []) dM_39_4 (fun _ => rfl) (Or.inr rfl) (rTest_iff .lt (sg b 10) 0) (fun c1 => ?_) (fun c1 => ?_)
  · replace h := h.1 c1
    refine gsRet (r := none) dM_39_54 (fun _ => rfl) (Or.inr rfl) ?_
    exact h
  · replace h := h.2 c1
    refine gs0 8 [(0, .inr (.inr (some b)))] [.inr (.inr (some b))] dM_39_7 (fun _ => rfl) (Or.inr rfl) ?_
    refine gsGetE (sg b 10) dM_39_8 hb.2.1 rfl rfl rfl ?_
    refine gs0 13 [(0, .inr (.inr (some b)))] [.inl 30, .inl (sg b 10)] dM_39_11 (fun _ => rfl) (Or.inr rfl) ?_
    refine gsIf (t := 54) (C := 30 ≤ (sg b 10)) (r := []) dM_39_13 (fun _ => rfl) (Or.inr rfl) (rTest_iff .ge (sg b 10) 30) (fun c2 => ?_) (fun c2 => ?_)
    · replace h := h.1 c2
      refine gsRet (r := none) dM_39_54 (fun _ => rfl) (Or.inr rfl) ?_
      exact h
    · replace h := h.2 c2
      refine gs0 17 [(0, .inr (.inr (some b)))] [.inr (.inr (some b))] dM_39_16 (fun _ => rfl) (Or.inr rfl) ?_
      refine gs0 18 [(0, .inr (.inr (some b)))] [.inr (.inr (some b)), .inr (.inr (some b))] dM_39_17 (fun _ => rfl) (Or.inr rfl) ?_
      refine gsGetE (sg b 10) dM_39_18 hb.2.1 rfl rfl rfl ?_
      refine gsCallV (y := 40) (k := b) (as := [.inr (.inr (some b)), .inl (sg b 10)]) (r := []) dM_39_21 rfl rfl rfl (Nat.le_of_ble_eq_true rfl) hb.2.1 rfl (Nat.le_of_ble_eq_true rfl) (EvS.up h (Nat.le_of_ble_eq_true rfl)) (fun v3 t4 hv5 => ?_)
      obtain ⟨q6, rfl, hq7, hn⟩ := hv5
      have b_q6 := hq7.1
      clear h
      show GoS _ _ _ _ _ _ _ _ [(0, .inr (.inr (some b)))] [.inr (.inr (some q6))] t4 _
      refine gs0 25 [(0, .inr (.inr (some b)))] [.inr (.inr (some b)), .inr (.inr (some q6))] dM_39_24 (fun _ => rfl) (Or.inr rfl) ?_
      refine gsGetR (some (b + 218)) dM_39_25 hb.2.1 rfl rfl ?_
      refine gsCallV (y := 53) (k := q6) (as := [.inr (.inr (some q6)), .inr (.inr (some (b + 218)))]) (r := []) dM_39_28 rfl rfl rfl (Nat.le_of_ble_eq_true rfl) hq7.2.1 rfl (Nat.le_of_ble_eq_true rfl) (EvS.up hn (Nat.le_of_ble_eq_true rfl)) (fun v8 t9 hv10 => ?_)
      obtain ⟨rfl, hnn⟩ := hv10
      clear hn
      show GoS _ _ _ _ _ _ _ _ [(0, .inr (.inr (some b)))] [] t9 _
      refine gs0 32 [(0, .inr (.inr (some b)))] [.inr (.inr (some b))] dM_39_31 (fun _ => rfl) (Or.inr rfl) ?_
      refine gsGetR (some (b + 217)) dM_39_32 hb.2.1 rfl rfl ?_
      refine gs0 36 [(0, .inr (.inr (some b)))] [.inr (.inr (some b)), .inr (.inr (some (b + 217)))] dM_39_35 (fun _ => rfl) (Or.inr rfl) ?_
      refine gsGetE (t9 b 10) dM_39_36 hb.2.1 rfl rfl rfl ?_
      refine gs0 40 [(0, .inr (.inr (some b)))] [.inr (.inr (some b)), .inl (t9 b 10), .inr (.inr (some (b + 217)))] dM_39_39 (fun _ => rfl) (Or.inr rfl) ?_
      refine gsGetE (t9 b 9) dM_39_40 hb.2.1 rfl rfl rfl ?_
      refine gsIastN ((t9 b 10).toNatClampNeg) dM_39_43 hb.2.2.2.2.1 hnn.1 rfl ?_
      replace hnn := hnn.2
      refine gs0 45 [(0, .inr (.inr (some b)))] [.inr (.inr (some b))] dM_39_44 (fun _ => rfl) (Or.inr rfl) ?_
      refine gs0 46 [(0, .inr (.inr (some b)))] [.inr (.inr (some b)), .inr (.inr (some b))] dM_39_45 (fun _ => rfl) (Or.inr rfl) ?_
      refine gsGetE (t9 b 10) dM_39_46 hb.2.1 rfl rfl (congrFun (up2_nk _ _ _ (by omega)) _) ?_
      refine gs0 50 [(0, .inr (.inr (some b)))] [.inl 1, .inl (t9 b 10), .inr (.inr (some b))] dM_39_49 (fun _ => rfl) (Or.inr rfl) ?_
      refine gs0 51 [(0, .inr (.inr (some b)))] [.inl ((t9 b 10) + 1), .inr (.inr (some b))] dM_39_50 (fun _ => rfl) (Or.inr rfl) ?_
      refine gsPut dM_39_51 hb.2.1 rfl rfl rfl (by decide) ?_
      refine gsRet (r := none) dM_39_54 (fun _ => rfl) (Or.inr rfl) ?_
      exact hnn
set_option maxRecDepth 100000 in
/-- GoalsInAQueue$Search.answerAt -/
theorem w_40 (sg : rSg) (b : Nat) (hb : isSea b) (x1 : Int32) {P : Option rv → rSg → Prop} (h :
    (x1 < 0 → 
      P (some (.inr (.inr (some (b + 218))))) sg) ∧
    (¬ (x1 < 0) → 
      (30 ≤ x1 → 
        P (some (.inr (.inr (some (b + 218))))) sg) ∧
      (¬ (30 ≤ x1) → 
        (rIn x1 30 = true ∧
        ∃ q3, (fun i => if i < 30 then some (b + 127 + 3 * i) else none) x1.toNatClampNeg = some q3 ∧ isSt q3 ∧
          P (some (.inr (.inr (some q3)))) sg)))) : EvS rSkel 1 40 [.inr (.inr (some b)), .inl x1] sg P := by
  refine EvS.of (ini := false) rfl ⟨rfl, Nat.le_of_ble_eq_true rfl⟩ rfl ?_
  show GoS rSkel 0 4 3 (some (.object "GoalsInAQueue$State")) false prog_6_method_5_code 0 [(0, .inr (.inr (some b))), (1, .inl x1)] [] sg _
  have b_b := hb.1
  refine gs0 1 [(0, .inr (.inr (some b))), (1, .inl x1)] [.inl x1] dM_40_0 (fun _ => rfl) (Or.inr rfl) ?_
  refine gsIf (t := 19) (C := x1 < 0) (r := []) dM_40_1 (fun _ => rfl) (Or.inr rfl) (rTest_iff .lt x1 0) (fun c1 => ?_) (fun c1 => ?_)
  · replace h := h.1 c1
    refine gs0 20 [(0, .inr (.inr (some b))), (1, .inl x1)] [.inr (.inr (some b))] dM_40_19 (fun _ => rfl) (Or.inr rfl) ?_
    refine gsGetR (some (b + 218)) dM_40_20 hb.2.1 rfl rfl ?_
    refine gs0 24 [(2, .inr (.inr (some (b + 218)))), (0, .inr (.inr (some b))), (1, .inl x1)] [] dM_40_23 (fun _ => rfl) (Or.inr rfl) ?_
    refine gs0 25 [(2, .inr (.inr (some (b + 218)))), (0, .inr (.inr (some b))), (1, .inl x1)] [.inr (.inr (some (b + 218)))] dM_40_24 (fun _ => rfl) (Or.inr rfl) ?_
    refine gs0 35 [(2, .inr (.inr (some (b + 218)))), (0, .inr (.inr (some b))), (1, .inl x1)] [] dM_40_25 (fun _ => rfl) (Or.inr rfl) ?_
    refine gs0 36 [(2, .inr (.inr (some (b + 218)))), (0, .inr (.inr (some b))), (1, .inl x1)] [.inr (.inr (some (b + 218)))] dM_40_35 (fun _ => rfl) (Or.inr rfl) ?_
    refine gsRet (r := some (.inr (.inr (some (b + 218))))) dM_40_36 (fun _ => rfl) (Or.inr rfl) ?_
    exact h
  · replace h := h.2 c1
    refine gs0 5 [(0, .inr (.inr (some b))), (1, .inl x1)] [.inl x1] dM_40_4 (fun _ => rfl) (Or.inr rfl) ?_
    refine gs0 7 [(0, .inr (.inr (some b))), (1, .inl x1)] [.inl 30, .inl x1] dM_40_5 (fun _ => rfl) (Or.inr rfl) ?_
    refine gsIf (t := 19) (C := 30 ≤ x1) (r := []) dM_40_7 (fun _ => rfl) (Or.inr rfl) (rTest_iff .ge x1 30) (fun c2 => ?_) (fun c2 => ?_)
    · replace h := h.1 c2
      refine gs0 20 [(0, .inr (.inr (some b))), (1, .inl x1)] [.inr (.inr (some b))] dM_40_19 (fun _ => rfl) (Or.inr rfl) ?_
      refine gsGetR (some (b + 218)) dM_40_20 hb.2.1 rfl rfl ?_
      refine gs0 24 [(2, .inr (.inr (some (b + 218)))), (0, .inr (.inr (some b))), (1, .inl x1)] [] dM_40_23 (fun _ => rfl) (Or.inr rfl) ?_
      refine gs0 25 [(2, .inr (.inr (some (b + 218)))), (0, .inr (.inr (some b))), (1, .inl x1)] [.inr (.inr (some (b + 218)))] dM_40_24 (fun _ => rfl) (Or.inr rfl) ?_
      refine gs0 35 [(2, .inr (.inr (some (b + 218)))), (0, .inr (.inr (some b))), (1, .inl x1)] [] dM_40_25 (fun _ => rfl) (Or.inr rfl) ?_
      refine gs0 36 [(2, .inr (.inr (some (b + 218)))), (0, .inr (.inr (some b))), (1, .inl x1)] [.inr (.inr (some (b + 218)))] dM_40_35 (fun _ => rfl) (Or.inr rfl) ?_
      refine gsRet (r := some (.inr (.inr (some (b + 218))))) dM_40_36 (fun _ => rfl) (Or.inr rfl) ?_
      exact h
    · replace h := h.2 c2
      refine gs0 11 [(0, .inr (.inr (some b))), (1, .inl x1)] [.inr (.inr (some b))] dM_40_10 (fun _ => rfl) (Or.inr rfl) ?_
      refine gsGetR (some (b + 126)) dM_40_11 hb.2.1 rfl rfl ?_
      refine gs0 15 [(0, .inr (.inr (some b))), (1, .inl x1)] [.inl x1, .inr (.inr (some (b + 126)))] dM_40_14 (fun _ => rfl) (Or.inr rfl) ?_
      obtain ⟨hinhq4, q3, hehq4, hq4, h⟩ := h
      refine gsAaldN q3 dM_40_15 hb.2.2.2.1 hinhq4 hehq4 ?_
      have b_q3 := hq4.1
      refine gs0 23 [(0, .inr (.inr (some b))), (1, .inl x1)] [.inr (.inr (some q3))] dM_40_16 (fun _ => rfl) (Or.inr rfl) ?_
      refine gs0 24 [(2, .inr (.inr (some q3))), (0, .inr (.inr (some b))), (1, .inl x1)] [] dM_40_23 (fun _ => rfl) (Or.inr rfl) ?_
      refine gs0 25 [(2, .inr (.inr (some q3))), (0, .inr (.inr (some b))), (1, .inl x1)] [.inr (.inr (some q3))] dM_40_24 (fun _ => rfl) (Or.inr rfl) ?_
      refine gs0 35 [(2, .inr (.inr (some q3))), (0, .inr (.inr (some b))), (1, .inl x1)] [] dM_40_25 (fun _ => rfl) (Or.inr rfl) ?_
      refine gs0 36 [(2, .inr (.inr (some q3))), (0, .inr (.inr (some b))), (1, .inl x1)] [.inr (.inr (some q3))] dM_40_35 (fun _ => rfl) (Or.inr rfl) ?_
      refine gsRet (r := some (.inr (.inr (some q3)))) dM_40_36 (fun _ => rfl) (Or.inr rfl) ?_
      exact h
set_option maxRecDepth 100000 in
/-- GoalsInAQueue$Search.perform -/
theorem w_41 (sg : rSg) (b : Nat) (hb : isSea b) (x1 : Int32) {P : Option rv → rSg → Prop} (h :
    EvS rSkel 1 28 [.inr (.inr (some (b + 1))), .inl x1, .inl 0] sg (fun v1 t2 => ∃ n4, v1 = some (.inl n4) ∧
      EvS rSkel 1 28 [.inr (.inr (some (b + 1))), .inl x1, .inl 1] t2 (fun v5 t6 => ∃ n8, v5 = some (.inl n8) ∧
        EvS rSkel 1 29 [.inr (.inr (some (b + 1))), .inl x1] t6 (fun v9 t10 => ∃ n12, v9 = some (.inl n12) ∧
          (n12 = 35 → 
            EvS rSkel 1 55 [.inr (.inr (some (b + 218))), .inl x1] t10 (fun v14 t15 => v14 = none ∧
              EvS rSkel 5 42 [.inr (.inr (some b)), .inr (.inr (some (b + 218)))] t15 (fun v17 t18 => v17 = none ∧
                P none t18))) ∧
          (n12 = 38 → 
            EvS rSkel 1 52 [.inr (.inr (some (b + 218))), .inl n8] t10 (fun v20 t21 => v20 = none ∧
              EvS rSkel 1 52 [.inr (.inr (some (b + 218))), .inl n4] t21 (fun v23 t24 => v23 = none ∧
                EvS rSkel 2 34 [.inr (.inr (some b)), .inr (.inr (some (b + 218)))] t24 (fun v26 t27 => v26 = none ∧
                  P none t27)))) ∧
          (n12 = 42 → 
            EvS rSkel 2 34 [.inr (.inr (some b)), .inr (.inr (some (b + 218)))] t10 (fun v29 t30 => v29 = none ∧
              P none t30)) ∧
          (n12 = 61 → 
            EvS rSkel 4 65 [.inr (.inr (some 1)), .inr (.inr (some (b + 1))), .inr (.inr (some (b + 219))), .inl n4, .inl n8] t10 (fun v32 t33 => ∃ n35, v32 = some (.inl n35) ∧
              (n35 = 0 → 
                P none t33) ∧
              (¬ (n35 = 0) → 
                EvS rSkel 5 42 [.inr (.inr (some b)), .inr (.inr (some (b + 218)))] t33 (fun v37 t38 => v37 = none ∧
                  P none t38)))) ∧
          (n12 = 65 → 
            EvS rSkel 1 53 [.inr (.inr (some (b + 221))), .inr (.inr (some (b + 218)))] t10 (fun v40 t41 => v40 = none ∧
              EvS rSkel 1 28 [.inr (.inr (some (b + 1))), .inl x1, .inl 2] t41 (fun v43 t44 => ∃ n46, v43 = some (.inl n46) ∧
                EvS rSkel 5 43 [.inr (.inr (some b)), .inl n4, .inl n8, .inl n46] t44 (fun v47 t48 => ∃ n50, v47 = some (.inl n50) ∧
                  (n50 = 0 → 
                    EvS rSkel 1 28 [.inr (.inr (some (b + 1))), .inl x1, .inl 2] t48 (fun v52 t53 => ∃ n55, v52 = some (.inl n55) ∧
                      EvS rSkel 5 44 [.inr (.inr (some b)), .inl n4, .inl n8, .inl n55] t53 (fun v56 t57 => ∃ n59, v56 = some (.inl n59) ∧
                        (n59 = 0 → 
                          P none t57) ∧
                        (¬ (n59 = 0) → 
                          EvS rSkel 5 42 [.inr (.inr (some b)), .inr (.inr (some (b + 218)))] t57 (fun v61 t62 => v61 = none ∧
                            P none t62))))) ∧
                  (¬ (n50 = 0) → 
                    EvS rSkel 5 42 [.inr (.inr (some b)), .inr (.inr (some (b + 221)))] t48 (fun v64 t65 => v64 = none ∧
                      EvS rSkel 1 28 [.inr (.inr (some (b + 1))), .inl x1, .inl 2] t65 (fun v67 t68 => ∃ n70, v67 = some (.inl n70) ∧
                        EvS rSkel 5 44 [.inr (.inr (some b)), .inl n4, .inl n8, .inl n70] t68 (fun v71 t72 => ∃ n74, v71 = some (.inl n74) ∧
                          (n74 = 0 → 
                            P none t72) ∧
                          (¬ (n74 = 0) → 
                            EvS rSkel 5 42 [.inr (.inr (some b)), .inr (.inr (some (b + 218)))] t72 (fun v76 t77 => v76 = none ∧
                              P none t77)))))))))) ∧
          (n12 = 77 → 
            EvS rSkel 1 53 [.inr (.inr (some (b + 221))), .inr (.inr (some (b + 218)))] t10 (fun v79 t80 => v79 = none ∧
              EvS rSkel 5 46 [.inr (.inr (some b)), .inl n4, .inl n8] t80 (fun v82 t83 => ∃ n85, v82 = some (.inl n85) ∧
                (n85 = 0 → 
                  EvS rSkel 5 47 [.inr (.inr (some b)), .inl n4, .inl n8] t83 (fun v87 t88 => ∃ n90, v87 = some (.inl n90) ∧
                    (n90 = 0 → 
                      P none t88) ∧
                    (¬ (n90 = 0) → 
                      EvS rSkel 5 42 [.inr (.inr (some b)), .inr (.inr (some (b + 218)))] t88 (fun v92 t93 => v92 = none ∧
                        P none t93)))) ∧
                (¬ (n85 = 0) → 
                  EvS rSkel 5 42 [.inr (.inr (some b)), .inr (.inr (some (b + 221)))] t83 (fun v95 t96 => v95 = none ∧
                    EvS rSkel 5 47 [.inr (.inr (some b)), .inl n4, .inl n8] t96 (fun v98 t99 => ∃ n101, v98 = some (.inl n101) ∧
                      (n101 = 0 → 
                        P none t99) ∧
                      (¬ (n101 = 0) → 
                        EvS rSkel 5 42 [.inr (.inr (some b)), .inr (.inr (some (b + 218)))] t99 (fun v103 t104 => v103 = none ∧
                          P none t104)))))))) ∧
          (n12 = 124 → 
            EvS rSkel 1 53 [.inr (.inr (some (b + 221))), .inr (.inr (some (b + 218)))] t10 (fun v106 t107 => v106 = none ∧
              EvS rSkel 1 52 [.inr (.inr (some (b + 221))), .inl n4] t107 (fun v109 t110 => v109 = none ∧
                EvS rSkel 2 34 [.inr (.inr (some b)), .inr (.inr (some (b + 221)))] t110 (fun v112 t113 => v112 = none ∧
                  EvS rSkel 1 52 [.inr (.inr (some (b + 218))), .inl n8] t113 (fun v115 t116 => v115 = none ∧
                    EvS rSkel 2 34 [.inr (.inr (some b)), .inr (.inr (some (b + 218)))] t116 (fun v118 t119 => v118 = none ∧
                      P none t119)))))) ∧
          (¬ n12 = 35 ∧ ¬ n12 = 38 ∧ ¬ n12 = 42 ∧ ¬ n12 = 61 ∧ ¬ n12 = 65 ∧ ¬ n12 = 77 ∧ ¬ n12 = 124 →
            P none t10))))) : EvS rSkel 6 41 [.inr (.inr (some b)), .inl x1] sg P := by
  refine EvS.of (ini := false) rfl ⟨rfl, Nat.le_of_ble_eq_true rfl⟩ rfl ?_
  show GoS rSkel 5 4 4 none false prog_6_method_11_code 0 [(0, .inr (.inr (some b))), (1, .inl x1)] [] sg _
  have b_b := hb.1
  refine gs0 1 [(0, .inr (.inr (some b))), (1, .inl x1)] [.inr (.inr (some b))] dM_41_0 (fun _ => rfl) (Or.inr rfl) ?_
  refine gsGetR (some (b + 1)) dM_41_1 hb.2.1 rfl rfl ?_
  refine gs0 5 [(0, .inr (.inr (some b))), (1, .inl x1)] [.inl x1, .inr (.inr (some (b + 1)))] dM_41_4 (fun _ => rfl) (Or.inr rfl) ?_
  refine gs0 6 [(0, .inr (.inr (some b))), (1, .inl x1)] [.inl 0, .inl x1, .inr (.inr (some (b + 1)))] dM_41_5 (fun _ => rfl) (Or.inr rfl) ?_
  refine gsCallV (y := 28) (k := b + 1) (as := [.inr (.inr (some (b + 1))), .inl x1, .inl 0]) (r := []) dM_41_6 rfl rfl rfl (Nat.le_of_ble_eq_true rfl) hb.2.2.2.2.2.1.2.1 rfl (Nat.le_of_ble_eq_true rfl) (EvS.up h (Nat.le_of_ble_eq_true rfl)) (fun v1 t2 hv3 => ?_)
  obtain ⟨n4, rfl, hn⟩ := hv3
  clear h
  show GoS _ _ _ _ _ _ _ _ [(0, .inr (.inr (some b))), (1, .inl x1)] [.inl n4] t2 _
  refine gs0 10 [(2, .inl n4), (0, .inr (.inr (some b))), (1, .inl x1)] [] dM_41_9 (fun _ => rfl) (Or.inr rfl) ?_
  refine gs0 11 [(2, .inl n4), (0, .inr (.inr (some b))), (1, .inl x1)] [.inr (.inr (some b))] dM_41_10 (fun _ => rfl) (Or.inr rfl) ?_
  refine gsGetR (some (b + 1)) dM_41_11 hb.2.1 rfl rfl ?_
  refine gs0 15 [(2, .inl n4), (0, .inr (.inr (some b))), (1, .inl x1)] [.inl x1, .inr (.inr (some (b + 1)))] dM_41_14 (fun _ => rfl) (Or.inr rfl) ?_
  refine gs0 16 [(2, .inl n4), (0, .inr (.inr (some b))), (1, .inl x1)] [.inl 1, .inl x1, .inr (.inr (some (b + 1)))] dM_41_15 (fun _ => rfl) (Or.inr rfl) ?_
  refine gsCallV (y := 28) (k := b + 1) (as := [.inr (.inr (some (b + 1))), .inl x1, .inl 1]) (r := []) dM_41_16 rfl rfl rfl (Nat.le_of_ble_eq_true rfl) hb.2.2.2.2.2.1.2.1 rfl (Nat.le_of_ble_eq_true rfl) (EvS.up hn (Nat.le_of_ble_eq_true rfl)) (fun v5 t6 hv7 => ?_)
  obtain ⟨n8, rfl, hnn⟩ := hv7
  clear hn
  show GoS _ _ _ _ _ _ _ _ [(2, .inl n4), (0, .inr (.inr (some b))), (1, .inl x1)] [.inl n8] t6 _
  refine gs0 20 [(3, .inl n8), (2, .inl n4), (0, .inr (.inr (some b))), (1, .inl x1)] [] dM_41_19 (fun _ => rfl) (Or.inr rfl) ?_
  refine gs0 21 [(3, .inl n8), (2, .inl n4), (0, .inr (.inr (some b))), (1, .inl x1)] [.inr (.inr (some b))] dM_41_20 (fun _ => rfl) (Or.inr rfl) ?_
  refine gsGetR (some (b + 1)) dM_41_21 hb.2.1 rfl rfl ?_
  refine gs0 25 [(3, .inl n8), (2, .inl n4), (0, .inr (.inr (some b))), (1, .inl x1)] [.inl x1, .inr (.inr (some (b + 1)))] dM_41_24 (fun _ => rfl) (Or.inr rfl) ?_
  refine gsCallV (y := 29) (k := b + 1) (as := [.inr (.inr (some (b + 1))), .inl x1]) (r := []) dM_41_25 rfl rfl rfl (Nat.le_of_ble_eq_true rfl) hb.2.2.2.2.2.1.2.1 rfl (Nat.le_of_ble_eq_true rfl) (EvS.up hnn (Nat.le_of_ble_eq_true rfl)) (fun v9 t10 hv11 => ?_)
  obtain ⟨n12, rfl, hnnn⟩ := hv11
  clear hnn
  show GoS _ _ _ _ _ _ _ _ [(3, .inl n8), (2, .inl n4), (0, .inr (.inr (some b))), (1, .inl x1)] [.inl n12] t10 _
  by_cases c13_35 : n12 = 35
  · replace hnnn := hnnn.1 c13_35
    refine gs0 130 [(3, .inl n8), (2, .inl n4), (0, .inr (.inr (some b))), (1, .inl x1)] [] dM_41_28 (fun _ => by rw [c13_35]; rfl) (Or.inl rfl) ?_
    refine gs0 131 [(3, .inl n8), (2, .inl n4), (0, .inr (.inr (some b))), (1, .inl x1)] [.inr (.inr (some b))] dM_41_130 (fun _ => rfl) (Or.inr rfl) ?_
    refine gsGetR (some (b + 218)) dM_41_131 hb.2.1 rfl rfl ?_
    refine gs0 135 [(3, .inl n8), (2, .inl n4), (0, .inr (.inr (some b))), (1, .inl x1)] [.inl x1, .inr (.inr (some (b + 218)))] dM_41_134 (fun _ => rfl) (Or.inr rfl) ?_
    refine gsCallV (y := 55) (k := b + 218) (as := [.inr (.inr (some (b + 218))), .inl x1]) (r := []) dM_41_135 rfl rfl rfl (Nat.le_of_ble_eq_true rfl) hb.2.2.2.2.2.2.1.2.1 rfl (Nat.le_of_ble_eq_true rfl) (EvS.up hnnn (Nat.le_of_ble_eq_true rfl)) (fun v14 t15 hv16 => ?_)
    obtain ⟨rfl, hnnnn⟩ := hv16
    clear hnnn
    show GoS _ _ _ _ _ _ _ _ [(3, .inl n8), (2, .inl n4), (0, .inr (.inr (some b))), (1, .inl x1)] [] t15 _
    refine gs0 139 [(3, .inl n8), (2, .inl n4), (0, .inr (.inr (some b))), (1, .inl x1)] [.inr (.inr (some b))] dM_41_138 (fun _ => rfl) (Or.inr rfl) ?_
    refine gs0 140 [(3, .inl n8), (2, .inl n4), (0, .inr (.inr (some b))), (1, .inl x1)] [.inr (.inr (some b)), .inr (.inr (some b))] dM_41_139 (fun _ => rfl) (Or.inr rfl) ?_
    refine gsGetR (some (b + 218)) dM_41_140 hb.2.1 rfl rfl ?_
    refine gsCallV (y := 42) (k := b) (as := [.inr (.inr (some b)), .inr (.inr (some (b + 218)))]) (r := []) dM_41_143 rfl rfl rfl (Nat.le_of_ble_eq_true rfl) hb.2.1 rfl (Nat.le_of_ble_eq_true rfl) (EvS.up hnnnn (Nat.le_of_ble_eq_true rfl)) (fun v17 t18 hv19 => ?_)
    obtain ⟨rfl, hnnnnn⟩ := hv19
    clear hnnnn
    show GoS _ _ _ _ _ _ _ _ [(3, .inl n8), (2, .inl n4), (0, .inr (.inr (some b))), (1, .inl x1)] [] t18 _
    refine gs0 347 [(3, .inl n8), (2, .inl n4), (0, .inr (.inr (some b))), (1, .inl x1)] [] dM_41_146 (fun _ => rfl) (Or.inr rfl) ?_
    refine gsRet (r := none) dM_41_347 (fun _ => rfl) (Or.inr rfl) ?_
    exact hnnnnn
  replace hnnn := hnnn.2
  by_cases c13_38 : n12 = 38
  · replace hnnn := hnnn.1 c13_38
    refine gs0 149 [(3, .inl n8), (2, .inl n4), (0, .inr (.inr (some b))), (1, .inl x1)] [] dM_41_28 (fun _ => by rw [c13_38]; rfl) (Or.inl rfl) ?_
    refine gs0 150 [(3, .inl n8), (2, .inl n4), (0, .inr (.inr (some b))), (1, .inl x1)] [.inr (.inr (some b))] dM_41_149 (fun _ => rfl) (Or.inr rfl) ?_
    refine gsGetR (some (b + 218)) dM_41_150 hb.2.1 rfl rfl ?_
    refine gs0 154 [(3, .inl n8), (2, .inl n4), (0, .inr (.inr (some b))), (1, .inl x1)] [.inl n8, .inr (.inr (some (b + 218)))] dM_41_153 (fun _ => rfl) (Or.inr rfl) ?_
    refine gsCallV (y := 52) (k := b + 218) (as := [.inr (.inr (some (b + 218))), .inl n8]) (r := []) dM_41_154 rfl rfl rfl (Nat.le_of_ble_eq_true rfl) hb.2.2.2.2.2.2.1.2.1 rfl (Nat.le_of_ble_eq_true rfl) (EvS.up hnnn (Nat.le_of_ble_eq_true rfl)) (fun v20 t21 hv22 => ?_)
    obtain ⟨rfl, hnnnn⟩ := hv22
    clear hnnn
    show GoS _ _ _ _ _ _ _ _ [(3, .inl n8), (2, .inl n4), (0, .inr (.inr (some b))), (1, .inl x1)] [] t21 _
    refine gs0 158 [(3, .inl n8), (2, .inl n4), (0, .inr (.inr (some b))), (1, .inl x1)] [.inr (.inr (some b))] dM_41_157 (fun _ => rfl) (Or.inr rfl) ?_
    refine gsGetR (some (b + 218)) dM_41_158 hb.2.1 rfl rfl ?_
    refine gs0 162 [(3, .inl n8), (2, .inl n4), (0, .inr (.inr (some b))), (1, .inl x1)] [.inl n4, .inr (.inr (some (b + 218)))] dM_41_161 (fun _ => rfl) (Or.inr rfl) ?_
    refine gsCallV (y := 52) (k := b + 218) (as := [.inr (.inr (some (b + 218))), .inl n4]) (r := []) dM_41_162 rfl rfl rfl (Nat.le_of_ble_eq_true rfl) hb.2.2.2.2.2.2.1.2.1 rfl (Nat.le_of_ble_eq_true rfl) (EvS.up hnnnn (Nat.le_of_ble_eq_true rfl)) (fun v23 t24 hv25 => ?_)
    obtain ⟨rfl, hnnnnn⟩ := hv25
    clear hnnnn
    show GoS _ _ _ _ _ _ _ _ [(3, .inl n8), (2, .inl n4), (0, .inr (.inr (some b))), (1, .inl x1)] [] t24 _
    refine gs0 166 [(3, .inl n8), (2, .inl n4), (0, .inr (.inr (some b))), (1, .inl x1)] [.inr (.inr (some b))] dM_41_165 (fun _ => rfl) (Or.inr rfl) ?_
    refine gs0 167 [(3, .inl n8), (2, .inl n4), (0, .inr (.inr (some b))), (1, .inl x1)] [.inr (.inr (some b)), .inr (.inr (some b))] dM_41_166 (fun _ => rfl) (Or.inr rfl) ?_
    refine gsGetR (some (b + 218)) dM_41_167 hb.2.1 rfl rfl ?_
    refine gsCallV (y := 34) (k := b) (as := [.inr (.inr (some b)), .inr (.inr (some (b + 218)))]) (r := []) dM_41_170 rfl rfl rfl (Nat.le_of_ble_eq_true rfl) hb.2.1 rfl (Nat.le_of_ble_eq_true rfl) (EvS.up hnnnnn (Nat.le_of_ble_eq_true rfl)) (fun v26 t27 hv28 => ?_)
    obtain ⟨rfl, hnnnnnn⟩ := hv28
    clear hnnnnn
    show GoS _ _ _ _ _ _ _ _ [(3, .inl n8), (2, .inl n4), (0, .inr (.inr (some b))), (1, .inl x1)] [] t27 _
    refine gs0 347 [(3, .inl n8), (2, .inl n4), (0, .inr (.inr (some b))), (1, .inl x1)] [] dM_41_173 (fun _ => rfl) (Or.inr rfl) ?_
    refine gsRet (r := none) dM_41_347 (fun _ => rfl) (Or.inr rfl) ?_
    exact hnnnnnn
  replace hnnn := hnnn.2
  by_cases c13_42 : n12 = 42
  · replace hnnn := hnnn.1 c13_42
    refine gs0 222 [(3, .inl n8), (2, .inl n4), (0, .inr (.inr (some b))), (1, .inl x1)] [] dM_41_28 (fun _ => by rw [c13_42]; rfl) (Or.inl rfl) ?_
    refine gs0 223 [(3, .inl n8), (2, .inl n4), (0, .inr (.inr (some b))), (1, .inl x1)] [.inr (.inr (some b))] dM_41_222 (fun _ => rfl) (Or.inr rfl) ?_
    refine gs0 224 [(3, .inl n8), (2, .inl n4), (0, .inr (.inr (some b))), (1, .inl x1)] [.inr (.inr (some b)), .inr (.inr (some b))] dM_41_223 (fun _ => rfl) (Or.inr rfl) ?_
    refine gsGetR (some (b + 218)) dM_41_224 hb.2.1 rfl rfl ?_
    refine gsCallV (y := 34) (k := b) (as := [.inr (.inr (some b)), .inr (.inr (some (b + 218)))]) (r := []) dM_41_227 rfl rfl rfl (Nat.le_of_ble_eq_true rfl) hb.2.1 rfl (Nat.le_of_ble_eq_true rfl) (EvS.up hnnn (Nat.le_of_ble_eq_true rfl)) (fun v29 t30 hv31 => ?_)
    obtain ⟨rfl, hnnnn⟩ := hv31
    clear hnnn
    show GoS _ _ _ _ _ _ _ _ [(3, .inl n8), (2, .inl n4), (0, .inr (.inr (some b))), (1, .inl x1)] [] t30 _
    refine gs0 347 [(3, .inl n8), (2, .inl n4), (0, .inr (.inr (some b))), (1, .inl x1)] [] dM_41_230 (fun _ => rfl) (Or.inr rfl) ?_
    refine gsRet (r := none) dM_41_347 (fun _ => rfl) (Or.inr rfl) ?_
    exact hnnnn
  replace hnnn := hnnn.2
  by_cases c13_61 : n12 = 61
  · replace hnnn := hnnn.1 c13_61
    refine gs0 96 [(3, .inl n8), (2, .inl n4), (0, .inr (.inr (some b))), (1, .inl x1)] [] dM_41_28 (fun _ => by rw [c13_61]; rfl) (Or.inl rfl) ?_
    refine gs0 97 [(3, .inl n8), (2, .inl n4), (0, .inr (.inr (some b))), (1, .inl x1)] [.inr (.inr (some b))] dM_41_96 (fun _ => rfl) (Or.inr rfl) ?_
    refine gsGetR (some 1) dM_41_97 hb.2.1 rfl rfl ?_
    refine gs0 101 [(3, .inl n8), (2, .inl n4), (0, .inr (.inr (some b))), (1, .inl x1)] [.inr (.inr (some b)), .inr (.inr (some 1))] dM_41_100 (fun _ => rfl) (Or.inr rfl) ?_
    refine gsGetR (some (b + 1)) dM_41_101 hb.2.1 rfl rfl ?_
    refine gs0 105 [(3, .inl n8), (2, .inl n4), (0, .inr (.inr (some b))), (1, .inl x1)] [.inr (.inr (some b)), .inr (.inr (some (b + 1))), .inr (.inr (some 1))] dM_41_104 (fun _ => rfl) (Or.inr rfl) ?_
    refine gsGetR (some (b + 218)) dM_41_105 hb.2.1 rfl rfl ?_
    refine gsGetR (some (b + 219)) dM_41_108 hb.2.2.2.2.2.2.1.2.1 rfl rfl ?_
    refine gs0 112 [(3, .inl n8), (2, .inl n4), (0, .inr (.inr (some b))), (1, .inl x1)] [.inl n4, .inr (.inr (some (b + 219))), .inr (.inr (some (b + 1))), .inr (.inr (some 1))] dM_41_111 (fun _ => rfl) (Or.inr rfl) ?_
    refine gs0 113 [(3, .inl n8), (2, .inl n4), (0, .inr (.inr (some b))), (1, .inl x1)] [.inl n8, .inl n4, .inr (.inr (some (b + 219))), .inr (.inr (some (b + 1))), .inr (.inr (some 1))] dM_41_112 (fun _ => rfl) (Or.inr rfl) ?_
    refine gsCallV (y := 65) (k := 1) (as := [.inr (.inr (some 1)), .inr (.inr (some (b + 1))), .inr (.inr (some (b + 219))), .inl n4, .inl n8]) (r := []) dM_41_113 rfl rfl rfl (Nat.le_of_ble_eq_true rfl) sk_1 rfl (Nat.le_of_ble_eq_true rfl) (EvS.up hnnn (Nat.le_of_ble_eq_true rfl)) (fun v32 t33 hv34 => ?_)
    obtain ⟨n35, rfl, hnnnn⟩ := hv34
    clear hnnn
    show GoS _ _ _ _ _ _ _ _ [(3, .inl n8), (2, .inl n4), (0, .inr (.inr (some b))), (1, .inl x1)] [.inl n35] t33 _
    refine gsIf (t := 347) (C := n35 = 0) (r := []) dM_41_116 (fun _ => rfl) (Or.inr rfl) (rTest_iff .eq n35 0) (fun c36 => ?_) (fun c36 => ?_)
    · replace hnnnn := hnnnn.1 c36
      refine gsRet (r := none) dM_41_347 (fun _ => rfl) (Or.inr rfl) ?_
      exact hnnnn
    · replace hnnnn := hnnnn.2 c36
      refine gs0 120 [(3, .inl n8), (2, .inl n4), (0, .inr (.inr (some b))), (1, .inl x1)] [.inr (.inr (some b))] dM_41_119 (fun _ => rfl) (Or.inr rfl) ?_
      refine gs0 121 [(3, .inl n8), (2, .inl n4), (0, .inr (.inr (some b))), (1, .inl x1)] [.inr (.inr (some b)), .inr (.inr (some b))] dM_41_120 (fun _ => rfl) (Or.inr rfl) ?_
      refine gsGetR (some (b + 218)) dM_41_121 hb.2.1 rfl rfl ?_
      refine gsCallV (y := 42) (k := b) (as := [.inr (.inr (some b)), .inr (.inr (some (b + 218)))]) (r := []) dM_41_124 rfl rfl rfl (Nat.le_of_ble_eq_true rfl) hb.2.1 rfl (Nat.le_of_ble_eq_true rfl) (EvS.up hnnnn (Nat.le_of_ble_eq_true rfl)) (fun v37 t38 hv39 => ?_)
      obtain ⟨rfl, hnnnnn⟩ := hv39
      clear hnnnn
      show GoS _ _ _ _ _ _ _ _ [(3, .inl n8), (2, .inl n4), (0, .inr (.inr (some b))), (1, .inl x1)] [] t38 _
      refine gs0 347 [(3, .inl n8), (2, .inl n4), (0, .inr (.inr (some b))), (1, .inl x1)] [] dM_41_127 (fun _ => rfl) (Or.inr rfl) ?_
      refine gsRet (r := none) dM_41_347 (fun _ => rfl) (Or.inr rfl) ?_
      exact hnnnnn
  replace hnnn := hnnn.2
  by_cases c13_65 : n12 = 65
  · replace hnnn := hnnn.1 c13_65
    refine gs0 233 [(3, .inl n8), (2, .inl n4), (0, .inr (.inr (some b))), (1, .inl x1)] [] dM_41_28 (fun _ => by rw [c13_65]; rfl) (Or.inl rfl) ?_
    refine gs0 234 [(3, .inl n8), (2, .inl n4), (0, .inr (.inr (some b))), (1, .inl x1)] [.inr (.inr (some b))] dM_41_233 (fun _ => rfl) (Or.inr rfl) ?_
    refine gsGetR (some (b + 221)) dM_41_234 hb.2.1 rfl rfl ?_
    refine gs0 238 [(3, .inl n8), (2, .inl n4), (0, .inr (.inr (some b))), (1, .inl x1)] [.inr (.inr (some b)), .inr (.inr (some (b + 221)))] dM_41_237 (fun _ => rfl) (Or.inr rfl) ?_
    refine gsGetR (some (b + 218)) dM_41_238 hb.2.1 rfl rfl ?_
    refine gsCallV (y := 53) (k := b + 221) (as := [.inr (.inr (some (b + 221))), .inr (.inr (some (b + 218)))]) (r := []) dM_41_241 rfl rfl rfl (Nat.le_of_ble_eq_true rfl) hb.2.2.2.2.2.2.2.2.1 rfl (Nat.le_of_ble_eq_true rfl) (EvS.up hnnn (Nat.le_of_ble_eq_true rfl)) (fun v40 t41 hv42 => ?_)
    obtain ⟨rfl, hnnnn⟩ := hv42
    clear hnnn
    show GoS _ _ _ _ _ _ _ _ [(3, .inl n8), (2, .inl n4), (0, .inr (.inr (some b))), (1, .inl x1)] [] t41 _
    refine gs0 245 [(3, .inl n8), (2, .inl n4), (0, .inr (.inr (some b))), (1, .inl x1)] [.inr (.inr (some b))] dM_41_244 (fun _ => rfl) (Or.inr rfl) ?_
    refine gs0 246 [(3, .inl n8), (2, .inl n4), (0, .inr (.inr (some b))), (1, .inl x1)] [.inl n4, .inr (.inr (some b))] dM_41_245 (fun _ => rfl) (Or.inr rfl) ?_
    refine gs0 247 [(3, .inl n8), (2, .inl n4), (0, .inr (.inr (some b))), (1, .inl x1)] [.inl n8, .inl n4, .inr (.inr (some b))] dM_41_246 (fun _ => rfl) (Or.inr rfl) ?_
    refine gs0 248 [(3, .inl n8), (2, .inl n4), (0, .inr (.inr (some b))), (1, .inl x1)] [.inr (.inr (some b)), .inl n8, .inl n4, .inr (.inr (some b))] dM_41_247 (fun _ => rfl) (Or.inr rfl) ?_
    refine gsGetR (some (b + 1)) dM_41_248 hb.2.1 rfl rfl ?_
    refine gs0 252 [(3, .inl n8), (2, .inl n4), (0, .inr (.inr (some b))), (1, .inl x1)] [.inl x1, .inr (.inr (some (b + 1))), .inl n8, .inl n4, .inr (.inr (some b))] dM_41_251 (fun _ => rfl) (Or.inr rfl) ?_
    refine gs0 253 [(3, .inl n8), (2, .inl n4), (0, .inr (.inr (some b))), (1, .inl x1)] [.inl 2, .inl x1, .inr (.inr (some (b + 1))), .inl n8, .inl n4, .inr (.inr (some b))] dM_41_252 (fun _ => rfl) (Or.inr rfl) ?_
    refine gsCallV (y := 28) (k := b + 1) (as := [.inr (.inr (some (b + 1))), .inl x1, .inl 2]) (r := [.inl n8, .inl n4, .inr (.inr (some b))]) dM_41_253 rfl rfl rfl (Nat.le_of_ble_eq_true rfl) hb.2.2.2.2.2.1.2.1 rfl (Nat.le_of_ble_eq_true rfl) (EvS.up hnnnn (Nat.le_of_ble_eq_true rfl)) (fun v43 t44 hv45 => ?_)
    obtain ⟨n46, rfl, hnnnnn⟩ := hv45
    clear hnnnn
    show GoS _ _ _ _ _ _ _ _ [(3, .inl n8), (2, .inl n4), (0, .inr (.inr (some b))), (1, .inl x1)] [.inl n46, .inl n8, .inl n4, .inr (.inr (some b))] t44 _
    refine gsCallV (y := 43) (k := b) (as := [.inr (.inr (some b)), .inl n4, .inl n8, .inl n46]) (r := []) dM_41_256 rfl rfl rfl (Nat.le_of_ble_eq_true rfl) hb.2.1 rfl (Nat.le_of_ble_eq_true rfl) (EvS.up hnnnnn (Nat.le_of_ble_eq_true rfl)) (fun v47 t48 hv49 => ?_)
    obtain ⟨n50, rfl, hnnnnnn⟩ := hv49
    clear hnnnnn
    show GoS _ _ _ _ _ _ _ _ [(3, .inl n8), (2, .inl n4), (0, .inr (.inr (some b))), (1, .inl x1)] [.inl n50] t48 _
    refine gsIf (t := 270) (C := n50 = 0) (r := []) dM_41_259 (fun _ => rfl) (Or.inr rfl) (rTest_iff .eq n50 0) (fun c51 => ?_) (fun c51 => ?_)
    · replace hnnnnnn := hnnnnnn.1 c51
      refine gs0 271 [(3, .inl n8), (2, .inl n4), (0, .inr (.inr (some b))), (1, .inl x1)] [.inr (.inr (some b))] dM_41_270 (fun _ => rfl) (Or.inr rfl) ?_
      refine gs0 272 [(3, .inl n8), (2, .inl n4), (0, .inr (.inr (some b))), (1, .inl x1)] [.inl n4, .inr (.inr (some b))] dM_41_271 (fun _ => rfl) (Or.inr rfl) ?_
      refine gs0 273 [(3, .inl n8), (2, .inl n4), (0, .inr (.inr (some b))), (1, .inl x1)] [.inl n8, .inl n4, .inr (.inr (some b))] dM_41_272 (fun _ => rfl) (Or.inr rfl) ?_
      refine gs0 274 [(3, .inl n8), (2, .inl n4), (0, .inr (.inr (some b))), (1, .inl x1)] [.inr (.inr (some b)), .inl n8, .inl n4, .inr (.inr (some b))] dM_41_273 (fun _ => rfl) (Or.inr rfl) ?_
      refine gsGetR (some (b + 1)) dM_41_274 hb.2.1 rfl rfl ?_
      refine gs0 278 [(3, .inl n8), (2, .inl n4), (0, .inr (.inr (some b))), (1, .inl x1)] [.inl x1, .inr (.inr (some (b + 1))), .inl n8, .inl n4, .inr (.inr (some b))] dM_41_277 (fun _ => rfl) (Or.inr rfl) ?_
      refine gs0 279 [(3, .inl n8), (2, .inl n4), (0, .inr (.inr (some b))), (1, .inl x1)] [.inl 2, .inl x1, .inr (.inr (some (b + 1))), .inl n8, .inl n4, .inr (.inr (some b))] dM_41_278 (fun _ => rfl) (Or.inr rfl) ?_
      refine gsCallV (y := 28) (k := b + 1) (as := [.inr (.inr (some (b + 1))), .inl x1, .inl 2]) (r := [.inl n8, .inl n4, .inr (.inr (some b))]) dM_41_279 rfl rfl rfl (Nat.le_of_ble_eq_true rfl) hb.2.2.2.2.2.1.2.1 rfl (Nat.le_of_ble_eq_true rfl) (EvS.up hnnnnnn (Nat.le_of_ble_eq_true rfl)) (fun v52 t53 hv54 => ?_)
      obtain ⟨n55, rfl, hnnnnnnn⟩ := hv54
      clear hnnnnnn
      show GoS _ _ _ _ _ _ _ _ [(3, .inl n8), (2, .inl n4), (0, .inr (.inr (some b))), (1, .inl x1)] [.inl n55, .inl n8, .inl n4, .inr (.inr (some b))] t53 _
      refine gsCallV (y := 44) (k := b) (as := [.inr (.inr (some b)), .inl n4, .inl n8, .inl n55]) (r := []) dM_41_282 rfl rfl rfl (Nat.le_of_ble_eq_true rfl) hb.2.1 rfl (Nat.le_of_ble_eq_true rfl) (EvS.up hnnnnnnn (Nat.le_of_ble_eq_true rfl)) (fun v56 t57 hv58 => ?_)
      obtain ⟨n59, rfl, hnnnnnnnn⟩ := hv58
      clear hnnnnnnn
      show GoS _ _ _ _ _ _ _ _ [(3, .inl n8), (2, .inl n4), (0, .inr (.inr (some b))), (1, .inl x1)] [.inl n59] t57 _
      refine gsIf (t := 347) (C := n59 = 0) (r := []) dM_41_285 (fun _ => rfl) (Or.inr rfl) (rTest_iff .eq n59 0) (fun c60 => ?_) (fun c60 => ?_)
      · replace hnnnnnnnn := hnnnnnnnn.1 c60
        refine gsRet (r := none) dM_41_347 (fun _ => rfl) (Or.inr rfl) ?_
        exact hnnnnnnnn
      · replace hnnnnnnnn := hnnnnnnnn.2 c60
        refine gs0 289 [(3, .inl n8), (2, .inl n4), (0, .inr (.inr (some b))), (1, .inl x1)] [.inr (.inr (some b))] dM_41_288 (fun _ => rfl) (Or.inr rfl) ?_
        refine gs0 290 [(3, .inl n8), (2, .inl n4), (0, .inr (.inr (some b))), (1, .inl x1)] [.inr (.inr (some b)), .inr (.inr (some b))] dM_41_289 (fun _ => rfl) (Or.inr rfl) ?_
        refine gsGetR (some (b + 218)) dM_41_290 hb.2.1 rfl rfl ?_
        refine gsCallV (y := 42) (k := b) (as := [.inr (.inr (some b)), .inr (.inr (some (b + 218)))]) (r := []) dM_41_293 rfl rfl rfl (Nat.le_of_ble_eq_true rfl) hb.2.1 rfl (Nat.le_of_ble_eq_true rfl) (EvS.up hnnnnnnnn (Nat.le_of_ble_eq_true rfl)) (fun v61 t62 hv63 => ?_)
        obtain ⟨rfl, hnnnnnnnnn⟩ := hv63
        clear hnnnnnnnn
        show GoS _ _ _ _ _ _ _ _ [(3, .inl n8), (2, .inl n4), (0, .inr (.inr (some b))), (1, .inl x1)] [] t62 _
        refine gs0 347 [(3, .inl n8), (2, .inl n4), (0, .inr (.inr (some b))), (1, .inl x1)] [] dM_41_296 (fun _ => rfl) (Or.inr rfl) ?_
        refine gsRet (r := none) dM_41_347 (fun _ => rfl) (Or.inr rfl) ?_
        exact hnnnnnnnnn
    · replace hnnnnnn := hnnnnnn.2 c51
      refine gs0 263 [(3, .inl n8), (2, .inl n4), (0, .inr (.inr (some b))), (1, .inl x1)] [.inr (.inr (some b))] dM_41_262 (fun _ => rfl) (Or.inr rfl) ?_
      refine gs0 264 [(3, .inl n8), (2, .inl n4), (0, .inr (.inr (some b))), (1, .inl x1)] [.inr (.inr (some b)), .inr (.inr (some b))] dM_41_263 (fun _ => rfl) (Or.inr rfl) ?_
      refine gsGetR (some (b + 221)) dM_41_264 hb.2.1 rfl rfl ?_
      refine gsCallV (y := 42) (k := b) (as := [.inr (.inr (some b)), .inr (.inr (some (b + 221)))]) (r := []) dM_41_267 rfl rfl rfl (Nat.le_of_ble_eq_true rfl) hb.2.1 rfl (Nat.le_of_ble_eq_true rfl) (EvS.up hnnnnnn (Nat.le_of_ble_eq_true rfl)) (fun v64 t65 hv66 => ?_)
      obtain ⟨rfl, hnnnnnnn⟩ := hv66
      clear hnnnnnn
      show GoS _ _ _ _ _ _ _ _ [(3, .inl n8), (2, .inl n4), (0, .inr (.inr (some b))), (1, .inl x1)] [] t65 _
      refine gs0 271 [(3, .inl n8), (2, .inl n4), (0, .inr (.inr (some b))), (1, .inl x1)] [.inr (.inr (some b))] dM_41_270 (fun _ => rfl) (Or.inr rfl) ?_
      refine gs0 272 [(3, .inl n8), (2, .inl n4), (0, .inr (.inr (some b))), (1, .inl x1)] [.inl n4, .inr (.inr (some b))] dM_41_271 (fun _ => rfl) (Or.inr rfl) ?_
      refine gs0 273 [(3, .inl n8), (2, .inl n4), (0, .inr (.inr (some b))), (1, .inl x1)] [.inl n8, .inl n4, .inr (.inr (some b))] dM_41_272 (fun _ => rfl) (Or.inr rfl) ?_
      refine gs0 274 [(3, .inl n8), (2, .inl n4), (0, .inr (.inr (some b))), (1, .inl x1)] [.inr (.inr (some b)), .inl n8, .inl n4, .inr (.inr (some b))] dM_41_273 (fun _ => rfl) (Or.inr rfl) ?_
      refine gsGetR (some (b + 1)) dM_41_274 hb.2.1 rfl rfl ?_
      refine gs0 278 [(3, .inl n8), (2, .inl n4), (0, .inr (.inr (some b))), (1, .inl x1)] [.inl x1, .inr (.inr (some (b + 1))), .inl n8, .inl n4, .inr (.inr (some b))] dM_41_277 (fun _ => rfl) (Or.inr rfl) ?_
      refine gs0 279 [(3, .inl n8), (2, .inl n4), (0, .inr (.inr (some b))), (1, .inl x1)] [.inl 2, .inl x1, .inr (.inr (some (b + 1))), .inl n8, .inl n4, .inr (.inr (some b))] dM_41_278 (fun _ => rfl) (Or.inr rfl) ?_
      refine gsCallV (y := 28) (k := b + 1) (as := [.inr (.inr (some (b + 1))), .inl x1, .inl 2]) (r := [.inl n8, .inl n4, .inr (.inr (some b))]) dM_41_279 rfl rfl rfl (Nat.le_of_ble_eq_true rfl) hb.2.2.2.2.2.1.2.1 rfl (Nat.le_of_ble_eq_true rfl) (EvS.up hnnnnnnn (Nat.le_of_ble_eq_true rfl)) (fun v67 t68 hv69 => ?_)
      obtain ⟨n70, rfl, hnnnnnnnn⟩ := hv69
      clear hnnnnnnn
      show GoS _ _ _ _ _ _ _ _ [(3, .inl n8), (2, .inl n4), (0, .inr (.inr (some b))), (1, .inl x1)] [.inl n70, .inl n8, .inl n4, .inr (.inr (some b))] t68 _
      refine gsCallV (y := 44) (k := b) (as := [.inr (.inr (some b)), .inl n4, .inl n8, .inl n70]) (r := []) dM_41_282 rfl rfl rfl (Nat.le_of_ble_eq_true rfl) hb.2.1 rfl (Nat.le_of_ble_eq_true rfl) (EvS.up hnnnnnnnn (Nat.le_of_ble_eq_true rfl)) (fun v71 t72 hv73 => ?_)
      obtain ⟨n74, rfl, hnnnnnnnnn⟩ := hv73
      clear hnnnnnnnn
      show GoS _ _ _ _ _ _ _ _ [(3, .inl n8), (2, .inl n4), (0, .inr (.inr (some b))), (1, .inl x1)] [.inl n74] t72 _
      refine gsIf (t := 347) (C := n74 = 0) (r := []) dM_41_285 (fun _ => rfl) (Or.inr rfl) (rTest_iff .eq n74 0) (fun c75 => ?_) (fun c75 => ?_)
      · replace hnnnnnnnnn := hnnnnnnnnn.1 c75
        refine gsRet (r := none) dM_41_347 (fun _ => rfl) (Or.inr rfl) ?_
        exact hnnnnnnnnn
      · replace hnnnnnnnnn := hnnnnnnnnn.2 c75
        refine gs0 289 [(3, .inl n8), (2, .inl n4), (0, .inr (.inr (some b))), (1, .inl x1)] [.inr (.inr (some b))] dM_41_288 (fun _ => rfl) (Or.inr rfl) ?_
        refine gs0 290 [(3, .inl n8), (2, .inl n4), (0, .inr (.inr (some b))), (1, .inl x1)] [.inr (.inr (some b)), .inr (.inr (some b))] dM_41_289 (fun _ => rfl) (Or.inr rfl) ?_
        refine gsGetR (some (b + 218)) dM_41_290 hb.2.1 rfl rfl ?_
        refine gsCallV (y := 42) (k := b) (as := [.inr (.inr (some b)), .inr (.inr (some (b + 218)))]) (r := []) dM_41_293 rfl rfl rfl (Nat.le_of_ble_eq_true rfl) hb.2.1 rfl (Nat.le_of_ble_eq_true rfl) (EvS.up hnnnnnnnnn (Nat.le_of_ble_eq_true rfl)) (fun v76 t77 hv78 => ?_)
        obtain ⟨rfl, hnnnnnnnnnn⟩ := hv78
        clear hnnnnnnnnn
        show GoS _ _ _ _ _ _ _ _ [(3, .inl n8), (2, .inl n4), (0, .inr (.inr (some b))), (1, .inl x1)] [] t77 _
        refine gs0 347 [(3, .inl n8), (2, .inl n4), (0, .inr (.inr (some b))), (1, .inl x1)] [] dM_41_296 (fun _ => rfl) (Or.inr rfl) ?_
        refine gsRet (r := none) dM_41_347 (fun _ => rfl) (Or.inr rfl) ?_
        exact hnnnnnnnnnn
  replace hnnn := hnnn.2
  by_cases c13_77 : n12 = 77
  · replace hnnn := hnnn.1 c13_77
    refine gs0 299 [(3, .inl n8), (2, .inl n4), (0, .inr (.inr (some b))), (1, .inl x1)] [] dM_41_28 (fun _ => by rw [c13_77]; rfl) (Or.inl rfl) ?_
    refine gs0 300 [(3, .inl n8), (2, .inl n4), (0, .inr (.inr (some b))), (1, .inl x1)] [.inr (.inr (some b))] dM_41_299 (fun _ => rfl) (Or.inr rfl) ?_
    refine gsGetR (some (b + 221)) dM_41_300 hb.2.1 rfl rfl ?_
    refine gs0 304 [(3, .inl n8), (2, .inl n4), (0, .inr (.inr (some b))), (1, .inl x1)] [.inr (.inr (some b)), .inr (.inr (some (b + 221)))] dM_41_303 (fun _ => rfl) (Or.inr rfl) ?_
    refine gsGetR (some (b + 218)) dM_41_304 hb.2.1 rfl rfl ?_
    refine gsCallV (y := 53) (k := b + 221) (as := [.inr (.inr (some (b + 221))), .inr (.inr (some (b + 218)))]) (r := []) dM_41_307 rfl rfl rfl (Nat.le_of_ble_eq_true rfl) hb.2.2.2.2.2.2.2.2.1 rfl (Nat.le_of_ble_eq_true rfl) (EvS.up hnnn (Nat.le_of_ble_eq_true rfl)) (fun v79 t80 hv81 => ?_)
    obtain ⟨rfl, hnnnn⟩ := hv81
    clear hnnn
    show GoS _ _ _ _ _ _ _ _ [(3, .inl n8), (2, .inl n4), (0, .inr (.inr (some b))), (1, .inl x1)] [] t80 _
    refine gs0 311 [(3, .inl n8), (2, .inl n4), (0, .inr (.inr (some b))), (1, .inl x1)] [.inr (.inr (some b))] dM_41_310 (fun _ => rfl) (Or.inr rfl) ?_
    refine gs0 312 [(3, .inl n8), (2, .inl n4), (0, .inr (.inr (some b))), (1, .inl x1)] [.inl n4, .inr (.inr (some b))] dM_41_311 (fun _ => rfl) (Or.inr rfl) ?_
    refine gs0 313 [(3, .inl n8), (2, .inl n4), (0, .inr (.inr (some b))), (1, .inl x1)] [.inl n8, .inl n4, .inr (.inr (some b))] dM_41_312 (fun _ => rfl) (Or.inr rfl) ?_
    refine gsCallV (y := 46) (k := b) (as := [.inr (.inr (some b)), .inl n4, .inl n8]) (r := []) dM_41_313 rfl rfl rfl (Nat.le_of_ble_eq_true rfl) hb.2.1 rfl (Nat.le_of_ble_eq_true rfl) (EvS.up hnnnn (Nat.le_of_ble_eq_true rfl)) (fun v82 t83 hv84 => ?_)
    obtain ⟨n85, rfl, hnnnnn⟩ := hv84
    clear hnnnn
    show GoS _ _ _ _ _ _ _ _ [(3, .inl n8), (2, .inl n4), (0, .inr (.inr (some b))), (1, .inl x1)] [.inl n85] t83 _
    refine gsIf (t := 327) (C := n85 = 0) (r := []) dM_41_316 (fun _ => rfl) (Or.inr rfl) (rTest_iff .eq n85 0) (fun c86 => ?_) (fun c86 => ?_)
    · replace hnnnnn := hnnnnn.1 c86
      refine gs0 328 [(3, .inl n8), (2, .inl n4), (0, .inr (.inr (some b))), (1, .inl x1)] [.inr (.inr (some b))] dM_41_327 (fun _ => rfl) (Or.inr rfl) ?_
      refine gs0 329 [(3, .inl n8), (2, .inl n4), (0, .inr (.inr (some b))), (1, .inl x1)] [.inl n4, .inr (.inr (some b))] dM_41_328 (fun _ => rfl) (Or.inr rfl) ?_
      refine gs0 330 [(3, .inl n8), (2, .inl n4), (0, .inr (.inr (some b))), (1, .inl x1)] [.inl n8, .inl n4, .inr (.inr (some b))] dM_41_329 (fun _ => rfl) (Or.inr rfl) ?_
      refine gsCallV (y := 47) (k := b) (as := [.inr (.inr (some b)), .inl n4, .inl n8]) (r := []) dM_41_330 rfl rfl rfl (Nat.le_of_ble_eq_true rfl) hb.2.1 rfl (Nat.le_of_ble_eq_true rfl) (EvS.up hnnnnn (Nat.le_of_ble_eq_true rfl)) (fun v87 t88 hv89 => ?_)
      obtain ⟨n90, rfl, hnnnnnn⟩ := hv89
      clear hnnnnn
      show GoS _ _ _ _ _ _ _ _ [(3, .inl n8), (2, .inl n4), (0, .inr (.inr (some b))), (1, .inl x1)] [.inl n90] t88 _
      refine gsIf (t := 347) (C := n90 = 0) (r := []) dM_41_333 (fun _ => rfl) (Or.inr rfl) (rTest_iff .eq n90 0) (fun c91 => ?_) (fun c91 => ?_)
      · replace hnnnnnn := hnnnnnn.1 c91
        refine gsRet (r := none) dM_41_347 (fun _ => rfl) (Or.inr rfl) ?_
        exact hnnnnnn
      · replace hnnnnnn := hnnnnnn.2 c91
        refine gs0 337 [(3, .inl n8), (2, .inl n4), (0, .inr (.inr (some b))), (1, .inl x1)] [.inr (.inr (some b))] dM_41_336 (fun _ => rfl) (Or.inr rfl) ?_
        refine gs0 338 [(3, .inl n8), (2, .inl n4), (0, .inr (.inr (some b))), (1, .inl x1)] [.inr (.inr (some b)), .inr (.inr (some b))] dM_41_337 (fun _ => rfl) (Or.inr rfl) ?_
        refine gsGetR (some (b + 218)) dM_41_338 hb.2.1 rfl rfl ?_
        refine gsCallV (y := 42) (k := b) (as := [.inr (.inr (some b)), .inr (.inr (some (b + 218)))]) (r := []) dM_41_341 rfl rfl rfl (Nat.le_of_ble_eq_true rfl) hb.2.1 rfl (Nat.le_of_ble_eq_true rfl) (EvS.up hnnnnnn (Nat.le_of_ble_eq_true rfl)) (fun v92 t93 hv94 => ?_)
        obtain ⟨rfl, hnnnnnnn⟩ := hv94
        clear hnnnnnn
        show GoS _ _ _ _ _ _ _ _ [(3, .inl n8), (2, .inl n4), (0, .inr (.inr (some b))), (1, .inl x1)] [] t93 _
        refine gs0 347 [(3, .inl n8), (2, .inl n4), (0, .inr (.inr (some b))), (1, .inl x1)] [] dM_41_344 (fun _ => rfl) (Or.inr rfl) ?_
        refine gsRet (r := none) dM_41_347 (fun _ => rfl) (Or.inr rfl) ?_
        exact hnnnnnnn
    · replace hnnnnn := hnnnnn.2 c86
      refine gs0 320 [(3, .inl n8), (2, .inl n4), (0, .inr (.inr (some b))), (1, .inl x1)] [.inr (.inr (some b))] dM_41_319 (fun _ => rfl) (Or.inr rfl) ?_
      refine gs0 321 [(3, .inl n8), (2, .inl n4), (0, .inr (.inr (some b))), (1, .inl x1)] [.inr (.inr (some b)), .inr (.inr (some b))] dM_41_320 (fun _ => rfl) (Or.inr rfl) ?_
      refine gsGetR (some (b + 221)) dM_41_321 hb.2.1 rfl rfl ?_
      refine gsCallV (y := 42) (k := b) (as := [.inr (.inr (some b)), .inr (.inr (some (b + 221)))]) (r := []) dM_41_324 rfl rfl rfl (Nat.le_of_ble_eq_true rfl) hb.2.1 rfl (Nat.le_of_ble_eq_true rfl) (EvS.up hnnnnn (Nat.le_of_ble_eq_true rfl)) (fun v95 t96 hv97 => ?_)
      obtain ⟨rfl, hnnnnnn⟩ := hv97
      clear hnnnnn
      show GoS _ _ _ _ _ _ _ _ [(3, .inl n8), (2, .inl n4), (0, .inr (.inr (some b))), (1, .inl x1)] [] t96 _
      refine gs0 328 [(3, .inl n8), (2, .inl n4), (0, .inr (.inr (some b))), (1, .inl x1)] [.inr (.inr (some b))] dM_41_327 (fun _ => rfl) (Or.inr rfl) ?_
      refine gs0 329 [(3, .inl n8), (2, .inl n4), (0, .inr (.inr (some b))), (1, .inl x1)] [.inl n4, .inr (.inr (some b))] dM_41_328 (fun _ => rfl) (Or.inr rfl) ?_
      refine gs0 330 [(3, .inl n8), (2, .inl n4), (0, .inr (.inr (some b))), (1, .inl x1)] [.inl n8, .inl n4, .inr (.inr (some b))] dM_41_329 (fun _ => rfl) (Or.inr rfl) ?_
      refine gsCallV (y := 47) (k := b) (as := [.inr (.inr (some b)), .inl n4, .inl n8]) (r := []) dM_41_330 rfl rfl rfl (Nat.le_of_ble_eq_true rfl) hb.2.1 rfl (Nat.le_of_ble_eq_true rfl) (EvS.up hnnnnnn (Nat.le_of_ble_eq_true rfl)) (fun v98 t99 hv100 => ?_)
      obtain ⟨n101, rfl, hnnnnnnn⟩ := hv100
      clear hnnnnnn
      show GoS _ _ _ _ _ _ _ _ [(3, .inl n8), (2, .inl n4), (0, .inr (.inr (some b))), (1, .inl x1)] [.inl n101] t99 _
      refine gsIf (t := 347) (C := n101 = 0) (r := []) dM_41_333 (fun _ => rfl) (Or.inr rfl) (rTest_iff .eq n101 0) (fun c102 => ?_) (fun c102 => ?_)
      · replace hnnnnnnn := hnnnnnnn.1 c102
        refine gsRet (r := none) dM_41_347 (fun _ => rfl) (Or.inr rfl) ?_
        exact hnnnnnnn
      · replace hnnnnnnn := hnnnnnnn.2 c102
        refine gs0 337 [(3, .inl n8), (2, .inl n4), (0, .inr (.inr (some b))), (1, .inl x1)] [.inr (.inr (some b))] dM_41_336 (fun _ => rfl) (Or.inr rfl) ?_
        refine gs0 338 [(3, .inl n8), (2, .inl n4), (0, .inr (.inr (some b))), (1, .inl x1)] [.inr (.inr (some b)), .inr (.inr (some b))] dM_41_337 (fun _ => rfl) (Or.inr rfl) ?_
        refine gsGetR (some (b + 218)) dM_41_338 hb.2.1 rfl rfl ?_
        refine gsCallV (y := 42) (k := b) (as := [.inr (.inr (some b)), .inr (.inr (some (b + 218)))]) (r := []) dM_41_341 rfl rfl rfl (Nat.le_of_ble_eq_true rfl) hb.2.1 rfl (Nat.le_of_ble_eq_true rfl) (EvS.up hnnnnnnn (Nat.le_of_ble_eq_true rfl)) (fun v103 t104 hv105 => ?_)
        obtain ⟨rfl, hnnnnnnnn⟩ := hv105
        clear hnnnnnnn
        show GoS _ _ _ _ _ _ _ _ [(3, .inl n8), (2, .inl n4), (0, .inr (.inr (some b))), (1, .inl x1)] [] t104 _
        refine gs0 347 [(3, .inl n8), (2, .inl n4), (0, .inr (.inr (some b))), (1, .inl x1)] [] dM_41_344 (fun _ => rfl) (Or.inr rfl) ?_
        refine gsRet (r := none) dM_41_347 (fun _ => rfl) (Or.inr rfl) ?_
        exact hnnnnnnnn
  replace hnnn := hnnn.2
  by_cases c13_124 : n12 = 124
  · replace hnnn := hnnn.1 c13_124
    refine gs0 176 [(3, .inl n8), (2, .inl n4), (0, .inr (.inr (some b))), (1, .inl x1)] [] dM_41_28 (fun _ => by rw [c13_124]; rfl) (Or.inl rfl) ?_
    refine gs0 177 [(3, .inl n8), (2, .inl n4), (0, .inr (.inr (some b))), (1, .inl x1)] [.inr (.inr (some b))] dM_41_176 (fun _ => rfl) (Or.inr rfl) ?_
    refine gsGetR (some (b + 221)) dM_41_177 hb.2.1 rfl rfl ?_
    refine gs0 181 [(3, .inl n8), (2, .inl n4), (0, .inr (.inr (some b))), (1, .inl x1)] [.inr (.inr (some b)), .inr (.inr (some (b + 221)))] dM_41_180 (fun _ => rfl) (Or.inr rfl) ?_
    refine gsGetR (some (b + 218)) dM_41_181 hb.2.1 rfl rfl ?_
    refine gsCallV (y := 53) (k := b + 221) (as := [.inr (.inr (some (b + 221))), .inr (.inr (some (b + 218)))]) (r := []) dM_41_184 rfl rfl rfl (Nat.le_of_ble_eq_true rfl) hb.2.2.2.2.2.2.2.2.1 rfl (Nat.le_of_ble_eq_true rfl) (EvS.up hnnn (Nat.le_of_ble_eq_true rfl)) (fun v106 t107 hv108 => ?_)
    obtain ⟨rfl, hnnnn⟩ := hv108
    clear hnnn
    show GoS _ _ _ _ _ _ _ _ [(3, .inl n8), (2, .inl n4), (0, .inr (.inr (some b))), (1, .inl x1)] [] t107 _
    refine gs0 188 [(3, .inl n8), (2, .inl n4), (0, .inr (.inr (some b))), (1, .inl x1)] [.inr (.inr (some b))] dM_41_187 (fun _ => rfl) (Or.inr rfl) ?_
    refine gsGetR (some (b + 221)) dM_41_188 hb.2.1 rfl rfl ?_
    refine gs0 192 [(3, .inl n8), (2, .inl n4), (0, .inr (.inr (some b))), (1, .inl x1)] [.inl n4, .inr (.inr (some (b + 221)))] dM_41_191 (fun _ => rfl) (Or.inr rfl) ?_
    refine gsCallV (y := 52) (k := b + 221) (as := [.inr (.inr (some (b + 221))), .inl n4]) (r := []) dM_41_192 rfl rfl rfl (Nat.le_of_ble_eq_true rfl) hb.2.2.2.2.2.2.2.2.1 rfl (Nat.le_of_ble_eq_true rfl) (EvS.up hnnnn (Nat.le_of_ble_eq_true rfl)) (fun v109 t110 hv111 => ?_)
    obtain ⟨rfl, hnnnnn⟩ := hv111
    clear hnnnn
    show GoS _ _ _ _ _ _ _ _ [(3, .inl n8), (2, .inl n4), (0, .inr (.inr (some b))), (1, .inl x1)] [] t110 _
    refine gs0 196 [(3, .inl n8), (2, .inl n4), (0, .inr (.inr (some b))), (1, .inl x1)] [.inr (.inr (some b))] dM_41_195 (fun _ => rfl) (Or.inr rfl) ?_
    refine gs0 197 [(3, .inl n8), (2, .inl n4), (0, .inr (.inr (some b))), (1, .inl x1)] [.inr (.inr (some b)), .inr (.inr (some b))] dM_41_196 (fun _ => rfl) (Or.inr rfl) ?_
    refine gsGetR (some (b + 221)) dM_41_197 hb.2.1 rfl rfl ?_
    refine gsCallV (y := 34) (k := b) (as := [.inr (.inr (some b)), .inr (.inr (some (b + 221)))]) (r := []) dM_41_200 rfl rfl rfl (Nat.le_of_ble_eq_true rfl) hb.2.1 rfl (Nat.le_of_ble_eq_true rfl) (EvS.up hnnnnn (Nat.le_of_ble_eq_true rfl)) (fun v112 t113 hv114 => ?_)
    obtain ⟨rfl, hnnnnnn⟩ := hv114
    clear hnnnnn
    show GoS _ _ _ _ _ _ _ _ [(3, .inl n8), (2, .inl n4), (0, .inr (.inr (some b))), (1, .inl x1)] [] t113 _
    refine gs0 204 [(3, .inl n8), (2, .inl n4), (0, .inr (.inr (some b))), (1, .inl x1)] [.inr (.inr (some b))] dM_41_203 (fun _ => rfl) (Or.inr rfl) ?_
    refine gsGetR (some (b + 218)) dM_41_204 hb.2.1 rfl rfl ?_
    refine gs0 208 [(3, .inl n8), (2, .inl n4), (0, .inr (.inr (some b))), (1, .inl x1)] [.inl n8, .inr (.inr (some (b + 218)))] dM_41_207 (fun _ => rfl) (Or.inr rfl) ?_
    refine gsCallV (y := 52) (k := b + 218) (as := [.inr (.inr (some (b + 218))), .inl n8]) (r := []) dM_41_208 rfl rfl rfl (Nat.le_of_ble_eq_true rfl) hb.2.2.2.2.2.2.1.2.1 rfl (Nat.le_of_ble_eq_true rfl) (EvS.up hnnnnnn (Nat.le_of_ble_eq_true rfl)) (fun v115 t116 hv117 => ?_)
    obtain ⟨rfl, hnnnnnnn⟩ := hv117
    clear hnnnnnn
    show GoS _ _ _ _ _ _ _ _ [(3, .inl n8), (2, .inl n4), (0, .inr (.inr (some b))), (1, .inl x1)] [] t116 _
    refine gs0 212 [(3, .inl n8), (2, .inl n4), (0, .inr (.inr (some b))), (1, .inl x1)] [.inr (.inr (some b))] dM_41_211 (fun _ => rfl) (Or.inr rfl) ?_
    refine gs0 213 [(3, .inl n8), (2, .inl n4), (0, .inr (.inr (some b))), (1, .inl x1)] [.inr (.inr (some b)), .inr (.inr (some b))] dM_41_212 (fun _ => rfl) (Or.inr rfl) ?_
    refine gsGetR (some (b + 218)) dM_41_213 hb.2.1 rfl rfl ?_
    refine gsCallV (y := 34) (k := b) (as := [.inr (.inr (some b)), .inr (.inr (some (b + 218)))]) (r := []) dM_41_216 rfl rfl rfl (Nat.le_of_ble_eq_true rfl) hb.2.1 rfl (Nat.le_of_ble_eq_true rfl) (EvS.up hnnnnnnn (Nat.le_of_ble_eq_true rfl)) (fun v118 t119 hv120 => ?_)
    obtain ⟨rfl, hnnnnnnnn⟩ := hv120
    clear hnnnnnnn
    show GoS _ _ _ _ _ _ _ _ [(3, .inl n8), (2, .inl n4), (0, .inr (.inr (some b))), (1, .inl x1)] [] t119 _
    refine gs0 347 [(3, .inl n8), (2, .inl n4), (0, .inr (.inr (some b))), (1, .inl x1)] [] dM_41_219 (fun _ => rfl) (Or.inr rfl) ?_
    refine gsRet (r := none) dM_41_347 (fun _ => rfl) (Or.inr rfl) ?_
    exact hnnnnnnnn
  replace hnnn := hnnn.2
  replace hnnn := hnnn ⟨c13_35, c13_38, c13_42, c13_61, c13_65, c13_77, c13_124⟩
  have ec13_35 := i32_ne c13_35 (show (35 : Int32).toInt = 35 by decide)
  have ec13_38 := i32_ne c13_38 (show (38 : Int32).toInt = 38 by decide)
  have ec13_42 := i32_ne c13_42 (show (42 : Int32).toInt = 42 by decide)
  have ec13_61 := i32_ne c13_61 (show (61 : Int32).toInt = 61 by decide)
  have ec13_65 := i32_ne c13_65 (show (65 : Int32).toInt = 65 by decide)
  have ec13_77 := i32_ne c13_77 (show (77 : Int32).toInt = 77 by decide)
  have ec13_124 := i32_ne c13_124 (show (124 : Int32).toInt = 124 by decide)
  refine gs0 347 [(3, .inl n8), (2, .inl n4), (0, .inr (.inr (some b))), (1, .inl x1)] [] dM_41_28 (fun _ => swL_out (by decide) (by simp [Op.lookupswitch.offset, Ne.symm ec13_35, Ne.symm ec13_38, Ne.symm ec13_42, Ne.symm ec13_61, Ne.symm ec13_65, Ne.symm ec13_77, Ne.symm ec13_124]) rfl) (Or.inl rfl) ?_
  refine gsRet (r := none) dM_41_347 (fun _ => rfl) (Or.inr rfl) ?_
  exact hnnn
def g_42_2 (b : Nat) (k : Nat) (y2 : Int32) (sg : rSg) (P : Option rv → rSg → Prop) : Prop := GoS rSkel 4 4 5 none false prog_6_method_17_code 2 [(0, .inr (.inr (some b))), (1, .inr (.inr (some k))), (2, .inl y2)] [] sg P
set_option maxRecDepth 100000 in
theorem w_42_2 (sg : rSg) (b : Nat) (hb : isSea b) (k : Nat) (hk : isSt k) (y2 : Int32) {P : Option rv → rSg → Prop} (h :
    (32 ≤ y2 → 
      EvS rSkel 2 34 [.inr (.inr (some b)), .inr (.inr (some k))] sg (fun v2 t3 => v2 = none ∧
        P none t3)) ∧
    (¬ (32 ≤ y2) → 
      ((sg k 4) = 0 → 
        EvS rSkel 2 34 [.inr (.inr (some b)), .inr (.inr (some k))] sg (fun v6 t7 => v6 = none ∧
          P none t7)) ∧
      (¬ ((sg k 4) = 0) → 
        (¬ ((iush (sg k 4) y2) &&& 1) = 0 → 
          EvS rSkel 1 28 [.inr (.inr (some (b + 1))), .inl y2, .inl 0] sg (fun v10 t11 => ∃ n13, v10 = some (.inl n13) ∧
            EvS rSkel 1 28 [.inr (.inr (some (b + 1))), .inl y2, .inl 1] t11 (fun v14 t15 => ∃ n17, v14 = some (.inl n17) ∧
              EvS rSkel 4 65 [.inr (.inr (some 1)), .inr (.inr (some (b + 1))), .inr (.inr (some (k + 1))), .inl n13, .inl n17] t15 (fun v18 t19 => ∃ n21, v18 = some (.inl n21) ∧
                (n21 = 0 → 
                  EvS rSkel 1 69 [.inr (.inr (some 1)), .inr (.inr (some (k + 1)))] t19 (fun v23 t24 => v23 = none ∧
                    (¬ n21 = 0 → 
                      g_42_2 b k (y2 + 1) t24 P) ∧
                    (¬ (¬ n21 = 0) → 
                      g_42_2 b k (y2 + 1) (up2 t24 k 4 ((t24 k 4) &&& ((1 <<< (y2 &&& 31)) ^^^ ((-1))))) P))) ∧
                (¬ (n21 = 0) → 
                  (¬ (t19 1 6) = 0 → 
                    EvS rSkel 1 69 [.inr (.inr (some 1)), .inr (.inr (some (k + 1)))] t19 (fun v29 t30 => v29 = none ∧
                      (¬ n21 = 0 → 
                        g_42_2 b k (y2 + 1) t30 P) ∧
                      (¬ (¬ n21 = 0) → 
                        g_42_2 b k (y2 + 1) (up2 t30 k 4 ((t30 k 4) &&& ((1 <<< (y2 &&& 31)) ^^^ ((-1))))) P))) ∧
                  (¬ (¬ (t19 1 6) = 0) → 
                    EvS rSkel 1 69 [.inr (.inr (some 1)), .inr (.inr (some (k + 1)))] t19 (fun v34 t35 => v34 = none ∧
                      P none t35))))))) ∧
        (¬ (¬ ((iush (sg k 4) y2) &&& 1) = 0) → 
          g_42_2 b k (y2 + 1) sg P)))) : g_42_2 b k y2 sg P := by
  show GoS rSkel 4 4 5 none false prog_6_method_17_code 2 [(0, .inr (.inr (some b))), (1, .inr (.inr (some k))), (2, .inl y2)] [] sg P
  have b_b := hb.1
  have b_k := hk.1
  refine gs0 3 [(0, .inr (.inr (some b))), (1, .inr (.inr (some k))), (2, .inl y2)] [.inl y2] dM_42_2 (fun _ => rfl) (Or.inr rfl) ?_
  refine gs0 5 [(0, .inr (.inr (some b))), (1, .inr (.inr (some k))), (2, .inl y2)] [.inl 32, .inl y2] dM_42_3 (fun _ => rfl) (Or.inr rfl) ?_
  refine gsIf (t := 125) (C := 32 ≤ y2) (r := []) dM_42_5 (fun _ => rfl) (Or.inr rfl) (rTest_iff .ge y2 32) (fun c1 => ?_) (fun c1 => ?_)
  · replace h := h.1 c1
    refine gs0 126 [(0, .inr (.inr (some b))), (1, .inr (.inr (some k))), (2, .inl y2)] [.inr (.inr (some b))] dM_42_125 (fun _ => rfl) (Or.inr rfl) ?_
    refine gs0 127 [(0, .inr (.inr (some b))), (1, .inr (.inr (some k))), (2, .inl y2)] [.inr (.inr (some k)), .inr (.inr (some b))] dM_42_126 (fun _ => rfl) (Or.inr rfl) ?_
    refine gsCallV (y := 34) (k := b) (as := [.inr (.inr (some b)), .inr (.inr (some k))]) (r := []) dM_42_127 rfl rfl rfl (Nat.le_of_ble_eq_true rfl) hb.2.1 rfl (Nat.le_of_ble_eq_true rfl) (EvS.up h (Nat.le_of_ble_eq_true rfl)) (fun v2 t3 hv4 => ?_)
    obtain ⟨rfl, hn⟩ := hv4
    clear h
    show GoS _ _ _ _ _ _ _ _ [(0, .inr (.inr (some b))), (1, .inr (.inr (some k))), (2, .inl y2)] [] t3 _
    refine gsRet (r := none) dM_42_130 (fun _ => rfl) (Or.inr rfl) ?_
    exact hn
  · replace h := h.2 c1
    refine gs0 9 [(0, .inr (.inr (some b))), (1, .inr (.inr (some k))), (2, .inl y2)] [.inr (.inr (some k))] dM_42_8 (fun _ => rfl) (Or.inr rfl) ?_
    refine gsGetE (sg k 4) dM_42_9 hk.2.1 rfl rfl rfl ?_
    refine gsIf (t := 125) (C := (sg k 4) = 0) (r := []) dM_42_12 (fun _ => rfl) (Or.inr rfl) (rTest_iff .eq (sg k 4) 0) (fun c5 => ?_) (fun c5 => ?_)
    · replace h := h.1 c5
      refine gs0 126 [(0, .inr (.inr (some b))), (1, .inr (.inr (some k))), (2, .inl y2)] [.inr (.inr (some b))] dM_42_125 (fun _ => rfl) (Or.inr rfl) ?_
      refine gs0 127 [(0, .inr (.inr (some b))), (1, .inr (.inr (some k))), (2, .inl y2)] [.inr (.inr (some k)), .inr (.inr (some b))] dM_42_126 (fun _ => rfl) (Or.inr rfl) ?_
      refine gsCallV (y := 34) (k := b) (as := [.inr (.inr (some b)), .inr (.inr (some k))]) (r := []) dM_42_127 rfl rfl rfl (Nat.le_of_ble_eq_true rfl) hb.2.1 rfl (Nat.le_of_ble_eq_true rfl) (EvS.up h (Nat.le_of_ble_eq_true rfl)) (fun v6 t7 hv8 => ?_)
      obtain ⟨rfl, hn⟩ := hv8
      clear h
      show GoS _ _ _ _ _ _ _ _ [(0, .inr (.inr (some b))), (1, .inr (.inr (some k))), (2, .inl y2)] [] t7 _
      refine gsRet (r := none) dM_42_130 (fun _ => rfl) (Or.inr rfl) ?_
      exact hn
    · replace h := h.2 c5
      refine gs0 16 [(0, .inr (.inr (some b))), (1, .inr (.inr (some k))), (2, .inl y2)] [.inr (.inr (some k))] dM_42_15 (fun _ => rfl) (Or.inr rfl) ?_
      refine gsGetE (sg k 4) dM_42_16 hk.2.1 rfl rfl rfl ?_
      refine gs0 20 [(0, .inr (.inr (some b))), (1, .inr (.inr (some k))), (2, .inl y2)] [.inl y2, .inl (sg k 4)] dM_42_19 (fun _ => rfl) (Or.inr rfl) ?_
      refine gs0 21 [(0, .inr (.inr (some b))), (1, .inr (.inr (some k))), (2, .inl y2)] [.inl (iush (sg k 4) y2)] dM_42_20 (fun _ => rfl) (Or.inr rfl) ?_
      refine gs0 22 [(0, .inr (.inr (some b))), (1, .inr (.inr (some k))), (2, .inl y2)] [.inl 1, .inl (iush (sg k 4) y2)] dM_42_21 (fun _ => rfl) (Or.inr rfl) ?_
      refine gs0 23 [(0, .inr (.inr (some b))), (1, .inr (.inr (some k))), (2, .inl y2)] [.inl ((iush (sg k 4) y2) &&& 1)] dM_42_22 (fun _ => rfl) (Or.inr rfl) ?_
      refine gsIf (t := 29) (C := ¬ ((iush (sg k 4) y2) &&& 1) = 0) (r := []) dM_42_23 (fun _ => rfl) (Or.inr rfl) (rTest_iff .ne ((iush (sg k 4) y2) &&& 1) 0) (fun c9 => ?_) (fun c9 => ?_)
      · replace h := h.1 c9
        refine gs0 30 [(0, .inr (.inr (some b))), (1, .inr (.inr (some k))), (2, .inl y2)] [.inr (.inr (some b))] dM_42_29 (fun _ => rfl) (Or.inr rfl) ?_
        refine gsGetR (some 1) dM_42_30 hb.2.1 rfl rfl ?_
        refine gs0 34 [(0, .inr (.inr (some b))), (1, .inr (.inr (some k))), (2, .inl y2)] [.inr (.inr (some b)), .inr (.inr (some 1))] dM_42_33 (fun _ => rfl) (Or.inr rfl) ?_
        refine gsGetR (some (b + 1)) dM_42_34 hb.2.1 rfl rfl ?_
        refine gs0 38 [(0, .inr (.inr (some b))), (1, .inr (.inr (some k))), (2, .inl y2)] [.inr (.inr (some k)), .inr (.inr (some (b + 1))), .inr (.inr (some 1))] dM_42_37 (fun _ => rfl) (Or.inr rfl) ?_
        refine gsGetR (some (k + 1)) dM_42_38 hk.2.1 rfl rfl ?_
        refine gs0 42 [(0, .inr (.inr (some b))), (1, .inr (.inr (some k))), (2, .inl y2)] [.inr (.inr (some b)), .inr (.inr (some (k + 1))), .inr (.inr (some (b + 1))), .inr (.inr (some 1))] dM_42_41 (fun _ => rfl) (Or.inr rfl) ?_
        refine gsGetR (some (b + 1)) dM_42_42 hb.2.1 rfl rfl ?_
        refine gs0 46 [(0, .inr (.inr (some b))), (1, .inr (.inr (some k))), (2, .inl y2)] [.inl y2, .inr (.inr (some (b + 1))), .inr (.inr (some (k + 1))), .inr (.inr (some (b + 1))), .inr (.inr (some 1))] dM_42_45 (fun _ => rfl) (Or.inr rfl) ?_
        refine gs0 47 [(0, .inr (.inr (some b))), (1, .inr (.inr (some k))), (2, .inl y2)] [.inl 0, .inl y2, .inr (.inr (some (b + 1))), .inr (.inr (some (k + 1))), .inr (.inr (some (b + 1))), .inr (.inr (some 1))] dM_42_46 (fun _ => rfl) (Or.inr rfl) ?_
        refine gsCallV (y := 28) (k := b + 1) (as := [.inr (.inr (some (b + 1))), .inl y2, .inl 0]) (r := [.inr (.inr (some (k + 1))), .inr (.inr (some (b + 1))), .inr (.inr (some 1))]) dM_42_47 rfl rfl rfl (Nat.le_of_ble_eq_true rfl) hb.2.2.2.2.2.1.2.1 rfl (Nat.le_of_ble_eq_true rfl) (EvS.up h (Nat.le_of_ble_eq_true rfl)) (fun v10 t11 hv12 => ?_)
        obtain ⟨n13, rfl, hn⟩ := hv12
        clear h
        show GoS _ _ _ _ _ _ _ _ [(0, .inr (.inr (some b))), (1, .inr (.inr (some k))), (2, .inl y2)] [.inl n13, .inr (.inr (some (k + 1))), .inr (.inr (some (b + 1))), .inr (.inr (some 1))] t11 _
        refine gs0 51 [(0, .inr (.inr (some b))), (1, .inr (.inr (some k))), (2, .inl y2)] [.inr (.inr (some b)), .inl n13, .inr (.inr (some (k + 1))), .inr (.inr (some (b + 1))), .inr (.inr (some 1))] dM_42_50 (fun _ => rfl) (Or.inr rfl) ?_
        refine gsGetR (some (b + 1)) dM_42_51 hb.2.1 rfl rfl ?_
        refine gs0 55 [(0, .inr (.inr (some b))), (1, .inr (.inr (some k))), (2, .inl y2)] [.inl y2, .inr (.inr (some (b + 1))), .inl n13, .inr (.inr (some (k + 1))), .inr (.inr (some (b + 1))), .inr (.inr (some 1))] dM_42_54 (fun _ => rfl) (Or.inr rfl) ?_
        refine gs0 56 [(0, .inr (.inr (some b))), (1, .inr (.inr (some k))), (2, .inl y2)] [.inl 1, .inl y2, .inr (.inr (some (b + 1))), .inl n13, .inr (.inr (some (k + 1))), .inr (.inr (some (b + 1))), .inr (.inr (some 1))] dM_42_55 (fun _ => rfl) (Or.inr rfl) ?_
        refine gsCallV (y := 28) (k := b + 1) (as := [.inr (.inr (some (b + 1))), .inl y2, .inl 1]) (r := [.inl n13, .inr (.inr (some (k + 1))), .inr (.inr (some (b + 1))), .inr (.inr (some 1))]) dM_42_56 rfl rfl rfl (Nat.le_of_ble_eq_true rfl) hb.2.2.2.2.2.1.2.1 rfl (Nat.le_of_ble_eq_true rfl) (EvS.up hn (Nat.le_of_ble_eq_true rfl)) (fun v14 t15 hv16 => ?_)
        obtain ⟨n17, rfl, hnn⟩ := hv16
        clear hn
        show GoS _ _ _ _ _ _ _ _ [(0, .inr (.inr (some b))), (1, .inr (.inr (some k))), (2, .inl y2)] [.inl n17, .inl n13, .inr (.inr (some (k + 1))), .inr (.inr (some (b + 1))), .inr (.inr (some 1))] t15 _
        refine gsCallV (y := 65) (k := 1) (as := [.inr (.inr (some 1)), .inr (.inr (some (b + 1))), .inr (.inr (some (k + 1))), .inl n13, .inl n17]) (r := []) dM_42_59 rfl rfl rfl (Nat.le_of_ble_eq_true rfl) sk_1 rfl (Nat.le_of_ble_eq_true rfl) (EvS.up hnn (Nat.le_of_ble_eq_true rfl)) (fun v18 t19 hv20 => ?_)
        obtain ⟨n21, rfl, hnnn⟩ := hv20
        clear hnn
        show GoS _ _ _ _ _ _ _ _ [(0, .inr (.inr (some b))), (1, .inr (.inr (some k))), (2, .inl y2)] [.inl n21] t19 _
        refine gs0 63 [(3, .inl n21), (0, .inr (.inr (some b))), (1, .inr (.inr (some k))), (2, .inl y2)] [] dM_42_62 (fun _ => rfl) (Or.inr rfl) ?_
        refine gs0 64 [(3, .inl n21), (0, .inr (.inr (some b))), (1, .inr (.inr (some k))), (2, .inl y2)] [.inl n21] dM_42_63 (fun _ => rfl) (Or.inr rfl) ?_
        refine gsIf (t := 81) (C := n21 = 0) (r := []) dM_42_64 (fun _ => rfl) (Or.inr rfl) (rTest_iff .eq n21 0) (fun c22 => ?_) (fun c22 => ?_)
        · replace hnnn := hnnn.1 c22
          refine gs0 82 [(3, .inl n21), (0, .inr (.inr (some b))), (1, .inr (.inr (some k))), (2, .inl y2)] [.inl 0] dM_42_81 (fun _ => rfl) (Or.inr rfl) ?_
          refine gs0 84 [(4, .inl 0), (3, .inl n21), (0, .inr (.inr (some b))), (1, .inr (.inr (some k))), (2, .inl y2)] [] dM_42_82 (fun _ => rfl) (Or.inr rfl) ?_
          refine gs0 85 [(4, .inl 0), (3, .inl n21), (0, .inr (.inr (some b))), (1, .inr (.inr (some k))), (2, .inl y2)] [.inr (.inr (some b))] dM_42_84 (fun _ => rfl) (Or.inr rfl) ?_
          refine gsGetR (some 1) dM_42_85 hb.2.1 rfl rfl ?_
          refine gs0 89 [(4, .inl 0), (3, .inl n21), (0, .inr (.inr (some b))), (1, .inr (.inr (some k))), (2, .inl y2)] [.inr (.inr (some k)), .inr (.inr (some 1))] dM_42_88 (fun _ => rfl) (Or.inr rfl) ?_
          refine gsGetR (some (k + 1)) dM_42_89 hk.2.1 rfl rfl ?_
          refine gsCallV (y := 69) (k := 1) (as := [.inr (.inr (some 1)), .inr (.inr (some (k + 1)))]) (r := []) dM_42_92 rfl rfl rfl (Nat.le_of_ble_eq_true rfl) sk_1 rfl (Nat.le_of_ble_eq_true rfl) (EvS.up hnnn (Nat.le_of_ble_eq_true rfl)) (fun v23 t24 hv25 => ?_)
          obtain ⟨rfl, hnnnn⟩ := hv25
          clear hnnn
          show GoS _ _ _ _ _ _ _ _ [(4, .inl 0), (3, .inl n21), (0, .inr (.inr (some b))), (1, .inr (.inr (some k))), (2, .inl y2)] [] t24 _
          refine gs0 97 [(4, .inl 0), (3, .inl n21), (0, .inr (.inr (some b))), (1, .inr (.inr (some k))), (2, .inl y2)] [.inl 0] dM_42_95 (fun _ => rfl) (Or.inr rfl) ?_
          refine gsIf (t := 101) (C := 0 = 0) (r := []) dM_42_97 (fun _ => rfl) (Or.inr rfl) (rTest_iff .eq 0 0) (fun c26 => ?_) (fun c26 => absurd (by decide) c26)
          refine gs0 102 [(4, .inl 0), (3, .inl n21), (0, .inr (.inr (some b))), (1, .inr (.inr (some k))), (2, .inl y2)] [.inl n21] dM_42_101 (fun _ => rfl) (Or.inr rfl) ?_
          refine gsIf (t := 119) (C := ¬ n21 = 0) (r := []) dM_42_102 (fun _ => rfl) (Or.inr rfl) (rTest_iff .ne n21 0) (fun c27 => ?_) (fun c27 => ?_)
          · replace hnnnn := hnnnn.1 c27
            refine gs0 122 [(2, .inl (y2 + 1)), (4, .inl 0), (3, .inl n21), (0, .inr (.inr (some b))), (1, .inr (.inr (some k)))] [] dM_42_119 (fun _ => rfl) (Or.inr rfl) ?_
            refine gs0 2 [(2, .inl (y2 + 1)), (4, .inl 0), (3, .inl n21), (0, .inr (.inr (some b))), (1, .inr (.inr (some k)))] [] dM_42_122 (fun _ => rfl) (Or.inr rfl) ?_
            exact GoS.sub (Lnd_keys (ks := [0, 1, 2]) rfl (by decide)) (Lsub_cons rfl (Lsub_cons rfl (Lsub_cons rfl Lsub_nil))) hnnnn
          · replace hnnnn := hnnnn.2 c27
            refine gs0 106 [(4, .inl 0), (3, .inl n21), (0, .inr (.inr (some b))), (1, .inr (.inr (some k))), (2, .inl y2)] [.inr (.inr (some k))] dM_42_105 (fun _ => rfl) (Or.inr rfl) ?_
            refine gs0 107 [(4, .inl 0), (3, .inl n21), (0, .inr (.inr (some b))), (1, .inr (.inr (some k))), (2, .inl y2)] [.inr (.inr (some k)), .inr (.inr (some k))] dM_42_106 (fun _ => rfl) (Or.inr rfl) ?_
            refine gsGetE (t24 k 4) dM_42_107 hk.2.1 rfl rfl rfl ?_
            refine gs0 111 [(4, .inl 0), (3, .inl n21), (0, .inr (.inr (some b))), (1, .inr (.inr (some k))), (2, .inl y2)] [.inl 1, .inl (t24 k 4), .inr (.inr (some k))] dM_42_110 (fun _ => rfl) (Or.inr rfl) ?_
            refine gs0 112 [(4, .inl 0), (3, .inl n21), (0, .inr (.inr (some b))), (1, .inr (.inr (some k))), (2, .inl y2)] [.inl y2, .inl 1, .inl (t24 k 4), .inr (.inr (some k))] dM_42_111 (fun _ => rfl) (Or.inr rfl) ?_
            refine gs0 113 [(4, .inl 0), (3, .inl n21), (0, .inr (.inr (some b))), (1, .inr (.inr (some k))), (2, .inl y2)] [.inl (1 <<< (y2 &&& 31)), .inl (t24 k 4), .inr (.inr (some k))] dM_42_112 (fun _ => rfl) (Or.inr rfl) ?_
            refine gs0 114 [(4, .inl 0), (3, .inl n21), (0, .inr (.inr (some b))), (1, .inr (.inr (some k))), (2, .inl y2)] [.inl ((-1)), .inl (1 <<< (y2 &&& 31)), .inl (t24 k 4), .inr (.inr (some k))] dM_42_113 (fun _ => rfl) (Or.inr rfl) ?_
            refine gs0 115 [(4, .inl 0), (3, .inl n21), (0, .inr (.inr (some b))), (1, .inr (.inr (some k))), (2, .inl y2)] [.inl ((1 <<< (y2 &&& 31)) ^^^ ((-1))), .inl (t24 k 4), .inr (.inr (some k))] dM_42_114 (fun _ => rfl) (Or.inr rfl) ?_
            refine gs0 116 [(4, .inl 0), (3, .inl n21), (0, .inr (.inr (some b))), (1, .inr (.inr (some k))), (2, .inl y2)] [.inl ((t24 k 4) &&& ((1 <<< (y2 &&& 31)) ^^^ ((-1)))), .inr (.inr (some k))] dM_42_115 (fun _ => rfl) (Or.inr rfl) ?_
            refine gsPut dM_42_116 hk.2.1 rfl rfl rfl (by decide) ?_
            refine gs0 122 [(2, .inl (y2 + 1)), (4, .inl 0), (3, .inl n21), (0, .inr (.inr (some b))), (1, .inr (.inr (some k)))] [] dM_42_119 (fun _ => rfl) (Or.inr rfl) ?_
            refine gs0 2 [(2, .inl (y2 + 1)), (4, .inl 0), (3, .inl n21), (0, .inr (.inr (some b))), (1, .inr (.inr (some k)))] [] dM_42_122 (fun _ => rfl) (Or.inr rfl) ?_
            exact GoS.sub (Lnd_keys (ks := [0, 1, 2]) rfl (by decide)) (Lsub_cons rfl (Lsub_cons rfl (Lsub_cons rfl Lsub_nil))) hnnnn
        · replace hnnn := hnnn.2 c22
          refine gs0 68 [(3, .inl n21), (0, .inr (.inr (some b))), (1, .inr (.inr (some k))), (2, .inl y2)] [.inr (.inr (some b))] dM_42_67 (fun _ => rfl) (Or.inr rfl) ?_
          refine gsGetR (some 1) dM_42_68 hb.2.1 rfl rfl ?_
          refine gsGetE (t19 1 6) dM_42_71 sk_1 rfl rfl rfl ?_
          refine gsIf (t := 81) (C := ¬ (t19 1 6) = 0) (r := []) dM_42_74 (fun _ => rfl) (Or.inr rfl) (rTest_iff .ne (t19 1 6) 0) (fun c28 => ?_) (fun c28 => ?_)
          · replace hnnn := hnnn.1 c28
            refine gs0 82 [(3, .inl n21), (0, .inr (.inr (some b))), (1, .inr (.inr (some k))), (2, .inl y2)] [.inl 0] dM_42_81 (fun _ => rfl) (Or.inr rfl) ?_
            refine gs0 84 [(4, .inl 0), (3, .inl n21), (0, .inr (.inr (some b))), (1, .inr (.inr (some k))), (2, .inl y2)] [] dM_42_82 (fun _ => rfl) (Or.inr rfl) ?_
            refine gs0 85 [(4, .inl 0), (3, .inl n21), (0, .inr (.inr (some b))), (1, .inr (.inr (some k))), (2, .inl y2)] [.inr (.inr (some b))] dM_42_84 (fun _ => rfl) (Or.inr rfl) ?_
            refine gsGetR (some 1) dM_42_85 hb.2.1 rfl rfl ?_
            refine gs0 89 [(4, .inl 0), (3, .inl n21), (0, .inr (.inr (some b))), (1, .inr (.inr (some k))), (2, .inl y2)] [.inr (.inr (some k)), .inr (.inr (some 1))] dM_42_88 (fun _ => rfl) (Or.inr rfl) ?_
            refine gsGetR (some (k + 1)) dM_42_89 hk.2.1 rfl rfl ?_
            refine gsCallV (y := 69) (k := 1) (as := [.inr (.inr (some 1)), .inr (.inr (some (k + 1)))]) (r := []) dM_42_92 rfl rfl rfl (Nat.le_of_ble_eq_true rfl) sk_1 rfl (Nat.le_of_ble_eq_true rfl) (EvS.up hnnn (Nat.le_of_ble_eq_true rfl)) (fun v29 t30 hv31 => ?_)
            obtain ⟨rfl, hnnnn⟩ := hv31
            clear hnnn
            show GoS _ _ _ _ _ _ _ _ [(4, .inl 0), (3, .inl n21), (0, .inr (.inr (some b))), (1, .inr (.inr (some k))), (2, .inl y2)] [] t30 _
            refine gs0 97 [(4, .inl 0), (3, .inl n21), (0, .inr (.inr (some b))), (1, .inr (.inr (some k))), (2, .inl y2)] [.inl 0] dM_42_95 (fun _ => rfl) (Or.inr rfl) ?_
            refine gsIf (t := 101) (C := 0 = 0) (r := []) dM_42_97 (fun _ => rfl) (Or.inr rfl) (rTest_iff .eq 0 0) (fun c32 => ?_) (fun c32 => absurd (by decide) c32)
            refine gs0 102 [(4, .inl 0), (3, .inl n21), (0, .inr (.inr (some b))), (1, .inr (.inr (some k))), (2, .inl y2)] [.inl n21] dM_42_101 (fun _ => rfl) (Or.inr rfl) ?_
            refine gsIf (t := 119) (C := ¬ n21 = 0) (r := []) dM_42_102 (fun _ => rfl) (Or.inr rfl) (rTest_iff .ne n21 0) (fun c33 => ?_) (fun c33 => ?_)
            · replace hnnnn := hnnnn.1 c33
              refine gs0 122 [(2, .inl (y2 + 1)), (4, .inl 0), (3, .inl n21), (0, .inr (.inr (some b))), (1, .inr (.inr (some k)))] [] dM_42_119 (fun _ => rfl) (Or.inr rfl) ?_
              refine gs0 2 [(2, .inl (y2 + 1)), (4, .inl 0), (3, .inl n21), (0, .inr (.inr (some b))), (1, .inr (.inr (some k)))] [] dM_42_122 (fun _ => rfl) (Or.inr rfl) ?_
              exact GoS.sub (Lnd_keys (ks := [0, 1, 2]) rfl (by decide)) (Lsub_cons rfl (Lsub_cons rfl (Lsub_cons rfl Lsub_nil))) hnnnn
            · replace hnnnn := hnnnn.2 c33
              refine gs0 106 [(4, .inl 0), (3, .inl n21), (0, .inr (.inr (some b))), (1, .inr (.inr (some k))), (2, .inl y2)] [.inr (.inr (some k))] dM_42_105 (fun _ => rfl) (Or.inr rfl) ?_
              refine gs0 107 [(4, .inl 0), (3, .inl n21), (0, .inr (.inr (some b))), (1, .inr (.inr (some k))), (2, .inl y2)] [.inr (.inr (some k)), .inr (.inr (some k))] dM_42_106 (fun _ => rfl) (Or.inr rfl) ?_
              refine gsGetE (t30 k 4) dM_42_107 hk.2.1 rfl rfl rfl ?_
              refine gs0 111 [(4, .inl 0), (3, .inl n21), (0, .inr (.inr (some b))), (1, .inr (.inr (some k))), (2, .inl y2)] [.inl 1, .inl (t30 k 4), .inr (.inr (some k))] dM_42_110 (fun _ => rfl) (Or.inr rfl) ?_
              refine gs0 112 [(4, .inl 0), (3, .inl n21), (0, .inr (.inr (some b))), (1, .inr (.inr (some k))), (2, .inl y2)] [.inl y2, .inl 1, .inl (t30 k 4), .inr (.inr (some k))] dM_42_111 (fun _ => rfl) (Or.inr rfl) ?_
              refine gs0 113 [(4, .inl 0), (3, .inl n21), (0, .inr (.inr (some b))), (1, .inr (.inr (some k))), (2, .inl y2)] [.inl (1 <<< (y2 &&& 31)), .inl (t30 k 4), .inr (.inr (some k))] dM_42_112 (fun _ => rfl) (Or.inr rfl) ?_
              refine gs0 114 [(4, .inl 0), (3, .inl n21), (0, .inr (.inr (some b))), (1, .inr (.inr (some k))), (2, .inl y2)] [.inl ((-1)), .inl (1 <<< (y2 &&& 31)), .inl (t30 k 4), .inr (.inr (some k))] dM_42_113 (fun _ => rfl) (Or.inr rfl) ?_
              refine gs0 115 [(4, .inl 0), (3, .inl n21), (0, .inr (.inr (some b))), (1, .inr (.inr (some k))), (2, .inl y2)] [.inl ((1 <<< (y2 &&& 31)) ^^^ ((-1))), .inl (t30 k 4), .inr (.inr (some k))] dM_42_114 (fun _ => rfl) (Or.inr rfl) ?_
              refine gs0 116 [(4, .inl 0), (3, .inl n21), (0, .inr (.inr (some b))), (1, .inr (.inr (some k))), (2, .inl y2)] [.inl ((t30 k 4) &&& ((1 <<< (y2 &&& 31)) ^^^ ((-1)))), .inr (.inr (some k))] dM_42_115 (fun _ => rfl) (Or.inr rfl) ?_
              refine gsPut dM_42_116 hk.2.1 rfl rfl rfl (by decide) ?_
              refine gs0 122 [(2, .inl (y2 + 1)), (4, .inl 0), (3, .inl n21), (0, .inr (.inr (some b))), (1, .inr (.inr (some k)))] [] dM_42_119 (fun _ => rfl) (Or.inr rfl) ?_
              refine gs0 2 [(2, .inl (y2 + 1)), (4, .inl 0), (3, .inl n21), (0, .inr (.inr (some b))), (1, .inr (.inr (some k)))] [] dM_42_122 (fun _ => rfl) (Or.inr rfl) ?_
              exact GoS.sub (Lnd_keys (ks := [0, 1, 2]) rfl (by decide)) (Lsub_cons rfl (Lsub_cons rfl (Lsub_cons rfl Lsub_nil))) hnnnn
          · replace hnnn := hnnn.2 c28
            refine gs0 78 [(3, .inl n21), (0, .inr (.inr (some b))), (1, .inr (.inr (some k))), (2, .inl y2)] [.inl 1] dM_42_77 (fun _ => rfl) (Or.inr rfl) ?_
            refine gs0 82 [(3, .inl n21), (0, .inr (.inr (some b))), (1, .inr (.inr (some k))), (2, .inl y2)] [.inl 1] dM_42_78 (fun _ => rfl) (Or.inr rfl) ?_
            refine gs0 84 [(4, .inl 1), (3, .inl n21), (0, .inr (.inr (some b))), (1, .inr (.inr (some k))), (2, .inl y2)] [] dM_42_82 (fun _ => rfl) (Or.inr rfl) ?_
            refine gs0 85 [(4, .inl 1), (3, .inl n21), (0, .inr (.inr (some b))), (1, .inr (.inr (some k))), (2, .inl y2)] [.inr (.inr (some b))] dM_42_84 (fun _ => rfl) (Or.inr rfl) ?_
            refine gsGetR (some 1) dM_42_85 hb.2.1 rfl rfl ?_
            refine gs0 89 [(4, .inl 1), (3, .inl n21), (0, .inr (.inr (some b))), (1, .inr (.inr (some k))), (2, .inl y2)] [.inr (.inr (some k)), .inr (.inr (some 1))] dM_42_88 (fun _ => rfl) (Or.inr rfl) ?_
            refine gsGetR (some (k + 1)) dM_42_89 hk.2.1 rfl rfl ?_
            refine gsCallV (y := 69) (k := 1) (as := [.inr (.inr (some 1)), .inr (.inr (some (k + 1)))]) (r := []) dM_42_92 rfl rfl rfl (Nat.le_of_ble_eq_true rfl) sk_1 rfl (Nat.le_of_ble_eq_true rfl) (EvS.up hnnn (Nat.le_of_ble_eq_true rfl)) (fun v34 t35 hv36 => ?_)
            obtain ⟨rfl, hnnnn⟩ := hv36
            clear hnnn
            show GoS _ _ _ _ _ _ _ _ [(4, .inl 1), (3, .inl n21), (0, .inr (.inr (some b))), (1, .inr (.inr (some k))), (2, .inl y2)] [] t35 _
            refine gs0 97 [(4, .inl 1), (3, .inl n21), (0, .inr (.inr (some b))), (1, .inr (.inr (some k))), (2, .inl y2)] [.inl 1] dM_42_95 (fun _ => rfl) (Or.inr rfl) ?_
            refine gsIf (t := 101) (C := 1 = 0) (r := []) dM_42_97 (fun _ => rfl) (Or.inr rfl) (rTest_iff .eq 1 0) (fun c37 => absurd c37 (by decide)) (fun c37 => ?_)
            refine gsRet (r := none) dM_42_100 (fun _ => rfl) (Or.inr rfl) ?_
            exact hnnnn
      · replace h := h.2 c9
        refine gs0 119 [(0, .inr (.inr (some b))), (1, .inr (.inr (some k))), (2, .inl y2)] [] dM_42_26 (fun _ => rfl) (Or.inr rfl) ?_
        refine gs0 122 [(2, .inl (y2 + 1)), (0, .inr (.inr (some b))), (1, .inr (.inr (some k)))] [] dM_42_119 (fun _ => rfl) (Or.inr rfl) ?_
        refine gs0 2 [(2, .inl (y2 + 1)), (0, .inr (.inr (some b))), (1, .inr (.inr (some k)))] [] dM_42_122 (fun _ => rfl) (Or.inr rfl) ?_
        exact GoS.sub (Lnd_keys (ks := [0, 1, 2]) rfl (by decide)) (Lsub_cons rfl (Lsub_cons rfl (Lsub_cons rfl Lsub_nil))) h
set_option maxRecDepth 100000 in
/-- GoalsInAQueue$Search.settle -/
theorem w_42 (sg : rSg) (b : Nat) (hb : isSea b) (k : Nat) (hk : isSt k) {P : Option rv → rSg → Prop} (h :
    g_42_2 b k 0 sg P) : EvS rSkel 5 42 [.inr (.inr (some b)), .inr (.inr (some k))] sg P := by
  refine EvS.of (ini := false) rfl ⟨rfl, Nat.le_of_ble_eq_true rfl⟩ rfl ?_
  show GoS rSkel 4 4 5 none false prog_6_method_17_code 0 [(0, .inr (.inr (some b))), (1, .inr (.inr (some k)))] [] sg _
  have b_b := hb.1
  have b_k := hk.1
  refine gs0 1 [(0, .inr (.inr (some b))), (1, .inr (.inr (some k)))] [.inl 0] dM_42_0 (fun _ => rfl) (Or.inr rfl) ?_
  refine gs0 2 [(2, .inl 0), (0, .inr (.inr (some b))), (1, .inr (.inr (some k)))] [] dM_42_1 (fun _ => rfl) (Or.inr rfl) ?_
  exact GoS.sub (Lnd_keys (ks := [0, 1, 2]) rfl (by decide)) (Lsub_cons rfl (Lsub_cons rfl (Lsub_cons rfl Lsub_nil))) h
set_option maxRecDepth 100000 in
/-- GoalsInAQueue$Search.appendEnds -/
theorem w_43 (sg : rSg) (b : Nat) (hb : isSea b) (x1 : Int32) (x2 : Int32) (x3 : Int32) {P : Option rv → rSg → Prop} (h :
    EvS rSkel 4 65 [.inr (.inr (some 1)), .inr (.inr (some (b + 1))), .inr (.inr (some (b + 222))), .inl x1, .inl 138] sg (fun v1 t2 => ∃ n4, v1 = some (.inl n4) ∧
      (n4 = 0 → 
        P (some (.inl 0)) t2) ∧
      (¬ (n4 = 0) → 
        EvS rSkel 4 65 [.inr (.inr (some 1)), .inr (.inr (some (b + 1))), .inr (.inr (some (b + 222))), .inl x2, .inl x3] t2 (fun v6 t7 => ∃ n9, v6 = some (.inl n9) ∧
          (n9 = 0 → 
            P (some (.inl 0)) t7) ∧
          (¬ (n9 = 0) → 
            P (some (.inl 1)) t7))))) : EvS rSkel 5 43 [.inr (.inr (some b)), .inl x1, .inl x2, .inl x3] sg P := by
  refine EvS.of (ini := false) rfl ⟨rfl, Nat.le_of_ble_eq_true rfl⟩ rfl ?_
  show GoS rSkel 4 4 4 (some .boolean) false prog_6_method_12_code 0 [(0, .inr (.inr (some b))), (1, .inl x1), (2, .inl x2), (3, .inl x3)] [] sg _
  have b_b := hb.1
  refine gs0 1 [(0, .inr (.inr (some b))), (1, .inl x1), (2, .inl x2), (3, .inl x3)] [.inr (.inr (some b))] dM_43_0 (fun _ => rfl) (Or.inr rfl) ?_
  refine gsGetR (some 1) dM_43_1 hb.2.1 rfl rfl ?_
  refine gs0 5 [(0, .inr (.inr (some b))), (1, .inl x1), (2, .inl x2), (3, .inl x3)] [.inr (.inr (some b)), .inr (.inr (some 1))] dM_43_4 (fun _ => rfl) (Or.inr rfl) ?_
  refine gsGetR (some (b + 1)) dM_43_5 hb.2.1 rfl rfl ?_
  refine gs0 9 [(0, .inr (.inr (some b))), (1, .inl x1), (2, .inl x2), (3, .inl x3)] [.inr (.inr (some b)), .inr (.inr (some (b + 1))), .inr (.inr (some 1))] dM_43_8 (fun _ => rfl) (Or.inr rfl) ?_
  refine gsGetR (some (b + 221)) dM_43_9 hb.2.1 rfl rfl ?_
  refine gsGetR (some (b + 222)) dM_43_12 hb.2.2.2.2.2.2.2.2.1 rfl rfl ?_
  refine gs0 16 [(0, .inr (.inr (some b))), (1, .inl x1), (2, .inl x2), (3, .inl x3)] [.inl x1, .inr (.inr (some (b + 222))), .inr (.inr (some (b + 1))), .inr (.inr (some 1))] dM_43_15 (fun _ => rfl) (Or.inr rfl) ?_
  refine gs0 19 [(0, .inr (.inr (some b))), (1, .inl x1), (2, .inl x2), (3, .inl x3)] [.inl 138, .inl x1, .inr (.inr (some (b + 222))), .inr (.inr (some (b + 1))), .inr (.inr (some 1))] dM_43_16 (fun _ => rfl) (Or.inr rfl) ?_
  refine gsCallV (y := 65) (k := 1) (as := [.inr (.inr (some 1)), .inr (.inr (some (b + 1))), .inr (.inr (some (b + 222))), .inl x1, .inl 138]) (r := []) dM_43_19 rfl rfl rfl (Nat.le_of_ble_eq_true rfl) sk_1 rfl (Nat.le_of_ble_eq_true rfl) (EvS.up h (Nat.le_of_ble_eq_true rfl)) (fun v1 t2 hv3 => ?_)
  obtain ⟨n4, rfl, hn⟩ := hv3
  clear h
  show GoS _ _ _ _ _ _ _ _ [(0, .inr (.inr (some b))), (1, .inl x1), (2, .inl x2), (3, .inl x3)] [.inl n4] t2 _
  refine gsIf (t := 52) (C := n4 = 0) (r := []) dM_43_22 (fun _ => rfl) (Or.inr rfl) (rTest_iff .eq n4 0) (fun c5 => ?_) (fun c5 => ?_)
  · replace hn := hn.1 c5
    refine gs0 53 [(0, .inr (.inr (some b))), (1, .inl x1), (2, .inl x2), (3, .inl x3)] [.inl 0] dM_43_52 (fun _ => rfl) (Or.inr rfl) ?_
    refine gsRet (r := some (.inl 0)) dM_43_53 (fun _ => rfl) (Or.inr rfl) ?_
    exact hn
  · replace hn := hn.2 c5
    refine gs0 26 [(0, .inr (.inr (some b))), (1, .inl x1), (2, .inl x2), (3, .inl x3)] [.inr (.inr (some b))] dM_43_25 (fun _ => rfl) (Or.inr rfl) ?_
    refine gsGetR (some 1) dM_43_26 hb.2.1 rfl rfl ?_
    refine gs0 30 [(0, .inr (.inr (some b))), (1, .inl x1), (2, .inl x2), (3, .inl x3)] [.inr (.inr (some b)), .inr (.inr (some 1))] dM_43_29 (fun _ => rfl) (Or.inr rfl) ?_
    refine gsGetR (some (b + 1)) dM_43_30 hb.2.1 rfl rfl ?_
    refine gs0 34 [(0, .inr (.inr (some b))), (1, .inl x1), (2, .inl x2), (3, .inl x3)] [.inr (.inr (some b)), .inr (.inr (some (b + 1))), .inr (.inr (some 1))] dM_43_33 (fun _ => rfl) (Or.inr rfl) ?_
    refine gsGetR (some (b + 221)) dM_43_34 hb.2.1 rfl rfl ?_
    refine gsGetR (some (b + 222)) dM_43_37 hb.2.2.2.2.2.2.2.2.1 rfl rfl ?_
    refine gs0 41 [(0, .inr (.inr (some b))), (1, .inl x1), (2, .inl x2), (3, .inl x3)] [.inl x2, .inr (.inr (some (b + 222))), .inr (.inr (some (b + 1))), .inr (.inr (some 1))] dM_43_40 (fun _ => rfl) (Or.inr rfl) ?_
    refine gs0 42 [(0, .inr (.inr (some b))), (1, .inl x1), (2, .inl x2), (3, .inl x3)] [.inl x3, .inl x2, .inr (.inr (some (b + 222))), .inr (.inr (some (b + 1))), .inr (.inr (some 1))] dM_43_41 (fun _ => rfl) (Or.inr rfl) ?_
    refine gsCallV (y := 65) (k := 1) (as := [.inr (.inr (some 1)), .inr (.inr (some (b + 1))), .inr (.inr (some (b + 222))), .inl x2, .inl x3]) (r := []) dM_43_42 rfl rfl rfl (Nat.le_of_ble_eq_true rfl) sk_1 rfl (Nat.le_of_ble_eq_true rfl) (EvS.up hn (Nat.le_of_ble_eq_true rfl)) (fun v6 t7 hv8 => ?_)
    obtain ⟨n9, rfl, hnn⟩ := hv8
    clear hn
    show GoS _ _ _ _ _ _ _ _ [(0, .inr (.inr (some b))), (1, .inl x1), (2, .inl x2), (3, .inl x3)] [.inl n9] t7 _
    refine gsIf (t := 52) (C := n9 = 0) (r := []) dM_43_45 (fun _ => rfl) (Or.inr rfl) (rTest_iff .eq n9 0) (fun c10 => ?_) (fun c10 => ?_)
    · replace hnn := hnn.1 c10
      refine gs0 53 [(0, .inr (.inr (some b))), (1, .inl x1), (2, .inl x2), (3, .inl x3)] [.inl 0] dM_43_52 (fun _ => rfl) (Or.inr rfl) ?_
      refine gsRet (r := some (.inl 0)) dM_43_53 (fun _ => rfl) (Or.inr rfl) ?_
      exact hnn
    · replace hnn := hnn.2 c10
      refine gs0 49 [(0, .inr (.inr (some b))), (1, .inl x1), (2, .inl x2), (3, .inl x3)] [.inl 1] dM_43_48 (fun _ => rfl) (Or.inr rfl) ?_
      refine gs0 53 [(0, .inr (.inr (some b))), (1, .inl x1), (2, .inl x2), (3, .inl x3)] [.inl 1] dM_43_49 (fun _ => rfl) (Or.inr rfl) ?_
      refine gsRet (r := some (.inl 1)) dM_43_53 (fun _ => rfl) (Or.inr rfl) ?_
      exact hnn
set_option maxRecDepth 100000 in
/-- GoalsInAQueue$Search.appendGoesOn -/
theorem w_44 (sg : rSg) (b : Nat) (hb : isSea b) (x1 : Int32) (x2 : Int32) (x3 : Int32) {P : Option rv → rSg → Prop} (h :
    EvS rSkel 1 56 [.inr (.inr (some (b + 218)))] sg (fun v1 t2 => ∃ n4, v1 = some (.inl n4) ∧
      EvS rSkel 1 56 [.inr (.inr (some (b + 218)))] t2 (fun v5 t6 => ∃ n8, v5 = some (.inl n8) ∧
        EvS rSkel 1 56 [.inr (.inr (some (b + 218)))] t6 (fun v9 t10 => ∃ n12, v9 = some (.inl n12) ∧
          EvS rSkel 2 45 [.inr (.inr (some b)), .inl 65, .inl n8, .inl x2, .inl n12] t10 (fun v13 t14 => ∃ n16, v13 = some (.inl n16) ∧
            EvS rSkel 1 52 [.inr (.inr (some (b + 218))), .inl n16] t14 (fun v17 t18 => v17 = none ∧
              EvS rSkel 1 23 [.inr (.inr (some (b + 1))), .inl n4, .inl n8] t18 (fun v20 t21 => ∃ n23, v20 = some (.inl n23) ∧
                EvS rSkel 4 65 [.inr (.inr (some 1)), .inr (.inr (some (b + 1))), .inr (.inr (some (b + 219))), .inl x1, .inl n23] t21 (fun v24 t25 => ∃ n27, v24 = some (.inl n27) ∧
                  (n27 = 0 → 
                    P (some (.inl 0)) t25) ∧
                  (¬ (n27 = 0) → 
                    EvS rSkel 1 23 [.inr (.inr (some (b + 1))), .inl n4, .inl n12] t25 (fun v29 t30 => ∃ n32, v29 = some (.inl n32) ∧
                      EvS rSkel 4 65 [.inr (.inr (some 1)), .inr (.inr (some (b + 1))), .inr (.inr (some (b + 219))), .inl x3, .inl n32] t30 (fun v33 t34 => ∃ n36, v33 = some (.inl n36) ∧
                        (n36 = 0 → 
                          P (some (.inl 0)) t34) ∧
                        (¬ (n36 = 0) → 
                          P (some (.inl 1)) t34)))))))))))) : EvS rSkel 5 44 [.inr (.inr (some b)), .inl x1, .inl x2, .inl x3] sg P := by
  refine EvS.of (ini := false) rfl ⟨rfl, Nat.le_of_ble_eq_true rfl⟩ rfl ?_
  show GoS rSkel 4 4 7 (some .boolean) false prog_6_method_13_code 0 [(0, .inr (.inr (some b))), (1, .inl x1), (2, .inl x2), (3, .inl x3)] [] sg _
  have b_b := hb.1
  refine gs0 1 [(0, .inr (.inr (some b))), (1, .inl x1), (2, .inl x2), (3, .inl x3)] [.inr (.inr (some b))] dM_44_0 (fun _ => rfl) (Or.inr rfl) ?_
  refine gsGetR (some (b + 218)) dM_44_1 hb.2.1 rfl rfl ?_
  refine gsCallV (y := 56) (k := b + 218) (as := [.inr (.inr (some (b + 218)))]) (r := []) dM_44_4 rfl rfl rfl (Nat.le_of_ble_eq_true rfl) hb.2.2.2.2.2.2.1.2.1 rfl (Nat.le_of_ble_eq_true rfl) (EvS.up h (Nat.le_of_ble_eq_true rfl)) (fun v1 t2 hv3 => ?_)
  obtain ⟨n4, rfl, hn⟩ := hv3
  clear h
  show GoS _ _ _ _ _ _ _ _ [(0, .inr (.inr (some b))), (1, .inl x1), (2, .inl x2), (3, .inl x3)] [.inl n4] t2 _
  refine gs0 9 [(4, .inl n4), (0, .inr (.inr (some b))), (1, .inl x1), (2, .inl x2), (3, .inl x3)] [] dM_44_7 (fun _ => rfl) (Or.inr rfl) ?_
  refine gs0 10 [(4, .inl n4), (0, .inr (.inr (some b))), (1, .inl x1), (2, .inl x2), (3, .inl x3)] [.inr (.inr (some b))] dM_44_9 (fun _ => rfl) (Or.inr rfl) ?_
  refine gsGetR (some (b + 218)) dM_44_10 hb.2.1 rfl rfl ?_
  refine gsCallV (y := 56) (k := b + 218) (as := [.inr (.inr (some (b + 218)))]) (r := []) dM_44_13 rfl rfl rfl (Nat.le_of_ble_eq_true rfl) hb.2.2.2.2.2.2.1.2.1 rfl (Nat.le_of_ble_eq_true rfl) (EvS.up hn (Nat.le_of_ble_eq_true rfl)) (fun v5 t6 hv7 => ?_)
  obtain ⟨n8, rfl, hnn⟩ := hv7
  clear hn
  show GoS _ _ _ _ _ _ _ _ [(4, .inl n4), (0, .inr (.inr (some b))), (1, .inl x1), (2, .inl x2), (3, .inl x3)] [.inl n8] t6 _
  refine gs0 18 [(5, .inl n8), (4, .inl n4), (0, .inr (.inr (some b))), (1, .inl x1), (2, .inl x2), (3, .inl x3)] [] dM_44_16 (fun _ => rfl) (Or.inr rfl) ?_
  refine gs0 19 [(5, .inl n8), (4, .inl n4), (0, .inr (.inr (some b))), (1, .inl x1), (2, .inl x2), (3, .inl x3)] [.inr (.inr (some b))] dM_44_18 (fun _ => rfl) (Or.inr rfl) ?_
  refine gsGetR (some (b + 218)) dM_44_19 hb.2.1 rfl rfl ?_
  refine gsCallV (y := 56) (k := b + 218) (as := [.inr (.inr (some (b + 218)))]) (r := []) dM_44_22 rfl rfl rfl (Nat.le_of_ble_eq_true rfl) hb.2.2.2.2.2.2.1.2.1 rfl (Nat.le_of_ble_eq_true rfl) (EvS.up hnn (Nat.le_of_ble_eq_true rfl)) (fun v9 t10 hv11 => ?_)
  obtain ⟨n12, rfl, hnnn⟩ := hv11
  clear hnn
  show GoS _ _ _ _ _ _ _ _ [(5, .inl n8), (4, .inl n4), (0, .inr (.inr (some b))), (1, .inl x1), (2, .inl x2), (3, .inl x3)] [.inl n12] t10 _
  refine gs0 27 [(6, .inl n12), (5, .inl n8), (4, .inl n4), (0, .inr (.inr (some b))), (1, .inl x1), (2, .inl x2), (3, .inl x3)] [] dM_44_25 (fun _ => rfl) (Or.inr rfl) ?_
  refine gs0 28 [(6, .inl n12), (5, .inl n8), (4, .inl n4), (0, .inr (.inr (some b))), (1, .inl x1), (2, .inl x2), (3, .inl x3)] [.inr (.inr (some b))] dM_44_27 (fun _ => rfl) (Or.inr rfl) ?_
  refine gsGetR (some (b + 218)) dM_44_28 hb.2.1 rfl rfl ?_
  refine gs0 32 [(6, .inl n12), (5, .inl n8), (4, .inl n4), (0, .inr (.inr (some b))), (1, .inl x1), (2, .inl x2), (3, .inl x3)] [.inr (.inr (some b)), .inr (.inr (some (b + 218)))] dM_44_31 (fun _ => rfl) (Or.inr rfl) ?_
  refine gs0 34 [(6, .inl n12), (5, .inl n8), (4, .inl n4), (0, .inr (.inr (some b))), (1, .inl x1), (2, .inl x2), (3, .inl x3)] [.inl 65, .inr (.inr (some b)), .inr (.inr (some (b + 218)))] dM_44_32 (fun _ => rfl) (Or.inr rfl) ?_
  refine gs0 36 [(6, .inl n12), (5, .inl n8), (4, .inl n4), (0, .inr (.inr (some b))), (1, .inl x1), (2, .inl x2), (3, .inl x3)] [.inl n8, .inl 65, .inr (.inr (some b)), .inr (.inr (some (b + 218)))] dM_44_34 (fun _ => rfl) (Or.inr rfl) ?_
  refine gs0 37 [(6, .inl n12), (5, .inl n8), (4, .inl n4), (0, .inr (.inr (some b))), (1, .inl x1), (2, .inl x2), (3, .inl x3)] [.inl x2, .inl n8, .inl 65, .inr (.inr (some b)), .inr (.inr (some (b + 218)))] dM_44_36 (fun _ => rfl) (Or.inr rfl) ?_
  refine gs0 39 [(6, .inl n12), (5, .inl n8), (4, .inl n4), (0, .inr (.inr (some b))), (1, .inl x1), (2, .inl x2), (3, .inl x3)] [.inl n12, .inl x2, .inl n8, .inl 65, .inr (.inr (some b)), .inr (.inr (some (b + 218)))] dM_44_37 (fun _ => rfl) (Or.inr rfl) ?_
  refine gsCallV (y := 45) (k := b) (as := [.inr (.inr (some b)), .inl 65, .inl n8, .inl x2, .inl n12]) (r := [.inr (.inr (some (b + 218)))]) dM_44_39 rfl rfl rfl (Nat.le_of_ble_eq_true rfl) hb.2.1 rfl (Nat.le_of_ble_eq_true rfl) (EvS.up hnnn (Nat.le_of_ble_eq_true rfl)) (fun v13 t14 hv15 => ?_)
  obtain ⟨n16, rfl, hnnnn⟩ := hv15
  clear hnnn
  show GoS _ _ _ _ _ _ _ _ [(6, .inl n12), (5, .inl n8), (4, .inl n4), (0, .inr (.inr (some b))), (1, .inl x1), (2, .inl x2), (3, .inl x3)] [.inl n16, .inr (.inr (some (b + 218)))] t14 _
  refine gsCallV (y := 52) (k := b + 218) (as := [.inr (.inr (some (b + 218))), .inl n16]) (r := []) dM_44_42 rfl rfl rfl (Nat.le_of_ble_eq_true rfl) hb.2.2.2.2.2.2.1.2.1 rfl (Nat.le_of_ble_eq_true rfl) (EvS.up hnnnn (Nat.le_of_ble_eq_true rfl)) (fun v17 t18 hv19 => ?_)
  obtain ⟨rfl, hnnnnn⟩ := hv19
  clear hnnnn
  show GoS _ _ _ _ _ _ _ _ [(6, .inl n12), (5, .inl n8), (4, .inl n4), (0, .inr (.inr (some b))), (1, .inl x1), (2, .inl x2), (3, .inl x3)] [] t18 _
  refine gs0 46 [(6, .inl n12), (5, .inl n8), (4, .inl n4), (0, .inr (.inr (some b))), (1, .inl x1), (2, .inl x2), (3, .inl x3)] [.inr (.inr (some b))] dM_44_45 (fun _ => rfl) (Or.inr rfl) ?_
  refine gsGetR (some 1) dM_44_46 hb.2.1 rfl rfl ?_
  refine gs0 50 [(6, .inl n12), (5, .inl n8), (4, .inl n4), (0, .inr (.inr (some b))), (1, .inl x1), (2, .inl x2), (3, .inl x3)] [.inr (.inr (some b)), .inr (.inr (some 1))] dM_44_49 (fun _ => rfl) (Or.inr rfl) ?_
  refine gsGetR (some (b + 1)) dM_44_50 hb.2.1 rfl rfl ?_
  refine gs0 54 [(6, .inl n12), (5, .inl n8), (4, .inl n4), (0, .inr (.inr (some b))), (1, .inl x1), (2, .inl x2), (3, .inl x3)] [.inr (.inr (some b)), .inr (.inr (some (b + 1))), .inr (.inr (some 1))] dM_44_53 (fun _ => rfl) (Or.inr rfl) ?_
  refine gsGetR (some (b + 218)) dM_44_54 hb.2.1 rfl rfl ?_
  refine gsGetR (some (b + 219)) dM_44_57 hb.2.2.2.2.2.2.1.2.1 rfl rfl ?_
  refine gs0 61 [(6, .inl n12), (5, .inl n8), (4, .inl n4), (0, .inr (.inr (some b))), (1, .inl x1), (2, .inl x2), (3, .inl x3)] [.inl x1, .inr (.inr (some (b + 219))), .inr (.inr (some (b + 1))), .inr (.inr (some 1))] dM_44_60 (fun _ => rfl) (Or.inr rfl) ?_
  refine gs0 62 [(6, .inl n12), (5, .inl n8), (4, .inl n4), (0, .inr (.inr (some b))), (1, .inl x1), (2, .inl x2), (3, .inl x3)] [.inr (.inr (some b)), .inl x1, .inr (.inr (some (b + 219))), .inr (.inr (some (b + 1))), .inr (.inr (some 1))] dM_44_61 (fun _ => rfl) (Or.inr rfl) ?_
  refine gsGetR (some (b + 1)) dM_44_62 hb.2.1 rfl rfl ?_
  refine gs0 67 [(6, .inl n12), (5, .inl n8), (4, .inl n4), (0, .inr (.inr (some b))), (1, .inl x1), (2, .inl x2), (3, .inl x3)] [.inl n4, .inr (.inr (some (b + 1))), .inl x1, .inr (.inr (some (b + 219))), .inr (.inr (some (b + 1))), .inr (.inr (some 1))] dM_44_65 (fun _ => rfl) (Or.inr rfl) ?_
  refine gs0 69 [(6, .inl n12), (5, .inl n8), (4, .inl n4), (0, .inr (.inr (some b))), (1, .inl x1), (2, .inl x2), (3, .inl x3)] [.inl n8, .inl n4, .inr (.inr (some (b + 1))), .inl x1, .inr (.inr (some (b + 219))), .inr (.inr (some (b + 1))), .inr (.inr (some 1))] dM_44_67 (fun _ => rfl) (Or.inr rfl) ?_
  refine gsCallV (y := 23) (k := b + 1) (as := [.inr (.inr (some (b + 1))), .inl n4, .inl n8]) (r := [.inl x1, .inr (.inr (some (b + 219))), .inr (.inr (some (b + 1))), .inr (.inr (some 1))]) dM_44_69 rfl rfl rfl (Nat.le_of_ble_eq_true rfl) hb.2.2.2.2.2.1.2.1 rfl (Nat.le_of_ble_eq_true rfl) (EvS.up hnnnnn (Nat.le_of_ble_eq_true rfl)) (fun v20 t21 hv22 => ?_)
  obtain ⟨n23, rfl, hnnnnnn⟩ := hv22
  clear hnnnnn
  show GoS _ _ _ _ _ _ _ _ [(6, .inl n12), (5, .inl n8), (4, .inl n4), (0, .inr (.inr (some b))), (1, .inl x1), (2, .inl x2), (3, .inl x3)] [.inl n23, .inl x1, .inr (.inr (some (b + 219))), .inr (.inr (some (b + 1))), .inr (.inr (some 1))] t21 _
  refine gsCallV (y := 65) (k := 1) (as := [.inr (.inr (some 1)), .inr (.inr (some (b + 1))), .inr (.inr (some (b + 219))), .inl x1, .inl n23]) (r := []) dM_44_72 rfl rfl rfl (Nat.le_of_ble_eq_true rfl) sk_1 rfl (Nat.le_of_ble_eq_true rfl) (EvS.up hnnnnnn (Nat.le_of_ble_eq_true rfl)) (fun v24 t25 hv26 => ?_)
  obtain ⟨n27, rfl, hnnnnnnn⟩ := hv26
  clear hnnnnnn
  show GoS _ _ _ _ _ _ _ _ [(6, .inl n12), (5, .inl n8), (4, .inl n4), (0, .inr (.inr (some b))), (1, .inl x1), (2, .inl x2), (3, .inl x3)] [.inl n27] t25 _
  refine gsIf (t := 115) (C := n27 = 0) (r := []) dM_44_75 (fun _ => rfl) (Or.inr rfl) (rTest_iff .eq n27 0) (fun c28 => ?_) (fun c28 => ?_)
  · replace hnnnnnnn := hnnnnnnn.1 c28
    refine gs0 116 [(6, .inl n12), (5, .inl n8), (4, .inl n4), (0, .inr (.inr (some b))), (1, .inl x1), (2, .inl x2), (3, .inl x3)] [.inl 0] dM_44_115 (fun _ => rfl) (Or.inr rfl) ?_
    refine gsRet (r := some (.inl 0)) dM_44_116 (fun _ => rfl) (Or.inr rfl) ?_
    exact hnnnnnnn
  · replace hnnnnnnn := hnnnnnnn.2 c28
    refine gs0 79 [(6, .inl n12), (5, .inl n8), (4, .inl n4), (0, .inr (.inr (some b))), (1, .inl x1), (2, .inl x2), (3, .inl x3)] [.inr (.inr (some b))] dM_44_78 (fun _ => rfl) (Or.inr rfl) ?_
    refine gsGetR (some 1) dM_44_79 hb.2.1 rfl rfl ?_
    refine gs0 83 [(6, .inl n12), (5, .inl n8), (4, .inl n4), (0, .inr (.inr (some b))), (1, .inl x1), (2, .inl x2), (3, .inl x3)] [.inr (.inr (some b)), .inr (.inr (some 1))] dM_44_82 (fun _ => rfl) (Or.inr rfl) ?_
    refine gsGetR (some (b + 1)) dM_44_83 hb.2.1 rfl rfl ?_
    refine gs0 87 [(6, .inl n12), (5, .inl n8), (4, .inl n4), (0, .inr (.inr (some b))), (1, .inl x1), (2, .inl x2), (3, .inl x3)] [.inr (.inr (some b)), .inr (.inr (some (b + 1))), .inr (.inr (some 1))] dM_44_86 (fun _ => rfl) (Or.inr rfl) ?_
    refine gsGetR (some (b + 218)) dM_44_87 hb.2.1 rfl rfl ?_
    refine gsGetR (some (b + 219)) dM_44_90 hb.2.2.2.2.2.2.1.2.1 rfl rfl ?_
    refine gs0 94 [(6, .inl n12), (5, .inl n8), (4, .inl n4), (0, .inr (.inr (some b))), (1, .inl x1), (2, .inl x2), (3, .inl x3)] [.inl x3, .inr (.inr (some (b + 219))), .inr (.inr (some (b + 1))), .inr (.inr (some 1))] dM_44_93 (fun _ => rfl) (Or.inr rfl) ?_
    refine gs0 95 [(6, .inl n12), (5, .inl n8), (4, .inl n4), (0, .inr (.inr (some b))), (1, .inl x1), (2, .inl x2), (3, .inl x3)] [.inr (.inr (some b)), .inl x3, .inr (.inr (some (b + 219))), .inr (.inr (some (b + 1))), .inr (.inr (some 1))] dM_44_94 (fun _ => rfl) (Or.inr rfl) ?_
    refine gsGetR (some (b + 1)) dM_44_95 hb.2.1 rfl rfl ?_
    refine gs0 100 [(6, .inl n12), (5, .inl n8), (4, .inl n4), (0, .inr (.inr (some b))), (1, .inl x1), (2, .inl x2), (3, .inl x3)] [.inl n4, .inr (.inr (some (b + 1))), .inl x3, .inr (.inr (some (b + 219))), .inr (.inr (some (b + 1))), .inr (.inr (some 1))] dM_44_98 (fun _ => rfl) (Or.inr rfl) ?_
    refine gs0 102 [(6, .inl n12), (5, .inl n8), (4, .inl n4), (0, .inr (.inr (some b))), (1, .inl x1), (2, .inl x2), (3, .inl x3)] [.inl n12, .inl n4, .inr (.inr (some (b + 1))), .inl x3, .inr (.inr (some (b + 219))), .inr (.inr (some (b + 1))), .inr (.inr (some 1))] dM_44_100 (fun _ => rfl) (Or.inr rfl) ?_
    refine gsCallV (y := 23) (k := b + 1) (as := [.inr (.inr (some (b + 1))), .inl n4, .inl n12]) (r := [.inl x3, .inr (.inr (some (b + 219))), .inr (.inr (some (b + 1))), .inr (.inr (some 1))]) dM_44_102 rfl rfl rfl (Nat.le_of_ble_eq_true rfl) hb.2.2.2.2.2.1.2.1 rfl (Nat.le_of_ble_eq_true rfl) (EvS.up hnnnnnnn (Nat.le_of_ble_eq_true rfl)) (fun v29 t30 hv31 => ?_)
    obtain ⟨n32, rfl, hnnnnnnnn⟩ := hv31
    clear hnnnnnnn
    show GoS _ _ _ _ _ _ _ _ [(6, .inl n12), (5, .inl n8), (4, .inl n4), (0, .inr (.inr (some b))), (1, .inl x1), (2, .inl x2), (3, .inl x3)] [.inl n32, .inl x3, .inr (.inr (some (b + 219))), .inr (.inr (some (b + 1))), .inr (.inr (some 1))] t30 _
    refine gsCallV (y := 65) (k := 1) (as := [.inr (.inr (some 1)), .inr (.inr (some (b + 1))), .inr (.inr (some (b + 219))), .inl x3, .inl n32]) (r := []) dM_44_105 rfl rfl rfl (Nat.le_of_ble_eq_true rfl) sk_1 rfl (Nat.le_of_ble_eq_true rfl) (EvS.up hnnnnnnnn (Nat.le_of_ble_eq_true rfl)) (fun v33 t34 hv35 => ?_)
    obtain ⟨n36, rfl, hnnnnnnnnn⟩ := hv35
    clear hnnnnnnnn
    show GoS _ _ _ _ _ _ _ _ [(6, .inl n12), (5, .inl n8), (4, .inl n4), (0, .inr (.inr (some b))), (1, .inl x1), (2, .inl x2), (3, .inl x3)] [.inl n36] t34 _
    refine gsIf (t := 115) (C := n36 = 0) (r := []) dM_44_108 (fun _ => rfl) (Or.inr rfl) (rTest_iff .eq n36 0) (fun c37 => ?_) (fun c37 => ?_)
    · replace hnnnnnnnnn := hnnnnnnnnn.1 c37
      refine gs0 116 [(6, .inl n12), (5, .inl n8), (4, .inl n4), (0, .inr (.inr (some b))), (1, .inl x1), (2, .inl x2), (3, .inl x3)] [.inl 0] dM_44_115 (fun _ => rfl) (Or.inr rfl) ?_
      refine gsRet (r := some (.inl 0)) dM_44_116 (fun _ => rfl) (Or.inr rfl) ?_
      exact hnnnnnnnnn
    · replace hnnnnnnnnn := hnnnnnnnnn.2 c37
      refine gs0 112 [(6, .inl n12), (5, .inl n8), (4, .inl n4), (0, .inr (.inr (some b))), (1, .inl x1), (2, .inl x2), (3, .inl x3)] [.inl 1] dM_44_111 (fun _ => rfl) (Or.inr rfl) ?_
      refine gs0 116 [(6, .inl n12), (5, .inl n8), (4, .inl n4), (0, .inr (.inr (some b))), (1, .inl x1), (2, .inl x2), (3, .inl x3)] [.inl 1] dM_44_112 (fun _ => rfl) (Or.inr rfl) ?_
      refine gsRet (r := some (.inl 1)) dM_44_116 (fun _ => rfl) (Or.inr rfl) ?_
      exact hnnnnnnnnn
set_option maxRecDepth 100000 in
/-- GoalsInAQueue$Search.relation -/
theorem w_45 (sg : rSg) (b : Nat) (hb : isSea b) (x1 : Int32) (x2 : Int32) (x3 : Int32) (x4 : Int32) {P : Option rv → rSg → Prop} (h :
    EvS rSkel 1 21 [.inr (.inr (some (b + 1))), .inl x1] sg (fun v1 t2 => ∃ n4, v1 = some (.inl n4) ∧
      EvS rSkel 1 22 [.inr (.inr (some (b + 1))), .inl n4, .inl 0, .inl x2] t2 (fun v5 t6 => v5 = none ∧
        EvS rSkel 1 22 [.inr (.inr (some (b + 1))), .inl n4, .inl 1, .inl x3] t6 (fun v8 t9 => v8 = none ∧
          EvS rSkel 1 22 [.inr (.inr (some (b + 1))), .inl n4, .inl 2, .inl x4] t9 (fun v11 t12 => v11 = none ∧
            P (some (.inl n4)) t12))))) : EvS rSkel 2 45 [.inr (.inr (some b)), .inl x1, .inl x2, .inl x3, .inl x4] sg P := by
  refine EvS.of (ini := false) rfl ⟨rfl, Nat.le_of_ble_eq_true rfl⟩ rfl ?_
  show GoS rSkel 1 4 6 (some .int) false prog_6_method_16_code 0 [(0, .inr (.inr (some b))), (1, .inl x1), (2, .inl x2), (3, .inl x3), (4, .inl x4)] [] sg _
  have b_b := hb.1
  refine gs0 1 [(0, .inr (.inr (some b))), (1, .inl x1), (2, .inl x2), (3, .inl x3), (4, .inl x4)] [.inr (.inr (some b))] dM_45_0 (fun _ => rfl) (Or.inr rfl) ?_
  refine gsGetR (some (b + 1)) dM_45_1 hb.2.1 rfl rfl ?_
  refine gs0 5 [(0, .inr (.inr (some b))), (1, .inl x1), (2, .inl x2), (3, .inl x3), (4, .inl x4)] [.inl x1, .inr (.inr (some (b + 1)))] dM_45_4 (fun _ => rfl) (Or.inr rfl) ?_
  refine gsCallV (y := 21) (k := b + 1) (as := [.inr (.inr (some (b + 1))), .inl x1]) (r := []) dM_45_5 rfl rfl rfl (Nat.le_of_ble_eq_true rfl) hb.2.2.2.2.2.1.2.1 rfl (Nat.le_of_ble_eq_true rfl) (EvS.up h (Nat.le_of_ble_eq_true rfl)) (fun v1 t2 hv3 => ?_)
  obtain ⟨n4, rfl, hn⟩ := hv3
  clear h
  show GoS _ _ _ _ _ _ _ _ [(0, .inr (.inr (some b))), (1, .inl x1), (2, .inl x2), (3, .inl x3), (4, .inl x4)] [.inl n4] t2 _
  refine gs0 10 [(5, .inl n4), (0, .inr (.inr (some b))), (1, .inl x1), (2, .inl x2), (3, .inl x3), (4, .inl x4)] [] dM_45_8 (fun _ => rfl) (Or.inr rfl) ?_
  refine gs0 11 [(5, .inl n4), (0, .inr (.inr (some b))), (1, .inl x1), (2, .inl x2), (3, .inl x3), (4, .inl x4)] [.inr (.inr (some b))] dM_45_10 (fun _ => rfl) (Or.inr rfl) ?_
  refine gsGetR (some (b + 1)) dM_45_11 hb.2.1 rfl rfl ?_
  refine gs0 16 [(5, .inl n4), (0, .inr (.inr (some b))), (1, .inl x1), (2, .inl x2), (3, .inl x3), (4, .inl x4)] [.inl n4, .inr (.inr (some (b + 1)))] dM_45_14 (fun _ => rfl) (Or.inr rfl) ?_
  refine gs0 17 [(5, .inl n4), (0, .inr (.inr (some b))), (1, .inl x1), (2, .inl x2), (3, .inl x3), (4, .inl x4)] [.inl 0, .inl n4, .inr (.inr (some (b + 1)))] dM_45_16 (fun _ => rfl) (Or.inr rfl) ?_
  refine gs0 18 [(5, .inl n4), (0, .inr (.inr (some b))), (1, .inl x1), (2, .inl x2), (3, .inl x3), (4, .inl x4)] [.inl x2, .inl 0, .inl n4, .inr (.inr (some (b + 1)))] dM_45_17 (fun _ => rfl) (Or.inr rfl) ?_
  refine gsCallV (y := 22) (k := b + 1) (as := [.inr (.inr (some (b + 1))), .inl n4, .inl 0, .inl x2]) (r := []) dM_45_18 rfl rfl rfl (Nat.le_of_ble_eq_true rfl) hb.2.2.2.2.2.1.2.1 rfl (Nat.le_of_ble_eq_true rfl) (EvS.up hn (Nat.le_of_ble_eq_true rfl)) (fun v5 t6 hv7 => ?_)
  obtain ⟨rfl, hnn⟩ := hv7
  clear hn
  show GoS _ _ _ _ _ _ _ _ [(5, .inl n4), (0, .inr (.inr (some b))), (1, .inl x1), (2, .inl x2), (3, .inl x3), (4, .inl x4)] [] t6 _
  refine gs0 22 [(5, .inl n4), (0, .inr (.inr (some b))), (1, .inl x1), (2, .inl x2), (3, .inl x3), (4, .inl x4)] [.inr (.inr (some b))] dM_45_21 (fun _ => rfl) (Or.inr rfl) ?_
  refine gsGetR (some (b + 1)) dM_45_22 hb.2.1 rfl rfl ?_
  refine gs0 27 [(5, .inl n4), (0, .inr (.inr (some b))), (1, .inl x1), (2, .inl x2), (3, .inl x3), (4, .inl x4)] [.inl n4, .inr (.inr (some (b + 1)))] dM_45_25 (fun _ => rfl) (Or.inr rfl) ?_
  refine gs0 28 [(5, .inl n4), (0, .inr (.inr (some b))), (1, .inl x1), (2, .inl x2), (3, .inl x3), (4, .inl x4)] [.inl 1, .inl n4, .inr (.inr (some (b + 1)))] dM_45_27 (fun _ => rfl) (Or.inr rfl) ?_
  refine gs0 29 [(5, .inl n4), (0, .inr (.inr (some b))), (1, .inl x1), (2, .inl x2), (3, .inl x3), (4, .inl x4)] [.inl x3, .inl 1, .inl n4, .inr (.inr (some (b + 1)))] dM_45_28 (fun _ => rfl) (Or.inr rfl) ?_
  refine gsCallV (y := 22) (k := b + 1) (as := [.inr (.inr (some (b + 1))), .inl n4, .inl 1, .inl x3]) (r := []) dM_45_29 rfl rfl rfl (Nat.le_of_ble_eq_true rfl) hb.2.2.2.2.2.1.2.1 rfl (Nat.le_of_ble_eq_true rfl) (EvS.up hnn (Nat.le_of_ble_eq_true rfl)) (fun v8 t9 hv10 => ?_)
  obtain ⟨rfl, hnnn⟩ := hv10
  clear hnn
  show GoS _ _ _ _ _ _ _ _ [(5, .inl n4), (0, .inr (.inr (some b))), (1, .inl x1), (2, .inl x2), (3, .inl x3), (4, .inl x4)] [] t9 _
  refine gs0 33 [(5, .inl n4), (0, .inr (.inr (some b))), (1, .inl x1), (2, .inl x2), (3, .inl x3), (4, .inl x4)] [.inr (.inr (some b))] dM_45_32 (fun _ => rfl) (Or.inr rfl) ?_
  refine gsGetR (some (b + 1)) dM_45_33 hb.2.1 rfl rfl ?_
  refine gs0 38 [(5, .inl n4), (0, .inr (.inr (some b))), (1, .inl x1), (2, .inl x2), (3, .inl x3), (4, .inl x4)] [.inl n4, .inr (.inr (some (b + 1)))] dM_45_36 (fun _ => rfl) (Or.inr rfl) ?_
  refine gs0 39 [(5, .inl n4), (0, .inr (.inr (some b))), (1, .inl x1), (2, .inl x2), (3, .inl x3), (4, .inl x4)] [.inl 2, .inl n4, .inr (.inr (some (b + 1)))] dM_45_38 (fun _ => rfl) (Or.inr rfl) ?_
  refine gs0 41 [(5, .inl n4), (0, .inr (.inr (some b))), (1, .inl x1), (2, .inl x2), (3, .inl x3), (4, .inl x4)] [.inl x4, .inl 2, .inl n4, .inr (.inr (some (b + 1)))] dM_45_39 (fun _ => rfl) (Or.inr rfl) ?_
  refine gsCallV (y := 22) (k := b + 1) (as := [.inr (.inr (some (b + 1))), .inl n4, .inl 2, .inl x4]) (r := []) dM_45_41 rfl rfl rfl (Nat.le_of_ble_eq_true rfl) hb.2.2.2.2.2.1.2.1 rfl (Nat.le_of_ble_eq_true rfl) (EvS.up hnnn (Nat.le_of_ble_eq_true rfl)) (fun v11 t12 hv13 => ?_)
  obtain ⟨rfl, hnnnn⟩ := hv13
  clear hnnn
  show GoS _ _ _ _ _ _ _ _ [(5, .inl n4), (0, .inr (.inr (some b))), (1, .inl x1), (2, .inl x2), (3, .inl x3), (4, .inl x4)] [] t12 _
  refine gs0 46 [(5, .inl n4), (0, .inr (.inr (some b))), (1, .inl x1), (2, .inl x2), (3, .inl x3), (4, .inl x4)] [.inl n4] dM_45_44 (fun _ => rfl) (Or.inr rfl) ?_
  refine gsRet (r := some (.inl n4)) dM_45_46 (fun _ => rfl) (Or.inr rfl) ?_
  exact hnnnn
set_option maxRecDepth 100000 in
/-- GoalsInAQueue$Search.memberIsFirst -/
theorem w_46 (sg : rSg) (b : Nat) (hb : isSea b) (x1 : Int32) (x2 : Int32) {P : Option rv → rSg → Prop} (h :
    EvS rSkel 1 56 [.inr (.inr (some (b + 221)))] sg (fun v1 t2 => ∃ n4, v1 = some (.inl n4) ∧
      EvS rSkel 1 23 [.inr (.inr (some (b + 1))), .inl x1, .inl n4] t2 (fun v5 t6 => ∃ n8, v5 = some (.inl n8) ∧
        EvS rSkel 4 65 [.inr (.inr (some 1)), .inr (.inr (some (b + 1))), .inr (.inr (some (b + 222))), .inl x2, .inl n8] t6 (fun v9 t10 => ∃ n12, v9 = some (.inl n12) ∧
          (rBool n12 = true ∧
          P (some (.inl n12)) t10))))) : EvS rSkel 5 46 [.inr (.inr (some b)), .inl x1, .inl x2] sg P := by
  refine EvS.of (ini := false) rfl ⟨rfl, Nat.le_of_ble_eq_true rfl⟩ rfl ?_
  show GoS rSkel 4 4 4 (some .boolean) false prog_6_method_14_code 0 [(0, .inr (.inr (some b))), (1, .inl x1), (2, .inl x2)] [] sg _
  have b_b := hb.1
  refine gs0 1 [(0, .inr (.inr (some b))), (1, .inl x1), (2, .inl x2)] [.inr (.inr (some b))] dM_46_0 (fun _ => rfl) (Or.inr rfl) ?_
  refine gsGetR (some (b + 221)) dM_46_1 hb.2.1 rfl rfl ?_
  refine gsCallV (y := 56) (k := b + 221) (as := [.inr (.inr (some (b + 221)))]) (r := []) dM_46_4 rfl rfl rfl (Nat.le_of_ble_eq_true rfl) hb.2.2.2.2.2.2.2.2.1 rfl (Nat.le_of_ble_eq_true rfl) (EvS.up h (Nat.le_of_ble_eq_true rfl)) (fun v1 t2 hv3 => ?_)
  obtain ⟨n4, rfl, hn⟩ := hv3
  clear h
  show GoS _ _ _ _ _ _ _ _ [(0, .inr (.inr (some b))), (1, .inl x1), (2, .inl x2)] [.inl n4] t2 _
  refine gs0 8 [(3, .inl n4), (0, .inr (.inr (some b))), (1, .inl x1), (2, .inl x2)] [] dM_46_7 (fun _ => rfl) (Or.inr rfl) ?_
  refine gs0 9 [(3, .inl n4), (0, .inr (.inr (some b))), (1, .inl x1), (2, .inl x2)] [.inr (.inr (some b))] dM_46_8 (fun _ => rfl) (Or.inr rfl) ?_
  refine gsGetR (some 1) dM_46_9 hb.2.1 rfl rfl ?_
  refine gs0 13 [(3, .inl n4), (0, .inr (.inr (some b))), (1, .inl x1), (2, .inl x2)] [.inr (.inr (some b)), .inr (.inr (some 1))] dM_46_12 (fun _ => rfl) (Or.inr rfl) ?_
  refine gsGetR (some (b + 1)) dM_46_13 hb.2.1 rfl rfl ?_
  refine gs0 17 [(3, .inl n4), (0, .inr (.inr (some b))), (1, .inl x1), (2, .inl x2)] [.inr (.inr (some b)), .inr (.inr (some (b + 1))), .inr (.inr (some 1))] dM_46_16 (fun _ => rfl) (Or.inr rfl) ?_
  refine gsGetR (some (b + 221)) dM_46_17 hb.2.1 rfl rfl ?_
  refine gsGetR (some (b + 222)) dM_46_20 hb.2.2.2.2.2.2.2.2.1 rfl rfl ?_
  refine gs0 24 [(3, .inl n4), (0, .inr (.inr (some b))), (1, .inl x1), (2, .inl x2)] [.inl x2, .inr (.inr (some (b + 222))), .inr (.inr (some (b + 1))), .inr (.inr (some 1))] dM_46_23 (fun _ => rfl) (Or.inr rfl) ?_
  refine gs0 25 [(3, .inl n4), (0, .inr (.inr (some b))), (1, .inl x1), (2, .inl x2)] [.inr (.inr (some b)), .inl x2, .inr (.inr (some (b + 222))), .inr (.inr (some (b + 1))), .inr (.inr (some 1))] dM_46_24 (fun _ => rfl) (Or.inr rfl) ?_
  refine gsGetR (some (b + 1)) dM_46_25 hb.2.1 rfl rfl ?_
  refine gs0 29 [(3, .inl n4), (0, .inr (.inr (some b))), (1, .inl x1), (2, .inl x2)] [.inl x1, .inr (.inr (some (b + 1))), .inl x2, .inr (.inr (some (b + 222))), .inr (.inr (some (b + 1))), .inr (.inr (some 1))] dM_46_28 (fun _ => rfl) (Or.inr rfl) ?_
  refine gs0 30 [(3, .inl n4), (0, .inr (.inr (some b))), (1, .inl x1), (2, .inl x2)] [.inl n4, .inl x1, .inr (.inr (some (b + 1))), .inl x2, .inr (.inr (some (b + 222))), .inr (.inr (some (b + 1))), .inr (.inr (some 1))] dM_46_29 (fun _ => rfl) (Or.inr rfl) ?_
  refine gsCallV (y := 23) (k := b + 1) (as := [.inr (.inr (some (b + 1))), .inl x1, .inl n4]) (r := [.inl x2, .inr (.inr (some (b + 222))), .inr (.inr (some (b + 1))), .inr (.inr (some 1))]) dM_46_30 rfl rfl rfl (Nat.le_of_ble_eq_true rfl) hb.2.2.2.2.2.1.2.1 rfl (Nat.le_of_ble_eq_true rfl) (EvS.up hn (Nat.le_of_ble_eq_true rfl)) (fun v5 t6 hv7 => ?_)
  obtain ⟨n8, rfl, hnn⟩ := hv7
  clear hn
  show GoS _ _ _ _ _ _ _ _ [(3, .inl n4), (0, .inr (.inr (some b))), (1, .inl x1), (2, .inl x2)] [.inl n8, .inl x2, .inr (.inr (some (b + 222))), .inr (.inr (some (b + 1))), .inr (.inr (some 1))] t6 _
  refine gsCallV (y := 65) (k := 1) (as := [.inr (.inr (some 1)), .inr (.inr (some (b + 1))), .inr (.inr (some (b + 222))), .inl x2, .inl n8]) (r := []) dM_46_33 rfl rfl rfl (Nat.le_of_ble_eq_true rfl) sk_1 rfl (Nat.le_of_ble_eq_true rfl) (EvS.up hnn (Nat.le_of_ble_eq_true rfl)) (fun v9 t10 hv11 => ?_)
  obtain ⟨n12, rfl, hnnn⟩ := hv11
  clear hnn
  show GoS _ _ _ _ _ _ _ _ [(3, .inl n4), (0, .inr (.inr (some b))), (1, .inl x1), (2, .inl x2)] [.inl n12] t10 _
  refine gsRet (r := some (.inl n12)) dM_46_36 (fun _ => rRetB hnnn.1) (Or.inr rfl) ?_
  replace hnnn := hnnn.2
  exact hnnn
set_option maxRecDepth 100000 in
/-- GoalsInAQueue$Search.memberIsBehind -/
theorem w_47 (sg : rSg) (b : Nat) (hb : isSea b) (x1 : Int32) (x2 : Int32) {P : Option rv → rSg → Prop} (h :
    EvS rSkel 1 56 [.inr (.inr (some (b + 218)))] sg (fun v1 t2 => ∃ n4, v1 = some (.inl n4) ∧
      EvS rSkel 1 56 [.inr (.inr (some (b + 218)))] t2 (fun v5 t6 => ∃ n8, v5 = some (.inl n8) ∧
        EvS rSkel 2 45 [.inr (.inr (some b)), .inl 77, .inl x1, .inl n8, .inl 138] t6 (fun v9 t10 => ∃ n12, v9 = some (.inl n12) ∧
          EvS rSkel 1 52 [.inr (.inr (some (b + 218))), .inl n12] t10 (fun v13 t14 => v13 = none ∧
            EvS rSkel 1 23 [.inr (.inr (some (b + 1))), .inl n4, .inl n8] t14 (fun v16 t17 => ∃ n19, v16 = some (.inl n19) ∧
              EvS rSkel 4 65 [.inr (.inr (some 1)), .inr (.inr (some (b + 1))), .inr (.inr (some (b + 219))), .inl x2, .inl n19] t17 (fun v20 t21 => ∃ n23, v20 = some (.inl n23) ∧
                (rBool n23 = true ∧
                P (some (.inl n23)) t21)))))))) : EvS rSkel 5 47 [.inr (.inr (some b)), .inl x1, .inl x2] sg P := by
  refine EvS.of (ini := false) rfl ⟨rfl, Nat.le_of_ble_eq_true rfl⟩ rfl ?_
  show GoS rSkel 4 4 5 (some .boolean) false prog_6_method_15_code 0 [(0, .inr (.inr (some b))), (1, .inl x1), (2, .inl x2)] [] sg _
  have b_b := hb.1
  refine gs0 1 [(0, .inr (.inr (some b))), (1, .inl x1), (2, .inl x2)] [.inr (.inr (some b))] dM_47_0 (fun _ => rfl) (Or.inr rfl) ?_
  refine gsGetR (some (b + 218)) dM_47_1 hb.2.1 rfl rfl ?_
  refine gsCallV (y := 56) (k := b + 218) (as := [.inr (.inr (some (b + 218)))]) (r := []) dM_47_4 rfl rfl rfl (Nat.le_of_ble_eq_true rfl) hb.2.2.2.2.2.2.1.2.1 rfl (Nat.le_of_ble_eq_true rfl) (EvS.up h (Nat.le_of_ble_eq_true rfl)) (fun v1 t2 hv3 => ?_)
  obtain ⟨n4, rfl, hn⟩ := hv3
  clear h
  show GoS _ _ _ _ _ _ _ _ [(0, .inr (.inr (some b))), (1, .inl x1), (2, .inl x2)] [.inl n4] t2 _
  refine gs0 8 [(3, .inl n4), (0, .inr (.inr (some b))), (1, .inl x1), (2, .inl x2)] [] dM_47_7 (fun _ => rfl) (Or.inr rfl) ?_
  refine gs0 9 [(3, .inl n4), (0, .inr (.inr (some b))), (1, .inl x1), (2, .inl x2)] [.inr (.inr (some b))] dM_47_8 (fun _ => rfl) (Or.inr rfl) ?_
  refine gsGetR (some (b + 218)) dM_47_9 hb.2.1 rfl rfl ?_
  refine gsCallV (y := 56) (k := b + 218) (as := [.inr (.inr (some (b + 218)))]) (r := []) dM_47_12 rfl rfl rfl (Nat.le_of_ble_eq_true rfl) hb.2.2.2.2.2.2.1.2.1 rfl (Nat.le_of_ble_eq_true rfl) (EvS.up hn (Nat.le_of_ble_eq_true rfl)) (fun v5 t6 hv7 => ?_)
  obtain ⟨n8, rfl, hnn⟩ := hv7
  clear hn
  show GoS _ _ _ _ _ _ _ _ [(3, .inl n4), (0, .inr (.inr (some b))), (1, .inl x1), (2, .inl x2)] [.inl n8] t6 _
  refine gs0 17 [(4, .inl n8), (3, .inl n4), (0, .inr (.inr (some b))), (1, .inl x1), (2, .inl x2)] [] dM_47_15 (fun _ => rfl) (Or.inr rfl) ?_
  refine gs0 18 [(4, .inl n8), (3, .inl n4), (0, .inr (.inr (some b))), (1, .inl x1), (2, .inl x2)] [.inr (.inr (some b))] dM_47_17 (fun _ => rfl) (Or.inr rfl) ?_
  refine gsGetR (some (b + 218)) dM_47_18 hb.2.1 rfl rfl ?_
  refine gs0 22 [(4, .inl n8), (3, .inl n4), (0, .inr (.inr (some b))), (1, .inl x1), (2, .inl x2)] [.inr (.inr (some b)), .inr (.inr (some (b + 218)))] dM_47_21 (fun _ => rfl) (Or.inr rfl) ?_
  refine gs0 24 [(4, .inl n8), (3, .inl n4), (0, .inr (.inr (some b))), (1, .inl x1), (2, .inl x2)] [.inl 77, .inr (.inr (some b)), .inr (.inr (some (b + 218)))] dM_47_22 (fun _ => rfl) (Or.inr rfl) ?_
  refine gs0 25 [(4, .inl n8), (3, .inl n4), (0, .inr (.inr (some b))), (1, .inl x1), (2, .inl x2)] [.inl x1, .inl 77, .inr (.inr (some b)), .inr (.inr (some (b + 218)))] dM_47_24 (fun _ => rfl) (Or.inr rfl) ?_
  refine gs0 27 [(4, .inl n8), (3, .inl n4), (0, .inr (.inr (some b))), (1, .inl x1), (2, .inl x2)] [.inl n8, .inl x1, .inl 77, .inr (.inr (some b)), .inr (.inr (some (b + 218)))] dM_47_25 (fun _ => rfl) (Or.inr rfl) ?_
  refine gs0 30 [(4, .inl n8), (3, .inl n4), (0, .inr (.inr (some b))), (1, .inl x1), (2, .inl x2)] [.inl 138, .inl n8, .inl x1, .inl 77, .inr (.inr (some b)), .inr (.inr (some (b + 218)))] dM_47_27 (fun _ => rfl) (Or.inr rfl) ?_
  refine gsCallV (y := 45) (k := b) (as := [.inr (.inr (some b)), .inl 77, .inl x1, .inl n8, .inl 138]) (r := [.inr (.inr (some (b + 218)))]) dM_47_30 rfl rfl rfl (Nat.le_of_ble_eq_true rfl) hb.2.1 rfl (Nat.le_of_ble_eq_true rfl) (EvS.up hnn (Nat.le_of_ble_eq_true rfl)) (fun v9 t10 hv11 => ?_)
  obtain ⟨n12, rfl, hnnn⟩ := hv11
  clear hnn
  show GoS _ _ _ _ _ _ _ _ [(4, .inl n8), (3, .inl n4), (0, .inr (.inr (some b))), (1, .inl x1), (2, .inl x2)] [.inl n12, .inr (.inr (some (b + 218)))] t10 _
  refine gsCallV (y := 52) (k := b + 218) (as := [.inr (.inr (some (b + 218))), .inl n12]) (r := []) dM_47_33 rfl rfl rfl (Nat.le_of_ble_eq_true rfl) hb.2.2.2.2.2.2.1.2.1 rfl (Nat.le_of_ble_eq_true rfl) (EvS.up hnnn (Nat.le_of_ble_eq_true rfl)) (fun v13 t14 hv15 => ?_)
  obtain ⟨rfl, hnnnn⟩ := hv15
  clear hnnn
  show GoS _ _ _ _ _ _ _ _ [(4, .inl n8), (3, .inl n4), (0, .inr (.inr (some b))), (1, .inl x1), (2, .inl x2)] [] t14 _
  refine gs0 37 [(4, .inl n8), (3, .inl n4), (0, .inr (.inr (some b))), (1, .inl x1), (2, .inl x2)] [.inr (.inr (some b))] dM_47_36 (fun _ => rfl) (Or.inr rfl) ?_
  refine gsGetR (some 1) dM_47_37 hb.2.1 rfl rfl ?_
  refine gs0 41 [(4, .inl n8), (3, .inl n4), (0, .inr (.inr (some b))), (1, .inl x1), (2, .inl x2)] [.inr (.inr (some b)), .inr (.inr (some 1))] dM_47_40 (fun _ => rfl) (Or.inr rfl) ?_
  refine gsGetR (some (b + 1)) dM_47_41 hb.2.1 rfl rfl ?_
  refine gs0 45 [(4, .inl n8), (3, .inl n4), (0, .inr (.inr (some b))), (1, .inl x1), (2, .inl x2)] [.inr (.inr (some b)), .inr (.inr (some (b + 1))), .inr (.inr (some 1))] dM_47_44 (fun _ => rfl) (Or.inr rfl) ?_
  refine gsGetR (some (b + 218)) dM_47_45 hb.2.1 rfl rfl ?_
  refine gsGetR (some (b + 219)) dM_47_48 hb.2.2.2.2.2.2.1.2.1 rfl rfl ?_
  refine gs0 52 [(4, .inl n8), (3, .inl n4), (0, .inr (.inr (some b))), (1, .inl x1), (2, .inl x2)] [.inl x2, .inr (.inr (some (b + 219))), .inr (.inr (some (b + 1))), .inr (.inr (some 1))] dM_47_51 (fun _ => rfl) (Or.inr rfl) ?_
  refine gs0 53 [(4, .inl n8), (3, .inl n4), (0, .inr (.inr (some b))), (1, .inl x1), (2, .inl x2)] [.inr (.inr (some b)), .inl x2, .inr (.inr (some (b + 219))), .inr (.inr (some (b + 1))), .inr (.inr (some 1))] dM_47_52 (fun _ => rfl) (Or.inr rfl) ?_
  refine gsGetR (some (b + 1)) dM_47_53 hb.2.1 rfl rfl ?_
  refine gs0 57 [(4, .inl n8), (3, .inl n4), (0, .inr (.inr (some b))), (1, .inl x1), (2, .inl x2)] [.inl n4, .inr (.inr (some (b + 1))), .inl x2, .inr (.inr (some (b + 219))), .inr (.inr (some (b + 1))), .inr (.inr (some 1))] dM_47_56 (fun _ => rfl) (Or.inr rfl) ?_
  refine gs0 59 [(4, .inl n8), (3, .inl n4), (0, .inr (.inr (some b))), (1, .inl x1), (2, .inl x2)] [.inl n8, .inl n4, .inr (.inr (some (b + 1))), .inl x2, .inr (.inr (some (b + 219))), .inr (.inr (some (b + 1))), .inr (.inr (some 1))] dM_47_57 (fun _ => rfl) (Or.inr rfl) ?_
  refine gsCallV (y := 23) (k := b + 1) (as := [.inr (.inr (some (b + 1))), .inl n4, .inl n8]) (r := [.inl x2, .inr (.inr (some (b + 219))), .inr (.inr (some (b + 1))), .inr (.inr (some 1))]) dM_47_59 rfl rfl rfl (Nat.le_of_ble_eq_true rfl) hb.2.2.2.2.2.1.2.1 rfl (Nat.le_of_ble_eq_true rfl) (EvS.up hnnnn (Nat.le_of_ble_eq_true rfl)) (fun v16 t17 hv18 => ?_)
  obtain ⟨n19, rfl, hnnnnn⟩ := hv18
  clear hnnnn
  show GoS _ _ _ _ _ _ _ _ [(4, .inl n8), (3, .inl n4), (0, .inr (.inr (some b))), (1, .inl x1), (2, .inl x2)] [.inl n19, .inl x2, .inr (.inr (some (b + 219))), .inr (.inr (some (b + 1))), .inr (.inr (some 1))] t17 _
  refine gsCallV (y := 65) (k := 1) (as := [.inr (.inr (some 1)), .inr (.inr (some (b + 1))), .inr (.inr (some (b + 219))), .inl x2, .inl n19]) (r := []) dM_47_62 rfl rfl rfl (Nat.le_of_ble_eq_true rfl) sk_1 rfl (Nat.le_of_ble_eq_true rfl) (EvS.up hnnnnn (Nat.le_of_ble_eq_true rfl)) (fun v20 t21 hv22 => ?_)
  obtain ⟨n23, rfl, hnnnnnn⟩ := hv22
  clear hnnnnn
  show GoS _ _ _ _ _ _ _ _ [(4, .inl n8), (3, .inl n4), (0, .inr (.inr (some b))), (1, .inl x1), (2, .inl x2)] [.inl n23] t21 _
  refine gsRet (r := some (.inl n23)) dM_47_65 (fun _ => rRetB hnnnnnn.1) (Or.inr rfl) ?_
  replace hnnnnnn := hnnnnnn.2
  exact hnnnnnn
set_option maxRecDepth 100000 in
/-- GoalsInAQueue$Search.stepOf -/
theorem w_48 (sg : rSg) (b : Nat) (hb : isSea b) (x1 : Int32) {P : Option rv → rSg → Prop} (h :
    (x1 < 0 → 
      P (some (.inl ((-9)))) sg) ∧
    (¬ (x1 < 0) → 
      ((sg b 10) ≤ x1 → 
        P (some (.inl ((-9)))) sg) ∧
      (¬ ((sg b 10) ≤ x1) → 
        (30 ≤ x1 → 
          P (some (.inl ((-9)))) sg) ∧
        (¬ (30 ≤ x1) → 
          (rIn x1 30 = true ∧
          P (some (.inl (sg (b + 217) x1.toNatClampNeg))) sg))))) : EvS rSkel 1 48 [.inr (.inr (some b)), .inl x1] sg P := by
  refine EvS.of (ini := false) rfl ⟨rfl, Nat.le_of_ble_eq_true rfl⟩ rfl ?_
  show GoS rSkel 0 4 2 (some .int) false prog_6_method_6_code 0 [(0, .inr (.inr (some b))), (1, .inl x1)] [] sg _
  have b_b := hb.1
  refine gs0 1 [(0, .inr (.inr (some b))), (1, .inl x1)] [.inl x1] dM_48_0 (fun _ => rfl) (Or.inr rfl) ?_
  refine gsIf (t := 27) (C := x1 < 0) (r := []) dM_48_1 (fun _ => rfl) (Or.inr rfl) (rTest_iff .lt x1 0) (fun c1 => ?_) (fun c1 => ?_)
  · replace h := h.1 c1
    refine gs0 29 [(0, .inr (.inr (some b))), (1, .inl x1)] [.inl ((-9))] dM_48_27 (fun _ => rfl) (Or.inr rfl) ?_
    refine gsRet (r := some (.inl ((-9)))) dM_48_29 (fun _ => rfl) (Or.inr rfl) ?_
    exact h
  · replace h := h.2 c1
    refine gs0 5 [(0, .inr (.inr (some b))), (1, .inl x1)] [.inl x1] dM_48_4 (fun _ => rfl) (Or.inr rfl) ?_
    refine gs0 6 [(0, .inr (.inr (some b))), (1, .inl x1)] [.inr (.inr (some b)), .inl x1] dM_48_5 (fun _ => rfl) (Or.inr rfl) ?_
    refine gsGetE (sg b 10) dM_48_6 hb.2.1 rfl rfl rfl ?_
    refine gsIf (t := 27) (C := (sg b 10) ≤ x1) (r := []) dM_48_9 (fun _ => rfl) (Or.inr rfl) (rTest_iff .ge x1 (sg b 10)) (fun c2 => ?_) (fun c2 => ?_)
    · replace h := h.1 c2
      refine gs0 29 [(0, .inr (.inr (some b))), (1, .inl x1)] [.inl ((-9))] dM_48_27 (fun _ => rfl) (Or.inr rfl) ?_
      refine gsRet (r := some (.inl ((-9)))) dM_48_29 (fun _ => rfl) (Or.inr rfl) ?_
      exact h
    · replace h := h.2 c2
      refine gs0 13 [(0, .inr (.inr (some b))), (1, .inl x1)] [.inl x1] dM_48_12 (fun _ => rfl) (Or.inr rfl) ?_
      refine gs0 15 [(0, .inr (.inr (some b))), (1, .inl x1)] [.inl 30, .inl x1] dM_48_13 (fun _ => rfl) (Or.inr rfl) ?_
      refine gsIf (t := 27) (C := 30 ≤ x1) (r := []) dM_48_15 (fun _ => rfl) (Or.inr rfl) (rTest_iff .ge x1 30) (fun c3 => ?_) (fun c3 => ?_)
      · replace h := h.1 c3
        refine gs0 29 [(0, .inr (.inr (some b))), (1, .inl x1)] [.inl ((-9))] dM_48_27 (fun _ => rfl) (Or.inr rfl) ?_
        refine gsRet (r := some (.inl ((-9)))) dM_48_29 (fun _ => rfl) (Or.inr rfl) ?_
        exact h
      · replace h := h.2 c3
        refine gs0 19 [(0, .inr (.inr (some b))), (1, .inl x1)] [.inr (.inr (some b))] dM_48_18 (fun _ => rfl) (Or.inr rfl) ?_
        refine gsGetR (some (b + 217)) dM_48_19 hb.2.1 rfl rfl ?_
        refine gs0 23 [(0, .inr (.inr (some b))), (1, .inl x1)] [.inl x1, .inr (.inr (some (b + 217)))] dM_48_22 (fun _ => rfl) (Or.inr rfl) ?_
        refine gsIaldN x1.toNatClampNeg (sg (b + 217) x1.toNatClampNeg) dM_48_23 hb.2.2.2.2.1 h.1 rfl rfl ?_
        replace h := h.2
        refine gs0 29 [(0, .inr (.inr (some b))), (1, .inl x1)] [.inl (sg (b + 217) x1.toNatClampNeg)] dM_48_24 (fun _ => rfl) (Or.inr rfl) ?_
        refine gsRet (r := some (.inl (sg (b + 217) x1.toNatClampNeg))) dM_48_29 (fun _ => rfl) (Or.inr rfl) ?_
        exact h
def g_49_76 (b : Nat) (b2 : Nat) (y2 : Int32) (sg : rSg) (P : Option rv → rSg → Prop) : Prop := GoS rSkel 2 4 3 none false prog_6_method_3_code 76 [(0, .inr (.inr (some b))), (1, .inr (.inr (some b2))), (2, .inl y2)] [] sg P
def g_49_105 (b : Nat) (b2 : Nat) (y2 : Int32) (sg : rSg) (P : Option rv → rSg → Prop) : Prop := GoS rSkel 2 4 3 none false prog_6_method_3_code 105 [(0, .inr (.inr (some b))), (1, .inr (.inr (some b2))), (2, .inl y2)] [] sg P
set_option maxRecDepth 100000 in
theorem w_49_76 (sg : rSg) (b : Nat) (hb : isSea b) (b2 : Nat) (hb2 : isSea b2) (hbb : b + 223 < b2 ∨ b2 + 223 < b) (y2 : Int32) {P : Option rv → rSg → Prop} (h :
    ((sg b 8) ≤ y2 → 
      g_49_105 b b2 0 sg P) ∧
    (¬ ((sg b 8) ≤ y2) → 
      EvS rSkel 1 35 [.inr (.inr (some b)), .inl y2] sg (fun v5 t6 => ∃ q8, v5 = some (.inr (.inr (some q8))) ∧ isSt q8 ∧
        EvS rSkel 1 35 [.inr (.inr (some b2)), .inl y2] t6 (fun v10 t11 => ∃ q13, v10 = some (.inr (.inr (some q13))) ∧ isSt q13 ∧
          EvS rSkel 1 53 [.inr (.inr (some q8)), .inr (.inr (some q13))] t11 (fun v15 t16 => v15 = none ∧
            g_49_76 b b2 (y2 + 1) t16 P))))) : g_49_76 b b2 y2 sg P := by
  show GoS rSkel 2 4 3 none false prog_6_method_3_code 76 [(0, .inr (.inr (some b))), (1, .inr (.inr (some b2))), (2, .inl y2)] [] sg P
  have b_b := hb.1
  have b_b2 := hb2.1
  refine gs0 77 [(0, .inr (.inr (some b))), (1, .inr (.inr (some b2))), (2, .inl y2)] [.inl y2] dM_49_76 (fun _ => rfl) (Or.inr rfl) ?_
  refine gs0 78 [(0, .inr (.inr (some b))), (1, .inr (.inr (some b2))), (2, .inl y2)] [.inr (.inr (some b)), .inl y2] dM_49_77 (fun _ => rfl) (Or.inr rfl) ?_
  refine gsGetE (sg b 8) dM_49_78 hb.2.1 rfl rfl rfl ?_
  refine gsIf (t := 103) (C := (sg b 8) ≤ y2) (r := []) dM_49_81 (fun _ => rfl) (Or.inr rfl) (rTest_iff .ge y2 (sg b 8)) (fun c4 => ?_) (fun c4 => ?_)
  · replace h := h.1 c4
    refine gs0 104 [(0, .inr (.inr (some b))), (1, .inr (.inr (some b2))), (2, .inl y2)] [.inl 0] dM_49_103 (fun _ => rfl) (Or.inr rfl) ?_
    refine gs0 105 [(2, .inl 0), (0, .inr (.inr (some b))), (1, .inr (.inr (some b2)))] [] dM_49_104 (fun _ => rfl) (Or.inr rfl) ?_
    exact GoS.sub (Lnd_keys (ks := [0, 1, 2]) rfl (by decide)) (Lsub_cons rfl (Lsub_cons rfl (Lsub_cons rfl Lsub_nil))) h
  · replace h := h.2 c4
    refine gs0 85 [(0, .inr (.inr (some b))), (1, .inr (.inr (some b2))), (2, .inl y2)] [.inr (.inr (some b))] dM_49_84 (fun _ => rfl) (Or.inr rfl) ?_
    refine gs0 86 [(0, .inr (.inr (some b))), (1, .inr (.inr (some b2))), (2, .inl y2)] [.inl y2, .inr (.inr (some b))] dM_49_85 (fun _ => rfl) (Or.inr rfl) ?_
    refine gsCallV (y := 35) (k := b) (as := [.inr (.inr (some b)), .inl y2]) (r := []) dM_49_86 rfl rfl rfl (Nat.le_of_ble_eq_true rfl) hb.2.1 rfl (Nat.le_of_ble_eq_true rfl) (EvS.up h (Nat.le_of_ble_eq_true rfl)) (fun v5 t6 hv7 => ?_)
    obtain ⟨q8, rfl, hq9, hn⟩ := hv7
    have b_q8 := hq9.1
    clear h
    show GoS _ _ _ _ _ _ _ _ [(0, .inr (.inr (some b))), (1, .inr (.inr (some b2))), (2, .inl y2)] [.inr (.inr (some q8))] t6 _
    refine gs0 90 [(0, .inr (.inr (some b))), (1, .inr (.inr (some b2))), (2, .inl y2)] [.inr (.inr (some b2)), .inr (.inr (some q8))] dM_49_89 (fun _ => rfl) (Or.inr rfl) ?_
    refine gs0 91 [(0, .inr (.inr (some b))), (1, .inr (.inr (some b2))), (2, .inl y2)] [.inl y2, .inr (.inr (some b2)), .inr (.inr (some q8))] dM_49_90 (fun _ => rfl) (Or.inr rfl) ?_
    refine gsCallV (y := 35) (k := b2) (as := [.inr (.inr (some b2)), .inl y2]) (r := [.inr (.inr (some q8))]) dM_49_91 rfl rfl rfl (Nat.le_of_ble_eq_true rfl) hb2.2.1 rfl (Nat.le_of_ble_eq_true rfl) (EvS.up hn (Nat.le_of_ble_eq_true rfl)) (fun v10 t11 hv12 => ?_)
    obtain ⟨q13, rfl, hq14, hnn⟩ := hv12
    have b_q13 := hq14.1
    clear hn
    show GoS _ _ _ _ _ _ _ _ [(0, .inr (.inr (some b))), (1, .inr (.inr (some b2))), (2, .inl y2)] [.inr (.inr (some q13)), .inr (.inr (some q8))] t11 _
    refine gsCallV (y := 53) (k := q8) (as := [.inr (.inr (some q8)), .inr (.inr (some q13))]) (r := []) dM_49_94 rfl rfl rfl (Nat.le_of_ble_eq_true rfl) hq9.2.1 rfl (Nat.le_of_ble_eq_true rfl) (EvS.up hnn (Nat.le_of_ble_eq_true rfl)) (fun v15 t16 hv17 => ?_)
    obtain ⟨rfl, hnnn⟩ := hv17
    clear hnn
    show GoS _ _ _ _ _ _ _ _ [(0, .inr (.inr (some b))), (1, .inr (.inr (some b2))), (2, .inl y2)] [] t16 _
    refine gs0 100 [(2, .inl (y2 + 1)), (0, .inr (.inr (some b))), (1, .inr (.inr (some b2)))] [] dM_49_97 (fun _ => rfl) (Or.inr rfl) ?_
    refine gs0 76 [(2, .inl (y2 + 1)), (0, .inr (.inr (some b))), (1, .inr (.inr (some b2)))] [] dM_49_100 (fun _ => rfl) (Or.inr rfl) ?_
    exact GoS.sub (Lnd_keys (ks := [0, 1, 2]) rfl (by decide)) (Lsub_cons rfl (Lsub_cons rfl (Lsub_cons rfl Lsub_nil))) hnnn
set_option maxRecDepth 100000 in
theorem w_49_105 (sg : rSg) (b : Nat) (hb : isSea b) (b2 : Nat) (hb2 : isSea b2) (hbb : b + 223 < b2 ∨ b2 + 223 < b) (y2 : Int32) {P : Option rv → rSg → Prop} (h :
    ((sg b 10) ≤ y2 → 
      P none sg) ∧
    (¬ ((sg b 10) ≤ y2) → 
      EvS rSkel 1 40 [.inr (.inr (some b)), .inl y2] sg (fun v19 t20 => ∃ q22, v19 = some (.inr (.inr (some q22))) ∧ isSt q22 ∧
        EvS rSkel 1 40 [.inr (.inr (some b2)), .inl y2] t20 (fun v24 t25 => ∃ q27, v24 = some (.inr (.inr (some q27))) ∧ isSt q27 ∧
          EvS rSkel 1 53 [.inr (.inr (some q22)), .inr (.inr (some q27))] t25 (fun v29 t30 => v29 = none ∧
            (rIn y2 30 = true ∧
            rIn y2 30 = true ∧
            g_49_105 b b2 (y2 + 1) (up2 t30 (b + 217) y2.toNatClampNeg (t30 (b2 + 217) y2.toNatClampNeg)) P)))))) : g_49_105 b b2 y2 sg P := by
  show GoS rSkel 2 4 3 none false prog_6_method_3_code 105 [(0, .inr (.inr (some b))), (1, .inr (.inr (some b2))), (2, .inl y2)] [] sg P
  have b_b := hb.1
  have b_b2 := hb2.1
  refine gs0 106 [(0, .inr (.inr (some b))), (1, .inr (.inr (some b2))), (2, .inl y2)] [.inl y2] dM_49_105 (fun _ => rfl) (Or.inr rfl) ?_
  refine gs0 107 [(0, .inr (.inr (some b))), (1, .inr (.inr (some b2))), (2, .inl y2)] [.inr (.inr (some b)), .inl y2] dM_49_106 (fun _ => rfl) (Or.inr rfl) ?_
  refine gsGetE (sg b 10) dM_49_107 hb.2.1 rfl rfl rfl ?_
  refine gsIf (t := 144) (C := (sg b 10) ≤ y2) (r := []) dM_49_110 (fun _ => rfl) (Or.inr rfl) (rTest_iff .ge y2 (sg b 10)) (fun c18 => ?_) (fun c18 => ?_)
  · replace h := h.1 c18
    refine gsRet (r := none) dM_49_144 (fun _ => rfl) (Or.inr rfl) ?_
    exact h
  · replace h := h.2 c18
    refine gs0 114 [(0, .inr (.inr (some b))), (1, .inr (.inr (some b2))), (2, .inl y2)] [.inr (.inr (some b))] dM_49_113 (fun _ => rfl) (Or.inr rfl) ?_
    refine gs0 115 [(0, .inr (.inr (some b))), (1, .inr (.inr (some b2))), (2, .inl y2)] [.inl y2, .inr (.inr (some b))] dM_49_114 (fun _ => rfl) (Or.inr rfl) ?_
    refine gsCallV (y := 40) (k := b) (as := [.inr (.inr (some b)), .inl y2]) (r := []) dM_49_115 rfl rfl rfl (Nat.le_of_ble_eq_true rfl) hb.2.1 rfl (Nat.le_of_ble_eq_true rfl) (EvS.up h (Nat.le_of_ble_eq_true rfl)) (fun v19 t20 hv21 => ?_)
    obtain ⟨q22, rfl, hq23, hn⟩ := hv21
    have b_q22 := hq23.1
    clear h
    show GoS _ _ _ _ _ _ _ _ [(0, .inr (.inr (some b))), (1, .inr (.inr (some b2))), (2, .inl y2)] [.inr (.inr (some q22))] t20 _
    refine gs0 119 [(0, .inr (.inr (some b))), (1, .inr (.inr (some b2))), (2, .inl y2)] [.inr (.inr (some b2)), .inr (.inr (some q22))] dM_49_118 (fun _ => rfl) (Or.inr rfl) ?_
    refine gs0 120 [(0, .inr (.inr (some b))), (1, .inr (.inr (some b2))), (2, .inl y2)] [.inl y2, .inr (.inr (some b2)), .inr (.inr (some q22))] dM_49_119 (fun _ => rfl) (Or.inr rfl) ?_
    refine gsCallV (y := 40) (k := b2) (as := [.inr (.inr (some b2)), .inl y2]) (r := [.inr (.inr (some q22))]) dM_49_120 rfl rfl rfl (Nat.le_of_ble_eq_true rfl) hb2.2.1 rfl (Nat.le_of_ble_eq_true rfl) (EvS.up hn (Nat.le_of_ble_eq_true rfl)) (fun v24 t25 hv26 => ?_)
    obtain ⟨q27, rfl, hq28, hnn⟩ := hv26
    have b_q27 := hq28.1
    clear hn
    show GoS _ _ _ _ _ _ _ _ [(0, .inr (.inr (some b))), (1, .inr (.inr (some b2))), (2, .inl y2)] [.inr (.inr (some q27)), .inr (.inr (some q22))] t25 _
    refine gsCallV (y := 53) (k := q22) (as := [.inr (.inr (some q22)), .inr (.inr (some q27))]) (r := []) dM_49_123 rfl rfl rfl (Nat.le_of_ble_eq_true rfl) hq23.2.1 rfl (Nat.le_of_ble_eq_true rfl) (EvS.up hnn (Nat.le_of_ble_eq_true rfl)) (fun v29 t30 hv31 => ?_)
    obtain ⟨rfl, hnnn⟩ := hv31
    clear hnn
    show GoS _ _ _ _ _ _ _ _ [(0, .inr (.inr (some b))), (1, .inr (.inr (some b2))), (2, .inl y2)] [] t30 _
    refine gs0 127 [(0, .inr (.inr (some b))), (1, .inr (.inr (some b2))), (2, .inl y2)] [.inr (.inr (some b))] dM_49_126 (fun _ => rfl) (Or.inr rfl) ?_
    refine gsGetR (some (b + 217)) dM_49_127 hb.2.1 rfl rfl ?_
    refine gs0 131 [(0, .inr (.inr (some b))), (1, .inr (.inr (some b2))), (2, .inl y2)] [.inl y2, .inr (.inr (some (b + 217)))] dM_49_130 (fun _ => rfl) (Or.inr rfl) ?_
    refine gs0 132 [(0, .inr (.inr (some b))), (1, .inr (.inr (some b2))), (2, .inl y2)] [.inr (.inr (some b2)), .inl y2, .inr (.inr (some (b + 217)))] dM_49_131 (fun _ => rfl) (Or.inr rfl) ?_
    refine gsGetR (some (b2 + 217)) dM_49_132 hb2.2.1 rfl rfl ?_
    refine gs0 136 [(0, .inr (.inr (some b))), (1, .inr (.inr (some b2))), (2, .inl y2)] [.inl y2, .inr (.inr (some (b2 + 217))), .inl y2, .inr (.inr (some (b + 217)))] dM_49_135 (fun _ => rfl) (Or.inr rfl) ?_
    refine gsIaldN y2.toNatClampNeg (t30 (b2 + 217) y2.toNatClampNeg) dM_49_136 hb2.2.2.2.2.1 hnnn.1 rfl rfl ?_
    replace hnnn := hnnn.2
    refine gsIastN y2.toNatClampNeg dM_49_137 hb.2.2.2.2.1 hnnn.1 rfl ?_
    replace hnnn := hnnn.2
    refine gs0 141 [(2, .inl (y2 + 1)), (0, .inr (.inr (some b))), (1, .inr (.inr (some b2)))] [] dM_49_138 (fun _ => rfl) (Or.inr rfl) ?_
    refine gs0 105 [(2, .inl (y2 + 1)), (0, .inr (.inr (some b))), (1, .inr (.inr (some b2)))] [] dM_49_141 (fun _ => rfl) (Or.inr rfl) ?_
    exact GoS.sub (Lnd_keys (ks := [0, 1, 2]) rfl (by decide)) (Lsub_cons rfl (Lsub_cons rfl (Lsub_cons rfl Lsub_nil))) hnnn
set_option maxRecDepth 100000 in
/-- GoalsInAQueue$Search.copy -/
theorem w_49 (sg : rSg) (b : Nat) (hb : isSea b) (b2 : Nat) (hb2 : isSea b2) (hbb : b + 223 < b2 ∨ b2 + 223 < b) {P : Option rv → rSg → Prop} (h :
    EvS rSkel 2 31 [.inr (.inr (some (b + 1))), .inr (.inr (some (b2 + 1)))] sg (fun v1 t2 => v1 = none ∧
      g_49_76 b b2 0 (up2 (up2 (up2 (up2 (up2 (up2 t2 b 7 0) b 8 (imin (imax (t2 b2 8) 0) 40)) b 9 (t2 b2 9)) b 10 (imin (imax (t2 b2 10) 0) 30)) b 11 (t2 b2 11)) b 12 (t2 b2 12)) P)) : EvS rSkel 3 49 [.inr (.inr (some b)), .inr (.inr (some b2))] sg P := by
  refine EvS.of (ini := false) rfl ⟨rfl, Nat.le_of_ble_eq_true rfl⟩ rfl ?_
  show GoS rSkel 2 4 3 none false prog_6_method_3_code 0 [(0, .inr (.inr (some b))), (1, .inr (.inr (some b2)))] [] sg _
  have b_b := hb.1
  have b_b2 := hb2.1
  refine gs0 1 [(0, .inr (.inr (some b))), (1, .inr (.inr (some b2)))] [.inr (.inr (some b))] dM_49_0 (fun _ => rfl) (Or.inr rfl) ?_
  refine gsGetR (some (b + 1)) dM_49_1 hb.2.1 rfl rfl ?_
  refine gs0 5 [(0, .inr (.inr (some b))), (1, .inr (.inr (some b2)))] [.inr (.inr (some b2)), .inr (.inr (some (b + 1)))] dM_49_4 (fun _ => rfl) (Or.inr rfl) ?_
  refine gsGetR (some (b2 + 1)) dM_49_5 hb2.2.1 rfl rfl ?_
  refine gsCallV (y := 31) (k := b + 1) (as := [.inr (.inr (some (b + 1))), .inr (.inr (some (b2 + 1)))]) (r := []) dM_49_8 rfl rfl rfl (Nat.le_of_ble_eq_true rfl) hb.2.2.2.2.2.1.2.1 rfl (Nat.le_of_ble_eq_true rfl) (EvS.up h (Nat.le_of_ble_eq_true rfl)) (fun v1 t2 hv3 => ?_)
  obtain ⟨rfl, hn⟩ := hv3
  clear h
  show GoS _ _ _ _ _ _ _ _ [(0, .inr (.inr (some b))), (1, .inr (.inr (some b2)))] [] t2 _
  refine gs0 12 [(0, .inr (.inr (some b))), (1, .inr (.inr (some b2)))] [.inr (.inr (some b))] dM_49_11 (fun _ => rfl) (Or.inr rfl) ?_
  refine gs0 13 [(0, .inr (.inr (some b))), (1, .inr (.inr (some b2)))] [.inl 0, .inr (.inr (some b))] dM_49_12 (fun _ => rfl) (Or.inr rfl) ?_
  refine gsPut dM_49_13 hb.2.1 rfl rfl rfl (by decide) ?_
  refine gs0 17 [(0, .inr (.inr (some b))), (1, .inr (.inr (some b2)))] [.inr (.inr (some b))] dM_49_16 (fun _ => rfl) (Or.inr rfl) ?_
  refine gs0 18 [(0, .inr (.inr (some b))), (1, .inr (.inr (some b2)))] [.inr (.inr (some b2)), .inr (.inr (some b))] dM_49_17 (fun _ => rfl) (Or.inr rfl) ?_
  refine gsGetE (t2 b2 8) dM_49_18 hb2.2.1 rfl rfl (congrFun (up2_nk _ _ _ (by omega)) _) ?_
  refine gs0 22 [(0, .inr (.inr (some b))), (1, .inr (.inr (some b2)))] [.inl 0, .inl (t2 b2 8), .inr (.inr (some b))] dM_49_21 (fun _ => rfl) (Or.inr rfl) ?_
  refine gs0 25 [(0, .inr (.inr (some b))), (1, .inr (.inr (some b2)))] [.inl (imax (t2 b2 8) 0), .inr (.inr (some b))] dM_49_22 (fun _ => rfl) (Or.inr rfl) ?_
  refine gs0 27 [(0, .inr (.inr (some b))), (1, .inr (.inr (some b2)))] [.inl 40, .inl (imax (t2 b2 8) 0), .inr (.inr (some b))] dM_49_25 (fun _ => rfl) (Or.inr rfl) ?_
  refine gs0 30 [(0, .inr (.inr (some b))), (1, .inr (.inr (some b2)))] [.inl (imin (imax (t2 b2 8) 0) 40), .inr (.inr (some b))] dM_49_27 (fun _ => rfl) (Or.inr rfl) ?_
  refine gsPut dM_49_30 hb.2.1 rfl rfl rfl (by decide) ?_
  refine gs0 34 [(0, .inr (.inr (some b))), (1, .inr (.inr (some b2)))] [.inr (.inr (some b))] dM_49_33 (fun _ => rfl) (Or.inr rfl) ?_
  refine gs0 35 [(0, .inr (.inr (some b))), (1, .inr (.inr (some b2)))] [.inr (.inr (some b2)), .inr (.inr (some b))] dM_49_34 (fun _ => rfl) (Or.inr rfl) ?_
  refine gsGetE (t2 b2 9) dM_49_35 hb2.2.1 rfl rfl ((congrFun (up2_nk _ _ _ (by omega)) _).trans (congrFun (up2_nk _ _ _ (by omega)) _)) ?_
  refine gsPut dM_49_38 hb.2.1 rfl rfl rfl (by decide) ?_
  refine gs0 42 [(0, .inr (.inr (some b))), (1, .inr (.inr (some b2)))] [.inr (.inr (some b))] dM_49_41 (fun _ => rfl) (Or.inr rfl) ?_
  refine gs0 43 [(0, .inr (.inr (some b))), (1, .inr (.inr (some b2)))] [.inr (.inr (some b2)), .inr (.inr (some b))] dM_49_42 (fun _ => rfl) (Or.inr rfl) ?_
  refine gsGetE (t2 b2 10) dM_49_43 hb2.2.1 rfl rfl ((congrFun (up2_nk _ _ _ (by omega)) _).trans ((congrFun (up2_nk _ _ _ (by omega)) _).trans (congrFun (up2_nk _ _ _ (by omega)) _))) ?_
  refine gs0 47 [(0, .inr (.inr (some b))), (1, .inr (.inr (some b2)))] [.inl 0, .inl (t2 b2 10), .inr (.inr (some b))] dM_49_46 (fun _ => rfl) (Or.inr rfl) ?_
  refine gs0 50 [(0, .inr (.inr (some b))), (1, .inr (.inr (some b2)))] [.inl (imax (t2 b2 10) 0), .inr (.inr (some b))] dM_49_47 (fun _ => rfl) (Or.inr rfl) ?_
  refine gs0 52 [(0, .inr (.inr (some b))), (1, .inr (.inr (some b2)))] [.inl 30, .inl (imax (t2 b2 10) 0), .inr (.inr (some b))] dM_49_50 (fun _ => rfl) (Or.inr rfl) ?_
  refine gs0 55 [(0, .inr (.inr (some b))), (1, .inr (.inr (some b2)))] [.inl (imin (imax (t2 b2 10) 0) 30), .inr (.inr (some b))] dM_49_52 (fun _ => rfl) (Or.inr rfl) ?_
  refine gsPut dM_49_55 hb.2.1 rfl rfl rfl (by decide) ?_
  refine gs0 59 [(0, .inr (.inr (some b))), (1, .inr (.inr (some b2)))] [.inr (.inr (some b))] dM_49_58 (fun _ => rfl) (Or.inr rfl) ?_
  refine gs0 60 [(0, .inr (.inr (some b))), (1, .inr (.inr (some b2)))] [.inr (.inr (some b2)), .inr (.inr (some b))] dM_49_59 (fun _ => rfl) (Or.inr rfl) ?_
  refine gsGetE (t2 b2 11) dM_49_60 hb2.2.1 rfl rfl ((congrFun (up2_nk _ _ _ (by omega)) _).trans ((congrFun (up2_nk _ _ _ (by omega)) _).trans ((congrFun (up2_nk _ _ _ (by omega)) _).trans (congrFun (up2_nk _ _ _ (by omega)) _)))) ?_
  refine gsPut dM_49_63 hb.2.1 rfl rfl rfl (by decide) ?_
  refine gs0 67 [(0, .inr (.inr (some b))), (1, .inr (.inr (some b2)))] [.inr (.inr (some b))] dM_49_66 (fun _ => rfl) (Or.inr rfl) ?_
  refine gs0 68 [(0, .inr (.inr (some b))), (1, .inr (.inr (some b2)))] [.inr (.inr (some b2)), .inr (.inr (some b))] dM_49_67 (fun _ => rfl) (Or.inr rfl) ?_
  refine gsGetE (t2 b2 12) dM_49_68 hb2.2.1 rfl rfl ((congrFun (up2_nk _ _ _ (by omega)) _).trans ((congrFun (up2_nk _ _ _ (by omega)) _).trans ((congrFun (up2_nk _ _ _ (by omega)) _).trans ((congrFun (up2_nk _ _ _ (by omega)) _).trans (congrFun (up2_nk _ _ _ (by omega)) _))))) ?_
  refine gsPut dM_49_71 hb.2.1 rfl rfl rfl (by decide) ?_
  refine gs0 75 [(0, .inr (.inr (some b))), (1, .inr (.inr (some b2)))] [.inl 0] dM_49_74 (fun _ => rfl) (Or.inr rfl) ?_
  refine gs0 76 [(2, .inl 0), (0, .inr (.inr (some b))), (1, .inr (.inr (some b2)))] [] dM_49_75 (fun _ => rfl) (Or.inr rfl) ?_
  exact GoS.sub (Lnd_keys (ks := [0, 1, 2]) rfl (by decide)) (Lsub_cons rfl (Lsub_cons rfl (Lsub_cons rfl Lsub_nil))) hn
set_option maxRecDepth 100000 in
/-- GoalsInAQueue$State.reset -/
theorem w_51 (sg : rSg) (k : Nat) (hk : isSt k) {P : Option rv → rSg → Prop} (h :
    EvS rSkel 1 209 [.inr (.inr (some (k + 1))), .inl ((-1))] sg (fun v1 t2 => v1 = none ∧
      P none (up2 (up2 (up2 t2 k 2 6) k 3 0) k 4 0))) : EvS rSkel 2 51 [.inr (.inr (some k))] sg P := by
  refine EvS.of (ini := false) rfl ⟨rfl, Nat.le_of_ble_eq_true rfl⟩ rfl ?_
  show GoS rSkel 1 5 1 none false prog_7_method_2_code 0 [(0, .inr (.inr (some k)))] [] sg _
  have b_k := hk.1
  refine gs0 1 [(0, .inr (.inr (some k)))] [.inr (.inr (some k))] dM_51_0 (fun _ => rfl) (Or.inr rfl) ?_
  refine gsGetR (some (k + 1)) dM_51_1 hk.2.1 rfl rfl ?_
  refine gs0 5 [(0, .inr (.inr (some k)))] [.inl ((-1)), .inr (.inr (some (k + 1)))] dM_51_4 (fun _ => rfl) (Or.inr rfl) ?_
  refine gsCallS (y := 209) (as := [.inr (.inr (some (k + 1))), .inl ((-1))]) (r := []) dM_51_5 rfl (Or.inl rfl) rfl rfl (Nat.le_of_ble_eq_true rfl) (EvS.up h (Nat.le_of_ble_eq_true rfl)) (fun v1 t2 hv3 => ?_)
  obtain ⟨rfl, hn⟩ := hv3
  clear h
  show GoS _ _ _ _ _ _ _ _ [(0, .inr (.inr (some k)))] [] t2 _
  refine gs0 9 [(0, .inr (.inr (some k)))] [.inr (.inr (some k))] dM_51_8 (fun _ => rfl) (Or.inr rfl) ?_
  refine gs0 11 [(0, .inr (.inr (some k)))] [.inl 6, .inr (.inr (some k))] dM_51_9 (fun _ => rfl) (Or.inr rfl) ?_
  refine gsPut dM_51_11 hk.2.1 rfl rfl rfl (by decide) ?_
  refine gs0 15 [(0, .inr (.inr (some k)))] [.inr (.inr (some k))] dM_51_14 (fun _ => rfl) (Or.inr rfl) ?_
  refine gs0 16 [(0, .inr (.inr (some k)))] [.inl 0, .inr (.inr (some k))] dM_51_15 (fun _ => rfl) (Or.inr rfl) ?_
  refine gsPut dM_51_16 hk.2.1 rfl rfl rfl (by decide) ?_
  refine gs0 20 [(0, .inr (.inr (some k)))] [.inr (.inr (some k))] dM_51_19 (fun _ => rfl) (Or.inr rfl) ?_
  refine gs0 21 [(0, .inr (.inr (some k)))] [.inl 0, .inr (.inr (some k))] dM_51_20 (fun _ => rfl) (Or.inr rfl) ?_
  refine gsPut dM_51_21 hk.2.1 rfl rfl rfl (by decide) ?_
  refine gsRet (r := none) dM_51_24 (fun _ => rfl) (Or.inr rfl) ?_
  exact hn
set_option maxRecDepth 100000 in
/-- GoalsInAQueue$State.push -/
theorem w_52 (sg : rSg) (k : Nat) (hk : isSt k) (x1 : Int32) {P : Option rv → rSg → Prop} (h :
    ((sg k 3) < 0 → 
      P none sg) ∧
    (¬ ((sg k 3) < 0) → 
      (32 ≤ (sg k 3) → 
        P none sg) ∧
      (¬ (32 ≤ (sg k 3)) → 
        (rIn (sg k 3) 32 = true ∧
        P none (up2 (up2 sg (k + 2) ((sg k 3).toNatClampNeg) x1) k 3 ((sg k 3) + 1)))))) : EvS rSkel 1 52 [.inr (.inr (some k)), .inl x1] sg P := by
  refine EvS.of (ini := false) rfl ⟨rfl, Nat.le_of_ble_eq_true rfl⟩ rfl ?_
  show GoS rSkel 0 5 2 none false prog_7_method_5_code 0 [(0, .inr (.inr (some k))), (1, .inl x1)] [] sg _
  have b_k := hk.1
  refine gs0 1 [(0, .inr (.inr (some k))), (1, .inl x1)] [.inr (.inr (some k))] dM_52_0 (fun _ => rfl) (Or.inr rfl) ?_
  refine gsGetE (sg k 3) dM_52_1 hk.2.1 rfl rfl rfl ?_
  refine gsIf (t := 36) (C := (sg k 3) < 0) (r := []) dM_52_4 (fun _ => rfl) (Or.inr rfl) (rTest_iff .lt (sg k 3) 0) (fun c1 => ?_) (fun c1 => ?_)
  · replace h := h.1 c1
    refine gsRet (r := none) dM_52_36 (fun _ => rfl) (Or.inr rfl) ?_
    exact h
  · replace h := h.2 c1
    refine gs0 8 [(0, .inr (.inr (some k))), (1, .inl x1)] [.inr (.inr (some k))] dM_52_7 (fun _ => rfl) (Or.inr rfl) ?_
    refine gsGetE (sg k 3) dM_52_8 hk.2.1 rfl rfl rfl ?_
    refine gs0 13 [(0, .inr (.inr (some k))), (1, .inl x1)] [.inl 32, .inl (sg k 3)] dM_52_11 (fun _ => rfl) (Or.inr rfl) ?_
    refine gsIf (t := 36) (C := 32 ≤ (sg k 3)) (r := []) dM_52_13 (fun _ => rfl) (Or.inr rfl) (rTest_iff .ge (sg k 3) 32) (fun c2 => ?_) (fun c2 => ?_)
    · replace h := h.1 c2
      refine gsRet (r := none) dM_52_36 (fun _ => rfl) (Or.inr rfl) ?_
      exact h
    · replace h := h.2 c2
      refine gs0 17 [(0, .inr (.inr (some k))), (1, .inl x1)] [.inr (.inr (some k))] dM_52_16 (fun _ => rfl) (Or.inr rfl) ?_
      refine gsGetR (some (k + 2)) dM_52_17 hk.2.1 rfl rfl ?_
      refine gs0 21 [(0, .inr (.inr (some k))), (1, .inl x1)] [.inr (.inr (some k)), .inr (.inr (some (k + 2)))] dM_52_20 (fun _ => rfl) (Or.inr rfl) ?_
      refine gsGetE (sg k 3) dM_52_21 hk.2.1 rfl rfl rfl ?_
      refine gs0 25 [(0, .inr (.inr (some k))), (1, .inl x1)] [.inl x1, .inl (sg k 3), .inr (.inr (some (k + 2)))] dM_52_24 (fun _ => rfl) (Or.inr rfl) ?_
      refine gsIastN ((sg k 3).toNatClampNeg) dM_52_25 hk.2.2.2 h.1 rfl ?_
      replace h := h.2
      refine gs0 27 [(0, .inr (.inr (some k))), (1, .inl x1)] [.inr (.inr (some k))] dM_52_26 (fun _ => rfl) (Or.inr rfl) ?_
      refine gs0 28 [(0, .inr (.inr (some k))), (1, .inl x1)] [.inr (.inr (some k)), .inr (.inr (some k))] dM_52_27 (fun _ => rfl) (Or.inr rfl) ?_
      refine gsGetE (sg k 3) dM_52_28 hk.2.1 rfl rfl (congrFun (up2_nk _ _ _ (by omega)) _) ?_
      refine gs0 32 [(0, .inr (.inr (some k))), (1, .inl x1)] [.inl 1, .inl (sg k 3), .inr (.inr (some k))] dM_52_31 (fun _ => rfl) (Or.inr rfl) ?_
      refine gs0 33 [(0, .inr (.inr (some k))), (1, .inl x1)] [.inl ((sg k 3) + 1), .inr (.inr (some k))] dM_52_32 (fun _ => rfl) (Or.inr rfl) ?_
      refine gsPut dM_52_33 hk.2.1 rfl rfl rfl (by decide) ?_
      refine gsRet (r := none) dM_52_36 (fun _ => rfl) (Or.inr rfl) ?_
      exact h
set_option maxRecDepth 100000 in
/-- GoalsInAQueue$State.copy -/
theorem w_53 (sg : rSg) (k : Nat) (hk : isSt k) (k2 : Nat) (hk2 : isSt k2) (hkk : k + 2 < k2 ∨ k2 + 2 < k) {P : Option rv → rSg → Prop} (h :
    ((¬ (0 : Int32) < 0 ∧ ¬ (0 : Int32) < 0 ∧ ¬ (imin (imax (sg k2 2) 0) 64) < 0 ∧ (0 : Int32).toNatClampNeg + (imin (imax (sg k2 2) 0) 64).toNatClampNeg ≤ 64 ∧ (0 : Int32).toNatClampNeg + (imin (imax (sg k2 2) 0) 64).toNatClampNeg ≤ 64) ∧
    (¬ (0 : Int32) < 0 ∧ ¬ (0 : Int32) < 0 ∧ ¬ (imin (imax (sg k2 3) 0) 32) < 0 ∧ (0 : Int32).toNatClampNeg + (imin (imax (sg k2 3) 0) 32).toNatClampNeg ≤ 32 ∧ (0 : Int32).toNatClampNeg + (imin (imax (sg k2 3) 0) 32).toNatClampNeg ≤ 32) ∧
    P none (upC (upC (up2 (up2 (up2 sg k 2 (imin (imax (sg k2 2) 0) 64)) k 3 (imin (imax (sg k2 3) 0) 32)) k 4 (sg k2 4)) (k + 1) (va_cpy ((up2 (up2 (up2 sg k 2 (imin (imax (sg k2 2) 0) 64)) k 3 (imin (imax (sg k2 3) 0) 32)) k 4 (sg k2 4)) (k2 + 1)) ((up2 (up2 (up2 sg k 2 (imin (imax (sg k2 2) 0) 64)) k 3 (imin (imax (sg k2 3) 0) 32)) k 4 (sg k2 4)) (k + 1)) (0 : Int32).toNatClampNeg (0 : Int32).toNatClampNeg (imin (imax (sg k2 2) 0) 64).toNatClampNeg)) (k + 2) (va_cpy ((upC (up2 (up2 (up2 sg k 2 (imin (imax (sg k2 2) 0) 64)) k 3 (imin (imax (sg k2 3) 0) 32)) k 4 (sg k2 4)) (k + 1) (va_cpy ((up2 (up2 (up2 sg k 2 (imin (imax (sg k2 2) 0) 64)) k 3 (imin (imax (sg k2 3) 0) 32)) k 4 (sg k2 4)) (k2 + 1)) ((up2 (up2 (up2 sg k 2 (imin (imax (sg k2 2) 0) 64)) k 3 (imin (imax (sg k2 3) 0) 32)) k 4 (sg k2 4)) (k + 1)) (0 : Int32).toNatClampNeg (0 : Int32).toNatClampNeg (imin (imax (sg k2 2) 0) 64).toNatClampNeg)) (k2 + 2)) ((upC (up2 (up2 (up2 sg k 2 (imin (imax (sg k2 2) 0) 64)) k 3 (imin (imax (sg k2 3) 0) 32)) k 4 (sg k2 4)) (k + 1) (va_cpy ((up2 (up2 (up2 sg k 2 (imin (imax (sg k2 2) 0) 64)) k 3 (imin (imax (sg k2 3) 0) 32)) k 4 (sg k2 4)) (k2 + 1)) ((up2 (up2 (up2 sg k 2 (imin (imax (sg k2 2) 0) 64)) k 3 (imin (imax (sg k2 3) 0) 32)) k 4 (sg k2 4)) (k + 1)) (0 : Int32).toNatClampNeg (0 : Int32).toNatClampNeg (imin (imax (sg k2 2) 0) 64).toNatClampNeg)) (k + 2)) (0 : Int32).toNatClampNeg (0 : Int32).toNatClampNeg (imin (imax (sg k2 3) 0) 32).toNatClampNeg)))) : EvS rSkel 1 53 [.inr (.inr (some k)), .inr (.inr (some k2))] sg P := by
  refine EvS.of (ini := false) rfl ⟨rfl, Nat.le_of_ble_eq_true rfl⟩ rfl ?_
  show GoS rSkel 0 5 2 none false prog_7_method_3_code 0 [(0, .inr (.inr (some k))), (1, .inr (.inr (some k2)))] [] sg _
  have b_k := hk.1
  have b_k2 := hk2.1
  refine gs0 1 [(0, .inr (.inr (some k))), (1, .inr (.inr (some k2)))] [.inr (.inr (some k))] dM_53_0 (fun _ => rfl) (Or.inr rfl) ?_
  refine gs0 2 [(0, .inr (.inr (some k))), (1, .inr (.inr (some k2)))] [.inr (.inr (some k2)), .inr (.inr (some k))] dM_53_1 (fun _ => rfl) (Or.inr rfl) ?_
  refine gsGetE (sg k2 2) dM_53_2 hk2.2.1 rfl rfl rfl ?_
  refine gs0 6 [(0, .inr (.inr (some k))), (1, .inr (.inr (some k2)))] [.inl 0, .inl (sg k2 2), .inr (.inr (some k))] dM_53_5 (fun _ => rfl) (Or.inr rfl) ?_
  refine gs0 9 [(0, .inr (.inr (some k))), (1, .inr (.inr (some k2)))] [.inl (imax (sg k2 2) 0), .inr (.inr (some k))] dM_53_6 (fun _ => rfl) (Or.inr rfl) ?_
  refine gs0 11 [(0, .inr (.inr (some k))), (1, .inr (.inr (some k2)))] [.inl 64, .inl (imax (sg k2 2) 0), .inr (.inr (some k))] dM_53_9 (fun _ => rfl) (Or.inr rfl) ?_
  refine gs0 14 [(0, .inr (.inr (some k))), (1, .inr (.inr (some k2)))] [.inl (imin (imax (sg k2 2) 0) 64), .inr (.inr (some k))] dM_53_11 (fun _ => rfl) (Or.inr rfl) ?_
  refine gsPut dM_53_14 hk.2.1 rfl rfl rfl (by decide) ?_
  refine gs0 18 [(0, .inr (.inr (some k))), (1, .inr (.inr (some k2)))] [.inr (.inr (some k))] dM_53_17 (fun _ => rfl) (Or.inr rfl) ?_
  refine gs0 19 [(0, .inr (.inr (some k))), (1, .inr (.inr (some k2)))] [.inr (.inr (some k2)), .inr (.inr (some k))] dM_53_18 (fun _ => rfl) (Or.inr rfl) ?_
  refine gsGetE (sg k2 3) dM_53_19 hk2.2.1 rfl rfl (congrFun (up2_nk _ _ _ (by omega)) _) ?_
  refine gs0 23 [(0, .inr (.inr (some k))), (1, .inr (.inr (some k2)))] [.inl 0, .inl (sg k2 3), .inr (.inr (some k))] dM_53_22 (fun _ => rfl) (Or.inr rfl) ?_
  refine gs0 26 [(0, .inr (.inr (some k))), (1, .inr (.inr (some k2)))] [.inl (imax (sg k2 3) 0), .inr (.inr (some k))] dM_53_23 (fun _ => rfl) (Or.inr rfl) ?_
  refine gs0 28 [(0, .inr (.inr (some k))), (1, .inr (.inr (some k2)))] [.inl 32, .inl (imax (sg k2 3) 0), .inr (.inr (some k))] dM_53_26 (fun _ => rfl) (Or.inr rfl) ?_
  refine gs0 31 [(0, .inr (.inr (some k))), (1, .inr (.inr (some k2)))] [.inl (imin (imax (sg k2 3) 0) 32), .inr (.inr (some k))] dM_53_28 (fun _ => rfl) (Or.inr rfl) ?_
  refine gsPut dM_53_31 hk.2.1 rfl rfl rfl (by decide) ?_
  refine gs0 35 [(0, .inr (.inr (some k))), (1, .inr (.inr (some k2)))] [.inr (.inr (some k))] dM_53_34 (fun _ => rfl) (Or.inr rfl) ?_
  refine gs0 36 [(0, .inr (.inr (some k))), (1, .inr (.inr (some k2)))] [.inr (.inr (some k2)), .inr (.inr (some k))] dM_53_35 (fun _ => rfl) (Or.inr rfl) ?_
  refine gsGetE (sg k2 4) dM_53_36 hk2.2.1 rfl rfl ((congrFun (up2_nk _ _ _ (by omega)) _).trans (congrFun (up2_nk _ _ _ (by omega)) _)) ?_
  refine gsPut dM_53_39 hk.2.1 rfl rfl rfl (by decide) ?_
  refine gs0 43 [(0, .inr (.inr (some k))), (1, .inr (.inr (some k2)))] [.inr (.inr (some k2))] dM_53_42 (fun _ => rfl) (Or.inr rfl) ?_
  refine gsGetR (some (k2 + 1)) dM_53_43 hk2.2.1 rfl rfl ?_
  refine gs0 47 [(0, .inr (.inr (some k))), (1, .inr (.inr (some k2)))] [.inl 0, .inr (.inr (some (k2 + 1)))] dM_53_46 (fun _ => rfl) (Or.inr rfl) ?_
  refine gs0 48 [(0, .inr (.inr (some k))), (1, .inr (.inr (some k2)))] [.inr (.inr (some k)), .inl 0, .inr (.inr (some (k2 + 1)))] dM_53_47 (fun _ => rfl) (Or.inr rfl) ?_
  refine gsGetR (some (k + 1)) dM_53_48 hk.2.1 rfl rfl ?_
  refine gs0 52 [(0, .inr (.inr (some k))), (1, .inr (.inr (some k2)))] [.inl 0, .inr (.inr (some (k + 1))), .inl 0, .inr (.inr (some (k2 + 1)))] dM_53_51 (fun _ => rfl) (Or.inr rfl) ?_
  refine gs0 53 [(0, .inr (.inr (some k))), (1, .inr (.inr (some k2)))] [.inr (.inr (some k)), .inl 0, .inr (.inr (some (k + 1))), .inl 0, .inr (.inr (some (k2 + 1)))] dM_53_52 (fun _ => rfl) (Or.inr rfl) ?_
  refine gsGetE (imin (imax (sg k2 2) 0) 64) dM_53_53 hk.2.1 rfl rfl ((up2_nj _ _ _ (by decide)).trans ((up2_nj _ _ _ (by decide)).trans (up2_same _ _ _ _))) ?_
  refine gsCopy dM_53_56 rfl (Nat.le_of_ble_eq_true rfl) hk2.2.2.1 hk.2.2.1 h.1 ?_
  replace h := h.2
  refine gs0 60 [(0, .inr (.inr (some k))), (1, .inr (.inr (some k2)))] [.inr (.inr (some k2))] dM_53_59 (fun _ => rfl) (Or.inr rfl) ?_
  refine gsGetR (some (k2 + 2)) dM_53_60 hk2.2.1 rfl rfl ?_
  refine gs0 64 [(0, .inr (.inr (some k))), (1, .inr (.inr (some k2)))] [.inl 0, .inr (.inr (some (k2 + 2)))] dM_53_63 (fun _ => rfl) (Or.inr rfl) ?_
  refine gs0 65 [(0, .inr (.inr (some k))), (1, .inr (.inr (some k2)))] [.inr (.inr (some k)), .inl 0, .inr (.inr (some (k2 + 2)))] dM_53_64 (fun _ => rfl) (Or.inr rfl) ?_
  refine gsGetR (some (k + 2)) dM_53_65 hk.2.1 rfl rfl ?_
  refine gs0 69 [(0, .inr (.inr (some k))), (1, .inr (.inr (some k2)))] [.inl 0, .inr (.inr (some (k + 2))), .inl 0, .inr (.inr (some (k2 + 2)))] dM_53_68 (fun _ => rfl) (Or.inr rfl) ?_
  refine gs0 70 [(0, .inr (.inr (some k))), (1, .inr (.inr (some k2)))] [.inr (.inr (some k)), .inl 0, .inr (.inr (some (k + 2))), .inl 0, .inr (.inr (some (k2 + 2)))] dM_53_69 (fun _ => rfl) (Or.inr rfl) ?_
  refine gsGetE (imin (imax (sg k2 3) 0) 32) dM_53_70 hk.2.1 rfl rfl ((congrFun (upC_ne _ _ (by omega)) _).trans ((up2_nj _ _ _ (by decide)).trans (up2_same _ _ _ _))) ?_
  refine gsCopy dM_53_73 rfl (Nat.le_of_ble_eq_true rfl) hk2.2.2.2 hk.2.2.2 h.1 ?_
  replace h := h.2
  refine gsRet (r := none) dM_53_76 (fun _ => rfl) (Or.inr rfl) ?_
  exact h
set_option maxRecDepth 100000 in
/-- GoalsInAQueue$State.pop -/
theorem w_54 (sg : rSg) (k : Nat) (hk : isSt k) {P : Option rv → rSg → Prop} (h :
    ((sg k 3) < 1 → 
      P (some (.inl ((-1)))) sg) ∧
    (¬ ((sg k 3) < 1) → 
      ((sg k 3) ≤ 32 → 
        (rIn ((sg k 3) - 1) 32 = true ∧
        P (some (.inl (sg (k + 2) (((sg k 3) - 1).toNatClampNeg)))) (up2 sg k 3 ((sg k 3) - 1)))) ∧
      (¬ ((sg k 3) ≤ 32) → 
        P (some (.inl ((-1)))) sg))) : EvS rSkel 1 54 [.inr (.inr (some k))] sg P := by
  refine EvS.of (ini := false) rfl ⟨rfl, Nat.le_of_ble_eq_true rfl⟩ rfl ?_
  show GoS rSkel 0 5 1 (some .int) false prog_7_method_6_code 0 [(0, .inr (.inr (some k)))] [] sg _
  have b_k := hk.1
  refine gs0 1 [(0, .inr (.inr (some k)))] [.inr (.inr (some k))] dM_54_0 (fun _ => rfl) (Or.inr rfl) ?_
  refine gsGetE (sg k 3) dM_54_1 hk.2.1 rfl rfl rfl ?_
  refine gs0 5 [(0, .inr (.inr (some k)))] [.inl 1, .inl (sg k 3)] dM_54_4 (fun _ => rfl) (Or.inr rfl) ?_
  refine gsIf (t := 17) (C := (sg k 3) < 1) (r := []) dM_54_5 (fun _ => rfl) (Or.inr rfl) (rTest_iff .lt (sg k 3) 1) (fun c1 => ?_) (fun c1 => ?_)
  · replace h := h.1 c1
    refine gs0 18 [(0, .inr (.inr (some k)))] [.inl ((-1))] dM_54_17 (fun _ => rfl) (Or.inr rfl) ?_
    refine gsRet (r := some (.inl ((-1)))) dM_54_18 (fun _ => rfl) (Or.inr rfl) ?_
    exact h
  · replace h := h.2 c1
    refine gs0 9 [(0, .inr (.inr (some k)))] [.inr (.inr (some k))] dM_54_8 (fun _ => rfl) (Or.inr rfl) ?_
    refine gsGetE (sg k 3) dM_54_9 hk.2.1 rfl rfl rfl ?_
    refine gs0 14 [(0, .inr (.inr (some k)))] [.inl 32, .inl (sg k 3)] dM_54_12 (fun _ => rfl) (Or.inr rfl) ?_
    refine gsIf (t := 19) (C := (sg k 3) ≤ 32) (r := []) dM_54_14 (fun _ => rfl) (Or.inr rfl) (rTest_iff .le (sg k 3) 32) (fun c2 => ?_) (fun c2 => ?_)
    · replace h := h.1 c2
      refine gs0 20 [(0, .inr (.inr (some k)))] [.inr (.inr (some k))] dM_54_19 (fun _ => rfl) (Or.inr rfl) ?_
      refine gs0 21 [(0, .inr (.inr (some k)))] [.inr (.inr (some k)), .inr (.inr (some k))] dM_54_20 (fun _ => rfl) (Or.inr rfl) ?_
      refine gsGetE (sg k 3) dM_54_21 hk.2.1 rfl rfl rfl ?_
      refine gs0 25 [(0, .inr (.inr (some k)))] [.inl 1, .inl (sg k 3), .inr (.inr (some k))] dM_54_24 (fun _ => rfl) (Or.inr rfl) ?_
      refine gs0 26 [(0, .inr (.inr (some k)))] [.inl ((sg k 3) - 1), .inr (.inr (some k))] dM_54_25 (fun _ => rfl) (Or.inr rfl) ?_
      refine gsPut dM_54_26 hk.2.1 rfl rfl rfl (by decide) ?_
      refine gs0 30 [(0, .inr (.inr (some k)))] [.inr (.inr (some k))] dM_54_29 (fun _ => rfl) (Or.inr rfl) ?_
      refine gsGetR (some (k + 2)) dM_54_30 hk.2.1 rfl rfl ?_
      refine gs0 34 [(0, .inr (.inr (some k)))] [.inr (.inr (some k)), .inr (.inr (some (k + 2)))] dM_54_33 (fun _ => rfl) (Or.inr rfl) ?_
      refine gsGetE ((sg k 3) - 1) dM_54_34 hk.2.1 rfl rfl (up2_same _ _ _ _) ?_
      refine gsIaldN (((sg k 3) - 1).toNatClampNeg) (sg (k + 2) (((sg k 3) - 1).toNatClampNeg)) dM_54_37 hk.2.2.2 h.1 rfl (congrFun (up2_nk _ _ _ (by omega)) _) ?_
      replace h := h.2
      refine gsRet (r := some (.inl (sg (k + 2) (((sg k 3) - 1).toNatClampNeg)))) dM_54_38 (fun _ => rfl) (Or.inr rfl) ?_
      exact h
    · replace h := h.2 c2
      refine gs0 18 [(0, .inr (.inr (some k)))] [.inl ((-1))] dM_54_17 (fun _ => rfl) (Or.inr rfl) ?_
      refine gsRet (r := some (.inl ((-1)))) dM_54_18 (fun _ => rfl) (Or.inr rfl) ?_
      exact h
set_option maxRecDepth 100000 in
/-- GoalsInAQueue$State.keep -/
theorem w_55 (sg : rSg) (k : Nat) (hk : isSt k) (x1 : Int32) {P : Option rv → rSg → Prop} (h :
    (x1 < 0 → 
      P none sg) ∧
    (¬ (x1 < 0) → 
      (32 ≤ x1 → 
        P none sg) ∧
      (¬ (32 ≤ x1) → 
        P none (up2 sg k 4 ((sg k 4) ||| (1 <<< (x1 &&& 31))))))) : EvS rSkel 1 55 [.inr (.inr (some k)), .inl x1] sg P := by
  refine EvS.of (ini := false) rfl ⟨rfl, Nat.le_of_ble_eq_true rfl⟩ rfl ?_
  show GoS rSkel 0 5 2 none false prog_7_method_7_code 0 [(0, .inr (.inr (some k))), (1, .inl x1)] [] sg _
  have b_k := hk.1
  refine gs0 1 [(0, .inr (.inr (some k))), (1, .inl x1)] [.inl x1] dM_55_0 (fun _ => rfl) (Or.inr rfl) ?_
  refine gsIf (t := 22) (C := x1 < 0) (r := []) dM_55_1 (fun _ => rfl) (Or.inr rfl) (rTest_iff .lt x1 0) (fun c1 => ?_) (fun c1 => ?_)
  · replace h := h.1 c1
    refine gsRet (r := none) dM_55_22 (fun _ => rfl) (Or.inr rfl) ?_
    exact h
  · replace h := h.2 c1
    refine gs0 5 [(0, .inr (.inr (some k))), (1, .inl x1)] [.inl x1] dM_55_4 (fun _ => rfl) (Or.inr rfl) ?_
    refine gs0 7 [(0, .inr (.inr (some k))), (1, .inl x1)] [.inl 32, .inl x1] dM_55_5 (fun _ => rfl) (Or.inr rfl) ?_
    refine gsIf (t := 22) (C := 32 ≤ x1) (r := []) dM_55_7 (fun _ => rfl) (Or.inr rfl) (rTest_iff .ge x1 32) (fun c2 => ?_) (fun c2 => ?_)
    · replace h := h.1 c2
      refine gsRet (r := none) dM_55_22 (fun _ => rfl) (Or.inr rfl) ?_
      exact h
    · replace h := h.2 c2
      refine gs0 11 [(0, .inr (.inr (some k))), (1, .inl x1)] [.inr (.inr (some k))] dM_55_10 (fun _ => rfl) (Or.inr rfl) ?_
      refine gs0 12 [(0, .inr (.inr (some k))), (1, .inl x1)] [.inr (.inr (some k)), .inr (.inr (some k))] dM_55_11 (fun _ => rfl) (Or.inr rfl) ?_
      refine gsGetE (sg k 4) dM_55_12 hk.2.1 rfl rfl rfl ?_
      refine gs0 16 [(0, .inr (.inr (some k))), (1, .inl x1)] [.inl 1, .inl (sg k 4), .inr (.inr (some k))] dM_55_15 (fun _ => rfl) (Or.inr rfl) ?_
      refine gs0 17 [(0, .inr (.inr (some k))), (1, .inl x1)] [.inl x1, .inl 1, .inl (sg k 4), .inr (.inr (some k))] dM_55_16 (fun _ => rfl) (Or.inr rfl) ?_
      refine gs0 18 [(0, .inr (.inr (some k))), (1, .inl x1)] [.inl (1 <<< (x1 &&& 31)), .inl (sg k 4), .inr (.inr (some k))] dM_55_17 (fun _ => rfl) (Or.inr rfl) ?_
      refine gs0 19 [(0, .inr (.inr (some k))), (1, .inl x1)] [.inl ((sg k 4) ||| (1 <<< (x1 &&& 31))), .inr (.inr (some k))] dM_55_18 (fun _ => rfl) (Or.inr rfl) ?_
      refine gsPut dM_55_19 hk.2.1 rfl rfl rfl (by decide) ?_
      refine gsRet (r := none) dM_55_22 (fun _ => rfl) (Or.inr rfl) ?_
      exact h
set_option maxRecDepth 100000 in
/-- GoalsInAQueue$State.fresh -/
theorem w_56 (sg : rSg) (k : Nat) (hk : isSt k) {P : Option rv → rSg → Prop} (h :
    ((sg k 2) < 0 → 
      P (some (.inl 138)) sg) ∧
    (¬ ((sg k 2) < 0) → 
      ((sg k 2) < 64 → 
        (rIn (sg k 2) 64 = true ∧
        P (some (.inl (((sg k 2) + 1) - 1))) (up2 (up2 sg (k + 1) ((sg k 2).toNatClampNeg) ((-1))) k 2 ((sg k 2) + 1)))) ∧
      (¬ ((sg k 2) < 64) → 
        P (some (.inl 138)) sg))) : EvS rSkel 1 56 [.inr (.inr (some k))] sg P := by
  refine EvS.of (ini := false) rfl ⟨rfl, Nat.le_of_ble_eq_true rfl⟩ rfl ?_
  show GoS rSkel 0 5 1 (some .int) false prog_7_method_4_code 0 [(0, .inr (.inr (some k)))] [] sg _
  have b_k := hk.1
  refine gs0 1 [(0, .inr (.inr (some k)))] [.inr (.inr (some k))] dM_56_0 (fun _ => rfl) (Or.inr rfl) ?_
  refine gsGetE (sg k 2) dM_56_1 hk.2.1 rfl rfl rfl ?_
  refine gsIf (t := 16) (C := (sg k 2) < 0) (r := []) dM_56_4 (fun _ => rfl) (Or.inr rfl) (rTest_iff .lt (sg k 2) 0) (fun c1 => ?_) (fun c1 => ?_)
  · replace h := h.1 c1
    refine gs0 19 [(0, .inr (.inr (some k)))] [.inl 138] dM_56_16 (fun _ => rfl) (Or.inr rfl) ?_
    refine gsRet (r := some (.inl 138)) dM_56_19 (fun _ => rfl) (Or.inr rfl) ?_
    exact h
  · replace h := h.2 c1
    refine gs0 8 [(0, .inr (.inr (some k)))] [.inr (.inr (some k))] dM_56_7 (fun _ => rfl) (Or.inr rfl) ?_
    refine gsGetE (sg k 2) dM_56_8 hk.2.1 rfl rfl rfl ?_
    refine gs0 13 [(0, .inr (.inr (some k)))] [.inl 64, .inl (sg k 2)] dM_56_11 (fun _ => rfl) (Or.inr rfl) ?_
    refine gsIf (t := 20) (C := (sg k 2) < 64) (r := []) dM_56_13 (fun _ => rfl) (Or.inr rfl) (rTest_iff .lt (sg k 2) 64) (fun c2 => ?_) (fun c2 => ?_)
    · replace h := h.1 c2
      refine gs0 21 [(0, .inr (.inr (some k)))] [.inr (.inr (some k))] dM_56_20 (fun _ => rfl) (Or.inr rfl) ?_
      refine gsGetR (some (k + 1)) dM_56_21 hk.2.1 rfl rfl ?_
      refine gs0 25 [(0, .inr (.inr (some k)))] [.inr (.inr (some k)), .inr (.inr (some (k + 1)))] dM_56_24 (fun _ => rfl) (Or.inr rfl) ?_
      refine gsGetE (sg k 2) dM_56_25 hk.2.1 rfl rfl rfl ?_
      refine gs0 29 [(0, .inr (.inr (some k)))] [.inl ((-1)), .inl (sg k 2), .inr (.inr (some (k + 1)))] dM_56_28 (fun _ => rfl) (Or.inr rfl) ?_
      refine gsIastN ((sg k 2).toNatClampNeg) dM_56_29 hk.2.2.1 h.1 rfl ?_
      replace h := h.2
      refine gs0 31 [(0, .inr (.inr (some k)))] [.inr (.inr (some k))] dM_56_30 (fun _ => rfl) (Or.inr rfl) ?_
      refine gs0 32 [(0, .inr (.inr (some k)))] [.inr (.inr (some k)), .inr (.inr (some k))] dM_56_31 (fun _ => rfl) (Or.inr rfl) ?_
      refine gsGetE (sg k 2) dM_56_32 hk.2.1 rfl rfl (congrFun (up2_nk _ _ _ (by omega)) _) ?_
      refine gs0 36 [(0, .inr (.inr (some k)))] [.inl 1, .inl (sg k 2), .inr (.inr (some k))] dM_56_35 (fun _ => rfl) (Or.inr rfl) ?_
      refine gs0 37 [(0, .inr (.inr (some k)))] [.inl ((sg k 2) + 1), .inr (.inr (some k))] dM_56_36 (fun _ => rfl) (Or.inr rfl) ?_
      refine gsPut dM_56_37 hk.2.1 rfl rfl rfl (by decide) ?_
      refine gs0 41 [(0, .inr (.inr (some k)))] [.inr (.inr (some k))] dM_56_40 (fun _ => rfl) (Or.inr rfl) ?_
      refine gsGetE ((sg k 2) + 1) dM_56_41 hk.2.1 rfl rfl (up2_same _ _ _ _) ?_
      refine gs0 45 [(0, .inr (.inr (some k)))] [.inl 1, .inl ((sg k 2) + 1)] dM_56_44 (fun _ => rfl) (Or.inr rfl) ?_
      refine gs0 46 [(0, .inr (.inr (some k)))] [.inl (((sg k 2) + 1) - 1)] dM_56_45 (fun _ => rfl) (Or.inr rfl) ?_
      refine gsRet (r := some (.inl (((sg k 2) + 1) - 1))) dM_56_46 (fun _ => rfl) (Or.inr rfl) ?_
      exact h
    · replace h := h.2 c2
      refine gs0 19 [(0, .inr (.inr (some k)))] [.inl 138] dM_56_16 (fun _ => rfl) (Or.inr rfl) ?_
      refine gsRet (r := some (.inl 138)) dM_56_19 (fun _ => rfl) (Or.inr rfl) ?_
      exact h
