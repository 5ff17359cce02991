/-! Printed: decode rows. -/
theorem dc_0_0 : decode prog_1_method_2_code 0 = .ok (.iload_n 1, 1) := by decide +kernel
theorem dc_0_1 : decode prog_1_method_2_code 1 = .ok (.ifCond .lt 8, 3) := by decide +kernel
theorem dc_0_4 : decode prog_1_method_2_code 4 = .ok (.iload_n 1, 1) := by decide +kernel
theorem dc_0_5 : decode prog_1_method_2_code 5 = .ok (.iconst 4, 1) := by decide +kernel
theorem dc_0_6 : decode prog_1_method_2_code 6 = .ok (.if_icmp .lt 5, 3) := by decide +kernel
theorem dc_0_9 : decode prog_1_method_2_code 9 = .ok (.iconst (-1), 1) := by decide +kernel
theorem dc_0_10 : decode prog_1_method_2_code 10 = .ok (.ireturn, 1) := by decide +kernel
theorem dc_0_11 : decode prog_1_method_2_code 11 = .ok (.aload_n 0, 1) := by decide +kernel
theorem dc_0_12 : decode prog_1_method_2_code 12 = .ok (.getfield 10, 3) := by decide +kernel
theorem dc_0_15 : decode prog_1_method_2_code 15 = .ok (.getfield 41, 3) := by decide +kernel
theorem dc_0_18 : decode prog_1_method_2_code 18 = .ok (.getfield 45, 3) := by decide +kernel
theorem dc_0_21 : decode prog_1_method_2_code 21 = .ok (.bipush 16, 2) := by decide +kernel
theorem dc_0_23 : decode prog_1_method_2_code 23 = .ok (.if_icmp .lt 6, 3) := by decide +kernel
theorem dc_0_26 : decode prog_1_method_2_code 26 = .ok (.bipush (-2), 2) := by decide +kernel
theorem dc_0_28 : decode prog_1_method_2_code 28 = .ok (.ireturn, 1) := by decide +kernel
theorem dc_0_29 : decode prog_1_method_2_code 29 = .ok (.aload_n 0, 1) := by decide +kernel
theorem dc_0_30 : decode prog_1_method_2_code 30 = .ok (.getfield 19, 3) := by decide +kernel
theorem dc_0_33 : decode prog_1_method_2_code 33 = .ok (.aload_n 0, 1) := by decide +kernel
theorem dc_0_34 : decode prog_1_method_2_code 34 = .ok (.getfield 10, 3) := by decide +kernel
theorem dc_0_37 : decode prog_1_method_2_code 37 = .ok (.getfield 41, 3) := by decide +kernel
theorem dc_0_40 : decode prog_1_method_2_code 40 = .ok (.invokevirtual 51, 3) := by decide +kernel
theorem dc_0_43 : decode prog_1_method_2_code 43 = .ok (.aload_n 0, 1) := by decide +kernel
theorem dc_0_44 : decode prog_1_method_2_code 44 = .ok (.getfield 10, 3) := by decide +kernel
theorem dc_0_47 : decode prog_1_method_2_code 47 = .ok (.iload_n 1, 1) := by decide +kernel
theorem dc_0_48 : decode prog_1_method_2_code 48 = .ok (.invokevirtual 55, 3) := by decide +kernel
theorem dc_0_51 : decode prog_1_method_2_code 51 = .ok (.istore_n 2, 1) := by decide +kernel
theorem dc_0_52 : decode prog_1_method_2_code 52 = .ok (.aload_n 0, 1) := by decide +kernel
theorem dc_0_53 : decode prog_1_method_2_code 53 = .ok (.getfield 19, 3) := by decide +kernel
theorem dc_0_56 : decode prog_1_method_2_code 56 = .ok (.aload_n 0, 1) := by decide +kernel
theorem dc_0_57 : decode prog_1_method_2_code 57 = .ok (.getfield 10, 3) := by decide +kernel
theorem dc_0_60 : decode prog_1_method_2_code 60 = .ok (.getfield 41, 3) := by decide +kernel
theorem dc_0_63 : decode prog_1_method_2_code 63 = .ok (.invokevirtual 59, 3) := by decide +kernel
theorem dc_0_66 : decode prog_1_method_2_code 66 = .ok (.iload_n 2, 1) := by decide +kernel
theorem dc_0_67 : decode prog_1_method_2_code 67 = .ok (.ireturn, 1) := by decide +kernel
theorem dc_1_0 : decode prog_1_method_3_code 0 = .ok (.aload_n 0, 1) := by decide +kernel
theorem dc_1_1 : decode prog_1_method_3_code 1 = .ok (.getfield 10, 3) := by decide +kernel
theorem dc_1_4 : decode prog_1_method_3_code 4 = .ok (.iload_n 1, 1) := by decide +kernel
theorem dc_1_5 : decode prog_1_method_3_code 5 = .ok (.invokevirtual 62, 3) := by decide +kernel
theorem dc_1_8 : decode prog_1_method_3_code 8 = .ok (.ifCond .eq 19, 3) := by decide +kernel
theorem dc_1_11 : decode prog_1_method_3_code 11 = .ok (.aload_n 0, 1) := by decide +kernel
theorem dc_1_12 : decode prog_1_method_3_code 12 = .ok (.getfield 10, 3) := by decide +kernel
theorem dc_1_15 : decode prog_1_method_3_code 15 = .ok (.iload_n 2, 1) := by decide +kernel
theorem dc_1_16 : decode prog_1_method_3_code 16 = .ok (.invokevirtual 62, 3) := by decide +kernel
theorem dc_1_19 : decode prog_1_method_3_code 19 = .ok (.ifCond .eq 8, 3) := by decide +kernel
theorem dc_1_22 : decode prog_1_method_3_code 22 = .ok (.iload_n 1, 1) := by decide +kernel
theorem dc_1_23 : decode prog_1_method_3_code 23 = .ok (.iload_n 2, 1) := by decide +kernel
theorem dc_1_24 : decode prog_1_method_3_code 24 = .ok (.if_icmp .ne 5, 3) := by decide +kernel
theorem dc_1_27 : decode prog_1_method_3_code 27 = .ok (.iconst (-1), 1) := by decide +kernel
theorem dc_1_28 : decode prog_1_method_3_code 28 = .ok (.ireturn, 1) := by decide +kernel
theorem dc_1_29 : decode prog_1_method_3_code 29 = .ok (.aload_n 0, 1) := by decide +kernel
theorem dc_1_30 : decode prog_1_method_3_code 30 = .ok (.getfield 10, 3) := by decide +kernel
theorem dc_1_33 : decode prog_1_method_3_code 33 = .ok (.getfield 41, 3) := by decide +kernel
theorem dc_1_36 : decode prog_1_method_3_code 36 = .ok (.getfield 66, 3) := by decide +kernel
theorem dc_1_39 : decode prog_1_method_3_code 39 = .ok (.bipush 24, 2) := by decide +kernel
theorem dc_1_41 : decode prog_1_method_3_code 41 = .ok (.if_icmp .lt 6, 3) := by decide +kernel
theorem dc_1_44 : decode prog_1_method_3_code 44 = .ok (.bipush (-2), 2) := by decide +kernel
theorem dc_1_46 : decode prog_1_method_3_code 46 = .ok (.ireturn, 1) := by decide +kernel
theorem dc_1_47 : decode prog_1_method_3_code 47 = .ok (.aload_n 0, 1) := by decide +kernel
theorem dc_1_48 : decode prog_1_method_3_code 48 = .ok (.getfield 19, 3) := by decide +kernel
theorem dc_1_51 : decode prog_1_method_3_code 51 = .ok (.aload_n 0, 1) := by decide +kernel
theorem dc_1_52 : decode prog_1_method_3_code 52 = .ok (.getfield 10, 3) := by decide +kernel
theorem dc_1_55 : decode prog_1_method_3_code 55 = .ok (.getfield 41, 3) := by decide +kernel
theorem dc_1_58 : decode prog_1_method_3_code 58 = .ok (.invokevirtual 51, 3) := by decide +kernel
theorem dc_1_61 : decode prog_1_method_3_code 61 = .ok (.aload_n 0, 1) := by decide +kernel
theorem dc_1_62 : decode prog_1_method_3_code 62 = .ok (.getfield 10, 3) := by decide +kernel
theorem dc_1_65 : decode prog_1_method_3_code 65 = .ok (.iload_n 1, 1) := by decide +kernel
theorem dc_1_66 : decode prog_1_method_3_code 66 = .ok (.iload_n 2, 1) := by decide +kernel
theorem dc_1_67 : decode prog_1_method_3_code 67 = .ok (.invokevirtual 69, 3) := by decide +kernel
theorem dc_1_70 : decode prog_1_method_3_code 70 = .ok (.istore_n 3, 1) := by decide +kernel
theorem dc_1_71 : decode prog_1_method_3_code 71 = .ok (.aload_n 0, 1) := by decide +kernel
theorem dc_1_72 : decode prog_1_method_3_code 72 = .ok (.getfield 19, 3) := by decide +kernel
theorem dc_1_75 : decode prog_1_method_3_code 75 = .ok (.aload_n 0, 1) := by decide +kernel
theorem dc_1_76 : decode prog_1_method_3_code 76 = .ok (.getfield 10, 3) := by decide +kernel
theorem dc_1_79 : decode prog_1_method_3_code 79 = .ok (.getfield 41, 3) := by decide +kernel
theorem dc_1_82 : decode prog_1_method_3_code 82 = .ok (.invokevirtual 59, 3) := by decide +kernel
theorem dc_1_85 : decode prog_1_method_3_code 85 = .ok (.iload_n 3, 1) := by decide +kernel
theorem dc_1_86 : decode prog_1_method_3_code 86 = .ok (.ireturn, 1) := by decide +kernel
theorem dc_2_0 : decode prog_1_method_4_code 0 = .ok (.iload_n 1, 1) := by decide +kernel
theorem dc_2_1 : decode prog_1_method_4_code 1 = .ok (.ifCond .lt 17, 3) := by decide +kernel
theorem dc_2_4 : decode prog_1_method_4_code 4 = .ok (.iload_n 1, 1) := by decide +kernel
theorem dc_2_5 : decode prog_1_method_4_code 5 = .ok (.aload_n 0, 1) := by decide +kernel
theorem dc_2_6 : decode prog_1_method_4_code 6 = .ok (.getfield 10, 3) := by decide +kernel
theorem dc_2_9 : decode prog_1_method_4_code 9 = .ok (.getfield 41, 3) := by decide +kernel
theorem dc_2_12 : decode prog_1_method_4_code 12 = .ok (.getfield 66, 3) := by decide +kernel
theorem dc_2_15 : decode prog_1_method_4_code 15 = .ok (.if_icmp .lt 5, 3) := by decide +kernel
theorem dc_2_18 : decode prog_1_method_4_code 18 = .ok (.iconst (-1), 1) := by decide +kernel
theorem dc_2_19 : decode prog_1_method_4_code 19 = .ok (.ireturn, 1) := by decide +kernel
theorem dc_2_20 : decode prog_1_method_4_code 20 = .ok (.aload_n 0, 1) := by decide +kernel
theorem dc_2_21 : decode prog_1_method_4_code 21 = .ok (.getfield 19, 3) := by decide +kernel
theorem dc_2_24 : decode prog_1_method_4_code 24 = .ok (.aload_n 0, 1) := by decide +kernel
theorem dc_2_25 : decode prog_1_method_4_code 25 = .ok (.getfield 10, 3) := by decide +kernel
theorem dc_2_28 : decode prog_1_method_4_code 28 = .ok (.getfield 41, 3) := by decide +kernel
theorem dc_2_31 : decode prog_1_method_4_code 31 = .ok (.invokevirtual 51, 3) := by decide +kernel
theorem dc_2_34 : decode prog_1_method_4_code 34 = .ok (.aload_n 0, 1) := by decide +kernel
theorem dc_2_35 : decode prog_1_method_4_code 35 = .ok (.getfield 10, 3) := by decide +kernel
theorem dc_2_38 : decode prog_1_method_4_code 38 = .ok (.iload_n 1, 1) := by decide +kernel
theorem dc_2_39 : decode prog_1_method_4_code 39 = .ok (.invokevirtual 73, 3) := by decide +kernel
theorem dc_2_42 : decode prog_1_method_4_code 42 = .ok (.aload_n 0, 1) := by decide +kernel
theorem dc_2_43 : decode prog_1_method_4_code 43 = .ok (.getfield 19, 3) := by decide +kernel
theorem dc_2_46 : decode prog_1_method_4_code 46 = .ok (.aload_n 0, 1) := by decide +kernel
theorem dc_2_47 : decode prog_1_method_4_code 47 = .ok (.getfield 10, 3) := by decide +kernel
theorem dc_2_50 : decode prog_1_method_4_code 50 = .ok (.getfield 41, 3) := by decide +kernel
theorem dc_2_53 : decode prog_1_method_4_code 53 = .ok (.invokevirtual 59, 3) := by decide +kernel
theorem dc_2_56 : decode prog_1_method_4_code 56 = .ok (.aload_n 0, 1) := by decide +kernel
theorem dc_2_57 : decode prog_1_method_4_code 57 = .ok (.getfield 10, 3) := by decide +kernel
theorem dc_2_60 : decode prog_1_method_4_code 60 = .ok (.getfield 41, 3) := by decide +kernel
theorem dc_2_63 : decode prog_1_method_4_code 63 = .ok (.getfield 66, 3) := by decide +kernel
theorem dc_2_66 : decode prog_1_method_4_code 66 = .ok (.ireturn, 1) := by decide +kernel
theorem dc_3_0 : decode prog_1_method_5_code 0 = .ok (.aload_n 0, 1) := by decide +kernel
theorem dc_3_1 : decode prog_1_method_5_code 1 = .ok (.getfield 10, 3) := by decide +kernel
theorem dc_3_4 : decode prog_1_method_5_code 4 = .ok (.iload_n 1, 1) := by decide +kernel
theorem dc_3_5 : decode prog_1_method_5_code 5 = .ok (.invokevirtual 62, 3) := by decide +kernel
theorem dc_3_8 : decode prog_1_method_5_code 8 = .ok (.ifCond .eq 14, 3) := by decide +kernel
theorem dc_3_11 : decode prog_1_method_5_code 11 = .ok (.aload_n 0, 1) := by decide +kernel
theorem dc_3_12 : decode prog_1_method_5_code 12 = .ok (.getfield 10, 3) := by decide +kernel
theorem dc_3_15 : decode prog_1_method_5_code 15 = .ok (.iload_n 1, 1) := by decide +kernel
theorem dc_3_16 : decode prog_1_method_5_code 16 = .ok (.invokevirtual 77, 3) := by decide +kernel
theorem dc_3_19 : decode prog_1_method_5_code 19 = .ok (.goto 4, 3) := by decide +kernel
theorem dc_3_22 : decode prog_1_method_5_code 22 = .ok (.iconst (-1), 1) := by decide +kernel
theorem dc_3_23 : decode prog_1_method_5_code 23 = .ok (.ireturn, 1) := by decide +kernel
theorem dc_4_0 : decode prog_1_method_6_code 0 = .ok (.iload_n 1, 1) := by decide +kernel
theorem dc_4_1 : decode prog_1_method_6_code 1 = .ok (.ifCond .lt 12, 3) := by decide +kernel
theorem dc_4_4 : decode prog_1_method_6_code 4 = .ok (.iload_n 2, 1) := by decide +kernel
theorem dc_4_5 : decode prog_1_method_6_code 5 = .ok (.ifCond .lt 8, 3) := by decide +kernel
theorem dc_4_8 : decode prog_1_method_6_code 8 = .ok (.iload_n 2, 1) := by decide +kernel
theorem dc_4_9 : decode prog_1_method_6_code 9 = .ok (.iconst 1, 1) := by decide +kernel
theorem dc_4_10 : decode prog_1_method_6_code 10 = .ok (.if_icmp .le 5, 3) := by decide +kernel
theorem dc_4_13 : decode prog_1_method_6_code 13 = .ok (.iconst (-1), 1) := by decide +kernel
theorem dc_4_14 : decode prog_1_method_6_code 14 = .ok (.ireturn, 1) := by decide +kernel
theorem dc_4_15 : decode prog_1_method_6_code 15 = .ok (.iload_n 1, 1) := by decide +kernel
theorem dc_4_16 : decode prog_1_method_6_code 16 = .ok (.istore_n 3, 1) := by decide +kernel
theorem dc_4_17 : decode prog_1_method_6_code 17 = .ok (.iconst 0, 1) := by decide +kernel
theorem dc_4_18 : decode prog_1_method_6_code 18 = .ok (.istore 4, 2) := by decide +kernel
theorem dc_4_20 : decode prog_1_method_6_code 20 = .ok (.iload 4, 2) := by decide +kernel
theorem dc_4_22 : decode prog_1_method_6_code 22 = .ok (.aload_n 0, 1) := by decide +kernel
theorem dc_4_23 : decode prog_1_method_6_code 23 = .ok (.getfield 10, 3) := by decide +kernel
theorem dc_4_26 : decode prog_1_method_6_code 26 = .ok (.getfield 41, 3) := by decide +kernel
theorem dc_4_29 : decode prog_1_method_6_code 29 = .ok (.getfield 45, 3) := by decide +kernel
theorem dc_4_32 : decode prog_1_method_6_code 32 = .ok (.if_icmp .ge 48, 3) := by decide +kernel
theorem dc_4_35 : decode prog_1_method_6_code 35 = .ok (.aload_n 0, 1) := by decide +kernel
theorem dc_4_36 : decode prog_1_method_6_code 36 = .ok (.getfield 10, 3) := by decide +kernel
theorem dc_4_39 : decode prog_1_method_6_code 39 = .ok (.iload 4, 2) := by decide +kernel
theorem dc_4_41 : decode prog_1_method_6_code 41 = .ok (.invokevirtual 80, 3) := by decide +kernel
theorem dc_4_44 : decode prog_1_method_6_code 44 = .ok (.istore 5, 2) := by decide +kernel
theorem dc_4_46 : decode prog_1_method_6_code 46 = .ok (.iload 5, 2) := by decide +kernel
theorem dc_4_48 : decode prog_1_method_6_code 48 = .ok (.iconst (-1), 1) := by decide +kernel
theorem dc_4_49 : decode prog_1_method_6_code 49 = .ok (.if_icmp .ne 6, 3) := by decide +kernel
theorem dc_4_52 : decode prog_1_method_6_code 52 = .ok (.goto 22, 3) := by decide +kernel
theorem dc_4_55 : decode prog_1_method_6_code 55 = .ok (.iload_n 3, 1) := by decide +kernel
theorem dc_4_56 : decode prog_1_method_6_code 56 = .ok (.ifCond .ne 15, 3) := by decide +kernel
theorem dc_4_59 : decode prog_1_method_6_code 59 = .ok (.iload_n 2, 1) := by decide +kernel
theorem dc_4_60 : decode prog_1_method_6_code 60 = .ok (.ifCond .ne 8, 3) := by decide +kernel
theorem dc_4_63 : decode prog_1_method_6_code 63 = .ok (.iload 5, 2) := by decide +kernel
theorem dc_4_65 : decode prog_1_method_6_code 65 = .ok (.goto 5, 3) := by decide +kernel
theorem dc_4_68 : decode prog_1_method_6_code 68 = .ok (.iload 4, 2) := by decide +kernel
theorem dc_4_70 : decode prog_1_method_6_code 70 = .ok (.ireturn, 1) := by decide +kernel
theorem dc_4_71 : decode prog_1_method_6_code 71 = .ok (.iinc 3 (-1), 3) := by decide +kernel
theorem dc_4_74 : decode prog_1_method_6_code 74 = .ok (.iinc 4 1, 3) := by decide +kernel
theorem dc_4_77 : decode prog_1_method_6_code 77 = .ok (.goto (-57), 3) := by decide +kernel
theorem dc_4_80 : decode prog_1_method_6_code 80 = .ok (.iconst (-1), 1) := by decide +kernel
theorem dc_4_81 : decode prog_1_method_6_code 81 = .ok (.ireturn, 1) := by decide +kernel
theorem dc_5_0 : decode prog_1_method_7_code 0 = .ok (.aload_n 0, 1) := by decide +kernel
theorem dc_5_1 : decode prog_1_method_7_code 1 = .ok (.getfield 10, 3) := by decide +kernel
theorem dc_5_4 : decode prog_1_method_7_code 4 = .ok (.iload_n 1, 1) := by decide +kernel
theorem dc_5_5 : decode prog_1_method_7_code 5 = .ok (.invokevirtual 62, 3) := by decide +kernel
theorem dc_5_8 : decode prog_1_method_7_code 8 = .ok (.ifCond .eq 26, 3) := by decide +kernel
theorem dc_5_11 : decode prog_1_method_7_code 11 = .ok (.aload_n 0, 1) := by decide +kernel
theorem dc_5_12 : decode prog_1_method_7_code 12 = .ok (.getfield 10, 3) := by decide +kernel
theorem dc_5_15 : decode prog_1_method_7_code 15 = .ok (.iload_n 1, 1) := by decide +kernel
theorem dc_5_16 : decode prog_1_method_7_code 16 = .ok (.invokevirtual 83, 3) := by decide +kernel
theorem dc_5_19 : decode prog_1_method_7_code 19 = .ok (.ifCond .ne 15, 3) := by decide +kernel
theorem dc_5_22 : decode prog_1_method_7_code 22 = .ok (.iload 4, 2) := by decide +kernel
theorem dc_5_24 : decode prog_1_method_7_code 24 = .ok (.iconst 1, 1) := by decide +kernel
theorem dc_5_25 : decode prog_1_method_7_code 25 = .ok (.if_icmp .lt 9, 3) := by decide +kernel
theorem dc_5_28 : decode prog_1_method_7_code 28 = .ok (.iload 4, 2) := by decide +kernel
theorem dc_5_30 : decode prog_1_method_7_code 30 = .ok (.iconst 3, 1) := by decide +kernel
theorem dc_5_31 : decode prog_1_method_7_code 31 = .ok (.if_icmp .le 5, 3) := by decide +kernel
theorem dc_5_34 : decode prog_1_method_7_code 34 = .ok (.iconst 0, 1) := by decide +kernel
theorem dc_5_35 : decode prog_1_method_7_code 35 = .ok (.ireturn, 1) := by decide +kernel
theorem dc_5_36 : decode prog_1_method_7_code 36 = .ok (.iload_n 2, 1) := by decide +kernel
theorem dc_5_37 : decode prog_1_method_7_code 37 = .ok (.ifCond .lt 19, 3) := by decide +kernel
theorem dc_5_40 : decode prog_1_method_7_code 40 = .ok (.iload_n 2, 1) := by decide +kernel
theorem dc_5_41 : decode prog_1_method_7_code 41 = .ok (.bipush 12, 2) := by decide +kernel
theorem dc_5_43 : decode prog_1_method_7_code 43 = .ok (.if_icmp .ge 13, 3) := by decide +kernel
theorem dc_5_46 : decode prog_1_method_7_code 46 = .ok (.iload_n 3, 1) := by decide +kernel
theorem dc_5_47 : decode prog_1_method_7_code 47 = .ok (.ifCond .lt 9, 3) := by decide +kernel
theorem dc_5_50 : decode prog_1_method_7_code 50 = .ok (.iload_n 3, 1) := by decide +kernel
theorem dc_5_51 : decode prog_1_method_7_code 51 = .ok (.bipush 10, 2) := by decide +kernel
theorem dc_5_53 : decode prog_1_method_7_code 53 = .ok (.if_icmp .lt 5, 3) := by decide +kernel
theorem dc_5_56 : decode prog_1_method_7_code 56 = .ok (.iconst 0, 1) := by decide +kernel
theorem dc_5_57 : decode prog_1_method_7_code 57 = .ok (.ireturn, 1) := by decide +kernel
theorem dc_5_58 : decode prog_1_method_7_code 58 = .ok (.iload_n 3, 1) := by decide +kernel
theorem dc_5_59 : decode prog_1_method_7_code 59 = .ok (.bipush 12, 2) := by decide +kernel
theorem dc_5_61 : decode prog_1_method_7_code 61 = .ok (.imul, 1) := by decide +kernel
theorem dc_5_62 : decode prog_1_method_7_code 62 = .ok (.iload_n 2, 1) := by decide +kernel
theorem dc_5_63 : decode prog_1_method_7_code 63 = .ok (.iadd, 1) := by decide +kernel
theorem dc_5_64 : decode prog_1_method_7_code 64 = .ok (.istore 5, 2) := by decide +kernel
theorem dc_5_66 : decode prog_1_method_7_code 66 = .ok (.aload_n 0, 1) := by decide +kernel
theorem dc_5_67 : decode prog_1_method_7_code 67 = .ok (.getfield 10, 3) := by decide +kernel
theorem dc_5_70 : decode prog_1_method_7_code 70 = .ok (.iload 5, 2) := by decide +kernel
theorem dc_5_72 : decode prog_1_method_7_code 72 = .ok (.iload 4, 2) := by decide +kernel
theorem dc_5_74 : decode prog_1_method_7_code 74 = .ok (.aload_n 0, 1) := by decide +kernel
theorem dc_5_75 : decode prog_1_method_7_code 75 = .ok (.getfield 10, 3) := by decide +kernel
theorem dc_5_78 : decode prog_1_method_7_code 78 = .ok (.iload_n 1, 1) := by decide +kernel
theorem dc_5_79 : decode prog_1_method_7_code 79 = .ok (.invokevirtual 77, 3) := by decide +kernel
theorem dc_5_82 : decode prog_1_method_7_code 82 = .ok (.invokevirtual 86, 3) := by decide +kernel
theorem dc_5_85 : decode prog_1_method_7_code 85 = .ok (.ifCond .ne 5, 3) := by decide +kernel
theorem dc_5_88 : decode prog_1_method_7_code 88 = .ok (.iconst 0, 1) := by decide +kernel
theorem dc_5_89 : decode prog_1_method_7_code 89 = .ok (.ireturn, 1) := by decide +kernel
theorem dc_5_90 : decode prog_1_method_7_code 90 = .ok (.aload_n 0, 1) := by decide +kernel
theorem dc_5_91 : decode prog_1_method_7_code 91 = .ok (.getfield 19, 3) := by decide +kernel
theorem dc_5_94 : decode prog_1_method_7_code 94 = .ok (.aload_n 0, 1) := by decide +kernel
theorem dc_5_95 : decode prog_1_method_7_code 95 = .ok (.getfield 10, 3) := by decide +kernel
theorem dc_5_98 : decode prog_1_method_7_code 98 = .ok (.getfield 41, 3) := by decide +kernel
theorem dc_5_101 : decode prog_1_method_7_code 101 = .ok (.invokevirtual 51, 3) := by decide +kernel
theorem dc_5_104 : decode prog_1_method_7_code 104 = .ok (.aload_n 0, 1) := by decide +kernel
theorem dc_5_105 : decode prog_1_method_7_code 105 = .ok (.getfield 10, 3) := by decide +kernel
theorem dc_5_108 : decode prog_1_method_7_code 108 = .ok (.iload_n 1, 1) := by decide +kernel
theorem dc_5_109 : decode prog_1_method_7_code 109 = .ok (.iload 5, 2) := by decide +kernel
theorem dc_5_111 : decode prog_1_method_7_code 111 = .ok (.iload 4, 2) := by decide +kernel
theorem dc_5_113 : decode prog_1_method_7_code 113 = .ok (.invokevirtual 90, 3) := by decide +kernel
theorem dc_5_116 : decode prog_1_method_7_code 116 = .ok (.aload_n 0, 1) := by decide +kernel
theorem dc_5_117 : decode prog_1_method_7_code 117 = .ok (.getfield 19, 3) := by decide +kernel
theorem dc_5_120 : decode prog_1_method_7_code 120 = .ok (.aload_n 0, 1) := by decide +kernel
theorem dc_5_121 : decode prog_1_method_7_code 121 = .ok (.getfield 10, 3) := by decide +kernel
theorem dc_5_124 : decode prog_1_method_7_code 124 = .ok (.getfield 41, 3) := by decide +kernel
theorem dc_5_127 : decode prog_1_method_7_code 127 = .ok (.invokevirtual 59, 3) := by decide +kernel
theorem dc_5_130 : decode prog_1_method_7_code 130 = .ok (.iconst 1, 1) := by decide +kernel
theorem dc_5_131 : decode prog_1_method_7_code 131 = .ok (.ireturn, 1) := by decide +kernel
theorem dc_6_0 : decode prog_1_method_8_code 0 = .ok (.aload_n 0, 1) := by decide +kernel
theorem dc_6_1 : decode prog_1_method_8_code 1 = .ok (.getfield 10, 3) := by decide +kernel
theorem dc_6_4 : decode prog_1_method_8_code 4 = .ok (.iload_n 1, 1) := by decide +kernel
theorem dc_6_5 : decode prog_1_method_8_code 5 = .ok (.invokevirtual 62, 3) := by decide +kernel
theorem dc_6_8 : decode prog_1_method_8_code 8 = .ok (.ifCond .eq 14, 3) := by decide +kernel
theorem dc_6_11 : decode prog_1_method_8_code 11 = .ok (.aload_n 0, 1) := by decide +kernel
theorem dc_6_12 : decode prog_1_method_8_code 12 = .ok (.getfield 10, 3) := by decide +kernel
theorem dc_6_15 : decode prog_1_method_8_code 15 = .ok (.iload_n 1, 1) := by decide +kernel
theorem dc_6_16 : decode prog_1_method_8_code 16 = .ok (.invokevirtual 83, 3) := by decide +kernel
theorem dc_6_19 : decode prog_1_method_8_code 19 = .ok (.ifCond .ne 5, 3) := by decide +kernel
theorem dc_6_22 : decode prog_1_method_8_code 22 = .ok (.iconst 0, 1) := by decide +kernel
theorem dc_6_23 : decode prog_1_method_8_code 23 = .ok (.ireturn, 1) := by decide +kernel
theorem dc_6_24 : decode prog_1_method_8_code 24 = .ok (.aload_n 0, 1) := by decide +kernel
theorem dc_6_25 : decode prog_1_method_8_code 25 = .ok (.getfield 19, 3) := by decide +kernel
theorem dc_6_28 : decode prog_1_method_8_code 28 = .ok (.aload_n 0, 1) := by decide +kernel
theorem dc_6_29 : decode prog_1_method_8_code 29 = .ok (.getfield 10, 3) := by decide +kernel
theorem dc_6_32 : decode prog_1_method_8_code 32 = .ok (.getfield 41, 3) := by decide +kernel
theorem dc_6_35 : decode prog_1_method_8_code 35 = .ok (.invokevirtual 51, 3) := by decide +kernel
theorem dc_6_38 : decode prog_1_method_8_code 38 = .ok (.aload_n 0, 1) := by decide +kernel
theorem dc_6_39 : decode prog_1_method_8_code 39 = .ok (.getfield 10, 3) := by decide +kernel
theorem dc_6_42 : decode prog_1_method_8_code 42 = .ok (.iload_n 1, 1) := by decide +kernel
theorem dc_6_43 : decode prog_1_method_8_code 43 = .ok (.invokevirtual 94, 3) := by decide +kernel
theorem dc_6_46 : decode prog_1_method_8_code 46 = .ok (.aload_n 0, 1) := by decide +kernel
theorem dc_6_47 : decode prog_1_method_8_code 47 = .ok (.getfield 19, 3) := by decide +kernel
theorem dc_6_50 : decode prog_1_method_8_code 50 = .ok (.aload_n 0, 1) := by decide +kernel
theorem dc_6_51 : decode prog_1_method_8_code 51 = .ok (.getfield 10, 3) := by decide +kernel
theorem dc_6_54 : decode prog_1_method_8_code 54 = .ok (.getfield 41, 3) := by decide +kernel
theorem dc_6_57 : decode prog_1_method_8_code 57 = .ok (.invokevirtual 59, 3) := by decide +kernel
theorem dc_6_60 : decode prog_1_method_8_code 60 = .ok (.iconst 1, 1) := by decide +kernel
theorem dc_6_61 : decode prog_1_method_8_code 61 = .ok (.ireturn, 1) := by decide +kernel
theorem dc_7_0 : decode prog_1_method_9_code 0 = .ok (.iload_n 1, 1) := by decide +kernel
theorem dc_7_1 : decode prog_1_method_9_code 1 = .ok (.iconst 1, 1) := by decide +kernel
theorem dc_7_2 : decode prog_1_method_9_code 2 = .ok (.if_icmp .lt 8, 3) := by decide +kernel
theorem dc_7_5 : decode prog_1_method_9_code 5 = .ok (.iload_n 1, 1) := by decide +kernel
theorem dc_7_6 : decode prog_1_method_9_code 6 = .ok (.iconst 2, 1) := by decide +kernel
theorem dc_7_7 : decode prog_1_method_9_code 7 = .ok (.if_icmp .le 5, 3) := by decide +kernel
theorem dc_7_10 : decode prog_1_method_9_code 10 = .ok (.iconst (-1), 1) := by decide +kernel
theorem dc_7_11 : decode prog_1_method_9_code 11 = .ok (.ireturn, 1) := by decide +kernel
theorem dc_7_12 : decode prog_1_method_9_code 12 = .ok (.aload_n 0, 1) := by decide +kernel
theorem dc_7_13 : decode prog_1_method_9_code 13 = .ok (.getfield 10, 3) := by decide +kernel
theorem dc_7_16 : decode prog_1_method_9_code 16 = .ok (.getfield 41, 3) := by decide +kernel
theorem dc_7_19 : decode prog_1_method_9_code 19 = .ok (.getfield 97, 3) := by decide +kernel
theorem dc_7_22 : decode prog_1_method_9_code 22 = .ok (.istore_n 2, 1) := by decide +kernel
theorem dc_7_23 : decode prog_1_method_9_code 23 = .ok (.aload_n 0, 1) := by decide +kernel
theorem dc_7_24 : decode prog_1_method_9_code 24 = .ok (.getfield 19, 3) := by decide +kernel
theorem dc_7_27 : decode prog_1_method_9_code 27 = .ok (.aload_n 0, 1) := by decide +kernel
theorem dc_7_28 : decode prog_1_method_9_code 28 = .ok (.getfield 10, 3) := by decide +kernel
theorem dc_7_31 : decode prog_1_method_9_code 31 = .ok (.getfield 41, 3) := by decide +kernel
theorem dc_7_34 : decode prog_1_method_9_code 34 = .ok (.invokevirtual 51, 3) := by decide +kernel
theorem dc_7_37 : decode prog_1_method_9_code 37 = .ok (.aload_n 0, 1) := by decide +kernel
theorem dc_7_38 : decode prog_1_method_9_code 38 = .ok (.getfield 10, 3) := by decide +kernel
theorem dc_7_41 : decode prog_1_method_9_code 41 = .ok (.getfield 41, 3) := by decide +kernel
theorem dc_7_44 : decode prog_1_method_9_code 44 = .ok (.iload_n 1, 1) := by decide +kernel
theorem dc_7_45 : decode prog_1_method_9_code 45 = .ok (.putfield 97, 3) := by decide +kernel
theorem dc_7_48 : decode prog_1_method_9_code 48 = .ok (.aload_n 0, 1) := by decide +kernel
theorem dc_7_49 : decode prog_1_method_9_code 49 = .ok (.getfield 19, 3) := by decide +kernel
theorem dc_7_52 : decode prog_1_method_9_code 52 = .ok (.aload_n 0, 1) := by decide +kernel
theorem dc_7_53 : decode prog_1_method_9_code 53 = .ok (.getfield 10, 3) := by decide +kernel
theorem dc_7_56 : decode prog_1_method_9_code 56 = .ok (.getfield 41, 3) := by decide +kernel
theorem dc_7_59 : decode prog_1_method_9_code 59 = .ok (.invokevirtual 59, 3) := by decide +kernel
theorem dc_7_62 : decode prog_1_method_9_code 62 = .ok (.iload_n 2, 1) := by decide +kernel
theorem dc_7_63 : decode prog_1_method_9_code 63 = .ok (.ireturn, 1) := by decide +kernel
theorem dc_8_0 : decode prog_1_method_10_code 0 = .ok (.iload_n 1, 1) := by decide +kernel
theorem dc_8_1 : decode prog_1_method_10_code 1 = .ok (.invokestatic 100, 3) := by decide +kernel
theorem dc_8_4 : decode prog_1_method_10_code 4 = .ok (.ifCond .eq 15, 3) := by decide +kernel
theorem dc_8_7 : decode prog_1_method_10_code 7 = .ok (.aload_n 0, 1) := by decide +kernel
theorem dc_8_8 : decode prog_1_method_10_code 8 = .ok (.getfield 10, 3) := by decide +kernel
theorem dc_8_11 : decode prog_1_method_10_code 11 = .ok (.iload_n 1, 1) := by decide +kernel
theorem dc_8_12 : decode prog_1_method_10_code 12 = .ok (.invokevirtual 103, 3) := by decide +kernel
theorem dc_8_15 : decode prog_1_method_10_code 15 = .ok (.iconst (-1), 1) := by decide +kernel
theorem dc_8_16 : decode prog_1_method_10_code 16 = .ok (.if_icmp .eq 5, 3) := by decide +kernel
theorem dc_8_19 : decode prog_1_method_10_code 19 = .ok (.iconst 0, 1) := by decide +kernel
theorem dc_8_20 : decode prog_1_method_10_code 20 = .ok (.ireturn, 1) := by decide +kernel
theorem dc_8_21 : decode prog_1_method_10_code 21 = .ok (.aload_n 0, 1) := by decide +kernel
theorem dc_8_22 : decode prog_1_method_10_code 22 = .ok (.getfield 19, 3) := by decide +kernel
theorem dc_8_25 : decode prog_1_method_10_code 25 = .ok (.aload_n 0, 1) := by decide +kernel
theorem dc_8_26 : decode prog_1_method_10_code 26 = .ok (.getfield 10, 3) := by decide +kernel
theorem dc_8_29 : decode prog_1_method_10_code 29 = .ok (.getfield 41, 3) := by decide +kernel
theorem dc_8_32 : decode prog_1_method_10_code 32 = .ok (.invokevirtual 51, 3) := by decide +kernel
theorem dc_8_35 : decode prog_1_method_10_code 35 = .ok (.aload_n 0, 1) := by decide +kernel
theorem dc_8_36 : decode prog_1_method_10_code 36 = .ok (.getfield 10, 3) := by decide +kernel
theorem dc_8_39 : decode prog_1_method_10_code 39 = .ok (.getfield 41, 3) := by decide +kernel
theorem dc_8_42 : decode prog_1_method_10_code 42 = .ok (.getfield 106, 3) := by decide +kernel
theorem dc_8_45 : decode prog_1_method_10_code 45 = .ok (.iload_n 1, 1) := by decide +kernel
theorem dc_8_46 : decode prog_1_method_10_code 46 = .ok (.iload_n 2, 1) := by decide +kernel
theorem dc_8_47 : decode prog_1_method_10_code 47 = .ok (.ifCond .eq 8, 3) := by decide +kernel
theorem dc_8_50 : decode prog_1_method_10_code 50 = .ok (.bipush (-2), 2) := by decide +kernel
theorem dc_8_52 : decode prog_1_method_10_code 52 = .ok (.goto 4, 3) := by decide +kernel
theorem dc_8_55 : decode prog_1_method_10_code 55 = .ok (.iconst (-1), 1) := by decide +kernel
theorem dc_8_56 : decode prog_1_method_10_code 56 = .ok (.iastore, 1) := by decide +kernel
theorem dc_8_57 : decode prog_1_method_10_code 57 = .ok (.aload_n 0, 1) := by decide +kernel
theorem dc_8_58 : decode prog_1_method_10_code 58 = .ok (.getfield 19, 3) := by decide +kernel
theorem dc_8_61 : decode prog_1_method_10_code 61 = .ok (.aload_n 0, 1) := by decide +kernel
theorem dc_8_62 : decode prog_1_method_10_code 62 = .ok (.getfield 10, 3) := by decide +kernel
theorem dc_8_65 : decode prog_1_method_10_code 65 = .ok (.getfield 41, 3) := by decide +kernel
theorem dc_8_68 : decode prog_1_method_10_code 68 = .ok (.invokevirtual 59, 3) := by decide +kernel
theorem dc_8_71 : decode prog_1_method_10_code 71 = .ok (.iload_n 2, 1) := by decide +kernel
theorem dc_8_72 : decode prog_1_method_10_code 72 = .ok (.ireturn, 1) := by decide +kernel
theorem dc_9_0 : decode prog_1_method_11_code 0 = .ok (.aload_n 0, 1) := by decide +kernel
theorem dc_9_1 : decode prog_1_method_11_code 1 = .ok (.getfield 10, 3) := by decide +kernel
theorem dc_9_4 : decode prog_1_method_11_code 4 = .ok (.iload_n 1, 1) := by decide +kernel
theorem dc_9_5 : decode prog_1_method_11_code 5 = .ok (.invokevirtual 62, 3) := by decide +kernel
theorem dc_9_8 : decode prog_1_method_11_code 8 = .ok (.ifCond .eq 20, 3) := by decide +kernel
theorem dc_9_11 : decode prog_1_method_11_code 11 = .ok (.iload_n 2, 1) := by decide +kernel
theorem dc_9_12 : decode prog_1_method_11_code 12 = .ok (.invokestatic 100, 3) := by decide +kernel
theorem dc_9_15 : decode prog_1_method_11_code 15 = .ok (.ifCond .eq 13, 3) := by decide +kernel
theorem dc_9_18 : decode prog_1_method_11_code 18 = .ok (.iload_n 3, 1) := by decide +kernel
theorem dc_9_19 : decode prog_1_method_11_code 19 = .ok (.ifCond .lt 9, 3) := by decide +kernel
theorem dc_9_22 : decode prog_1_method_11_code 22 = .ok (.iload_n 3, 1) := by decide +kernel
theorem dc_9_23 : decode prog_1_method_11_code 23 = .ok (.bipush 9, 2) := by decide +kernel
theorem dc_9_25 : decode prog_1_method_11_code 25 = .ok (.if_icmp .lt 5, 3) := by decide +kernel
theorem dc_9_28 : decode prog_1_method_11_code 28 = .ok (.iconst (-1), 1) := by decide +kernel
theorem dc_9_29 : decode prog_1_method_11_code 29 = .ok (.ireturn, 1) := by decide +kernel
theorem dc_9_30 : decode prog_1_method_11_code 30 = .ok (.iload_n 3, 1) := by decide +kernel
theorem dc_9_31 : decode prog_1_method_11_code 31 = .ok (.bipush 8, 2) := by decide +kernel
theorem dc_9_33 : decode prog_1_method_11_code 33 = .ok (.if_icmp .ne 7, 3) := by decide +kernel
theorem dc_9_36 : decode prog_1_method_11_code 36 = .ok (.iconst 1, 1) := by decide +kernel
theorem dc_9_37 : decode prog_1_method_11_code 37 = .ok (.goto 5, 3) := by decide +kernel
theorem dc_9_40 : decode prog_1_method_11_code 40 = .ok (.bipush 11, 2) := by decide +kernel
theorem dc_9_42 : decode prog_1_method_11_code 42 = .ok (.istore 5, 2) := by decide +kernel
theorem dc_9_44 : decode prog_1_method_11_code 44 = .ok (.iload 4, 2) := by decide +kernel
theorem dc_9_46 : decode prog_1_method_11_code 46 = .ok (.ifCond .lt 10, 3) := by decide +kernel
theorem dc_9_49 : decode prog_1_method_11_code 49 = .ok (.iload 4, 2) := by decide +kernel
theorem dc_9_51 : decode prog_1_method_11_code 51 = .ok (.iload 5, 2) := by decide +kernel
theorem dc_9_53 : decode prog_1_method_11_code 53 = .ok (.if_icmp .le 5, 3) := by decide +kernel
theorem dc_9_56 : decode prog_1_method_11_code 56 = .ok (.iconst (-1), 1) := by decide +kernel
theorem dc_9_57 : decode prog_1_method_11_code 57 = .ok (.ireturn, 1) := by decide +kernel
theorem dc_9_58 : decode prog_1_method_11_code 58 = .ok (.aload_n 0, 1) := by decide +kernel
theorem dc_9_59 : decode prog_1_method_11_code 59 = .ok (.getfield 10, 3) := by decide +kernel
theorem dc_9_62 : decode prog_1_method_11_code 62 = .ok (.aload_n 0, 1) := by decide +kernel
theorem dc_9_63 : decode prog_1_method_11_code 63 = .ok (.getfield 10, 3) := by decide +kernel
theorem dc_9_66 : decode prog_1_method_11_code 66 = .ok (.iload_n 1, 1) := by decide +kernel
theorem dc_9_67 : decode prog_1_method_11_code 67 = .ok (.invokevirtual 77, 3) := by decide +kernel
theorem dc_9_70 : decode prog_1_method_11_code 70 = .ok (.iload_n 2, 1) := by decide +kernel
theorem dc_9_71 : decode prog_1_method_11_code 71 = .ok (.iload_n 3, 1) := by decide +kernel
theorem dc_9_72 : decode prog_1_method_11_code 72 = .ok (.iload 4, 2) := by decide +kernel
theorem dc_9_74 : decode prog_1_method_11_code 74 = .ok (.invokevirtual 109, 3) := by decide +kernel
theorem dc_9_77 : decode prog_1_method_11_code 77 = .ok (.ifCond .ne 5, 3) := by decide +kernel
theorem dc_9_80 : decode prog_1_method_11_code 80 = .ok (.iconst (-1), 1) := by decide +kernel
theorem dc_9_81 : decode prog_1_method_11_code 81 = .ok (.ireturn, 1) := by decide +kernel
theorem dc_9_82 : decode prog_1_method_11_code 82 = .ok (.aload_n 0, 1) := by decide +kernel
theorem dc_9_83 : decode prog_1_method_11_code 83 = .ok (.getfield 19, 3) := by decide +kernel
theorem dc_9_86 : decode prog_1_method_11_code 86 = .ok (.aload_n 0, 1) := by decide +kernel
theorem dc_9_87 : decode prog_1_method_11_code 87 = .ok (.getfield 10, 3) := by decide +kernel
theorem dc_9_90 : decode prog_1_method_11_code 90 = .ok (.getfield 41, 3) := by decide +kernel
theorem dc_9_93 : decode prog_1_method_11_code 93 = .ok (.invokevirtual 51, 3) := by decide +kernel
theorem dc_9_96 : decode prog_1_method_11_code 96 = .ok (.aload_n 0, 1) := by decide +kernel
theorem dc_9_97 : decode prog_1_method_11_code 97 = .ok (.getfield 10, 3) := by decide +kernel
theorem dc_9_100 : decode prog_1_method_11_code 100 = .ok (.iload_n 1, 1) := by decide +kernel
theorem dc_9_101 : decode prog_1_method_11_code 101 = .ok (.iload_n 2, 1) := by decide +kernel
theorem dc_9_102 : decode prog_1_method_11_code 102 = .ok (.iload_n 3, 1) := by decide +kernel
theorem dc_9_103 : decode prog_1_method_11_code 103 = .ok (.iload 4, 2) := by decide +kernel
theorem dc_9_105 : decode prog_1_method_11_code 105 = .ok (.invokevirtual 113, 3) := by decide +kernel
theorem dc_9_108 : decode prog_1_method_11_code 108 = .ok (.istore 6, 2) := by decide +kernel
theorem dc_9_110 : decode prog_1_method_11_code 110 = .ok (.aload_n 0, 1) := by decide +kernel
theorem dc_9_111 : decode prog_1_method_11_code 111 = .ok (.getfield 19, 3) := by decide +kernel
theorem dc_9_114 : decode prog_1_method_11_code 114 = .ok (.aload_n 0, 1) := by decide +kernel
theorem dc_9_115 : decode prog_1_method_11_code 115 = .ok (.getfield 10, 3) := by decide +kernel
theorem dc_9_118 : decode prog_1_method_11_code 118 = .ok (.getfield 41, 3) := by decide +kernel
theorem dc_9_121 : decode prog_1_method_11_code 121 = .ok (.invokevirtual 59, 3) := by decide +kernel
theorem dc_9_124 : decode prog_1_method_11_code 124 = .ok (.iload 6, 2) := by decide +kernel
theorem dc_9_126 : decode prog_1_method_11_code 126 = .ok (.ireturn, 1) := by decide +kernel
theorem dc_10_0 : decode prog_1_method_12_code 0 = .ok (.iload_n 1, 1) := by decide +kernel
theorem dc_10_1 : decode prog_1_method_12_code 1 = .ok (.invokestatic 100, 3) := by decide +kernel
theorem dc_10_4 : decode prog_1_method_12_code 4 = .ok (.ifCond .eq 14, 3) := by decide +kernel
theorem dc_10_7 : decode prog_1_method_12_code 7 = .ok (.aload_n 0, 1) := by decide +kernel
theorem dc_10_8 : decode prog_1_method_12_code 8 = .ok (.getfield 10, 3) := by decide +kernel
theorem dc_10_11 : decode prog_1_method_12_code 11 = .ok (.iload_n 1, 1) := by decide +kernel
theorem dc_10_12 : decode prog_1_method_12_code 12 = .ok (.invokevirtual 117, 3) := by decide +kernel
theorem dc_10_15 : decode prog_1_method_12_code 15 = .ok (.ifCond .ne 5, 3) := by decide +kernel
theorem dc_10_18 : decode prog_1_method_12_code 18 = .ok (.iconst 0, 1) := by decide +kernel
theorem dc_10_19 : decode prog_1_method_12_code 19 = .ok (.ireturn, 1) := by decide +kernel
theorem dc_10_20 : decode prog_1_method_12_code 20 = .ok (.aload_n 0, 1) := by decide +kernel
theorem dc_10_21 : decode prog_1_method_12_code 21 = .ok (.getfield 19, 3) := by decide +kernel
theorem dc_10_24 : decode prog_1_method_12_code 24 = .ok (.aload_n 0, 1) := by decide +kernel
theorem dc_10_25 : decode prog_1_method_12_code 25 = .ok (.getfield 10, 3) := by decide +kernel
theorem dc_10_28 : decode prog_1_method_12_code 28 = .ok (.getfield 41, 3) := by decide +kernel
theorem dc_10_31 : decode prog_1_method_12_code 31 = .ok (.invokevirtual 51, 3) := by decide +kernel
theorem dc_10_34 : decode prog_1_method_12_code 34 = .ok (.aload_n 0, 1) := by decide +kernel
theorem dc_10_35 : decode prog_1_method_12_code 35 = .ok (.getfield 10, 3) := by decide +kernel
theorem dc_10_38 : decode prog_1_method_12_code 38 = .ok (.getfield 41, 3) := by decide +kernel
theorem dc_10_41 : decode prog_1_method_12_code 41 = .ok (.getfield 106, 3) := by decide +kernel
theorem dc_10_44 : decode prog_1_method_12_code 44 = .ok (.iload_n 1, 1) := by decide +kernel
theorem dc_10_45 : decode prog_1_method_12_code 45 = .ok (.iconst (-1), 1) := by decide +kernel
theorem dc_10_46 : decode prog_1_method_12_code 46 = .ok (.iastore, 1) := by decide +kernel
theorem dc_10_47 : decode prog_1_method_12_code 47 = .ok (.aload_n 0, 1) := by decide +kernel
theorem dc_10_48 : decode prog_1_method_12_code 48 = .ok (.getfield 19, 3) := by decide +kernel
theorem dc_10_51 : decode prog_1_method_12_code 51 = .ok (.aload_n 0, 1) := by decide +kernel
theorem dc_10_52 : decode prog_1_method_12_code 52 = .ok (.getfield 10, 3) := by decide +kernel
theorem dc_10_55 : decode prog_1_method_12_code 55 = .ok (.getfield 41, 3) := by decide +kernel
theorem dc_10_58 : decode prog_1_method_12_code 58 = .ok (.invokevirtual 59, 3) := by decide +kernel
theorem dc_10_61 : decode prog_1_method_12_code 61 = .ok (.iconst 1, 1) := by decide +kernel
theorem dc_10_62 : decode prog_1_method_12_code 62 = .ok (.ireturn, 1) := by decide +kernel
theorem dc_11_0 : decode prog_1_method_13_code 0 = .ok (.aload_n 0, 1) := by decide +kernel
theorem dc_11_1 : decode prog_1_method_13_code 1 = .ok (.getfield 10, 3) := by decide +kernel
theorem dc_11_4 : decode prog_1_method_13_code 4 = .ok (.iload_n 1, 1) := by decide +kernel
theorem dc_11_5 : decode prog_1_method_13_code 5 = .ok (.invokevirtual 62, 3) := by decide +kernel
theorem dc_11_8 : decode prog_1_method_13_code 8 = .ok (.ifCond .ne 5, 3) := by decide +kernel
theorem dc_11_11 : decode prog_1_method_13_code 11 = .ok (.iconst (-1), 1) := by decide +kernel
theorem dc_11_12 : decode prog_1_method_13_code 12 = .ok (.ireturn, 1) := by decide +kernel
theorem dc_11_13 : decode prog_1_method_13_code 13 = .ok (.aload_n 0, 1) := by decide +kernel
theorem dc_11_14 : decode prog_1_method_13_code 14 = .ok (.getfield 19, 3) := by decide +kernel
theorem dc_11_17 : decode prog_1_method_13_code 17 = .ok (.aload_n 0, 1) := by decide +kernel
theorem dc_11_18 : decode prog_1_method_13_code 18 = .ok (.getfield 10, 3) := by decide +kernel
theorem dc_11_21 : decode prog_1_method_13_code 21 = .ok (.getfield 41, 3) := by decide +kernel
theorem dc_11_24 : decode prog_1_method_13_code 24 = .ok (.invokevirtual 51, 3) := by decide +kernel
theorem dc_11_27 : decode prog_1_method_13_code 27 = .ok (.aload_n 0, 1) := by decide +kernel
theorem dc_11_28 : decode prog_1_method_13_code 28 = .ok (.getfield 26, 3) := by decide +kernel
theorem dc_11_31 : decode prog_1_method_13_code 31 = .ok (.aload_n 0, 1) := by decide +kernel
theorem dc_11_32 : decode prog_1_method_13_code 32 = .ok (.getfield 10, 3) := by decide +kernel
theorem dc_11_35 : decode prog_1_method_13_code 35 = .ok (.aload_n 0, 1) := by decide +kernel
theorem dc_11_36 : decode prog_1_method_13_code 36 = .ok (.getfield 10, 3) := by decide +kernel
theorem dc_11_39 : decode prog_1_method_13_code 39 = .ok (.iload_n 1, 1) := by decide +kernel
theorem dc_11_40 : decode prog_1_method_13_code 40 = .ok (.invokevirtual 77, 3) := by decide +kernel
theorem dc_11_43 : decode prog_1_method_13_code 43 = .ok (.invokevirtual 120, 3) := by decide +kernel
theorem dc_11_46 : decode prog_1_method_13_code 46 = .ok (.istore_n 2, 1) := by decide +kernel
theorem dc_11_47 : decode prog_1_method_13_code 47 = .ok (.aload_n 0, 1) := by decide +kernel
theorem dc_11_48 : decode prog_1_method_13_code 48 = .ok (.getfield 19, 3) := by decide +kernel
theorem dc_11_51 : decode prog_1_method_13_code 51 = .ok (.aload_n 0, 1) := by decide +kernel
theorem dc_11_52 : decode prog_1_method_13_code 52 = .ok (.getfield 10, 3) := by decide +kernel
theorem dc_11_55 : decode prog_1_method_13_code 55 = .ok (.getfield 41, 3) := by decide +kernel
theorem dc_11_58 : decode prog_1_method_13_code 58 = .ok (.invokevirtual 59, 3) := by decide +kernel
theorem dc_11_61 : decode prog_1_method_13_code 61 = .ok (.iload_n 2, 1) := by decide +kernel
theorem dc_11_62 : decode prog_1_method_13_code 62 = .ok (.ireturn, 1) := by decide +kernel
theorem dc_12_0 : decode prog_1_method_14_code 0 = .ok (.aload_n 0, 1) := by decide +kernel
theorem dc_12_1 : decode prog_1_method_14_code 1 = .ok (.getfield 10, 3) := by decide +kernel
theorem dc_12_4 : decode prog_1_method_14_code 4 = .ok (.iload_n 1, 1) := by decide +kernel
theorem dc_12_5 : decode prog_1_method_14_code 5 = .ok (.invokevirtual 62, 3) := by decide +kernel
theorem dc_12_8 : decode prog_1_method_14_code 8 = .ok (.ifCond .ne 5, 3) := by decide +kernel
theorem dc_12_11 : decode prog_1_method_14_code 11 = .ok (.iconst (-1), 1) := by decide +kernel
theorem dc_12_12 : decode prog_1_method_14_code 12 = .ok (.ireturn, 1) := by decide +kernel
theorem dc_12_13 : decode prog_1_method_14_code 13 = .ok (.aload_n 0, 1) := by decide +kernel
theorem dc_12_14 : decode prog_1_method_14_code 14 = .ok (.getfield 19, 3) := by decide +kernel
theorem dc_12_17 : decode prog_1_method_14_code 17 = .ok (.aload_n 0, 1) := by decide +kernel
theorem dc_12_18 : decode prog_1_method_14_code 18 = .ok (.getfield 10, 3) := by decide +kernel
theorem dc_12_21 : decode prog_1_method_14_code 21 = .ok (.getfield 41, 3) := by decide +kernel
theorem dc_12_24 : decode prog_1_method_14_code 24 = .ok (.invokevirtual 51, 3) := by decide +kernel
theorem dc_12_27 : decode prog_1_method_14_code 27 = .ok (.aload_n 0, 1) := by decide +kernel
theorem dc_12_28 : decode prog_1_method_14_code 28 = .ok (.getfield 10, 3) := by decide +kernel
theorem dc_12_31 : decode prog_1_method_14_code 31 = .ok (.aload_n 0, 1) := by decide +kernel
theorem dc_12_32 : decode prog_1_method_14_code 32 = .ok (.getfield 10, 3) := by decide +kernel
theorem dc_12_35 : decode prog_1_method_14_code 35 = .ok (.iload_n 1, 1) := by decide +kernel
theorem dc_12_36 : decode prog_1_method_14_code 36 = .ok (.invokevirtual 77, 3) := by decide +kernel
theorem dc_12_39 : decode prog_1_method_14_code 39 = .ok (.invokevirtual 124, 3) := by decide +kernel
theorem dc_12_42 : decode prog_1_method_14_code 42 = .ok (.istore_n 2, 1) := by decide +kernel
theorem dc_12_43 : decode prog_1_method_14_code 43 = .ok (.aload_n 0, 1) := by decide +kernel
theorem dc_12_44 : decode prog_1_method_14_code 44 = .ok (.getfield 19, 3) := by decide +kernel
theorem dc_12_47 : decode prog_1_method_14_code 47 = .ok (.aload_n 0, 1) := by decide +kernel
theorem dc_12_48 : decode prog_1_method_14_code 48 = .ok (.getfield 10, 3) := by decide +kernel
theorem dc_12_51 : decode prog_1_method_14_code 51 = .ok (.getfield 41, 3) := by decide +kernel
theorem dc_12_54 : decode prog_1_method_14_code 54 = .ok (.invokevirtual 59, 3) := by decide +kernel
theorem dc_12_57 : decode prog_1_method_14_code 57 = .ok (.iload_n 2, 1) := by decide +kernel
theorem dc_12_58 : decode prog_1_method_14_code 58 = .ok (.ireturn, 1) := by decide +kernel
theorem dc_13_0 : decode prog_1_method_15_code 0 = .ok (.aload_n 0, 1) := by decide +kernel
theorem dc_13_1 : decode prog_1_method_15_code 1 = .ok (.getfield 19, 3) := by decide +kernel
theorem dc_13_4 : decode prog_1_method_15_code 4 = .ok (.aload_n 0, 1) := by decide +kernel
theorem dc_13_5 : decode prog_1_method_15_code 5 = .ok (.getfield 10, 3) := by decide +kernel
theorem dc_13_8 : decode prog_1_method_15_code 8 = .ok (.getfield 41, 3) := by decide +kernel
theorem dc_13_11 : decode prog_1_method_15_code 11 = .ok (.invokevirtual 51, 3) := by decide +kernel
theorem dc_13_14 : decode prog_1_method_15_code 14 = .ok (.iconst 0, 1) := by decide +kernel
theorem dc_13_15 : decode prog_1_method_15_code 15 = .ok (.istore_n 1, 1) := by decide +kernel
theorem dc_13_16 : decode prog_1_method_15_code 16 = .ok (.iload_n 1, 1) := by decide +kernel
theorem dc_13_17 : decode prog_1_method_15_code 17 = .ok (.bipush 16, 2) := by decide +kernel
theorem dc_13_19 : decode prog_1_method_15_code 19 = .ok (.if_icmp .ge 23, 3) := by decide +kernel
theorem dc_13_22 : decode prog_1_method_15_code 22 = .ok (.aload_n 0, 1) := by decide +kernel
theorem dc_13_23 : decode prog_1_method_15_code 23 = .ok (.getfield 37, 3) := by decide +kernel
theorem dc_13_26 : decode prog_1_method_15_code 26 = .ok (.iload_n 1, 1) := by decide +kernel
theorem dc_13_27 : decode prog_1_method_15_code 27 = .ok (.aload_n 0, 1) := by decide +kernel
theorem dc_13_28 : decode prog_1_method_15_code 28 = .ok (.getfield 10, 3) := by decide +kernel
theorem dc_13_31 : decode prog_1_method_15_code 31 = .ok (.iload_n 1, 1) := by decide +kernel
theorem dc_13_32 : decode prog_1_method_15_code 32 = .ok (.invokevirtual 127, 3) := by decide +kernel
theorem dc_13_35 : decode prog_1_method_15_code 35 = .ok (.iastore, 1) := by decide +kernel
theorem dc_13_36 : decode prog_1_method_15_code 36 = .ok (.iinc 1 1, 3) := by decide +kernel
theorem dc_13_39 : decode prog_1_method_15_code 39 = .ok (.goto (-23), 3) := by decide +kernel
theorem dc_13_42 : decode prog_1_method_15_code 42 = .ok (.iconst 0, 1) := by decide +kernel
theorem dc_13_43 : decode prog_1_method_15_code 43 = .ok (.istore_n 1, 1) := by decide +kernel
theorem dc_13_44 : decode prog_1_method_15_code 44 = .ok (.iconst 0, 1) := by decide +kernel
theorem dc_13_45 : decode prog_1_method_15_code 45 = .ok (.istore_n 2, 1) := by decide +kernel
theorem dc_13_46 : decode prog_1_method_15_code 46 = .ok (.iload_n 2, 1) := by decide +kernel
theorem dc_13_47 : decode prog_1_method_15_code 47 = .ok (.bipush 16, 2) := by decide +kernel
theorem dc_13_49 : decode prog_1_method_15_code 49 = .ok (.if_icmp .ge 47, 3) := by decide +kernel
theorem dc_13_52 : decode prog_1_method_15_code 52 = .ok (.aload_n 0, 1) := by decide +kernel
theorem dc_13_53 : decode prog_1_method_15_code 53 = .ok (.invokevirtual 130, 3) := by decide +kernel
theorem dc_13_56 : decode prog_1_method_15_code 56 = .ok (.istore_n 3, 1) := by decide +kernel
theorem dc_13_57 : decode prog_1_method_15_code 57 = .ok (.iload_n 3, 1) := by decide +kernel
theorem dc_13_58 : decode prog_1_method_15_code 58 = .ok (.iconst (-1), 1) := by decide +kernel
theorem dc_13_59 : decode prog_1_method_15_code 59 = .ok (.if_icmp .ne 6, 3) := by decide +kernel
theorem dc_13_62 : decode prog_1_method_15_code 62 = .ok (.goto 34, 3) := by decide +kernel
theorem dc_13_65 : decode prog_1_method_15_code 65 = .ok (.aload_n 0, 1) := by decide +kernel
theorem dc_13_66 : decode prog_1_method_15_code 66 = .ok (.getfield 37, 3) := by decide +kernel
theorem dc_13_69 : decode prog_1_method_15_code 69 = .ok (.iload_n 3, 1) := by decide +kernel
theorem dc_13_70 : decode prog_1_method_15_code 70 = .ok (.iconst (-1), 1) := by decide +kernel
theorem dc_13_71 : decode prog_1_method_15_code 71 = .ok (.iastore, 1) := by decide +kernel
theorem dc_13_72 : decode prog_1_method_15_code 72 = .ok (.aload_n 0, 1) := by decide +kernel
theorem dc_13_73 : decode prog_1_method_15_code 73 = .ok (.getfield 26, 3) := by decide +kernel
theorem dc_13_76 : decode prog_1_method_15_code 76 = .ok (.aload_n 0, 1) := by decide +kernel
theorem dc_13_77 : decode prog_1_method_15_code 77 = .ok (.getfield 10, 3) := by decide +kernel
theorem dc_13_80 : decode prog_1_method_15_code 80 = .ok (.iload_n 3, 1) := by decide +kernel
theorem dc_13_81 : decode prog_1_method_15_code 81 = .ok (.invokevirtual 134, 3) := by decide +kernel
theorem dc_13_84 : decode prog_1_method_15_code 84 = .ok (.ifCond .eq 6, 3) := by decide +kernel
theorem dc_13_87 : decode prog_1_method_15_code 87 = .ok (.iinc 1 1, 3) := by decide +kernel
theorem dc_13_90 : decode prog_1_method_15_code 90 = .ok (.iinc 2 1, 3) := by decide +kernel
theorem dc_13_93 : decode prog_1_method_15_code 93 = .ok (.goto (-47), 3) := by decide +kernel
theorem dc_13_96 : decode prog_1_method_15_code 96 = .ok (.aload_n 0, 1) := by decide +kernel
theorem dc_13_97 : decode prog_1_method_15_code 97 = .ok (.getfield 19, 3) := by decide +kernel
theorem dc_13_100 : decode prog_1_method_15_code 100 = .ok (.aload_n 0, 1) := by decide +kernel
theorem dc_13_101 : decode prog_1_method_15_code 101 = .ok (.getfield 10, 3) := by decide +kernel
theorem dc_13_104 : decode prog_1_method_15_code 104 = .ok (.getfield 41, 3) := by decide +kernel
theorem dc_13_107 : decode prog_1_method_15_code 107 = .ok (.invokevirtual 59, 3) := by decide +kernel
theorem dc_13_110 : decode prog_1_method_15_code 110 = .ok (.iload_n 1, 1) := by decide +kernel
theorem dc_13_111 : decode prog_1_method_15_code 111 = .ok (.ireturn, 1) := by decide +kernel
theorem dc_14_0 : decode prog_1_method_16_code 0 = .ok (.iload_n 1, 1) := by decide +kernel
theorem dc_14_1 : decode prog_1_method_16_code 1 = .ok (.invokestatic 100, 3) := by decide +kernel
theorem dc_14_4 : decode prog_1_method_16_code 4 = .ok (.ifCond .eq 14, 3) := by decide +kernel
theorem dc_14_7 : decode prog_1_method_16_code 7 = .ok (.aload_n 0, 1) := by decide +kernel
theorem dc_14_8 : decode prog_1_method_16_code 8 = .ok (.getfield 10, 3) := by decide +kernel
theorem dc_14_11 : decode prog_1_method_16_code 11 = .ok (.iload_n 1, 1) := by decide +kernel
theorem dc_14_12 : decode prog_1_method_16_code 12 = .ok (.invokevirtual 103, 3) := by decide +kernel
theorem dc_14_15 : decode prog_1_method_16_code 15 = .ok (.goto 4, 3) := by decide +kernel
theorem dc_14_18 : decode prog_1_method_16_code 18 = .ok (.iconst (-1), 1) := by decide +kernel
theorem dc_14_19 : decode prog_1_method_16_code 19 = .ok (.ireturn, 1) := by decide +kernel
theorem dc_15_0 : decode prog_1_method_17_code 0 = .ok (.iload_n 1, 1) := by decide +kernel
theorem dc_15_1 : decode prog_1_method_17_code 1 = .ok (.ifCond .lt 12, 3) := by decide +kernel
theorem dc_15_4 : decode prog_1_method_17_code 4 = .ok (.iload_n 2, 1) := by decide +kernel
theorem dc_15_5 : decode prog_1_method_17_code 5 = .ok (.ifCond .lt 8, 3) := by decide +kernel
theorem dc_15_8 : decode prog_1_method_17_code 8 = .ok (.iload_n 2, 1) := by decide +kernel
theorem dc_15_9 : decode prog_1_method_17_code 9 = .ok (.iconst 3, 1) := by decide +kernel
theorem dc_15_10 : decode prog_1_method_17_code 10 = .ok (.if_icmp .le 5, 3) := by decide +kernel
theorem dc_15_13 : decode prog_1_method_17_code 13 = .ok (.iconst (-1), 1) := by decide +kernel
theorem dc_15_14 : decode prog_1_method_17_code 14 = .ok (.ireturn, 1) := by decide +kernel
theorem dc_15_15 : decode prog_1_method_17_code 15 = .ok (.iload_n 1, 1) := by decide +kernel
theorem dc_15_16 : decode prog_1_method_17_code 16 = .ok (.istore_n 3, 1) := by decide +kernel
theorem dc_15_17 : decode prog_1_method_17_code 17 = .ok (.iconst 0, 1) := by decide +kernel
theorem dc_15_18 : decode prog_1_method_17_code 18 = .ok (.istore 4, 2) := by decide +kernel
theorem dc_15_20 : decode prog_1_method_17_code 20 = .ok (.iload 4, 2) := by decide +kernel
theorem dc_15_22 : decode prog_1_method_17_code 22 = .ok (.aload_n 0, 1) := by decide +kernel
theorem dc_15_23 : decode prog_1_method_17_code 23 = .ok (.getfield 10, 3) := by decide +kernel
theorem dc_15_26 : decode prog_1_method_17_code 26 = .ok (.getfield 41, 3) := by decide +kernel
theorem dc_15_29 : decode prog_1_method_17_code 29 = .ok (.getfield 45, 3) := by decide +kernel
theorem dc_15_32 : decode prog_1_method_17_code 32 = .ok (.if_icmp .ge 51, 3) := by decide +kernel
theorem dc_15_35 : decode prog_1_method_17_code 35 = .ok (.aload_n 0, 1) := by decide +kernel
theorem dc_15_36 : decode prog_1_method_17_code 36 = .ok (.getfield 26, 3) := by decide +kernel
theorem dc_15_39 : decode prog_1_method_17_code 39 = .ok (.aload_n 0, 1) := by decide +kernel
theorem dc_15_40 : decode prog_1_method_17_code 40 = .ok (.getfield 10, 3) := by decide +kernel
theorem dc_15_43 : decode prog_1_method_17_code 43 = .ok (.iload 4, 2) := by decide +kernel
theorem dc_15_45 : decode prog_1_method_17_code 45 = .ok (.invokevirtual 138, 3) := by decide +kernel
theorem dc_15_48 : decode prog_1_method_17_code 48 = .ok (.istore 5, 2) := by decide +kernel
theorem dc_15_50 : decode prog_1_method_17_code 50 = .ok (.iload 5, 2) := by decide +kernel
theorem dc_15_52 : decode prog_1_method_17_code 52 = .ok (.iconst (-1), 1) := by decide +kernel
theorem dc_15_53 : decode prog_1_method_17_code 53 = .ok (.if_icmp .ne 6, 3) := by decide +kernel
theorem dc_15_56 : decode prog_1_method_17_code 56 = .ok (.goto 21, 3) := by decide +kernel
theorem dc_15_59 : decode prog_1_method_17_code 59 = .ok (.iload_n 3, 1) := by decide +kernel
theorem dc_15_60 : decode prog_1_method_17_code 60 = .ok (.ifCond .ne 14, 3) := by decide +kernel
theorem dc_15_63 : decode prog_1_method_17_code 63 = .ok (.iload_n 2, 1) := by decide +kernel
theorem dc_15_64 : decode prog_1_method_17_code 64 = .ok (.iconst 1, 1) := by decide +kernel
theorem dc_15_65 : decode prog_1_method_17_code 65 = .ok (.iload 4, 2) := by decide +kernel
theorem dc_15_67 : decode prog_1_method_17_code 67 = .ok (.iload 5, 2) := by decide +kernel
theorem dc_15_69 : decode prog_1_method_17_code 69 = .ok (.iconst (-1), 1) := by decide +kernel
theorem dc_15_70 : decode prog_1_method_17_code 70 = .ok (.invokestatic 141, 3) := by decide +kernel
theorem dc_15_73 : decode prog_1_method_17_code 73 = .ok (.ireturn, 1) := by decide +kernel
theorem dc_15_74 : decode prog_1_method_17_code 74 = .ok (.iinc 3 (-1), 3) := by decide +kernel
theorem dc_15_77 : decode prog_1_method_17_code 77 = .ok (.iinc 4 1, 3) := by decide +kernel
theorem dc_15_80 : decode prog_1_method_17_code 80 = .ok (.goto (-60), 3) := by decide +kernel
theorem dc_15_83 : decode prog_1_method_17_code 83 = .ok (.aload_n 0, 1) := by decide +kernel
theorem dc_15_84 : decode prog_1_method_17_code 84 = .ok (.iload_n 3, 1) := by decide +kernel
theorem dc_15_85 : decode prog_1_method_17_code 85 = .ok (.iload_n 2, 1) := by decide +kernel
theorem dc_15_86 : decode prog_1_method_17_code 86 = .ok (.invokevirtual 145, 3) := by decide +kernel
theorem dc_15_89 : decode prog_1_method_17_code 89 = .ok (.ireturn, 1) := by decide +kernel
theorem dc_16_0 : decode prog_1_method_18_code 0 = .ok (.iload_n 1, 1) := by decide +kernel
theorem dc_16_1 : decode prog_1_method_18_code 1 = .ok (.invokestatic 148, 3) := by decide +kernel
theorem dc_16_4 : decode prog_1_method_18_code 4 = .ok (.ifCond .eq 7, 3) := by decide +kernel
theorem dc_16_7 : decode prog_1_method_18_code 7 = .ok (.iload_n 2, 1) := by decide +kernel
theorem dc_16_8 : decode prog_1_method_18_code 8 = .ok (.ifCond .ge 5, 3) := by decide +kernel
theorem dc_16_11 : decode prog_1_method_18_code 11 = .ok (.iconst (-1), 1) := by decide +kernel
theorem dc_16_12 : decode prog_1_method_18_code 12 = .ok (.ireturn, 1) := by decide +kernel
theorem dc_16_13 : decode prog_1_method_18_code 13 = .ok (.iload_n 2, 1) := by decide +kernel
theorem dc_16_14 : decode prog_1_method_18_code 14 = .ok (.istore_n 3, 1) := by decide +kernel
theorem dc_16_15 : decode prog_1_method_18_code 15 = .ok (.iload_n 1, 1) := by decide +kernel
theorem dc_16_16 : decode prog_1_method_18_code 16 = .ok (.bipush 120, 2) := by decide +kernel
theorem dc_16_18 : decode prog_1_method_18_code 18 = .ok (.imul, 1) := by decide +kernel
theorem dc_16_19 : decode prog_1_method_18_code 19 = .ok (.istore 4, 2) := by decide +kernel
theorem dc_16_21 : decode prog_1_method_18_code 21 = .ok (.iload 4, 2) := by decide +kernel
theorem dc_16_23 : decode prog_1_method_18_code 23 = .ok (.bipush 120, 2) := by decide +kernel
theorem dc_16_25 : decode prog_1_method_18_code 25 = .ok (.iadd, 1) := by decide +kernel
theorem dc_16_26 : decode prog_1_method_18_code 26 = .ok (.istore 5, 2) := by decide +kernel
theorem dc_16_28 : decode prog_1_method_18_code 28 = .ok (.iconst 0, 1) := by decide +kernel
theorem dc_16_29 : decode prog_1_method_18_code 29 = .ok (.istore 6, 2) := by decide +kernel
theorem dc_16_31 : decode prog_1_method_18_code 31 = .ok (.iload 6, 2) := by decide +kernel
theorem dc_16_33 : decode prog_1_method_18_code 33 = .ok (.bipush 120, 2) := by decide +kernel
theorem dc_16_35 : decode prog_1_method_18_code 35 = .ok (.if_icmp .ge 80, 3) := by decide +kernel
theorem dc_16_38 : decode prog_1_method_18_code 38 = .ok (.iload 4, 2) := by decide +kernel
theorem dc_16_40 : decode prog_1_method_18_code 40 = .ok (.iload 5, 2) := by decide +kernel
theorem dc_16_42 : decode prog_1_method_18_code 42 = .ok (.if_icmp .ge 73, 3) := by decide +kernel
theorem dc_16_45 : decode prog_1_method_18_code 45 = .ok (.aload_n 0, 1) := by decide +kernel
theorem dc_16_46 : decode prog_1_method_18_code 46 = .ok (.getfield 10, 3) := by decide +kernel
theorem dc_16_49 : decode prog_1_method_18_code 49 = .ok (.iload 4, 2) := by decide +kernel
theorem dc_16_51 : decode prog_1_method_18_code 51 = .ok (.invokevirtual 151, 3) := by decide +kernel
theorem dc_16_54 : decode prog_1_method_18_code 54 = .ok (.istore 7, 2) := by decide +kernel
theorem dc_16_56 : decode prog_1_method_18_code 56 = .ok (.aload_n 0, 1) := by decide +kernel
theorem dc_16_57 : decode prog_1_method_18_code 57 = .ok (.getfield 10, 3) := by decide +kernel
theorem dc_16_60 : decode prog_1_method_18_code 60 = .ok (.iload 4, 2) := by decide +kernel
theorem dc_16_62 : decode prog_1_method_18_code 62 = .ok (.invokevirtual 103, 3) := by decide +kernel
theorem dc_16_65 : decode prog_1_method_18_code 65 = .ok (.istore 8, 2) := by decide +kernel
theorem dc_16_67 : decode prog_1_method_18_code 67 = .ok (.iload 8, 2) := by decide +kernel
theorem dc_16_69 : decode prog_1_method_18_code 69 = .ok (.iconst (-1), 1) := by decide +kernel
theorem dc_16_70 : decode prog_1_method_18_code 70 = .ok (.if_icmp .eq 32, 3) := by decide +kernel
theorem dc_16_73 : decode prog_1_method_18_code 73 = .ok (.iload_n 3, 1) := by decide +kernel
theorem dc_16_74 : decode prog_1_method_18_code 74 = .ok (.iconst 4, 1) := by decide +kernel
theorem dc_16_75 : decode prog_1_method_18_code 75 = .ok (.if_icmp .ge 24, 3) := by decide +kernel
theorem dc_16_78 : decode prog_1_method_18_code 78 = .ok (.iload_n 3, 1) := by decide +kernel
theorem dc_16_79 : decode prog_1_method_18_code 79 = .ok (.iload 4, 2) := by decide +kernel
theorem dc_16_81 : decode prog_1_method_18_code 81 = .ok (.invokestatic 154, 3) := by decide +kernel
theorem dc_16_84 : decode prog_1_method_18_code 84 = .ok (.iload 4, 2) := by decide +kernel
theorem dc_16_86 : decode prog_1_method_18_code 86 = .ok (.invokestatic 157, 3) := by decide +kernel
theorem dc_16_89 : decode prog_1_method_18_code 89 = .ok (.iload 7, 2) := by decide +kernel
theorem dc_16_91 : decode prog_1_method_18_code 91 = .ok (.iload 8, 2) := by decide +kernel
theorem dc_16_93 : decode prog_1_method_18_code 93 = .ok (.iconst 1, 1) := by decide +kernel
theorem dc_16_94 : decode prog_1_method_18_code 94 = .ok (.iadd, 1) := by decide +kernel
theorem dc_16_95 : decode prog_1_method_18_code 95 = .ok (.invokestatic 141, 3) := by decide +kernel
theorem dc_16_98 : decode prog_1_method_18_code 98 = .ok (.ireturn, 1) := by decide +kernel
theorem dc_16_99 : decode prog_1_method_18_code 99 = .ok (.iinc 3 (-4), 3) := by decide +kernel
theorem dc_16_102 : decode prog_1_method_18_code 102 = .ok (.iload 4, 2) := by decide +kernel
theorem dc_16_104 : decode prog_1_method_18_code 104 = .ok (.iload 7, 2) := by decide +kernel
theorem dc_16_106 : decode prog_1_method_18_code 106 = .ok (.iadd, 1) := by decide +kernel
theorem dc_16_107 : decode prog_1_method_18_code 107 = .ok (.istore 4, 2) := by decide +kernel
theorem dc_16_109 : decode prog_1_method_18_code 109 = .ok (.iinc 6 1, 3) := by decide +kernel
theorem dc_16_112 : decode prog_1_method_18_code 112 = .ok (.goto (-81), 3) := by decide +kernel
theorem dc_16_115 : decode prog_1_method_18_code 115 = .ok (.iload_n 3, 1) := by decide +kernel
theorem dc_16_116 : decode prog_1_method_18_code 116 = .ok (.ifCond .ne 9, 3) := by decide +kernel
theorem dc_16_119 : decode prog_1_method_18_code 119 = .ok (.sipush 255, 3) := by decide +kernel
theorem dc_16_122 : decode prog_1_method_18_code 122 = .ok (.goto 4, 3) := by decide +kernel
theorem dc_16_125 : decode prog_1_method_18_code 125 = .ok (.iconst (-1), 1) := by decide +kernel
theorem dc_16_126 : decode prog_1_method_18_code 126 = .ok (.ireturn, 1) := by decide +kernel
theorem dc_17_0 : decode prog_1_method_19_code 0 = .ok (.iload_n 1, 1) := by decide +kernel
theorem dc_17_1 : decode prog_1_method_19_code 1 = .ok (.ifCond .lt 10, 3) := by decide +kernel
theorem dc_17_4 : decode prog_1_method_19_code 4 = .ok (.iload_n 1, 1) := by decide +kernel
theorem dc_17_5 : decode prog_1_method_19_code 5 = .ok (.sipush 255, 3) := by decide +kernel
theorem dc_17_8 : decode prog_1_method_19_code 8 = .ok (.if_icmp .le 5, 3) := by decide +kernel
theorem dc_17_11 : decode prog_1_method_19_code 11 = .ok (.iconst (-1), 1) := by decide +kernel
theorem dc_17_12 : decode prog_1_method_19_code 12 = .ok (.ireturn, 1) := by decide +kernel
theorem dc_17_13 : decode prog_1_method_19_code 13 = .ok (.aload_n 0, 1) := by decide +kernel
theorem dc_17_14 : decode prog_1_method_19_code 14 = .ok (.getfield 33, 3) := by decide +kernel
theorem dc_17_17 : decode prog_1_method_19_code 17 = .ok (.iload_n 1, 1) := by decide +kernel
theorem dc_17_18 : decode prog_1_method_19_code 18 = .ok (.invokevirtual 160, 3) := by decide +kernel
theorem dc_17_21 : decode prog_1_method_19_code 21 = .ok (.ifCond .eq 13, 3) := by decide +kernel
theorem dc_17_24 : decode prog_1_method_19_code 24 = .ok (.aload_n 0, 1) := by decide +kernel
theorem dc_17_25 : decode prog_1_method_19_code 25 = .ok (.getfield 33, 3) := by decide +kernel
theorem dc_17_28 : decode prog_1_method_19_code 28 = .ok (.getfield 163, 3) := by decide +kernel
theorem dc_17_31 : decode prog_1_method_19_code 31 = .ok (.goto 5, 3) := by decide +kernel
theorem dc_17_34 : decode prog_1_method_19_code 34 = .ok (.bipush (-2), 2) := by decide +kernel
theorem dc_17_36 : decode prog_1_method_19_code 36 = .ok (.ireturn, 1) := by decide +kernel
theorem dc_18_0 : decode prog_1_method_20_code 0 = .ok (.iload_n 1, 1) := by decide +kernel
theorem dc_18_1 : decode prog_1_method_20_code 1 = .ok (.invokestatic 148, 3) := by decide +kernel
theorem dc_18_4 : decode prog_1_method_20_code 4 = .ok (.ifCond .ne 5, 3) := by decide +kernel
theorem dc_18_7 : decode prog_1_method_20_code 7 = .ok (.iconst (-1), 1) := by decide +kernel
theorem dc_18_8 : decode prog_1_method_20_code 8 = .ok (.ireturn, 1) := by decide +kernel
theorem dc_18_9 : decode prog_1_method_20_code 9 = .ok (.aload_n 0, 1) := by decide +kernel
theorem dc_18_10 : decode prog_1_method_20_code 10 = .ok (.getfield 33, 3) := by decide +kernel
theorem dc_18_13 : decode prog_1_method_20_code 13 = .ok (.invokevirtual 166, 3) := by decide +kernel
theorem dc_18_16 : decode prog_1_method_20_code 16 = .ok (.aload_n 0, 1) := by decide +kernel
theorem dc_18_17 : decode prog_1_method_20_code 17 = .ok (.getfield 33, 3) := by decide +kernel
theorem dc_18_20 : decode prog_1_method_20_code 20 = .ok (.iconst 0, 1) := by decide +kernel
theorem dc_18_21 : decode prog_1_method_20_code 21 = .ok (.putfield 163, 3) := by decide +kernel
theorem dc_18_24 : decode prog_1_method_20_code 24 = .ok (.iconst 0, 1) := by decide +kernel
theorem dc_18_25 : decode prog_1_method_20_code 25 = .ok (.istore_n 2, 1) := by decide +kernel
theorem dc_18_26 : decode prog_1_method_20_code 26 = .ok (.iconst 0, 1) := by decide +kernel
theorem dc_18_27 : decode prog_1_method_20_code 27 = .ok (.istore_n 3, 1) := by decide +kernel
theorem dc_18_28 : decode prog_1_method_20_code 28 = .ok (.iload_n 3, 1) := by decide +kernel
theorem dc_18_29 : decode prog_1_method_20_code 29 = .ok (.bipush 120, 2) := by decide +kernel
theorem dc_18_31 : decode prog_1_method_20_code 31 = .ok (.if_icmp .ge 37, 3) := by decide +kernel
theorem dc_18_34 : decode prog_1_method_20_code 34 = .ok (.aload_n 0, 1) := by decide +kernel
theorem dc_18_35 : decode prog_1_method_20_code 35 = .ok (.getfield 33, 3) := by decide +kernel
theorem dc_18_38 : decode prog_1_method_20_code 38 = .ok (.getfield 169, 3) := by decide +kernel
theorem dc_18_41 : decode prog_1_method_20_code 41 = .ok (.iload_n 3, 1) := by decide +kernel
theorem dc_18_42 : decode prog_1_method_20_code 42 = .ok (.iaload, 1) := by decide +kernel
theorem dc_18_43 : decode prog_1_method_20_code 43 = .ok (.aload_n 0, 1) := by decide +kernel
theorem dc_18_44 : decode prog_1_method_20_code 44 = .ok (.getfield 10, 3) := by decide +kernel
theorem dc_18_47 : decode prog_1_method_20_code 47 = .ok (.iload_n 1, 1) := by decide +kernel
theorem dc_18_48 : decode prog_1_method_20_code 48 = .ok (.bipush 120, 2) := by decide +kernel
theorem dc_18_50 : decode prog_1_method_20_code 50 = .ok (.imul, 1) := by decide +kernel
theorem dc_18_51 : decode prog_1_method_20_code 51 = .ok (.iload_n 3, 1) := by decide +kernel
theorem dc_18_52 : decode prog_1_method_20_code 52 = .ok (.iadd, 1) := by decide +kernel
theorem dc_18_53 : decode prog_1_method_20_code 53 = .ok (.invokevirtual 103, 3) := by decide +kernel
theorem dc_18_56 : decode prog_1_method_20_code 56 = .ok (.if_icmp .eq 6, 3) := by decide +kernel
theorem dc_18_59 : decode prog_1_method_20_code 59 = .ok (.iinc 2 1, 3) := by decide +kernel
theorem dc_18_62 : decode prog_1_method_20_code 62 = .ok (.iinc 3 1, 3) := by decide +kernel
theorem dc_18_65 : decode prog_1_method_20_code 65 = .ok (.goto (-37), 3) := by decide +kernel
theorem dc_18_68 : decode prog_1_method_20_code 68 = .ok (.iload_n 2, 1) := by decide +kernel
theorem dc_18_69 : decode prog_1_method_20_code 69 = .ok (.ireturn, 1) := by decide +kernel
theorem dc_19_0 : decode prog_1_method_21_code 0 = .ok (.aload_n 0, 1) := by decide +kernel
theorem dc_19_1 : decode prog_1_method_21_code 1 = .ok (.getfield 19, 3) := by decide +kernel
theorem dc_19_4 : decode prog_1_method_21_code 4 = .ok (.getfield 172, 3) := by decide +kernel
theorem dc_19_7 : decode prog_1_method_21_code 7 = .ok (.ifCond .ne 5, 3) := by decide +kernel
theorem dc_19_10 : decode prog_1_method_21_code 10 = .ok (.iconst (-1), 1) := by decide +kernel
theorem dc_19_11 : decode prog_1_method_21_code 11 = .ok (.ireturn, 1) := by decide +kernel
theorem dc_19_12 : decode prog_1_method_21_code 12 = .ok (.aload_n 0, 1) := by decide +kernel
theorem dc_19_13 : decode prog_1_method_21_code 13 = .ok (.getfield 19, 3) := by decide +kernel
theorem dc_19_16 : decode prog_1_method_21_code 16 = .ok (.aload_n 0, 1) := by decide +kernel
theorem dc_19_17 : decode prog_1_method_21_code 17 = .ok (.getfield 10, 3) := by decide +kernel
theorem dc_19_20 : decode prog_1_method_21_code 20 = .ok (.getfield 41, 3) := by decide +kernel
theorem dc_19_23 : decode prog_1_method_21_code 23 = .ok (.invokevirtual 173, 3) := by decide +kernel
theorem dc_19_26 : decode prog_1_method_21_code 26 = .ok (.aload_n 0, 1) := by decide +kernel
theorem dc_19_27 : decode prog_1_method_21_code 27 = .ok (.getfield 10, 3) := by decide +kernel
theorem dc_19_30 : decode prog_1_method_21_code 30 = .ok (.invokevirtual 176, 3) := by decide +kernel
theorem dc_19_33 : decode prog_1_method_21_code 33 = .ok (.aload_n 0, 1) := by decide +kernel
theorem dc_19_34 : decode prog_1_method_21_code 34 = .ok (.getfield 19, 3) := by decide +kernel
theorem dc_19_37 : decode prog_1_method_21_code 37 = .ok (.getfield 172, 3) := by decide +kernel
theorem dc_19_40 : decode prog_1_method_21_code 40 = .ok (.ireturn, 1) := by decide +kernel
theorem dc_20_0 : decode prog_1_method_22_code 0 = .ok (.iconst (-1), 1) := by decide +kernel
theorem dc_20_1 : decode prog_1_method_22_code 1 = .ok (.istore_n 1, 1) := by decide +kernel
theorem dc_20_2 : decode prog_1_method_22_code 2 = .ok (.iconst 0, 1) := by decide +kernel
theorem dc_20_3 : decode prog_1_method_22_code 3 = .ok (.istore_n 2, 1) := by decide +kernel
theorem dc_20_4 : decode prog_1_method_22_code 4 = .ok (.iload_n 2, 1) := by decide +kernel
theorem dc_20_5 : decode prog_1_method_22_code 5 = .ok (.bipush 16, 2) := by decide +kernel
theorem dc_20_7 : decode prog_1_method_22_code 7 = .ok (.if_icmp .ge 41, 3) := by decide +kernel
theorem dc_20_10 : decode prog_1_method_22_code 10 = .ok (.aload_n 0, 1) := by decide +kernel
theorem dc_20_11 : decode prog_1_method_22_code 11 = .ok (.getfield 37, 3) := by decide +kernel
theorem dc_20_14 : decode prog_1_method_22_code 14 = .ok (.iload_n 2, 1) := by decide +kernel
theorem dc_20_15 : decode prog_1_method_22_code 15 = .ok (.iaload, 1) := by decide +kernel
theorem dc_20_16 : decode prog_1_method_22_code 16 = .ok (.iconst (-1), 1) := by decide +kernel
theorem dc_20_17 : decode prog_1_method_22_code 17 = .ok (.if_icmp .eq 25, 3) := by decide +kernel
theorem dc_20_20 : decode prog_1_method_22_code 20 = .ok (.iload_n 1, 1) := by decide +kernel
theorem dc_20_21 : decode prog_1_method_22_code 21 = .ok (.iconst (-1), 1) := by decide +kernel
theorem dc_20_22 : decode prog_1_method_22_code 22 = .ok (.if_icmp .eq 18, 3) := by decide +kernel
theorem dc_20_25 : decode prog_1_method_22_code 25 = .ok (.aload_n 0, 1) := by decide +kernel
theorem dc_20_26 : decode prog_1_method_22_code 26 = .ok (.getfield 37, 3) := by decide +kernel
theorem dc_20_29 : decode prog_1_method_22_code 29 = .ok (.iload_n 2, 1) := by decide +kernel
theorem dc_20_30 : decode prog_1_method_22_code 30 = .ok (.iaload, 1) := by decide +kernel
theorem dc_20_31 : decode prog_1_method_22_code 31 = .ok (.aload_n 0, 1) := by decide +kernel
theorem dc_20_32 : decode prog_1_method_22_code 32 = .ok (.getfield 37, 3) := by decide +kernel
theorem dc_20_35 : decode prog_1_method_22_code 35 = .ok (.iload_n 1, 1) := by decide +kernel
theorem dc_20_36 : decode prog_1_method_22_code 36 = .ok (.iaload, 1) := by decide +kernel
theorem dc_20_37 : decode prog_1_method_22_code 37 = .ok (.if_icmp .ge 5, 3) := by decide +kernel
theorem dc_20_40 : decode prog_1_method_22_code 40 = .ok (.iload_n 2, 1) := by decide +kernel
theorem dc_20_41 : decode prog_1_method_22_code 41 = .ok (.istore_n 1, 1) := by decide +kernel
theorem dc_20_42 : decode prog_1_method_22_code 42 = .ok (.iinc 2 1, 3) := by decide +kernel
theorem dc_20_45 : decode prog_1_method_22_code 45 = .ok (.goto (-41), 3) := by decide +kernel
theorem dc_20_48 : decode prog_1_method_22_code 48 = .ok (.iload_n 1, 1) := by decide +kernel
theorem dc_20_49 : decode prog_1_method_22_code 49 = .ok (.ireturn, 1) := by decide +kernel
theorem dc_21_0 : decode prog_1_method_23_code 0 = .ok (.iload_n 1, 1) := by decide +kernel
theorem dc_21_1 : decode prog_1_method_23_code 1 = .ok (.istore_n 3, 1) := by decide +kernel
theorem dc_21_2 : decode prog_1_method_23_code 2 = .ok (.iconst 0, 1) := by decide +kernel
theorem dc_21_3 : decode prog_1_method_23_code 3 = .ok (.istore 4, 2) := by decide +kernel
theorem dc_21_5 : decode prog_1_method_23_code 5 = .ok (.iload 4, 2) := by decide +kernel
theorem dc_21_7 : decode prog_1_method_23_code 7 = .ok (.aload_n 0, 1) := by decide +kernel
theorem dc_21_8 : decode prog_1_method_23_code 8 = .ok (.getfield 10, 3) := by decide +kernel
theorem dc_21_11 : decode prog_1_method_23_code 11 = .ok (.getfield 41, 3) := by decide +kernel
theorem dc_21_14 : decode prog_1_method_23_code 14 = .ok (.getfield 45, 3) := by decide +kernel
theorem dc_21_17 : decode prog_1_method_23_code 17 = .ok (.if_icmp .ge 87, 3) := by decide +kernel
theorem dc_21_20 : decode prog_1_method_23_code 20 = .ok (.aload_n 0, 1) := by decide +kernel
theorem dc_21_21 : decode prog_1_method_23_code 21 = .ok (.getfield 10, 3) := by decide +kernel
theorem dc_21_24 : decode prog_1_method_23_code 24 = .ok (.iload 4, 2) := by decide +kernel
theorem dc_21_26 : decode prog_1_method_23_code 26 = .ok (.aload_n 0, 1) := by decide +kernel
theorem dc_21_27 : decode prog_1_method_23_code 27 = .ok (.getfield 37, 3) := by decide +kernel
theorem dc_21_30 : decode prog_1_method_23_code 30 = .ok (.invokevirtual 179, 3) := by decide +kernel
theorem dc_21_33 : decode prog_1_method_23_code 33 = .ok (.iload 4, 2) := by decide +kernel
theorem dc_21_35 : decode prog_1_method_23_code 35 = .ok (.iconst 1, 1) := by decide +kernel
theorem dc_21_36 : decode prog_1_method_23_code 36 = .ok (.iadd, 1) := by decide +kernel
theorem dc_21_37 : decode prog_1_method_23_code 37 = .ok (.istore 5, 2) := by decide +kernel
theorem dc_21_39 : decode prog_1_method_23_code 39 = .ok (.iload 5, 2) := by decide +kernel
theorem dc_21_41 : decode prog_1_method_23_code 41 = .ok (.aload_n 0, 1) := by decide +kernel
theorem dc_21_42 : decode prog_1_method_23_code 42 = .ok (.getfield 10, 3) := by decide +kernel
theorem dc_21_45 : decode prog_1_method_23_code 45 = .ok (.getfield 41, 3) := by decide +kernel
theorem dc_21_48 : decode prog_1_method_23_code 48 = .ok (.getfield 45, 3) := by decide +kernel
theorem dc_21_51 : decode prog_1_method_23_code 51 = .ok (.if_icmp .ge 47, 3) := by decide +kernel
theorem dc_21_54 : decode prog_1_method_23_code 54 = .ok (.aload_n 0, 1) := by decide +kernel
theorem dc_21_55 : decode prog_1_method_23_code 55 = .ok (.getfield 37, 3) := by decide +kernel
theorem dc_21_58 : decode prog_1_method_23_code 58 = .ok (.iload 5, 2) := by decide +kernel
theorem dc_21_60 : decode prog_1_method_23_code 60 = .ok (.iaload, 1) := by decide +kernel
theorem dc_21_61 : decode prog_1_method_23_code 61 = .ok (.iconst (-1), 1) := by decide +kernel
theorem dc_21_62 : decode prog_1_method_23_code 62 = .ok (.if_icmp .ne 6, 3) := by decide +kernel
theorem dc_21_65 : decode prog_1_method_23_code 65 = .ok (.goto 27, 3) := by decide +kernel
theorem dc_21_68 : decode prog_1_method_23_code 68 = .ok (.iload_n 3, 1) := by decide +kernel
theorem dc_21_69 : decode prog_1_method_23_code 69 = .ok (.ifCond .ne 20, 3) := by decide +kernel
theorem dc_21_72 : decode prog_1_method_23_code 72 = .ok (.iload_n 2, 1) := by decide +kernel
theorem dc_21_73 : decode prog_1_method_23_code 73 = .ok (.iconst 2, 1) := by decide +kernel
theorem dc_21_74 : decode prog_1_method_23_code 74 = .ok (.iload 4, 2) := by decide +kernel
theorem dc_21_76 : decode prog_1_method_23_code 76 = .ok (.iload 5, 2) := by decide +kernel
theorem dc_21_78 : decode prog_1_method_23_code 78 = .ok (.aload_n 0, 1) := by decide +kernel
theorem dc_21_79 : decode prog_1_method_23_code 79 = .ok (.getfield 37, 3) := by decide +kernel
theorem dc_21_82 : decode prog_1_method_23_code 82 = .ok (.iload 5, 2) := by decide +kernel
theorem dc_21_84 : decode prog_1_method_23_code 84 = .ok (.iaload, 1) := by decide +kernel
theorem dc_21_85 : decode prog_1_method_23_code 85 = .ok (.invokestatic 141, 3) := by decide +kernel
theorem dc_21_88 : decode prog_1_method_23_code 88 = .ok (.ireturn, 1) := by decide +kernel
theorem dc_21_89 : decode prog_1_method_23_code 89 = .ok (.iinc 3 (-1), 3) := by decide +kernel
theorem dc_21_92 : decode prog_1_method_23_code 92 = .ok (.iinc 5 1, 3) := by decide +kernel
theorem dc_21_95 : decode prog_1_method_23_code 95 = .ok (.goto (-56), 3) := by decide +kernel
theorem dc_21_98 : decode prog_1_method_23_code 98 = .ok (.iinc 4 1, 3) := by decide +kernel
theorem dc_21_101 : decode prog_1_method_23_code 101 = .ok (.goto (-96), 3) := by decide +kernel
theorem dc_21_104 : decode prog_1_method_23_code 104 = .ok (.iconst (-1), 1) := by decide +kernel
theorem dc_21_105 : decode prog_1_method_23_code 105 = .ok (.ireturn, 1) := by decide +kernel
theorem dc_22_0 : decode prog_1_method_24_code 0 = .ok (.iload_n 0, 1) := by decide +kernel
theorem dc_22_1 : decode prog_1_method_24_code 1 = .ok (.tableswitch 40 0 3 #[31, 33, 35, 37], 31) := by decide +kernel
theorem dc_22_32 : decode prog_1_method_24_code 32 = .ok (.iload_n 1, 1) := by decide +kernel
theorem dc_22_33 : decode prog_1_method_24_code 33 = .ok (.ireturn, 1) := by decide +kernel
theorem dc_22_34 : decode prog_1_method_24_code 34 = .ok (.iload_n 2, 1) := by decide +kernel
theorem dc_22_35 : decode prog_1_method_24_code 35 = .ok (.ireturn, 1) := by decide +kernel
theorem dc_22_36 : decode prog_1_method_24_code 36 = .ok (.iload_n 3, 1) := by decide +kernel
theorem dc_22_37 : decode prog_1_method_24_code 37 = .ok (.ireturn, 1) := by decide +kernel
theorem dc_22_38 : decode prog_1_method_24_code 38 = .ok (.iload 4, 2) := by decide +kernel
theorem dc_22_40 : decode prog_1_method_24_code 40 = .ok (.ireturn, 1) := by decide +kernel
theorem dc_22_41 : decode prog_1_method_24_code 41 = .ok (.iconst (-1), 1) := by decide +kernel
theorem dc_22_42 : decode prog_1_method_24_code 42 = .ok (.ireturn, 1) := by decide +kernel
theorem dc_23_0 : decode prog_1_method_25_code 0 = .ok (.iload_n 0, 1) := by decide +kernel
theorem dc_23_1 : decode prog_1_method_25_code 1 = .ok (.ifCond .lt 12, 3) := by decide +kernel
theorem dc_23_4 : decode prog_1_method_25_code 4 = .ok (.iload_n 0, 1) := by decide +kernel
theorem dc_23_5 : decode prog_1_method_25_code 5 = .ok (.iconst 2, 1) := by decide +kernel
theorem dc_23_6 : decode prog_1_method_25_code 6 = .ok (.if_icmp .ge 7, 3) := by decide +kernel
theorem dc_23_9 : decode prog_1_method_25_code 9 = .ok (.iconst 1, 1) := by decide +kernel
theorem dc_23_10 : decode prog_1_method_25_code 10 = .ok (.goto 4, 3) := by decide +kernel
theorem dc_23_13 : decode prog_1_method_25_code 13 = .ok (.iconst 0, 1) := by decide +kernel
theorem dc_23_14 : decode prog_1_method_25_code 14 = .ok (.ireturn, 1) := by decide +kernel
theorem dc_24_0 : decode prog_1_method_26_code 0 = .ok (.iload_n 0, 1) := by decide +kernel
theorem dc_24_1 : decode prog_1_method_26_code 1 = .ok (.ifCond .lt 14, 3) := by decide +kernel
theorem dc_24_4 : decode prog_1_method_26_code 4 = .ok (.iload_n 0, 1) := by decide +kernel
theorem dc_24_5 : decode prog_1_method_26_code 5 = .ok (.sipush 240, 3) := by decide +kernel
theorem dc_24_8 : decode prog_1_method_26_code 8 = .ok (.if_icmp .ge 7, 3) := by decide +kernel
theorem dc_24_11 : decode prog_1_method_26_code 11 = .ok (.iconst 1, 1) := by decide +kernel
theorem dc_24_12 : decode prog_1_method_26_code 12 = .ok (.goto 4, 3) := by decide +kernel
theorem dc_24_15 : decode prog_1_method_26_code 15 = .ok (.iconst 0, 1) := by decide +kernel
theorem dc_24_16 : decode prog_1_method_26_code 16 = .ok (.ireturn, 1) := by decide +kernel
theorem dc_25_0 : decode prog_1_method_27_code 0 = .ok (.iload_n 0, 1) := by decide +kernel
theorem dc_25_1 : decode prog_1_method_27_code 1 = .ok (.bipush 120, 2) := by decide +kernel
theorem dc_25_3 : decode prog_1_method_27_code 3 = .ok (.irem, 1) := by decide +kernel
theorem dc_25_4 : decode prog_1_method_27_code 4 = .ok (.bipush 12, 2) := by decide +kernel
theorem dc_25_6 : decode prog_1_method_27_code 6 = .ok (.idiv, 1) := by decide +kernel
theorem dc_25_7 : decode prog_1_method_27_code 7 = .ok (.ireturn, 1) := by decide +kernel
theorem dc_26_0 : decode prog_1_method_28_code 0 = .ok (.iload_n 0, 1) := by decide +kernel
theorem dc_26_1 : decode prog_1_method_28_code 1 = .ok (.bipush 12, 2) := by decide +kernel
theorem dc_26_3 : decode prog_1_method_28_code 3 = .ok (.irem, 1) := by decide +kernel
theorem dc_26_4 : decode prog_1_method_28_code 4 = .ok (.ireturn, 1) := by decide +kernel
theorem dc_27_0 : decode prog_1_method_29_code 0 = .ok (.iload_n 0, 1) := by decide +kernel
theorem dc_27_1 : decode prog_1_method_29_code 1 = .ok (.bipush 12, 2) := by decide +kernel
theorem dc_27_3 : decode prog_1_method_29_code 3 = .ok (.irem, 1) := by decide +kernel
theorem dc_27_4 : decode prog_1_method_29_code 4 = .ok (.iload_n 1, 1) := by decide +kernel
theorem dc_27_5 : decode prog_1_method_29_code 5 = .ok (.iadd, 1) := by decide +kernel
theorem dc_27_6 : decode prog_1_method_29_code 6 = .ok (.istore_n 3, 1) := by decide +kernel
theorem dc_27_7 : decode prog_1_method_29_code 7 = .ok (.iload_n 0, 1) := by decide +kernel
theorem dc_27_8 : decode prog_1_method_29_code 8 = .ok (.bipush 120, 2) := by decide +kernel
theorem dc_27_10 : decode prog_1_method_29_code 10 = .ok (.irem, 1) := by decide +kernel
theorem dc_27_11 : decode prog_1_method_29_code 11 = .ok (.bipush 12, 2) := by decide +kernel
theorem dc_27_13 : decode prog_1_method_29_code 13 = .ok (.idiv, 1) := by decide +kernel
theorem dc_27_14 : decode prog_1_method_29_code 14 = .ok (.iload_n 2, 1) := by decide +kernel
theorem dc_27_15 : decode prog_1_method_29_code 15 = .ok (.iadd, 1) := by decide +kernel
theorem dc_27_16 : decode prog_1_method_29_code 16 = .ok (.istore 4, 2) := by decide +kernel
theorem dc_27_18 : decode prog_1_method_29_code 18 = .ok (.iload_n 3, 1) := by decide +kernel
theorem dc_27_19 : decode prog_1_method_29_code 19 = .ok (.ifCond .lt 21, 3) := by decide +kernel
theorem dc_27_22 : decode prog_1_method_29_code 22 = .ok (.iload_n 3, 1) := by decide +kernel
theorem dc_27_23 : decode prog_1_method_29_code 23 = .ok (.bipush 12, 2) := by decide +kernel
theorem dc_27_25 : decode prog_1_method_29_code 25 = .ok (.if_icmp .ge 15, 3) := by decide +kernel
theorem dc_27_28 : decode prog_1_method_29_code 28 = .ok (.iload 4, 2) := by decide +kernel
theorem dc_27_30 : decode prog_1_method_29_code 30 = .ok (.ifCond .lt 10, 3) := by decide +kernel
theorem dc_27_33 : decode prog_1_method_29_code 33 = .ok (.iload 4, 2) := by decide +kernel
theorem dc_27_35 : decode prog_1_method_29_code 35 = .ok (.bipush 10, 2) := by decide +kernel
theorem dc_27_37 : decode prog_1_method_29_code 37 = .ok (.if_icmp .lt 5, 3) := by decide +kernel
theorem dc_27_40 : decode prog_1_method_29_code 40 = .ok (.iconst (-1), 1) := by decide +kernel
theorem dc_27_41 : decode prog_1_method_29_code 41 = .ok (.ireturn, 1) := by decide +kernel
theorem dc_27_42 : decode prog_1_method_29_code 42 = .ok (.iload_n 0, 1) := by decide +kernel
theorem dc_27_43 : decode prog_1_method_29_code 43 = .ok (.iload_n 2, 1) := by decide +kernel
theorem dc_27_44 : decode prog_1_method_29_code 44 = .ok (.bipush 12, 2) := by decide +kernel
theorem dc_27_46 : decode prog_1_method_29_code 46 = .ok (.imul, 1) := by decide +kernel
theorem dc_27_47 : decode prog_1_method_29_code 47 = .ok (.iadd, 1) := by decide +kernel
theorem dc_27_48 : decode prog_1_method_29_code 48 = .ok (.iload_n 1, 1) := by decide +kernel
theorem dc_27_49 : decode prog_1_method_29_code 49 = .ok (.iadd, 1) := by decide +kernel
theorem dc_27_50 : decode prog_1_method_29_code 50 = .ok (.ireturn, 1) := by decide +kernel
theorem dc_28_0 : decode prog_1_method_30_code 0 = .ok (.iload_n 1, 1) := by decide +kernel
theorem dc_28_1 : decode prog_1_method_30_code 1 = .ok (.bipush 8, 2) := by decide +kernel
theorem dc_28_3 : decode prog_1_method_30_code 3 = .ok (.if_icmp .ne 21, 3) := by decide +kernel
theorem dc_28_6 : decode prog_1_method_30_code 6 = .ok (.iload_n 0, 1) := by decide +kernel
theorem dc_28_7 : decode prog_1_method_30_code 7 = .ok (.bipush 120, 2) := by decide +kernel
theorem dc_28_9 : decode prog_1_method_30_code 9 = .ok (.if_icmp .ge 10, 3) := by decide +kernel
theorem dc_28_12 : decode prog_1_method_30_code 12 = .ok (.iload_n 0, 1) := by decide +kernel
theorem dc_28_13 : decode prog_1_method_30_code 13 = .ok (.bipush 120, 2) := by decide +kernel
theorem dc_28_15 : decode prog_1_method_30_code 15 = .ok (.iadd, 1) := by decide +kernel
theorem dc_28_16 : decode prog_1_method_30_code 16 = .ok (.goto 7, 3) := by decide +kernel
theorem dc_28_19 : decode prog_1_method_30_code 19 = .ok (.iload_n 0, 1) := by decide +kernel
theorem dc_28_20 : decode prog_1_method_30_code 20 = .ok (.bipush 120, 2) := by decide +kernel
theorem dc_28_22 : decode prog_1_method_30_code 22 = .ok (.isub, 1) := by decide +kernel
theorem dc_28_23 : decode prog_1_method_30_code 23 = .ok (.ireturn, 1) := by decide +kernel
theorem dc_28_24 : decode prog_1_method_30_code 24 = .ok (.iload_n 0, 1) := by decide +kernel
theorem dc_28_25 : decode prog_1_method_30_code 25 = .ok (.getstatic 183, 3) := by decide +kernel
theorem dc_28_28 : decode prog_1_method_30_code 28 = .ok (.iload_n 1, 1) := by decide +kernel
theorem dc_28_29 : decode prog_1_method_30_code 29 = .ok (.iaload, 1) := by decide +kernel
theorem dc_28_30 : decode prog_1_method_30_code 30 = .ok (.getstatic 186, 3) := by decide +kernel
theorem dc_28_33 : decode prog_1_method_30_code 33 = .ok (.iload_n 1, 1) := by decide +kernel
theorem dc_28_34 : decode prog_1_method_30_code 34 = .ok (.iaload, 1) := by decide +kernel
theorem dc_28_35 : decode prog_1_method_30_code 35 = .ok (.invokestatic 189, 3) := by decide +kernel
theorem dc_28_38 : decode prog_1_method_30_code 38 = .ok (.ireturn, 1) := by decide +kernel
theorem dc_29_0 : decode prog_2_method_2_code 0 = .ok (.iload_n 1, 1) := by decide +kernel
theorem dc_29_1 : decode prog_2_method_2_code 1 = .ok (.ifCond .lt 18, 3) := by decide +kernel
theorem dc_29_4 : decode prog_2_method_2_code 4 = .ok (.iload_n 1, 1) := by decide +kernel
theorem dc_29_5 : decode prog_2_method_2_code 5 = .ok (.aload_n 0, 1) := by decide +kernel
theorem dc_29_6 : decode prog_2_method_2_code 6 = .ok (.getfield 12, 3) := by decide +kernel
theorem dc_29_9 : decode prog_2_method_2_code 9 = .ok (.getfield 22, 3) := by decide +kernel
theorem dc_29_12 : decode prog_2_method_2_code 12 = .ok (.if_icmp .ge 7, 3) := by decide +kernel
theorem dc_29_15 : decode prog_2_method_2_code 15 = .ok (.iconst 1, 1) := by decide +kernel
theorem dc_29_16 : decode prog_2_method_2_code 16 = .ok (.goto 4, 3) := by decide +kernel
theorem dc_29_19 : decode prog_2_method_2_code 19 = .ok (.iconst 0, 1) := by decide +kernel
theorem dc_29_20 : decode prog_2_method_2_code 20 = .ok (.ireturn, 1) := by decide +kernel
theorem dc_30_0 : decode prog_2_method_3_code 0 = .ok (.aload_n 0, 1) := by decide +kernel
theorem dc_30_1 : decode prog_2_method_3_code 1 = .ok (.getfield 12, 3) := by decide +kernel
theorem dc_30_4 : decode prog_2_method_3_code 4 = .ok (.getfield 26, 3) := by decide +kernel
theorem dc_30_7 : decode prog_2_method_3_code 7 = .ok (.iload_n 1, 1) := by decide +kernel
theorem dc_30_8 : decode prog_2_method_3_code 8 = .ok (.iaload, 1) := by decide +kernel
theorem dc_30_9 : decode prog_2_method_3_code 9 = .ok (.ifCond .eq 7, 3) := by decide +kernel
theorem dc_30_12 : decode prog_2_method_3_code 12 = .ok (.iconst 1, 1) := by decide +kernel
theorem dc_30_13 : decode prog_2_method_3_code 13 = .ok (.goto 4, 3) := by decide +kernel
theorem dc_30_16 : decode prog_2_method_3_code 16 = .ok (.iconst 0, 1) := by decide +kernel
theorem dc_30_17 : decode prog_2_method_3_code 17 = .ok (.ireturn, 1) := by decide +kernel
theorem dc_31_0 : decode prog_2_method_4_code 0 = .ok (.aload_n 0, 1) := by decide +kernel
theorem dc_31_1 : decode prog_2_method_4_code 1 = .ok (.getfield 18, 3) := by decide +kernel
theorem dc_31_4 : decode prog_2_method_4_code 4 = .ok (.iload_n 1, 1) := by decide +kernel
theorem dc_31_5 : decode prog_2_method_4_code 5 = .ok (.iaload, 1) := by decide +kernel
theorem dc_31_6 : decode prog_2_method_4_code 6 = .ok (.ireturn, 1) := by decide +kernel
theorem dc_32_0 : decode prog_2_method_5_code 0 = .ok (.aload_n 0, 1) := by decide +kernel
theorem dc_32_1 : decode prog_2_method_5_code 1 = .ok (.getfield 12, 3) := by decide +kernel
theorem dc_32_4 : decode prog_2_method_5_code 4 = .ok (.getfield 29, 3) := by decide +kernel
theorem dc_32_7 : decode prog_2_method_5_code 7 = .ok (.iload_n 1, 1) := by decide +kernel
theorem dc_32_8 : decode prog_2_method_5_code 8 = .ok (.iaload, 1) := by decide +kernel
theorem dc_32_9 : decode prog_2_method_5_code 9 = .ok (.istore_n 2, 1) := by decide +kernel
theorem dc_32_10 : decode prog_2_method_5_code 10 = .ok (.iload_n 2, 1) := by decide +kernel
theorem dc_32_11 : decode prog_2_method_5_code 11 = .ok (.ifCond .ge 7, 3) := by decide +kernel
theorem dc_32_14 : decode prog_2_method_5_code 14 = .ok (.iconst (-1), 1) := by decide +kernel
theorem dc_32_15 : decode prog_2_method_5_code 15 = .ok (.goto 9, 3) := by decide +kernel
theorem dc_32_18 : decode prog_2_method_5_code 18 = .ok (.aload_n 0, 1) := by decide +kernel
theorem dc_32_19 : decode prog_2_method_5_code 19 = .ok (.getfield 18, 3) := by decide +kernel
theorem dc_32_22 : decode prog_2_method_5_code 22 = .ok (.iload_n 2, 1) := by decide +kernel
theorem dc_32_23 : decode prog_2_method_5_code 23 = .ok (.iaload, 1) := by decide +kernel
theorem dc_32_24 : decode prog_2_method_5_code 24 = .ok (.ireturn, 1) := by decide +kernel
theorem dc_33_0 : decode prog_2_method_6_code 0 = .ok (.aload_n 0, 1) := by decide +kernel
theorem dc_33_1 : decode prog_2_method_6_code 1 = .ok (.getfield 12, 3) := by decide +kernel
theorem dc_33_4 : decode prog_2_method_6_code 4 = .ok (.getfield 26, 3) := by decide +kernel
theorem dc_33_7 : decode prog_2_method_6_code 7 = .ok (.iload_n 1, 1) := by decide +kernel
theorem dc_33_8 : decode prog_2_method_6_code 8 = .ok (.iaload, 1) := by decide +kernel
theorem dc_33_9 : decode prog_2_method_6_code 9 = .ok (.iload_n 2, 1) := by decide +kernel
theorem dc_33_10 : decode prog_2_method_6_code 10 = .ok (.bipush 120, 2) := by decide +kernel
theorem dc_33_12 : decode prog_2_method_6_code 12 = .ok (.idiv, 1) := by decide +kernel
theorem dc_33_13 : decode prog_2_method_6_code 13 = .ok (.ishr, 1) := by decide +kernel
theorem dc_33_14 : decode prog_2_method_6_code 14 = .ok (.iconst 1, 1) := by decide +kernel
theorem dc_33_15 : decode prog_2_method_6_code 15 = .ok (.iand, 1) := by decide +kernel
theorem dc_33_16 : decode prog_2_method_6_code 16 = .ok (.ifCond .eq 7, 3) := by decide +kernel
theorem dc_33_19 : decode prog_2_method_6_code 19 = .ok (.iconst 1, 1) := by decide +kernel
theorem dc_33_20 : decode prog_2_method_6_code 20 = .ok (.goto 4, 3) := by decide +kernel
theorem dc_33_23 : decode prog_2_method_6_code 23 = .ok (.iconst 0, 1) := by decide +kernel
theorem dc_33_24 : decode prog_2_method_6_code 24 = .ok (.istore_n 3, 1) := by decide +kernel
theorem dc_33_25 : decode prog_2_method_6_code 25 = .ok (.iload_n 3, 1) := by decide +kernel
theorem dc_33_26 : decode prog_2_method_6_code 26 = .ok (.ifCond .eq 23, 3) := by decide +kernel
theorem dc_33_29 : decode prog_2_method_6_code 29 = .ok (.aload_n 0, 1) := by decide +kernel
theorem dc_33_30 : decode prog_2_method_6_code 30 = .ok (.getfield 12, 3) := by decide +kernel
theorem dc_33_33 : decode prog_2_method_6_code 33 = .ok (.getfield 32, 3) := by decide +kernel
theorem dc_33_36 : decode prog_2_method_6_code 36 = .ok (.iload_n 1, 1) := by decide +kernel
theorem dc_33_37 : decode prog_2_method_6_code 37 = .ok (.iaload, 1) := by decide +kernel
theorem dc_33_38 : decode prog_2_method_6_code 38 = .ok (.iload_n 2, 1) := by decide +kernel
theorem dc_33_39 : decode prog_2_method_6_code 39 = .ok (.bipush 120, 2) := by decide +kernel
theorem dc_33_41 : decode prog_2_method_6_code 41 = .ok (.irem, 1) := by decide +kernel
theorem dc_33_42 : decode prog_2_method_6_code 42 = .ok (.if_icmp .ne 7, 3) := by decide +kernel
theorem dc_33_45 : decode prog_2_method_6_code 45 = .ok (.iconst 1, 1) := by decide +kernel
theorem dc_33_46 : decode prog_2_method_6_code 46 = .ok (.goto 4, 3) := by decide +kernel
theorem dc_33_49 : decode prog_2_method_6_code 49 = .ok (.iconst 0, 1) := by decide +kernel
theorem dc_33_50 : decode prog_2_method_6_code 50 = .ok (.ireturn, 1) := by decide +kernel
theorem dc_34_0 : decode prog_2_method_7_code 0 = .ok (.aload_n 0, 1) := by decide +kernel
theorem dc_34_1 : decode prog_2_method_7_code 1 = .ok (.getfield 12, 3) := by decide +kernel
theorem dc_34_4 : decode prog_2_method_7_code 4 = .ok (.getfield 29, 3) := by decide +kernel
theorem dc_34_7 : decode prog_2_method_7_code 7 = .ok (.iload_n 1, 1) := by decide +kernel
theorem dc_34_8 : decode prog_2_method_7_code 8 = .ok (.iaload, 1) := by decide +kernel
theorem dc_34_9 : decode prog_2_method_7_code 9 = .ok (.istore_n 2, 1) := by decide +kernel
theorem dc_34_10 : decode prog_2_method_7_code 10 = .ok (.iload_n 2, 1) := by decide +kernel
theorem dc_34_11 : decode prog_2_method_7_code 11 = .ok (.ifCond .lt 16, 3) := by decide +kernel
theorem dc_34_14 : decode prog_2_method_7_code 14 = .ok (.aload_n 0, 1) := by decide +kernel
theorem dc_34_15 : decode prog_2_method_7_code 15 = .ok (.iload_n 2, 1) := by decide +kernel
theorem dc_34_16 : decode prog_2_method_7_code 16 = .ok (.iload_n 1, 1) := by decide +kernel
theorem dc_34_17 : decode prog_2_method_7_code 17 = .ok (.invokevirtual 35, 3) := by decide +kernel
theorem dc_34_20 : decode prog_2_method_7_code 20 = .ok (.ifCond .ne 7, 3) := by decide +kernel
theorem dc_34_23 : decode prog_2_method_7_code 23 = .ok (.iconst 1, 1) := by decide +kernel
theorem dc_34_24 : decode prog_2_method_7_code 24 = .ok (.goto 4, 3) := by decide +kernel
theorem dc_34_27 : decode prog_2_method_7_code 27 = .ok (.iconst 0, 1) := by decide +kernel
theorem dc_34_28 : decode prog_2_method_7_code 28 = .ok (.ireturn, 1) := by decide +kernel
theorem dc_35_0 : decode prog_2_method_8_code 0 = .ok (.aload_n 0, 1) := by decide +kernel
theorem dc_35_1 : decode prog_2_method_8_code 1 = .ok (.getfield 12, 3) := by decide +kernel
theorem dc_35_4 : decode prog_2_method_8_code 4 = .ok (.getfield 26, 3) := by decide +kernel
theorem dc_35_7 : decode prog_2_method_8_code 7 = .ok (.iload_n 1, 1) := by decide +kernel
theorem dc_35_8 : decode prog_2_method_8_code 8 = .ok (.iaload, 1) := by decide +kernel
theorem dc_35_9 : decode prog_2_method_8_code 9 = .ok (.iconst 1, 1) := by decide +kernel
theorem dc_35_10 : decode prog_2_method_8_code 10 = .ok (.iand, 1) := by decide +kernel
theorem dc_35_11 : decode prog_2_method_8_code 11 = .ok (.ifCond .eq 15, 3) := by decide +kernel
theorem dc_35_14 : decode prog_2_method_8_code 14 = .ok (.aload_n 0, 1) := by decide +kernel
theorem dc_35_15 : decode prog_2_method_8_code 15 = .ok (.getfield 12, 3) := by decide +kernel
theorem dc_35_18 : decode prog_2_method_8_code 18 = .ok (.getfield 32, 3) := by decide +kernel
theorem dc_35_21 : decode prog_2_method_8_code 21 = .ok (.iload_n 1, 1) := by decide +kernel
theorem dc_35_22 : decode prog_2_method_8_code 22 = .ok (.iaload, 1) := by decide +kernel
theorem dc_35_23 : decode prog_2_method_8_code 23 = .ok (.goto 15, 3) := by decide +kernel
theorem dc_35_26 : decode prog_2_method_8_code 26 = .ok (.aload_n 0, 1) := by decide +kernel
theorem dc_35_27 : decode prog_2_method_8_code 27 = .ok (.getfield 12, 3) := by decide +kernel
theorem dc_35_30 : decode prog_2_method_8_code 30 = .ok (.getfield 32, 3) := by decide +kernel
theorem dc_35_33 : decode prog_2_method_8_code 33 = .ok (.iload_n 1, 1) := by decide +kernel
theorem dc_35_34 : decode prog_2_method_8_code 34 = .ok (.iaload, 1) := by decide +kernel
theorem dc_35_35 : decode prog_2_method_8_code 35 = .ok (.bipush 120, 2) := by decide +kernel
theorem dc_35_37 : decode prog_2_method_8_code 37 = .ok (.iadd, 1) := by decide +kernel
theorem dc_35_38 : decode prog_2_method_8_code 38 = .ok (.ireturn, 1) := by decide +kernel
theorem dc_36_0 : decode prog_2_method_9_code 0 = .ok (.aload_n 0, 1) := by decide +kernel
theorem dc_36_1 : decode prog_2_method_9_code 1 = .ok (.getfield 12, 3) := by decide +kernel
theorem dc_36_4 : decode prog_2_method_9_code 4 = .ok (.getfield 29, 3) := by decide +kernel
theorem dc_36_7 : decode prog_2_method_9_code 7 = .ok (.iload_n 1, 1) := by decide +kernel
theorem dc_36_8 : decode prog_2_method_9_code 8 = .ok (.iaload, 1) := by decide +kernel
theorem dc_36_9 : decode prog_2_method_9_code 9 = .ok (.bipush (-2), 2) := by decide +kernel
theorem dc_36_11 : decode prog_2_method_9_code 11 = .ok (.if_icmp .ne 5, 3) := by decide +kernel
theorem dc_36_14 : decode prog_2_method_9_code 14 = .ok (.iconst 0, 1) := by decide +kernel
theorem dc_36_15 : decode prog_2_method_9_code 15 = .ok (.ireturn, 1) := by decide +kernel
theorem dc_36_16 : decode prog_2_method_9_code 16 = .ok (.aload_n 0, 1) := by decide +kernel
theorem dc_36_17 : decode prog_2_method_9_code 17 = .ok (.getfield 12, 3) := by decide +kernel
theorem dc_36_20 : decode prog_2_method_9_code 20 = .ok (.getfield 39, 3) := by decide +kernel
theorem dc_36_23 : decode prog_2_method_9_code 23 = .ok (.istore_n 3, 1) := by decide +kernel
theorem dc_36_24 : decode prog_2_method_9_code 24 = .ok (.iload_n 3, 1) := by decide +kernel
theorem dc_36_25 : decode prog_2_method_9_code 25 = .ok (.ineg, 1) := by decide +kernel
theorem dc_36_26 : decode prog_2_method_9_code 26 = .ok (.istore 4, 2) := by decide +kernel
theorem dc_36_28 : decode prog_2_method_9_code 28 = .ok (.iload 4, 2) := by decide +kernel
theorem dc_36_30 : decode prog_2_method_9_code 30 = .ok (.iload_n 3, 1) := by decide +kernel
theorem dc_36_31 : decode prog_2_method_9_code 31 = .ok (.if_icmp .gt 67, 3) := by decide +kernel
theorem dc_36_34 : decode prog_2_method_9_code 34 = .ok (.iload_n 3, 1) := by decide +kernel
theorem dc_36_35 : decode prog_2_method_9_code 35 = .ok (.ineg, 1) := by decide +kernel
theorem dc_36_36 : decode prog_2_method_9_code 36 = .ok (.istore 5, 2) := by decide +kernel
theorem dc_36_38 : decode prog_2_method_9_code 38 = .ok (.iload 5, 2) := by decide +kernel
theorem dc_36_40 : decode prog_2_method_9_code 40 = .ok (.iload_n 3, 1) := by decide +kernel
theorem dc_36_41 : decode prog_2_method_9_code 41 = .ok (.if_icmp .gt 51, 3) := by decide +kernel
theorem dc_36_44 : decode prog_2_method_9_code 44 = .ok (.iload_n 1, 1) := by decide +kernel
theorem dc_36_45 : decode prog_2_method_9_code 45 = .ok (.iload 5, 2) := by decide +kernel
theorem dc_36_47 : decode prog_2_method_9_code 47 = .ok (.iload 4, 2) := by decide +kernel
theorem dc_36_49 : decode prog_2_method_9_code 49 = .ok (.invokestatic 42, 3) := by decide +kernel
theorem dc_36_52 : decode prog_2_method_9_code 52 = .ok (.istore 6, 2) := by decide +kernel
theorem dc_36_54 : decode prog_2_method_9_code 54 = .ok (.iload 6, 2) := by decide +kernel
theorem dc_36_56 : decode prog_2_method_9_code 56 = .ok (.iconst (-1), 1) := by decide +kernel
theorem dc_36_57 : decode prog_2_method_9_code 57 = .ok (.if_icmp .ne 7, 3) := by decide +kernel
theorem dc_36_60 : decode prog_2_method_9_code 60 = .ok (.iconst (-1), 1) := by decide +kernel
theorem dc_36_61 : decode prog_2_method_9_code 61 = .ok (.goto 9, 3) := by decide +kernel
theorem dc_36_64 : decode prog_2_method_9_code 64 = .ok (.aload_n 0, 1) := by decide +kernel
theorem dc_36_65 : decode prog_2_method_9_code 65 = .ok (.iload 6, 2) := by decide +kernel
theorem dc_36_67 : decode prog_2_method_9_code 67 = .ok (.invokevirtual 46, 3) := by decide +kernel
theorem dc_36_70 : decode prog_2_method_9_code 70 = .ok (.istore 7, 2) := by decide +kernel
theorem dc_36_72 : decode prog_2_method_9_code 72 = .ok (.iload 7, 2) := by decide +kernel
theorem dc_36_74 : decode prog_2_method_9_code 74 = .ok (.iconst (-1), 1) := by decide +kernel
theorem dc_36_75 : decode prog_2_method_9_code 75 = .ok (.if_icmp .eq 11, 3) := by decide +kernel
theorem dc_36_78 : decode prog_2_method_9_code 78 = .ok (.iload 7, 2) := by decide +kernel
theorem dc_36_80 : decode prog_2_method_9_code 80 = .ok (.iload_n 2, 1) := by decide +kernel
theorem dc_36_81 : decode prog_2_method_9_code 81 = .ok (.if_icmp .eq 5, 3) := by decide +kernel
theorem dc_36_84 : decode prog_2_method_9_code 84 = .ok (.iconst 0, 1) := by decide +kernel
theorem dc_36_85 : decode prog_2_method_9_code 85 = .ok (.ireturn, 1) := by decide +kernel
theorem dc_36_86 : decode prog_2_method_9_code 86 = .ok (.iinc 5 1, 3) := by decide +kernel
theorem dc_36_89 : decode prog_2_method_9_code 89 = .ok (.goto (-51), 3) := by decide +kernel
theorem dc_36_92 : decode prog_2_method_9_code 92 = .ok (.iinc 4 1, 3) := by decide +kernel
theorem dc_36_95 : decode prog_2_method_9_code 95 = .ok (.goto (-67), 3) := by decide +kernel
theorem dc_36_98 : decode prog_2_method_9_code 98 = .ok (.iconst 1, 1) := by decide +kernel
theorem dc_36_99 : decode prog_2_method_9_code 99 = .ok (.ireturn, 1) := by decide +kernel
theorem dc_37_0 : decode prog_2_method_10_code 0 = .ok (.aload_n 0, 1) := by decide +kernel
theorem dc_37_1 : decode prog_2_method_10_code 1 = .ok (.getfield 12, 3) := by decide +kernel
theorem dc_37_4 : decode prog_2_method_10_code 4 = .ok (.getfield 22, 3) := by decide +kernel
theorem dc_37_7 : decode prog_2_method_10_code 7 = .ok (.istore_n 2, 1) := by decide +kernel
theorem dc_37_8 : decode prog_2_method_10_code 8 = .ok (.aload_n 0, 1) := by decide +kernel
theorem dc_37_9 : decode prog_2_method_10_code 9 = .ok (.getfield 12, 3) := by decide +kernel
theorem dc_37_12 : decode prog_2_method_10_code 12 = .ok (.getfield 50, 3) := by decide +kernel
theorem dc_37_15 : decode prog_2_method_10_code 15 = .ok (.iload_n 2, 1) := by decide +kernel
theorem dc_37_16 : decode prog_2_method_10_code 16 = .ok (.iload_n 1, 1) := by decide +kernel
theorem dc_37_17 : decode prog_2_method_10_code 17 = .ok (.iastore, 1) := by decide +kernel
theorem dc_37_18 : decode prog_2_method_10_code 18 = .ok (.aload_n 0, 1) := by decide +kernel
theorem dc_37_19 : decode prog_2_method_10_code 19 = .ok (.getfield 12, 3) := by decide +kernel
theorem dc_37_22 : decode prog_2_method_10_code 22 = .ok (.dup, 1) := by decide +kernel
theorem dc_37_23 : decode prog_2_method_10_code 23 = .ok (.getfield 22, 3) := by decide +kernel
theorem dc_37_26 : decode prog_2_method_10_code 26 = .ok (.iconst 1, 1) := by decide +kernel
theorem dc_37_27 : decode prog_2_method_10_code 27 = .ok (.iadd, 1) := by decide +kernel
theorem dc_37_28 : decode prog_2_method_10_code 28 = .ok (.putfield 22, 3) := by decide +kernel
theorem dc_37_31 : decode prog_2_method_10_code 31 = .ok (.aload_n 0, 1) := by decide +kernel
theorem dc_37_32 : decode prog_2_method_10_code 32 = .ok (.invokevirtual 53, 3) := by decide +kernel
theorem dc_37_35 : decode prog_2_method_10_code 35 = .ok (.iload_n 2, 1) := by decide +kernel
theorem dc_37_36 : decode prog_2_method_10_code 36 = .ok (.ireturn, 1) := by decide +kernel
theorem dc_38_0 : decode prog_2_method_11_code 0 = .ok (.aload_n 0, 1) := by decide +kernel
theorem dc_38_1 : decode prog_2_method_11_code 1 = .ok (.getfield 12, 3) := by decide +kernel
theorem dc_38_4 : decode prog_2_method_11_code 4 = .ok (.getfield 56, 3) := by decide +kernel
theorem dc_38_7 : decode prog_2_method_11_code 7 = .ok (.istore_n 3, 1) := by decide +kernel
theorem dc_38_8 : decode prog_2_method_11_code 8 = .ok (.aload_n 0, 1) := by decide +kernel
theorem dc_38_9 : decode prog_2_method_11_code 9 = .ok (.getfield 12, 3) := by decide +kernel
theorem dc_38_12 : decode prog_2_method_11_code 12 = .ok (.getfield 59, 3) := by decide +kernel
theorem dc_38_15 : decode prog_2_method_11_code 15 = .ok (.iload_n 3, 1) := by decide +kernel
theorem dc_38_16 : decode prog_2_method_11_code 16 = .ok (.iload_n 1, 1) := by decide +kernel
theorem dc_38_17 : decode prog_2_method_11_code 17 = .ok (.iastore, 1) := by decide +kernel
theorem dc_38_18 : decode prog_2_method_11_code 18 = .ok (.aload_n 0, 1) := by decide +kernel
theorem dc_38_19 : decode prog_2_method_11_code 19 = .ok (.getfield 12, 3) := by decide +kernel
theorem dc_38_22 : decode prog_2_method_11_code 22 = .ok (.getfield 62, 3) := by decide +kernel
theorem dc_38_25 : decode prog_2_method_11_code 25 = .ok (.iload_n 3, 1) := by decide +kernel
theorem dc_38_26 : decode prog_2_method_11_code 26 = .ok (.iload_n 2, 1) := by decide +kernel
theorem dc_38_27 : decode prog_2_method_11_code 27 = .ok (.iastore, 1) := by decide +kernel
theorem dc_38_28 : decode prog_2_method_11_code 28 = .ok (.aload_n 0, 1) := by decide +kernel
theorem dc_38_29 : decode prog_2_method_11_code 29 = .ok (.getfield 12, 3) := by decide +kernel
theorem dc_38_32 : decode prog_2_method_11_code 32 = .ok (.dup, 1) := by decide +kernel
theorem dc_38_33 : decode prog_2_method_11_code 33 = .ok (.getfield 56, 3) := by decide +kernel
theorem dc_38_36 : decode prog_2_method_11_code 36 = .ok (.iconst 1, 1) := by decide +kernel
theorem dc_38_37 : decode prog_2_method_11_code 37 = .ok (.iadd, 1) := by decide +kernel
theorem dc_38_38 : decode prog_2_method_11_code 38 = .ok (.putfield 56, 3) := by decide +kernel
theorem dc_38_41 : decode prog_2_method_11_code 41 = .ok (.aload_n 0, 1) := by decide +kernel
theorem dc_38_42 : decode prog_2_method_11_code 42 = .ok (.invokevirtual 53, 3) := by decide +kernel
theorem dc_38_45 : decode prog_2_method_11_code 45 = .ok (.iload_n 3, 1) := by decide +kernel
theorem dc_38_46 : decode prog_2_method_11_code 46 = .ok (.ireturn, 1) := by decide +kernel
theorem dc_39_0 : decode prog_2_method_12_code 0 = .ok (.aload_n 0, 1) := by decide +kernel
theorem dc_39_1 : decode prog_2_method_12_code 1 = .ok (.getfield 12, 3) := by decide +kernel
theorem dc_39_4 : decode prog_2_method_12_code 4 = .ok (.dup, 1) := by decide +kernel
theorem dc_39_5 : decode prog_2_method_12_code 5 = .ok (.getfield 56, 3) := by decide +kernel
theorem dc_39_8 : decode prog_2_method_12_code 8 = .ok (.iconst 1, 1) := by decide +kernel
theorem dc_39_9 : decode prog_2_method_12_code 9 = .ok (.isub, 1) := by decide +kernel
theorem dc_39_10 : decode prog_2_method_12_code 10 = .ok (.putfield 56, 3) := by decide +kernel
theorem dc_39_13 : decode prog_2_method_12_code 13 = .ok (.iload_n 1, 1) := by decide +kernel
theorem dc_39_14 : decode prog_2_method_12_code 14 = .ok (.istore_n 2, 1) := by decide +kernel
theorem dc_39_15 : decode prog_2_method_12_code 15 = .ok (.iload_n 2, 1) := by decide +kernel
theorem dc_39_16 : decode prog_2_method_12_code 16 = .ok (.aload_n 0, 1) := by decide +kernel
theorem dc_39_17 : decode prog_2_method_12_code 17 = .ok (.getfield 12, 3) := by decide +kernel
theorem dc_39_20 : decode prog_2_method_12_code 20 = .ok (.getfield 56, 3) := by decide +kernel
theorem dc_39_23 : decode prog_2_method_12_code 23 = .ok (.if_icmp .ge 49, 3) := by decide +kernel
theorem dc_39_26 : decode prog_2_method_12_code 26 = .ok (.aload_n 0, 1) := by decide +kernel
theorem dc_39_27 : decode prog_2_method_12_code 27 = .ok (.getfield 12, 3) := by decide +kernel
theorem dc_39_30 : decode prog_2_method_12_code 30 = .ok (.getfield 59, 3) := by decide +kernel
theorem dc_39_33 : decode prog_2_method_12_code 33 = .ok (.iload_n 2, 1) := by decide +kernel
theorem dc_39_34 : decode prog_2_method_12_code 34 = .ok (.aload_n 0, 1) := by decide +kernel
theorem dc_39_35 : decode prog_2_method_12_code 35 = .ok (.getfield 12, 3) := by decide +kernel
theorem dc_39_38 : decode prog_2_method_12_code 38 = .ok (.getfield 59, 3) := by decide +kernel
theorem dc_39_41 : decode prog_2_method_12_code 41 = .ok (.iload_n 2, 1) := by decide +kernel
theorem dc_39_42 : decode prog_2_method_12_code 42 = .ok (.iconst 1, 1) := by decide +kernel
theorem dc_39_43 : decode prog_2_method_12_code 43 = .ok (.iadd, 1) := by decide +kernel
theorem dc_39_44 : decode prog_2_method_12_code 44 = .ok (.iaload, 1) := by decide +kernel
theorem dc_39_45 : decode prog_2_method_12_code 45 = .ok (.iastore, 1) := by decide +kernel
theorem dc_39_46 : decode prog_2_method_12_code 46 = .ok (.aload_n 0, 1) := by decide +kernel
theorem dc_39_47 : decode prog_2_method_12_code 47 = .ok (.getfield 12, 3) := by decide +kernel
theorem dc_39_50 : decode prog_2_method_12_code 50 = .ok (.getfield 62, 3) := by decide +kernel
theorem dc_39_53 : decode prog_2_method_12_code 53 = .ok (.iload_n 2, 1) := by decide +kernel
theorem dc_39_54 : decode prog_2_method_12_code 54 = .ok (.aload_n 0, 1) := by decide +kernel
theorem dc_39_55 : decode prog_2_method_12_code 55 = .ok (.getfield 12, 3) := by decide +kernel
theorem dc_39_58 : decode prog_2_method_12_code 58 = .ok (.getfield 62, 3) := by decide +kernel
theorem dc_39_61 : decode prog_2_method_12_code 61 = .ok (.iload_n 2, 1) := by decide +kernel
theorem dc_39_62 : decode prog_2_method_12_code 62 = .ok (.iconst 1, 1) := by decide +kernel
theorem dc_39_63 : decode prog_2_method_12_code 63 = .ok (.iadd, 1) := by decide +kernel
theorem dc_39_64 : decode prog_2_method_12_code 64 = .ok (.iaload, 1) := by decide +kernel
theorem dc_39_65 : decode prog_2_method_12_code 65 = .ok (.iastore, 1) := by decide +kernel
theorem dc_39_66 : decode prog_2_method_12_code 66 = .ok (.iinc 2 1, 3) := by decide +kernel
theorem dc_39_69 : decode prog_2_method_12_code 69 = .ok (.goto (-54), 3) := by decide +kernel
theorem dc_39_72 : decode prog_2_method_12_code 72 = .ok (.aload_n 0, 1) := by decide +kernel
theorem dc_39_73 : decode prog_2_method_12_code 73 = .ok (.invokevirtual 53, 3) := by decide +kernel
theorem dc_39_76 : decode prog_2_method_12_code 76 = .ok (.return_, 1) := by decide +kernel
theorem dc_40_0 : decode prog_2_method_13_code 0 = .ok (.iconst 0, 1) := by decide +kernel
theorem dc_40_1 : decode prog_2_method_13_code 1 = .ok (.istore_n 1, 1) := by decide +kernel
theorem dc_40_2 : decode prog_2_method_13_code 2 = .ok (.iload_n 1, 1) := by decide +kernel
theorem dc_40_3 : decode prog_2_method_13_code 3 = .ok (.bipush 16, 2) := by decide +kernel
theorem dc_40_5 : decode prog_2_method_13_code 5 = .ok (.if_icmp .ge 16, 3) := by decide +kernel
theorem dc_40_8 : decode prog_2_method_13_code 8 = .ok (.aload_n 0, 1) := by decide +kernel
theorem dc_40_9 : decode prog_2_method_13_code 9 = .ok (.getfield 18, 3) := by decide +kernel
theorem dc_40_12 : decode prog_2_method_13_code 12 = .ok (.iload_n 1, 1) := by decide +kernel
theorem dc_40_13 : decode prog_2_method_13_code 13 = .ok (.iload_n 1, 1) := by decide +kernel
theorem dc_40_14 : decode prog_2_method_13_code 14 = .ok (.iastore, 1) := by decide +kernel
theorem dc_40_15 : decode prog_2_method_13_code 15 = .ok (.iinc 1 1, 3) := by decide +kernel
theorem dc_40_18 : decode prog_2_method_13_code 18 = .ok (.goto (-16), 3) := by decide +kernel
theorem dc_40_21 : decode prog_2_method_13_code 21 = .ok (.iconst 0, 1) := by decide +kernel
theorem dc_40_22 : decode prog_2_method_13_code 22 = .ok (.istore_n 1, 1) := by decide +kernel
theorem dc_40_23 : decode prog_2_method_13_code 23 = .ok (.iload_n 1, 1) := by decide +kernel
theorem dc_40_24 : decode prog_2_method_13_code 24 = .ok (.aload_n 0, 1) := by decide +kernel
theorem dc_40_25 : decode prog_2_method_13_code 25 = .ok (.getfield 12, 3) := by decide +kernel
theorem dc_40_28 : decode prog_2_method_13_code 28 = .ok (.getfield 56, 3) := by decide +kernel
theorem dc_40_31 : decode prog_2_method_13_code 31 = .ok (.if_icmp .ge 53, 3) := by decide +kernel
theorem dc_40_34 : decode prog_2_method_13_code 34 = .ok (.aload_n 0, 1) := by decide +kernel
theorem dc_40_35 : decode prog_2_method_13_code 35 = .ok (.getfield 18, 3) := by decide +kernel
theorem dc_40_38 : decode prog_2_method_13_code 38 = .ok (.aload_n 0, 1) := by decide +kernel
theorem dc_40_39 : decode prog_2_method_13_code 39 = .ok (.getfield 12, 3) := by decide +kernel
theorem dc_40_42 : decode prog_2_method_13_code 42 = .ok (.getfield 59, 3) := by decide +kernel
theorem dc_40_45 : decode prog_2_method_13_code 45 = .ok (.iload_n 1, 1) := by decide +kernel
theorem dc_40_46 : decode prog_2_method_13_code 46 = .ok (.iaload, 1) := by decide +kernel
theorem dc_40_47 : decode prog_2_method_13_code 47 = .ok (.iaload, 1) := by decide +kernel
theorem dc_40_48 : decode prog_2_method_13_code 48 = .ok (.istore_n 2, 1) := by decide +kernel
theorem dc_40_49 : decode prog_2_method_13_code 49 = .ok (.aload_n 0, 1) := by decide +kernel
theorem dc_40_50 : decode prog_2_method_13_code 50 = .ok (.getfield 18, 3) := by decide +kernel
theorem dc_40_53 : decode prog_2_method_13_code 53 = .ok (.aload_n 0, 1) := by decide +kernel
theorem dc_40_54 : decode prog_2_method_13_code 54 = .ok (.getfield 12, 3) := by decide +kernel
theorem dc_40_57 : decode prog_2_method_13_code 57 = .ok (.getfield 62, 3) := by decide +kernel
theorem dc_40_60 : decode prog_2_method_13_code 60 = .ok (.iload_n 1, 1) := by decide +kernel
theorem dc_40_61 : decode prog_2_method_13_code 61 = .ok (.iaload, 1) := by decide +kernel
theorem dc_40_62 : decode prog_2_method_13_code 62 = .ok (.iaload, 1) := by decide +kernel
theorem dc_40_63 : decode prog_2_method_13_code 63 = .ok (.istore_n 3, 1) := by decide +kernel
theorem dc_40_64 : decode prog_2_method_13_code 64 = .ok (.aload_n 0, 1) := by decide +kernel
theorem dc_40_65 : decode prog_2_method_13_code 65 = .ok (.iload_n 2, 1) := by decide +kernel
theorem dc_40_66 : decode prog_2_method_13_code 66 = .ok (.iload_n 3, 1) := by decide +kernel
theorem dc_40_67 : decode prog_2_method_13_code 67 = .ok (.invokestatic 65, 3) := by decide +kernel
theorem dc_40_70 : decode prog_2_method_13_code 70 = .ok (.iload_n 2, 1) := by decide +kernel
theorem dc_40_71 : decode prog_2_method_13_code 71 = .ok (.iload_n 3, 1) := by decide +kernel
theorem dc_40_72 : decode prog_2_method_13_code 72 = .ok (.invokestatic 71, 3) := by decide +kernel
theorem dc_40_75 : decode prog_2_method_13_code 75 = .ok (.invokevirtual 74, 3) := by decide +kernel
theorem dc_40_78 : decode prog_2_method_13_code 78 = .ok (.iinc 1 1, 3) := by decide +kernel
theorem dc_40_81 : decode prog_2_method_13_code 81 = .ok (.goto (-58), 3) := by decide +kernel
theorem dc_40_84 : decode prog_2_method_13_code 84 = .ok (.return_, 1) := by decide +kernel
theorem dc_41_0 : decode prog_2_method_14_code 0 = .ok (.iconst 0, 1) := by decide +kernel
theorem dc_41_1 : decode prog_2_method_14_code 1 = .ok (.istore_n 3, 1) := by decide +kernel
theorem dc_41_2 : decode prog_2_method_14_code 2 = .ok (.iload_n 3, 1) := by decide +kernel
theorem dc_41_3 : decode prog_2_method_14_code 3 = .ok (.bipush 16, 2) := by decide +kernel
theorem dc_41_5 : decode prog_2_method_14_code 5 = .ok (.if_icmp .ge 26, 3) := by decide +kernel
theorem dc_41_8 : decode prog_2_method_14_code 8 = .ok (.aload_n 0, 1) := by decide +kernel
theorem dc_41_9 : decode prog_2_method_14_code 9 = .ok (.getfield 18, 3) := by decide +kernel
theorem dc_41_12 : decode prog_2_method_14_code 12 = .ok (.iload_n 3, 1) := by decide +kernel
theorem dc_41_13 : decode prog_2_method_14_code 13 = .ok (.iaload, 1) := by decide +kernel
theorem dc_41_14 : decode prog_2_method_14_code 14 = .ok (.iload_n 1, 1) := by decide +kernel
theorem dc_41_15 : decode prog_2_method_14_code 15 = .ok (.if_icmp .ne 10, 3) := by decide +kernel
theorem dc_41_18 : decode prog_2_method_14_code 18 = .ok (.aload_n 0, 1) := by decide +kernel
theorem dc_41_19 : decode prog_2_method_14_code 19 = .ok (.getfield 18, 3) := by decide +kernel
theorem dc_41_22 : decode prog_2_method_14_code 22 = .ok (.iload_n 3, 1) := by decide +kernel
theorem dc_41_23 : decode prog_2_method_14_code 23 = .ok (.iload_n 2, 1) := by decide +kernel
theorem dc_41_24 : decode prog_2_method_14_code 24 = .ok (.iastore, 1) := by decide +kernel
theorem dc_41_25 : decode prog_2_method_14_code 25 = .ok (.iinc 3 1, 3) := by decide +kernel
theorem dc_41_28 : decode prog_2_method_14_code 28 = .ok (.goto (-26), 3) := by decide +kernel
theorem dc_41_31 : decode prog_2_method_14_code 31 = .ok (.return_, 1) := by decide +kernel
theorem dc_42_0 : decode prog_2_method_15_code 0 = .ok (.aload_n 0, 1) := by decide +kernel
theorem dc_42_1 : decode prog_2_method_15_code 1 = .ok (.iload_n 1, 1) := by decide +kernel
theorem dc_42_2 : decode prog_2_method_15_code 2 = .ok (.iconst 1, 1) := by decide +kernel
theorem dc_42_3 : decode prog_2_method_15_code 3 = .ok (.invokevirtual 78, 3) := by decide +kernel
theorem dc_42_6 : decode prog_2_method_15_code 6 = .ok (.istore_n 2, 1) := by decide +kernel
theorem dc_42_7 : decode prog_2_method_15_code 7 = .ok (.iload_n 2, 1) := by decide +kernel
theorem dc_42_8 : decode prog_2_method_15_code 8 = .ok (.iconst 2, 1) := by decide +kernel
theorem dc_42_9 : decode prog_2_method_15_code 9 = .ok (.if_icmp .lt 5, 3) := by decide +kernel
theorem dc_42_12 : decode prog_2_method_15_code 12 = .ok (.iconst 1, 1) := by decide +kernel
theorem dc_42_13 : decode prog_2_method_15_code 13 = .ok (.ireturn, 1) := by decide +kernel
theorem dc_42_14 : decode prog_2_method_15_code 14 = .ok (.iload_n 2, 1) := by decide +kernel
theorem dc_42_15 : decode prog_2_method_15_code 15 = .ok (.ifCond .gt 12, 3) := by decide +kernel
theorem dc_42_18 : decode prog_2_method_15_code 18 = .ok (.aload_n 0, 1) := by decide +kernel
theorem dc_42_19 : decode prog_2_method_15_code 19 = .ok (.iload_n 1, 1) := by decide +kernel
theorem dc_42_20 : decode prog_2_method_15_code 20 = .ok (.iconst 3, 1) := by decide +kernel
theorem dc_42_21 : decode prog_2_method_15_code 21 = .ok (.invokevirtual 78, 3) := by decide +kernel
theorem dc_42_24 : decode prog_2_method_15_code 24 = .ok (.ifCond .le 7, 3) := by decide +kernel
theorem dc_42_27 : decode prog_2_method_15_code 27 = .ok (.iconst 1, 1) := by decide +kernel
theorem dc_42_28 : decode prog_2_method_15_code 28 = .ok (.goto 4, 3) := by decide +kernel
theorem dc_42_31 : decode prog_2_method_15_code 31 = .ok (.iconst 0, 1) := by decide +kernel
theorem dc_42_32 : decode prog_2_method_15_code 32 = .ok (.istore_n 3, 1) := by decide +kernel
theorem dc_42_33 : decode prog_2_method_15_code 33 = .ok (.iload_n 3, 1) := by decide +kernel
theorem dc_42_34 : decode prog_2_method_15_code 34 = .ok (.ifCond .ne 16, 3) := by decide +kernel
theorem dc_42_37 : decode prog_2_method_15_code 37 = .ok (.aload_n 0, 1) := by decide +kernel
theorem dc_42_38 : decode prog_2_method_15_code 38 = .ok (.iload_n 1, 1) := by decide +kernel
theorem dc_42_39 : decode prog_2_method_15_code 39 = .ok (.iconst 0, 1) := by decide +kernel
theorem dc_42_40 : decode prog_2_method_15_code 40 = .ok (.invokevirtual 78, 3) := by decide +kernel
theorem dc_42_43 : decode prog_2_method_15_code 43 = .ok (.ifCond .le 7, 3) := by decide +kernel
theorem dc_42_46 : decode prog_2_method_15_code 46 = .ok (.iconst 2, 1) := by decide +kernel
theorem dc_42_47 : decode prog_2_method_15_code 47 = .ok (.goto 4, 3) := by decide +kernel
theorem dc_42_50 : decode prog_2_method_15_code 50 = .ok (.iconst (-1), 1) := by decide +kernel
theorem dc_42_51 : decode prog_2_method_15_code 51 = .ok (.ireturn, 1) := by decide +kernel
theorem dc_43_0 : decode prog_2_method_16_code 0 = .ok (.iconst 0, 1) := by decide +kernel
theorem dc_43_1 : decode prog_2_method_16_code 1 = .ok (.istore_n 3, 1) := by decide +kernel
theorem dc_43_2 : decode prog_2_method_16_code 2 = .ok (.iconst 0, 1) := by decide +kernel
theorem dc_43_3 : decode prog_2_method_16_code 3 = .ok (.istore 4, 2) := by decide +kernel
theorem dc_43_5 : decode prog_2_method_16_code 5 = .ok (.iload 4, 2) := by decide +kernel
theorem dc_43_7 : decode prog_2_method_16_code 7 = .ok (.aload_n 0, 1) := by decide +kernel
theorem dc_43_8 : decode prog_2_method_16_code 8 = .ok (.getfield 12, 3) := by decide +kernel
theorem dc_43_11 : decode prog_2_method_16_code 11 = .ok (.getfield 22, 3) := by decide +kernel
theorem dc_43_14 : decode prog_2_method_16_code 14 = .ok (.if_icmp .ge 37, 3) := by decide +kernel
theorem dc_43_17 : decode prog_2_method_16_code 17 = .ok (.aload_n 0, 1) := by decide +kernel
theorem dc_43_18 : decode prog_2_method_16_code 18 = .ok (.getfield 18, 3) := by decide +kernel
theorem dc_43_21 : decode prog_2_method_16_code 21 = .ok (.iload 4, 2) := by decide +kernel
theorem dc_43_23 : decode prog_2_method_16_code 23 = .ok (.iaload, 1) := by decide +kernel
theorem dc_43_24 : decode prog_2_method_16_code 24 = .ok (.iload_n 1, 1) := by decide +kernel
theorem dc_43_25 : decode prog_2_method_16_code 25 = .ok (.if_icmp .ne 20, 3) := by decide +kernel
theorem dc_43_28 : decode prog_2_method_16_code 28 = .ok (.aload_n 0, 1) := by decide +kernel
theorem dc_43_29 : decode prog_2_method_16_code 29 = .ok (.getfield 12, 3) := by decide +kernel
theorem dc_43_32 : decode prog_2_method_16_code 32 = .ok (.getfield 50, 3) := by decide +kernel
theorem dc_43_35 : decode prog_2_method_16_code 35 = .ok (.iload 4, 2) := by decide +kernel
theorem dc_43_37 : decode prog_2_method_16_code 37 = .ok (.iaload, 1) := by decide +kernel
theorem dc_43_38 : decode prog_2_method_16_code 38 = .ok (.iload_n 2, 1) := by decide +kernel
theorem dc_43_39 : decode prog_2_method_16_code 39 = .ok (.if_icmp .ne 6, 3) := by decide +kernel
theorem dc_43_42 : decode prog_2_method_16_code 42 = .ok (.iinc 3 1, 3) := by decide +kernel
theorem dc_43_45 : decode prog_2_method_16_code 45 = .ok (.iinc 4 1, 3) := by decide +kernel
theorem dc_43_48 : decode prog_2_method_16_code 48 = .ok (.goto (-43), 3) := by decide +kernel
theorem dc_43_51 : decode prog_2_method_16_code 51 = .ok (.iload_n 3, 1) := by decide +kernel
theorem dc_43_52 : decode prog_2_method_16_code 52 = .ok (.ireturn, 1) := by decide +kernel
theorem dc_44_0 : decode prog_2_method_17_code 0 = .ok (.iconst 0, 1) := by decide +kernel
theorem dc_44_1 : decode prog_2_method_17_code 1 = .ok (.istore 4, 2) := by decide +kernel
theorem dc_44_3 : decode prog_2_method_17_code 3 = .ok (.iload 4, 2) := by decide +kernel
theorem dc_44_5 : decode prog_2_method_17_code 5 = .ok (.iconst 2, 1) := by decide +kernel
theorem dc_44_6 : decode prog_2_method_17_code 6 = .ok (.if_icmp .ge 65, 3) := by decide +kernel
theorem dc_44_9 : decode prog_2_method_17_code 9 = .ok (.iload 4, 2) := by decide +kernel
theorem dc_44_11 : decode prog_2_method_17_code 11 = .ok (.bipush 120, 2) := by decide +kernel
theorem dc_44_13 : decode prog_2_method_17_code 13 = .ok (.imul, 1) := by decide +kernel
theorem dc_44_14 : decode prog_2_method_17_code 14 = .ok (.iload_n 1, 1) := by decide +kernel
theorem dc_44_15 : decode prog_2_method_17_code 15 = .ok (.iadd, 1) := by decide +kernel
theorem dc_44_16 : decode prog_2_method_17_code 16 = .ok (.istore 5, 2) := by decide +kernel
theorem dc_44_18 : decode prog_2_method_17_code 18 = .ok (.iload_n 2, 1) := by decide +kernel
theorem dc_44_19 : decode prog_2_method_17_code 19 = .ok (.iload 4, 2) := by decide +kernel
theorem dc_44_21 : decode prog_2_method_17_code 21 = .ok (.ishr, 1) := by decide +kernel
theorem dc_44_22 : decode prog_2_method_17_code 22 = .ok (.iconst 1, 1) := by decide +kernel
theorem dc_44_23 : decode prog_2_method_17_code 23 = .ok (.iand, 1) := by decide +kernel
theorem dc_44_24 : decode prog_2_method_17_code 24 = .ok (.ifCond .eq 7, 3) := by decide +kernel
theorem dc_44_27 : decode prog_2_method_17_code 27 = .ok (.iconst 1, 1) := by decide +kernel
theorem dc_44_28 : decode prog_2_method_17_code 28 = .ok (.goto 4, 3) := by decide +kernel
theorem dc_44_31 : decode prog_2_method_17_code 31 = .ok (.iconst 0, 1) := by decide +kernel
theorem dc_44_32 : decode prog_2_method_17_code 32 = .ok (.istore 6, 2) := by decide +kernel
theorem dc_44_34 : decode prog_2_method_17_code 34 = .ok (.iload 6, 2) := by decide +kernel
theorem dc_44_36 : decode prog_2_method_17_code 36 = .ok (.ifCond .eq 29, 3) := by decide +kernel
theorem dc_44_39 : decode prog_2_method_17_code 39 = .ok (.aload_n 0, 1) := by decide +kernel
theorem dc_44_40 : decode prog_2_method_17_code 40 = .ok (.getfield 12, 3) := by decide +kernel
theorem dc_44_43 : decode prog_2_method_17_code 43 = .ok (.getfield 29, 3) := by decide +kernel
theorem dc_44_46 : decode prog_2_method_17_code 46 = .ok (.iload 5, 2) := by decide +kernel
theorem dc_44_48 : decode prog_2_method_17_code 48 = .ok (.iaload, 1) := by decide +kernel
theorem dc_44_49 : decode prog_2_method_17_code 49 = .ok (.iconst (-1), 1) := by decide +kernel
theorem dc_44_50 : decode prog_2_method_17_code 50 = .ok (.if_icmp .ne 13, 3) := by decide +kernel
theorem dc_44_53 : decode prog_2_method_17_code 53 = .ok (.aload_n 0, 1) := by decide +kernel
theorem dc_44_54 : decode prog_2_method_17_code 54 = .ok (.iload 5, 2) := by decide +kernel
theorem dc_44_56 : decode prog_2_method_17_code 56 = .ok (.iload_n 3, 1) := by decide +kernel
theorem dc_44_57 : decode prog_2_method_17_code 57 = .ok (.invokevirtual 81, 3) := by decide +kernel
theorem dc_44_60 : decode prog_2_method_17_code 60 = .ok (.ifCond .ne 5, 3) := by decide +kernel
theorem dc_44_63 : decode prog_2_method_17_code 63 = .ok (.iconst 0, 1) := by decide +kernel
theorem dc_44_64 : decode prog_2_method_17_code 64 = .ok (.ireturn, 1) := by decide +kernel
theorem dc_44_65 : decode prog_2_method_17_code 65 = .ok (.iinc 4 1, 3) := by decide +kernel
theorem dc_44_68 : decode prog_2_method_17_code 68 = .ok (.goto (-65), 3) := by decide +kernel
theorem dc_44_71 : decode prog_2_method_17_code 71 = .ok (.iconst 1, 1) := by decide +kernel
theorem dc_44_72 : decode prog_2_method_17_code 72 = .ok (.ireturn, 1) := by decide +kernel
theorem dc_45_0 : decode prog_2_method_18_code 0 = .ok (.aload_n 0, 1) := by decide +kernel
theorem dc_45_1 : decode prog_2_method_18_code 1 = .ok (.getfield 12, 3) := by decide +kernel
theorem dc_45_4 : decode prog_2_method_18_code 4 = .ok (.getfield 32, 3) := by decide +kernel
theorem dc_45_7 : decode prog_2_method_18_code 7 = .ok (.iload_n 1, 1) := by decide +kernel
theorem dc_45_8 : decode prog_2_method_18_code 8 = .ok (.iload_n 2, 1) := by decide +kernel
theorem dc_45_9 : decode prog_2_method_18_code 9 = .ok (.iastore, 1) := by decide +kernel
theorem dc_45_10 : decode prog_2_method_18_code 10 = .ok (.aload_n 0, 1) := by decide +kernel
theorem dc_45_11 : decode prog_2_method_18_code 11 = .ok (.getfield 12, 3) := by decide +kernel
theorem dc_45_14 : decode prog_2_method_18_code 14 = .ok (.getfield 26, 3) := by decide +kernel
theorem dc_45_17 : decode prog_2_method_18_code 17 = .ok (.iload_n 1, 1) := by decide +kernel
theorem dc_45_18 : decode prog_2_method_18_code 18 = .ok (.iload_n 3, 1) := by decide +kernel
theorem dc_45_19 : decode prog_2_method_18_code 19 = .ok (.iastore, 1) := by decide +kernel
theorem dc_45_20 : decode prog_2_method_18_code 20 = .ok (.aload_n 0, 1) := by decide +kernel
theorem dc_45_21 : decode prog_2_method_18_code 21 = .ok (.iload_n 1, 1) := by decide +kernel
theorem dc_45_22 : decode prog_2_method_18_code 22 = .ok (.iload_n 1, 1) := by decide +kernel
theorem dc_45_23 : decode prog_2_method_18_code 23 = .ok (.invokevirtual 84, 3) := by decide +kernel
theorem dc_45_26 : decode prog_2_method_18_code 26 = .ok (.return_, 1) := by decide +kernel
theorem dc_46_0 : decode prog_2_method_19_code 0 = .ok (.aload_n 0, 1) := by decide +kernel
theorem dc_46_1 : decode prog_2_method_19_code 1 = .ok (.iload_n 1, 1) := by decide +kernel
theorem dc_46_2 : decode prog_2_method_19_code 2 = .ok (.iconst (-1), 1) := by decide +kernel
theorem dc_46_3 : decode prog_2_method_19_code 3 = .ok (.invokevirtual 84, 3) := by decide +kernel
theorem dc_46_6 : decode prog_2_method_19_code 6 = .ok (.aload_n 0, 1) := by decide +kernel
theorem dc_46_7 : decode prog_2_method_19_code 7 = .ok (.getfield 12, 3) := by decide +kernel
theorem dc_46_10 : decode prog_2_method_19_code 10 = .ok (.getfield 32, 3) := by decide +kernel
theorem dc_46_13 : decode prog_2_method_19_code 13 = .ok (.iload_n 1, 1) := by decide +kernel
theorem dc_46_14 : decode prog_2_method_19_code 14 = .ok (.iconst 0, 1) := by decide +kernel
theorem dc_46_15 : decode prog_2_method_19_code 15 = .ok (.iastore, 1) := by decide +kernel
theorem dc_46_16 : decode prog_2_method_19_code 16 = .ok (.aload_n 0, 1) := by decide +kernel
theorem dc_46_17 : decode prog_2_method_19_code 17 = .ok (.getfield 12, 3) := by decide +kernel
theorem dc_46_20 : decode prog_2_method_19_code 20 = .ok (.getfield 26, 3) := by decide +kernel
theorem dc_46_23 : decode prog_2_method_19_code 23 = .ok (.iload_n 1, 1) := by decide +kernel
theorem dc_46_24 : decode prog_2_method_19_code 24 = .ok (.iconst 0, 1) := by decide +kernel
theorem dc_46_25 : decode prog_2_method_19_code 25 = .ok (.iastore, 1) := by decide +kernel
theorem dc_46_26 : decode prog_2_method_19_code 26 = .ok (.return_, 1) := by decide +kernel
theorem dc_47_0 : decode prog_2_method_20_code 0 = .ok (.iconst 0, 1) := by decide +kernel
theorem dc_47_1 : decode prog_2_method_20_code 1 = .ok (.istore_n 3, 1) := by decide +kernel
theorem dc_47_2 : decode prog_2_method_20_code 2 = .ok (.iload_n 3, 1) := by decide +kernel
theorem dc_47_3 : decode prog_2_method_20_code 3 = .ok (.iconst 2, 1) := by decide +kernel
theorem dc_47_4 : decode prog_2_method_20_code 4 = .ok (.if_icmp .ge 48, 3) := by decide +kernel
theorem dc_47_7 : decode prog_2_method_20_code 7 = .ok (.aload_n 0, 1) := by decide +kernel
theorem dc_47_8 : decode prog_2_method_20_code 8 = .ok (.getfield 12, 3) := by decide +kernel
theorem dc_47_11 : decode prog_2_method_20_code 11 = .ok (.getfield 26, 3) := by decide +kernel
theorem dc_47_14 : decode prog_2_method_20_code 14 = .ok (.iload_n 1, 1) := by decide +kernel
theorem dc_47_15 : decode prog_2_method_20_code 15 = .ok (.iaload, 1) := by decide +kernel
theorem dc_47_16 : decode prog_2_method_20_code 16 = .ok (.iload_n 3, 1) := by decide +kernel
theorem dc_47_17 : decode prog_2_method_20_code 17 = .ok (.ishr, 1) := by decide +kernel
theorem dc_47_18 : decode prog_2_method_20_code 18 = .ok (.iconst 1, 1) := by decide +kernel
theorem dc_47_19 : decode prog_2_method_20_code 19 = .ok (.iand, 1) := by decide +kernel
theorem dc_47_20 : decode prog_2_method_20_code 20 = .ok (.ifCond .eq 26, 3) := by decide +kernel
theorem dc_47_23 : decode prog_2_method_20_code 23 = .ok (.aload_n 0, 1) := by decide +kernel
theorem dc_47_24 : decode prog_2_method_20_code 24 = .ok (.getfield 12, 3) := by decide +kernel
theorem dc_47_27 : decode prog_2_method_20_code 27 = .ok (.getfield 29, 3) := by decide +kernel
theorem dc_47_30 : decode prog_2_method_20_code 30 = .ok (.iload_n 3, 1) := by decide +kernel
theorem dc_47_31 : decode prog_2_method_20_code 31 = .ok (.bipush 120, 2) := by decide +kernel
theorem dc_47_33 : decode prog_2_method_20_code 33 = .ok (.imul, 1) := by decide +kernel
theorem dc_47_34 : decode prog_2_method_20_code 34 = .ok (.aload_n 0, 1) := by decide +kernel
theorem dc_47_35 : decode prog_2_method_20_code 35 = .ok (.getfield 12, 3) := by decide +kernel
theorem dc_47_38 : decode prog_2_method_20_code 38 = .ok (.getfield 32, 3) := by decide +kernel
theorem dc_47_41 : decode prog_2_method_20_code 41 = .ok (.iload_n 1, 1) := by decide +kernel
theorem dc_47_42 : decode prog_2_method_20_code 42 = .ok (.iaload, 1) := by decide +kernel
theorem dc_47_43 : decode prog_2_method_20_code 43 = .ok (.iadd, 1) := by decide +kernel
theorem dc_47_44 : decode prog_2_method_20_code 44 = .ok (.iload_n 2, 1) := by decide +kernel
theorem dc_47_45 : decode prog_2_method_20_code 45 = .ok (.iastore, 1) := by decide +kernel
theorem dc_47_46 : decode prog_2_method_20_code 46 = .ok (.iinc 3 1, 3) := by decide +kernel
theorem dc_47_49 : decode prog_2_method_20_code 49 = .ok (.goto (-47), 3) := by decide +kernel
theorem dc_47_52 : decode prog_2_method_20_code 52 = .ok (.return_, 1) := by decide +kernel
theorem dc_48_0 : decode prog_2_method_21_code 0 = .ok (.iload_n 2, 1) := by decide +kernel
theorem dc_48_1 : decode prog_2_method_21_code 1 = .ok (.istore 5, 2) := by decide +kernel
theorem dc_48_3 : decode prog_2_method_21_code 3 = .ok (.iconst 0, 1) := by decide +kernel
theorem dc_48_4 : decode prog_2_method_21_code 4 = .ok (.istore 6, 2) := by decide +kernel
theorem dc_48_6 : decode prog_2_method_21_code 6 = .ok (.iload 6, 2) := by decide +kernel
theorem dc_48_8 : decode prog_2_method_21_code 8 = .ok (.iload 4, 2) := by decide +kernel
theorem dc_48_10 : decode prog_2_method_21_code 10 = .ok (.if_icmp .gt 35, 3) := by decide +kernel
theorem dc_48_13 : decode prog_2_method_21_code 13 = .ok (.iload 5, 2) := by decide +kernel
theorem dc_48_15 : decode prog_2_method_21_code 15 = .ok (.iconst (-1), 1) := by decide +kernel
theorem dc_48_16 : decode prog_2_method_21_code 16 = .ok (.if_icmp .eq 13, 3) := by decide +kernel
theorem dc_48_19 : decode prog_2_method_21_code 19 = .ok (.aload_n 0, 1) := by decide +kernel
theorem dc_48_20 : decode prog_2_method_21_code 20 = .ok (.iload 5, 2) := by decide +kernel
theorem dc_48_22 : decode prog_2_method_21_code 22 = .ok (.iload_n 1, 1) := by decide +kernel
theorem dc_48_23 : decode prog_2_method_21_code 23 = .ok (.invokevirtual 81, 3) := by decide +kernel
theorem dc_48_26 : decode prog_2_method_21_code 26 = .ok (.ifCond .ne 5, 3) := by decide +kernel
theorem dc_48_29 : decode prog_2_method_21_code 29 = .ok (.iconst 0, 1) := by decide +kernel
theorem dc_48_30 : decode prog_2_method_21_code 30 = .ok (.ireturn, 1) := by decide +kernel
theorem dc_48_31 : decode prog_2_method_21_code 31 = .ok (.iload 5, 2) := by decide +kernel
theorem dc_48_33 : decode prog_2_method_21_code 33 = .ok (.iload_n 3, 1) := by decide +kernel
theorem dc_48_34 : decode prog_2_method_21_code 34 = .ok (.invokestatic 87, 3) := by decide +kernel
theorem dc_48_37 : decode prog_2_method_21_code 37 = .ok (.istore 5, 2) := by decide +kernel
theorem dc_48_39 : decode prog_2_method_21_code 39 = .ok (.iinc 6 1, 3) := by decide +kernel
theorem dc_48_42 : decode prog_2_method_21_code 42 = .ok (.goto (-36), 3) := by decide +kernel
theorem dc_48_45 : decode prog_2_method_21_code 45 = .ok (.iconst 1, 1) := by decide +kernel
theorem dc_48_46 : decode prog_2_method_21_code 46 = .ok (.ireturn, 1) := by decide +kernel
theorem dc_49_0 : decode prog_2_method_22_code 0 = .ok (.iconst 0, 1) := by decide +kernel
theorem dc_49_1 : decode prog_2_method_22_code 1 = .ok (.istore 5, 2) := by decide +kernel
theorem dc_49_3 : decode prog_2_method_22_code 3 = .ok (.iload_n 2, 1) := by decide +kernel
theorem dc_49_4 : decode prog_2_method_22_code 4 = .ok (.istore 6, 2) := by decide +kernel
theorem dc_49_6 : decode prog_2_method_22_code 6 = .ok (.iconst 0, 1) := by decide +kernel
theorem dc_49_7 : decode prog_2_method_22_code 7 = .ok (.istore 7, 2) := by decide +kernel
theorem dc_49_9 : decode prog_2_method_22_code 9 = .ok (.iload 7, 2) := by decide +kernel
theorem dc_49_11 : decode prog_2_method_22_code 11 = .ok (.iload 4, 2) := by decide +kernel
theorem dc_49_13 : decode prog_2_method_22_code 13 = .ok (.if_icmp .gt 47, 3) := by decide +kernel
theorem dc_49_16 : decode prog_2_method_22_code 16 = .ok (.iload 6, 2) := by decide +kernel
theorem dc_49_18 : decode prog_2_method_22_code 18 = .ok (.iconst (-1), 1) := by decide +kernel
theorem dc_49_19 : decode prog_2_method_22_code 19 = .ok (.if_icmp .eq 41, 3) := by decide +kernel
theorem dc_49_22 : decode prog_2_method_22_code 22 = .ok (.aload_n 0, 1) := by decide +kernel
theorem dc_49_23 : decode prog_2_method_22_code 23 = .ok (.getfield 12, 3) := by decide +kernel
theorem dc_49_26 : decode prog_2_method_22_code 26 = .ok (.getfield 29, 3) := by decide +kernel
theorem dc_49_29 : decode prog_2_method_22_code 29 = .ok (.iload 6, 2) := by decide +kernel
theorem dc_49_31 : decode prog_2_method_22_code 31 = .ok (.iaload, 1) := by decide +kernel
theorem dc_49_32 : decode prog_2_method_22_code 32 = .ok (.iconst (-1), 1) := by decide +kernel
theorem dc_49_33 : decode prog_2_method_22_code 33 = .ok (.if_icmp .ne 6, 3) := by decide +kernel
theorem dc_49_36 : decode prog_2_method_22_code 36 = .ok (.iinc 5 1, 3) := by decide +kernel
theorem dc_49_39 : decode prog_2_method_22_code 39 = .ok (.aload_n 0, 1) := by decide +kernel
theorem dc_49_40 : decode prog_2_method_22_code 40 = .ok (.iload 6, 2) := by decide +kernel
theorem dc_49_42 : decode prog_2_method_22_code 42 = .ok (.iload_n 1, 1) := by decide +kernel
theorem dc_49_43 : decode prog_2_method_22_code 43 = .ok (.invokevirtual 90, 3) := by decide +kernel
theorem dc_49_46 : decode prog_2_method_22_code 46 = .ok (.iload 6, 2) := by decide +kernel
theorem dc_49_48 : decode prog_2_method_22_code 48 = .ok (.iload_n 3, 1) := by decide +kernel
theorem dc_49_49 : decode prog_2_method_22_code 49 = .ok (.invokestatic 87, 3) := by decide +kernel
theorem dc_49_52 : decode prog_2_method_22_code 52 = .ok (.istore 6, 2) := by decide +kernel
theorem dc_49_54 : decode prog_2_method_22_code 54 = .ok (.iinc 7 1, 3) := by decide +kernel
theorem dc_49_57 : decode prog_2_method_22_code 57 = .ok (.goto (-48), 3) := by decide +kernel
theorem dc_49_60 : decode prog_2_method_22_code 60 = .ok (.iload 5, 2) := by decide +kernel
theorem dc_49_62 : decode prog_2_method_22_code 62 = .ok (.ireturn, 1) := by decide +kernel
theorem dc_50_0 : decode prog_2_method_23_code 0 = .ok (.aload_n 0, 1) := by decide +kernel
theorem dc_50_1 : decode prog_2_method_23_code 1 = .ok (.getfield 12, 3) := by decide +kernel
theorem dc_50_4 : decode prog_2_method_23_code 4 = .ok (.getfield 29, 3) := by decide +kernel
theorem dc_50_7 : decode prog_2_method_23_code 7 = .ok (.iload_n 1, 1) := by decide +kernel
theorem dc_50_8 : decode prog_2_method_23_code 8 = .ok (.iaload, 1) := by decide +kernel
theorem dc_50_9 : decode prog_2_method_23_code 9 = .ok (.iconst (-1), 1) := by decide +kernel
theorem dc_50_10 : decode prog_2_method_23_code 10 = .ok (.if_icmp .eq 11, 3) := by decide +kernel
theorem dc_50_13 : decode prog_2_method_23_code 13 = .ok (.aload_n 0, 1) := by decide +kernel
theorem dc_50_14 : decode prog_2_method_23_code 14 = .ok (.iload_n 1, 1) := by decide +kernel
theorem dc_50_15 : decode prog_2_method_23_code 15 = .ok (.invokevirtual 93, 3) := by decide +kernel
theorem dc_50_18 : decode prog_2_method_23_code 18 = .ok (.ifCond .eq 13, 3) := by decide +kernel
theorem dc_50_21 : decode prog_2_method_23_code 21 = .ok (.aload_n 0, 1) := by decide +kernel
theorem dc_50_22 : decode prog_2_method_23_code 22 = .ok (.getfield 12, 3) := by decide +kernel
theorem dc_50_25 : decode prog_2_method_23_code 25 = .ok (.getfield 29, 3) := by decide +kernel
theorem dc_50_28 : decode prog_2_method_23_code 28 = .ok (.iload_n 1, 1) := by decide +kernel
theorem dc_50_29 : decode prog_2_method_23_code 29 = .ok (.iload_n 2, 1) := by decide +kernel
theorem dc_50_30 : decode prog_2_method_23_code 30 = .ok (.iastore, 1) := by decide +kernel
theorem dc_50_31 : decode prog_2_method_23_code 31 = .ok (.return_, 1) := by decide +kernel
theorem dc_51_0 : decode prog_2_method_24_code 0 = .ok (.iconst 0, 1) := by decide +kernel
theorem dc_51_1 : decode prog_2_method_24_code 1 = .ok (.istore_n 2, 1) := by decide +kernel
theorem dc_51_2 : decode prog_2_method_24_code 2 = .ok (.iconst 0, 1) := by decide +kernel
theorem dc_51_3 : decode prog_2_method_24_code 3 = .ok (.istore_n 3, 1) := by decide +kernel
theorem dc_51_4 : decode prog_2_method_24_code 4 = .ok (.iload_n 3, 1) := by decide +kernel
theorem dc_51_5 : decode prog_2_method_24_code 5 = .ok (.sipush 240, 3) := by decide +kernel
theorem dc_51_8 : decode prog_2_method_24_code 8 = .ok (.if_icmp .ge 39, 3) := by decide +kernel
theorem dc_51_11 : decode prog_2_method_24_code 11 = .ok (.aload_n 0, 1) := by decide +kernel
theorem dc_51_12 : decode prog_2_method_24_code 12 = .ok (.iload_n 3, 1) := by decide +kernel
theorem dc_51_13 : decode prog_2_method_24_code 13 = .ok (.invokevirtual 93, 3) := by decide +kernel
theorem dc_51_16 : decode prog_2_method_24_code 16 = .ok (.ifCond .eq 25, 3) := by decide +kernel
theorem dc_51_19 : decode prog_2_method_24_code 19 = .ok (.aload_n 0, 1) := by decide +kernel
theorem dc_51_20 : decode prog_2_method_24_code 20 = .ok (.iload_n 3, 1) := by decide +kernel
theorem dc_51_21 : decode prog_2_method_24_code 21 = .ok (.invokevirtual 46, 3) := by decide +kernel
theorem dc_51_24 : decode prog_2_method_24_code 24 = .ok (.iload_n 1, 1) := by decide +kernel
theorem dc_51_25 : decode prog_2_method_24_code 25 = .ok (.if_icmp .ne 16, 3) := by decide +kernel
theorem dc_51_28 : decode prog_2_method_24_code 28 = .ok (.aload_n 0, 1) := by decide +kernel
theorem dc_51_29 : decode prog_2_method_24_code 29 = .ok (.getfield 12, 3) := by decide +kernel
theorem dc_51_32 : decode prog_2_method_24_code 32 = .ok (.getfield 29, 3) := by decide +kernel
theorem dc_51_35 : decode prog_2_method_24_code 35 = .ok (.iload_n 3, 1) := by decide +kernel
theorem dc_51_36 : decode prog_2_method_24_code 36 = .ok (.iconst (-1), 1) := by decide +kernel
theorem dc_51_37 : decode prog_2_method_24_code 37 = .ok (.iastore, 1) := by decide +kernel
theorem dc_51_38 : decode prog_2_method_24_code 38 = .ok (.iinc 2 1, 3) := by decide +kernel
theorem dc_51_41 : decode prog_2_method_24_code 41 = .ok (.iinc 3 1, 3) := by decide +kernel
theorem dc_51_44 : decode prog_2_method_24_code 44 = .ok (.goto (-40), 3) := by decide +kernel
theorem dc_51_47 : decode prog_2_method_24_code 47 = .ok (.iload_n 2, 1) := by decide +kernel
theorem dc_51_48 : decode prog_2_method_24_code 48 = .ok (.ireturn, 1) := by decide +kernel
theorem dc_52_0 : decode prog_2_method_25_code 0 = .ok (.iconst 0, 1) := by decide +kernel
theorem dc_52_1 : decode prog_2_method_25_code 1 = .ok (.istore_n 2, 1) := by decide +kernel
theorem dc_52_2 : decode prog_2_method_25_code 2 = .ok (.bipush 12, 2) := by decide +kernel
theorem dc_52_4 : decode prog_2_method_25_code 4 = .ok (.istore_n 3, 1) := by decide +kernel
theorem dc_52_5 : decode prog_2_method_25_code 5 = .ok (.iconst 0, 1) := by decide +kernel
theorem dc_52_6 : decode prog_2_method_25_code 6 = .ok (.istore 4, 2) := by decide +kernel
theorem dc_52_8 : decode prog_2_method_25_code 8 = .ok (.bipush 10, 2) := by decide +kernel
theorem dc_52_10 : decode prog_2_method_25_code 10 = .ok (.istore 5, 2) := by decide +kernel
theorem dc_52_12 : decode prog_2_method_25_code 12 = .ok (.iconst 0, 1) := by decide +kernel
theorem dc_52_13 : decode prog_2_method_25_code 13 = .ok (.istore 6, 2) := by decide +kernel
theorem dc_52_15 : decode prog_2_method_25_code 15 = .ok (.iconst 0, 1) := by decide +kernel
theorem dc_52_16 : decode prog_2_method_25_code 16 = .ok (.istore 7, 2) := by decide +kernel
theorem dc_52_18 : decode prog_2_method_25_code 18 = .ok (.iload 7, 2) := by decide +kernel
theorem dc_52_20 : decode prog_2_method_25_code 20 = .ok (.aload_n 0, 1) := by decide +kernel
theorem dc_52_21 : decode prog_2_method_25_code 21 = .ok (.getfield 12, 3) := by decide +kernel
theorem dc_52_24 : decode prog_2_method_25_code 24 = .ok (.getfield 22, 3) := by decide +kernel
theorem dc_52_27 : decode prog_2_method_25_code 27 = .ok (.if_icmp .ge 113, 3) := by decide +kernel
theorem dc_52_30 : decode prog_2_method_25_code 30 = .ok (.aload_n 0, 1) := by decide +kernel
theorem dc_52_31 : decode prog_2_method_25_code 31 = .ok (.getfield 18, 3) := by decide +kernel
theorem dc_52_34 : decode prog_2_method_25_code 34 = .ok (.iload 7, 2) := by decide +kernel
theorem dc_52_36 : decode prog_2_method_25_code 36 = .ok (.iaload, 1) := by decide +kernel
theorem dc_52_37 : decode prog_2_method_25_code 37 = .ok (.iload_n 1, 1) := by decide +kernel
theorem dc_52_38 : decode prog_2_method_25_code 38 = .ok (.if_icmp .ne 96, 3) := by decide +kernel
theorem dc_52_41 : decode prog_2_method_25_code 41 = .ok (.aload_n 0, 1) := by decide +kernel
theorem dc_52_42 : decode prog_2_method_25_code 42 = .ok (.iload 7, 2) := by decide +kernel
theorem dc_52_44 : decode prog_2_method_25_code 44 = .ok (.invokevirtual 97, 3) := by decide +kernel
theorem dc_52_47 : decode prog_2_method_25_code 47 = .ok (.ifCond .ne 6, 3) := by decide +kernel
theorem dc_52_50 : decode prog_2_method_25_code 50 = .ok (.goto 84, 3) := by decide +kernel
theorem dc_52_53 : decode prog_2_method_25_code 53 = .ok (.iinc 2 1, 3) := by decide +kernel
theorem dc_52_56 : decode prog_2_method_25_code 56 = .ok (.iload_n 3, 1) := by decide +kernel
theorem dc_52_57 : decode prog_2_method_25_code 57 = .ok (.aload_n 0, 1) := by decide +kernel
theorem dc_52_58 : decode prog_2_method_25_code 58 = .ok (.getfield 12, 3) := by decide +kernel
theorem dc_52_61 : decode prog_2_method_25_code 61 = .ok (.getfield 32, 3) := by decide +kernel
theorem dc_52_64 : decode prog_2_method_25_code 64 = .ok (.iload 7, 2) := by decide +kernel
theorem dc_52_66 : decode prog_2_method_25_code 66 = .ok (.iaload, 1) := by decide +kernel
theorem dc_52_67 : decode prog_2_method_25_code 67 = .ok (.invokestatic 100, 3) := by decide +kernel
theorem dc_52_70 : decode prog_2_method_25_code 70 = .ok (.invokestatic 71, 3) := by decide +kernel
theorem dc_52_73 : decode prog_2_method_25_code 73 = .ok (.istore_n 3, 1) := by decide +kernel
theorem dc_52_74 : decode prog_2_method_25_code 74 = .ok (.iload 4, 2) := by decide +kernel
theorem dc_52_76 : decode prog_2_method_25_code 76 = .ok (.aload_n 0, 1) := by decide +kernel
theorem dc_52_77 : decode prog_2_method_25_code 77 = .ok (.getfield 12, 3) := by decide +kernel
theorem dc_52_80 : decode prog_2_method_25_code 80 = .ok (.getfield 32, 3) := by decide +kernel
theorem dc_52_83 : decode prog_2_method_25_code 83 = .ok (.iload 7, 2) := by decide +kernel
theorem dc_52_85 : decode prog_2_method_25_code 85 = .ok (.iaload, 1) := by decide +kernel
theorem dc_52_86 : decode prog_2_method_25_code 86 = .ok (.invokestatic 100, 3) := by decide +kernel
theorem dc_52_89 : decode prog_2_method_25_code 89 = .ok (.invokestatic 65, 3) := by decide +kernel
theorem dc_52_92 : decode prog_2_method_25_code 92 = .ok (.istore 4, 2) := by decide +kernel
theorem dc_52_94 : decode prog_2_method_25_code 94 = .ok (.iload 5, 2) := by decide +kernel
theorem dc_52_96 : decode prog_2_method_25_code 96 = .ok (.aload_n 0, 1) := by decide +kernel
theorem dc_52_97 : decode prog_2_method_25_code 97 = .ok (.getfield 12, 3) := by decide +kernel
theorem dc_52_100 : decode prog_2_method_25_code 100 = .ok (.getfield 32, 3) := by decide +kernel
theorem dc_52_103 : decode prog_2_method_25_code 103 = .ok (.iload 7, 2) := by decide +kernel
theorem dc_52_105 : decode prog_2_method_25_code 105 = .ok (.iaload, 1) := by decide +kernel
theorem dc_52_106 : decode prog_2_method_25_code 106 = .ok (.invokestatic 103, 3) := by decide +kernel
theorem dc_52_109 : decode prog_2_method_25_code 109 = .ok (.invokestatic 71, 3) := by decide +kernel
theorem dc_52_112 : decode prog_2_method_25_code 112 = .ok (.istore 5, 2) := by decide +kernel
theorem dc_52_114 : decode prog_2_method_25_code 114 = .ok (.iload 6, 2) := by decide +kernel
theorem dc_52_116 : decode prog_2_method_25_code 116 = .ok (.aload_n 0, 1) := by decide +kernel
theorem dc_52_117 : decode prog_2_method_25_code 117 = .ok (.getfield 12, 3) := by decide +kernel
theorem dc_52_120 : decode prog_2_method_25_code 120 = .ok (.getfield 32, 3) := by decide +kernel
theorem dc_52_123 : decode prog_2_method_25_code 123 = .ok (.iload 7, 2) := by decide +kernel
theorem dc_52_125 : decode prog_2_method_25_code 125 = .ok (.iaload, 1) := by decide +kernel
theorem dc_52_126 : decode prog_2_method_25_code 126 = .ok (.invokestatic 103, 3) := by decide +kernel
theorem dc_52_129 : decode prog_2_method_25_code 129 = .ok (.invokestatic 65, 3) := by decide +kernel
theorem dc_52_132 : decode prog_2_method_25_code 132 = .ok (.istore 6, 2) := by decide +kernel
theorem dc_52_134 : decode prog_2_method_25_code 134 = .ok (.iinc 7 1, 3) := by decide +kernel
theorem dc_52_137 : decode prog_2_method_25_code 137 = .ok (.goto (-119), 3) := by decide +kernel
theorem dc_52_140 : decode prog_2_method_25_code 140 = .ok (.iload_n 2, 1) := by decide +kernel
theorem dc_52_141 : decode prog_2_method_25_code 141 = .ok (.iconst 2, 1) := by decide +kernel
theorem dc_52_142 : decode prog_2_method_25_code 142 = .ok (.if_icmp .ge 7, 3) := by decide +kernel
theorem dc_52_145 : decode prog_2_method_25_code 145 = .ok (.iconst (-1), 1) := by decide +kernel
theorem dc_52_146 : decode prog_2_method_25_code 146 = .ok (.goto 13, 3) := by decide +kernel
theorem dc_52_149 : decode prog_2_method_25_code 149 = .ok (.iload 4, 2) := by decide +kernel
theorem dc_52_151 : decode prog_2_method_25_code 151 = .ok (.iload_n 3, 1) := by decide +kernel
theorem dc_52_152 : decode prog_2_method_25_code 152 = .ok (.isub, 1) := by decide +kernel
theorem dc_52_153 : decode prog_2_method_25_code 153 = .ok (.iload 6, 2) := by decide +kernel
theorem dc_52_155 : decode prog_2_method_25_code 155 = .ok (.iadd, 1) := by decide +kernel
theorem dc_52_156 : decode prog_2_method_25_code 156 = .ok (.iload 5, 2) := by decide +kernel
theorem dc_52_158 : decode prog_2_method_25_code 158 = .ok (.isub, 1) := by decide +kernel
theorem dc_52_159 : decode prog_2_method_25_code 159 = .ok (.ireturn, 1) := by decide +kernel
theorem dc_53_0 : decode prog_2_method_26_code 0 = .ok (.aload_n 2, 1) := by decide +kernel
theorem dc_53_1 : decode prog_2_method_26_code 1 = .ok (.iconst (-1), 1) := by decide +kernel
theorem dc_53_2 : decode prog_2_method_26_code 2 = .ok (.invokestatic 106, 3) := by decide +kernel
theorem dc_53_5 : decode prog_2_method_26_code 5 = .ok (.iconst 0, 1) := by decide +kernel
theorem dc_53_6 : decode prog_2_method_26_code 6 = .ok (.istore_n 3, 1) := by decide +kernel
theorem dc_53_7 : decode prog_2_method_26_code 7 = .ok (.iload_n 3, 1) := by decide +kernel
theorem dc_53_8 : decode prog_2_method_26_code 8 = .ok (.sipush 240, 3) := by decide +kernel
theorem dc_53_11 : decode prog_2_method_26_code 11 = .ok (.if_icmp .ge 25, 3) := by decide +kernel
theorem dc_53_14 : decode prog_2_method_26_code 14 = .ok (.aload_n 0, 1) := by decide +kernel
theorem dc_53_15 : decode prog_2_method_26_code 15 = .ok (.iload_n 3, 1) := by decide +kernel
theorem dc_53_16 : decode prog_2_method_26_code 16 = .ok (.invokevirtual 46, 3) := by decide +kernel
theorem dc_53_19 : decode prog_2_method_26_code 19 = .ok (.iload_n 1, 1) := by decide +kernel
theorem dc_53_20 : decode prog_2_method_26_code 20 = .ok (.if_icmp .ne 10, 3) := by decide +kernel
theorem dc_53_23 : decode prog_2_method_26_code 23 = .ok (.aload_n 0, 1) := by decide +kernel
theorem dc_53_24 : decode prog_2_method_26_code 24 = .ok (.iload_n 3, 1) := by decide +kernel
theorem dc_53_25 : decode prog_2_method_26_code 25 = .ok (.iload_n 1, 1) := by decide +kernel
theorem dc_53_26 : decode prog_2_method_26_code 26 = .ok (.aload_n 2, 1) := by decide +kernel
theorem dc_53_27 : decode prog_2_method_26_code 27 = .ok (.invokevirtual 112, 3) := by decide +kernel
theorem dc_53_30 : decode prog_2_method_26_code 30 = .ok (.iinc 3 1, 3) := by decide +kernel
theorem dc_53_33 : decode prog_2_method_26_code 33 = .ok (.goto (-26), 3) := by decide +kernel
theorem dc_53_36 : decode prog_2_method_26_code 36 = .ok (.return_, 1) := by decide +kernel
theorem dc_54_0 : decode prog_2_method_27_code 0 = .ok (.aload_n 0, 1) := by decide +kernel
theorem dc_54_1 : decode prog_2_method_27_code 1 = .ok (.getfield 12, 3) := by decide +kernel
theorem dc_54_4 : decode prog_2_method_27_code 4 = .ok (.getfield 39, 3) := by decide +kernel
theorem dc_54_7 : decode prog_2_method_27_code 7 = .ok (.istore 4, 2) := by decide +kernel
theorem dc_54_9 : decode prog_2_method_27_code 9 = .ok (.iload 4, 2) := by decide +kernel
theorem dc_54_11 : decode prog_2_method_27_code 11 = .ok (.ineg, 1) := by decide +kernel
theorem dc_54_12 : decode prog_2_method_27_code 12 = .ok (.istore 5, 2) := by decide +kernel
theorem dc_54_14 : decode prog_2_method_27_code 14 = .ok (.iload 5, 2) := by decide +kernel
theorem dc_54_16 : decode prog_2_method_27_code 16 = .ok (.iload 4, 2) := by decide +kernel
theorem dc_54_18 : decode prog_2_method_27_code 18 = .ok (.if_icmp .gt 74, 3) := by decide +kernel
theorem dc_54_21 : decode prog_2_method_27_code 21 = .ok (.iload 4, 2) := by decide +kernel
theorem dc_54_23 : decode prog_2_method_27_code 23 = .ok (.ineg, 1) := by decide +kernel
theorem dc_54_24 : decode prog_2_method_27_code 24 = .ok (.istore 6, 2) := by decide +kernel
theorem dc_54_26 : decode prog_2_method_27_code 26 = .ok (.iload 6, 2) := by decide +kernel
theorem dc_54_28 : decode prog_2_method_27_code 28 = .ok (.iload 4, 2) := by decide +kernel
theorem dc_54_30 : decode prog_2_method_27_code 30 = .ok (.if_icmp .gt 56, 3) := by decide +kernel
theorem dc_54_33 : decode prog_2_method_27_code 33 = .ok (.iload_n 1, 1) := by decide +kernel
theorem dc_54_34 : decode prog_2_method_27_code 34 = .ok (.iload 6, 2) := by decide +kernel
theorem dc_54_36 : decode prog_2_method_27_code 36 = .ok (.iload 5, 2) := by decide +kernel
theorem dc_54_38 : decode prog_2_method_27_code 38 = .ok (.invokestatic 42, 3) := by decide +kernel
theorem dc_54_41 : decode prog_2_method_27_code 41 = .ok (.istore 7, 2) := by decide +kernel
theorem dc_54_43 : decode prog_2_method_27_code 43 = .ok (.iload 7, 2) := by decide +kernel
theorem dc_54_45 : decode prog_2_method_27_code 45 = .ok (.iconst (-1), 1) := by decide +kernel
theorem dc_54_46 : decode prog_2_method_27_code 46 = .ok (.if_icmp .ne 7, 3) := by decide +kernel
theorem dc_54_49 : decode prog_2_method_27_code 49 = .ok (.iconst (-1), 1) := by decide +kernel
theorem dc_54_50 : decode prog_2_method_27_code 50 = .ok (.goto 9, 3) := by decide +kernel
theorem dc_54_53 : decode prog_2_method_27_code 53 = .ok (.aload_n 0, 1) := by decide +kernel
theorem dc_54_54 : decode prog_2_method_27_code 54 = .ok (.iload 7, 2) := by decide +kernel
theorem dc_54_56 : decode prog_2_method_27_code 56 = .ok (.invokevirtual 46, 3) := by decide +kernel
theorem dc_54_59 : decode prog_2_method_27_code 59 = .ok (.istore 8, 2) := by decide +kernel
theorem dc_54_61 : decode prog_2_method_27_code 61 = .ok (.iload 8, 2) := by decide +kernel
theorem dc_54_63 : decode prog_2_method_27_code 63 = .ok (.iload_n 2, 1) := by decide +kernel
theorem dc_54_64 : decode prog_2_method_27_code 64 = .ok (.if_icmp .le 16, 3) := by decide +kernel
theorem dc_54_67 : decode prog_2_method_27_code 67 = .ok (.aload_n 3, 1) := by decide +kernel
theorem dc_54_68 : decode prog_2_method_27_code 68 = .ok (.iload 8, 2) := by decide +kernel
theorem dc_54_70 : decode prog_2_method_27_code 70 = .ok (.iaload, 1) := by decide +kernel
theorem dc_54_71 : decode prog_2_method_27_code 71 = .ok (.iconst (-1), 1) := by decide +kernel
theorem dc_54_72 : decode prog_2_method_27_code 72 = .ok (.if_icmp .ne 8, 3) := by decide +kernel
theorem dc_54_75 : decode prog_2_method_27_code 75 = .ok (.aload_n 3, 1) := by decide +kernel
theorem dc_54_76 : decode prog_2_method_27_code 76 = .ok (.iload 8, 2) := by decide +kernel
theorem dc_54_78 : decode prog_2_method_27_code 78 = .ok (.iload_n 1, 1) := by decide +kernel
theorem dc_54_79 : decode prog_2_method_27_code 79 = .ok (.iastore, 1) := by decide +kernel
theorem dc_54_80 : decode prog_2_method_27_code 80 = .ok (.iinc 6 1, 3) := by decide +kernel
theorem dc_54_83 : decode prog_2_method_27_code 83 = .ok (.goto (-57), 3) := by decide +kernel
theorem dc_54_86 : decode prog_2_method_27_code 86 = .ok (.iinc 5 1, 3) := by decide +kernel
theorem dc_54_89 : decode prog_2_method_27_code 89 = .ok (.goto (-75), 3) := by decide +kernel
theorem dc_54_92 : decode prog_2_method_27_code 92 = .ok (.return_, 1) := by decide +kernel
theorem dc_55_0 : decode prog_2_method_28_code 0 = .ok (.aload_n 0, 1) := by decide +kernel
theorem dc_55_1 : decode prog_2_method_28_code 1 = .ok (.iload_n 1, 1) := by decide +kernel
theorem dc_55_2 : decode prog_2_method_28_code 2 = .ok (.invokevirtual 46, 3) := by decide +kernel
theorem dc_55_5 : decode prog_2_method_28_code 5 = .ok (.istore_n 2, 1) := by decide +kernel
theorem dc_55_6 : decode prog_2_method_28_code 6 = .ok (.bipush 12, 2) := by decide +kernel
theorem dc_55_8 : decode prog_2_method_28_code 8 = .ok (.iload_n 1, 1) := by decide +kernel
theorem dc_55_9 : decode prog_2_method_28_code 9 = .ok (.invokestatic 100, 3) := by decide +kernel
theorem dc_55_12 : decode prog_2_method_28_code 12 = .ok (.isub, 1) := by decide +kernel
theorem dc_55_13 : decode prog_2_method_28_code 13 = .ok (.istore_n 3, 1) := by decide +kernel
theorem dc_55_14 : decode prog_2_method_28_code 14 = .ok (.iconst 1, 1) := by decide +kernel
theorem dc_55_15 : decode prog_2_method_28_code 15 = .ok (.istore 4, 2) := by decide +kernel
theorem dc_55_17 : decode prog_2_method_28_code 17 = .ok (.iload 4, 2) := by decide +kernel
theorem dc_55_19 : decode prog_2_method_28_code 19 = .ok (.iload_n 3, 1) := by decide +kernel
theorem dc_55_20 : decode prog_2_method_28_code 20 = .ok (.if_icmp .ge 21, 3) := by decide +kernel
theorem dc_55_23 : decode prog_2_method_28_code 23 = .ok (.aload_n 0, 1) := by decide +kernel
theorem dc_55_24 : decode prog_2_method_28_code 24 = .ok (.iload_n 1, 1) := by decide +kernel
theorem dc_55_25 : decode prog_2_method_28_code 25 = .ok (.iload 4, 2) := by decide +kernel
theorem dc_55_27 : decode prog_2_method_28_code 27 = .ok (.iadd, 1) := by decide +kernel
theorem dc_55_28 : decode prog_2_method_28_code 28 = .ok (.invokevirtual 46, 3) := by decide +kernel
theorem dc_55_31 : decode prog_2_method_28_code 31 = .ok (.iload_n 2, 1) := by decide +kernel
theorem dc_55_32 : decode prog_2_method_28_code 32 = .ok (.if_icmp .ne 9, 3) := by decide +kernel
theorem dc_55_35 : decode prog_2_method_28_code 35 = .ok (.iinc 4 1, 3) := by decide +kernel
theorem dc_55_38 : decode prog_2_method_28_code 38 = .ok (.goto (-21), 3) := by decide +kernel
theorem dc_55_41 : decode prog_2_method_28_code 41 = .ok (.iload 4, 2) := by decide +kernel
theorem dc_55_43 : decode prog_2_method_28_code 43 = .ok (.ireturn, 1) := by decide +kernel
theorem dc_56_0 : decode prog_6_method_2_code 0 = .ok (.aload_n 1, 1) := by decide +kernel
theorem dc_56_1 : decode prog_6_method_2_code 1 = .ok (.getfield 9, 3) := by decide +kernel
theorem dc_56_4 : decode prog_6_method_2_code 4 = .ok (.iconst 0, 1) := by decide +kernel
theorem dc_56_5 : decode prog_6_method_2_code 5 = .ok (.aload_n 0, 1) := by decide +kernel
theorem dc_56_6 : decode prog_6_method_2_code 6 = .ok (.getfield 9, 3) := by decide +kernel
theorem dc_56_9 : decode prog_6_method_2_code 9 = .ok (.iconst 0, 1) := by decide +kernel
theorem dc_56_10 : decode prog_6_method_2_code 10 = .ok (.bipush 16, 2) := by decide +kernel
theorem dc_56_12 : decode prog_6_method_2_code 12 = .ok (.invokestatic 40, 3) := by decide +kernel
theorem dc_56_15 : decode prog_6_method_2_code 15 = .ok (.aload_n 1, 1) := by decide +kernel
theorem dc_56_16 : decode prog_6_method_2_code 16 = .ok (.getfield 15, 3) := by decide +kernel
theorem dc_56_19 : decode prog_6_method_2_code 19 = .ok (.iconst 0, 1) := by decide +kernel
theorem dc_56_20 : decode prog_6_method_2_code 20 = .ok (.aload_n 0, 1) := by decide +kernel
theorem dc_56_21 : decode prog_6_method_2_code 21 = .ok (.getfield 15, 3) := by decide +kernel
theorem dc_56_24 : decode prog_6_method_2_code 24 = .ok (.iconst 0, 1) := by decide +kernel
theorem dc_56_25 : decode prog_6_method_2_code 25 = .ok (.bipush 24, 2) := by decide +kernel
theorem dc_56_27 : decode prog_6_method_2_code 27 = .ok (.invokestatic 40, 3) := by decide +kernel
theorem dc_56_30 : decode prog_6_method_2_code 30 = .ok (.aload_n 1, 1) := by decide +kernel
theorem dc_56_31 : decode prog_6_method_2_code 31 = .ok (.getfield 18, 3) := by decide +kernel
theorem dc_56_34 : decode prog_6_method_2_code 34 = .ok (.iconst 0, 1) := by decide +kernel
theorem dc_56_35 : decode prog_6_method_2_code 35 = .ok (.aload_n 0, 1) := by decide +kernel
theorem dc_56_36 : decode prog_6_method_2_code 36 = .ok (.getfield 18, 3) := by decide +kernel
theorem dc_56_39 : decode prog_6_method_2_code 39 = .ok (.iconst 0, 1) := by decide +kernel
theorem dc_56_40 : decode prog_6_method_2_code 40 = .ok (.bipush 24, 2) := by decide +kernel
theorem dc_56_42 : decode prog_6_method_2_code 42 = .ok (.invokestatic 40, 3) := by decide +kernel
theorem dc_56_45 : decode prog_6_method_2_code 45 = .ok (.aload_n 1, 1) := by decide +kernel
theorem dc_56_46 : decode prog_6_method_2_code 46 = .ok (.getfield 21, 3) := by decide +kernel
theorem dc_56_49 : decode prog_6_method_2_code 49 = .ok (.iconst 0, 1) := by decide +kernel
theorem dc_56_50 : decode prog_6_method_2_code 50 = .ok (.aload_n 0, 1) := by decide +kernel
theorem dc_56_51 : decode prog_6_method_2_code 51 = .ok (.getfield 21, 3) := by decide +kernel
theorem dc_56_54 : decode prog_6_method_2_code 54 = .ok (.iconst 0, 1) := by decide +kernel
theorem dc_56_55 : decode prog_6_method_2_code 55 = .ok (.bipush 16, 2) := by decide +kernel
theorem dc_56_57 : decode prog_6_method_2_code 57 = .ok (.invokestatic 40, 3) := by decide +kernel
theorem dc_56_60 : decode prog_6_method_2_code 60 = .ok (.aload_n 1, 1) := by decide +kernel
theorem dc_56_61 : decode prog_6_method_2_code 61 = .ok (.getfield 24, 3) := by decide +kernel
theorem dc_56_64 : decode prog_6_method_2_code 64 = .ok (.iconst 0, 1) := by decide +kernel
theorem dc_56_65 : decode prog_6_method_2_code 65 = .ok (.aload_n 0, 1) := by decide +kernel
theorem dc_56_66 : decode prog_6_method_2_code 66 = .ok (.getfield 24, 3) := by decide +kernel
theorem dc_56_69 : decode prog_6_method_2_code 69 = .ok (.iconst 0, 1) := by decide +kernel
theorem dc_56_70 : decode prog_6_method_2_code 70 = .ok (.bipush 16, 2) := by decide +kernel
theorem dc_56_72 : decode prog_6_method_2_code 72 = .ok (.invokestatic 40, 3) := by decide +kernel
theorem dc_56_75 : decode prog_6_method_2_code 75 = .ok (.aload_n 1, 1) := by decide +kernel
theorem dc_56_76 : decode prog_6_method_2_code 76 = .ok (.getfield 27, 3) := by decide +kernel
theorem dc_56_79 : decode prog_6_method_2_code 79 = .ok (.iconst 0, 1) := by decide +kernel
theorem dc_56_80 : decode prog_6_method_2_code 80 = .ok (.aload_n 0, 1) := by decide +kernel
theorem dc_56_81 : decode prog_6_method_2_code 81 = .ok (.getfield 27, 3) := by decide +kernel
theorem dc_56_84 : decode prog_6_method_2_code 84 = .ok (.iconst 0, 1) := by decide +kernel
theorem dc_56_85 : decode prog_6_method_2_code 85 = .ok (.sipush 240, 3) := by decide +kernel
theorem dc_56_88 : decode prog_6_method_2_code 88 = .ok (.invokestatic 40, 3) := by decide +kernel
theorem dc_56_91 : decode prog_6_method_2_code 91 = .ok (.aload_n 0, 1) := by decide +kernel
theorem dc_56_92 : decode prog_6_method_2_code 92 = .ok (.aload_n 1, 1) := by decide +kernel
theorem dc_56_93 : decode prog_6_method_2_code 93 = .ok (.getfield 30, 3) := by decide +kernel
theorem dc_56_96 : decode prog_6_method_2_code 96 = .ok (.putfield 30, 3) := by decide +kernel
theorem dc_56_99 : decode prog_6_method_2_code 99 = .ok (.aload_n 0, 1) := by decide +kernel
theorem dc_56_100 : decode prog_6_method_2_code 100 = .ok (.aload_n 1, 1) := by decide +kernel
theorem dc_56_101 : decode prog_6_method_2_code 101 = .ok (.getfield 34, 3) := by decide +kernel
theorem dc_56_104 : decode prog_6_method_2_code 104 = .ok (.putfield 34, 3) := by decide +kernel
theorem dc_56_107 : decode prog_6_method_2_code 107 = .ok (.aload_n 0, 1) := by decide +kernel
theorem dc_56_108 : decode prog_6_method_2_code 108 = .ok (.aload_n 1, 1) := by decide +kernel
theorem dc_56_109 : decode prog_6_method_2_code 109 = .ok (.getfield 37, 3) := by decide +kernel
theorem dc_56_112 : decode prog_6_method_2_code 112 = .ok (.putfield 37, 3) := by decide +kernel
theorem dc_56_115 : decode prog_6_method_2_code 115 = .ok (.return_, 1) := by decide +kernel
theorem dc_57_0 : decode prog_6_method_3_code 0 = .ok (.aload_n 0, 1) := by decide +kernel
theorem dc_57_1 : decode prog_6_method_3_code 1 = .ok (.getfield 30, 3) := by decide +kernel
theorem dc_57_4 : decode prog_6_method_3_code 4 = .ok (.aload_n 1, 1) := by decide +kernel
theorem dc_57_5 : decode prog_6_method_3_code 5 = .ok (.getfield 30, 3) := by decide +kernel
theorem dc_57_8 : decode prog_6_method_3_code 8 = .ok (.if_icmp .ne 71, 3) := by decide +kernel
theorem dc_57_11 : decode prog_6_method_3_code 11 = .ok (.aload_n 0, 1) := by decide +kernel
theorem dc_57_12 : decode prog_6_method_3_code 12 = .ok (.getfield 34, 3) := by decide +kernel
theorem dc_57_15 : decode prog_6_method_3_code 15 = .ok (.aload_n 1, 1) := by decide +kernel
theorem dc_57_16 : decode prog_6_method_3_code 16 = .ok (.getfield 34, 3) := by decide +kernel
theorem dc_57_19 : decode prog_6_method_3_code 19 = .ok (.if_icmp .ne 60, 3) := by decide +kernel
theorem dc_57_22 : decode prog_6_method_3_code 22 = .ok (.aload_n 0, 1) := by decide +kernel
theorem dc_57_23 : decode prog_6_method_3_code 23 = .ok (.getfield 37, 3) := by decide +kernel
theorem dc_57_26 : decode prog_6_method_3_code 26 = .ok (.aload_n 1, 1) := by decide +kernel
theorem dc_57_27 : decode prog_6_method_3_code 27 = .ok (.getfield 37, 3) := by decide +kernel
theorem dc_57_30 : decode prog_6_method_3_code 30 = .ok (.if_icmp .ne 49, 3) := by decide +kernel
theorem dc_57_33 : decode prog_6_method_3_code 33 = .ok (.aload_n 0, 1) := by decide +kernel
theorem dc_57_34 : decode prog_6_method_3_code 34 = .ok (.getfield 21, 3) := by decide +kernel
theorem dc_57_37 : decode prog_6_method_3_code 37 = .ok (.aload_n 1, 1) := by decide +kernel
theorem dc_57_38 : decode prog_6_method_3_code 38 = .ok (.getfield 21, 3) := by decide +kernel
theorem dc_57_41 : decode prog_6_method_3_code 41 = .ok (.invokestatic 46, 3) := by decide +kernel
theorem dc_57_44 : decode prog_6_method_3_code 44 = .ok (.ifCond .eq 35, 3) := by decide +kernel
theorem dc_57_47 : decode prog_6_method_3_code 47 = .ok (.aload_n 0, 1) := by decide +kernel
theorem dc_57_48 : decode prog_6_method_3_code 48 = .ok (.getfield 24, 3) := by decide +kernel
theorem dc_57_51 : decode prog_6_method_3_code 51 = .ok (.aload_n 1, 1) := by decide +kernel
theorem dc_57_52 : decode prog_6_method_3_code 52 = .ok (.getfield 24, 3) := by decide +kernel
theorem dc_57_55 : decode prog_6_method_3_code 55 = .ok (.invokestatic 46, 3) := by decide +kernel
theorem dc_57_58 : decode prog_6_method_3_code 58 = .ok (.ifCond .eq 21, 3) := by decide +kernel
theorem dc_57_61 : decode prog_6_method_3_code 61 = .ok (.aload_n 0, 1) := by decide +kernel
theorem dc_57_62 : decode prog_6_method_3_code 62 = .ok (.getfield 27, 3) := by decide +kernel
theorem dc_57_65 : decode prog_6_method_3_code 65 = .ok (.aload_n 1, 1) := by decide +kernel
theorem dc_57_66 : decode prog_6_method_3_code 66 = .ok (.getfield 27, 3) := by decide +kernel
theorem dc_57_69 : decode prog_6_method_3_code 69 = .ok (.invokestatic 46, 3) := by decide +kernel
theorem dc_57_72 : decode prog_6_method_3_code 72 = .ok (.ifCond .eq 7, 3) := by decide +kernel
theorem dc_57_75 : decode prog_6_method_3_code 75 = .ok (.iconst 1, 1) := by decide +kernel
theorem dc_57_76 : decode prog_6_method_3_code 76 = .ok (.goto 4, 3) := by decide +kernel
theorem dc_57_79 : decode prog_6_method_3_code 79 = .ok (.iconst 0, 1) := by decide +kernel
theorem dc_57_80 : decode prog_6_method_3_code 80 = .ok (.ireturn, 1) := by decide +kernel
theorem dc_58_0 : decode prog_6_method_4_code 0 = .ok (.iconst 0, 1) := by decide +kernel
theorem dc_58_1 : decode prog_6_method_4_code 1 = .ok (.istore_n 2, 1) := by decide +kernel
theorem dc_58_2 : decode prog_6_method_4_code 2 = .ok (.iload_n 2, 1) := by decide +kernel
theorem dc_58_3 : decode prog_6_method_4_code 3 = .ok (.aload_n 0, 1) := by decide +kernel
theorem dc_58_4 : decode prog_6_method_4_code 4 = .ok (.arraylength, 1) := by decide +kernel
theorem dc_58_5 : decode prog_6_method_4_code 5 = .ok (.if_icmp .ge 26, 3) := by decide +kernel
theorem dc_58_8 : decode prog_6_method_4_code 8 = .ok (.iload_n 2, 1) := by decide +kernel
theorem dc_58_9 : decode prog_6_method_4_code 9 = .ok (.aload_n 1, 1) := by decide +kernel
theorem dc_58_10 : decode prog_6_method_4_code 10 = .ok (.arraylength, 1) := by decide +kernel
theorem dc_58_11 : decode prog_6_method_4_code 11 = .ok (.if_icmp .ge 20, 3) := by decide +kernel
theorem dc_58_14 : decode prog_6_method_4_code 14 = .ok (.aload_n 0, 1) := by decide +kernel
theorem dc_58_15 : decode prog_6_method_4_code 15 = .ok (.iload_n 2, 1) := by decide +kernel
theorem dc_58_16 : decode prog_6_method_4_code 16 = .ok (.iaload, 1) := by decide +kernel
theorem dc_58_17 : decode prog_6_method_4_code 17 = .ok (.aload_n 1, 1) := by decide +kernel
theorem dc_58_18 : decode prog_6_method_4_code 18 = .ok (.iload_n 2, 1) := by decide +kernel
theorem dc_58_19 : decode prog_6_method_4_code 19 = .ok (.iaload, 1) := by decide +kernel
theorem dc_58_20 : decode prog_6_method_4_code 20 = .ok (.if_icmp .eq 5, 3) := by decide +kernel
theorem dc_58_23 : decode prog_6_method_4_code 23 = .ok (.iconst 0, 1) := by decide +kernel
theorem dc_58_24 : decode prog_6_method_4_code 24 = .ok (.ireturn, 1) := by decide +kernel
theorem dc_58_25 : decode prog_6_method_4_code 25 = .ok (.iinc 2 1, 3) := by decide +kernel
theorem dc_58_28 : decode prog_6_method_4_code 28 = .ok (.goto (-26), 3) := by decide +kernel
theorem dc_58_31 : decode prog_6_method_4_code 31 = .ok (.iconst 1, 1) := by decide +kernel
theorem dc_58_32 : decode prog_6_method_4_code 32 = .ok (.ireturn, 1) := by decide +kernel
theorem dc_59_0 : decode prog_3_method_2_code 0 = .ok (.aload_n 0, 1) := by decide +kernel
theorem dc_59_1 : decode prog_3_method_2_code 1 = .ok (.getfield 13, 3) := by decide +kernel
theorem dc_59_4 : decode prog_3_method_2_code 4 = .ok (.aload_n 0, 1) := by decide +kernel
theorem dc_59_5 : decode prog_3_method_2_code 5 = .ok (.getfield 17, 3) := by decide +kernel
theorem dc_59_8 : decode prog_3_method_2_code 8 = .ok (.aaload, 1) := by decide +kernel
theorem dc_59_9 : decode prog_3_method_2_code 9 = .ok (.aload_n 1, 1) := by decide +kernel
theorem dc_59_10 : decode prog_3_method_2_code 10 = .ok (.invokevirtual 25, 3) := by decide +kernel
theorem dc_59_13 : decode prog_3_method_2_code 13 = .ok (.return_, 1) := by decide +kernel
theorem dc_60_0 : decode prog_3_method_3_code 0 = .ok (.aload_n 0, 1) := by decide +kernel
theorem dc_60_1 : decode prog_3_method_3_code 1 = .ok (.getfield 13, 3) := by decide +kernel
theorem dc_60_4 : decode prog_3_method_3_code 4 = .ok (.aload_n 0, 1) := by decide +kernel
theorem dc_60_5 : decode prog_3_method_3_code 5 = .ok (.getfield 17, 3) := by decide +kernel
theorem dc_60_8 : decode prog_3_method_3_code 8 = .ok (.aaload, 1) := by decide +kernel
theorem dc_60_9 : decode prog_3_method_3_code 9 = .ok (.aload_n 1, 1) := by decide +kernel
theorem dc_60_10 : decode prog_3_method_3_code 10 = .ok (.invokevirtual 29, 3) := by decide +kernel
theorem dc_60_13 : decode prog_3_method_3_code 13 = .ok (.ifCond .eq 4, 3) := by decide +kernel
theorem dc_60_16 : decode prog_3_method_3_code 16 = .ok (.return_, 1) := by decide +kernel
theorem dc_60_17 : decode prog_3_method_3_code 17 = .ok (.aload_n 0, 1) := by decide +kernel
theorem dc_60_18 : decode prog_3_method_3_code 18 = .ok (.aload_n 0, 1) := by decide +kernel
theorem dc_60_19 : decode prog_3_method_3_code 19 = .ok (.getfield 17, 3) := by decide +kernel
theorem dc_60_22 : decode prog_3_method_3_code 22 = .ok (.iconst 1, 1) := by decide +kernel
theorem dc_60_23 : decode prog_3_method_3_code 23 = .ok (.iadd, 1) := by decide +kernel
theorem dc_60_24 : decode prog_3_method_3_code 24 = .ok (.bipush 17, 2) := by decide +kernel
theorem dc_60_26 : decode prog_3_method_3_code 26 = .ok (.irem, 1) := by decide +kernel
theorem dc_60_27 : decode prog_3_method_3_code 27 = .ok (.putfield 17, 3) := by decide +kernel
theorem dc_60_30 : decode prog_3_method_3_code 30 = .ok (.aload_n 0, 1) := by decide +kernel
theorem dc_60_31 : decode prog_3_method_3_code 31 = .ok (.aload_n 0, 1) := by decide +kernel
theorem dc_60_32 : decode prog_3_method_3_code 32 = .ok (.getfield 21, 3) := by decide +kernel
theorem dc_60_35 : decode prog_3_method_3_code 35 = .ok (.iconst 1, 1) := by decide +kernel
theorem dc_60_36 : decode prog_3_method_3_code 36 = .ok (.iadd, 1) := by decide +kernel
theorem dc_60_37 : decode prog_3_method_3_code 37 = .ok (.bipush 16, 2) := by decide +kernel
theorem dc_60_39 : decode prog_3_method_3_code 39 = .ok (.invokestatic 33, 3) := by decide +kernel
theorem dc_60_42 : decode prog_3_method_3_code 42 = .ok (.putfield 21, 3) := by decide +kernel
theorem dc_60_45 : decode prog_3_method_3_code 45 = .ok (.return_, 1) := by decide +kernel
theorem dc_61_0 : decode prog_3_method_4_code 0 = .ok (.aload_n 0, 1) := by decide +kernel
theorem dc_61_1 : decode prog_3_method_4_code 1 = .ok (.aload_n 0, 1) := by decide +kernel
theorem dc_61_2 : decode prog_3_method_4_code 2 = .ok (.getfield 17, 3) := by decide +kernel
theorem dc_61_5 : decode prog_3_method_4_code 5 = .ok (.bipush 17, 2) := by decide +kernel
theorem dc_61_7 : decode prog_3_method_4_code 7 = .ok (.iadd, 1) := by decide +kernel
theorem dc_61_8 : decode prog_3_method_4_code 8 = .ok (.iconst 1, 1) := by decide +kernel
theorem dc_61_9 : decode prog_3_method_4_code 9 = .ok (.isub, 1) := by decide +kernel
theorem dc_61_10 : decode prog_3_method_4_code 10 = .ok (.bipush 17, 2) := by decide +kernel
theorem dc_61_12 : decode prog_3_method_4_code 12 = .ok (.irem, 1) := by decide +kernel
theorem dc_61_13 : decode prog_3_method_4_code 13 = .ok (.putfield 17, 3) := by decide +kernel
theorem dc_61_16 : decode prog_3_method_4_code 16 = .ok (.aload_n 0, 1) := by decide +kernel
theorem dc_61_17 : decode prog_3_method_4_code 17 = .ok (.dup, 1) := by decide +kernel
theorem dc_61_18 : decode prog_3_method_4_code 18 = .ok (.getfield 21, 3) := by decide +kernel
theorem dc_61_21 : decode prog_3_method_4_code 21 = .ok (.iconst 1, 1) := by decide +kernel
theorem dc_61_22 : decode prog_3_method_4_code 22 = .ok (.isub, 1) := by decide +kernel
theorem dc_61_23 : decode prog_3_method_4_code 23 = .ok (.putfield 21, 3) := by decide +kernel
theorem dc_61_26 : decode prog_3_method_4_code 26 = .ok (.aload_n 1, 1) := by decide +kernel
theorem dc_61_27 : decode prog_3_method_4_code 27 = .ok (.aload_n 0, 1) := by decide +kernel
theorem dc_61_28 : decode prog_3_method_4_code 28 = .ok (.getfield 13, 3) := by decide +kernel
theorem dc_61_31 : decode prog_3_method_4_code 31 = .ok (.aload_n 0, 1) := by decide +kernel
theorem dc_61_32 : decode prog_3_method_4_code 32 = .ok (.getfield 17, 3) := by decide +kernel
theorem dc_61_35 : decode prog_3_method_4_code 35 = .ok (.aaload, 1) := by decide +kernel
theorem dc_61_36 : decode prog_3_method_4_code 36 = .ok (.invokevirtual 25, 3) := by decide +kernel
theorem dc_61_39 : decode prog_3_method_4_code 39 = .ok (.return_, 1) := by decide +kernel
theorem dc_62_0 : decode prog_5_method_2_code 0 = .ok (.ldc 36, 2) := by decide +kernel
theorem dc_62_2 : decode prog_5_method_2_code 2 = .ok (.istore_n 3, 1) := by decide +kernel
theorem dc_62_3 : decode prog_5_method_2_code 3 = .ok (.iconst 0, 1) := by decide +kernel
theorem dc_62_4 : decode prog_5_method_2_code 4 = .ok (.istore 4, 2) := by decide +kernel
theorem dc_62_6 : decode prog_5_method_2_code 6 = .ok (.iload 4, 2) := by decide +kernel
theorem dc_62_8 : decode prog_5_method_2_code 8 = .ok (.bipush 16, 2) := by decide +kernel
theorem dc_62_10 : decode prog_5_method_2_code 10 = .ok (.if_icmp .gt 20, 3) := by decide +kernel
theorem dc_62_13 : decode prog_5_method_2_code 13 = .ok (.iload_n 3, 1) := by decide +kernel
theorem dc_62_14 : decode prog_5_method_2_code 14 = .ok (.ifCond .le 16, 3) := by decide +kernel
theorem dc_62_17 : decode prog_5_method_2_code 17 = .ok (.aload_n 0, 1) := by decide +kernel
theorem dc_62_18 : decode prog_5_method_2_code 18 = .ok (.aload_n 1, 1) := by decide +kernel
theorem dc_62_19 : decode prog_5_method_2_code 19 = .ok (.iload_n 2, 1) := by decide +kernel
theorem dc_62_20 : decode prog_5_method_2_code 20 = .ok (.invokevirtual 37, 3) := by decide +kernel
theorem dc_62_23 : decode prog_5_method_2_code 23 = .ok (.istore_n 3, 1) := by decide +kernel
theorem dc_62_24 : decode prog_5_method_2_code 24 = .ok (.iinc 4 1, 3) := by decide +kernel
theorem dc_62_27 : decode prog_5_method_2_code 27 = .ok (.goto (-21), 3) := by decide +kernel
theorem dc_62_30 : decode prog_5_method_2_code 30 = .ok (.iload_n 3, 1) := by decide +kernel
theorem dc_62_31 : decode prog_5_method_2_code 31 = .ok (.ifCond .ne 7, 3) := by decide +kernel
theorem dc_62_34 : decode prog_5_method_2_code 34 = .ok (.iconst 1, 1) := by decide +kernel
theorem dc_62_35 : decode prog_5_method_2_code 35 = .ok (.goto 4, 3) := by decide +kernel
theorem dc_62_38 : decode prog_5_method_2_code 38 = .ok (.iconst 0, 1) := by decide +kernel
theorem dc_62_39 : decode prog_5_method_2_code 39 = .ok (.ireturn, 1) := by decide +kernel
theorem dc_63_0 : decode prog_5_method_3_code 0 = .ok (.aload_n 0, 1) := by decide +kernel
theorem dc_63_1 : decode prog_5_method_3_code 1 = .ok (.aload_n 1, 1) := by decide +kernel
theorem dc_63_2 : decode prog_5_method_3_code 2 = .ok (.iload_n 2, 1) := by decide +kernel
theorem dc_63_3 : decode prog_5_method_3_code 3 = .ok (.invokevirtual 41, 3) := by decide +kernel
theorem dc_63_6 : decode prog_5_method_3_code 6 = .ok (.istore_n 3, 1) := by decide +kernel
theorem dc_63_7 : decode prog_5_method_3_code 7 = .ok (.iload_n 3, 1) := by decide +kernel
theorem dc_63_8 : decode prog_5_method_3_code 8 = .ok (.iconst (-1), 1) := by decide +kernel
theorem dc_63_9 : decode prog_5_method_3_code 9 = .ok (.if_icmp .ne 5, 3) := by decide +kernel
theorem dc_63_12 : decode prog_5_method_3_code 12 = .ok (.iconst 0, 1) := by decide +kernel
theorem dc_63_13 : decode prog_5_method_3_code 13 = .ok (.ireturn, 1) := by decide +kernel
theorem dc_63_14 : decode prog_5_method_3_code 14 = .ok (.aload_n 0, 1) := by decide +kernel
theorem dc_63_15 : decode prog_5_method_3_code 15 = .ok (.aload_n 1, 1) := by decide +kernel
theorem dc_63_16 : decode prog_5_method_3_code 16 = .ok (.iload_n 2, 1) := by decide +kernel
theorem dc_63_17 : decode prog_5_method_3_code 17 = .ok (.iload_n 3, 1) := by decide +kernel
theorem dc_63_18 : decode prog_5_method_3_code 18 = .ok (.invokevirtual 44, 3) := by decide +kernel
theorem dc_63_21 : decode prog_5_method_3_code 21 = .ok (.aload_n 0, 1) := by decide +kernel
theorem dc_63_22 : decode prog_5_method_3_code 22 = .ok (.aload_n 1, 1) := by decide +kernel
theorem dc_63_23 : decode prog_5_method_3_code 23 = .ok (.iload_n 3, 1) := by decide +kernel
theorem dc_63_24 : decode prog_5_method_3_code 24 = .ok (.invokevirtual 48, 3) := by decide +kernel
theorem dc_63_27 : decode prog_5_method_3_code 27 = .ok (.istore 4, 2) := by decide +kernel
theorem dc_63_29 : decode prog_5_method_3_code 29 = .ok (.aload_n 0, 1) := by decide +kernel
theorem dc_63_30 : decode prog_5_method_3_code 30 = .ok (.getfield 26, 3) := by decide +kernel
theorem dc_63_33 : decode prog_5_method_3_code 33 = .ok (.iload 4, 2) := by decide +kernel
theorem dc_63_35 : decode prog_5_method_3_code 35 = .ok (.iaload, 1) := by decide +kernel
theorem dc_63_36 : decode prog_5_method_3_code 36 = .ok (.ldc 36, 2) := by decide +kernel
theorem dc_63_38 : decode prog_5_method_3_code 38 = .ok (.if_icmp .ne 6, 3) := by decide +kernel
theorem dc_63_41 : decode prog_5_method_3_code 41 = .ok (.bipush (-2), 2) := by decide +kernel
theorem dc_63_43 : decode prog_5_method_3_code 43 = .ok (.ireturn, 1) := by decide +kernel
theorem dc_63_44 : decode prog_5_method_3_code 44 = .ok (.aload_n 0, 1) := by decide +kernel
theorem dc_63_45 : decode prog_5_method_3_code 45 = .ok (.aload_n 1, 1) := by decide +kernel
theorem dc_63_46 : decode prog_5_method_3_code 46 = .ok (.iload 4, 2) := by decide +kernel
theorem dc_63_48 : decode prog_5_method_3_code 48 = .ok (.iload_n 3, 1) := by decide +kernel
theorem dc_63_49 : decode prog_5_method_3_code 49 = .ok (.invokevirtual 51, 3) := by decide +kernel
theorem dc_63_52 : decode prog_5_method_3_code 52 = .ok (.aload_n 0, 1) := by decide +kernel
theorem dc_63_53 : decode prog_5_method_3_code 53 = .ok (.getfield 26, 3) := by decide +kernel
theorem dc_63_56 : decode prog_5_method_3_code 56 = .ok (.iload 4, 2) := by decide +kernel
theorem dc_63_58 : decode prog_5_method_3_code 58 = .ok (.iaload, 1) := by decide +kernel
theorem dc_63_59 : decode prog_5_method_3_code 59 = .ok (.ireturn, 1) := by decide +kernel
theorem dc_64_0 : decode prog_5_method_4_code 0 = .ok (.iconst 0, 1) := by decide +kernel
theorem dc_64_1 : decode prog_5_method_4_code 1 = .ok (.istore_n 3, 1) := by decide +kernel
theorem dc_64_2 : decode prog_5_method_4_code 2 = .ok (.iconst 0, 1) := by decide +kernel
theorem dc_64_3 : decode prog_5_method_4_code 3 = .ok (.istore 4, 2) := by decide +kernel
theorem dc_64_5 : decode prog_5_method_4_code 5 = .ok (.iload 4, 2) := by decide +kernel
theorem dc_64_7 : decode prog_5_method_4_code 7 = .ok (.aload_n 1, 1) := by decide +kernel
theorem dc_64_8 : decode prog_5_method_4_code 8 = .ok (.getfield 54, 3) := by decide +kernel
theorem dc_64_11 : decode prog_5_method_4_code 11 = .ok (.getfield 60, 3) := by decide +kernel
theorem dc_64_14 : decode prog_5_method_4_code 14 = .ok (.if_icmp .ge 69, 3) := by decide +kernel
theorem dc_64_17 : decode prog_5_method_4_code 17 = .ok (.aload_n 1, 1) := by decide +kernel
theorem dc_64_18 : decode prog_5_method_4_code 18 = .ok (.iload 4, 2) := by decide +kernel
theorem dc_64_20 : decode prog_5_method_4_code 20 = .ok (.invokevirtual 65, 3) := by decide +kernel
theorem dc_64_23 : decode prog_5_method_4_code 23 = .ok (.iload_n 2, 1) := by decide +kernel
theorem dc_64_24 : decode prog_5_method_4_code 24 = .ok (.if_icmp .ne 53, 3) := by decide +kernel
theorem dc_64_27 : decode prog_5_method_4_code 27 = .ok (.aload_n 1, 1) := by decide +kernel
theorem dc_64_28 : decode prog_5_method_4_code 28 = .ok (.iload 4, 2) := by decide +kernel
theorem dc_64_30 : decode prog_5_method_4_code 30 = .ok (.invokevirtual 69, 3) := by decide +kernel
theorem dc_64_33 : decode prog_5_method_4_code 33 = .ok (.ifCond .ne 6, 3) := by decide +kernel
theorem dc_64_36 : decode prog_5_method_4_code 36 = .ok (.goto 41, 3) := by decide +kernel
theorem dc_64_39 : decode prog_5_method_4_code 39 = .ok (.iload_n 3, 1) := by decide +kernel
theorem dc_64_40 : decode prog_5_method_4_code 40 = .ok (.ifCond .ne 20, 3) := by decide +kernel
theorem dc_64_43 : decode prog_5_method_4_code 43 = .ok (.aload_n 0, 1) := by decide +kernel
theorem dc_64_44 : decode prog_5_method_4_code 44 = .ok (.aload_n 1, 1) := by decide +kernel
theorem dc_64_45 : decode prog_5_method_4_code 45 = .ok (.iload_n 2, 1) := by decide +kernel
theorem dc_64_46 : decode prog_5_method_4_code 46 = .ok (.aload_n 1, 1) := by decide +kernel
theorem dc_64_47 : decode prog_5_method_4_code 47 = .ok (.iload 4, 2) := by decide +kernel
theorem dc_64_49 : decode prog_5_method_4_code 49 = .ok (.invokevirtual 73, 3) := by decide +kernel
theorem dc_64_52 : decode prog_5_method_4_code 52 = .ok (.invokevirtual 76, 3) := by decide +kernel
theorem dc_64_55 : decode prog_5_method_4_code 55 = .ok (.iconst 1, 1) := by decide +kernel
theorem dc_64_56 : decode prog_5_method_4_code 56 = .ok (.istore_n 3, 1) := by decide +kernel
theorem dc_64_57 : decode prog_5_method_4_code 57 = .ok (.goto 20, 3) := by decide +kernel
theorem dc_64_60 : decode prog_5_method_4_code 60 = .ok (.aload_n 0, 1) := by decide +kernel
theorem dc_64_61 : decode prog_5_method_4_code 61 = .ok (.getfield 9, 3) := by decide +kernel
theorem dc_64_64 : decode prog_5_method_4_code 64 = .ok (.aload_n 1, 1) := by decide +kernel
theorem dc_64_65 : decode prog_5_method_4_code 65 = .ok (.iload 4, 2) := by decide +kernel
theorem dc_64_67 : decode prog_5_method_4_code 67 = .ok (.invokevirtual 73, 3) := by decide +kernel
theorem dc_64_70 : decode prog_5_method_4_code 70 = .ok (.baload, 1) := by decide +kernel
theorem dc_64_71 : decode prog_5_method_4_code 71 = .ok (.ifCond .ne 6, 3) := by decide +kernel
theorem dc_64_74 : decode prog_5_method_4_code 74 = .ok (.iload 4, 2) := by decide +kernel
theorem dc_64_76 : decode prog_5_method_4_code 76 = .ok (.ireturn, 1) := by decide +kernel
theorem dc_64_77 : decode prog_5_method_4_code 77 = .ok (.iinc 4 1, 3) := by decide +kernel
theorem dc_64_80 : decode prog_5_method_4_code 80 = .ok (.goto (-75), 3) := by decide +kernel
theorem dc_64_83 : decode prog_5_method_4_code 83 = .ok (.iconst (-1), 1) := by decide +kernel
theorem dc_64_84 : decode prog_5_method_4_code 84 = .ok (.ireturn, 1) := by decide +kernel
theorem dc_65_0 : decode prog_5_method_5_code 0 = .ok (.iconst 0, 1) := by decide +kernel
theorem dc_65_1 : decode prog_5_method_5_code 1 = .ok (.istore 4, 2) := by decide +kernel
theorem dc_65_3 : decode prog_5_method_5_code 3 = .ok (.iload 4, 2) := by decide +kernel
theorem dc_65_5 : decode prog_5_method_5_code 5 = .ok (.sipush 240, 3) := by decide +kernel
theorem dc_65_8 : decode prog_5_method_5_code 8 = .ok (.if_icmp .ge 17, 3) := by decide +kernel
theorem dc_65_11 : decode prog_5_method_5_code 11 = .ok (.aload_n 0, 1) := by decide +kernel
theorem dc_65_12 : decode prog_5_method_5_code 12 = .ok (.getfield 9, 3) := by decide +kernel
theorem dc_65_15 : decode prog_5_method_5_code 15 = .ok (.iload 4, 2) := by decide +kernel
theorem dc_65_17 : decode prog_5_method_5_code 17 = .ok (.iconst 0, 1) := by decide +kernel
theorem dc_65_18 : decode prog_5_method_5_code 18 = .ok (.bastore, 1) := by decide +kernel
theorem dc_65_19 : decode prog_5_method_5_code 19 = .ok (.iinc 4 1, 3) := by decide +kernel
theorem dc_65_22 : decode prog_5_method_5_code 22 = .ok (.goto (-19), 3) := by decide +kernel
theorem dc_65_25 : decode prog_5_method_5_code 25 = .ok (.aload_n 0, 1) := by decide +kernel
theorem dc_65_26 : decode prog_5_method_5_code 26 = .ok (.iconst 0, 1) := by decide +kernel
theorem dc_65_27 : decode prog_5_method_5_code 27 = .ok (.putfield 19, 3) := by decide +kernel
theorem dc_65_30 : decode prog_5_method_5_code 30 = .ok (.aload_n 0, 1) := by decide +kernel
theorem dc_65_31 : decode prog_5_method_5_code 31 = .ok (.iload_n 3, 1) := by decide +kernel
theorem dc_65_32 : decode prog_5_method_5_code 32 = .ok (.invokevirtual 79, 3) := by decide +kernel
theorem dc_65_35 : decode prog_5_method_5_code 35 = .ok (.iconst 0, 1) := by decide +kernel
theorem dc_65_36 : decode prog_5_method_5_code 36 = .ok (.istore 4, 2) := by decide +kernel
theorem dc_65_38 : decode prog_5_method_5_code 38 = .ok (.iload 4, 2) := by decide +kernel
theorem dc_65_40 : decode prog_5_method_5_code 40 = .ok (.sipush 240, 3) := by decide +kernel
theorem dc_65_43 : decode prog_5_method_5_code 43 = .ok (.if_icmp .ge 70, 3) := by decide +kernel
theorem dc_65_46 : decode prog_5_method_5_code 46 = .ok (.iload 4, 2) := by decide +kernel
theorem dc_65_48 : decode prog_5_method_5_code 48 = .ok (.aload_n 0, 1) := by decide +kernel
theorem dc_65_49 : decode prog_5_method_5_code 49 = .ok (.getfield 19, 3) := by decide +kernel
theorem dc_65_52 : decode prog_5_method_5_code 52 = .ok (.if_icmp .ge 61, 3) := by decide +kernel
theorem dc_65_55 : decode prog_5_method_5_code 55 = .ok (.iconst 0, 1) := by decide +kernel
theorem dc_65_56 : decode prog_5_method_5_code 56 = .ok (.istore 5, 2) := by decide +kernel
theorem dc_65_58 : decode prog_5_method_5_code 58 = .ok (.iload 5, 2) := by decide +kernel
theorem dc_65_60 : decode prog_5_method_5_code 60 = .ok (.bipush 9, 2) := by decide +kernel
theorem dc_65_62 : decode prog_5_method_5_code 62 = .ok (.if_icmp .ge 45, 3) := by decide +kernel
theorem dc_65_65 : decode prog_5_method_5_code 65 = .ok (.aload_n 0, 1) := by decide +kernel
theorem dc_65_66 : decode prog_5_method_5_code 66 = .ok (.getfield 15, 3) := by decide +kernel
theorem dc_65_69 : decode prog_5_method_5_code 69 = .ok (.iload 4, 2) := by decide +kernel
theorem dc_65_71 : decode prog_5_method_5_code 71 = .ok (.iaload, 1) := by decide +kernel
theorem dc_65_72 : decode prog_5_method_5_code 72 = .ok (.iload 5, 2) := by decide +kernel
theorem dc_65_74 : decode prog_5_method_5_code 74 = .ok (.invokestatic 83, 3) := by decide +kernel
theorem dc_65_77 : decode prog_5_method_5_code 77 = .ok (.istore 6, 2) := by decide +kernel
theorem dc_65_79 : decode prog_5_method_5_code 79 = .ok (.iload 6, 2) := by decide +kernel
theorem dc_65_81 : decode prog_5_method_5_code 81 = .ok (.iconst (-1), 1) := by decide +kernel
theorem dc_65_82 : decode prog_5_method_5_code 82 = .ok (.if_icmp .eq 19, 3) := by decide +kernel
theorem dc_65_85 : decode prog_5_method_5_code 85 = .ok (.aload_n 1, 1) := by decide +kernel
theorem dc_65_86 : decode prog_5_method_5_code 86 = .ok (.iload 6, 2) := by decide +kernel
theorem dc_65_88 : decode prog_5_method_5_code 88 = .ok (.invokevirtual 87, 3) := by decide +kernel
theorem dc_65_91 : decode prog_5_method_5_code 91 = .ok (.iload_n 2, 1) := by decide +kernel
theorem dc_65_92 : decode prog_5_method_5_code 92 = .ok (.if_icmp .ne 9, 3) := by decide +kernel
theorem dc_65_95 : decode prog_5_method_5_code 95 = .ok (.aload_n 0, 1) := by decide +kernel
theorem dc_65_96 : decode prog_5_method_5_code 96 = .ok (.iload 6, 2) := by decide +kernel
theorem dc_65_98 : decode prog_5_method_5_code 98 = .ok (.invokevirtual 79, 3) := by decide +kernel
theorem dc_65_101 : decode prog_5_method_5_code 101 = .ok (.iinc 5 1, 3) := by decide +kernel
theorem dc_65_104 : decode prog_5_method_5_code 104 = .ok (.goto (-46), 3) := by decide +kernel
theorem dc_65_107 : decode prog_5_method_5_code 107 = .ok (.iinc 4 1, 3) := by decide +kernel
theorem dc_65_110 : decode prog_5_method_5_code 110 = .ok (.goto (-72), 3) := by decide +kernel
theorem dc_65_113 : decode prog_5_method_5_code 113 = .ok (.return_, 1) := by decide +kernel
theorem dc_66_0 : decode prog_5_method_6_code 0 = .ok (.aload_n 0, 1) := by decide +kernel
theorem dc_66_1 : decode prog_5_method_6_code 1 = .ok (.getfield 9, 3) := by decide +kernel
theorem dc_66_4 : decode prog_5_method_6_code 4 = .ok (.iload_n 1, 1) := by decide +kernel
theorem dc_66_5 : decode prog_5_method_6_code 5 = .ok (.baload, 1) := by decide +kernel
theorem dc_66_6 : decode prog_5_method_6_code 6 = .ok (.ifCond .ne 40, 3) := by decide +kernel
theorem dc_66_9 : decode prog_5_method_6_code 9 = .ok (.aload_n 0, 1) := by decide +kernel
theorem dc_66_10 : decode prog_5_method_6_code 10 = .ok (.getfield 19, 3) := by decide +kernel
theorem dc_66_13 : decode prog_5_method_6_code 13 = .ok (.sipush 240, 3) := by decide +kernel
theorem dc_66_16 : decode prog_5_method_6_code 16 = .ok (.if_icmp .ge 30, 3) := by decide +kernel
theorem dc_66_19 : decode prog_5_method_6_code 19 = .ok (.aload_n 0, 1) := by decide +kernel
theorem dc_66_20 : decode prog_5_method_6_code 20 = .ok (.getfield 9, 3) := by decide +kernel
theorem dc_66_23 : decode prog_5_method_6_code 23 = .ok (.iload_n 1, 1) := by decide +kernel
theorem dc_66_24 : decode prog_5_method_6_code 24 = .ok (.iconst 1, 1) := by decide +kernel
theorem dc_66_25 : decode prog_5_method_6_code 25 = .ok (.bastore, 1) := by decide +kernel
theorem dc_66_26 : decode prog_5_method_6_code 26 = .ok (.aload_n 0, 1) := by decide +kernel
theorem dc_66_27 : decode prog_5_method_6_code 27 = .ok (.getfield 15, 3) := by decide +kernel
theorem dc_66_30 : decode prog_5_method_6_code 30 = .ok (.aload_n 0, 1) := by decide +kernel
theorem dc_66_31 : decode prog_5_method_6_code 31 = .ok (.getfield 19, 3) := by decide +kernel
theorem dc_66_34 : decode prog_5_method_6_code 34 = .ok (.iload_n 1, 1) := by decide +kernel
theorem dc_66_35 : decode prog_5_method_6_code 35 = .ok (.iastore, 1) := by decide +kernel
theorem dc_66_36 : decode prog_5_method_6_code 36 = .ok (.aload_n 0, 1) := by decide +kernel
theorem dc_66_37 : decode prog_5_method_6_code 37 = .ok (.dup, 1) := by decide +kernel
theorem dc_66_38 : decode prog_5_method_6_code 38 = .ok (.getfield 19, 3) := by decide +kernel
theorem dc_66_41 : decode prog_5_method_6_code 41 = .ok (.iconst 1, 1) := by decide +kernel
theorem dc_66_42 : decode prog_5_method_6_code 42 = .ok (.iadd, 1) := by decide +kernel
theorem dc_66_43 : decode prog_5_method_6_code 43 = .ok (.putfield 19, 3) := by decide +kernel
theorem dc_66_46 : decode prog_5_method_6_code 46 = .ok (.return_, 1) := by decide +kernel
theorem dc_67_0 : decode prog_5_method_7_code 0 = .ok (.iconst 0, 1) := by decide +kernel
theorem dc_67_1 : decode prog_5_method_7_code 1 = .ok (.istore 4, 2) := by decide +kernel
theorem dc_67_3 : decode prog_5_method_7_code 3 = .ok (.iload 4, 2) := by decide +kernel
theorem dc_67_5 : decode prog_5_method_7_code 5 = .ok (.sipush 240, 3) := by decide +kernel
theorem dc_67_8 : decode prog_5_method_7_code 8 = .ok (.if_icmp .ge 32, 3) := by decide +kernel
theorem dc_67_11 : decode prog_5_method_7_code 11 = .ok (.aload_n 0, 1) := by decide +kernel
theorem dc_67_12 : decode prog_5_method_7_code 12 = .ok (.getfield 23, 3) := by decide +kernel
theorem dc_67_15 : decode prog_5_method_7_code 15 = .ok (.iload 4, 2) := by decide +kernel
theorem dc_67_17 : decode prog_5_method_7_code 17 = .ok (.aload_n 1, 1) := by decide +kernel
theorem dc_67_18 : decode prog_5_method_7_code 18 = .ok (.iload 4, 2) := by decide +kernel
theorem dc_67_20 : decode prog_5_method_7_code 20 = .ok (.iload_n 2, 1) := by decide +kernel
theorem dc_67_21 : decode prog_5_method_7_code 21 = .ok (.invokevirtual 90, 3) := by decide +kernel
theorem dc_67_24 : decode prog_5_method_7_code 24 = .ok (.bastore, 1) := by decide +kernel
theorem dc_67_25 : decode prog_5_method_7_code 25 = .ok (.aload_n 0, 1) := by decide +kernel
theorem dc_67_26 : decode prog_5_method_7_code 26 = .ok (.getfield 26, 3) := by decide +kernel
theorem dc_67_29 : decode prog_5_method_7_code 29 = .ok (.iload 4, 2) := by decide +kernel
theorem dc_67_31 : decode prog_5_method_7_code 31 = .ok (.ldc 36, 2) := by decide +kernel
theorem dc_67_33 : decode prog_5_method_7_code 33 = .ok (.iastore, 1) := by decide +kernel
theorem dc_67_34 : decode prog_5_method_7_code 34 = .ok (.iinc 4 1, 3) := by decide +kernel
theorem dc_67_37 : decode prog_5_method_7_code 37 = .ok (.goto (-34), 3) := by decide +kernel
theorem dc_67_40 : decode prog_5_method_7_code 40 = .ok (.aload_n 0, 1) := by decide +kernel
theorem dc_67_41 : decode prog_5_method_7_code 41 = .ok (.getfield 32, 3) := by decide +kernel
theorem dc_67_44 : decode prog_5_method_7_code 44 = .ok (.invokevirtual 94, 3) := by decide +kernel
theorem dc_67_47 : decode prog_5_method_7_code 47 = .ok (.iconst 0, 1) := by decide +kernel
theorem dc_67_48 : decode prog_5_method_7_code 48 = .ok (.istore 4, 2) := by decide +kernel
theorem dc_67_50 : decode prog_5_method_7_code 50 = .ok (.iload 4, 2) := by decide +kernel
theorem dc_67_52 : decode prog_5_method_7_code 52 = .ok (.aload_n 0, 1) := by decide +kernel
theorem dc_67_53 : decode prog_5_method_7_code 53 = .ok (.getfield 19, 3) := by decide +kernel
theorem dc_67_56 : decode prog_5_method_7_code 56 = .ok (.if_icmp .ge 37, 3) := by decide +kernel
theorem dc_67_59 : decode prog_5_method_7_code 59 = .ok (.aload_n 0, 1) := by decide +kernel
theorem dc_67_60 : decode prog_5_method_7_code 60 = .ok (.getfield 26, 3) := by decide +kernel
theorem dc_67_63 : decode prog_5_method_7_code 63 = .ok (.aload_n 0, 1) := by decide +kernel
theorem dc_67_64 : decode prog_5_method_7_code 64 = .ok (.getfield 15, 3) := by decide +kernel
theorem dc_67_67 : decode prog_5_method_7_code 67 = .ok (.iload 4, 2) := by decide +kernel
theorem dc_67_69 : decode prog_5_method_7_code 69 = .ok (.iaload, 1) := by decide +kernel
theorem dc_67_70 : decode prog_5_method_7_code 70 = .ok (.iconst 0, 1) := by decide +kernel
theorem dc_67_71 : decode prog_5_method_7_code 71 = .ok (.iastore, 1) := by decide +kernel
theorem dc_67_72 : decode prog_5_method_7_code 72 = .ok (.aload_n 0, 1) := by decide +kernel
theorem dc_67_73 : decode prog_5_method_7_code 73 = .ok (.getfield 32, 3) := by decide +kernel
theorem dc_67_76 : decode prog_5_method_7_code 76 = .ok (.iconst 0, 1) := by decide +kernel
theorem dc_67_77 : decode prog_5_method_7_code 77 = .ok (.aload_n 0, 1) := by decide +kernel
theorem dc_67_78 : decode prog_5_method_7_code 78 = .ok (.getfield 15, 3) := by decide +kernel
theorem dc_67_81 : decode prog_5_method_7_code 81 = .ok (.iload 4, 2) := by decide +kernel
theorem dc_67_83 : decode prog_5_method_7_code 83 = .ok (.iaload, 1) := by decide +kernel
theorem dc_67_84 : decode prog_5_method_7_code 84 = .ok (.invokevirtual 97, 3) := by decide +kernel
theorem dc_67_87 : decode prog_5_method_7_code 87 = .ok (.iinc 4 1, 3) := by decide +kernel
theorem dc_67_90 : decode prog_5_method_7_code 90 = .ok (.goto (-40), 3) := by decide +kernel
theorem dc_67_93 : decode prog_5_method_7_code 93 = .ok (.iconst 0, 1) := by decide +kernel
theorem dc_67_94 : decode prog_5_method_7_code 94 = .ok (.istore 4, 2) := by decide +kernel
theorem dc_67_96 : decode prog_5_method_7_code 96 = .ok (.iload 4, 2) := by decide +kernel
theorem dc_67_98 : decode prog_5_method_7_code 98 = .ok (.sipush 240, 3) := by decide +kernel
theorem dc_67_101 : decode prog_5_method_7_code 101 = .ok (.if_icmp .ge 48, 3) := by decide +kernel
theorem dc_67_104 : decode prog_5_method_7_code 104 = .ok (.aload_n 0, 1) := by decide +kernel
theorem dc_67_105 : decode prog_5_method_7_code 105 = .ok (.getfield 32, 3) := by decide +kernel
theorem dc_67_108 : decode prog_5_method_7_code 108 = .ok (.aload_n 0, 1) := by decide +kernel
theorem dc_67_109 : decode prog_5_method_7_code 109 = .ok (.getfield 26, 3) := by decide +kernel
theorem dc_67_112 : decode prog_5_method_7_code 112 = .ok (.invokevirtual 101, 3) := by decide +kernel
theorem dc_67_115 : decode prog_5_method_7_code 115 = .ok (.istore 5, 2) := by decide +kernel
theorem dc_67_117 : decode prog_5_method_7_code 117 = .ok (.iload 5, 2) := by decide +kernel
theorem dc_67_119 : decode prog_5_method_7_code 119 = .ok (.iconst (-1), 1) := by decide +kernel
theorem dc_67_120 : decode prog_5_method_7_code 120 = .ok (.if_icmp .ne 6, 3) := by decide +kernel
theorem dc_67_123 : decode prog_5_method_7_code 123 = .ok (.goto 26, 3) := by decide +kernel
theorem dc_67_126 : decode prog_5_method_7_code 126 = .ok (.aload_n 0, 1) := by decide +kernel
theorem dc_67_127 : decode prog_5_method_7_code 127 = .ok (.iload 5, 2) := by decide +kernel
theorem dc_67_129 : decode prog_5_method_7_code 129 = .ok (.invokevirtual 105, 3) := by decide +kernel
theorem dc_67_132 : decode prog_5_method_7_code 132 = .ok (.ifCond .eq 11, 3) := by decide +kernel
theorem dc_67_135 : decode prog_5_method_7_code 135 = .ok (.aload_n 0, 1) := by decide +kernel
theorem dc_67_136 : decode prog_5_method_7_code 136 = .ok (.aload_n 1, 1) := by decide +kernel
theorem dc_67_137 : decode prog_5_method_7_code 137 = .ok (.iload 5, 2) := by decide +kernel
theorem dc_67_139 : decode prog_5_method_7_code 139 = .ok (.iload_n 3, 1) := by decide +kernel
theorem dc_67_140 : decode prog_5_method_7_code 140 = .ok (.invokevirtual 108, 3) := by decide +kernel
theorem dc_67_143 : decode prog_5_method_7_code 143 = .ok (.iinc 4 1, 3) := by decide +kernel
theorem dc_67_146 : decode prog_5_method_7_code 146 = .ok (.goto (-50), 3) := by decide +kernel
theorem dc_67_149 : decode prog_5_method_7_code 149 = .ok (.return_, 1) := by decide +kernel
theorem dc_68_0 : decode prog_5_method_8_code 0 = .ok (.aload_n 0, 1) := by decide +kernel
theorem dc_68_1 : decode prog_5_method_8_code 1 = .ok (.getfield 9, 3) := by decide +kernel
theorem dc_68_4 : decode prog_5_method_8_code 4 = .ok (.iload_n 1, 1) := by decide +kernel
theorem dc_68_5 : decode prog_5_method_8_code 5 = .ok (.baload, 1) := by decide +kernel
theorem dc_68_6 : decode prog_5_method_8_code 6 = .ok (.ifCond .ne 12, 3) := by decide +kernel
theorem dc_68_9 : decode prog_5_method_8_code 9 = .ok (.aload_n 0, 1) := by decide +kernel
theorem dc_68_10 : decode prog_5_method_8_code 10 = .ok (.getfield 23, 3) := by decide +kernel
theorem dc_68_13 : decode prog_5_method_8_code 13 = .ok (.iload_n 1, 1) := by decide +kernel
theorem dc_68_14 : decode prog_5_method_8_code 14 = .ok (.baload, 1) := by decide +kernel
theorem dc_68_15 : decode prog_5_method_8_code 15 = .ok (.ifCond .eq 7, 3) := by decide +kernel
theorem dc_68_18 : decode prog_5_method_8_code 18 = .ok (.iconst 1, 1) := by decide +kernel
theorem dc_68_19 : decode prog_5_method_8_code 19 = .ok (.goto 4, 3) := by decide +kernel
theorem dc_68_22 : decode prog_5_method_8_code 22 = .ok (.iconst 0, 1) := by decide +kernel
theorem dc_68_23 : decode prog_5_method_8_code 23 = .ok (.ireturn, 1) := by decide +kernel
theorem dc_69_0 : decode prog_5_method_9_code 0 = .ok (.iconst 0, 1) := by decide +kernel
theorem dc_69_1 : decode prog_5_method_9_code 1 = .ok (.istore 4, 2) := by decide +kernel
theorem dc_69_3 : decode prog_5_method_9_code 3 = .ok (.iload 4, 2) := by decide +kernel
theorem dc_69_5 : decode prog_5_method_9_code 5 = .ok (.bipush 9, 2) := by decide +kernel
theorem dc_69_7 : decode prog_5_method_9_code 7 = .ok (.if_icmp .ge 106, 3) := by decide +kernel
theorem dc_69_10 : decode prog_5_method_9_code 10 = .ok (.iload_n 2, 1) := by decide +kernel
theorem dc_69_11 : decode prog_5_method_9_code 11 = .ok (.iload 4, 2) := by decide +kernel
theorem dc_69_13 : decode prog_5_method_9_code 13 = .ok (.invokestatic 83, 3) := by decide +kernel
theorem dc_69_16 : decode prog_5_method_9_code 16 = .ok (.istore 5, 2) := by decide +kernel
theorem dc_69_18 : decode prog_5_method_9_code 18 = .ok (.iload 5, 2) := by decide +kernel
theorem dc_69_20 : decode prog_5_method_9_code 20 = .ok (.iconst (-1), 1) := by decide +kernel
theorem dc_69_21 : decode prog_5_method_9_code 21 = .ok (.if_icmp .eq 86, 3) := by decide +kernel
theorem dc_69_24 : decode prog_5_method_9_code 24 = .ok (.aload_n 0, 1) := by decide +kernel
theorem dc_69_25 : decode prog_5_method_9_code 25 = .ok (.getfield 23, 3) := by decide +kernel
theorem dc_69_28 : decode prog_5_method_9_code 28 = .ok (.iload 5, 2) := by decide +kernel
theorem dc_69_30 : decode prog_5_method_9_code 30 = .ok (.baload, 1) := by decide +kernel
theorem dc_69_31 : decode prog_5_method_9_code 31 = .ok (.ifCond .ne 16, 3) := by decide +kernel
theorem dc_69_34 : decode prog_5_method_9_code 34 = .ok (.aload_n 1, 1) := by decide +kernel
theorem dc_69_35 : decode prog_5_method_9_code 35 = .ok (.iload_n 3, 1) := by decide +kernel
theorem dc_69_36 : decode prog_5_method_9_code 36 = .ok (.iload 5, 2) := by decide +kernel
theorem dc_69_38 : decode prog_5_method_9_code 38 = .ok (.invokevirtual 111, 3) := by decide +kernel
theorem dc_69_41 : decode prog_5_method_9_code 41 = .ok (.ifCond .ne 6, 3) := by decide +kernel
theorem dc_69_44 : decode prog_5_method_9_code 44 = .ok (.goto 63, 3) := by decide +kernel
theorem dc_69_47 : decode prog_5_method_9_code 47 = .ok (.aload_n 0, 1) := by decide +kernel
theorem dc_69_48 : decode prog_5_method_9_code 48 = .ok (.getfield 26, 3) := by decide +kernel
theorem dc_69_51 : decode prog_5_method_9_code 51 = .ok (.iload_n 2, 1) := by decide +kernel
theorem dc_69_52 : decode prog_5_method_9_code 52 = .ok (.iaload, 1) := by decide +kernel
theorem dc_69_53 : decode prog_5_method_9_code 53 = .ok (.getstatic 114, 3) := by decide +kernel
theorem dc_69_56 : decode prog_5_method_9_code 56 = .ok (.iload 4, 2) := by decide +kernel
theorem dc_69_58 : decode prog_5_method_9_code 58 = .ok (.iaload, 1) := by decide +kernel
theorem dc_69_59 : decode prog_5_method_9_code 59 = .ok (.iadd, 1) := by decide +kernel
theorem dc_69_60 : decode prog_5_method_9_code 60 = .ok (.istore 6, 2) := by decide +kernel
theorem dc_69_62 : decode prog_5_method_9_code 62 = .ok (.iload 6, 2) := by decide +kernel
theorem dc_69_64 : decode prog_5_method_9_code 64 = .ok (.aload_n 0, 1) := by decide +kernel
theorem dc_69_65 : decode prog_5_method_9_code 65 = .ok (.getfield 26, 3) := by decide +kernel
theorem dc_69_68 : decode prog_5_method_9_code 68 = .ok (.iload 5, 2) := by decide +kernel
theorem dc_69_70 : decode prog_5_method_9_code 70 = .ok (.iaload, 1) := by decide +kernel
theorem dc_69_71 : decode prog_5_method_9_code 71 = .ok (.if_icmp .ge 36, 3) := by decide +kernel
theorem dc_69_74 : decode prog_5_method_9_code 74 = .ok (.aload_n 0, 1) := by decide +kernel
theorem dc_69_75 : decode prog_5_method_9_code 75 = .ok (.getfield 26, 3) := by decide +kernel
theorem dc_69_78 : decode prog_5_method_9_code 78 = .ok (.iload 5, 2) := by decide +kernel
theorem dc_69_80 : decode prog_5_method_9_code 80 = .ok (.iload 6, 2) := by decide +kernel
theorem dc_69_82 : decode prog_5_method_9_code 82 = .ok (.iastore, 1) := by decide +kernel
theorem dc_69_83 : decode prog_5_method_9_code 83 = .ok (.aload_n 0, 1) := by decide +kernel
theorem dc_69_84 : decode prog_5_method_9_code 84 = .ok (.getfield 32, 3) := by decide +kernel
theorem dc_69_87 : decode prog_5_method_9_code 87 = .ok (.iload 4, 2) := by decide +kernel
theorem dc_69_89 : decode prog_5_method_9_code 89 = .ok (.bipush 8, 2) := by decide +kernel
theorem dc_69_91 : decode prog_5_method_9_code 91 = .ok (.if_icmp .ne 7, 3) := by decide +kernel
theorem dc_69_94 : decode prog_5_method_9_code 94 = .ok (.iconst 2, 1) := by decide +kernel
theorem dc_69_95 : decode prog_5_method_9_code 95 = .ok (.goto 7, 3) := by decide +kernel
theorem dc_69_98 : decode prog_5_method_9_code 98 = .ok (.iload 4, 2) := by decide +kernel
theorem dc_69_100 : decode prog_5_method_9_code 100 = .ok (.iconst 1, 1) := by decide +kernel
theorem dc_69_101 : decode prog_5_method_9_code 101 = .ok (.iand, 1) := by decide +kernel
theorem dc_69_102 : decode prog_5_method_9_code 102 = .ok (.iload 5, 2) := by decide +kernel
theorem dc_69_104 : decode prog_5_method_9_code 104 = .ok (.invokevirtual 97, 3) := by decide +kernel
theorem dc_69_107 : decode prog_5_method_9_code 107 = .ok (.iinc 4 1, 3) := by decide +kernel
theorem dc_69_110 : decode prog_5_method_9_code 110 = .ok (.goto (-107), 3) := by decide +kernel
theorem dc_69_113 : decode prog_5_method_9_code 113 = .ok (.return_, 1) := by decide +kernel
theorem dc_70_0 : decode prog_5_method_10_code 0 = .ok (.aload_n 1, 1) := by decide +kernel
theorem dc_70_1 : decode prog_5_method_10_code 1 = .ok (.iload_n 2, 1) := by decide +kernel
theorem dc_70_2 : decode prog_5_method_10_code 2 = .ok (.invokevirtual 73, 3) := by decide +kernel
theorem dc_70_5 : decode prog_5_method_10_code 5 = .ok (.istore_n 3, 1) := by decide +kernel
theorem dc_70_6 : decode prog_5_method_10_code 6 = .ok (.iload_n 3, 1) := by decide +kernel
theorem dc_70_7 : decode prog_5_method_10_code 7 = .ok (.bipush 8, 2) := by decide +kernel
theorem dc_70_9 : decode prog_5_method_10_code 9 = .ok (.invokestatic 83, 3) := by decide +kernel
theorem dc_70_12 : decode prog_5_method_10_code 12 = .ok (.istore 4, 2) := by decide +kernel
theorem dc_70_14 : decode prog_5_method_10_code 14 = .ok (.aload_n 1, 1) := by decide +kernel
theorem dc_70_15 : decode prog_5_method_10_code 15 = .ok (.iload_n 2, 1) := by decide +kernel
theorem dc_70_16 : decode prog_5_method_10_code 16 = .ok (.iload 4, 2) := by decide +kernel
theorem dc_70_18 : decode prog_5_method_10_code 18 = .ok (.invokevirtual 111, 3) := by decide +kernel
theorem dc_70_21 : decode prog_5_method_10_code 21 = .ok (.ifCond .eq 24, 3) := by decide +kernel
theorem dc_70_24 : decode prog_5_method_10_code 24 = .ok (.aload_n 0, 1) := by decide +kernel
theorem dc_70_25 : decode prog_5_method_10_code 25 = .ok (.getfield 26, 3) := by decide +kernel
theorem dc_70_28 : decode prog_5_method_10_code 28 = .ok (.iload 4, 2) := by decide +kernel
theorem dc_70_30 : decode prog_5_method_10_code 30 = .ok (.iaload, 1) := by decide +kernel
theorem dc_70_31 : decode prog_5_method_10_code 31 = .ok (.aload_n 0, 1) := by decide +kernel
theorem dc_70_32 : decode prog_5_method_10_code 32 = .ok (.getfield 26, 3) := by decide +kernel
theorem dc_70_35 : decode prog_5_method_10_code 35 = .ok (.iload_n 3, 1) := by decide +kernel
theorem dc_70_36 : decode prog_5_method_10_code 36 = .ok (.iaload, 1) := by decide +kernel
theorem dc_70_37 : decode prog_5_method_10_code 37 = .ok (.if_icmp .ge 8, 3) := by decide +kernel
theorem dc_70_40 : decode prog_5_method_10_code 40 = .ok (.iload 4, 2) := by decide +kernel
theorem dc_70_42 : decode prog_5_method_10_code 42 = .ok (.goto 4, 3) := by decide +kernel
theorem dc_70_45 : decode prog_5_method_10_code 45 = .ok (.iload_n 3, 1) := by decide +kernel
theorem dc_70_46 : decode prog_5_method_10_code 46 = .ok (.ireturn, 1) := by decide +kernel
theorem dc_71_0 : decode prog_5_method_11_code 0 = .ok (.iload_n 2, 1) := by decide +kernel
theorem dc_71_1 : decode prog_5_method_11_code 1 = .ok (.istore 4, 2) := by decide +kernel
theorem dc_71_3 : decode prog_5_method_11_code 3 = .ok (.iconst 0, 1) := by decide +kernel
theorem dc_71_4 : decode prog_5_method_11_code 4 = .ok (.istore 5, 2) := by decide +kernel
theorem dc_71_6 : decode prog_5_method_11_code 6 = .ok (.iload 5, 2) := by decide +kernel
theorem dc_71_8 : decode prog_5_method_11_code 8 = .ok (.sipush 240, 3) := by decide +kernel
theorem dc_71_11 : decode prog_5_method_11_code 11 = .ok (.if_icmp .ge 45, 3) := by decide +kernel
theorem dc_71_14 : decode prog_5_method_11_code 14 = .ok (.aload_n 0, 1) := by decide +kernel
theorem dc_71_15 : decode prog_5_method_11_code 15 = .ok (.getfield 9, 3) := by decide +kernel
theorem dc_71_18 : decode prog_5_method_11_code 18 = .ok (.iload 4, 2) := by decide +kernel
theorem dc_71_20 : decode prog_5_method_11_code 20 = .ok (.baload, 1) := by decide +kernel
theorem dc_71_21 : decode prog_5_method_11_code 21 = .ok (.ifCond .ne 35, 3) := by decide +kernel
theorem dc_71_24 : decode prog_5_method_11_code 24 = .ok (.aload_n 0, 1) := by decide +kernel
theorem dc_71_25 : decode prog_5_method_11_code 25 = .ok (.iload 4, 2) := by decide +kernel
theorem dc_71_27 : decode prog_5_method_11_code 27 = .ok (.invokevirtual 117, 3) := by decide +kernel
theorem dc_71_30 : decode prog_5_method_11_code 30 = .ok (.istore 6, 2) := by decide +kernel
theorem dc_71_32 : decode prog_5_method_11_code 32 = .ok (.iload 6, 2) := by decide +kernel
theorem dc_71_34 : decode prog_5_method_11_code 34 = .ok (.iconst (-1), 1) := by decide +kernel
theorem dc_71_35 : decode prog_5_method_11_code 35 = .ok (.if_icmp .ne 4, 3) := by decide +kernel
theorem dc_71_38 : decode prog_5_method_11_code 38 = .ok (.return_, 1) := by decide +kernel
theorem dc_71_39 : decode prog_5_method_11_code 39 = .ok (.aload_n 1, 1) := by decide +kernel
theorem dc_71_40 : decode prog_5_method_11_code 40 = .ok (.iload 6, 2) := by decide +kernel
theorem dc_71_42 : decode prog_5_method_11_code 42 = .ok (.iload_n 3, 1) := by decide +kernel
theorem dc_71_43 : decode prog_5_method_11_code 43 = .ok (.invokevirtual 120, 3) := by decide +kernel
theorem dc_71_46 : decode prog_5_method_11_code 46 = .ok (.iload 6, 2) := by decide +kernel
theorem dc_71_48 : decode prog_5_method_11_code 48 = .ok (.istore 4, 2) := by decide +kernel
theorem dc_71_50 : decode prog_5_method_11_code 50 = .ok (.iinc 5 1, 3) := by decide +kernel
theorem dc_71_53 : decode prog_5_method_11_code 53 = .ok (.goto (-47), 3) := by decide +kernel
theorem dc_71_56 : decode prog_5_method_11_code 56 = .ok (.return_, 1) := by decide +kernel
theorem dc_72_0 : decode prog_5_method_12_code 0 = .ok (.iconst (-1), 1) := by decide +kernel
theorem dc_72_1 : decode prog_5_method_12_code 1 = .ok (.istore_n 2, 1) := by decide +kernel
theorem dc_72_2 : decode prog_5_method_12_code 2 = .ok (.iconst 0, 1) := by decide +kernel
theorem dc_72_3 : decode prog_5_method_12_code 3 = .ok (.istore_n 3, 1) := by decide +kernel
theorem dc_72_4 : decode prog_5_method_12_code 4 = .ok (.iload_n 3, 1) := by decide +kernel
theorem dc_72_5 : decode prog_5_method_12_code 5 = .ok (.bipush 9, 2) := by decide +kernel
theorem dc_72_7 : decode prog_5_method_12_code 7 = .ok (.if_icmp .ge 79, 3) := by decide +kernel
theorem dc_72_10 : decode prog_5_method_12_code 10 = .ok (.iload_n 1, 1) := by decide +kernel
theorem dc_72_11 : decode prog_5_method_12_code 11 = .ok (.iload_n 3, 1) := by decide +kernel
theorem dc_72_12 : decode prog_5_method_12_code 12 = .ok (.invokestatic 83, 3) := by decide +kernel
theorem dc_72_15 : decode prog_5_method_12_code 15 = .ok (.istore 4, 2) := by decide +kernel
theorem dc_72_17 : decode prog_5_method_12_code 17 = .ok (.iload 4, 2) := by decide +kernel
theorem dc_72_19 : decode prog_5_method_12_code 19 = .ok (.iconst (-1), 1) := by decide +kernel
theorem dc_72_20 : decode prog_5_method_12_code 20 = .ok (.if_icmp .eq 38, 3) := by decide +kernel
theorem dc_72_23 : decode prog_5_method_12_code 23 = .ok (.aload_n 0, 1) := by decide +kernel
theorem dc_72_24 : decode prog_5_method_12_code 24 = .ok (.iload 4, 2) := by decide +kernel
theorem dc_72_26 : decode prog_5_method_12_code 26 = .ok (.invokevirtual 105, 3) := by decide +kernel
theorem dc_72_29 : decode prog_5_method_12_code 29 = .ok (.ifCond .eq 29, 3) := by decide +kernel
theorem dc_72_32 : decode prog_5_method_12_code 32 = .ok (.aload_n 0, 1) := by decide +kernel
theorem dc_72_33 : decode prog_5_method_12_code 33 = .ok (.getfield 26, 3) := by decide +kernel
theorem dc_72_36 : decode prog_5_method_12_code 36 = .ok (.iload 4, 2) := by decide +kernel
theorem dc_72_38 : decode prog_5_method_12_code 38 = .ok (.iaload, 1) := by decide +kernel
theorem dc_72_39 : decode prog_5_method_12_code 39 = .ok (.getstatic 114, 3) := by decide +kernel
theorem dc_72_42 : decode prog_5_method_12_code 42 = .ok (.iload_n 3, 1) := by decide +kernel
theorem dc_72_43 : decode prog_5_method_12_code 43 = .ok (.iaload, 1) := by decide +kernel
theorem dc_72_44 : decode prog_5_method_12_code 44 = .ok (.iadd, 1) := by decide +kernel
theorem dc_72_45 : decode prog_5_method_12_code 45 = .ok (.aload_n 0, 1) := by decide +kernel
theorem dc_72_46 : decode prog_5_method_12_code 46 = .ok (.getfield 26, 3) := by decide +kernel
theorem dc_72_49 : decode prog_5_method_12_code 49 = .ok (.iload_n 1, 1) := by decide +kernel
theorem dc_72_50 : decode prog_5_method_12_code 50 = .ok (.iaload, 1) := by decide +kernel
theorem dc_72_51 : decode prog_5_method_12_code 51 = .ok (.if_icmp .ne 7, 3) := by decide +kernel
theorem dc_72_54 : decode prog_5_method_12_code 54 = .ok (.iconst 1, 1) := by decide +kernel
theorem dc_72_55 : decode prog_5_method_12_code 55 = .ok (.goto 4, 3) := by decide +kernel
theorem dc_72_58 : decode prog_5_method_12_code 58 = .ok (.iconst 0, 1) := by decide +kernel
theorem dc_72_59 : decode prog_5_method_12_code 59 = .ok (.istore 5, 2) := by decide +kernel
theorem dc_72_61 : decode prog_5_method_12_code 61 = .ok (.iload 5, 2) := by decide +kernel
theorem dc_72_63 : decode prog_5_method_12_code 63 = .ok (.ifCond .eq 17, 3) := by decide +kernel
theorem dc_72_66 : decode prog_5_method_12_code 66 = .ok (.iload_n 2, 1) := by decide +kernel
theorem dc_72_67 : decode prog_5_method_12_code 67 = .ok (.iconst (-1), 1) := by decide +kernel
theorem dc_72_68 : decode prog_5_method_12_code 68 = .ok (.if_icmp .eq 9, 3) := by decide +kernel
theorem dc_72_71 : decode prog_5_method_12_code 71 = .ok (.iload 4, 2) := by decide +kernel
theorem dc_72_73 : decode prog_5_method_12_code 73 = .ok (.iload_n 2, 1) := by decide +kernel
theorem dc_72_74 : decode prog_5_method_12_code 74 = .ok (.if_icmp .ge 6, 3) := by decide +kernel
theorem dc_72_77 : decode prog_5_method_12_code 77 = .ok (.iload 4, 2) := by decide +kernel
theorem dc_72_79 : decode prog_5_method_12_code 79 = .ok (.istore_n 2, 1) := by decide +kernel
theorem dc_72_80 : decode prog_5_method_12_code 80 = .ok (.iinc 3 1, 3) := by decide +kernel
theorem dc_72_83 : decode prog_5_method_12_code 83 = .ok (.goto (-79), 3) := by decide +kernel
theorem dc_72_86 : decode prog_5_method_12_code 86 = .ok (.iload_n 2, 1) := by decide +kernel
theorem dc_72_87 : decode prog_5_method_12_code 87 = .ok (.ireturn, 1) := by decide +kernel
theorem dc_73_0 : decode prog_4_method_2_code 0 = .ok (.aload_n 0, 1) := by decide +kernel
theorem dc_73_1 : decode prog_4_method_2_code 1 = .ok (.getfield 16, 3) := by decide +kernel
theorem dc_73_4 : decode prog_4_method_2_code 4 = .ok (.iconst 0, 1) := by decide +kernel
theorem dc_73_5 : decode prog_4_method_2_code 5 = .ok (.invokestatic 27, 3) := by decide +kernel
theorem dc_73_8 : decode prog_4_method_2_code 8 = .ok (.aload_n 0, 1) := by decide +kernel
theorem dc_73_9 : decode prog_4_method_2_code 9 = .ok (.getfield 20, 3) := by decide +kernel
theorem dc_73_12 : decode prog_4_method_2_code 12 = .ok (.iconst 0, 1) := by decide +kernel
theorem dc_73_13 : decode prog_4_method_2_code 13 = .ok (.invokestatic 27, 3) := by decide +kernel
theorem dc_73_16 : decode prog_4_method_2_code 16 = .ok (.iconst 0, 1) := by decide +kernel
theorem dc_73_17 : decode prog_4_method_2_code 17 = .ok (.istore_n 1, 1) := by decide +kernel
theorem dc_73_18 : decode prog_4_method_2_code 18 = .ok (.iload_n 1, 1) := by decide +kernel
theorem dc_73_19 : decode prog_4_method_2_code 19 = .ok (.sipush 240, 3) := by decide +kernel
theorem dc_73_22 : decode prog_4_method_2_code 22 = .ok (.if_icmp .ge 16, 3) := by decide +kernel
theorem dc_73_25 : decode prog_4_method_2_code 25 = .ok (.aload_n 0, 1) := by decide +kernel
theorem dc_73_26 : decode prog_4_method_2_code 26 = .ok (.getfield 23, 3) := by decide +kernel
theorem dc_73_29 : decode prog_4_method_2_code 29 = .ok (.iload_n 1, 1) := by decide +kernel
theorem dc_73_30 : decode prog_4_method_2_code 30 = .ok (.iconst 0, 1) := by decide +kernel
theorem dc_73_31 : decode prog_4_method_2_code 31 = .ok (.bastore, 1) := by decide +kernel
theorem dc_73_32 : decode prog_4_method_2_code 32 = .ok (.iinc 1 1, 3) := by decide +kernel
theorem dc_73_35 : decode prog_4_method_2_code 35 = .ok (.goto (-17), 3) := by decide +kernel
theorem dc_73_38 : decode prog_4_method_2_code 38 = .ok (.return_, 1) := by decide +kernel
theorem dc_74_0 : decode prog_4_method_3_code 0 = .ok (.aload_n 0, 1) := by decide +kernel
theorem dc_74_1 : decode prog_4_method_3_code 1 = .ok (.getfield 20, 3) := by decide +kernel
theorem dc_74_4 : decode prog_4_method_3_code 4 = .ok (.iload_n 1, 1) := by decide +kernel
theorem dc_74_5 : decode prog_4_method_3_code 5 = .ok (.iaload, 1) := by decide +kernel
theorem dc_74_6 : decode prog_4_method_3_code 6 = .ok (.sipush 240, 3) := by decide +kernel
theorem dc_74_9 : decode prog_4_method_3_code 9 = .ok (.if_icmp .ge 27, 3) := by decide +kernel
theorem dc_74_12 : decode prog_4_method_3_code 12 = .ok (.aload_n 0, 1) := by decide +kernel
theorem dc_74_13 : decode prog_4_method_3_code 13 = .ok (.getfield 13, 3) := by decide +kernel
theorem dc_74_16 : decode prog_4_method_3_code 16 = .ok (.iload_n 1, 1) := by decide +kernel
theorem dc_74_17 : decode prog_4_method_3_code 17 = .ok (.aaload, 1) := by decide +kernel
theorem dc_74_18 : decode prog_4_method_3_code 18 = .ok (.aload_n 0, 1) := by decide +kernel
theorem dc_74_19 : decode prog_4_method_3_code 19 = .ok (.getfield 20, 3) := by decide +kernel
theorem dc_74_22 : decode prog_4_method_3_code 22 = .ok (.iload_n 1, 1) := by decide +kernel
theorem dc_74_23 : decode prog_4_method_3_code 23 = .ok (.iaload, 1) := by decide +kernel
theorem dc_74_24 : decode prog_4_method_3_code 24 = .ok (.iload_n 2, 1) := by decide +kernel
theorem dc_74_25 : decode prog_4_method_3_code 25 = .ok (.iastore, 1) := by decide +kernel
theorem dc_74_26 : decode prog_4_method_3_code 26 = .ok (.aload_n 0, 1) := by decide +kernel
theorem dc_74_27 : decode prog_4_method_3_code 27 = .ok (.getfield 20, 3) := by decide +kernel
theorem dc_74_30 : decode prog_4_method_3_code 30 = .ok (.iload_n 1, 1) := by decide +kernel
theorem dc_74_31 : decode prog_4_method_3_code 31 = .ok (.dup2, 1) := by decide +kernel
theorem dc_74_32 : decode prog_4_method_3_code 32 = .ok (.iaload, 1) := by decide +kernel
theorem dc_74_33 : decode prog_4_method_3_code 33 = .ok (.iconst 1, 1) := by decide +kernel
theorem dc_74_34 : decode prog_4_method_3_code 34 = .ok (.iadd, 1) := by decide +kernel
theorem dc_74_35 : decode prog_4_method_3_code 35 = .ok (.iastore, 1) := by decide +kernel
theorem dc_74_36 : decode prog_4_method_3_code 36 = .ok (.return_, 1) := by decide +kernel
theorem dc_75_0 : decode prog_4_method_4_code 0 = .ok (.iconst (-1), 1) := by decide +kernel
theorem dc_75_1 : decode prog_4_method_4_code 1 = .ok (.istore_n 2, 1) := by decide +kernel
theorem dc_75_2 : decode prog_4_method_4_code 2 = .ok (.iconst 0, 1) := by decide +kernel
theorem dc_75_3 : decode prog_4_method_4_code 3 = .ok (.istore_n 3, 1) := by decide +kernel
theorem dc_75_4 : decode prog_4_method_4_code 4 = .ok (.iload_n 3, 1) := by decide +kernel
theorem dc_75_5 : decode prog_4_method_4_code 5 = .ok (.iconst 3, 1) := by decide +kernel
theorem dc_75_6 : decode prog_4_method_4_code 6 = .ok (.if_icmp .ge 40, 3) := by decide +kernel
theorem dc_75_9 : decode prog_4_method_4_code 9 = .ok (.aload_n 0, 1) := by decide +kernel
theorem dc_75_10 : decode prog_4_method_4_code 10 = .ok (.iload_n 3, 1) := by decide +kernel
theorem dc_75_11 : decode prog_4_method_4_code 11 = .ok (.invokevirtual 33, 3) := by decide +kernel
theorem dc_75_14 : decode prog_4_method_4_code 14 = .ok (.istore 4, 2) := by decide +kernel
theorem dc_75_16 : decode prog_4_method_4_code 16 = .ok (.iload 4, 2) := by decide +kernel
theorem dc_75_18 : decode prog_4_method_4_code 18 = .ok (.iconst (-1), 1) := by decide +kernel
theorem dc_75_19 : decode prog_4_method_4_code 19 = .ok (.if_icmp .eq 21, 3) := by decide +kernel
theorem dc_75_22 : decode prog_4_method_4_code 22 = .ok (.iload_n 2, 1) := by decide +kernel
theorem dc_75_23 : decode prog_4_method_4_code 23 = .ok (.iconst (-1), 1) := by decide +kernel
theorem dc_75_24 : decode prog_4_method_4_code 24 = .ok (.if_icmp .eq 13, 3) := by decide +kernel
theorem dc_75_27 : decode prog_4_method_4_code 27 = .ok (.aload_n 1, 1) := by decide +kernel
theorem dc_75_28 : decode prog_4_method_4_code 28 = .ok (.iload 4, 2) := by decide +kernel
theorem dc_75_30 : decode prog_4_method_4_code 30 = .ok (.iaload, 1) := by decide +kernel
theorem dc_75_31 : decode prog_4_method_4_code 31 = .ok (.aload_n 1, 1) := by decide +kernel
theorem dc_75_32 : decode prog_4_method_4_code 32 = .ok (.iload_n 2, 1) := by decide +kernel
theorem dc_75_33 : decode prog_4_method_4_code 33 = .ok (.iaload, 1) := by decide +kernel
theorem dc_75_34 : decode prog_4_method_4_code 34 = .ok (.if_icmp .ge 6, 3) := by decide +kernel
theorem dc_75_37 : decode prog_4_method_4_code 37 = .ok (.iload 4, 2) := by decide +kernel
theorem dc_75_39 : decode prog_4_method_4_code 39 = .ok (.istore_n 2, 1) := by decide +kernel
theorem dc_75_40 : decode prog_4_method_4_code 40 = .ok (.iinc 3 1, 3) := by decide +kernel
theorem dc_75_43 : decode prog_4_method_4_code 43 = .ok (.goto (-39), 3) := by decide +kernel
theorem dc_75_46 : decode prog_4_method_4_code 46 = .ok (.iload_n 2, 1) := by decide +kernel
theorem dc_75_47 : decode prog_4_method_4_code 47 = .ok (.iconst (-1), 1) := by decide +kernel
theorem dc_75_48 : decode prog_4_method_4_code 48 = .ok (.if_icmp .eq 10, 3) := by decide +kernel
theorem dc_75_51 : decode prog_4_method_4_code 51 = .ok (.aload_n 0, 1) := by decide +kernel
theorem dc_75_52 : decode prog_4_method_4_code 52 = .ok (.getfield 23, 3) := by decide +kernel
theorem dc_75_55 : decode prog_4_method_4_code 55 = .ok (.iload_n 2, 1) := by decide +kernel
theorem dc_75_56 : decode prog_4_method_4_code 56 = .ok (.iconst 1, 1) := by decide +kernel
theorem dc_75_57 : decode prog_4_method_4_code 57 = .ok (.bastore, 1) := by decide +kernel
theorem dc_75_58 : decode prog_4_method_4_code 58 = .ok (.iload_n 2, 1) := by decide +kernel
theorem dc_75_59 : decode prog_4_method_4_code 59 = .ok (.ireturn, 1) := by decide +kernel
theorem dc_76_0 : decode prog_4_method_5_code 0 = .ok (.aload_n 0, 1) := by decide +kernel
theorem dc_76_1 : decode prog_4_method_5_code 1 = .ok (.getfield 16, 3) := by decide +kernel
theorem dc_76_4 : decode prog_4_method_5_code 4 = .ok (.iload_n 1, 1) := by decide +kernel
theorem dc_76_5 : decode prog_4_method_5_code 5 = .ok (.iaload, 1) := by decide +kernel
theorem dc_76_6 : decode prog_4_method_5_code 6 = .ok (.aload_n 0, 1) := by decide +kernel
theorem dc_76_7 : decode prog_4_method_5_code 7 = .ok (.getfield 20, 3) := by decide +kernel
theorem dc_76_10 : decode prog_4_method_5_code 10 = .ok (.iload_n 1, 1) := by decide +kernel
theorem dc_76_11 : decode prog_4_method_5_code 11 = .ok (.iaload, 1) := by decide +kernel
theorem dc_76_12 : decode prog_4_method_5_code 12 = .ok (.if_icmp .ge 37, 3) := by decide +kernel
theorem dc_76_15 : decode prog_4_method_5_code 15 = .ok (.aload_n 0, 1) := by decide +kernel
theorem dc_76_16 : decode prog_4_method_5_code 16 = .ok (.getfield 23, 3) := by decide +kernel
theorem dc_76_19 : decode prog_4_method_5_code 19 = .ok (.aload_n 0, 1) := by decide +kernel
theorem dc_76_20 : decode prog_4_method_5_code 20 = .ok (.getfield 13, 3) := by decide +kernel
theorem dc_76_23 : decode prog_4_method_5_code 23 = .ok (.iload_n 1, 1) := by decide +kernel
theorem dc_76_24 : decode prog_4_method_5_code 24 = .ok (.aaload, 1) := by decide +kernel
theorem dc_76_25 : decode prog_4_method_5_code 25 = .ok (.aload_n 0, 1) := by decide +kernel
theorem dc_76_26 : decode prog_4_method_5_code 26 = .ok (.getfield 16, 3) := by decide +kernel
theorem dc_76_29 : decode prog_4_method_5_code 29 = .ok (.iload_n 1, 1) := by decide +kernel
theorem dc_76_30 : decode prog_4_method_5_code 30 = .ok (.iaload, 1) := by decide +kernel
theorem dc_76_31 : decode prog_4_method_5_code 31 = .ok (.iaload, 1) := by decide +kernel
theorem dc_76_32 : decode prog_4_method_5_code 32 = .ok (.baload, 1) := by decide +kernel
theorem dc_76_33 : decode prog_4_method_5_code 33 = .ok (.ifCond .eq 16, 3) := by decide +kernel
theorem dc_76_36 : decode prog_4_method_5_code 36 = .ok (.aload_n 0, 1) := by decide +kernel
theorem dc_76_37 : decode prog_4_method_5_code 37 = .ok (.getfield 16, 3) := by decide +kernel
theorem dc_76_40 : decode prog_4_method_5_code 40 = .ok (.iload_n 1, 1) := by decide +kernel
theorem dc_76_41 : decode prog_4_method_5_code 41 = .ok (.dup2, 1) := by decide +kernel
theorem dc_76_42 : decode prog_4_method_5_code 42 = .ok (.iaload, 1) := by decide +kernel
theorem dc_76_43 : decode prog_4_method_5_code 43 = .ok (.iconst 1, 1) := by decide +kernel
theorem dc_76_44 : decode prog_4_method_5_code 44 = .ok (.iadd, 1) := by decide +kernel
theorem dc_76_45 : decode prog_4_method_5_code 45 = .ok (.iastore, 1) := by decide +kernel
theorem dc_76_46 : decode prog_4_method_5_code 46 = .ok (.goto (-46), 3) := by decide +kernel
theorem dc_76_49 : decode prog_4_method_5_code 49 = .ok (.aload_n 0, 1) := by decide +kernel
theorem dc_76_50 : decode prog_4_method_5_code 50 = .ok (.getfield 16, 3) := by decide +kernel
theorem dc_76_53 : decode prog_4_method_5_code 53 = .ok (.iload_n 1, 1) := by decide +kernel
theorem dc_76_54 : decode prog_4_method_5_code 54 = .ok (.iaload, 1) := by decide +kernel
theorem dc_76_55 : decode prog_4_method_5_code 55 = .ok (.aload_n 0, 1) := by decide +kernel
theorem dc_76_56 : decode prog_4_method_5_code 56 = .ok (.getfield 20, 3) := by decide +kernel
theorem dc_76_59 : decode prog_4_method_5_code 59 = .ok (.iload_n 1, 1) := by decide +kernel
theorem dc_76_60 : decode prog_4_method_5_code 60 = .ok (.iaload, 1) := by decide +kernel
theorem dc_76_61 : decode prog_4_method_5_code 61 = .ok (.if_icmp .ge 19, 3) := by decide +kernel
theorem dc_76_64 : decode prog_4_method_5_code 64 = .ok (.aload_n 0, 1) := by decide +kernel
theorem dc_76_65 : decode prog_4_method_5_code 65 = .ok (.getfield 13, 3) := by decide +kernel
theorem dc_76_68 : decode prog_4_method_5_code 68 = .ok (.iload_n 1, 1) := by decide +kernel
theorem dc_76_69 : decode prog_4_method_5_code 69 = .ok (.aaload, 1) := by decide +kernel
theorem dc_76_70 : decode prog_4_method_5_code 70 = .ok (.aload_n 0, 1) := by decide +kernel
theorem dc_76_71 : decode prog_4_method_5_code 71 = .ok (.getfield 16, 3) := by decide +kernel
theorem dc_76_74 : decode prog_4_method_5_code 74 = .ok (.iload_n 1, 1) := by decide +kernel
theorem dc_76_75 : decode prog_4_method_5_code 75 = .ok (.iaload, 1) := by decide +kernel
theorem dc_76_76 : decode prog_4_method_5_code 76 = .ok (.iaload, 1) := by decide +kernel
theorem dc_76_77 : decode prog_4_method_5_code 77 = .ok (.goto 4, 3) := by decide +kernel
theorem dc_76_80 : decode prog_4_method_5_code 80 = .ok (.iconst (-1), 1) := by decide +kernel
theorem dc_76_81 : decode prog_4_method_5_code 81 = .ok (.ireturn, 1) := by decide +kernel
theorem dc_77_0 : decode prog_7_method_2_code 0 = .ok (.aload_n 0, 1) := by decide +kernel
theorem dc_77_1 : decode prog_7_method_2_code 1 = .ok (.getfield 15, 3) := by decide +kernel
theorem dc_77_4 : decode prog_7_method_2_code 4 = .ok (.sipush 400, 3) := by decide +kernel
theorem dc_77_7 : decode prog_7_method_2_code 7 = .ok (.if_icmp .lt 5, 3) := by decide +kernel
theorem dc_77_10 : decode prog_7_method_2_code 10 = .ok (.iconst 0, 1) := by decide +kernel
theorem dc_77_11 : decode prog_7_method_2_code 11 = .ok (.ireturn, 1) := by decide +kernel
theorem dc_77_12 : decode prog_7_method_2_code 12 = .ok (.aload_n 0, 1) := by decide +kernel
theorem dc_77_13 : decode prog_7_method_2_code 13 = .ok (.getfield 9, 3) := by decide +kernel
theorem dc_77_16 : decode prog_7_method_2_code 16 = .ok (.aload_n 0, 1) := by decide +kernel
theorem dc_77_17 : decode prog_7_method_2_code 17 = .ok (.getfield 15, 3) := by decide +kernel
theorem dc_77_20 : decode prog_7_method_2_code 20 = .ok (.iload_n 1, 1) := by decide +kernel
theorem dc_77_21 : decode prog_7_method_2_code 21 = .ok (.iastore, 1) := by decide +kernel
theorem dc_77_22 : decode prog_7_method_2_code 22 = .ok (.aload_n 0, 1) := by decide +kernel
theorem dc_77_23 : decode prog_7_method_2_code 23 = .ok (.dup, 1) := by decide +kernel
theorem dc_77_24 : decode prog_7_method_2_code 24 = .ok (.getfield 15, 3) := by decide +kernel
theorem dc_77_27 : decode prog_7_method_2_code 27 = .ok (.iconst 1, 1) := by decide +kernel
theorem dc_77_28 : decode prog_7_method_2_code 28 = .ok (.iadd, 1) := by decide +kernel
theorem dc_77_29 : decode prog_7_method_2_code 29 = .ok (.putfield 15, 3) := by decide +kernel
theorem dc_77_32 : decode prog_7_method_2_code 32 = .ok (.iconst 1, 1) := by decide +kernel
theorem dc_77_33 : decode prog_7_method_2_code 33 = .ok (.ireturn, 1) := by decide +kernel
theorem dc_78_0 : decode prog_7_method_3_code 0 = .ok (.aload_n 0, 1) := by decide +kernel
theorem dc_78_1 : decode prog_7_method_3_code 1 = .ok (.getfield 19, 3) := by decide +kernel
theorem dc_78_4 : decode prog_7_method_3_code 4 = .ok (.iconst (-1), 1) := by decide +kernel
theorem dc_78_5 : decode prog_7_method_3_code 5 = .ok (.invokestatic 22, 3) := by decide +kernel
theorem dc_78_8 : decode prog_7_method_3_code 8 = .ok (.aload_n 0, 1) := by decide +kernel
theorem dc_78_9 : decode prog_7_method_3_code 9 = .ok (.getfield 15, 3) := by decide +kernel
theorem dc_78_12 : decode prog_7_method_3_code 12 = .ok (.aload_n 0, 1) := by decide +kernel
theorem dc_78_13 : decode prog_7_method_3_code 13 = .ok (.getfield 15, 3) := by decide +kernel
theorem dc_78_16 : decode prog_7_method_3_code 16 = .ok (.iconst 4, 1) := by decide +kernel
theorem dc_78_17 : decode prog_7_method_3_code 17 = .ok (.irem, 1) := by decide +kernel
theorem dc_78_18 : decode prog_7_method_3_code 18 = .ok (.isub, 1) := by decide +kernel
theorem dc_78_19 : decode prog_7_method_3_code 19 = .ok (.istore_n 1, 1) := by decide +kernel
theorem dc_78_20 : decode prog_7_method_3_code 20 = .ok (.iconst 0, 1) := by decide +kernel
theorem dc_78_21 : decode prog_7_method_3_code 21 = .ok (.istore_n 2, 1) := by decide +kernel
theorem dc_78_22 : decode prog_7_method_3_code 22 = .ok (.iload_n 2, 1) := by decide +kernel
theorem dc_78_23 : decode prog_7_method_3_code 23 = .ok (.iload_n 1, 1) := by decide +kernel
theorem dc_78_24 : decode prog_7_method_3_code 24 = .ok (.if_icmp .ge 57, 3) := by decide +kernel
theorem dc_78_27 : decode prog_7_method_3_code 27 = .ok (.aload_n 0, 1) := by decide +kernel
theorem dc_78_28 : decode prog_7_method_3_code 28 = .ok (.getfield 9, 3) := by decide +kernel
theorem dc_78_31 : decode prog_7_method_3_code 31 = .ok (.iload_n 2, 1) := by decide +kernel
theorem dc_78_32 : decode prog_7_method_3_code 32 = .ok (.iaload, 1) := by decide +kernel
theorem dc_78_33 : decode prog_7_method_3_code 33 = .ok (.sipush 255, 3) := by decide +kernel
theorem dc_78_36 : decode prog_7_method_3_code 36 = .ok (.if_icmp .eq 45, 3) := by decide +kernel
theorem dc_78_39 : decode prog_7_method_3_code 39 = .ok (.aload_n 0, 1) := by decide +kernel
theorem dc_78_40 : decode prog_7_method_3_code 40 = .ok (.aload_n 0, 1) := by decide +kernel
theorem dc_78_41 : decode prog_7_method_3_code 41 = .ok (.getfield 9, 3) := by decide +kernel
theorem dc_78_44 : decode prog_7_method_3_code 44 = .ok (.iload_n 2, 1) := by decide +kernel
theorem dc_78_45 : decode prog_7_method_3_code 45 = .ok (.iaload, 1) := by decide +kernel
theorem dc_78_46 : decode prog_7_method_3_code 46 = .ok (.aload_n 0, 1) := by decide +kernel
theorem dc_78_47 : decode prog_7_method_3_code 47 = .ok (.getfield 9, 3) := by decide +kernel
theorem dc_78_50 : decode prog_7_method_3_code 50 = .ok (.iload_n 2, 1) := by decide +kernel
theorem dc_78_51 : decode prog_7_method_3_code 51 = .ok (.iconst 1, 1) := by decide +kernel
theorem dc_78_52 : decode prog_7_method_3_code 52 = .ok (.iadd, 1) := by decide +kernel
theorem dc_78_53 : decode prog_7_method_3_code 53 = .ok (.iaload, 1) := by decide +kernel
theorem dc_78_54 : decode prog_7_method_3_code 54 = .ok (.aload_n 0, 1) := by decide +kernel
theorem dc_78_55 : decode prog_7_method_3_code 55 = .ok (.getfield 9, 3) := by decide +kernel
theorem dc_78_58 : decode prog_7_method_3_code 58 = .ok (.iload_n 2, 1) := by decide +kernel
theorem dc_78_59 : decode prog_7_method_3_code 59 = .ok (.iconst 2, 1) := by decide +kernel
theorem dc_78_60 : decode prog_7_method_3_code 60 = .ok (.iadd, 1) := by decide +kernel
theorem dc_78_61 : decode prog_7_method_3_code 61 = .ok (.iaload, 1) := by decide +kernel
theorem dc_78_62 : decode prog_7_method_3_code 62 = .ok (.aload_n 0, 1) := by decide +kernel
theorem dc_78_63 : decode prog_7_method_3_code 63 = .ok (.getfield 9, 3) := by decide +kernel
theorem dc_78_66 : decode prog_7_method_3_code 66 = .ok (.iload_n 2, 1) := by decide +kernel
theorem dc_78_67 : decode prog_7_method_3_code 67 = .ok (.iconst 3, 1) := by decide +kernel
theorem dc_78_68 : decode prog_7_method_3_code 68 = .ok (.iadd, 1) := by decide +kernel
theorem dc_78_69 : decode prog_7_method_3_code 69 = .ok (.iaload, 1) := by decide +kernel
theorem dc_78_70 : decode prog_7_method_3_code 70 = .ok (.iconst 1, 1) := by decide +kernel
theorem dc_78_71 : decode prog_7_method_3_code 71 = .ok (.isub, 1) := by decide +kernel
theorem dc_78_72 : decode prog_7_method_3_code 72 = .ok (.invokevirtual 28, 3) := by decide +kernel
theorem dc_78_75 : decode prog_7_method_3_code 75 = .ok (.iinc 2 4, 3) := by decide +kernel
theorem dc_78_78 : decode prog_7_method_3_code 78 = .ok (.goto (-56), 3) := by decide +kernel
theorem dc_78_81 : decode prog_7_method_3_code 81 = .ok (.return_, 1) := by decide +kernel
theorem dc_79_0 : decode prog_7_method_4_code 0 = .ok (.iload_n 2, 1) := by decide +kernel
theorem dc_79_1 : decode prog_7_method_4_code 1 = .ok (.iload_n 3, 1) := by decide +kernel
theorem dc_79_2 : decode prog_7_method_4_code 2 = .ok (.iadd, 1) := by decide +kernel
theorem dc_79_3 : decode prog_7_method_4_code 3 = .ok (.bipush 12, 2) := by decide +kernel
theorem dc_79_5 : decode prog_7_method_4_code 5 = .ok (.invokestatic 32, 3) := by decide +kernel
theorem dc_79_8 : decode prog_7_method_4_code 8 = .ok (.istore 5, 2) := by decide +kernel
theorem dc_79_10 : decode prog_7_method_4_code 10 = .ok (.iload_n 2, 1) := by decide +kernel
theorem dc_79_11 : decode prog_7_method_4_code 11 = .ok (.istore 6, 2) := by decide +kernel
theorem dc_79_13 : decode prog_7_method_4_code 13 = .ok (.iload_n 1, 1) := by decide +kernel
theorem dc_79_14 : decode prog_7_method_4_code 14 = .ok (.bipush 10, 2) := by decide +kernel
theorem dc_79_16 : decode prog_7_method_4_code 16 = .ok (.if_icmp .ge 30, 3) := by decide +kernel
theorem dc_79_19 : decode prog_7_method_4_code 19 = .ok (.iload 6, 2) := by decide +kernel
theorem dc_79_21 : decode prog_7_method_4_code 21 = .ok (.iload 5, 2) := by decide +kernel
theorem dc_79_23 : decode prog_7_method_4_code 23 = .ok (.if_icmp .ge 23, 3) := by decide +kernel
theorem dc_79_26 : decode prog_7_method_4_code 26 = .ok (.aload_n 0, 1) := by decide +kernel
theorem dc_79_27 : decode prog_7_method_4_code 27 = .ok (.getfield 19, 3) := by decide +kernel
theorem dc_79_30 : decode prog_7_method_4_code 30 = .ok (.iload_n 1, 1) := by decide +kernel
theorem dc_79_31 : decode prog_7_method_4_code 31 = .ok (.bipush 12, 2) := by decide +kernel
theorem dc_79_33 : decode prog_7_method_4_code 33 = .ok (.imul, 1) := by decide +kernel
theorem dc_79_34 : decode prog_7_method_4_code 34 = .ok (.iload 6, 2) := by decide +kernel
theorem dc_79_36 : decode prog_7_method_4_code 36 = .ok (.iadd, 1) := by decide +kernel
theorem dc_79_37 : decode prog_7_method_4_code 37 = .ok (.iload 4, 2) := by decide +kernel
theorem dc_79_39 : decode prog_7_method_4_code 39 = .ok (.iastore, 1) := by decide +kernel
theorem dc_79_40 : decode prog_7_method_4_code 40 = .ok (.iinc 6 1, 3) := by decide +kernel
theorem dc_79_43 : decode prog_7_method_4_code 43 = .ok (.goto (-30), 3) := by decide +kernel
theorem dc_79_46 : decode prog_7_method_4_code 46 = .ok (.return_, 1) := by decide +kernel
