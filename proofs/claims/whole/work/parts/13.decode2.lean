/-! ===== instructions ===== -/
theorem d_C_better_61 : decode prog_1_method_23_code 61 = .ok (.iconst 0, 1) := by decide +kernel
theorem d_C_better_62 : decode prog_1_method_23_code 62 = .ok (.ireturn, 1) := by decide +kernel
theorem d_C_better_63 : decode prog_1_method_23_code 63 = .ok (.iload_n 2, 1) := by decide +kernel
theorem d_C_better_64 : decode prog_1_method_23_code 64 = .ok (.iload_n 1, 1) := by decide +kernel
theorem d_C_better_65 : decode prog_1_method_23_code 65 = .ok (.if_icmp .ge 7, 3) := by decide +kernel
theorem d_C_better_68 : decode prog_1_method_23_code 68 = .ok (.iconst 1, 1) := by decide +kernel
theorem d_C_better_69 : decode prog_1_method_23_code 69 = .ok (.goto 4, 3) := by decide +kernel
theorem d_C_better_72 : decode prog_1_method_23_code 72 = .ok (.iconst 0, 1) := by decide +kernel
theorem d_C_better_73 : decode prog_1_method_23_code 73 = .ok (.ireturn, 1) := by decide +kernel
theorem d_C_plan_0 : decode prog_1_method_24_code 0 = .ok (.aload_n 0, 1) := by decide +kernel
theorem d_C_plan_1 : decode prog_1_method_24_code 1 = .ok (.getfield 116, 3) := by decide +kernel
theorem d_C_plan_4 : decode prog_1_method_24_code 4 = .ok (.ifCond .ne 6, 3) := by decide +kernel
theorem d_C_plan_7 : decode prog_1_method_24_code 7 = .ok (.ldc 133, 2) := by decide +kernel
theorem d_C_plan_9 : decode prog_1_method_24_code 9 = .ok (.ireturn, 1) := by decide +kernel
theorem d_C_plan_10 : decode prog_1_method_24_code 10 = .ok (.iload_n 1, 1) := by decide +kernel
theorem d_C_plan_11 : decode prog_1_method_24_code 11 = .ok (.invokestatic 55, 3) := by decide +kernel
theorem d_C_plan_14 : decode prog_1_method_24_code 14 = .ok (.ifCond .eq 22, 3) := by decide +kernel
theorem d_C_plan_17 : decode prog_1_method_24_code 17 = .ok (.iload_n 3, 1) := by decide +kernel
theorem d_C_plan_18 : decode prog_1_method_24_code 18 = .ok (.ifCond .lt 18, 3) := by decide +kernel
theorem d_C_plan_21 : decode prog_1_method_24_code 21 = .ok (.iload_n 3, 1) := by decide +kernel
theorem d_C_plan_22 : decode prog_1_method_24_code 22 = .ok (.bipush 40, 2) := by decide +kernel
theorem d_C_plan_24 : decode prog_1_method_24_code 24 = .ok (.if_icmp .gt 12, 3) := by decide +kernel
theorem d_C_plan_27 : decode prog_1_method_24_code 27 = .ok (.iload 4, 2) := by decide +kernel
theorem d_C_plan_29 : decode prog_1_method_24_code 29 = .ok (.iconst 2, 1) := by decide +kernel
theorem d_C_plan_30 : decode prog_1_method_24_code 30 = .ok (.invokestatic 59, 3) := by decide +kernel
theorem d_C_plan_33 : decode prog_1_method_24_code 33 = .ok (.ifCond .ne 6, 3) := by decide +kernel
theorem d_C_plan_36 : decode prog_1_method_24_code 36 = .ok (.ldc 63, 2) := by decide +kernel
theorem d_C_plan_38 : decode prog_1_method_24_code 38 = .ok (.ireturn, 1) := by decide +kernel
theorem d_C_plan_39 : decode prog_1_method_24_code 39 = .ok (.aload_n 0, 1) := by decide +kernel
theorem d_C_plan_40 : decode prog_1_method_24_code 40 = .ok (.iload_n 1, 1) := by decide +kernel
theorem d_C_plan_41 : decode prog_1_method_24_code 41 = .ok (.iload_n 2, 1) := by decide +kernel
theorem d_C_plan_42 : decode prog_1_method_24_code 42 = .ok (.iload_n 3, 1) := by decide +kernel
theorem d_C_plan_43 : decode prog_1_method_24_code 43 = .ok (.invokevirtual 231, 3) := by decide +kernel
theorem d_C_plan_46 : decode prog_1_method_24_code 46 = .ok (.istore 5, 2) := by decide +kernel
theorem d_C_plan_48 : decode prog_1_method_24_code 48 = .ok (.iload 5, 2) := by decide +kernel
theorem d_C_plan_50 : decode prog_1_method_24_code 50 = .ok (.ifCond .eq 12, 3) := by decide +kernel
theorem d_C_plan_53 : decode prog_1_method_24_code 53 = .ok (.aload_n 0, 1) := by decide +kernel
theorem d_C_plan_54 : decode prog_1_method_24_code 54 = .ok (.iload 5, 2) := by decide +kernel
theorem d_C_plan_56 : decode prog_1_method_24_code 56 = .ok (.invokevirtual 64, 3) := by decide +kernel
theorem d_C_plan_59 : decode prog_1_method_24_code 59 = .ok (.goto 16, 3) := by decide +kernel
theorem d_C_plan_62 : decode prog_1_method_24_code 62 = .ok (.aload_n 0, 1) := by decide +kernel
theorem d_C_plan_63 : decode prog_1_method_24_code 63 = .ok (.aload_n 0, 1) := by decide +kernel
theorem d_C_plan_64 : decode prog_1_method_24_code 64 = .ok (.iload_n 1, 1) := by decide +kernel
theorem d_C_plan_65 : decode prog_1_method_24_code 65 = .ok (.iload_n 2, 1) := by decide +kernel
theorem d_C_plan_66 : decode prog_1_method_24_code 66 = .ok (.iload_n 3, 1) := by decide +kernel
theorem d_C_plan_67 : decode prog_1_method_24_code 67 = .ok (.iload 4, 2) := by decide +kernel
theorem d_C_plan_69 : decode prog_1_method_24_code 69 = .ok (.invokevirtual 234, 3) := by decide +kernel
theorem d_C_plan_72 : decode prog_1_method_24_code 72 = .ok (.invokevirtual 72, 3) := by decide +kernel
theorem d_C_plan_75 : decode prog_1_method_24_code 75 = .ok (.ireturn, 1) := by decide +kernel
theorem d_C_seen_0 : decode prog_1_method_25_code 0 = .ok (.aload_n 0, 1) := by decide +kernel
theorem d_C_seen_1 : decode prog_1_method_25_code 1 = .ok (.getfield 116, 3) := by decide +kernel
theorem d_C_seen_4 : decode prog_1_method_25_code 4 = .ok (.ifCond .ne 6, 3) := by decide +kernel
theorem d_C_seen_7 : decode prog_1_method_25_code 7 = .ok (.ldc 133, 2) := by decide +kernel
theorem d_C_seen_9 : decode prog_1_method_25_code 9 = .ok (.ireturn, 1) := by decide +kernel
theorem d_C_seen_10 : decode prog_1_method_25_code 10 = .ok (.iload_n 1, 1) := by decide +kernel
theorem d_C_seen_11 : decode prog_1_method_25_code 11 = .ok (.invokestatic 55, 3) := by decide +kernel
theorem d_C_seen_14 : decode prog_1_method_25_code 14 = .ok (.ifCond .eq 22, 3) := by decide +kernel
theorem d_C_seen_17 : decode prog_1_method_25_code 17 = .ok (.iload_n 3, 1) := by decide +kernel
theorem d_C_seen_18 : decode prog_1_method_25_code 18 = .ok (.iconst 1, 1) := by decide +kernel
theorem d_C_seen_19 : decode prog_1_method_25_code 19 = .ok (.if_icmp .lt 17, 3) := by decide +kernel
theorem d_C_seen_22 : decode prog_1_method_25_code 22 = .ok (.iload_n 3, 1) := by decide +kernel
theorem d_C_seen_23 : decode prog_1_method_25_code 23 = .ok (.iconst 4, 1) := by decide +kernel
theorem d_C_seen_24 : decode prog_1_method_25_code 24 = .ok (.if_icmp .gt 12, 3) := by decide +kernel
theorem d_C_seen_27 : decode prog_1_method_25_code 27 = .ok (.iload 4, 2) := by decide +kernel
theorem d_C_seen_29 : decode prog_1_method_25_code 29 = .ok (.iconst 2, 1) := by decide +kernel
theorem d_C_seen_30 : decode prog_1_method_25_code 30 = .ok (.invokestatic 59, 3) := by decide +kernel
theorem d_C_seen_33 : decode prog_1_method_25_code 33 = .ok (.ifCond .ne 6, 3) := by decide +kernel
theorem d_C_seen_36 : decode prog_1_method_25_code 36 = .ok (.ldc 63, 2) := by decide +kernel
theorem d_C_seen_38 : decode prog_1_method_25_code 38 = .ok (.ireturn, 1) := by decide +kernel
theorem d_C_seen_39 : decode prog_1_method_25_code 39 = .ok (.aload_n 0, 1) := by decide +kernel
theorem d_C_seen_40 : decode prog_1_method_25_code 40 = .ok (.iload_n 1, 1) := by decide +kernel
theorem d_C_seen_41 : decode prog_1_method_25_code 41 = .ok (.iload_n 2, 1) := by decide +kernel
theorem d_C_seen_42 : decode prog_1_method_25_code 42 = .ok (.iload_n 3, 1) := by decide +kernel
theorem d_C_seen_43 : decode prog_1_method_25_code 43 = .ok (.invokevirtual 231, 3) := by decide +kernel
theorem d_C_seen_46 : decode prog_1_method_25_code 46 = .ok (.istore 5, 2) := by decide +kernel
theorem d_C_seen_48 : decode prog_1_method_25_code 48 = .ok (.iload 5, 2) := by decide +kernel
theorem d_C_seen_50 : decode prog_1_method_25_code 50 = .ok (.ifCond .eq 10, 3) := by decide +kernel
theorem d_C_seen_53 : decode prog_1_method_25_code 53 = .ok (.aload_n 0, 1) := by decide +kernel
theorem d_C_seen_54 : decode prog_1_method_25_code 54 = .ok (.iload 5, 2) := by decide +kernel
theorem d_C_seen_56 : decode prog_1_method_25_code 56 = .ok (.invokevirtual 64, 3) := by decide +kernel
theorem d_C_seen_59 : decode prog_1_method_25_code 59 = .ok (.ireturn, 1) := by decide +kernel
theorem d_C_seen_60 : decode prog_1_method_25_code 60 = .ok (.aload_n 0, 1) := by decide +kernel
theorem d_C_seen_61 : decode prog_1_method_25_code 61 = .ok (.getfield 44, 3) := by decide +kernel
theorem d_C_seen_64 : decode prog_1_method_25_code 64 = .ok (.aload_n 0, 1) := by decide +kernel
theorem d_C_seen_65 : decode prog_1_method_25_code 65 = .ok (.getfield 40, 3) := by decide +kernel
theorem d_C_seen_68 : decode prog_1_method_25_code 68 = .ok (.invokevirtual 112, 3) := by decide +kernel
theorem d_C_seen_71 : decode prog_1_method_25_code 71 = .ok (.aload_n 0, 1) := by decide +kernel
theorem d_C_seen_72 : decode prog_1_method_25_code 72 = .ok (.iload 4, 2) := by decide +kernel
theorem d_C_seen_74 : decode prog_1_method_25_code 74 = .ok (.ifCond .ne 27, 3) := by decide +kernel
theorem d_C_seen_77 : decode prog_1_method_25_code 77 = .ok (.aload_n 0, 1) := by decide +kernel
theorem d_C_seen_78 : decode prog_1_method_25_code 78 = .ok (.iload_n 1, 1) := by decide +kernel
theorem d_C_seen_79 : decode prog_1_method_25_code 79 = .ok (.iload_n 2, 1) := by decide +kernel
theorem d_C_seen_80 : decode prog_1_method_25_code 80 = .ok (.iload_n 3, 1) := by decide +kernel
theorem d_C_seen_81 : decode prog_1_method_25_code 81 = .ok (.aload_n 0, 1) := by decide +kernel
theorem d_C_seen_82 : decode prog_1_method_25_code 82 = .ok (.getfield 40, 3) := by decide +kernel
theorem d_C_seen_85 : decode prog_1_method_25_code 85 = .ok (.getfield 188, 3) := by decide +kernel
theorem d_C_seen_88 : decode prog_1_method_25_code 88 = .ok (.aload_n 0, 1) := by decide +kernel
theorem d_C_seen_89 : decode prog_1_method_25_code 89 = .ok (.getfield 40, 3) := by decide +kernel
theorem d_C_seen_92 : decode prog_1_method_25_code 92 = .ok (.getfield 191, 3) := by decide +kernel
theorem d_C_seen_95 : decode prog_1_method_25_code 95 = .ok (.invokevirtual 238, 3) := by decide +kernel
theorem d_C_seen_98 : decode prog_1_method_25_code 98 = .ok (.goto 10, 3) := by decide +kernel
theorem d_C_seen_101 : decode prog_1_method_25_code 101 = .ok (.aload_n 0, 1) := by decide +kernel
theorem d_C_seen_102 : decode prog_1_method_25_code 102 = .ok (.iload_n 1, 1) := by decide +kernel
theorem d_C_seen_103 : decode prog_1_method_25_code 103 = .ok (.iload_n 2, 1) := by decide +kernel
theorem d_C_seen_104 : decode prog_1_method_25_code 104 = .ok (.iload_n 3, 1) := by decide +kernel
theorem d_C_seen_105 : decode prog_1_method_25_code 105 = .ok (.invokevirtual 242, 3) := by decide +kernel
theorem d_C_seen_108 : decode prog_1_method_25_code 108 = .ok (.invokevirtual 72, 3) := by decide +kernel
theorem d_C_seen_111 : decode prog_1_method_25_code 111 = .ok (.ireturn, 1) := by decide +kernel
theorem d_C_gusts_0 : decode prog_1_method_26_code 0 = .ok (.iload_n 1, 1) := by decide +kernel
theorem d_C_gusts_1 : decode prog_1_method_26_code 1 = .ok (.ifCond .lt 37, 3) := by decide +kernel
theorem d_C_gusts_4 : decode prog_1_method_26_code 4 = .ok (.iload_n 1, 1) := by decide +kernel
theorem d_C_gusts_5 : decode prog_1_method_26_code 5 = .ok (.bipush 10, 2) := by decide +kernel
theorem d_C_gusts_7 : decode prog_1_method_26_code 7 = .ok (.if_icmp .gt 31, 3) := by decide +kernel
theorem d_C_gusts_10 : decode prog_1_method_26_code 10 = .ok (.iload_n 2, 1) := by decide +kernel
theorem d_C_gusts_11 : decode prog_1_method_26_code 11 = .ok (.ifCond .lt 27, 3) := by decide +kernel
theorem d_C_gusts_14 : decode prog_1_method_26_code 14 = .ok (.iload_n 2, 1) := by decide +kernel
theorem d_C_gusts_15 : decode prog_1_method_26_code 15 = .ok (.bipush 9, 2) := by decide +kernel
theorem d_C_gusts_17 : decode prog_1_method_26_code 17 = .ok (.if_icmp .gt 21, 3) := by decide +kernel
theorem d_C_gusts_20 : decode prog_1_method_26_code 20 = .ok (.iload_n 3, 1) := by decide +kernel
theorem d_C_gusts_21 : decode prog_1_method_26_code 21 = .ok (.ifCond .lt 17, 3) := by decide +kernel
theorem d_C_gusts_24 : decode prog_1_method_26_code 24 = .ok (.iload_n 3, 1) := by decide +kernel
theorem d_C_gusts_25 : decode prog_1_method_26_code 25 = .ok (.iload_n 2, 1) := by decide +kernel
theorem d_C_gusts_26 : decode prog_1_method_26_code 26 = .ok (.if_icmp .gt 12, 3) := by decide +kernel
theorem d_C_gusts_29 : decode prog_1_method_26_code 29 = .ok (.iload 4, 2) := by decide +kernel
theorem d_C_gusts_31 : decode prog_1_method_26_code 31 = .ok (.iconst 2, 1) := by decide +kernel
theorem d_C_gusts_32 : decode prog_1_method_26_code 32 = .ok (.invokestatic 59, 3) := by decide +kernel
theorem d_C_gusts_35 : decode prog_1_method_26_code 35 = .ok (.ifCond .ne 7, 3) := by decide +kernel
theorem d_C_gusts_38 : decode prog_1_method_26_code 38 = .ok (.ldc2_w 245, 3) := by decide +kernel
theorem d_C_gusts_41 : decode prog_1_method_26_code 41 = .ok (.lreturn, 1) := by decide +kernel
theorem d_C_gusts_42 : decode prog_1_method_26_code 42 = .ok (.lconst 0, 1) := by decide +kernel
theorem d_C_gusts_43 : decode prog_1_method_26_code 43 = .ok (.lstore 5, 2) := by decide +kernel
theorem d_C_gusts_45 : decode prog_1_method_26_code 45 = .ok (.iload_n 3, 1) := by decide +kernel
theorem d_C_gusts_46 : decode prog_1_method_26_code 46 = .ok (.istore 7, 2) := by decide +kernel
theorem d_C_gusts_48 : decode prog_1_method_26_code 48 = .ok (.iload 7, 2) := by decide +kernel
theorem d_C_gusts_50 : decode prog_1_method_26_code 50 = .ok (.iload_n 2, 1) := by decide +kernel
theorem d_C_gusts_51 : decode prog_1_method_26_code 51 = .ok (.if_icmp .gt 39, 3) := by decide +kernel
theorem d_C_gusts_54 : decode prog_1_method_26_code 54 = .ok (.lload 5, 2) := by decide +kernel
theorem d_C_gusts_56 : decode prog_1_method_26_code 56 = .ok (.iload_n 2, 1) := by decide +kernel
theorem d_C_gusts_57 : decode prog_1_method_26_code 57 = .ok (.iload 7, 2) := by decide +kernel
theorem d_C_gusts_59 : decode prog_1_method_26_code 59 = .ok (.invokestatic 247, 3) := by decide +kernel
theorem d_C_gusts_62 : decode prog_1_method_26_code 62 = .ok (.iload_n 1, 1) := by decide +kernel
theorem d_C_gusts_63 : decode prog_1_method_26_code 63 = .ok (.iload 7, 2) := by decide +kernel
theorem d_C_gusts_65 : decode prog_1_method_26_code 65 = .ok (.invokestatic 251, 3) := by decide +kernel
theorem d_C_gusts_68 : decode prog_1_method_26_code 68 = .ok (.lmul, 1) := by decide +kernel
theorem d_C_gusts_69 : decode prog_1_method_26_code 69 = .ok (.bipush 10, 2) := by decide +kernel
theorem d_C_gusts_71 : decode prog_1_method_26_code 71 = .ok (.iload_n 1, 1) := by decide +kernel
theorem d_C_gusts_72 : decode prog_1_method_26_code 72 = .ok (.isub, 1) := by decide +kernel
theorem d_C_gusts_73 : decode prog_1_method_26_code 73 = .ok (.iload_n 2, 1) := by decide +kernel
theorem d_C_gusts_74 : decode prog_1_method_26_code 74 = .ok (.iload 7, 2) := by decide +kernel
theorem d_C_gusts_76 : decode prog_1_method_26_code 76 = .ok (.isub, 1) := by decide +kernel
theorem d_C_gusts_77 : decode prog_1_method_26_code 77 = .ok (.invokestatic 251, 3) := by decide +kernel
theorem d_C_gusts_80 : decode prog_1_method_26_code 80 = .ok (.lmul, 1) := by decide +kernel
theorem d_C_gusts_81 : decode prog_1_method_26_code 81 = .ok (.ladd, 1) := by decide +kernel
theorem d_C_gusts_82 : decode prog_1_method_26_code 82 = .ok (.lstore 5, 2) := by decide +kernel
theorem d_C_gusts_84 : decode prog_1_method_26_code 84 = .ok (.iinc 7 1, 3) := by decide +kernel
theorem d_C_gusts_87 : decode prog_1_method_26_code 87 = .ok (.goto (-39), 3) := by decide +kernel
theorem d_C_gusts_90 : decode prog_1_method_26_code 90 = .ok (.bipush 10, 2) := by decide +kernel
theorem d_C_gusts_92 : decode prog_1_method_26_code 92 = .ok (.iload_n 2, 1) := by decide +kernel
theorem d_C_gusts_93 : decode prog_1_method_26_code 93 = .ok (.invokestatic 251, 3) := by decide +kernel
theorem d_C_gusts_96 : decode prog_1_method_26_code 96 = .ok (.lstore 7, 2) := by decide +kernel
theorem d_C_gusts_98 : decode prog_1_method_26_code 98 = .ok (.lload 5, 2) := by decide +kernel
theorem d_C_gusts_100 : decode prog_1_method_26_code 100 = .ok (.lload 7, 2) := by decide +kernel
theorem d_C_gusts_102 : decode prog_1_method_26_code 102 = .ok (.invokestatic 254, 3) := by decide +kernel
theorem d_C_gusts_105 : decode prog_1_method_26_code 105 = .ok (.lstore 9, 2) := by decide +kernel
theorem d_C_gusts_107 : decode prog_1_method_26_code 107 = .ok (.lload 9, 2) := by decide +kernel
theorem d_C_gusts_109 : decode prog_1_method_26_code 109 = .ok (.lconst 0, 1) := by decide +kernel
theorem d_C_gusts_110 : decode prog_1_method_26_code 110 = .ok (.lcmp, 1) := by decide +kernel
theorem d_C_gusts_111 : decode prog_1_method_26_code 111 = .ok (.ifCond .gt 7, 3) := by decide +kernel
theorem d_C_gusts_114 : decode prog_1_method_26_code 114 = .ok (.ldc2_w 245, 3) := by decide +kernel
theorem d_C_gusts_117 : decode prog_1_method_26_code 117 = .ok (.lreturn, 1) := by decide +kernel
theorem d_C_gusts_118 : decode prog_1_method_26_code 118 = .ok (.iload 4, 2) := by decide +kernel
theorem d_C_gusts_120 : decode prog_1_method_26_code 120 = .ok (.ifCond .ne 8, 3) := by decide +kernel
theorem d_C_gusts_123 : decode prog_1_method_26_code 123 = .ok (.lload 5, 2) := by decide +kernel
theorem d_C_gusts_125 : decode prog_1_method_26_code 125 = .ok (.goto 5, 3) := by decide +kernel
theorem d_C_gusts_128 : decode prog_1_method_26_code 128 = .ok (.lload 7, 2) := by decide +kernel
theorem d_C_gusts_130 : decode prog_1_method_26_code 130 = .ok (.lload 9, 2) := by decide +kernel
theorem d_C_gusts_132 : decode prog_1_method_26_code 132 = .ok (.ldiv, 1) := by decide +kernel
theorem d_C_gusts_133 : decode prog_1_method_26_code 133 = .ok (.lreturn, 1) := by decide +kernel
theorem d_C_reach_0 : decode prog_1_method_27_code 0 = .ok (.aload_n 0, 1) := by decide +kernel
theorem d_C_reach_1 : decode prog_1_method_27_code 1 = .ok (.getfield 116, 3) := by decide +kernel
theorem d_C_reach_4 : decode prog_1_method_27_code 4 = .ok (.ifCond .ne 6, 3) := by decide +kernel
theorem d_C_reach_7 : decode prog_1_method_27_code 7 = .ok (.ldc 133, 2) := by decide +kernel
theorem d_C_reach_9 : decode prog_1_method_27_code 9 = .ok (.ireturn, 1) := by decide +kernel
theorem d_C_reach_10 : decode prog_1_method_27_code 10 = .ok (.aload_n 0, 1) := by decide +kernel
theorem d_C_reach_11 : decode prog_1_method_27_code 11 = .ok (.getfield 33, 3) := by decide +kernel
theorem d_C_reach_14 : decode prog_1_method_27_code 14 = .ok (.aload_n 0, 1) := by decide +kernel
theorem d_C_reach_15 : decode prog_1_method_27_code 15 = .ok (.getfield 40, 3) := by decide +kernel
theorem d_C_reach_18 : decode prog_1_method_27_code 18 = .ok (.aload_n 0, 1) := by decide +kernel
theorem d_C_reach_19 : decode prog_1_method_27_code 19 = .ok (.getfield 40, 3) := by decide +kernel
theorem d_C_reach_22 : decode prog_1_method_27_code 22 = .ok (.invokevirtual 163, 3) := by decide +kernel
theorem d_C_reach_25 : decode prog_1_method_27_code 25 = .ok (.iconst (-1), 1) := by decide +kernel
theorem d_C_reach_26 : decode prog_1_method_27_code 26 = .ok (.invokevirtual 201, 3) := by decide +kernel
theorem d_C_reach_29 : decode prog_1_method_27_code 29 = .ok (.aload_n 0, 1) := by decide +kernel
theorem d_C_reach_30 : decode prog_1_method_27_code 30 = .ok (.getfield 33, 3) := by decide +kernel
theorem d_C_reach_33 : decode prog_1_method_27_code 33 = .ok (.invokevirtual 258, 3) := by decide +kernel
theorem d_C_reach_36 : decode prog_1_method_27_code 36 = .ok (.ireturn, 1) := by decide +kernel
theorem d_C_days_0 : decode prog_1_method_28_code 0 = .ok (.aload_n 0, 1) := by decide +kernel
theorem d_C_days_1 : decode prog_1_method_28_code 1 = .ok (.getfield 116, 3) := by decide +kernel
theorem d_C_days_4 : decode prog_1_method_28_code 4 = .ok (.ifCond .ne 6, 3) := by decide +kernel
theorem d_C_days_7 : decode prog_1_method_28_code 7 = .ok (.ldc 133, 2) := by decide +kernel
theorem d_C_days_9 : decode prog_1_method_28_code 9 = .ok (.ireturn, 1) := by decide +kernel
theorem d_C_days_10 : decode prog_1_method_28_code 10 = .ok (.iload_n 1, 1) := by decide +kernel
theorem d_C_days_11 : decode prog_1_method_28_code 11 = .ok (.ifCond .lt 29, 3) := by decide +kernel
theorem d_C_days_14 : decode prog_1_method_28_code 14 = .ok (.iload_n 1, 1) := by decide +kernel
theorem d_C_days_15 : decode prog_1_method_28_code 15 = .ok (.bipush 60, 2) := by decide +kernel
theorem d_C_days_17 : decode prog_1_method_28_code 17 = .ok (.if_icmp .gt 23, 3) := by decide +kernel
theorem d_C_days_20 : decode prog_1_method_28_code 20 = .ok (.iload_n 2, 1) := by decide +kernel
theorem d_C_days_21 : decode prog_1_method_28_code 21 = .ok (.iconst 1, 1) := by decide +kernel
theorem d_C_days_22 : decode prog_1_method_28_code 22 = .ok (.if_icmp .lt 18, 3) := by decide +kernel
theorem d_C_days_25 : decode prog_1_method_28_code 25 = .ok (.iload_n 2, 1) := by decide +kernel
theorem d_C_days_26 : decode prog_1_method_28_code 26 = .ok (.ldc_w 261, 3) := by decide +kernel
theorem d_C_days_29 : decode prog_1_method_28_code 29 = .ok (.if_icmp .gt 11, 3) := by decide +kernel
theorem d_C_days_32 : decode prog_1_method_28_code 32 = .ok (.iload_n 3, 1) := by decide +kernel
theorem d_C_days_33 : decode prog_1_method_28_code 33 = .ok (.iconst 2, 1) := by decide +kernel
theorem d_C_days_34 : decode prog_1_method_28_code 34 = .ok (.invokestatic 59, 3) := by decide +kernel
theorem d_C_days_37 : decode prog_1_method_28_code 37 = .ok (.ifCond .ne 6, 3) := by decide +kernel
theorem d_C_days_40 : decode prog_1_method_28_code 40 = .ok (.ldc 63, 2) := by decide +kernel
theorem d_C_days_42 : decode prog_1_method_28_code 42 = .ok (.ireturn, 1) := by decide +kernel
theorem d_C_days_43 : decode prog_1_method_28_code 43 = .ok (.aload_n 0, 1) := by decide +kernel
theorem d_C_days_44 : decode prog_1_method_28_code 44 = .ok (.iload_n 1, 1) := by decide +kernel
theorem d_C_days_45 : decode prog_1_method_28_code 45 = .ok (.iload_n 2, 1) := by decide +kernel
theorem d_C_days_46 : decode prog_1_method_28_code 46 = .ok (.invokevirtual 262, 3) := by decide +kernel
theorem d_C_days_49 : decode prog_1_method_28_code 49 = .ok (.istore 4, 2) := by decide +kernel
theorem d_C_days_51 : decode prog_1_method_28_code 51 = .ok (.iload_n 3, 1) := by decide +kernel
theorem d_C_days_52 : decode prog_1_method_28_code 52 = .ok (.ifCond .ne 24, 3) := by decide +kernel
theorem d_C_days_55 : decode prog_1_method_28_code 55 = .ok (.bipush 10, 2) := by decide +kernel
theorem d_C_days_57 : decode prog_1_method_28_code 57 = .ok (.aload_n 0, 1) := by decide +kernel
theorem d_C_days_58 : decode prog_1_method_28_code 58 = .ok (.getfield 44, 3) := by decide +kernel
theorem d_C_days_61 : decode prog_1_method_28_code 61 = .ok (.getfield 188, 3) := by decide +kernel
theorem d_C_days_64 : decode prog_1_method_28_code 64 = .ok (.imul, 1) := by decide +kernel
theorem d_C_days_65 : decode prog_1_method_28_code 65 = .ok (.aload_n 0, 1) := by decide +kernel
theorem d_C_days_66 : decode prog_1_method_28_code 66 = .ok (.getfield 44, 3) := by decide +kernel
theorem d_C_days_69 : decode prog_1_method_28_code 69 = .ok (.getfield 191, 3) := by decide +kernel
theorem d_C_days_72 : decode prog_1_method_28_code 72 = .ok (.iadd, 1) := by decide +kernel
theorem d_C_days_73 : decode prog_1_method_28_code 73 = .ok (.goto 5, 3) := by decide +kernel
theorem d_C_days_76 : decode prog_1_method_28_code 76 = .ok (.iload 4, 2) := by decide +kernel
theorem d_C_days_78 : decode prog_1_method_28_code 78 = .ok (.ireturn, 1) := by decide +kernel
theorem d_C_image_0 : decode prog_1_method_29_code 0 = .ok (.iload_n 1, 1) := by decide +kernel
theorem d_C_image_1 : decode prog_1_method_29_code 1 = .ok (.aload_n 0, 1) := by decide +kernel
theorem d_C_image_2 : decode prog_1_method_29_code 2 = .ok (.getfield 47, 3) := by decide +kernel
theorem d_C_image_5 : decode prog_1_method_29_code 5 = .ok (.arraylength, 1) := by decide +kernel
theorem d_C_image_6 : decode prog_1_method_29_code 6 = .ok (.invokestatic 59, 3) := by decide +kernel
theorem d_C_image_9 : decode prog_1_method_29_code 9 = .ok (.ifCond .ne 6, 3) := by decide +kernel
theorem d_C_image_12 : decode prog_1_method_29_code 12 = .ok (.ldc 63, 2) := by decide +kernel
theorem d_C_image_14 : decode prog_1_method_29_code 14 = .ok (.ireturn, 1) := by decide +kernel
theorem d_C_image_15 : decode prog_1_method_29_code 15 = .ok (.aload_n 0, 1) := by decide +kernel
theorem d_C_image_16 : decode prog_1_method_29_code 16 = .ok (.getfield 116, 3) := by decide +kernel
theorem d_C_image_19 : decode prog_1_method_29_code 19 = .ok (.ifCond .ne 6, 3) := by decide +kernel
theorem d_C_image_22 : decode prog_1_method_29_code 22 = .ok (.ldc 133, 2) := by decide +kernel
theorem d_C_image_24 : decode prog_1_method_29_code 24 = .ok (.ireturn, 1) := by decide +kernel
theorem d_C_image_25 : decode prog_1_method_29_code 25 = .ok (.aload_n 0, 1) := by decide +kernel
theorem d_C_image_26 : decode prog_1_method_29_code 26 = .ok (.getfield 47, 3) := by decide +kernel
theorem d_C_image_29 : decode prog_1_method_29_code 29 = .ok (.iload_n 1, 1) := by decide +kernel
theorem d_C_image_30 : decode prog_1_method_29_code 30 = .ok (.aaload, 1) := by decide +kernel
theorem d_C_image_31 : decode prog_1_method_29_code 31 = .ok (.astore_n 2, 1) := by decide +kernel
theorem d_C_image_32 : decode prog_1_method_29_code 32 = .ok (.aload_n 2, 1) := by decide +kernel
theorem d_C_image_33 : decode prog_1_method_29_code 33 = .ok (.ifnonnull 18, 3) := by decide +kernel
theorem d_C_image_36 : decode prog_1_method_29_code 36 = .ok (.new 37, 3) := by decide +kernel
theorem d_C_image_39 : decode prog_1_method_29_code 39 = .ok (.dup, 1) := by decide +kernel
theorem d_C_image_40 : decode prog_1_method_29_code 40 = .ok (.invokespecial 39, 3) := by decide +kernel
theorem d_C_image_43 : decode prog_1_method_29_code 43 = .ok (.astore_n 2, 1) := by decide +kernel
theorem d_C_image_44 : decode prog_1_method_29_code 44 = .ok (.aload_n 0, 1) := by decide +kernel
theorem d_C_image_45 : decode prog_1_method_29_code 45 = .ok (.getfield 47, 3) := by decide +kernel
theorem d_C_image_48 : decode prog_1_method_29_code 48 = .ok (.iload_n 1, 1) := by decide +kernel
theorem d_C_image_49 : decode prog_1_method_29_code 49 = .ok (.aload_n 2, 1) := by decide +kernel
theorem d_C_image_50 : decode prog_1_method_29_code 50 = .ok (.aastore, 1) := by decide +kernel
theorem d_C_image_51 : decode prog_1_method_29_code 51 = .ok (.aload_n 2, 1) := by decide +kernel
theorem d_C_image_52 : decode prog_1_method_29_code 52 = .ok (.aload_n 0, 1) := by decide +kernel
theorem d_C_image_53 : decode prog_1_method_29_code 53 = .ok (.getfield 40, 3) := by decide +kernel
theorem d_C_image_56 : decode prog_1_method_29_code 56 = .ok (.invokevirtual 112, 3) := by decide +kernel
theorem d_C_image_59 : decode prog_1_method_29_code 59 = .ok (.iconst 1, 1) := by decide +kernel
theorem d_C_image_60 : decode prog_1_method_29_code 60 = .ok (.ireturn, 1) := by decide +kernel
theorem d_C_restore_0 : decode prog_1_method_30_code 0 = .ok (.iload_n 1, 1) := by decide +kernel
theorem d_C_restore_1 : decode prog_1_method_30_code 1 = .ok (.aload_n 0, 1) := by decide +kernel
theorem d_C_restore_2 : decode prog_1_method_30_code 2 = .ok (.getfield 47, 3) := by decide +kernel
theorem d_C_restore_5 : decode prog_1_method_30_code 5 = .ok (.arraylength, 1) := by decide +kernel
theorem d_C_restore_6 : decode prog_1_method_30_code 6 = .ok (.invokestatic 59, 3) := by decide +kernel
theorem d_C_restore_9 : decode prog_1_method_30_code 9 = .ok (.ifCond .ne 6, 3) := by decide +kernel
theorem d_C_restore_12 : decode prog_1_method_30_code 12 = .ok (.ldc 63, 2) := by decide +kernel
theorem d_C_restore_14 : decode prog_1_method_30_code 14 = .ok (.ireturn, 1) := by decide +kernel
theorem d_C_restore_15 : decode prog_1_method_30_code 15 = .ok (.aload_n 0, 1) := by decide +kernel
theorem d_C_restore_16 : decode prog_1_method_30_code 16 = .ok (.getfield 47, 3) := by decide +kernel
theorem d_C_restore_19 : decode prog_1_method_30_code 19 = .ok (.iload_n 1, 1) := by decide +kernel
theorem d_C_restore_20 : decode prog_1_method_30_code 20 = .ok (.aaload, 1) := by decide +kernel
theorem d_C_restore_21 : decode prog_1_method_30_code 21 = .ok (.astore_n 2, 1) := by decide +kernel
theorem d_C_restore_22 : decode prog_1_method_30_code 22 = .ok (.aload_n 2, 1) := by decide +kernel
theorem d_C_restore_23 : decode prog_1_method_30_code 23 = .ok (.ifnonnull 6, 3) := by decide +kernel
theorem d_C_restore_26 : decode prog_1_method_30_code 26 = .ok (.ldc 133, 2) := by decide +kernel
theorem d_C_restore_28 : decode prog_1_method_30_code 28 = .ok (.ireturn, 1) := by decide +kernel
theorem d_C_restore_29 : decode prog_1_method_30_code 29 = .ok (.aload_n 0, 1) := by decide +kernel
theorem d_C_restore_30 : decode prog_1_method_30_code 30 = .ok (.getfield 40, 3) := by decide +kernel
theorem d_C_restore_33 : decode prog_1_method_30_code 33 = .ok (.aload_n 2, 1) := by decide +kernel
theorem d_C_restore_34 : decode prog_1_method_30_code 34 = .ok (.invokevirtual 112, 3) := by decide +kernel
theorem d_C_restore_37 : decode prog_1_method_30_code 37 = .ok (.aload_n 0, 1) := by decide +kernel
theorem d_C_restore_38 : decode prog_1_method_30_code 38 = .ok (.getfield 26, 3) := by decide +kernel
theorem d_C_restore_41 : decode prog_1_method_30_code 41 = .ok (.invokevirtual 120, 3) := by decide +kernel
theorem d_C_restore_44 : decode prog_1_method_30_code 44 = .ok (.iconst 1, 1) := by decide +kernel
theorem d_C_restore_45 : decode prog_1_method_30_code 45 = .ok (.ireturn, 1) := by decide +kernel
theorem d_C_kind_0 : decode prog_1_method_31_code 0 = .ok (.aload_n 0, 1) := by decide +kernel
theorem d_C_kind_1 : decode prog_1_method_31_code 1 = .ok (.getfield 40, 3) := by decide +kernel
theorem d_C_kind_4 : decode prog_1_method_31_code 4 = .ok (.iload_n 1, 1) := by decide +kernel
theorem d_C_kind_5 : decode prog_1_method_31_code 5 = .ok (.invokevirtual 137, 3) := by decide +kernel
theorem d_C_kind_8 : decode prog_1_method_31_code 8 = .ok (.astore_n 2, 1) := by decide +kernel
theorem d_C_kind_9 : decode prog_1_method_31_code 9 = .ok (.aload_n 2, 1) := by decide +kernel
theorem d_C_kind_10 : decode prog_1_method_31_code 10 = .ok (.ifnonnull 8, 3) := by decide +kernel
theorem d_C_kind_13 : decode prog_1_method_31_code 13 = .ok (.ldc 63, 2) := by decide +kernel
theorem d_C_kind_15 : decode prog_1_method_31_code 15 = .ok (.goto 7, 3) := by decide +kernel
theorem d_C_kind_18 : decode prog_1_method_31_code 18 = .ok (.aload_n 2, 1) := by decide +kernel
theorem d_C_kind_19 : decode prog_1_method_31_code 19 = .ok (.invokevirtual 265, 3) := by decide +kernel
theorem d_C_kind_22 : decode prog_1_method_31_code 22 = .ok (.ireturn, 1) := by decide +kernel
theorem d_C_as_0 : decode prog_1_method_32_code 0 = .ok (.aload_n 0, 1) := by decide +kernel
theorem d_C_as_1 : decode prog_1_method_32_code 1 = .ok (.getfield 40, 3) := by decide +kernel
theorem d_C_as_4 : decode prog_1_method_32_code 4 = .ok (.iload_n 1, 1) := by decide +kernel
theorem d_C_as_5 : decode prog_1_method_32_code 5 = .ok (.invokevirtual 137, 3) := by decide +kernel
theorem d_C_as_8 : decode prog_1_method_32_code 8 = .ok (.astore_n 3, 1) := by decide +kernel
theorem d_C_as_9 : decode prog_1_method_32_code 9 = .ok (.aload_n 3, 1) := by decide +kernel
theorem d_C_as_10 : decode prog_1_method_32_code 10 = .ok (.ifnull 12, 3) := by decide +kernel
theorem d_C_as_13 : decode prog_1_method_32_code 13 = .ok (.iload_n 2, 1) := by decide +kernel
theorem d_C_as_14 : decode prog_1_method_32_code 14 = .ok (.bipush 6, 2) := by decide +kernel
theorem d_C_as_16 : decode prog_1_method_32_code 16 = .ok (.invokestatic 59, 3) := by decide +kernel
theorem d_C_as_19 : decode prog_1_method_32_code 19 = .ok (.ifCond .ne 6, 3) := by decide +kernel
theorem d_C_as_22 : decode prog_1_method_32_code 22 = .ok (.ldc 63, 2) := by decide +kernel
theorem d_C_as_24 : decode prog_1_method_32_code 24 = .ok (.ireturn, 1) := by decide +kernel
theorem d_C_as_25 : decode prog_1_method_32_code 25 = .ok (.aload_n 3, 1) := by decide +kernel
theorem d_C_as_26 : decode prog_1_method_32_code 26 = .ok (.iload_n 2, 1) := by decide +kernel
theorem d_C_as_27 : decode prog_1_method_32_code 27 = .ok (.invokestatic 268, 3) := by decide +kernel
theorem d_C_as_30 : decode prog_1_method_32_code 30 = .ok (.ifCond .eq 11, 3) := by decide +kernel
theorem d_C_as_33 : decode prog_1_method_32_code 33 = .ok (.aload_n 0, 1) := by decide +kernel
theorem d_C_as_34 : decode prog_1_method_32_code 34 = .ok (.iload_n 1, 1) := by decide +kernel
theorem d_C_as_35 : decode prog_1_method_32_code 35 = .ok (.invokevirtual 72, 3) := by decide +kernel
theorem d_C_as_38 : decode prog_1_method_32_code 38 = .ok (.goto 8, 3) := by decide +kernel
theorem d_C_as_41 : decode prog_1_method_32_code 41 = .ok (.aload_n 0, 1) := by decide +kernel
theorem d_C_as_42 : decode prog_1_method_32_code 42 = .ok (.iconst 3, 1) := by decide +kernel
theorem d_C_as_43 : decode prog_1_method_32_code 43 = .ok (.invokevirtual 64, 3) := by decide +kernel
theorem d_C_as_46 : decode prog_1_method_32_code 46 = .ok (.ireturn, 1) := by decide +kernel
theorem d_C_ask_0 : decode prog_1_method_33_code 0 = .ok (.aload_n 0, 1) := by decide +kernel
theorem d_C_ask_1 : decode prog_1_method_33_code 1 = .ok (.getfield 40, 3) := by decide +kernel
theorem d_C_ask_4 : decode prog_1_method_33_code 4 = .ok (.iload_n 1, 1) := by decide +kernel
theorem d_C_ask_5 : decode prog_1_method_33_code 5 = .ok (.invokevirtual 137, 3) := by decide +kernel
theorem d_C_ask_8 : decode prog_1_method_33_code 8 = .ok (.astore_n 3, 1) := by decide +kernel
theorem d_C_ask_9 : decode prog_1_method_33_code 9 = .ok (.aload_n 3, 1) := by decide +kernel
theorem d_C_ask_10 : decode prog_1_method_33_code 10 = .ok (.ifnull 11, 3) := by decide +kernel
theorem d_C_ask_13 : decode prog_1_method_33_code 13 = .ok (.iload_n 2, 1) := by decide +kernel
theorem d_C_ask_14 : decode prog_1_method_33_code 14 = .ok (.iconst 2, 1) := by decide +kernel
theorem d_C_ask_15 : decode prog_1_method_33_code 15 = .ok (.invokestatic 59, 3) := by decide +kernel
theorem d_C_ask_18 : decode prog_1_method_33_code 18 = .ok (.ifCond .ne 6, 3) := by decide +kernel
theorem d_C_ask_21 : decode prog_1_method_33_code 21 = .ok (.ldc 63, 2) := by decide +kernel
theorem d_C_ask_23 : decode prog_1_method_33_code 23 = .ok (.ireturn, 1) := by decide +kernel
theorem d_C_ask_24 : decode prog_1_method_33_code 24 = .ok (.aload_n 0, 1) := by decide +kernel
theorem d_C_ask_25 : decode prog_1_method_33_code 25 = .ok (.getfield 51, 3) := by decide +kernel
theorem d_C_ask_28 : decode prog_1_method_33_code 28 = .ok (.iconst 0, 1) := by decide +kernel
theorem d_C_ask_29 : decode prog_1_method_33_code 29 = .ok (.iconst 0, 1) := by decide +kernel
theorem d_C_ask_30 : decode prog_1_method_33_code 30 = .ok (.invokestatic 271, 3) := by decide +kernel
theorem d_C_ask_33 : decode prog_1_method_33_code 33 = .ok (.iload_n 2, 1) := by decide +kernel
theorem d_C_ask_34 : decode prog_1_method_33_code 34 = .ok (.ifCond .ne 21, 3) := by decide +kernel
theorem d_C_ask_37 : decode prog_1_method_33_code 37 = .ok (.aload_n 3, 1) := by decide +kernel
theorem d_C_ask_38 : decode prog_1_method_33_code 38 = .ok (.aload_n 0, 1) := by decide +kernel
theorem d_C_ask_39 : decode prog_1_method_33_code 39 = .ok (.getfield 51, 3) := by decide +kernel
theorem d_C_ask_42 : decode prog_1_method_33_code 42 = .ok (.aload_n 0, 1) := by decide +kernel
theorem d_C_ask_43 : decode prog_1_method_33_code 43 = .ok (.getfield 40, 3) := by decide +kernel
theorem d_C_ask_46 : decode prog_1_method_33_code 46 = .ok (.getfield 191, 3) := by decide +kernel
theorem d_C_ask_49 : decode prog_1_method_33_code 49 = .ok (.invokevirtual 275, 3) := by decide +kernel
theorem d_C_ask_52 : decode prog_1_method_33_code 52 = .ok (.goto 18, 3) := by decide +kernel
theorem d_C_ask_55 : decode prog_1_method_33_code 55 = .ok (.aload_n 3, 1) := by decide +kernel
theorem d_C_ask_56 : decode prog_1_method_33_code 56 = .ok (.aload_n 0, 1) := by decide +kernel
theorem d_C_ask_57 : decode prog_1_method_33_code 57 = .ok (.getfield 51, 3) := by decide +kernel
theorem d_C_ask_60 : decode prog_1_method_33_code 60 = .ok (.aload_n 0, 1) := by decide +kernel
theorem d_C_ask_61 : decode prog_1_method_33_code 61 = .ok (.getfield 40, 3) := by decide +kernel
theorem d_C_ask_64 : decode prog_1_method_33_code 64 = .ok (.getfield 191, 3) := by decide +kernel
theorem d_C_ask_67 : decode prog_1_method_33_code 67 = .ok (.invokevirtual 278, 3) := by decide +kernel
theorem d_C_ask_70 : decode prog_1_method_33_code 70 = .ok (.ireturn, 1) := by decide +kernel
theorem d_C_trace_0 : decode prog_1_method_34_code 0 = .ok (.iload_n 1, 1) := by decide +kernel
theorem d_C_trace_1 : decode prog_1_method_34_code 1 = .ok (.aload_n 0, 1) := by decide +kernel
theorem d_C_trace_2 : decode prog_1_method_34_code 2 = .ok (.getfield 51, 3) := by decide +kernel
theorem d_C_trace_5 : decode prog_1_method_34_code 5 = .ok (.iconst 0, 1) := by decide +kernel
theorem d_C_trace_6 : decode prog_1_method_34_code 6 = .ok (.invokestatic 197, 3) := by decide +kernel
theorem d_C_trace_9 : decode prog_1_method_34_code 9 = .ok (.invokestatic 59, 3) := by decide +kernel
theorem d_C_trace_12 : decode prog_1_method_34_code 12 = .ok (.ifCond .eq 16, 3) := by decide +kernel
theorem d_C_trace_15 : decode prog_1_method_34_code 15 = .ok (.aload_n 0, 1) := by decide +kernel
theorem d_C_trace_16 : decode prog_1_method_34_code 16 = .ok (.getfield 51, 3) := by decide +kernel
theorem d_C_trace_19 : decode prog_1_method_34_code 19 = .ok (.iload_n 1, 1) := by decide +kernel
theorem d_C_trace_20 : decode prog_1_method_34_code 20 = .ok (.iconst 1, 1) := by decide +kernel
theorem d_C_trace_21 : decode prog_1_method_34_code 21 = .ok (.iadd, 1) := by decide +kernel
theorem d_C_trace_22 : decode prog_1_method_34_code 22 = .ok (.invokestatic 197, 3) := by decide +kernel
theorem d_C_trace_25 : decode prog_1_method_34_code 25 = .ok (.goto 5, 3) := by decide +kernel
theorem d_C_trace_28 : decode prog_1_method_34_code 28 = .ok (.ldc 223, 2) := by decide +kernel
theorem d_C_trace_30 : decode prog_1_method_34_code 30 = .ok (.ireturn, 1) := by decide +kernel
theorem d_C_count_0 : decode prog_1_method_35_code 0 = .ok (.iload_n 1, 1) := by decide +kernel
theorem d_C_count_1 : decode prog_1_method_35_code 1 = .ok (.tableswitch 99 0 6 #[43, 51, 59, 67, 75, 83, 91], 43) := by decide +kernel
theorem d_C_count_44 : decode prog_1_method_35_code 44 = .ok (.aload_n 0, 1) := by decide +kernel
theorem d_C_count_45 : decode prog_1_method_35_code 45 = .ok (.getfield 10, 3) := by decide +kernel
theorem d_C_count_48 : decode prog_1_method_35_code 48 = .ok (.invokevirtual 281, 3) := by decide +kernel
theorem d_C_count_51 : decode prog_1_method_35_code 51 = .ok (.ireturn, 1) := by decide +kernel
theorem d_C_count_52 : decode prog_1_method_35_code 52 = .ok (.aload_n 0, 1) := by decide +kernel
theorem d_C_count_53 : decode prog_1_method_35_code 53 = .ok (.getfield 40, 3) := by decide +kernel
theorem d_C_count_56 : decode prog_1_method_35_code 56 = .ok (.getfield 123, 3) := by decide +kernel
theorem d_C_count_59 : decode prog_1_method_35_code 59 = .ok (.ireturn, 1) := by decide +kernel
theorem d_C_count_60 : decode prog_1_method_35_code 60 = .ok (.aload_n 0, 1) := by decide +kernel
theorem d_C_count_61 : decode prog_1_method_35_code 61 = .ok (.getfield 40, 3) := by decide +kernel
theorem d_C_count_64 : decode prog_1_method_35_code 64 = .ok (.getfield 284, 3) := by decide +kernel
theorem d_C_count_67 : decode prog_1_method_35_code 67 = .ok (.ireturn, 1) := by decide +kernel
theorem d_C_count_68 : decode prog_1_method_35_code 68 = .ok (.aload_n 0, 1) := by decide +kernel
theorem d_C_count_69 : decode prog_1_method_35_code 69 = .ok (.getfield 40, 3) := by decide +kernel
theorem d_C_count_72 : decode prog_1_method_35_code 72 = .ok (.getfield 287, 3) := by decide +kernel
theorem d_C_count_75 : decode prog_1_method_35_code 75 = .ok (.ireturn, 1) := by decide +kernel
theorem d_C_count_76 : decode prog_1_method_35_code 76 = .ok (.aload_n 0, 1) := by decide +kernel
theorem d_C_count_77 : decode prog_1_method_35_code 77 = .ok (.getfield 40, 3) := by decide +kernel
theorem d_C_count_80 : decode prog_1_method_35_code 80 = .ok (.getfield 166, 3) := by decide +kernel
theorem d_C_count_83 : decode prog_1_method_35_code 83 = .ok (.ireturn, 1) := by decide +kernel
theorem d_C_count_84 : decode prog_1_method_35_code 84 = .ok (.aload_n 0, 1) := by decide +kernel
theorem d_C_count_85 : decode prog_1_method_35_code 85 = .ok (.getfield 26, 3) := by decide +kernel
theorem d_C_count_88 : decode prog_1_method_35_code 88 = .ok (.invokevirtual 130, 3) := by decide +kernel
theorem d_C_count_91 : decode prog_1_method_35_code 91 = .ok (.ireturn, 1) := by decide +kernel
theorem d_C_count_92 : decode prog_1_method_35_code 92 = .ok (.aload_n 0, 1) := by decide +kernel
theorem d_C_count_93 : decode prog_1_method_35_code 93 = .ok (.getfield 19, 3) := by decide +kernel
theorem d_C_count_96 : decode prog_1_method_35_code 96 = .ok (.invokevirtual 99, 3) := by decide +kernel
theorem d_C_count_99 : decode prog_1_method_35_code 99 = .ok (.ireturn, 1) := by decide +kernel
theorem d_C_count_100 : decode prog_1_method_35_code 100 = .ok (.ldc 63, 2) := by decide +kernel
theorem d_C_count_102 : decode prog_1_method_35_code 102 = .ok (.ireturn, 1) := by decide +kernel
theorem d_C_status_0 : decode prog_1_method_36_code 0 = .ok (.aload_n 0, 1) := by decide +kernel
theorem d_C_status_1 : decode prog_1_method_36_code 1 = .ok (.getfield 290, 3) := by decide +kernel
theorem d_C_status_4 : decode prog_1_method_36_code 4 = .ok (.ireturn, 1) := by decide +kernel
theorem d_C_found_0 : decode prog_1_method_37_code 0 = .ok (.aload_n 0, 1) := by decide +kernel
theorem d_C_found_1 : decode prog_1_method_37_code 1 = .ok (.iload_n 1, 1) := by decide +kernel
theorem d_C_found_2 : decode prog_1_method_37_code 2 = .ok (.putfield 290, 3) := by decide +kernel
theorem d_C_found_5 : decode prog_1_method_37_code 5 = .ok (.ldc_w 293, 3) := by decide +kernel
theorem d_C_found_8 : decode prog_1_method_37_code 8 = .ok (.iload_n 1, 1) := by decide +kernel
theorem d_C_found_9 : decode prog_1_method_37_code 9 = .ok (.isub, 1) := by decide +kernel
theorem d_C_found_10 : decode prog_1_method_37_code 10 = .ok (.ireturn, 1) := by decide +kernel
theorem d_C_sound_0 : decode prog_1_method_38_code 0 = .ok (.aload_n 0, 1) := by decide +kernel
theorem d_C_sound_1 : decode prog_1_method_38_code 1 = .ok (.iconst 0, 1) := by decide +kernel
theorem d_C_sound_2 : decode prog_1_method_38_code 2 = .ok (.putfield 290, 3) := by decide +kernel
theorem d_C_sound_5 : decode prog_1_method_38_code 5 = .ok (.iload_n 1, 1) := by decide +kernel
theorem d_C_sound_6 : decode prog_1_method_38_code 6 = .ok (.ireturn, 1) := by decide +kernel
theorem d_C_findingAt_0 : decode prog_1_method_39_code 0 = .ok (.aload_n 0, 1) := by decide +kernel
theorem d_C_findingAt_1 : decode prog_1_method_39_code 1 = .ok (.getfield 10, 3) := by decide +kernel
theorem d_C_findingAt_4 : decode prog_1_method_39_code 4 = .ok (.iload_n 1, 1) := by decide +kernel
theorem d_C_findingAt_5 : decode prog_1_method_39_code 5 = .ok (.invokevirtual 75, 3) := by decide +kernel
theorem d_C_findingAt_8 : decode prog_1_method_39_code 8 = .ok (.ifCond .eq 5, 3) := by decide +kernel
theorem d_C_findingAt_11 : decode prog_1_method_39_code 11 = .ok (.iconst 1, 1) := by decide +kernel
theorem d_C_findingAt_12 : decode prog_1_method_39_code 12 = .ok (.ireturn, 1) := by decide +kernel
theorem d_C_findingAt_13 : decode prog_1_method_39_code 13 = .ok (.aload_n 0, 1) := by decide +kernel
theorem d_C_findingAt_14 : decode prog_1_method_39_code 14 = .ok (.getfield 10, 3) := by decide +kernel
theorem d_C_findingAt_17 : decode prog_1_method_39_code 17 = .ok (.iload_n 1, 1) := by decide +kernel
theorem d_C_findingAt_18 : decode prog_1_method_39_code 18 = .ok (.iload_n 2, 1) := by decide +kernel
theorem d_C_findingAt_19 : decode prog_1_method_39_code 19 = .ok (.iload_n 3, 1) := by decide +kernel
theorem d_C_findingAt_20 : decode prog_1_method_39_code 20 = .ok (.invokevirtual 78, 3) := by decide +kernel
theorem d_C_findingAt_23 : decode prog_1_method_39_code 23 = .ok (.ifCond .eq 7, 3) := by decide +kernel
theorem d_C_findingAt_26 : decode prog_1_method_39_code 26 = .ok (.iconst 0, 1) := by decide +kernel
theorem d_C_findingAt_27 : decode prog_1_method_39_code 27 = .ok (.goto 4, 3) := by decide +kernel
theorem d_C_findingAt_30 : decode prog_1_method_39_code 30 = .ok (.iconst 2, 1) := by decide +kernel
theorem d_C_findingAt_31 : decode prog_1_method_39_code 31 = .ok (.ireturn, 1) := by decide +kernel
theorem d_C_easiestCell_0 : decode prog_1_method_40_code 0 = .ok (.ldc 223, 2) := by decide +kernel
theorem d_C_easiestCell_2 : decode prog_1_method_40_code 2 = .ok (.istore_n 3, 1) := by decide +kernel
theorem d_C_easiestCell_3 : decode prog_1_method_40_code 3 = .ok (.ldc 223, 2) := by decide +kernel
theorem d_C_easiestCell_5 : decode prog_1_method_40_code 5 = .ok (.istore 4, 2) := by decide +kernel
theorem d_C_easiestCell_7 : decode prog_1_method_40_code 7 = .ok (.iconst 0, 1) := by decide +kernel
theorem d_C_easiestCell_8 : decode prog_1_method_40_code 8 = .ok (.istore 5, 2) := by decide +kernel
theorem d_C_easiestCell_10 : decode prog_1_method_40_code 10 = .ok (.iload 5, 2) := by decide +kernel
theorem d_C_easiestCell_12 : decode prog_1_method_40_code 12 = .ok (.bipush 24, 2) := by decide +kernel
theorem d_C_easiestCell_14 : decode prog_1_method_40_code 14 = .ok (.if_icmp .ge 127, 3) := by decide +kernel
theorem d_C_easiestCell_17 : decode prog_1_method_40_code 17 = .ok (.iload_n 1, 1) := by decide +kernel
theorem d_C_easiestCell_18 : decode prog_1_method_40_code 18 = .ok (.ifCond .ne 21, 3) := by decide +kernel
theorem d_C_easiestCell_21 : decode prog_1_method_40_code 21 = .ok (.aload_n 0, 1) := by decide +kernel
theorem d_C_easiestCell_22 : decode prog_1_method_40_code 22 = .ok (.getfield 40, 3) := by decide +kernel
theorem d_C_easiestCell_25 : decode prog_1_method_40_code 25 = .ok (.getfield 166, 3) := by decide +kernel
theorem d_C_easiestCell_28 : decode prog_1_method_40_code 28 = .ok (.iload 5, 2) := by decide +kernel
theorem d_C_easiestCell_30 : decode prog_1_method_40_code 30 = .ok (.invokestatic 169, 3) := by decide +kernel
theorem d_C_easiestCell_33 : decode prog_1_method_40_code 33 = .ok (.ifCond .ne 6, 3) := by decide +kernel
theorem d_C_easiestCell_36 : decode prog_1_method_40_code 36 = .ok (.goto 99, 3) := by decide +kernel
theorem d_C_easiestCell_39 : decode prog_1_method_40_code 39 = .ok (.aload_n 0, 1) := by decide +kernel
theorem d_C_easiestCell_40 : decode prog_1_method_40_code 40 = .ok (.getfield 44, 3) := by decide +kernel
theorem d_C_easiestCell_43 : decode prog_1_method_40_code 43 = .ok (.aload_n 0, 1) := by decide +kernel
theorem d_C_easiestCell_44 : decode prog_1_method_40_code 44 = .ok (.getfield 40, 3) := by decide +kernel
theorem d_C_easiestCell_47 : decode prog_1_method_40_code 47 = .ok (.invokevirtual 112, 3) := by decide +kernel
theorem d_C_easiestCell_50 : decode prog_1_method_40_code 50 = .ok (.iload_n 1, 1) := by decide +kernel
theorem d_C_easiestCell_51 : decode prog_1_method_40_code 51 = .ok (.ifCond .eq 20, 3) := by decide +kernel
theorem d_C_easiestCell_54 : decode prog_1_method_40_code 54 = .ok (.aload_n 0, 1) := by decide +kernel
theorem d_C_easiestCell_55 : decode prog_1_method_40_code 55 = .ok (.getfield 44, 3) := by decide +kernel
theorem d_C_easiestCell_58 : decode prog_1_method_40_code 58 = .ok (.getfield 194, 3) := by decide +kernel
theorem d_C_easiestCell_61 : decode prog_1_method_40_code 61 = .ok (.iload 5, 2) := by decide +kernel
theorem d_C_easiestCell_63 : decode prog_1_method_40_code 63 = .ok (.bipush 9, 2) := by decide +kernel
theorem d_C_easiestCell_65 : decode prog_1_method_40_code 65 = .ok (.invokestatic 271, 3) := by decide +kernel
theorem d_C_easiestCell_68 : decode prog_1_method_40_code 68 = .ok (.goto 19, 3) := by decide +kernel
theorem d_C_easiestCell_71 : decode prog_1_method_40_code 71 = .ok (.aload_n 0, 1) := by decide +kernel
theorem d_C_easiestCell_72 : decode prog_1_method_40_code 72 = .ok (.getfield 44, 3) := by decide +kernel
theorem d_C_easiestCell_75 : decode prog_1_method_40_code 75 = .ok (.dup, 1) := by decide +kernel
theorem d_C_easiestCell_76 : decode prog_1_method_40_code 76 = .ok (.getfield 166, 3) := by decide +kernel
theorem d_C_easiestCell_79 : decode prog_1_method_40_code 79 = .ok (.iconst 1, 1) := by decide +kernel
theorem d_C_easiestCell_80 : decode prog_1_method_40_code 80 = .ok (.iload 5, 2) := by decide +kernel
theorem d_C_easiestCell_82 : decode prog_1_method_40_code 82 = .ok (.ishl, 1) := by decide +kernel
theorem d_C_easiestCell_83 : decode prog_1_method_40_code 83 = .ok (.ixor, 1) := by decide +kernel
theorem d_C_easiestCell_84 : decode prog_1_method_40_code 84 = .ok (.putfield 166, 3) := by decide +kernel
theorem d_C_easiestCell_87 : decode prog_1_method_40_code 87 = .ok (.aload_n 0, 1) := by decide +kernel
theorem d_C_easiestCell_88 : decode prog_1_method_40_code 88 = .ok (.getfield 33, 3) := by decide +kernel
theorem d_C_easiestCell_91 : decode prog_1_method_40_code 91 = .ok (.aload_n 0, 1) := by decide +kernel
theorem d_C_easiestCell_92 : decode prog_1_method_40_code 92 = .ok (.getfield 44, 3) := by decide +kernel
theorem d_C_easiestCell_95 : decode prog_1_method_40_code 95 = .ok (.aload_n 0, 1) := by decide +kernel
theorem d_C_easiestCell_96 : decode prog_1_method_40_code 96 = .ok (.getfield 44, 3) := by decide +kernel
theorem d_C_easiestCell_99 : decode prog_1_method_40_code 99 = .ok (.invokevirtual 163, 3) := by decide +kernel
theorem d_C_easiestCell_102 : decode prog_1_method_40_code 102 = .ok (.invokevirtual 214, 3) := by decide +kernel
theorem d_C_easiestCell_105 : decode prog_1_method_40_code 105 = .ok (.istore 6, 2) := by decide +kernel
theorem d_C_easiestCell_107 : decode prog_1_method_40_code 107 = .ok (.iload 6, 2) := by decide +kernel
theorem d_C_easiestCell_109 : decode prog_1_method_40_code 109 = .ok (.ldc 223, 2) := by decide +kernel
theorem d_C_easiestCell_111 : decode prog_1_method_40_code 111 = .ok (.if_icmp .eq 24, 3) := by decide +kernel
theorem d_C_easiestCell_114 : decode prog_1_method_40_code 114 = .ok (.iload 4, 2) := by decide +kernel
theorem d_C_easiestCell_116 : decode prog_1_method_40_code 116 = .ok (.ldc 223, 2) := by decide +kernel
theorem d_C_easiestCell_118 : decode prog_1_method_40_code 118 = .ok (.if_icmp .eq 10, 3) := by decide +kernel
theorem d_C_easiestCell_121 : decode prog_1_method_40_code 121 = .ok (.iload 6, 2) := by decide +kernel
theorem d_C_easiestCell_123 : decode prog_1_method_40_code 123 = .ok (.iload 4, 2) := by decide +kernel
theorem d_C_easiestCell_125 : decode prog_1_method_40_code 125 = .ok (.if_icmp .ge 10, 3) := by decide +kernel
theorem d_C_easiestCell_128 : decode prog_1_method_40_code 128 = .ok (.iload 6, 2) := by decide +kernel
theorem d_C_easiestCell_130 : decode prog_1_method_40_code 130 = .ok (.istore 4, 2) := by decide +kernel
theorem d_C_easiestCell_132 : decode prog_1_method_40_code 132 = .ok (.iload 5, 2) := by decide +kernel
theorem d_C_easiestCell_134 : decode prog_1_method_40_code 134 = .ok (.istore_n 3, 1) := by decide +kernel
theorem d_C_easiestCell_135 : decode prog_1_method_40_code 135 = .ok (.iinc 5 1, 3) := by decide +kernel
theorem d_C_easiestCell_138 : decode prog_1_method_40_code 138 = .ok (.goto (-128), 3) := by decide +kernel
theorem d_C_easiestCell_141 : decode prog_1_method_40_code 141 = .ok (.iload_n 2, 1) := by decide +kernel
theorem d_C_easiestCell_142 : decode prog_1_method_40_code 142 = .ok (.ifCond .ne 7, 3) := by decide +kernel
theorem d_C_easiestCell_145 : decode prog_1_method_40_code 145 = .ok (.iload_n 3, 1) := by decide +kernel
theorem d_C_easiestCell_146 : decode prog_1_method_40_code 146 = .ok (.goto 5, 3) := by decide +kernel
theorem d_C_easiestCell_149 : decode prog_1_method_40_code 149 = .ok (.iload 4, 2) := by decide +kernel
theorem d_C_easiestCell_151 : decode prog_1_method_40_code 151 = .ok (.ireturn, 1) := by decide +kernel
theorem d_C_minutesIfLaden_0 : decode prog_1_method_41_code 0 = .ok (.aload_n 0, 1) := by decide +kernel
theorem d_C_minutesIfLaden_1 : decode prog_1_method_41_code 1 = .ok (.getfield 44, 3) := by decide +kernel
theorem d_C_minutesIfLaden_4 : decode prog_1_method_41_code 4 = .ok (.aload_n 0, 1) := by decide +kernel
theorem d_C_minutesIfLaden_5 : decode prog_1_method_41_code 5 = .ok (.getfield 40, 3) := by decide +kernel
theorem d_C_minutesIfLaden_8 : decode prog_1_method_41_code 8 = .ok (.invokevirtual 112, 3) := by decide +kernel
theorem d_C_minutesIfLaden_11 : decode prog_1_method_41_code 11 = .ok (.aload_n 0, 1) := by decide +kernel
theorem d_C_minutesIfLaden_12 : decode prog_1_method_41_code 12 = .ok (.getfield 44, 3) := by decide +kernel
theorem d_C_minutesIfLaden_15 : decode prog_1_method_41_code 15 = .ok (.iload_n 1, 1) := by decide +kernel
theorem d_C_minutesIfLaden_16 : decode prog_1_method_41_code 16 = .ok (.putfield 160, 3) := by decide +kernel
theorem d_C_minutesIfLaden_19 : decode prog_1_method_41_code 19 = .ok (.aload_n 0, 1) := by decide +kernel
theorem d_C_minutesIfLaden_20 : decode prog_1_method_41_code 20 = .ok (.getfield 33, 3) := by decide +kernel
theorem d_C_minutesIfLaden_23 : decode prog_1_method_41_code 23 = .ok (.aload_n 0, 1) := by decide +kernel
theorem d_C_minutesIfLaden_24 : decode prog_1_method_41_code 24 = .ok (.getfield 44, 3) := by decide +kernel
theorem d_C_minutesIfLaden_27 : decode prog_1_method_41_code 27 = .ok (.aload_n 0, 1) := by decide +kernel
theorem d_C_minutesIfLaden_28 : decode prog_1_method_41_code 28 = .ok (.getfield 44, 3) := by decide +kernel
theorem d_C_minutesIfLaden_31 : decode prog_1_method_41_code 31 = .ok (.invokevirtual 163, 3) := by decide +kernel
theorem d_C_minutesIfLaden_34 : decode prog_1_method_41_code 34 = .ok (.invokevirtual 214, 3) := by decide +kernel
theorem d_C_minutesIfLaden_37 : decode prog_1_method_41_code 37 = .ok (.ireturn, 1) := by decide +kernel
theorem d_C_planned_0 : decode prog_1_method_42_code 0 = .ok (.aload_n 0, 1) := by decide +kernel
theorem d_C_planned_1 : decode prog_1_method_42_code 1 = .ok (.getfield 44, 3) := by decide +kernel
theorem d_C_planned_4 : decode prog_1_method_42_code 4 = .ok (.aload_n 0, 1) := by decide +kernel
theorem d_C_planned_5 : decode prog_1_method_42_code 5 = .ok (.getfield 40, 3) := by decide +kernel
theorem d_C_planned_8 : decode prog_1_method_42_code 8 = .ok (.invokevirtual 112, 3) := by decide +kernel
theorem d_C_planned_11 : decode prog_1_method_42_code 11 = .ok (.iconst 0, 1) := by decide +kernel
theorem d_C_planned_12 : decode prog_1_method_42_code 12 = .ok (.istore 5, 2) := by decide +kernel
theorem d_C_planned_14 : decode prog_1_method_42_code 14 = .ok (.iconst 0, 1) := by decide +kernel
theorem d_C_planned_15 : decode prog_1_method_42_code 15 = .ok (.istore 6, 2) := by decide +kernel
theorem d_C_planned_17 : decode prog_1_method_42_code 17 = .ok (.iconst 0, 1) := by decide +kernel
theorem d_C_planned_18 : decode prog_1_method_42_code 18 = .ok (.istore 7, 2) := by decide +kernel
theorem d_C_planned_20 : decode prog_1_method_42_code 20 = .ok (.iload 7, 2) := by decide +kernel
theorem d_C_planned_22 : decode prog_1_method_42_code 22 = .ok (.iload_n 3, 1) := by decide +kernel
theorem d_C_planned_23 : decode prog_1_method_42_code 23 = .ok (.if_icmp .ge 109, 3) := by decide +kernel
theorem d_C_planned_26 : decode prog_1_method_42_code 26 = .ok (.aload_n 0, 1) := by decide +kernel
theorem d_C_planned_27 : decode prog_1_method_42_code 27 = .ok (.getfield 10, 3) := by decide +kernel
theorem d_C_planned_30 : decode prog_1_method_42_code 30 = .ok (.iload_n 1, 1) := by decide +kernel
theorem d_C_planned_31 : decode prog_1_method_42_code 31 = .ok (.iload_n 2, 1) := by decide +kernel
theorem d_C_planned_32 : decode prog_1_method_42_code 32 = .ok (.iload 7, 2) := by decide +kernel
theorem d_C_planned_34 : decode prog_1_method_42_code 34 = .ok (.iadd, 1) := by decide +kernel
theorem d_C_planned_35 : decode prog_1_method_42_code 35 = .ok (.invokevirtual 294, 3) := by decide +kernel
theorem d_C_planned_38 : decode prog_1_method_42_code 38 = .ok (.istore 8, 2) := by decide +kernel
theorem d_C_planned_40 : decode prog_1_method_42_code 40 = .ok (.iload 8, 2) := by decide +kernel
theorem d_C_planned_42 : decode prog_1_method_42_code 42 = .ok (.ifCond .ge 7, 3) := by decide +kernel
theorem d_C_planned_45 : decode prog_1_method_42_code 45 = .ok (.aconst_null, 1) := by decide +kernel
theorem d_C_planned_46 : decode prog_1_method_42_code 46 = .ok (.goto 15, 3) := by decide +kernel
theorem d_C_planned_49 : decode prog_1_method_42_code 49 = .ok (.aload_n 0, 1) := by decide +kernel
theorem d_C_planned_50 : decode prog_1_method_42_code 50 = .ok (.getfield 44, 3) := by decide +kernel
theorem d_C_planned_53 : decode prog_1_method_42_code 53 = .ok (.iload 8, 2) := by decide +kernel
theorem d_C_planned_55 : decode prog_1_method_42_code 55 = .ok (.bipush 10, 2) := by decide +kernel
theorem d_C_planned_57 : decode prog_1_method_42_code 57 = .ok (.idiv, 1) := by decide +kernel
theorem d_C_planned_58 : decode prog_1_method_42_code 58 = .ok (.invokevirtual 137, 3) := by decide +kernel
theorem d_C_planned_61 : decode prog_1_method_42_code 61 = .ok (.astore 9, 2) := by decide +kernel
theorem d_C_planned_63 : decode prog_1_method_42_code 63 = .ok (.iload 8, 2) := by decide +kernel
theorem d_C_planned_65 : decode prog_1_method_42_code 65 = .ok (.bipush 10, 2) := by decide +kernel
theorem d_C_planned_67 : decode prog_1_method_42_code 67 = .ok (.irem, 1) := by decide +kernel
theorem d_C_planned_68 : decode prog_1_method_42_code 68 = .ok (.istore 10, 2) := by decide +kernel
theorem d_C_planned_70 : decode prog_1_method_42_code 70 = .ok (.aload 9, 2) := by decide +kernel
theorem d_C_planned_72 : decode prog_1_method_42_code 72 = .ok (.ifnull 60, 3) := by decide +kernel
theorem d_C_planned_75 : decode prog_1_method_42_code 75 = .ok (.iload 10, 2) := by decide +kernel
theorem d_C_planned_77 : decode prog_1_method_42_code 77 = .ok (.bipush 8, 2) := by decide +kernel
theorem d_C_planned_79 : decode prog_1_method_42_code 79 = .ok (.invokestatic 59, 3) := by decide +kernel
theorem d_C_planned_82 : decode prog_1_method_42_code 82 = .ok (.ifCond .eq 50, 3) := by decide +kernel
theorem d_C_planned_85 : decode prog_1_method_42_code 85 = .ok (.aload_n 0, 1) := by decide +kernel
theorem d_C_planned_86 : decode prog_1_method_42_code 86 = .ok (.getfield 44, 3) := by decide +kernel
theorem d_C_planned_89 : decode prog_1_method_42_code 89 = .ok (.aload 9, 2) := by decide +kernel
theorem d_C_planned_91 : decode prog_1_method_42_code 91 = .ok (.iload 10, 2) := by decide +kernel
theorem d_C_planned_93 : decode prog_1_method_42_code 93 = .ok (.invokevirtual 141, 3) := by decide +kernel
theorem d_C_planned_96 : decode prog_1_method_42_code 96 = .ok (.ifCond .ne 6, 3) := by decide +kernel
theorem d_C_planned_99 : decode prog_1_method_42_code 99 = .ok (.goto 33, 3) := by decide +kernel
theorem d_C_planned_102 : decode prog_1_method_42_code 102 = .ok (.aload_n 0, 1) := by decide +kernel
theorem d_C_planned_103 : decode prog_1_method_42_code 103 = .ok (.getfield 44, 3) := by decide +kernel
theorem d_C_planned_106 : decode prog_1_method_42_code 106 = .ok (.iload 10, 2) := by decide +kernel
theorem d_C_planned_108 : decode prog_1_method_42_code 108 = .ok (.invokevirtual 152, 3) := by decide +kernel
theorem d_C_planned_111 : decode prog_1_method_42_code 111 = .ok (.iinc 5 1, 3) := by decide +kernel
theorem d_C_planned_114 : decode prog_1_method_42_code 114 = .ok (.iload 6, 2) := by decide +kernel
theorem d_C_planned_116 : decode prog_1_method_42_code 116 = .ok (.aload 9, 2) := by decide +kernel
theorem d_C_planned_118 : decode prog_1_method_42_code 118 = .ok (.iload 10, 2) := by decide +kernel
theorem d_C_planned_120 : decode prog_1_method_42_code 120 = .ok (.invokevirtual 155, 3) := by decide +kernel
theorem d_C_planned_123 : decode prog_1_method_42_code 123 = .ok (.iadd, 1) := by decide +kernel
theorem d_C_planned_124 : decode prog_1_method_42_code 124 = .ok (.istore 6, 2) := by decide +kernel
theorem d_C_planned_126 : decode prog_1_method_42_code 126 = .ok (.iinc 7 1, 3) := by decide +kernel
theorem d_C_planned_129 : decode prog_1_method_42_code 129 = .ok (.goto (-109), 3) := by decide +kernel
theorem d_C_planned_132 : decode prog_1_method_42_code 132 = .ok (.iload 4, 2) := by decide +kernel
theorem d_C_planned_134 : decode prog_1_method_42_code 134 = .ok (.ifCond .ne 8, 3) := by decide +kernel
theorem d_C_planned_137 : decode prog_1_method_42_code 137 = .ok (.iload 5, 2) := by decide +kernel
theorem d_C_planned_139 : decode prog_1_method_42_code 139 = .ok (.goto 5, 3) := by decide +kernel
theorem d_C_planned_142 : decode prog_1_method_42_code 142 = .ok (.iload 6, 2) := by decide +kernel
theorem d_C_planned_144 : decode prog_1_method_42_code 144 = .ok (.ireturn, 1) := by decide +kernel
theorem d_C_passDays_0 : decode prog_1_method_43_code 0 = .ok (.aload_n 0, 1) := by decide +kernel
theorem d_C_passDays_1 : decode prog_1_method_43_code 1 = .ok (.getfield 44, 3) := by decide +kernel
theorem d_C_passDays_4 : decode prog_1_method_43_code 4 = .ok (.aload_n 0, 1) := by decide +kernel
theorem d_C_passDays_5 : decode prog_1_method_43_code 5 = .ok (.getfield 40, 3) := by decide +kernel
theorem d_C_passDays_8 : decode prog_1_method_43_code 8 = .ok (.invokevirtual 112, 3) := by decide +kernel
theorem d_C_passDays_11 : decode prog_1_method_43_code 11 = .ok (.iload_n 2, 1) := by decide +kernel
theorem d_C_passDays_12 : decode prog_1_method_43_code 12 = .ok (.i2l, 1) := by decide +kernel
theorem d_C_passDays_13 : decode prog_1_method_43_code 13 = .ok (.lstore_n 3, 1) := by decide +kernel
theorem d_C_passDays_14 : decode prog_1_method_43_code 14 = .ok (.iconst 0, 1) := by decide +kernel
theorem d_C_passDays_15 : decode prog_1_method_43_code 15 = .ok (.istore 5, 2) := by decide +kernel
theorem d_C_passDays_17 : decode prog_1_method_43_code 17 = .ok (.iconst 0, 1) := by decide +kernel
theorem d_C_passDays_18 : decode prog_1_method_43_code 18 = .ok (.istore 6, 2) := by decide +kernel
theorem d_C_passDays_20 : decode prog_1_method_43_code 20 = .ok (.iload 6, 2) := by decide +kernel
theorem d_C_passDays_22 : decode prog_1_method_43_code 22 = .ok (.iload_n 1, 1) := by decide +kernel
theorem d_C_passDays_23 : decode prog_1_method_43_code 23 = .ok (.if_icmp .ge 88, 3) := by decide +kernel
theorem d_C_passDays_26 : decode prog_1_method_43_code 26 = .ok (.aload_n 0, 1) := by decide +kernel
theorem d_C_passDays_27 : decode prog_1_method_43_code 27 = .ok (.getfield 44, 3) := by decide +kernel
theorem d_C_passDays_30 : decode prog_1_method_43_code 30 = .ok (.getfield 123, 3) := by decide +kernel
theorem d_C_passDays_33 : decode prog_1_method_43_code 33 = .ok (.ifCond .le 78, 3) := by decide +kernel
theorem d_C_passDays_36 : decode prog_1_method_43_code 36 = .ok (.lload_n 3, 1) := by decide +kernel
theorem d_C_passDays_37 : decode prog_1_method_43_code 37 = .ok (.ldc2_w 297, 3) := by decide +kernel
theorem d_C_passDays_40 : decode prog_1_method_43_code 40 = .ok (.lmul, 1) := by decide +kernel
theorem d_C_passDays_41 : decode prog_1_method_43_code 41 = .ok (.ldc2_w 299, 3) := by decide +kernel
theorem d_C_passDays_44 : decode prog_1_method_43_code 44 = .ok (.lrem, 1) := by decide +kernel
theorem d_C_passDays_45 : decode prog_1_method_43_code 45 = .ok (.lstore_n 3, 1) := by decide +kernel
theorem d_C_passDays_46 : decode prog_1_method_43_code 46 = .ok (.aload_n 0, 1) := by decide +kernel
theorem d_C_passDays_47 : decode prog_1_method_43_code 47 = .ok (.getfield 44, 3) := by decide +kernel
theorem d_C_passDays_50 : decode prog_1_method_43_code 50 = .ok (.lload_n 3, 1) := by decide +kernel
theorem d_C_passDays_51 : decode prog_1_method_43_code 51 = .ok (.aload_n 0, 1) := by decide +kernel
theorem d_C_passDays_52 : decode prog_1_method_43_code 52 = .ok (.getfield 44, 3) := by decide +kernel
theorem d_C_passDays_55 : decode prog_1_method_43_code 55 = .ok (.getfield 123, 3) := by decide +kernel
theorem d_C_passDays_58 : decode prog_1_method_43_code 58 = .ok (.i2l, 1) := by decide +kernel
theorem d_C_passDays_59 : decode prog_1_method_43_code 59 = .ok (.lrem, 1) := by decide +kernel
theorem d_C_passDays_60 : decode prog_1_method_43_code 60 = .ok (.l2i, 1) := by decide +kernel
theorem d_C_passDays_61 : decode prog_1_method_43_code 61 = .ok (.invokevirtual 137, 3) := by decide +kernel
theorem d_C_passDays_64 : decode prog_1_method_43_code 64 = .ok (.astore 7, 2) := by decide +kernel
theorem d_C_passDays_66 : decode prog_1_method_43_code 66 = .ok (.lload_n 3, 1) := by decide +kernel
theorem d_C_passDays_67 : decode prog_1_method_43_code 67 = .ok (.ldc2_w 301, 3) := by decide +kernel
theorem d_C_passDays_70 : decode prog_1_method_43_code 70 = .ok (.lrem, 1) := by decide +kernel
theorem d_C_passDays_71 : decode prog_1_method_43_code 71 = .ok (.l2i, 1) := by decide +kernel
theorem d_C_passDays_72 : decode prog_1_method_43_code 72 = .ok (.istore 8, 2) := by decide +kernel
theorem d_C_passDays_74 : decode prog_1_method_43_code 74 = .ok (.aload 7, 2) := by decide +kernel
theorem d_C_passDays_76 : decode prog_1_method_43_code 76 = .ok (.ifnull 29, 3) := by decide +kernel
theorem d_C_passDays_79 : decode prog_1_method_43_code 79 = .ok (.aload_n 0, 1) := by decide +kernel
theorem d_C_passDays_80 : decode prog_1_method_43_code 80 = .ok (.getfield 44, 3) := by decide +kernel
theorem d_C_passDays_83 : decode prog_1_method_43_code 83 = .ok (.aload 7, 2) := by decide +kernel
theorem d_C_passDays_85 : decode prog_1_method_43_code 85 = .ok (.iload 8, 2) := by decide +kernel
theorem d_C_passDays_87 : decode prog_1_method_43_code 87 = .ok (.invokevirtual 141, 3) := by decide +kernel
theorem d_C_passDays_90 : decode prog_1_method_43_code 90 = .ok (.ifCond .eq 15, 3) := by decide +kernel
theorem d_C_passDays_93 : decode prog_1_method_43_code 93 = .ok (.aload_n 0, 1) := by decide +kernel
theorem d_C_passDays_94 : decode prog_1_method_43_code 94 = .ok (.getfield 44, 3) := by decide +kernel
theorem d_C_passDays_97 : decode prog_1_method_43_code 97 = .ok (.iload 8, 2) := by decide +kernel
theorem d_C_passDays_99 : decode prog_1_method_43_code 99 = .ok (.invokevirtual 152, 3) := by decide +kernel
theorem d_C_passDays_102 : decode prog_1_method_43_code 102 = .ok (.iinc 5 1, 3) := by decide +kernel
theorem d_C_passDays_105 : decode prog_1_method_43_code 105 = .ok (.iinc 6 1, 3) := by decide +kernel
theorem d_C_passDays_108 : decode prog_1_method_43_code 108 = .ok (.goto (-88), 3) := by decide +kernel
theorem d_C_passDays_111 : decode prog_1_method_43_code 111 = .ok (.iload 5, 2) := by decide +kernel
theorem d_C_passDays_113 : decode prog_1_method_43_code 113 = .ok (.ireturn, 1) := by decide +kernel
theorem d_C_waysSeen_0 : decode prog_1_method_44_code 0 = .ok (.iload_n 3, 1) := by decide +kernel
theorem d_C_waysSeen_1 : decode prog_1_method_44_code 1 = .ok (.ifCond .gt 5, 3) := by decide +kernel
theorem d_C_waysSeen_4 : decode prog_1_method_44_code 4 = .ok (.iconst 1, 1) := by decide +kernel
theorem d_C_waysSeen_5 : decode prog_1_method_44_code 5 = .ok (.ireturn, 1) := by decide +kernel
theorem d_C_waysSeen_6 : decode prog_1_method_44_code 6 = .ok (.iconst 0, 1) := by decide +kernel
theorem d_C_waysSeen_7 : decode prog_1_method_44_code 7 = .ok (.istore 6, 2) := by decide +kernel
theorem d_C_waysSeen_9 : decode prog_1_method_44_code 9 = .ok (.iconst 0, 1) := by decide +kernel
theorem d_C_waysSeen_10 : decode prog_1_method_44_code 10 = .ok (.istore 7, 2) := by decide +kernel
theorem d_C_waysSeen_12 : decode prog_1_method_44_code 12 = .ok (.iload 7, 2) := by decide +kernel
theorem d_C_waysSeen_14 : decode prog_1_method_44_code 14 = .ok (.bipush 10, 2) := by decide +kernel
theorem d_C_waysSeen_16 : decode prog_1_method_44_code 16 = .ok (.aload_n 0, 1) := by decide +kernel
theorem d_C_waysSeen_17 : decode prog_1_method_44_code 17 = .ok (.getfield 44, 3) := by decide +kernel
theorem d_C_waysSeen_20 : decode prog_1_method_44_code 20 = .ok (.getfield 123, 3) := by decide +kernel
theorem d_C_waysSeen_23 : decode prog_1_method_44_code 23 = .ok (.imul, 1) := by decide +kernel
theorem d_C_waysSeen_24 : decode prog_1_method_44_code 24 = .ok (.if_icmp .ge 27, 3) := by decide +kernel
theorem d_C_waysSeen_27 : decode prog_1_method_44_code 27 = .ok (.iload 6, 2) := by decide +kernel
theorem d_C_waysSeen_29 : decode prog_1_method_44_code 29 = .ok (.aload_n 0, 1) := by decide +kernel
theorem d_C_waysSeen_30 : decode prog_1_method_44_code 30 = .ok (.iload 7, 2) := by decide +kernel
theorem d_C_waysSeen_32 : decode prog_1_method_44_code 32 = .ok (.iload_n 1, 1) := by decide +kernel
theorem d_C_waysSeen_33 : decode prog_1_method_44_code 33 = .ok (.iload_n 2, 1) := by decide +kernel
theorem d_C_waysSeen_34 : decode prog_1_method_44_code 34 = .ok (.iload_n 3, 1) := by decide +kernel
theorem d_C_waysSeen_35 : decode prog_1_method_44_code 35 = .ok (.iload 4, 2) := by decide +kernel
theorem d_C_waysSeen_37 : decode prog_1_method_44_code 37 = .ok (.iload 5, 2) := by decide +kernel
theorem d_C_waysSeen_39 : decode prog_1_method_44_code 39 = .ok (.invokevirtual 303, 3) := by decide +kernel
theorem d_C_waysSeen_42 : decode prog_1_method_44_code 42 = .ok (.iadd, 1) := by decide +kernel
theorem d_C_waysSeen_43 : decode prog_1_method_44_code 43 = .ok (.istore 6, 2) := by decide +kernel
theorem d_C_waysSeen_45 : decode prog_1_method_44_code 45 = .ok (.iinc 7 1, 3) := by decide +kernel
theorem d_C_waysSeen_48 : decode prog_1_method_44_code 48 = .ok (.goto (-36), 3) := by decide +kernel
theorem d_C_waysSeen_51 : decode prog_1_method_44_code 51 = .ok (.iload 6, 2) := by decide +kernel
theorem d_C_waysSeen_53 : decode prog_1_method_44_code 53 = .ok (.ireturn, 1) := by decide +kernel
theorem d_C_waysBehind_0 : decode prog_1_method_45_code 0 = .ok (.aload_n 0, 1) := by decide +kernel
theorem d_C_waysBehind_1 : decode prog_1_method_45_code 1 = .ok (.getfield 44, 3) := by decide +kernel
theorem d_C_waysBehind_4 : decode prog_1_method_45_code 4 = .ok (.getfield 145, 3) := by decide +kernel
theorem d_C_waysBehind_7 : decode prog_1_method_45_code 7 = .ok (.istore 7, 2) := by decide +kernel
theorem d_C_waysBehind_9 : decode prog_1_method_45_code 9 = .ok (.aload_n 0, 1) := by decide +kernel
theorem d_C_waysBehind_10 : decode prog_1_method_45_code 10 = .ok (.getfield 44, 3) := by decide +kernel
theorem d_C_waysBehind_13 : decode prog_1_method_45_code 13 = .ok (.iload 5, 2) := by decide +kernel
theorem d_C_waysBehind_15 : decode prog_1_method_45_code 15 = .ok (.putfield 188, 3) := by decide +kernel
theorem d_C_waysBehind_18 : decode prog_1_method_45_code 18 = .ok (.aload_n 0, 1) := by decide +kernel
theorem d_C_waysBehind_19 : decode prog_1_method_45_code 19 = .ok (.getfield 44, 3) := by decide +kernel
theorem d_C_waysBehind_22 : decode prog_1_method_45_code 22 = .ok (.iload 6, 2) := by decide +kernel
theorem d_C_waysBehind_24 : decode prog_1_method_45_code 24 = .ok (.putfield 191, 3) := by decide +kernel
theorem d_C_waysBehind_27 : decode prog_1_method_45_code 27 = .ok (.aload_n 0, 1) := by decide +kernel
theorem d_C_waysBehind_28 : decode prog_1_method_45_code 28 = .ok (.getfield 44, 3) := by decide +kernel
theorem d_C_waysBehind_31 : decode prog_1_method_45_code 31 = .ok (.iload_n 1, 1) := by decide +kernel
theorem d_C_waysBehind_32 : decode prog_1_method_45_code 32 = .ok (.bipush 10, 2) := by decide +kernel
theorem d_C_waysBehind_34 : decode prog_1_method_45_code 34 = .ok (.idiv, 1) := by decide +kernel
theorem d_C_waysBehind_35 : decode prog_1_method_45_code 35 = .ok (.invokevirtual 137, 3) := by decide +kernel
theorem d_C_waysBehind_38 : decode prog_1_method_45_code 38 = .ok (.astore 8, 2) := by decide +kernel
theorem d_C_waysBehind_40 : decode prog_1_method_45_code 40 = .ok (.iload_n 1, 1) := by decide +kernel
theorem d_C_waysBehind_41 : decode prog_1_method_45_code 41 = .ok (.bipush 10, 2) := by decide +kernel
theorem d_C_waysBehind_43 : decode prog_1_method_45_code 43 = .ok (.irem, 1) := by decide +kernel
theorem d_C_waysBehind_44 : decode prog_1_method_45_code 44 = .ok (.istore 9, 2) := by decide +kernel
theorem d_C_waysBehind_46 : decode prog_1_method_45_code 46 = .ok (.aload 8, 2) := by decide +kernel
theorem d_C_waysBehind_48 : decode prog_1_method_45_code 48 = .ok (.ifnull 27, 3) := by decide +kernel
theorem d_C_waysBehind_51 : decode prog_1_method_45_code 51 = .ok (.iload 9, 2) := by decide +kernel
theorem d_C_waysBehind_53 : decode prog_1_method_45_code 53 = .ok (.bipush 8, 2) := by decide +kernel
theorem d_C_waysBehind_55 : decode prog_1_method_45_code 55 = .ok (.invokestatic 59, 3) := by decide +kernel
theorem d_C_waysBehind_58 : decode prog_1_method_45_code 58 = .ok (.ifCond .eq 17, 3) := by decide +kernel
theorem d_C_waysBehind_61 : decode prog_1_method_45_code 61 = .ok (.aload_n 0, 1) := by decide +kernel
theorem d_C_waysBehind_62 : decode prog_1_method_45_code 62 = .ok (.getfield 44, 3) := by decide +kernel
theorem d_C_waysBehind_65 : decode prog_1_method_45_code 65 = .ok (.aload 8, 2) := by decide +kernel
theorem d_C_waysBehind_67 : decode prog_1_method_45_code 67 = .ok (.iload 9, 2) := by decide +kernel
theorem d_C_waysBehind_69 : decode prog_1_method_45_code 69 = .ok (.invokevirtual 141, 3) := by decide +kernel
theorem d_C_waysBehind_72 : decode prog_1_method_45_code 72 = .ok (.ifCond .ne 5, 3) := by decide +kernel
theorem d_C_waysBehind_75 : decode prog_1_method_45_code 75 = .ok (.iconst 0, 1) := by decide +kernel
theorem d_C_waysBehind_76 : decode prog_1_method_45_code 76 = .ok (.ireturn, 1) := by decide +kernel
theorem d_C_waysBehind_77 : decode prog_1_method_45_code 77 = .ok (.aload_n 0, 1) := by decide +kernel
theorem d_C_waysBehind_78 : decode prog_1_method_45_code 78 = .ok (.getfield 44, 3) := by decide +kernel
theorem d_C_waysBehind_81 : decode prog_1_method_45_code 81 = .ok (.iload 9, 2) := by decide +kernel
theorem d_C_waysBehind_83 : decode prog_1_method_45_code 83 = .ok (.invokevirtual 152, 3) := by decide +kernel
theorem d_C_waysBehind_86 : decode prog_1_method_45_code 86 = .ok (.iconst 0, 1) := by decide +kernel
theorem d_C_waysBehind_87 : decode prog_1_method_45_code 87 = .ok (.istore 10, 2) := by decide +kernel
theorem d_C_waysBehind_89 : decode prog_1_method_45_code 89 = .ok (.aload_n 0, 1) := by decide +kernel
theorem d_C_waysBehind_90 : decode prog_1_method_45_code 90 = .ok (.getfield 44, 3) := by decide +kernel
theorem d_C_waysBehind_93 : decode prog_1_method_45_code 93 = .ok (.getfield 188, 3) := by decide +kernel
theorem d_C_waysBehind_96 : decode prog_1_method_45_code 96 = .ok (.aload_n 0, 1) := by decide +kernel
theorem d_C_waysBehind_97 : decode prog_1_method_45_code 97 = .ok (.getfield 10, 3) := by decide +kernel
theorem d_C_waysBehind_100 : decode prog_1_method_45_code 100 = .ok (.iload_n 2, 1) := by decide +kernel
theorem d_C_waysBehind_101 : decode prog_1_method_45_code 101 = .ok (.iload_n 3, 1) := by decide +kernel
theorem d_C_waysBehind_102 : decode prog_1_method_45_code 102 = .ok (.invokevirtual 294, 3) := by decide +kernel
theorem d_C_waysBehind_105 : decode prog_1_method_45_code 105 = .ok (.if_icmp .ne 31, 3) := by decide +kernel
theorem d_C_waysBehind_108 : decode prog_1_method_45_code 108 = .ok (.aload_n 0, 1) := by decide +kernel
theorem d_C_waysBehind_109 : decode prog_1_method_45_code 109 = .ok (.iload_n 2, 1) := by decide +kernel
theorem d_C_waysBehind_110 : decode prog_1_method_45_code 110 = .ok (.iload_n 3, 1) := by decide +kernel
theorem d_C_waysBehind_111 : decode prog_1_method_45_code 111 = .ok (.iconst 1, 1) := by decide +kernel
theorem d_C_waysBehind_112 : decode prog_1_method_45_code 112 = .ok (.iadd, 1) := by decide +kernel
theorem d_C_waysBehind_113 : decode prog_1_method_45_code 113 = .ok (.iload 4, 2) := by decide +kernel
theorem d_C_waysBehind_115 : decode prog_1_method_45_code 115 = .ok (.iconst 1, 1) := by decide +kernel
theorem d_C_waysBehind_116 : decode prog_1_method_45_code 116 = .ok (.isub, 1) := by decide +kernel
theorem d_C_waysBehind_117 : decode prog_1_method_45_code 117 = .ok (.aload_n 0, 1) := by decide +kernel
theorem d_C_waysBehind_118 : decode prog_1_method_45_code 118 = .ok (.getfield 44, 3) := by decide +kernel
theorem d_C_waysBehind_121 : decode prog_1_method_45_code 121 = .ok (.getfield 188, 3) := by decide +kernel
theorem d_C_waysBehind_124 : decode prog_1_method_45_code 124 = .ok (.aload_n 0, 1) := by decide +kernel
theorem d_C_waysBehind_125 : decode prog_1_method_45_code 125 = .ok (.getfield 44, 3) := by decide +kernel
theorem d_C_waysBehind_128 : decode prog_1_method_45_code 128 = .ok (.getfield 191, 3) := by decide +kernel
theorem d_C_waysBehind_131 : decode prog_1_method_45_code 131 = .ok (.invokevirtual 238, 3) := by decide +kernel
theorem d_C_waysBehind_134 : decode prog_1_method_45_code 134 = .ok (.istore 10, 2) := by decide +kernel
theorem d_C_waysBehind_136 : decode prog_1_method_45_code 136 = .ok (.aload_n 0, 1) := by decide +kernel
theorem d_C_waysBehind_137 : decode prog_1_method_45_code 137 = .ok (.getfield 44, 3) := by decide +kernel
theorem d_C_waysBehind_140 : decode prog_1_method_45_code 140 = .ok (.iload 7, 2) := by decide +kernel
theorem d_C_waysBehind_142 : decode prog_1_method_45_code 142 = .ok (.putfield 145, 3) := by decide +kernel
theorem d_C_waysBehind_145 : decode prog_1_method_45_code 145 = .ok (.iload 10, 2) := by decide +kernel
theorem d_C_waysBehind_147 : decode prog_1_method_45_code 147 = .ok (.ireturn, 1) := by decide +kernel
theorem d_C_firstSeen_0 : decode prog_1_method_46_code 0 = .ok (.iconst 0, 1) := by decide +kernel
theorem d_C_firstSeen_1 : decode prog_1_method_46_code 1 = .ok (.istore 4, 2) := by decide +kernel
theorem d_C_firstSeen_3 : decode prog_1_method_46_code 3 = .ok (.iload 4, 2) := by decide +kernel
theorem d_C_firstSeen_5 : decode prog_1_method_46_code 5 = .ok (.bipush 10, 2) := by decide +kernel
theorem d_C_firstSeen_7 : decode prog_1_method_46_code 7 = .ok (.aload_n 0, 1) := by decide +kernel
theorem d_C_firstSeen_8 : decode prog_1_method_46_code 8 = .ok (.getfield 40, 3) := by decide +kernel
theorem d_C_firstSeen_11 : decode prog_1_method_46_code 11 = .ok (.getfield 123, 3) := by decide +kernel
theorem d_C_firstSeen_14 : decode prog_1_method_46_code 14 = .ok (.imul, 1) := by decide +kernel
theorem d_C_firstSeen_15 : decode prog_1_method_46_code 15 = .ok (.if_icmp .ge 38, 3) := by decide +kernel
theorem d_C_firstSeen_18 : decode prog_1_method_46_code 18 = .ok (.aload_n 0, 1) := by decide +kernel
theorem d_C_firstSeen_19 : decode prog_1_method_46_code 19 = .ok (.iload 4, 2) := by decide +kernel
theorem d_C_firstSeen_21 : decode prog_1_method_46_code 21 = .ok (.iload_n 1, 1) := by decide +kernel
theorem d_C_firstSeen_22 : decode prog_1_method_46_code 22 = .ok (.iload_n 2, 1) := by decide +kernel
theorem d_C_firstSeen_23 : decode prog_1_method_46_code 23 = .ok (.iload_n 3, 1) := by decide +kernel
theorem d_C_firstSeen_24 : decode prog_1_method_46_code 24 = .ok (.aload_n 0, 1) := by decide +kernel
theorem d_C_firstSeen_25 : decode prog_1_method_46_code 25 = .ok (.getfield 40, 3) := by decide +kernel
theorem d_C_firstSeen_28 : decode prog_1_method_46_code 28 = .ok (.getfield 188, 3) := by decide +kernel
theorem d_C_firstSeen_31 : decode prog_1_method_46_code 31 = .ok (.aload_n 0, 1) := by decide +kernel
theorem d_C_firstSeen_32 : decode prog_1_method_46_code 32 = .ok (.getfield 40, 3) := by decide +kernel
theorem d_C_firstSeen_35 : decode prog_1_method_46_code 35 = .ok (.getfield 191, 3) := by decide +kernel
theorem d_C_firstSeen_38 : decode prog_1_method_46_code 38 = .ok (.invokevirtual 303, 3) := by decide +kernel
theorem d_C_firstSeen_41 : decode prog_1_method_46_code 41 = .ok (.ifCond .le 6, 3) := by decide +kernel
theorem d_C_firstSeen_44 : decode prog_1_method_46_code 44 = .ok (.iload 4, 2) := by decide +kernel
theorem d_C_firstSeen_46 : decode prog_1_method_46_code 46 = .ok (.ireturn, 1) := by decide +kernel
theorem d_C_firstSeen_47 : decode prog_1_method_46_code 47 = .ok (.iinc 4 1, 3) := by decide +kernel
theorem d_C_firstSeen_50 : decode prog_1_method_46_code 50 = .ok (.goto (-47), 3) := by decide +kernel
theorem d_C_firstSeen_53 : decode prog_1_method_46_code 53 = .ok (.ldc 223, 2) := by decide +kernel
theorem d_C_firstSeen_55 : decode prog_1_method_46_code 55 = .ok (.ireturn, 1) := by decide +kernel
theorem d_C_within_0 : decode prog_1_method_47_code 0 = .ok (.iload_n 0, 1) := by decide +kernel
theorem d_C_within_1 : decode prog_1_method_47_code 1 = .ok (.ifCond .lt 12, 3) := by decide +kernel
theorem d_C_within_4 : decode prog_1_method_47_code 4 = .ok (.iload_n 0, 1) := by decide +kernel
theorem d_C_within_5 : decode prog_1_method_47_code 5 = .ok (.iload_n 1, 1) := by decide +kernel
theorem d_C_within_6 : decode prog_1_method_47_code 6 = .ok (.if_icmp .ge 7, 3) := by decide +kernel
theorem d_C_within_9 : decode prog_1_method_47_code 9 = .ok (.iconst 1, 1) := by decide +kernel
theorem d_C_within_10 : decode prog_1_method_47_code 10 = .ok (.goto 4, 3) := by decide +kernel
theorem d_C_within_13 : decode prog_1_method_47_code 13 = .ok (.iconst 0, 1) := by decide +kernel
theorem d_C_within_14 : decode prog_1_method_47_code 14 = .ok (.ireturn, 1) := by decide +kernel
theorem d_C_isRow_0 : decode prog_1_method_48_code 0 = .ok (.iload_n 0, 1) := by decide +kernel
theorem d_C_isRow_1 : decode prog_1_method_48_code 1 = .ok (.bipush 8, 2) := by decide +kernel
theorem d_C_isRow_3 : decode prog_1_method_48_code 3 = .ok (.invokestatic 59, 3) := by decide +kernel
theorem d_C_isRow_6 : decode prog_1_method_48_code 6 = .ok (.ireturn, 1) := by decide +kernel
theorem d_C_bit_0 : decode prog_1_method_49_code 0 = .ok (.iload_n 0, 1) := by decide +kernel
theorem d_C_bit_1 : decode prog_1_method_49_code 1 = .ok (.iload_n 1, 1) := by decide +kernel
theorem d_C_bit_2 : decode prog_1_method_49_code 2 = .ok (.ishr, 1) := by decide +kernel
theorem d_C_bit_3 : decode prog_1_method_49_code 3 = .ok (.iconst 1, 1) := by decide +kernel
theorem d_C_bit_4 : decode prog_1_method_49_code 4 = .ok (.iand, 1) := by decide +kernel
theorem d_C_bit_5 : decode prog_1_method_49_code 5 = .ok (.ireturn, 1) := by decide +kernel
theorem d_C_at_0 : decode prog_1_method_50_code 0 = .ok (.iload_n 1, 1) := by decide +kernel
theorem d_C_at_1 : decode prog_1_method_50_code 1 = .ok (.ifCond .lt 15, 3) := by decide +kernel
theorem d_C_at_4 : decode prog_1_method_50_code 4 = .ok (.iload_n 1, 1) := by decide +kernel
theorem d_C_at_5 : decode prog_1_method_50_code 5 = .ok (.aload_n 0, 1) := by decide +kernel
theorem d_C_at_6 : decode prog_1_method_50_code 6 = .ok (.arraylength, 1) := by decide +kernel
theorem d_C_at_7 : decode prog_1_method_50_code 7 = .ok (.if_icmp .ge 9, 3) := by decide +kernel
theorem d_C_at_10 : decode prog_1_method_50_code 10 = .ok (.aload_n 0, 1) := by decide +kernel
theorem d_C_at_11 : decode prog_1_method_50_code 11 = .ok (.iload_n 1, 1) := by decide +kernel
theorem d_C_at_12 : decode prog_1_method_50_code 12 = .ok (.iaload, 1) := by decide +kernel
theorem d_C_at_13 : decode prog_1_method_50_code 13 = .ok (.goto 4, 3) := by decide +kernel
theorem d_C_at_16 : decode prog_1_method_50_code 16 = .ok (.iconst 0, 1) := by decide +kernel
theorem d_C_at_17 : decode prog_1_method_50_code 17 = .ok (.ireturn, 1) := by decide +kernel
theorem d_C_put_0 : decode prog_1_method_51_code 0 = .ok (.iload_n 1, 1) := by decide +kernel
theorem d_C_put_1 : decode prog_1_method_51_code 1 = .ok (.ifCond .lt 13, 3) := by decide +kernel
theorem d_C_put_4 : decode prog_1_method_51_code 4 = .ok (.iload_n 1, 1) := by decide +kernel
theorem d_C_put_5 : decode prog_1_method_51_code 5 = .ok (.aload_n 0, 1) := by decide +kernel
theorem d_C_put_6 : decode prog_1_method_51_code 6 = .ok (.arraylength, 1) := by decide +kernel
theorem d_C_put_7 : decode prog_1_method_51_code 7 = .ok (.if_icmp .ge 7, 3) := by decide +kernel
theorem d_C_put_10 : decode prog_1_method_51_code 10 = .ok (.aload_n 0, 1) := by decide +kernel
theorem d_C_put_11 : decode prog_1_method_51_code 11 = .ok (.iload_n 1, 1) := by decide +kernel
theorem d_C_put_12 : decode prog_1_method_51_code 12 = .ok (.iload_n 2, 1) := by decide +kernel
theorem d_C_put_13 : decode prog_1_method_51_code 13 = .ok (.iastore, 1) := by decide +kernel
theorem d_C_put_14 : decode prog_1_method_51_code 14 = .ok (.return_, 1) := by decide +kernel
theorem d_C_choices_0 : decode prog_1_method_52_code 0 = .ok (.lconst 1, 1) := by decide +kernel
theorem d_C_choices_1 : decode prog_1_method_52_code 1 = .ok (.lstore_n 2, 1) := by decide +kernel
theorem d_C_choices_2 : decode prog_1_method_52_code 2 = .ok (.iconst 1, 1) := by decide +kernel
theorem d_C_choices_3 : decode prog_1_method_52_code 3 = .ok (.istore 4, 2) := by decide +kernel
theorem d_C_choices_5 : decode prog_1_method_52_code 5 = .ok (.iload 4, 2) := by decide +kernel
theorem d_C_choices_7 : decode prog_1_method_52_code 7 = .ok (.iload_n 1, 1) := by decide +kernel
theorem d_C_choices_8 : decode prog_1_method_52_code 8 = .ok (.if_icmp .gt 23, 3) := by decide +kernel
theorem d_C_choices_11 : decode prog_1_method_52_code 11 = .ok (.lload_n 2, 1) := by decide +kernel
theorem d_C_choices_12 : decode prog_1_method_52_code 12 = .ok (.iload_n 0, 1) := by decide +kernel
theorem d_C_choices_13 : decode prog_1_method_52_code 13 = .ok (.iload_n 1, 1) := by decide +kernel
theorem d_C_choices_14 : decode prog_1_method_52_code 14 = .ok (.isub, 1) := by decide +kernel
theorem d_C_choices_15 : decode prog_1_method_52_code 15 = .ok (.iload 4, 2) := by decide +kernel
theorem d_C_choices_17 : decode prog_1_method_52_code 17 = .ok (.iadd, 1) := by decide +kernel
theorem d_C_choices_18 : decode prog_1_method_52_code 18 = .ok (.i2l, 1) := by decide +kernel
theorem d_C_choices_19 : decode prog_1_method_52_code 19 = .ok (.lmul, 1) := by decide +kernel
theorem d_C_choices_20 : decode prog_1_method_52_code 20 = .ok (.iload 4, 2) := by decide +kernel
theorem d_C_choices_22 : decode prog_1_method_52_code 22 = .ok (.i2l, 1) := by decide +kernel
theorem d_C_choices_23 : decode prog_1_method_52_code 23 = .ok (.ldiv, 1) := by decide +kernel
theorem d_C_choices_24 : decode prog_1_method_52_code 24 = .ok (.lstore_n 2, 1) := by decide +kernel
theorem d_C_choices_25 : decode prog_1_method_52_code 25 = .ok (.iinc 4 1, 3) := by decide +kernel
theorem d_C_choices_28 : decode prog_1_method_52_code 28 = .ok (.goto (-23), 3) := by decide +kernel
theorem d_C_choices_31 : decode prog_1_method_52_code 31 = .ok (.lload_n 2, 1) := by decide +kernel
theorem d_C_choices_32 : decode prog_1_method_52_code 32 = .ok (.lreturn, 1) := by decide +kernel
theorem d_C_power_0 : decode prog_1_method_53_code 0 = .ok (.lconst 1, 1) := by decide +kernel
theorem d_C_power_1 : decode prog_1_method_53_code 1 = .ok (.lstore_n 2, 1) := by decide +kernel
theorem d_C_power_2 : decode prog_1_method_53_code 2 = .ok (.iconst 0, 1) := by decide +kernel
theorem d_C_power_3 : decode prog_1_method_53_code 3 = .ok (.istore 4, 2) := by decide +kernel
theorem d_C_power_5 : decode prog_1_method_53_code 5 = .ok (.iload 4, 2) := by decide +kernel
theorem d_C_power_7 : decode prog_1_method_53_code 7 = .ok (.iload_n 1, 1) := by decide +kernel
theorem d_C_power_8 : decode prog_1_method_53_code 8 = .ok (.if_icmp .ge 14, 3) := by decide +kernel
theorem d_C_power_11 : decode prog_1_method_53_code 11 = .ok (.lload_n 2, 1) := by decide +kernel
theorem d_C_power_12 : decode prog_1_method_53_code 12 = .ok (.iload_n 0, 1) := by decide +kernel
theorem d_C_power_13 : decode prog_1_method_53_code 13 = .ok (.i2l, 1) := by decide +kernel
theorem d_C_power_14 : decode prog_1_method_53_code 14 = .ok (.lmul, 1) := by decide +kernel
theorem d_C_power_15 : decode prog_1_method_53_code 15 = .ok (.lstore_n 2, 1) := by decide +kernel
theorem d_C_power_16 : decode prog_1_method_53_code 16 = .ok (.iinc 4 1, 3) := by decide +kernel
theorem d_C_power_19 : decode prog_1_method_53_code 19 = .ok (.goto (-14), 3) := by decide +kernel
theorem d_C_power_22 : decode prog_1_method_53_code 22 = .ok (.lload_n 2, 1) := by decide +kernel
theorem d_C_power_23 : decode prog_1_method_53_code 23 = .ok (.lreturn, 1) := by decide +kernel
theorem d_C_commonDivisor_0 : decode prog_1_method_54_code 0 = .ok (.iconst 0, 1) := by decide +kernel
theorem d_C_commonDivisor_1 : decode prog_1_method_54_code 1 = .ok (.istore 4, 2) := by decide +kernel
theorem d_C_commonDivisor_3 : decode prog_1_method_54_code 3 = .ok (.iload 4, 2) := by decide +kernel
theorem d_C_commonDivisor_5 : decode prog_1_method_54_code 5 = .ok (.sipush 128, 3) := by decide +kernel
theorem d_C_commonDivisor_8 : decode prog_1_method_54_code 8 = .ok (.if_icmp .ge 25, 3) := by decide +kernel
theorem d_C_commonDivisor_11 : decode prog_1_method_54_code 11 = .ok (.lload_n 2, 1) := by decide +kernel
theorem d_C_commonDivisor_12 : decode prog_1_method_54_code 12 = .ok (.lconst 0, 1) := by decide +kernel
theorem d_C_commonDivisor_13 : decode prog_1_method_54_code 13 = .ok (.lcmp, 1) := by decide +kernel
theorem d_C_commonDivisor_14 : decode prog_1_method_54_code 14 = .ok (.ifCond .eq 19, 3) := by decide +kernel
theorem d_C_commonDivisor_17 : decode prog_1_method_54_code 17 = .ok (.lload_n 0, 1) := by decide +kernel
theorem d_C_commonDivisor_18 : decode prog_1_method_54_code 18 = .ok (.lload_n 2, 1) := by decide +kernel
theorem d_C_commonDivisor_19 : decode prog_1_method_54_code 19 = .ok (.lrem, 1) := by decide +kernel
theorem d_C_commonDivisor_20 : decode prog_1_method_54_code 20 = .ok (.lstore 5, 2) := by decide +kernel
theorem d_C_commonDivisor_22 : decode prog_1_method_54_code 22 = .ok (.lload_n 2, 1) := by decide +kernel
theorem d_C_commonDivisor_23 : decode prog_1_method_54_code 23 = .ok (.lstore_n 0, 1) := by decide +kernel
theorem d_C_commonDivisor_24 : decode prog_1_method_54_code 24 = .ok (.lload 5, 2) := by decide +kernel
theorem d_C_commonDivisor_26 : decode prog_1_method_54_code 26 = .ok (.lstore_n 2, 1) := by decide +kernel
theorem d_C_commonDivisor_27 : decode prog_1_method_54_code 27 = .ok (.iinc 4 1, 3) := by decide +kernel
theorem d_C_commonDivisor_30 : decode prog_1_method_54_code 30 = .ok (.goto (-27), 3) := by decide +kernel
theorem d_C_commonDivisor_33 : decode prog_1_method_54_code 33 = .ok (.lload_n 0, 1) := by decide +kernel
theorem d_C_commonDivisor_34 : decode prog_1_method_54_code 34 = .ok (.lreturn, 1) := by decide +kernel
theorem d_C_beside_0 : decode prog_1_method_55_code 0 = .ok (.iload_n 1, 1) := by decide +kernel
theorem d_C_beside_1 : decode prog_1_method_55_code 1 = .ok (.bipush 7, 2) := by decide +kernel
theorem d_C_beside_3 : decode prog_1_method_55_code 3 = .ok (.iand, 1) := by decide +kernel
theorem d_C_beside_4 : decode prog_1_method_55_code 4 = .ok (.istore_n 2, 1) := by decide +kernel
theorem d_C_beside_5 : decode prog_1_method_55_code 5 = .ok (.iload_n 0, 1) := by decide +kernel
theorem d_C_beside_6 : decode prog_1_method_55_code 6 = .ok (.ifCond .lt 25, 3) := by decide +kernel
theorem d_C_beside_9 : decode prog_1_method_55_code 9 = .ok (.iload_n 0, 1) := by decide +kernel
theorem d_C_beside_10 : decode prog_1_method_55_code 10 = .ok (.bipush 24, 2) := by decide +kernel
theorem d_C_beside_12 : decode prog_1_method_55_code 12 = .ok (.if_icmp .ge 19, 3) := by decide +kernel
theorem d_C_beside_15 : decode prog_1_method_55_code 15 = .ok (.iload_n 2, 1) := by decide +kernel
theorem d_C_beside_16 : decode prog_1_method_55_code 16 = .ok (.getstatic 307, 3) := by decide +kernel
theorem d_C_beside_19 : decode prog_1_method_55_code 19 = .ok (.arraylength, 1) := by decide +kernel
theorem d_C_beside_20 : decode prog_1_method_55_code 20 = .ok (.if_icmp .ge 11, 3) := by decide +kernel
theorem d_C_beside_23 : decode prog_1_method_55_code 23 = .ok (.iload_n 2, 1) := by decide +kernel
theorem d_C_beside_24 : decode prog_1_method_55_code 24 = .ok (.getstatic 310, 3) := by decide +kernel
theorem d_C_beside_27 : decode prog_1_method_55_code 27 = .ok (.arraylength, 1) := by decide +kernel
theorem d_C_beside_28 : decode prog_1_method_55_code 28 = .ok (.if_icmp .lt 5, 3) := by decide +kernel
theorem d_C_beside_31 : decode prog_1_method_55_code 31 = .ok (.iconst (-1), 1) := by decide +kernel
theorem d_C_beside_32 : decode prog_1_method_55_code 32 = .ok (.ireturn, 1) := by decide +kernel
theorem d_C_beside_33 : decode prog_1_method_55_code 33 = .ok (.iload_n 0, 1) := by decide +kernel
theorem d_C_beside_34 : decode prog_1_method_55_code 34 = .ok (.bipush 6, 2) := by decide +kernel
theorem d_C_beside_36 : decode prog_1_method_55_code 36 = .ok (.irem, 1) := by decide +kernel
theorem d_C_beside_37 : decode prog_1_method_55_code 37 = .ok (.getstatic 307, 3) := by decide +kernel
theorem d_C_beside_40 : decode prog_1_method_55_code 40 = .ok (.iload_n 2, 1) := by decide +kernel
theorem d_C_beside_41 : decode prog_1_method_55_code 41 = .ok (.iaload, 1) := by decide +kernel
theorem d_C_beside_42 : decode prog_1_method_55_code 42 = .ok (.iadd, 1) := by decide +kernel
theorem d_C_beside_43 : decode prog_1_method_55_code 43 = .ok (.istore_n 3, 1) := by decide +kernel
theorem d_C_beside_44 : decode prog_1_method_55_code 44 = .ok (.iload_n 0, 1) := by decide +kernel
theorem d_C_beside_45 : decode prog_1_method_55_code 45 = .ok (.bipush 6, 2) := by decide +kernel
theorem d_C_beside_47 : decode prog_1_method_55_code 47 = .ok (.idiv, 1) := by decide +kernel
theorem d_C_beside_48 : decode prog_1_method_55_code 48 = .ok (.getstatic 310, 3) := by decide +kernel
theorem d_C_beside_51 : decode prog_1_method_55_code 51 = .ok (.iload_n 2, 1) := by decide +kernel
theorem d_C_beside_52 : decode prog_1_method_55_code 52 = .ok (.iaload, 1) := by decide +kernel
theorem d_C_beside_53 : decode prog_1_method_55_code 53 = .ok (.iadd, 1) := by decide +kernel
theorem d_C_beside_54 : decode prog_1_method_55_code 54 = .ok (.istore 4, 2) := by decide +kernel
theorem d_C_beside_56 : decode prog_1_method_55_code 56 = .ok (.iload_n 3, 1) := by decide +kernel
theorem d_C_beside_57 : decode prog_1_method_55_code 57 = .ok (.ifCond .lt 30, 3) := by decide +kernel
theorem d_C_beside_60 : decode prog_1_method_55_code 60 = .ok (.iload_n 3, 1) := by decide +kernel
theorem d_C_beside_61 : decode prog_1_method_55_code 61 = .ok (.bipush 6, 2) := by decide +kernel
theorem d_C_beside_63 : decode prog_1_method_55_code 63 = .ok (.if_icmp .ge 24, 3) := by decide +kernel
theorem d_C_beside_66 : decode prog_1_method_55_code 66 = .ok (.iload 4, 2) := by decide +kernel
theorem d_C_beside_68 : decode prog_1_method_55_code 68 = .ok (.ifCond .lt 19, 3) := by decide +kernel
theorem d_C_beside_71 : decode prog_1_method_55_code 71 = .ok (.iload 4, 2) := by decide +kernel
theorem d_C_beside_73 : decode prog_1_method_55_code 73 = .ok (.iconst 4, 1) := by decide +kernel
theorem d_C_beside_74 : decode prog_1_method_55_code 74 = .ok (.if_icmp .ge 13, 3) := by decide +kernel
theorem d_C_beside_77 : decode prog_1_method_55_code 77 = .ok (.bipush 6, 2) := by decide +kernel
theorem d_C_beside_79 : decode prog_1_method_55_code 79 = .ok (.iload 4, 2) := by decide +kernel
theorem d_C_beside_81 : decode prog_1_method_55_code 81 = .ok (.imul, 1) := by decide +kernel
theorem d_C_beside_82 : decode prog_1_method_55_code 82 = .ok (.iload_n 3, 1) := by decide +kernel
theorem d_C_beside_83 : decode prog_1_method_55_code 83 = .ok (.iadd, 1) := by decide +kernel
theorem d_C_beside_84 : decode prog_1_method_55_code 84 = .ok (.goto 4, 3) := by decide +kernel
theorem d_C_beside_87 : decode prog_1_method_55_code 87 = .ok (.iconst (-1), 1) := by decide +kernel
theorem d_C_beside_88 : decode prog_1_method_55_code 88 = .ok (.ireturn, 1) := by decide +kernel
theorem d_C_turnBehind_0 : decode prog_1_method_56_code 0 = .ok (.iload_n 1, 1) := by decide +kernel
theorem d_C_turnBehind_1 : decode prog_1_method_56_code 1 = .ok (.bipush 6, 2) := by decide +kernel
theorem d_C_turnBehind_3 : decode prog_1_method_56_code 3 = .ok (.if_icmp .lt 5, 3) := by decide +kernel
theorem d_C_turnBehind_6 : decode prog_1_method_56_code 6 = .ok (.iload_n 0, 1) := by decide +kernel
theorem d_C_turnBehind_7 : decode prog_1_method_56_code 7 = .ok (.ireturn, 1) := by decide +kernel
theorem d_C_turnBehind_8 : decode prog_1_method_56_code 8 = .ok (.iload_n 0, 1) := by decide +kernel
theorem d_C_turnBehind_9 : decode prog_1_method_56_code 9 = .ok (.iload_n 1, 1) := by decide +kernel
theorem d_C_turnBehind_10 : decode prog_1_method_56_code 10 = .ok (.iconst 2, 1) := by decide +kernel
theorem d_C_turnBehind_11 : decode prog_1_method_56_code 11 = .ok (.irem, 1) := by decide +kernel
theorem d_C_turnBehind_12 : decode prog_1_method_56_code 12 = .ok (.ifCond .ne 7, 3) := by decide +kernel
theorem d_C_turnBehind_15 : decode prog_1_method_56_code 15 = .ok (.iconst 1, 1) := by decide +kernel
theorem d_C_turnBehind_16 : decode prog_1_method_56_code 16 = .ok (.goto 5, 3) := by decide +kernel
theorem d_C_turnBehind_19 : decode prog_1_method_56_code 19 = .ok (.bipush 7, 2) := by decide +kernel
theorem d_C_turnBehind_21 : decode prog_1_method_56_code 21 = .ok (.iadd, 1) := by decide +kernel
theorem d_C_turnBehind_22 : decode prog_1_method_56_code 22 = .ok (.bipush 7, 2) := by decide +kernel
theorem d_C_turnBehind_24 : decode prog_1_method_56_code 24 = .ok (.iand, 1) := by decide +kernel
theorem d_C_turnBehind_25 : decode prog_1_method_56_code 25 = .ok (.ireturn, 1) := by decide +kernel
theorem d_C_middleBehind_0 : decode prog_1_method_57_code 0 = .ok (.iload_n 2, 1) := by decide +kernel
theorem d_C_middleBehind_1 : decode prog_1_method_57_code 1 = .ok (.tableswitch 95 0 7 #[47, 47, 49, 49, 65, 65, 81, 87], 47) := by decide +kernel
theorem d_C_middleBehind_48 : decode prog_1_method_57_code 48 = .ok (.iload_n 0, 1) := by decide +kernel
theorem d_C_middleBehind_49 : decode prog_1_method_57_code 49 = .ok (.ireturn, 1) := by decide +kernel
theorem d_C_middleBehind_50 : decode prog_1_method_57_code 50 = .ok (.iload_n 0, 1) := by decide +kernel
theorem d_C_middleBehind_51 : decode prog_1_method_57_code 51 = .ok (.iload_n 1, 1) := by decide +kernel
theorem d_C_middleBehind_52 : decode prog_1_method_57_code 52 = .ok (.iconst 4, 1) := by decide +kernel
theorem d_C_middleBehind_53 : decode prog_1_method_57_code 53 = .ok (.iadd, 1) := by decide +kernel
theorem d_C_middleBehind_54 : decode prog_1_method_57_code 54 = .ok (.invokestatic 313, 3) := by decide +kernel
theorem d_C_middleBehind_57 : decode prog_1_method_57_code 57 = .ok (.iload_n 1, 1) := by decide +kernel
theorem d_C_middleBehind_58 : decode prog_1_method_57_code 58 = .ok (.iload_n 2, 1) := by decide +kernel
theorem d_C_middleBehind_59 : decode prog_1_method_57_code 59 = .ok (.invokestatic 316, 3) := by decide +kernel
theorem d_C_middleBehind_62 : decode prog_1_method_57_code 62 = .ok (.invokestatic 313, 3) := by decide +kernel
theorem d_C_middleBehind_65 : decode prog_1_method_57_code 65 = .ok (.ireturn, 1) := by decide +kernel
theorem d_C_middleBehind_66 : decode prog_1_method_57_code 66 = .ok (.iload_n 0, 1) := by decide +kernel
theorem d_C_middleBehind_67 : decode prog_1_method_57_code 67 = .ok (.iload_n 1, 1) := by decide +kernel
theorem d_C_middleBehind_68 : decode prog_1_method_57_code 68 = .ok (.invokestatic 313, 3) := by decide +kernel
theorem d_C_middleBehind_71 : decode prog_1_method_57_code 71 = .ok (.iload_n 1, 1) := by decide +kernel
theorem d_C_middleBehind_72 : decode prog_1_method_57_code 72 = .ok (.iload_n 2, 1) := by decide +kernel
theorem d_C_middleBehind_73 : decode prog_1_method_57_code 73 = .ok (.invokestatic 316, 3) := by decide +kernel
theorem d_C_middleBehind_76 : decode prog_1_method_57_code 76 = .ok (.iconst 4, 1) := by decide +kernel
theorem d_C_middleBehind_77 : decode prog_1_method_57_code 77 = .ok (.iadd, 1) := by decide +kernel
theorem d_C_middleBehind_78 : decode prog_1_method_57_code 78 = .ok (.invokestatic 313, 3) := by decide +kernel
theorem d_C_middleBehind_81 : decode prog_1_method_57_code 81 = .ok (.ireturn, 1) := by decide +kernel
theorem d_C_middleBehind_82 : decode prog_1_method_57_code 82 = .ok (.iload_n 0, 1) := by decide +kernel
theorem d_C_middleBehind_83 : decode prog_1_method_57_code 83 = .ok (.iload_n 1, 1) := by decide +kernel
theorem d_C_middleBehind_84 : decode prog_1_method_57_code 84 = .ok (.invokestatic 313, 3) := by decide +kernel
theorem d_C_middleBehind_87 : decode prog_1_method_57_code 87 = .ok (.ireturn, 1) := by decide +kernel
theorem d_C_middleBehind_88 : decode prog_1_method_57_code 88 = .ok (.iload_n 0, 1) := by decide +kernel
theorem d_C_middleBehind_89 : decode prog_1_method_57_code 89 = .ok (.iload_n 1, 1) := by decide +kernel
theorem d_C_middleBehind_90 : decode prog_1_method_57_code 90 = .ok (.iconst 4, 1) := by decide +kernel
theorem d_C_middleBehind_91 : decode prog_1_method_57_code 91 = .ok (.iadd, 1) := by decide +kernel
theorem d_C_middleBehind_92 : decode prog_1_method_57_code 92 = .ok (.invokestatic 313, 3) := by decide +kernel
theorem d_C_middleBehind_95 : decode prog_1_method_57_code 95 = .ok (.ireturn, 1) := by decide +kernel
theorem d_C_middleBehind_96 : decode prog_1_method_57_code 96 = .ok (.iconst (-1), 1) := by decide +kernel
theorem d_C_middleBehind_97 : decode prog_1_method_57_code 97 = .ok (.ireturn, 1) := by decide +kernel
theorem d_C_isOne_0 : decode prog_1_method_58_code 0 = .ok (.iload_n 1, 1) := by decide +kernel
theorem d_C_isOne_1 : decode prog_1_method_58_code 1 = .ok (.tableswitch 66 0 5 #[39, 41, 46, 51, 56, 61], 39) := by decide +kernel
theorem d_C_isOne_40 : decode prog_1_method_58_code 40 = .ok (.iconst 1, 1) := by decide +kernel
theorem d_C_isOne_41 : decode prog_1_method_58_code 41 = .ok (.ireturn, 1) := by decide +kernel
theorem d_C_isOne_42 : decode prog_1_method_58_code 42 = .ok (.aload_n 0, 1) := by decide +kernel
theorem d_C_isOne_43 : decode prog_1_method_58_code 43 = .ok (.instanceof 319, 3) := by decide +kernel
theorem d_C_isOne_46 : decode prog_1_method_58_code 46 = .ok (.ireturn, 1) := by decide +kernel
theorem d_C_isOne_47 : decode prog_1_method_58_code 47 = .ok (.aload_n 0, 1) := by decide +kernel
theorem d_C_isOne_48 : decode prog_1_method_58_code 48 = .ok (.instanceof 321, 3) := by decide +kernel
theorem d_C_isOne_51 : decode prog_1_method_58_code 51 = .ok (.ireturn, 1) := by decide +kernel
theorem d_C_isOne_52 : decode prog_1_method_58_code 52 = .ok (.aload_n 0, 1) := by decide +kernel
theorem d_C_isOne_53 : decode prog_1_method_58_code 53 = .ok (.instanceof 323, 3) := by decide +kernel
theorem d_C_isOne_56 : decode prog_1_method_58_code 56 = .ok (.ireturn, 1) := by decide +kernel
theorem d_C_isOne_57 : decode prog_1_method_58_code 57 = .ok (.aload_n 0, 1) := by decide +kernel
theorem d_C_isOne_58 : decode prog_1_method_58_code 58 = .ok (.instanceof 325, 3) := by decide +kernel
theorem d_C_isOne_61 : decode prog_1_method_58_code 61 = .ok (.ireturn, 1) := by decide +kernel
theorem d_C_isOne_62 : decode prog_1_method_58_code 62 = .ok (.aload_n 0, 1) := by decide +kernel
theorem d_C_isOne_63 : decode prog_1_method_58_code 63 = .ok (.instanceof 327, 3) := by decide +kernel
theorem d_C_isOne_66 : decode prog_1_method_58_code 66 = .ok (.ireturn, 1) := by decide +kernel
theorem d_C_isOne_67 : decode prog_1_method_58_code 67 = .ok (.iconst 0, 1) := by decide +kernel
theorem d_C_isOne_68 : decode prog_1_method_58_code 68 = .ok (.ireturn, 1) := by decide +kernel
theorem d_M_init_0 : decode prog_14_method_1_code 0 = .ok (.aload_n 0, 1) := by decide +kernel
theorem d_M_init_1 : decode prog_14_method_1_code 1 = .ok (.invokespecial 1, 3) := by decide +kernel
theorem d_M_init_4 : decode prog_14_method_1_code 4 = .ok (.aload_n 0, 1) := by decide +kernel
theorem d_M_init_5 : decode prog_14_method_1_code 5 = .ok (.bipush 120, 2) := by decide +kernel
theorem d_M_init_7 : decode prog_14_method_1_code 7 = .ok (.newarray .int, 2) := by decide +kernel
theorem d_M_init_9 : decode prog_14_method_1_code 9 = .ok (.putfield 7, 3) := by decide +kernel
theorem d_M_init_12 : decode prog_14_method_1_code 12 = .ok (.aload_n 0, 1) := by decide +kernel
theorem d_M_init_13 : decode prog_14_method_1_code 13 = .ok (.bipush 8, 2) := by decide +kernel
theorem d_M_init_15 : decode prog_14_method_1_code 15 = .ok (.newarray .int, 2) := by decide +kernel
theorem d_M_init_17 : decode prog_14_method_1_code 17 = .ok (.putfield 13, 3) := by decide +kernel
theorem d_M_init_20 : decode prog_14_method_1_code 20 = .ok (.aload_n 0, 1) := by decide +kernel
theorem d_M_init_21 : decode prog_14_method_1_code 21 = .ok (.bipush 8, 2) := by decide +kernel
theorem d_M_init_23 : decode prog_14_method_1_code 23 = .ok (.newarray .int, 2) := by decide +kernel
theorem d_M_init_25 : decode prog_14_method_1_code 25 = .ok (.putfield 16, 3) := by decide +kernel
theorem d_M_init_28 : decode prog_14_method_1_code 28 = .ok (.aload_n 0, 1) := by decide +kernel
theorem d_M_init_29 : decode prog_14_method_1_code 29 = .ok (.sipush 320, 3) := by decide +kernel
theorem d_M_init_32 : decode prog_14_method_1_code 32 = .ok (.newarray .int, 2) := by decide +kernel
theorem d_M_init_34 : decode prog_14_method_1_code 34 = .ok (.putfield 19, 3) := by decide +kernel
theorem d_M_init_37 : decode prog_14_method_1_code 37 = .ok (.aload_n 0, 1) := by decide +kernel
theorem d_M_init_38 : decode prog_14_method_1_code 38 = .ok (.bipush 42, 2) := by decide +kernel
theorem d_M_init_40 : decode prog_14_method_1_code 40 = .ok (.newarray .int, 2) := by decide +kernel
theorem d_M_init_42 : decode prog_14_method_1_code 42 = .ok (.putfield 22, 3) := by decide +kernel
theorem d_M_init_45 : decode prog_14_method_1_code 45 = .ok (.aload_n 0, 1) := by decide +kernel
theorem d_M_init_46 : decode prog_14_method_1_code 46 = .ok (.bipush 42, 2) := by decide +kernel
theorem d_M_init_48 : decode prog_14_method_1_code 48 = .ok (.newarray .int, 2) := by decide +kernel
theorem d_M_init_50 : decode prog_14_method_1_code 50 = .ok (.putfield 25, 3) := by decide +kernel
theorem d_M_init_53 : decode prog_14_method_1_code 53 = .ok (.aload_n 0, 1) := by decide +kernel
theorem d_M_init_54 : decode prog_14_method_1_code 54 = .ok (.bipush 42, 2) := by decide +kernel
theorem d_M_init_56 : decode prog_14_method_1_code 56 = .ok (.newarray .int, 2) := by decide +kernel
theorem d_M_init_58 : decode prog_14_method_1_code 58 = .ok (.putfield 28, 3) := by decide +kernel
theorem d_M_init_61 : decode prog_14_method_1_code 61 = .ok (.aload_n 0, 1) := by decide +kernel
theorem d_M_init_62 : decode prog_14_method_1_code 62 = .ok (.sipush 1008, 3) := by decide +kernel
theorem d_M_init_65 : decode prog_14_method_1_code 65 = .ok (.newarray .int, 2) := by decide +kernel
theorem d_M_init_67 : decode prog_14_method_1_code 67 = .ok (.putfield 31, 3) := by decide +kernel
theorem d_M_init_70 : decode prog_14_method_1_code 70 = .ok (.aload_n 0, 1) := by decide +kernel
theorem d_M_init_71 : decode prog_14_method_1_code 71 = .ok (.bipush 84, 2) := by decide +kernel
theorem d_M_init_73 : decode prog_14_method_1_code 73 = .ok (.newarray .int, 2) := by decide +kernel
theorem d_M_init_75 : decode prog_14_method_1_code 75 = .ok (.putfield 34, 3) := by decide +kernel
theorem d_M_init_78 : decode prog_14_method_1_code 78 = .ok (.aload_n 0, 1) := by decide +kernel
theorem d_M_init_79 : decode prog_14_method_1_code 79 = .ok (.iconst 2, 1) := by decide +kernel
theorem d_M_init_80 : decode prog_14_method_1_code 80 = .ok (.newarray .boolean, 2) := by decide +kernel
theorem d_M_init_82 : decode prog_14_method_1_code 82 = .ok (.putfield 37, 3) := by decide +kernel
theorem d_M_init_85 : decode prog_14_method_1_code 85 = .ok (.aload_n 0, 1) := by decide +kernel
theorem d_M_init_86 : decode prog_14_method_1_code 86 = .ok (.bipush 16, 2) := by decide +kernel
theorem d_M_init_88 : decode prog_14_method_1_code 88 = .ok (.newarray .int, 2) := by decide +kernel
theorem d_M_init_90 : decode prog_14_method_1_code 90 = .ok (.putfield 41, 3) := by decide +kernel
theorem d_M_init_93 : decode prog_14_method_1_code 93 = .ok (.aload_n 0, 1) := by decide +kernel
theorem d_M_init_94 : decode prog_14_method_1_code 94 = .ok (.sipush 576, 3) := by decide +kernel
theorem d_M_init_97 : decode prog_14_method_1_code 97 = .ok (.newarray .int, 2) := by decide +kernel
theorem d_M_init_99 : decode prog_14_method_1_code 99 = .ok (.putfield 44, 3) := by decide +kernel
theorem d_M_init_102 : decode prog_14_method_1_code 102 = .ok (.aload_n 0, 1) := by decide +kernel
theorem d_M_init_103 : decode prog_14_method_1_code 103 = .ok (.sipush 2880, 3) := by decide +kernel
theorem d_M_init_106 : decode prog_14_method_1_code 106 = .ok (.newarray .int, 2) := by decide +kernel
theorem d_M_init_108 : decode prog_14_method_1_code 108 = .ok (.putfield 47, 3) := by decide +kernel
theorem d_M_init_111 : decode prog_14_method_1_code 111 = .ok (.return_, 1) := by decide +kernel
theorem d_M_in_0 : decode prog_14_method_3_code 0 = .ok (.iload_n 0, 1) := by decide +kernel
theorem d_M_in_1 : decode prog_14_method_3_code 1 = .ok (.iload_n 1, 1) := by decide +kernel
theorem d_M_in_2 : decode prog_14_method_3_code 2 = .ok (.if_icmp .lt 12, 3) := by decide +kernel
theorem d_M_in_5 : decode prog_14_method_3_code 5 = .ok (.iload_n 0, 1) := by decide +kernel
theorem d_M_in_6 : decode prog_14_method_3_code 6 = .ok (.iload_n 2, 1) := by decide +kernel
theorem d_M_in_7 : decode prog_14_method_3_code 7 = .ok (.if_icmp .gt 7, 3) := by decide +kernel
theorem d_M_in_10 : decode prog_14_method_3_code 10 = .ok (.iconst 1, 1) := by decide +kernel
theorem d_M_in_11 : decode prog_14_method_3_code 11 = .ok (.goto 4, 3) := by decide +kernel
theorem d_M_in_14 : decode prog_14_method_3_code 14 = .ok (.iconst 0, 1) := by decide +kernel
theorem d_M_in_15 : decode prog_14_method_3_code 15 = .ok (.ireturn, 1) := by decide +kernel
theorem d_M_finds_0 : decode prog_14_method_4_code 0 = .ok (.aload_n 0, 1) := by decide +kernel
theorem d_M_finds_1 : decode prog_14_method_4_code 1 = .ok (.iload_n 1, 1) := by decide +kernel
theorem d_M_finds_2 : decode prog_14_method_4_code 2 = .ok (.putfield 54, 3) := by decide +kernel
theorem d_M_finds_5 : decode prog_14_method_4_code 5 = .ok (.ldc 57, 2) := by decide +kernel
theorem d_M_finds_7 : decode prog_14_method_4_code 7 = .ok (.iload_n 1, 1) := by decide +kernel
theorem d_M_finds_8 : decode prog_14_method_4_code 8 = .ok (.isub, 1) := by decide +kernel
theorem d_M_finds_9 : decode prog_14_method_4_code 9 = .ok (.ireturn, 1) := by decide +kernel
theorem d_M_is_0 : decode prog_14_method_5_code 0 = .ok (.aload_n 0, 1) := by decide +kernel
theorem d_M_is_1 : decode prog_14_method_5_code 1 = .ok (.iconst 0, 1) := by decide +kernel
theorem d_M_is_2 : decode prog_14_method_5_code 2 = .ok (.putfield 54, 3) := by decide +kernel
theorem d_M_is_5 : decode prog_14_method_5_code 5 = .ok (.iload_n 1, 1) := by decide +kernel
theorem d_M_is_6 : decode prog_14_method_5_code 6 = .ok (.ireturn, 1) := by decide +kernel
theorem d_M_isRow_0 : decode prog_14_method_6_code 0 = .ok (.iload_n 0, 1) := by decide +kernel
theorem d_M_isRow_1 : decode prog_14_method_6_code 1 = .ok (.iconst 0, 1) := by decide +kernel
theorem d_M_isRow_2 : decode prog_14_method_6_code 2 = .ok (.bipush 7, 2) := by decide +kernel
theorem d_M_isRow_4 : decode prog_14_method_6_code 4 = .ok (.invokestatic 58, 3) := by decide +kernel
theorem d_M_isRow_7 : decode prog_14_method_6_code 7 = .ok (.ireturn, 1) := by decide +kernel
theorem d_M_row_0 : decode prog_14_method_7_code 0 = .ok (.aload_n 0, 1) := by decide +kernel
theorem d_M_row_1 : decode prog_14_method_7_code 1 = .ok (.iconst 0, 1) := by decide +kernel
theorem d_M_row_2 : decode prog_14_method_7_code 2 = .ok (.putfield 50, 3) := by decide +kernel
theorem d_M_row_5 : decode prog_14_method_7_code 5 = .ok (.iload_n 1, 1) := by decide +kernel
theorem d_M_row_6 : decode prog_14_method_7_code 6 = .ok (.invokestatic 62, 3) := by decide +kernel
theorem d_M_row_9 : decode prog_14_method_7_code 9 = .ok (.ifCond .eq 18, 3) := by decide +kernel
theorem d_M_row_12 : decode prog_14_method_7_code 12 = .ok (.iload_n 2, 1) := by decide +kernel
theorem d_M_row_13 : decode prog_14_method_7_code 13 = .ok (.iconst 0, 1) := by decide +kernel
theorem d_M_row_14 : decode prog_14_method_7_code 14 = .ok (.iconst 2, 1) := by decide +kernel
theorem d_M_row_15 : decode prog_14_method_7_code 15 = .ok (.invokestatic 58, 3) := by decide +kernel
theorem d_M_row_18 : decode prog_14_method_7_code 18 = .ok (.ifCond .eq 9, 3) := by decide +kernel
theorem d_M_row_21 : decode prog_14_method_7_code 21 = .ok (.iload_n 3, 1) := by decide +kernel
theorem d_M_row_22 : decode prog_14_method_7_code 22 = .ok (.bipush 40, 2) := by decide +kernel
theorem d_M_row_24 : decode prog_14_method_7_code 24 = .ok (.if_icmp .le 6, 3) := by decide +kernel
theorem d_M_row_27 : decode prog_14_method_7_code 27 = .ok (.ldc 66, 2) := by decide +kernel
theorem d_M_row_29 : decode prog_14_method_7_code 29 = .ok (.ireturn, 1) := by decide +kernel
theorem d_M_row_30 : decode prog_14_method_7_code 30 = .ok (.iload_n 3, 1) := by decide +kernel
theorem d_M_row_31 : decode prog_14_method_7_code 31 = .ok (.ifCond .ge 9, 3) := by decide +kernel
theorem d_M_row_34 : decode prog_14_method_7_code 34 = .ok (.aload_n 0, 1) := by decide +kernel
theorem d_M_row_35 : decode prog_14_method_7_code 35 = .ok (.iconst 4, 1) := by decide +kernel
theorem d_M_row_36 : decode prog_14_method_7_code 36 = .ok (.invokevirtual 67, 3) := by decide +kernel
theorem d_M_row_39 : decode prog_14_method_7_code 39 = .ok (.ireturn, 1) := by decide +kernel
theorem d_M_row_40 : decode prog_14_method_7_code 40 = .ok (.aload_n 0, 1) := by decide +kernel
theorem d_M_row_41 : decode prog_14_method_7_code 41 = .ok (.getfield 13, 3) := by decide +kernel
theorem d_M_row_44 : decode prog_14_method_7_code 44 = .ok (.iload_n 1, 1) := by decide +kernel
theorem d_M_row_45 : decode prog_14_method_7_code 45 = .ok (.iload_n 2, 1) := by decide +kernel
theorem d_M_row_46 : decode prog_14_method_7_code 46 = .ok (.iconst 1, 1) := by decide +kernel
theorem d_M_row_47 : decode prog_14_method_7_code 47 = .ok (.iadd, 1) := by decide +kernel
theorem d_M_row_48 : decode prog_14_method_7_code 48 = .ok (.iastore, 1) := by decide +kernel
theorem d_M_row_49 : decode prog_14_method_7_code 49 = .ok (.aload_n 0, 1) := by decide +kernel
theorem d_M_row_50 : decode prog_14_method_7_code 50 = .ok (.getfield 16, 3) := by decide +kernel
theorem d_M_row_53 : decode prog_14_method_7_code 53 = .ok (.iload_n 1, 1) := by decide +kernel
theorem d_M_row_54 : decode prog_14_method_7_code 54 = .ok (.iload_n 3, 1) := by decide +kernel
theorem d_M_row_55 : decode prog_14_method_7_code 55 = .ok (.iastore, 1) := by decide +kernel
theorem d_M_row_56 : decode prog_14_method_7_code 56 = .ok (.iconst 0, 1) := by decide +kernel
theorem d_M_row_57 : decode prog_14_method_7_code 57 = .ok (.istore 4, 2) := by decide +kernel
theorem d_M_row_59 : decode prog_14_method_7_code 59 = .ok (.iload 4, 2) := by decide +kernel
theorem d_M_row_61 : decode prog_14_method_7_code 61 = .ok (.iload_n 3, 1) := by decide +kernel
theorem d_M_row_62 : decode prog_14_method_7_code 62 = .ok (.if_icmp .ge 22, 3) := by decide +kernel
theorem d_M_row_65 : decode prog_14_method_7_code 65 = .ok (.aload_n 0, 1) := by decide +kernel
theorem d_M_row_66 : decode prog_14_method_7_code 66 = .ok (.getfield 19, 3) := by decide +kernel
theorem d_M_row_69 : decode prog_14_method_7_code 69 = .ok (.bipush 40, 2) := by decide +kernel
theorem d_M_row_71 : decode prog_14_method_7_code 71 = .ok (.iload_n 1, 1) := by decide +kernel
theorem d_M_row_72 : decode prog_14_method_7_code 72 = .ok (.imul, 1) := by decide +kernel
theorem d_M_row_73 : decode prog_14_method_7_code 73 = .ok (.iload 4, 2) := by decide +kernel
theorem d_M_row_75 : decode prog_14_method_7_code 75 = .ok (.iadd, 1) := by decide +kernel
theorem d_M_row_76 : decode prog_14_method_7_code 76 = .ok (.iconst 0, 1) := by decide +kernel
theorem d_M_row_77 : decode prog_14_method_7_code 77 = .ok (.iastore, 1) := by decide +kernel
theorem d_M_row_78 : decode prog_14_method_7_code 78 = .ok (.iinc 4 1, 3) := by decide +kernel
theorem d_M_row_81 : decode prog_14_method_7_code 81 = .ok (.goto (-22), 3) := by decide +kernel
theorem d_M_row_84 : decode prog_14_method_7_code 84 = .ok (.aload_n 0, 1) := by decide +kernel
theorem d_M_row_85 : decode prog_14_method_7_code 85 = .ok (.iload_n 3, 1) := by decide +kernel
theorem d_M_row_86 : decode prog_14_method_7_code 86 = .ok (.invokevirtual 71, 3) := by decide +kernel
theorem d_M_row_89 : decode prog_14_method_7_code 89 = .ok (.ireturn, 1) := by decide +kernel
theorem d_M_narrow_0 : decode prog_14_method_8_code 0 = .ok (.iload_n 0, 1) := by decide +kernel
theorem d_M_narrow_1 : decode prog_14_method_8_code 1 = .ok (.iconst 1, 1) := by decide +kernel
theorem d_M_narrow_2 : decode prog_14_method_8_code 2 = .ok (.if_icmp .ne 8, 3) := by decide +kernel
theorem d_M_narrow_5 : decode prog_14_method_8_code 5 = .ok (.iload_n 1, 1) := by decide +kernel
theorem d_M_narrow_6 : decode prog_14_method_8_code 6 = .ok (.i2b, 1) := by decide +kernel
theorem d_M_narrow_7 : decode prog_14_method_8_code 7 = .ok (.goto 14, 3) := by decide +kernel
theorem d_M_narrow_10 : decode prog_14_method_8_code 10 = .ok (.iload_n 0, 1) := by decide +kernel
theorem d_M_narrow_11 : decode prog_14_method_8_code 11 = .ok (.iconst 2, 1) := by decide +kernel
theorem d_M_narrow_12 : decode prog_14_method_8_code 12 = .ok (.if_icmp .ne 8, 3) := by decide +kernel
theorem d_M_narrow_15 : decode prog_14_method_8_code 15 = .ok (.iload_n 1, 1) := by decide +kernel
theorem d_M_narrow_16 : decode prog_14_method_8_code 16 = .ok (.i2s, 1) := by decide +kernel
theorem d_M_narrow_17 : decode prog_14_method_8_code 17 = .ok (.goto 4, 3) := by decide +kernel
theorem d_M_narrow_20 : decode prog_14_method_8_code 20 = .ok (.iload_n 1, 1) := by decide +kernel
theorem d_M_narrow_21 : decode prog_14_method_8_code 21 = .ok (.ireturn, 1) := by decide +kernel
theorem d_M_set_0 : decode prog_14_method_9_code 0 = .ok (.aload_n 0, 1) := by decide +kernel
theorem d_M_set_1 : decode prog_14_method_9_code 1 = .ok (.iconst 0, 1) := by decide +kernel
theorem d_M_set_2 : decode prog_14_method_9_code 2 = .ok (.putfield 50, 3) := by decide +kernel
theorem d_M_set_5 : decode prog_14_method_9_code 5 = .ok (.iload_n 1, 1) := by decide +kernel
theorem d_M_set_6 : decode prog_14_method_9_code 6 = .ok (.invokestatic 62, 3) := by decide +kernel
theorem d_M_set_9 : decode prog_14_method_9_code 9 = .ok (.ifCond .ne 6, 3) := by decide +kernel
theorem d_M_set_12 : decode prog_14_method_9_code 12 = .ok (.ldc 66, 2) := by decide +kernel
theorem d_M_set_14 : decode prog_14_method_9_code 14 = .ok (.ireturn, 1) := by decide +kernel
theorem d_M_set_15 : decode prog_14_method_9_code 15 = .ok (.aload_n 0, 1) := by decide +kernel
theorem d_M_set_16 : decode prog_14_method_9_code 16 = .ok (.getfield 13, 3) := by decide +kernel
theorem d_M_set_19 : decode prog_14_method_9_code 19 = .ok (.iload_n 1, 1) := by decide +kernel
theorem d_M_set_20 : decode prog_14_method_9_code 20 = .ok (.iaload, 1) := by decide +kernel
theorem d_M_set_21 : decode prog_14_method_9_code 21 = .ok (.ifCond .ne 9, 3) := by decide +kernel
theorem d_M_set_24 : decode prog_14_method_9_code 24 = .ok (.aload_n 0, 1) := by decide +kernel
theorem d_M_set_25 : decode prog_14_method_9_code 25 = .ok (.iconst 1, 1) := by decide +kernel
theorem d_M_set_26 : decode prog_14_method_9_code 26 = .ok (.invokevirtual 67, 3) := by decide +kernel
theorem d_M_set_29 : decode prog_14_method_9_code 29 = .ok (.ireturn, 1) := by decide +kernel
theorem d_M_set_30 : decode prog_14_method_9_code 30 = .ok (.iload_n 2, 1) := by decide +kernel
theorem d_M_set_31 : decode prog_14_method_9_code 31 = .ok (.iconst 0, 1) := by decide +kernel
theorem d_M_set_32 : decode prog_14_method_9_code 32 = .ok (.aload_n 0, 1) := by decide +kernel
theorem d_M_set_33 : decode prog_14_method_9_code 33 = .ok (.getfield 16, 3) := by decide +kernel
theorem d_M_set_36 : decode prog_14_method_9_code 36 = .ok (.iload_n 1, 1) := by decide +kernel
theorem d_M_set_37 : decode prog_14_method_9_code 37 = .ok (.iaload, 1) := by decide +kernel
theorem d_M_set_38 : decode prog_14_method_9_code 38 = .ok (.iconst 1, 1) := by decide +kernel
theorem d_M_set_39 : decode prog_14_method_9_code 39 = .ok (.isub, 1) := by decide +kernel
theorem d_M_set_40 : decode prog_14_method_9_code 40 = .ok (.invokestatic 58, 3) := by decide +kernel
theorem d_M_set_43 : decode prog_14_method_9_code 43 = .ok (.ifCond .ne 9, 3) := by decide +kernel
theorem d_M_set_46 : decode prog_14_method_9_code 46 = .ok (.aload_n 0, 1) := by decide +kernel
theorem d_M_set_47 : decode prog_14_method_9_code 47 = .ok (.iconst 2, 1) := by decide +kernel
theorem d_M_set_48 : decode prog_14_method_9_code 48 = .ok (.invokevirtual 67, 3) := by decide +kernel
theorem d_M_set_51 : decode prog_14_method_9_code 51 = .ok (.ireturn, 1) := by decide +kernel
theorem d_M_set_52 : decode prog_14_method_9_code 52 = .ok (.aload_n 0, 1) := by decide +kernel
theorem d_M_set_53 : decode prog_14_method_9_code 53 = .ok (.getfield 19, 3) := by decide +kernel
theorem d_M_set_56 : decode prog_14_method_9_code 56 = .ok (.bipush 40, 2) := by decide +kernel
theorem d_M_set_58 : decode prog_14_method_9_code 58 = .ok (.iload_n 1, 1) := by decide +kernel
theorem d_M_set_59 : decode prog_14_method_9_code 59 = .ok (.imul, 1) := by decide +kernel
theorem d_M_set_60 : decode prog_14_method_9_code 60 = .ok (.iload_n 2, 1) := by decide +kernel
theorem d_M_set_61 : decode prog_14_method_9_code 61 = .ok (.iadd, 1) := by decide +kernel
theorem d_M_set_62 : decode prog_14_method_9_code 62 = .ok (.aload_n 0, 1) := by decide +kernel
theorem d_M_set_63 : decode prog_14_method_9_code 63 = .ok (.getfield 13, 3) := by decide +kernel
theorem d_M_set_66 : decode prog_14_method_9_code 66 = .ok (.iload_n 1, 1) := by decide +kernel
theorem d_M_set_67 : decode prog_14_method_9_code 67 = .ok (.iaload, 1) := by decide +kernel
theorem d_M_set_68 : decode prog_14_method_9_code 68 = .ok (.iload_n 3, 1) := by decide +kernel
theorem d_M_set_69 : decode prog_14_method_9_code 69 = .ok (.invokestatic 74, 3) := by decide +kernel
theorem d_M_set_72 : decode prog_14_method_9_code 72 = .ok (.iastore, 1) := by decide +kernel
theorem d_M_set_73 : decode prog_14_method_9_code 73 = .ok (.aload_n 0, 1) := by decide +kernel
theorem d_M_set_74 : decode prog_14_method_9_code 74 = .ok (.aload_n 0, 1) := by decide +kernel
theorem d_M_set_75 : decode prog_14_method_9_code 75 = .ok (.getfield 19, 3) := by decide +kernel
theorem d_M_set_78 : decode prog_14_method_9_code 78 = .ok (.bipush 40, 2) := by decide +kernel
theorem d_M_set_80 : decode prog_14_method_9_code 80 = .ok (.iload_n 1, 1) := by decide +kernel
theorem d_M_set_81 : decode prog_14_method_9_code 81 = .ok (.imul, 1) := by decide +kernel
theorem d_M_set_82 : decode prog_14_method_9_code 82 = .ok (.iload_n 2, 1) := by decide +kernel
theorem d_M_set_83 : decode prog_14_method_9_code 83 = .ok (.iadd, 1) := by decide +kernel
theorem d_M_set_84 : decode prog_14_method_9_code 84 = .ok (.iaload, 1) := by decide +kernel
theorem d_M_set_85 : decode prog_14_method_9_code 85 = .ok (.invokevirtual 71, 3) := by decide +kernel
theorem d_M_set_88 : decode prog_14_method_9_code 88 = .ok (.ireturn, 1) := by decide +kernel
theorem d_M_isPart_0 : decode prog_14_method_10_code 0 = .ok (.iload_n 2, 1) := by decide +kernel
theorem d_M_isPart_1 : decode prog_14_method_10_code 1 = .ok (.ifCond .lt 33, 3) := by decide +kernel
theorem d_M_isPart_4 : decode prog_14_method_10_code 4 = .ok (.iload_n 3, 1) := by decide +kernel
theorem d_M_isPart_5 : decode prog_14_method_10_code 5 = .ok (.ifCond .lt 29, 3) := by decide +kernel
theorem d_M_isPart_8 : decode prog_14_method_10_code 8 = .ok (.iload_n 2, 1) := by decide +kernel
theorem d_M_isPart_9 : decode prog_14_method_10_code 9 = .ok (.aload_n 0, 1) := by decide +kernel
theorem d_M_isPart_10 : decode prog_14_method_10_code 10 = .ok (.getfield 16, 3) := by decide +kernel
theorem d_M_isPart_13 : decode prog_14_method_10_code 13 = .ok (.iload_n 1, 1) := by decide +kernel
theorem d_M_isPart_14 : decode prog_14_method_10_code 14 = .ok (.iaload, 1) := by decide +kernel
theorem d_M_isPart_15 : decode prog_14_method_10_code 15 = .ok (.if_icmp .gt 19, 3) := by decide +kernel
theorem d_M_isPart_18 : decode prog_14_method_10_code 18 = .ok (.iload_n 3, 1) := by decide +kernel
theorem d_M_isPart_19 : decode prog_14_method_10_code 19 = .ok (.aload_n 0, 1) := by decide +kernel
theorem d_M_isPart_20 : decode prog_14_method_10_code 20 = .ok (.getfield 16, 3) := by decide +kernel
theorem d_M_isPart_23 : decode prog_14_method_10_code 23 = .ok (.iload_n 1, 1) := by decide +kernel
theorem d_M_isPart_24 : decode prog_14_method_10_code 24 = .ok (.iaload, 1) := by decide +kernel
theorem d_M_isPart_25 : decode prog_14_method_10_code 25 = .ok (.iload_n 2, 1) := by decide +kernel
theorem d_M_isPart_26 : decode prog_14_method_10_code 26 = .ok (.isub, 1) := by decide +kernel
theorem d_M_isPart_27 : decode prog_14_method_10_code 27 = .ok (.if_icmp .gt 7, 3) := by decide +kernel
theorem d_M_isPart_30 : decode prog_14_method_10_code 30 = .ok (.iconst 1, 1) := by decide +kernel
theorem d_M_isPart_31 : decode prog_14_method_10_code 31 = .ok (.goto 4, 3) := by decide +kernel
theorem d_M_isPart_34 : decode prog_14_method_10_code 34 = .ok (.iconst 0, 1) := by decide +kernel
theorem d_M_isPart_35 : decode prog_14_method_10_code 35 = .ok (.ireturn, 1) := by decide +kernel
theorem d_M_copy_0 : decode prog_14_method_11_code 0 = .ok (.aload_n 0, 1) := by decide +kernel
theorem d_M_copy_1 : decode prog_14_method_11_code 1 = .ok (.iconst 0, 1) := by decide +kernel
theorem d_M_copy_2 : decode prog_14_method_11_code 2 = .ok (.putfield 50, 3) := by decide +kernel
theorem d_M_copy_5 : decode prog_14_method_11_code 5 = .ok (.iload_n 1, 1) := by decide +kernel
theorem d_M_copy_6 : decode prog_14_method_11_code 6 = .ok (.invokestatic 62, 3) := by decide +kernel
theorem d_M_copy_9 : decode prog_14_method_11_code 9 = .ok (.ifCond .eq 10, 3) := by decide +kernel
theorem d_M_copy_12 : decode prog_14_method_11_code 12 = .ok (.iload_n 3, 1) := by decide +kernel
theorem d_M_copy_13 : decode prog_14_method_11_code 13 = .ok (.invokestatic 62, 3) := by decide +kernel
theorem d_M_copy_16 : decode prog_14_method_11_code 16 = .ok (.ifCond .ne 6, 3) := by decide +kernel
theorem d_M_copy_19 : decode prog_14_method_11_code 19 = .ok (.ldc 66, 2) := by decide +kernel
theorem d_M_copy_21 : decode prog_14_method_11_code 21 = .ok (.ireturn, 1) := by decide +kernel
theorem d_M_copy_22 : decode prog_14_method_11_code 22 = .ok (.aload_n 0, 1) := by decide +kernel
theorem d_M_copy_23 : decode prog_14_method_11_code 23 = .ok (.getfield 13, 3) := by decide +kernel
theorem d_M_copy_26 : decode prog_14_method_11_code 26 = .ok (.iload_n 1, 1) := by decide +kernel
theorem d_M_copy_27 : decode prog_14_method_11_code 27 = .ok (.iaload, 1) := by decide +kernel
theorem d_M_copy_28 : decode prog_14_method_11_code 28 = .ok (.ifCond .eq 12, 3) := by decide +kernel
theorem d_M_copy_31 : decode prog_14_method_11_code 31 = .ok (.aload_n 0, 1) := by decide +kernel
theorem d_M_copy_32 : decode prog_14_method_11_code 32 = .ok (.getfield 13, 3) := by decide +kernel
theorem d_M_copy_35 : decode prog_14_method_11_code 35 = .ok (.iload_n 3, 1) := by decide +kernel
theorem d_M_copy_36 : decode prog_14_method_11_code 36 = .ok (.iaload, 1) := by decide +kernel
theorem d_M_copy_37 : decode prog_14_method_11_code 37 = .ok (.ifCond .ne 9, 3) := by decide +kernel
theorem d_M_copy_40 : decode prog_14_method_11_code 40 = .ok (.aload_n 0, 1) := by decide +kernel
theorem d_M_copy_41 : decode prog_14_method_11_code 41 = .ok (.iconst 1, 1) := by decide +kernel
theorem d_M_copy_42 : decode prog_14_method_11_code 42 = .ok (.invokevirtual 67, 3) := by decide +kernel
theorem d_M_copy_45 : decode prog_14_method_11_code 45 = .ok (.ireturn, 1) := by decide +kernel
theorem d_M_copy_46 : decode prog_14_method_11_code 46 = .ok (.aload_n 0, 1) := by decide +kernel
theorem d_M_copy_47 : decode prog_14_method_11_code 47 = .ok (.getfield 13, 3) := by decide +kernel
theorem d_M_copy_50 : decode prog_14_method_11_code 50 = .ok (.iload_n 1, 1) := by decide +kernel
theorem d_M_copy_51 : decode prog_14_method_11_code 51 = .ok (.iaload, 1) := by decide +kernel
theorem d_M_copy_52 : decode prog_14_method_11_code 52 = .ok (.aload_n 0, 1) := by decide +kernel
theorem d_M_copy_53 : decode prog_14_method_11_code 53 = .ok (.getfield 13, 3) := by decide +kernel
theorem d_M_copy_56 : decode prog_14_method_11_code 56 = .ok (.iload_n 3, 1) := by decide +kernel
theorem d_M_copy_57 : decode prog_14_method_11_code 57 = .ok (.iaload, 1) := by decide +kernel
theorem d_M_copy_58 : decode prog_14_method_11_code 58 = .ok (.if_icmp .eq 9, 3) := by decide +kernel
theorem d_M_copy_61 : decode prog_14_method_11_code 61 = .ok (.aload_n 0, 1) := by decide +kernel
theorem d_M_copy_62 : decode prog_14_method_11_code 62 = .ok (.iconst 5, 1) := by decide +kernel
theorem d_M_copy_63 : decode prog_14_method_11_code 63 = .ok (.invokevirtual 67, 3) := by decide +kernel
theorem d_M_copy_66 : decode prog_14_method_11_code 66 = .ok (.ireturn, 1) := by decide +kernel
theorem d_M_copy_67 : decode prog_14_method_11_code 67 = .ok (.aload_n 0, 1) := by decide +kernel
theorem d_M_copy_68 : decode prog_14_method_11_code 68 = .ok (.iload_n 1, 1) := by decide +kernel
theorem d_M_copy_69 : decode prog_14_method_11_code 69 = .ok (.iload_n 2, 1) := by decide +kernel
theorem d_M_copy_70 : decode prog_14_method_11_code 70 = .ok (.iload 5, 2) := by decide +kernel
theorem d_M_copy_72 : decode prog_14_method_11_code 72 = .ok (.invokevirtual 78, 3) := by decide +kernel
theorem d_M_copy_75 : decode prog_14_method_11_code 75 = .ok (.ifCond .eq 15, 3) := by decide +kernel
theorem d_M_copy_78 : decode prog_14_method_11_code 78 = .ok (.aload_n 0, 1) := by decide +kernel
theorem d_M_copy_79 : decode prog_14_method_11_code 79 = .ok (.iload_n 3, 1) := by decide +kernel
theorem d_M_copy_80 : decode prog_14_method_11_code 80 = .ok (.iload 4, 2) := by decide +kernel
theorem d_M_copy_82 : decode prog_14_method_11_code 82 = .ok (.iload 5, 2) := by decide +kernel
theorem d_M_copy_84 : decode prog_14_method_11_code 84 = .ok (.invokevirtual 78, 3) := by decide +kernel
theorem d_M_copy_87 : decode prog_14_method_11_code 87 = .ok (.ifCond .ne 9, 3) := by decide +kernel
theorem d_M_copy_90 : decode prog_14_method_11_code 90 = .ok (.aload_n 0, 1) := by decide +kernel
theorem d_M_copy_91 : decode prog_14_method_11_code 91 = .ok (.iconst 2, 1) := by decide +kernel
theorem d_M_copy_92 : decode prog_14_method_11_code 92 = .ok (.invokevirtual 67, 3) := by decide +kernel
theorem d_M_copy_95 : decode prog_14_method_11_code 95 = .ok (.ireturn, 1) := by decide +kernel
theorem d_M_copy_96 : decode prog_14_method_11_code 96 = .ok (.iconst 0, 1) := by decide +kernel
theorem d_M_copy_97 : decode prog_14_method_11_code 97 = .ok (.istore 6, 2) := by decide +kernel
theorem d_M_copy_99 : decode prog_14_method_11_code 99 = .ok (.iload 6, 2) := by decide +kernel
theorem d_M_copy_101 : decode prog_14_method_11_code 101 = .ok (.iload 5, 2) := by decide +kernel
theorem d_M_copy_103 : decode prog_14_method_11_code 103 = .ok (.if_icmp .ge 58, 3) := by decide +kernel
theorem d_M_copy_106 : decode prog_14_method_11_code 106 = .ok (.iload_n 2, 1) := by decide +kernel
theorem d_M_copy_107 : decode prog_14_method_11_code 107 = .ok (.iload 4, 2) := by decide +kernel
theorem d_M_copy_109 : decode prog_14_method_11_code 109 = .ok (.if_icmp .ge 13, 3) := by decide +kernel
theorem d_M_copy_112 : decode prog_14_method_11_code 112 = .ok (.iload 5, 2) := by decide +kernel
theorem d_M_copy_114 : decode prog_14_method_11_code 114 = .ok (.iconst 1, 1) := by decide +kernel
theorem d_M_copy_115 : decode prog_14_method_11_code 115 = .ok (.isub, 1) := by decide +kernel
theorem d_M_copy_116 : decode prog_14_method_11_code 116 = .ok (.iload 6, 2) := by decide +kernel
theorem d_M_copy_118 : decode prog_14_method_11_code 118 = .ok (.isub, 1) := by decide +kernel
theorem d_M_copy_119 : decode prog_14_method_11_code 119 = .ok (.goto 5, 3) := by decide +kernel
theorem d_M_copy_122 : decode prog_14_method_11_code 122 = .ok (.iload 6, 2) := by decide +kernel
theorem d_M_copy_124 : decode prog_14_method_11_code 124 = .ok (.istore 7, 2) := by decide +kernel
theorem d_M_copy_126 : decode prog_14_method_11_code 126 = .ok (.aload_n 0, 1) := by decide +kernel
theorem d_M_copy_127 : decode prog_14_method_11_code 127 = .ok (.getfield 19, 3) := by decide +kernel
theorem d_M_copy_130 : decode prog_14_method_11_code 130 = .ok (.bipush 40, 2) := by decide +kernel
theorem d_M_copy_132 : decode prog_14_method_11_code 132 = .ok (.iload_n 3, 1) := by decide +kernel
theorem d_M_copy_133 : decode prog_14_method_11_code 133 = .ok (.imul, 1) := by decide +kernel
theorem d_M_copy_134 : decode prog_14_method_11_code 134 = .ok (.iload 4, 2) := by decide +kernel
theorem d_M_copy_136 : decode prog_14_method_11_code 136 = .ok (.iadd, 1) := by decide +kernel
theorem d_M_copy_137 : decode prog_14_method_11_code 137 = .ok (.iload 7, 2) := by decide +kernel
theorem d_M_copy_139 : decode prog_14_method_11_code 139 = .ok (.iadd, 1) := by decide +kernel
theorem d_M_copy_140 : decode prog_14_method_11_code 140 = .ok (.aload_n 0, 1) := by decide +kernel
theorem d_M_copy_141 : decode prog_14_method_11_code 141 = .ok (.getfield 19, 3) := by decide +kernel
theorem d_M_copy_144 : decode prog_14_method_11_code 144 = .ok (.bipush 40, 2) := by decide +kernel
theorem d_M_copy_146 : decode prog_14_method_11_code 146 = .ok (.iload_n 1, 1) := by decide +kernel
theorem d_M_copy_147 : decode prog_14_method_11_code 147 = .ok (.imul, 1) := by decide +kernel
theorem d_M_copy_148 : decode prog_14_method_11_code 148 = .ok (.iload_n 2, 1) := by decide +kernel
theorem d_M_copy_149 : decode prog_14_method_11_code 149 = .ok (.iadd, 1) := by decide +kernel
theorem d_M_copy_150 : decode prog_14_method_11_code 150 = .ok (.iload 7, 2) := by decide +kernel
theorem d_M_copy_152 : decode prog_14_method_11_code 152 = .ok (.iadd, 1) := by decide +kernel
theorem d_M_copy_153 : decode prog_14_method_11_code 153 = .ok (.iaload, 1) := by decide +kernel
theorem d_M_copy_154 : decode prog_14_method_11_code 154 = .ok (.iastore, 1) := by decide +kernel
theorem d_M_copy_155 : decode prog_14_method_11_code 155 = .ok (.iinc 6 1, 3) := by decide +kernel
theorem d_M_copy_158 : decode prog_14_method_11_code 158 = .ok (.goto (-59), 3) := by decide +kernel
theorem d_M_copy_161 : decode prog_14_method_11_code 161 = .ok (.aload_n 0, 1) := by decide +kernel
theorem d_M_copy_162 : decode prog_14_method_11_code 162 = .ok (.iload 5, 2) := by decide +kernel
theorem d_M_copy_164 : decode prog_14_method_11_code 164 = .ok (.invokevirtual 71, 3) := by decide +kernel
theorem d_M_copy_167 : decode prog_14_method_11_code 167 = .ok (.ireturn, 1) := by decide +kernel
theorem d_M_drop_0 : decode prog_14_method_12_code 0 = .ok (.aload_n 0, 1) := by decide +kernel
theorem d_M_drop_1 : decode prog_14_method_12_code 1 = .ok (.iconst 0, 1) := by decide +kernel
theorem d_M_drop_2 : decode prog_14_method_12_code 2 = .ok (.putfield 50, 3) := by decide +kernel
theorem d_M_drop_5 : decode prog_14_method_12_code 5 = .ok (.iload_n 1, 1) := by decide +kernel
theorem d_M_drop_6 : decode prog_14_method_12_code 6 = .ok (.invokestatic 62, 3) := by decide +kernel
theorem d_M_drop_9 : decode prog_14_method_12_code 9 = .ok (.ifCond .ne 6, 3) := by decide +kernel
theorem d_M_drop_12 : decode prog_14_method_12_code 12 = .ok (.ldc 66, 2) := by decide +kernel
theorem d_M_drop_14 : decode prog_14_method_12_code 14 = .ok (.ireturn, 1) := by decide +kernel
theorem d_M_drop_15 : decode prog_14_method_12_code 15 = .ok (.aload_n 0, 1) := by decide +kernel
theorem d_M_drop_16 : decode prog_14_method_12_code 16 = .ok (.getfield 13, 3) := by decide +kernel
theorem d_M_drop_19 : decode prog_14_method_12_code 19 = .ok (.iload_n 1, 1) := by decide +kernel
theorem d_M_drop_20 : decode prog_14_method_12_code 20 = .ok (.iaload, 1) := by decide +kernel
theorem d_M_drop_21 : decode prog_14_method_12_code 21 = .ok (.ifCond .ne 9, 3) := by decide +kernel
theorem d_M_drop_24 : decode prog_14_method_12_code 24 = .ok (.aload_n 0, 1) := by decide +kernel
theorem d_M_drop_25 : decode prog_14_method_12_code 25 = .ok (.iconst 1, 1) := by decide +kernel
theorem d_M_drop_26 : decode prog_14_method_12_code 26 = .ok (.invokevirtual 67, 3) := by decide +kernel
theorem d_M_drop_29 : decode prog_14_method_12_code 29 = .ok (.ireturn, 1) := by decide +kernel
theorem d_M_drop_30 : decode prog_14_method_12_code 30 = .ok (.aload_n 0, 1) := by decide +kernel
theorem d_M_drop_31 : decode prog_14_method_12_code 31 = .ok (.getfield 13, 3) := by decide +kernel
theorem d_M_drop_34 : decode prog_14_method_12_code 34 = .ok (.iload_n 1, 1) := by decide +kernel
theorem d_M_drop_35 : decode prog_14_method_12_code 35 = .ok (.iconst 0, 1) := by decide +kernel
theorem d_M_drop_36 : decode prog_14_method_12_code 36 = .ok (.iastore, 1) := by decide +kernel
theorem d_M_drop_37 : decode prog_14_method_12_code 37 = .ok (.aload_n 0, 1) := by decide +kernel
theorem d_M_drop_38 : decode prog_14_method_12_code 38 = .ok (.aload_n 0, 1) := by decide +kernel
theorem d_M_drop_39 : decode prog_14_method_12_code 39 = .ok (.getfield 16, 3) := by decide +kernel
theorem d_M_drop_42 : decode prog_14_method_12_code 42 = .ok (.iload_n 1, 1) := by decide +kernel
theorem d_M_drop_43 : decode prog_14_method_12_code 43 = .ok (.iaload, 1) := by decide +kernel
theorem d_M_drop_44 : decode prog_14_method_12_code 44 = .ok (.invokevirtual 71, 3) := by decide +kernel
theorem d_M_drop_47 : decode prog_14_method_12_code 47 = .ok (.ireturn, 1) := by decide +kernel
theorem d_M_feed_0 : decode prog_14_method_13_code 0 = .ok (.aload_n 0, 1) := by decide +kernel
theorem d_M_feed_1 : decode prog_14_method_13_code 1 = .ok (.iconst 0, 1) := by decide +kernel
theorem d_M_feed_2 : decode prog_14_method_13_code 2 = .ok (.putfield 50, 3) := by decide +kernel
theorem d_M_feed_5 : decode prog_14_method_13_code 5 = .ok (.iload_n 1, 1) := by decide +kernel
theorem d_M_feed_6 : decode prog_14_method_13_code 6 = .ok (.iconst 0, 1) := by decide +kernel
theorem d_M_feed_7 : decode prog_14_method_13_code 7 = .ok (.sipush 255, 3) := by decide +kernel
theorem d_M_feed_10 : decode prog_14_method_13_code 10 = .ok (.invokestatic 58, 3) := by decide +kernel
theorem d_M_feed_13 : decode prog_14_method_13_code 13 = .ok (.ifCond .ne 6, 3) := by decide +kernel
theorem d_M_feed_16 : decode prog_14_method_13_code 16 = .ok (.ldc 66, 2) := by decide +kernel
theorem d_M_feed_18 : decode prog_14_method_13_code 18 = .ok (.ireturn, 1) := by decide +kernel
theorem d_M_feed_19 : decode prog_14_method_13_code 19 = .ok (.aload_n 0, 1) := by decide +kernel
theorem d_M_feed_20 : decode prog_14_method_13_code 20 = .ok (.getfield 81, 3) := by decide +kernel
theorem d_M_feed_23 : decode prog_14_method_13_code 23 = .ok (.bipush 120, 2) := by decide +kernel
theorem d_M_feed_25 : decode prog_14_method_13_code 25 = .ok (.if_icmp .ne 6, 3) := by decide +kernel
theorem d_M_feed_28 : decode prog_14_method_13_code 28 = .ok (.ldc 84, 2) := by decide +kernel
theorem d_M_feed_30 : decode prog_14_method_13_code 30 = .ok (.ireturn, 1) := by decide +kernel
theorem d_M_feed_31 : decode prog_14_method_13_code 31 = .ok (.aload_n 0, 1) := by decide +kernel
theorem d_M_feed_32 : decode prog_14_method_13_code 32 = .ok (.getfield 7, 3) := by decide +kernel
theorem d_M_feed_35 : decode prog_14_method_13_code 35 = .ok (.aload_n 0, 1) := by decide +kernel
theorem d_M_feed_36 : decode prog_14_method_13_code 36 = .ok (.getfield 81, 3) := by decide +kernel
theorem d_M_feed_39 : decode prog_14_method_13_code 39 = .ok (.iload_n 1, 1) := by decide +kernel
theorem d_M_feed_40 : decode prog_14_method_13_code 40 = .ok (.iastore, 1) := by decide +kernel
theorem d_M_feed_41 : decode prog_14_method_13_code 41 = .ok (.aload_n 0, 1) := by decide +kernel
theorem d_M_feed_42 : decode prog_14_method_13_code 42 = .ok (.dup, 1) := by decide +kernel
theorem d_M_feed_43 : decode prog_14_method_13_code 43 = .ok (.getfield 81, 3) := by decide +kernel
theorem d_M_feed_46 : decode prog_14_method_13_code 46 = .ok (.iconst 1, 1) := by decide +kernel
theorem d_M_feed_47 : decode prog_14_method_13_code 47 = .ok (.iadd, 1) := by decide +kernel
theorem d_M_feed_48 : decode prog_14_method_13_code 48 = .ok (.putfield 81, 3) := by decide +kernel
theorem d_M_feed_51 : decode prog_14_method_13_code 51 = .ok (.aload_n 0, 1) := by decide +kernel
theorem d_M_feed_52 : decode prog_14_method_13_code 52 = .ok (.getfield 81, 3) := by decide +kernel
theorem d_M_feed_55 : decode prog_14_method_13_code 55 = .ok (.ireturn, 1) := by decide +kernel
theorem d_M_letterAt_0 : decode prog_14_method_14_code 0 = .ok (.iload_n 1, 1) := by decide +kernel
theorem d_M_letterAt_1 : decode prog_14_method_14_code 1 = .ok (.aload_n 0, 1) := by decide +kernel
theorem d_M_letterAt_2 : decode prog_14_method_14_code 2 = .ok (.getfield 81, 3) := by decide +kernel
theorem d_M_letterAt_5 : decode prog_14_method_14_code 5 = .ok (.if_icmp .ge 12, 3) := by decide +kernel
theorem d_M_letterAt_8 : decode prog_14_method_14_code 8 = .ok (.aload_n 0, 1) := by decide +kernel
theorem d_M_letterAt_9 : decode prog_14_method_14_code 9 = .ok (.getfield 7, 3) := by decide +kernel
theorem d_M_letterAt_12 : decode prog_14_method_14_code 12 = .ok (.iload_n 1, 1) := by decide +kernel
theorem d_M_letterAt_13 : decode prog_14_method_14_code 13 = .ok (.iaload, 1) := by decide +kernel
theorem d_M_letterAt_14 : decode prog_14_method_14_code 14 = .ok (.goto 4, 3) := by decide +kernel
theorem d_M_letterAt_17 : decode prog_14_method_14_code 17 = .ok (.iconst (-1), 1) := by decide +kernel
theorem d_M_letterAt_18 : decode prog_14_method_14_code 18 = .ok (.ireturn, 1) := by decide +kernel
theorem d_M_advances_0 : decode prog_14_method_15_code 0 = .ok (.aload_n 0, 1) := by decide +kernel
theorem d_M_advances_1 : decode prog_14_method_15_code 1 = .ok (.aload_n 0, 1) := by decide +kernel
theorem d_M_advances_2 : decode prog_14_method_15_code 2 = .ok (.getfield 85, 3) := by decide +kernel
theorem d_M_advances_5 : decode prog_14_method_15_code 5 = .ok (.putfield 88, 3) := by decide +kernel
theorem d_M_advances_8 : decode prog_14_method_15_code 8 = .ok (.aload_n 0, 1) := by decide +kernel
theorem d_M_advances_9 : decode prog_14_method_15_code 9 = .ok (.aload_n 0, 1) := by decide +kernel
theorem d_M_advances_10 : decode prog_14_method_15_code 10 = .ok (.getfield 85, 3) := by decide +kernel
theorem d_M_advances_13 : decode prog_14_method_15_code 13 = .ok (.invokevirtual 91, 3) := by decide +kernel
theorem d_M_advances_16 : decode prog_14_method_15_code 16 = .ok (.istore_n 1, 1) := by decide +kernel
theorem d_M_advances_17 : decode prog_14_method_15_code 17 = .ok (.iload_n 1, 1) := by decide +kernel
theorem d_M_advances_18 : decode prog_14_method_15_code 18 = .ok (.ifCond .ge 11, 3) := by decide +kernel
theorem d_M_advances_21 : decode prog_14_method_15_code 21 = .ok (.aload_n 0, 1) := by decide +kernel
theorem d_M_advances_22 : decode prog_14_method_15_code 22 = .ok (.iconst 0, 1) := by decide +kernel
theorem d_M_advances_23 : decode prog_14_method_15_code 23 = .ok (.putfield 94, 3) := by decide +kernel
theorem d_M_advances_26 : decode prog_14_method_15_code 26 = .ok (.goto 169, 3) := by decide +kernel
theorem d_M_advances_29 : decode prog_14_method_15_code 29 = .ok (.iload_n 1, 1) := by decide +kernel
theorem d_M_advances_30 : decode prog_14_method_15_code 30 = .ok (.bipush 48, 2) := by decide +kernel
theorem d_M_advances_32 : decode prog_14_method_15_code 32 = .ok (.bipush 57, 2) := by decide +kernel
theorem d_M_advances_34 : decode prog_14_method_15_code 34 = .ok (.invokestatic 58, 3) := by decide +kernel
theorem d_M_advances_37 : decode prog_14_method_15_code 37 = .ok (.ifCond .eq 107, 3) := by decide +kernel
theorem d_M_advances_40 : decode prog_14_method_15_code 40 = .ok (.aload_n 0, 1) := by decide +kernel
theorem d_M_advances_41 : decode prog_14_method_15_code 41 = .ok (.iconst 0, 1) := by decide +kernel
theorem d_M_advances_42 : decode prog_14_method_15_code 42 = .ok (.putfield 97, 3) := by decide +kernel
theorem d_M_advances_45 : decode prog_14_method_15_code 45 = .ok (.aload_n 0, 1) := by decide +kernel
theorem d_M_advances_46 : decode prog_14_method_15_code 46 = .ok (.aload_n 0, 1) := by decide +kernel
theorem d_M_advances_47 : decode prog_14_method_15_code 47 = .ok (.getfield 85, 3) := by decide +kernel
theorem d_M_advances_50 : decode prog_14_method_15_code 50 = .ok (.invokevirtual 91, 3) := by decide +kernel
theorem d_M_advances_53 : decode prog_14_method_15_code 53 = .ok (.bipush 48, 2) := by decide +kernel
theorem d_M_advances_55 : decode prog_14_method_15_code 55 = .ok (.bipush 57, 2) := by decide +kernel
theorem d_M_advances_57 : decode prog_14_method_15_code 57 = .ok (.invokestatic 58, 3) := by decide +kernel
theorem d_M_advances_60 : decode prog_14_method_15_code 60 = .ok (.ifCond .eq 59, 3) := by decide +kernel
theorem d_M_advances_63 : decode prog_14_method_15_code 63 = .ok (.aload_n 0, 1) := by decide +kernel
theorem d_M_advances_64 : decode prog_14_method_15_code 64 = .ok (.aload_n 0, 1) := by decide +kernel
theorem d_M_advances_65 : decode prog_14_method_15_code 65 = .ok (.getfield 85, 3) := by decide +kernel
theorem d_M_advances_68 : decode prog_14_method_15_code 68 = .ok (.aload_n 0, 1) := by decide +kernel
theorem d_M_advances_69 : decode prog_14_method_15_code 69 = .ok (.getfield 88, 3) := by decide +kernel
theorem d_M_advances_72 : decode prog_14_method_15_code 72 = .ok (.isub, 1) := by decide +kernel
theorem d_M_advances_73 : decode prog_14_method_15_code 73 = .ok (.iconst 2, 1) := by decide +kernel
theorem d_M_advances_74 : decode prog_14_method_15_code 74 = .ok (.if_icmp .ge 25, 3) := by decide +kernel
theorem d_M_advances_77 : decode prog_14_method_15_code 77 = .ok (.bipush 10, 2) := by decide +kernel
theorem d_M_advances_79 : decode prog_14_method_15_code 79 = .ok (.aload_n 0, 1) := by decide +kernel
theorem d_M_advances_80 : decode prog_14_method_15_code 80 = .ok (.getfield 97, 3) := by decide +kernel
theorem d_M_advances_83 : decode prog_14_method_15_code 83 = .ok (.imul, 1) := by decide +kernel
theorem d_M_advances_84 : decode prog_14_method_15_code 84 = .ok (.aload_n 0, 1) := by decide +kernel
theorem d_M_advances_85 : decode prog_14_method_15_code 85 = .ok (.aload_n 0, 1) := by decide +kernel
theorem d_M_advances_86 : decode prog_14_method_15_code 86 = .ok (.getfield 85, 3) := by decide +kernel
theorem d_M_advances_89 : decode prog_14_method_15_code 89 = .ok (.invokevirtual 91, 3) := by decide +kernel
theorem d_M_advances_92 : decode prog_14_method_15_code 92 = .ok (.iadd, 1) := by decide +kernel
theorem d_M_advances_93 : decode prog_14_method_15_code 93 = .ok (.bipush 48, 2) := by decide +kernel
theorem d_M_advances_95 : decode prog_14_method_15_code 95 = .ok (.isub, 1) := by decide +kernel
theorem d_M_advances_96 : decode prog_14_method_15_code 96 = .ok (.goto 7, 3) := by decide +kernel
theorem d_M_advances_99 : decode prog_14_method_15_code 99 = .ok (.aload_n 0, 1) := by decide +kernel
theorem d_M_advances_100 : decode prog_14_method_15_code 100 = .ok (.getfield 97, 3) := by decide +kernel
theorem d_M_advances_103 : decode prog_14_method_15_code 103 = .ok (.putfield 97, 3) := by decide +kernel
theorem d_M_advances_106 : decode prog_14_method_15_code 106 = .ok (.aload_n 0, 1) := by decide +kernel
theorem d_M_advances_107 : decode prog_14_method_15_code 107 = .ok (.dup, 1) := by decide +kernel
theorem d_M_advances_108 : decode prog_14_method_15_code 108 = .ok (.getfield 85, 3) := by decide +kernel
theorem d_M_advances_111 : decode prog_14_method_15_code 111 = .ok (.iconst 1, 1) := by decide +kernel
theorem d_M_advances_112 : decode prog_14_method_15_code 112 = .ok (.iadd, 1) := by decide +kernel
theorem d_M_advances_113 : decode prog_14_method_15_code 113 = .ok (.putfield 85, 3) := by decide +kernel
theorem d_M_advances_116 : decode prog_14_method_15_code 116 = .ok (.goto (-71), 3) := by decide +kernel
theorem d_M_advances_119 : decode prog_14_method_15_code 119 = .ok (.aload_n 0, 1) := by decide +kernel
theorem d_M_advances_120 : decode prog_14_method_15_code 120 = .ok (.aload_n 0, 1) := by decide +kernel
theorem d_M_advances_121 : decode prog_14_method_15_code 121 = .ok (.getfield 85, 3) := by decide +kernel
theorem d_M_advances_124 : decode prog_14_method_15_code 124 = .ok (.aload_n 0, 1) := by decide +kernel
theorem d_M_advances_125 : decode prog_14_method_15_code 125 = .ok (.getfield 88, 3) := by decide +kernel
theorem d_M_advances_128 : decode prog_14_method_15_code 128 = .ok (.isub, 1) := by decide +kernel
theorem d_M_advances_129 : decode prog_14_method_15_code 129 = .ok (.iconst 2, 1) := by decide +kernel
theorem d_M_advances_130 : decode prog_14_method_15_code 130 = .ok (.if_icmp .le 7, 3) := by decide +kernel
theorem d_M_advances_133 : decode prog_14_method_15_code 133 = .ok (.iconst 4, 1) := by decide +kernel
theorem d_M_advances_134 : decode prog_14_method_15_code 134 = .ok (.goto 4, 3) := by decide +kernel
theorem d_M_advances_137 : decode prog_14_method_15_code 137 = .ok (.iconst 2, 1) := by decide +kernel
theorem d_M_advances_138 : decode prog_14_method_15_code 138 = .ok (.putfield 94, 3) := by decide +kernel
theorem d_M_advances_141 : decode prog_14_method_15_code 141 = .ok (.goto 54, 3) := by decide +kernel
theorem d_M_advances_144 : decode prog_14_method_15_code 144 = .ok (.aload_n 0, 1) := by decide +kernel
theorem d_M_advances_145 : decode prog_14_method_15_code 145 = .ok (.dup, 1) := by decide +kernel
theorem d_M_advances_146 : decode prog_14_method_15_code 146 = .ok (.getfield 85, 3) := by decide +kernel
theorem d_M_advances_149 : decode prog_14_method_15_code 149 = .ok (.iconst 1, 1) := by decide +kernel
theorem d_M_advances_150 : decode prog_14_method_15_code 150 = .ok (.iadd, 1) := by decide +kernel
theorem d_M_advances_151 : decode prog_14_method_15_code 151 = .ok (.putfield 85, 3) := by decide +kernel
theorem d_M_advances_154 : decode prog_14_method_15_code 154 = .ok (.aload_n 0, 1) := by decide +kernel
theorem d_M_advances_155 : decode prog_14_method_15_code 155 = .ok (.iload_n 1, 1) := by decide +kernel
theorem d_M_advances_156 : decode prog_14_method_15_code 156 = .ok (.putfield 97, 3) := by decide +kernel
theorem d_M_advances_159 : decode prog_14_method_15_code 159 = .ok (.aload_n 0, 1) := by decide +kernel
theorem d_M_advances_160 : decode prog_14_method_15_code 160 = .ok (.iload_n 1, 1) := by decide +kernel
theorem d_M_advances_161 : decode prog_14_method_15_code 161 = .ok (.bipush 97, 2) := by decide +kernel
theorem d_M_advances_163 : decode prog_14_method_15_code 163 = .ok (.bipush 122, 2) := by decide +kernel
theorem d_M_advances_165 : decode prog_14_method_15_code 165 = .ok (.invokestatic 58, 3) := by decide +kernel
theorem d_M_advances_168 : decode prog_14_method_15_code 168 = .ok (.ifCond .eq 7, 3) := by decide +kernel
theorem d_M_advances_171 : decode prog_14_method_15_code 171 = .ok (.iconst 1, 1) := by decide +kernel
theorem d_M_advances_172 : decode prog_14_method_15_code 172 = .ok (.goto 20, 3) := by decide +kernel
theorem d_M_advances_175 : decode prog_14_method_15_code 175 = .ok (.iload_n 1, 1) := by decide +kernel
theorem d_M_advances_176 : decode prog_14_method_15_code 176 = .ok (.bipush 44, 2) := by decide +kernel
theorem d_M_advances_178 : decode prog_14_method_15_code 178 = .ok (.if_icmp .eq 9, 3) := by decide +kernel
theorem d_M_advances_181 : decode prog_14_method_15_code 181 = .ok (.iload_n 1, 1) := by decide +kernel
theorem d_M_advances_182 : decode prog_14_method_15_code 182 = .ok (.bipush 59, 2) := by decide +kernel
theorem d_M_advances_184 : decode prog_14_method_15_code 184 = .ok (.if_icmp .ne 7, 3) := by decide +kernel
theorem d_M_advances_187 : decode prog_14_method_15_code 187 = .ok (.iconst 3, 1) := by decide +kernel
theorem d_M_advances_188 : decode prog_14_method_15_code 188 = .ok (.goto 4, 3) := by decide +kernel
theorem d_M_advances_191 : decode prog_14_method_15_code 191 = .ok (.iconst 4, 1) := by decide +kernel
theorem d_M_advances_192 : decode prog_14_method_15_code 192 = .ok (.putfield 94, 3) := by decide +kernel
theorem d_M_advances_195 : decode prog_14_method_15_code 195 = .ok (.return_, 1) := by decide +kernel
theorem d_M_isWell_0 : decode prog_14_method_16_code 0 = .ok (.aload_n 0, 1) := by decide +kernel
theorem d_M_isWell_1 : decode prog_14_method_16_code 1 = .ok (.getfield 100, 3) := by decide +kernel
theorem d_M_isWell_4 : decode prog_14_method_16_code 4 = .ok (.ifCond .ne 7, 3) := by decide +kernel
theorem d_M_isWell_7 : decode prog_14_method_16_code 7 = .ok (.iconst 1, 1) := by decide +kernel
theorem d_M_isWell_8 : decode prog_14_method_16_code 8 = .ok (.goto 4, 3) := by decide +kernel
theorem d_M_isWell_11 : decode prog_14_method_16_code 11 = .ok (.iconst 0, 1) := by decide +kernel
theorem d_M_isWell_12 : decode prog_14_method_16_code 12 = .ok (.ireturn, 1) := by decide +kernel
theorem d_M_fails_0 : decode prog_14_method_17_code 0 = .ok (.aload_n 0, 1) := by decide +kernel
theorem d_M_fails_1 : decode prog_14_method_17_code 1 = .ok (.invokevirtual 103, 3) := by decide +kernel
theorem d_M_fails_4 : decode prog_14_method_17_code 4 = .ok (.ifCond .eq 16, 3) := by decide +kernel
theorem d_M_fails_7 : decode prog_14_method_17_code 7 = .ok (.aload_n 0, 1) := by decide +kernel
theorem d_M_fails_8 : decode prog_14_method_17_code 8 = .ok (.iload_n 1, 1) := by decide +kernel
theorem d_M_fails_9 : decode prog_14_method_17_code 9 = .ok (.putfield 100, 3) := by decide +kernel
theorem d_M_fails_12 : decode prog_14_method_17_code 12 = .ok (.aload_n 0, 1) := by decide +kernel
theorem d_M_fails_13 : decode prog_14_method_17_code 13 = .ok (.aload_n 0, 1) := by decide +kernel
theorem d_M_fails_14 : decode prog_14_method_17_code 14 = .ok (.getfield 88, 3) := by decide +kernel
theorem d_M_fails_17 : decode prog_14_method_17_code 17 = .ok (.putfield 107, 3) := by decide +kernel
theorem d_M_fails_20 : decode prog_14_method_17_code 20 = .ok (.return_, 1) := by decide +kernel
theorem d_M_wants_0 : decode prog_14_method_18_code 0 = .ok (.aload_n 0, 1) := by decide +kernel
theorem d_M_wants_1 : decode prog_14_method_18_code 1 = .ok (.getfield 94, 3) := by decide +kernel
theorem d_M_wants_4 : decode prog_14_method_18_code 4 = .ok (.iload_n 1, 1) := by decide +kernel
theorem d_M_wants_5 : decode prog_14_method_18_code 5 = .ok (.if_icmp .ne 11, 3) := by decide +kernel
theorem d_M_wants_8 : decode prog_14_method_18_code 8 = .ok (.aload_n 0, 1) := by decide +kernel
theorem d_M_wants_9 : decode prog_14_method_18_code 9 = .ok (.getfield 97, 3) := by decide +kernel
theorem d_M_wants_12 : decode prog_14_method_18_code 12 = .ok (.iload_n 2, 1) := by decide +kernel
theorem d_M_wants_13 : decode prog_14_method_18_code 13 = .ok (.if_icmp .eq 8, 3) := by decide +kernel
theorem d_M_wants_16 : decode prog_14_method_18_code 16 = .ok (.aload_n 0, 1) := by decide +kernel
theorem d_M_wants_17 : decode prog_14_method_18_code 17 = .ok (.iconst 1, 1) := by decide +kernel
theorem d_M_wants_18 : decode prog_14_method_18_code 18 = .ok (.invokevirtual 110, 3) := by decide +kernel
theorem d_M_wants_21 : decode prog_14_method_18_code 21 = .ok (.aload_n 0, 1) := by decide +kernel
theorem d_M_wants_22 : decode prog_14_method_18_code 22 = .ok (.invokevirtual 103, 3) := by decide +kernel
theorem d_M_wants_25 : decode prog_14_method_18_code 25 = .ok (.ifCond .eq 7, 3) := by decide +kernel
theorem d_M_wants_28 : decode prog_14_method_18_code 28 = .ok (.aload_n 0, 1) := by decide +kernel
theorem d_M_wants_29 : decode prog_14_method_18_code 29 = .ok (.invokevirtual 114, 3) := by decide +kernel
theorem d_M_wants_32 : decode prog_14_method_18_code 32 = .ok (.return_, 1) := by decide +kernel
theorem d_M_number_0 : decode prog_14_method_19_code 0 = .ok (.aload_n 0, 1) := by decide +kernel
theorem d_M_number_1 : decode prog_14_method_19_code 1 = .ok (.getfield 94, 3) := by decide +kernel
theorem d_M_number_4 : decode prog_14_method_19_code 4 = .ok (.iconst 2, 1) := by decide +kernel
theorem d_M_number_5 : decode prog_14_method_19_code 5 = .ok (.if_icmp .eq 11, 3) := by decide +kernel
theorem d_M_number_8 : decode prog_14_method_19_code 8 = .ok (.aload_n 0, 1) := by decide +kernel
theorem d_M_number_9 : decode prog_14_method_19_code 9 = .ok (.iconst 1, 1) := by decide +kernel
theorem d_M_number_10 : decode prog_14_method_19_code 10 = .ok (.invokevirtual 110, 3) := by decide +kernel
theorem d_M_number_13 : decode prog_14_method_19_code 13 = .ok (.goto 24, 3) := by decide +kernel
theorem d_M_number_16 : decode prog_14_method_19_code 16 = .ok (.aload_n 0, 1) := by decide +kernel
theorem d_M_number_17 : decode prog_14_method_19_code 17 = .ok (.getfield 97, 3) := by decide +kernel
theorem d_M_number_20 : decode prog_14_method_19_code 20 = .ok (.iload_n 1, 1) := by decide +kernel
theorem d_M_number_21 : decode prog_14_method_19_code 21 = .ok (.iload_n 2, 1) := by decide +kernel
theorem d_M_number_22 : decode prog_14_method_19_code 22 = .ok (.invokestatic 58, 3) := by decide +kernel
theorem d_M_number_25 : decode prog_14_method_19_code 25 = .ok (.ifCond .eq 7, 3) := by decide +kernel
theorem d_M_number_28 : decode prog_14_method_19_code 28 = .ok (.iload_n 3, 1) := by decide +kernel
theorem d_M_number_29 : decode prog_14_method_19_code 29 = .ok (.ifCond .eq 8, 3) := by decide +kernel
theorem d_M_number_32 : decode prog_14_method_19_code 32 = .ok (.aload_n 0, 1) := by decide +kernel
theorem d_M_number_33 : decode prog_14_method_19_code 33 = .ok (.iconst 2, 1) := by decide +kernel
theorem d_M_number_34 : decode prog_14_method_19_code 34 = .ok (.invokevirtual 110, 3) := by decide +kernel
theorem d_M_number_37 : decode prog_14_method_19_code 37 = .ok (.aload_n 0, 1) := by decide +kernel
theorem d_M_number_38 : decode prog_14_method_19_code 38 = .ok (.invokevirtual 103, 3) := by decide +kernel
theorem d_M_number_41 : decode prog_14_method_19_code 41 = .ok (.ifCond .eq 10, 3) := by decide +kernel
theorem d_M_number_44 : decode prog_14_method_19_code 44 = .ok (.aload_n 0, 1) := by decide +kernel
theorem d_M_number_45 : decode prog_14_method_19_code 45 = .ok (.getfield 97, 3) := by decide +kernel
theorem d_M_number_48 : decode prog_14_method_19_code 48 = .ok (.goto 4, 3) := by decide +kernel
theorem d_M_number_51 : decode prog_14_method_19_code 51 = .ok (.iload_n 1, 1) := by decide +kernel
theorem d_M_number_52 : decode prog_14_method_19_code 52 = .ok (.istore 4, 2) := by decide +kernel
theorem d_M_number_54 : decode prog_14_method_19_code 54 = .ok (.aload_n 0, 1) := by decide +kernel
theorem d_M_number_55 : decode prog_14_method_19_code 55 = .ok (.invokevirtual 103, 3) := by decide +kernel
theorem d_M_number_58 : decode prog_14_method_19_code 58 = .ok (.ifCond .eq 7, 3) := by decide +kernel
theorem d_M_number_61 : decode prog_14_method_19_code 61 = .ok (.aload_n 0, 1) := by decide +kernel
theorem d_M_number_62 : decode prog_14_method_19_code 62 = .ok (.invokevirtual 114, 3) := by decide +kernel
theorem d_M_number_65 : decode prog_14_method_19_code 65 = .ok (.iload 4, 2) := by decide +kernel
theorem d_M_number_67 : decode prog_14_method_19_code 67 = .ok (.ireturn, 1) := by decide +kernel
theorem d_M_sortOf_0 : decode prog_14_method_20_code 0 = .ok (.iload_n 0, 1) := by decide +kernel
theorem d_M_sortOf_1 : decode prog_14_method_20_code 1 = .ok (.bipush 115, 2) := by decide +kernel
theorem d_M_sortOf_3 : decode prog_14_method_20_code 3 = .ok (.if_icmp .ne 7, 3) := by decide +kernel
theorem d_M_sortOf_6 : decode prog_14_method_20_code 6 = .ok (.iconst 1, 1) := by decide +kernel
theorem d_M_sortOf_7 : decode prog_14_method_20_code 7 = .ok (.goto 44, 3) := by decide +kernel
theorem d_M_sortOf_10 : decode prog_14_method_20_code 10 = .ok (.iload_n 0, 1) := by decide +kernel
theorem d_M_sortOf_11 : decode prog_14_method_20_code 11 = .ok (.bipush 112, 2) := by decide +kernel
theorem d_M_sortOf_13 : decode prog_14_method_20_code 13 = .ok (.if_icmp .ne 7, 3) := by decide +kernel
theorem d_M_sortOf_16 : decode prog_14_method_20_code 16 = .ok (.iconst 2, 1) := by decide +kernel
theorem d_M_sortOf_17 : decode prog_14_method_20_code 17 = .ok (.goto 34, 3) := by decide +kernel
theorem d_M_sortOf_20 : decode prog_14_method_20_code 20 = .ok (.iload_n 0, 1) := by decide +kernel
theorem d_M_sortOf_21 : decode prog_14_method_20_code 21 = .ok (.bipush 114, 2) := by decide +kernel
theorem d_M_sortOf_23 : decode prog_14_method_20_code 23 = .ok (.if_icmp .ne 7, 3) := by decide +kernel
theorem d_M_sortOf_26 : decode prog_14_method_20_code 26 = .ok (.iconst 3, 1) := by decide +kernel
theorem d_M_sortOf_27 : decode prog_14_method_20_code 27 = .ok (.goto 24, 3) := by decide +kernel
theorem d_M_sortOf_30 : decode prog_14_method_20_code 30 = .ok (.iload_n 0, 1) := by decide +kernel
theorem d_M_sortOf_31 : decode prog_14_method_20_code 31 = .ok (.bipush 104, 2) := by decide +kernel
theorem d_M_sortOf_33 : decode prog_14_method_20_code 33 = .ok (.if_icmp .ne 7, 3) := by decide +kernel
theorem d_M_sortOf_36 : decode prog_14_method_20_code 36 = .ok (.iconst 4, 1) := by decide +kernel
theorem d_M_sortOf_37 : decode prog_14_method_20_code 37 = .ok (.goto 14, 3) := by decide +kernel
theorem d_M_sortOf_40 : decode prog_14_method_20_code 40 = .ok (.iload_n 0, 1) := by decide +kernel
theorem d_M_sortOf_41 : decode prog_14_method_20_code 41 = .ok (.bipush 108, 2) := by decide +kernel
theorem d_M_sortOf_43 : decode prog_14_method_20_code 43 = .ok (.if_icmp .ne 7, 3) := by decide +kernel
theorem d_M_sortOf_46 : decode prog_14_method_20_code 46 = .ok (.iconst 5, 1) := by decide +kernel
theorem d_M_sortOf_47 : decode prog_14_method_20_code 47 = .ok (.goto 4, 3) := by decide +kernel
theorem d_M_sortOf_50 : decode prog_14_method_20_code 50 = .ok (.iconst 0, 1) := by decide +kernel
theorem d_M_sortOf_51 : decode prog_14_method_20_code 51 = .ok (.ireturn, 1) := by decide +kernel
theorem d_M_readsHead_0 : decode prog_14_method_21_code 0 = .ok (.aload_n 0, 1) := by decide +kernel
theorem d_M_readsHead_1 : decode prog_14_method_21_code 1 = .ok (.iconst 1, 1) := by decide +kernel
theorem d_M_readsHead_2 : decode prog_14_method_21_code 2 = .ok (.bipush 119, 2) := by decide +kernel
theorem d_M_readsHead_4 : decode prog_14_method_21_code 4 = .ok (.invokevirtual 117, 3) := by decide +kernel
theorem d_M_readsHead_7 : decode prog_14_method_21_code 7 = .ok (.aload_n 0, 1) := by decide +kernel
theorem d_M_readsHead_8 : decode prog_14_method_21_code 8 = .ok (.getfield 22, 3) := by decide +kernel
theorem d_M_readsHead_11 : decode prog_14_method_21_code 11 = .ok (.iconst 1, 1) := by decide +kernel
theorem d_M_readsHead_12 : decode prog_14_method_21_code 12 = .ok (.aload_n 0, 1) := by decide +kernel
theorem d_M_readsHead_13 : decode prog_14_method_21_code 13 = .ok (.iconst 0, 1) := by decide +kernel
theorem d_M_readsHead_14 : decode prog_14_method_21_code 14 = .ok (.bipush 8, 2) := by decide +kernel
theorem d_M_readsHead_16 : decode prog_14_method_21_code 16 = .ok (.iconst 0, 1) := by decide +kernel
theorem d_M_readsHead_17 : decode prog_14_method_21_code 17 = .ok (.invokevirtual 121, 3) := by decide +kernel
theorem d_M_readsHead_20 : decode prog_14_method_21_code 20 = .ok (.iastore, 1) := by decide +kernel
theorem d_M_readsHead_21 : decode prog_14_method_21_code 21 = .ok (.aload_n 0, 1) := by decide +kernel
theorem d_M_readsHead_22 : decode prog_14_method_21_code 22 = .ok (.iconst 3, 1) := by decide +kernel
theorem d_M_readsHead_23 : decode prog_14_method_21_code 23 = .ok (.bipush 44, 2) := by decide +kernel
theorem d_M_readsHead_25 : decode prog_14_method_21_code 25 = .ok (.invokevirtual 117, 3) := by decide +kernel
theorem d_M_readsHead_28 : decode prog_14_method_21_code 28 = .ok (.aload_n 0, 1) := by decide +kernel
theorem d_M_readsHead_29 : decode prog_14_method_21_code 29 = .ok (.getfield 22, 3) := by decide +kernel
theorem d_M_readsHead_32 : decode prog_14_method_21_code 32 = .ok (.iconst 2, 1) := by decide +kernel
theorem d_M_readsHead_33 : decode prog_14_method_21_code 33 = .ok (.aload_n 0, 1) := by decide +kernel
theorem d_M_readsHead_34 : decode prog_14_method_21_code 34 = .ok (.iconst 1, 1) := by decide +kernel
theorem d_M_readsHead_35 : decode prog_14_method_21_code 35 = .ok (.iconst 5, 1) := by decide +kernel
theorem d_M_readsHead_36 : decode prog_14_method_21_code 36 = .ok (.iconst 0, 1) := by decide +kernel
theorem d_M_readsHead_37 : decode prog_14_method_21_code 37 = .ok (.invokevirtual 121, 3) := by decide +kernel
theorem d_M_readsHead_40 : decode prog_14_method_21_code 40 = .ok (.iastore, 1) := by decide +kernel
theorem d_M_readsHead_41 : decode prog_14_method_21_code 41 = .ok (.aload_n 0, 1) := by decide +kernel
theorem d_M_readsHead_42 : decode prog_14_method_21_code 42 = .ok (.iconst 3, 1) := by decide +kernel
theorem d_M_readsHead_43 : decode prog_14_method_21_code 43 = .ok (.bipush 44, 2) := by decide +kernel
theorem d_M_readsHead_45 : decode prog_14_method_21_code 45 = .ok (.invokevirtual 117, 3) := by decide +kernel
theorem d_M_readsHead_48 : decode prog_14_method_21_code 48 = .ok (.aload_n 0, 1) := by decide +kernel
theorem d_M_readsHead_49 : decode prog_14_method_21_code 49 = .ok (.getfield 22, 3) := by decide +kernel
theorem d_M_readsHead_52 : decode prog_14_method_21_code 52 = .ok (.iconst 3, 1) := by decide +kernel
theorem d_M_readsHead_53 : decode prog_14_method_21_code 53 = .ok (.aload_n 0, 1) := by decide +kernel
theorem d_M_readsHead_54 : decode prog_14_method_21_code 54 = .ok (.iconst 0, 1) := by decide +kernel
theorem d_M_readsHead_55 : decode prog_14_method_21_code 55 = .ok (.iconst 3, 1) := by decide +kernel
theorem d_M_readsHead_56 : decode prog_14_method_21_code 56 = .ok (.iconst 0, 1) := by decide +kernel
theorem d_M_readsHead_57 : decode prog_14_method_21_code 57 = .ok (.invokevirtual 121, 3) := by decide +kernel
theorem d_M_readsHead_60 : decode prog_14_method_21_code 60 = .ok (.iastore, 1) := by decide +kernel
theorem d_M_readsHead_61 : decode prog_14_method_21_code 61 = .ok (.aload_n 0, 1) := by decide +kernel
theorem d_M_readsHead_62 : decode prog_14_method_21_code 62 = .ok (.iconst 3, 1) := by decide +kernel
theorem d_M_readsHead_63 : decode prog_14_method_21_code 63 = .ok (.bipush 59, 2) := by decide +kernel
theorem d_M_readsHead_65 : decode prog_14_method_21_code 65 = .ok (.invokevirtual 117, 3) := by decide +kernel
theorem d_M_readsHead_68 : decode prog_14_method_21_code 68 = .ok (.aload_n 0, 1) := by decide +kernel
theorem d_M_readsHead_69 : decode prog_14_method_21_code 69 = .ok (.iconst 1, 1) := by decide +kernel
theorem d_M_readsHead_70 : decode prog_14_method_21_code 70 = .ok (.bipush 100, 2) := by decide +kernel
theorem d_M_readsHead_72 : decode prog_14_method_21_code 72 = .ok (.invokevirtual 117, 3) := by decide +kernel
theorem d_M_readsHead_75 : decode prog_14_method_21_code 75 = .ok (.iconst 0, 1) := by decide +kernel
theorem d_M_readsHead_76 : decode prog_14_method_21_code 76 = .ok (.istore_n 1, 1) := by decide +kernel
theorem d_M_readsHead_77 : decode prog_14_method_21_code 77 = .ok (.iload_n 1, 1) := by decide +kernel
theorem d_M_readsHead_78 : decode prog_14_method_21_code 78 = .ok (.bipush 24, 2) := by decide +kernel
theorem d_M_readsHead_80 : decode prog_14_method_21_code 80 = .ok (.if_icmp .ge 67, 3) := by decide +kernel
theorem d_M_readsHead_83 : decode prog_14_method_21_code 83 = .ok (.aload_n 0, 1) := by decide +kernel
theorem d_M_readsHead_84 : decode prog_14_method_21_code 84 = .ok (.invokevirtual 103, 3) := by decide +kernel
theorem d_M_readsHead_87 : decode prog_14_method_21_code 87 = .ok (.ifCond .eq 60, 3) := by decide +kernel
theorem d_M_readsHead_90 : decode prog_14_method_21_code 90 = .ok (.aload_n 0, 1) := by decide +kernel
theorem d_M_readsHead_91 : decode prog_14_method_21_code 91 = .ok (.getfield 22, 3) := by decide +kernel
theorem d_M_readsHead_94 : decode prog_14_method_21_code 94 = .ok (.bipush 18, 2) := by decide +kernel
theorem d_M_readsHead_96 : decode prog_14_method_21_code 96 = .ok (.iload_n 1, 1) := by decide +kernel
theorem d_M_readsHead_97 : decode prog_14_method_21_code 97 = .ok (.iadd, 1) := by decide +kernel
theorem d_M_readsHead_98 : decode prog_14_method_21_code 98 = .ok (.aload_n 0, 1) := by decide +kernel
theorem d_M_readsHead_99 : decode prog_14_method_21_code 99 = .ok (.getfield 97, 3) := by decide +kernel
theorem d_M_readsHead_102 : decode prog_14_method_21_code 102 = .ok (.bipush 97, 2) := by decide +kernel
theorem d_M_readsHead_104 : decode prog_14_method_21_code 104 = .ok (.isub, 1) := by decide +kernel
theorem d_M_readsHead_105 : decode prog_14_method_21_code 105 = .ok (.iastore, 1) := by decide +kernel
theorem d_M_readsHead_106 : decode prog_14_method_21_code 106 = .ok (.aload_n 0, 1) := by decide +kernel
theorem d_M_readsHead_107 : decode prog_14_method_21_code 107 = .ok (.iconst 1, 1) := by decide +kernel
theorem d_M_readsHead_108 : decode prog_14_method_21_code 108 = .ok (.aload_n 0, 1) := by decide +kernel
theorem d_M_readsHead_109 : decode prog_14_method_21_code 109 = .ok (.getfield 94, 3) := by decide +kernel
theorem d_M_readsHead_112 : decode prog_14_method_21_code 112 = .ok (.iconst 1, 1) := by decide +kernel
theorem d_M_readsHead_113 : decode prog_14_method_21_code 113 = .ok (.if_icmp .ne 24, 3) := by decide +kernel
theorem d_M_readsHead_116 : decode prog_14_method_21_code 116 = .ok (.aload_n 0, 1) := by decide +kernel
theorem d_M_readsHead_117 : decode prog_14_method_21_code 117 = .ok (.getfield 97, 3) := by decide +kernel
theorem d_M_readsHead_120 : decode prog_14_method_21_code 120 = .ok (.bipush 97, 2) := by decide +kernel
theorem d_M_readsHead_122 : decode prog_14_method_21_code 122 = .ok (.bipush 106, 2) := by decide +kernel
theorem d_M_readsHead_124 : decode prog_14_method_21_code 124 = .ok (.invokestatic 58, 3) := by decide +kernel
theorem d_M_readsHead_127 : decode prog_14_method_21_code 127 = .ok (.ifCond .eq 10, 3) := by decide +kernel
theorem d_M_readsHead_130 : decode prog_14_method_21_code 130 = .ok (.aload_n 0, 1) := by decide +kernel
theorem d_M_readsHead_131 : decode prog_14_method_21_code 131 = .ok (.getfield 97, 3) := by decide +kernel
theorem d_M_readsHead_134 : decode prog_14_method_21_code 134 = .ok (.goto 4, 3) := by decide +kernel
theorem d_M_readsHead_137 : decode prog_14_method_21_code 137 = .ok (.iconst (-1), 1) := by decide +kernel
theorem d_M_readsHead_138 : decode prog_14_method_21_code 138 = .ok (.invokevirtual 117, 3) := by decide +kernel
theorem d_M_readsHead_141 : decode prog_14_method_21_code 141 = .ok (.iinc 1 1, 3) := by decide +kernel
theorem d_M_readsHead_144 : decode prog_14_method_21_code 144 = .ok (.goto (-67), 3) := by decide +kernel
theorem d_M_readsHead_147 : decode prog_14_method_21_code 147 = .ok (.aload_n 0, 1) := by decide +kernel
theorem d_M_readsHead_148 : decode prog_14_method_21_code 148 = .ok (.iconst 3, 1) := by decide +kernel
theorem d_M_readsHead_149 : decode prog_14_method_21_code 149 = .ok (.bipush 59, 2) := by decide +kernel
theorem d_M_readsHead_151 : decode prog_14_method_21_code 151 = .ok (.invokevirtual 117, 3) := by decide +kernel
theorem d_M_readsHead_154 : decode prog_14_method_21_code 154 = .ok (.aload_n 0, 1) := by decide +kernel
theorem d_M_readsHead_155 : decode prog_14_method_21_code 155 = .ok (.iconst 1, 1) := by decide +kernel
theorem d_M_readsHead_156 : decode prog_14_method_21_code 156 = .ok (.bipush 98, 2) := by decide +kernel
theorem d_M_readsHead_158 : decode prog_14_method_21_code 158 = .ok (.invokevirtual 117, 3) := by decide +kernel
theorem d_M_readsHead_161 : decode prog_14_method_21_code 161 = .ok (.aload_n 0, 1) := by decide +kernel
theorem d_M_readsHead_162 : decode prog_14_method_21_code 162 = .ok (.getfield 22, 3) := by decide +kernel
theorem d_M_readsHead_165 : decode prog_14_method_21_code 165 = .ok (.bipush 14, 2) := by decide +kernel
theorem d_M_readsHead_167 : decode prog_14_method_21_code 167 = .ok (.aload_n 0, 1) := by decide +kernel
theorem d_M_readsHead_168 : decode prog_14_method_21_code 168 = .ok (.iconst 0, 1) := by decide +kernel
theorem d_M_readsHead_169 : decode prog_14_method_21_code 169 = .ok (.bipush 23, 2) := by decide +kernel
theorem d_M_readsHead_171 : decode prog_14_method_21_code 171 = .ok (.iconst 0, 1) := by decide +kernel
theorem d_M_readsHead_172 : decode prog_14_method_21_code 172 = .ok (.invokevirtual 121, 3) := by decide +kernel
theorem d_M_readsHead_175 : decode prog_14_method_21_code 175 = .ok (.iastore, 1) := by decide +kernel
theorem d_M_readsHead_176 : decode prog_14_method_21_code 176 = .ok (.aload_n 0, 1) := by decide +kernel
theorem d_M_readsHead_177 : decode prog_14_method_21_code 177 = .ok (.iconst 3, 1) := by decide +kernel
theorem d_M_readsHead_178 : decode prog_14_method_21_code 178 = .ok (.bipush 44, 2) := by decide +kernel
theorem d_M_readsHead_180 : decode prog_14_method_21_code 180 = .ok (.invokevirtual 117, 3) := by decide +kernel
theorem d_M_readsHead_183 : decode prog_14_method_21_code 183 = .ok (.aload_n 0, 1) := by decide +kernel
theorem d_M_readsHead_184 : decode prog_14_method_21_code 184 = .ok (.getfield 22, 3) := by decide +kernel
theorem d_M_readsHead_187 : decode prog_14_method_21_code 187 = .ok (.bipush 15, 2) := by decide +kernel
theorem d_M_readsHead_189 : decode prog_14_method_21_code 189 = .ok (.aload_n 0, 1) := by decide +kernel
theorem d_M_readsHead_190 : decode prog_14_method_21_code 190 = .ok (.iconst 0, 1) := by decide +kernel
theorem d_M_readsHead_191 : decode prog_14_method_21_code 191 = .ok (.bipush 7, 2) := by decide +kernel
theorem d_M_readsHead_193 : decode prog_14_method_21_code 193 = .ok (.iconst 0, 1) := by decide +kernel
theorem d_M_readsHead_194 : decode prog_14_method_21_code 194 = .ok (.invokevirtual 121, 3) := by decide +kernel
theorem d_M_readsHead_197 : decode prog_14_method_21_code 197 = .ok (.iastore, 1) := by decide +kernel
theorem d_M_readsHead_198 : decode prog_14_method_21_code 198 = .ok (.aload_n 0, 1) := by decide +kernel
theorem d_M_readsHead_199 : decode prog_14_method_21_code 199 = .ok (.iconst 3, 1) := by decide +kernel
theorem d_M_readsHead_200 : decode prog_14_method_21_code 200 = .ok (.bipush 59, 2) := by decide +kernel
theorem d_M_readsHead_202 : decode prog_14_method_21_code 202 = .ok (.invokevirtual 117, 3) := by decide +kernel
theorem d_M_readsHead_205 : decode prog_14_method_21_code 205 = .ok (.return_, 1) := by decide +kernel
theorem d_M_ones_0 : decode prog_14_method_22_code 0 = .ok (.iconst 0, 1) := by decide +kernel
theorem d_M_ones_1 : decode prog_14_method_22_code 1 = .ok (.istore_n 1, 1) := by decide +kernel
theorem d_M_ones_2 : decode prog_14_method_22_code 2 = .ok (.iconst 0, 1) := by decide +kernel
theorem d_M_ones_3 : decode prog_14_method_22_code 3 = .ok (.istore_n 2, 1) := by decide +kernel
theorem d_M_ones_4 : decode prog_14_method_22_code 4 = .ok (.iload_n 2, 1) := by decide +kernel
theorem d_M_ones_5 : decode prog_14_method_22_code 5 = .ok (.bipush 24, 2) := by decide +kernel
theorem d_M_ones_7 : decode prog_14_method_22_code 7 = .ok (.if_icmp .ge 17, 3) := by decide +kernel
theorem d_M_ones_10 : decode prog_14_method_22_code 10 = .ok (.iload_n 1, 1) := by decide +kernel
theorem d_M_ones_11 : decode prog_14_method_22_code 11 = .ok (.iload_n 0, 1) := by decide +kernel
theorem d_M_ones_12 : decode prog_14_method_22_code 12 = .ok (.iload_n 2, 1) := by decide +kernel
theorem d_M_ones_13 : decode prog_14_method_22_code 13 = .ok (.ishr, 1) := by decide +kernel
theorem d_M_ones_14 : decode prog_14_method_22_code 14 = .ok (.iconst 1, 1) := by decide +kernel
theorem d_M_ones_15 : decode prog_14_method_22_code 15 = .ok (.iand, 1) := by decide +kernel
theorem d_M_ones_16 : decode prog_14_method_22_code 16 = .ok (.iadd, 1) := by decide +kernel
theorem d_M_ones_17 : decode prog_14_method_22_code 17 = .ok (.istore_n 1, 1) := by decide +kernel
theorem d_M_ones_18 : decode prog_14_method_22_code 18 = .ok (.iinc 2 1, 3) := by decide +kernel
theorem d_M_ones_21 : decode prog_14_method_22_code 21 = .ok (.goto (-17), 3) := by decide +kernel
theorem d_M_ones_24 : decode prog_14_method_22_code 24 = .ok (.iload_n 1, 1) := by decide +kernel
theorem d_M_ones_25 : decode prog_14_method_22_code 25 = .ok (.ireturn, 1) := by decide +kernel
theorem d_M_readsRest_0 : decode prog_14_method_23_code 0 = .ok (.aload_n 0, 1) := by decide +kernel
theorem d_M_readsRest_1 : decode prog_14_method_23_code 1 = .ok (.invokevirtual 103, 3) := by decide +kernel
theorem d_M_readsRest_4 : decode prog_14_method_23_code 4 = .ok (.ifCond .eq 264, 3) := by decide +kernel
theorem d_M_readsRest_7 : decode prog_14_method_23_code 7 = .ok (.aload_n 0, 1) := by decide +kernel
theorem d_M_readsRest_8 : decode prog_14_method_23_code 8 = .ok (.getfield 94, 3) := by decide +kernel
theorem d_M_readsRest_11 : decode prog_14_method_23_code 11 = .ok (.ifCond .eq 257, 3) := by decide +kernel
theorem d_M_readsRest_14 : decode prog_14_method_23_code 14 = .ok (.aload_n 0, 1) := by decide +kernel
theorem d_M_readsRest_15 : decode prog_14_method_23_code 15 = .ok (.getfield 94, 3) := by decide +kernel
theorem d_M_readsRest_18 : decode prog_14_method_23_code 18 = .ok (.iconst 1, 1) := by decide +kernel
theorem d_M_readsRest_19 : decode prog_14_method_23_code 19 = .ok (.if_icmp .ne 13, 3) := by decide +kernel
theorem d_M_readsRest_22 : decode prog_14_method_23_code 22 = .ok (.aload_n 0, 1) := by decide +kernel
theorem d_M_readsRest_23 : decode prog_14_method_23_code 23 = .ok (.getfield 97, 3) := by decide +kernel
theorem d_M_readsRest_26 : decode prog_14_method_23_code 26 = .ok (.invokestatic 125, 3) := by decide +kernel
theorem d_M_readsRest_29 : decode prog_14_method_23_code 29 = .ok (.goto 4, 3) := by decide +kernel
theorem d_M_readsRest_32 : decode prog_14_method_23_code 32 = .ok (.iconst 0, 1) := by decide +kernel
theorem d_M_readsRest_33 : decode prog_14_method_23_code 33 = .ok (.istore_n 1, 1) := by decide +kernel
theorem d_M_readsRest_34 : decode prog_14_method_23_code 34 = .ok (.aload_n 0, 1) := by decide +kernel
theorem d_M_readsRest_35 : decode prog_14_method_23_code 35 = .ok (.getfield 94, 3) := by decide +kernel
theorem d_M_readsRest_38 : decode prog_14_method_23_code 38 = .ok (.iconst 1, 1) := by decide +kernel
theorem d_M_readsRest_39 : decode prog_14_method_23_code 39 = .ok (.if_icmp .ne 128, 3) := by decide +kernel
theorem d_M_readsRest_42 : decode prog_14_method_23_code 42 = .ok (.aload_n 0, 1) := by decide +kernel
theorem d_M_readsRest_43 : decode prog_14_method_23_code 43 = .ok (.getfield 97, 3) := by decide +kernel
theorem d_M_readsRest_46 : decode prog_14_method_23_code 46 = .ok (.bipush 109, 2) := by decide +kernel
theorem d_M_readsRest_48 : decode prog_14_method_23_code 48 = .ok (.if_icmp .ne 119, 3) := by decide +kernel
theorem d_M_readsRest_51 : decode prog_14_method_23_code 51 = .ok (.aload_n 0, 1) := by decide +kernel
theorem d_M_readsRest_52 : decode prog_14_method_23_code 52 = .ok (.getfield 22, 3) := by decide +kernel
theorem d_M_readsRest_55 : decode prog_14_method_23_code 55 = .ok (.iconst 4, 1) := by decide +kernel
theorem d_M_readsRest_56 : decode prog_14_method_23_code 56 = .ok (.iaload, 1) := by decide +kernel
theorem d_M_readsRest_57 : decode prog_14_method_23_code 57 = .ok (.ifCond .ne 110, 3) := by decide +kernel
theorem d_M_readsRest_60 : decode prog_14_method_23_code 60 = .ok (.aload_n 0, 1) := by decide +kernel
theorem d_M_readsRest_61 : decode prog_14_method_23_code 61 = .ok (.getfield 22, 3) := by decide +kernel
theorem d_M_readsRest_64 : decode prog_14_method_23_code 64 = .ok (.bipush 13, 2) := by decide +kernel
theorem d_M_readsRest_66 : decode prog_14_method_23_code 66 = .ok (.iaload, 1) := by decide +kernel
theorem d_M_readsRest_67 : decode prog_14_method_23_code 67 = .ok (.invokestatic 128, 3) := by decide +kernel
theorem d_M_readsRest_70 : decode prog_14_method_23_code 70 = .ok (.iconst 4, 1) := by decide +kernel
theorem d_M_readsRest_71 : decode prog_14_method_23_code 71 = .ok (.if_icmp .ne 8, 3) := by decide +kernel
theorem d_M_readsRest_74 : decode prog_14_method_23_code 74 = .ok (.aload_n 0, 1) := by decide +kernel
theorem d_M_readsRest_75 : decode prog_14_method_23_code 75 = .ok (.iconst 3, 1) := by decide +kernel
theorem d_M_readsRest_76 : decode prog_14_method_23_code 76 = .ok (.invokevirtual 110, 3) := by decide +kernel
theorem d_M_readsRest_79 : decode prog_14_method_23_code 79 = .ok (.aload_n 0, 1) := by decide +kernel
theorem d_M_readsRest_80 : decode prog_14_method_23_code 80 = .ok (.iconst 1, 1) := by decide +kernel
theorem d_M_readsRest_81 : decode prog_14_method_23_code 81 = .ok (.bipush 109, 2) := by decide +kernel
theorem d_M_readsRest_83 : decode prog_14_method_23_code 83 = .ok (.invokevirtual 117, 3) := by decide +kernel
theorem d_M_readsRest_86 : decode prog_14_method_23_code 86 = .ok (.aload_n 0, 1) := by decide +kernel
theorem d_M_readsRest_87 : decode prog_14_method_23_code 87 = .ok (.getfield 94, 3) := by decide +kernel
theorem d_M_readsRest_90 : decode prog_14_method_23_code 90 = .ok (.iconst 2, 1) := by decide +kernel
theorem d_M_readsRest_91 : decode prog_14_method_23_code 91 = .ok (.if_icmp .ne 38, 3) := by decide +kernel
theorem d_M_readsRest_94 : decode prog_14_method_23_code 94 = .ok (.aload_n 0, 1) := by decide +kernel
theorem d_M_readsRest_95 : decode prog_14_method_23_code 95 = .ok (.getfield 97, 3) := by decide +kernel
theorem d_M_readsRest_98 : decode prog_14_method_23_code 98 = .ok (.iconst 0, 1) := by decide +kernel
theorem d_M_readsRest_99 : decode prog_14_method_23_code 99 = .ok (.bipush 23, 2) := by decide +kernel
theorem d_M_readsRest_101 : decode prog_14_method_23_code 101 = .ok (.invokestatic 58, 3) := by decide +kernel
theorem d_M_readsRest_104 : decode prog_14_method_23_code 104 = .ok (.ifCond .eq 25, 3) := by decide +kernel
theorem d_M_readsRest_107 : decode prog_14_method_23_code 107 = .ok (.aload_n 0, 1) := by decide +kernel
theorem d_M_readsRest_108 : decode prog_14_method_23_code 108 = .ok (.getfield 22, 3) := by decide +kernel
theorem d_M_readsRest_111 : decode prog_14_method_23_code 111 = .ok (.bipush 13, 2) := by decide +kernel
theorem d_M_readsRest_113 : decode prog_14_method_23_code 113 = .ok (.iaload, 1) := by decide +kernel
theorem d_M_readsRest_114 : decode prog_14_method_23_code 114 = .ok (.aload_n 0, 1) := by decide +kernel
theorem d_M_readsRest_115 : decode prog_14_method_23_code 115 = .ok (.getfield 97, 3) := by decide +kernel
theorem d_M_readsRest_118 : decode prog_14_method_23_code 118 = .ok (.ishr, 1) := by decide +kernel
theorem d_M_readsRest_119 : decode prog_14_method_23_code 119 = .ok (.iconst 1, 1) := by decide +kernel
theorem d_M_readsRest_120 : decode prog_14_method_23_code 120 = .ok (.iand, 1) := by decide +kernel
theorem d_M_readsRest_121 : decode prog_14_method_23_code 121 = .ok (.iconst 1, 1) := by decide +kernel
theorem d_M_readsRest_122 : decode prog_14_method_23_code 122 = .ok (.if_icmp .ne 7, 3) := by decide +kernel
theorem d_M_readsRest_125 : decode prog_14_method_23_code 125 = .ok (.iconst 1, 1) := by decide +kernel
theorem d_M_readsRest_126 : decode prog_14_method_23_code 126 = .ok (.goto 4, 3) := by decide +kernel
theorem d_M_readsRest_129 : decode prog_14_method_23_code 129 = .ok (.iconst 0, 1) := by decide +kernel
theorem d_M_readsRest_130 : decode prog_14_method_23_code 130 = .ok (.istore_n 2, 1) := by decide +kernel
theorem d_M_readsRest_131 : decode prog_14_method_23_code 131 = .ok (.aload_n 0, 1) := by decide +kernel
theorem d_M_readsRest_132 : decode prog_14_method_23_code 132 = .ok (.iconst 0, 1) := by decide +kernel
theorem d_M_readsRest_133 : decode prog_14_method_23_code 133 = .ok (.bipush 23, 2) := by decide +kernel
theorem d_M_readsRest_135 : decode prog_14_method_23_code 135 = .ok (.iload_n 2, 1) := by decide +kernel
theorem d_M_readsRest_136 : decode prog_14_method_23_code 136 = .ok (.invokevirtual 121, 3) := by decide +kernel
theorem d_M_readsRest_139 : decode prog_14_method_23_code 139 = .ok (.istore_n 3, 1) := by decide +kernel
theorem d_M_readsRest_140 : decode prog_14_method_23_code 140 = .ok (.aload_n 0, 1) := by decide +kernel
theorem d_M_readsRest_141 : decode prog_14_method_23_code 141 = .ok (.getfield 22, 3) := by decide +kernel
theorem d_M_readsRest_144 : decode prog_14_method_23_code 144 = .ok (.bipush 13, 2) := by decide +kernel
theorem d_M_readsRest_146 : decode prog_14_method_23_code 146 = .ok (.dup2, 1) := by decide +kernel
theorem d_M_readsRest_147 : decode prog_14_method_23_code 147 = .ok (.iaload, 1) := by decide +kernel
theorem d_M_readsRest_148 : decode prog_14_method_23_code 148 = .ok (.aload_n 0, 1) := by decide +kernel
theorem d_M_readsRest_149 : decode prog_14_method_23_code 149 = .ok (.invokevirtual 103, 3) := by decide +kernel
theorem d_M_readsRest_152 : decode prog_14_method_23_code 152 = .ok (.ifCond .eq 9, 3) := by decide +kernel
theorem d_M_readsRest_155 : decode prog_14_method_23_code 155 = .ok (.iconst 1, 1) := by decide +kernel
theorem d_M_readsRest_156 : decode prog_14_method_23_code 156 = .ok (.iload_n 3, 1) := by decide +kernel
theorem d_M_readsRest_157 : decode prog_14_method_23_code 157 = .ok (.ishl, 1) := by decide +kernel
theorem d_M_readsRest_158 : decode prog_14_method_23_code 158 = .ok (.goto 4, 3) := by decide +kernel
theorem d_M_readsRest_161 : decode prog_14_method_23_code 161 = .ok (.iconst 0, 1) := by decide +kernel
theorem d_M_readsRest_162 : decode prog_14_method_23_code 162 = .ok (.ior, 1) := by decide +kernel
theorem d_M_readsRest_163 : decode prog_14_method_23_code 163 = .ok (.iastore, 1) := by decide +kernel
theorem d_M_readsRest_164 : decode prog_14_method_23_code 164 = .ok (.goto 94, 3) := by decide +kernel
theorem d_M_readsRest_167 : decode prog_14_method_23_code 167 = .ok (.iload_n 1, 1) := by decide +kernel
theorem d_M_readsRest_168 : decode prog_14_method_23_code 168 = .ok (.ifCond .le 85, 3) := by decide +kernel
theorem d_M_readsRest_171 : decode prog_14_method_23_code 171 = .ok (.aload_n 0, 1) := by decide +kernel
theorem d_M_readsRest_172 : decode prog_14_method_23_code 172 = .ok (.getfield 22, 3) := by decide +kernel
theorem d_M_readsRest_175 : decode prog_14_method_23_code 175 = .ok (.iconst 4, 1) := by decide +kernel
theorem d_M_readsRest_176 : decode prog_14_method_23_code 176 = .ok (.iaload, 1) := by decide +kernel
theorem d_M_readsRest_177 : decode prog_14_method_23_code 177 = .ok (.iconst 4, 1) := by decide +kernel
theorem d_M_readsRest_178 : decode prog_14_method_23_code 178 = .ok (.if_icmp .ne 8, 3) := by decide +kernel
theorem d_M_readsRest_181 : decode prog_14_method_23_code 181 = .ok (.aload_n 0, 1) := by decide +kernel
theorem d_M_readsRest_182 : decode prog_14_method_23_code 182 = .ok (.iconst 3, 1) := by decide +kernel
theorem d_M_readsRest_183 : decode prog_14_method_23_code 183 = .ok (.invokevirtual 110, 3) := by decide +kernel
theorem d_M_readsRest_186 : decode prog_14_method_23_code 186 = .ok (.aload_n 0, 1) := by decide +kernel
theorem d_M_readsRest_187 : decode prog_14_method_23_code 187 = .ok (.iconst 1, 1) := by decide +kernel
theorem d_M_readsRest_188 : decode prog_14_method_23_code 188 = .ok (.aload_n 0, 1) := by decide +kernel
theorem d_M_readsRest_189 : decode prog_14_method_23_code 189 = .ok (.getfield 97, 3) := by decide +kernel
theorem d_M_readsRest_192 : decode prog_14_method_23_code 192 = .ok (.invokevirtual 117, 3) := by decide +kernel
theorem d_M_readsRest_195 : decode prog_14_method_23_code 195 = .ok (.aload_n 0, 1) := by decide +kernel
theorem d_M_readsRest_196 : decode prog_14_method_23_code 196 = .ok (.iconst 1, 1) := by decide +kernel
theorem d_M_readsRest_197 : decode prog_14_method_23_code 197 = .ok (.bipush 20, 2) := by decide +kernel
theorem d_M_readsRest_199 : decode prog_14_method_23_code 199 = .ok (.iconst 0, 1) := by decide +kernel
theorem d_M_readsRest_200 : decode prog_14_method_23_code 200 = .ok (.invokevirtual 121, 3) := by decide +kernel
theorem d_M_readsRest_203 : decode prog_14_method_23_code 203 = .ok (.istore_n 2, 1) := by decide +kernel
theorem d_M_readsRest_204 : decode prog_14_method_23_code 204 = .ok (.aload_n 0, 1) := by decide +kernel
theorem d_M_readsRest_205 : decode prog_14_method_23_code 205 = .ok (.invokevirtual 103, 3) := by decide +kernel
theorem d_M_readsRest_208 : decode prog_14_method_23_code 208 = .ok (.ifCond .eq 42, 3) := by decide +kernel
theorem d_M_readsRest_211 : decode prog_14_method_23_code 211 = .ok (.aload_n 0, 1) := by decide +kernel
theorem d_M_readsRest_212 : decode prog_14_method_23_code 212 = .ok (.getfield 22, 3) := by decide +kernel
theorem d_M_readsRest_215 : decode prog_14_method_23_code 215 = .ok (.iconst 5, 1) := by decide +kernel
theorem d_M_readsRest_216 : decode prog_14_method_23_code 216 = .ok (.aload_n 0, 1) := by decide +kernel
theorem d_M_readsRest_217 : decode prog_14_method_23_code 217 = .ok (.getfield 22, 3) := by decide +kernel
theorem d_M_readsRest_220 : decode prog_14_method_23_code 220 = .ok (.iconst 4, 1) := by decide +kernel
theorem d_M_readsRest_221 : decode prog_14_method_23_code 221 = .ok (.iaload, 1) := by decide +kernel
theorem d_M_readsRest_222 : decode prog_14_method_23_code 222 = .ok (.iadd, 1) := by decide +kernel
theorem d_M_readsRest_223 : decode prog_14_method_23_code 223 = .ok (.iload_n 1, 1) := by decide +kernel
theorem d_M_readsRest_224 : decode prog_14_method_23_code 224 = .ok (.iastore, 1) := by decide +kernel
theorem d_M_readsRest_225 : decode prog_14_method_23_code 225 = .ok (.aload_n 0, 1) := by decide +kernel
theorem d_M_readsRest_226 : decode prog_14_method_23_code 226 = .ok (.getfield 22, 3) := by decide +kernel
theorem d_M_readsRest_229 : decode prog_14_method_23_code 229 = .ok (.bipush 9, 2) := by decide +kernel
theorem d_M_readsRest_231 : decode prog_14_method_23_code 231 = .ok (.aload_n 0, 1) := by decide +kernel
theorem d_M_readsRest_232 : decode prog_14_method_23_code 232 = .ok (.getfield 22, 3) := by decide +kernel
theorem d_M_readsRest_235 : decode prog_14_method_23_code 235 = .ok (.iconst 4, 1) := by decide +kernel
theorem d_M_readsRest_236 : decode prog_14_method_23_code 236 = .ok (.iaload, 1) := by decide +kernel
theorem d_M_readsRest_237 : decode prog_14_method_23_code 237 = .ok (.iadd, 1) := by decide +kernel
theorem d_M_readsRest_238 : decode prog_14_method_23_code 238 = .ok (.iload_n 2, 1) := by decide +kernel
theorem d_M_readsRest_239 : decode prog_14_method_23_code 239 = .ok (.iastore, 1) := by decide +kernel
theorem d_M_readsRest_240 : decode prog_14_method_23_code 240 = .ok (.aload_n 0, 1) := by decide +kernel
theorem d_M_readsRest_241 : decode prog_14_method_23_code 241 = .ok (.getfield 22, 3) := by decide +kernel
theorem d_M_readsRest_244 : decode prog_14_method_23_code 244 = .ok (.iconst 4, 1) := by decide +kernel
theorem d_M_readsRest_245 : decode prog_14_method_23_code 245 = .ok (.dup2, 1) := by decide +kernel
theorem d_M_readsRest_246 : decode prog_14_method_23_code 246 = .ok (.iaload, 1) := by decide +kernel
theorem d_M_readsRest_247 : decode prog_14_method_23_code 247 = .ok (.iconst 1, 1) := by decide +kernel
theorem d_M_readsRest_248 : decode prog_14_method_23_code 248 = .ok (.iadd, 1) := by decide +kernel
theorem d_M_readsRest_249 : decode prog_14_method_23_code 249 = .ok (.iastore, 1) := by decide +kernel
theorem d_M_readsRest_250 : decode prog_14_method_23_code 250 = .ok (.goto 8, 3) := by decide +kernel
theorem d_M_readsRest_253 : decode prog_14_method_23_code 253 = .ok (.aload_n 0, 1) := by decide +kernel
theorem d_M_readsRest_254 : decode prog_14_method_23_code 254 = .ok (.iconst 1, 1) := by decide +kernel
theorem d_M_readsRest_255 : decode prog_14_method_23_code 255 = .ok (.invokevirtual 110, 3) := by decide +kernel
theorem d_M_readsRest_258 : decode prog_14_method_23_code 258 = .ok (.aload_n 0, 1) := by decide +kernel
theorem d_M_readsRest_259 : decode prog_14_method_23_code 259 = .ok (.iconst 3, 1) := by decide +kernel
theorem d_M_readsRest_260 : decode prog_14_method_23_code 260 = .ok (.bipush 59, 2) := by decide +kernel
theorem d_M_readsRest_262 : decode prog_14_method_23_code 262 = .ok (.invokevirtual 117, 3) := by decide +kernel
theorem d_M_readsRest_265 : decode prog_14_method_23_code 265 = .ok (.goto (-265), 3) := by decide +kernel
theorem d_M_readsRest_268 : decode prog_14_method_23_code 268 = .ok (.return_, 1) := by decide +kernel
theorem d_M_basin_0 : decode prog_14_method_24_code 0 = .ok (.aload_n 0, 1) := by decide +kernel
theorem d_M_basin_1 : decode prog_14_method_24_code 1 = .ok (.iconst 0, 1) := by decide +kernel
theorem d_M_basin_2 : decode prog_14_method_24_code 2 = .ok (.putfield 50, 3) := by decide +kernel
theorem d_M_basin_5 : decode prog_14_method_24_code 5 = .ok (.aload_n 0, 1) := by decide +kernel
theorem d_M_basin_6 : decode prog_14_method_24_code 6 = .ok (.iconst 0, 1) := by decide +kernel
theorem d_M_basin_7 : decode prog_14_method_24_code 7 = .ok (.putfield 100, 3) := by decide +kernel
theorem d_M_basin_10 : decode prog_14_method_24_code 10 = .ok (.aload_n 0, 1) := by decide +kernel
theorem d_M_basin_11 : decode prog_14_method_24_code 11 = .ok (.iconst 0, 1) := by decide +kernel
theorem d_M_basin_12 : decode prog_14_method_24_code 12 = .ok (.putfield 85, 3) := by decide +kernel
theorem d_M_basin_15 : decode prog_14_method_24_code 15 = .ok (.iconst 0, 1) := by decide +kernel
theorem d_M_basin_16 : decode prog_14_method_24_code 16 = .ok (.istore_n 1, 1) := by decide +kernel
theorem d_M_basin_17 : decode prog_14_method_24_code 17 = .ok (.iload_n 1, 1) := by decide +kernel
theorem d_M_basin_18 : decode prog_14_method_24_code 18 = .ok (.bipush 42, 2) := by decide +kernel
theorem d_M_basin_20 : decode prog_14_method_24_code 20 = .ok (.if_icmp .ge 16, 3) := by decide +kernel
theorem d_M_basin_23 : decode prog_14_method_24_code 23 = .ok (.aload_n 0, 1) := by decide +kernel
theorem d_M_basin_24 : decode prog_14_method_24_code 24 = .ok (.getfield 22, 3) := by decide +kernel
theorem d_M_basin_27 : decode prog_14_method_24_code 27 = .ok (.iload_n 1, 1) := by decide +kernel
theorem d_M_basin_28 : decode prog_14_method_24_code 28 = .ok (.iconst 0, 1) := by decide +kernel
theorem d_M_basin_29 : decode prog_14_method_24_code 29 = .ok (.iastore, 1) := by decide +kernel
theorem d_M_basin_30 : decode prog_14_method_24_code 30 = .ok (.iinc 1 1, 3) := by decide +kernel
theorem d_M_basin_33 : decode prog_14_method_24_code 33 = .ok (.goto (-16), 3) := by decide +kernel
theorem d_M_basin_36 : decode prog_14_method_24_code 36 = .ok (.aload_n 0, 1) := by decide +kernel
theorem d_M_basin_37 : decode prog_14_method_24_code 37 = .ok (.getfield 22, 3) := by decide +kernel
theorem d_M_basin_40 : decode prog_14_method_24_code 40 = .ok (.iconst 0, 1) := by decide +kernel
theorem d_M_basin_41 : decode prog_14_method_24_code 41 = .ok (.iconst 1, 1) := by decide +kernel
theorem d_M_basin_42 : decode prog_14_method_24_code 42 = .ok (.iastore, 1) := by decide +kernel
theorem d_M_basin_43 : decode prog_14_method_24_code 43 = .ok (.aload_n 0, 1) := by decide +kernel
theorem d_M_basin_44 : decode prog_14_method_24_code 44 = .ok (.invokevirtual 114, 3) := by decide +kernel
theorem d_M_basin_47 : decode prog_14_method_24_code 47 = .ok (.aload_n 0, 1) := by decide +kernel
theorem d_M_basin_48 : decode prog_14_method_24_code 48 = .ok (.invokevirtual 131, 3) := by decide +kernel
theorem d_M_basin_51 : decode prog_14_method_24_code 51 = .ok (.aload_n 0, 1) := by decide +kernel
theorem d_M_basin_52 : decode prog_14_method_24_code 52 = .ok (.invokevirtual 134, 3) := by decide +kernel
theorem d_M_basin_55 : decode prog_14_method_24_code 55 = .ok (.aload_n 0, 1) := by decide +kernel
theorem d_M_basin_56 : decode prog_14_method_24_code 56 = .ok (.iconst 0, 1) := by decide +kernel
theorem d_M_basin_57 : decode prog_14_method_24_code 57 = .ok (.putfield 81, 3) := by decide +kernel
theorem d_M_basin_60 : decode prog_14_method_24_code 60 = .ok (.aload_n 0, 1) := by decide +kernel
theorem d_M_basin_61 : decode prog_14_method_24_code 61 = .ok (.invokevirtual 103, 3) := by decide +kernel
theorem d_M_basin_64 : decode prog_14_method_24_code 64 = .ok (.ifCond .ne 19, 3) := by decide +kernel
theorem d_M_basin_67 : decode prog_14_method_24_code 67 = .ok (.aload_n 0, 1) := by decide +kernel
theorem d_M_basin_68 : decode prog_14_method_24_code 68 = .ok (.aload_n 0, 1) := by decide +kernel
theorem d_M_basin_69 : decode prog_14_method_24_code 69 = .ok (.getfield 100, 3) := by decide +kernel
theorem d_M_basin_72 : decode prog_14_method_24_code 72 = .ok (.putfield 137, 3) := by decide +kernel
theorem d_M_basin_75 : decode prog_14_method_24_code 75 = .ok (.ldc 140, 2) := by decide +kernel
theorem d_M_basin_77 : decode prog_14_method_24_code 77 = .ok (.aload_n 0, 1) := by decide +kernel
theorem d_M_basin_78 : decode prog_14_method_24_code 78 = .ok (.getfield 107, 3) := by decide +kernel
theorem d_M_basin_81 : decode prog_14_method_24_code 81 = .ok (.isub, 1) := by decide +kernel
theorem d_M_basin_82 : decode prog_14_method_24_code 82 = .ok (.ireturn, 1) := by decide +kernel
theorem d_M_basin_83 : decode prog_14_method_24_code 83 = .ok (.aload_n 0, 1) := by decide +kernel
theorem d_M_basin_84 : decode prog_14_method_24_code 84 = .ok (.getfield 22, 3) := by decide +kernel
theorem d_M_basin_87 : decode prog_14_method_24_code 87 = .ok (.aload_n 0, 1) := by decide +kernel
theorem d_M_basin_88 : decode prog_14_method_24_code 88 = .ok (.getfield 25, 3) := by decide +kernel
theorem d_M_basin_91 : decode prog_14_method_24_code 91 = .ok (.invokestatic 141, 3) := by decide +kernel
theorem d_M_basin_94 : decode prog_14_method_24_code 94 = .ok (.aload_n 0, 1) := by decide +kernel
theorem d_M_basin_95 : decode prog_14_method_24_code 95 = .ok (.iconst 0, 1) := by decide +kernel
theorem d_M_basin_96 : decode prog_14_method_24_code 96 = .ok (.putfield 145, 3) := by decide +kernel
theorem d_M_basin_99 : decode prog_14_method_24_code 99 = .ok (.aload_n 0, 1) := by decide +kernel
theorem d_M_basin_100 : decode prog_14_method_24_code 100 = .ok (.getfield 25, 3) := by decide +kernel
theorem d_M_basin_103 : decode prog_14_method_24_code 103 = .ok (.iconst 4, 1) := by decide +kernel
theorem d_M_basin_104 : decode prog_14_method_24_code 104 = .ok (.iaload, 1) := by decide +kernel
theorem d_M_basin_105 : decode prog_14_method_24_code 105 = .ok (.ireturn, 1) := by decide +kernel
theorem d_M_copies_0 : decode prog_14_method_25_code 0 = .ok (.iconst 0, 1) := by decide +kernel
theorem d_M_copies_1 : decode prog_14_method_25_code 1 = .ok (.istore_n 2, 1) := by decide +kernel
theorem d_M_copies_2 : decode prog_14_method_25_code 2 = .ok (.iload_n 2, 1) := by decide +kernel
theorem d_M_copies_3 : decode prog_14_method_25_code 3 = .ok (.bipush 42, 2) := by decide +kernel
theorem d_M_copies_5 : decode prog_14_method_25_code 5 = .ok (.if_icmp .ge 15, 3) := by decide +kernel
theorem d_M_copies_8 : decode prog_14_method_25_code 8 = .ok (.aload_n 1, 1) := by decide +kernel
theorem d_M_copies_9 : decode prog_14_method_25_code 9 = .ok (.iload_n 2, 1) := by decide +kernel
theorem d_M_copies_10 : decode prog_14_method_25_code 10 = .ok (.aload_n 0, 1) := by decide +kernel
theorem d_M_copies_11 : decode prog_14_method_25_code 11 = .ok (.iload_n 2, 1) := by decide +kernel
theorem d_M_copies_12 : decode prog_14_method_25_code 12 = .ok (.iaload, 1) := by decide +kernel
theorem d_M_copies_13 : decode prog_14_method_25_code 13 = .ok (.iastore, 1) := by decide +kernel
theorem d_M_copies_14 : decode prog_14_method_25_code 14 = .ok (.iinc 2 1, 3) := by decide +kernel
theorem d_M_copies_17 : decode prog_14_method_25_code 17 = .ok (.goto (-15), 3) := by decide +kernel
theorem d_M_copies_20 : decode prog_14_method_25_code 20 = .ok (.return_, 1) := by decide +kernel
theorem d_M_fault_0 : decode prog_14_method_26_code 0 = .ok (.aload_n 0, 1) := by decide +kernel
theorem d_M_fault_1 : decode prog_14_method_26_code 1 = .ok (.iconst 0, 1) := by decide +kernel
theorem d_M_fault_2 : decode prog_14_method_26_code 2 = .ok (.putfield 50, 3) := by decide +kernel
theorem d_M_fault_5 : decode prog_14_method_26_code 5 = .ok (.aload_n 0, 1) := by decide +kernel
theorem d_M_fault_6 : decode prog_14_method_26_code 6 = .ok (.getfield 137, 3) := by decide +kernel
theorem d_M_fault_9 : decode prog_14_method_26_code 9 = .ok (.ireturn, 1) := by decide +kernel
theorem d_M_notes_0 : decode prog_14_method_27_code 0 = .ok (.aload_n 0, 1) := by decide +kernel
theorem d_M_notes_1 : decode prog_14_method_27_code 1 = .ok (.getfield 145, 3) := by decide +kernel
theorem d_M_notes_4 : decode prog_14_method_27_code 4 = .ok (.bipush 24, 2) := by decide +kernel
theorem d_M_notes_6 : decode prog_14_method_27_code 6 = .ok (.if_icmp .ne 39, 3) := by decide +kernel
theorem d_M_notes_9 : decode prog_14_method_27_code 9 = .ok (.iconst 0, 1) := by decide +kernel
theorem d_M_notes_10 : decode prog_14_method_27_code 10 = .ok (.istore_n 1, 1) := by decide +kernel
theorem d_M_notes_11 : decode prog_14_method_27_code 11 = .ok (.iload_n 1, 1) := by decide +kernel
theorem d_M_notes_12 : decode prog_14_method_27_code 12 = .ok (.sipush 966, 3) := by decide +kernel
theorem d_M_notes_15 : decode prog_14_method_27_code 15 = .ok (.if_icmp .ge 24, 3) := by decide +kernel
theorem d_M_notes_18 : decode prog_14_method_27_code 18 = .ok (.aload_n 0, 1) := by decide +kernel
theorem d_M_notes_19 : decode prog_14_method_27_code 19 = .ok (.getfield 31, 3) := by decide +kernel
theorem d_M_notes_22 : decode prog_14_method_27_code 22 = .ok (.iload_n 1, 1) := by decide +kernel
theorem d_M_notes_23 : decode prog_14_method_27_code 23 = .ok (.aload_n 0, 1) := by decide +kernel
theorem d_M_notes_24 : decode prog_14_method_27_code 24 = .ok (.getfield 31, 3) := by decide +kernel
theorem d_M_notes_27 : decode prog_14_method_27_code 27 = .ok (.iload_n 1, 1) := by decide +kernel
theorem d_M_notes_28 : decode prog_14_method_27_code 28 = .ok (.bipush 42, 2) := by decide +kernel
theorem d_M_notes_30 : decode prog_14_method_27_code 30 = .ok (.iadd, 1) := by decide +kernel
theorem d_M_notes_31 : decode prog_14_method_27_code 31 = .ok (.iaload, 1) := by decide +kernel
theorem d_M_notes_32 : decode prog_14_method_27_code 32 = .ok (.iastore, 1) := by decide +kernel
theorem d_M_notes_33 : decode prog_14_method_27_code 33 = .ok (.iinc 1 1, 3) := by decide +kernel
theorem d_M_notes_36 : decode prog_14_method_27_code 36 = .ok (.goto (-25), 3) := by decide +kernel
theorem d_M_notes_39 : decode prog_14_method_27_code 39 = .ok (.aload_n 0, 1) := by decide +kernel
theorem d_M_notes_40 : decode prog_14_method_27_code 40 = .ok (.bipush 23, 2) := by decide +kernel
theorem d_M_notes_42 : decode prog_14_method_27_code 42 = .ok (.putfield 145, 3) := by decide +kernel
theorem d_M_notes_45 : decode prog_14_method_27_code 45 = .ok (.iconst 0, 1) := by decide +kernel
theorem d_M_notes_46 : decode prog_14_method_27_code 46 = .ok (.istore_n 1, 1) := by decide +kernel
theorem d_M_notes_47 : decode prog_14_method_27_code 47 = .ok (.iload_n 1, 1) := by decide +kernel
theorem d_M_notes_48 : decode prog_14_method_27_code 48 = .ok (.bipush 42, 2) := by decide +kernel
theorem d_M_notes_50 : decode prog_14_method_27_code 50 = .ok (.if_icmp .ge 29, 3) := by decide +kernel
theorem d_M_notes_53 : decode prog_14_method_27_code 53 = .ok (.aload_n 0, 1) := by decide +kernel
theorem d_M_notes_54 : decode prog_14_method_27_code 54 = .ok (.getfield 31, 3) := by decide +kernel
theorem d_M_notes_57 : decode prog_14_method_27_code 57 = .ok (.bipush 42, 2) := by decide +kernel
theorem d_M_notes_59 : decode prog_14_method_27_code 59 = .ok (.aload_n 0, 1) := by decide +kernel
theorem d_M_notes_60 : decode prog_14_method_27_code 60 = .ok (.getfield 145, 3) := by decide +kernel
theorem d_M_notes_63 : decode prog_14_method_27_code 63 = .ok (.imul, 1) := by decide +kernel
theorem d_M_notes_64 : decode prog_14_method_27_code 64 = .ok (.iload_n 1, 1) := by decide +kernel
theorem d_M_notes_65 : decode prog_14_method_27_code 65 = .ok (.iadd, 1) := by decide +kernel
theorem d_M_notes_66 : decode prog_14_method_27_code 66 = .ok (.aload_n 0, 1) := by decide +kernel
theorem d_M_notes_67 : decode prog_14_method_27_code 67 = .ok (.getfield 25, 3) := by decide +kernel
theorem d_M_notes_70 : decode prog_14_method_27_code 70 = .ok (.iload_n 1, 1) := by decide +kernel
theorem d_M_notes_71 : decode prog_14_method_27_code 71 = .ok (.iaload, 1) := by decide +kernel
theorem d_M_notes_72 : decode prog_14_method_27_code 72 = .ok (.iastore, 1) := by decide +kernel
theorem d_M_notes_73 : decode prog_14_method_27_code 73 = .ok (.iinc 1 1, 3) := by decide +kernel
theorem d_M_notes_76 : decode prog_14_method_27_code 76 = .ok (.goto (-29), 3) := by decide +kernel
theorem d_M_notes_79 : decode prog_14_method_27_code 79 = .ok (.aload_n 0, 1) := by decide +kernel
theorem d_M_notes_80 : decode prog_14_method_27_code 80 = .ok (.dup, 1) := by decide +kernel
theorem d_M_notes_81 : decode prog_14_method_27_code 81 = .ok (.getfield 145, 3) := by decide +kernel
theorem d_M_notes_84 : decode prog_14_method_27_code 84 = .ok (.iconst 1, 1) := by decide +kernel
theorem d_M_notes_85 : decode prog_14_method_27_code 85 = .ok (.iadd, 1) := by decide +kernel
theorem d_M_notes_86 : decode prog_14_method_27_code 86 = .ok (.putfield 145, 3) := by decide +kernel
theorem d_M_notes_89 : decode prog_14_method_27_code 89 = .ok (.return_, 1) := by decide +kernel
theorem d_M_undo_0 : decode prog_14_method_28_code 0 = .ok (.aload_n 0, 1) := by decide +kernel
theorem d_M_undo_1 : decode prog_14_method_28_code 1 = .ok (.iconst 0, 1) := by decide +kernel
theorem d_M_undo_2 : decode prog_14_method_28_code 2 = .ok (.putfield 50, 3) := by decide +kernel
theorem d_M_undo_5 : decode prog_14_method_28_code 5 = .ok (.aload_n 0, 1) := by decide +kernel
theorem d_M_undo_6 : decode prog_14_method_28_code 6 = .ok (.getfield 145, 3) := by decide +kernel
theorem d_M_undo_9 : decode prog_14_method_28_code 9 = .ok (.ifCond .ne 6, 3) := by decide +kernel
theorem d_M_undo_12 : decode prog_14_method_28_code 12 = .ok (.ldc 148, 2) := by decide +kernel
theorem d_M_undo_14 : decode prog_14_method_28_code 14 = .ok (.ireturn, 1) := by decide +kernel
theorem d_M_undo_15 : decode prog_14_method_28_code 15 = .ok (.aload_n 0, 1) := by decide +kernel
theorem d_M_undo_16 : decode prog_14_method_28_code 16 = .ok (.dup, 1) := by decide +kernel
theorem d_M_undo_17 : decode prog_14_method_28_code 17 = .ok (.getfield 145, 3) := by decide +kernel
theorem d_M_undo_20 : decode prog_14_method_28_code 20 = .ok (.iconst 1, 1) := by decide +kernel
theorem d_M_undo_21 : decode prog_14_method_28_code 21 = .ok (.isub, 1) := by decide +kernel
theorem d_M_undo_22 : decode prog_14_method_28_code 22 = .ok (.putfield 145, 3) := by decide +kernel
theorem d_M_undo_25 : decode prog_14_method_28_code 25 = .ok (.iconst 0, 1) := by decide +kernel
theorem d_M_undo_26 : decode prog_14_method_28_code 26 = .ok (.istore_n 1, 1) := by decide +kernel
theorem d_M_undo_27 : decode prog_14_method_28_code 27 = .ok (.iload_n 1, 1) := by decide +kernel
theorem d_M_undo_28 : decode prog_14_method_28_code 28 = .ok (.bipush 42, 2) := by decide +kernel
theorem d_M_undo_30 : decode prog_14_method_28_code 30 = .ok (.if_icmp .ge 29, 3) := by decide +kernel
theorem d_M_undo_33 : decode prog_14_method_28_code 33 = .ok (.aload_n 0, 1) := by decide +kernel
theorem d_M_undo_34 : decode prog_14_method_28_code 34 = .ok (.getfield 25, 3) := by decide +kernel
theorem d_M_undo_37 : decode prog_14_method_28_code 37 = .ok (.iload_n 1, 1) := by decide +kernel
theorem d_M_undo_38 : decode prog_14_method_28_code 38 = .ok (.aload_n 0, 1) := by decide +kernel
theorem d_M_undo_39 : decode prog_14_method_28_code 39 = .ok (.getfield 31, 3) := by decide +kernel
theorem d_M_undo_42 : decode prog_14_method_28_code 42 = .ok (.bipush 42, 2) := by decide +kernel
theorem d_M_undo_44 : decode prog_14_method_28_code 44 = .ok (.aload_n 0, 1) := by decide +kernel
theorem d_M_undo_45 : decode prog_14_method_28_code 45 = .ok (.getfield 145, 3) := by decide +kernel
theorem d_M_undo_48 : decode prog_14_method_28_code 48 = .ok (.imul, 1) := by decide +kernel
theorem d_M_undo_49 : decode prog_14_method_28_code 49 = .ok (.iload_n 1, 1) := by decide +kernel
theorem d_M_undo_50 : decode prog_14_method_28_code 50 = .ok (.iadd, 1) := by decide +kernel
theorem d_M_undo_51 : decode prog_14_method_28_code 51 = .ok (.iaload, 1) := by decide +kernel
theorem d_M_undo_52 : decode prog_14_method_28_code 52 = .ok (.iastore, 1) := by decide +kernel
theorem d_M_undo_53 : decode prog_14_method_28_code 53 = .ok (.iinc 1 1, 3) := by decide +kernel
theorem d_M_undo_56 : decode prog_14_method_28_code 56 = .ok (.goto (-29), 3) := by decide +kernel
theorem d_M_undo_59 : decode prog_14_method_28_code 59 = .ok (.aload_n 0, 1) := by decide +kernel
theorem d_M_undo_60 : decode prog_14_method_28_code 60 = .ok (.getfield 145, 3) := by decide +kernel
theorem d_M_undo_63 : decode prog_14_method_28_code 63 = .ok (.ireturn, 1) := by decide +kernel
theorem d_M_dx_0 : decode prog_14_method_29_code 0 = .ok (.iload_n 0, 1) := by decide +kernel
theorem d_M_dx_1 : decode prog_14_method_29_code 1 = .ok (.bipush 7, 2) := by decide +kernel
theorem d_M_dx_3 : decode prog_14_method_29_code 3 = .ok (.iand, 1) := by decide +kernel
theorem d_M_dx_4 : decode prog_14_method_29_code 4 = .ok (.istore_n 1, 1) := by decide +kernel
theorem d_M_dx_5 : decode prog_14_method_29_code 5 = .ok (.iload_n 1, 1) := by decide +kernel
theorem d_M_dx_6 : decode prog_14_method_29_code 6 = .ok (.ifCond .eq 14, 3) := by decide +kernel
theorem d_M_dx_9 : decode prog_14_method_29_code 9 = .ok (.iload_n 1, 1) := by decide +kernel
theorem d_M_dx_10 : decode prog_14_method_29_code 10 = .ok (.iconst 1, 1) := by decide +kernel
theorem d_M_dx_11 : decode prog_14_method_29_code 11 = .ok (.if_icmp .eq 9, 3) := by decide +kernel
theorem d_M_dx_14 : decode prog_14_method_29_code 14 = .ok (.iload_n 1, 1) := by decide +kernel
theorem d_M_dx_15 : decode prog_14_method_29_code 15 = .ok (.bipush 7, 2) := by decide +kernel
theorem d_M_dx_17 : decode prog_14_method_29_code 17 = .ok (.if_icmp .ne 7, 3) := by decide +kernel
theorem d_M_dx_20 : decode prog_14_method_29_code 20 = .ok (.iconst 1, 1) := by decide +kernel
theorem d_M_dx_21 : decode prog_14_method_29_code 21 = .ok (.goto 19, 3) := by decide +kernel
theorem d_M_dx_24 : decode prog_14_method_29_code 24 = .ok (.iload_n 1, 1) := by decide +kernel
theorem d_M_dx_25 : decode prog_14_method_29_code 25 = .ok (.iconst 2, 1) := by decide +kernel
theorem d_M_dx_26 : decode prog_14_method_29_code 26 = .ok (.if_icmp .eq 9, 3) := by decide +kernel
theorem d_M_dx_29 : decode prog_14_method_29_code 29 = .ok (.iload_n 1, 1) := by decide +kernel
theorem d_M_dx_30 : decode prog_14_method_29_code 30 = .ok (.bipush 6, 2) := by decide +kernel
theorem d_M_dx_32 : decode prog_14_method_29_code 32 = .ok (.if_icmp .ne 7, 3) := by decide +kernel
theorem d_M_dx_35 : decode prog_14_method_29_code 35 = .ok (.iconst 0, 1) := by decide +kernel
theorem d_M_dx_36 : decode prog_14_method_29_code 36 = .ok (.goto 4, 3) := by decide +kernel
theorem d_M_dx_39 : decode prog_14_method_29_code 39 = .ok (.iconst (-1), 1) := by decide +kernel
theorem d_M_dx_40 : decode prog_14_method_29_code 40 = .ok (.ireturn, 1) := by decide +kernel
theorem d_M_dy_0 : decode prog_14_method_30_code 0 = .ok (.iload_n 0, 1) := by decide +kernel
theorem d_M_dy_1 : decode prog_14_method_30_code 1 = .ok (.bipush 7, 2) := by decide +kernel
theorem d_M_dy_3 : decode prog_14_method_30_code 3 = .ok (.iand, 1) := by decide +kernel
theorem d_M_dy_4 : decode prog_14_method_30_code 4 = .ok (.istore_n 1, 1) := by decide +kernel
theorem d_M_dy_5 : decode prog_14_method_30_code 5 = .ok (.iload_n 1, 1) := by decide +kernel
theorem d_M_dy_6 : decode prog_14_method_30_code 6 = .ok (.ifCond .eq 8, 3) := by decide +kernel
theorem d_M_dy_9 : decode prog_14_method_30_code 9 = .ok (.iload_n 1, 1) := by decide +kernel
theorem d_M_dy_10 : decode prog_14_method_30_code 10 = .ok (.iconst 4, 1) := by decide +kernel
theorem d_M_dy_11 : decode prog_14_method_30_code 11 = .ok (.if_icmp .ne 7, 3) := by decide +kernel
theorem d_M_dy_14 : decode prog_14_method_30_code 14 = .ok (.iconst 0, 1) := by decide +kernel
theorem d_M_dy_15 : decode prog_14_method_30_code 15 = .ok (.goto 13, 3) := by decide +kernel
theorem d_M_dy_18 : decode prog_14_method_30_code 18 = .ok (.iload_n 1, 1) := by decide +kernel
theorem d_M_dy_19 : decode prog_14_method_30_code 19 = .ok (.iconst 4, 1) := by decide +kernel
theorem d_M_dy_20 : decode prog_14_method_30_code 20 = .ok (.if_icmp .ge 7, 3) := by decide +kernel
theorem d_M_dy_23 : decode prog_14_method_30_code 23 = .ok (.iconst (-1), 1) := by decide +kernel
theorem d_M_dy_24 : decode prog_14_method_30_code 24 = .ok (.goto 4, 3) := by decide +kernel
theorem d_M_dy_27 : decode prog_14_method_30_code 27 = .ok (.iconst 1, 1) := by decide +kernel
theorem d_M_dy_28 : decode prog_14_method_30_code 28 = .ok (.ireturn, 1) := by decide +kernel
theorem d_M_isCell_0 : decode prog_14_method_31_code 0 = .ok (.iload_n 0, 1) := by decide +kernel
theorem d_M_isCell_1 : decode prog_14_method_31_code 1 = .ok (.iconst 0, 1) := by decide +kernel
theorem d_M_isCell_2 : decode prog_14_method_31_code 2 = .ok (.iconst 5, 1) := by decide +kernel
theorem d_M_isCell_3 : decode prog_14_method_31_code 3 = .ok (.invokestatic 58, 3) := by decide +kernel
theorem d_M_isCell_6 : decode prog_14_method_31_code 6 = .ok (.ifCond .eq 16, 3) := by decide +kernel
theorem d_M_isCell_9 : decode prog_14_method_31_code 9 = .ok (.iload_n 1, 1) := by decide +kernel
theorem d_M_isCell_10 : decode prog_14_method_31_code 10 = .ok (.iconst 0, 1) := by decide +kernel
theorem d_M_isCell_11 : decode prog_14_method_31_code 11 = .ok (.iconst 3, 1) := by decide +kernel
theorem d_M_isCell_12 : decode prog_14_method_31_code 12 = .ok (.invokestatic 58, 3) := by decide +kernel
theorem d_M_isCell_15 : decode prog_14_method_31_code 15 = .ok (.ifCond .eq 7, 3) := by decide +kernel
theorem d_M_isCell_18 : decode prog_14_method_31_code 18 = .ok (.iconst 1, 1) := by decide +kernel
theorem d_M_isCell_19 : decode prog_14_method_31_code 19 = .ok (.goto 4, 3) := by decide +kernel
theorem d_M_isCell_22 : decode prog_14_method_31_code 22 = .ok (.iconst 0, 1) := by decide +kernel
theorem d_M_isCell_23 : decode prog_14_method_31_code 23 = .ok (.ireturn, 1) := by decide +kernel
theorem d_M_isFree_0 : decode prog_14_method_32_code 0 = .ok (.iload_n 1, 1) := by decide +kernel
theorem d_M_isFree_1 : decode prog_14_method_32_code 1 = .ok (.iload_n 2, 1) := by decide +kernel
theorem d_M_isFree_2 : decode prog_14_method_32_code 2 = .ok (.invokestatic 149, 3) := by decide +kernel
theorem d_M_isFree_5 : decode prog_14_method_32_code 5 = .ok (.ifCond .eq 38, 3) := by decide +kernel
theorem d_M_isFree_8 : decode prog_14_method_32_code 8 = .ok (.aload_n 0, 1) := by decide +kernel
theorem d_M_isFree_9 : decode prog_14_method_32_code 9 = .ok (.bipush 13, 2) := by decide +kernel
theorem d_M_isFree_11 : decode prog_14_method_32_code 11 = .ok (.iaload, 1) := by decide +kernel
theorem d_M_isFree_12 : decode prog_14_method_32_code 12 = .ok (.bipush 6, 2) := by decide +kernel
theorem d_M_isFree_14 : decode prog_14_method_32_code 14 = .ok (.iload_n 2, 1) := by decide +kernel
theorem d_M_isFree_15 : decode prog_14_method_32_code 15 = .ok (.imul, 1) := by decide +kernel
theorem d_M_isFree_16 : decode prog_14_method_32_code 16 = .ok (.iload_n 1, 1) := by decide +kernel
theorem d_M_isFree_17 : decode prog_14_method_32_code 17 = .ok (.iadd, 1) := by decide +kernel
theorem d_M_isFree_18 : decode prog_14_method_32_code 18 = .ok (.ishr, 1) := by decide +kernel
theorem d_M_isFree_19 : decode prog_14_method_32_code 19 = .ok (.iconst 1, 1) := by decide +kernel
theorem d_M_isFree_20 : decode prog_14_method_32_code 20 = .ok (.iand, 1) := by decide +kernel
theorem d_M_isFree_21 : decode prog_14_method_32_code 21 = .ok (.ifCond .ne 22, 3) := by decide +kernel
theorem d_M_isFree_24 : decode prog_14_method_32_code 24 = .ok (.aload_n 0, 1) := by decide +kernel
theorem d_M_isFree_25 : decode prog_14_method_32_code 25 = .ok (.bipush 18, 2) := by decide +kernel
theorem d_M_isFree_27 : decode prog_14_method_32_code 27 = .ok (.bipush 6, 2) := by decide +kernel
theorem d_M_isFree_29 : decode prog_14_method_32_code 29 = .ok (.iload_n 2, 1) := by decide +kernel
theorem d_M_isFree_30 : decode prog_14_method_32_code 30 = .ok (.imul, 1) := by decide +kernel
theorem d_M_isFree_31 : decode prog_14_method_32_code 31 = .ok (.iadd, 1) := by decide +kernel
theorem d_M_isFree_32 : decode prog_14_method_32_code 32 = .ok (.iload_n 1, 1) := by decide +kernel
theorem d_M_isFree_33 : decode prog_14_method_32_code 33 = .ok (.iadd, 1) := by decide +kernel
theorem d_M_isFree_34 : decode prog_14_method_32_code 34 = .ok (.iaload, 1) := by decide +kernel
theorem d_M_isFree_35 : decode prog_14_method_32_code 35 = .ok (.iload_n 3, 1) := by decide +kernel
theorem d_M_isFree_36 : decode prog_14_method_32_code 36 = .ok (.if_icmp .lt 7, 3) := by decide +kernel
theorem d_M_isFree_39 : decode prog_14_method_32_code 39 = .ok (.iconst 1, 1) := by decide +kernel
theorem d_M_isFree_40 : decode prog_14_method_32_code 40 = .ok (.goto 4, 3) := by decide +kernel
theorem d_M_isFree_43 : decode prog_14_method_32_code 43 = .ok (.iconst 0, 1) := by decide +kernel
theorem d_M_isFree_44 : decode prog_14_method_32_code 44 = .ok (.ireturn, 1) := by decide +kernel
theorem d_M_fits_0 : decode prog_14_method_33_code 0 = .ok (.aload_n 0, 1) := by decide +kernel
theorem d_M_fits_1 : decode prog_14_method_33_code 1 = .ok (.iload_n 1, 1) := by decide +kernel
theorem d_M_fits_2 : decode prog_14_method_33_code 2 = .ok (.iload_n 2, 1) := by decide +kernel
theorem d_M_fits_3 : decode prog_14_method_33_code 3 = .ok (.iload 4, 2) := by decide +kernel
theorem d_M_fits_5 : decode prog_14_method_33_code 5 = .ok (.invokestatic 153, 3) := by decide +kernel
theorem d_M_fits_8 : decode prog_14_method_33_code 8 = .ok (.ifCond .eq 49, 3) := by decide +kernel
theorem d_M_fits_11 : decode prog_14_method_33_code 11 = .ok (.aload_n 0, 1) := by decide +kernel
theorem d_M_fits_12 : decode prog_14_method_33_code 12 = .ok (.iload_n 1, 1) := by decide +kernel
theorem d_M_fits_13 : decode prog_14_method_33_code 13 = .ok (.iload_n 3, 1) := by decide +kernel
theorem d_M_fits_14 : decode prog_14_method_33_code 14 = .ok (.invokestatic 157, 3) := by decide +kernel
theorem d_M_fits_17 : decode prog_14_method_33_code 17 = .ok (.iadd, 1) := by decide +kernel
theorem d_M_fits_18 : decode prog_14_method_33_code 18 = .ok (.iload_n 2, 1) := by decide +kernel
theorem d_M_fits_19 : decode prog_14_method_33_code 19 = .ok (.iload_n 3, 1) := by decide +kernel
theorem d_M_fits_20 : decode prog_14_method_33_code 20 = .ok (.invokestatic 160, 3) := by decide +kernel
theorem d_M_fits_23 : decode prog_14_method_33_code 23 = .ok (.iadd, 1) := by decide +kernel
theorem d_M_fits_24 : decode prog_14_method_33_code 24 = .ok (.iload 4, 2) := by decide +kernel
theorem d_M_fits_26 : decode prog_14_method_33_code 26 = .ok (.invokestatic 153, 3) := by decide +kernel
theorem d_M_fits_29 : decode prog_14_method_33_code 29 = .ok (.ifCond .eq 28, 3) := by decide +kernel
theorem d_M_fits_32 : decode prog_14_method_33_code 32 = .ok (.aload_n 0, 1) := by decide +kernel
theorem d_M_fits_33 : decode prog_14_method_33_code 33 = .ok (.iload_n 1, 1) := by decide +kernel
theorem d_M_fits_34 : decode prog_14_method_33_code 34 = .ok (.iload_n 3, 1) := by decide +kernel
theorem d_M_fits_35 : decode prog_14_method_33_code 35 = .ok (.invokestatic 157, 3) := by decide +kernel
theorem d_M_fits_38 : decode prog_14_method_33_code 38 = .ok (.isub, 1) := by decide +kernel
theorem d_M_fits_39 : decode prog_14_method_33_code 39 = .ok (.iload_n 2, 1) := by decide +kernel
theorem d_M_fits_40 : decode prog_14_method_33_code 40 = .ok (.iload_n 3, 1) := by decide +kernel
theorem d_M_fits_41 : decode prog_14_method_33_code 41 = .ok (.invokestatic 160, 3) := by decide +kernel
theorem d_M_fits_44 : decode prog_14_method_33_code 44 = .ok (.isub, 1) := by decide +kernel
theorem d_M_fits_45 : decode prog_14_method_33_code 45 = .ok (.iload 4, 2) := by decide +kernel
theorem d_M_fits_47 : decode prog_14_method_33_code 47 = .ok (.invokestatic 153, 3) := by decide +kernel
theorem d_M_fits_50 : decode prog_14_method_33_code 50 = .ok (.ifCond .eq 7, 3) := by decide +kernel
theorem d_M_fits_53 : decode prog_14_method_33_code 53 = .ok (.iconst 1, 1) := by decide +kernel
theorem d_M_fits_54 : decode prog_14_method_33_code 54 = .ok (.goto 4, 3) := by decide +kernel
theorem d_M_fits_57 : decode prog_14_method_33_code 57 = .ok (.iconst 0, 1) := by decide +kernel
theorem d_M_fits_58 : decode prog_14_method_33_code 58 = .ok (.ireturn, 1) := by decide +kernel
theorem d_M_draughtOf_0 : decode prog_14_method_34_code 0 = .ok (.aload_n 0, 1) := by decide +kernel
theorem d_M_draughtOf_1 : decode prog_14_method_34_code 1 = .ok (.iconst 2, 1) := by decide +kernel
theorem d_M_draughtOf_2 : decode prog_14_method_34_code 2 = .ok (.iaload, 1) := by decide +kernel
theorem d_M_draughtOf_3 : decode prog_14_method_34_code 3 = .ok (.aload_n 0, 1) := by decide +kernel
theorem d_M_draughtOf_4 : decode prog_14_method_34_code 4 = .ok (.bipush 16, 2) := by decide +kernel
theorem d_M_draughtOf_6 : decode prog_14_method_34_code 6 = .ok (.iaload, 1) := by decide +kernel
theorem d_M_draughtOf_7 : decode prog_14_method_34_code 7 = .ok (.iconst 1, 1) := by decide +kernel
theorem d_M_draughtOf_8 : decode prog_14_method_34_code 8 = .ok (.if_icmp .ne 9, 3) := by decide +kernel
theorem d_M_draughtOf_11 : decode prog_14_method_34_code 11 = .ok (.aload_n 0, 1) := by decide +kernel
theorem d_M_draughtOf_12 : decode prog_14_method_34_code 12 = .ok (.iconst 3, 1) := by decide +kernel
theorem d_M_draughtOf_13 : decode prog_14_method_34_code 13 = .ok (.iaload, 1) := by decide +kernel
theorem d_M_draughtOf_14 : decode prog_14_method_34_code 14 = .ok (.goto 4, 3) := by decide +kernel
theorem d_M_draughtOf_17 : decode prog_14_method_34_code 17 = .ok (.iconst 0, 1) := by decide +kernel
theorem d_M_draughtOf_18 : decode prog_14_method_34_code 18 = .ok (.iadd, 1) := by decide +kernel
theorem d_M_draughtOf_19 : decode prog_14_method_34_code 19 = .ok (.iload_n 1, 1) := by decide +kernel
theorem d_M_draughtOf_20 : decode prog_14_method_34_code 20 = .ok (.isub, 1) := by decide +kernel
theorem d_M_draughtOf_21 : decode prog_14_method_34_code 21 = .ok (.istore_n 2, 1) := by decide +kernel
theorem d_M_draughtOf_22 : decode prog_14_method_34_code 22 = .ok (.iload_n 2, 1) := by decide +kernel
theorem d_M_draughtOf_23 : decode prog_14_method_34_code 23 = .ok (.ifCond .ge 7, 3) := by decide +kernel
theorem d_M_draughtOf_26 : decode prog_14_method_34_code 26 = .ok (.iconst 0, 1) := by decide +kernel
theorem d_M_draughtOf_27 : decode prog_14_method_34_code 27 = .ok (.goto 4, 3) := by decide +kernel
theorem d_M_draughtOf_30 : decode prog_14_method_34_code 30 = .ok (.iload_n 2, 1) := by decide +kernel
theorem d_M_draughtOf_31 : decode prog_14_method_34_code 31 = .ok (.ireturn, 1) := by decide +kernel
theorem d_M_makes_0 : decode prog_14_method_35_code 0 = .ok (.iload_n 0, 1) := by decide +kernel
theorem d_M_makes_1 : decode prog_14_method_35_code 1 = .ok (.iconst 1, 1) := by decide +kernel
theorem d_M_makes_2 : decode prog_14_method_35_code 2 = .ok (.if_icmp .ne 8, 3) := by decide +kernel
theorem d_M_makes_5 : decode prog_14_method_35_code 5 = .ok (.iload_n 1, 1) := by decide +kernel
theorem d_M_makes_6 : decode prog_14_method_35_code 6 = .ok (.iconst 2, 1) := by decide +kernel
theorem d_M_makes_7 : decode prog_14_method_35_code 7 = .ok (.if_icmp .lt 43, 3) := by decide +kernel
theorem d_M_makes_10 : decode prog_14_method_35_code 10 = .ok (.iload_n 0, 1) := by decide +kernel
theorem d_M_makes_11 : decode prog_14_method_35_code 11 = .ok (.iconst 2, 1) := by decide +kernel
theorem d_M_makes_12 : decode prog_14_method_35_code 12 = .ok (.if_icmp .ne 8, 3) := by decide +kernel
theorem d_M_makes_15 : decode prog_14_method_35_code 15 = .ok (.iload_n 1, 1) := by decide +kernel
theorem d_M_makes_16 : decode prog_14_method_35_code 16 = .ok (.iconst 4, 1) := by decide +kernel
theorem d_M_makes_17 : decode prog_14_method_35_code 17 = .ok (.if_icmp .lt 33, 3) := by decide +kernel
theorem d_M_makes_20 : decode prog_14_method_35_code 20 = .ok (.iload_n 0, 1) := by decide +kernel
theorem d_M_makes_21 : decode prog_14_method_35_code 21 = .ok (.iconst 3, 1) := by decide +kernel
theorem d_M_makes_22 : decode prog_14_method_35_code 22 = .ok (.if_icmp .ne 18, 3) := by decide +kernel
theorem d_M_makes_25 : decode prog_14_method_35_code 25 = .ok (.iload_n 1, 1) := by decide +kernel
theorem d_M_makes_26 : decode prog_14_method_35_code 26 = .ok (.iconst 2, 1) := by decide +kernel
theorem d_M_makes_27 : decode prog_14_method_35_code 27 = .ok (.if_icmp .lt 23, 3) := by decide +kernel
theorem d_M_makes_30 : decode prog_14_method_35_code 30 = .ok (.iload_n 1, 1) := by decide +kernel
theorem d_M_makes_31 : decode prog_14_method_35_code 31 = .ok (.iconst 4, 1) := by decide +kernel
theorem d_M_makes_32 : decode prog_14_method_35_code 32 = .ok (.if_icmp .eq 18, 3) := by decide +kernel
theorem d_M_makes_35 : decode prog_14_method_35_code 35 = .ok (.iload_n 1, 1) := by decide +kernel
theorem d_M_makes_36 : decode prog_14_method_35_code 36 = .ok (.iconst 5, 1) := by decide +kernel
theorem d_M_makes_37 : decode prog_14_method_35_code 37 = .ok (.if_icmp .eq 13, 3) := by decide +kernel
theorem d_M_makes_40 : decode prog_14_method_35_code 40 = .ok (.iload_n 0, 1) := by decide +kernel
theorem d_M_makes_41 : decode prog_14_method_35_code 41 = .ok (.iconst 3, 1) := by decide +kernel
theorem d_M_makes_42 : decode prog_14_method_35_code 42 = .ok (.if_icmp .le 12, 3) := by decide +kernel
theorem d_M_makes_45 : decode prog_14_method_35_code 45 = .ok (.iload_n 1, 1) := by decide +kernel
theorem d_M_makes_46 : decode prog_14_method_35_code 46 = .ok (.iconst 5, 1) := by decide +kernel
theorem d_M_makes_47 : decode prog_14_method_35_code 47 = .ok (.if_icmp .le 7, 3) := by decide +kernel
theorem d_M_makes_50 : decode prog_14_method_35_code 50 = .ok (.iconst 1, 1) := by decide +kernel
theorem d_M_makes_51 : decode prog_14_method_35_code 51 = .ok (.goto 4, 3) := by decide +kernel
theorem d_M_makes_54 : decode prog_14_method_35_code 54 = .ok (.iconst 0, 1) := by decide +kernel
theorem d_M_makes_55 : decode prog_14_method_35_code 55 = .ok (.ireturn, 1) := by decide +kernel
theorem d_M_minutesOf_0 : decode prog_14_method_36_code 0 = .ok (.aload_n 0, 1) := by decide +kernel
theorem d_M_minutesOf_1 : decode prog_14_method_36_code 1 = .ok (.bipush 9, 2) := by decide +kernel
theorem d_M_minutesOf_3 : decode prog_14_method_36_code 3 = .ok (.iload_n 1, 1) := by decide +kernel
theorem d_M_minutesOf_4 : decode prog_14_method_36_code 4 = .ok (.iadd, 1) := by decide +kernel
theorem d_M_minutesOf_5 : decode prog_14_method_36_code 5 = .ok (.iaload, 1) := by decide +kernel
theorem d_M_minutesOf_6 : decode prog_14_method_36_code 6 = .ok (.istore_n 3, 1) := by decide +kernel
theorem d_M_minutesOf_7 : decode prog_14_method_36_code 7 = .ok (.iload_n 3, 1) := by decide +kernel
theorem d_M_minutesOf_8 : decode prog_14_method_36_code 8 = .ok (.iconst 2, 1) := by decide +kernel
theorem d_M_minutesOf_9 : decode prog_14_method_36_code 9 = .ok (.idiv, 1) := by decide +kernel
theorem d_M_minutesOf_10 : decode prog_14_method_36_code 10 = .ok (.iconst 1, 1) := by decide +kernel
theorem d_M_minutesOf_11 : decode prog_14_method_36_code 11 = .ok (.if_icmp .ge 7, 3) := by decide +kernel
theorem d_M_minutesOf_14 : decode prog_14_method_36_code 14 = .ok (.iconst 1, 1) := by decide +kernel
theorem d_M_minutesOf_15 : decode prog_14_method_36_code 15 = .ok (.goto 6, 3) := by decide +kernel
theorem d_M_minutesOf_18 : decode prog_14_method_36_code 18 = .ok (.iload_n 3, 1) := by decide +kernel
theorem d_M_minutesOf_19 : decode prog_14_method_36_code 19 = .ok (.iconst 2, 1) := by decide +kernel
theorem d_M_minutesOf_20 : decode prog_14_method_36_code 20 = .ok (.idiv, 1) := by decide +kernel
theorem d_M_minutesOf_21 : decode prog_14_method_36_code 21 = .ok (.istore 4, 2) := by decide +kernel
theorem d_M_minutesOf_23 : decode prog_14_method_36_code 23 = .ok (.iload_n 2, 1) := by decide +kernel
theorem d_M_minutesOf_24 : decode prog_14_method_36_code 24 = .ok (.iconst 4, 1) := by decide +kernel
theorem d_M_minutesOf_25 : decode prog_14_method_36_code 25 = .ok (.if_icmp .eq 8, 3) := by decide +kernel
theorem d_M_minutesOf_28 : decode prog_14_method_36_code 28 = .ok (.iload_n 2, 1) := by decide +kernel
theorem d_M_minutesOf_29 : decode prog_14_method_36_code 29 = .ok (.iconst 5, 1) := by decide +kernel
theorem d_M_minutesOf_30 : decode prog_14_method_36_code 30 = .ok (.if_icmp .ne 8, 3) := by decide +kernel
theorem d_M_minutesOf_33 : decode prog_14_method_36_code 33 = .ok (.iload 4, 2) := by decide +kernel
theorem d_M_minutesOf_35 : decode prog_14_method_36_code 35 = .ok (.goto 4, 3) := by decide +kernel
theorem d_M_minutesOf_38 : decode prog_14_method_36_code 38 = .ok (.iload_n 3, 1) := by decide +kernel
theorem d_M_minutesOf_39 : decode prog_14_method_36_code 39 = .ok (.ireturn, 1) := by decide +kernel
theorem d_M_goes_0 : decode prog_14_method_37_code 0 = .ok (.aload_n 0, 1) := by decide +kernel
theorem d_M_goes_1 : decode prog_14_method_37_code 1 = .ok (.bipush 14, 2) := by decide +kernel
theorem d_M_goes_3 : decode prog_14_method_37_code 3 = .ok (.iaload, 1) := by decide +kernel
theorem d_M_goes_4 : decode prog_14_method_37_code 4 = .ok (.bipush 6, 2) := by decide +kernel
theorem d_M_goes_6 : decode prog_14_method_37_code 6 = .ok (.irem, 1) := by decide +kernel
theorem d_M_goes_7 : decode prog_14_method_37_code 7 = .ok (.istore 4, 2) := by decide +kernel
theorem d_M_goes_9 : decode prog_14_method_37_code 9 = .ok (.aload_n 0, 1) := by decide +kernel
theorem d_M_goes_10 : decode prog_14_method_37_code 10 = .ok (.bipush 14, 2) := by decide +kernel
theorem d_M_goes_12 : decode prog_14_method_37_code 12 = .ok (.iaload, 1) := by decide +kernel
theorem d_M_goes_13 : decode prog_14_method_37_code 13 = .ok (.bipush 6, 2) := by decide +kernel
theorem d_M_goes_15 : decode prog_14_method_37_code 15 = .ok (.idiv, 1) := by decide +kernel
theorem d_M_goes_16 : decode prog_14_method_37_code 16 = .ok (.istore 5, 2) := by decide +kernel
theorem d_M_goes_18 : decode prog_14_method_37_code 18 = .ok (.aload_n 0, 1) := by decide +kernel
theorem d_M_goes_19 : decode prog_14_method_37_code 19 = .ok (.bipush 15, 2) := by decide +kernel
theorem d_M_goes_21 : decode prog_14_method_37_code 21 = .ok (.iaload, 1) := by decide +kernel
theorem d_M_goes_22 : decode prog_14_method_37_code 22 = .ok (.istore 6, 2) := by decide +kernel
theorem d_M_goes_24 : decode prog_14_method_37_code 24 = .ok (.iload_n 2, 1) := by decide +kernel
theorem d_M_goes_25 : decode prog_14_method_37_code 25 = .ok (.iconst 5, 1) := by decide +kernel
theorem d_M_goes_26 : decode prog_14_method_37_code 26 = .ok (.if_icmp .le 8, 3) := by decide +kernel
theorem d_M_goes_29 : decode prog_14_method_37_code 29 = .ok (.iload 6, 2) := by decide +kernel
theorem d_M_goes_31 : decode prog_14_method_37_code 31 = .ok (.goto 21, 3) := by decide +kernel
theorem d_M_goes_34 : decode prog_14_method_37_code 34 = .ok (.iload 6, 2) := by decide +kernel
theorem d_M_goes_36 : decode prog_14_method_37_code 36 = .ok (.iload_n 2, 1) := by decide +kernel
theorem d_M_goes_37 : decode prog_14_method_37_code 37 = .ok (.iconst 2, 1) := by decide +kernel
theorem d_M_goes_38 : decode prog_14_method_37_code 38 = .ok (.irem, 1) := by decide +kernel
theorem d_M_goes_39 : decode prog_14_method_37_code 39 = .ok (.ifCond .ne 7, 3) := by decide +kernel
theorem d_M_goes_42 : decode prog_14_method_37_code 42 = .ok (.iconst 1, 1) := by decide +kernel
theorem d_M_goes_43 : decode prog_14_method_37_code 43 = .ok (.goto 5, 3) := by decide +kernel
theorem d_M_goes_46 : decode prog_14_method_37_code 46 = .ok (.bipush 7, 2) := by decide +kernel
theorem d_M_goes_48 : decode prog_14_method_37_code 48 = .ok (.iadd, 1) := by decide +kernel
theorem d_M_goes_49 : decode prog_14_method_37_code 49 = .ok (.bipush 7, 2) := by decide +kernel
theorem d_M_goes_51 : decode prog_14_method_37_code 51 = .ok (.iand, 1) := by decide +kernel
theorem d_M_goes_52 : decode prog_14_method_37_code 52 = .ok (.istore 7, 2) := by decide +kernel
theorem d_M_goes_54 : decode prog_14_method_37_code 54 = .ok (.iload_n 2, 1) := by decide +kernel
theorem d_M_goes_55 : decode prog_14_method_37_code 55 = .ok (.iconst 2, 1) := by decide +kernel
theorem d_M_goes_56 : decode prog_14_method_37_code 56 = .ok (.if_icmp .eq 8, 3) := by decide +kernel
theorem d_M_goes_59 : decode prog_14_method_37_code 59 = .ok (.iload_n 2, 1) := by decide +kernel
theorem d_M_goes_60 : decode prog_14_method_37_code 60 = .ok (.iconst 3, 1) := by decide +kernel
theorem d_M_goes_61 : decode prog_14_method_37_code 61 = .ok (.if_icmp .ne 38, 3) := by decide +kernel
theorem d_M_goes_64 : decode prog_14_method_37_code 64 = .ok (.iload 4, 2) := by decide +kernel
theorem d_M_goes_66 : decode prog_14_method_37_code 66 = .ok (.iload 7, 2) := by decide +kernel
theorem d_M_goes_68 : decode prog_14_method_37_code 68 = .ok (.invokestatic 157, 3) := by decide +kernel
theorem d_M_goes_71 : decode prog_14_method_37_code 71 = .ok (.iload 6, 2) := by decide +kernel
theorem d_M_goes_73 : decode prog_14_method_37_code 73 = .ok (.invokestatic 157, 3) := by decide +kernel
theorem d_M_goes_76 : decode prog_14_method_37_code 76 = .ok (.isub, 1) := by decide +kernel
theorem d_M_goes_77 : decode prog_14_method_37_code 77 = .ok (.iadd, 1) := by decide +kernel
theorem d_M_goes_78 : decode prog_14_method_37_code 78 = .ok (.istore 4, 2) := by decide +kernel
theorem d_M_goes_80 : decode prog_14_method_37_code 80 = .ok (.iload 5, 2) := by decide +kernel
theorem d_M_goes_82 : decode prog_14_method_37_code 82 = .ok (.iload 7, 2) := by decide +kernel
theorem d_M_goes_84 : decode prog_14_method_37_code 84 = .ok (.invokestatic 160, 3) := by decide +kernel
theorem d_M_goes_87 : decode prog_14_method_37_code 87 = .ok (.iload 6, 2) := by decide +kernel
theorem d_M_goes_89 : decode prog_14_method_37_code 89 = .ok (.invokestatic 160, 3) := by decide +kernel
theorem d_M_goes_92 : decode prog_14_method_37_code 92 = .ok (.isub, 1) := by decide +kernel
theorem d_M_goes_93 : decode prog_14_method_37_code 93 = .ok (.iadd, 1) := by decide +kernel
theorem d_M_goes_94 : decode prog_14_method_37_code 94 = .ok (.istore 5, 2) := by decide +kernel
theorem d_M_goes_96 : decode prog_14_method_37_code 96 = .ok (.goto 103, 3) := by decide +kernel
theorem d_M_goes_99 : decode prog_14_method_37_code 99 = .ok (.iload_n 2, 1) := by decide +kernel
theorem d_M_goes_100 : decode prog_14_method_37_code 100 = .ok (.iconst 4, 1) := by decide +kernel
theorem d_M_goes_101 : decode prog_14_method_37_code 101 = .ok (.if_icmp .eq 8, 3) := by decide +kernel
theorem d_M_goes_104 : decode prog_14_method_37_code 104 = .ok (.iload_n 2, 1) := by decide +kernel
theorem d_M_goes_105 : decode prog_14_method_37_code 105 = .ok (.iconst 5, 1) := by decide +kernel
theorem d_M_goes_106 : decode prog_14_method_37_code 106 = .ok (.if_icmp .ne 38, 3) := by decide +kernel
theorem d_M_goes_109 : decode prog_14_method_37_code 109 = .ok (.iload 4, 2) := by decide +kernel
theorem d_M_goes_111 : decode prog_14_method_37_code 111 = .ok (.iload 6, 2) := by decide +kernel
theorem d_M_goes_113 : decode prog_14_method_37_code 113 = .ok (.invokestatic 157, 3) := by decide +kernel
theorem d_M_goes_116 : decode prog_14_method_37_code 116 = .ok (.iload 7, 2) := by decide +kernel
theorem d_M_goes_118 : decode prog_14_method_37_code 118 = .ok (.invokestatic 157, 3) := by decide +kernel
theorem d_M_goes_121 : decode prog_14_method_37_code 121 = .ok (.isub, 1) := by decide +kernel
theorem d_M_goes_122 : decode prog_14_method_37_code 122 = .ok (.iadd, 1) := by decide +kernel
theorem d_M_goes_123 : decode prog_14_method_37_code 123 = .ok (.istore 4, 2) := by decide +kernel
theorem d_M_goes_125 : decode prog_14_method_37_code 125 = .ok (.iload 5, 2) := by decide +kernel
theorem d_M_goes_127 : decode prog_14_method_37_code 127 = .ok (.iload 6, 2) := by decide +kernel
theorem d_M_goes_129 : decode prog_14_method_37_code 129 = .ok (.invokestatic 160, 3) := by decide +kernel
theorem d_M_goes_132 : decode prog_14_method_37_code 132 = .ok (.iload 7, 2) := by decide +kernel
theorem d_M_goes_134 : decode prog_14_method_37_code 134 = .ok (.invokestatic 160, 3) := by decide +kernel
theorem d_M_goes_137 : decode prog_14_method_37_code 137 = .ok (.isub, 1) := by decide +kernel
theorem d_M_goes_138 : decode prog_14_method_37_code 138 = .ok (.iadd, 1) := by decide +kernel
theorem d_M_goes_139 : decode prog_14_method_37_code 139 = .ok (.istore 5, 2) := by decide +kernel
theorem d_M_goes_141 : decode prog_14_method_37_code 141 = .ok (.goto 58, 3) := by decide +kernel
theorem d_M_goes_144 : decode prog_14_method_37_code 144 = .ok (.iload_n 2, 1) := by decide +kernel
theorem d_M_goes_145 : decode prog_14_method_37_code 145 = .ok (.iconst 5, 1) := by decide +kernel
theorem d_M_goes_146 : decode prog_14_method_37_code 146 = .ok (.if_icmp .le 53, 3) := by decide +kernel
theorem d_M_goes_149 : decode prog_14_method_37_code 149 = .ok (.iload 4, 2) := by decide +kernel
theorem d_M_goes_151 : decode prog_14_method_37_code 151 = .ok (.iload_n 2, 1) := by decide +kernel
theorem d_M_goes_152 : decode prog_14_method_37_code 152 = .ok (.bipush 6, 2) := by decide +kernel
theorem d_M_goes_154 : decode prog_14_method_37_code 154 = .ok (.if_icmp .ne 11, 3) := by decide +kernel
theorem d_M_goes_157 : decode prog_14_method_37_code 157 = .ok (.iload 6, 2) := by decide +kernel
theorem d_M_goes_159 : decode prog_14_method_37_code 159 = .ok (.invokestatic 157, 3) := by decide +kernel
theorem d_M_goes_162 : decode prog_14_method_37_code 162 = .ok (.goto 9, 3) := by decide +kernel
theorem d_M_goes_165 : decode prog_14_method_37_code 165 = .ok (.iload 6, 2) := by decide +kernel
theorem d_M_goes_167 : decode prog_14_method_37_code 167 = .ok (.invokestatic 157, 3) := by decide +kernel
theorem d_M_goes_170 : decode prog_14_method_37_code 170 = .ok (.ineg, 1) := by decide +kernel
theorem d_M_goes_171 : decode prog_14_method_37_code 171 = .ok (.iadd, 1) := by decide +kernel
theorem d_M_goes_172 : decode prog_14_method_37_code 172 = .ok (.istore 4, 2) := by decide +kernel
theorem d_M_goes_174 : decode prog_14_method_37_code 174 = .ok (.iload 5, 2) := by decide +kernel
theorem d_M_goes_176 : decode prog_14_method_37_code 176 = .ok (.iload_n 2, 1) := by decide +kernel
theorem d_M_goes_177 : decode prog_14_method_37_code 177 = .ok (.bipush 6, 2) := by decide +kernel
theorem d_M_goes_179 : decode prog_14_method_37_code 179 = .ok (.if_icmp .ne 11, 3) := by decide +kernel
theorem d_M_goes_182 : decode prog_14_method_37_code 182 = .ok (.iload 6, 2) := by decide +kernel
theorem d_M_goes_184 : decode prog_14_method_37_code 184 = .ok (.invokestatic 160, 3) := by decide +kernel
theorem d_M_goes_187 : decode prog_14_method_37_code 187 = .ok (.goto 9, 3) := by decide +kernel
theorem d_M_goes_190 : decode prog_14_method_37_code 190 = .ok (.iload 6, 2) := by decide +kernel
theorem d_M_goes_192 : decode prog_14_method_37_code 192 = .ok (.invokestatic 160, 3) := by decide +kernel
theorem d_M_goes_195 : decode prog_14_method_37_code 195 = .ok (.ineg, 1) := by decide +kernel
theorem d_M_goes_196 : decode prog_14_method_37_code 196 = .ok (.iadd, 1) := by decide +kernel
theorem d_M_goes_197 : decode prog_14_method_37_code 197 = .ok (.istore 5, 2) := by decide +kernel
theorem d_M_goes_199 : decode prog_14_method_37_code 199 = .ok (.aload_n 0, 1) := by decide +kernel
theorem d_M_goes_200 : decode prog_14_method_37_code 200 = .ok (.iload_n 3, 1) := by decide +kernel
theorem d_M_goes_201 : decode prog_14_method_37_code 201 = .ok (.invokestatic 163, 3) := by decide +kernel
theorem d_M_goes_204 : decode prog_14_method_37_code 204 = .ok (.istore 8, 2) := by decide +kernel
theorem d_M_goes_206 : decode prog_14_method_37_code 206 = .ok (.aload_n 0, 1) := by decide +kernel
theorem d_M_goes_207 : decode prog_14_method_37_code 207 = .ok (.iconst 5, 1) := by decide +kernel
theorem d_M_goes_208 : decode prog_14_method_37_code 208 = .ok (.iload_n 1, 1) := by decide +kernel
theorem d_M_goes_209 : decode prog_14_method_37_code 209 = .ok (.iadd, 1) := by decide +kernel
theorem d_M_goes_210 : decode prog_14_method_37_code 210 = .ok (.iaload, 1) := by decide +kernel
theorem d_M_goes_211 : decode prog_14_method_37_code 211 = .ok (.iconst 5, 1) := by decide +kernel
theorem d_M_goes_212 : decode prog_14_method_37_code 212 = .ok (.if_icmp .ne 15, 3) := by decide +kernel
theorem d_M_goes_215 : decode prog_14_method_37_code 215 = .ok (.iload 8, 2) := by decide +kernel
theorem d_M_goes_217 : decode prog_14_method_37_code 217 = .ok (.ifCond .le 10, 3) := by decide +kernel
theorem d_M_goes_220 : decode prog_14_method_37_code 220 = .ok (.iload 8, 2) := by decide +kernel
theorem d_M_goes_222 : decode prog_14_method_37_code 222 = .ok (.iconst 1, 1) := by decide +kernel
theorem d_M_goes_223 : decode prog_14_method_37_code 223 = .ok (.isub, 1) := by decide +kernel
theorem d_M_goes_224 : decode prog_14_method_37_code 224 = .ok (.goto 5, 3) := by decide +kernel
theorem d_M_goes_227 : decode prog_14_method_37_code 227 = .ok (.iload 8, 2) := by decide +kernel
theorem d_M_goes_229 : decode prog_14_method_37_code 229 = .ok (.istore 9, 2) := by decide +kernel
theorem d_M_goes_231 : decode prog_14_method_37_code 231 = .ok (.aload_n 0, 1) := by decide +kernel
theorem d_M_goes_232 : decode prog_14_method_37_code 232 = .ok (.iconst 5, 1) := by decide +kernel
theorem d_M_goes_233 : decode prog_14_method_37_code 233 = .ok (.iload_n 1, 1) := by decide +kernel
theorem d_M_goes_234 : decode prog_14_method_37_code 234 = .ok (.iadd, 1) := by decide +kernel
theorem d_M_goes_235 : decode prog_14_method_37_code 235 = .ok (.iaload, 1) := by decide +kernel
theorem d_M_goes_236 : decode prog_14_method_37_code 236 = .ok (.iload_n 2, 1) := by decide +kernel
theorem d_M_goes_237 : decode prog_14_method_37_code 237 = .ok (.invokestatic 167, 3) := by decide +kernel
theorem d_M_goes_240 : decode prog_14_method_37_code 240 = .ok (.ifCond .eq 18, 3) := by decide +kernel
theorem d_M_goes_243 : decode prog_14_method_37_code 243 = .ok (.aload_n 0, 1) := by decide +kernel
theorem d_M_goes_244 : decode prog_14_method_37_code 244 = .ok (.iload 4, 2) := by decide +kernel
theorem d_M_goes_246 : decode prog_14_method_37_code 246 = .ok (.iload 5, 2) := by decide +kernel
theorem d_M_goes_248 : decode prog_14_method_37_code 248 = .ok (.iload 7, 2) := by decide +kernel
theorem d_M_goes_250 : decode prog_14_method_37_code 250 = .ok (.iload 9, 2) := by decide +kernel
theorem d_M_goes_252 : decode prog_14_method_37_code 252 = .ok (.invokestatic 170, 3) := by decide +kernel
theorem d_M_goes_255 : decode prog_14_method_37_code 255 = .ok (.ifCond .ne 5, 3) := by decide +kernel
theorem d_M_goes_258 : decode prog_14_method_37_code 258 = .ok (.iconst 0, 1) := by decide +kernel
theorem d_M_goes_259 : decode prog_14_method_37_code 259 = .ok (.ireturn, 1) := by decide +kernel
theorem d_M_goes_260 : decode prog_14_method_37_code 260 = .ok (.aload_n 0, 1) := by decide +kernel
theorem d_M_goes_261 : decode prog_14_method_37_code 261 = .ok (.bipush 17, 2) := by decide +kernel
theorem d_M_goes_263 : decode prog_14_method_37_code 263 = .ok (.dup2, 1) := by decide +kernel
theorem d_M_goes_264 : decode prog_14_method_37_code 264 = .ok (.iaload, 1) := by decide +kernel
theorem d_M_goes_265 : decode prog_14_method_37_code 265 = .ok (.iconst 1, 1) := by decide +kernel
theorem d_M_goes_266 : decode prog_14_method_37_code 266 = .ok (.iadd, 1) := by decide +kernel
theorem d_M_goes_267 : decode prog_14_method_37_code 267 = .ok (.iastore, 1) := by decide +kernel
theorem d_M_goes_268 : decode prog_14_method_37_code 268 = .ok (.aload_n 0, 1) := by decide +kernel
theorem d_M_goes_269 : decode prog_14_method_37_code 269 = .ok (.iconst 1, 1) := by decide +kernel
theorem d_M_goes_270 : decode prog_14_method_37_code 270 = .ok (.iaload, 1) := by decide +kernel
theorem d_M_goes_271 : decode prog_14_method_37_code 271 = .ok (.iconst 1, 1) := by decide +kernel
theorem d_M_goes_272 : decode prog_14_method_37_code 272 = .ok (.isub, 1) := by decide +kernel
theorem d_M_goes_273 : decode prog_14_method_37_code 273 = .ok (.istore 10, 2) := by decide +kernel
theorem d_M_goes_275 : decode prog_14_method_37_code 275 = .ok (.aload_n 0, 1) := by decide +kernel
theorem d_M_goes_276 : decode prog_14_method_37_code 276 = .ok (.bipush 17, 2) := by decide +kernel
theorem d_M_goes_278 : decode prog_14_method_37_code 278 = .ok (.iaload, 1) := by decide +kernel
theorem d_M_goes_279 : decode prog_14_method_37_code 279 = .ok (.iconst 3, 1) := by decide +kernel
theorem d_M_goes_280 : decode prog_14_method_37_code 280 = .ok (.irem, 1) := by decide +kernel
theorem d_M_goes_281 : decode prog_14_method_37_code 281 = .ok (.ifCond .ne 63, 3) := by decide +kernel
theorem d_M_goes_284 : decode prog_14_method_37_code 284 = .ok (.aload_n 0, 1) := by decide +kernel
theorem d_M_goes_285 : decode prog_14_method_37_code 285 = .ok (.iconst 1, 1) := by decide +kernel
theorem d_M_goes_286 : decode prog_14_method_37_code 286 = .ok (.iaload, 1) := by decide +kernel
theorem d_M_goes_287 : decode prog_14_method_37_code 287 = .ok (.ifCond .le 57, 3) := by decide +kernel
theorem d_M_goes_290 : decode prog_14_method_37_code 290 = .ok (.aload_n 0, 1) := by decide +kernel
theorem d_M_goes_291 : decode prog_14_method_37_code 291 = .ok (.bipush 16, 2) := by decide +kernel
theorem d_M_goes_293 : decode prog_14_method_37_code 293 = .ok (.iaload, 1) := by decide +kernel
theorem d_M_goes_294 : decode prog_14_method_37_code 294 = .ok (.ifCond .ne 50, 3) := by decide +kernel
theorem d_M_goes_297 : decode prog_14_method_37_code 297 = .ok (.aload_n 0, 1) := by decide +kernel
theorem d_M_goes_298 : decode prog_14_method_37_code 298 = .ok (.iload 4, 2) := by decide +kernel
theorem d_M_goes_300 : decode prog_14_method_37_code 300 = .ok (.iload 10, 2) := by decide +kernel
theorem d_M_goes_302 : decode prog_14_method_37_code 302 = .ok (.invokestatic 157, 3) := by decide +kernel
theorem d_M_goes_305 : decode prog_14_method_37_code 305 = .ok (.iadd, 1) := by decide +kernel
theorem d_M_goes_306 : decode prog_14_method_37_code 306 = .ok (.iload 5, 2) := by decide +kernel
theorem d_M_goes_308 : decode prog_14_method_37_code 308 = .ok (.iload 10, 2) := by decide +kernel
theorem d_M_goes_310 : decode prog_14_method_37_code 310 = .ok (.invokestatic 160, 3) := by decide +kernel
theorem d_M_goes_313 : decode prog_14_method_37_code 313 = .ok (.iadd, 1) := by decide +kernel
theorem d_M_goes_314 : decode prog_14_method_37_code 314 = .ok (.iload 7, 2) := by decide +kernel
theorem d_M_goes_316 : decode prog_14_method_37_code 316 = .ok (.iload 8, 2) := by decide +kernel
theorem d_M_goes_318 : decode prog_14_method_37_code 318 = .ok (.invokestatic 170, 3) := by decide +kernel
theorem d_M_goes_321 : decode prog_14_method_37_code 321 = .ok (.ifCond .eq 23, 3) := by decide +kernel
theorem d_M_goes_324 : decode prog_14_method_37_code 324 = .ok (.iload 4, 2) := by decide +kernel
theorem d_M_goes_326 : decode prog_14_method_37_code 326 = .ok (.iload 10, 2) := by decide +kernel
theorem d_M_goes_328 : decode prog_14_method_37_code 328 = .ok (.invokestatic 157, 3) := by decide +kernel
theorem d_M_goes_331 : decode prog_14_method_37_code 331 = .ok (.iadd, 1) := by decide +kernel
theorem d_M_goes_332 : decode prog_14_method_37_code 332 = .ok (.istore 4, 2) := by decide +kernel
theorem d_M_goes_334 : decode prog_14_method_37_code 334 = .ok (.iload 5, 2) := by decide +kernel
theorem d_M_goes_336 : decode prog_14_method_37_code 336 = .ok (.iload 10, 2) := by decide +kernel
theorem d_M_goes_338 : decode prog_14_method_37_code 338 = .ok (.invokestatic 160, 3) := by decide +kernel
theorem d_M_goes_341 : decode prog_14_method_37_code 341 = .ok (.iadd, 1) := by decide +kernel
theorem d_M_goes_342 : decode prog_14_method_37_code 342 = .ok (.istore 5, 2) := by decide +kernel
theorem d_M_goes_344 : decode prog_14_method_37_code 344 = .ok (.aload_n 0, 1) := by decide +kernel
theorem d_M_goes_345 : decode prog_14_method_37_code 345 = .ok (.bipush 14, 2) := by decide +kernel
theorem d_M_goes_347 : decode prog_14_method_37_code 347 = .ok (.bipush 6, 2) := by decide +kernel
theorem d_M_goes_349 : decode prog_14_method_37_code 349 = .ok (.iload 5, 2) := by decide +kernel
theorem d_M_goes_351 : decode prog_14_method_37_code 351 = .ok (.imul, 1) := by decide +kernel
theorem d_M_goes_352 : decode prog_14_method_37_code 352 = .ok (.iload 4, 2) := by decide +kernel
theorem d_M_goes_354 : decode prog_14_method_37_code 354 = .ok (.iadd, 1) := by decide +kernel
theorem d_M_goes_355 : decode prog_14_method_37_code 355 = .ok (.iastore, 1) := by decide +kernel
theorem d_M_goes_356 : decode prog_14_method_37_code 356 = .ok (.aload_n 0, 1) := by decide +kernel
theorem d_M_goes_357 : decode prog_14_method_37_code 357 = .ok (.bipush 15, 2) := by decide +kernel
theorem d_M_goes_359 : decode prog_14_method_37_code 359 = .ok (.iload 7, 2) := by decide +kernel
theorem d_M_goes_361 : decode prog_14_method_37_code 361 = .ok (.iastore, 1) := by decide +kernel
theorem d_M_goes_362 : decode prog_14_method_37_code 362 = .ok (.iconst 1, 1) := by decide +kernel
theorem d_M_goes_363 : decode prog_14_method_37_code 363 = .ok (.ireturn, 1) := by decide +kernel
theorem d_M_isHand_0 : decode prog_14_method_38_code 0 = .ok (.iload_n 1, 1) := by decide +kernel
theorem d_M_isHand_1 : decode prog_14_method_38_code 1 = .ok (.iconst 0, 1) := by decide +kernel
theorem d_M_isHand_2 : decode prog_14_method_38_code 2 = .ok (.aload_n 0, 1) := by decide +kernel
theorem d_M_isHand_3 : decode prog_14_method_38_code 3 = .ok (.getfield 25, 3) := by decide +kernel
theorem d_M_isHand_6 : decode prog_14_method_38_code 6 = .ok (.iconst 4, 1) := by decide +kernel
theorem d_M_isHand_7 : decode prog_14_method_38_code 7 = .ok (.iaload, 1) := by decide +kernel
theorem d_M_isHand_8 : decode prog_14_method_38_code 8 = .ok (.iconst 1, 1) := by decide +kernel
theorem d_M_isHand_9 : decode prog_14_method_38_code 9 = .ok (.isub, 1) := by decide +kernel
theorem d_M_isHand_10 : decode prog_14_method_38_code 10 = .ok (.invokestatic 58, 3) := by decide +kernel
theorem d_M_isHand_13 : decode prog_14_method_38_code 13 = .ok (.ireturn, 1) := by decide +kernel
theorem d_M_fitsNow_0 : decode prog_14_method_39_code 0 = .ok (.aload_n 0, 1) := by decide +kernel
theorem d_M_fitsNow_1 : decode prog_14_method_39_code 1 = .ok (.getfield 25, 3) := by decide +kernel
theorem d_M_fitsNow_4 : decode prog_14_method_39_code 4 = .ok (.aload_n 0, 1) := by decide +kernel
theorem d_M_fitsNow_5 : decode prog_14_method_39_code 5 = .ok (.getfield 25, 3) := by decide +kernel
theorem d_M_fitsNow_8 : decode prog_14_method_39_code 8 = .ok (.bipush 14, 2) := by decide +kernel
theorem d_M_fitsNow_10 : decode prog_14_method_39_code 10 = .ok (.iaload, 1) := by decide +kernel
theorem d_M_fitsNow_11 : decode prog_14_method_39_code 11 = .ok (.bipush 6, 2) := by decide +kernel
theorem d_M_fitsNow_13 : decode prog_14_method_39_code 13 = .ok (.irem, 1) := by decide +kernel
theorem d_M_fitsNow_14 : decode prog_14_method_39_code 14 = .ok (.aload_n 0, 1) := by decide +kernel
theorem d_M_fitsNow_15 : decode prog_14_method_39_code 15 = .ok (.getfield 25, 3) := by decide +kernel
theorem d_M_fitsNow_18 : decode prog_14_method_39_code 18 = .ok (.bipush 14, 2) := by decide +kernel
theorem d_M_fitsNow_20 : decode prog_14_method_39_code 20 = .ok (.iaload, 1) := by decide +kernel
theorem d_M_fitsNow_21 : decode prog_14_method_39_code 21 = .ok (.bipush 6, 2) := by decide +kernel
theorem d_M_fitsNow_23 : decode prog_14_method_39_code 23 = .ok (.idiv, 1) := by decide +kernel
theorem d_M_fitsNow_24 : decode prog_14_method_39_code 24 = .ok (.aload_n 0, 1) := by decide +kernel
theorem d_M_fitsNow_25 : decode prog_14_method_39_code 25 = .ok (.getfield 25, 3) := by decide +kernel
theorem d_M_fitsNow_28 : decode prog_14_method_39_code 28 = .ok (.bipush 15, 2) := by decide +kernel
theorem d_M_fitsNow_30 : decode prog_14_method_39_code 30 = .ok (.iaload, 1) := by decide +kernel
theorem d_M_fitsNow_31 : decode prog_14_method_39_code 31 = .ok (.aload_n 0, 1) := by decide +kernel
theorem d_M_fitsNow_32 : decode prog_14_method_39_code 32 = .ok (.getfield 25, 3) := by decide +kernel
theorem d_M_fitsNow_35 : decode prog_14_method_39_code 35 = .ok (.iconst 0, 1) := by decide +kernel
theorem d_M_fitsNow_36 : decode prog_14_method_39_code 36 = .ok (.invokestatic 163, 3) := by decide +kernel
theorem d_M_fitsNow_39 : decode prog_14_method_39_code 39 = .ok (.invokestatic 170, 3) := by decide +kernel
theorem d_M_fitsNow_42 : decode prog_14_method_39_code 42 = .ok (.ireturn, 1) := by decide +kernel
theorem d_M_move_0 : decode prog_14_method_40_code 0 = .ok (.aload_n 0, 1) := by decide +kernel
theorem d_M_move_1 : decode prog_14_method_40_code 1 = .ok (.iconst 0, 1) := by decide +kernel
theorem d_M_move_2 : decode prog_14_method_40_code 2 = .ok (.putfield 50, 3) := by decide +kernel
theorem d_M_move_5 : decode prog_14_method_40_code 5 = .ok (.aload_n 0, 1) := by decide +kernel
theorem d_M_move_6 : decode prog_14_method_40_code 6 = .ok (.iload_n 1, 1) := by decide +kernel
theorem d_M_move_7 : decode prog_14_method_40_code 7 = .ok (.invokevirtual 174, 3) := by decide +kernel
theorem d_M_move_10 : decode prog_14_method_40_code 10 = .ok (.ifCond .eq 13, 3) := by decide +kernel
theorem d_M_move_13 : decode prog_14_method_40_code 13 = .ok (.iload_n 2, 1) := by decide +kernel
theorem d_M_move_14 : decode prog_14_method_40_code 14 = .ok (.iconst 0, 1) := by decide +kernel
theorem d_M_move_15 : decode prog_14_method_40_code 15 = .ok (.bipush 7, 2) := by decide +kernel
theorem d_M_move_17 : decode prog_14_method_40_code 17 = .ok (.invokestatic 58, 3) := by decide +kernel
theorem d_M_move_20 : decode prog_14_method_40_code 20 = .ok (.ifCond .ne 6, 3) := by decide +kernel
theorem d_M_move_23 : decode prog_14_method_40_code 23 = .ok (.ldc 66, 2) := by decide +kernel
theorem d_M_move_25 : decode prog_14_method_40_code 25 = .ok (.ireturn, 1) := by decide +kernel
theorem d_M_move_26 : decode prog_14_method_40_code 26 = .ok (.aload_n 0, 1) := by decide +kernel
theorem d_M_move_27 : decode prog_14_method_40_code 27 = .ok (.getfield 25, 3) := by decide +kernel
theorem d_M_move_30 : decode prog_14_method_40_code 30 = .ok (.aload_n 0, 1) := by decide +kernel
theorem d_M_move_31 : decode prog_14_method_40_code 31 = .ok (.getfield 28, 3) := by decide +kernel
theorem d_M_move_34 : decode prog_14_method_40_code 34 = .ok (.invokestatic 141, 3) := by decide +kernel
theorem d_M_move_37 : decode prog_14_method_40_code 37 = .ok (.aload_n 0, 1) := by decide +kernel
theorem d_M_move_38 : decode prog_14_method_40_code 38 = .ok (.getfield 28, 3) := by decide +kernel
theorem d_M_move_41 : decode prog_14_method_40_code 41 = .ok (.iload_n 1, 1) := by decide +kernel
theorem d_M_move_42 : decode prog_14_method_40_code 42 = .ok (.iload_n 2, 1) := by decide +kernel
theorem d_M_move_43 : decode prog_14_method_40_code 43 = .ok (.iconst 0, 1) := by decide +kernel
theorem d_M_move_44 : decode prog_14_method_40_code 44 = .ok (.invokestatic 177, 3) := by decide +kernel
theorem d_M_move_47 : decode prog_14_method_40_code 47 = .ok (.ifCond .ne 6, 3) := by decide +kernel
theorem d_M_move_50 : decode prog_14_method_40_code 50 = .ok (.ldc 148, 2) := by decide +kernel
theorem d_M_move_52 : decode prog_14_method_40_code 52 = .ok (.ireturn, 1) := by decide +kernel
theorem d_M_move_53 : decode prog_14_method_40_code 53 = .ok (.aload_n 0, 1) := by decide +kernel
theorem d_M_move_54 : decode prog_14_method_40_code 54 = .ok (.getfield 25, 3) := by decide +kernel
theorem d_M_move_57 : decode prog_14_method_40_code 57 = .ok (.bipush 17, 2) := by decide +kernel
theorem d_M_move_59 : decode prog_14_method_40_code 59 = .ok (.iaload, 1) := by decide +kernel
theorem d_M_move_60 : decode prog_14_method_40_code 60 = .ok (.sipush 999, 3) := by decide +kernel
theorem d_M_move_63 : decode prog_14_method_40_code 63 = .ok (.if_icmp .ne 6, 3) := by decide +kernel
theorem d_M_move_66 : decode prog_14_method_40_code 66 = .ok (.ldc 84, 2) := by decide +kernel
theorem d_M_move_68 : decode prog_14_method_40_code 68 = .ok (.ireturn, 1) := by decide +kernel
theorem d_M_move_69 : decode prog_14_method_40_code 69 = .ok (.aload_n 0, 1) := by decide +kernel
theorem d_M_move_70 : decode prog_14_method_40_code 70 = .ok (.invokevirtual 180, 3) := by decide +kernel
theorem d_M_move_73 : decode prog_14_method_40_code 73 = .ok (.aload_n 0, 1) := by decide +kernel
theorem d_M_move_74 : decode prog_14_method_40_code 74 = .ok (.getfield 28, 3) := by decide +kernel
theorem d_M_move_77 : decode prog_14_method_40_code 77 = .ok (.aload_n 0, 1) := by decide +kernel
theorem d_M_move_78 : decode prog_14_method_40_code 78 = .ok (.getfield 25, 3) := by decide +kernel
theorem d_M_move_81 : decode prog_14_method_40_code 81 = .ok (.invokestatic 141, 3) := by decide +kernel
theorem d_M_move_84 : decode prog_14_method_40_code 84 = .ok (.aload_n 0, 1) := by decide +kernel
theorem d_M_move_85 : decode prog_14_method_40_code 85 = .ok (.getfield 25, 3) := by decide +kernel
theorem d_M_move_88 : decode prog_14_method_40_code 88 = .ok (.iload_n 1, 1) := by decide +kernel
theorem d_M_move_89 : decode prog_14_method_40_code 89 = .ok (.iload_n 2, 1) := by decide +kernel
theorem d_M_move_90 : decode prog_14_method_40_code 90 = .ok (.invokestatic 183, 3) := by decide +kernel
theorem d_M_move_93 : decode prog_14_method_40_code 93 = .ok (.ireturn, 1) := by decide +kernel
theorem d_M_laden_0 : decode prog_14_method_41_code 0 = .ok (.aload_n 0, 1) := by decide +kernel
theorem d_M_laden_1 : decode prog_14_method_41_code 1 = .ok (.iconst 0, 1) := by decide +kernel
theorem d_M_laden_2 : decode prog_14_method_41_code 2 = .ok (.putfield 50, 3) := by decide +kernel
theorem d_M_laden_5 : decode prog_14_method_41_code 5 = .ok (.aload_n 0, 1) := by decide +kernel
theorem d_M_laden_6 : decode prog_14_method_41_code 6 = .ok (.getfield 25, 3) := by decide +kernel
theorem d_M_laden_9 : decode prog_14_method_41_code 9 = .ok (.iconst 0, 1) := by decide +kernel
theorem d_M_laden_10 : decode prog_14_method_41_code 10 = .ok (.iaload, 1) := by decide +kernel
theorem d_M_laden_11 : decode prog_14_method_41_code 11 = .ok (.ifCond .ne 6, 3) := by decide +kernel
theorem d_M_laden_14 : decode prog_14_method_41_code 14 = .ok (.ldc 148, 2) := by decide +kernel
theorem d_M_laden_16 : decode prog_14_method_41_code 16 = .ok (.ireturn, 1) := by decide +kernel
theorem d_M_laden_17 : decode prog_14_method_41_code 17 = .ok (.iload_n 1, 1) := by decide +kernel
theorem d_M_laden_18 : decode prog_14_method_41_code 18 = .ok (.iconst 0, 1) := by decide +kernel
theorem d_M_laden_19 : decode prog_14_method_41_code 19 = .ok (.iconst 1, 1) := by decide +kernel
theorem d_M_laden_20 : decode prog_14_method_41_code 20 = .ok (.invokestatic 58, 3) := by decide +kernel
theorem d_M_laden_23 : decode prog_14_method_41_code 23 = .ok (.ifCond .ne 6, 3) := by decide +kernel
theorem d_M_laden_26 : decode prog_14_method_41_code 26 = .ok (.ldc 66, 2) := by decide +kernel
theorem d_M_laden_28 : decode prog_14_method_41_code 28 = .ok (.ireturn, 1) := by decide +kernel
theorem d_M_laden_29 : decode prog_14_method_41_code 29 = .ok (.aload_n 0, 1) := by decide +kernel
theorem d_M_laden_30 : decode prog_14_method_41_code 30 = .ok (.getfield 25, 3) := by decide +kernel
theorem d_M_laden_33 : decode prog_14_method_41_code 33 = .ok (.bipush 16, 2) := by decide +kernel
theorem d_M_laden_35 : decode prog_14_method_41_code 35 = .ok (.iaload, 1) := by decide +kernel
theorem d_M_laden_36 : decode prog_14_method_41_code 36 = .ok (.iload_n 1, 1) := by decide +kernel
theorem d_M_laden_37 : decode prog_14_method_41_code 37 = .ok (.if_icmp .ne 6, 3) := by decide +kernel
theorem d_M_laden_40 : decode prog_14_method_41_code 40 = .ok (.ldc 148, 2) := by decide +kernel
theorem d_M_laden_42 : decode prog_14_method_41_code 42 = .ok (.ireturn, 1) := by decide +kernel
theorem d_M_laden_43 : decode prog_14_method_41_code 43 = .ok (.aload_n 0, 1) := by decide +kernel
theorem d_M_laden_44 : decode prog_14_method_41_code 44 = .ok (.invokevirtual 180, 3) := by decide +kernel
theorem d_M_laden_47 : decode prog_14_method_41_code 47 = .ok (.aload_n 0, 1) := by decide +kernel
theorem d_M_laden_48 : decode prog_14_method_41_code 48 = .ok (.getfield 25, 3) := by decide +kernel
theorem d_M_laden_51 : decode prog_14_method_41_code 51 = .ok (.bipush 16, 2) := by decide +kernel
theorem d_M_laden_53 : decode prog_14_method_41_code 53 = .ok (.iload_n 1, 1) := by decide +kernel
theorem d_M_laden_54 : decode prog_14_method_41_code 54 = .ok (.iastore, 1) := by decide +kernel
theorem d_M_laden_55 : decode prog_14_method_41_code 55 = .ok (.aload_n 0, 1) := by decide +kernel
theorem d_M_laden_56 : decode prog_14_method_41_code 56 = .ok (.getfield 25, 3) := by decide +kernel
theorem d_M_laden_59 : decode prog_14_method_41_code 59 = .ok (.iconst 0, 1) := by decide +kernel
theorem d_M_laden_60 : decode prog_14_method_41_code 60 = .ok (.invokestatic 163, 3) := by decide +kernel
theorem d_M_laden_63 : decode prog_14_method_41_code 63 = .ok (.ireturn, 1) := by decide +kernel
theorem d_M_boatCells_0 : decode prog_14_method_42_code 0 = .ok (.iconst 0, 1) := by decide +kernel
theorem d_M_boatCells_1 : decode prog_14_method_42_code 1 = .ok (.istore_n 1, 1) := by decide +kernel
theorem d_M_boatCells_2 : decode prog_14_method_42_code 2 = .ok (.iconst (-1), 1) := by decide +kernel
theorem d_M_boatCells_3 : decode prog_14_method_42_code 3 = .ok (.istore_n 2, 1) := by decide +kernel
theorem d_M_boatCells_4 : decode prog_14_method_42_code 4 = .ok (.iload_n 2, 1) := by decide +kernel
theorem d_M_boatCells_5 : decode prog_14_method_42_code 5 = .ok (.iconst 2, 1) := by decide +kernel
theorem d_M_boatCells_6 : decode prog_14_method_42_code 6 = .ok (.if_icmp .ge 83, 3) := by decide +kernel
theorem d_M_boatCells_9 : decode prog_14_method_42_code 9 = .ok (.aload_n 0, 1) := by decide +kernel
theorem d_M_boatCells_10 : decode prog_14_method_42_code 10 = .ok (.getfield 25, 3) := by decide +kernel
theorem d_M_boatCells_13 : decode prog_14_method_42_code 13 = .ok (.bipush 14, 2) := by decide +kernel
theorem d_M_boatCells_15 : decode prog_14_method_42_code 15 = .ok (.iaload, 1) := by decide +kernel
theorem d_M_boatCells_16 : decode prog_14_method_42_code 16 = .ok (.bipush 6, 2) := by decide +kernel
theorem d_M_boatCells_18 : decode prog_14_method_42_code 18 = .ok (.irem, 1) := by decide +kernel
theorem d_M_boatCells_19 : decode prog_14_method_42_code 19 = .ok (.iload_n 2, 1) := by decide +kernel
theorem d_M_boatCells_20 : decode prog_14_method_42_code 20 = .ok (.aload_n 0, 1) := by decide +kernel
theorem d_M_boatCells_21 : decode prog_14_method_42_code 21 = .ok (.getfield 25, 3) := by decide +kernel
theorem d_M_boatCells_24 : decode prog_14_method_42_code 24 = .ok (.bipush 15, 2) := by decide +kernel
theorem d_M_boatCells_26 : decode prog_14_method_42_code 26 = .ok (.iaload, 1) := by decide +kernel
theorem d_M_boatCells_27 : decode prog_14_method_42_code 27 = .ok (.invokestatic 157, 3) := by decide +kernel
theorem d_M_boatCells_30 : decode prog_14_method_42_code 30 = .ok (.imul, 1) := by decide +kernel
theorem d_M_boatCells_31 : decode prog_14_method_42_code 31 = .ok (.iadd, 1) := by decide +kernel
theorem d_M_boatCells_32 : decode prog_14_method_42_code 32 = .ok (.istore_n 3, 1) := by decide +kernel
theorem d_M_boatCells_33 : decode prog_14_method_42_code 33 = .ok (.aload_n 0, 1) := by decide +kernel
theorem d_M_boatCells_34 : decode prog_14_method_42_code 34 = .ok (.getfield 25, 3) := by decide +kernel
theorem d_M_boatCells_37 : decode prog_14_method_42_code 37 = .ok (.bipush 14, 2) := by decide +kernel
theorem d_M_boatCells_39 : decode prog_14_method_42_code 39 = .ok (.iaload, 1) := by decide +kernel
theorem d_M_boatCells_40 : decode prog_14_method_42_code 40 = .ok (.bipush 6, 2) := by decide +kernel
theorem d_M_boatCells_42 : decode prog_14_method_42_code 42 = .ok (.idiv, 1) := by decide +kernel
theorem d_M_boatCells_43 : decode prog_14_method_42_code 43 = .ok (.iload_n 2, 1) := by decide +kernel
theorem d_M_boatCells_44 : decode prog_14_method_42_code 44 = .ok (.aload_n 0, 1) := by decide +kernel
theorem d_M_boatCells_45 : decode prog_14_method_42_code 45 = .ok (.getfield 25, 3) := by decide +kernel
theorem d_M_boatCells_48 : decode prog_14_method_42_code 48 = .ok (.bipush 15, 2) := by decide +kernel
theorem d_M_boatCells_50 : decode prog_14_method_42_code 50 = .ok (.iaload, 1) := by decide +kernel
theorem d_M_boatCells_51 : decode prog_14_method_42_code 51 = .ok (.invokestatic 160, 3) := by decide +kernel
theorem d_M_boatCells_54 : decode prog_14_method_42_code 54 = .ok (.imul, 1) := by decide +kernel
theorem d_M_boatCells_55 : decode prog_14_method_42_code 55 = .ok (.iadd, 1) := by decide +kernel
theorem d_M_boatCells_56 : decode prog_14_method_42_code 56 = .ok (.istore 4, 2) := by decide +kernel
theorem d_M_boatCells_58 : decode prog_14_method_42_code 58 = .ok (.iload_n 1, 1) := by decide +kernel
theorem d_M_boatCells_59 : decode prog_14_method_42_code 59 = .ok (.iload_n 3, 1) := by decide +kernel
theorem d_M_boatCells_60 : decode prog_14_method_42_code 60 = .ok (.iload 4, 2) := by decide +kernel
theorem d_M_boatCells_62 : decode prog_14_method_42_code 62 = .ok (.invokestatic 149, 3) := by decide +kernel
theorem d_M_boatCells_65 : decode prog_14_method_42_code 65 = .ok (.ifCond .eq 15, 3) := by decide +kernel
theorem d_M_boatCells_68 : decode prog_14_method_42_code 68 = .ok (.iconst 1, 1) := by decide +kernel
theorem d_M_boatCells_69 : decode prog_14_method_42_code 69 = .ok (.bipush 6, 2) := by decide +kernel
theorem d_M_boatCells_71 : decode prog_14_method_42_code 71 = .ok (.iload 4, 2) := by decide +kernel
theorem d_M_boatCells_73 : decode prog_14_method_42_code 73 = .ok (.imul, 1) := by decide +kernel
theorem d_M_boatCells_74 : decode prog_14_method_42_code 74 = .ok (.iload_n 3, 1) := by decide +kernel
theorem d_M_boatCells_75 : decode prog_14_method_42_code 75 = .ok (.iadd, 1) := by decide +kernel
theorem d_M_boatCells_76 : decode prog_14_method_42_code 76 = .ok (.ishl, 1) := by decide +kernel
theorem d_M_boatCells_77 : decode prog_14_method_42_code 77 = .ok (.goto 4, 3) := by decide +kernel
theorem d_M_boatCells_80 : decode prog_14_method_42_code 80 = .ok (.iconst 0, 1) := by decide +kernel
theorem d_M_boatCells_81 : decode prog_14_method_42_code 81 = .ok (.ior, 1) := by decide +kernel
theorem d_M_boatCells_82 : decode prog_14_method_42_code 82 = .ok (.istore_n 1, 1) := by decide +kernel
theorem d_M_boatCells_83 : decode prog_14_method_42_code 83 = .ok (.iinc 2 1, 3) := by decide +kernel
theorem d_M_boatCells_86 : decode prog_14_method_42_code 86 = .ok (.goto (-82), 3) := by decide +kernel
theorem d_M_boatCells_89 : decode prog_14_method_42_code 89 = .ok (.iload_n 1, 1) := by decide +kernel
theorem d_M_boatCells_90 : decode prog_14_method_42_code 90 = .ok (.ireturn, 1) := by decide +kernel
theorem d_M_moor_0 : decode prog_14_method_43_code 0 = .ok (.aload_n 0, 1) := by decide +kernel
theorem d_M_moor_1 : decode prog_14_method_43_code 1 = .ok (.iconst 0, 1) := by decide +kernel
theorem d_M_moor_2 : decode prog_14_method_43_code 2 = .ok (.putfield 50, 3) := by decide +kernel
theorem d_M_moor_5 : decode prog_14_method_43_code 5 = .ok (.aload_n 0, 1) := by decide +kernel
theorem d_M_moor_6 : decode prog_14_method_43_code 6 = .ok (.getfield 25, 3) := by decide +kernel
theorem d_M_moor_9 : decode prog_14_method_43_code 9 = .ok (.iconst 0, 1) := by decide +kernel
theorem d_M_moor_10 : decode prog_14_method_43_code 10 = .ok (.iaload, 1) := by decide +kernel
theorem d_M_moor_11 : decode prog_14_method_43_code 11 = .ok (.ifCond .ne 6, 3) := by decide +kernel
theorem d_M_moor_14 : decode prog_14_method_43_code 14 = .ok (.ldc 148, 2) := by decide +kernel
theorem d_M_moor_16 : decode prog_14_method_43_code 16 = .ok (.ireturn, 1) := by decide +kernel
theorem d_M_moor_17 : decode prog_14_method_43_code 17 = .ok (.iload_n 1, 1) := by decide +kernel
theorem d_M_moor_18 : decode prog_14_method_43_code 18 = .ok (.iconst 0, 1) := by decide +kernel
theorem d_M_moor_19 : decode prog_14_method_43_code 19 = .ok (.bipush 23, 2) := by decide +kernel
theorem d_M_moor_21 : decode prog_14_method_43_code 21 = .ok (.invokestatic 58, 3) := by decide +kernel
theorem d_M_moor_24 : decode prog_14_method_43_code 24 = .ok (.ifCond .eq 12, 3) := by decide +kernel
theorem d_M_moor_27 : decode prog_14_method_43_code 27 = .ok (.iload_n 2, 1) := by decide +kernel
theorem d_M_moor_28 : decode prog_14_method_43_code 28 = .ok (.iconst 0, 1) := by decide +kernel
theorem d_M_moor_29 : decode prog_14_method_43_code 29 = .ok (.iconst 1, 1) := by decide +kernel
theorem d_M_moor_30 : decode prog_14_method_43_code 30 = .ok (.invokestatic 58, 3) := by decide +kernel
theorem d_M_moor_33 : decode prog_14_method_43_code 33 = .ok (.ifCond .ne 6, 3) := by decide +kernel
theorem d_M_moor_36 : decode prog_14_method_43_code 36 = .ok (.ldc 66, 2) := by decide +kernel
theorem d_M_moor_38 : decode prog_14_method_43_code 38 = .ok (.ireturn, 1) := by decide +kernel
theorem d_M_moor_39 : decode prog_14_method_43_code 39 = .ok (.aload_n 0, 1) := by decide +kernel
theorem d_M_moor_40 : decode prog_14_method_43_code 40 = .ok (.getfield 25, 3) := by decide +kernel
theorem d_M_moor_43 : decode prog_14_method_43_code 43 = .ok (.bipush 13, 2) := by decide +kernel
theorem d_M_moor_45 : decode prog_14_method_43_code 45 = .ok (.iaload, 1) := by decide +kernel
theorem d_M_moor_46 : decode prog_14_method_43_code 46 = .ok (.iload_n 1, 1) := by decide +kernel
theorem d_M_moor_47 : decode prog_14_method_43_code 47 = .ok (.ishr, 1) := by decide +kernel
theorem d_M_moor_48 : decode prog_14_method_43_code 48 = .ok (.iconst 1, 1) := by decide +kernel
theorem d_M_moor_49 : decode prog_14_method_43_code 49 = .ok (.iand, 1) := by decide +kernel
theorem d_M_moor_50 : decode prog_14_method_43_code 50 = .ok (.iload_n 2, 1) := by decide +kernel
theorem d_M_moor_51 : decode prog_14_method_43_code 51 = .ok (.if_icmp .eq 20, 3) := by decide +kernel
theorem d_M_moor_54 : decode prog_14_method_43_code 54 = .ok (.iload_n 2, 1) := by decide +kernel
theorem d_M_moor_55 : decode prog_14_method_43_code 55 = .ok (.iconst 1, 1) := by decide +kernel
theorem d_M_moor_56 : decode prog_14_method_43_code 56 = .ok (.if_icmp .ne 18, 3) := by decide +kernel
theorem d_M_moor_59 : decode prog_14_method_43_code 59 = .ok (.aload_n 0, 1) := by decide +kernel
theorem d_M_moor_60 : decode prog_14_method_43_code 60 = .ok (.invokevirtual 187, 3) := by decide +kernel
theorem d_M_moor_63 : decode prog_14_method_43_code 63 = .ok (.iload_n 1, 1) := by decide +kernel
theorem d_M_moor_64 : decode prog_14_method_43_code 64 = .ok (.ishr, 1) := by decide +kernel
theorem d_M_moor_65 : decode prog_14_method_43_code 65 = .ok (.iconst 1, 1) := by decide +kernel
theorem d_M_moor_66 : decode prog_14_method_43_code 66 = .ok (.iand, 1) := by decide +kernel
theorem d_M_moor_67 : decode prog_14_method_43_code 67 = .ok (.iconst 1, 1) := by decide +kernel
theorem d_M_moor_68 : decode prog_14_method_43_code 68 = .ok (.if_icmp .ne 6, 3) := by decide +kernel
theorem d_M_moor_71 : decode prog_14_method_43_code 71 = .ok (.ldc 148, 2) := by decide +kernel
theorem d_M_moor_73 : decode prog_14_method_43_code 73 = .ok (.ireturn, 1) := by decide +kernel
theorem d_M_moor_74 : decode prog_14_method_43_code 74 = .ok (.iload_n 2, 1) := by decide +kernel
theorem d_M_moor_75 : decode prog_14_method_43_code 75 = .ok (.iconst 1, 1) := by decide +kernel
theorem d_M_moor_76 : decode prog_14_method_43_code 76 = .ok (.if_icmp .ne 20, 3) := by decide +kernel
theorem d_M_moor_79 : decode prog_14_method_43_code 79 = .ok (.aload_n 0, 1) := by decide +kernel
theorem d_M_moor_80 : decode prog_14_method_43_code 80 = .ok (.getfield 25, 3) := by decide +kernel
theorem d_M_moor_83 : decode prog_14_method_43_code 83 = .ok (.bipush 13, 2) := by decide +kernel
theorem d_M_moor_85 : decode prog_14_method_43_code 85 = .ok (.iaload, 1) := by decide +kernel
theorem d_M_moor_86 : decode prog_14_method_43_code 86 = .ok (.invokestatic 128, 3) := by decide +kernel
theorem d_M_moor_89 : decode prog_14_method_43_code 89 = .ok (.iconst 4, 1) := by decide +kernel
theorem d_M_moor_90 : decode prog_14_method_43_code 90 = .ok (.if_icmp .ne 6, 3) := by decide +kernel
theorem d_M_moor_93 : decode prog_14_method_43_code 93 = .ok (.ldc 84, 2) := by decide +kernel
theorem d_M_moor_95 : decode prog_14_method_43_code 95 = .ok (.ireturn, 1) := by decide +kernel
theorem d_M_moor_96 : decode prog_14_method_43_code 96 = .ok (.aload_n 0, 1) := by decide +kernel
theorem d_M_moor_97 : decode prog_14_method_43_code 97 = .ok (.invokevirtual 180, 3) := by decide +kernel
theorem d_M_moor_100 : decode prog_14_method_43_code 100 = .ok (.aload_n 0, 1) := by decide +kernel
theorem d_M_moor_101 : decode prog_14_method_43_code 101 = .ok (.getfield 25, 3) := by decide +kernel
theorem d_M_moor_104 : decode prog_14_method_43_code 104 = .ok (.bipush 13, 2) := by decide +kernel
theorem d_M_moor_106 : decode prog_14_method_43_code 106 = .ok (.dup2, 1) := by decide +kernel
theorem d_M_moor_107 : decode prog_14_method_43_code 107 = .ok (.iaload, 1) := by decide +kernel
theorem d_M_moor_108 : decode prog_14_method_43_code 108 = .ok (.iconst 1, 1) := by decide +kernel
theorem d_M_moor_109 : decode prog_14_method_43_code 109 = .ok (.iload_n 1, 1) := by decide +kernel
theorem d_M_moor_110 : decode prog_14_method_43_code 110 = .ok (.ishl, 1) := by decide +kernel
theorem d_M_moor_111 : decode prog_14_method_43_code 111 = .ok (.ixor, 1) := by decide +kernel
theorem d_M_moor_112 : decode prog_14_method_43_code 112 = .ok (.iastore, 1) := by decide +kernel
theorem d_M_moor_113 : decode prog_14_method_43_code 113 = .ok (.aload_n 0, 1) := by decide +kernel
theorem d_M_moor_114 : decode prog_14_method_43_code 114 = .ok (.getfield 25, 3) := by decide +kernel
theorem d_M_moor_117 : decode prog_14_method_43_code 117 = .ok (.bipush 13, 2) := by decide +kernel
theorem d_M_moor_119 : decode prog_14_method_43_code 119 = .ok (.iaload, 1) := by decide +kernel
theorem d_M_moor_120 : decode prog_14_method_43_code 120 = .ok (.invokestatic 128, 3) := by decide +kernel
theorem d_M_moor_123 : decode prog_14_method_43_code 123 = .ok (.ireturn, 1) := by decide +kernel
theorem d_M_silts_0 : decode prog_14_method_44_code 0 = .ok (.iconst 0, 1) := by decide +kernel
theorem d_M_silts_1 : decode prog_14_method_44_code 1 = .ok (.istore_n 1, 1) := by decide +kernel
theorem d_M_silts_2 : decode prog_14_method_44_code 2 = .ok (.iload_n 1, 1) := by decide +kernel
theorem d_M_silts_3 : decode prog_14_method_44_code 3 = .ok (.bipush 24, 2) := by decide +kernel
theorem d_M_silts_5 : decode prog_14_method_44_code 5 = .ok (.if_icmp .ge 32, 3) := by decide +kernel
theorem d_M_silts_8 : decode prog_14_method_44_code 8 = .ok (.aload_n 0, 1) := by decide +kernel
theorem d_M_silts_9 : decode prog_14_method_44_code 9 = .ok (.bipush 18, 2) := by decide +kernel
theorem d_M_silts_11 : decode prog_14_method_44_code 11 = .ok (.iload_n 1, 1) := by decide +kernel
theorem d_M_silts_12 : decode prog_14_method_44_code 12 = .ok (.iadd, 1) := by decide +kernel
theorem d_M_silts_13 : decode prog_14_method_44_code 13 = .ok (.dup2, 1) := by decide +kernel
theorem d_M_silts_14 : decode prog_14_method_44_code 14 = .ok (.iaload, 1) := by decide +kernel
theorem d_M_silts_15 : decode prog_14_method_44_code 15 = .ok (.aload_n 0, 1) := by decide +kernel
theorem d_M_silts_16 : decode prog_14_method_44_code 16 = .ok (.bipush 18, 2) := by decide +kernel
theorem d_M_silts_18 : decode prog_14_method_44_code 18 = .ok (.iload_n 1, 1) := by decide +kernel
theorem d_M_silts_19 : decode prog_14_method_44_code 19 = .ok (.iadd, 1) := by decide +kernel
theorem d_M_silts_20 : decode prog_14_method_44_code 20 = .ok (.iaload, 1) := by decide +kernel
theorem d_M_silts_21 : decode prog_14_method_44_code 21 = .ok (.ifCond .le 7, 3) := by decide +kernel
theorem d_M_silts_24 : decode prog_14_method_44_code 24 = .ok (.iconst 1, 1) := by decide +kernel
theorem d_M_silts_25 : decode prog_14_method_44_code 25 = .ok (.goto 4, 3) := by decide +kernel
theorem d_M_silts_28 : decode prog_14_method_44_code 28 = .ok (.iconst 0, 1) := by decide +kernel
theorem d_M_silts_29 : decode prog_14_method_44_code 29 = .ok (.isub, 1) := by decide +kernel
theorem d_M_silts_30 : decode prog_14_method_44_code 30 = .ok (.iastore, 1) := by decide +kernel
theorem d_M_silts_31 : decode prog_14_method_44_code 31 = .ok (.iinc 1 1, 3) := by decide +kernel
theorem d_M_silts_34 : decode prog_14_method_44_code 34 = .ok (.goto (-32), 3) := by decide +kernel
theorem d_M_silts_37 : decode prog_14_method_44_code 37 = .ok (.return_, 1) := by decide +kernel
theorem d_M_silt_0 : decode prog_14_method_45_code 0 = .ok (.aload_n 0, 1) := by decide +kernel
theorem d_M_silt_1 : decode prog_14_method_45_code 1 = .ok (.iconst 0, 1) := by decide +kernel
theorem d_M_silt_2 : decode prog_14_method_45_code 2 = .ok (.putfield 50, 3) := by decide +kernel
theorem d_M_silt_5 : decode prog_14_method_45_code 5 = .ok (.aload_n 0, 1) := by decide +kernel
theorem d_M_silt_6 : decode prog_14_method_45_code 6 = .ok (.getfield 25, 3) := by decide +kernel
theorem d_M_silt_9 : decode prog_14_method_45_code 9 = .ok (.iconst 0, 1) := by decide +kernel
theorem d_M_silt_10 : decode prog_14_method_45_code 10 = .ok (.iaload, 1) := by decide +kernel
theorem d_M_silt_11 : decode prog_14_method_45_code 11 = .ok (.ifCond .ne 6, 3) := by decide +kernel
theorem d_M_silt_14 : decode prog_14_method_45_code 14 = .ok (.ldc 148, 2) := by decide +kernel
theorem d_M_silt_16 : decode prog_14_method_45_code 16 = .ok (.ireturn, 1) := by decide +kernel
theorem d_M_silt_17 : decode prog_14_method_45_code 17 = .ok (.aload_n 0, 1) := by decide +kernel
theorem d_M_silt_18 : decode prog_14_method_45_code 18 = .ok (.invokevirtual 180, 3) := by decide +kernel
theorem d_M_silt_21 : decode prog_14_method_45_code 21 = .ok (.aload_n 0, 1) := by decide +kernel
theorem d_M_silt_22 : decode prog_14_method_45_code 22 = .ok (.getfield 25, 3) := by decide +kernel
theorem d_M_silt_25 : decode prog_14_method_45_code 25 = .ok (.invokestatic 191, 3) := by decide +kernel
theorem d_M_silt_28 : decode prog_14_method_45_code 28 = .ok (.aload_n 0, 1) := by decide +kernel
theorem d_M_silt_29 : decode prog_14_method_45_code 29 = .ok (.invokevirtual 195, 3) := by decide +kernel
theorem d_M_silt_32 : decode prog_14_method_45_code 32 = .ok (.ifCond .eq 7, 3) := by decide +kernel
