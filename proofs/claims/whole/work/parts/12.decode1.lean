/-! ===== instructions ===== -/
theorem d_A_init_0 : decode prog_2_method_1_code 0 = .ok (.aload_n 0, 1) := by decide +kernel
theorem d_A_init_1 : decode prog_2_method_1_code 1 = .ok (.invokespecial 3, 3) := by decide +kernel
theorem d_A_init_4 : decode prog_2_method_1_code 4 = .ok (.aload_n 0, 1) := by decide +kernel
theorem d_A_init_5 : decode prog_2_method_1_code 5 = .ok (.bipush 24, 2) := by decide +kernel
theorem d_A_init_7 : decode prog_2_method_1_code 7 = .ok (.newarray .int, 2) := by decide +kernel
theorem d_A_init_9 : decode prog_2_method_1_code 9 = .ok (.putfield 11, 3) := by decide +kernel
theorem d_A_init_12 : decode prog_2_method_1_code 12 = .ok (.aload_n 0, 1) := by decide +kernel
theorem d_A_init_13 : decode prog_2_method_1_code 13 = .ok (.bipush 24, 2) := by decide +kernel
theorem d_A_init_15 : decode prog_2_method_1_code 15 = .ok (.newarray .int, 2) := by decide +kernel
theorem d_A_init_17 : decode prog_2_method_1_code 17 = .ok (.putfield 15, 3) := by decide +kernel
theorem d_A_init_20 : decode prog_2_method_1_code 20 = .ok (.aload_n 0, 1) := by decide +kernel
theorem d_A_init_21 : decode prog_2_method_1_code 21 = .ok (.bipush 24, 2) := by decide +kernel
theorem d_A_init_23 : decode prog_2_method_1_code 23 = .ok (.newarray .int, 2) := by decide +kernel
theorem d_A_init_25 : decode prog_2_method_1_code 25 = .ok (.putfield 18, 3) := by decide +kernel
theorem d_A_init_28 : decode prog_2_method_1_code 28 = .ok (.aload_n 0, 1) := by decide +kernel
theorem d_A_init_29 : decode prog_2_method_1_code 29 = .ok (.bipush 24, 2) := by decide +kernel
theorem d_A_init_31 : decode prog_2_method_1_code 31 = .ok (.newarray .int, 2) := by decide +kernel
theorem d_A_init_33 : decode prog_2_method_1_code 33 = .ok (.putfield 21, 3) := by decide +kernel
theorem d_A_init_36 : decode prog_2_method_1_code 36 = .ok (.aload_n 0, 1) := by decide +kernel
theorem d_A_init_37 : decode prog_2_method_1_code 37 = .ok (.bipush 24, 2) := by decide +kernel
theorem d_A_init_39 : decode prog_2_method_1_code 39 = .ok (.newarray .int, 2) := by decide +kernel
theorem d_A_init_41 : decode prog_2_method_1_code 41 = .ok (.putfield 24, 3) := by decide +kernel
theorem d_A_init_44 : decode prog_2_method_1_code 44 = .ok (.aload_n 0, 1) := by decide +kernel
theorem d_A_init_45 : decode prog_2_method_1_code 45 = .ok (.bipush 24, 2) := by decide +kernel
theorem d_A_init_47 : decode prog_2_method_1_code 47 = .ok (.newarray .int, 2) := by decide +kernel
theorem d_A_init_49 : decode prog_2_method_1_code 49 = .ok (.putfield 27, 3) := by decide +kernel
theorem d_A_init_52 : decode prog_2_method_1_code 52 = .ok (.return_, 1) := by decide +kernel
theorem d_A_kept_0 : decode prog_2_method_2_code 0 = .ok (.aload_n 0, 1) := by decide +kernel
theorem d_A_kept_1 : decode prog_2_method_2_code 1 = .ok (.getfield 30, 3) := by decide +kernel
theorem d_A_kept_4 : decode prog_2_method_2_code 4 = .ok (.ireturn, 1) := by decide +kernel
theorem d_A_forget_0 : decode prog_2_method_3_code 0 = .ok (.aload_n 0, 1) := by decide +kernel
theorem d_A_forget_1 : decode prog_2_method_3_code 1 = .ok (.iconst 0, 1) := by decide +kernel
theorem d_A_forget_2 : decode prog_2_method_3_code 2 = .ok (.putfield 30, 3) := by decide +kernel
theorem d_A_forget_5 : decode prog_2_method_3_code 5 = .ok (.return_, 1) := by decide +kernel
theorem d_A_keep_0 : decode prog_2_method_4_code 0 = .ok (.aload_n 0, 1) := by decide +kernel
theorem d_A_keep_1 : decode prog_2_method_4_code 1 = .ok (.getfield 11, 3) := by decide +kernel
theorem d_A_keep_4 : decode prog_2_method_4_code 4 = .ok (.aload_n 0, 1) := by decide +kernel
theorem d_A_keep_5 : decode prog_2_method_4_code 5 = .ok (.getfield 34, 3) := by decide +kernel
theorem d_A_keep_8 : decode prog_2_method_4_code 8 = .ok (.aload_n 1, 1) := by decide +kernel
theorem d_A_keep_9 : decode prog_2_method_4_code 9 = .ok (.getfield 37, 3) := by decide +kernel
theorem d_A_keep_12 : decode prog_2_method_4_code 12 = .ok (.invokestatic 41, 3) := by decide +kernel
theorem d_A_keep_15 : decode prog_2_method_4_code 15 = .ok (.aload_n 0, 1) := by decide +kernel
theorem d_A_keep_16 : decode prog_2_method_4_code 16 = .ok (.getfield 15, 3) := by decide +kernel
theorem d_A_keep_19 : decode prog_2_method_4_code 19 = .ok (.aload_n 0, 1) := by decide +kernel
theorem d_A_keep_20 : decode prog_2_method_4_code 20 = .ok (.getfield 34, 3) := by decide +kernel
theorem d_A_keep_23 : decode prog_2_method_4_code 23 = .ok (.aload_n 1, 1) := by decide +kernel
theorem d_A_keep_24 : decode prog_2_method_4_code 24 = .ok (.getfield 45, 3) := by decide +kernel
theorem d_A_keep_27 : decode prog_2_method_4_code 27 = .ok (.invokestatic 41, 3) := by decide +kernel
theorem d_A_keep_30 : decode prog_2_method_4_code 30 = .ok (.aload_n 0, 1) := by decide +kernel
theorem d_A_keep_31 : decode prog_2_method_4_code 31 = .ok (.getfield 18, 3) := by decide +kernel
theorem d_A_keep_34 : decode prog_2_method_4_code 34 = .ok (.aload_n 0, 1) := by decide +kernel
theorem d_A_keep_35 : decode prog_2_method_4_code 35 = .ok (.getfield 34, 3) := by decide +kernel
theorem d_A_keep_38 : decode prog_2_method_4_code 38 = .ok (.aload_n 1, 1) := by decide +kernel
theorem d_A_keep_39 : decode prog_2_method_4_code 39 = .ok (.getfield 47, 3) := by decide +kernel
theorem d_A_keep_42 : decode prog_2_method_4_code 42 = .ok (.invokestatic 41, 3) := by decide +kernel
theorem d_A_keep_45 : decode prog_2_method_4_code 45 = .ok (.aload_n 0, 1) := by decide +kernel
theorem d_A_keep_46 : decode prog_2_method_4_code 46 = .ok (.getfield 21, 3) := by decide +kernel
theorem d_A_keep_49 : decode prog_2_method_4_code 49 = .ok (.aload_n 0, 1) := by decide +kernel
theorem d_A_keep_50 : decode prog_2_method_4_code 50 = .ok (.getfield 34, 3) := by decide +kernel
theorem d_A_keep_53 : decode prog_2_method_4_code 53 = .ok (.aload_n 1, 1) := by decide +kernel
theorem d_A_keep_54 : decode prog_2_method_4_code 54 = .ok (.getfield 49, 3) := by decide +kernel
theorem d_A_keep_57 : decode prog_2_method_4_code 57 = .ok (.invokestatic 41, 3) := by decide +kernel
theorem d_A_keep_60 : decode prog_2_method_4_code 60 = .ok (.aload_n 0, 1) := by decide +kernel
theorem d_A_keep_61 : decode prog_2_method_4_code 61 = .ok (.getfield 24, 3) := by decide +kernel
theorem d_A_keep_64 : decode prog_2_method_4_code 64 = .ok (.aload_n 0, 1) := by decide +kernel
theorem d_A_keep_65 : decode prog_2_method_4_code 65 = .ok (.getfield 34, 3) := by decide +kernel
theorem d_A_keep_68 : decode prog_2_method_4_code 68 = .ok (.aload_n 1, 1) := by decide +kernel
theorem d_A_keep_69 : decode prog_2_method_4_code 69 = .ok (.getfield 51, 3) := by decide +kernel
theorem d_A_keep_72 : decode prog_2_method_4_code 72 = .ok (.invokestatic 41, 3) := by decide +kernel
theorem d_A_keep_75 : decode prog_2_method_4_code 75 = .ok (.aload_n 0, 1) := by decide +kernel
theorem d_A_keep_76 : decode prog_2_method_4_code 76 = .ok (.getfield 27, 3) := by decide +kernel
theorem d_A_keep_79 : decode prog_2_method_4_code 79 = .ok (.aload_n 0, 1) := by decide +kernel
theorem d_A_keep_80 : decode prog_2_method_4_code 80 = .ok (.getfield 34, 3) := by decide +kernel
theorem d_A_keep_83 : decode prog_2_method_4_code 83 = .ok (.iload_n 2, 1) := by decide +kernel
theorem d_A_keep_84 : decode prog_2_method_4_code 84 = .ok (.invokestatic 41, 3) := by decide +kernel
theorem d_A_keep_87 : decode prog_2_method_4_code 87 = .ok (.aload_n 0, 1) := by decide +kernel
theorem d_A_keep_88 : decode prog_2_method_4_code 88 = .ok (.aload_n 0, 1) := by decide +kernel
theorem d_A_keep_89 : decode prog_2_method_4_code 89 = .ok (.getfield 34, 3) := by decide +kernel
theorem d_A_keep_92 : decode prog_2_method_4_code 92 = .ok (.iconst 1, 1) := by decide +kernel
theorem d_A_keep_93 : decode prog_2_method_4_code 93 = .ok (.iadd, 1) := by decide +kernel
theorem d_A_keep_94 : decode prog_2_method_4_code 94 = .ok (.bipush 24, 2) := by decide +kernel
theorem d_A_keep_96 : decode prog_2_method_4_code 96 = .ok (.irem, 1) := by decide +kernel
theorem d_A_keep_97 : decode prog_2_method_4_code 97 = .ok (.putfield 34, 3) := by decide +kernel
theorem d_A_keep_100 : decode prog_2_method_4_code 100 = .ok (.aload_n 0, 1) := by decide +kernel
theorem d_A_keep_101 : decode prog_2_method_4_code 101 = .ok (.bipush 24, 2) := by decide +kernel
theorem d_A_keep_103 : decode prog_2_method_4_code 103 = .ok (.aload_n 0, 1) := by decide +kernel
theorem d_A_keep_104 : decode prog_2_method_4_code 104 = .ok (.getfield 30, 3) := by decide +kernel
theorem d_A_keep_107 : decode prog_2_method_4_code 107 = .ok (.iconst 1, 1) := by decide +kernel
theorem d_A_keep_108 : decode prog_2_method_4_code 108 = .ok (.iadd, 1) := by decide +kernel
theorem d_A_keep_109 : decode prog_2_method_4_code 109 = .ok (.invokestatic 53, 3) := by decide +kernel
theorem d_A_keep_112 : decode prog_2_method_4_code 112 = .ok (.putfield 30, 3) := by decide +kernel
theorem d_A_keep_115 : decode prog_2_method_4_code 115 = .ok (.return_, 1) := by decide +kernel
theorem d_A_takeBack_0 : decode prog_2_method_5_code 0 = .ok (.aload_n 0, 1) := by decide +kernel
theorem d_A_takeBack_1 : decode prog_2_method_5_code 1 = .ok (.aload_n 0, 1) := by decide +kernel
theorem d_A_takeBack_2 : decode prog_2_method_5_code 2 = .ok (.getfield 34, 3) := by decide +kernel
theorem d_A_takeBack_5 : decode prog_2_method_5_code 5 = .ok (.bipush 24, 2) := by decide +kernel
theorem d_A_takeBack_7 : decode prog_2_method_5_code 7 = .ok (.iadd, 1) := by decide +kernel
theorem d_A_takeBack_8 : decode prog_2_method_5_code 8 = .ok (.iconst 1, 1) := by decide +kernel
theorem d_A_takeBack_9 : decode prog_2_method_5_code 9 = .ok (.isub, 1) := by decide +kernel
theorem d_A_takeBack_10 : decode prog_2_method_5_code 10 = .ok (.bipush 24, 2) := by decide +kernel
theorem d_A_takeBack_12 : decode prog_2_method_5_code 12 = .ok (.irem, 1) := by decide +kernel
theorem d_A_takeBack_13 : decode prog_2_method_5_code 13 = .ok (.putfield 34, 3) := by decide +kernel
theorem d_A_takeBack_16 : decode prog_2_method_5_code 16 = .ok (.aload_n 0, 1) := by decide +kernel
theorem d_A_takeBack_17 : decode prog_2_method_5_code 17 = .ok (.iconst 0, 1) := by decide +kernel
theorem d_A_takeBack_18 : decode prog_2_method_5_code 18 = .ok (.aload_n 0, 1) := by decide +kernel
theorem d_A_takeBack_19 : decode prog_2_method_5_code 19 = .ok (.getfield 30, 3) := by decide +kernel
theorem d_A_takeBack_22 : decode prog_2_method_5_code 22 = .ok (.iconst 1, 1) := by decide +kernel
theorem d_A_takeBack_23 : decode prog_2_method_5_code 23 = .ok (.isub, 1) := by decide +kernel
theorem d_A_takeBack_24 : decode prog_2_method_5_code 24 = .ok (.invokestatic 59, 3) := by decide +kernel
theorem d_A_takeBack_27 : decode prog_2_method_5_code 27 = .ok (.putfield 30, 3) := by decide +kernel
theorem d_A_takeBack_30 : decode prog_2_method_5_code 30 = .ok (.aload_n 1, 1) := by decide +kernel
theorem d_A_takeBack_31 : decode prog_2_method_5_code 31 = .ok (.aload_n 0, 1) := by decide +kernel
theorem d_A_takeBack_32 : decode prog_2_method_5_code 32 = .ok (.getfield 11, 3) := by decide +kernel
theorem d_A_takeBack_35 : decode prog_2_method_5_code 35 = .ok (.aload_n 0, 1) := by decide +kernel
theorem d_A_takeBack_36 : decode prog_2_method_5_code 36 = .ok (.getfield 34, 3) := by decide +kernel
theorem d_A_takeBack_39 : decode prog_2_method_5_code 39 = .ok (.invokestatic 62, 3) := by decide +kernel
theorem d_A_takeBack_42 : decode prog_2_method_5_code 42 = .ok (.putfield 37, 3) := by decide +kernel
theorem d_A_takeBack_45 : decode prog_2_method_5_code 45 = .ok (.aload_n 1, 1) := by decide +kernel
theorem d_A_takeBack_46 : decode prog_2_method_5_code 46 = .ok (.aload_n 0, 1) := by decide +kernel
theorem d_A_takeBack_47 : decode prog_2_method_5_code 47 = .ok (.getfield 15, 3) := by decide +kernel
theorem d_A_takeBack_50 : decode prog_2_method_5_code 50 = .ok (.aload_n 0, 1) := by decide +kernel
theorem d_A_takeBack_51 : decode prog_2_method_5_code 51 = .ok (.getfield 34, 3) := by decide +kernel
theorem d_A_takeBack_54 : decode prog_2_method_5_code 54 = .ok (.invokestatic 62, 3) := by decide +kernel
theorem d_A_takeBack_57 : decode prog_2_method_5_code 57 = .ok (.putfield 45, 3) := by decide +kernel
theorem d_A_takeBack_60 : decode prog_2_method_5_code 60 = .ok (.aload_n 1, 1) := by decide +kernel
theorem d_A_takeBack_61 : decode prog_2_method_5_code 61 = .ok (.aload_n 0, 1) := by decide +kernel
theorem d_A_takeBack_62 : decode prog_2_method_5_code 62 = .ok (.getfield 18, 3) := by decide +kernel
theorem d_A_takeBack_65 : decode prog_2_method_5_code 65 = .ok (.aload_n 0, 1) := by decide +kernel
theorem d_A_takeBack_66 : decode prog_2_method_5_code 66 = .ok (.getfield 34, 3) := by decide +kernel
theorem d_A_takeBack_69 : decode prog_2_method_5_code 69 = .ok (.invokestatic 62, 3) := by decide +kernel
theorem d_A_takeBack_72 : decode prog_2_method_5_code 72 = .ok (.putfield 47, 3) := by decide +kernel
theorem d_A_takeBack_75 : decode prog_2_method_5_code 75 = .ok (.aload_n 1, 1) := by decide +kernel
theorem d_A_takeBack_76 : decode prog_2_method_5_code 76 = .ok (.aload_n 0, 1) := by decide +kernel
theorem d_A_takeBack_77 : decode prog_2_method_5_code 77 = .ok (.getfield 21, 3) := by decide +kernel
theorem d_A_takeBack_80 : decode prog_2_method_5_code 80 = .ok (.aload_n 0, 1) := by decide +kernel
theorem d_A_takeBack_81 : decode prog_2_method_5_code 81 = .ok (.getfield 34, 3) := by decide +kernel
theorem d_A_takeBack_84 : decode prog_2_method_5_code 84 = .ok (.invokestatic 62, 3) := by decide +kernel
theorem d_A_takeBack_87 : decode prog_2_method_5_code 87 = .ok (.putfield 49, 3) := by decide +kernel
theorem d_A_takeBack_90 : decode prog_2_method_5_code 90 = .ok (.aload_n 1, 1) := by decide +kernel
theorem d_A_takeBack_91 : decode prog_2_method_5_code 91 = .ok (.aload_n 0, 1) := by decide +kernel
theorem d_A_takeBack_92 : decode prog_2_method_5_code 92 = .ok (.getfield 24, 3) := by decide +kernel
theorem d_A_takeBack_95 : decode prog_2_method_5_code 95 = .ok (.aload_n 0, 1) := by decide +kernel
theorem d_A_takeBack_96 : decode prog_2_method_5_code 96 = .ok (.getfield 34, 3) := by decide +kernel
theorem d_A_takeBack_99 : decode prog_2_method_5_code 99 = .ok (.invokestatic 62, 3) := by decide +kernel
theorem d_A_takeBack_102 : decode prog_2_method_5_code 102 = .ok (.putfield 51, 3) := by decide +kernel
theorem d_A_takeBack_105 : decode prog_2_method_5_code 105 = .ok (.iconst 0, 1) := by decide +kernel
theorem d_A_takeBack_106 : decode prog_2_method_5_code 106 = .ok (.istore_n 2, 1) := by decide +kernel
theorem d_A_takeBack_107 : decode prog_2_method_5_code 107 = .ok (.iload_n 2, 1) := by decide +kernel
theorem d_A_takeBack_108 : decode prog_2_method_5_code 108 = .ok (.bipush 24, 2) := by decide +kernel
theorem d_A_takeBack_110 : decode prog_2_method_5_code 110 = .ok (.if_icmp .ge 41, 3) := by decide +kernel
theorem d_A_takeBack_113 : decode prog_2_method_5_code 113 = .ok (.aload_n 1, 1) := by decide +kernel
theorem d_A_takeBack_114 : decode prog_2_method_5_code 114 = .ok (.getfield 66, 3) := by decide +kernel
theorem d_A_takeBack_117 : decode prog_2_method_5_code 117 = .ok (.iload_n 2, 1) := by decide +kernel
theorem d_A_takeBack_118 : decode prog_2_method_5_code 118 = .ok (.aload_n 1, 1) := by decide +kernel
theorem d_A_takeBack_119 : decode prog_2_method_5_code 119 = .ok (.getfield 66, 3) := by decide +kernel
theorem d_A_takeBack_122 : decode prog_2_method_5_code 122 = .ok (.iload_n 2, 1) := by decide +kernel
theorem d_A_takeBack_123 : decode prog_2_method_5_code 123 = .ok (.invokestatic 62, 3) := by decide +kernel
theorem d_A_takeBack_126 : decode prog_2_method_5_code 126 = .ok (.aload_n 0, 1) := by decide +kernel
theorem d_A_takeBack_127 : decode prog_2_method_5_code 127 = .ok (.getfield 27, 3) := by decide +kernel
theorem d_A_takeBack_130 : decode prog_2_method_5_code 130 = .ok (.aload_n 0, 1) := by decide +kernel
theorem d_A_takeBack_131 : decode prog_2_method_5_code 131 = .ok (.getfield 34, 3) := by decide +kernel
theorem d_A_takeBack_134 : decode prog_2_method_5_code 134 = .ok (.invokestatic 62, 3) := by decide +kernel
theorem d_A_takeBack_137 : decode prog_2_method_5_code 137 = .ok (.iload_n 2, 1) := by decide +kernel
theorem d_A_takeBack_138 : decode prog_2_method_5_code 138 = .ok (.invokestatic 69, 3) := by decide +kernel
theorem d_A_takeBack_141 : decode prog_2_method_5_code 141 = .ok (.iadd, 1) := by decide +kernel
theorem d_A_takeBack_142 : decode prog_2_method_5_code 142 = .ok (.invokestatic 41, 3) := by decide +kernel
theorem d_A_takeBack_145 : decode prog_2_method_5_code 145 = .ok (.iinc 2 1, 3) := by decide +kernel
theorem d_A_takeBack_148 : decode prog_2_method_5_code 148 = .ok (.goto (-41), 3) := by decide +kernel
theorem d_A_takeBack_151 : decode prog_2_method_5_code 151 = .ok (.return_, 1) := by decide +kernel
theorem d_B_init_0 : decode prog_3_method_1_code 0 = .ok (.aload_n 0, 1) := by decide +kernel
theorem d_B_init_1 : decode prog_3_method_1_code 1 = .ok (.invokespecial 3, 3) := by decide +kernel
theorem d_B_init_4 : decode prog_3_method_1_code 4 = .ok (.aload_n 0, 1) := by decide +kernel
theorem d_B_init_5 : decode prog_3_method_1_code 5 = .ok (.bipush 24, 2) := by decide +kernel
theorem d_B_init_7 : decode prog_3_method_1_code 7 = .ok (.newarray .int, 2) := by decide +kernel
theorem d_B_init_9 : decode prog_3_method_1_code 9 = .ok (.putfield 9, 3) := by decide +kernel
theorem d_B_init_12 : decode prog_3_method_1_code 12 = .ok (.aload_n 0, 1) := by decide +kernel
theorem d_B_init_13 : decode prog_3_method_1_code 13 = .ok (.iconst 4, 1) := by decide +kernel
theorem d_B_init_14 : decode prog_3_method_1_code 14 = .ok (.anewarray 15, 3) := by decide +kernel
theorem d_B_init_17 : decode prog_3_method_1_code 17 = .ok (.putfield 17, 3) := by decide +kernel
theorem d_B_init_20 : decode prog_3_method_1_code 20 = .ok (.return_, 1) := by decide +kernel
theorem d_B_clear_0 : decode prog_3_method_2_code 0 = .ok (.aload_n 0, 1) := by decide +kernel
theorem d_B_clear_1 : decode prog_3_method_2_code 1 = .ok (.iconst 0, 1) := by decide +kernel
theorem d_B_clear_2 : decode prog_3_method_2_code 2 = .ok (.putfield 21, 3) := by decide +kernel
theorem d_B_clear_5 : decode prog_3_method_2_code 5 = .ok (.aload_n 0, 1) := by decide +kernel
theorem d_B_clear_6 : decode prog_3_method_2_code 6 = .ok (.iconst 0, 1) := by decide +kernel
theorem d_B_clear_7 : decode prog_3_method_2_code 7 = .ok (.putfield 25, 3) := by decide +kernel
theorem d_B_clear_10 : decode prog_3_method_2_code 10 = .ok (.aload_n 0, 1) := by decide +kernel
theorem d_B_clear_11 : decode prog_3_method_2_code 11 = .ok (.iconst 0, 1) := by decide +kernel
theorem d_B_clear_12 : decode prog_3_method_2_code 12 = .ok (.putfield 28, 3) := by decide +kernel
theorem d_B_clear_15 : decode prog_3_method_2_code 15 = .ok (.aload_n 0, 1) := by decide +kernel
theorem d_B_clear_16 : decode prog_3_method_2_code 16 = .ok (.iconst 0, 1) := by decide +kernel
theorem d_B_clear_17 : decode prog_3_method_2_code 17 = .ok (.putfield 31, 3) := by decide +kernel
theorem d_B_clear_20 : decode prog_3_method_2_code 20 = .ok (.return_, 1) := by decide +kernel
theorem d_B_become_0 : decode prog_3_method_3_code 0 = .ok (.aload_n 0, 1) := by decide +kernel
theorem d_B_become_1 : decode prog_3_method_3_code 1 = .ok (.aload_n 1, 1) := by decide +kernel
theorem d_B_become_2 : decode prog_3_method_3_code 2 = .ok (.getfield 34, 3) := by decide +kernel
theorem d_B_become_5 : decode prog_3_method_3_code 5 = .ok (.putfield 34, 3) := by decide +kernel
theorem d_B_become_8 : decode prog_3_method_3_code 8 = .ok (.aload_n 0, 1) := by decide +kernel
theorem d_B_become_9 : decode prog_3_method_3_code 9 = .ok (.aload_n 1, 1) := by decide +kernel
theorem d_B_become_10 : decode prog_3_method_3_code 10 = .ok (.getfield 37, 3) := by decide +kernel
theorem d_B_become_13 : decode prog_3_method_3_code 13 = .ok (.putfield 37, 3) := by decide +kernel
theorem d_B_become_16 : decode prog_3_method_3_code 16 = .ok (.aload_n 0, 1) := by decide +kernel
theorem d_B_become_17 : decode prog_3_method_3_code 17 = .ok (.aload_n 1, 1) := by decide +kernel
theorem d_B_become_18 : decode prog_3_method_3_code 18 = .ok (.getfield 40, 3) := by decide +kernel
theorem d_B_become_21 : decode prog_3_method_3_code 21 = .ok (.putfield 40, 3) := by decide +kernel
theorem d_B_become_24 : decode prog_3_method_3_code 24 = .ok (.aload_n 0, 1) := by decide +kernel
theorem d_B_become_25 : decode prog_3_method_3_code 25 = .ok (.aload_n 1, 1) := by decide +kernel
theorem d_B_become_26 : decode prog_3_method_3_code 26 = .ok (.getfield 43, 3) := by decide +kernel
theorem d_B_become_29 : decode prog_3_method_3_code 29 = .ok (.putfield 43, 3) := by decide +kernel
theorem d_B_become_32 : decode prog_3_method_3_code 32 = .ok (.aload_n 0, 1) := by decide +kernel
theorem d_B_become_33 : decode prog_3_method_3_code 33 = .ok (.aload_n 1, 1) := by decide +kernel
theorem d_B_become_34 : decode prog_3_method_3_code 34 = .ok (.getfield 46, 3) := by decide +kernel
theorem d_B_become_37 : decode prog_3_method_3_code 37 = .ok (.putfield 46, 3) := by decide +kernel
theorem d_B_become_40 : decode prog_3_method_3_code 40 = .ok (.aload_n 0, 1) := by decide +kernel
theorem d_B_become_41 : decode prog_3_method_3_code 41 = .ok (.aload_n 1, 1) := by decide +kernel
theorem d_B_become_42 : decode prog_3_method_3_code 42 = .ok (.getfield 21, 3) := by decide +kernel
theorem d_B_become_45 : decode prog_3_method_3_code 45 = .ok (.putfield 21, 3) := by decide +kernel
theorem d_B_become_48 : decode prog_3_method_3_code 48 = .ok (.aload_n 0, 1) := by decide +kernel
theorem d_B_become_49 : decode prog_3_method_3_code 49 = .ok (.aload_n 1, 1) := by decide +kernel
theorem d_B_become_50 : decode prog_3_method_3_code 50 = .ok (.getfield 25, 3) := by decide +kernel
theorem d_B_become_53 : decode prog_3_method_3_code 53 = .ok (.putfield 25, 3) := by decide +kernel
theorem d_B_become_56 : decode prog_3_method_3_code 56 = .ok (.aload_n 0, 1) := by decide +kernel
theorem d_B_become_57 : decode prog_3_method_3_code 57 = .ok (.aload_n 1, 1) := by decide +kernel
theorem d_B_become_58 : decode prog_3_method_3_code 58 = .ok (.getfield 28, 3) := by decide +kernel
theorem d_B_become_61 : decode prog_3_method_3_code 61 = .ok (.putfield 28, 3) := by decide +kernel
theorem d_B_become_64 : decode prog_3_method_3_code 64 = .ok (.aload_n 0, 1) := by decide +kernel
theorem d_B_become_65 : decode prog_3_method_3_code 65 = .ok (.aload_n 1, 1) := by decide +kernel
theorem d_B_become_66 : decode prog_3_method_3_code 66 = .ok (.getfield 31, 3) := by decide +kernel
theorem d_B_become_69 : decode prog_3_method_3_code 69 = .ok (.putfield 31, 3) := by decide +kernel
theorem d_B_become_72 : decode prog_3_method_3_code 72 = .ok (.iconst 0, 1) := by decide +kernel
theorem d_B_become_73 : decode prog_3_method_3_code 73 = .ok (.istore_n 2, 1) := by decide +kernel
theorem d_B_become_74 : decode prog_3_method_3_code 74 = .ok (.iload_n 2, 1) := by decide +kernel
theorem d_B_become_75 : decode prog_3_method_3_code 75 = .ok (.bipush 24, 2) := by decide +kernel
theorem d_B_become_77 : decode prog_3_method_3_code 77 = .ok (.if_icmp .ge 25, 3) := by decide +kernel
theorem d_B_become_80 : decode prog_3_method_3_code 80 = .ok (.aload_n 0, 1) := by decide +kernel
theorem d_B_become_81 : decode prog_3_method_3_code 81 = .ok (.getfield 9, 3) := by decide +kernel
theorem d_B_become_84 : decode prog_3_method_3_code 84 = .ok (.iload_n 2, 1) := by decide +kernel
theorem d_B_become_85 : decode prog_3_method_3_code 85 = .ok (.aload_n 1, 1) := by decide +kernel
theorem d_B_become_86 : decode prog_3_method_3_code 86 = .ok (.getfield 9, 3) := by decide +kernel
theorem d_B_become_89 : decode prog_3_method_3_code 89 = .ok (.iload_n 2, 1) := by decide +kernel
theorem d_B_become_90 : decode prog_3_method_3_code 90 = .ok (.invokestatic 49, 3) := by decide +kernel
theorem d_B_become_93 : decode prog_3_method_3_code 93 = .ok (.invokestatic 53, 3) := by decide +kernel
theorem d_B_become_96 : decode prog_3_method_3_code 96 = .ok (.iinc 2 1, 3) := by decide +kernel
theorem d_B_become_99 : decode prog_3_method_3_code 99 = .ok (.goto (-25), 3) := by decide +kernel
theorem d_B_become_102 : decode prog_3_method_3_code 102 = .ok (.iconst 0, 1) := by decide +kernel
theorem d_B_become_103 : decode prog_3_method_3_code 103 = .ok (.istore_n 2, 1) := by decide +kernel
theorem d_B_become_104 : decode prog_3_method_3_code 104 = .ok (.iload_n 2, 1) := by decide +kernel
theorem d_B_become_105 : decode prog_3_method_3_code 105 = .ok (.aload_n 0, 1) := by decide +kernel
theorem d_B_become_106 : decode prog_3_method_3_code 106 = .ok (.getfield 17, 3) := by decide +kernel
theorem d_B_become_109 : decode prog_3_method_3_code 109 = .ok (.arraylength, 1) := by decide +kernel
theorem d_B_become_110 : decode prog_3_method_3_code 110 = .ok (.if_icmp .ge 30, 3) := by decide +kernel
theorem d_B_become_113 : decode prog_3_method_3_code 113 = .ok (.iload_n 2, 1) := by decide +kernel
theorem d_B_become_114 : decode prog_3_method_3_code 114 = .ok (.aload_n 1, 1) := by decide +kernel
theorem d_B_become_115 : decode prog_3_method_3_code 115 = .ok (.getfield 17, 3) := by decide +kernel
theorem d_B_become_118 : decode prog_3_method_3_code 118 = .ok (.arraylength, 1) := by decide +kernel
theorem d_B_become_119 : decode prog_3_method_3_code 119 = .ok (.if_icmp .ge 21, 3) := by decide +kernel
theorem d_B_become_122 : decode prog_3_method_3_code 122 = .ok (.aload_n 0, 1) := by decide +kernel
theorem d_B_become_123 : decode prog_3_method_3_code 123 = .ok (.getfield 17, 3) := by decide +kernel
theorem d_B_become_126 : decode prog_3_method_3_code 126 = .ok (.iload_n 2, 1) := by decide +kernel
theorem d_B_become_127 : decode prog_3_method_3_code 127 = .ok (.aload_n 1, 1) := by decide +kernel
theorem d_B_become_128 : decode prog_3_method_3_code 128 = .ok (.getfield 17, 3) := by decide +kernel
theorem d_B_become_131 : decode prog_3_method_3_code 131 = .ok (.iload_n 2, 1) := by decide +kernel
theorem d_B_become_132 : decode prog_3_method_3_code 132 = .ok (.aaload, 1) := by decide +kernel
theorem d_B_become_133 : decode prog_3_method_3_code 133 = .ok (.aastore, 1) := by decide +kernel
theorem d_B_become_134 : decode prog_3_method_3_code 134 = .ok (.iinc 2 1, 3) := by decide +kernel
theorem d_B_become_137 : decode prog_3_method_3_code 137 = .ok (.goto (-33), 3) := by decide +kernel
theorem d_B_become_140 : decode prog_3_method_3_code 140 = .ok (.return_, 1) := by decide +kernel
theorem d_B_addHand_0 : decode prog_3_method_4_code 0 = .ok (.aload_n 0, 1) := by decide +kernel
theorem d_B_addHand_1 : decode prog_3_method_4_code 1 = .ok (.getfield 31, 3) := by decide +kernel
theorem d_B_addHand_4 : decode prog_3_method_4_code 4 = .ok (.aload_n 0, 1) := by decide +kernel
theorem d_B_addHand_5 : decode prog_3_method_4_code 5 = .ok (.getfield 17, 3) := by decide +kernel
theorem d_B_addHand_8 : decode prog_3_method_4_code 8 = .ok (.arraylength, 1) := by decide +kernel
theorem d_B_addHand_9 : decode prog_3_method_4_code 9 = .ok (.invokestatic 57, 3) := by decide +kernel
theorem d_B_addHand_12 : decode prog_3_method_4_code 12 = .ok (.ifCond .eq 23, 3) := by decide +kernel
theorem d_B_addHand_15 : decode prog_3_method_4_code 15 = .ok (.aload_n 0, 1) := by decide +kernel
theorem d_B_addHand_16 : decode prog_3_method_4_code 16 = .ok (.getfield 17, 3) := by decide +kernel
theorem d_B_addHand_19 : decode prog_3_method_4_code 19 = .ok (.aload_n 0, 1) := by decide +kernel
theorem d_B_addHand_20 : decode prog_3_method_4_code 20 = .ok (.getfield 31, 3) := by decide +kernel
theorem d_B_addHand_23 : decode prog_3_method_4_code 23 = .ok (.aload_n 1, 1) := by decide +kernel
theorem d_B_addHand_24 : decode prog_3_method_4_code 24 = .ok (.aastore, 1) := by decide +kernel
theorem d_B_addHand_25 : decode prog_3_method_4_code 25 = .ok (.aload_n 0, 1) := by decide +kernel
theorem d_B_addHand_26 : decode prog_3_method_4_code 26 = .ok (.dup, 1) := by decide +kernel
theorem d_B_addHand_27 : decode prog_3_method_4_code 27 = .ok (.getfield 31, 3) := by decide +kernel
theorem d_B_addHand_30 : decode prog_3_method_4_code 30 = .ok (.iconst 1, 1) := by decide +kernel
theorem d_B_addHand_31 : decode prog_3_method_4_code 31 = .ok (.iadd, 1) := by decide +kernel
theorem d_B_addHand_32 : decode prog_3_method_4_code 32 = .ok (.putfield 31, 3) := by decide +kernel
theorem d_B_addHand_35 : decode prog_3_method_4_code 35 = .ok (.return_, 1) := by decide +kernel
theorem d_B_handAt_0 : decode prog_3_method_5_code 0 = .ok (.iload_n 1, 1) := by decide +kernel
theorem d_B_handAt_1 : decode prog_3_method_5_code 1 = .ok (.aload_n 0, 1) := by decide +kernel
theorem d_B_handAt_2 : decode prog_3_method_5_code 2 = .ok (.getfield 31, 3) := by decide +kernel
theorem d_B_handAt_5 : decode prog_3_method_5_code 5 = .ok (.invokestatic 57, 3) := by decide +kernel
theorem d_B_handAt_8 : decode prog_3_method_5_code 8 = .ok (.ifCond .eq 21, 3) := by decide +kernel
theorem d_B_handAt_11 : decode prog_3_method_5_code 11 = .ok (.iload_n 1, 1) := by decide +kernel
theorem d_B_handAt_12 : decode prog_3_method_5_code 12 = .ok (.aload_n 0, 1) := by decide +kernel
theorem d_B_handAt_13 : decode prog_3_method_5_code 13 = .ok (.getfield 17, 3) := by decide +kernel
theorem d_B_handAt_16 : decode prog_3_method_5_code 16 = .ok (.arraylength, 1) := by decide +kernel
theorem d_B_handAt_17 : decode prog_3_method_5_code 17 = .ok (.if_icmp .ge 12, 3) := by decide +kernel
theorem d_B_handAt_20 : decode prog_3_method_5_code 20 = .ok (.aload_n 0, 1) := by decide +kernel
theorem d_B_handAt_21 : decode prog_3_method_5_code 21 = .ok (.getfield 17, 3) := by decide +kernel
theorem d_B_handAt_24 : decode prog_3_method_5_code 24 = .ok (.iload_n 1, 1) := by decide +kernel
theorem d_B_handAt_25 : decode prog_3_method_5_code 25 = .ok (.aaload, 1) := by decide +kernel
theorem d_B_handAt_26 : decode prog_3_method_5_code 26 = .ok (.goto 4, 3) := by decide +kernel
theorem d_B_handAt_29 : decode prog_3_method_5_code 29 = .ok (.aconst_null, 1) := by decide +kernel
theorem d_B_handAt_30 : decode prog_3_method_5_code 30 = .ok (.areturn, 1) := by decide +kernel
theorem d_B_sinks_0 : decode prog_3_method_6_code 0 = .ok (.aload_n 0, 1) := by decide +kernel
theorem d_B_sinks_1 : decode prog_3_method_6_code 1 = .ok (.getfield 21, 3) := by decide +kernel
theorem d_B_sinks_4 : decode prog_3_method_6_code 4 = .ok (.iconst 1, 1) := by decide +kernel
theorem d_B_sinks_5 : decode prog_3_method_6_code 5 = .ok (.if_icmp .ne 15, 3) := by decide +kernel
theorem d_B_sinks_8 : decode prog_3_method_6_code 8 = .ok (.aload_n 0, 1) := by decide +kernel
theorem d_B_sinks_9 : decode prog_3_method_6_code 9 = .ok (.getfield 37, 3) := by decide +kernel
theorem d_B_sinks_12 : decode prog_3_method_6_code 12 = .ok (.aload_n 0, 1) := by decide +kernel
theorem d_B_sinks_13 : decode prog_3_method_6_code 13 = .ok (.getfield 40, 3) := by decide +kernel
theorem d_B_sinks_16 : decode prog_3_method_6_code 16 = .ok (.iadd, 1) := by decide +kernel
theorem d_B_sinks_17 : decode prog_3_method_6_code 17 = .ok (.goto 7, 3) := by decide +kernel
theorem d_B_sinks_20 : decode prog_3_method_6_code 20 = .ok (.aload_n 0, 1) := by decide +kernel
theorem d_B_sinks_21 : decode prog_3_method_6_code 21 = .ok (.getfield 37, 3) := by decide +kernel
theorem d_B_sinks_24 : decode prog_3_method_6_code 24 = .ok (.ireturn, 1) := by decide +kernel
theorem d_B_isBlown_0 : decode prog_3_method_7_code 0 = .ok (.aload_n 0, 1) := by decide +kernel
theorem d_B_isBlown_1 : decode prog_3_method_7_code 1 = .ok (.getfield 21, 3) := by decide +kernel
theorem d_B_isBlown_4 : decode prog_3_method_7_code 4 = .ok (.ifCond .ne 14, 3) := by decide +kernel
theorem d_B_isBlown_7 : decode prog_3_method_7_code 7 = .ok (.aload_n 0, 1) := by decide +kernel
theorem d_B_isBlown_8 : decode prog_3_method_7_code 8 = .ok (.getfield 34, 3) := by decide +kernel
theorem d_B_isBlown_11 : decode prog_3_method_7_code 11 = .ok (.ifCond .le 7, 3) := by decide +kernel
theorem d_B_isBlown_14 : decode prog_3_method_7_code 14 = .ok (.iconst 1, 1) := by decide +kernel
theorem d_B_isBlown_15 : decode prog_3_method_7_code 15 = .ok (.goto 4, 3) := by decide +kernel
theorem d_B_isBlown_18 : decode prog_3_method_7_code 18 = .ok (.iconst 0, 1) := by decide +kernel
theorem d_B_isBlown_19 : decode prog_3_method_7_code 19 = .ok (.ireturn, 1) := by decide +kernel
theorem d_B_shallowest_0 : decode prog_3_method_8_code 0 = .ok (.aload_n 0, 1) := by decide +kernel
theorem d_B_shallowest_1 : decode prog_3_method_8_code 1 = .ok (.iload_n 1, 1) := by decide +kernel
theorem d_B_shallowest_2 : decode prog_3_method_8_code 2 = .ok (.invokevirtual 61, 3) := by decide +kernel
theorem d_B_shallowest_5 : decode prog_3_method_8_code 5 = .ok (.aload_n 0, 1) := by decide +kernel
theorem d_B_shallowest_6 : decode prog_3_method_8_code 6 = .ok (.iload_n 1, 1) := by decide +kernel
theorem d_B_shallowest_7 : decode prog_3_method_8_code 7 = .ok (.iload_n 2, 1) := by decide +kernel
theorem d_B_shallowest_8 : decode prog_3_method_8_code 8 = .ok (.invokestatic 65, 3) := by decide +kernel
theorem d_B_shallowest_11 : decode prog_3_method_8_code 11 = .ok (.invokevirtual 61, 3) := by decide +kernel
theorem d_B_shallowest_14 : decode prog_3_method_8_code 14 = .ok (.aload_n 0, 1) := by decide +kernel
theorem d_B_shallowest_15 : decode prog_3_method_8_code 15 = .ok (.iload_n 1, 1) := by decide +kernel
theorem d_B_shallowest_16 : decode prog_3_method_8_code 16 = .ok (.iload_n 2, 1) := by decide +kernel
theorem d_B_shallowest_17 : decode prog_3_method_8_code 17 = .ok (.iconst 4, 1) := by decide +kernel
theorem d_B_shallowest_18 : decode prog_3_method_8_code 18 = .ok (.iadd, 1) := by decide +kernel
theorem d_B_shallowest_19 : decode prog_3_method_8_code 19 = .ok (.invokestatic 65, 3) := by decide +kernel
theorem d_B_shallowest_22 : decode prog_3_method_8_code 22 = .ok (.invokevirtual 61, 3) := by decide +kernel
theorem d_B_shallowest_25 : decode prog_3_method_8_code 25 = .ok (.invokestatic 69, 3) := by decide +kernel
theorem d_B_shallowest_28 : decode prog_3_method_8_code 28 = .ok (.invokestatic 69, 3) := by decide +kernel
theorem d_B_shallowest_31 : decode prog_3_method_8_code 31 = .ok (.ireturn, 1) := by decide +kernel
theorem d_B_clearance_0 : decode prog_3_method_9_code 0 = .ok (.iload_n 1, 1) := by decide +kernel
theorem d_B_clearance_1 : decode prog_3_method_9_code 1 = .ok (.ifCond .lt 27, 3) := by decide +kernel
theorem d_B_clearance_4 : decode prog_3_method_9_code 4 = .ok (.iload_n 1, 1) := by decide +kernel
theorem d_B_clearance_5 : decode prog_3_method_9_code 5 = .ok (.aload_n 0, 1) := by decide +kernel
theorem d_B_clearance_6 : decode prog_3_method_9_code 6 = .ok (.getfield 9, 3) := by decide +kernel
theorem d_B_clearance_9 : decode prog_3_method_9_code 9 = .ok (.arraylength, 1) := by decide +kernel
theorem d_B_clearance_10 : decode prog_3_method_9_code 10 = .ok (.if_icmp .ge 18, 3) := by decide +kernel
theorem d_B_clearance_13 : decode prog_3_method_9_code 13 = .ok (.aload_n 0, 1) := by decide +kernel
theorem d_B_clearance_14 : decode prog_3_method_9_code 14 = .ok (.getfield 28, 3) := by decide +kernel
theorem d_B_clearance_17 : decode prog_3_method_9_code 17 = .ok (.iload_n 1, 1) := by decide +kernel
theorem d_B_clearance_18 : decode prog_3_method_9_code 18 = .ok (.ishr, 1) := by decide +kernel
theorem d_B_clearance_19 : decode prog_3_method_9_code 19 = .ok (.iconst 1, 1) := by decide +kernel
theorem d_B_clearance_20 : decode prog_3_method_9_code 20 = .ok (.iand, 1) := by decide +kernel
theorem d_B_clearance_21 : decode prog_3_method_9_code 21 = .ok (.ifCond .ne 7, 3) := by decide +kernel
theorem d_B_clearance_24 : decode prog_3_method_9_code 24 = .ok (.iconst 1, 1) := by decide +kernel
theorem d_B_clearance_25 : decode prog_3_method_9_code 25 = .ok (.goto 4, 3) := by decide +kernel
theorem d_B_clearance_28 : decode prog_3_method_9_code 28 = .ok (.iconst 0, 1) := by decide +kernel
theorem d_B_clearance_29 : decode prog_3_method_9_code 29 = .ok (.istore_n 2, 1) := by decide +kernel
theorem d_B_clearance_30 : decode prog_3_method_9_code 30 = .ok (.iload_n 2, 1) := by decide +kernel
theorem d_B_clearance_31 : decode prog_3_method_9_code 31 = .ok (.ifCond .eq 12, 3) := by decide +kernel
theorem d_B_clearance_34 : decode prog_3_method_9_code 34 = .ok (.aload_n 0, 1) := by decide +kernel
theorem d_B_clearance_35 : decode prog_3_method_9_code 35 = .ok (.getfield 9, 3) := by decide +kernel
theorem d_B_clearance_38 : decode prog_3_method_9_code 38 = .ok (.iload_n 1, 1) := by decide +kernel
theorem d_B_clearance_39 : decode prog_3_method_9_code 39 = .ok (.iaload, 1) := by decide +kernel
theorem d_B_clearance_40 : decode prog_3_method_9_code 40 = .ok (.goto 4, 3) := by decide +kernel
theorem d_B_clearance_43 : decode prog_3_method_9_code 43 = .ok (.iconst (-1), 1) := by decide +kernel
theorem d_B_clearance_44 : decode prog_3_method_9_code 44 = .ok (.ireturn, 1) := by decide +kernel
theorem d_B_fitsNow_0 : decode prog_3_method_10_code 0 = .ok (.aload_n 0, 1) := by decide +kernel
theorem d_B_fitsNow_1 : decode prog_3_method_10_code 1 = .ok (.aload_n 0, 1) := by decide +kernel
theorem d_B_fitsNow_2 : decode prog_3_method_10_code 2 = .ok (.getfield 43, 3) := by decide +kernel
theorem d_B_fitsNow_5 : decode prog_3_method_10_code 5 = .ok (.aload_n 0, 1) := by decide +kernel
theorem d_B_fitsNow_6 : decode prog_3_method_10_code 6 = .ok (.getfield 46, 3) := by decide +kernel
theorem d_B_fitsNow_9 : decode prog_3_method_10_code 9 = .ok (.invokevirtual 74, 3) := by decide +kernel
theorem d_B_fitsNow_12 : decode prog_3_method_10_code 12 = .ok (.aload_n 0, 1) := by decide +kernel
theorem d_B_fitsNow_13 : decode prog_3_method_10_code 13 = .ok (.invokevirtual 77, 3) := by decide +kernel
theorem d_B_fitsNow_16 : decode prog_3_method_10_code 16 = .ok (.if_icmp .lt 7, 3) := by decide +kernel
theorem d_B_fitsNow_19 : decode prog_3_method_10_code 19 = .ok (.iconst 1, 1) := by decide +kernel
theorem d_B_fitsNow_20 : decode prog_3_method_10_code 20 = .ok (.goto 4, 3) := by decide +kernel
theorem d_B_fitsNow_23 : decode prog_3_method_10_code 23 = .ok (.iconst 0, 1) := by decide +kernel
theorem d_B_fitsNow_24 : decode prog_3_method_10_code 24 = .ok (.ireturn, 1) := by decide +kernel
theorem d_B_lies_0 : decode prog_3_method_11_code 0 = .ok (.aload_n 0, 1) := by decide +kernel
theorem d_B_lies_1 : decode prog_3_method_11_code 1 = .ok (.getfield 43, 3) := by decide +kernel
theorem d_B_lies_4 : decode prog_3_method_11_code 4 = .ok (.invokestatic 81, 3) := by decide +kernel
theorem d_B_lies_7 : decode prog_3_method_11_code 7 = .ok (.aload_n 0, 1) := by decide +kernel
theorem d_B_lies_8 : decode prog_3_method_11_code 8 = .ok (.getfield 43, 3) := by decide +kernel
theorem d_B_lies_11 : decode prog_3_method_11_code 11 = .ok (.aload_n 0, 1) := by decide +kernel
theorem d_B_lies_12 : decode prog_3_method_11_code 12 = .ok (.getfield 46, 3) := by decide +kernel
theorem d_B_lies_15 : decode prog_3_method_11_code 15 = .ok (.invokestatic 65, 3) := by decide +kernel
theorem d_B_lies_18 : decode prog_3_method_11_code 18 = .ok (.invokestatic 81, 3) := by decide +kernel
theorem d_B_lies_21 : decode prog_3_method_11_code 21 = .ok (.ior, 1) := by decide +kernel
theorem d_B_lies_22 : decode prog_3_method_11_code 22 = .ok (.aload_n 0, 1) := by decide +kernel
theorem d_B_lies_23 : decode prog_3_method_11_code 23 = .ok (.getfield 43, 3) := by decide +kernel
theorem d_B_lies_26 : decode prog_3_method_11_code 26 = .ok (.aload_n 0, 1) := by decide +kernel
theorem d_B_lies_27 : decode prog_3_method_11_code 27 = .ok (.getfield 46, 3) := by decide +kernel
theorem d_B_lies_30 : decode prog_3_method_11_code 30 = .ok (.iconst 4, 1) := by decide +kernel
theorem d_B_lies_31 : decode prog_3_method_11_code 31 = .ok (.iadd, 1) := by decide +kernel
theorem d_B_lies_32 : decode prog_3_method_11_code 32 = .ok (.invokestatic 65, 3) := by decide +kernel
theorem d_B_lies_35 : decode prog_3_method_11_code 35 = .ok (.invokestatic 81, 3) := by decide +kernel
theorem d_B_lies_38 : decode prog_3_method_11_code 38 = .ok (.ior, 1) := by decide +kernel
theorem d_B_lies_39 : decode prog_3_method_11_code 39 = .ok (.ireturn, 1) := by decide +kernel
theorem d_B_setOf_0 : decode prog_3_method_12_code 0 = .ok (.iload_n 0, 1) := by decide +kernel
theorem d_B_setOf_1 : decode prog_3_method_12_code 1 = .ok (.bipush 24, 2) := by decide +kernel
theorem d_B_setOf_3 : decode prog_3_method_12_code 3 = .ok (.invokestatic 57, 3) := by decide +kernel
theorem d_B_setOf_6 : decode prog_3_method_12_code 6 = .ok (.ifCond .eq 9, 3) := by decide +kernel
theorem d_B_setOf_9 : decode prog_3_method_12_code 9 = .ok (.iconst 1, 1) := by decide +kernel
theorem d_B_setOf_10 : decode prog_3_method_12_code 10 = .ok (.iload_n 0, 1) := by decide +kernel
theorem d_B_setOf_11 : decode prog_3_method_12_code 11 = .ok (.ishl, 1) := by decide +kernel
theorem d_B_setOf_12 : decode prog_3_method_12_code 12 = .ok (.goto 4, 3) := by decide +kernel
theorem d_B_setOf_15 : decode prog_3_method_12_code 15 = .ok (.iconst 0, 1) := by decide +kernel
theorem d_B_setOf_16 : decode prog_3_method_12_code 16 = .ok (.ireturn, 1) := by decide +kernel
theorem d_B_canMake_0 : decode prog_3_method_13_code 0 = .ok (.iconst 0, 1) := by decide +kernel
theorem d_B_canMake_1 : decode prog_3_method_13_code 1 = .ok (.aload_n 0, 1) := by decide +kernel
theorem d_B_canMake_2 : decode prog_3_method_13_code 2 = .ok (.invokevirtual 77, 3) := by decide +kernel
theorem d_B_canMake_5 : decode prog_3_method_13_code 5 = .ok (.aload_n 1, 1) := by decide +kernel
theorem d_B_canMake_6 : decode prog_3_method_13_code 6 = .ok (.invokevirtual 84, 3) := by decide +kernel
theorem d_B_canMake_9 : decode prog_3_method_13_code 9 = .ok (.isub, 1) := by decide +kernel
theorem d_B_canMake_10 : decode prog_3_method_13_code 10 = .ok (.invokestatic 87, 3) := by decide +kernel
theorem d_B_canMake_13 : decode prog_3_method_13_code 13 = .ok (.istore_n 3, 1) := by decide +kernel
theorem d_B_canMake_14 : decode prog_3_method_13_code 14 = .ok (.aload_n 1, 1) := by decide +kernel
theorem d_B_canMake_15 : decode prog_3_method_13_code 15 = .ok (.iload_n 2, 1) := by decide +kernel
theorem d_B_canMake_16 : decode prog_3_method_13_code 16 = .ok (.invokevirtual 90, 3) := by decide +kernel
theorem d_B_canMake_19 : decode prog_3_method_13_code 19 = .ok (.ldc 93, 2) := by decide +kernel
theorem d_B_canMake_21 : decode prog_3_method_13_code 21 = .ok (.if_icmp .eq 35, 3) := by decide +kernel
theorem d_B_canMake_24 : decode prog_3_method_13_code 24 = .ok (.aload_n 0, 1) := by decide +kernel
theorem d_B_canMake_25 : decode prog_3_method_13_code 25 = .ok (.aload_n 0, 1) := by decide +kernel
theorem d_B_canMake_26 : decode prog_3_method_13_code 26 = .ok (.getfield 43, 3) := by decide +kernel
theorem d_B_canMake_29 : decode prog_3_method_13_code 29 = .ok (.aload_n 0, 1) := by decide +kernel
theorem d_B_canMake_30 : decode prog_3_method_13_code 30 = .ok (.getfield 46, 3) := by decide +kernel
theorem d_B_canMake_33 : decode prog_3_method_13_code 33 = .ok (.iload_n 2, 1) := by decide +kernel
theorem d_B_canMake_34 : decode prog_3_method_13_code 34 = .ok (.invokestatic 94, 3) := by decide +kernel
theorem d_B_canMake_37 : decode prog_3_method_13_code 37 = .ok (.aload_n 0, 1) := by decide +kernel
theorem d_B_canMake_38 : decode prog_3_method_13_code 38 = .ok (.getfield 46, 3) := by decide +kernel
theorem d_B_canMake_41 : decode prog_3_method_13_code 41 = .ok (.iload_n 2, 1) := by decide +kernel
theorem d_B_canMake_42 : decode prog_3_method_13_code 42 = .ok (.invokestatic 98, 3) := by decide +kernel
theorem d_B_canMake_45 : decode prog_3_method_13_code 45 = .ok (.invokevirtual 74, 3) := by decide +kernel
theorem d_B_canMake_48 : decode prog_3_method_13_code 48 = .ok (.iload_n 3, 1) := by decide +kernel
theorem d_B_canMake_49 : decode prog_3_method_13_code 49 = .ok (.if_icmp .lt 7, 3) := by decide +kernel
theorem d_B_canMake_52 : decode prog_3_method_13_code 52 = .ok (.iconst 1, 1) := by decide +kernel
theorem d_B_canMake_53 : decode prog_3_method_13_code 53 = .ok (.goto 4, 3) := by decide +kernel
theorem d_B_canMake_56 : decode prog_3_method_13_code 56 = .ok (.iconst 0, 1) := by decide +kernel
theorem d_B_canMake_57 : decode prog_3_method_13_code 57 = .ok (.ireturn, 1) := by decide +kernel
theorem d_B_make_0 : decode prog_3_method_14_code 0 = .ok (.aload_n 0, 1) := by decide +kernel
theorem d_B_make_1 : decode prog_3_method_14_code 1 = .ok (.aload_n 0, 1) := by decide +kernel
theorem d_B_make_2 : decode prog_3_method_14_code 2 = .ok (.getfield 43, 3) := by decide +kernel
theorem d_B_make_5 : decode prog_3_method_14_code 5 = .ok (.aload_n 0, 1) := by decide +kernel
theorem d_B_make_6 : decode prog_3_method_14_code 6 = .ok (.getfield 46, 3) := by decide +kernel
theorem d_B_make_9 : decode prog_3_method_14_code 9 = .ok (.iload_n 1, 1) := by decide +kernel
theorem d_B_make_10 : decode prog_3_method_14_code 10 = .ok (.invokestatic 94, 3) := by decide +kernel
theorem d_B_make_13 : decode prog_3_method_14_code 13 = .ok (.putfield 43, 3) := by decide +kernel
theorem d_B_make_16 : decode prog_3_method_14_code 16 = .ok (.aload_n 0, 1) := by decide +kernel
theorem d_B_make_17 : decode prog_3_method_14_code 17 = .ok (.aload_n 0, 1) := by decide +kernel
theorem d_B_make_18 : decode prog_3_method_14_code 18 = .ok (.getfield 46, 3) := by decide +kernel
theorem d_B_make_21 : decode prog_3_method_14_code 21 = .ok (.iload_n 1, 1) := by decide +kernel
theorem d_B_make_22 : decode prog_3_method_14_code 22 = .ok (.invokestatic 98, 3) := by decide +kernel
theorem d_B_make_25 : decode prog_3_method_14_code 25 = .ok (.putfield 46, 3) := by decide +kernel
theorem d_B_make_28 : decode prog_3_method_14_code 28 = .ok (.aload_n 0, 1) := by decide +kernel
theorem d_B_make_29 : decode prog_3_method_14_code 29 = .ok (.dup, 1) := by decide +kernel
theorem d_B_make_30 : decode prog_3_method_14_code 30 = .ok (.getfield 25, 3) := by decide +kernel
theorem d_B_make_33 : decode prog_3_method_14_code 33 = .ok (.iconst 1, 1) := by decide +kernel
theorem d_B_make_34 : decode prog_3_method_14_code 34 = .ok (.iadd, 1) := by decide +kernel
theorem d_B_make_35 : decode prog_3_method_14_code 35 = .ok (.putfield 25, 3) := by decide +kernel
theorem d_B_make_38 : decode prog_3_method_14_code 38 = .ok (.aload_n 0, 1) := by decide +kernel
theorem d_B_make_39 : decode prog_3_method_14_code 39 = .ok (.getfield 25, 3) := by decide +kernel
theorem d_B_make_42 : decode prog_3_method_14_code 42 = .ok (.iconst 3, 1) := by decide +kernel
theorem d_B_make_43 : decode prog_3_method_14_code 43 = .ok (.irem, 1) := by decide +kernel
theorem d_B_make_44 : decode prog_3_method_14_code 44 = .ok (.ifCond .ne 52, 3) := by decide +kernel
theorem d_B_make_47 : decode prog_3_method_14_code 47 = .ok (.aload_n 0, 1) := by decide +kernel
theorem d_B_make_48 : decode prog_3_method_14_code 48 = .ok (.invokevirtual 101, 3) := by decide +kernel
theorem d_B_make_51 : decode prog_3_method_14_code 51 = .ok (.ifCond .eq 45, 3) := by decide +kernel
theorem d_B_make_54 : decode prog_3_method_14_code 54 = .ok (.aload_n 0, 1) := by decide +kernel
theorem d_B_make_55 : decode prog_3_method_14_code 55 = .ok (.getfield 43, 3) := by decide +kernel
theorem d_B_make_58 : decode prog_3_method_14_code 58 = .ok (.aload_n 0, 1) := by decide +kernel
theorem d_B_make_59 : decode prog_3_method_14_code 59 = .ok (.getfield 34, 3) := by decide +kernel
theorem d_B_make_62 : decode prog_3_method_14_code 62 = .ok (.iconst 1, 1) := by decide +kernel
theorem d_B_make_63 : decode prog_3_method_14_code 63 = .ok (.isub, 1) := by decide +kernel
theorem d_B_make_64 : decode prog_3_method_14_code 64 = .ok (.invokestatic 65, 3) := by decide +kernel
theorem d_B_make_67 : decode prog_3_method_14_code 67 = .ok (.istore_n 2, 1) := by decide +kernel
theorem d_B_make_68 : decode prog_3_method_14_code 68 = .ok (.aload_n 0, 1) := by decide +kernel
theorem d_B_make_69 : decode prog_3_method_14_code 69 = .ok (.aload_n 0, 1) := by decide +kernel
theorem d_B_make_70 : decode prog_3_method_14_code 70 = .ok (.iload_n 2, 1) := by decide +kernel
theorem d_B_make_71 : decode prog_3_method_14_code 71 = .ok (.aload_n 0, 1) := by decide +kernel
theorem d_B_make_72 : decode prog_3_method_14_code 72 = .ok (.getfield 46, 3) := by decide +kernel
theorem d_B_make_75 : decode prog_3_method_14_code 75 = .ok (.invokevirtual 74, 3) := by decide +kernel
theorem d_B_make_78 : decode prog_3_method_14_code 78 = .ok (.aload_n 0, 1) := by decide +kernel
theorem d_B_make_79 : decode prog_3_method_14_code 79 = .ok (.invokevirtual 77, 3) := by decide +kernel
theorem d_B_make_82 : decode prog_3_method_14_code 82 = .ok (.if_icmp .lt 7, 3) := by decide +kernel
theorem d_B_make_85 : decode prog_3_method_14_code 85 = .ok (.iload_n 2, 1) := by decide +kernel
theorem d_B_make_86 : decode prog_3_method_14_code 86 = .ok (.goto 7, 3) := by decide +kernel
theorem d_B_make_89 : decode prog_3_method_14_code 89 = .ok (.aload_n 0, 1) := by decide +kernel
theorem d_B_make_90 : decode prog_3_method_14_code 90 = .ok (.getfield 43, 3) := by decide +kernel
theorem d_B_make_93 : decode prog_3_method_14_code 93 = .ok (.putfield 43, 3) := by decide +kernel
theorem d_B_make_96 : decode prog_3_method_14_code 96 = .ok (.return_, 1) := by decide +kernel
theorem d_B_siltUp_0 : decode prog_3_method_15_code 0 = .ok (.iconst 0, 1) := by decide +kernel
theorem d_B_siltUp_1 : decode prog_3_method_15_code 1 = .ok (.istore_n 1, 1) := by decide +kernel
theorem d_B_siltUp_2 : decode prog_3_method_15_code 2 = .ok (.iconst 0, 1) := by decide +kernel
theorem d_B_siltUp_3 : decode prog_3_method_15_code 3 = .ok (.istore_n 2, 1) := by decide +kernel
theorem d_B_siltUp_4 : decode prog_3_method_15_code 4 = .ok (.iload_n 2, 1) := by decide +kernel
theorem d_B_siltUp_5 : decode prog_3_method_15_code 5 = .ok (.bipush 24, 2) := by decide +kernel
theorem d_B_siltUp_7 : decode prog_3_method_15_code 7 = .ok (.if_icmp .ge 44, 3) := by decide +kernel
theorem d_B_siltUp_10 : decode prog_3_method_15_code 10 = .ok (.aload_n 0, 1) := by decide +kernel
theorem d_B_siltUp_11 : decode prog_3_method_15_code 11 = .ok (.getfield 9, 3) := by decide +kernel
theorem d_B_siltUp_14 : decode prog_3_method_15_code 14 = .ok (.iload_n 2, 1) := by decide +kernel
theorem d_B_siltUp_15 : decode prog_3_method_15_code 15 = .ok (.invokestatic 49, 3) := by decide +kernel
theorem d_B_siltUp_18 : decode prog_3_method_15_code 18 = .ok (.ifCond .le 27, 3) := by decide +kernel
theorem d_B_siltUp_21 : decode prog_3_method_15_code 21 = .ok (.aload_n 0, 1) := by decide +kernel
theorem d_B_siltUp_22 : decode prog_3_method_15_code 22 = .ok (.getfield 9, 3) := by decide +kernel
theorem d_B_siltUp_25 : decode prog_3_method_15_code 25 = .ok (.iload_n 2, 1) := by decide +kernel
theorem d_B_siltUp_26 : decode prog_3_method_15_code 26 = .ok (.aload_n 0, 1) := by decide +kernel
theorem d_B_siltUp_27 : decode prog_3_method_15_code 27 = .ok (.getfield 9, 3) := by decide +kernel
theorem d_B_siltUp_30 : decode prog_3_method_15_code 30 = .ok (.iload_n 2, 1) := by decide +kernel
theorem d_B_siltUp_31 : decode prog_3_method_15_code 31 = .ok (.invokestatic 49, 3) := by decide +kernel
theorem d_B_siltUp_34 : decode prog_3_method_15_code 34 = .ok (.iconst 1, 1) := by decide +kernel
theorem d_B_siltUp_35 : decode prog_3_method_15_code 35 = .ok (.isub, 1) := by decide +kernel
theorem d_B_siltUp_36 : decode prog_3_method_15_code 36 = .ok (.invokestatic 53, 3) := by decide +kernel
theorem d_B_siltUp_39 : decode prog_3_method_15_code 39 = .ok (.iload_n 1, 1) := by decide +kernel
theorem d_B_siltUp_40 : decode prog_3_method_15_code 40 = .ok (.iconst 1, 1) := by decide +kernel
theorem d_B_siltUp_41 : decode prog_3_method_15_code 41 = .ok (.iload_n 2, 1) := by decide +kernel
theorem d_B_siltUp_42 : decode prog_3_method_15_code 42 = .ok (.ishl, 1) := by decide +kernel
theorem d_B_siltUp_43 : decode prog_3_method_15_code 43 = .ok (.ior, 1) := by decide +kernel
theorem d_B_siltUp_44 : decode prog_3_method_15_code 44 = .ok (.istore_n 1, 1) := by decide +kernel
theorem d_B_siltUp_45 : decode prog_3_method_15_code 45 = .ok (.iinc 2 1, 3) := by decide +kernel
theorem d_B_siltUp_48 : decode prog_3_method_15_code 48 = .ok (.goto (-44), 3) := by decide +kernel
theorem d_B_siltUp_51 : decode prog_3_method_15_code 51 = .ok (.iload_n 1, 1) := by decide +kernel
theorem d_B_siltUp_52 : decode prog_3_method_15_code 52 = .ok (.ireturn, 1) := by decide +kernel
theorem d_H_init_0 : decode prog_4_method_1_code 0 = .ok (.aload_n 0, 1) := by decide +kernel
theorem d_H_init_1 : decode prog_4_method_1_code 1 = .ok (.invokespecial 3, 3) := by decide +kernel
theorem d_H_init_4 : decode prog_4_method_1_code 4 = .ok (.aload_n 0, 1) := by decide +kernel
theorem d_H_init_5 : decode prog_4_method_1_code 5 = .ok (.iload_n 1, 1) := by decide +kernel
theorem d_H_init_6 : decode prog_4_method_1_code 6 = .ok (.putfield 9, 3) := by decide +kernel
theorem d_H_init_9 : decode prog_4_method_1_code 9 = .ok (.aload_n 0, 1) := by decide +kernel
theorem d_H_init_10 : decode prog_4_method_1_code 10 = .ok (.iload_n 2, 1) := by decide +kernel
theorem d_H_init_11 : decode prog_4_method_1_code 11 = .ok (.putfield 15, 3) := by decide +kernel
theorem d_H_init_14 : decode prog_4_method_1_code 14 = .ok (.aload_n 0, 1) := by decide +kernel
theorem d_H_init_15 : decode prog_4_method_1_code 15 = .ok (.iload_n 3, 1) := by decide +kernel
theorem d_H_init_16 : decode prog_4_method_1_code 16 = .ok (.putfield 18, 3) := by decide +kernel
theorem d_H_init_19 : decode prog_4_method_1_code 19 = .ok (.return_, 1) := by decide +kernel
theorem d_H_minutesFor_0 : decode prog_4_method_3_code 0 = .ok (.iload_n 1, 1) := by decide +kernel
theorem d_H_minutesFor_1 : decode prog_4_method_3_code 1 = .ok (.ifCond .lt 28, 3) := by decide +kernel
theorem d_H_minutesFor_4 : decode prog_4_method_3_code 4 = .ok (.iload_n 1, 1) := by decide +kernel
theorem d_H_minutesFor_5 : decode prog_4_method_3_code 5 = .ok (.bipush 8, 2) := by decide +kernel
theorem d_H_minutesFor_7 : decode prog_4_method_3_code 7 = .ok (.if_icmp .ge 22, 3) := by decide +kernel
theorem d_H_minutesFor_10 : decode prog_4_method_3_code 10 = .ok (.aload_n 0, 1) := by decide +kernel
theorem d_H_minutesFor_11 : decode prog_4_method_3_code 11 = .ok (.getfield 18, 3) := by decide +kernel
theorem d_H_minutesFor_14 : decode prog_4_method_3_code 14 = .ok (.iload_n 1, 1) := by decide +kernel
theorem d_H_minutesFor_15 : decode prog_4_method_3_code 15 = .ok (.ishr, 1) := by decide +kernel
theorem d_H_minutesFor_16 : decode prog_4_method_3_code 16 = .ok (.iconst 1, 1) := by decide +kernel
theorem d_H_minutesFor_17 : decode prog_4_method_3_code 17 = .ok (.iand, 1) := by decide +kernel
theorem d_H_minutesFor_18 : decode prog_4_method_3_code 18 = .ok (.iconst 1, 1) := by decide +kernel
theorem d_H_minutesFor_19 : decode prog_4_method_3_code 19 = .ok (.if_icmp .ne 10, 3) := by decide +kernel
theorem d_H_minutesFor_22 : decode prog_4_method_3_code 22 = .ok (.aload_n 0, 1) := by decide +kernel
theorem d_H_minutesFor_23 : decode prog_4_method_3_code 23 = .ok (.getfield 15, 3) := by decide +kernel
theorem d_H_minutesFor_26 : decode prog_4_method_3_code 26 = .ok (.goto 5, 3) := by decide +kernel
theorem d_H_minutesFor_29 : decode prog_4_method_3_code 29 = .ok (.ldc 21, 2) := by decide +kernel
theorem d_H_minutesFor_31 : decode prog_4_method_3_code 31 = .ok (.ireturn, 1) := by decide +kernel
theorem d_H_lift_0 : decode prog_4_method_4_code 0 = .ok (.iconst 0, 1) := by decide +kernel
theorem d_H_lift_1 : decode prog_4_method_4_code 1 = .ok (.ireturn, 1) := by decide +kernel
theorem d_H_size_0 : decode prog_4_method_5_code 0 = .ok (.aload_n 1, 1) := by decide +kernel
theorem d_H_size_1 : decode prog_4_method_5_code 1 = .ok (.bipush 10, 2) := by decide +kernel
theorem d_H_size_3 : decode prog_4_method_5_code 3 = .ok (.invokestatic 22, 3) := by decide +kernel
theorem d_H_size_6 : decode prog_4_method_5_code 6 = .ok (.aload_n 0, 1) := by decide +kernel
theorem d_H_size_7 : decode prog_4_method_5_code 7 = .ok (.getfield 15, 3) := by decide +kernel
theorem d_H_size_10 : decode prog_4_method_5_code 10 = .ok (.ireturn, 1) := by decide +kernel
theorem d_H_mark_0 : decode prog_4_method_6_code 0 = .ok (.aload_n 1, 1) := by decide +kernel
theorem d_H_mark_1 : decode prog_4_method_6_code 1 = .ok (.bipush 20, 2) := by decide +kernel
theorem d_H_mark_3 : decode prog_4_method_6_code 3 = .ok (.invokestatic 22, 3) := by decide +kernel
theorem d_H_mark_6 : decode prog_4_method_6_code 6 = .ok (.aload_n 0, 1) := by decide +kernel
theorem d_H_mark_7 : decode prog_4_method_6_code 7 = .ok (.getfield 9, 3) := by decide +kernel
theorem d_H_mark_10 : decode prog_4_method_6_code 10 = .ok (.ireturn, 1) := by decide +kernel
theorem d_H_leave_0 : decode prog_4_method_7_code 0 = .ok (.aload_n 0, 1) := by decide +kernel
theorem d_H_leave_1 : decode prog_4_method_7_code 1 = .ok (.ifnull 10, 3) := by decide +kernel
theorem d_H_leave_4 : decode prog_4_method_7_code 4 = .ok (.aload_n 0, 1) := by decide +kernel
theorem d_H_leave_5 : decode prog_4_method_7_code 5 = .ok (.arraylength, 1) := by decide +kernel
theorem d_H_leave_6 : decode prog_4_method_7_code 6 = .ok (.bipush 16, 2) := by decide +kernel
theorem d_H_leave_8 : decode prog_4_method_7_code 8 = .ok (.if_icmp .gt 4, 3) := by decide +kernel
theorem d_H_leave_11 : decode prog_4_method_7_code 11 = .ok (.return_, 1) := by decide +kernel
theorem d_H_leave_12 : decode prog_4_method_7_code 12 = .ok (.aload_n 0, 1) := by decide +kernel
theorem d_H_leave_13 : decode prog_4_method_7_code 13 = .ok (.iconst 0, 1) := by decide +kernel
theorem d_H_leave_14 : decode prog_4_method_7_code 14 = .ok (.iaload, 1) := by decide +kernel
theorem d_H_leave_15 : decode prog_4_method_7_code 15 = .ok (.istore_n 2, 1) := by decide +kernel
theorem d_H_leave_16 : decode prog_4_method_7_code 16 = .ok (.iload_n 2, 1) := by decide +kernel
theorem d_H_leave_17 : decode prog_4_method_7_code 17 = .ok (.ifCond .lt 21, 3) := by decide +kernel
theorem d_H_leave_20 : decode prog_4_method_7_code 20 = .ok (.iload_n 2, 1) := by decide +kernel
theorem d_H_leave_21 : decode prog_4_method_7_code 21 = .ok (.bipush 16, 2) := by decide +kernel
theorem d_H_leave_23 : decode prog_4_method_7_code 23 = .ok (.if_icmp .ge 15, 3) := by decide +kernel
theorem d_H_leave_26 : decode prog_4_method_7_code 26 = .ok (.aload_n 0, 1) := by decide +kernel
theorem d_H_leave_27 : decode prog_4_method_7_code 27 = .ok (.iload_n 2, 1) := by decide +kernel
theorem d_H_leave_28 : decode prog_4_method_7_code 28 = .ok (.iconst 1, 1) := by decide +kernel
theorem d_H_leave_29 : decode prog_4_method_7_code 29 = .ok (.iadd, 1) := by decide +kernel
theorem d_H_leave_30 : decode prog_4_method_7_code 30 = .ok (.iload_n 1, 1) := by decide +kernel
theorem d_H_leave_31 : decode prog_4_method_7_code 31 = .ok (.iastore, 1) := by decide +kernel
theorem d_H_leave_32 : decode prog_4_method_7_code 32 = .ok (.aload_n 0, 1) := by decide +kernel
theorem d_H_leave_33 : decode prog_4_method_7_code 33 = .ok (.iconst 0, 1) := by decide +kernel
theorem d_H_leave_34 : decode prog_4_method_7_code 34 = .ok (.iload_n 2, 1) := by decide +kernel
theorem d_H_leave_35 : decode prog_4_method_7_code 35 = .ok (.iconst 1, 1) := by decide +kernel
theorem d_H_leave_36 : decode prog_4_method_7_code 36 = .ok (.iadd, 1) := by decide +kernel
theorem d_H_leave_37 : decode prog_4_method_7_code 37 = .ok (.iastore, 1) := by decide +kernel
theorem d_H_leave_38 : decode prog_4_method_7_code 38 = .ok (.return_, 1) := by decide +kernel
theorem d_Lf_init_0 : decode prog_5_method_1_code 0 = .ok (.aload_n 0, 1) := by decide +kernel
theorem d_Lf_init_1 : decode prog_5_method_1_code 1 = .ok (.iload_n 1, 1) := by decide +kernel
theorem d_Lf_init_2 : decode prog_5_method_1_code 2 = .ok (.iload_n 2, 1) := by decide +kernel
theorem d_Lf_init_3 : decode prog_5_method_1_code 3 = .ok (.invokespecial 1, 3) := by decide +kernel
theorem d_Lf_init_6 : decode prog_5_method_1_code 6 = .ok (.return_, 1) := by decide +kernel
theorem d_Lf_sort_0 : decode prog_5_method_2_code 0 = .ok (.iconst 5, 1) := by decide +kernel
theorem d_Lf_sort_1 : decode prog_5_method_2_code 1 = .ok (.ireturn, 1) := by decide +kernel
theorem d_Lf_lift_0 : decode prog_5_method_3_code 0 = .ok (.iconst 1, 1) := by decide +kernel
theorem d_Lf_lift_1 : decode prog_5_method_3_code 1 = .ok (.ireturn, 1) := by decide +kernel
theorem d_Lf_size_0 : decode prog_5_method_4_code 0 = .ok (.aload_n 1, 1) := by decide +kernel
theorem d_Lf_size_1 : decode prog_5_method_4_code 1 = .ok (.bipush 14, 2) := by decide +kernel
theorem d_Lf_size_3 : decode prog_5_method_4_code 3 = .ok (.invokestatic 7, 3) := by decide +kernel
theorem d_Lf_size_6 : decode prog_5_method_4_code 6 = .ok (.iconst 2, 1) := by decide +kernel
theorem d_Lf_size_7 : decode prog_5_method_4_code 7 = .ok (.aload_n 0, 1) := by decide +kernel
theorem d_Lf_size_8 : decode prog_5_method_4_code 8 = .ok (.aload_n 1, 1) := by decide +kernel
theorem d_Lf_size_9 : decode prog_5_method_4_code 9 = .ok (.iload_n 2, 1) := by decide +kernel
theorem d_Lf_size_10 : decode prog_5_method_4_code 10 = .ok (.invokespecial 13, 3) := by decide +kernel
theorem d_Lf_size_13 : decode prog_5_method_4_code 13 = .ok (.imul, 1) := by decide +kernel
theorem d_Lf_size_14 : decode prog_5_method_4_code 14 = .ok (.ireturn, 1) := by decide +kernel
theorem d_Po_init_0 : decode prog_6_method_1_code 0 = .ok (.aload_n 0, 1) := by decide +kernel
theorem d_Po_init_1 : decode prog_6_method_1_code 1 = .ok (.iload_n 1, 1) := by decide +kernel
theorem d_Po_init_2 : decode prog_6_method_1_code 2 = .ok (.iload_n 2, 1) := by decide +kernel
theorem d_Po_init_3 : decode prog_6_method_1_code 3 = .ok (.bipush 15, 2) := by decide +kernel
theorem d_Po_init_5 : decode prog_6_method_1_code 5 = .ok (.invokespecial 3, 3) := by decide +kernel
theorem d_Po_init_8 : decode prog_6_method_1_code 8 = .ok (.return_, 1) := by decide +kernel
theorem d_Po_sort_0 : decode prog_6_method_2_code 0 = .ok (.iconst 2, 1) := by decide +kernel
theorem d_Po_sort_1 : decode prog_6_method_2_code 1 = .ok (.ireturn, 1) := by decide +kernel
theorem d_Po_size_0 : decode prog_6_method_3_code 0 = .ok (.aload_n 1, 1) := by decide +kernel
theorem d_Po_size_1 : decode prog_6_method_3_code 1 = .ok (.bipush 12, 2) := by decide +kernel
theorem d_Po_size_3 : decode prog_6_method_3_code 3 = .ok (.invokestatic 9, 3) := by decide +kernel
theorem d_Po_size_6 : decode prog_6_method_3_code 6 = .ok (.aload_n 0, 1) := by decide +kernel
theorem d_Po_size_7 : decode prog_6_method_3_code 7 = .ok (.aload_n 1, 1) := by decide +kernel
theorem d_Po_size_8 : decode prog_6_method_3_code 8 = .ok (.iload_n 2, 1) := by decide +kernel
theorem d_Po_size_9 : decode prog_6_method_3_code 9 = .ok (.invokespecial 15, 3) := by decide +kernel
theorem d_Po_size_12 : decode prog_6_method_3_code 12 = .ok (.ineg, 1) := by decide +kernel
theorem d_Po_size_13 : decode prog_6_method_3_code 13 = .ok (.ireturn, 1) := by decide +kernel
theorem d_Po_mark_0 : decode prog_6_method_4_code 0 = .ok (.aload_n 1, 1) := by decide +kernel
theorem d_Po_mark_1 : decode prog_6_method_4_code 1 = .ok (.bipush 24, 2) := by decide +kernel
theorem d_Po_mark_3 : decode prog_6_method_4_code 3 = .ok (.invokestatic 9, 3) := by decide +kernel
theorem d_Po_mark_6 : decode prog_6_method_4_code 6 = .ok (.iconst 2, 1) := by decide +kernel
theorem d_Po_mark_7 : decode prog_6_method_4_code 7 = .ok (.aload_n 0, 1) := by decide +kernel
theorem d_Po_mark_8 : decode prog_6_method_4_code 8 = .ok (.aload_n 1, 1) := by decide +kernel
theorem d_Po_mark_9 : decode prog_6_method_4_code 9 = .ok (.iload_n 2, 1) := by decide +kernel
theorem d_Po_mark_10 : decode prog_6_method_4_code 10 = .ok (.invokespecial 19, 3) := by decide +kernel
theorem d_Po_mark_13 : decode prog_6_method_4_code 13 = .ok (.imul, 1) := by decide +kernel
theorem d_Po_mark_14 : decode prog_6_method_4_code 14 = .ok (.ireturn, 1) := by decide +kernel
theorem d_Ro_init_0 : decode prog_7_method_1_code 0 = .ok (.aload_n 0, 1) := by decide +kernel
theorem d_Ro_init_1 : decode prog_7_method_1_code 1 = .ok (.iload_n 1, 1) := by decide +kernel
theorem d_Ro_init_2 : decode prog_7_method_1_code 2 = .ok (.iload_n 2, 1) := by decide +kernel
theorem d_Ro_init_3 : decode prog_7_method_1_code 3 = .ok (.bipush 51, 2) := by decide +kernel
theorem d_Ro_init_5 : decode prog_7_method_1_code 5 = .ok (.invokespecial 3, 3) := by decide +kernel
theorem d_Ro_init_8 : decode prog_7_method_1_code 8 = .ok (.return_, 1) := by decide +kernel
theorem d_Ro_sort_0 : decode prog_7_method_2_code 0 = .ok (.iconst 3, 1) := by decide +kernel
theorem d_Ro_sort_1 : decode prog_7_method_2_code 1 = .ok (.ireturn, 1) := by decide +kernel
theorem d_Ro_minutesFor_0 : decode prog_7_method_3_code 0 = .ok (.aload_n 0, 1) := by decide +kernel
theorem d_Ro_minutesFor_1 : decode prog_7_method_3_code 1 = .ok (.iload_n 1, 1) := by decide +kernel
theorem d_Ro_minutesFor_2 : decode prog_7_method_3_code 2 = .ok (.invokespecial 9, 3) := by decide +kernel
theorem d_Ro_minutesFor_5 : decode prog_7_method_3_code 5 = .ok (.istore_n 2, 1) := by decide +kernel
theorem d_Ro_minutesFor_6 : decode prog_7_method_3_code 6 = .ok (.iload_n 1, 1) := by decide +kernel
theorem d_Ro_minutesFor_7 : decode prog_7_method_3_code 7 = .ok (.iconst 4, 1) := by decide +kernel
theorem d_Ro_minutesFor_8 : decode prog_7_method_3_code 8 = .ok (.if_icmp .eq 8, 3) := by decide +kernel
theorem d_Ro_minutesFor_11 : decode prog_7_method_3_code 11 = .ok (.iload_n 1, 1) := by decide +kernel
theorem d_Ro_minutesFor_12 : decode prog_7_method_3_code 12 = .ok (.iconst 5, 1) := by decide +kernel
theorem d_Ro_minutesFor_13 : decode prog_7_method_3_code 13 = .ok (.if_icmp .ne 13, 3) := by decide +kernel
theorem d_Ro_minutesFor_16 : decode prog_7_method_3_code 16 = .ok (.iconst 1, 1) := by decide +kernel
theorem d_Ro_minutesFor_17 : decode prog_7_method_3_code 17 = .ok (.iload_n 2, 1) := by decide +kernel
theorem d_Ro_minutesFor_18 : decode prog_7_method_3_code 18 = .ok (.iconst 2, 1) := by decide +kernel
theorem d_Ro_minutesFor_19 : decode prog_7_method_3_code 19 = .ok (.idiv, 1) := by decide +kernel
theorem d_Ro_minutesFor_20 : decode prog_7_method_3_code 20 = .ok (.invokestatic 13, 3) := by decide +kernel
theorem d_Ro_minutesFor_23 : decode prog_7_method_3_code 23 = .ok (.goto 4, 3) := by decide +kernel
theorem d_Ro_minutesFor_26 : decode prog_7_method_3_code 26 = .ok (.iload_n 2, 1) := by decide +kernel
theorem d_Ro_minutesFor_27 : decode prog_7_method_3_code 27 = .ok (.ireturn, 1) := by decide +kernel
theorem d_Ro_mark_0 : decode prog_7_method_4_code 0 = .ok (.aload_n 1, 1) := by decide +kernel
theorem d_Ro_mark_1 : decode prog_7_method_4_code 1 = .ok (.bipush 22, 2) := by decide +kernel
theorem d_Ro_mark_3 : decode prog_7_method_4_code 3 = .ok (.invokestatic 19, 3) := by decide +kernel
theorem d_Ro_mark_6 : decode prog_7_method_4_code 6 = .ok (.aload_n 0, 1) := by decide +kernel
theorem d_Ro_mark_7 : decode prog_7_method_4_code 7 = .ok (.aload_n 1, 1) := by decide +kernel
theorem d_Ro_mark_8 : decode prog_7_method_4_code 8 = .ok (.iload_n 2, 1) := by decide +kernel
theorem d_Ro_mark_9 : decode prog_7_method_4_code 9 = .ok (.invokespecial 25, 3) := by decide +kernel
theorem d_Ro_mark_12 : decode prog_7_method_4_code 12 = .ok (.sipush 1000, 3) := by decide +kernel
theorem d_Ro_mark_15 : decode prog_7_method_4_code 15 = .ok (.isub, 1) := by decide +kernel
theorem d_Ro_mark_16 : decode prog_7_method_4_code 16 = .ok (.ireturn, 1) := by decide +kernel
theorem d_Rw_init_0 : decode prog_8_method_1_code 0 = .ok (.aload_n 0, 1) := by decide +kernel
theorem d_Rw_init_1 : decode prog_8_method_1_code 1 = .ok (.invokespecial 3, 3) := by decide +kernel
theorem d_Rw_init_4 : decode prog_8_method_1_code 4 = .ok (.aload_n 0, 1) := by decide +kernel
theorem d_Rw_init_5 : decode prog_8_method_1_code 5 = .ok (.sipush 320, 3) := by decide +kernel
theorem d_Rw_init_8 : decode prog_8_method_1_code 8 = .ok (.newarray .int, 2) := by decide +kernel
theorem d_Rw_init_10 : decode prog_8_method_1_code 10 = .ok (.putfield 9, 3) := by decide +kernel
theorem d_Rw_init_13 : decode prog_8_method_1_code 13 = .ok (.aload_n 0, 1) := by decide +kernel
theorem d_Rw_init_14 : decode prog_8_method_1_code 14 = .ok (.bipush 8, 2) := by decide +kernel
theorem d_Rw_init_16 : decode prog_8_method_1_code 16 = .ok (.newarray .int, 2) := by decide +kernel
theorem d_Rw_init_18 : decode prog_8_method_1_code 18 = .ok (.putfield 15, 3) := by decide +kernel
theorem d_Rw_init_21 : decode prog_8_method_1_code 21 = .ok (.aload_n 0, 1) := by decide +kernel
theorem d_Rw_init_22 : decode prog_8_method_1_code 22 = .ok (.bipush 8, 2) := by decide +kernel
theorem d_Rw_init_24 : decode prog_8_method_1_code 24 = .ok (.newarray .int, 2) := by decide +kernel
theorem d_Rw_init_26 : decode prog_8_method_1_code 26 = .ok (.putfield 18, 3) := by decide +kernel
theorem d_Rw_init_29 : decode prog_8_method_1_code 29 = .ok (.aload_n 0, 1) := by decide +kernel
theorem d_Rw_init_30 : decode prog_8_method_1_code 30 = .ok (.getfield 15, 3) := by decide +kernel
theorem d_Rw_init_33 : decode prog_8_method_1_code 33 = .ok (.iconst (-1), 1) := by decide +kernel
theorem d_Rw_init_34 : decode prog_8_method_1_code 34 = .ok (.invokestatic 21, 3) := by decide +kernel
theorem d_Rw_init_37 : decode prog_8_method_1_code 37 = .ok (.return_, 1) := by decide +kernel
theorem d_Rw_isMissing_0 : decode prog_8_method_2_code 0 = .ok (.iload_n 1, 1) := by decide +kernel
theorem d_Rw_isMissing_1 : decode prog_8_method_2_code 1 = .ok (.invokestatic 27, 3) := by decide +kernel
theorem d_Rw_isMissing_4 : decode prog_8_method_2_code 4 = .ok (.ifCond .eq 15, 3) := by decide +kernel
theorem d_Rw_isMissing_7 : decode prog_8_method_2_code 7 = .ok (.aload_n 0, 1) := by decide +kernel
theorem d_Rw_isMissing_8 : decode prog_8_method_2_code 8 = .ok (.getfield 15, 3) := by decide +kernel
theorem d_Rw_isMissing_11 : decode prog_8_method_2_code 11 = .ok (.iload_n 1, 1) := by decide +kernel
theorem d_Rw_isMissing_12 : decode prog_8_method_2_code 12 = .ok (.invokestatic 31, 3) := by decide +kernel
theorem d_Rw_isMissing_15 : decode prog_8_method_2_code 15 = .ok (.iconst (-1), 1) := by decide +kernel
theorem d_Rw_isMissing_16 : decode prog_8_method_2_code 16 = .ok (.if_icmp .ne 7, 3) := by decide +kernel
theorem d_Rw_isMissing_19 : decode prog_8_method_2_code 19 = .ok (.iconst 1, 1) := by decide +kernel
theorem d_Rw_isMissing_20 : decode prog_8_method_2_code 20 = .ok (.goto 4, 3) := by decide +kernel
theorem d_Rw_isMissing_23 : decode prog_8_method_2_code 23 = .ok (.iconst 0, 1) := by decide +kernel
theorem d_Rw_isMissing_24 : decode prog_8_method_2_code 24 = .ok (.ireturn, 1) := by decide +kernel
theorem d_Rw_areAlike_0 : decode prog_8_method_3_code 0 = .ok (.aload_n 0, 1) := by decide +kernel
theorem d_Rw_areAlike_1 : decode prog_8_method_3_code 1 = .ok (.getfield 15, 3) := by decide +kernel
theorem d_Rw_areAlike_4 : decode prog_8_method_3_code 4 = .ok (.iload_n 1, 1) := by decide +kernel
theorem d_Rw_areAlike_5 : decode prog_8_method_3_code 5 = .ok (.invokestatic 31, 3) := by decide +kernel
theorem d_Rw_areAlike_8 : decode prog_8_method_3_code 8 = .ok (.aload_n 0, 1) := by decide +kernel
theorem d_Rw_areAlike_9 : decode prog_8_method_3_code 9 = .ok (.getfield 15, 3) := by decide +kernel
theorem d_Rw_areAlike_12 : decode prog_8_method_3_code 12 = .ok (.iload_n 2, 1) := by decide +kernel
theorem d_Rw_areAlike_13 : decode prog_8_method_3_code 13 = .ok (.invokestatic 31, 3) := by decide +kernel
theorem d_Rw_areAlike_16 : decode prog_8_method_3_code 16 = .ok (.if_icmp .ne 7, 3) := by decide +kernel
theorem d_Rw_areAlike_19 : decode prog_8_method_3_code 19 = .ok (.iconst 1, 1) := by decide +kernel
theorem d_Rw_areAlike_20 : decode prog_8_method_3_code 20 = .ok (.goto 4, 3) := by decide +kernel
theorem d_Rw_areAlike_23 : decode prog_8_method_3_code 23 = .ok (.iconst 0, 1) := by decide +kernel
theorem d_Rw_areAlike_24 : decode prog_8_method_3_code 24 = .ok (.ireturn, 1) := by decide +kernel
theorem d_Rw_holds_0 : decode prog_8_method_4_code 0 = .ok (.iload_n 2, 1) := by decide +kernel
theorem d_Rw_holds_1 : decode prog_8_method_4_code 1 = .ok (.ifCond .lt 37, 3) := by decide +kernel
theorem d_Rw_holds_4 : decode prog_8_method_4_code 4 = .ok (.iload_n 3, 1) := by decide +kernel
theorem d_Rw_holds_5 : decode prog_8_method_4_code 5 = .ok (.ifCond .lt 33, 3) := by decide +kernel
theorem d_Rw_holds_8 : decode prog_8_method_4_code 8 = .ok (.iload_n 3, 1) := by decide +kernel
theorem d_Rw_holds_9 : decode prog_8_method_4_code 9 = .ok (.aload_n 0, 1) := by decide +kernel
theorem d_Rw_holds_10 : decode prog_8_method_4_code 10 = .ok (.getfield 18, 3) := by decide +kernel
theorem d_Rw_holds_13 : decode prog_8_method_4_code 13 = .ok (.iload_n 1, 1) := by decide +kernel
theorem d_Rw_holds_14 : decode prog_8_method_4_code 14 = .ok (.invokestatic 31, 3) := by decide +kernel
theorem d_Rw_holds_17 : decode prog_8_method_4_code 17 = .ok (.if_icmp .gt 21, 3) := by decide +kernel
theorem d_Rw_holds_20 : decode prog_8_method_4_code 20 = .ok (.iload_n 2, 1) := by decide +kernel
theorem d_Rw_holds_21 : decode prog_8_method_4_code 21 = .ok (.aload_n 0, 1) := by decide +kernel
theorem d_Rw_holds_22 : decode prog_8_method_4_code 22 = .ok (.getfield 18, 3) := by decide +kernel
theorem d_Rw_holds_25 : decode prog_8_method_4_code 25 = .ok (.iload_n 1, 1) := by decide +kernel
theorem d_Rw_holds_26 : decode prog_8_method_4_code 26 = .ok (.invokestatic 31, 3) := by decide +kernel
theorem d_Rw_holds_29 : decode prog_8_method_4_code 29 = .ok (.iload_n 3, 1) := by decide +kernel
theorem d_Rw_holds_30 : decode prog_8_method_4_code 30 = .ok (.isub, 1) := by decide +kernel
theorem d_Rw_holds_31 : decode prog_8_method_4_code 31 = .ok (.if_icmp .gt 7, 3) := by decide +kernel
theorem d_Rw_holds_34 : decode prog_8_method_4_code 34 = .ok (.iconst 1, 1) := by decide +kernel
theorem d_Rw_holds_35 : decode prog_8_method_4_code 35 = .ok (.goto 4, 3) := by decide +kernel
theorem d_Rw_holds_38 : decode prog_8_method_4_code 38 = .ok (.iconst 0, 1) := by decide +kernel
theorem d_Rw_holds_39 : decode prog_8_method_4_code 39 = .ok (.ireturn, 1) := by decide +kernel
theorem d_Rw_make_0 : decode prog_8_method_5_code 0 = .ok (.aload_n 0, 1) := by decide +kernel
theorem d_Rw_make_1 : decode prog_8_method_5_code 1 = .ok (.getfield 15, 3) := by decide +kernel
theorem d_Rw_make_4 : decode prog_8_method_5_code 4 = .ok (.iload_n 1, 1) := by decide +kernel
theorem d_Rw_make_5 : decode prog_8_method_5_code 5 = .ok (.iload_n 2, 1) := by decide +kernel
theorem d_Rw_make_6 : decode prog_8_method_5_code 6 = .ok (.invokestatic 35, 3) := by decide +kernel
theorem d_Rw_make_9 : decode prog_8_method_5_code 9 = .ok (.aload_n 0, 1) := by decide +kernel
theorem d_Rw_make_10 : decode prog_8_method_5_code 10 = .ok (.getfield 18, 3) := by decide +kernel
theorem d_Rw_make_13 : decode prog_8_method_5_code 13 = .ok (.iload_n 1, 1) := by decide +kernel
theorem d_Rw_make_14 : decode prog_8_method_5_code 14 = .ok (.iload_n 3, 1) := by decide +kernel
theorem d_Rw_make_15 : decode prog_8_method_5_code 15 = .ok (.invokestatic 35, 3) := by decide +kernel
theorem d_Rw_make_18 : decode prog_8_method_5_code 18 = .ok (.iconst 0, 1) := by decide +kernel
theorem d_Rw_make_19 : decode prog_8_method_5_code 19 = .ok (.istore 4, 2) := by decide +kernel
theorem d_Rw_make_21 : decode prog_8_method_5_code 21 = .ok (.iload 4, 2) := by decide +kernel
theorem d_Rw_make_23 : decode prog_8_method_5_code 23 = .ok (.bipush 40, 2) := by decide +kernel
theorem d_Rw_make_25 : decode prog_8_method_5_code 25 = .ok (.if_icmp .ge 24, 3) := by decide +kernel
theorem d_Rw_make_28 : decode prog_8_method_5_code 28 = .ok (.aload_n 0, 1) := by decide +kernel
theorem d_Rw_make_29 : decode prog_8_method_5_code 29 = .ok (.getfield 9, 3) := by decide +kernel
theorem d_Rw_make_32 : decode prog_8_method_5_code 32 = .ok (.iload_n 1, 1) := by decide +kernel
theorem d_Rw_make_33 : decode prog_8_method_5_code 33 = .ok (.bipush 40, 2) := by decide +kernel
theorem d_Rw_make_35 : decode prog_8_method_5_code 35 = .ok (.imul, 1) := by decide +kernel
theorem d_Rw_make_36 : decode prog_8_method_5_code 36 = .ok (.iload 4, 2) := by decide +kernel
theorem d_Rw_make_38 : decode prog_8_method_5_code 38 = .ok (.iadd, 1) := by decide +kernel
theorem d_Rw_make_39 : decode prog_8_method_5_code 39 = .ok (.iconst 0, 1) := by decide +kernel
theorem d_Rw_make_40 : decode prog_8_method_5_code 40 = .ok (.invokestatic 35, 3) := by decide +kernel
theorem d_Rw_make_43 : decode prog_8_method_5_code 43 = .ok (.iinc 4 1, 3) := by decide +kernel
theorem d_Rw_make_46 : decode prog_8_method_5_code 46 = .ok (.goto (-25), 3) := by decide +kernel
theorem d_Rw_make_49 : decode prog_8_method_5_code 49 = .ok (.return_, 1) := by decide +kernel
theorem d_Rw_remove_0 : decode prog_8_method_6_code 0 = .ok (.aload_n 0, 1) := by decide +kernel
theorem d_Rw_remove_1 : decode prog_8_method_6_code 1 = .ok (.getfield 18, 3) := by decide +kernel
theorem d_Rw_remove_4 : decode prog_8_method_6_code 4 = .ok (.iload_n 1, 1) := by decide +kernel
theorem d_Rw_remove_5 : decode prog_8_method_6_code 5 = .ok (.invokestatic 31, 3) := by decide +kernel
theorem d_Rw_remove_8 : decode prog_8_method_6_code 8 = .ok (.istore_n 2, 1) := by decide +kernel
theorem d_Rw_remove_9 : decode prog_8_method_6_code 9 = .ok (.aload_n 0, 1) := by decide +kernel
theorem d_Rw_remove_10 : decode prog_8_method_6_code 10 = .ok (.getfield 15, 3) := by decide +kernel
theorem d_Rw_remove_13 : decode prog_8_method_6_code 13 = .ok (.iload_n 1, 1) := by decide +kernel
theorem d_Rw_remove_14 : decode prog_8_method_6_code 14 = .ok (.iconst (-1), 1) := by decide +kernel
theorem d_Rw_remove_15 : decode prog_8_method_6_code 15 = .ok (.invokestatic 35, 3) := by decide +kernel
theorem d_Rw_remove_18 : decode prog_8_method_6_code 18 = .ok (.aload_n 0, 1) := by decide +kernel
theorem d_Rw_remove_19 : decode prog_8_method_6_code 19 = .ok (.getfield 18, 3) := by decide +kernel
theorem d_Rw_remove_22 : decode prog_8_method_6_code 22 = .ok (.iload_n 1, 1) := by decide +kernel
theorem d_Rw_remove_23 : decode prog_8_method_6_code 23 = .ok (.iconst 0, 1) := by decide +kernel
theorem d_Rw_remove_24 : decode prog_8_method_6_code 24 = .ok (.invokestatic 35, 3) := by decide +kernel
theorem d_Rw_remove_27 : decode prog_8_method_6_code 27 = .ok (.iload_n 2, 1) := by decide +kernel
theorem d_Rw_remove_28 : decode prog_8_method_6_code 28 = .ok (.ireturn, 1) := by decide +kernel
theorem d_Rw_store_0 : decode prog_8_method_7_code 0 = .ok (.aload_n 0, 1) := by decide +kernel
theorem d_Rw_store_1 : decode prog_8_method_7_code 1 = .ok (.getfield 15, 3) := by decide +kernel
theorem d_Rw_store_4 : decode prog_8_method_7_code 4 = .ok (.iload_n 1, 1) := by decide +kernel
theorem d_Rw_store_5 : decode prog_8_method_7_code 5 = .ok (.invokestatic 31, 3) := by decide +kernel
theorem d_Rw_store_8 : decode prog_8_method_7_code 8 = .ok (.istore 4, 2) := by decide +kernel
theorem d_Rw_store_10 : decode prog_8_method_7_code 10 = .ok (.iload 4, 2) := by decide +kernel
theorem d_Rw_store_12 : decode prog_8_method_7_code 12 = .ok (.ifCond .ne 8, 3) := by decide +kernel
theorem d_Rw_store_15 : decode prog_8_method_7_code 15 = .ok (.iload_n 3, 1) := by decide +kernel
theorem d_Rw_store_16 : decode prog_8_method_7_code 16 = .ok (.i2b, 1) := by decide +kernel
theorem d_Rw_store_17 : decode prog_8_method_7_code 17 = .ok (.goto 15, 3) := by decide +kernel
theorem d_Rw_store_20 : decode prog_8_method_7_code 20 = .ok (.iload 4, 2) := by decide +kernel
theorem d_Rw_store_22 : decode prog_8_method_7_code 22 = .ok (.iconst 1, 1) := by decide +kernel
theorem d_Rw_store_23 : decode prog_8_method_7_code 23 = .ok (.if_icmp .ne 8, 3) := by decide +kernel
theorem d_Rw_store_26 : decode prog_8_method_7_code 26 = .ok (.iload_n 3, 1) := by decide +kernel
theorem d_Rw_store_27 : decode prog_8_method_7_code 27 = .ok (.i2s, 1) := by decide +kernel
theorem d_Rw_store_28 : decode prog_8_method_7_code 28 = .ok (.goto 4, 3) := by decide +kernel
theorem d_Rw_store_31 : decode prog_8_method_7_code 31 = .ok (.iload_n 3, 1) := by decide +kernel
theorem d_Rw_store_32 : decode prog_8_method_7_code 32 = .ok (.istore 5, 2) := by decide +kernel
theorem d_Rw_store_34 : decode prog_8_method_7_code 34 = .ok (.aload_n 0, 1) := by decide +kernel
theorem d_Rw_store_35 : decode prog_8_method_7_code 35 = .ok (.getfield 9, 3) := by decide +kernel
theorem d_Rw_store_38 : decode prog_8_method_7_code 38 = .ok (.iload_n 1, 1) := by decide +kernel
theorem d_Rw_store_39 : decode prog_8_method_7_code 39 = .ok (.bipush 40, 2) := by decide +kernel
theorem d_Rw_store_41 : decode prog_8_method_7_code 41 = .ok (.imul, 1) := by decide +kernel
theorem d_Rw_store_42 : decode prog_8_method_7_code 42 = .ok (.iload_n 2, 1) := by decide +kernel
theorem d_Rw_store_43 : decode prog_8_method_7_code 43 = .ok (.iadd, 1) := by decide +kernel
theorem d_Rw_store_44 : decode prog_8_method_7_code 44 = .ok (.iload 5, 2) := by decide +kernel
theorem d_Rw_store_46 : decode prog_8_method_7_code 46 = .ok (.invokestatic 35, 3) := by decide +kernel
theorem d_Rw_store_49 : decode prog_8_method_7_code 49 = .ok (.iload 5, 2) := by decide +kernel
theorem d_Rw_store_51 : decode prog_8_method_7_code 51 = .ok (.ireturn, 1) := by decide +kernel
theorem d_Rw_item_0 : decode prog_8_method_8_code 0 = .ok (.aload_n 0, 1) := by decide +kernel
theorem d_Rw_item_1 : decode prog_8_method_8_code 1 = .ok (.getfield 9, 3) := by decide +kernel
theorem d_Rw_item_4 : decode prog_8_method_8_code 4 = .ok (.iload_n 1, 1) := by decide +kernel
theorem d_Rw_item_5 : decode prog_8_method_8_code 5 = .ok (.bipush 40, 2) := by decide +kernel
theorem d_Rw_item_7 : decode prog_8_method_8_code 7 = .ok (.imul, 1) := by decide +kernel
theorem d_Rw_item_8 : decode prog_8_method_8_code 8 = .ok (.iload_n 2, 1) := by decide +kernel
theorem d_Rw_item_9 : decode prog_8_method_8_code 9 = .ok (.iadd, 1) := by decide +kernel
theorem d_Rw_item_10 : decode prog_8_method_8_code 10 = .ok (.invokestatic 31, 3) := by decide +kernel
theorem d_Rw_item_13 : decode prog_8_method_8_code 13 = .ok (.ireturn, 1) := by decide +kernel
theorem d_Rw_carry_0 : decode prog_8_method_9_code 0 = .ok (.aload_n 0, 1) := by decide +kernel
theorem d_Rw_carry_1 : decode prog_8_method_9_code 1 = .ok (.iload_n 1, 1) := by decide +kernel
theorem d_Rw_carry_2 : decode prog_8_method_9_code 2 = .ok (.invokevirtual 39, 3) := by decide +kernel
theorem d_Rw_carry_5 : decode prog_8_method_9_code 5 = .ok (.ifCond .ne 60, 3) := by decide +kernel
theorem d_Rw_carry_8 : decode prog_8_method_9_code 8 = .ok (.aload_n 0, 1) := by decide +kernel
theorem d_Rw_carry_9 : decode prog_8_method_9_code 9 = .ok (.iload_n 3, 1) := by decide +kernel
theorem d_Rw_carry_10 : decode prog_8_method_9_code 10 = .ok (.invokevirtual 39, 3) := by decide +kernel
theorem d_Rw_carry_13 : decode prog_8_method_9_code 13 = .ok (.ifCond .ne 52, 3) := by decide +kernel
theorem d_Rw_carry_16 : decode prog_8_method_9_code 16 = .ok (.aload_n 0, 1) := by decide +kernel
theorem d_Rw_carry_17 : decode prog_8_method_9_code 17 = .ok (.iload_n 1, 1) := by decide +kernel
theorem d_Rw_carry_18 : decode prog_8_method_9_code 18 = .ok (.iload_n 2, 1) := by decide +kernel
theorem d_Rw_carry_19 : decode prog_8_method_9_code 19 = .ok (.iload 5, 2) := by decide +kernel
theorem d_Rw_carry_21 : decode prog_8_method_9_code 21 = .ok (.invokevirtual 42, 3) := by decide +kernel
theorem d_Rw_carry_24 : decode prog_8_method_9_code 24 = .ok (.ifCond .eq 41, 3) := by decide +kernel
theorem d_Rw_carry_27 : decode prog_8_method_9_code 27 = .ok (.aload_n 0, 1) := by decide +kernel
theorem d_Rw_carry_28 : decode prog_8_method_9_code 28 = .ok (.iload_n 3, 1) := by decide +kernel
theorem d_Rw_carry_29 : decode prog_8_method_9_code 29 = .ok (.iload 4, 2) := by decide +kernel
theorem d_Rw_carry_31 : decode prog_8_method_9_code 31 = .ok (.iload 5, 2) := by decide +kernel
theorem d_Rw_carry_33 : decode prog_8_method_9_code 33 = .ok (.invokevirtual 42, 3) := by decide +kernel
theorem d_Rw_carry_36 : decode prog_8_method_9_code 36 = .ok (.ifCond .eq 29, 3) := by decide +kernel
theorem d_Rw_carry_39 : decode prog_8_method_9_code 39 = .ok (.aload_n 0, 1) := by decide +kernel
theorem d_Rw_carry_40 : decode prog_8_method_9_code 40 = .ok (.getfield 9, 3) := by decide +kernel
theorem d_Rw_carry_43 : decode prog_8_method_9_code 43 = .ok (.iload_n 1, 1) := by decide +kernel
theorem d_Rw_carry_44 : decode prog_8_method_9_code 44 = .ok (.bipush 40, 2) := by decide +kernel
theorem d_Rw_carry_46 : decode prog_8_method_9_code 46 = .ok (.imul, 1) := by decide +kernel
theorem d_Rw_carry_47 : decode prog_8_method_9_code 47 = .ok (.iload_n 2, 1) := by decide +kernel
theorem d_Rw_carry_48 : decode prog_8_method_9_code 48 = .ok (.iadd, 1) := by decide +kernel
theorem d_Rw_carry_49 : decode prog_8_method_9_code 49 = .ok (.aload_n 0, 1) := by decide +kernel
theorem d_Rw_carry_50 : decode prog_8_method_9_code 50 = .ok (.getfield 9, 3) := by decide +kernel
theorem d_Rw_carry_53 : decode prog_8_method_9_code 53 = .ok (.iload_n 3, 1) := by decide +kernel
theorem d_Rw_carry_54 : decode prog_8_method_9_code 54 = .ok (.bipush 40, 2) := by decide +kernel
theorem d_Rw_carry_56 : decode prog_8_method_9_code 56 = .ok (.imul, 1) := by decide +kernel
theorem d_Rw_carry_57 : decode prog_8_method_9_code 57 = .ok (.iload 4, 2) := by decide +kernel
theorem d_Rw_carry_59 : decode prog_8_method_9_code 59 = .ok (.iadd, 1) := by decide +kernel
theorem d_Rw_carry_60 : decode prog_8_method_9_code 60 = .ok (.iload 5, 2) := by decide +kernel
theorem d_Rw_carry_62 : decode prog_8_method_9_code 62 = .ok (.invokestatic 46, 3) := by decide +kernel
theorem d_Rw_carry_65 : decode prog_8_method_9_code 65 = .ok (.return_, 1) := by decide +kernel
theorem d_Rw_present_0 : decode prog_8_method_10_code 0 = .ok (.iconst 0, 1) := by decide +kernel
theorem d_Rw_present_1 : decode prog_8_method_10_code 1 = .ok (.istore_n 1, 1) := by decide +kernel
theorem d_Rw_present_2 : decode prog_8_method_10_code 2 = .ok (.iconst 0, 1) := by decide +kernel
theorem d_Rw_present_3 : decode prog_8_method_10_code 3 = .ok (.istore_n 2, 1) := by decide +kernel
theorem d_Rw_present_4 : decode prog_8_method_10_code 4 = .ok (.iload_n 2, 1) := by decide +kernel
theorem d_Rw_present_5 : decode prog_8_method_10_code 5 = .ok (.bipush 8, 2) := by decide +kernel
theorem d_Rw_present_7 : decode prog_8_method_10_code 7 = .ok (.if_icmp .ge 25, 3) := by decide +kernel
theorem d_Rw_present_10 : decode prog_8_method_10_code 10 = .ok (.iload_n 1, 1) := by decide +kernel
theorem d_Rw_present_11 : decode prog_8_method_10_code 11 = .ok (.aload_n 0, 1) := by decide +kernel
theorem d_Rw_present_12 : decode prog_8_method_10_code 12 = .ok (.iload_n 2, 1) := by decide +kernel
theorem d_Rw_present_13 : decode prog_8_method_10_code 13 = .ok (.invokevirtual 39, 3) := by decide +kernel
theorem d_Rw_present_16 : decode prog_8_method_10_code 16 = .ok (.ifCond .eq 7, 3) := by decide +kernel
theorem d_Rw_present_19 : decode prog_8_method_10_code 19 = .ok (.iconst 0, 1) := by decide +kernel
theorem d_Rw_present_20 : decode prog_8_method_10_code 20 = .ok (.goto 4, 3) := by decide +kernel
theorem d_Rw_present_23 : decode prog_8_method_10_code 23 = .ok (.iconst 1, 1) := by decide +kernel
theorem d_Rw_present_24 : decode prog_8_method_10_code 24 = .ok (.iadd, 1) := by decide +kernel
theorem d_Rw_present_25 : decode prog_8_method_10_code 25 = .ok (.istore_n 1, 1) := by decide +kernel
theorem d_Rw_present_26 : decode prog_8_method_10_code 26 = .ok (.iinc 2 1, 3) := by decide +kernel
theorem d_Rw_present_29 : decode prog_8_method_10_code 29 = .ok (.goto (-25), 3) := by decide +kernel
theorem d_Rw_present_32 : decode prog_8_method_10_code 32 = .ok (.iload_n 1, 1) := by decide +kernel
theorem d_Rw_present_33 : decode prog_8_method_10_code 33 = .ok (.ireturn, 1) := by decide +kernel
theorem d_S_init_0 : decode prog_9_method_1_code 0 = .ok (.aload_n 0, 1) := by decide +kernel
theorem d_S_init_1 : decode prog_9_method_1_code 1 = .ok (.invokespecial 5, 3) := by decide +kernel
theorem d_S_init_4 : decode prog_9_method_1_code 4 = .ok (.aload_n 0, 1) := by decide +kernel
theorem d_S_init_5 : decode prog_9_method_1_code 5 = .ok (.sipush 192, 3) := by decide +kernel
theorem d_S_init_8 : decode prog_9_method_1_code 8 = .ok (.newarray .int, 2) := by decide +kernel
theorem d_S_init_10 : decode prog_9_method_1_code 10 = .ok (.putfield 11, 3) := by decide +kernel
theorem d_S_init_13 : decode prog_9_method_1_code 13 = .ok (.aload_n 0, 1) := by decide +kernel
theorem d_S_init_14 : decode prog_9_method_1_code 14 = .ok (.sipush 576, 3) := by decide +kernel
theorem d_S_init_17 : decode prog_9_method_1_code 17 = .ok (.newarray .int, 2) := by decide +kernel
theorem d_S_init_19 : decode prog_9_method_1_code 19 = .ok (.putfield 15, 3) := by decide +kernel
theorem d_S_init_22 : decode prog_9_method_1_code 22 = .ok (.aload_n 0, 1) := by decide +kernel
theorem d_S_init_23 : decode prog_9_method_1_code 23 = .ok (.sipush 576, 3) := by decide +kernel
theorem d_S_init_26 : decode prog_9_method_1_code 26 = .ok (.newarray .int, 2) := by decide +kernel
theorem d_S_init_28 : decode prog_9_method_1_code 28 = .ok (.putfield 18, 3) := by decide +kernel
theorem d_S_init_31 : decode prog_9_method_1_code 31 = .ok (.aload_n 0, 1) := by decide +kernel
theorem d_S_init_32 : decode prog_9_method_1_code 32 = .ok (.sipush 576, 3) := by decide +kernel
theorem d_S_init_35 : decode prog_9_method_1_code 35 = .ok (.newarray .int, 2) := by decide +kernel
theorem d_S_init_37 : decode prog_9_method_1_code 37 = .ok (.putfield 21, 3) := by decide +kernel
theorem d_S_init_40 : decode prog_9_method_1_code 40 = .ok (.aload_n 0, 1) := by decide +kernel
theorem d_S_init_41 : decode prog_9_method_1_code 41 = .ok (.sipush 576, 3) := by decide +kernel
theorem d_S_init_44 : decode prog_9_method_1_code 44 = .ok (.newarray .int, 2) := by decide +kernel
theorem d_S_init_46 : decode prog_9_method_1_code 46 = .ok (.putfield 24, 3) := by decide +kernel
theorem d_S_init_49 : decode prog_9_method_1_code 49 = .ok (.aload_n 0, 1) := by decide +kernel
theorem d_S_init_50 : decode prog_9_method_1_code 50 = .ok (.bipush 21, 2) := by decide +kernel
theorem d_S_init_52 : decode prog_9_method_1_code 52 = .ok (.newarray .int, 2) := by decide +kernel
theorem d_S_init_54 : decode prog_9_method_1_code 54 = .ok (.putfield 27, 3) := by decide +kernel
theorem d_S_init_57 : decode prog_9_method_1_code 57 = .ok (.aload_n 0, 1) := by decide +kernel
theorem d_S_init_58 : decode prog_9_method_1_code 58 = .ok (.bipush 10, 2) := by decide +kernel
theorem d_S_init_60 : decode prog_9_method_1_code 60 = .ok (.newarray .int, 2) := by decide +kernel
theorem d_S_init_62 : decode prog_9_method_1_code 62 = .ok (.putfield 30, 3) := by decide +kernel
theorem d_S_init_65 : decode prog_9_method_1_code 65 = .ok (.aload_n 0, 1) := by decide +kernel
theorem d_S_init_66 : decode prog_9_method_1_code 66 = .ok (.bipush 10, 2) := by decide +kernel
theorem d_S_init_68 : decode prog_9_method_1_code 68 = .ok (.newarray .int, 2) := by decide +kernel
theorem d_S_init_70 : decode prog_9_method_1_code 70 = .ok (.putfield 33, 3) := by decide +kernel
theorem d_S_init_73 : decode prog_9_method_1_code 73 = .ok (.return_, 1) := by decide +kernel
theorem d_S_minutesToTurn_0 : decode prog_9_method_2_code 0 = .ok (.aload_n 1, 1) := by decide +kernel
theorem d_S_minutesToTurn_1 : decode prog_9_method_2_code 1 = .ok (.getfield 36, 3) := by decide +kernel
theorem d_S_minutesToTurn_4 : decode prog_9_method_2_code 4 = .ok (.iconst 4, 1) := by decide +kernel
theorem d_S_minutesToTurn_5 : decode prog_9_method_2_code 5 = .ok (.iadd, 1) := by decide +kernel
theorem d_S_minutesToTurn_6 : decode prog_9_method_2_code 6 = .ok (.bipush 7, 2) := by decide +kernel
theorem d_S_minutesToTurn_8 : decode prog_9_method_2_code 8 = .ok (.iand, 1) := by decide +kernel
theorem d_S_minutesToTurn_9 : decode prog_9_method_2_code 9 = .ok (.istore_n 3, 1) := by decide +kernel
theorem d_S_minutesToTurn_10 : decode prog_9_method_2_code 10 = .ok (.aload_n 0, 1) := by decide +kernel
theorem d_S_minutesToTurn_11 : decode prog_9_method_2_code 11 = .ok (.aload_n 1, 1) := by decide +kernel
theorem d_S_minutesToTurn_12 : decode prog_9_method_2_code 12 = .ok (.iload_n 2, 1) := by decide +kernel
theorem d_S_minutesToTurn_13 : decode prog_9_method_2_code 13 = .ok (.iload_n 3, 1) := by decide +kernel
theorem d_S_minutesToTurn_14 : decode prog_9_method_2_code 14 = .ok (.invokevirtual 42, 3) := by decide +kernel
theorem d_S_minutesToTurn_17 : decode prog_9_method_2_code 17 = .ok (.aload_n 0, 1) := by decide +kernel
theorem d_S_minutesToTurn_18 : decode prog_9_method_2_code 18 = .ok (.iconst 0, 1) := by decide +kernel
theorem d_S_minutesToTurn_19 : decode prog_9_method_2_code 19 = .ok (.bipush 23, 2) := by decide +kernel
theorem d_S_minutesToTurn_21 : decode prog_9_method_2_code 21 = .ok (.iload_n 3, 1) := by decide +kernel
theorem d_S_minutesToTurn_22 : decode prog_9_method_2_code 22 = .ok (.invokevirtual 46, 3) := by decide +kernel
theorem d_S_minutesToTurn_25 : decode prog_9_method_2_code 25 = .ok (.aload_n 0, 1) := by decide +kernel
theorem d_S_minutesToTurn_26 : decode prog_9_method_2_code 26 = .ok (.getfield 50, 3) := by decide +kernel
theorem d_S_minutesToTurn_29 : decode prog_9_method_2_code 29 = .ok (.ireturn, 1) := by decide +kernel
theorem d_S_explore_0 : decode prog_9_method_3_code 0 = .ok (.aload_n 0, 1) := by decide +kernel
theorem d_S_explore_1 : decode prog_9_method_3_code 1 = .ok (.aload_n 1, 1) := by decide +kernel
theorem d_S_explore_2 : decode prog_9_method_3_code 2 = .ok (.iload_n 2, 1) := by decide +kernel
theorem d_S_explore_3 : decode prog_9_method_3_code 3 = .ok (.invokevirtual 53, 3) := by decide +kernel
theorem d_S_explore_6 : decode prog_9_method_3_code 6 = .ok (.aload_n 0, 1) := by decide +kernel
theorem d_S_explore_7 : decode prog_9_method_3_code 7 = .ok (.aload_n 1, 1) := by decide +kernel
theorem d_S_explore_8 : decode prog_9_method_3_code 8 = .ok (.invokevirtual 57, 3) := by decide +kernel
theorem d_S_explore_11 : decode prog_9_method_3_code 11 = .ok (.aload_n 0, 1) := by decide +kernel
theorem d_S_explore_12 : decode prog_9_method_3_code 12 = .ok (.aload_n 0, 1) := by decide +kernel
theorem d_S_explore_13 : decode prog_9_method_3_code 13 = .ok (.getfield 61, 3) := by decide +kernel
theorem d_S_explore_16 : decode prog_9_method_3_code 16 = .ok (.iconst 0, 1) := by decide +kernel
theorem d_S_explore_17 : decode prog_9_method_3_code 17 = .ok (.ldc 64, 2) := by decide +kernel
theorem d_S_explore_19 : decode prog_9_method_3_code 19 = .ok (.invokevirtual 65, 3) := by decide +kernel
theorem d_S_explore_22 : decode prog_9_method_3_code 22 = .ok (.iconst 0, 1) := by decide +kernel
theorem d_S_explore_23 : decode prog_9_method_3_code 23 = .ok (.istore 4, 2) := by decide +kernel
theorem d_S_explore_25 : decode prog_9_method_3_code 25 = .ok (.iload 4, 2) := by decide +kernel
theorem d_S_explore_27 : decode prog_9_method_3_code 27 = .ok (.sipush 11520, 3) := by decide +kernel
theorem d_S_explore_30 : decode prog_9_method_3_code 30 = .ok (.if_icmp .gt 88, 3) := by decide +kernel
theorem d_S_explore_33 : decode prog_9_method_3_code 33 = .ok (.aload_n 0, 1) := by decide +kernel
theorem d_S_explore_34 : decode prog_9_method_3_code 34 = .ok (.getfield 68, 3) := by decide +kernel
theorem d_S_explore_37 : decode prog_9_method_3_code 37 = .ok (.ifCond .le 81, 3) := by decide +kernel
theorem d_S_explore_40 : decode prog_9_method_3_code 40 = .ok (.iload 4, 2) := by decide +kernel
theorem d_S_explore_42 : decode prog_9_method_3_code 42 = .ok (.bipush 21, 2) := by decide +kernel
theorem d_S_explore_44 : decode prog_9_method_3_code 44 = .ok (.irem, 1) := by decide +kernel
theorem d_S_explore_45 : decode prog_9_method_3_code 45 = .ok (.istore 5, 2) := by decide +kernel
theorem d_S_explore_47 : decode prog_9_method_3_code 47 = .ok (.iconst 0, 1) := by decide +kernel
theorem d_S_explore_48 : decode prog_9_method_3_code 48 = .ok (.istore 6, 2) := by decide +kernel
theorem d_S_explore_50 : decode prog_9_method_3_code 50 = .ok (.iload 6, 2) := by decide +kernel
theorem d_S_explore_52 : decode prog_9_method_3_code 52 = .ok (.sipush 576, 3) := by decide +kernel
theorem d_S_explore_55 : decode prog_9_method_3_code 55 = .ok (.if_icmp .ge 57, 3) := by decide +kernel
theorem d_S_explore_58 : decode prog_9_method_3_code 58 = .ok (.aload_n 0, 1) := by decide +kernel
theorem d_S_explore_59 : decode prog_9_method_3_code 59 = .ok (.getfield 27, 3) := by decide +kernel
theorem d_S_explore_62 : decode prog_9_method_3_code 62 = .ok (.iload 5, 2) := by decide +kernel
theorem d_S_explore_64 : decode prog_9_method_3_code 64 = .ok (.invokestatic 71, 3) := by decide +kernel
theorem d_S_explore_67 : decode prog_9_method_3_code 67 = .ok (.iconst (-1), 1) := by decide +kernel
theorem d_S_explore_68 : decode prog_9_method_3_code 68 = .ok (.if_icmp .eq 44, 3) := by decide +kernel
theorem d_S_explore_71 : decode prog_9_method_3_code 71 = .ok (.aload_n 0, 1) := by decide +kernel
theorem d_S_explore_72 : decode prog_9_method_3_code 72 = .ok (.getfield 27, 3) := by decide +kernel
theorem d_S_explore_75 : decode prog_9_method_3_code 75 = .ok (.iload 5, 2) := by decide +kernel
theorem d_S_explore_77 : decode prog_9_method_3_code 77 = .ok (.invokestatic 71, 3) := by decide +kernel
theorem d_S_explore_80 : decode prog_9_method_3_code 80 = .ok (.istore 7, 2) := by decide +kernel
theorem d_S_explore_82 : decode prog_9_method_3_code 82 = .ok (.iload 7, 2) := by decide +kernel
theorem d_S_explore_84 : decode prog_9_method_3_code 84 = .ok (.iconst 3, 1) := by decide +kernel
theorem d_S_explore_85 : decode prog_9_method_3_code 85 = .ok (.idiv, 1) := by decide +kernel
theorem d_S_explore_86 : decode prog_9_method_3_code 86 = .ok (.bipush 8, 2) := by decide +kernel
theorem d_S_explore_88 : decode prog_9_method_3_code 88 = .ok (.irem, 1) := by decide +kernel
theorem d_S_explore_89 : decode prog_9_method_3_code 89 = .ok (.iload_n 3, 1) := by decide +kernel
theorem d_S_explore_90 : decode prog_9_method_3_code 90 = .ok (.if_icmp .ne 4, 3) := by decide +kernel
theorem d_S_explore_93 : decode prog_9_method_3_code 93 = .ok (.return_, 1) := by decide +kernel
theorem d_S_explore_94 : decode prog_9_method_3_code 94 = .ok (.aload_n 0, 1) := by decide +kernel
theorem d_S_explore_95 : decode prog_9_method_3_code 95 = .ok (.iload 7, 2) := by decide +kernel
theorem d_S_explore_97 : decode prog_9_method_3_code 97 = .ok (.invokevirtual 75, 3) := by decide +kernel
theorem d_S_explore_100 : decode prog_9_method_3_code 100 = .ok (.aload_n 0, 1) := by decide +kernel
theorem d_S_explore_101 : decode prog_9_method_3_code 101 = .ok (.iload 7, 2) := by decide +kernel
theorem d_S_explore_103 : decode prog_9_method_3_code 103 = .ok (.invokevirtual 79, 3) := by decide +kernel
theorem d_S_explore_106 : decode prog_9_method_3_code 106 = .ok (.iinc 6 1, 3) := by decide +kernel
theorem d_S_explore_109 : decode prog_9_method_3_code 109 = .ok (.goto (-59), 3) := by decide +kernel
theorem d_S_explore_112 : decode prog_9_method_3_code 112 = .ok (.iinc 4 1, 3) := by decide +kernel
theorem d_S_explore_115 : decode prog_9_method_3_code 115 = .ok (.goto (-90), 3) := by decide +kernel
theorem d_S_explore_118 : decode prog_9_method_3_code 118 = .ok (.return_, 1) := by decide +kernel
theorem d_S_seek_0 : decode prog_9_method_4_code 0 = .ok (.ldc 82, 2) := by decide +kernel
theorem d_S_seek_2 : decode prog_9_method_4_code 2 = .ok (.istore 4, 2) := by decide +kernel
theorem d_S_seek_4 : decode prog_9_method_4_code 4 = .ok (.ldc 64, 2) := by decide +kernel
theorem d_S_seek_6 : decode prog_9_method_4_code 6 = .ok (.istore 5, 2) := by decide +kernel
theorem d_S_seek_8 : decode prog_9_method_4_code 8 = .ok (.iload_n 1, 1) := by decide +kernel
theorem d_S_seek_9 : decode prog_9_method_4_code 9 = .ok (.istore 6, 2) := by decide +kernel
theorem d_S_seek_11 : decode prog_9_method_4_code 11 = .ok (.iload 6, 2) := by decide +kernel
theorem d_S_seek_13 : decode prog_9_method_4_code 13 = .ok (.iload_n 2, 1) := by decide +kernel
theorem d_S_seek_14 : decode prog_9_method_4_code 14 = .ok (.if_icmp .gt 127, 3) := by decide +kernel
theorem d_S_seek_17 : decode prog_9_method_4_code 17 = .ok (.iconst 0, 1) := by decide +kernel
theorem d_S_seek_18 : decode prog_9_method_4_code 18 = .ok (.istore 7, 2) := by decide +kernel
theorem d_S_seek_20 : decode prog_9_method_4_code 20 = .ok (.iload 7, 2) := by decide +kernel
theorem d_S_seek_22 : decode prog_9_method_4_code 22 = .ok (.iconst 3, 1) := by decide +kernel
theorem d_S_seek_23 : decode prog_9_method_4_code 23 = .ok (.if_icmp .ge 112, 3) := by decide +kernel
theorem d_S_seek_26 : decode prog_9_method_4_code 26 = .ok (.iload 6, 2) := by decide +kernel
theorem d_S_seek_28 : decode prog_9_method_4_code 28 = .ok (.iload_n 3, 1) := by decide +kernel
theorem d_S_seek_29 : decode prog_9_method_4_code 29 = .ok (.iload 7, 2) := by decide +kernel
theorem d_S_seek_31 : decode prog_9_method_4_code 31 = .ok (.invokestatic 83, 3) := by decide +kernel
theorem d_S_seek_34 : decode prog_9_method_4_code 34 = .ok (.istore 8, 2) := by decide +kernel
theorem d_S_seek_36 : decode prog_9_method_4_code 36 = .ok (.iload 8, 2) := by decide +kernel
theorem d_S_seek_38 : decode prog_9_method_4_code 38 = .ok (.sipush 576, 3) := by decide +kernel
theorem d_S_seek_41 : decode prog_9_method_4_code 41 = .ok (.invokestatic 87, 3) := by decide +kernel
theorem d_S_seek_44 : decode prog_9_method_4_code 44 = .ok (.ifCond .eq 85, 3) := by decide +kernel
theorem d_S_seek_47 : decode prog_9_method_4_code 47 = .ok (.aload_n 0, 1) := by decide +kernel
theorem d_S_seek_48 : decode prog_9_method_4_code 48 = .ok (.getfield 15, 3) := by decide +kernel
theorem d_S_seek_51 : decode prog_9_method_4_code 51 = .ok (.iload 8, 2) := by decide +kernel
theorem d_S_seek_53 : decode prog_9_method_4_code 53 = .ok (.invokestatic 71, 3) := by decide +kernel
theorem d_S_seek_56 : decode prog_9_method_4_code 56 = .ok (.iload 4, 2) := by decide +kernel
theorem d_S_seek_58 : decode prog_9_method_4_code 58 = .ok (.if_icmp .le 6, 3) := by decide +kernel
theorem d_S_seek_61 : decode prog_9_method_4_code 61 = .ok (.goto 68, 3) := by decide +kernel
theorem d_S_seek_64 : decode prog_9_method_4_code 64 = .ok (.aload_n 0, 1) := by decide +kernel
theorem d_S_seek_65 : decode prog_9_method_4_code 65 = .ok (.getfield 15, 3) := by decide +kernel
theorem d_S_seek_68 : decode prog_9_method_4_code 68 = .ok (.iload 8, 2) := by decide +kernel
theorem d_S_seek_70 : decode prog_9_method_4_code 70 = .ok (.invokestatic 71, 3) := by decide +kernel
theorem d_S_seek_73 : decode prog_9_method_4_code 73 = .ok (.iload 4, 2) := by decide +kernel
theorem d_S_seek_75 : decode prog_9_method_4_code 75 = .ok (.if_icmp .ne 7, 3) := by decide +kernel
theorem d_S_seek_78 : decode prog_9_method_4_code 78 = .ok (.iconst 1, 1) := by decide +kernel
theorem d_S_seek_79 : decode prog_9_method_4_code 79 = .ok (.goto 4, 3) := by decide +kernel
theorem d_S_seek_82 : decode prog_9_method_4_code 82 = .ok (.iconst 0, 1) := by decide +kernel
theorem d_S_seek_83 : decode prog_9_method_4_code 83 = .ok (.istore 9, 2) := by decide +kernel
theorem d_S_seek_85 : decode prog_9_method_4_code 85 = .ok (.iload 9, 2) := by decide +kernel
theorem d_S_seek_87 : decode prog_9_method_4_code 87 = .ok (.ifCond .eq 20, 3) := by decide +kernel
theorem d_S_seek_90 : decode prog_9_method_4_code 90 = .ok (.iload 5, 2) := by decide +kernel
theorem d_S_seek_92 : decode prog_9_method_4_code 92 = .ok (.aload_n 0, 1) := by decide +kernel
theorem d_S_seek_93 : decode prog_9_method_4_code 93 = .ok (.getfield 18, 3) := by decide +kernel
theorem d_S_seek_96 : decode prog_9_method_4_code 96 = .ok (.iload 8, 2) := by decide +kernel
theorem d_S_seek_98 : decode prog_9_method_4_code 98 = .ok (.invokestatic 71, 3) := by decide +kernel
theorem d_S_seek_101 : decode prog_9_method_4_code 101 = .ok (.invokestatic 91, 3) := by decide +kernel
theorem d_S_seek_104 : decode prog_9_method_4_code 104 = .ok (.goto 12, 3) := by decide +kernel
theorem d_S_seek_107 : decode prog_9_method_4_code 107 = .ok (.aload_n 0, 1) := by decide +kernel
theorem d_S_seek_108 : decode prog_9_method_4_code 108 = .ok (.getfield 18, 3) := by decide +kernel
theorem d_S_seek_111 : decode prog_9_method_4_code 111 = .ok (.iload 8, 2) := by decide +kernel
theorem d_S_seek_113 : decode prog_9_method_4_code 113 = .ok (.invokestatic 71, 3) := by decide +kernel
theorem d_S_seek_116 : decode prog_9_method_4_code 116 = .ok (.istore 5, 2) := by decide +kernel
theorem d_S_seek_118 : decode prog_9_method_4_code 118 = .ok (.aload_n 0, 1) := by decide +kernel
theorem d_S_seek_119 : decode prog_9_method_4_code 119 = .ok (.getfield 15, 3) := by decide +kernel
theorem d_S_seek_122 : decode prog_9_method_4_code 122 = .ok (.iload 8, 2) := by decide +kernel
theorem d_S_seek_124 : decode prog_9_method_4_code 124 = .ok (.invokestatic 71, 3) := by decide +kernel
theorem d_S_seek_127 : decode prog_9_method_4_code 127 = .ok (.istore 4, 2) := by decide +kernel
theorem d_S_seek_129 : decode prog_9_method_4_code 129 = .ok (.iinc 7 1, 3) := by decide +kernel
theorem d_S_seek_132 : decode prog_9_method_4_code 132 = .ok (.goto (-112), 3) := by decide +kernel
theorem d_S_seek_135 : decode prog_9_method_4_code 135 = .ok (.iinc 6 1, 3) := by decide +kernel
theorem d_S_seek_138 : decode prog_9_method_4_code 138 = .ok (.goto (-127), 3) := by decide +kernel
theorem d_S_seek_141 : decode prog_9_method_4_code 141 = .ok (.aload_n 0, 1) := by decide +kernel
theorem d_S_seek_142 : decode prog_9_method_4_code 142 = .ok (.iload 4, 2) := by decide +kernel
theorem d_S_seek_144 : decode prog_9_method_4_code 144 = .ok (.ldc 82, 2) := by decide +kernel
theorem d_S_seek_146 : decode prog_9_method_4_code 146 = .ok (.if_icmp .ne 8, 3) := by decide +kernel
theorem d_S_seek_149 : decode prog_9_method_4_code 149 = .ok (.ldc 64, 2) := by decide +kernel
theorem d_S_seek_151 : decode prog_9_method_4_code 151 = .ok (.goto 5, 3) := by decide +kernel
theorem d_S_seek_154 : decode prog_9_method_4_code 154 = .ok (.iload 4, 2) := by decide +kernel
theorem d_S_seek_156 : decode prog_9_method_4_code 156 = .ok (.putfield 50, 3) := by decide +kernel
theorem d_S_seek_159 : decode prog_9_method_4_code 159 = .ok (.aload_n 0, 1) := by decide +kernel
theorem d_S_seek_160 : decode prog_9_method_4_code 160 = .ok (.iload 4, 2) := by decide +kernel
theorem d_S_seek_162 : decode prog_9_method_4_code 162 = .ok (.ldc 82, 2) := by decide +kernel
theorem d_S_seek_164 : decode prog_9_method_4_code 164 = .ok (.if_icmp .ne 8, 3) := by decide +kernel
theorem d_S_seek_167 : decode prog_9_method_4_code 167 = .ok (.ldc 64, 2) := by decide +kernel
theorem d_S_seek_169 : decode prog_9_method_4_code 169 = .ok (.goto 5, 3) := by decide +kernel
theorem d_S_seek_172 : decode prog_9_method_4_code 172 = .ok (.iload 5, 2) := by decide +kernel
theorem d_S_seek_174 : decode prog_9_method_4_code 174 = .ok (.putfield 97, 3) := by decide +kernel
theorem d_S_seek_177 : decode prog_9_method_4_code 177 = .ok (.return_, 1) := by decide +kernel
theorem d_S_cellsReached_0 : decode prog_9_method_5_code 0 = .ok (.iconst 0, 1) := by decide +kernel
theorem d_S_cellsReached_1 : decode prog_9_method_5_code 1 = .ok (.istore_n 1, 1) := by decide +kernel
theorem d_S_cellsReached_2 : decode prog_9_method_5_code 2 = .ok (.iconst 0, 1) := by decide +kernel
theorem d_S_cellsReached_3 : decode prog_9_method_5_code 3 = .ok (.istore_n 2, 1) := by decide +kernel
theorem d_S_cellsReached_4 : decode prog_9_method_5_code 4 = .ok (.iload_n 2, 1) := by decide +kernel
theorem d_S_cellsReached_5 : decode prog_9_method_5_code 5 = .ok (.sipush 576, 3) := by decide +kernel
theorem d_S_cellsReached_8 : decode prog_9_method_5_code 8 = .ok (.if_icmp .ge 31, 3) := by decide +kernel
theorem d_S_cellsReached_11 : decode prog_9_method_5_code 11 = .ok (.aload_n 0, 1) := by decide +kernel
theorem d_S_cellsReached_12 : decode prog_9_method_5_code 12 = .ok (.getfield 15, 3) := by decide +kernel
theorem d_S_cellsReached_15 : decode prog_9_method_5_code 15 = .ok (.iload_n 2, 1) := by decide +kernel
theorem d_S_cellsReached_16 : decode prog_9_method_5_code 16 = .ok (.invokestatic 71, 3) := by decide +kernel
theorem d_S_cellsReached_19 : decode prog_9_method_5_code 19 = .ok (.ldc 82, 2) := by decide +kernel
theorem d_S_cellsReached_21 : decode prog_9_method_5_code 21 = .ok (.if_icmp .eq 12, 3) := by decide +kernel
theorem d_S_cellsReached_24 : decode prog_9_method_5_code 24 = .ok (.iload_n 1, 1) := by decide +kernel
theorem d_S_cellsReached_25 : decode prog_9_method_5_code 25 = .ok (.iconst 1, 1) := by decide +kernel
theorem d_S_cellsReached_26 : decode prog_9_method_5_code 26 = .ok (.iload_n 2, 1) := by decide +kernel
theorem d_S_cellsReached_27 : decode prog_9_method_5_code 27 = .ok (.bipush 24, 2) := by decide +kernel
theorem d_S_cellsReached_29 : decode prog_9_method_5_code 29 = .ok (.idiv, 1) := by decide +kernel
theorem d_S_cellsReached_30 : decode prog_9_method_5_code 30 = .ok (.ishl, 1) := by decide +kernel
theorem d_S_cellsReached_31 : decode prog_9_method_5_code 31 = .ok (.ior, 1) := by decide +kernel
theorem d_S_cellsReached_32 : decode prog_9_method_5_code 32 = .ok (.istore_n 1, 1) := by decide +kernel
theorem d_S_cellsReached_33 : decode prog_9_method_5_code 33 = .ok (.iinc 2 1, 3) := by decide +kernel
theorem d_S_cellsReached_36 : decode prog_9_method_5_code 36 = .ok (.goto (-32), 3) := by decide +kernel
theorem d_S_cellsReached_39 : decode prog_9_method_5_code 39 = .ok (.iload_n 1, 1) := by decide +kernel
theorem d_S_cellsReached_40 : decode prog_9_method_5_code 40 = .ok (.ireturn, 1) := by decide +kernel
theorem d_S_stateOf_0 : decode prog_9_method_6_code 0 = .ok (.iload_n 0, 1) := by decide +kernel
theorem d_S_stateOf_1 : decode prog_9_method_6_code 1 = .ok (.bipush 8, 2) := by decide +kernel
theorem d_S_stateOf_3 : decode prog_9_method_6_code 3 = .ok (.imul, 1) := by decide +kernel
theorem d_S_stateOf_4 : decode prog_9_method_6_code 4 = .ok (.iload_n 1, 1) := by decide +kernel
theorem d_S_stateOf_5 : decode prog_9_method_6_code 5 = .ok (.iadd, 1) := by decide +kernel
theorem d_S_stateOf_6 : decode prog_9_method_6_code 6 = .ok (.iconst 3, 1) := by decide +kernel
theorem d_S_stateOf_7 : decode prog_9_method_6_code 7 = .ok (.imul, 1) := by decide +kernel
theorem d_S_stateOf_8 : decode prog_9_method_6_code 8 = .ok (.iload_n 2, 1) := by decide +kernel
theorem d_S_stateOf_9 : decode prog_9_method_6_code 9 = .ok (.iadd, 1) := by decide +kernel
theorem d_S_stateOf_10 : decode prog_9_method_6_code 10 = .ok (.ireturn, 1) := by decide +kernel
theorem d_S_prepare_0 : decode prog_9_method_7_code 0 = .ok (.aload_n 0, 1) := by decide +kernel
theorem d_S_prepare_1 : decode prog_9_method_7_code 1 = .ok (.iload_n 2, 1) := by decide +kernel
theorem d_S_prepare_2 : decode prog_9_method_7_code 2 = .ok (.putfield 100, 3) := by decide +kernel
theorem d_S_prepare_5 : decode prog_9_method_7_code 5 = .ok (.aload_n 0, 1) := by decide +kernel
theorem d_S_prepare_6 : decode prog_9_method_7_code 6 = .ok (.aload_n 1, 1) := by decide +kernel
theorem d_S_prepare_7 : decode prog_9_method_7_code 7 = .ok (.invokevirtual 103, 3) := by decide +kernel
theorem d_S_prepare_10 : decode prog_9_method_7_code 10 = .ok (.ifCond .eq 12, 3) := by decide +kernel
theorem d_S_prepare_13 : decode prog_9_method_7_code 13 = .ok (.aload_n 1, 1) := by decide +kernel
theorem d_S_prepare_14 : decode prog_9_method_7_code 14 = .ok (.getfield 107, 3) := by decide +kernel
theorem d_S_prepare_17 : decode prog_9_method_7_code 17 = .ok (.iconst 1, 1) := by decide +kernel
theorem d_S_prepare_18 : decode prog_9_method_7_code 18 = .ok (.isub, 1) := by decide +kernel
theorem d_S_prepare_19 : decode prog_9_method_7_code 19 = .ok (.goto 4, 3) := by decide +kernel
theorem d_S_prepare_22 : decode prog_9_method_7_code 22 = .ok (.iconst (-1), 1) := by decide +kernel
theorem d_S_prepare_23 : decode prog_9_method_7_code 23 = .ok (.putfield 110, 3) := by decide +kernel
theorem d_S_prepare_26 : decode prog_9_method_7_code 26 = .ok (.aload_n 0, 1) := by decide +kernel
theorem d_S_prepare_27 : decode prog_9_method_7_code 27 = .ok (.aload_n 1, 1) := by decide +kernel
theorem d_S_prepare_28 : decode prog_9_method_7_code 28 = .ok (.getfield 113, 3) := by decide +kernel
theorem d_S_prepare_31 : decode prog_9_method_7_code 31 = .ok (.aload_n 1, 1) := by decide +kernel
theorem d_S_prepare_32 : decode prog_9_method_7_code 32 = .ok (.getfield 36, 3) := by decide +kernel
theorem d_S_prepare_35 : decode prog_9_method_7_code 35 = .ok (.aload_n 0, 1) := by decide +kernel
theorem d_S_prepare_36 : decode prog_9_method_7_code 36 = .ok (.getfield 110, 3) := by decide +kernel
theorem d_S_prepare_39 : decode prog_9_method_7_code 39 = .ok (.iconst (-1), 1) := by decide +kernel
theorem d_S_prepare_40 : decode prog_9_method_7_code 40 = .ok (.if_icmp .ne 7, 3) := by decide +kernel
theorem d_S_prepare_43 : decode prog_9_method_7_code 43 = .ok (.iconst 0, 1) := by decide +kernel
theorem d_S_prepare_44 : decode prog_9_method_7_code 44 = .ok (.goto 9, 3) := by decide +kernel
theorem d_S_prepare_47 : decode prog_9_method_7_code 47 = .ok (.aload_n 1, 1) := by decide +kernel
theorem d_S_prepare_48 : decode prog_9_method_7_code 48 = .ok (.getfield 116, 3) := by decide +kernel
theorem d_S_prepare_51 : decode prog_9_method_7_code 51 = .ok (.iconst 3, 1) := by decide +kernel
theorem d_S_prepare_52 : decode prog_9_method_7_code 52 = .ok (.irem, 1) := by decide +kernel
theorem d_S_prepare_53 : decode prog_9_method_7_code 53 = .ok (.invokestatic 83, 3) := by decide +kernel
theorem d_S_prepare_56 : decode prog_9_method_7_code 56 = .ok (.putfield 61, 3) := by decide +kernel
theorem d_S_prepare_59 : decode prog_9_method_7_code 59 = .ok (.aload_n 0, 1) := by decide +kernel
theorem d_S_prepare_60 : decode prog_9_method_7_code 60 = .ok (.iconst 0, 1) := by decide +kernel
theorem d_S_prepare_61 : decode prog_9_method_7_code 61 = .ok (.putfield 68, 3) := by decide +kernel
theorem d_S_prepare_64 : decode prog_9_method_7_code 64 = .ok (.aload_n 0, 1) := by decide +kernel
theorem d_S_prepare_65 : decode prog_9_method_7_code 65 = .ok (.getfield 15, 3) := by decide +kernel
theorem d_S_prepare_68 : decode prog_9_method_7_code 68 = .ok (.ldc 82, 2) := by decide +kernel
theorem d_S_prepare_70 : decode prog_9_method_7_code 70 = .ok (.invokestatic 119, 3) := by decide +kernel
theorem d_S_prepare_73 : decode prog_9_method_7_code 73 = .ok (.aload_n 0, 1) := by decide +kernel
theorem d_S_prepare_74 : decode prog_9_method_7_code 74 = .ok (.getfield 27, 3) := by decide +kernel
theorem d_S_prepare_77 : decode prog_9_method_7_code 77 = .ok (.iconst (-1), 1) := by decide +kernel
theorem d_S_prepare_78 : decode prog_9_method_7_code 78 = .ok (.invokestatic 119, 3) := by decide +kernel
theorem d_S_prepare_81 : decode prog_9_method_7_code 81 = .ok (.iconst 0, 1) := by decide +kernel
theorem d_S_prepare_82 : decode prog_9_method_7_code 82 = .ok (.istore_n 3, 1) := by decide +kernel
theorem d_S_prepare_83 : decode prog_9_method_7_code 83 = .ok (.iload_n 3, 1) := by decide +kernel
theorem d_S_prepare_84 : decode prog_9_method_7_code 84 = .ok (.sipush 192, 3) := by decide +kernel
theorem d_S_prepare_87 : decode prog_9_method_7_code 87 = .ok (.if_icmp .ge 29, 3) := by decide +kernel
theorem d_S_prepare_90 : decode prog_9_method_7_code 90 = .ok (.aload_n 0, 1) := by decide +kernel
theorem d_S_prepare_91 : decode prog_9_method_7_code 91 = .ok (.getfield 11, 3) := by decide +kernel
theorem d_S_prepare_94 : decode prog_9_method_7_code 94 = .ok (.iload_n 3, 1) := by decide +kernel
theorem d_S_prepare_95 : decode prog_9_method_7_code 95 = .ok (.aload_n 1, 1) := by decide +kernel
theorem d_S_prepare_96 : decode prog_9_method_7_code 96 = .ok (.iload_n 3, 1) := by decide +kernel
theorem d_S_prepare_97 : decode prog_9_method_7_code 97 = .ok (.bipush 8, 2) := by decide +kernel
theorem d_S_prepare_99 : decode prog_9_method_7_code 99 = .ok (.idiv, 1) := by decide +kernel
theorem d_S_prepare_100 : decode prog_9_method_7_code 100 = .ok (.iload_n 3, 1) := by decide +kernel
theorem d_S_prepare_101 : decode prog_9_method_7_code 101 = .ok (.bipush 8, 2) := by decide +kernel
theorem d_S_prepare_103 : decode prog_9_method_7_code 103 = .ok (.irem, 1) := by decide +kernel
theorem d_S_prepare_104 : decode prog_9_method_7_code 104 = .ok (.invokevirtual 125, 3) := by decide +kernel
theorem d_S_prepare_107 : decode prog_9_method_7_code 107 = .ok (.invokestatic 128, 3) := by decide +kernel
theorem d_S_prepare_110 : decode prog_9_method_7_code 110 = .ok (.iinc 3 1, 3) := by decide +kernel
theorem d_S_prepare_113 : decode prog_9_method_7_code 113 = .ok (.goto (-30), 3) := by decide +kernel
theorem d_S_prepare_116 : decode prog_9_method_7_code 116 = .ok (.return_, 1) := by decide +kernel
theorem d_S_choosePacers_0 : decode prog_9_method_8_code 0 = .ok (.aload_n 0, 1) := by decide +kernel
theorem d_S_choosePacers_1 : decode prog_9_method_8_code 1 = .ok (.getfield 30, 3) := by decide +kernel
theorem d_S_choosePacers_4 : decode prog_9_method_8_code 4 = .ok (.ldc 64, 2) := by decide +kernel
theorem d_S_choosePacers_6 : decode prog_9_method_8_code 6 = .ok (.invokestatic 119, 3) := by decide +kernel
theorem d_S_choosePacers_9 : decode prog_9_method_8_code 9 = .ok (.iconst 0, 1) := by decide +kernel
theorem d_S_choosePacers_10 : decode prog_9_method_8_code 10 = .ok (.istore_n 2, 1) := by decide +kernel
theorem d_S_choosePacers_11 : decode prog_9_method_8_code 11 = .ok (.iload_n 2, 1) := by decide +kernel
theorem d_S_choosePacers_12 : decode prog_9_method_8_code 12 = .ok (.aload_n 1, 1) := by decide +kernel
theorem d_S_choosePacers_13 : decode prog_9_method_8_code 13 = .ok (.getfield 132, 3) := by decide +kernel
theorem d_S_choosePacers_16 : decode prog_9_method_8_code 16 = .ok (.if_icmp .ge 117, 3) := by decide +kernel
theorem d_S_choosePacers_19 : decode prog_9_method_8_code 19 = .ok (.aload_n 1, 1) := by decide +kernel
theorem d_S_choosePacers_20 : decode prog_9_method_8_code 20 = .ok (.iload_n 2, 1) := by decide +kernel
theorem d_S_choosePacers_21 : decode prog_9_method_8_code 21 = .ok (.invokevirtual 135, 3) := by decide +kernel
theorem d_S_choosePacers_24 : decode prog_9_method_8_code 24 = .ok (.astore_n 3, 1) := by decide +kernel
theorem d_S_choosePacers_25 : decode prog_9_method_8_code 25 = .ok (.iconst 0, 1) := by decide +kernel
theorem d_S_choosePacers_26 : decode prog_9_method_8_code 26 = .ok (.istore 4, 2) := by decide +kernel
theorem d_S_choosePacers_28 : decode prog_9_method_8_code 28 = .ok (.iload 4, 2) := by decide +kernel
theorem d_S_choosePacers_30 : decode prog_9_method_8_code 30 = .ok (.bipush 8, 2) := by decide +kernel
theorem d_S_choosePacers_32 : decode prog_9_method_8_code 32 = .ok (.if_icmp .ge 95, 3) := by decide +kernel
theorem d_S_choosePacers_35 : decode prog_9_method_8_code 35 = .ok (.aload_n 3, 1) := by decide +kernel
theorem d_S_choosePacers_36 : decode prog_9_method_8_code 36 = .ok (.ifnull 91, 3) := by decide +kernel
theorem d_S_choosePacers_39 : decode prog_9_method_8_code 39 = .ok (.aload_n 3, 1) := by decide +kernel
theorem d_S_choosePacers_40 : decode prog_9_method_8_code 40 = .ok (.iload 4, 2) := by decide +kernel
theorem d_S_choosePacers_42 : decode prog_9_method_8_code 42 = .ok (.invokevirtual 139, 3) := by decide +kernel
theorem d_S_choosePacers_45 : decode prog_9_method_8_code 45 = .ok (.istore 5, 2) := by decide +kernel
theorem d_S_choosePacers_47 : decode prog_9_method_8_code 47 = .ok (.aload_n 3, 1) := by decide +kernel
theorem d_S_choosePacers_48 : decode prog_9_method_8_code 48 = .ok (.invokevirtual 145, 3) := by decide +kernel
theorem d_S_choosePacers_51 : decode prog_9_method_8_code 51 = .ok (.ifCond .ne 8, 3) := by decide +kernel
theorem d_S_choosePacers_54 : decode prog_9_method_8_code 54 = .ok (.iload 4, 2) := by decide +kernel
theorem d_S_choosePacers_56 : decode prog_9_method_8_code 56 = .ok (.goto 7, 3) := by decide +kernel
theorem d_S_choosePacers_59 : decode prog_9_method_8_code 59 = .ok (.iload 4, 2) := by decide +kernel
theorem d_S_choosePacers_61 : decode prog_9_method_8_code 61 = .ok (.iconst 2, 1) := by decide +kernel
theorem d_S_choosePacers_62 : decode prog_9_method_8_code 62 = .ok (.iadd, 1) := by decide +kernel
theorem d_S_choosePacers_63 : decode prog_9_method_8_code 63 = .ok (.istore 6, 2) := by decide +kernel
theorem d_S_choosePacers_65 : decode prog_9_method_8_code 65 = .ok (.iload 5, 2) := by decide +kernel
theorem d_S_choosePacers_67 : decode prog_9_method_8_code 67 = .ok (.ldc 64, 2) := by decide +kernel
theorem d_S_choosePacers_69 : decode prog_9_method_8_code 69 = .ok (.if_icmp .eq 52, 3) := by decide +kernel
theorem d_S_choosePacers_72 : decode prog_9_method_8_code 72 = .ok (.aload_n 0, 1) := by decide +kernel
theorem d_S_choosePacers_73 : decode prog_9_method_8_code 73 = .ok (.getfield 30, 3) := by decide +kernel
theorem d_S_choosePacers_76 : decode prog_9_method_8_code 76 = .ok (.iload 6, 2) := by decide +kernel
theorem d_S_choosePacers_78 : decode prog_9_method_8_code 78 = .ok (.invokestatic 71, 3) := by decide +kernel
theorem d_S_choosePacers_81 : decode prog_9_method_8_code 81 = .ok (.ldc 64, 2) := by decide +kernel
theorem d_S_choosePacers_83 : decode prog_9_method_8_code 83 = .ok (.if_icmp .eq 17, 3) := by decide +kernel
theorem d_S_choosePacers_86 : decode prog_9_method_8_code 86 = .ok (.iload 5, 2) := by decide +kernel
theorem d_S_choosePacers_88 : decode prog_9_method_8_code 88 = .ok (.aload_n 0, 1) := by decide +kernel
theorem d_S_choosePacers_89 : decode prog_9_method_8_code 89 = .ok (.getfield 30, 3) := by decide +kernel
theorem d_S_choosePacers_92 : decode prog_9_method_8_code 92 = .ok (.iload 6, 2) := by decide +kernel
theorem d_S_choosePacers_94 : decode prog_9_method_8_code 94 = .ok (.invokestatic 71, 3) := by decide +kernel
theorem d_S_choosePacers_97 : decode prog_9_method_8_code 97 = .ok (.if_icmp .ge 24, 3) := by decide +kernel
theorem d_S_choosePacers_100 : decode prog_9_method_8_code 100 = .ok (.aload_n 0, 1) := by decide +kernel
theorem d_S_choosePacers_101 : decode prog_9_method_8_code 101 = .ok (.getfield 30, 3) := by decide +kernel
theorem d_S_choosePacers_104 : decode prog_9_method_8_code 104 = .ok (.iload 6, 2) := by decide +kernel
theorem d_S_choosePacers_106 : decode prog_9_method_8_code 106 = .ok (.iload 5, 2) := by decide +kernel
theorem d_S_choosePacers_108 : decode prog_9_method_8_code 108 = .ok (.invokestatic 128, 3) := by decide +kernel
theorem d_S_choosePacers_111 : decode prog_9_method_8_code 111 = .ok (.aload_n 0, 1) := by decide +kernel
theorem d_S_choosePacers_112 : decode prog_9_method_8_code 112 = .ok (.getfield 33, 3) := by decide +kernel
theorem d_S_choosePacers_115 : decode prog_9_method_8_code 115 = .ok (.iload 6, 2) := by decide +kernel
theorem d_S_choosePacers_117 : decode prog_9_method_8_code 117 = .ok (.iload_n 2, 1) := by decide +kernel
theorem d_S_choosePacers_118 : decode prog_9_method_8_code 118 = .ok (.invokestatic 128, 3) := by decide +kernel
theorem d_S_choosePacers_121 : decode prog_9_method_8_code 121 = .ok (.iinc 4 1, 3) := by decide +kernel
theorem d_S_choosePacers_124 : decode prog_9_method_8_code 124 = .ok (.goto (-96), 3) := by decide +kernel
theorem d_S_choosePacers_127 : decode prog_9_method_8_code 127 = .ok (.iinc 2 1, 3) := by decide +kernel
theorem d_S_choosePacers_130 : decode prog_9_method_8_code 130 = .ok (.goto (-119), 3) := by decide +kernel
theorem d_S_choosePacers_133 : decode prog_9_method_8_code 133 = .ok (.return_, 1) := by decide +kernel
theorem d_S_leave_0 : decode prog_9_method_9_code 0 = .ok (.iload_n 1, 1) := by decide +kernel
theorem d_S_leave_1 : decode prog_9_method_9_code 1 = .ok (.iconst 3, 1) := by decide +kernel
theorem d_S_leave_2 : decode prog_9_method_9_code 2 = .ok (.idiv, 1) := by decide +kernel
theorem d_S_leave_3 : decode prog_9_method_9_code 3 = .ok (.istore_n 2, 1) := by decide +kernel
theorem d_S_leave_4 : decode prog_9_method_9_code 4 = .ok (.iload_n 2, 1) := by decide +kernel
theorem d_S_leave_5 : decode prog_9_method_9_code 5 = .ok (.bipush 8, 2) := by decide +kernel
theorem d_S_leave_7 : decode prog_9_method_9_code 7 = .ok (.idiv, 1) := by decide +kernel
theorem d_S_leave_8 : decode prog_9_method_9_code 8 = .ok (.istore_n 3, 1) := by decide +kernel
theorem d_S_leave_9 : decode prog_9_method_9_code 9 = .ok (.iload_n 2, 1) := by decide +kernel
theorem d_S_leave_10 : decode prog_9_method_9_code 10 = .ok (.bipush 8, 2) := by decide +kernel
theorem d_S_leave_12 : decode prog_9_method_9_code 12 = .ok (.irem, 1) := by decide +kernel
theorem d_S_leave_13 : decode prog_9_method_9_code 13 = .ok (.istore 4, 2) := by decide +kernel
theorem d_S_leave_15 : decode prog_9_method_9_code 15 = .ok (.iconst 0, 1) := by decide +kernel
theorem d_S_leave_16 : decode prog_9_method_9_code 16 = .ok (.istore 5, 2) := by decide +kernel
theorem d_S_leave_18 : decode prog_9_method_9_code 18 = .ok (.iload 5, 2) := by decide +kernel
theorem d_S_leave_20 : decode prog_9_method_9_code 20 = .ok (.bipush 10, 2) := by decide +kernel
theorem d_S_leave_22 : decode prog_9_method_9_code 22 = .ok (.if_icmp .ge 173, 3) := by decide +kernel
theorem d_S_leave_25 : decode prog_9_method_9_code 25 = .ok (.aload_n 0, 1) := by decide +kernel
theorem d_S_leave_26 : decode prog_9_method_9_code 26 = .ok (.getfield 30, 3) := by decide +kernel
theorem d_S_leave_29 : decode prog_9_method_9_code 29 = .ok (.iload 5, 2) := by decide +kernel
theorem d_S_leave_31 : decode prog_9_method_9_code 31 = .ok (.invokestatic 71, 3) := by decide +kernel
theorem d_S_leave_34 : decode prog_9_method_9_code 34 = .ok (.ldc 64, 2) := by decide +kernel
theorem d_S_leave_36 : decode prog_9_method_9_code 36 = .ok (.if_icmp .ne 6, 3) := by decide +kernel
theorem d_S_leave_39 : decode prog_9_method_9_code 39 = .ok (.goto 150, 3) := by decide +kernel
theorem d_S_leave_42 : decode prog_9_method_9_code 42 = .ok (.iload 5, 2) := by decide +kernel
theorem d_S_leave_44 : decode prog_9_method_9_code 44 = .ok (.bipush 8, 2) := by decide +kernel
theorem d_S_leave_46 : decode prog_9_method_9_code 46 = .ok (.if_icmp .ge 8, 3) := by decide +kernel
theorem d_S_leave_49 : decode prog_9_method_9_code 49 = .ok (.iload 5, 2) := by decide +kernel
theorem d_S_leave_51 : decode prog_9_method_9_code 51 = .ok (.goto 7, 3) := by decide +kernel
theorem d_S_leave_54 : decode prog_9_method_9_code 54 = .ok (.iload 5, 2) := by decide +kernel
theorem d_S_leave_56 : decode prog_9_method_9_code 56 = .ok (.iconst 2, 1) := by decide +kernel
theorem d_S_leave_57 : decode prog_9_method_9_code 57 = .ok (.isub, 1) := by decide +kernel
theorem d_S_leave_58 : decode prog_9_method_9_code 58 = .ok (.istore 6, 2) := by decide +kernel
theorem d_S_leave_60 : decode prog_9_method_9_code 60 = .ok (.iload 5, 2) := by decide +kernel
theorem d_S_leave_62 : decode prog_9_method_9_code 62 = .ok (.bipush 8, 2) := by decide +kernel
theorem d_S_leave_64 : decode prog_9_method_9_code 64 = .ok (.if_icmp .ge 10, 3) := by decide +kernel
theorem d_S_leave_67 : decode prog_9_method_9_code 67 = .ok (.aload_n 0, 1) := by decide +kernel
theorem d_S_leave_68 : decode prog_9_method_9_code 68 = .ok (.getfield 100, 3) := by decide +kernel
theorem d_S_leave_71 : decode prog_9_method_9_code 71 = .ok (.goto 13, 3) := by decide +kernel
theorem d_S_leave_74 : decode prog_9_method_9_code 74 = .ok (.iconst 0, 1) := by decide +kernel
theorem d_S_leave_75 : decode prog_9_method_9_code 75 = .ok (.aload_n 0, 1) := by decide +kernel
theorem d_S_leave_76 : decode prog_9_method_9_code 76 = .ok (.getfield 100, 3) := by decide +kernel
theorem d_S_leave_79 : decode prog_9_method_9_code 79 = .ok (.iconst 1, 1) := by decide +kernel
theorem d_S_leave_80 : decode prog_9_method_9_code 80 = .ok (.isub, 1) := by decide +kernel
theorem d_S_leave_81 : decode prog_9_method_9_code 81 = .ok (.invokestatic 149, 3) := by decide +kernel
theorem d_S_leave_84 : decode prog_9_method_9_code 84 = .ok (.istore 7, 2) := by decide +kernel
theorem d_S_leave_86 : decode prog_9_method_9_code 86 = .ok (.iload_n 3, 1) := by decide +kernel
theorem d_S_leave_87 : decode prog_9_method_9_code 87 = .ok (.iload 4, 2) := by decide +kernel
theorem d_S_leave_89 : decode prog_9_method_9_code 89 = .ok (.iload 6, 2) := by decide +kernel
theorem d_S_leave_91 : decode prog_9_method_9_code 91 = .ok (.invokestatic 152, 3) := by decide +kernel
theorem d_S_leave_94 : decode prog_9_method_9_code 94 = .ok (.istore 8, 2) := by decide +kernel
theorem d_S_leave_96 : decode prog_9_method_9_code 96 = .ok (.iload 4, 2) := by decide +kernel
theorem d_S_leave_98 : decode prog_9_method_9_code 98 = .ok (.iload 6, 2) := by decide +kernel
theorem d_S_leave_100 : decode prog_9_method_9_code 100 = .ok (.invokestatic 155, 3) := by decide +kernel
theorem d_S_leave_103 : decode prog_9_method_9_code 103 = .ok (.istore 9, 2) := by decide +kernel
theorem d_S_leave_105 : decode prog_9_method_9_code 105 = .ok (.aload_n 0, 1) := by decide +kernel
theorem d_S_leave_106 : decode prog_9_method_9_code 106 = .ok (.iload 8, 2) := by decide +kernel
theorem d_S_leave_108 : decode prog_9_method_9_code 108 = .ok (.iload 9, 2) := by decide +kernel
theorem d_S_leave_110 : decode prog_9_method_9_code 110 = .ok (.invokevirtual 158, 3) := by decide +kernel
theorem d_S_leave_113 : decode prog_9_method_9_code 113 = .ok (.iload 7, 2) := by decide +kernel
theorem d_S_leave_115 : decode prog_9_method_9_code 115 = .ok (.if_icmp .lt 74, 3) := by decide +kernel
theorem d_S_leave_118 : decode prog_9_method_9_code 118 = .ok (.iload_n 1, 1) := by decide +kernel
theorem d_S_leave_119 : decode prog_9_method_9_code 119 = .ok (.aload_n 0, 1) := by decide +kernel
theorem d_S_leave_120 : decode prog_9_method_9_code 120 = .ok (.getfield 61, 3) := by decide +kernel
theorem d_S_leave_123 : decode prog_9_method_9_code 123 = .ok (.if_icmp .ne 21, 3) := by decide +kernel
theorem d_S_leave_126 : decode prog_9_method_9_code 126 = .ok (.bipush 10, 2) := by decide +kernel
theorem d_S_leave_128 : decode prog_9_method_9_code 128 = .ok (.aload_n 0, 1) := by decide +kernel
theorem d_S_leave_129 : decode prog_9_method_9_code 129 = .ok (.getfield 33, 3) := by decide +kernel
theorem d_S_leave_132 : decode prog_9_method_9_code 132 = .ok (.iload 5, 2) := by decide +kernel
theorem d_S_leave_134 : decode prog_9_method_9_code 134 = .ok (.invokestatic 71, 3) := by decide +kernel
theorem d_S_leave_137 : decode prog_9_method_9_code 137 = .ok (.imul, 1) := by decide +kernel
theorem d_S_leave_138 : decode prog_9_method_9_code 138 = .ok (.iload 6, 2) := by decide +kernel
theorem d_S_leave_140 : decode prog_9_method_9_code 140 = .ok (.iadd, 1) := by decide +kernel
theorem d_S_leave_141 : decode prog_9_method_9_code 141 = .ok (.goto 11, 3) := by decide +kernel
theorem d_S_leave_144 : decode prog_9_method_9_code 144 = .ok (.aload_n 0, 1) := by decide +kernel
theorem d_S_leave_145 : decode prog_9_method_9_code 145 = .ok (.getfield 18, 3) := by decide +kernel
theorem d_S_leave_148 : decode prog_9_method_9_code 148 = .ok (.iload_n 1, 1) := by decide +kernel
theorem d_S_leave_149 : decode prog_9_method_9_code 149 = .ok (.invokestatic 71, 3) := by decide +kernel
theorem d_S_leave_152 : decode prog_9_method_9_code 152 = .ok (.istore 10, 2) := by decide +kernel
theorem d_S_leave_154 : decode prog_9_method_9_code 154 = .ok (.aload_n 0, 1) := by decide +kernel
theorem d_S_leave_155 : decode prog_9_method_9_code 155 = .ok (.aload_n 0, 1) := by decide +kernel
theorem d_S_leave_156 : decode prog_9_method_9_code 156 = .ok (.iload 8, 2) := by decide +kernel
theorem d_S_leave_158 : decode prog_9_method_9_code 158 = .ok (.iload 9, 2) := by decide +kernel
theorem d_S_leave_160 : decode prog_9_method_9_code 160 = .ok (.iload_n 1, 1) := by decide +kernel
theorem d_S_leave_161 : decode prog_9_method_9_code 161 = .ok (.iconst 3, 1) := by decide +kernel
theorem d_S_leave_162 : decode prog_9_method_9_code 162 = .ok (.irem, 1) := by decide +kernel
theorem d_S_leave_163 : decode prog_9_method_9_code 163 = .ok (.invokevirtual 161, 3) := by decide +kernel
theorem d_S_leave_166 : decode prog_9_method_9_code 166 = .ok (.aload_n 0, 1) := by decide +kernel
theorem d_S_leave_167 : decode prog_9_method_9_code 167 = .ok (.getfield 15, 3) := by decide +kernel
theorem d_S_leave_170 : decode prog_9_method_9_code 170 = .ok (.iload_n 1, 1) := by decide +kernel
theorem d_S_leave_171 : decode prog_9_method_9_code 171 = .ok (.invokestatic 71, 3) := by decide +kernel
theorem d_S_leave_174 : decode prog_9_method_9_code 174 = .ok (.aload_n 0, 1) := by decide +kernel
theorem d_S_leave_175 : decode prog_9_method_9_code 175 = .ok (.getfield 30, 3) := by decide +kernel
theorem d_S_leave_178 : decode prog_9_method_9_code 178 = .ok (.iload 5, 2) := by decide +kernel
theorem d_S_leave_180 : decode prog_9_method_9_code 180 = .ok (.invokestatic 71, 3) := by decide +kernel
theorem d_S_leave_183 : decode prog_9_method_9_code 183 = .ok (.iadd, 1) := by decide +kernel
theorem d_S_leave_184 : decode prog_9_method_9_code 184 = .ok (.iload 10, 2) := by decide +kernel
theorem d_S_leave_186 : decode prog_9_method_9_code 186 = .ok (.invokevirtual 164, 3) := by decide +kernel
theorem d_S_leave_189 : decode prog_9_method_9_code 189 = .ok (.iinc 5 1, 3) := by decide +kernel
theorem d_S_leave_192 : decode prog_9_method_9_code 192 = .ok (.goto (-174), 3) := by decide +kernel
theorem d_S_leave_195 : decode prog_9_method_9_code 195 = .ok (.return_, 1) := by decide +kernel
theorem d_S_clearAt_0 : decode prog_9_method_10_code 0 = .ok (.iload_n 1, 1) := by decide +kernel
theorem d_S_clearAt_1 : decode prog_9_method_10_code 1 = .ok (.bipush 8, 2) := by decide +kernel
theorem d_S_clearAt_3 : decode prog_9_method_10_code 3 = .ok (.imul, 1) := by decide +kernel
theorem d_S_clearAt_4 : decode prog_9_method_10_code 4 = .ok (.iload_n 2, 1) := by decide +kernel
theorem d_S_clearAt_5 : decode prog_9_method_10_code 5 = .ok (.iadd, 1) := by decide +kernel
theorem d_S_clearAt_6 : decode prog_9_method_10_code 6 = .ok (.istore_n 3, 1) := by decide +kernel
theorem d_S_clearAt_7 : decode prog_9_method_10_code 7 = .ok (.iload_n 3, 1) := by decide +kernel
theorem d_S_clearAt_8 : decode prog_9_method_10_code 8 = .ok (.ifCond .lt 21, 3) := by decide +kernel
theorem d_S_clearAt_11 : decode prog_9_method_10_code 11 = .ok (.iload_n 3, 1) := by decide +kernel
theorem d_S_clearAt_12 : decode prog_9_method_10_code 12 = .ok (.aload_n 0, 1) := by decide +kernel
theorem d_S_clearAt_13 : decode prog_9_method_10_code 13 = .ok (.getfield 11, 3) := by decide +kernel
theorem d_S_clearAt_16 : decode prog_9_method_10_code 16 = .ok (.arraylength, 1) := by decide +kernel
theorem d_S_clearAt_17 : decode prog_9_method_10_code 17 = .ok (.if_icmp .ge 12, 3) := by decide +kernel
theorem d_S_clearAt_20 : decode prog_9_method_10_code 20 = .ok (.aload_n 0, 1) := by decide +kernel
theorem d_S_clearAt_21 : decode prog_9_method_10_code 21 = .ok (.getfield 11, 3) := by decide +kernel
theorem d_S_clearAt_24 : decode prog_9_method_10_code 24 = .ok (.iload_n 3, 1) := by decide +kernel
theorem d_S_clearAt_25 : decode prog_9_method_10_code 25 = .ok (.iaload, 1) := by decide +kernel
theorem d_S_clearAt_26 : decode prog_9_method_10_code 26 = .ok (.goto 4, 3) := by decide +kernel
theorem d_S_clearAt_29 : decode prog_9_method_10_code 29 = .ok (.iconst (-1), 1) := by decide +kernel
theorem d_S_clearAt_30 : decode prog_9_method_10_code 30 = .ok (.ireturn, 1) := by decide +kernel
theorem d_S_behind_0 : decode prog_9_method_11_code 0 = .ok (.aload_n 0, 1) := by decide +kernel
theorem d_S_behind_1 : decode prog_9_method_11_code 1 = .ok (.getfield 110, 3) := by decide +kernel
theorem d_S_behind_4 : decode prog_9_method_11_code 4 = .ok (.iconst (-1), 1) := by decide +kernel
theorem d_S_behind_5 : decode prog_9_method_11_code 5 = .ok (.if_icmp .ne 10, 3) := by decide +kernel
theorem d_S_behind_8 : decode prog_9_method_11_code 8 = .ok (.iload_n 1, 1) := by decide +kernel
theorem d_S_behind_9 : decode prog_9_method_11_code 9 = .ok (.iload_n 2, 1) := by decide +kernel
theorem d_S_behind_10 : decode prog_9_method_11_code 10 = .ok (.iconst 0, 1) := by decide +kernel
theorem d_S_behind_11 : decode prog_9_method_11_code 11 = .ok (.invokestatic 83, 3) := by decide +kernel
theorem d_S_behind_14 : decode prog_9_method_11_code 14 = .ok (.ireturn, 1) := by decide +kernel
theorem d_S_behind_15 : decode prog_9_method_11_code 15 = .ok (.iload_n 3, 1) := by decide +kernel
theorem d_S_behind_16 : decode prog_9_method_11_code 16 = .ok (.iconst 2, 1) := by decide +kernel
theorem d_S_behind_17 : decode prog_9_method_11_code 17 = .ok (.if_icmp .eq 12, 3) := by decide +kernel
theorem d_S_behind_20 : decode prog_9_method_11_code 20 = .ok (.iload_n 1, 1) := by decide +kernel
theorem d_S_behind_21 : decode prog_9_method_11_code 21 = .ok (.iload_n 2, 1) := by decide +kernel
theorem d_S_behind_22 : decode prog_9_method_11_code 22 = .ok (.iload_n 3, 1) := by decide +kernel
theorem d_S_behind_23 : decode prog_9_method_11_code 23 = .ok (.iconst 1, 1) := by decide +kernel
theorem d_S_behind_24 : decode prog_9_method_11_code 24 = .ok (.iadd, 1) := by decide +kernel
theorem d_S_behind_25 : decode prog_9_method_11_code 25 = .ok (.invokestatic 83, 3) := by decide +kernel
theorem d_S_behind_28 : decode prog_9_method_11_code 28 = .ok (.ireturn, 1) := by decide +kernel
theorem d_S_behind_29 : decode prog_9_method_11_code 29 = .ok (.iload_n 1, 1) := by decide +kernel
theorem d_S_behind_30 : decode prog_9_method_11_code 30 = .ok (.aload_n 0, 1) := by decide +kernel
theorem d_S_behind_31 : decode prog_9_method_11_code 31 = .ok (.getfield 110, 3) := by decide +kernel
theorem d_S_behind_34 : decode prog_9_method_11_code 34 = .ok (.invokestatic 167, 3) := by decide +kernel
theorem d_S_behind_37 : decode prog_9_method_11_code 37 = .ok (.istore 4, 2) := by decide +kernel
theorem d_S_behind_39 : decode prog_9_method_11_code 39 = .ok (.aload_n 0, 1) := by decide +kernel
theorem d_S_behind_40 : decode prog_9_method_11_code 40 = .ok (.iload 4, 2) := by decide +kernel
theorem d_S_behind_42 : decode prog_9_method_11_code 42 = .ok (.iload_n 2, 1) := by decide +kernel
theorem d_S_behind_43 : decode prog_9_method_11_code 43 = .ok (.invokevirtual 158, 3) := by decide +kernel
theorem d_S_behind_46 : decode prog_9_method_11_code 46 = .ok (.aload_n 0, 1) := by decide +kernel
theorem d_S_behind_47 : decode prog_9_method_11_code 47 = .ok (.getfield 100, 3) := by decide +kernel
theorem d_S_behind_50 : decode prog_9_method_11_code 50 = .ok (.if_icmp .lt 8, 3) := by decide +kernel
theorem d_S_behind_53 : decode prog_9_method_11_code 53 = .ok (.iload 4, 2) := by decide +kernel
theorem d_S_behind_55 : decode prog_9_method_11_code 55 = .ok (.goto 4, 3) := by decide +kernel
theorem d_S_behind_58 : decode prog_9_method_11_code 58 = .ok (.iload_n 1, 1) := by decide +kernel
theorem d_S_behind_59 : decode prog_9_method_11_code 59 = .ok (.iload_n 2, 1) := by decide +kernel
theorem d_S_behind_60 : decode prog_9_method_11_code 60 = .ok (.iconst 0, 1) := by decide +kernel
theorem d_S_behind_61 : decode prog_9_method_11_code 61 = .ok (.invokestatic 83, 3) := by decide +kernel
theorem d_S_behind_64 : decode prog_9_method_11_code 64 = .ok (.ireturn, 1) := by decide +kernel
theorem d_S_offer_0 : decode prog_9_method_12_code 0 = .ok (.iload_n 2, 1) := by decide +kernel
theorem d_S_offer_1 : decode prog_9_method_12_code 1 = .ok (.aload_n 0, 1) := by decide +kernel
theorem d_S_offer_2 : decode prog_9_method_12_code 2 = .ok (.getfield 15, 3) := by decide +kernel
theorem d_S_offer_5 : decode prog_9_method_12_code 5 = .ok (.iload_n 1, 1) := by decide +kernel
theorem d_S_offer_6 : decode prog_9_method_12_code 6 = .ok (.invokestatic 71, 3) := by decide +kernel
theorem d_S_offer_9 : decode prog_9_method_12_code 9 = .ok (.if_icmp .ge 31, 3) := by decide +kernel
theorem d_S_offer_12 : decode prog_9_method_12_code 12 = .ok (.aload_n 0, 1) := by decide +kernel
theorem d_S_offer_13 : decode prog_9_method_12_code 13 = .ok (.getfield 15, 3) := by decide +kernel
theorem d_S_offer_16 : decode prog_9_method_12_code 16 = .ok (.iload_n 1, 1) := by decide +kernel
theorem d_S_offer_17 : decode prog_9_method_12_code 17 = .ok (.invokestatic 71, 3) := by decide +kernel
theorem d_S_offer_20 : decode prog_9_method_12_code 20 = .ok (.ldc 82, 2) := by decide +kernel
theorem d_S_offer_22 : decode prog_9_method_12_code 22 = .ok (.if_icmp .eq 8, 3) := by decide +kernel
theorem d_S_offer_25 : decode prog_9_method_12_code 25 = .ok (.aload_n 0, 1) := by decide +kernel
theorem d_S_offer_26 : decode prog_9_method_12_code 26 = .ok (.iload_n 1, 1) := by decide +kernel
theorem d_S_offer_27 : decode prog_9_method_12_code 27 = .ok (.invokevirtual 75, 3) := by decide +kernel
theorem d_S_offer_30 : decode prog_9_method_12_code 30 = .ok (.aload_n 0, 1) := by decide +kernel
theorem d_S_offer_31 : decode prog_9_method_12_code 31 = .ok (.iload_n 1, 1) := by decide +kernel
theorem d_S_offer_32 : decode prog_9_method_12_code 32 = .ok (.iload_n 2, 1) := by decide +kernel
theorem d_S_offer_33 : decode prog_9_method_12_code 33 = .ok (.iload_n 3, 1) := by decide +kernel
theorem d_S_offer_34 : decode prog_9_method_12_code 34 = .ok (.invokevirtual 65, 3) := by decide +kernel
theorem d_S_offer_37 : decode prog_9_method_12_code 37 = .ok (.goto 36, 3) := by decide +kernel
theorem d_S_offer_40 : decode prog_9_method_12_code 40 = .ok (.iload_n 2, 1) := by decide +kernel
theorem d_S_offer_41 : decode prog_9_method_12_code 41 = .ok (.aload_n 0, 1) := by decide +kernel
theorem d_S_offer_42 : decode prog_9_method_12_code 42 = .ok (.getfield 15, 3) := by decide +kernel
theorem d_S_offer_45 : decode prog_9_method_12_code 45 = .ok (.iload_n 1, 1) := by decide +kernel
theorem d_S_offer_46 : decode prog_9_method_12_code 46 = .ok (.invokestatic 71, 3) := by decide +kernel
theorem d_S_offer_49 : decode prog_9_method_12_code 49 = .ok (.if_icmp .ne 24, 3) := by decide +kernel
theorem d_S_offer_52 : decode prog_9_method_12_code 52 = .ok (.iload_n 3, 1) := by decide +kernel
theorem d_S_offer_53 : decode prog_9_method_12_code 53 = .ok (.aload_n 0, 1) := by decide +kernel
theorem d_S_offer_54 : decode prog_9_method_12_code 54 = .ok (.getfield 18, 3) := by decide +kernel
theorem d_S_offer_57 : decode prog_9_method_12_code 57 = .ok (.iload_n 1, 1) := by decide +kernel
theorem d_S_offer_58 : decode prog_9_method_12_code 58 = .ok (.invokestatic 71, 3) := by decide +kernel
theorem d_S_offer_61 : decode prog_9_method_12_code 61 = .ok (.if_icmp .ge 12, 3) := by decide +kernel
theorem d_S_offer_64 : decode prog_9_method_12_code 64 = .ok (.aload_n 0, 1) := by decide +kernel
theorem d_S_offer_65 : decode prog_9_method_12_code 65 = .ok (.getfield 18, 3) := by decide +kernel
theorem d_S_offer_68 : decode prog_9_method_12_code 68 = .ok (.iload_n 1, 1) := by decide +kernel
theorem d_S_offer_69 : decode prog_9_method_12_code 69 = .ok (.iload_n 3, 1) := by decide +kernel
theorem d_S_offer_70 : decode prog_9_method_12_code 70 = .ok (.invokestatic 128, 3) := by decide +kernel
theorem d_S_offer_73 : decode prog_9_method_12_code 73 = .ok (.return_, 1) := by decide +kernel
theorem d_S_add_0 : decode prog_9_method_13_code 0 = .ok (.iload_n 2, 1) := by decide +kernel
theorem d_S_add_1 : decode prog_9_method_13_code 1 = .ok (.bipush 21, 2) := by decide +kernel
theorem d_S_add_3 : decode prog_9_method_13_code 3 = .ok (.irem, 1) := by decide +kernel
theorem d_S_add_4 : decode prog_9_method_13_code 4 = .ok (.istore 4, 2) := by decide +kernel
theorem d_S_add_6 : decode prog_9_method_13_code 6 = .ok (.iload_n 1, 1) := by decide +kernel
theorem d_S_add_7 : decode prog_9_method_13_code 7 = .ok (.ifCond .lt 15, 3) := by decide +kernel
theorem d_S_add_10 : decode prog_9_method_13_code 10 = .ok (.iload_n 1, 1) := by decide +kernel
theorem d_S_add_11 : decode prog_9_method_13_code 11 = .ok (.sipush 576, 3) := by decide +kernel
theorem d_S_add_14 : decode prog_9_method_13_code 14 = .ok (.if_icmp .ge 8, 3) := by decide +kernel
theorem d_S_add_17 : decode prog_9_method_13_code 17 = .ok (.iload 4, 2) := by decide +kernel
theorem d_S_add_19 : decode prog_9_method_13_code 19 = .ok (.ifCond .ge 4, 3) := by decide +kernel
theorem d_S_add_22 : decode prog_9_method_13_code 22 = .ok (.return_, 1) := by decide +kernel
theorem d_S_add_23 : decode prog_9_method_13_code 23 = .ok (.aload_n 0, 1) := by decide +kernel
theorem d_S_add_24 : decode prog_9_method_13_code 24 = .ok (.getfield 27, 3) := by decide +kernel
theorem d_S_add_27 : decode prog_9_method_13_code 27 = .ok (.iload 4, 2) := by decide +kernel
theorem d_S_add_29 : decode prog_9_method_13_code 29 = .ok (.iaload, 1) := by decide +kernel
theorem d_S_add_30 : decode prog_9_method_13_code 30 = .ok (.istore 5, 2) := by decide +kernel
theorem d_S_add_32 : decode prog_9_method_13_code 32 = .ok (.aload_n 0, 1) := by decide +kernel
theorem d_S_add_33 : decode prog_9_method_13_code 33 = .ok (.getfield 15, 3) := by decide +kernel
theorem d_S_add_36 : decode prog_9_method_13_code 36 = .ok (.iload_n 1, 1) := by decide +kernel
theorem d_S_add_37 : decode prog_9_method_13_code 37 = .ok (.iload_n 2, 1) := by decide +kernel
theorem d_S_add_38 : decode prog_9_method_13_code 38 = .ok (.iastore, 1) := by decide +kernel
theorem d_S_add_39 : decode prog_9_method_13_code 39 = .ok (.aload_n 0, 1) := by decide +kernel
theorem d_S_add_40 : decode prog_9_method_13_code 40 = .ok (.getfield 18, 3) := by decide +kernel
theorem d_S_add_43 : decode prog_9_method_13_code 43 = .ok (.iload_n 1, 1) := by decide +kernel
theorem d_S_add_44 : decode prog_9_method_13_code 44 = .ok (.iload_n 3, 1) := by decide +kernel
theorem d_S_add_45 : decode prog_9_method_13_code 45 = .ok (.iastore, 1) := by decide +kernel
theorem d_S_add_46 : decode prog_9_method_13_code 46 = .ok (.aload_n 0, 1) := by decide +kernel
theorem d_S_add_47 : decode prog_9_method_13_code 47 = .ok (.getfield 21, 3) := by decide +kernel
theorem d_S_add_50 : decode prog_9_method_13_code 50 = .ok (.iload_n 1, 1) := by decide +kernel
theorem d_S_add_51 : decode prog_9_method_13_code 51 = .ok (.iload 5, 2) := by decide +kernel
theorem d_S_add_53 : decode prog_9_method_13_code 53 = .ok (.iastore, 1) := by decide +kernel
theorem d_S_add_54 : decode prog_9_method_13_code 54 = .ok (.aload_n 0, 1) := by decide +kernel
theorem d_S_add_55 : decode prog_9_method_13_code 55 = .ok (.getfield 24, 3) := by decide +kernel
theorem d_S_add_58 : decode prog_9_method_13_code 58 = .ok (.iload_n 1, 1) := by decide +kernel
theorem d_S_add_59 : decode prog_9_method_13_code 59 = .ok (.iconst (-1), 1) := by decide +kernel
theorem d_S_add_60 : decode prog_9_method_13_code 60 = .ok (.iastore, 1) := by decide +kernel
theorem d_S_add_61 : decode prog_9_method_13_code 61 = .ok (.iload 5, 2) := by decide +kernel
theorem d_S_add_63 : decode prog_9_method_13_code 63 = .ok (.ifCond .lt 19, 3) := by decide +kernel
theorem d_S_add_66 : decode prog_9_method_13_code 66 = .ok (.iload 5, 2) := by decide +kernel
theorem d_S_add_68 : decode prog_9_method_13_code 68 = .ok (.sipush 576, 3) := by decide +kernel
theorem d_S_add_71 : decode prog_9_method_13_code 71 = .ok (.if_icmp .ge 11, 3) := by decide +kernel
theorem d_S_add_74 : decode prog_9_method_13_code 74 = .ok (.aload_n 0, 1) := by decide +kernel
theorem d_S_add_75 : decode prog_9_method_13_code 75 = .ok (.getfield 24, 3) := by decide +kernel
theorem d_S_add_78 : decode prog_9_method_13_code 78 = .ok (.iload 5, 2) := by decide +kernel
theorem d_S_add_80 : decode prog_9_method_13_code 80 = .ok (.iload_n 1, 1) := by decide +kernel
theorem d_S_add_81 : decode prog_9_method_13_code 81 = .ok (.iastore, 1) := by decide +kernel
theorem d_S_add_82 : decode prog_9_method_13_code 82 = .ok (.aload_n 0, 1) := by decide +kernel
theorem d_S_add_83 : decode prog_9_method_13_code 83 = .ok (.getfield 27, 3) := by decide +kernel
theorem d_S_add_86 : decode prog_9_method_13_code 86 = .ok (.iload 4, 2) := by decide +kernel
theorem d_S_add_88 : decode prog_9_method_13_code 88 = .ok (.iload_n 1, 1) := by decide +kernel
theorem d_S_add_89 : decode prog_9_method_13_code 89 = .ok (.iastore, 1) := by decide +kernel
theorem d_S_add_90 : decode prog_9_method_13_code 90 = .ok (.aload_n 0, 1) := by decide +kernel
theorem d_S_add_91 : decode prog_9_method_13_code 91 = .ok (.dup, 1) := by decide +kernel
theorem d_S_add_92 : decode prog_9_method_13_code 92 = .ok (.getfield 68, 3) := by decide +kernel
theorem d_S_add_95 : decode prog_9_method_13_code 95 = .ok (.iconst 1, 1) := by decide +kernel
theorem d_S_add_96 : decode prog_9_method_13_code 96 = .ok (.iadd, 1) := by decide +kernel
theorem d_S_add_97 : decode prog_9_method_13_code 97 = .ok (.putfield 68, 3) := by decide +kernel
theorem d_S_add_100 : decode prog_9_method_13_code 100 = .ok (.return_, 1) := by decide +kernel
theorem d_S_remove_0 : decode prog_9_method_14_code 0 = .ok (.iload_n 1, 1) := by decide +kernel
theorem d_S_remove_1 : decode prog_9_method_14_code 1 = .ok (.ifCond .lt 19, 3) := by decide +kernel
theorem d_S_remove_4 : decode prog_9_method_14_code 4 = .ok (.iload_n 1, 1) := by decide +kernel
theorem d_S_remove_5 : decode prog_9_method_14_code 5 = .ok (.sipush 576, 3) := by decide +kernel
theorem d_S_remove_8 : decode prog_9_method_14_code 8 = .ok (.if_icmp .ge 12, 3) := by decide +kernel
theorem d_S_remove_11 : decode prog_9_method_14_code 11 = .ok (.aload_n 0, 1) := by decide +kernel
theorem d_S_remove_12 : decode prog_9_method_14_code 12 = .ok (.getfield 15, 3) := by decide +kernel
theorem d_S_remove_15 : decode prog_9_method_14_code 15 = .ok (.iload_n 1, 1) := by decide +kernel
theorem d_S_remove_16 : decode prog_9_method_14_code 16 = .ok (.iaload, 1) := by decide +kernel
theorem d_S_remove_17 : decode prog_9_method_14_code 17 = .ok (.ifCond .ge 4, 3) := by decide +kernel
theorem d_S_remove_20 : decode prog_9_method_14_code 20 = .ok (.return_, 1) := by decide +kernel
theorem d_S_remove_21 : decode prog_9_method_14_code 21 = .ok (.aload_n 0, 1) := by decide +kernel
theorem d_S_remove_22 : decode prog_9_method_14_code 22 = .ok (.getfield 24, 3) := by decide +kernel
theorem d_S_remove_25 : decode prog_9_method_14_code 25 = .ok (.iload_n 1, 1) := by decide +kernel
theorem d_S_remove_26 : decode prog_9_method_14_code 26 = .ok (.iaload, 1) := by decide +kernel
theorem d_S_remove_27 : decode prog_9_method_14_code 27 = .ok (.istore_n 2, 1) := by decide +kernel
theorem d_S_remove_28 : decode prog_9_method_14_code 28 = .ok (.aload_n 0, 1) := by decide +kernel
theorem d_S_remove_29 : decode prog_9_method_14_code 29 = .ok (.getfield 21, 3) := by decide +kernel
theorem d_S_remove_32 : decode prog_9_method_14_code 32 = .ok (.iload_n 1, 1) := by decide +kernel
theorem d_S_remove_33 : decode prog_9_method_14_code 33 = .ok (.iaload, 1) := by decide +kernel
theorem d_S_remove_34 : decode prog_9_method_14_code 34 = .ok (.istore_n 3, 1) := by decide +kernel
theorem d_S_remove_35 : decode prog_9_method_14_code 35 = .ok (.iload_n 2, 1) := by decide +kernel
theorem d_S_remove_36 : decode prog_9_method_14_code 36 = .ok (.ifCond .lt 20, 3) := by decide +kernel
theorem d_S_remove_39 : decode prog_9_method_14_code 39 = .ok (.iload_n 2, 1) := by decide +kernel
theorem d_S_remove_40 : decode prog_9_method_14_code 40 = .ok (.sipush 576, 3) := by decide +kernel
theorem d_S_remove_43 : decode prog_9_method_14_code 43 = .ok (.if_icmp .ge 13, 3) := by decide +kernel
theorem d_S_remove_46 : decode prog_9_method_14_code 46 = .ok (.aload_n 0, 1) := by decide +kernel
theorem d_S_remove_47 : decode prog_9_method_14_code 47 = .ok (.getfield 21, 3) := by decide +kernel
theorem d_S_remove_50 : decode prog_9_method_14_code 50 = .ok (.iload_n 2, 1) := by decide +kernel
theorem d_S_remove_51 : decode prog_9_method_14_code 51 = .ok (.iload_n 3, 1) := by decide +kernel
theorem d_S_remove_52 : decode prog_9_method_14_code 52 = .ok (.iastore, 1) := by decide +kernel
theorem d_S_remove_53 : decode prog_9_method_14_code 53 = .ok (.goto 18, 3) := by decide +kernel
theorem d_S_remove_56 : decode prog_9_method_14_code 56 = .ok (.aload_n 0, 1) := by decide +kernel
theorem d_S_remove_57 : decode prog_9_method_14_code 57 = .ok (.getfield 27, 3) := by decide +kernel
theorem d_S_remove_60 : decode prog_9_method_14_code 60 = .ok (.aload_n 0, 1) := by decide +kernel
theorem d_S_remove_61 : decode prog_9_method_14_code 61 = .ok (.getfield 15, 3) := by decide +kernel
theorem d_S_remove_64 : decode prog_9_method_14_code 64 = .ok (.iload_n 1, 1) := by decide +kernel
theorem d_S_remove_65 : decode prog_9_method_14_code 65 = .ok (.iaload, 1) := by decide +kernel
theorem d_S_remove_66 : decode prog_9_method_14_code 66 = .ok (.bipush 21, 2) := by decide +kernel
theorem d_S_remove_68 : decode prog_9_method_14_code 68 = .ok (.irem, 1) := by decide +kernel
theorem d_S_remove_69 : decode prog_9_method_14_code 69 = .ok (.iload_n 3, 1) := by decide +kernel
theorem d_S_remove_70 : decode prog_9_method_14_code 70 = .ok (.iastore, 1) := by decide +kernel
theorem d_S_remove_71 : decode prog_9_method_14_code 71 = .ok (.iload_n 3, 1) := by decide +kernel
theorem d_S_remove_72 : decode prog_9_method_14_code 72 = .ok (.ifCond .lt 17, 3) := by decide +kernel
theorem d_S_remove_75 : decode prog_9_method_14_code 75 = .ok (.iload_n 3, 1) := by decide +kernel
theorem d_S_remove_76 : decode prog_9_method_14_code 76 = .ok (.sipush 576, 3) := by decide +kernel
theorem d_S_remove_79 : decode prog_9_method_14_code 79 = .ok (.if_icmp .ge 10, 3) := by decide +kernel
theorem d_S_remove_82 : decode prog_9_method_14_code 82 = .ok (.aload_n 0, 1) := by decide +kernel
theorem d_S_remove_83 : decode prog_9_method_14_code 83 = .ok (.getfield 24, 3) := by decide +kernel
theorem d_S_remove_86 : decode prog_9_method_14_code 86 = .ok (.iload_n 3, 1) := by decide +kernel
theorem d_S_remove_87 : decode prog_9_method_14_code 87 = .ok (.iload_n 2, 1) := by decide +kernel
theorem d_S_remove_88 : decode prog_9_method_14_code 88 = .ok (.iastore, 1) := by decide +kernel
theorem d_S_remove_89 : decode prog_9_method_14_code 89 = .ok (.aload_n 0, 1) := by decide +kernel
theorem d_S_remove_90 : decode prog_9_method_14_code 90 = .ok (.dup, 1) := by decide +kernel
theorem d_S_remove_91 : decode prog_9_method_14_code 91 = .ok (.getfield 68, 3) := by decide +kernel
theorem d_S_remove_94 : decode prog_9_method_14_code 94 = .ok (.iconst 1, 1) := by decide +kernel
theorem d_S_remove_95 : decode prog_9_method_14_code 95 = .ok (.isub, 1) := by decide +kernel
theorem d_S_remove_96 : decode prog_9_method_14_code 96 = .ok (.putfield 68, 3) := by decide +kernel
theorem d_S_remove_99 : decode prog_9_method_14_code 99 = .ok (.return_, 1) := by decide +kernel
theorem d_Sh_init_0 : decode prog_10_method_1_code 0 = .ok (.aload_n 0, 1) := by decide +kernel
theorem d_Sh_init_1 : decode prog_10_method_1_code 1 = .ok (.iload_n 1, 1) := by decide +kernel
theorem d_Sh_init_2 : decode prog_10_method_1_code 2 = .ok (.iload_n 2, 1) := by decide +kernel
theorem d_Sh_init_3 : decode prog_10_method_1_code 3 = .ok (.sipush 192, 3) := by decide +kernel
theorem d_Sh_init_6 : decode prog_10_method_1_code 6 = .ok (.invokespecial 3, 3) := by decide +kernel
theorem d_Sh_init_9 : decode prog_10_method_1_code 9 = .ok (.return_, 1) := by decide +kernel
theorem d_Sh_sort_0 : decode prog_10_method_2_code 0 = .ok (.iconst 4, 1) := by decide +kernel
theorem d_Sh_sort_1 : decode prog_10_method_2_code 1 = .ok (.ireturn, 1) := by decide +kernel
theorem d_Sh_size_0 : decode prog_10_method_3_code 0 = .ok (.aload_n 1, 1) := by decide +kernel
theorem d_Sh_size_1 : decode prog_10_method_3_code 1 = .ok (.bipush 13, 2) := by decide +kernel
theorem d_Sh_size_3 : decode prog_10_method_3_code 3 = .ok (.invokestatic 9, 3) := by decide +kernel
theorem d_Sh_size_6 : decode prog_10_method_3_code 6 = .ok (.aload_n 0, 1) := by decide +kernel
theorem d_Sh_size_7 : decode prog_10_method_3_code 7 = .ok (.aload_n 1, 1) := by decide +kernel
theorem d_Sh_size_8 : decode prog_10_method_3_code 8 = .ok (.iload_n 2, 1) := by decide +kernel
theorem d_Sh_size_9 : decode prog_10_method_3_code 9 = .ok (.invokespecial 15, 3) := by decide +kernel
theorem d_Sh_size_12 : decode prog_10_method_3_code 12 = .ok (.bipush 100, 2) := by decide +kernel
theorem d_Sh_size_14 : decode prog_10_method_3_code 14 = .ok (.isub, 1) := by decide +kernel
theorem d_Sh_size_15 : decode prog_10_method_3_code 15 = .ok (.ireturn, 1) := by decide +kernel
theorem d_Sh_mark_0 : decode prog_10_method_4_code 0 = .ok (.aload_n 1, 1) := by decide +kernel
theorem d_Sh_mark_1 : decode prog_10_method_4_code 1 = .ok (.bipush 23, 2) := by decide +kernel
theorem d_Sh_mark_3 : decode prog_10_method_4_code 3 = .ok (.invokestatic 9, 3) := by decide +kernel
theorem d_Sh_mark_6 : decode prog_10_method_4_code 6 = .ok (.aload_n 0, 1) := by decide +kernel
theorem d_Sh_mark_7 : decode prog_10_method_4_code 7 = .ok (.aload_n 1, 1) := by decide +kernel
theorem d_Sh_mark_8 : decode prog_10_method_4_code 8 = .ok (.iload_n 2, 1) := by decide +kernel
theorem d_Sh_mark_9 : decode prog_10_method_4_code 9 = .ok (.invokespecial 19, 3) := by decide +kernel
theorem d_Sh_mark_12 : decode prog_10_method_4_code 12 = .ok (.istore_n 3, 1) := by decide +kernel
theorem d_Sh_mark_13 : decode prog_10_method_4_code 13 = .ok (.iload_n 3, 1) := by decide +kernel
theorem d_Sh_mark_14 : decode prog_10_method_4_code 14 = .ok (.aload_n 0, 1) := by decide +kernel
theorem d_Sh_mark_15 : decode prog_10_method_4_code 15 = .ok (.aload_n 1, 1) := by decide +kernel
theorem d_Sh_mark_16 : decode prog_10_method_4_code 16 = .ok (.iload_n 2, 1) := by decide +kernel
theorem d_Sh_mark_17 : decode prog_10_method_4_code 17 = .ok (.invokevirtual 22, 3) := by decide +kernel
theorem d_Sh_mark_20 : decode prog_10_method_4_code 20 = .ok (.isub, 1) := by decide +kernel
theorem d_Sh_mark_21 : decode prog_10_method_4_code 21 = .ok (.ireturn, 1) := by decide +kernel
theorem d_Sw_init_0 : decode prog_11_method_1_code 0 = .ok (.aload_n 0, 1) := by decide +kernel
theorem d_Sw_init_1 : decode prog_11_method_1_code 1 = .ok (.iload_n 1, 1) := by decide +kernel
theorem d_Sw_init_2 : decode prog_11_method_1_code 2 = .ok (.iload_n 2, 1) := by decide +kernel
theorem d_Sw_init_3 : decode prog_11_method_1_code 3 = .ok (.iload_n 3, 1) := by decide +kernel
theorem d_Sw_init_4 : decode prog_11_method_1_code 4 = .ok (.invokespecial 1, 3) := by decide +kernel
theorem d_Sw_init_7 : decode prog_11_method_1_code 7 = .ok (.return_, 1) := by decide +kernel
theorem d_Sw_sort_0 : decode prog_11_method_2_code 0 = .ok (.iconst 1, 1) := by decide +kernel
theorem d_Sw_sort_1 : decode prog_11_method_2_code 1 = .ok (.ireturn, 1) := by decide +kernel
theorem d_Sw_size_0 : decode prog_11_method_3_code 0 = .ok (.aload_n 1, 1) := by decide +kernel
theorem d_Sw_size_1 : decode prog_11_method_3_code 1 = .ok (.bipush 11, 2) := by decide +kernel
theorem d_Sw_size_3 : decode prog_11_method_3_code 3 = .ok (.invokestatic 7, 3) := by decide +kernel
theorem d_Sw_size_6 : decode prog_11_method_3_code 6 = .ok (.aload_n 0, 1) := by decide +kernel
theorem d_Sw_size_7 : decode prog_11_method_3_code 7 = .ok (.aload_n 1, 1) := by decide +kernel
theorem d_Sw_size_8 : decode prog_11_method_3_code 8 = .ok (.iload_n 2, 1) := by decide +kernel
theorem d_Sw_size_9 : decode prog_11_method_3_code 9 = .ok (.invokespecial 13, 3) := by decide +kernel
theorem d_Sw_size_12 : decode prog_11_method_3_code 12 = .ok (.istore_n 3, 1) := by decide +kernel
theorem d_Sw_size_13 : decode prog_11_method_3_code 13 = .ok (.iload_n 3, 1) := by decide +kernel
theorem d_Sw_size_14 : decode prog_11_method_3_code 14 = .ok (.aload_n 0, 1) := by decide +kernel
theorem d_Sw_size_15 : decode prog_11_method_3_code 15 = .ok (.aload_n 1, 1) := by decide +kernel
theorem d_Sw_size_16 : decode prog_11_method_3_code 16 = .ok (.iload_n 2, 1) := by decide +kernel
theorem d_Sw_size_17 : decode prog_11_method_3_code 17 = .ok (.invokevirtual 17, 3) := by decide +kernel
theorem d_Sw_size_20 : decode prog_11_method_3_code 20 = .ok (.iadd, 1) := by decide +kernel
theorem d_Sw_size_21 : decode prog_11_method_3_code 21 = .ok (.ireturn, 1) := by decide +kernel
theorem d_Sw_mark_0 : decode prog_11_method_4_code 0 = .ok (.aload_n 1, 1) := by decide +kernel
theorem d_Sw_mark_1 : decode prog_11_method_4_code 1 = .ok (.bipush 21, 2) := by decide +kernel
theorem d_Sw_mark_3 : decode prog_11_method_4_code 3 = .ok (.invokestatic 7, 3) := by decide +kernel
theorem d_Sw_mark_6 : decode prog_11_method_4_code 6 = .ok (.aload_n 0, 1) := by decide +kernel
theorem d_Sw_mark_7 : decode prog_11_method_4_code 7 = .ok (.aload_n 1, 1) := by decide +kernel
theorem d_Sw_mark_8 : decode prog_11_method_4_code 8 = .ok (.iload_n 2, 1) := by decide +kernel
theorem d_Sw_mark_9 : decode prog_11_method_4_code 9 = .ok (.invokespecial 20, 3) := by decide +kernel
theorem d_Sw_mark_12 : decode prog_11_method_4_code 12 = .ok (.iload_n 2, 1) := by decide +kernel
theorem d_Sw_mark_13 : decode prog_11_method_4_code 13 = .ok (.iadd, 1) := by decide +kernel
theorem d_Sw_mark_14 : decode prog_11_method_4_code 14 = .ok (.ireturn, 1) := by decide +kernel
theorem d_T_init_0 : decode prog_12_method_1_code 0 = .ok (.aload_n 0, 1) := by decide +kernel
theorem d_T_init_1 : decode prog_12_method_1_code 1 = .ok (.invokespecial 3, 3) := by decide +kernel
theorem d_T_init_4 : decode prog_12_method_1_code 4 = .ok (.aload_n 0, 1) := by decide +kernel
theorem d_T_init_5 : decode prog_12_method_1_code 5 = .ok (.bipush 120, 2) := by decide +kernel
theorem d_T_init_7 : decode prog_12_method_1_code 7 = .ok (.newarray .int, 2) := by decide +kernel
theorem d_T_init_9 : decode prog_12_method_1_code 9 = .ok (.putfield 11, 3) := by decide +kernel
theorem d_T_init_12 : decode prog_12_method_1_code 12 = .ok (.return_, 1) := by decide +kernel
theorem d_T_length_0 : decode prog_12_method_2_code 0 = .ok (.aload_n 0, 1) := by decide +kernel
theorem d_T_length_1 : decode prog_12_method_2_code 1 = .ok (.getfield 15, 3) := by decide +kernel
theorem d_T_length_4 : decode prog_12_method_2_code 4 = .ok (.ireturn, 1) := by decide +kernel
theorem d_T_faultPlace_0 : decode prog_12_method_3_code 0 = .ok (.aload_n 0, 1) := by decide +kernel
theorem d_T_faultPlace_1 : decode prog_12_method_3_code 1 = .ok (.getfield 19, 3) := by decide +kernel
theorem d_T_faultPlace_4 : decode prog_12_method_3_code 4 = .ok (.ireturn, 1) := by decide +kernel
theorem d_T_latestFault_0 : decode prog_12_method_4_code 0 = .ok (.aload_n 0, 1) := by decide +kernel
theorem d_T_latestFault_1 : decode prog_12_method_4_code 1 = .ok (.getfield 22, 3) := by decide +kernel
theorem d_T_latestFault_4 : decode prog_12_method_4_code 4 = .ok (.ireturn, 1) := by decide +kernel
theorem d_T_append_0 : decode prog_12_method_5_code 0 = .ok (.aload_n 0, 1) := by decide +kernel
theorem d_T_append_1 : decode prog_12_method_5_code 1 = .ok (.getfield 15, 3) := by decide +kernel
theorem d_T_append_4 : decode prog_12_method_5_code 4 = .ok (.bipush 120, 2) := by decide +kernel
theorem d_T_append_6 : decode prog_12_method_5_code 6 = .ok (.if_icmp .lt 5, 3) := by decide +kernel
theorem d_T_append_9 : decode prog_12_method_5_code 9 = .ok (.iconst 0, 1) := by decide +kernel
theorem d_T_append_10 : decode prog_12_method_5_code 10 = .ok (.ireturn, 1) := by decide +kernel
theorem d_T_append_11 : decode prog_12_method_5_code 11 = .ok (.aload_n 0, 1) := by decide +kernel
theorem d_T_append_12 : decode prog_12_method_5_code 12 = .ok (.getfield 11, 3) := by decide +kernel
theorem d_T_append_15 : decode prog_12_method_5_code 15 = .ok (.aload_n 0, 1) := by decide +kernel
theorem d_T_append_16 : decode prog_12_method_5_code 16 = .ok (.getfield 15, 3) := by decide +kernel
theorem d_T_append_19 : decode prog_12_method_5_code 19 = .ok (.iload_n 1, 1) := by decide +kernel
theorem d_T_append_20 : decode prog_12_method_5_code 20 = .ok (.invokestatic 25, 3) := by decide +kernel
theorem d_T_append_23 : decode prog_12_method_5_code 23 = .ok (.aload_n 0, 1) := by decide +kernel
theorem d_T_append_24 : decode prog_12_method_5_code 24 = .ok (.dup, 1) := by decide +kernel
theorem d_T_append_25 : decode prog_12_method_5_code 25 = .ok (.getfield 15, 3) := by decide +kernel
theorem d_T_append_28 : decode prog_12_method_5_code 28 = .ok (.iconst 1, 1) := by decide +kernel
theorem d_T_append_29 : decode prog_12_method_5_code 29 = .ok (.iadd, 1) := by decide +kernel
theorem d_T_append_30 : decode prog_12_method_5_code 30 = .ok (.putfield 15, 3) := by decide +kernel
theorem d_T_append_33 : decode prog_12_method_5_code 33 = .ok (.iconst 1, 1) := by decide +kernel
theorem d_T_append_34 : decode prog_12_method_5_code 34 = .ok (.ireturn, 1) := by decide +kernel
theorem d_T_read_0 : decode prog_12_method_6_code 0 = .ok (.aload_n 0, 1) := by decide +kernel
theorem d_T_read_1 : decode prog_12_method_6_code 1 = .ok (.iconst 0, 1) := by decide +kernel
theorem d_T_read_2 : decode prog_12_method_6_code 2 = .ok (.putfield 29, 3) := by decide +kernel
theorem d_T_read_5 : decode prog_12_method_6_code 5 = .ok (.aload_n 0, 1) := by decide +kernel
theorem d_T_read_6 : decode prog_12_method_6_code 6 = .ok (.iconst 0, 1) := by decide +kernel
theorem d_T_read_7 : decode prog_12_method_6_code 7 = .ok (.putfield 32, 3) := by decide +kernel
theorem d_T_read_10 : decode prog_12_method_6_code 10 = .ok (.aload_n 1, 1) := by decide +kernel
theorem d_T_read_11 : decode prog_12_method_6_code 11 = .ok (.invokevirtual 35, 3) := by decide +kernel
theorem d_T_read_14 : decode prog_12_method_6_code 14 = .ok (.aload_n 0, 1) := by decide +kernel
theorem d_T_read_15 : decode prog_12_method_6_code 15 = .ok (.aload_n 1, 1) := by decide +kernel
theorem d_T_read_16 : decode prog_12_method_6_code 16 = .ok (.invokevirtual 40, 3) := by decide +kernel
theorem d_T_read_19 : decode prog_12_method_6_code 19 = .ok (.aload_n 0, 1) := by decide +kernel
theorem d_T_read_20 : decode prog_12_method_6_code 20 = .ok (.aload_n 1, 1) := by decide +kernel
theorem d_T_read_21 : decode prog_12_method_6_code 21 = .ok (.invokevirtual 44, 3) := by decide +kernel
theorem d_T_read_24 : decode prog_12_method_6_code 24 = .ok (.aload_n 0, 1) := by decide +kernel
theorem d_T_read_25 : decode prog_12_method_6_code 25 = .ok (.aload_n 1, 1) := by decide +kernel
theorem d_T_read_26 : decode prog_12_method_6_code 26 = .ok (.invokevirtual 47, 3) := by decide +kernel
theorem d_T_read_29 : decode prog_12_method_6_code 29 = .ok (.aload_n 0, 1) := by decide +kernel
theorem d_T_read_30 : decode prog_12_method_6_code 30 = .ok (.aload_n 1, 1) := by decide +kernel
theorem d_T_read_31 : decode prog_12_method_6_code 31 = .ok (.invokevirtual 50, 3) := by decide +kernel
theorem d_T_read_34 : decode prog_12_method_6_code 34 = .ok (.aload_n 0, 1) := by decide +kernel
theorem d_T_read_35 : decode prog_12_method_6_code 35 = .ok (.aload_n 1, 1) := by decide +kernel
theorem d_T_read_36 : decode prog_12_method_6_code 36 = .ok (.invokevirtual 53, 3) := by decide +kernel
theorem d_T_read_39 : decode prog_12_method_6_code 39 = .ok (.aload_n 0, 1) := by decide +kernel
theorem d_T_read_40 : decode prog_12_method_6_code 40 = .ok (.iconst 0, 1) := by decide +kernel
theorem d_T_read_41 : decode prog_12_method_6_code 41 = .ok (.putfield 15, 3) := by decide +kernel
theorem d_T_read_44 : decode prog_12_method_6_code 44 = .ok (.aload_n 0, 1) := by decide +kernel
theorem d_T_read_45 : decode prog_12_method_6_code 45 = .ok (.getfield 32, 3) := by decide +kernel
theorem d_T_read_48 : decode prog_12_method_6_code 48 = .ok (.ifCond .ne 7, 3) := by decide +kernel
theorem d_T_read_51 : decode prog_12_method_6_code 51 = .ok (.iconst 1, 1) := by decide +kernel
theorem d_T_read_52 : decode prog_12_method_6_code 52 = .ok (.goto 4, 3) := by decide +kernel
theorem d_T_read_55 : decode prog_12_method_6_code 55 = .ok (.iconst 0, 1) := by decide +kernel
theorem d_T_read_56 : decode prog_12_method_6_code 56 = .ok (.ireturn, 1) := by decide +kernel
theorem d_T_readLaw_0 : decode prog_12_method_7_code 0 = .ok (.aload_n 0, 1) := by decide +kernel
theorem d_T_readLaw_1 : decode prog_12_method_7_code 1 = .ok (.bipush 119, 2) := by decide +kernel
theorem d_T_readLaw_3 : decode prog_12_method_7_code 3 = .ok (.invokevirtual 56, 3) := by decide +kernel
theorem d_T_readLaw_6 : decode prog_12_method_7_code 6 = .ok (.aload_n 1, 1) := by decide +kernel
theorem d_T_readLaw_7 : decode prog_12_method_7_code 7 = .ok (.aload_n 0, 1) := by decide +kernel
theorem d_T_readLaw_8 : decode prog_12_method_7_code 8 = .ok (.iconst 0, 1) := by decide +kernel
theorem d_T_readLaw_9 : decode prog_12_method_7_code 9 = .ok (.bipush 8, 2) := by decide +kernel
theorem d_T_readLaw_11 : decode prog_12_method_7_code 11 = .ok (.invokevirtual 60, 3) := by decide +kernel
theorem d_T_readLaw_14 : decode prog_12_method_7_code 14 = .ok (.putfield 64, 3) := by decide +kernel
theorem d_T_readLaw_17 : decode prog_12_method_7_code 17 = .ok (.aload_n 0, 1) := by decide +kernel
theorem d_T_readLaw_18 : decode prog_12_method_7_code 18 = .ok (.bipush 44, 2) := by decide +kernel
theorem d_T_readLaw_20 : decode prog_12_method_7_code 20 = .ok (.invokevirtual 56, 3) := by decide +kernel
theorem d_T_readLaw_23 : decode prog_12_method_7_code 23 = .ok (.aload_n 1, 1) := by decide +kernel
theorem d_T_readLaw_24 : decode prog_12_method_7_code 24 = .ok (.aload_n 0, 1) := by decide +kernel
theorem d_T_readLaw_25 : decode prog_12_method_7_code 25 = .ok (.iconst 1, 1) := by decide +kernel
theorem d_T_readLaw_26 : decode prog_12_method_7_code 26 = .ok (.iconst 5, 1) := by decide +kernel
theorem d_T_readLaw_27 : decode prog_12_method_7_code 27 = .ok (.invokevirtual 60, 3) := by decide +kernel
theorem d_T_readLaw_30 : decode prog_12_method_7_code 30 = .ok (.putfield 67, 3) := by decide +kernel
theorem d_T_readLaw_33 : decode prog_12_method_7_code 33 = .ok (.aload_n 0, 1) := by decide +kernel
theorem d_T_readLaw_34 : decode prog_12_method_7_code 34 = .ok (.bipush 44, 2) := by decide +kernel
theorem d_T_readLaw_36 : decode prog_12_method_7_code 36 = .ok (.invokevirtual 56, 3) := by decide +kernel
theorem d_T_readLaw_39 : decode prog_12_method_7_code 39 = .ok (.aload_n 1, 1) := by decide +kernel
theorem d_T_readLaw_40 : decode prog_12_method_7_code 40 = .ok (.aload_n 0, 1) := by decide +kernel
theorem d_T_readLaw_41 : decode prog_12_method_7_code 41 = .ok (.iconst 0, 1) := by decide +kernel
theorem d_T_readLaw_42 : decode prog_12_method_7_code 42 = .ok (.iconst 3, 1) := by decide +kernel
theorem d_T_readLaw_43 : decode prog_12_method_7_code 43 = .ok (.invokevirtual 60, 3) := by decide +kernel
theorem d_T_readLaw_46 : decode prog_12_method_7_code 46 = .ok (.putfield 70, 3) := by decide +kernel
theorem d_T_readLaw_49 : decode prog_12_method_7_code 49 = .ok (.aload_n 0, 1) := by decide +kernel
theorem d_T_readLaw_50 : decode prog_12_method_7_code 50 = .ok (.bipush 59, 2) := by decide +kernel
theorem d_T_readLaw_52 : decode prog_12_method_7_code 52 = .ok (.invokevirtual 56, 3) := by decide +kernel
theorem d_T_readLaw_55 : decode prog_12_method_7_code 55 = .ok (.return_, 1) := by decide +kernel
theorem d_T_readDepths_0 : decode prog_12_method_8_code 0 = .ok (.aload_n 0, 1) := by decide +kernel
theorem d_T_readDepths_1 : decode prog_12_method_8_code 1 = .ok (.bipush 100, 2) := by decide +kernel
theorem d_T_readDepths_3 : decode prog_12_method_8_code 3 = .ok (.invokevirtual 56, 3) := by decide +kernel
theorem d_T_readDepths_6 : decode prog_12_method_8_code 6 = .ok (.iconst 0, 1) := by decide +kernel
theorem d_T_readDepths_7 : decode prog_12_method_8_code 7 = .ok (.istore_n 2, 1) := by decide +kernel
theorem d_T_readDepths_8 : decode prog_12_method_8_code 8 = .ok (.iload_n 2, 1) := by decide +kernel
theorem d_T_readDepths_9 : decode prog_12_method_8_code 9 = .ok (.bipush 24, 2) := by decide +kernel
theorem d_T_readDepths_11 : decode prog_12_method_8_code 11 = .ok (.if_icmp .ge 21, 3) := by decide +kernel
theorem d_T_readDepths_14 : decode prog_12_method_8_code 14 = .ok (.aload_n 1, 1) := by decide +kernel
theorem d_T_readDepths_15 : decode prog_12_method_8_code 15 = .ok (.getfield 73, 3) := by decide +kernel
theorem d_T_readDepths_18 : decode prog_12_method_8_code 18 = .ok (.iload_n 2, 1) := by decide +kernel
theorem d_T_readDepths_19 : decode prog_12_method_8_code 19 = .ok (.aload_n 0, 1) := by decide +kernel
theorem d_T_readDepths_20 : decode prog_12_method_8_code 20 = .ok (.invokevirtual 76, 3) := by decide +kernel
theorem d_T_readDepths_23 : decode prog_12_method_8_code 23 = .ok (.invokestatic 25, 3) := by decide +kernel
theorem d_T_readDepths_26 : decode prog_12_method_8_code 26 = .ok (.iinc 2 1, 3) := by decide +kernel
theorem d_T_readDepths_29 : decode prog_12_method_8_code 29 = .ok (.goto (-21), 3) := by decide +kernel
theorem d_T_readDepths_32 : decode prog_12_method_8_code 32 = .ok (.aload_n 0, 1) := by decide +kernel
theorem d_T_readDepths_33 : decode prog_12_method_8_code 33 = .ok (.bipush 59, 2) := by decide +kernel
theorem d_T_readDepths_35 : decode prog_12_method_8_code 35 = .ok (.invokevirtual 56, 3) := by decide +kernel
theorem d_T_readDepths_38 : decode prog_12_method_8_code 38 = .ok (.return_, 1) := by decide +kernel
theorem d_T_readBoat_0 : decode prog_12_method_9_code 0 = .ok (.aload_n 0, 1) := by decide +kernel
theorem d_T_readBoat_1 : decode prog_12_method_9_code 1 = .ok (.bipush 98, 2) := by decide +kernel
theorem d_T_readBoat_3 : decode prog_12_method_9_code 3 = .ok (.invokevirtual 56, 3) := by decide +kernel
theorem d_T_readBoat_6 : decode prog_12_method_9_code 6 = .ok (.aload_n 1, 1) := by decide +kernel
theorem d_T_readBoat_7 : decode prog_12_method_9_code 7 = .ok (.aload_n 0, 1) := by decide +kernel
theorem d_T_readBoat_8 : decode prog_12_method_9_code 8 = .ok (.iconst 0, 1) := by decide +kernel
theorem d_T_readBoat_9 : decode prog_12_method_9_code 9 = .ok (.bipush 23, 2) := by decide +kernel
theorem d_T_readBoat_11 : decode prog_12_method_9_code 11 = .ok (.invokevirtual 60, 3) := by decide +kernel
theorem d_T_readBoat_14 : decode prog_12_method_9_code 14 = .ok (.putfield 80, 3) := by decide +kernel
theorem d_T_readBoat_17 : decode prog_12_method_9_code 17 = .ok (.aload_n 0, 1) := by decide +kernel
theorem d_T_readBoat_18 : decode prog_12_method_9_code 18 = .ok (.bipush 44, 2) := by decide +kernel
theorem d_T_readBoat_20 : decode prog_12_method_9_code 20 = .ok (.invokevirtual 56, 3) := by decide +kernel
theorem d_T_readBoat_23 : decode prog_12_method_9_code 23 = .ok (.aload_n 1, 1) := by decide +kernel
theorem d_T_readBoat_24 : decode prog_12_method_9_code 24 = .ok (.aload_n 0, 1) := by decide +kernel
theorem d_T_readBoat_25 : decode prog_12_method_9_code 25 = .ok (.iconst 0, 1) := by decide +kernel
theorem d_T_readBoat_26 : decode prog_12_method_9_code 26 = .ok (.bipush 7, 2) := by decide +kernel
theorem d_T_readBoat_28 : decode prog_12_method_9_code 28 = .ok (.invokevirtual 60, 3) := by decide +kernel
theorem d_T_readBoat_31 : decode prog_12_method_9_code 31 = .ok (.putfield 83, 3) := by decide +kernel
theorem d_T_readBoat_34 : decode prog_12_method_9_code 34 = .ok (.aload_n 0, 1) := by decide +kernel
theorem d_T_readBoat_35 : decode prog_12_method_9_code 35 = .ok (.bipush 59, 2) := by decide +kernel
theorem d_T_readBoat_37 : decode prog_12_method_9_code 37 = .ok (.invokevirtual 56, 3) := by decide +kernel
theorem d_T_readBoat_40 : decode prog_12_method_9_code 40 = .ok (.return_, 1) := by decide +kernel
theorem d_T_readMoored_0 : decode prog_12_method_10_code 0 = .ok (.iconst 0, 1) := by decide +kernel
theorem d_T_readMoored_1 : decode prog_12_method_10_code 1 = .ok (.istore_n 2, 1) := by decide +kernel
theorem d_T_readMoored_2 : decode prog_12_method_10_code 2 = .ok (.iload_n 2, 1) := by decide +kernel
theorem d_T_readMoored_3 : decode prog_12_method_10_code 3 = .ok (.iconst 4, 1) := by decide +kernel
theorem d_T_readMoored_4 : decode prog_12_method_10_code 4 = .ok (.if_icmp .gt 108, 3) := by decide +kernel
theorem d_T_readMoored_7 : decode prog_12_method_10_code 7 = .ok (.aload_n 0, 1) := by decide +kernel
theorem d_T_readMoored_8 : decode prog_12_method_10_code 8 = .ok (.getfield 32, 3) := by decide +kernel
theorem d_T_readMoored_11 : decode prog_12_method_10_code 11 = .ok (.ifCond .ne 101, 3) := by decide +kernel
theorem d_T_readMoored_14 : decode prog_12_method_10_code 14 = .ok (.aload_n 0, 1) := by decide +kernel
theorem d_T_readMoored_15 : decode prog_12_method_10_code 15 = .ok (.aload_n 0, 1) := by decide +kernel
theorem d_T_readMoored_16 : decode prog_12_method_10_code 16 = .ok (.getfield 29, 3) := by decide +kernel
theorem d_T_readMoored_19 : decode prog_12_method_10_code 19 = .ok (.invokevirtual 86, 3) := by decide +kernel
theorem d_T_readMoored_22 : decode prog_12_method_10_code 22 = .ok (.bipush 109, 2) := by decide +kernel
theorem d_T_readMoored_24 : decode prog_12_method_10_code 24 = .ok (.if_icmp .ne 88, 3) := by decide +kernel
theorem d_T_readMoored_27 : decode prog_12_method_10_code 27 = .ok (.iload_n 2, 1) := by decide +kernel
theorem d_T_readMoored_28 : decode prog_12_method_10_code 28 = .ok (.iconst 4, 1) := by decide +kernel
theorem d_T_readMoored_29 : decode prog_12_method_10_code 29 = .ok (.if_icmp .ne 12, 3) := by decide +kernel
theorem d_T_readMoored_32 : decode prog_12_method_10_code 32 = .ok (.aload_n 0, 1) := by decide +kernel
theorem d_T_readMoored_33 : decode prog_12_method_10_code 33 = .ok (.iconst 3, 1) := by decide +kernel
theorem d_T_readMoored_34 : decode prog_12_method_10_code 34 = .ok (.aload_n 0, 1) := by decide +kernel
theorem d_T_readMoored_35 : decode prog_12_method_10_code 35 = .ok (.getfield 29, 3) := by decide +kernel
theorem d_T_readMoored_38 : decode prog_12_method_10_code 38 = .ok (.invokevirtual 90, 3) := by decide +kernel
theorem d_T_readMoored_41 : decode prog_12_method_10_code 41 = .ok (.aload_n 0, 1) := by decide +kernel
theorem d_T_readMoored_42 : decode prog_12_method_10_code 42 = .ok (.bipush 109, 2) := by decide +kernel
theorem d_T_readMoored_44 : decode prog_12_method_10_code 44 = .ok (.invokevirtual 56, 3) := by decide +kernel
theorem d_T_readMoored_47 : decode prog_12_method_10_code 47 = .ok (.aload_n 0, 1) := by decide +kernel
theorem d_T_readMoored_48 : decode prog_12_method_10_code 48 = .ok (.getfield 29, 3) := by decide +kernel
theorem d_T_readMoored_51 : decode prog_12_method_10_code 51 = .ok (.istore_n 3, 1) := by decide +kernel
theorem d_T_readMoored_52 : decode prog_12_method_10_code 52 = .ok (.aload_n 0, 1) := by decide +kernel
theorem d_T_readMoored_53 : decode prog_12_method_10_code 53 = .ok (.iconst 0, 1) := by decide +kernel
theorem d_T_readMoored_54 : decode prog_12_method_10_code 54 = .ok (.bipush 23, 2) := by decide +kernel
theorem d_T_readMoored_56 : decode prog_12_method_10_code 56 = .ok (.invokevirtual 60, 3) := by decide +kernel
theorem d_T_readMoored_59 : decode prog_12_method_10_code 59 = .ok (.istore 4, 2) := by decide +kernel
theorem d_T_readMoored_61 : decode prog_12_method_10_code 61 = .ok (.aload_n 0, 1) := by decide +kernel
theorem d_T_readMoored_62 : decode prog_12_method_10_code 62 = .ok (.getfield 32, 3) := by decide +kernel
theorem d_T_readMoored_65 : decode prog_12_method_10_code 65 = .ok (.ifCond .ne 22, 3) := by decide +kernel
theorem d_T_readMoored_68 : decode prog_12_method_10_code 68 = .ok (.aload_n 1, 1) := by decide +kernel
theorem d_T_readMoored_69 : decode prog_12_method_10_code 69 = .ok (.getfield 94, 3) := by decide +kernel
theorem d_T_readMoored_72 : decode prog_12_method_10_code 72 = .ok (.iload 4, 2) := by decide +kernel
theorem d_T_readMoored_74 : decode prog_12_method_10_code 74 = .ok (.invokestatic 97, 3) := by decide +kernel
theorem d_T_readMoored_77 : decode prog_12_method_10_code 77 = .ok (.iconst 1, 1) := by decide +kernel
theorem d_T_readMoored_78 : decode prog_12_method_10_code 78 = .ok (.if_icmp .ne 9, 3) := by decide +kernel
theorem d_T_readMoored_81 : decode prog_12_method_10_code 81 = .ok (.aload_n 0, 1) := by decide +kernel
theorem d_T_readMoored_82 : decode prog_12_method_10_code 82 = .ok (.iconst 2, 1) := by decide +kernel
theorem d_T_readMoored_83 : decode prog_12_method_10_code 83 = .ok (.iload_n 3, 1) := by decide +kernel
theorem d_T_readMoored_84 : decode prog_12_method_10_code 84 = .ok (.invokevirtual 90, 3) := by decide +kernel
theorem d_T_readMoored_87 : decode prog_12_method_10_code 87 = .ok (.aload_n 1, 1) := by decide +kernel
theorem d_T_readMoored_88 : decode prog_12_method_10_code 88 = .ok (.dup, 1) := by decide +kernel
theorem d_T_readMoored_89 : decode prog_12_method_10_code 89 = .ok (.getfield 94, 3) := by decide +kernel
theorem d_T_readMoored_92 : decode prog_12_method_10_code 92 = .ok (.iconst 1, 1) := by decide +kernel
theorem d_T_readMoored_93 : decode prog_12_method_10_code 93 = .ok (.iload 4, 2) := by decide +kernel
theorem d_T_readMoored_95 : decode prog_12_method_10_code 95 = .ok (.ishl, 1) := by decide +kernel
theorem d_T_readMoored_96 : decode prog_12_method_10_code 96 = .ok (.ior, 1) := by decide +kernel
theorem d_T_readMoored_97 : decode prog_12_method_10_code 97 = .ok (.putfield 94, 3) := by decide +kernel
theorem d_T_readMoored_100 : decode prog_12_method_10_code 100 = .ok (.aload_n 0, 1) := by decide +kernel
theorem d_T_readMoored_101 : decode prog_12_method_10_code 101 = .ok (.bipush 59, 2) := by decide +kernel
theorem d_T_readMoored_103 : decode prog_12_method_10_code 103 = .ok (.invokevirtual 56, 3) := by decide +kernel
theorem d_T_readMoored_106 : decode prog_12_method_10_code 106 = .ok (.iinc 2 1, 3) := by decide +kernel
theorem d_T_readMoored_109 : decode prog_12_method_10_code 109 = .ok (.goto (-107), 3) := by decide +kernel
theorem d_T_readMoored_112 : decode prog_12_method_10_code 112 = .ok (.return_, 1) := by decide +kernel
theorem d_T_readHands_0 : decode prog_12_method_11_code 0 = .ok (.iconst 0, 1) := by decide +kernel
theorem d_T_readHands_1 : decode prog_12_method_11_code 1 = .ok (.istore_n 2, 1) := by decide +kernel
theorem d_T_readHands_2 : decode prog_12_method_11_code 2 = .ok (.iload_n 2, 1) := by decide +kernel
theorem d_T_readHands_3 : decode prog_12_method_11_code 3 = .ok (.iconst 4, 1) := by decide +kernel
theorem d_T_readHands_4 : decode prog_12_method_11_code 4 = .ok (.if_icmp .gt 108, 3) := by decide +kernel
theorem d_T_readHands_7 : decode prog_12_method_11_code 7 = .ok (.aload_n 0, 1) := by decide +kernel
theorem d_T_readHands_8 : decode prog_12_method_11_code 8 = .ok (.getfield 32, 3) := by decide +kernel
theorem d_T_readHands_11 : decode prog_12_method_11_code 11 = .ok (.ifCond .ne 101, 3) := by decide +kernel
theorem d_T_readHands_14 : decode prog_12_method_11_code 14 = .ok (.aload_n 0, 1) := by decide +kernel
theorem d_T_readHands_15 : decode prog_12_method_11_code 15 = .ok (.aload_n 0, 1) := by decide +kernel
theorem d_T_readHands_16 : decode prog_12_method_11_code 16 = .ok (.getfield 29, 3) := by decide +kernel
theorem d_T_readHands_19 : decode prog_12_method_11_code 19 = .ok (.invokevirtual 86, 3) := by decide +kernel
theorem d_T_readHands_22 : decode prog_12_method_11_code 22 = .ok (.iconst (-1), 1) := by decide +kernel
theorem d_T_readHands_23 : decode prog_12_method_11_code 23 = .ok (.if_icmp .eq 89, 3) := by decide +kernel
theorem d_T_readHands_26 : decode prog_12_method_11_code 26 = .ok (.aload_n 0, 1) := by decide +kernel
theorem d_T_readHands_27 : decode prog_12_method_11_code 27 = .ok (.aload_n 0, 1) := by decide +kernel
theorem d_T_readHands_28 : decode prog_12_method_11_code 28 = .ok (.getfield 29, 3) := by decide +kernel
theorem d_T_readHands_31 : decode prog_12_method_11_code 31 = .ok (.invokevirtual 86, 3) := by decide +kernel
theorem d_T_readHands_34 : decode prog_12_method_11_code 34 = .ok (.istore_n 3, 1) := by decide +kernel
theorem d_T_readHands_35 : decode prog_12_method_11_code 35 = .ok (.iload_n 3, 1) := by decide +kernel
theorem d_T_readHands_36 : decode prog_12_method_11_code 36 = .ok (.invokestatic 100, 3) := by decide +kernel
theorem d_T_readHands_39 : decode prog_12_method_11_code 39 = .ok (.ifCond .ne 15, 3) := by decide +kernel
theorem d_T_readHands_42 : decode prog_12_method_11_code 42 = .ok (.aload_n 0, 1) := by decide +kernel
theorem d_T_readHands_43 : decode prog_12_method_11_code 43 = .ok (.iconst 1, 1) := by decide +kernel
theorem d_T_readHands_44 : decode prog_12_method_11_code 44 = .ok (.aload_n 0, 1) := by decide +kernel
theorem d_T_readHands_45 : decode prog_12_method_11_code 45 = .ok (.getfield 29, 3) := by decide +kernel
theorem d_T_readHands_48 : decode prog_12_method_11_code 48 = .ok (.invokevirtual 90, 3) := by decide +kernel
theorem d_T_readHands_51 : decode prog_12_method_11_code 51 = .ok (.goto 17, 3) := by decide +kernel
theorem d_T_readHands_54 : decode prog_12_method_11_code 54 = .ok (.iload_n 2, 1) := by decide +kernel
theorem d_T_readHands_55 : decode prog_12_method_11_code 55 = .ok (.iconst 4, 1) := by decide +kernel
theorem d_T_readHands_56 : decode prog_12_method_11_code 56 = .ok (.if_icmp .ne 12, 3) := by decide +kernel
theorem d_T_readHands_59 : decode prog_12_method_11_code 59 = .ok (.aload_n 0, 1) := by decide +kernel
theorem d_T_readHands_60 : decode prog_12_method_11_code 60 = .ok (.iconst 3, 1) := by decide +kernel
theorem d_T_readHands_61 : decode prog_12_method_11_code 61 = .ok (.aload_n 0, 1) := by decide +kernel
theorem d_T_readHands_62 : decode prog_12_method_11_code 62 = .ok (.getfield 29, 3) := by decide +kernel
theorem d_T_readHands_65 : decode prog_12_method_11_code 65 = .ok (.invokevirtual 90, 3) := by decide +kernel
theorem d_T_readHands_68 : decode prog_12_method_11_code 68 = .ok (.aload_n 0, 1) := by decide +kernel
theorem d_T_readHands_69 : decode prog_12_method_11_code 69 = .ok (.iload_n 3, 1) := by decide +kernel
theorem d_T_readHands_70 : decode prog_12_method_11_code 70 = .ok (.invokevirtual 56, 3) := by decide +kernel
theorem d_T_readHands_73 : decode prog_12_method_11_code 73 = .ok (.aload_n 0, 1) := by decide +kernel
theorem d_T_readHands_74 : decode prog_12_method_11_code 74 = .ok (.iconst 1, 1) := by decide +kernel
theorem d_T_readHands_75 : decode prog_12_method_11_code 75 = .ok (.bipush 20, 2) := by decide +kernel
theorem d_T_readHands_77 : decode prog_12_method_11_code 77 = .ok (.invokevirtual 60, 3) := by decide +kernel
theorem d_T_readHands_80 : decode prog_12_method_11_code 80 = .ok (.istore 4, 2) := by decide +kernel
theorem d_T_readHands_82 : decode prog_12_method_11_code 82 = .ok (.aload_n 0, 1) := by decide +kernel
theorem d_T_readHands_83 : decode prog_12_method_11_code 83 = .ok (.bipush 59, 2) := by decide +kernel
theorem d_T_readHands_85 : decode prog_12_method_11_code 85 = .ok (.invokevirtual 56, 3) := by decide +kernel
theorem d_T_readHands_88 : decode prog_12_method_11_code 88 = .ok (.aload_n 0, 1) := by decide +kernel
theorem d_T_readHands_89 : decode prog_12_method_11_code 89 = .ok (.getfield 32, 3) := by decide +kernel
theorem d_T_readHands_92 : decode prog_12_method_11_code 92 = .ok (.ifCond .ne 14, 3) := by decide +kernel
theorem d_T_readHands_95 : decode prog_12_method_11_code 95 = .ok (.aload_n 1, 1) := by decide +kernel
theorem d_T_readHands_96 : decode prog_12_method_11_code 96 = .ok (.iload_n 3, 1) := by decide +kernel
theorem d_T_readHands_97 : decode prog_12_method_11_code 97 = .ok (.iload_n 2, 1) := by decide +kernel
theorem d_T_readHands_98 : decode prog_12_method_11_code 98 = .ok (.iload 4, 2) := by decide +kernel
theorem d_T_readHands_100 : decode prog_12_method_11_code 100 = .ok (.invokestatic 104, 3) := by decide +kernel
theorem d_T_readHands_103 : decode prog_12_method_11_code 103 = .ok (.invokevirtual 108, 3) := by decide +kernel
theorem d_T_readHands_106 : decode prog_12_method_11_code 106 = .ok (.iinc 2 1, 3) := by decide +kernel
theorem d_T_readHands_109 : decode prog_12_method_11_code 109 = .ok (.goto (-107), 3) := by decide +kernel
theorem d_T_readHands_112 : decode prog_12_method_11_code 112 = .ok (.return_, 1) := by decide +kernel
theorem d_T_readLetter_0 : decode prog_12_method_12_code 0 = .ok (.aload_n 0, 1) := by decide +kernel
theorem d_T_readLetter_1 : decode prog_12_method_12_code 1 = .ok (.aload_n 0, 1) := by decide +kernel
theorem d_T_readLetter_2 : decode prog_12_method_12_code 2 = .ok (.getfield 29, 3) := by decide +kernel
theorem d_T_readLetter_5 : decode prog_12_method_12_code 5 = .ok (.invokevirtual 86, 3) := by decide +kernel
theorem d_T_readLetter_8 : decode prog_12_method_12_code 8 = .ok (.iload_n 1, 1) := by decide +kernel
theorem d_T_readLetter_9 : decode prog_12_method_12_code 9 = .ok (.if_icmp .eq 15, 3) := by decide +kernel
theorem d_T_readLetter_12 : decode prog_12_method_12_code 12 = .ok (.aload_n 0, 1) := by decide +kernel
theorem d_T_readLetter_13 : decode prog_12_method_12_code 13 = .ok (.iconst 1, 1) := by decide +kernel
theorem d_T_readLetter_14 : decode prog_12_method_12_code 14 = .ok (.aload_n 0, 1) := by decide +kernel
theorem d_T_readLetter_15 : decode prog_12_method_12_code 15 = .ok (.getfield 29, 3) := by decide +kernel
theorem d_T_readLetter_18 : decode prog_12_method_12_code 18 = .ok (.invokevirtual 90, 3) := by decide +kernel
theorem d_T_readLetter_21 : decode prog_12_method_12_code 21 = .ok (.goto 20, 3) := by decide +kernel
theorem d_T_readLetter_24 : decode prog_12_method_12_code 24 = .ok (.aload_n 0, 1) := by decide +kernel
theorem d_T_readLetter_25 : decode prog_12_method_12_code 25 = .ok (.getfield 32, 3) := by decide +kernel
theorem d_T_readLetter_28 : decode prog_12_method_12_code 28 = .ok (.ifCond .ne 13, 3) := by decide +kernel
theorem d_T_readLetter_31 : decode prog_12_method_12_code 31 = .ok (.aload_n 0, 1) := by decide +kernel
theorem d_T_readLetter_32 : decode prog_12_method_12_code 32 = .ok (.dup, 1) := by decide +kernel
theorem d_T_readLetter_33 : decode prog_12_method_12_code 33 = .ok (.getfield 29, 3) := by decide +kernel
theorem d_T_readLetter_36 : decode prog_12_method_12_code 36 = .ok (.iconst 1, 1) := by decide +kernel
theorem d_T_readLetter_37 : decode prog_12_method_12_code 37 = .ok (.iadd, 1) := by decide +kernel
theorem d_T_readLetter_38 : decode prog_12_method_12_code 38 = .ok (.putfield 29, 3) := by decide +kernel
theorem d_T_readLetter_41 : decode prog_12_method_12_code 41 = .ok (.return_, 1) := by decide +kernel
theorem d_T_readDepth_0 : decode prog_12_method_13_code 0 = .ok (.aload_n 0, 1) := by decide +kernel
theorem d_T_readDepth_1 : decode prog_12_method_13_code 1 = .ok (.aload_n 0, 1) := by decide +kernel
theorem d_T_readDepth_2 : decode prog_12_method_13_code 2 = .ok (.getfield 29, 3) := by decide +kernel
theorem d_T_readDepth_5 : decode prog_12_method_13_code 5 = .ok (.invokevirtual 86, 3) := by decide +kernel
theorem d_T_readDepth_8 : decode prog_12_method_13_code 8 = .ok (.bipush 97, 2) := by decide +kernel
theorem d_T_readDepth_10 : decode prog_12_method_13_code 10 = .ok (.isub, 1) := by decide +kernel
theorem d_T_readDepth_11 : decode prog_12_method_13_code 11 = .ok (.istore_n 1, 1) := by decide +kernel
theorem d_T_readDepth_12 : decode prog_12_method_13_code 12 = .ok (.iload_n 1, 1) := by decide +kernel
theorem d_T_readDepth_13 : decode prog_12_method_13_code 13 = .ok (.ifCond .lt 9, 3) := by decide +kernel
theorem d_T_readDepth_16 : decode prog_12_method_13_code 16 = .ok (.iload_n 1, 1) := by decide +kernel
theorem d_T_readDepth_17 : decode prog_12_method_13_code 17 = .ok (.bipush 9, 2) := by decide +kernel
theorem d_T_readDepth_19 : decode prog_12_method_13_code 19 = .ok (.if_icmp .le 14, 3) := by decide +kernel
theorem d_T_readDepth_22 : decode prog_12_method_13_code 22 = .ok (.aload_n 0, 1) := by decide +kernel
theorem d_T_readDepth_23 : decode prog_12_method_13_code 23 = .ok (.iconst 1, 1) := by decide +kernel
theorem d_T_readDepth_24 : decode prog_12_method_13_code 24 = .ok (.aload_n 0, 1) := by decide +kernel
theorem d_T_readDepth_25 : decode prog_12_method_13_code 25 = .ok (.getfield 29, 3) := by decide +kernel
theorem d_T_readDepth_28 : decode prog_12_method_13_code 28 = .ok (.invokevirtual 90, 3) := by decide +kernel
theorem d_T_readDepth_31 : decode prog_12_method_13_code 31 = .ok (.iconst 0, 1) := by decide +kernel
theorem d_T_readDepth_32 : decode prog_12_method_13_code 32 = .ok (.ireturn, 1) := by decide +kernel
theorem d_T_readDepth_33 : decode prog_12_method_13_code 33 = .ok (.aload_n 0, 1) := by decide +kernel
theorem d_T_readDepth_34 : decode prog_12_method_13_code 34 = .ok (.dup, 1) := by decide +kernel
theorem d_T_readDepth_35 : decode prog_12_method_13_code 35 = .ok (.getfield 29, 3) := by decide +kernel
theorem d_T_readDepth_38 : decode prog_12_method_13_code 38 = .ok (.iconst 1, 1) := by decide +kernel
theorem d_T_readDepth_39 : decode prog_12_method_13_code 39 = .ok (.iadd, 1) := by decide +kernel
theorem d_T_readDepth_40 : decode prog_12_method_13_code 40 = .ok (.putfield 29, 3) := by decide +kernel
theorem d_T_readDepth_43 : decode prog_12_method_13_code 43 = .ok (.iload_n 1, 1) := by decide +kernel
theorem d_T_readDepth_44 : decode prog_12_method_13_code 44 = .ok (.ireturn, 1) := by decide +kernel
theorem d_T_readNumber_0 : decode prog_12_method_14_code 0 = .ok (.iconst 0, 1) := by decide +kernel
theorem d_T_readNumber_1 : decode prog_12_method_14_code 1 = .ok (.istore_n 3, 1) := by decide +kernel
theorem d_T_readNumber_2 : decode prog_12_method_14_code 2 = .ok (.iconst 0, 1) := by decide +kernel
theorem d_T_readNumber_3 : decode prog_12_method_14_code 3 = .ok (.istore 4, 2) := by decide +kernel
theorem d_T_readNumber_5 : decode prog_12_method_14_code 5 = .ok (.aload_n 0, 1) := by decide +kernel
theorem d_T_readNumber_6 : decode prog_12_method_14_code 6 = .ok (.getfield 29, 3) := by decide +kernel
theorem d_T_readNumber_9 : decode prog_12_method_14_code 9 = .ok (.istore 5, 2) := by decide +kernel
theorem d_T_readNumber_11 : decode prog_12_method_14_code 11 = .ok (.iload 5, 2) := by decide +kernel
theorem d_T_readNumber_13 : decode prog_12_method_14_code 13 = .ok (.aload_n 0, 1) := by decide +kernel
theorem d_T_readNumber_14 : decode prog_12_method_14_code 14 = .ok (.getfield 29, 3) := by decide +kernel
theorem d_T_readNumber_17 : decode prog_12_method_14_code 17 = .ok (.iconst 3, 1) := by decide +kernel
theorem d_T_readNumber_18 : decode prog_12_method_14_code 18 = .ok (.iadd, 1) := by decide +kernel
theorem d_T_readNumber_19 : decode prog_12_method_14_code 19 = .ok (.if_icmp .ge 41, 3) := by decide +kernel
theorem d_T_readNumber_22 : decode prog_12_method_14_code 22 = .ok (.aload_n 0, 1) := by decide +kernel
theorem d_T_readNumber_23 : decode prog_12_method_14_code 23 = .ok (.iload 5, 2) := by decide +kernel
theorem d_T_readNumber_25 : decode prog_12_method_14_code 25 = .ok (.invokevirtual 86, 3) := by decide +kernel
theorem d_T_readNumber_28 : decode prog_12_method_14_code 28 = .ok (.invokestatic 112, 3) := by decide +kernel
theorem d_T_readNumber_31 : decode prog_12_method_14_code 31 = .ok (.ifCond .eq 29, 3) := by decide +kernel
theorem d_T_readNumber_34 : decode prog_12_method_14_code 34 = .ok (.iinc 3 1, 3) := by decide +kernel
theorem d_T_readNumber_37 : decode prog_12_method_14_code 37 = .ok (.bipush 10, 2) := by decide +kernel
theorem d_T_readNumber_39 : decode prog_12_method_14_code 39 = .ok (.iload 4, 2) := by decide +kernel
theorem d_T_readNumber_41 : decode prog_12_method_14_code 41 = .ok (.imul, 1) := by decide +kernel
theorem d_T_readNumber_42 : decode prog_12_method_14_code 42 = .ok (.aload_n 0, 1) := by decide +kernel
theorem d_T_readNumber_43 : decode prog_12_method_14_code 43 = .ok (.iload 5, 2) := by decide +kernel
theorem d_T_readNumber_45 : decode prog_12_method_14_code 45 = .ok (.invokevirtual 86, 3) := by decide +kernel
theorem d_T_readNumber_48 : decode prog_12_method_14_code 48 = .ok (.iadd, 1) := by decide +kernel
theorem d_T_readNumber_49 : decode prog_12_method_14_code 49 = .ok (.bipush 48, 2) := by decide +kernel
theorem d_T_readNumber_51 : decode prog_12_method_14_code 51 = .ok (.isub, 1) := by decide +kernel
theorem d_T_readNumber_52 : decode prog_12_method_14_code 52 = .ok (.istore 4, 2) := by decide +kernel
theorem d_T_readNumber_54 : decode prog_12_method_14_code 54 = .ok (.iinc 5 1, 3) := by decide +kernel
theorem d_T_readNumber_57 : decode prog_12_method_14_code 57 = .ok (.goto (-46), 3) := by decide +kernel
theorem d_T_readNumber_60 : decode prog_12_method_14_code 60 = .ok (.iload_n 3, 1) := by decide +kernel
theorem d_T_readNumber_61 : decode prog_12_method_14_code 61 = .ok (.ifCond .eq 8, 3) := by decide +kernel
theorem d_T_readNumber_64 : decode prog_12_method_14_code 64 = .ok (.iload_n 3, 1) := by decide +kernel
theorem d_T_readNumber_65 : decode prog_12_method_14_code 65 = .ok (.iconst 2, 1) := by decide +kernel
theorem d_T_readNumber_66 : decode prog_12_method_14_code 66 = .ok (.if_icmp .le 14, 3) := by decide +kernel
theorem d_T_readNumber_69 : decode prog_12_method_14_code 69 = .ok (.aload_n 0, 1) := by decide +kernel
theorem d_T_readNumber_70 : decode prog_12_method_14_code 70 = .ok (.iconst 1, 1) := by decide +kernel
theorem d_T_readNumber_71 : decode prog_12_method_14_code 71 = .ok (.aload_n 0, 1) := by decide +kernel
theorem d_T_readNumber_72 : decode prog_12_method_14_code 72 = .ok (.getfield 29, 3) := by decide +kernel
theorem d_T_readNumber_75 : decode prog_12_method_14_code 75 = .ok (.invokevirtual 90, 3) := by decide +kernel
theorem d_T_readNumber_78 : decode prog_12_method_14_code 78 = .ok (.iload_n 1, 1) := by decide +kernel
theorem d_T_readNumber_79 : decode prog_12_method_14_code 79 = .ok (.ireturn, 1) := by decide +kernel
theorem d_T_readNumber_80 : decode prog_12_method_14_code 80 = .ok (.iload 4, 2) := by decide +kernel
theorem d_T_readNumber_82 : decode prog_12_method_14_code 82 = .ok (.iload_n 1, 1) := by decide +kernel
theorem d_T_readNumber_83 : decode prog_12_method_14_code 83 = .ok (.if_icmp .lt 9, 3) := by decide +kernel
theorem d_T_readNumber_86 : decode prog_12_method_14_code 86 = .ok (.iload 4, 2) := by decide +kernel
theorem d_T_readNumber_88 : decode prog_12_method_14_code 88 = .ok (.iload_n 2, 1) := by decide +kernel
theorem d_T_readNumber_89 : decode prog_12_method_14_code 89 = .ok (.if_icmp .le 14, 3) := by decide +kernel
theorem d_T_readNumber_92 : decode prog_12_method_14_code 92 = .ok (.aload_n 0, 1) := by decide +kernel
theorem d_T_readNumber_93 : decode prog_12_method_14_code 93 = .ok (.iconst 2, 1) := by decide +kernel
theorem d_T_readNumber_94 : decode prog_12_method_14_code 94 = .ok (.aload_n 0, 1) := by decide +kernel
theorem d_T_readNumber_95 : decode prog_12_method_14_code 95 = .ok (.getfield 29, 3) := by decide +kernel
theorem d_T_readNumber_98 : decode prog_12_method_14_code 98 = .ok (.invokevirtual 90, 3) := by decide +kernel
theorem d_T_readNumber_101 : decode prog_12_method_14_code 101 = .ok (.iload_n 1, 1) := by decide +kernel
theorem d_T_readNumber_102 : decode prog_12_method_14_code 102 = .ok (.ireturn, 1) := by decide +kernel
theorem d_T_readNumber_103 : decode prog_12_method_14_code 103 = .ok (.aload_n 0, 1) := by decide +kernel
theorem d_T_readNumber_104 : decode prog_12_method_14_code 104 = .ok (.dup, 1) := by decide +kernel
theorem d_T_readNumber_105 : decode prog_12_method_14_code 105 = .ok (.getfield 29, 3) := by decide +kernel
theorem d_T_readNumber_108 : decode prog_12_method_14_code 108 = .ok (.iload_n 3, 1) := by decide +kernel
theorem d_T_readNumber_109 : decode prog_12_method_14_code 109 = .ok (.iadd, 1) := by decide +kernel
theorem d_T_readNumber_110 : decode prog_12_method_14_code 110 = .ok (.putfield 29, 3) := by decide +kernel
theorem d_T_readNumber_113 : decode prog_12_method_14_code 113 = .ok (.iload 4, 2) := by decide +kernel
theorem d_T_readNumber_115 : decode prog_12_method_14_code 115 = .ok (.ireturn, 1) := by decide +kernel
theorem d_T_fail_0 : decode prog_12_method_15_code 0 = .ok (.aload_n 0, 1) := by decide +kernel
theorem d_T_fail_1 : decode prog_12_method_15_code 1 = .ok (.getfield 32, 3) := by decide +kernel
theorem d_T_fail_4 : decode prog_12_method_15_code 4 = .ok (.ifCond .ne 18, 3) := by decide +kernel
theorem d_T_fail_7 : decode prog_12_method_15_code 7 = .ok (.aload_n 0, 1) := by decide +kernel
theorem d_T_fail_8 : decode prog_12_method_15_code 8 = .ok (.iload_n 1, 1) := by decide +kernel
theorem d_T_fail_9 : decode prog_12_method_15_code 9 = .ok (.putfield 32, 3) := by decide +kernel
theorem d_T_fail_12 : decode prog_12_method_15_code 12 = .ok (.aload_n 0, 1) := by decide +kernel
theorem d_T_fail_13 : decode prog_12_method_15_code 13 = .ok (.iload_n 2, 1) := by decide +kernel
theorem d_T_fail_14 : decode prog_12_method_15_code 14 = .ok (.putfield 19, 3) := by decide +kernel
theorem d_T_fail_17 : decode prog_12_method_15_code 17 = .ok (.aload_n 0, 1) := by decide +kernel
theorem d_T_fail_18 : decode prog_12_method_15_code 18 = .ok (.iload_n 1, 1) := by decide +kernel
theorem d_T_fail_19 : decode prog_12_method_15_code 19 = .ok (.putfield 22, 3) := by decide +kernel
theorem d_T_fail_22 : decode prog_12_method_15_code 22 = .ok (.return_, 1) := by decide +kernel
theorem d_T_letterAt_0 : decode prog_12_method_16_code 0 = .ok (.iload_n 1, 1) := by decide +kernel
theorem d_T_letterAt_1 : decode prog_12_method_16_code 1 = .ok (.ifCond .lt 22, 3) := by decide +kernel
theorem d_T_letterAt_4 : decode prog_12_method_16_code 4 = .ok (.iload_n 1, 1) := by decide +kernel
theorem d_T_letterAt_5 : decode prog_12_method_16_code 5 = .ok (.aload_n 0, 1) := by decide +kernel
theorem d_T_letterAt_6 : decode prog_12_method_16_code 6 = .ok (.getfield 15, 3) := by decide +kernel
theorem d_T_letterAt_9 : decode prog_12_method_16_code 9 = .ok (.if_icmp .ge 14, 3) := by decide +kernel
theorem d_T_letterAt_12 : decode prog_12_method_16_code 12 = .ok (.aload_n 0, 1) := by decide +kernel
theorem d_T_letterAt_13 : decode prog_12_method_16_code 13 = .ok (.getfield 11, 3) := by decide +kernel
theorem d_T_letterAt_16 : decode prog_12_method_16_code 16 = .ok (.iload_n 1, 1) := by decide +kernel
theorem d_T_letterAt_17 : decode prog_12_method_16_code 17 = .ok (.invokestatic 115, 3) := by decide +kernel
theorem d_T_letterAt_20 : decode prog_12_method_16_code 20 = .ok (.goto 4, 3) := by decide +kernel
theorem d_T_letterAt_23 : decode prog_12_method_16_code 23 = .ok (.iconst (-1), 1) := by decide +kernel
theorem d_T_letterAt_24 : decode prog_12_method_16_code 24 = .ok (.ireturn, 1) := by decide +kernel
theorem d_T_isFigure_0 : decode prog_12_method_17_code 0 = .ok (.iload_n 0, 1) := by decide +kernel
theorem d_T_isFigure_1 : decode prog_12_method_17_code 1 = .ok (.bipush 48, 2) := by decide +kernel
theorem d_T_isFigure_3 : decode prog_12_method_17_code 3 = .ok (.if_icmp .lt 13, 3) := by decide +kernel
theorem d_T_isFigure_6 : decode prog_12_method_17_code 6 = .ok (.iload_n 0, 1) := by decide +kernel
theorem d_T_isFigure_7 : decode prog_12_method_17_code 7 = .ok (.bipush 57, 2) := by decide +kernel
theorem d_T_isFigure_9 : decode prog_12_method_17_code 9 = .ok (.if_icmp .gt 7, 3) := by decide +kernel
theorem d_T_isFigure_12 : decode prog_12_method_17_code 12 = .ok (.iconst 1, 1) := by decide +kernel
theorem d_T_isFigure_13 : decode prog_12_method_17_code 13 = .ok (.goto 4, 3) := by decide +kernel
theorem d_T_isFigure_16 : decode prog_12_method_17_code 16 = .ok (.iconst 0, 1) := by decide +kernel
theorem d_T_isFigure_17 : decode prog_12_method_17_code 17 = .ok (.ireturn, 1) := by decide +kernel
theorem d_T_isSort_0 : decode prog_12_method_18_code 0 = .ok (.iload_n 0, 1) := by decide +kernel
theorem d_T_isSort_1 : decode prog_12_method_18_code 1 = .ok (.bipush 115, 2) := by decide +kernel
theorem d_T_isSort_3 : decode prog_12_method_18_code 3 = .ok (.if_icmp .eq 27, 3) := by decide +kernel
theorem d_T_isSort_6 : decode prog_12_method_18_code 6 = .ok (.iload_n 0, 1) := by decide +kernel
theorem d_T_isSort_7 : decode prog_12_method_18_code 7 = .ok (.bipush 112, 2) := by decide +kernel
theorem d_T_isSort_9 : decode prog_12_method_18_code 9 = .ok (.if_icmp .eq 21, 3) := by decide +kernel
theorem d_T_isSort_12 : decode prog_12_method_18_code 12 = .ok (.iload_n 0, 1) := by decide +kernel
theorem d_T_isSort_13 : decode prog_12_method_18_code 13 = .ok (.bipush 114, 2) := by decide +kernel
theorem d_T_isSort_15 : decode prog_12_method_18_code 15 = .ok (.if_icmp .eq 15, 3) := by decide +kernel
theorem d_T_isSort_18 : decode prog_12_method_18_code 18 = .ok (.iload_n 0, 1) := by decide +kernel
theorem d_T_isSort_19 : decode prog_12_method_18_code 19 = .ok (.bipush 104, 2) := by decide +kernel
theorem d_T_isSort_21 : decode prog_12_method_18_code 21 = .ok (.if_icmp .eq 9, 3) := by decide +kernel
theorem d_T_isSort_24 : decode prog_12_method_18_code 24 = .ok (.iload_n 0, 1) := by decide +kernel
theorem d_T_isSort_25 : decode prog_12_method_18_code 25 = .ok (.bipush 108, 2) := by decide +kernel
theorem d_T_isSort_27 : decode prog_12_method_18_code 27 = .ok (.if_icmp .ne 7, 3) := by decide +kernel
theorem d_T_isSort_30 : decode prog_12_method_18_code 30 = .ok (.iconst 1, 1) := by decide +kernel
theorem d_T_isSort_31 : decode prog_12_method_18_code 31 = .ok (.goto 4, 3) := by decide +kernel
theorem d_T_isSort_34 : decode prog_12_method_18_code 34 = .ok (.iconst 0, 1) := by decide +kernel
theorem d_T_isSort_35 : decode prog_12_method_18_code 35 = .ok (.ireturn, 1) := by decide +kernel
theorem d_T_handOf_0 : decode prog_12_method_19_code 0 = .ok (.iload_n 0, 1) := by decide +kernel
theorem d_T_handOf_1 : decode prog_12_method_19_code 1 = .ok (.lookupswitch 84 #[(104, 74), (112, 54), (114, 64), (115, 43)], 43) := by decide +kernel
theorem d_T_handOf_44 : decode prog_12_method_19_code 44 = .ok (.new 119, 3) := by decide +kernel
theorem d_T_handOf_47 : decode prog_12_method_19_code 47 = .ok (.dup, 1) := by decide +kernel
theorem d_T_handOf_48 : decode prog_12_method_19_code 48 = .ok (.iload_n 1, 1) := by decide +kernel
theorem d_T_handOf_49 : decode prog_12_method_19_code 49 = .ok (.iload_n 2, 1) := by decide +kernel
theorem d_T_handOf_50 : decode prog_12_method_19_code 50 = .ok (.iconst 3, 1) := by decide +kernel
theorem d_T_handOf_51 : decode prog_12_method_19_code 51 = .ok (.invokespecial 121, 3) := by decide +kernel
theorem d_T_handOf_54 : decode prog_12_method_19_code 54 = .ok (.areturn, 1) := by decide +kernel
theorem d_T_handOf_55 : decode prog_12_method_19_code 55 = .ok (.new 124, 3) := by decide +kernel
theorem d_T_handOf_58 : decode prog_12_method_19_code 58 = .ok (.dup, 1) := by decide +kernel
theorem d_T_handOf_59 : decode prog_12_method_19_code 59 = .ok (.iload_n 1, 1) := by decide +kernel
theorem d_T_handOf_60 : decode prog_12_method_19_code 60 = .ok (.iload_n 2, 1) := by decide +kernel
theorem d_T_handOf_61 : decode prog_12_method_19_code 61 = .ok (.invokespecial 126, 3) := by decide +kernel
theorem d_T_handOf_64 : decode prog_12_method_19_code 64 = .ok (.areturn, 1) := by decide +kernel
theorem d_T_handOf_65 : decode prog_12_method_19_code 65 = .ok (.new 128, 3) := by decide +kernel
theorem d_T_handOf_68 : decode prog_12_method_19_code 68 = .ok (.dup, 1) := by decide +kernel
theorem d_T_handOf_69 : decode prog_12_method_19_code 69 = .ok (.iload_n 1, 1) := by decide +kernel
theorem d_T_handOf_70 : decode prog_12_method_19_code 70 = .ok (.iload_n 2, 1) := by decide +kernel
theorem d_T_handOf_71 : decode prog_12_method_19_code 71 = .ok (.invokespecial 130, 3) := by decide +kernel
theorem d_T_handOf_74 : decode prog_12_method_19_code 74 = .ok (.areturn, 1) := by decide +kernel
theorem d_T_handOf_75 : decode prog_12_method_19_code 75 = .ok (.new 131, 3) := by decide +kernel
theorem d_T_handOf_78 : decode prog_12_method_19_code 78 = .ok (.dup, 1) := by decide +kernel
theorem d_T_handOf_79 : decode prog_12_method_19_code 79 = .ok (.iload_n 1, 1) := by decide +kernel
theorem d_T_handOf_80 : decode prog_12_method_19_code 80 = .ok (.iload_n 2, 1) := by decide +kernel
theorem d_T_handOf_81 : decode prog_12_method_19_code 81 = .ok (.invokespecial 133, 3) := by decide +kernel
theorem d_T_handOf_84 : decode prog_12_method_19_code 84 = .ok (.areturn, 1) := by decide +kernel
theorem d_T_handOf_85 : decode prog_12_method_19_code 85 = .ok (.new 134, 3) := by decide +kernel
theorem d_T_handOf_88 : decode prog_12_method_19_code 88 = .ok (.dup, 1) := by decide +kernel
theorem d_T_handOf_89 : decode prog_12_method_19_code 89 = .ok (.iload_n 1, 1) := by decide +kernel
theorem d_T_handOf_90 : decode prog_12_method_19_code 90 = .ok (.iload_n 2, 1) := by decide +kernel
theorem d_T_handOf_91 : decode prog_12_method_19_code 91 = .ok (.invokespecial 136, 3) := by decide +kernel
theorem d_T_handOf_94 : decode prog_12_method_19_code 94 = .ok (.areturn, 1) := by decide +kernel
theorem d_C_init_0 : decode prog_1_method_1_code 0 = .ok (.aload_n 0, 1) := by decide +kernel
theorem d_C_init_1 : decode prog_1_method_1_code 1 = .ok (.invokespecial 1, 3) := by decide +kernel
theorem d_C_init_4 : decode prog_1_method_1_code 4 = .ok (.aload_n 0, 1) := by decide +kernel
theorem d_C_init_5 : decode prog_1_method_1_code 5 = .ok (.new 7, 3) := by decide +kernel
theorem d_C_init_8 : decode prog_1_method_1_code 8 = .ok (.dup, 1) := by decide +kernel
theorem d_C_init_9 : decode prog_1_method_1_code 9 = .ok (.invokespecial 9, 3) := by decide +kernel
theorem d_C_init_12 : decode prog_1_method_1_code 12 = .ok (.putfield 10, 3) := by decide +kernel
theorem d_C_init_15 : decode prog_1_method_1_code 15 = .ok (.aload_n 0, 1) := by decide +kernel
theorem d_C_init_16 : decode prog_1_method_1_code 16 = .ok (.new 16, 3) := by decide +kernel
theorem d_C_init_19 : decode prog_1_method_1_code 19 = .ok (.dup, 1) := by decide +kernel
theorem d_C_init_20 : decode prog_1_method_1_code 20 = .ok (.invokespecial 18, 3) := by decide +kernel
theorem d_C_init_23 : decode prog_1_method_1_code 23 = .ok (.putfield 19, 3) := by decide +kernel
theorem d_C_init_26 : decode prog_1_method_1_code 26 = .ok (.aload_n 0, 1) := by decide +kernel
theorem d_C_init_27 : decode prog_1_method_1_code 27 = .ok (.new 23, 3) := by decide +kernel
theorem d_C_init_30 : decode prog_1_method_1_code 30 = .ok (.dup, 1) := by decide +kernel
theorem d_C_init_31 : decode prog_1_method_1_code 31 = .ok (.invokespecial 25, 3) := by decide +kernel
theorem d_C_init_34 : decode prog_1_method_1_code 34 = .ok (.putfield 26, 3) := by decide +kernel
theorem d_C_init_37 : decode prog_1_method_1_code 37 = .ok (.aload_n 0, 1) := by decide +kernel
theorem d_C_init_38 : decode prog_1_method_1_code 38 = .ok (.new 30, 3) := by decide +kernel
theorem d_C_init_41 : decode prog_1_method_1_code 41 = .ok (.dup, 1) := by decide +kernel
theorem d_C_init_42 : decode prog_1_method_1_code 42 = .ok (.invokespecial 32, 3) := by decide +kernel
theorem d_C_init_45 : decode prog_1_method_1_code 45 = .ok (.putfield 33, 3) := by decide +kernel
theorem d_C_init_48 : decode prog_1_method_1_code 48 = .ok (.aload_n 0, 1) := by decide +kernel
theorem d_C_init_49 : decode prog_1_method_1_code 49 = .ok (.new 37, 3) := by decide +kernel
theorem d_C_init_52 : decode prog_1_method_1_code 52 = .ok (.dup, 1) := by decide +kernel
theorem d_C_init_53 : decode prog_1_method_1_code 53 = .ok (.invokespecial 39, 3) := by decide +kernel
theorem d_C_init_56 : decode prog_1_method_1_code 56 = .ok (.putfield 40, 3) := by decide +kernel
theorem d_C_init_59 : decode prog_1_method_1_code 59 = .ok (.aload_n 0, 1) := by decide +kernel
theorem d_C_init_60 : decode prog_1_method_1_code 60 = .ok (.new 37, 3) := by decide +kernel
theorem d_C_init_63 : decode prog_1_method_1_code 63 = .ok (.dup, 1) := by decide +kernel
theorem d_C_init_64 : decode prog_1_method_1_code 64 = .ok (.invokespecial 39, 3) := by decide +kernel
theorem d_C_init_67 : decode prog_1_method_1_code 67 = .ok (.putfield 44, 3) := by decide +kernel
theorem d_C_init_70 : decode prog_1_method_1_code 70 = .ok (.aload_n 0, 1) := by decide +kernel
theorem d_C_init_71 : decode prog_1_method_1_code 71 = .ok (.iconst 2, 1) := by decide +kernel
theorem d_C_init_72 : decode prog_1_method_1_code 72 = .ok (.anewarray 37, 3) := by decide +kernel
theorem d_C_init_75 : decode prog_1_method_1_code 75 = .ok (.putfield 47, 3) := by decide +kernel
theorem d_C_init_78 : decode prog_1_method_1_code 78 = .ok (.aload_n 0, 1) := by decide +kernel
theorem d_C_init_79 : decode prog_1_method_1_code 79 = .ok (.bipush 17, 2) := by decide +kernel
theorem d_C_init_81 : decode prog_1_method_1_code 81 = .ok (.newarray .int, 2) := by decide +kernel
theorem d_C_init_83 : decode prog_1_method_1_code 83 = .ok (.putfield 51, 3) := by decide +kernel
theorem d_C_init_86 : decode prog_1_method_1_code 86 = .ok (.return_, 1) := by decide +kernel
theorem d_C_row_0 : decode prog_1_method_2_code 0 = .ok (.iload_n 1, 1) := by decide +kernel
theorem d_C_row_1 : decode prog_1_method_2_code 1 = .ok (.invokestatic 55, 3) := by decide +kernel
theorem d_C_row_4 : decode prog_1_method_2_code 4 = .ok (.ifCond .eq 17, 3) := by decide +kernel
theorem d_C_row_7 : decode prog_1_method_2_code 7 = .ok (.iload_n 2, 1) := by decide +kernel
theorem d_C_row_8 : decode prog_1_method_2_code 8 = .ok (.iconst 3, 1) := by decide +kernel
theorem d_C_row_9 : decode prog_1_method_2_code 9 = .ok (.invokestatic 59, 3) := by decide +kernel
theorem d_C_row_12 : decode prog_1_method_2_code 12 = .ok (.ifCond .eq 9, 3) := by decide +kernel
theorem d_C_row_15 : decode prog_1_method_2_code 15 = .ok (.iload_n 3, 1) := by decide +kernel
theorem d_C_row_16 : decode prog_1_method_2_code 16 = .ok (.bipush 40, 2) := by decide +kernel
theorem d_C_row_18 : decode prog_1_method_2_code 18 = .ok (.if_icmp .le 6, 3) := by decide +kernel
theorem d_C_row_21 : decode prog_1_method_2_code 21 = .ok (.ldc 63, 2) := by decide +kernel
theorem d_C_row_23 : decode prog_1_method_2_code 23 = .ok (.ireturn, 1) := by decide +kernel
theorem d_C_row_24 : decode prog_1_method_2_code 24 = .ok (.iload_n 3, 1) := by decide +kernel
theorem d_C_row_25 : decode prog_1_method_2_code 25 = .ok (.ifCond .ge 9, 3) := by decide +kernel
theorem d_C_row_28 : decode prog_1_method_2_code 28 = .ok (.aload_n 0, 1) := by decide +kernel
theorem d_C_row_29 : decode prog_1_method_2_code 29 = .ok (.iconst 4, 1) := by decide +kernel
theorem d_C_row_30 : decode prog_1_method_2_code 30 = .ok (.invokevirtual 64, 3) := by decide +kernel
theorem d_C_row_33 : decode prog_1_method_2_code 33 = .ok (.ireturn, 1) := by decide +kernel
theorem d_C_row_34 : decode prog_1_method_2_code 34 = .ok (.aload_n 0, 1) := by decide +kernel
theorem d_C_row_35 : decode prog_1_method_2_code 35 = .ok (.getfield 10, 3) := by decide +kernel
theorem d_C_row_38 : decode prog_1_method_2_code 38 = .ok (.iload_n 1, 1) := by decide +kernel
theorem d_C_row_39 : decode prog_1_method_2_code 39 = .ok (.iload_n 2, 1) := by decide +kernel
theorem d_C_row_40 : decode prog_1_method_2_code 40 = .ok (.iload_n 3, 1) := by decide +kernel
theorem d_C_row_41 : decode prog_1_method_2_code 41 = .ok (.invokevirtual 68, 3) := by decide +kernel
theorem d_C_row_44 : decode prog_1_method_2_code 44 = .ok (.aload_n 0, 1) := by decide +kernel
theorem d_C_row_45 : decode prog_1_method_2_code 45 = .ok (.iload_n 3, 1) := by decide +kernel
theorem d_C_row_46 : decode prog_1_method_2_code 46 = .ok (.invokevirtual 72, 3) := by decide +kernel
theorem d_C_row_49 : decode prog_1_method_2_code 49 = .ok (.ireturn, 1) := by decide +kernel
theorem d_C_set_0 : decode prog_1_method_3_code 0 = .ok (.iload_n 1, 1) := by decide +kernel
theorem d_C_set_1 : decode prog_1_method_3_code 1 = .ok (.invokestatic 55, 3) := by decide +kernel
theorem d_C_set_4 : decode prog_1_method_3_code 4 = .ok (.ifCond .ne 6, 3) := by decide +kernel
theorem d_C_set_7 : decode prog_1_method_3_code 7 = .ok (.ldc 63, 2) := by decide +kernel
theorem d_C_set_9 : decode prog_1_method_3_code 9 = .ok (.ireturn, 1) := by decide +kernel
theorem d_C_set_10 : decode prog_1_method_3_code 10 = .ok (.aload_n 0, 1) := by decide +kernel
theorem d_C_set_11 : decode prog_1_method_3_code 11 = .ok (.getfield 10, 3) := by decide +kernel
theorem d_C_set_14 : decode prog_1_method_3_code 14 = .ok (.iload_n 1, 1) := by decide +kernel
theorem d_C_set_15 : decode prog_1_method_3_code 15 = .ok (.invokevirtual 75, 3) := by decide +kernel
theorem d_C_set_18 : decode prog_1_method_3_code 18 = .ok (.ifCond .eq 9, 3) := by decide +kernel
theorem d_C_set_21 : decode prog_1_method_3_code 21 = .ok (.aload_n 0, 1) := by decide +kernel
theorem d_C_set_22 : decode prog_1_method_3_code 22 = .ok (.iconst 1, 1) := by decide +kernel
theorem d_C_set_23 : decode prog_1_method_3_code 23 = .ok (.invokevirtual 64, 3) := by decide +kernel
theorem d_C_set_26 : decode prog_1_method_3_code 26 = .ok (.ireturn, 1) := by decide +kernel
theorem d_C_set_27 : decode prog_1_method_3_code 27 = .ok (.aload_n 0, 1) := by decide +kernel
theorem d_C_set_28 : decode prog_1_method_3_code 28 = .ok (.getfield 10, 3) := by decide +kernel
theorem d_C_set_31 : decode prog_1_method_3_code 31 = .ok (.iload_n 1, 1) := by decide +kernel
theorem d_C_set_32 : decode prog_1_method_3_code 32 = .ok (.iload_n 2, 1) := by decide +kernel
theorem d_C_set_33 : decode prog_1_method_3_code 33 = .ok (.iconst 1, 1) := by decide +kernel
theorem d_C_set_34 : decode prog_1_method_3_code 34 = .ok (.invokevirtual 78, 3) := by decide +kernel
theorem d_C_set_37 : decode prog_1_method_3_code 37 = .ok (.ifCond .ne 9, 3) := by decide +kernel
theorem d_C_set_40 : decode prog_1_method_3_code 40 = .ok (.aload_n 0, 1) := by decide +kernel
theorem d_C_set_41 : decode prog_1_method_3_code 41 = .ok (.iconst 2, 1) := by decide +kernel
theorem d_C_set_42 : decode prog_1_method_3_code 42 = .ok (.invokevirtual 64, 3) := by decide +kernel
theorem d_C_set_45 : decode prog_1_method_3_code 45 = .ok (.ireturn, 1) := by decide +kernel
theorem d_C_set_46 : decode prog_1_method_3_code 46 = .ok (.aload_n 0, 1) := by decide +kernel
theorem d_C_set_47 : decode prog_1_method_3_code 47 = .ok (.aload_n 0, 1) := by decide +kernel
theorem d_C_set_48 : decode prog_1_method_3_code 48 = .ok (.getfield 10, 3) := by decide +kernel
theorem d_C_set_51 : decode prog_1_method_3_code 51 = .ok (.iload_n 1, 1) := by decide +kernel
theorem d_C_set_52 : decode prog_1_method_3_code 52 = .ok (.iload_n 2, 1) := by decide +kernel
theorem d_C_set_53 : decode prog_1_method_3_code 53 = .ok (.iload_n 3, 1) := by decide +kernel
theorem d_C_set_54 : decode prog_1_method_3_code 54 = .ok (.invokevirtual 82, 3) := by decide +kernel
theorem d_C_set_57 : decode prog_1_method_3_code 57 = .ok (.invokevirtual 72, 3) := by decide +kernel
theorem d_C_set_60 : decode prog_1_method_3_code 60 = .ok (.ireturn, 1) := by decide +kernel
theorem d_C_copy_0 : decode prog_1_method_4_code 0 = .ok (.iload_n 1, 1) := by decide +kernel
theorem d_C_copy_1 : decode prog_1_method_4_code 1 = .ok (.invokestatic 55, 3) := by decide +kernel
theorem d_C_copy_4 : decode prog_1_method_4_code 4 = .ok (.ifCond .eq 10, 3) := by decide +kernel
theorem d_C_copy_7 : decode prog_1_method_4_code 7 = .ok (.iload_n 3, 1) := by decide +kernel
theorem d_C_copy_8 : decode prog_1_method_4_code 8 = .ok (.invokestatic 55, 3) := by decide +kernel
theorem d_C_copy_11 : decode prog_1_method_4_code 11 = .ok (.ifCond .ne 6, 3) := by decide +kernel
theorem d_C_copy_14 : decode prog_1_method_4_code 14 = .ok (.ldc 63, 2) := by decide +kernel
theorem d_C_copy_16 : decode prog_1_method_4_code 16 = .ok (.ireturn, 1) := by decide +kernel
theorem d_C_copy_17 : decode prog_1_method_4_code 17 = .ok (.aload_n 0, 1) := by decide +kernel
theorem d_C_copy_18 : decode prog_1_method_4_code 18 = .ok (.getfield 10, 3) := by decide +kernel
theorem d_C_copy_21 : decode prog_1_method_4_code 21 = .ok (.iload_n 1, 1) := by decide +kernel
theorem d_C_copy_22 : decode prog_1_method_4_code 22 = .ok (.invokevirtual 75, 3) := by decide +kernel
theorem d_C_copy_25 : decode prog_1_method_4_code 25 = .ok (.ifCond .ne 14, 3) := by decide +kernel
theorem d_C_copy_28 : decode prog_1_method_4_code 28 = .ok (.aload_n 0, 1) := by decide +kernel
theorem d_C_copy_29 : decode prog_1_method_4_code 29 = .ok (.getfield 10, 3) := by decide +kernel
theorem d_C_copy_32 : decode prog_1_method_4_code 32 = .ok (.iload_n 3, 1) := by decide +kernel
theorem d_C_copy_33 : decode prog_1_method_4_code 33 = .ok (.invokevirtual 75, 3) := by decide +kernel
theorem d_C_copy_36 : decode prog_1_method_4_code 36 = .ok (.ifCond .eq 9, 3) := by decide +kernel
theorem d_C_copy_39 : decode prog_1_method_4_code 39 = .ok (.aload_n 0, 1) := by decide +kernel
theorem d_C_copy_40 : decode prog_1_method_4_code 40 = .ok (.iconst 1, 1) := by decide +kernel
theorem d_C_copy_41 : decode prog_1_method_4_code 41 = .ok (.invokevirtual 64, 3) := by decide +kernel
theorem d_C_copy_44 : decode prog_1_method_4_code 44 = .ok (.ireturn, 1) := by decide +kernel
theorem d_C_copy_45 : decode prog_1_method_4_code 45 = .ok (.aload_n 0, 1) := by decide +kernel
theorem d_C_copy_46 : decode prog_1_method_4_code 46 = .ok (.getfield 10, 3) := by decide +kernel
theorem d_C_copy_49 : decode prog_1_method_4_code 49 = .ok (.iload_n 1, 1) := by decide +kernel
theorem d_C_copy_50 : decode prog_1_method_4_code 50 = .ok (.iload_n 3, 1) := by decide +kernel
theorem d_C_copy_51 : decode prog_1_method_4_code 51 = .ok (.invokevirtual 86, 3) := by decide +kernel
theorem d_C_copy_54 : decode prog_1_method_4_code 54 = .ok (.ifCond .ne 9, 3) := by decide +kernel
theorem d_C_copy_57 : decode prog_1_method_4_code 57 = .ok (.aload_n 0, 1) := by decide +kernel
theorem d_C_copy_58 : decode prog_1_method_4_code 58 = .ok (.iconst 5, 1) := by decide +kernel
theorem d_C_copy_59 : decode prog_1_method_4_code 59 = .ok (.invokevirtual 64, 3) := by decide +kernel
theorem d_C_copy_62 : decode prog_1_method_4_code 62 = .ok (.ireturn, 1) := by decide +kernel
theorem d_C_copy_63 : decode prog_1_method_4_code 63 = .ok (.aload_n 0, 1) := by decide +kernel
theorem d_C_copy_64 : decode prog_1_method_4_code 64 = .ok (.getfield 10, 3) := by decide +kernel
theorem d_C_copy_67 : decode prog_1_method_4_code 67 = .ok (.iload_n 1, 1) := by decide +kernel
theorem d_C_copy_68 : decode prog_1_method_4_code 68 = .ok (.iload_n 2, 1) := by decide +kernel
theorem d_C_copy_69 : decode prog_1_method_4_code 69 = .ok (.iload 5, 2) := by decide +kernel
theorem d_C_copy_71 : decode prog_1_method_4_code 71 = .ok (.invokevirtual 78, 3) := by decide +kernel
theorem d_C_copy_74 : decode prog_1_method_4_code 74 = .ok (.ifCond .eq 18, 3) := by decide +kernel
theorem d_C_copy_77 : decode prog_1_method_4_code 77 = .ok (.aload_n 0, 1) := by decide +kernel
theorem d_C_copy_78 : decode prog_1_method_4_code 78 = .ok (.getfield 10, 3) := by decide +kernel
theorem d_C_copy_81 : decode prog_1_method_4_code 81 = .ok (.iload_n 3, 1) := by decide +kernel
theorem d_C_copy_82 : decode prog_1_method_4_code 82 = .ok (.iload 4, 2) := by decide +kernel
theorem d_C_copy_84 : decode prog_1_method_4_code 84 = .ok (.iload 5, 2) := by decide +kernel
theorem d_C_copy_86 : decode prog_1_method_4_code 86 = .ok (.invokevirtual 78, 3) := by decide +kernel
theorem d_C_copy_89 : decode prog_1_method_4_code 89 = .ok (.ifCond .ne 9, 3) := by decide +kernel
theorem d_C_copy_92 : decode prog_1_method_4_code 92 = .ok (.aload_n 0, 1) := by decide +kernel
theorem d_C_copy_93 : decode prog_1_method_4_code 93 = .ok (.iconst 2, 1) := by decide +kernel
theorem d_C_copy_94 : decode prog_1_method_4_code 94 = .ok (.invokevirtual 64, 3) := by decide +kernel
theorem d_C_copy_97 : decode prog_1_method_4_code 97 = .ok (.ireturn, 1) := by decide +kernel
theorem d_C_copy_98 : decode prog_1_method_4_code 98 = .ok (.aload_n 0, 1) := by decide +kernel
theorem d_C_copy_99 : decode prog_1_method_4_code 99 = .ok (.getfield 10, 3) := by decide +kernel
theorem d_C_copy_102 : decode prog_1_method_4_code 102 = .ok (.iload_n 1, 1) := by decide +kernel
theorem d_C_copy_103 : decode prog_1_method_4_code 103 = .ok (.iload_n 2, 1) := by decide +kernel
theorem d_C_copy_104 : decode prog_1_method_4_code 104 = .ok (.iload_n 3, 1) := by decide +kernel
theorem d_C_copy_105 : decode prog_1_method_4_code 105 = .ok (.iload 4, 2) := by decide +kernel
theorem d_C_copy_107 : decode prog_1_method_4_code 107 = .ok (.iload 5, 2) := by decide +kernel
theorem d_C_copy_109 : decode prog_1_method_4_code 109 = .ok (.invokevirtual 89, 3) := by decide +kernel
theorem d_C_copy_112 : decode prog_1_method_4_code 112 = .ok (.aload_n 0, 1) := by decide +kernel
theorem d_C_copy_113 : decode prog_1_method_4_code 113 = .ok (.iload 5, 2) := by decide +kernel
theorem d_C_copy_115 : decode prog_1_method_4_code 115 = .ok (.invokevirtual 72, 3) := by decide +kernel
theorem d_C_copy_118 : decode prog_1_method_4_code 118 = .ok (.ireturn, 1) := by decide +kernel
theorem d_C_drop_0 : decode prog_1_method_5_code 0 = .ok (.iload_n 1, 1) := by decide +kernel
theorem d_C_drop_1 : decode prog_1_method_5_code 1 = .ok (.invokestatic 55, 3) := by decide +kernel
theorem d_C_drop_4 : decode prog_1_method_5_code 4 = .ok (.ifCond .ne 6, 3) := by decide +kernel
theorem d_C_drop_7 : decode prog_1_method_5_code 7 = .ok (.ldc 63, 2) := by decide +kernel
theorem d_C_drop_9 : decode prog_1_method_5_code 9 = .ok (.ireturn, 1) := by decide +kernel
theorem d_C_drop_10 : decode prog_1_method_5_code 10 = .ok (.aload_n 0, 1) := by decide +kernel
theorem d_C_drop_11 : decode prog_1_method_5_code 11 = .ok (.getfield 10, 3) := by decide +kernel
theorem d_C_drop_14 : decode prog_1_method_5_code 14 = .ok (.iload_n 1, 1) := by decide +kernel
theorem d_C_drop_15 : decode prog_1_method_5_code 15 = .ok (.invokevirtual 75, 3) := by decide +kernel
theorem d_C_drop_18 : decode prog_1_method_5_code 18 = .ok (.ifCond .eq 9, 3) := by decide +kernel
theorem d_C_drop_21 : decode prog_1_method_5_code 21 = .ok (.aload_n 0, 1) := by decide +kernel
theorem d_C_drop_22 : decode prog_1_method_5_code 22 = .ok (.iconst 1, 1) := by decide +kernel
theorem d_C_drop_23 : decode prog_1_method_5_code 23 = .ok (.invokevirtual 64, 3) := by decide +kernel
theorem d_C_drop_26 : decode prog_1_method_5_code 26 = .ok (.ireturn, 1) := by decide +kernel
theorem d_C_drop_27 : decode prog_1_method_5_code 27 = .ok (.aload_n 0, 1) := by decide +kernel
theorem d_C_drop_28 : decode prog_1_method_5_code 28 = .ok (.aload_n 0, 1) := by decide +kernel
theorem d_C_drop_29 : decode prog_1_method_5_code 29 = .ok (.getfield 10, 3) := by decide +kernel
theorem d_C_drop_32 : decode prog_1_method_5_code 32 = .ok (.iload_n 1, 1) := by decide +kernel
theorem d_C_drop_33 : decode prog_1_method_5_code 33 = .ok (.invokevirtual 93, 3) := by decide +kernel
theorem d_C_drop_36 : decode prog_1_method_5_code 36 = .ok (.invokevirtual 72, 3) := by decide +kernel
theorem d_C_drop_39 : decode prog_1_method_5_code 39 = .ok (.ireturn, 1) := by decide +kernel
theorem d_C_feed_0 : decode prog_1_method_6_code 0 = .ok (.iload_n 1, 1) := by decide +kernel
theorem d_C_feed_1 : decode prog_1_method_6_code 1 = .ok (.ifCond .lt 10, 3) := by decide +kernel
theorem d_C_feed_4 : decode prog_1_method_6_code 4 = .ok (.iload_n 1, 1) := by decide +kernel
theorem d_C_feed_5 : decode prog_1_method_6_code 5 = .ok (.sipush 255, 3) := by decide +kernel
theorem d_C_feed_8 : decode prog_1_method_6_code 8 = .ok (.if_icmp .le 6, 3) := by decide +kernel
theorem d_C_feed_11 : decode prog_1_method_6_code 11 = .ok (.ldc 63, 2) := by decide +kernel
theorem d_C_feed_13 : decode prog_1_method_6_code 13 = .ok (.ireturn, 1) := by decide +kernel
theorem d_C_feed_14 : decode prog_1_method_6_code 14 = .ok (.aload_n 0, 1) := by decide +kernel
theorem d_C_feed_15 : decode prog_1_method_6_code 15 = .ok (.getfield 19, 3) := by decide +kernel
theorem d_C_feed_18 : decode prog_1_method_6_code 18 = .ok (.iload_n 1, 1) := by decide +kernel
theorem d_C_feed_19 : decode prog_1_method_6_code 19 = .ok (.invokevirtual 96, 3) := by decide +kernel
theorem d_C_feed_22 : decode prog_1_method_6_code 22 = .ok (.ifCond .eq 13, 3) := by decide +kernel
theorem d_C_feed_25 : decode prog_1_method_6_code 25 = .ok (.aload_n 0, 1) := by decide +kernel
theorem d_C_feed_26 : decode prog_1_method_6_code 26 = .ok (.getfield 19, 3) := by decide +kernel
theorem d_C_feed_29 : decode prog_1_method_6_code 29 = .ok (.invokevirtual 99, 3) := by decide +kernel
theorem d_C_feed_32 : decode prog_1_method_6_code 32 = .ok (.goto 5, 3) := by decide +kernel
theorem d_C_feed_35 : decode prog_1_method_6_code 35 = .ok (.ldc 103, 2) := by decide +kernel
theorem d_C_feed_37 : decode prog_1_method_6_code 37 = .ok (.ireturn, 1) := by decide +kernel
theorem d_C_basin_0 : decode prog_1_method_7_code 0 = .ok (.aload_n 0, 1) := by decide +kernel
theorem d_C_basin_1 : decode prog_1_method_7_code 1 = .ok (.getfield 19, 3) := by decide +kernel
theorem d_C_basin_4 : decode prog_1_method_7_code 4 = .ok (.aload_n 0, 1) := by decide +kernel
theorem d_C_basin_5 : decode prog_1_method_7_code 5 = .ok (.getfield 44, 3) := by decide +kernel
theorem d_C_basin_8 : decode prog_1_method_7_code 8 = .ok (.invokevirtual 104, 3) := by decide +kernel
theorem d_C_basin_11 : decode prog_1_method_7_code 11 = .ok (.ifCond .ne 14, 3) := by decide +kernel
theorem d_C_basin_14 : decode prog_1_method_7_code 14 = .ok (.ldc 108, 2) := by decide +kernel
theorem d_C_basin_16 : decode prog_1_method_7_code 16 = .ok (.aload_n 0, 1) := by decide +kernel
theorem d_C_basin_17 : decode prog_1_method_7_code 17 = .ok (.getfield 19, 3) := by decide +kernel
theorem d_C_basin_20 : decode prog_1_method_7_code 20 = .ok (.invokevirtual 109, 3) := by decide +kernel
theorem d_C_basin_23 : decode prog_1_method_7_code 23 = .ok (.isub, 1) := by decide +kernel
theorem d_C_basin_24 : decode prog_1_method_7_code 24 = .ok (.ireturn, 1) := by decide +kernel
theorem d_C_basin_25 : decode prog_1_method_7_code 25 = .ok (.aload_n 0, 1) := by decide +kernel
theorem d_C_basin_26 : decode prog_1_method_7_code 26 = .ok (.getfield 40, 3) := by decide +kernel
theorem d_C_basin_29 : decode prog_1_method_7_code 29 = .ok (.aload_n 0, 1) := by decide +kernel
theorem d_C_basin_30 : decode prog_1_method_7_code 30 = .ok (.getfield 44, 3) := by decide +kernel
theorem d_C_basin_33 : decode prog_1_method_7_code 33 = .ok (.invokevirtual 112, 3) := by decide +kernel
theorem d_C_basin_36 : decode prog_1_method_7_code 36 = .ok (.aload_n 0, 1) := by decide +kernel
theorem d_C_basin_37 : decode prog_1_method_7_code 37 = .ok (.iconst 1, 1) := by decide +kernel
theorem d_C_basin_38 : decode prog_1_method_7_code 38 = .ok (.putfield 116, 3) := by decide +kernel
theorem d_C_basin_41 : decode prog_1_method_7_code 41 = .ok (.aload_n 0, 1) := by decide +kernel
theorem d_C_basin_42 : decode prog_1_method_7_code 42 = .ok (.getfield 26, 3) := by decide +kernel
theorem d_C_basin_45 : decode prog_1_method_7_code 45 = .ok (.invokevirtual 120, 3) := by decide +kernel
theorem d_C_basin_48 : decode prog_1_method_7_code 48 = .ok (.aload_n 0, 1) := by decide +kernel
theorem d_C_basin_49 : decode prog_1_method_7_code 49 = .ok (.getfield 40, 3) := by decide +kernel
theorem d_C_basin_52 : decode prog_1_method_7_code 52 = .ok (.getfield 123, 3) := by decide +kernel
theorem d_C_basin_55 : decode prog_1_method_7_code 55 = .ok (.ireturn, 1) := by decide +kernel
theorem d_C_fault_0 : decode prog_1_method_8_code 0 = .ok (.aload_n 0, 1) := by decide +kernel
theorem d_C_fault_1 : decode prog_1_method_8_code 1 = .ok (.getfield 19, 3) := by decide +kernel
theorem d_C_fault_4 : decode prog_1_method_8_code 4 = .ok (.invokevirtual 127, 3) := by decide +kernel
theorem d_C_fault_7 : decode prog_1_method_8_code 7 = .ok (.ireturn, 1) := by decide +kernel
theorem d_C_undo_0 : decode prog_1_method_9_code 0 = .ok (.aload_n 0, 1) := by decide +kernel
theorem d_C_undo_1 : decode prog_1_method_9_code 1 = .ok (.getfield 26, 3) := by decide +kernel
theorem d_C_undo_4 : decode prog_1_method_9_code 4 = .ok (.invokevirtual 130, 3) := by decide +kernel
theorem d_C_undo_7 : decode prog_1_method_9_code 7 = .ok (.ifCond .ne 6, 3) := by decide +kernel
theorem d_C_undo_10 : decode prog_1_method_9_code 10 = .ok (.ldc 133, 2) := by decide +kernel
theorem d_C_undo_12 : decode prog_1_method_9_code 12 = .ok (.ireturn, 1) := by decide +kernel
theorem d_C_undo_13 : decode prog_1_method_9_code 13 = .ok (.aload_n 0, 1) := by decide +kernel
theorem d_C_undo_14 : decode prog_1_method_9_code 14 = .ok (.getfield 26, 3) := by decide +kernel
theorem d_C_undo_17 : decode prog_1_method_9_code 17 = .ok (.aload_n 0, 1) := by decide +kernel
theorem d_C_undo_18 : decode prog_1_method_9_code 18 = .ok (.getfield 40, 3) := by decide +kernel
theorem d_C_undo_21 : decode prog_1_method_9_code 21 = .ok (.invokevirtual 134, 3) := by decide +kernel
theorem d_C_undo_24 : decode prog_1_method_9_code 24 = .ok (.aload_n 0, 1) := by decide +kernel
theorem d_C_undo_25 : decode prog_1_method_9_code 25 = .ok (.getfield 26, 3) := by decide +kernel
theorem d_C_undo_28 : decode prog_1_method_9_code 28 = .ok (.invokevirtual 130, 3) := by decide +kernel
theorem d_C_undo_31 : decode prog_1_method_9_code 31 = .ok (.ireturn, 1) := by decide +kernel
theorem d_C_move_0 : decode prog_1_method_10_code 0 = .ok (.aload_n 0, 1) := by decide +kernel
theorem d_C_move_1 : decode prog_1_method_10_code 1 = .ok (.getfield 40, 3) := by decide +kernel
theorem d_C_move_4 : decode prog_1_method_10_code 4 = .ok (.iload_n 1, 1) := by decide +kernel
theorem d_C_move_5 : decode prog_1_method_10_code 5 = .ok (.invokevirtual 137, 3) := by decide +kernel
theorem d_C_move_8 : decode prog_1_method_10_code 8 = .ok (.astore_n 3, 1) := by decide +kernel
theorem d_C_move_9 : decode prog_1_method_10_code 9 = .ok (.aload_n 3, 1) := by decide +kernel
theorem d_C_move_10 : decode prog_1_method_10_code 10 = .ok (.ifnull 12, 3) := by decide +kernel
theorem d_C_move_13 : decode prog_1_method_10_code 13 = .ok (.iload_n 2, 1) := by decide +kernel
theorem d_C_move_14 : decode prog_1_method_10_code 14 = .ok (.bipush 8, 2) := by decide +kernel
theorem d_C_move_16 : decode prog_1_method_10_code 16 = .ok (.invokestatic 59, 3) := by decide +kernel
theorem d_C_move_19 : decode prog_1_method_10_code 19 = .ok (.ifCond .ne 6, 3) := by decide +kernel
theorem d_C_move_22 : decode prog_1_method_10_code 22 = .ok (.ldc 63, 2) := by decide +kernel
theorem d_C_move_24 : decode prog_1_method_10_code 24 = .ok (.ireturn, 1) := by decide +kernel
theorem d_C_move_25 : decode prog_1_method_10_code 25 = .ok (.aload_n 0, 1) := by decide +kernel
theorem d_C_move_26 : decode prog_1_method_10_code 26 = .ok (.getfield 40, 3) := by decide +kernel
theorem d_C_move_29 : decode prog_1_method_10_code 29 = .ok (.aload_n 3, 1) := by decide +kernel
theorem d_C_move_30 : decode prog_1_method_10_code 30 = .ok (.iload_n 2, 1) := by decide +kernel
theorem d_C_move_31 : decode prog_1_method_10_code 31 = .ok (.invokevirtual 141, 3) := by decide +kernel
theorem d_C_move_34 : decode prog_1_method_10_code 34 = .ok (.ifCond .ne 6, 3) := by decide +kernel
theorem d_C_move_37 : decode prog_1_method_10_code 37 = .ok (.ldc 133, 2) := by decide +kernel
theorem d_C_move_39 : decode prog_1_method_10_code 39 = .ok (.ireturn, 1) := by decide +kernel
theorem d_C_move_40 : decode prog_1_method_10_code 40 = .ok (.aload_n 0, 1) := by decide +kernel
theorem d_C_move_41 : decode prog_1_method_10_code 41 = .ok (.getfield 40, 3) := by decide +kernel
theorem d_C_move_44 : decode prog_1_method_10_code 44 = .ok (.getfield 145, 3) := by decide +kernel
theorem d_C_move_47 : decode prog_1_method_10_code 47 = .ok (.sipush 999, 3) := by decide +kernel
theorem d_C_move_50 : decode prog_1_method_10_code 50 = .ok (.if_icmp .lt 6, 3) := by decide +kernel
theorem d_C_move_53 : decode prog_1_method_10_code 53 = .ok (.ldc 103, 2) := by decide +kernel
theorem d_C_move_55 : decode prog_1_method_10_code 55 = .ok (.ireturn, 1) := by decide +kernel
theorem d_C_move_56 : decode prog_1_method_10_code 56 = .ok (.aload_n 0, 1) := by decide +kernel
theorem d_C_move_57 : decode prog_1_method_10_code 57 = .ok (.getfield 26, 3) := by decide +kernel
theorem d_C_move_60 : decode prog_1_method_10_code 60 = .ok (.aload_n 0, 1) := by decide +kernel
theorem d_C_move_61 : decode prog_1_method_10_code 61 = .ok (.getfield 40, 3) := by decide +kernel
theorem d_C_move_64 : decode prog_1_method_10_code 64 = .ok (.iconst 0, 1) := by decide +kernel
theorem d_C_move_65 : decode prog_1_method_10_code 65 = .ok (.invokevirtual 148, 3) := by decide +kernel
theorem d_C_move_68 : decode prog_1_method_10_code 68 = .ok (.aload_n 0, 1) := by decide +kernel
theorem d_C_move_69 : decode prog_1_method_10_code 69 = .ok (.getfield 40, 3) := by decide +kernel
theorem d_C_move_72 : decode prog_1_method_10_code 72 = .ok (.iload_n 2, 1) := by decide +kernel
theorem d_C_move_73 : decode prog_1_method_10_code 73 = .ok (.invokevirtual 152, 3) := by decide +kernel
theorem d_C_move_76 : decode prog_1_method_10_code 76 = .ok (.aload_n 3, 1) := by decide +kernel
theorem d_C_move_77 : decode prog_1_method_10_code 77 = .ok (.iload_n 2, 1) := by decide +kernel
theorem d_C_move_78 : decode prog_1_method_10_code 78 = .ok (.invokevirtual 155, 3) := by decide +kernel
theorem d_C_move_81 : decode prog_1_method_10_code 81 = .ok (.ireturn, 1) := by decide +kernel
theorem d_C_laden_0 : decode prog_1_method_11_code 0 = .ok (.aload_n 0, 1) := by decide +kernel
theorem d_C_laden_1 : decode prog_1_method_11_code 1 = .ok (.getfield 116, 3) := by decide +kernel
theorem d_C_laden_4 : decode prog_1_method_11_code 4 = .ok (.ifCond .ne 6, 3) := by decide +kernel
theorem d_C_laden_7 : decode prog_1_method_11_code 7 = .ok (.ldc 133, 2) := by decide +kernel
theorem d_C_laden_9 : decode prog_1_method_11_code 9 = .ok (.ireturn, 1) := by decide +kernel
theorem d_C_laden_10 : decode prog_1_method_11_code 10 = .ok (.iload_n 1, 1) := by decide +kernel
theorem d_C_laden_11 : decode prog_1_method_11_code 11 = .ok (.iconst 2, 1) := by decide +kernel
theorem d_C_laden_12 : decode prog_1_method_11_code 12 = .ok (.invokestatic 59, 3) := by decide +kernel
theorem d_C_laden_15 : decode prog_1_method_11_code 15 = .ok (.ifCond .ne 6, 3) := by decide +kernel
theorem d_C_laden_18 : decode prog_1_method_11_code 18 = .ok (.ldc 63, 2) := by decide +kernel
theorem d_C_laden_20 : decode prog_1_method_11_code 20 = .ok (.ireturn, 1) := by decide +kernel
theorem d_C_laden_21 : decode prog_1_method_11_code 21 = .ok (.aload_n 0, 1) := by decide +kernel
theorem d_C_laden_22 : decode prog_1_method_11_code 22 = .ok (.getfield 40, 3) := by decide +kernel
theorem d_C_laden_25 : decode prog_1_method_11_code 25 = .ok (.getfield 160, 3) := by decide +kernel
theorem d_C_laden_28 : decode prog_1_method_11_code 28 = .ok (.iload_n 1, 1) := by decide +kernel
theorem d_C_laden_29 : decode prog_1_method_11_code 29 = .ok (.if_icmp .ne 6, 3) := by decide +kernel
theorem d_C_laden_32 : decode prog_1_method_11_code 32 = .ok (.ldc 133, 2) := by decide +kernel
theorem d_C_laden_34 : decode prog_1_method_11_code 34 = .ok (.ireturn, 1) := by decide +kernel
theorem d_C_laden_35 : decode prog_1_method_11_code 35 = .ok (.aload_n 0, 1) := by decide +kernel
theorem d_C_laden_36 : decode prog_1_method_11_code 36 = .ok (.getfield 26, 3) := by decide +kernel
theorem d_C_laden_39 : decode prog_1_method_11_code 39 = .ok (.aload_n 0, 1) := by decide +kernel
theorem d_C_laden_40 : decode prog_1_method_11_code 40 = .ok (.getfield 40, 3) := by decide +kernel
theorem d_C_laden_43 : decode prog_1_method_11_code 43 = .ok (.iconst 0, 1) := by decide +kernel
theorem d_C_laden_44 : decode prog_1_method_11_code 44 = .ok (.invokevirtual 148, 3) := by decide +kernel
theorem d_C_laden_47 : decode prog_1_method_11_code 47 = .ok (.aload_n 0, 1) := by decide +kernel
theorem d_C_laden_48 : decode prog_1_method_11_code 48 = .ok (.getfield 40, 3) := by decide +kernel
theorem d_C_laden_51 : decode prog_1_method_11_code 51 = .ok (.iload_n 1, 1) := by decide +kernel
theorem d_C_laden_52 : decode prog_1_method_11_code 52 = .ok (.putfield 160, 3) := by decide +kernel
theorem d_C_laden_55 : decode prog_1_method_11_code 55 = .ok (.aload_n 0, 1) := by decide +kernel
theorem d_C_laden_56 : decode prog_1_method_11_code 56 = .ok (.getfield 40, 3) := by decide +kernel
theorem d_C_laden_59 : decode prog_1_method_11_code 59 = .ok (.invokevirtual 163, 3) := by decide +kernel
theorem d_C_laden_62 : decode prog_1_method_11_code 62 = .ok (.ireturn, 1) := by decide +kernel
theorem d_C_moor_0 : decode prog_1_method_12_code 0 = .ok (.aload_n 0, 1) := by decide +kernel
theorem d_C_moor_1 : decode prog_1_method_12_code 1 = .ok (.getfield 116, 3) := by decide +kernel
theorem d_C_moor_4 : decode prog_1_method_12_code 4 = .ok (.ifCond .ne 6, 3) := by decide +kernel
theorem d_C_moor_7 : decode prog_1_method_12_code 7 = .ok (.ldc 133, 2) := by decide +kernel
theorem d_C_moor_9 : decode prog_1_method_12_code 9 = .ok (.ireturn, 1) := by decide +kernel
theorem d_C_moor_10 : decode prog_1_method_12_code 10 = .ok (.iload_n 1, 1) := by decide +kernel
theorem d_C_moor_11 : decode prog_1_method_12_code 11 = .ok (.bipush 24, 2) := by decide +kernel
theorem d_C_moor_13 : decode prog_1_method_12_code 13 = .ok (.invokestatic 59, 3) := by decide +kernel
theorem d_C_moor_16 : decode prog_1_method_12_code 16 = .ok (.ifCond .eq 11, 3) := by decide +kernel
theorem d_C_moor_19 : decode prog_1_method_12_code 19 = .ok (.iload_n 2, 1) := by decide +kernel
theorem d_C_moor_20 : decode prog_1_method_12_code 20 = .ok (.iconst 2, 1) := by decide +kernel
theorem d_C_moor_21 : decode prog_1_method_12_code 21 = .ok (.invokestatic 59, 3) := by decide +kernel
theorem d_C_moor_24 : decode prog_1_method_12_code 24 = .ok (.ifCond .ne 6, 3) := by decide +kernel
theorem d_C_moor_27 : decode prog_1_method_12_code 27 = .ok (.ldc 63, 2) := by decide +kernel
theorem d_C_moor_29 : decode prog_1_method_12_code 29 = .ok (.ireturn, 1) := by decide +kernel
theorem d_C_moor_30 : decode prog_1_method_12_code 30 = .ok (.aload_n 0, 1) := by decide +kernel
theorem d_C_moor_31 : decode prog_1_method_12_code 31 = .ok (.getfield 40, 3) := by decide +kernel
theorem d_C_moor_34 : decode prog_1_method_12_code 34 = .ok (.getfield 166, 3) := by decide +kernel
theorem d_C_moor_37 : decode prog_1_method_12_code 37 = .ok (.iload_n 1, 1) := by decide +kernel
theorem d_C_moor_38 : decode prog_1_method_12_code 38 = .ok (.invokestatic 169, 3) := by decide +kernel
theorem d_C_moor_41 : decode prog_1_method_12_code 41 = .ok (.iload_n 2, 1) := by decide +kernel
theorem d_C_moor_42 : decode prog_1_method_12_code 42 = .ok (.if_icmp .eq 23, 3) := by decide +kernel
theorem d_C_moor_45 : decode prog_1_method_12_code 45 = .ok (.iload_n 2, 1) := by decide +kernel
theorem d_C_moor_46 : decode prog_1_method_12_code 46 = .ok (.iconst 1, 1) := by decide +kernel
theorem d_C_moor_47 : decode prog_1_method_12_code 47 = .ok (.if_icmp .ne 21, 3) := by decide +kernel
theorem d_C_moor_50 : decode prog_1_method_12_code 50 = .ok (.aload_n 0, 1) := by decide +kernel
theorem d_C_moor_51 : decode prog_1_method_12_code 51 = .ok (.getfield 40, 3) := by decide +kernel
theorem d_C_moor_54 : decode prog_1_method_12_code 54 = .ok (.invokevirtual 173, 3) := by decide +kernel
theorem d_C_moor_57 : decode prog_1_method_12_code 57 = .ok (.iload_n 1, 1) := by decide +kernel
theorem d_C_moor_58 : decode prog_1_method_12_code 58 = .ok (.invokestatic 169, 3) := by decide +kernel
theorem d_C_moor_61 : decode prog_1_method_12_code 61 = .ok (.iconst 1, 1) := by decide +kernel
theorem d_C_moor_62 : decode prog_1_method_12_code 62 = .ok (.if_icmp .ne 6, 3) := by decide +kernel
theorem d_C_moor_65 : decode prog_1_method_12_code 65 = .ok (.ldc 133, 2) := by decide +kernel
theorem d_C_moor_67 : decode prog_1_method_12_code 67 = .ok (.ireturn, 1) := by decide +kernel
theorem d_C_moor_68 : decode prog_1_method_12_code 68 = .ok (.iload_n 2, 1) := by decide +kernel
theorem d_C_moor_69 : decode prog_1_method_12_code 69 = .ok (.iconst 1, 1) := by decide +kernel
theorem d_C_moor_70 : decode prog_1_method_12_code 70 = .ok (.if_icmp .ne 20, 3) := by decide +kernel
theorem d_C_moor_73 : decode prog_1_method_12_code 73 = .ok (.aload_n 0, 1) := by decide +kernel
theorem d_C_moor_74 : decode prog_1_method_12_code 74 = .ok (.getfield 40, 3) := by decide +kernel
theorem d_C_moor_77 : decode prog_1_method_12_code 77 = .ok (.getfield 166, 3) := by decide +kernel
theorem d_C_moor_80 : decode prog_1_method_12_code 80 = .ok (.invokestatic 176, 3) := by decide +kernel
theorem d_C_moor_83 : decode prog_1_method_12_code 83 = .ok (.iconst 4, 1) := by decide +kernel
theorem d_C_moor_84 : decode prog_1_method_12_code 84 = .ok (.if_icmp .lt 6, 3) := by decide +kernel
theorem d_C_moor_87 : decode prog_1_method_12_code 87 = .ok (.ldc 103, 2) := by decide +kernel
theorem d_C_moor_89 : decode prog_1_method_12_code 89 = .ok (.ireturn, 1) := by decide +kernel
theorem d_C_moor_90 : decode prog_1_method_12_code 90 = .ok (.aload_n 0, 1) := by decide +kernel
theorem d_C_moor_91 : decode prog_1_method_12_code 91 = .ok (.getfield 26, 3) := by decide +kernel
theorem d_C_moor_94 : decode prog_1_method_12_code 94 = .ok (.aload_n 0, 1) := by decide +kernel
theorem d_C_moor_95 : decode prog_1_method_12_code 95 = .ok (.getfield 40, 3) := by decide +kernel
theorem d_C_moor_98 : decode prog_1_method_12_code 98 = .ok (.iconst 0, 1) := by decide +kernel
theorem d_C_moor_99 : decode prog_1_method_12_code 99 = .ok (.invokevirtual 148, 3) := by decide +kernel
theorem d_C_moor_102 : decode prog_1_method_12_code 102 = .ok (.aload_n 0, 1) := by decide +kernel
theorem d_C_moor_103 : decode prog_1_method_12_code 103 = .ok (.getfield 40, 3) := by decide +kernel
theorem d_C_moor_106 : decode prog_1_method_12_code 106 = .ok (.dup, 1) := by decide +kernel
theorem d_C_moor_107 : decode prog_1_method_12_code 107 = .ok (.getfield 166, 3) := by decide +kernel
theorem d_C_moor_110 : decode prog_1_method_12_code 110 = .ok (.iconst 1, 1) := by decide +kernel
theorem d_C_moor_111 : decode prog_1_method_12_code 111 = .ok (.iload_n 1, 1) := by decide +kernel
theorem d_C_moor_112 : decode prog_1_method_12_code 112 = .ok (.ishl, 1) := by decide +kernel
theorem d_C_moor_113 : decode prog_1_method_12_code 113 = .ok (.ixor, 1) := by decide +kernel
theorem d_C_moor_114 : decode prog_1_method_12_code 114 = .ok (.putfield 166, 3) := by decide +kernel
theorem d_C_moor_117 : decode prog_1_method_12_code 117 = .ok (.aload_n 0, 1) := by decide +kernel
theorem d_C_moor_118 : decode prog_1_method_12_code 118 = .ok (.getfield 40, 3) := by decide +kernel
theorem d_C_moor_121 : decode prog_1_method_12_code 121 = .ok (.getfield 166, 3) := by decide +kernel
theorem d_C_moor_124 : decode prog_1_method_12_code 124 = .ok (.invokestatic 176, 3) := by decide +kernel
theorem d_C_moor_127 : decode prog_1_method_12_code 127 = .ok (.ireturn, 1) := by decide +kernel
theorem d_C_silt_0 : decode prog_1_method_13_code 0 = .ok (.aload_n 0, 1) := by decide +kernel
theorem d_C_silt_1 : decode prog_1_method_13_code 1 = .ok (.getfield 116, 3) := by decide +kernel
theorem d_C_silt_4 : decode prog_1_method_13_code 4 = .ok (.ifCond .ne 6, 3) := by decide +kernel
theorem d_C_silt_7 : decode prog_1_method_13_code 7 = .ok (.ldc 133, 2) := by decide +kernel
theorem d_C_silt_9 : decode prog_1_method_13_code 9 = .ok (.ireturn, 1) := by decide +kernel
theorem d_C_silt_10 : decode prog_1_method_13_code 10 = .ok (.aload_n 0, 1) := by decide +kernel
theorem d_C_silt_11 : decode prog_1_method_13_code 11 = .ok (.getfield 26, 3) := by decide +kernel
theorem d_C_silt_14 : decode prog_1_method_13_code 14 = .ok (.aload_n 0, 1) := by decide +kernel
theorem d_C_silt_15 : decode prog_1_method_13_code 15 = .ok (.getfield 40, 3) := by decide +kernel
theorem d_C_silt_18 : decode prog_1_method_13_code 18 = .ok (.aload_n 0, 1) := by decide +kernel
theorem d_C_silt_19 : decode prog_1_method_13_code 19 = .ok (.getfield 40, 3) := by decide +kernel
theorem d_C_silt_22 : decode prog_1_method_13_code 22 = .ok (.invokevirtual 181, 3) := by decide +kernel
theorem d_C_silt_25 : decode prog_1_method_13_code 25 = .ok (.invokevirtual 148, 3) := by decide +kernel
theorem d_C_silt_28 : decode prog_1_method_13_code 28 = .ok (.aload_n 0, 1) := by decide +kernel
theorem d_C_silt_29 : decode prog_1_method_13_code 29 = .ok (.getfield 40, 3) := by decide +kernel
theorem d_C_silt_32 : decode prog_1_method_13_code 32 = .ok (.invokevirtual 184, 3) := by decide +kernel
theorem d_C_silt_35 : decode prog_1_method_13_code 35 = .ok (.ifCond .eq 7, 3) := by decide +kernel
theorem d_C_silt_38 : decode prog_1_method_13_code 38 = .ok (.iconst 1, 1) := by decide +kernel
theorem d_C_silt_39 : decode prog_1_method_13_code 39 = .ok (.goto 4, 3) := by decide +kernel
theorem d_C_silt_42 : decode prog_1_method_13_code 42 = .ok (.iconst 0, 1) := by decide +kernel
theorem d_C_silt_43 : decode prog_1_method_13_code 43 = .ok (.ireturn, 1) := by decide +kernel
theorem d_C_boat_0 : decode prog_1_method_14_code 0 = .ok (.aload_n 0, 1) := by decide +kernel
theorem d_C_boat_1 : decode prog_1_method_14_code 1 = .ok (.getfield 116, 3) := by decide +kernel
theorem d_C_boat_4 : decode prog_1_method_14_code 4 = .ok (.ifCond .ne 6, 3) := by decide +kernel
theorem d_C_boat_7 : decode prog_1_method_14_code 7 = .ok (.ldc 133, 2) := by decide +kernel
theorem d_C_boat_9 : decode prog_1_method_14_code 9 = .ok (.ireturn, 1) := by decide +kernel
theorem d_C_boat_10 : decode prog_1_method_14_code 10 = .ok (.iload_n 1, 1) := by decide +kernel
theorem d_C_boat_11 : decode prog_1_method_14_code 11 = .ok (.tableswitch 93 0 5 #[37, 45, 53, 61, 69, 85], 37) := by decide +kernel
theorem d_C_boat_48 : decode prog_1_method_14_code 48 = .ok (.aload_n 0, 1) := by decide +kernel
theorem d_C_boat_49 : decode prog_1_method_14_code 49 = .ok (.getfield 40, 3) := by decide +kernel
theorem d_C_boat_52 : decode prog_1_method_14_code 52 = .ok (.getfield 188, 3) := by decide +kernel
theorem d_C_boat_55 : decode prog_1_method_14_code 55 = .ok (.ireturn, 1) := by decide +kernel
theorem d_C_boat_56 : decode prog_1_method_14_code 56 = .ok (.aload_n 0, 1) := by decide +kernel
theorem d_C_boat_57 : decode prog_1_method_14_code 57 = .ok (.getfield 40, 3) := by decide +kernel
theorem d_C_boat_60 : decode prog_1_method_14_code 60 = .ok (.getfield 191, 3) := by decide +kernel
theorem d_C_boat_63 : decode prog_1_method_14_code 63 = .ok (.ireturn, 1) := by decide +kernel
theorem d_C_boat_64 : decode prog_1_method_14_code 64 = .ok (.aload_n 0, 1) := by decide +kernel
theorem d_C_boat_65 : decode prog_1_method_14_code 65 = .ok (.getfield 40, 3) := by decide +kernel
theorem d_C_boat_68 : decode prog_1_method_14_code 68 = .ok (.invokevirtual 163, 3) := by decide +kernel
theorem d_C_boat_71 : decode prog_1_method_14_code 71 = .ok (.ireturn, 1) := by decide +kernel
theorem d_C_boat_72 : decode prog_1_method_14_code 72 = .ok (.aload_n 0, 1) := by decide +kernel
theorem d_C_boat_73 : decode prog_1_method_14_code 73 = .ok (.getfield 40, 3) := by decide +kernel
theorem d_C_boat_76 : decode prog_1_method_14_code 76 = .ok (.getfield 145, 3) := by decide +kernel
theorem d_C_boat_79 : decode prog_1_method_14_code 79 = .ok (.ireturn, 1) := by decide +kernel
theorem d_C_boat_80 : decode prog_1_method_14_code 80 = .ok (.aload_n 0, 1) := by decide +kernel
theorem d_C_boat_81 : decode prog_1_method_14_code 81 = .ok (.getfield 40, 3) := by decide +kernel
theorem d_C_boat_84 : decode prog_1_method_14_code 84 = .ok (.invokevirtual 184, 3) := by decide +kernel
theorem d_C_boat_87 : decode prog_1_method_14_code 87 = .ok (.ifCond .eq 7, 3) := by decide +kernel
theorem d_C_boat_90 : decode prog_1_method_14_code 90 = .ok (.iconst 1, 1) := by decide +kernel
theorem d_C_boat_91 : decode prog_1_method_14_code 91 = .ok (.goto 4, 3) := by decide +kernel
theorem d_C_boat_94 : decode prog_1_method_14_code 94 = .ok (.iconst 0, 1) := by decide +kernel
theorem d_C_boat_95 : decode prog_1_method_14_code 95 = .ok (.ireturn, 1) := by decide +kernel
theorem d_C_boat_96 : decode prog_1_method_14_code 96 = .ok (.aload_n 0, 1) := by decide +kernel
theorem d_C_boat_97 : decode prog_1_method_14_code 97 = .ok (.getfield 40, 3) := by decide +kernel
theorem d_C_boat_100 : decode prog_1_method_14_code 100 = .ok (.invokevirtual 173, 3) := by decide +kernel
theorem d_C_boat_103 : decode prog_1_method_14_code 103 = .ok (.ireturn, 1) := by decide +kernel
theorem d_C_boat_104 : decode prog_1_method_14_code 104 = .ok (.ldc 63, 2) := by decide +kernel
theorem d_C_boat_106 : decode prog_1_method_14_code 106 = .ok (.ireturn, 1) := by decide +kernel
theorem d_C_cell_0 : decode prog_1_method_15_code 0 = .ok (.aload_n 0, 1) := by decide +kernel
theorem d_C_cell_1 : decode prog_1_method_15_code 1 = .ok (.getfield 116, 3) := by decide +kernel
theorem d_C_cell_4 : decode prog_1_method_15_code 4 = .ok (.ifCond .ne 6, 3) := by decide +kernel
theorem d_C_cell_7 : decode prog_1_method_15_code 7 = .ok (.ldc 133, 2) := by decide +kernel
theorem d_C_cell_9 : decode prog_1_method_15_code 9 = .ok (.ireturn, 1) := by decide +kernel
theorem d_C_cell_10 : decode prog_1_method_15_code 10 = .ok (.iload_n 1, 1) := by decide +kernel
theorem d_C_cell_11 : decode prog_1_method_15_code 11 = .ok (.bipush 24, 2) := by decide +kernel
theorem d_C_cell_13 : decode prog_1_method_15_code 13 = .ok (.invokestatic 59, 3) := by decide +kernel
theorem d_C_cell_16 : decode prog_1_method_15_code 16 = .ok (.ifCond .eq 11, 3) := by decide +kernel
theorem d_C_cell_19 : decode prog_1_method_15_code 19 = .ok (.iload_n 2, 1) := by decide +kernel
theorem d_C_cell_20 : decode prog_1_method_15_code 20 = .ok (.iconst 2, 1) := by decide +kernel
theorem d_C_cell_21 : decode prog_1_method_15_code 21 = .ok (.invokestatic 59, 3) := by decide +kernel
theorem d_C_cell_24 : decode prog_1_method_15_code 24 = .ok (.ifCond .ne 6, 3) := by decide +kernel
theorem d_C_cell_27 : decode prog_1_method_15_code 27 = .ok (.ldc 63, 2) := by decide +kernel
theorem d_C_cell_29 : decode prog_1_method_15_code 29 = .ok (.ireturn, 1) := by decide +kernel
theorem d_C_cell_30 : decode prog_1_method_15_code 30 = .ok (.iload_n 2, 1) := by decide +kernel
theorem d_C_cell_31 : decode prog_1_method_15_code 31 = .ok (.ifCond .ne 17, 3) := by decide +kernel
theorem d_C_cell_34 : decode prog_1_method_15_code 34 = .ok (.aload_n 0, 1) := by decide +kernel
theorem d_C_cell_35 : decode prog_1_method_15_code 35 = .ok (.getfield 40, 3) := by decide +kernel
theorem d_C_cell_38 : decode prog_1_method_15_code 38 = .ok (.getfield 194, 3) := by decide +kernel
theorem d_C_cell_41 : decode prog_1_method_15_code 41 = .ok (.iload_n 1, 1) := by decide +kernel
theorem d_C_cell_42 : decode prog_1_method_15_code 42 = .ok (.invokestatic 197, 3) := by decide +kernel
theorem d_C_cell_45 : decode prog_1_method_15_code 45 = .ok (.goto 14, 3) := by decide +kernel
theorem d_C_cell_48 : decode prog_1_method_15_code 48 = .ok (.aload_n 0, 1) := by decide +kernel
theorem d_C_cell_49 : decode prog_1_method_15_code 49 = .ok (.getfield 40, 3) := by decide +kernel
theorem d_C_cell_52 : decode prog_1_method_15_code 52 = .ok (.getfield 166, 3) := by decide +kernel
theorem d_C_cell_55 : decode prog_1_method_15_code 55 = .ok (.iload_n 1, 1) := by decide +kernel
theorem d_C_cell_56 : decode prog_1_method_15_code 56 = .ok (.invokestatic 169, 3) := by decide +kernel
theorem d_C_cell_59 : decode prog_1_method_15_code 59 = .ok (.ireturn, 1) := by decide +kernel
theorem d_C_hand_0 : decode prog_1_method_16_code 0 = .ok (.aload_n 0, 1) := by decide +kernel
theorem d_C_hand_1 : decode prog_1_method_16_code 1 = .ok (.getfield 40, 3) := by decide +kernel
theorem d_C_hand_4 : decode prog_1_method_16_code 4 = .ok (.iload_n 1, 1) := by decide +kernel
theorem d_C_hand_5 : decode prog_1_method_16_code 5 = .ok (.invokevirtual 137, 3) := by decide +kernel
theorem d_C_hand_8 : decode prog_1_method_16_code 8 = .ok (.astore_n 3, 1) := by decide +kernel
theorem d_C_hand_9 : decode prog_1_method_16_code 9 = .ok (.aload_n 3, 1) := by decide +kernel
theorem d_C_hand_10 : decode prog_1_method_16_code 10 = .ok (.ifnull 12, 3) := by decide +kernel
theorem d_C_hand_13 : decode prog_1_method_16_code 13 = .ok (.iload_n 2, 1) := by decide +kernel
theorem d_C_hand_14 : decode prog_1_method_16_code 14 = .ok (.bipush 8, 2) := by decide +kernel
theorem d_C_hand_16 : decode prog_1_method_16_code 16 = .ok (.invokestatic 59, 3) := by decide +kernel
theorem d_C_hand_19 : decode prog_1_method_16_code 19 = .ok (.ifCond .ne 6, 3) := by decide +kernel
theorem d_C_hand_22 : decode prog_1_method_16_code 22 = .ok (.ldc 63, 2) := by decide +kernel
theorem d_C_hand_24 : decode prog_1_method_16_code 24 = .ok (.ireturn, 1) := by decide +kernel
theorem d_C_hand_25 : decode prog_1_method_16_code 25 = .ok (.aload_n 3, 1) := by decide +kernel
theorem d_C_hand_26 : decode prog_1_method_16_code 26 = .ok (.iload_n 2, 1) := by decide +kernel
theorem d_C_hand_27 : decode prog_1_method_16_code 27 = .ok (.invokevirtual 155, 3) := by decide +kernel
theorem d_C_hand_30 : decode prog_1_method_16_code 30 = .ok (.ireturn, 1) := by decide +kernel
theorem d_C_way_0 : decode prog_1_method_17_code 0 = .ok (.aload_n 0, 1) := by decide +kernel
theorem d_C_way_1 : decode prog_1_method_17_code 1 = .ok (.getfield 116, 3) := by decide +kernel
theorem d_C_way_4 : decode prog_1_method_17_code 4 = .ok (.ifCond .ne 6, 3) := by decide +kernel
theorem d_C_way_7 : decode prog_1_method_17_code 7 = .ok (.ldc 133, 2) := by decide +kernel
theorem d_C_way_9 : decode prog_1_method_17_code 9 = .ok (.ireturn, 1) := by decide +kernel
theorem d_C_way_10 : decode prog_1_method_17_code 10 = .ok (.iload_n 1, 1) := by decide +kernel
theorem d_C_way_11 : decode prog_1_method_17_code 11 = .ok (.bipush 24, 2) := by decide +kernel
theorem d_C_way_13 : decode prog_1_method_17_code 13 = .ok (.invokestatic 59, 3) := by decide +kernel
theorem d_C_way_16 : decode prog_1_method_17_code 16 = .ok (.ifCond .eq 20, 3) := by decide +kernel
theorem d_C_way_19 : decode prog_1_method_17_code 19 = .ok (.iload_n 2, 1) := by decide +kernel
theorem d_C_way_20 : decode prog_1_method_17_code 20 = .ok (.bipush 8, 2) := by decide +kernel
theorem d_C_way_22 : decode prog_1_method_17_code 22 = .ok (.invokestatic 59, 3) := by decide +kernel
theorem d_C_way_25 : decode prog_1_method_17_code 25 = .ok (.ifCond .eq 11, 3) := by decide +kernel
theorem d_C_way_28 : decode prog_1_method_17_code 28 = .ok (.iload_n 3, 1) := by decide +kernel
theorem d_C_way_29 : decode prog_1_method_17_code 29 = .ok (.iconst 2, 1) := by decide +kernel
theorem d_C_way_30 : decode prog_1_method_17_code 30 = .ok (.invokestatic 59, 3) := by decide +kernel
theorem d_C_way_33 : decode prog_1_method_17_code 33 = .ok (.ifCond .ne 6, 3) := by decide +kernel
theorem d_C_way_36 : decode prog_1_method_17_code 36 = .ok (.ldc 63, 2) := by decide +kernel
theorem d_C_way_38 : decode prog_1_method_17_code 38 = .ok (.ireturn, 1) := by decide +kernel
theorem d_C_way_39 : decode prog_1_method_17_code 39 = .ok (.aload_n 0, 1) := by decide +kernel
theorem d_C_way_40 : decode prog_1_method_17_code 40 = .ok (.getfield 33, 3) := by decide +kernel
theorem d_C_way_43 : decode prog_1_method_17_code 43 = .ok (.aload_n 0, 1) := by decide +kernel
theorem d_C_way_44 : decode prog_1_method_17_code 44 = .ok (.getfield 40, 3) := by decide +kernel
theorem d_C_way_47 : decode prog_1_method_17_code 47 = .ok (.aload_n 0, 1) := by decide +kernel
theorem d_C_way_48 : decode prog_1_method_17_code 48 = .ok (.getfield 40, 3) := by decide +kernel
theorem d_C_way_51 : decode prog_1_method_17_code 51 = .ok (.invokevirtual 163, 3) := by decide +kernel
theorem d_C_way_54 : decode prog_1_method_17_code 54 = .ok (.iconst (-1), 1) := by decide +kernel
theorem d_C_way_55 : decode prog_1_method_17_code 55 = .ok (.invokevirtual 201, 3) := by decide +kernel
theorem d_C_way_58 : decode prog_1_method_17_code 58 = .ok (.aload_n 0, 1) := by decide +kernel
theorem d_C_way_59 : decode prog_1_method_17_code 59 = .ok (.getfield 33, 3) := by decide +kernel
theorem d_C_way_62 : decode prog_1_method_17_code 62 = .ok (.iload_n 1, 1) := by decide +kernel
theorem d_C_way_63 : decode prog_1_method_17_code 63 = .ok (.iload_n 1, 1) := by decide +kernel
theorem d_C_way_64 : decode prog_1_method_17_code 64 = .ok (.iload_n 2, 1) := by decide +kernel
theorem d_C_way_65 : decode prog_1_method_17_code 65 = .ok (.invokevirtual 205, 3) := by decide +kernel
theorem d_C_way_68 : decode prog_1_method_17_code 68 = .ok (.iload_n 3, 1) := by decide +kernel
theorem d_C_way_69 : decode prog_1_method_17_code 69 = .ok (.ifCond .ne 13, 3) := by decide +kernel
theorem d_C_way_72 : decode prog_1_method_17_code 72 = .ok (.aload_n 0, 1) := by decide +kernel
theorem d_C_way_73 : decode prog_1_method_17_code 73 = .ok (.getfield 33, 3) := by decide +kernel
theorem d_C_way_76 : decode prog_1_method_17_code 76 = .ok (.getfield 208, 3) := by decide +kernel
theorem d_C_way_79 : decode prog_1_method_17_code 79 = .ok (.goto 10, 3) := by decide +kernel
theorem d_C_way_82 : decode prog_1_method_17_code 82 = .ok (.aload_n 0, 1) := by decide +kernel
theorem d_C_way_83 : decode prog_1_method_17_code 83 = .ok (.getfield 33, 3) := by decide +kernel
theorem d_C_way_86 : decode prog_1_method_17_code 86 = .ok (.getfield 211, 3) := by decide +kernel
theorem d_C_way_89 : decode prog_1_method_17_code 89 = .ok (.ireturn, 1) := by decide +kernel
theorem d_C_turned_0 : decode prog_1_method_18_code 0 = .ok (.aload_n 0, 1) := by decide +kernel
theorem d_C_turned_1 : decode prog_1_method_18_code 1 = .ok (.getfield 116, 3) := by decide +kernel
theorem d_C_turned_4 : decode prog_1_method_18_code 4 = .ok (.ifCond .ne 6, 3) := by decide +kernel
theorem d_C_turned_7 : decode prog_1_method_18_code 7 = .ok (.ldc 133, 2) := by decide +kernel
theorem d_C_turned_9 : decode prog_1_method_18_code 9 = .ok (.ireturn, 1) := by decide +kernel
theorem d_C_turned_10 : decode prog_1_method_18_code 10 = .ok (.iload_n 1, 1) := by decide +kernel
theorem d_C_turned_11 : decode prog_1_method_18_code 11 = .ok (.iconst 2, 1) := by decide +kernel
theorem d_C_turned_12 : decode prog_1_method_18_code 12 = .ok (.invokestatic 59, 3) := by decide +kernel
theorem d_C_turned_15 : decode prog_1_method_18_code 15 = .ok (.ifCond .ne 6, 3) := by decide +kernel
theorem d_C_turned_18 : decode prog_1_method_18_code 18 = .ok (.ldc 63, 2) := by decide +kernel
theorem d_C_turned_20 : decode prog_1_method_18_code 20 = .ok (.ireturn, 1) := by decide +kernel
theorem d_C_turned_21 : decode prog_1_method_18_code 21 = .ok (.aload_n 0, 1) := by decide +kernel
theorem d_C_turned_22 : decode prog_1_method_18_code 22 = .ok (.getfield 33, 3) := by decide +kernel
theorem d_C_turned_25 : decode prog_1_method_18_code 25 = .ok (.aload_n 0, 1) := by decide +kernel
theorem d_C_turned_26 : decode prog_1_method_18_code 26 = .ok (.getfield 40, 3) := by decide +kernel
theorem d_C_turned_29 : decode prog_1_method_18_code 29 = .ok (.aload_n 0, 1) := by decide +kernel
theorem d_C_turned_30 : decode prog_1_method_18_code 30 = .ok (.getfield 40, 3) := by decide +kernel
theorem d_C_turned_33 : decode prog_1_method_18_code 33 = .ok (.invokevirtual 163, 3) := by decide +kernel
theorem d_C_turned_36 : decode prog_1_method_18_code 36 = .ok (.invokevirtual 214, 3) := by decide +kernel
theorem d_C_turned_39 : decode prog_1_method_18_code 39 = .ok (.istore_n 2, 1) := by decide +kernel
theorem d_C_turned_40 : decode prog_1_method_18_code 40 = .ok (.iload_n 1, 1) := by decide +kernel
theorem d_C_turned_41 : decode prog_1_method_18_code 41 = .ok (.ifCond .ne 7, 3) := by decide +kernel
theorem d_C_turned_44 : decode prog_1_method_18_code 44 = .ok (.iload_n 2, 1) := by decide +kernel
theorem d_C_turned_45 : decode prog_1_method_18_code 45 = .ok (.goto 10, 3) := by decide +kernel
theorem d_C_turned_48 : decode prog_1_method_18_code 48 = .ok (.aload_n 0, 1) := by decide +kernel
theorem d_C_turned_49 : decode prog_1_method_18_code 49 = .ok (.getfield 33, 3) := by decide +kernel
theorem d_C_turned_52 : decode prog_1_method_18_code 52 = .ok (.getfield 211, 3) := by decide +kernel
theorem d_C_turned_55 : decode prog_1_method_18_code 55 = .ok (.ireturn, 1) := by decide +kernel
theorem d_C_inches_0 : decode prog_1_method_19_code 0 = .ok (.aload_n 0, 1) := by decide +kernel
theorem d_C_inches_1 : decode prog_1_method_19_code 1 = .ok (.getfield 116, 3) := by decide +kernel
theorem d_C_inches_4 : decode prog_1_method_19_code 4 = .ok (.ifCond .ne 6, 3) := by decide +kernel
theorem d_C_inches_7 : decode prog_1_method_19_code 7 = .ok (.ldc 133, 2) := by decide +kernel
theorem d_C_inches_9 : decode prog_1_method_19_code 9 = .ok (.ireturn, 1) := by decide +kernel
theorem d_C_inches_10 : decode prog_1_method_19_code 10 = .ok (.iconst 0, 1) := by decide +kernel
theorem d_C_inches_11 : decode prog_1_method_19_code 11 = .ok (.istore_n 1, 1) := by decide +kernel
theorem d_C_inches_12 : decode prog_1_method_19_code 12 = .ok (.iload_n 1, 1) := by decide +kernel
theorem d_C_inches_13 : decode prog_1_method_19_code 13 = .ok (.iconst 5, 1) := by decide +kernel
theorem d_C_inches_14 : decode prog_1_method_19_code 14 = .ok (.if_icmp .gt 40, 3) := by decide +kernel
theorem d_C_inches_17 : decode prog_1_method_19_code 17 = .ok (.aload_n 0, 1) := by decide +kernel
theorem d_C_inches_18 : decode prog_1_method_19_code 18 = .ok (.getfield 33, 3) := by decide +kernel
theorem d_C_inches_21 : decode prog_1_method_19_code 21 = .ok (.aload_n 0, 1) := by decide +kernel
theorem d_C_inches_22 : decode prog_1_method_19_code 22 = .ok (.getfield 40, 3) := by decide +kernel
theorem d_C_inches_25 : decode prog_1_method_19_code 25 = .ok (.iconst 0, 1) := by decide +kernel
theorem d_C_inches_26 : decode prog_1_method_19_code 26 = .ok (.aload_n 0, 1) := by decide +kernel
theorem d_C_inches_27 : decode prog_1_method_19_code 27 = .ok (.getfield 40, 3) := by decide +kernel
theorem d_C_inches_30 : decode prog_1_method_19_code 30 = .ok (.invokevirtual 163, 3) := by decide +kernel
theorem d_C_inches_33 : decode prog_1_method_19_code 33 = .ok (.iload_n 1, 1) := by decide +kernel
theorem d_C_inches_34 : decode prog_1_method_19_code 34 = .ok (.isub, 1) := by decide +kernel
theorem d_C_inches_35 : decode prog_1_method_19_code 35 = .ok (.invokestatic 218, 3) := by decide +kernel
theorem d_C_inches_38 : decode prog_1_method_19_code 38 = .ok (.invokevirtual 214, 3) := by decide +kernel
theorem d_C_inches_41 : decode prog_1_method_19_code 41 = .ok (.ldc 223, 2) := by decide +kernel
theorem d_C_inches_43 : decode prog_1_method_19_code 43 = .ok (.if_icmp .eq 5, 3) := by decide +kernel
theorem d_C_inches_46 : decode prog_1_method_19_code 46 = .ok (.iload_n 1, 1) := by decide +kernel
theorem d_C_inches_47 : decode prog_1_method_19_code 47 = .ok (.ireturn, 1) := by decide +kernel
theorem d_C_inches_48 : decode prog_1_method_19_code 48 = .ok (.iinc 1 1, 3) := by decide +kernel
theorem d_C_inches_51 : decode prog_1_method_19_code 51 = .ok (.goto (-39), 3) := by decide +kernel
theorem d_C_inches_54 : decode prog_1_method_19_code 54 = .ok (.ldc 223, 2) := by decide +kernel
theorem d_C_inches_56 : decode prog_1_method_19_code 56 = .ok (.ireturn, 1) := by decide +kernel
theorem d_C_inTheWay_0 : decode prog_1_method_20_code 0 = .ok (.aload_n 0, 1) := by decide +kernel
theorem d_C_inTheWay_1 : decode prog_1_method_20_code 1 = .ok (.getfield 116, 3) := by decide +kernel
theorem d_C_inTheWay_4 : decode prog_1_method_20_code 4 = .ok (.ifCond .ne 6, 3) := by decide +kernel
theorem d_C_inTheWay_7 : decode prog_1_method_20_code 7 = .ok (.ldc 133, 2) := by decide +kernel
theorem d_C_inTheWay_9 : decode prog_1_method_20_code 9 = .ok (.ireturn, 1) := by decide +kernel
theorem d_C_inTheWay_10 : decode prog_1_method_20_code 10 = .ok (.iload_n 1, 1) := by decide +kernel
theorem d_C_inTheWay_11 : decode prog_1_method_20_code 11 = .ok (.iconst 2, 1) := by decide +kernel
theorem d_C_inTheWay_12 : decode prog_1_method_20_code 12 = .ok (.invokestatic 59, 3) := by decide +kernel
theorem d_C_inTheWay_15 : decode prog_1_method_20_code 15 = .ok (.ifCond .eq 12, 3) := by decide +kernel
theorem d_C_inTheWay_18 : decode prog_1_method_20_code 18 = .ok (.aload_n 0, 1) := by decide +kernel
theorem d_C_inTheWay_19 : decode prog_1_method_20_code 19 = .ok (.iconst 0, 1) := by decide +kernel
theorem d_C_inTheWay_20 : decode prog_1_method_20_code 20 = .ok (.iload_n 1, 1) := by decide +kernel
theorem d_C_inTheWay_21 : decode prog_1_method_20_code 21 = .ok (.invokevirtual 224, 3) := by decide +kernel
theorem d_C_inTheWay_24 : decode prog_1_method_20_code 24 = .ok (.goto 5, 3) := by decide +kernel
theorem d_C_inTheWay_27 : decode prog_1_method_20_code 27 = .ok (.ldc 63, 2) := by decide +kernel
theorem d_C_inTheWay_29 : decode prog_1_method_20_code 29 = .ok (.ireturn, 1) := by decide +kernel
theorem d_C_dig_0 : decode prog_1_method_21_code 0 = .ok (.aload_n 0, 1) := by decide +kernel
theorem d_C_dig_1 : decode prog_1_method_21_code 1 = .ok (.getfield 116, 3) := by decide +kernel
theorem d_C_dig_4 : decode prog_1_method_21_code 4 = .ok (.ifCond .ne 6, 3) := by decide +kernel
theorem d_C_dig_7 : decode prog_1_method_21_code 7 = .ok (.ldc 133, 2) := by decide +kernel
theorem d_C_dig_9 : decode prog_1_method_21_code 9 = .ok (.ireturn, 1) := by decide +kernel
theorem d_C_dig_10 : decode prog_1_method_21_code 10 = .ok (.iload_n 1, 1) := by decide +kernel
theorem d_C_dig_11 : decode prog_1_method_21_code 11 = .ok (.iconst 2, 1) := by decide +kernel
theorem d_C_dig_12 : decode prog_1_method_21_code 12 = .ok (.invokestatic 59, 3) := by decide +kernel
theorem d_C_dig_15 : decode prog_1_method_21_code 15 = .ok (.ifCond .eq 12, 3) := by decide +kernel
theorem d_C_dig_18 : decode prog_1_method_21_code 18 = .ok (.aload_n 0, 1) := by decide +kernel
theorem d_C_dig_19 : decode prog_1_method_21_code 19 = .ok (.iconst 1, 1) := by decide +kernel
theorem d_C_dig_20 : decode prog_1_method_21_code 20 = .ok (.iload_n 1, 1) := by decide +kernel
theorem d_C_dig_21 : decode prog_1_method_21_code 21 = .ok (.invokevirtual 224, 3) := by decide +kernel
theorem d_C_dig_24 : decode prog_1_method_21_code 24 = .ok (.goto 5, 3) := by decide +kernel
theorem d_C_dig_27 : decode prog_1_method_21_code 27 = .ok (.ldc 63, 2) := by decide +kernel
theorem d_C_dig_29 : decode prog_1_method_21_code 29 = .ok (.ireturn, 1) := by decide +kernel
theorem d_C_years_0 : decode prog_1_method_22_code 0 = .ok (.aload_n 0, 1) := by decide +kernel
theorem d_C_years_1 : decode prog_1_method_22_code 1 = .ok (.getfield 116, 3) := by decide +kernel
theorem d_C_years_4 : decode prog_1_method_22_code 4 = .ok (.ifCond .ne 6, 3) := by decide +kernel
theorem d_C_years_7 : decode prog_1_method_22_code 7 = .ok (.ldc 133, 2) := by decide +kernel
theorem d_C_years_9 : decode prog_1_method_22_code 9 = .ok (.ireturn, 1) := by decide +kernel
theorem d_C_years_10 : decode prog_1_method_22_code 10 = .ok (.aload_n 0, 1) := by decide +kernel
theorem d_C_years_11 : decode prog_1_method_22_code 11 = .ok (.getfield 44, 3) := by decide +kernel
theorem d_C_years_14 : decode prog_1_method_22_code 14 = .ok (.aload_n 0, 1) := by decide +kernel
theorem d_C_years_15 : decode prog_1_method_22_code 15 = .ok (.getfield 40, 3) := by decide +kernel
theorem d_C_years_18 : decode prog_1_method_22_code 18 = .ok (.invokevirtual 112, 3) := by decide +kernel
theorem d_C_years_21 : decode prog_1_method_22_code 21 = .ok (.iconst 0, 1) := by decide +kernel
theorem d_C_years_22 : decode prog_1_method_22_code 22 = .ok (.istore_n 1, 1) := by decide +kernel
theorem d_C_years_23 : decode prog_1_method_22_code 23 = .ok (.iload_n 1, 1) := by decide +kernel
theorem d_C_years_24 : decode prog_1_method_22_code 24 = .ok (.bipush 10, 2) := by decide +kernel
theorem d_C_years_26 : decode prog_1_method_22_code 26 = .ok (.if_icmp .gt 42, 3) := by decide +kernel
theorem d_C_years_29 : decode prog_1_method_22_code 29 = .ok (.aload_n 0, 1) := by decide +kernel
theorem d_C_years_30 : decode prog_1_method_22_code 30 = .ok (.getfield 33, 3) := by decide +kernel
theorem d_C_years_33 : decode prog_1_method_22_code 33 = .ok (.aload_n 0, 1) := by decide +kernel
theorem d_C_years_34 : decode prog_1_method_22_code 34 = .ok (.getfield 44, 3) := by decide +kernel
theorem d_C_years_37 : decode prog_1_method_22_code 37 = .ok (.aload_n 0, 1) := by decide +kernel
theorem d_C_years_38 : decode prog_1_method_22_code 38 = .ok (.getfield 44, 3) := by decide +kernel
theorem d_C_years_41 : decode prog_1_method_22_code 41 = .ok (.invokevirtual 163, 3) := by decide +kernel
theorem d_C_years_44 : decode prog_1_method_22_code 44 = .ok (.invokevirtual 214, 3) := by decide +kernel
theorem d_C_years_47 : decode prog_1_method_22_code 47 = .ok (.ldc 223, 2) := by decide +kernel
theorem d_C_years_49 : decode prog_1_method_22_code 49 = .ok (.if_icmp .ne 5, 3) := by decide +kernel
theorem d_C_years_52 : decode prog_1_method_22_code 52 = .ok (.iload_n 1, 1) := by decide +kernel
theorem d_C_years_53 : decode prog_1_method_22_code 53 = .ok (.ireturn, 1) := by decide +kernel
theorem d_C_years_54 : decode prog_1_method_22_code 54 = .ok (.aload_n 0, 1) := by decide +kernel
theorem d_C_years_55 : decode prog_1_method_22_code 55 = .ok (.getfield 44, 3) := by decide +kernel
theorem d_C_years_58 : decode prog_1_method_22_code 58 = .ok (.invokevirtual 181, 3) := by decide +kernel
theorem d_C_years_61 : decode prog_1_method_22_code 61 = .ok (.pop, 1) := by decide +kernel
theorem d_C_years_62 : decode prog_1_method_22_code 62 = .ok (.iinc 1 1, 3) := by decide +kernel
theorem d_C_years_65 : decode prog_1_method_22_code 65 = .ok (.goto (-42), 3) := by decide +kernel
theorem d_C_years_68 : decode prog_1_method_22_code 68 = .ok (.ldc 223, 2) := by decide +kernel
theorem d_C_years_70 : decode prog_1_method_22_code 70 = .ok (.ireturn, 1) := by decide +kernel
theorem d_C_better_0 : decode prog_1_method_23_code 0 = .ok (.aload_n 0, 1) := by decide +kernel
theorem d_C_better_1 : decode prog_1_method_23_code 1 = .ok (.getfield 116, 3) := by decide +kernel
theorem d_C_better_4 : decode prog_1_method_23_code 4 = .ok (.ifCond .ne 6, 3) := by decide +kernel
theorem d_C_better_7 : decode prog_1_method_23_code 7 = .ok (.ldc 133, 2) := by decide +kernel
theorem d_C_better_9 : decode prog_1_method_23_code 9 = .ok (.ireturn, 1) := by decide +kernel
theorem d_C_better_10 : decode prog_1_method_23_code 10 = .ok (.aload_n 0, 1) := by decide +kernel
theorem d_C_better_11 : decode prog_1_method_23_code 11 = .ok (.iconst 0, 1) := by decide +kernel
theorem d_C_better_12 : decode prog_1_method_23_code 12 = .ok (.invokevirtual 228, 3) := by decide +kernel
theorem d_C_better_15 : decode prog_1_method_23_code 15 = .ok (.istore_n 1, 1) := by decide +kernel
theorem d_C_better_16 : decode prog_1_method_23_code 16 = .ok (.aload_n 0, 1) := by decide +kernel
theorem d_C_better_17 : decode prog_1_method_23_code 17 = .ok (.iconst 1, 1) := by decide +kernel
theorem d_C_better_18 : decode prog_1_method_23_code 18 = .ok (.invokevirtual 228, 3) := by decide +kernel
theorem d_C_better_21 : decode prog_1_method_23_code 21 = .ok (.istore_n 2, 1) := by decide +kernel
theorem d_C_better_22 : decode prog_1_method_23_code 22 = .ok (.iload_n 1, 1) := by decide +kernel
theorem d_C_better_23 : decode prog_1_method_23_code 23 = .ok (.iload_n 2, 1) := by decide +kernel
theorem d_C_better_24 : decode prog_1_method_23_code 24 = .ok (.if_icmp .ne 15, 3) := by decide +kernel
theorem d_C_better_27 : decode prog_1_method_23_code 27 = .ok (.iload_n 1, 1) := by decide +kernel
theorem d_C_better_28 : decode prog_1_method_23_code 28 = .ok (.ldc 223, 2) := by decide +kernel
theorem d_C_better_30 : decode prog_1_method_23_code 30 = .ok (.if_icmp .ne 7, 3) := by decide +kernel
theorem d_C_better_33 : decode prog_1_method_23_code 33 = .ok (.iconst 3, 1) := by decide +kernel
theorem d_C_better_34 : decode prog_1_method_23_code 34 = .ok (.goto 4, 3) := by decide +kernel
theorem d_C_better_37 : decode prog_1_method_23_code 37 = .ok (.iconst 2, 1) := by decide +kernel
theorem d_C_better_38 : decode prog_1_method_23_code 38 = .ok (.ireturn, 1) := by decide +kernel
theorem d_C_better_39 : decode prog_1_method_23_code 39 = .ok (.iload_n 1, 1) := by decide +kernel
theorem d_C_better_40 : decode prog_1_method_23_code 40 = .ok (.ldc 223, 2) := by decide +kernel
theorem d_C_better_42 : decode prog_1_method_23_code 42 = .ok (.if_icmp .eq 9, 3) := by decide +kernel
theorem d_C_better_45 : decode prog_1_method_23_code 45 = .ok (.iload_n 2, 1) := by decide +kernel
theorem d_C_better_46 : decode prog_1_method_23_code 46 = .ok (.ldc 223, 2) := by decide +kernel
theorem d_C_better_48 : decode prog_1_method_23_code 48 = .ok (.if_icmp .ne 15, 3) := by decide +kernel
theorem d_C_better_51 : decode prog_1_method_23_code 51 = .ok (.iload_n 1, 1) := by decide +kernel
theorem d_C_better_52 : decode prog_1_method_23_code 52 = .ok (.ldc 223, 2) := by decide +kernel
theorem d_C_better_54 : decode prog_1_method_23_code 54 = .ok (.if_icmp .ne 7, 3) := by decide +kernel
theorem d_C_better_57 : decode prog_1_method_23_code 57 = .ok (.iconst 1, 1) := by decide +kernel
theorem d_C_better_58 : decode prog_1_method_23_code 58 = .ok (.goto 4, 3) := by decide +kernel
