/-! ===== instructions ===== -/
theorem d_M_silt_35 : decode prog_14_method_45_code 35 = .ok (.iconst 1, 1) := by decide +kernel
theorem d_M_silt_36 : decode prog_14_method_45_code 36 = .ok (.goto 4, 3) := by decide +kernel
theorem d_M_silt_39 : decode prog_14_method_45_code 39 = .ok (.iconst 0, 1) := by decide +kernel
theorem d_M_silt_40 : decode prog_14_method_45_code 40 = .ok (.ireturn, 1) := by decide +kernel
theorem d_M_boat_0 : decode prog_14_method_46_code 0 = .ok (.aload_n 0, 1) := by decide +kernel
theorem d_M_boat_1 : decode prog_14_method_46_code 1 = .ok (.iconst 0, 1) := by decide +kernel
theorem d_M_boat_2 : decode prog_14_method_46_code 2 = .ok (.putfield 50, 3) := by decide +kernel
theorem d_M_boat_5 : decode prog_14_method_46_code 5 = .ok (.aload_n 0, 1) := by decide +kernel
theorem d_M_boat_6 : decode prog_14_method_46_code 6 = .ok (.getfield 25, 3) := by decide +kernel
theorem d_M_boat_9 : decode prog_14_method_46_code 9 = .ok (.iconst 0, 1) := by decide +kernel
theorem d_M_boat_10 : decode prog_14_method_46_code 10 = .ok (.iaload, 1) := by decide +kernel
theorem d_M_boat_11 : decode prog_14_method_46_code 11 = .ok (.ifCond .ne 6, 3) := by decide +kernel
theorem d_M_boat_14 : decode prog_14_method_46_code 14 = .ok (.ldc 148, 2) := by decide +kernel
theorem d_M_boat_16 : decode prog_14_method_46_code 16 = .ok (.ireturn, 1) := by decide +kernel
theorem d_M_boat_17 : decode prog_14_method_46_code 17 = .ok (.iload_n 1, 1) := by decide +kernel
theorem d_M_boat_18 : decode prog_14_method_46_code 18 = .ok (.iconst 0, 1) := by decide +kernel
theorem d_M_boat_19 : decode prog_14_method_46_code 19 = .ok (.iconst 5, 1) := by decide +kernel
theorem d_M_boat_20 : decode prog_14_method_46_code 20 = .ok (.invokestatic 58, 3) := by decide +kernel
theorem d_M_boat_23 : decode prog_14_method_46_code 23 = .ok (.ifCond .ne 6, 3) := by decide +kernel
theorem d_M_boat_26 : decode prog_14_method_46_code 26 = .ok (.ldc 66, 2) := by decide +kernel
theorem d_M_boat_28 : decode prog_14_method_46_code 28 = .ok (.ireturn, 1) := by decide +kernel
theorem d_M_boat_29 : decode prog_14_method_46_code 29 = .ok (.iload_n 1, 1) := by decide +kernel
theorem d_M_boat_30 : decode prog_14_method_46_code 30 = .ok (.iconst 2, 1) := by decide +kernel
theorem d_M_boat_31 : decode prog_14_method_46_code 31 = .ok (.if_icmp .ge 13, 3) := by decide +kernel
theorem d_M_boat_34 : decode prog_14_method_46_code 34 = .ok (.aload_n 0, 1) := by decide +kernel
theorem d_M_boat_35 : decode prog_14_method_46_code 35 = .ok (.getfield 25, 3) := by decide +kernel
theorem d_M_boat_38 : decode prog_14_method_46_code 38 = .ok (.bipush 14, 2) := by decide +kernel
theorem d_M_boat_40 : decode prog_14_method_46_code 40 = .ok (.iload_n 1, 1) := by decide +kernel
theorem d_M_boat_41 : decode prog_14_method_46_code 41 = .ok (.iadd, 1) := by decide +kernel
theorem d_M_boat_42 : decode prog_14_method_46_code 42 = .ok (.iaload, 1) := by decide +kernel
theorem d_M_boat_43 : decode prog_14_method_46_code 43 = .ok (.ireturn, 1) := by decide +kernel
theorem d_M_boat_44 : decode prog_14_method_46_code 44 = .ok (.iload_n 1, 1) := by decide +kernel
theorem d_M_boat_45 : decode prog_14_method_46_code 45 = .ok (.iconst 2, 1) := by decide +kernel
theorem d_M_boat_46 : decode prog_14_method_46_code 46 = .ok (.if_icmp .ne 14, 3) := by decide +kernel
theorem d_M_boat_49 : decode prog_14_method_46_code 49 = .ok (.aload_n 0, 1) := by decide +kernel
theorem d_M_boat_50 : decode prog_14_method_46_code 50 = .ok (.getfield 25, 3) := by decide +kernel
theorem d_M_boat_53 : decode prog_14_method_46_code 53 = .ok (.iconst 0, 1) := by decide +kernel
theorem d_M_boat_54 : decode prog_14_method_46_code 54 = .ok (.invokestatic 163, 3) := by decide +kernel
theorem d_M_boat_57 : decode prog_14_method_46_code 57 = .ok (.goto 42, 3) := by decide +kernel
theorem d_M_boat_60 : decode prog_14_method_46_code 60 = .ok (.iload_n 1, 1) := by decide +kernel
theorem d_M_boat_61 : decode prog_14_method_46_code 61 = .ok (.iconst 3, 1) := by decide +kernel
theorem d_M_boat_62 : decode prog_14_method_46_code 62 = .ok (.if_icmp .ne 13, 3) := by decide +kernel
theorem d_M_boat_65 : decode prog_14_method_46_code 65 = .ok (.aload_n 0, 1) := by decide +kernel
theorem d_M_boat_66 : decode prog_14_method_46_code 66 = .ok (.getfield 25, 3) := by decide +kernel
theorem d_M_boat_69 : decode prog_14_method_46_code 69 = .ok (.bipush 17, 2) := by decide +kernel
theorem d_M_boat_71 : decode prog_14_method_46_code 71 = .ok (.iaload, 1) := by decide +kernel
theorem d_M_boat_72 : decode prog_14_method_46_code 72 = .ok (.goto 27, 3) := by decide +kernel
theorem d_M_boat_75 : decode prog_14_method_46_code 75 = .ok (.iload_n 1, 1) := by decide +kernel
theorem d_M_boat_76 : decode prog_14_method_46_code 76 = .ok (.iconst 4, 1) := by decide +kernel
theorem d_M_boat_77 : decode prog_14_method_46_code 77 = .ok (.if_icmp .ne 18, 3) := by decide +kernel
theorem d_M_boat_80 : decode prog_14_method_46_code 80 = .ok (.aload_n 0, 1) := by decide +kernel
theorem d_M_boat_81 : decode prog_14_method_46_code 81 = .ok (.invokevirtual 195, 3) := by decide +kernel
theorem d_M_boat_84 : decode prog_14_method_46_code 84 = .ok (.ifCond .eq 7, 3) := by decide +kernel
theorem d_M_boat_87 : decode prog_14_method_46_code 87 = .ok (.iconst 1, 1) := by decide +kernel
theorem d_M_boat_88 : decode prog_14_method_46_code 88 = .ok (.goto 11, 3) := by decide +kernel
theorem d_M_boat_91 : decode prog_14_method_46_code 91 = .ok (.iconst 0, 1) := by decide +kernel
theorem d_M_boat_92 : decode prog_14_method_46_code 92 = .ok (.goto 7, 3) := by decide +kernel
theorem d_M_boat_95 : decode prog_14_method_46_code 95 = .ok (.aload_n 0, 1) := by decide +kernel
theorem d_M_boat_96 : decode prog_14_method_46_code 96 = .ok (.invokevirtual 187, 3) := by decide +kernel
theorem d_M_boat_99 : decode prog_14_method_46_code 99 = .ok (.ireturn, 1) := by decide +kernel
theorem d_M_cell_0 : decode prog_14_method_47_code 0 = .ok (.aload_n 0, 1) := by decide +kernel
theorem d_M_cell_1 : decode prog_14_method_47_code 1 = .ok (.iconst 0, 1) := by decide +kernel
theorem d_M_cell_2 : decode prog_14_method_47_code 2 = .ok (.putfield 50, 3) := by decide +kernel
theorem d_M_cell_5 : decode prog_14_method_47_code 5 = .ok (.aload_n 0, 1) := by decide +kernel
theorem d_M_cell_6 : decode prog_14_method_47_code 6 = .ok (.getfield 25, 3) := by decide +kernel
theorem d_M_cell_9 : decode prog_14_method_47_code 9 = .ok (.iconst 0, 1) := by decide +kernel
theorem d_M_cell_10 : decode prog_14_method_47_code 10 = .ok (.iaload, 1) := by decide +kernel
theorem d_M_cell_11 : decode prog_14_method_47_code 11 = .ok (.ifCond .ne 6, 3) := by decide +kernel
theorem d_M_cell_14 : decode prog_14_method_47_code 14 = .ok (.ldc 148, 2) := by decide +kernel
theorem d_M_cell_16 : decode prog_14_method_47_code 16 = .ok (.ireturn, 1) := by decide +kernel
theorem d_M_cell_17 : decode prog_14_method_47_code 17 = .ok (.iload_n 1, 1) := by decide +kernel
theorem d_M_cell_18 : decode prog_14_method_47_code 18 = .ok (.iconst 0, 1) := by decide +kernel
theorem d_M_cell_19 : decode prog_14_method_47_code 19 = .ok (.bipush 23, 2) := by decide +kernel
theorem d_M_cell_21 : decode prog_14_method_47_code 21 = .ok (.invokestatic 58, 3) := by decide +kernel
theorem d_M_cell_24 : decode prog_14_method_47_code 24 = .ok (.ifCond .eq 12, 3) := by decide +kernel
theorem d_M_cell_27 : decode prog_14_method_47_code 27 = .ok (.iload_n 2, 1) := by decide +kernel
theorem d_M_cell_28 : decode prog_14_method_47_code 28 = .ok (.iconst 0, 1) := by decide +kernel
theorem d_M_cell_29 : decode prog_14_method_47_code 29 = .ok (.iconst 1, 1) := by decide +kernel
theorem d_M_cell_30 : decode prog_14_method_47_code 30 = .ok (.invokestatic 58, 3) := by decide +kernel
theorem d_M_cell_33 : decode prog_14_method_47_code 33 = .ok (.ifCond .ne 6, 3) := by decide +kernel
theorem d_M_cell_36 : decode prog_14_method_47_code 36 = .ok (.ldc 66, 2) := by decide +kernel
theorem d_M_cell_38 : decode prog_14_method_47_code 38 = .ok (.ireturn, 1) := by decide +kernel
theorem d_M_cell_39 : decode prog_14_method_47_code 39 = .ok (.iload_n 2, 1) := by decide +kernel
theorem d_M_cell_40 : decode prog_14_method_47_code 40 = .ok (.ifCond .ne 15, 3) := by decide +kernel
theorem d_M_cell_43 : decode prog_14_method_47_code 43 = .ok (.aload_n 0, 1) := by decide +kernel
theorem d_M_cell_44 : decode prog_14_method_47_code 44 = .ok (.getfield 25, 3) := by decide +kernel
theorem d_M_cell_47 : decode prog_14_method_47_code 47 = .ok (.bipush 18, 2) := by decide +kernel
theorem d_M_cell_49 : decode prog_14_method_47_code 49 = .ok (.iload_n 1, 1) := by decide +kernel
theorem d_M_cell_50 : decode prog_14_method_47_code 50 = .ok (.iadd, 1) := by decide +kernel
theorem d_M_cell_51 : decode prog_14_method_47_code 51 = .ok (.iaload, 1) := by decide +kernel
theorem d_M_cell_52 : decode prog_14_method_47_code 52 = .ok (.goto 14, 3) := by decide +kernel
theorem d_M_cell_55 : decode prog_14_method_47_code 55 = .ok (.aload_n 0, 1) := by decide +kernel
theorem d_M_cell_56 : decode prog_14_method_47_code 56 = .ok (.getfield 25, 3) := by decide +kernel
theorem d_M_cell_59 : decode prog_14_method_47_code 59 = .ok (.bipush 13, 2) := by decide +kernel
theorem d_M_cell_61 : decode prog_14_method_47_code 61 = .ok (.iaload, 1) := by decide +kernel
theorem d_M_cell_62 : decode prog_14_method_47_code 62 = .ok (.iload_n 1, 1) := by decide +kernel
theorem d_M_cell_63 : decode prog_14_method_47_code 63 = .ok (.ishr, 1) := by decide +kernel
theorem d_M_cell_64 : decode prog_14_method_47_code 64 = .ok (.iconst 1, 1) := by decide +kernel
theorem d_M_cell_65 : decode prog_14_method_47_code 65 = .ok (.iand, 1) := by decide +kernel
theorem d_M_cell_66 : decode prog_14_method_47_code 66 = .ok (.ireturn, 1) := by decide +kernel
theorem d_M_hand_0 : decode prog_14_method_48_code 0 = .ok (.aload_n 0, 1) := by decide +kernel
theorem d_M_hand_1 : decode prog_14_method_48_code 1 = .ok (.iconst 0, 1) := by decide +kernel
theorem d_M_hand_2 : decode prog_14_method_48_code 2 = .ok (.putfield 50, 3) := by decide +kernel
theorem d_M_hand_5 : decode prog_14_method_48_code 5 = .ok (.aload_n 0, 1) := by decide +kernel
theorem d_M_hand_6 : decode prog_14_method_48_code 6 = .ok (.iload_n 1, 1) := by decide +kernel
theorem d_M_hand_7 : decode prog_14_method_48_code 7 = .ok (.invokevirtual 174, 3) := by decide +kernel
theorem d_M_hand_10 : decode prog_14_method_48_code 10 = .ok (.ifCond .eq 13, 3) := by decide +kernel
theorem d_M_hand_13 : decode prog_14_method_48_code 13 = .ok (.iload_n 2, 1) := by decide +kernel
theorem d_M_hand_14 : decode prog_14_method_48_code 14 = .ok (.iconst 0, 1) := by decide +kernel
theorem d_M_hand_15 : decode prog_14_method_48_code 15 = .ok (.bipush 7, 2) := by decide +kernel
theorem d_M_hand_17 : decode prog_14_method_48_code 17 = .ok (.invokestatic 58, 3) := by decide +kernel
theorem d_M_hand_20 : decode prog_14_method_48_code 20 = .ok (.ifCond .ne 6, 3) := by decide +kernel
theorem d_M_hand_23 : decode prog_14_method_48_code 23 = .ok (.ldc 66, 2) := by decide +kernel
theorem d_M_hand_25 : decode prog_14_method_48_code 25 = .ok (.ireturn, 1) := by decide +kernel
theorem d_M_hand_26 : decode prog_14_method_48_code 26 = .ok (.aload_n 0, 1) := by decide +kernel
theorem d_M_hand_27 : decode prog_14_method_48_code 27 = .ok (.getfield 25, 3) := by decide +kernel
theorem d_M_hand_30 : decode prog_14_method_48_code 30 = .ok (.iconst 5, 1) := by decide +kernel
theorem d_M_hand_31 : decode prog_14_method_48_code 31 = .ok (.iload_n 1, 1) := by decide +kernel
theorem d_M_hand_32 : decode prog_14_method_48_code 32 = .ok (.iadd, 1) := by decide +kernel
theorem d_M_hand_33 : decode prog_14_method_48_code 33 = .ok (.iaload, 1) := by decide +kernel
theorem d_M_hand_34 : decode prog_14_method_48_code 34 = .ok (.iload_n 2, 1) := by decide +kernel
theorem d_M_hand_35 : decode prog_14_method_48_code 35 = .ok (.invokestatic 167, 3) := by decide +kernel
theorem d_M_hand_38 : decode prog_14_method_48_code 38 = .ok (.ifCond .eq 15, 3) := by decide +kernel
theorem d_M_hand_41 : decode prog_14_method_48_code 41 = .ok (.aload_n 0, 1) := by decide +kernel
theorem d_M_hand_42 : decode prog_14_method_48_code 42 = .ok (.getfield 25, 3) := by decide +kernel
theorem d_M_hand_45 : decode prog_14_method_48_code 45 = .ok (.iload_n 1, 1) := by decide +kernel
theorem d_M_hand_46 : decode prog_14_method_48_code 46 = .ok (.iload_n 2, 1) := by decide +kernel
theorem d_M_hand_47 : decode prog_14_method_48_code 47 = .ok (.invokestatic 183, 3) := by decide +kernel
theorem d_M_hand_50 : decode prog_14_method_48_code 50 = .ok (.goto 5, 3) := by decide +kernel
theorem d_M_hand_53 : decode prog_14_method_48_code 53 = .ok (.ldc 198, 2) := by decide +kernel
theorem d_M_hand_55 : decode prog_14_method_48_code 55 = .ok (.ireturn, 1) := by decide +kernel
theorem d_M_node_0 : decode prog_14_method_49_code 0 = .ok (.bipush 24, 2) := by decide +kernel
theorem d_M_node_2 : decode prog_14_method_49_code 2 = .ok (.aload_n 0, 1) := by decide +kernel
theorem d_M_node_3 : decode prog_14_method_49_code 3 = .ok (.bipush 14, 2) := by decide +kernel
theorem d_M_node_5 : decode prog_14_method_49_code 5 = .ok (.iaload, 1) := by decide +kernel
theorem d_M_node_6 : decode prog_14_method_49_code 6 = .ok (.imul, 1) := by decide +kernel
theorem d_M_node_7 : decode prog_14_method_49_code 7 = .ok (.iconst 3, 1) := by decide +kernel
theorem d_M_node_8 : decode prog_14_method_49_code 8 = .ok (.aload_n 0, 1) := by decide +kernel
theorem d_M_node_9 : decode prog_14_method_49_code 9 = .ok (.bipush 15, 2) := by decide +kernel
theorem d_M_node_11 : decode prog_14_method_49_code 11 = .ok (.iaload, 1) := by decide +kernel
theorem d_M_node_12 : decode prog_14_method_49_code 12 = .ok (.imul, 1) := by decide +kernel
theorem d_M_node_13 : decode prog_14_method_49_code 13 = .ok (.iadd, 1) := by decide +kernel
theorem d_M_node_14 : decode prog_14_method_49_code 14 = .ok (.aload_n 0, 1) := by decide +kernel
theorem d_M_node_15 : decode prog_14_method_49_code 15 = .ok (.bipush 17, 2) := by decide +kernel
theorem d_M_node_17 : decode prog_14_method_49_code 17 = .ok (.iaload, 1) := by decide +kernel
theorem d_M_node_18 : decode prog_14_method_49_code 18 = .ok (.iconst 3, 1) := by decide +kernel
theorem d_M_node_19 : decode prog_14_method_49_code 19 = .ok (.irem, 1) := by decide +kernel
theorem d_M_node_20 : decode prog_14_method_49_code 20 = .ok (.iadd, 1) := by decide +kernel
theorem d_M_node_21 : decode prog_14_method_49_code 21 = .ok (.ireturn, 1) := by decide +kernel
theorem d_M_puts_0 : decode prog_14_method_50_code 0 = .ok (.aload_n 0, 1) := by decide +kernel
theorem d_M_puts_1 : decode prog_14_method_50_code 1 = .ok (.bipush 14, 2) := by decide +kernel
theorem d_M_puts_3 : decode prog_14_method_50_code 3 = .ok (.iload_n 1, 1) := by decide +kernel
theorem d_M_puts_4 : decode prog_14_method_50_code 4 = .ok (.bipush 24, 2) := by decide +kernel
theorem d_M_puts_6 : decode prog_14_method_50_code 6 = .ok (.idiv, 1) := by decide +kernel
theorem d_M_puts_7 : decode prog_14_method_50_code 7 = .ok (.iastore, 1) := by decide +kernel
theorem d_M_puts_8 : decode prog_14_method_50_code 8 = .ok (.aload_n 0, 1) := by decide +kernel
theorem d_M_puts_9 : decode prog_14_method_50_code 9 = .ok (.bipush 15, 2) := by decide +kernel
theorem d_M_puts_11 : decode prog_14_method_50_code 11 = .ok (.iload_n 1, 1) := by decide +kernel
theorem d_M_puts_12 : decode prog_14_method_50_code 12 = .ok (.iconst 3, 1) := by decide +kernel
theorem d_M_puts_13 : decode prog_14_method_50_code 13 = .ok (.idiv, 1) := by decide +kernel
theorem d_M_puts_14 : decode prog_14_method_50_code 14 = .ok (.bipush 8, 2) := by decide +kernel
theorem d_M_puts_16 : decode prog_14_method_50_code 16 = .ok (.irem, 1) := by decide +kernel
theorem d_M_puts_17 : decode prog_14_method_50_code 17 = .ok (.iastore, 1) := by decide +kernel
theorem d_M_puts_18 : decode prog_14_method_50_code 18 = .ok (.aload_n 0, 1) := by decide +kernel
theorem d_M_puts_19 : decode prog_14_method_50_code 19 = .ok (.bipush 17, 2) := by decide +kernel
theorem d_M_puts_21 : decode prog_14_method_50_code 21 = .ok (.iload_n 1, 1) := by decide +kernel
theorem d_M_puts_22 : decode prog_14_method_50_code 22 = .ok (.iconst 3, 1) := by decide +kernel
theorem d_M_puts_23 : decode prog_14_method_50_code 23 = .ok (.irem, 1) := by decide +kernel
theorem d_M_puts_24 : decode prog_14_method_50_code 24 = .ok (.iastore, 1) := by decide +kernel
theorem d_M_puts_25 : decode prog_14_method_50_code 25 = .ok (.return_, 1) := by decide +kernel
theorem d_M_behind_0 : decode prog_14_method_51_code 0 = .ok (.aload_n 0, 1) := by decide +kernel
theorem d_M_behind_1 : decode prog_14_method_51_code 1 = .ok (.bipush 14, 2) := by decide +kernel
theorem d_M_behind_3 : decode prog_14_method_51_code 3 = .ok (.iaload, 1) := by decide +kernel
theorem d_M_behind_4 : decode prog_14_method_51_code 4 = .ok (.istore 5, 2) := by decide +kernel
theorem d_M_behind_6 : decode prog_14_method_51_code 6 = .ok (.aload_n 0, 1) := by decide +kernel
theorem d_M_behind_7 : decode prog_14_method_51_code 7 = .ok (.bipush 15, 2) := by decide +kernel
theorem d_M_behind_9 : decode prog_14_method_51_code 9 = .ok (.iaload, 1) := by decide +kernel
theorem d_M_behind_10 : decode prog_14_method_51_code 10 = .ok (.istore 6, 2) := by decide +kernel
theorem d_M_behind_12 : decode prog_14_method_51_code 12 = .ok (.aload_n 0, 1) := by decide +kernel
theorem d_M_behind_13 : decode prog_14_method_51_code 13 = .ok (.bipush 17, 2) := by decide +kernel
theorem d_M_behind_15 : decode prog_14_method_51_code 15 = .ok (.iaload, 1) := by decide +kernel
theorem d_M_behind_16 : decode prog_14_method_51_code 16 = .ok (.istore 7, 2) := by decide +kernel
theorem d_M_behind_18 : decode prog_14_method_51_code 18 = .ok (.aload_n 0, 1) := by decide +kernel
theorem d_M_behind_19 : decode prog_14_method_51_code 19 = .ok (.iload_n 1, 1) := by decide +kernel
theorem d_M_behind_20 : decode prog_14_method_51_code 20 = .ok (.invokestatic 199, 3) := by decide +kernel
theorem d_M_behind_23 : decode prog_14_method_51_code 23 = .ok (.aload_n 0, 1) := by decide +kernel
theorem d_M_behind_24 : decode prog_14_method_51_code 24 = .ok (.iload_n 2, 1) := by decide +kernel
theorem d_M_behind_25 : decode prog_14_method_51_code 25 = .ok (.iload_n 3, 1) := by decide +kernel
theorem d_M_behind_26 : decode prog_14_method_51_code 26 = .ok (.iload 4, 2) := by decide +kernel
theorem d_M_behind_28 : decode prog_14_method_51_code 28 = .ok (.invokestatic 177, 3) := by decide +kernel
theorem d_M_behind_31 : decode prog_14_method_51_code 31 = .ok (.ifCond .eq 10, 3) := by decide +kernel
theorem d_M_behind_34 : decode prog_14_method_51_code 34 = .ok (.aload_n 0, 1) := by decide +kernel
theorem d_M_behind_35 : decode prog_14_method_51_code 35 = .ok (.invokestatic 203, 3) := by decide +kernel
theorem d_M_behind_38 : decode prog_14_method_51_code 38 = .ok (.goto 5, 3) := by decide +kernel
theorem d_M_behind_41 : decode prog_14_method_51_code 41 = .ok (.ldc 198, 2) := by decide +kernel
theorem d_M_behind_43 : decode prog_14_method_51_code 43 = .ok (.istore 8, 2) := by decide +kernel
theorem d_M_behind_45 : decode prog_14_method_51_code 45 = .ok (.aload_n 0, 1) := by decide +kernel
theorem d_M_behind_46 : decode prog_14_method_51_code 46 = .ok (.bipush 14, 2) := by decide +kernel
theorem d_M_behind_48 : decode prog_14_method_51_code 48 = .ok (.iload 5, 2) := by decide +kernel
theorem d_M_behind_50 : decode prog_14_method_51_code 50 = .ok (.iastore, 1) := by decide +kernel
theorem d_M_behind_51 : decode prog_14_method_51_code 51 = .ok (.aload_n 0, 1) := by decide +kernel
theorem d_M_behind_52 : decode prog_14_method_51_code 52 = .ok (.bipush 15, 2) := by decide +kernel
theorem d_M_behind_54 : decode prog_14_method_51_code 54 = .ok (.iload 6, 2) := by decide +kernel
theorem d_M_behind_56 : decode prog_14_method_51_code 56 = .ok (.iastore, 1) := by decide +kernel
theorem d_M_behind_57 : decode prog_14_method_51_code 57 = .ok (.aload_n 0, 1) := by decide +kernel
theorem d_M_behind_58 : decode prog_14_method_51_code 58 = .ok (.bipush 17, 2) := by decide +kernel
theorem d_M_behind_60 : decode prog_14_method_51_code 60 = .ok (.iload 7, 2) := by decide +kernel
theorem d_M_behind_62 : decode prog_14_method_51_code 62 = .ok (.iastore, 1) := by decide +kernel
theorem d_M_behind_63 : decode prog_14_method_51_code 63 = .ok (.iload 8, 2) := by decide +kernel
theorem d_M_behind_65 : decode prog_14_method_51_code 65 = .ok (.ireturn, 1) := by decide +kernel
theorem d_M_solves_0 : decode prog_14_method_52_code 0 = .ok (.iconst 0, 1) := by decide +kernel
theorem d_M_solves_1 : decode prog_14_method_52_code 1 = .ok (.istore 5, 2) := by decide +kernel
theorem d_M_solves_3 : decode prog_14_method_52_code 3 = .ok (.iload 5, 2) := by decide +kernel
theorem d_M_solves_5 : decode prog_14_method_52_code 5 = .ok (.sipush 576, 3) := by decide +kernel
theorem d_M_solves_8 : decode prog_14_method_52_code 8 = .ok (.if_icmp .ge 60, 3) := by decide +kernel
theorem d_M_solves_11 : decode prog_14_method_52_code 11 = .ok (.iload 5, 2) := by decide +kernel
theorem d_M_solves_13 : decode prog_14_method_52_code 13 = .ok (.iconst 3, 1) := by decide +kernel
theorem d_M_solves_14 : decode prog_14_method_52_code 14 = .ok (.idiv, 1) := by decide +kernel
theorem d_M_solves_15 : decode prog_14_method_52_code 15 = .ok (.bipush 8, 2) := by decide +kernel
theorem d_M_solves_17 : decode prog_14_method_52_code 17 = .ok (.irem, 1) := by decide +kernel
theorem d_M_solves_18 : decode prog_14_method_52_code 18 = .ok (.iload_n 3, 1) := by decide +kernel
theorem d_M_solves_19 : decode prog_14_method_52_code 19 = .ok (.if_icmp .ne 22, 3) := by decide +kernel
theorem d_M_solves_22 : decode prog_14_method_52_code 22 = .ok (.iload_n 2, 1) := by decide +kernel
theorem d_M_solves_23 : decode prog_14_method_52_code 23 = .ok (.ldc 198, 2) := by decide +kernel
theorem d_M_solves_25 : decode prog_14_method_52_code 25 = .ok (.if_icmp .eq 12, 3) := by decide +kernel
theorem d_M_solves_28 : decode prog_14_method_52_code 28 = .ok (.iload 5, 2) := by decide +kernel
theorem d_M_solves_30 : decode prog_14_method_52_code 30 = .ok (.bipush 24, 2) := by decide +kernel
theorem d_M_solves_32 : decode prog_14_method_52_code 32 = .ok (.idiv, 1) := by decide +kernel
theorem d_M_solves_33 : decode prog_14_method_52_code 33 = .ok (.iload_n 2, 1) := by decide +kernel
theorem d_M_solves_34 : decode prog_14_method_52_code 34 = .ok (.if_icmp .ne 7, 3) := by decide +kernel
theorem d_M_solves_37 : decode prog_14_method_52_code 37 = .ok (.iconst 1, 1) := by decide +kernel
theorem d_M_solves_38 : decode prog_14_method_52_code 38 = .ok (.goto 4, 3) := by decide +kernel
theorem d_M_solves_41 : decode prog_14_method_52_code 41 = .ok (.iconst 0, 1) := by decide +kernel
theorem d_M_solves_42 : decode prog_14_method_52_code 42 = .ok (.istore 6, 2) := by decide +kernel
theorem d_M_solves_44 : decode prog_14_method_52_code 44 = .ok (.aload_n 0, 1) := by decide +kernel
theorem d_M_solves_45 : decode prog_14_method_52_code 45 = .ok (.getfield 44, 3) := by decide +kernel
theorem d_M_solves_48 : decode prog_14_method_52_code 48 = .ok (.iload 5, 2) := by decide +kernel
theorem d_M_solves_50 : decode prog_14_method_52_code 50 = .ok (.iload 6, 2) := by decide +kernel
theorem d_M_solves_52 : decode prog_14_method_52_code 52 = .ok (.ifCond .eq 7, 3) := by decide +kernel
theorem d_M_solves_55 : decode prog_14_method_52_code 55 = .ok (.iconst 0, 1) := by decide +kernel
theorem d_M_solves_56 : decode prog_14_method_52_code 56 = .ok (.goto 5, 3) := by decide +kernel
theorem d_M_solves_59 : decode prog_14_method_52_code 59 = .ok (.ldc 207, 2) := by decide +kernel
theorem d_M_solves_61 : decode prog_14_method_52_code 61 = .ok (.iastore, 1) := by decide +kernel
theorem d_M_solves_62 : decode prog_14_method_52_code 62 = .ok (.iinc 5 1, 3) := by decide +kernel
theorem d_M_solves_65 : decode prog_14_method_52_code 65 = .ok (.goto (-62), 3) := by decide +kernel
theorem d_M_solves_68 : decode prog_14_method_52_code 68 = .ok (.iconst 1, 1) := by decide +kernel
theorem d_M_solves_69 : decode prog_14_method_52_code 69 = .ok (.istore 5, 2) := by decide +kernel
theorem d_M_solves_71 : decode prog_14_method_52_code 71 = .ok (.iload 5, 2) := by decide +kernel
theorem d_M_solves_73 : decode prog_14_method_52_code 73 = .ok (.ifCond .eq 182, 3) := by decide +kernel
theorem d_M_solves_76 : decode prog_14_method_52_code 76 = .ok (.iconst 0, 1) := by decide +kernel
theorem d_M_solves_77 : decode prog_14_method_52_code 77 = .ok (.istore 5, 2) := by decide +kernel
theorem d_M_solves_79 : decode prog_14_method_52_code 79 = .ok (.iconst 0, 1) := by decide +kernel
theorem d_M_solves_80 : decode prog_14_method_52_code 80 = .ok (.istore 6, 2) := by decide +kernel
theorem d_M_solves_82 : decode prog_14_method_52_code 82 = .ok (.iload 6, 2) := by decide +kernel
theorem d_M_solves_84 : decode prog_14_method_52_code 84 = .ok (.sipush 576, 3) := by decide +kernel
theorem d_M_solves_87 : decode prog_14_method_52_code 87 = .ok (.if_icmp .ge 165, 3) := by decide +kernel
theorem d_M_solves_90 : decode prog_14_method_52_code 90 = .ok (.iconst 0, 1) := by decide +kernel
theorem d_M_solves_91 : decode prog_14_method_52_code 91 = .ok (.istore 7, 2) := by decide +kernel
theorem d_M_solves_93 : decode prog_14_method_52_code 93 = .ok (.iload 7, 2) := by decide +kernel
theorem d_M_solves_95 : decode prog_14_method_52_code 95 = .ok (.aload_n 1, 1) := by decide +kernel
theorem d_M_solves_96 : decode prog_14_method_52_code 96 = .ok (.iconst 4, 1) := by decide +kernel
theorem d_M_solves_97 : decode prog_14_method_52_code 97 = .ok (.iaload, 1) := by decide +kernel
theorem d_M_solves_98 : decode prog_14_method_52_code 98 = .ok (.if_icmp .ge 148, 3) := by decide +kernel
theorem d_M_solves_101 : decode prog_14_method_52_code 101 = .ok (.iconst 0, 1) := by decide +kernel
theorem d_M_solves_102 : decode prog_14_method_52_code 102 = .ok (.istore 8, 2) := by decide +kernel
theorem d_M_solves_104 : decode prog_14_method_52_code 104 = .ok (.iload 8, 2) := by decide +kernel
theorem d_M_solves_106 : decode prog_14_method_52_code 106 = .ok (.bipush 8, 2) := by decide +kernel
theorem d_M_solves_108 : decode prog_14_method_52_code 108 = .ok (.if_icmp .ge 132, 3) := by decide +kernel
theorem d_M_solves_111 : decode prog_14_method_52_code 111 = .ok (.aload_n 0, 1) := by decide +kernel
theorem d_M_solves_112 : decode prog_14_method_52_code 112 = .ok (.getfield 44, 3) := by decide +kernel
theorem d_M_solves_115 : decode prog_14_method_52_code 115 = .ok (.iload 6, 2) := by decide +kernel
theorem d_M_solves_117 : decode prog_14_method_52_code 117 = .ok (.iaload, 1) := by decide +kernel
theorem d_M_solves_118 : decode prog_14_method_52_code 118 = .ok (.ifCond .le 116, 3) := by decide +kernel
theorem d_M_solves_121 : decode prog_14_method_52_code 121 = .ok (.aload_n 1, 1) := by decide +kernel
theorem d_M_solves_122 : decode prog_14_method_52_code 122 = .ok (.iconst 5, 1) := by decide +kernel
theorem d_M_solves_123 : decode prog_14_method_52_code 123 = .ok (.iload 7, 2) := by decide +kernel
theorem d_M_solves_125 : decode prog_14_method_52_code 125 = .ok (.iadd, 1) := by decide +kernel
theorem d_M_solves_126 : decode prog_14_method_52_code 126 = .ok (.iaload, 1) := by decide +kernel
theorem d_M_solves_127 : decode prog_14_method_52_code 127 = .ok (.iload 8, 2) := by decide +kernel
theorem d_M_solves_129 : decode prog_14_method_52_code 129 = .ok (.invokestatic 167, 3) := by decide +kernel
theorem d_M_solves_132 : decode prog_14_method_52_code 132 = .ok (.ifCond .eq 102, 3) := by decide +kernel
theorem d_M_solves_135 : decode prog_14_method_52_code 135 = .ok (.aload_n 1, 1) := by decide +kernel
theorem d_M_solves_136 : decode prog_14_method_52_code 136 = .ok (.iload 6, 2) := by decide +kernel
theorem d_M_solves_138 : decode prog_14_method_52_code 138 = .ok (.iload 7, 2) := by decide +kernel
theorem d_M_solves_140 : decode prog_14_method_52_code 140 = .ok (.iload 8, 2) := by decide +kernel
theorem d_M_solves_142 : decode prog_14_method_52_code 142 = .ok (.iload 4, 2) := by decide +kernel
theorem d_M_solves_144 : decode prog_14_method_52_code 144 = .ok (.invokestatic 208, 3) := by decide +kernel
theorem d_M_solves_147 : decode prog_14_method_52_code 147 = .ok (.istore 9, 2) := by decide +kernel
theorem d_M_solves_149 : decode prog_14_method_52_code 149 = .ok (.iload 9, 2) := by decide +kernel
theorem d_M_solves_151 : decode prog_14_method_52_code 151 = .ok (.ldc 198, 2) := by decide +kernel
theorem d_M_solves_153 : decode prog_14_method_52_code 153 = .ok (.if_icmp .ne 8, 3) := by decide +kernel
theorem d_M_solves_156 : decode prog_14_method_52_code 156 = .ok (.ldc 207, 2) := by decide +kernel
theorem d_M_solves_158 : decode prog_14_method_52_code 158 = .ok (.goto 19, 3) := by decide +kernel
theorem d_M_solves_161 : decode prog_14_method_52_code 161 = .ok (.aload_n 0, 1) := by decide +kernel
theorem d_M_solves_162 : decode prog_14_method_52_code 162 = .ok (.getfield 44, 3) := by decide +kernel
theorem d_M_solves_165 : decode prog_14_method_52_code 165 = .ok (.iload 9, 2) := by decide +kernel
theorem d_M_solves_167 : decode prog_14_method_52_code 167 = .ok (.iaload, 1) := by decide +kernel
theorem d_M_solves_168 : decode prog_14_method_52_code 168 = .ok (.aload_n 1, 1) := by decide +kernel
theorem d_M_solves_169 : decode prog_14_method_52_code 169 = .ok (.iload 7, 2) := by decide +kernel
theorem d_M_solves_171 : decode prog_14_method_52_code 171 = .ok (.iload 8, 2) := by decide +kernel
theorem d_M_solves_173 : decode prog_14_method_52_code 173 = .ok (.invokestatic 183, 3) := by decide +kernel
theorem d_M_solves_176 : decode prog_14_method_52_code 176 = .ok (.iadd, 1) := by decide +kernel
theorem d_M_solves_177 : decode prog_14_method_52_code 177 = .ok (.istore 10, 2) := by decide +kernel
theorem d_M_solves_179 : decode prog_14_method_52_code 179 = .ok (.iload 5, 2) := by decide +kernel
theorem d_M_solves_181 : decode prog_14_method_52_code 181 = .ok (.ifCond .ne 15, 3) := by decide +kernel
theorem d_M_solves_184 : decode prog_14_method_52_code 184 = .ok (.iload 10, 2) := by decide +kernel
theorem d_M_solves_186 : decode prog_14_method_52_code 186 = .ok (.aload_n 0, 1) := by decide +kernel
theorem d_M_solves_187 : decode prog_14_method_52_code 187 = .ok (.getfield 44, 3) := by decide +kernel
theorem d_M_solves_190 : decode prog_14_method_52_code 190 = .ok (.iload 6, 2) := by decide +kernel
theorem d_M_solves_192 : decode prog_14_method_52_code 192 = .ok (.iaload, 1) := by decide +kernel
theorem d_M_solves_193 : decode prog_14_method_52_code 193 = .ok (.if_icmp .ge 7, 3) := by decide +kernel
theorem d_M_solves_196 : decode prog_14_method_52_code 196 = .ok (.iconst 1, 1) := by decide +kernel
theorem d_M_solves_197 : decode prog_14_method_52_code 197 = .ok (.goto 4, 3) := by decide +kernel
theorem d_M_solves_200 : decode prog_14_method_52_code 200 = .ok (.iconst 0, 1) := by decide +kernel
theorem d_M_solves_201 : decode prog_14_method_52_code 201 = .ok (.istore 5, 2) := by decide +kernel
theorem d_M_solves_203 : decode prog_14_method_52_code 203 = .ok (.aload_n 0, 1) := by decide +kernel
theorem d_M_solves_204 : decode prog_14_method_52_code 204 = .ok (.getfield 44, 3) := by decide +kernel
theorem d_M_solves_207 : decode prog_14_method_52_code 207 = .ok (.iload 6, 2) := by decide +kernel
theorem d_M_solves_209 : decode prog_14_method_52_code 209 = .ok (.iload 10, 2) := by decide +kernel
theorem d_M_solves_211 : decode prog_14_method_52_code 211 = .ok (.aload_n 0, 1) := by decide +kernel
theorem d_M_solves_212 : decode prog_14_method_52_code 212 = .ok (.getfield 44, 3) := by decide +kernel
theorem d_M_solves_215 : decode prog_14_method_52_code 215 = .ok (.iload 6, 2) := by decide +kernel
theorem d_M_solves_217 : decode prog_14_method_52_code 217 = .ok (.iaload, 1) := by decide +kernel
theorem d_M_solves_218 : decode prog_14_method_52_code 218 = .ok (.if_icmp .ge 8, 3) := by decide +kernel
theorem d_M_solves_221 : decode prog_14_method_52_code 221 = .ok (.iload 10, 2) := by decide +kernel
theorem d_M_solves_223 : decode prog_14_method_52_code 223 = .ok (.goto 10, 3) := by decide +kernel
theorem d_M_solves_226 : decode prog_14_method_52_code 226 = .ok (.aload_n 0, 1) := by decide +kernel
theorem d_M_solves_227 : decode prog_14_method_52_code 227 = .ok (.getfield 44, 3) := by decide +kernel
theorem d_M_solves_230 : decode prog_14_method_52_code 230 = .ok (.iload 6, 2) := by decide +kernel
theorem d_M_solves_232 : decode prog_14_method_52_code 232 = .ok (.iaload, 1) := by decide +kernel
theorem d_M_solves_233 : decode prog_14_method_52_code 233 = .ok (.iastore, 1) := by decide +kernel
theorem d_M_solves_234 : decode prog_14_method_52_code 234 = .ok (.iinc 8 1, 3) := by decide +kernel
theorem d_M_solves_237 : decode prog_14_method_52_code 237 = .ok (.goto (-133), 3) := by decide +kernel
theorem d_M_solves_240 : decode prog_14_method_52_code 240 = .ok (.iinc 7 1, 3) := by decide +kernel
theorem d_M_solves_243 : decode prog_14_method_52_code 243 = .ok (.goto (-150), 3) := by decide +kernel
theorem d_M_solves_246 : decode prog_14_method_52_code 246 = .ok (.iinc 6 1, 3) := by decide +kernel
theorem d_M_solves_249 : decode prog_14_method_52_code 249 = .ok (.goto (-167), 3) := by decide +kernel
theorem d_M_solves_252 : decode prog_14_method_52_code 252 = .ok (.goto (-181), 3) := by decide +kernel
theorem d_M_solves_255 : decode prog_14_method_52_code 255 = .ok (.aload_n 0, 1) := by decide +kernel
theorem d_M_solves_256 : decode prog_14_method_52_code 256 = .ok (.getfield 44, 3) := by decide +kernel
theorem d_M_solves_259 : decode prog_14_method_52_code 259 = .ok (.aload_n 1, 1) := by decide +kernel
theorem d_M_solves_260 : decode prog_14_method_52_code 260 = .ok (.invokestatic 203, 3) := by decide +kernel
theorem d_M_solves_263 : decode prog_14_method_52_code 263 = .ok (.iaload, 1) := by decide +kernel
theorem d_M_solves_264 : decode prog_14_method_52_code 264 = .ok (.istore 6, 2) := by decide +kernel
theorem d_M_solves_266 : decode prog_14_method_52_code 266 = .ok (.iload 6, 2) := by decide +kernel
theorem d_M_solves_268 : decode prog_14_method_52_code 268 = .ok (.ldc 207, 2) := by decide +kernel
theorem d_M_solves_270 : decode prog_14_method_52_code 270 = .ok (.if_icmp .ne 8, 3) := by decide +kernel
theorem d_M_solves_273 : decode prog_14_method_52_code 273 = .ok (.ldc 198, 2) := by decide +kernel
theorem d_M_solves_275 : decode prog_14_method_52_code 275 = .ok (.goto 5, 3) := by decide +kernel
theorem d_M_solves_278 : decode prog_14_method_52_code 278 = .ok (.iload 6, 2) := by decide +kernel
theorem d_M_solves_280 : decode prog_14_method_52_code 280 = .ok (.ireturn, 1) := by decide +kernel
theorem d_M_firstOf_0 : decode prog_14_method_53_code 0 = .ok (.aload_n 1, 1) := by decide +kernel
theorem d_M_firstOf_1 : decode prog_14_method_53_code 1 = .ok (.invokestatic 203, 3) := by decide +kernel
theorem d_M_firstOf_4 : decode prog_14_method_53_code 4 = .ok (.istore_n 2, 1) := by decide +kernel
theorem d_M_firstOf_5 : decode prog_14_method_53_code 5 = .ok (.iconst 0, 1) := by decide +kernel
theorem d_M_firstOf_6 : decode prog_14_method_53_code 6 = .ok (.istore_n 3, 1) := by decide +kernel
theorem d_M_firstOf_7 : decode prog_14_method_53_code 7 = .ok (.iload_n 3, 1) := by decide +kernel
theorem d_M_firstOf_8 : decode prog_14_method_53_code 8 = .ok (.aload_n 1, 1) := by decide +kernel
theorem d_M_firstOf_9 : decode prog_14_method_53_code 9 = .ok (.iconst 4, 1) := by decide +kernel
theorem d_M_firstOf_10 : decode prog_14_method_53_code 10 = .ok (.iaload, 1) := by decide +kernel
theorem d_M_firstOf_11 : decode prog_14_method_53_code 11 = .ok (.if_icmp .ge 84, 3) := by decide +kernel
theorem d_M_firstOf_14 : decode prog_14_method_53_code 14 = .ok (.iconst 0, 1) := by decide +kernel
theorem d_M_firstOf_15 : decode prog_14_method_53_code 15 = .ok (.istore 4, 2) := by decide +kernel
theorem d_M_firstOf_17 : decode prog_14_method_53_code 17 = .ok (.iload 4, 2) := by decide +kernel
theorem d_M_firstOf_19 : decode prog_14_method_53_code 19 = .ok (.bipush 8, 2) := by decide +kernel
theorem d_M_firstOf_21 : decode prog_14_method_53_code 21 = .ok (.if_icmp .ge 68, 3) := by decide +kernel
theorem d_M_firstOf_24 : decode prog_14_method_53_code 24 = .ok (.aload_n 1, 1) := by decide +kernel
theorem d_M_firstOf_25 : decode prog_14_method_53_code 25 = .ok (.iload_n 2, 1) := by decide +kernel
theorem d_M_firstOf_26 : decode prog_14_method_53_code 26 = .ok (.iload_n 3, 1) := by decide +kernel
theorem d_M_firstOf_27 : decode prog_14_method_53_code 27 = .ok (.iload 4, 2) := by decide +kernel
theorem d_M_firstOf_29 : decode prog_14_method_53_code 29 = .ok (.iconst 0, 1) := by decide +kernel
theorem d_M_firstOf_30 : decode prog_14_method_53_code 30 = .ok (.invokestatic 208, 3) := by decide +kernel
theorem d_M_firstOf_33 : decode prog_14_method_53_code 33 = .ok (.istore 5, 2) := by decide +kernel
theorem d_M_firstOf_35 : decode prog_14_method_53_code 35 = .ok (.iload 5, 2) := by decide +kernel
theorem d_M_firstOf_37 : decode prog_14_method_53_code 37 = .ok (.ldc 198, 2) := by decide +kernel
theorem d_M_firstOf_39 : decode prog_14_method_53_code 39 = .ok (.if_icmp .eq 44, 3) := by decide +kernel
theorem d_M_firstOf_42 : decode prog_14_method_53_code 42 = .ok (.aload_n 0, 1) := by decide +kernel
theorem d_M_firstOf_43 : decode prog_14_method_53_code 43 = .ok (.getfield 44, 3) := by decide +kernel
theorem d_M_firstOf_46 : decode prog_14_method_53_code 46 = .ok (.iload_n 2, 1) := by decide +kernel
theorem d_M_firstOf_47 : decode prog_14_method_53_code 47 = .ok (.iaload, 1) := by decide +kernel
theorem d_M_firstOf_48 : decode prog_14_method_53_code 48 = .ok (.ifCond .le 35, 3) := by decide +kernel
theorem d_M_firstOf_51 : decode prog_14_method_53_code 51 = .ok (.aload_n 0, 1) := by decide +kernel
theorem d_M_firstOf_52 : decode prog_14_method_53_code 52 = .ok (.getfield 44, 3) := by decide +kernel
theorem d_M_firstOf_55 : decode prog_14_method_53_code 55 = .ok (.iload 5, 2) := by decide +kernel
theorem d_M_firstOf_57 : decode prog_14_method_53_code 57 = .ok (.iaload, 1) := by decide +kernel
theorem d_M_firstOf_58 : decode prog_14_method_53_code 58 = .ok (.aload_n 1, 1) := by decide +kernel
theorem d_M_firstOf_59 : decode prog_14_method_53_code 59 = .ok (.iload_n 3, 1) := by decide +kernel
theorem d_M_firstOf_60 : decode prog_14_method_53_code 60 = .ok (.iload 4, 2) := by decide +kernel
theorem d_M_firstOf_62 : decode prog_14_method_53_code 62 = .ok (.invokestatic 183, 3) := by decide +kernel
theorem d_M_firstOf_65 : decode prog_14_method_53_code 65 = .ok (.iadd, 1) := by decide +kernel
theorem d_M_firstOf_66 : decode prog_14_method_53_code 66 = .ok (.aload_n 0, 1) := by decide +kernel
theorem d_M_firstOf_67 : decode prog_14_method_53_code 67 = .ok (.getfield 44, 3) := by decide +kernel
theorem d_M_firstOf_70 : decode prog_14_method_53_code 70 = .ok (.iload_n 2, 1) := by decide +kernel
theorem d_M_firstOf_71 : decode prog_14_method_53_code 71 = .ok (.iaload, 1) := by decide +kernel
theorem d_M_firstOf_72 : decode prog_14_method_53_code 72 = .ok (.if_icmp .ne 11, 3) := by decide +kernel
theorem d_M_firstOf_75 : decode prog_14_method_53_code 75 = .ok (.bipush 10, 2) := by decide +kernel
theorem d_M_firstOf_77 : decode prog_14_method_53_code 77 = .ok (.iload_n 3, 1) := by decide +kernel
theorem d_M_firstOf_78 : decode prog_14_method_53_code 78 = .ok (.imul, 1) := by decide +kernel
theorem d_M_firstOf_79 : decode prog_14_method_53_code 79 = .ok (.iload 4, 2) := by decide +kernel
theorem d_M_firstOf_81 : decode prog_14_method_53_code 81 = .ok (.iadd, 1) := by decide +kernel
theorem d_M_firstOf_82 : decode prog_14_method_53_code 82 = .ok (.ireturn, 1) := by decide +kernel
theorem d_M_firstOf_83 : decode prog_14_method_53_code 83 = .ok (.iinc 4 1, 3) := by decide +kernel
theorem d_M_firstOf_86 : decode prog_14_method_53_code 86 = .ok (.goto (-69), 3) := by decide +kernel
theorem d_M_firstOf_89 : decode prog_14_method_53_code 89 = .ok (.iinc 3 1, 3) := by decide +kernel
theorem d_M_firstOf_92 : decode prog_14_method_53_code 92 = .ok (.goto (-85), 3) := by decide +kernel
theorem d_M_firstOf_95 : decode prog_14_method_53_code 95 = .ok (.ldc 198, 2) := by decide +kernel
theorem d_M_firstOf_97 : decode prog_14_method_53_code 97 = .ok (.ireturn, 1) := by decide +kernel
theorem d_M_turnedOf_0 : decode prog_14_method_54_code 0 = .ok (.aload_n 0, 1) := by decide +kernel
theorem d_M_turnedOf_1 : decode prog_14_method_54_code 1 = .ok (.aload_n 1, 1) := by decide +kernel
theorem d_M_turnedOf_2 : decode prog_14_method_54_code 2 = .ok (.ldc 198, 2) := by decide +kernel
theorem d_M_turnedOf_4 : decode prog_14_method_54_code 4 = .ok (.aload_n 1, 1) := by decide +kernel
theorem d_M_turnedOf_5 : decode prog_14_method_54_code 5 = .ok (.bipush 15, 2) := by decide +kernel
theorem d_M_turnedOf_7 : decode prog_14_method_54_code 7 = .ok (.iaload, 1) := by decide +kernel
theorem d_M_turnedOf_8 : decode prog_14_method_54_code 8 = .ok (.iconst 4, 1) := by decide +kernel
theorem d_M_turnedOf_9 : decode prog_14_method_54_code 9 = .ok (.iadd, 1) := by decide +kernel
theorem d_M_turnedOf_10 : decode prog_14_method_54_code 10 = .ok (.bipush 7, 2) := by decide +kernel
theorem d_M_turnedOf_12 : decode prog_14_method_54_code 12 = .ok (.iand, 1) := by decide +kernel
theorem d_M_turnedOf_13 : decode prog_14_method_54_code 13 = .ok (.iload_n 2, 1) := by decide +kernel
theorem d_M_turnedOf_14 : decode prog_14_method_54_code 14 = .ok (.invokevirtual 212, 3) := by decide +kernel
theorem d_M_turnedOf_17 : decode prog_14_method_54_code 17 = .ok (.ireturn, 1) := by decide +kernel
theorem d_M_way_0 : decode prog_14_method_55_code 0 = .ok (.aload_n 0, 1) := by decide +kernel
theorem d_M_way_1 : decode prog_14_method_55_code 1 = .ok (.iconst 0, 1) := by decide +kernel
theorem d_M_way_2 : decode prog_14_method_55_code 2 = .ok (.putfield 50, 3) := by decide +kernel
theorem d_M_way_5 : decode prog_14_method_55_code 5 = .ok (.aload_n 0, 1) := by decide +kernel
theorem d_M_way_6 : decode prog_14_method_55_code 6 = .ok (.getfield 25, 3) := by decide +kernel
theorem d_M_way_9 : decode prog_14_method_55_code 9 = .ok (.iconst 0, 1) := by decide +kernel
theorem d_M_way_10 : decode prog_14_method_55_code 10 = .ok (.iaload, 1) := by decide +kernel
theorem d_M_way_11 : decode prog_14_method_55_code 11 = .ok (.ifCond .ne 6, 3) := by decide +kernel
theorem d_M_way_14 : decode prog_14_method_55_code 14 = .ok (.ldc 148, 2) := by decide +kernel
theorem d_M_way_16 : decode prog_14_method_55_code 16 = .ok (.ireturn, 1) := by decide +kernel
theorem d_M_way_17 : decode prog_14_method_55_code 17 = .ok (.iload_n 1, 1) := by decide +kernel
theorem d_M_way_18 : decode prog_14_method_55_code 18 = .ok (.iconst 0, 1) := by decide +kernel
theorem d_M_way_19 : decode prog_14_method_55_code 19 = .ok (.bipush 23, 2) := by decide +kernel
theorem d_M_way_21 : decode prog_14_method_55_code 21 = .ok (.invokestatic 58, 3) := by decide +kernel
theorem d_M_way_24 : decode prog_14_method_55_code 24 = .ok (.ifCond .eq 22, 3) := by decide +kernel
theorem d_M_way_27 : decode prog_14_method_55_code 27 = .ok (.iload_n 2, 1) := by decide +kernel
theorem d_M_way_28 : decode prog_14_method_55_code 28 = .ok (.iconst 0, 1) := by decide +kernel
theorem d_M_way_29 : decode prog_14_method_55_code 29 = .ok (.bipush 7, 2) := by decide +kernel
theorem d_M_way_31 : decode prog_14_method_55_code 31 = .ok (.invokestatic 58, 3) := by decide +kernel
theorem d_M_way_34 : decode prog_14_method_55_code 34 = .ok (.ifCond .eq 12, 3) := by decide +kernel
theorem d_M_way_37 : decode prog_14_method_55_code 37 = .ok (.iload_n 3, 1) := by decide +kernel
theorem d_M_way_38 : decode prog_14_method_55_code 38 = .ok (.iconst 0, 1) := by decide +kernel
theorem d_M_way_39 : decode prog_14_method_55_code 39 = .ok (.iconst 1, 1) := by decide +kernel
theorem d_M_way_40 : decode prog_14_method_55_code 40 = .ok (.invokestatic 58, 3) := by decide +kernel
theorem d_M_way_43 : decode prog_14_method_55_code 43 = .ok (.ifCond .ne 6, 3) := by decide +kernel
theorem d_M_way_46 : decode prog_14_method_55_code 46 = .ok (.ldc 66, 2) := by decide +kernel
theorem d_M_way_48 : decode prog_14_method_55_code 48 = .ok (.ireturn, 1) := by decide +kernel
theorem d_M_way_49 : decode prog_14_method_55_code 49 = .ok (.aload_n 0, 1) := by decide +kernel
theorem d_M_way_50 : decode prog_14_method_55_code 50 = .ok (.aload_n 0, 1) := by decide +kernel
theorem d_M_way_51 : decode prog_14_method_55_code 51 = .ok (.getfield 25, 3) := by decide +kernel
theorem d_M_way_54 : decode prog_14_method_55_code 54 = .ok (.iload_n 1, 1) := by decide +kernel
theorem d_M_way_55 : decode prog_14_method_55_code 55 = .ok (.iload_n 2, 1) := by decide +kernel
theorem d_M_way_56 : decode prog_14_method_55_code 56 = .ok (.iconst 0, 1) := by decide +kernel
theorem d_M_way_57 : decode prog_14_method_55_code 57 = .ok (.invokevirtual 212, 3) := by decide +kernel
theorem d_M_way_60 : decode prog_14_method_55_code 60 = .ok (.istore 4, 2) := by decide +kernel
theorem d_M_way_62 : decode prog_14_method_55_code 62 = .ok (.iload 4, 2) := by decide +kernel
theorem d_M_way_64 : decode prog_14_method_55_code 64 = .ok (.ldc 198, 2) := by decide +kernel
theorem d_M_way_66 : decode prog_14_method_55_code 66 = .ok (.if_icmp .eq 7, 3) := by decide +kernel
theorem d_M_way_69 : decode prog_14_method_55_code 69 = .ok (.iload_n 3, 1) := by decide +kernel
theorem d_M_way_70 : decode prog_14_method_55_code 70 = .ok (.ifCond .ne 8, 3) := by decide +kernel
theorem d_M_way_73 : decode prog_14_method_55_code 73 = .ok (.iload 4, 2) := by decide +kernel
theorem d_M_way_75 : decode prog_14_method_55_code 75 = .ok (.goto 11, 3) := by decide +kernel
theorem d_M_way_78 : decode prog_14_method_55_code 78 = .ok (.aload_n 0, 1) := by decide +kernel
theorem d_M_way_79 : decode prog_14_method_55_code 79 = .ok (.aload_n 0, 1) := by decide +kernel
theorem d_M_way_80 : decode prog_14_method_55_code 80 = .ok (.getfield 25, 3) := by decide +kernel
theorem d_M_way_83 : decode prog_14_method_55_code 83 = .ok (.invokevirtual 216, 3) := by decide +kernel
theorem d_M_way_86 : decode prog_14_method_55_code 86 = .ok (.ireturn, 1) := by decide +kernel
theorem d_M_turned_0 : decode prog_14_method_56_code 0 = .ok (.aload_n 0, 1) := by decide +kernel
theorem d_M_turned_1 : decode prog_14_method_56_code 1 = .ok (.iconst 0, 1) := by decide +kernel
theorem d_M_turned_2 : decode prog_14_method_56_code 2 = .ok (.putfield 50, 3) := by decide +kernel
theorem d_M_turned_5 : decode prog_14_method_56_code 5 = .ok (.aload_n 0, 1) := by decide +kernel
theorem d_M_turned_6 : decode prog_14_method_56_code 6 = .ok (.getfield 25, 3) := by decide +kernel
theorem d_M_turned_9 : decode prog_14_method_56_code 9 = .ok (.iconst 0, 1) := by decide +kernel
theorem d_M_turned_10 : decode prog_14_method_56_code 10 = .ok (.iaload, 1) := by decide +kernel
theorem d_M_turned_11 : decode prog_14_method_56_code 11 = .ok (.ifCond .ne 6, 3) := by decide +kernel
theorem d_M_turned_14 : decode prog_14_method_56_code 14 = .ok (.ldc 148, 2) := by decide +kernel
theorem d_M_turned_16 : decode prog_14_method_56_code 16 = .ok (.ireturn, 1) := by decide +kernel
theorem d_M_turned_17 : decode prog_14_method_56_code 17 = .ok (.iload_n 1, 1) := by decide +kernel
theorem d_M_turned_18 : decode prog_14_method_56_code 18 = .ok (.iconst 0, 1) := by decide +kernel
theorem d_M_turned_19 : decode prog_14_method_56_code 19 = .ok (.iconst 1, 1) := by decide +kernel
theorem d_M_turned_20 : decode prog_14_method_56_code 20 = .ok (.invokestatic 58, 3) := by decide +kernel
theorem d_M_turned_23 : decode prog_14_method_56_code 23 = .ok (.ifCond .ne 6, 3) := by decide +kernel
theorem d_M_turned_26 : decode prog_14_method_56_code 26 = .ok (.ldc 66, 2) := by decide +kernel
theorem d_M_turned_28 : decode prog_14_method_56_code 28 = .ok (.ireturn, 1) := by decide +kernel
theorem d_M_turned_29 : decode prog_14_method_56_code 29 = .ok (.aload_n 0, 1) := by decide +kernel
theorem d_M_turned_30 : decode prog_14_method_56_code 30 = .ok (.aload_n 0, 1) := by decide +kernel
theorem d_M_turned_31 : decode prog_14_method_56_code 31 = .ok (.getfield 25, 3) := by decide +kernel
theorem d_M_turned_34 : decode prog_14_method_56_code 34 = .ok (.iconst 0, 1) := by decide +kernel
theorem d_M_turned_35 : decode prog_14_method_56_code 35 = .ok (.invokevirtual 219, 3) := by decide +kernel
theorem d_M_turned_38 : decode prog_14_method_56_code 38 = .ok (.istore_n 2, 1) := by decide +kernel
theorem d_M_turned_39 : decode prog_14_method_56_code 39 = .ok (.iload_n 2, 1) := by decide +kernel
theorem d_M_turned_40 : decode prog_14_method_56_code 40 = .ok (.ldc 198, 2) := by decide +kernel
theorem d_M_turned_42 : decode prog_14_method_56_code 42 = .ok (.if_icmp .eq 7, 3) := by decide +kernel
theorem d_M_turned_45 : decode prog_14_method_56_code 45 = .ok (.iload_n 1, 1) := by decide +kernel
theorem d_M_turned_46 : decode prog_14_method_56_code 46 = .ok (.ifCond .ne 7, 3) := by decide +kernel
theorem d_M_turned_49 : decode prog_14_method_56_code 49 = .ok (.iload_n 2, 1) := by decide +kernel
theorem d_M_turned_50 : decode prog_14_method_56_code 50 = .ok (.goto 11, 3) := by decide +kernel
theorem d_M_turned_53 : decode prog_14_method_56_code 53 = .ok (.aload_n 0, 1) := by decide +kernel
theorem d_M_turned_54 : decode prog_14_method_56_code 54 = .ok (.aload_n 0, 1) := by decide +kernel
theorem d_M_turned_55 : decode prog_14_method_56_code 55 = .ok (.getfield 25, 3) := by decide +kernel
theorem d_M_turned_58 : decode prog_14_method_56_code 58 = .ok (.invokevirtual 216, 3) := by decide +kernel
theorem d_M_turned_61 : decode prog_14_method_56_code 61 = .ok (.ireturn, 1) := by decide +kernel
theorem d_M_inches_0 : decode prog_14_method_57_code 0 = .ok (.aload_n 0, 1) := by decide +kernel
theorem d_M_inches_1 : decode prog_14_method_57_code 1 = .ok (.iconst 0, 1) := by decide +kernel
theorem d_M_inches_2 : decode prog_14_method_57_code 2 = .ok (.putfield 50, 3) := by decide +kernel
theorem d_M_inches_5 : decode prog_14_method_57_code 5 = .ok (.aload_n 0, 1) := by decide +kernel
theorem d_M_inches_6 : decode prog_14_method_57_code 6 = .ok (.getfield 25, 3) := by decide +kernel
theorem d_M_inches_9 : decode prog_14_method_57_code 9 = .ok (.iconst 0, 1) := by decide +kernel
theorem d_M_inches_10 : decode prog_14_method_57_code 10 = .ok (.iaload, 1) := by decide +kernel
theorem d_M_inches_11 : decode prog_14_method_57_code 11 = .ok (.ifCond .ne 6, 3) := by decide +kernel
theorem d_M_inches_14 : decode prog_14_method_57_code 14 = .ok (.ldc 148, 2) := by decide +kernel
theorem d_M_inches_16 : decode prog_14_method_57_code 16 = .ok (.ireturn, 1) := by decide +kernel
theorem d_M_inches_17 : decode prog_14_method_57_code 17 = .ok (.iconst 0, 1) := by decide +kernel
theorem d_M_inches_18 : decode prog_14_method_57_code 18 = .ok (.istore_n 1, 1) := by decide +kernel
theorem d_M_inches_19 : decode prog_14_method_57_code 19 = .ok (.iload_n 1, 1) := by decide +kernel
theorem d_M_inches_20 : decode prog_14_method_57_code 20 = .ok (.bipush 6, 2) := by decide +kernel
theorem d_M_inches_22 : decode prog_14_method_57_code 22 = .ok (.if_icmp .ge 25, 3) := by decide +kernel
theorem d_M_inches_25 : decode prog_14_method_57_code 25 = .ok (.aload_n 0, 1) := by decide +kernel
theorem d_M_inches_26 : decode prog_14_method_57_code 26 = .ok (.aload_n 0, 1) := by decide +kernel
theorem d_M_inches_27 : decode prog_14_method_57_code 27 = .ok (.getfield 25, 3) := by decide +kernel
theorem d_M_inches_30 : decode prog_14_method_57_code 30 = .ok (.iload_n 1, 1) := by decide +kernel
theorem d_M_inches_31 : decode prog_14_method_57_code 31 = .ok (.invokevirtual 219, 3) := by decide +kernel
theorem d_M_inches_34 : decode prog_14_method_57_code 34 = .ok (.ldc 198, 2) := by decide +kernel
theorem d_M_inches_36 : decode prog_14_method_57_code 36 = .ok (.if_icmp .eq 5, 3) := by decide +kernel
theorem d_M_inches_39 : decode prog_14_method_57_code 39 = .ok (.iload_n 1, 1) := by decide +kernel
theorem d_M_inches_40 : decode prog_14_method_57_code 40 = .ok (.ireturn, 1) := by decide +kernel
theorem d_M_inches_41 : decode prog_14_method_57_code 41 = .ok (.iinc 1 1, 3) := by decide +kernel
theorem d_M_inches_44 : decode prog_14_method_57_code 44 = .ok (.goto (-25), 3) := by decide +kernel
theorem d_M_inches_47 : decode prog_14_method_57_code 47 = .ok (.ldc 198, 2) := by decide +kernel
theorem d_M_inches_49 : decode prog_14_method_57_code 49 = .ok (.ireturn, 1) := by decide +kernel
theorem d_M_inTheWay_0 : decode prog_14_method_58_code 0 = .ok (.aload_n 0, 1) := by decide +kernel
theorem d_M_inTheWay_1 : decode prog_14_method_58_code 1 = .ok (.iconst 0, 1) := by decide +kernel
theorem d_M_inTheWay_2 : decode prog_14_method_58_code 2 = .ok (.putfield 50, 3) := by decide +kernel
theorem d_M_inTheWay_5 : decode prog_14_method_58_code 5 = .ok (.aload_n 0, 1) := by decide +kernel
theorem d_M_inTheWay_6 : decode prog_14_method_58_code 6 = .ok (.getfield 25, 3) := by decide +kernel
theorem d_M_inTheWay_9 : decode prog_14_method_58_code 9 = .ok (.iconst 0, 1) := by decide +kernel
theorem d_M_inTheWay_10 : decode prog_14_method_58_code 10 = .ok (.iaload, 1) := by decide +kernel
theorem d_M_inTheWay_11 : decode prog_14_method_58_code 11 = .ok (.ifCond .ne 6, 3) := by decide +kernel
theorem d_M_inTheWay_14 : decode prog_14_method_58_code 14 = .ok (.ldc 148, 2) := by decide +kernel
theorem d_M_inTheWay_16 : decode prog_14_method_58_code 16 = .ok (.ireturn, 1) := by decide +kernel
theorem d_M_inTheWay_17 : decode prog_14_method_58_code 17 = .ok (.iload_n 1, 1) := by decide +kernel
theorem d_M_inTheWay_18 : decode prog_14_method_58_code 18 = .ok (.iconst 0, 1) := by decide +kernel
theorem d_M_inTheWay_19 : decode prog_14_method_58_code 19 = .ok (.iconst 1, 1) := by decide +kernel
theorem d_M_inTheWay_20 : decode prog_14_method_58_code 20 = .ok (.invokestatic 58, 3) := by decide +kernel
theorem d_M_inTheWay_23 : decode prog_14_method_58_code 23 = .ok (.ifCond .ne 6, 3) := by decide +kernel
theorem d_M_inTheWay_26 : decode prog_14_method_58_code 26 = .ok (.ldc 66, 2) := by decide +kernel
theorem d_M_inTheWay_28 : decode prog_14_method_58_code 28 = .ok (.ireturn, 1) := by decide +kernel
theorem d_M_inTheWay_29 : decode prog_14_method_58_code 29 = .ok (.ldc 198, 2) := by decide +kernel
theorem d_M_inTheWay_31 : decode prog_14_method_58_code 31 = .ok (.istore_n 2, 1) := by decide +kernel
theorem d_M_inTheWay_32 : decode prog_14_method_58_code 32 = .ok (.ldc 207, 2) := by decide +kernel
theorem d_M_inTheWay_34 : decode prog_14_method_58_code 34 = .ok (.istore_n 3, 1) := by decide +kernel
theorem d_M_inTheWay_35 : decode prog_14_method_58_code 35 = .ok (.iconst 0, 1) := by decide +kernel
theorem d_M_inTheWay_36 : decode prog_14_method_58_code 36 = .ok (.istore 4, 2) := by decide +kernel
theorem d_M_inTheWay_38 : decode prog_14_method_58_code 38 = .ok (.iload 4, 2) := by decide +kernel
theorem d_M_inTheWay_40 : decode prog_14_method_58_code 40 = .ok (.bipush 24, 2) := by decide +kernel
theorem d_M_inTheWay_42 : decode prog_14_method_58_code 42 = .ok (.if_icmp .ge 101, 3) := by decide +kernel
theorem d_M_inTheWay_45 : decode prog_14_method_58_code 45 = .ok (.aload_n 0, 1) := by decide +kernel
theorem d_M_inTheWay_46 : decode prog_14_method_58_code 46 = .ok (.getfield 25, 3) := by decide +kernel
theorem d_M_inTheWay_49 : decode prog_14_method_58_code 49 = .ok (.bipush 13, 2) := by decide +kernel
theorem d_M_inTheWay_51 : decode prog_14_method_58_code 51 = .ok (.iaload, 1) := by decide +kernel
theorem d_M_inTheWay_52 : decode prog_14_method_58_code 52 = .ok (.iload 4, 2) := by decide +kernel
theorem d_M_inTheWay_54 : decode prog_14_method_58_code 54 = .ok (.ishr, 1) := by decide +kernel
theorem d_M_inTheWay_55 : decode prog_14_method_58_code 55 = .ok (.iconst 1, 1) := by decide +kernel
theorem d_M_inTheWay_56 : decode prog_14_method_58_code 56 = .ok (.iand, 1) := by decide +kernel
theorem d_M_inTheWay_57 : decode prog_14_method_58_code 57 = .ok (.iconst 1, 1) := by decide +kernel
theorem d_M_inTheWay_58 : decode prog_14_method_58_code 58 = .ok (.if_icmp .ne 79, 3) := by decide +kernel
theorem d_M_inTheWay_61 : decode prog_14_method_58_code 61 = .ok (.aload_n 0, 1) := by decide +kernel
theorem d_M_inTheWay_62 : decode prog_14_method_58_code 62 = .ok (.getfield 25, 3) := by decide +kernel
theorem d_M_inTheWay_65 : decode prog_14_method_58_code 65 = .ok (.aload_n 0, 1) := by decide +kernel
theorem d_M_inTheWay_66 : decode prog_14_method_58_code 66 = .ok (.getfield 28, 3) := by decide +kernel
theorem d_M_inTheWay_69 : decode prog_14_method_58_code 69 = .ok (.invokestatic 141, 3) := by decide +kernel
theorem d_M_inTheWay_72 : decode prog_14_method_58_code 72 = .ok (.aload_n 0, 1) := by decide +kernel
theorem d_M_inTheWay_73 : decode prog_14_method_58_code 73 = .ok (.getfield 28, 3) := by decide +kernel
theorem d_M_inTheWay_76 : decode prog_14_method_58_code 76 = .ok (.bipush 13, 2) := by decide +kernel
theorem d_M_inTheWay_78 : decode prog_14_method_58_code 78 = .ok (.dup2, 1) := by decide +kernel
theorem d_M_inTheWay_79 : decode prog_14_method_58_code 79 = .ok (.iaload, 1) := by decide +kernel
theorem d_M_inTheWay_80 : decode prog_14_method_58_code 80 = .ok (.iconst 1, 1) := by decide +kernel
theorem d_M_inTheWay_81 : decode prog_14_method_58_code 81 = .ok (.iload 4, 2) := by decide +kernel
theorem d_M_inTheWay_83 : decode prog_14_method_58_code 83 = .ok (.ishl, 1) := by decide +kernel
theorem d_M_inTheWay_84 : decode prog_14_method_58_code 84 = .ok (.ixor, 1) := by decide +kernel
theorem d_M_inTheWay_85 : decode prog_14_method_58_code 85 = .ok (.iastore, 1) := by decide +kernel
theorem d_M_inTheWay_86 : decode prog_14_method_58_code 86 = .ok (.aload_n 0, 1) := by decide +kernel
theorem d_M_inTheWay_87 : decode prog_14_method_58_code 87 = .ok (.aload_n 0, 1) := by decide +kernel
theorem d_M_inTheWay_88 : decode prog_14_method_58_code 88 = .ok (.getfield 28, 3) := by decide +kernel
theorem d_M_inTheWay_91 : decode prog_14_method_58_code 91 = .ok (.iconst 0, 1) := by decide +kernel
theorem d_M_inTheWay_92 : decode prog_14_method_58_code 92 = .ok (.invokevirtual 219, 3) := by decide +kernel
theorem d_M_inTheWay_95 : decode prog_14_method_58_code 95 = .ok (.istore 5, 2) := by decide +kernel
theorem d_M_inTheWay_97 : decode prog_14_method_58_code 97 = .ok (.iload 5, 2) := by decide +kernel
theorem d_M_inTheWay_99 : decode prog_14_method_58_code 99 = .ok (.ldc 198, 2) := by decide +kernel
theorem d_M_inTheWay_101 : decode prog_14_method_58_code 101 = .ok (.if_icmp .eq 14, 3) := by decide +kernel
theorem d_M_inTheWay_104 : decode prog_14_method_58_code 104 = .ok (.iload 5, 2) := by decide +kernel
theorem d_M_inTheWay_106 : decode prog_14_method_58_code 106 = .ok (.iload_n 3, 1) := by decide +kernel
theorem d_M_inTheWay_107 : decode prog_14_method_58_code 107 = .ok (.if_icmp .ge 8, 3) := by decide +kernel
theorem d_M_inTheWay_110 : decode prog_14_method_58_code 110 = .ok (.iload 4, 2) := by decide +kernel
theorem d_M_inTheWay_112 : decode prog_14_method_58_code 112 = .ok (.goto 4, 3) := by decide +kernel
theorem d_M_inTheWay_115 : decode prog_14_method_58_code 115 = .ok (.iload_n 2, 1) := by decide +kernel
theorem d_M_inTheWay_116 : decode prog_14_method_58_code 116 = .ok (.istore_n 2, 1) := by decide +kernel
theorem d_M_inTheWay_117 : decode prog_14_method_58_code 117 = .ok (.iload 5, 2) := by decide +kernel
theorem d_M_inTheWay_119 : decode prog_14_method_58_code 119 = .ok (.ldc 198, 2) := by decide +kernel
theorem d_M_inTheWay_121 : decode prog_14_method_58_code 121 = .ok (.if_icmp .eq 14, 3) := by decide +kernel
theorem d_M_inTheWay_124 : decode prog_14_method_58_code 124 = .ok (.iload 5, 2) := by decide +kernel
theorem d_M_inTheWay_126 : decode prog_14_method_58_code 126 = .ok (.iload_n 3, 1) := by decide +kernel
theorem d_M_inTheWay_127 : decode prog_14_method_58_code 127 = .ok (.if_icmp .ge 8, 3) := by decide +kernel
theorem d_M_inTheWay_130 : decode prog_14_method_58_code 130 = .ok (.iload 5, 2) := by decide +kernel
theorem d_M_inTheWay_132 : decode prog_14_method_58_code 132 = .ok (.goto 4, 3) := by decide +kernel
theorem d_M_inTheWay_135 : decode prog_14_method_58_code 135 = .ok (.iload_n 3, 1) := by decide +kernel
theorem d_M_inTheWay_136 : decode prog_14_method_58_code 136 = .ok (.istore_n 3, 1) := by decide +kernel
theorem d_M_inTheWay_137 : decode prog_14_method_58_code 137 = .ok (.iinc 4 1, 3) := by decide +kernel
theorem d_M_inTheWay_140 : decode prog_14_method_58_code 140 = .ok (.goto (-102), 3) := by decide +kernel
theorem d_M_inTheWay_143 : decode prog_14_method_58_code 143 = .ok (.iload_n 2, 1) := by decide +kernel
theorem d_M_inTheWay_144 : decode prog_14_method_58_code 144 = .ok (.ldc 198, 2) := by decide +kernel
theorem d_M_inTheWay_146 : decode prog_14_method_58_code 146 = .ok (.if_icmp .eq 7, 3) := by decide +kernel
theorem d_M_inTheWay_149 : decode prog_14_method_58_code 149 = .ok (.iload_n 1, 1) := by decide +kernel
theorem d_M_inTheWay_150 : decode prog_14_method_58_code 150 = .ok (.ifCond .ne 7, 3) := by decide +kernel
theorem d_M_inTheWay_153 : decode prog_14_method_58_code 153 = .ok (.iload_n 2, 1) := by decide +kernel
theorem d_M_inTheWay_154 : decode prog_14_method_58_code 154 = .ok (.goto 4, 3) := by decide +kernel
theorem d_M_inTheWay_157 : decode prog_14_method_58_code 157 = .ok (.iload_n 3, 1) := by decide +kernel
theorem d_M_inTheWay_158 : decode prog_14_method_58_code 158 = .ok (.ireturn, 1) := by decide +kernel
theorem d_M_dig_0 : decode prog_14_method_59_code 0 = .ok (.aload_n 0, 1) := by decide +kernel
theorem d_M_dig_1 : decode prog_14_method_59_code 1 = .ok (.iconst 0, 1) := by decide +kernel
theorem d_M_dig_2 : decode prog_14_method_59_code 2 = .ok (.putfield 50, 3) := by decide +kernel
theorem d_M_dig_5 : decode prog_14_method_59_code 5 = .ok (.aload_n 0, 1) := by decide +kernel
theorem d_M_dig_6 : decode prog_14_method_59_code 6 = .ok (.getfield 25, 3) := by decide +kernel
theorem d_M_dig_9 : decode prog_14_method_59_code 9 = .ok (.iconst 0, 1) := by decide +kernel
theorem d_M_dig_10 : decode prog_14_method_59_code 10 = .ok (.iaload, 1) := by decide +kernel
theorem d_M_dig_11 : decode prog_14_method_59_code 11 = .ok (.ifCond .ne 6, 3) := by decide +kernel
theorem d_M_dig_14 : decode prog_14_method_59_code 14 = .ok (.ldc 148, 2) := by decide +kernel
theorem d_M_dig_16 : decode prog_14_method_59_code 16 = .ok (.ireturn, 1) := by decide +kernel
theorem d_M_dig_17 : decode prog_14_method_59_code 17 = .ok (.iload_n 1, 1) := by decide +kernel
theorem d_M_dig_18 : decode prog_14_method_59_code 18 = .ok (.iconst 0, 1) := by decide +kernel
theorem d_M_dig_19 : decode prog_14_method_59_code 19 = .ok (.iconst 1, 1) := by decide +kernel
theorem d_M_dig_20 : decode prog_14_method_59_code 20 = .ok (.invokestatic 58, 3) := by decide +kernel
theorem d_M_dig_23 : decode prog_14_method_59_code 23 = .ok (.ifCond .ne 6, 3) := by decide +kernel
theorem d_M_dig_26 : decode prog_14_method_59_code 26 = .ok (.ldc 66, 2) := by decide +kernel
theorem d_M_dig_28 : decode prog_14_method_59_code 28 = .ok (.ireturn, 1) := by decide +kernel
theorem d_M_dig_29 : decode prog_14_method_59_code 29 = .ok (.ldc 198, 2) := by decide +kernel
theorem d_M_dig_31 : decode prog_14_method_59_code 31 = .ok (.istore_n 2, 1) := by decide +kernel
theorem d_M_dig_32 : decode prog_14_method_59_code 32 = .ok (.ldc 207, 2) := by decide +kernel
theorem d_M_dig_34 : decode prog_14_method_59_code 34 = .ok (.istore_n 3, 1) := by decide +kernel
theorem d_M_dig_35 : decode prog_14_method_59_code 35 = .ok (.iconst 0, 1) := by decide +kernel
theorem d_M_dig_36 : decode prog_14_method_59_code 36 = .ok (.istore 4, 2) := by decide +kernel
theorem d_M_dig_38 : decode prog_14_method_59_code 38 = .ok (.iload 4, 2) := by decide +kernel
theorem d_M_dig_40 : decode prog_14_method_59_code 40 = .ok (.bipush 24, 2) := by decide +kernel
theorem d_M_dig_42 : decode prog_14_method_59_code 42 = .ok (.if_icmp .ge 83, 3) := by decide +kernel
theorem d_M_dig_45 : decode prog_14_method_59_code 45 = .ok (.aload_n 0, 1) := by decide +kernel
theorem d_M_dig_46 : decode prog_14_method_59_code 46 = .ok (.getfield 25, 3) := by decide +kernel
theorem d_M_dig_49 : decode prog_14_method_59_code 49 = .ok (.aload_n 0, 1) := by decide +kernel
theorem d_M_dig_50 : decode prog_14_method_59_code 50 = .ok (.getfield 28, 3) := by decide +kernel
theorem d_M_dig_53 : decode prog_14_method_59_code 53 = .ok (.invokestatic 141, 3) := by decide +kernel
theorem d_M_dig_56 : decode prog_14_method_59_code 56 = .ok (.aload_n 0, 1) := by decide +kernel
theorem d_M_dig_57 : decode prog_14_method_59_code 57 = .ok (.getfield 28, 3) := by decide +kernel
theorem d_M_dig_60 : decode prog_14_method_59_code 60 = .ok (.bipush 18, 2) := by decide +kernel
theorem d_M_dig_62 : decode prog_14_method_59_code 62 = .ok (.iload 4, 2) := by decide +kernel
theorem d_M_dig_64 : decode prog_14_method_59_code 64 = .ok (.iadd, 1) := by decide +kernel
theorem d_M_dig_65 : decode prog_14_method_59_code 65 = .ok (.bipush 9, 2) := by decide +kernel
theorem d_M_dig_67 : decode prog_14_method_59_code 67 = .ok (.iastore, 1) := by decide +kernel
theorem d_M_dig_68 : decode prog_14_method_59_code 68 = .ok (.aload_n 0, 1) := by decide +kernel
theorem d_M_dig_69 : decode prog_14_method_59_code 69 = .ok (.aload_n 0, 1) := by decide +kernel
theorem d_M_dig_70 : decode prog_14_method_59_code 70 = .ok (.getfield 28, 3) := by decide +kernel
theorem d_M_dig_73 : decode prog_14_method_59_code 73 = .ok (.iconst 0, 1) := by decide +kernel
theorem d_M_dig_74 : decode prog_14_method_59_code 74 = .ok (.invokevirtual 219, 3) := by decide +kernel
theorem d_M_dig_77 : decode prog_14_method_59_code 77 = .ok (.istore 5, 2) := by decide +kernel
theorem d_M_dig_79 : decode prog_14_method_59_code 79 = .ok (.iload 5, 2) := by decide +kernel
theorem d_M_dig_81 : decode prog_14_method_59_code 81 = .ok (.ldc 198, 2) := by decide +kernel
theorem d_M_dig_83 : decode prog_14_method_59_code 83 = .ok (.if_icmp .eq 14, 3) := by decide +kernel
theorem d_M_dig_86 : decode prog_14_method_59_code 86 = .ok (.iload 5, 2) := by decide +kernel
theorem d_M_dig_88 : decode prog_14_method_59_code 88 = .ok (.iload_n 3, 1) := by decide +kernel
theorem d_M_dig_89 : decode prog_14_method_59_code 89 = .ok (.if_icmp .ge 8, 3) := by decide +kernel
theorem d_M_dig_92 : decode prog_14_method_59_code 92 = .ok (.iload 4, 2) := by decide +kernel
theorem d_M_dig_94 : decode prog_14_method_59_code 94 = .ok (.goto 4, 3) := by decide +kernel
theorem d_M_dig_97 : decode prog_14_method_59_code 97 = .ok (.iload_n 2, 1) := by decide +kernel
theorem d_M_dig_98 : decode prog_14_method_59_code 98 = .ok (.istore_n 2, 1) := by decide +kernel
theorem d_M_dig_99 : decode prog_14_method_59_code 99 = .ok (.iload 5, 2) := by decide +kernel
theorem d_M_dig_101 : decode prog_14_method_59_code 101 = .ok (.ldc 198, 2) := by decide +kernel
theorem d_M_dig_103 : decode prog_14_method_59_code 103 = .ok (.if_icmp .eq 14, 3) := by decide +kernel
theorem d_M_dig_106 : decode prog_14_method_59_code 106 = .ok (.iload 5, 2) := by decide +kernel
theorem d_M_dig_108 : decode prog_14_method_59_code 108 = .ok (.iload_n 3, 1) := by decide +kernel
theorem d_M_dig_109 : decode prog_14_method_59_code 109 = .ok (.if_icmp .ge 8, 3) := by decide +kernel
theorem d_M_dig_112 : decode prog_14_method_59_code 112 = .ok (.iload 5, 2) := by decide +kernel
theorem d_M_dig_114 : decode prog_14_method_59_code 114 = .ok (.goto 4, 3) := by decide +kernel
theorem d_M_dig_117 : decode prog_14_method_59_code 117 = .ok (.iload_n 3, 1) := by decide +kernel
theorem d_M_dig_118 : decode prog_14_method_59_code 118 = .ok (.istore_n 3, 1) := by decide +kernel
theorem d_M_dig_119 : decode prog_14_method_59_code 119 = .ok (.iinc 4 1, 3) := by decide +kernel
theorem d_M_dig_122 : decode prog_14_method_59_code 122 = .ok (.goto (-84), 3) := by decide +kernel
theorem d_M_dig_125 : decode prog_14_method_59_code 125 = .ok (.iload_n 2, 1) := by decide +kernel
theorem d_M_dig_126 : decode prog_14_method_59_code 126 = .ok (.ldc 198, 2) := by decide +kernel
theorem d_M_dig_128 : decode prog_14_method_59_code 128 = .ok (.if_icmp .eq 7, 3) := by decide +kernel
theorem d_M_dig_131 : decode prog_14_method_59_code 131 = .ok (.iload_n 1, 1) := by decide +kernel
theorem d_M_dig_132 : decode prog_14_method_59_code 132 = .ok (.ifCond .ne 7, 3) := by decide +kernel
theorem d_M_dig_135 : decode prog_14_method_59_code 135 = .ok (.iload_n 2, 1) := by decide +kernel
theorem d_M_dig_136 : decode prog_14_method_59_code 136 = .ok (.goto 4, 3) := by decide +kernel
theorem d_M_dig_139 : decode prog_14_method_59_code 139 = .ok (.iload_n 3, 1) := by decide +kernel
theorem d_M_dig_140 : decode prog_14_method_59_code 140 = .ok (.ireturn, 1) := by decide +kernel
theorem d_M_years_0 : decode prog_14_method_60_code 0 = .ok (.aload_n 0, 1) := by decide +kernel
theorem d_M_years_1 : decode prog_14_method_60_code 1 = .ok (.iconst 0, 1) := by decide +kernel
theorem d_M_years_2 : decode prog_14_method_60_code 2 = .ok (.putfield 50, 3) := by decide +kernel
theorem d_M_years_5 : decode prog_14_method_60_code 5 = .ok (.aload_n 0, 1) := by decide +kernel
theorem d_M_years_6 : decode prog_14_method_60_code 6 = .ok (.getfield 25, 3) := by decide +kernel
theorem d_M_years_9 : decode prog_14_method_60_code 9 = .ok (.iconst 0, 1) := by decide +kernel
theorem d_M_years_10 : decode prog_14_method_60_code 10 = .ok (.iaload, 1) := by decide +kernel
theorem d_M_years_11 : decode prog_14_method_60_code 11 = .ok (.ifCond .ne 6, 3) := by decide +kernel
theorem d_M_years_14 : decode prog_14_method_60_code 14 = .ok (.ldc 148, 2) := by decide +kernel
theorem d_M_years_16 : decode prog_14_method_60_code 16 = .ok (.ireturn, 1) := by decide +kernel
theorem d_M_years_17 : decode prog_14_method_60_code 17 = .ok (.aload_n 0, 1) := by decide +kernel
theorem d_M_years_18 : decode prog_14_method_60_code 18 = .ok (.getfield 25, 3) := by decide +kernel
theorem d_M_years_21 : decode prog_14_method_60_code 21 = .ok (.aload_n 0, 1) := by decide +kernel
theorem d_M_years_22 : decode prog_14_method_60_code 22 = .ok (.getfield 28, 3) := by decide +kernel
theorem d_M_years_25 : decode prog_14_method_60_code 25 = .ok (.invokestatic 141, 3) := by decide +kernel
theorem d_M_years_28 : decode prog_14_method_60_code 28 = .ok (.iconst 0, 1) := by decide +kernel
theorem d_M_years_29 : decode prog_14_method_60_code 29 = .ok (.istore_n 1, 1) := by decide +kernel
theorem d_M_years_30 : decode prog_14_method_60_code 30 = .ok (.iload_n 1, 1) := by decide +kernel
theorem d_M_years_31 : decode prog_14_method_60_code 31 = .ok (.bipush 11, 2) := by decide +kernel
theorem d_M_years_33 : decode prog_14_method_60_code 33 = .ok (.if_icmp .ge 32, 3) := by decide +kernel
theorem d_M_years_36 : decode prog_14_method_60_code 36 = .ok (.aload_n 0, 1) := by decide +kernel
theorem d_M_years_37 : decode prog_14_method_60_code 37 = .ok (.aload_n 0, 1) := by decide +kernel
theorem d_M_years_38 : decode prog_14_method_60_code 38 = .ok (.getfield 28, 3) := by decide +kernel
theorem d_M_years_41 : decode prog_14_method_60_code 41 = .ok (.iconst 0, 1) := by decide +kernel
theorem d_M_years_42 : decode prog_14_method_60_code 42 = .ok (.invokevirtual 219, 3) := by decide +kernel
theorem d_M_years_45 : decode prog_14_method_60_code 45 = .ok (.ldc 198, 2) := by decide +kernel
theorem d_M_years_47 : decode prog_14_method_60_code 47 = .ok (.if_icmp .ne 5, 3) := by decide +kernel
theorem d_M_years_50 : decode prog_14_method_60_code 50 = .ok (.iload_n 1, 1) := by decide +kernel
theorem d_M_years_51 : decode prog_14_method_60_code 51 = .ok (.ireturn, 1) := by decide +kernel
theorem d_M_years_52 : decode prog_14_method_60_code 52 = .ok (.aload_n 0, 1) := by decide +kernel
theorem d_M_years_53 : decode prog_14_method_60_code 53 = .ok (.getfield 28, 3) := by decide +kernel
theorem d_M_years_56 : decode prog_14_method_60_code 56 = .ok (.invokestatic 191, 3) := by decide +kernel
theorem d_M_years_59 : decode prog_14_method_60_code 59 = .ok (.iinc 1 1, 3) := by decide +kernel
theorem d_M_years_62 : decode prog_14_method_60_code 62 = .ok (.goto (-32), 3) := by decide +kernel
theorem d_M_years_65 : decode prog_14_method_60_code 65 = .ok (.ldc 198, 2) := by decide +kernel
theorem d_M_years_67 : decode prog_14_method_60_code 67 = .ok (.ireturn, 1) := by decide +kernel
theorem d_M_better_0 : decode prog_14_method_61_code 0 = .ok (.aload_n 0, 1) := by decide +kernel
theorem d_M_better_1 : decode prog_14_method_61_code 1 = .ok (.iconst 0, 1) := by decide +kernel
theorem d_M_better_2 : decode prog_14_method_61_code 2 = .ok (.putfield 50, 3) := by decide +kernel
theorem d_M_better_5 : decode prog_14_method_61_code 5 = .ok (.aload_n 0, 1) := by decide +kernel
theorem d_M_better_6 : decode prog_14_method_61_code 6 = .ok (.getfield 25, 3) := by decide +kernel
theorem d_M_better_9 : decode prog_14_method_61_code 9 = .ok (.iconst 0, 1) := by decide +kernel
theorem d_M_better_10 : decode prog_14_method_61_code 10 = .ok (.iaload, 1) := by decide +kernel
theorem d_M_better_11 : decode prog_14_method_61_code 11 = .ok (.ifCond .ne 6, 3) := by decide +kernel
theorem d_M_better_14 : decode prog_14_method_61_code 14 = .ok (.ldc 148, 2) := by decide +kernel
theorem d_M_better_16 : decode prog_14_method_61_code 16 = .ok (.ireturn, 1) := by decide +kernel
theorem d_M_better_17 : decode prog_14_method_61_code 17 = .ok (.aload_n 0, 1) := by decide +kernel
theorem d_M_better_18 : decode prog_14_method_61_code 18 = .ok (.getfield 25, 3) := by decide +kernel
theorem d_M_better_21 : decode prog_14_method_61_code 21 = .ok (.aload_n 0, 1) := by decide +kernel
theorem d_M_better_22 : decode prog_14_method_61_code 22 = .ok (.getfield 28, 3) := by decide +kernel
theorem d_M_better_25 : decode prog_14_method_61_code 25 = .ok (.invokestatic 141, 3) := by decide +kernel
theorem d_M_better_28 : decode prog_14_method_61_code 28 = .ok (.aload_n 0, 1) := by decide +kernel
theorem d_M_better_29 : decode prog_14_method_61_code 29 = .ok (.getfield 28, 3) := by decide +kernel
theorem d_M_better_32 : decode prog_14_method_61_code 32 = .ok (.bipush 16, 2) := by decide +kernel
theorem d_M_better_34 : decode prog_14_method_61_code 34 = .ok (.iconst 1, 1) := by decide +kernel
theorem d_M_better_35 : decode prog_14_method_61_code 35 = .ok (.iastore, 1) := by decide +kernel
theorem d_M_better_36 : decode prog_14_method_61_code 36 = .ok (.aload_n 0, 1) := by decide +kernel
theorem d_M_better_37 : decode prog_14_method_61_code 37 = .ok (.aload_n 0, 1) := by decide +kernel
theorem d_M_better_38 : decode prog_14_method_61_code 38 = .ok (.getfield 28, 3) := by decide +kernel
theorem d_M_better_41 : decode prog_14_method_61_code 41 = .ok (.iconst 0, 1) := by decide +kernel
theorem d_M_better_42 : decode prog_14_method_61_code 42 = .ok (.invokevirtual 219, 3) := by decide +kernel
theorem d_M_better_45 : decode prog_14_method_61_code 45 = .ok (.istore_n 1, 1) := by decide +kernel
theorem d_M_better_46 : decode prog_14_method_61_code 46 = .ok (.aload_n 0, 1) := by decide +kernel
theorem d_M_better_47 : decode prog_14_method_61_code 47 = .ok (.getfield 28, 3) := by decide +kernel
theorem d_M_better_50 : decode prog_14_method_61_code 50 = .ok (.bipush 16, 2) := by decide +kernel
theorem d_M_better_52 : decode prog_14_method_61_code 52 = .ok (.iconst 0, 1) := by decide +kernel
theorem d_M_better_53 : decode prog_14_method_61_code 53 = .ok (.iastore, 1) := by decide +kernel
theorem d_M_better_54 : decode prog_14_method_61_code 54 = .ok (.aload_n 0, 1) := by decide +kernel
theorem d_M_better_55 : decode prog_14_method_61_code 55 = .ok (.aload_n 0, 1) := by decide +kernel
theorem d_M_better_56 : decode prog_14_method_61_code 56 = .ok (.getfield 28, 3) := by decide +kernel
theorem d_M_better_59 : decode prog_14_method_61_code 59 = .ok (.iconst 0, 1) := by decide +kernel
theorem d_M_better_60 : decode prog_14_method_61_code 60 = .ok (.invokevirtual 219, 3) := by decide +kernel
theorem d_M_better_63 : decode prog_14_method_61_code 63 = .ok (.istore_n 2, 1) := by decide +kernel
theorem d_M_better_64 : decode prog_14_method_61_code 64 = .ok (.iload_n 1, 1) := by decide +kernel
theorem d_M_better_65 : decode prog_14_method_61_code 65 = .ok (.ldc 198, 2) := by decide +kernel
theorem d_M_better_67 : decode prog_14_method_61_code 67 = .ok (.if_icmp .eq 9, 3) := by decide +kernel
theorem d_M_better_70 : decode prog_14_method_61_code 70 = .ok (.iload_n 2, 1) := by decide +kernel
theorem d_M_better_71 : decode prog_14_method_61_code 71 = .ok (.ldc 198, 2) := by decide +kernel
theorem d_M_better_73 : decode prog_14_method_61_code 73 = .ok (.if_icmp .ne 25, 3) := by decide +kernel
theorem d_M_better_76 : decode prog_14_method_61_code 76 = .ok (.iload_n 1, 1) := by decide +kernel
theorem d_M_better_77 : decode prog_14_method_61_code 77 = .ok (.ldc 198, 2) := by decide +kernel
theorem d_M_better_79 : decode prog_14_method_61_code 79 = .ok (.if_icmp .eq 7, 3) := by decide +kernel
theorem d_M_better_82 : decode prog_14_method_61_code 82 = .ok (.iconst 1, 1) := by decide +kernel
theorem d_M_better_83 : decode prog_14_method_61_code 83 = .ok (.goto 14, 3) := by decide +kernel
theorem d_M_better_86 : decode prog_14_method_61_code 86 = .ok (.iload_n 2, 1) := by decide +kernel
theorem d_M_better_87 : decode prog_14_method_61_code 87 = .ok (.ldc 198, 2) := by decide +kernel
theorem d_M_better_89 : decode prog_14_method_61_code 89 = .ok (.if_icmp .eq 7, 3) := by decide +kernel
theorem d_M_better_92 : decode prog_14_method_61_code 92 = .ok (.iconst 0, 1) := by decide +kernel
theorem d_M_better_93 : decode prog_14_method_61_code 93 = .ok (.goto 4, 3) := by decide +kernel
theorem d_M_better_96 : decode prog_14_method_61_code 96 = .ok (.iconst 3, 1) := by decide +kernel
theorem d_M_better_97 : decode prog_14_method_61_code 97 = .ok (.ireturn, 1) := by decide +kernel
theorem d_M_better_98 : decode prog_14_method_61_code 98 = .ok (.iload_n 1, 1) := by decide +kernel
theorem d_M_better_99 : decode prog_14_method_61_code 99 = .ok (.iload_n 2, 1) := by decide +kernel
theorem d_M_better_100 : decode prog_14_method_61_code 100 = .ok (.if_icmp .ge 7, 3) := by decide +kernel
theorem d_M_better_103 : decode prog_14_method_61_code 103 = .ok (.iconst 1, 1) := by decide +kernel
theorem d_M_better_104 : decode prog_14_method_61_code 104 = .ok (.goto 13, 3) := by decide +kernel
theorem d_M_better_107 : decode prog_14_method_61_code 107 = .ok (.iload_n 2, 1) := by decide +kernel
theorem d_M_better_108 : decode prog_14_method_61_code 108 = .ok (.iload_n 1, 1) := by decide +kernel
theorem d_M_better_109 : decode prog_14_method_61_code 109 = .ok (.if_icmp .ge 7, 3) := by decide +kernel
theorem d_M_better_112 : decode prog_14_method_61_code 112 = .ok (.iconst 0, 1) := by decide +kernel
theorem d_M_better_113 : decode prog_14_method_61_code 113 = .ok (.goto 4, 3) := by decide +kernel
theorem d_M_better_116 : decode prog_14_method_61_code 116 = .ok (.iconst 2, 1) := by decide +kernel
theorem d_M_better_117 : decode prog_14_method_61_code 117 = .ok (.ireturn, 1) := by decide +kernel
theorem d_M_wrongRow_0 : decode prog_14_method_62_code 0 = .ok (.aload_n 0, 1) := by decide +kernel
theorem d_M_wrongRow_1 : decode prog_14_method_62_code 1 = .ok (.getfield 13, 3) := by decide +kernel
theorem d_M_wrongRow_4 : decode prog_14_method_62_code 4 = .ok (.iload_n 1, 1) := by decide +kernel
theorem d_M_wrongRow_5 : decode prog_14_method_62_code 5 = .ok (.iaload, 1) := by decide +kernel
theorem d_M_wrongRow_6 : decode prog_14_method_62_code 6 = .ok (.ifCond .ne 5, 3) := by decide +kernel
theorem d_M_wrongRow_9 : decode prog_14_method_62_code 9 = .ok (.iconst 1, 1) := by decide +kernel
theorem d_M_wrongRow_10 : decode prog_14_method_62_code 10 = .ok (.ireturn, 1) := by decide +kernel
theorem d_M_wrongRow_11 : decode prog_14_method_62_code 11 = .ok (.aload_n 0, 1) := by decide +kernel
theorem d_M_wrongRow_12 : decode prog_14_method_62_code 12 = .ok (.iload_n 1, 1) := by decide +kernel
theorem d_M_wrongRow_13 : decode prog_14_method_62_code 13 = .ok (.iload_n 2, 1) := by decide +kernel
theorem d_M_wrongRow_14 : decode prog_14_method_62_code 14 = .ok (.iload_n 3, 1) := by decide +kernel
theorem d_M_wrongRow_15 : decode prog_14_method_62_code 15 = .ok (.invokevirtual 78, 3) := by decide +kernel
theorem d_M_wrongRow_18 : decode prog_14_method_62_code 18 = .ok (.ifCond .eq 7, 3) := by decide +kernel
theorem d_M_wrongRow_21 : decode prog_14_method_62_code 21 = .ok (.iconst 0, 1) := by decide +kernel
theorem d_M_wrongRow_22 : decode prog_14_method_62_code 22 = .ok (.goto 4, 3) := by decide +kernel
theorem d_M_wrongRow_25 : decode prog_14_method_62_code 25 = .ok (.iconst 2, 1) := by decide +kernel
theorem d_M_wrongRow_26 : decode prog_14_method_62_code 26 = .ok (.ireturn, 1) := by decide +kernel
theorem d_M_plan_0 : decode prog_14_method_63_code 0 = .ok (.aload_n 0, 1) := by decide +kernel
theorem d_M_plan_1 : decode prog_14_method_63_code 1 = .ok (.iconst 0, 1) := by decide +kernel
theorem d_M_plan_2 : decode prog_14_method_63_code 2 = .ok (.putfield 50, 3) := by decide +kernel
theorem d_M_plan_5 : decode prog_14_method_63_code 5 = .ok (.aload_n 0, 1) := by decide +kernel
theorem d_M_plan_6 : decode prog_14_method_63_code 6 = .ok (.getfield 25, 3) := by decide +kernel
theorem d_M_plan_9 : decode prog_14_method_63_code 9 = .ok (.iconst 0, 1) := by decide +kernel
theorem d_M_plan_10 : decode prog_14_method_63_code 10 = .ok (.iaload, 1) := by decide +kernel
theorem d_M_plan_11 : decode prog_14_method_63_code 11 = .ok (.ifCond .ne 6, 3) := by decide +kernel
theorem d_M_plan_14 : decode prog_14_method_63_code 14 = .ok (.ldc 148, 2) := by decide +kernel
theorem d_M_plan_16 : decode prog_14_method_63_code 16 = .ok (.ireturn, 1) := by decide +kernel
theorem d_M_plan_17 : decode prog_14_method_63_code 17 = .ok (.iload_n 1, 1) := by decide +kernel
theorem d_M_plan_18 : decode prog_14_method_63_code 18 = .ok (.invokestatic 62, 3) := by decide +kernel
theorem d_M_plan_21 : decode prog_14_method_63_code 21 = .ok (.ifCond .eq 23, 3) := by decide +kernel
theorem d_M_plan_24 : decode prog_14_method_63_code 24 = .ok (.iload_n 3, 1) := by decide +kernel
theorem d_M_plan_25 : decode prog_14_method_63_code 25 = .ok (.iconst 0, 1) := by decide +kernel
theorem d_M_plan_26 : decode prog_14_method_63_code 26 = .ok (.bipush 40, 2) := by decide +kernel
theorem d_M_plan_28 : decode prog_14_method_63_code 28 = .ok (.invokestatic 58, 3) := by decide +kernel
theorem d_M_plan_31 : decode prog_14_method_63_code 31 = .ok (.ifCond .eq 13, 3) := by decide +kernel
theorem d_M_plan_34 : decode prog_14_method_63_code 34 = .ok (.iload 4, 2) := by decide +kernel
theorem d_M_plan_36 : decode prog_14_method_63_code 36 = .ok (.iconst 0, 1) := by decide +kernel
theorem d_M_plan_37 : decode prog_14_method_63_code 37 = .ok (.iconst 1, 1) := by decide +kernel
theorem d_M_plan_38 : decode prog_14_method_63_code 38 = .ok (.invokestatic 58, 3) := by decide +kernel
theorem d_M_plan_41 : decode prog_14_method_63_code 41 = .ok (.ifCond .ne 6, 3) := by decide +kernel
theorem d_M_plan_44 : decode prog_14_method_63_code 44 = .ok (.ldc 66, 2) := by decide +kernel
theorem d_M_plan_46 : decode prog_14_method_63_code 46 = .ok (.ireturn, 1) := by decide +kernel
theorem d_M_plan_47 : decode prog_14_method_63_code 47 = .ok (.aload_n 0, 1) := by decide +kernel
theorem d_M_plan_48 : decode prog_14_method_63_code 48 = .ok (.iload_n 1, 1) := by decide +kernel
theorem d_M_plan_49 : decode prog_14_method_63_code 49 = .ok (.iload_n 2, 1) := by decide +kernel
theorem d_M_plan_50 : decode prog_14_method_63_code 50 = .ok (.iload_n 3, 1) := by decide +kernel
theorem d_M_plan_51 : decode prog_14_method_63_code 51 = .ok (.invokevirtual 222, 3) := by decide +kernel
theorem d_M_plan_54 : decode prog_14_method_63_code 54 = .ok (.istore 5, 2) := by decide +kernel
theorem d_M_plan_56 : decode prog_14_method_63_code 56 = .ok (.iload 5, 2) := by decide +kernel
theorem d_M_plan_58 : decode prog_14_method_63_code 58 = .ok (.ifCond .le 10, 3) := by decide +kernel
theorem d_M_plan_61 : decode prog_14_method_63_code 61 = .ok (.aload_n 0, 1) := by decide +kernel
theorem d_M_plan_62 : decode prog_14_method_63_code 62 = .ok (.iload 5, 2) := by decide +kernel
theorem d_M_plan_64 : decode prog_14_method_63_code 64 = .ok (.invokevirtual 67, 3) := by decide +kernel
theorem d_M_plan_67 : decode prog_14_method_63_code 67 = .ok (.ireturn, 1) := by decide +kernel
theorem d_M_plan_68 : decode prog_14_method_63_code 68 = .ok (.aload_n 0, 1) := by decide +kernel
theorem d_M_plan_69 : decode prog_14_method_63_code 69 = .ok (.getfield 25, 3) := by decide +kernel
theorem d_M_plan_72 : decode prog_14_method_63_code 72 = .ok (.aload_n 0, 1) := by decide +kernel
theorem d_M_plan_73 : decode prog_14_method_63_code 73 = .ok (.getfield 28, 3) := by decide +kernel
theorem d_M_plan_76 : decode prog_14_method_63_code 76 = .ok (.invokestatic 141, 3) := by decide +kernel
theorem d_M_plan_79 : decode prog_14_method_63_code 79 = .ok (.iconst 0, 1) := by decide +kernel
theorem d_M_plan_80 : decode prog_14_method_63_code 80 = .ok (.istore 6, 2) := by decide +kernel
theorem d_M_plan_82 : decode prog_14_method_63_code 82 = .ok (.iconst 0, 1) := by decide +kernel
theorem d_M_plan_83 : decode prog_14_method_63_code 83 = .ok (.istore 7, 2) := by decide +kernel
theorem d_M_plan_85 : decode prog_14_method_63_code 85 = .ok (.iconst 1, 1) := by decide +kernel
theorem d_M_plan_86 : decode prog_14_method_63_code 86 = .ok (.istore 8, 2) := by decide +kernel
theorem d_M_plan_88 : decode prog_14_method_63_code 88 = .ok (.iconst 0, 1) := by decide +kernel
theorem d_M_plan_89 : decode prog_14_method_63_code 89 = .ok (.istore 9, 2) := by decide +kernel
theorem d_M_plan_91 : decode prog_14_method_63_code 91 = .ok (.iload 9, 2) := by decide +kernel
theorem d_M_plan_93 : decode prog_14_method_63_code 93 = .ok (.iload_n 3, 1) := by decide +kernel
theorem d_M_plan_94 : decode prog_14_method_63_code 94 = .ok (.if_icmp .ge 131, 3) := by decide +kernel
theorem d_M_plan_97 : decode prog_14_method_63_code 97 = .ok (.iload 8, 2) := by decide +kernel
theorem d_M_plan_99 : decode prog_14_method_63_code 99 = .ok (.ifCond .eq 126, 3) := by decide +kernel
theorem d_M_plan_102 : decode prog_14_method_63_code 102 = .ok (.aload_n 0, 1) := by decide +kernel
theorem d_M_plan_103 : decode prog_14_method_63_code 103 = .ok (.getfield 19, 3) := by decide +kernel
theorem d_M_plan_106 : decode prog_14_method_63_code 106 = .ok (.bipush 40, 2) := by decide +kernel
theorem d_M_plan_108 : decode prog_14_method_63_code 108 = .ok (.iload_n 1, 1) := by decide +kernel
theorem d_M_plan_109 : decode prog_14_method_63_code 109 = .ok (.imul, 1) := by decide +kernel
theorem d_M_plan_110 : decode prog_14_method_63_code 110 = .ok (.iload_n 2, 1) := by decide +kernel
theorem d_M_plan_111 : decode prog_14_method_63_code 111 = .ok (.iadd, 1) := by decide +kernel
theorem d_M_plan_112 : decode prog_14_method_63_code 112 = .ok (.iload 9, 2) := by decide +kernel
theorem d_M_plan_114 : decode prog_14_method_63_code 114 = .ok (.iadd, 1) := by decide +kernel
theorem d_M_plan_115 : decode prog_14_method_63_code 115 = .ok (.iaload, 1) := by decide +kernel
theorem d_M_plan_116 : decode prog_14_method_63_code 116 = .ok (.istore 10, 2) := by decide +kernel
theorem d_M_plan_118 : decode prog_14_method_63_code 118 = .ok (.iload 10, 2) := by decide +kernel
theorem d_M_plan_120 : decode prog_14_method_63_code 120 = .ok (.ifCond .lt 50, 3) := by decide +kernel
theorem d_M_plan_123 : decode prog_14_method_63_code 123 = .ok (.aload_n 0, 1) := by decide +kernel
theorem d_M_plan_124 : decode prog_14_method_63_code 124 = .ok (.iload 10, 2) := by decide +kernel
theorem d_M_plan_126 : decode prog_14_method_63_code 126 = .ok (.bipush 10, 2) := by decide +kernel
theorem d_M_plan_128 : decode prog_14_method_63_code 128 = .ok (.idiv, 1) := by decide +kernel
theorem d_M_plan_129 : decode prog_14_method_63_code 129 = .ok (.invokevirtual 174, 3) := by decide +kernel
theorem d_M_plan_132 : decode prog_14_method_63_code 132 = .ok (.ifCond .eq 38, 3) := by decide +kernel
theorem d_M_plan_135 : decode prog_14_method_63_code 135 = .ok (.iload 10, 2) := by decide +kernel
theorem d_M_plan_137 : decode prog_14_method_63_code 137 = .ok (.bipush 10, 2) := by decide +kernel
theorem d_M_plan_139 : decode prog_14_method_63_code 139 = .ok (.irem, 1) := by decide +kernel
theorem d_M_plan_140 : decode prog_14_method_63_code 140 = .ok (.bipush 8, 2) := by decide +kernel
theorem d_M_plan_142 : decode prog_14_method_63_code 142 = .ok (.if_icmp .ge 28, 3) := by decide +kernel
theorem d_M_plan_145 : decode prog_14_method_63_code 145 = .ok (.aload_n 0, 1) := by decide +kernel
theorem d_M_plan_146 : decode prog_14_method_63_code 146 = .ok (.getfield 28, 3) := by decide +kernel
theorem d_M_plan_149 : decode prog_14_method_63_code 149 = .ok (.iload 10, 2) := by decide +kernel
theorem d_M_plan_151 : decode prog_14_method_63_code 151 = .ok (.bipush 10, 2) := by decide +kernel
theorem d_M_plan_153 : decode prog_14_method_63_code 153 = .ok (.idiv, 1) := by decide +kernel
theorem d_M_plan_154 : decode prog_14_method_63_code 154 = .ok (.iload 10, 2) := by decide +kernel
theorem d_M_plan_156 : decode prog_14_method_63_code 156 = .ok (.bipush 10, 2) := by decide +kernel
theorem d_M_plan_158 : decode prog_14_method_63_code 158 = .ok (.irem, 1) := by decide +kernel
theorem d_M_plan_159 : decode prog_14_method_63_code 159 = .ok (.iconst 0, 1) := by decide +kernel
theorem d_M_plan_160 : decode prog_14_method_63_code 160 = .ok (.invokestatic 177, 3) := by decide +kernel
theorem d_M_plan_163 : decode prog_14_method_63_code 163 = .ok (.ifCond .eq 7, 3) := by decide +kernel
theorem d_M_plan_166 : decode prog_14_method_63_code 166 = .ok (.iconst 1, 1) := by decide +kernel
theorem d_M_plan_167 : decode prog_14_method_63_code 167 = .ok (.goto 4, 3) := by decide +kernel
theorem d_M_plan_170 : decode prog_14_method_63_code 170 = .ok (.iconst 0, 1) := by decide +kernel
theorem d_M_plan_171 : decode prog_14_method_63_code 171 = .ok (.istore 8, 2) := by decide +kernel
theorem d_M_plan_173 : decode prog_14_method_63_code 173 = .ok (.iload 6, 2) := by decide +kernel
theorem d_M_plan_175 : decode prog_14_method_63_code 175 = .ok (.iload 8, 2) := by decide +kernel
theorem d_M_plan_177 : decode prog_14_method_63_code 177 = .ok (.ifCond .eq 7, 3) := by decide +kernel
theorem d_M_plan_180 : decode prog_14_method_63_code 180 = .ok (.iconst 1, 1) := by decide +kernel
theorem d_M_plan_181 : decode prog_14_method_63_code 181 = .ok (.goto 4, 3) := by decide +kernel
theorem d_M_plan_184 : decode prog_14_method_63_code 184 = .ok (.iconst 0, 1) := by decide +kernel
theorem d_M_plan_185 : decode prog_14_method_63_code 185 = .ok (.iadd, 1) := by decide +kernel
theorem d_M_plan_186 : decode prog_14_method_63_code 186 = .ok (.istore 6, 2) := by decide +kernel
theorem d_M_plan_188 : decode prog_14_method_63_code 188 = .ok (.iload 7, 2) := by decide +kernel
theorem d_M_plan_190 : decode prog_14_method_63_code 190 = .ok (.iload 8, 2) := by decide +kernel
theorem d_M_plan_192 : decode prog_14_method_63_code 192 = .ok (.ifCond .eq 23, 3) := by decide +kernel
theorem d_M_plan_195 : decode prog_14_method_63_code 195 = .ok (.aload_n 0, 1) := by decide +kernel
theorem d_M_plan_196 : decode prog_14_method_63_code 196 = .ok (.getfield 25, 3) := by decide +kernel
theorem d_M_plan_199 : decode prog_14_method_63_code 199 = .ok (.iload 10, 2) := by decide +kernel
theorem d_M_plan_201 : decode prog_14_method_63_code 201 = .ok (.bipush 10, 2) := by decide +kernel
theorem d_M_plan_203 : decode prog_14_method_63_code 203 = .ok (.idiv, 1) := by decide +kernel
theorem d_M_plan_204 : decode prog_14_method_63_code 204 = .ok (.iload 10, 2) := by decide +kernel
theorem d_M_plan_206 : decode prog_14_method_63_code 206 = .ok (.bipush 10, 2) := by decide +kernel
theorem d_M_plan_208 : decode prog_14_method_63_code 208 = .ok (.irem, 1) := by decide +kernel
theorem d_M_plan_209 : decode prog_14_method_63_code 209 = .ok (.invokestatic 183, 3) := by decide +kernel
theorem d_M_plan_212 : decode prog_14_method_63_code 212 = .ok (.goto 4, 3) := by decide +kernel
theorem d_M_plan_215 : decode prog_14_method_63_code 215 = .ok (.iconst 0, 1) := by decide +kernel
theorem d_M_plan_216 : decode prog_14_method_63_code 216 = .ok (.iadd, 1) := by decide +kernel
theorem d_M_plan_217 : decode prog_14_method_63_code 217 = .ok (.istore 7, 2) := by decide +kernel
theorem d_M_plan_219 : decode prog_14_method_63_code 219 = .ok (.iinc 9 1, 3) := by decide +kernel
theorem d_M_plan_222 : decode prog_14_method_63_code 222 = .ok (.goto (-131), 3) := by decide +kernel
theorem d_M_plan_225 : decode prog_14_method_63_code 225 = .ok (.aload_n 0, 1) := by decide +kernel
theorem d_M_plan_226 : decode prog_14_method_63_code 226 = .ok (.iload 4, 2) := by decide +kernel
theorem d_M_plan_228 : decode prog_14_method_63_code 228 = .ok (.ifCond .ne 8, 3) := by decide +kernel
theorem d_M_plan_231 : decode prog_14_method_63_code 231 = .ok (.iload 6, 2) := by decide +kernel
theorem d_M_plan_233 : decode prog_14_method_63_code 233 = .ok (.goto 5, 3) := by decide +kernel
theorem d_M_plan_236 : decode prog_14_method_63_code 236 = .ok (.iload 7, 2) := by decide +kernel
theorem d_M_plan_238 : decode prog_14_method_63_code 238 = .ok (.invokevirtual 71, 3) := by decide +kernel
theorem d_M_plan_241 : decode prog_14_method_63_code 241 = .ok (.ireturn, 1) := by decide +kernel
theorem d_M_seen_0 : decode prog_14_method_64_code 0 = .ok (.aload_n 0, 1) := by decide +kernel
theorem d_M_seen_1 : decode prog_14_method_64_code 1 = .ok (.iconst 0, 1) := by decide +kernel
theorem d_M_seen_2 : decode prog_14_method_64_code 2 = .ok (.putfield 50, 3) := by decide +kernel
theorem d_M_seen_5 : decode prog_14_method_64_code 5 = .ok (.aload_n 0, 1) := by decide +kernel
theorem d_M_seen_6 : decode prog_14_method_64_code 6 = .ok (.getfield 25, 3) := by decide +kernel
theorem d_M_seen_9 : decode prog_14_method_64_code 9 = .ok (.iconst 0, 1) := by decide +kernel
theorem d_M_seen_10 : decode prog_14_method_64_code 10 = .ok (.iaload, 1) := by decide +kernel
theorem d_M_seen_11 : decode prog_14_method_64_code 11 = .ok (.ifCond .ne 6, 3) := by decide +kernel
theorem d_M_seen_14 : decode prog_14_method_64_code 14 = .ok (.ldc 148, 2) := by decide +kernel
theorem d_M_seen_16 : decode prog_14_method_64_code 16 = .ok (.ireturn, 1) := by decide +kernel
theorem d_M_seen_17 : decode prog_14_method_64_code 17 = .ok (.iload_n 1, 1) := by decide +kernel
theorem d_M_seen_18 : decode prog_14_method_64_code 18 = .ok (.invokestatic 62, 3) := by decide +kernel
theorem d_M_seen_21 : decode prog_14_method_64_code 21 = .ok (.ifCond .eq 22, 3) := by decide +kernel
theorem d_M_seen_24 : decode prog_14_method_64_code 24 = .ok (.iload_n 3, 1) := by decide +kernel
theorem d_M_seen_25 : decode prog_14_method_64_code 25 = .ok (.iconst 1, 1) := by decide +kernel
theorem d_M_seen_26 : decode prog_14_method_64_code 26 = .ok (.iconst 4, 1) := by decide +kernel
theorem d_M_seen_27 : decode prog_14_method_64_code 27 = .ok (.invokestatic 58, 3) := by decide +kernel
theorem d_M_seen_30 : decode prog_14_method_64_code 30 = .ok (.ifCond .eq 13, 3) := by decide +kernel
theorem d_M_seen_33 : decode prog_14_method_64_code 33 = .ok (.iload 4, 2) := by decide +kernel
theorem d_M_seen_35 : decode prog_14_method_64_code 35 = .ok (.iconst 0, 1) := by decide +kernel
theorem d_M_seen_36 : decode prog_14_method_64_code 36 = .ok (.iconst 1, 1) := by decide +kernel
theorem d_M_seen_37 : decode prog_14_method_64_code 37 = .ok (.invokestatic 58, 3) := by decide +kernel
theorem d_M_seen_40 : decode prog_14_method_64_code 40 = .ok (.ifCond .ne 6, 3) := by decide +kernel
theorem d_M_seen_43 : decode prog_14_method_64_code 43 = .ok (.ldc 66, 2) := by decide +kernel
theorem d_M_seen_45 : decode prog_14_method_64_code 45 = .ok (.ireturn, 1) := by decide +kernel
theorem d_M_seen_46 : decode prog_14_method_64_code 46 = .ok (.aload_n 0, 1) := by decide +kernel
theorem d_M_seen_47 : decode prog_14_method_64_code 47 = .ok (.iload_n 1, 1) := by decide +kernel
theorem d_M_seen_48 : decode prog_14_method_64_code 48 = .ok (.iload_n 2, 1) := by decide +kernel
theorem d_M_seen_49 : decode prog_14_method_64_code 49 = .ok (.iload_n 3, 1) := by decide +kernel
theorem d_M_seen_50 : decode prog_14_method_64_code 50 = .ok (.invokevirtual 222, 3) := by decide +kernel
theorem d_M_seen_53 : decode prog_14_method_64_code 53 = .ok (.istore 5, 2) := by decide +kernel
theorem d_M_seen_55 : decode prog_14_method_64_code 55 = .ok (.iload 5, 2) := by decide +kernel
theorem d_M_seen_57 : decode prog_14_method_64_code 57 = .ok (.ifCond .le 10, 3) := by decide +kernel
theorem d_M_seen_60 : decode prog_14_method_64_code 60 = .ok (.aload_n 0, 1) := by decide +kernel
theorem d_M_seen_61 : decode prog_14_method_64_code 61 = .ok (.iload 5, 2) := by decide +kernel
theorem d_M_seen_63 : decode prog_14_method_64_code 63 = .ok (.invokevirtual 67, 3) := by decide +kernel
theorem d_M_seen_66 : decode prog_14_method_64_code 66 = .ok (.ireturn, 1) := by decide +kernel
theorem d_M_seen_67 : decode prog_14_method_64_code 67 = .ok (.ldc 198, 2) := by decide +kernel
theorem d_M_seen_69 : decode prog_14_method_64_code 69 = .ok (.istore 6, 2) := by decide +kernel
theorem d_M_seen_71 : decode prog_14_method_64_code 71 = .ok (.iload_n 3, 1) := by decide +kernel
theorem d_M_seen_72 : decode prog_14_method_64_code 72 = .ok (.istore 7, 2) := by decide +kernel
theorem d_M_seen_74 : decode prog_14_method_64_code 74 = .ok (.iload 7, 2) := by decide +kernel
theorem d_M_seen_76 : decode prog_14_method_64_code 76 = .ok (.ifCond .lt 245, 3) := by decide +kernel
theorem d_M_seen_79 : decode prog_14_method_64_code 79 = .ok (.iconst 0, 1) := by decide +kernel
theorem d_M_seen_80 : decode prog_14_method_64_code 80 = .ok (.istore 8, 2) := by decide +kernel
theorem d_M_seen_82 : decode prog_14_method_64_code 82 = .ok (.iload 8, 2) := by decide +kernel
theorem d_M_seen_84 : decode prog_14_method_64_code 84 = .ok (.sipush 576, 3) := by decide +kernel
theorem d_M_seen_87 : decode prog_14_method_64_code 87 = .ok (.if_icmp .ge 228, 3) := by decide +kernel
theorem d_M_seen_90 : decode prog_14_method_64_code 90 = .ok (.aload_n 0, 1) := by decide +kernel
theorem d_M_seen_91 : decode prog_14_method_64_code 91 = .ok (.getfield 47, 3) := by decide +kernel
theorem d_M_seen_94 : decode prog_14_method_64_code 94 = .ok (.sipush 576, 3) := by decide +kernel
theorem d_M_seen_97 : decode prog_14_method_64_code 97 = .ok (.iload 7, 2) := by decide +kernel
theorem d_M_seen_99 : decode prog_14_method_64_code 99 = .ok (.imul, 1) := by decide +kernel
theorem d_M_seen_100 : decode prog_14_method_64_code 100 = .ok (.iload 8, 2) := by decide +kernel
theorem d_M_seen_102 : decode prog_14_method_64_code 102 = .ok (.iadd, 1) := by decide +kernel
theorem d_M_seen_103 : decode prog_14_method_64_code 103 = .ok (.iload 7, 2) := by decide +kernel
theorem d_M_seen_105 : decode prog_14_method_64_code 105 = .ok (.iload_n 3, 1) := by decide +kernel
theorem d_M_seen_106 : decode prog_14_method_64_code 106 = .ok (.if_icmp .ne 7, 3) := by decide +kernel
theorem d_M_seen_109 : decode prog_14_method_64_code 109 = .ok (.iconst 1, 1) := by decide +kernel
theorem d_M_seen_110 : decode prog_14_method_64_code 110 = .ok (.goto 4, 3) := by decide +kernel
theorem d_M_seen_113 : decode prog_14_method_64_code 113 = .ok (.iconst 0, 1) := by decide +kernel
theorem d_M_seen_114 : decode prog_14_method_64_code 114 = .ok (.iastore, 1) := by decide +kernel
theorem d_M_seen_115 : decode prog_14_method_64_code 115 = .ok (.iconst 0, 1) := by decide +kernel
theorem d_M_seen_116 : decode prog_14_method_64_code 116 = .ok (.istore 9, 2) := by decide +kernel
theorem d_M_seen_118 : decode prog_14_method_64_code 118 = .ok (.iload 9, 2) := by decide +kernel
theorem d_M_seen_120 : decode prog_14_method_64_code 120 = .ok (.aload_n 0, 1) := by decide +kernel
theorem d_M_seen_121 : decode prog_14_method_64_code 121 = .ok (.getfield 25, 3) := by decide +kernel
theorem d_M_seen_124 : decode prog_14_method_64_code 124 = .ok (.iconst 4, 1) := by decide +kernel
theorem d_M_seen_125 : decode prog_14_method_64_code 125 = .ok (.iaload, 1) := by decide +kernel
theorem d_M_seen_126 : decode prog_14_method_64_code 126 = .ok (.if_icmp .ge 183, 3) := by decide +kernel
theorem d_M_seen_129 : decode prog_14_method_64_code 129 = .ok (.iload 7, 2) := by decide +kernel
theorem d_M_seen_131 : decode prog_14_method_64_code 131 = .ok (.iload_n 3, 1) := by decide +kernel
theorem d_M_seen_132 : decode prog_14_method_64_code 132 = .ok (.if_icmp .ge 177, 3) := by decide +kernel
theorem d_M_seen_135 : decode prog_14_method_64_code 135 = .ok (.iconst 0, 1) := by decide +kernel
theorem d_M_seen_136 : decode prog_14_method_64_code 136 = .ok (.istore 10, 2) := by decide +kernel
theorem d_M_seen_138 : decode prog_14_method_64_code 138 = .ok (.iload 10, 2) := by decide +kernel
theorem d_M_seen_140 : decode prog_14_method_64_code 140 = .ok (.bipush 8, 2) := by decide +kernel
theorem d_M_seen_142 : decode prog_14_method_64_code 142 = .ok (.if_icmp .ge 161, 3) := by decide +kernel
theorem d_M_seen_145 : decode prog_14_method_64_code 145 = .ok (.aload_n 0, 1) := by decide +kernel
theorem d_M_seen_146 : decode prog_14_method_64_code 146 = .ok (.getfield 25, 3) := by decide +kernel
theorem d_M_seen_149 : decode prog_14_method_64_code 149 = .ok (.iconst 5, 1) := by decide +kernel
theorem d_M_seen_150 : decode prog_14_method_64_code 150 = .ok (.iload 9, 2) := by decide +kernel
theorem d_M_seen_152 : decode prog_14_method_64_code 152 = .ok (.iadd, 1) := by decide +kernel
theorem d_M_seen_153 : decode prog_14_method_64_code 153 = .ok (.iaload, 1) := by decide +kernel
theorem d_M_seen_154 : decode prog_14_method_64_code 154 = .ok (.iload 10, 2) := by decide +kernel
theorem d_M_seen_156 : decode prog_14_method_64_code 156 = .ok (.invokestatic 167, 3) := by decide +kernel
theorem d_M_seen_159 : decode prog_14_method_64_code 159 = .ok (.ifCond .eq 20, 3) := by decide +kernel
theorem d_M_seen_162 : decode prog_14_method_64_code 162 = .ok (.aload_n 0, 1) := by decide +kernel
theorem d_M_seen_163 : decode prog_14_method_64_code 163 = .ok (.getfield 25, 3) := by decide +kernel
theorem d_M_seen_166 : decode prog_14_method_64_code 166 = .ok (.iload 8, 2) := by decide +kernel
theorem d_M_seen_168 : decode prog_14_method_64_code 168 = .ok (.iload 9, 2) := by decide +kernel
theorem d_M_seen_170 : decode prog_14_method_64_code 170 = .ok (.iload 10, 2) := by decide +kernel
theorem d_M_seen_172 : decode prog_14_method_64_code 172 = .ok (.iconst 0, 1) := by decide +kernel
theorem d_M_seen_173 : decode prog_14_method_64_code 173 = .ok (.invokestatic 208, 3) := by decide +kernel
theorem d_M_seen_176 : decode prog_14_method_64_code 176 = .ok (.goto 5, 3) := by decide +kernel
theorem d_M_seen_179 : decode prog_14_method_64_code 179 = .ok (.ldc 198, 2) := by decide +kernel
theorem d_M_seen_181 : decode prog_14_method_64_code 181 = .ok (.istore 11, 2) := by decide +kernel
theorem d_M_seen_183 : decode prog_14_method_64_code 183 = .ok (.iload 11, 2) := by decide +kernel
theorem d_M_seen_185 : decode prog_14_method_64_code 185 = .ok (.ldc 198, 2) := by decide +kernel
theorem d_M_seen_187 : decode prog_14_method_64_code 187 = .ok (.if_icmp .eq 44, 3) := by decide +kernel
theorem d_M_seen_190 : decode prog_14_method_64_code 190 = .ok (.iload 11, 2) := by decide +kernel
theorem d_M_seen_192 : decode prog_14_method_64_code 192 = .ok (.bipush 24, 2) := by decide +kernel
theorem d_M_seen_194 : decode prog_14_method_64_code 194 = .ok (.idiv, 1) := by decide +kernel
theorem d_M_seen_195 : decode prog_14_method_64_code 195 = .ok (.aload_n 0, 1) := by decide +kernel
theorem d_M_seen_196 : decode prog_14_method_64_code 196 = .ok (.getfield 19, 3) := by decide +kernel
theorem d_M_seen_199 : decode prog_14_method_64_code 199 = .ok (.bipush 40, 2) := by decide +kernel
theorem d_M_seen_201 : decode prog_14_method_64_code 201 = .ok (.iload_n 1, 1) := by decide +kernel
theorem d_M_seen_202 : decode prog_14_method_64_code 202 = .ok (.imul, 1) := by decide +kernel
theorem d_M_seen_203 : decode prog_14_method_64_code 203 = .ok (.iload_n 2, 1) := by decide +kernel
theorem d_M_seen_204 : decode prog_14_method_64_code 204 = .ok (.iadd, 1) := by decide +kernel
theorem d_M_seen_205 : decode prog_14_method_64_code 205 = .ok (.iload 7, 2) := by decide +kernel
theorem d_M_seen_207 : decode prog_14_method_64_code 207 = .ok (.iadd, 1) := by decide +kernel
theorem d_M_seen_208 : decode prog_14_method_64_code 208 = .ok (.iaload, 1) := by decide +kernel
theorem d_M_seen_209 : decode prog_14_method_64_code 209 = .ok (.if_icmp .ne 22, 3) := by decide +kernel
theorem d_M_seen_212 : decode prog_14_method_64_code 212 = .ok (.aload_n 0, 1) := by decide +kernel
theorem d_M_seen_213 : decode prog_14_method_64_code 213 = .ok (.getfield 47, 3) := by decide +kernel
theorem d_M_seen_216 : decode prog_14_method_64_code 216 = .ok (.sipush 576, 3) := by decide +kernel
theorem d_M_seen_219 : decode prog_14_method_64_code 219 = .ok (.iload 7, 2) := by decide +kernel
theorem d_M_seen_221 : decode prog_14_method_64_code 221 = .ok (.iconst 1, 1) := by decide +kernel
theorem d_M_seen_222 : decode prog_14_method_64_code 222 = .ok (.iadd, 1) := by decide +kernel
theorem d_M_seen_223 : decode prog_14_method_64_code 223 = .ok (.imul, 1) := by decide +kernel
theorem d_M_seen_224 : decode prog_14_method_64_code 224 = .ok (.iload 11, 2) := by decide +kernel
theorem d_M_seen_226 : decode prog_14_method_64_code 226 = .ok (.iadd, 1) := by decide +kernel
theorem d_M_seen_227 : decode prog_14_method_64_code 227 = .ok (.iaload, 1) := by decide +kernel
theorem d_M_seen_228 : decode prog_14_method_64_code 228 = .ok (.goto 4, 3) := by decide +kernel
theorem d_M_seen_231 : decode prog_14_method_64_code 231 = .ok (.iconst 0, 1) := by decide +kernel
theorem d_M_seen_232 : decode prog_14_method_64_code 232 = .ok (.istore 12, 2) := by decide +kernel
theorem d_M_seen_234 : decode prog_14_method_64_code 234 = .ok (.iload 12, 2) := by decide +kernel
theorem d_M_seen_236 : decode prog_14_method_64_code 236 = .ok (.ifCond .le 38, 3) := by decide +kernel
theorem d_M_seen_239 : decode prog_14_method_64_code 239 = .ok (.iload 7, 2) := by decide +kernel
theorem d_M_seen_241 : decode prog_14_method_64_code 241 = .ok (.ifCond .ne 33, 3) := by decide +kernel
theorem d_M_seen_244 : decode prog_14_method_64_code 244 = .ok (.iload 8, 2) := by decide +kernel
theorem d_M_seen_246 : decode prog_14_method_64_code 246 = .ok (.aload_n 0, 1) := by decide +kernel
theorem d_M_seen_247 : decode prog_14_method_64_code 247 = .ok (.getfield 25, 3) := by decide +kernel
theorem d_M_seen_250 : decode prog_14_method_64_code 250 = .ok (.invokestatic 203, 3) := by decide +kernel
theorem d_M_seen_253 : decode prog_14_method_64_code 253 = .ok (.if_icmp .ne 21, 3) := by decide +kernel
theorem d_M_seen_256 : decode prog_14_method_64_code 256 = .ok (.iload 6, 2) := by decide +kernel
theorem d_M_seen_258 : decode prog_14_method_64_code 258 = .ok (.ldc 198, 2) := by decide +kernel
theorem d_M_seen_260 : decode prog_14_method_64_code 260 = .ok (.if_icmp .ne 14, 3) := by decide +kernel
theorem d_M_seen_263 : decode prog_14_method_64_code 263 = .ok (.bipush 10, 2) := by decide +kernel
theorem d_M_seen_265 : decode prog_14_method_64_code 265 = .ok (.iload 9, 2) := by decide +kernel
theorem d_M_seen_267 : decode prog_14_method_64_code 267 = .ok (.imul, 1) := by decide +kernel
theorem d_M_seen_268 : decode prog_14_method_64_code 268 = .ok (.iload 10, 2) := by decide +kernel
theorem d_M_seen_270 : decode prog_14_method_64_code 270 = .ok (.iadd, 1) := by decide +kernel
theorem d_M_seen_271 : decode prog_14_method_64_code 271 = .ok (.goto 5, 3) := by decide +kernel
theorem d_M_seen_274 : decode prog_14_method_64_code 274 = .ok (.iload 6, 2) := by decide +kernel
theorem d_M_seen_276 : decode prog_14_method_64_code 276 = .ok (.istore 6, 2) := by decide +kernel
theorem d_M_seen_278 : decode prog_14_method_64_code 278 = .ok (.aload_n 0, 1) := by decide +kernel
theorem d_M_seen_279 : decode prog_14_method_64_code 279 = .ok (.getfield 47, 3) := by decide +kernel
theorem d_M_seen_282 : decode prog_14_method_64_code 282 = .ok (.sipush 576, 3) := by decide +kernel
theorem d_M_seen_285 : decode prog_14_method_64_code 285 = .ok (.iload 7, 2) := by decide +kernel
theorem d_M_seen_287 : decode prog_14_method_64_code 287 = .ok (.imul, 1) := by decide +kernel
theorem d_M_seen_288 : decode prog_14_method_64_code 288 = .ok (.iload 8, 2) := by decide +kernel
theorem d_M_seen_290 : decode prog_14_method_64_code 290 = .ok (.iadd, 1) := by decide +kernel
theorem d_M_seen_291 : decode prog_14_method_64_code 291 = .ok (.dup2, 1) := by decide +kernel
theorem d_M_seen_292 : decode prog_14_method_64_code 292 = .ok (.iaload, 1) := by decide +kernel
theorem d_M_seen_293 : decode prog_14_method_64_code 293 = .ok (.iload 12, 2) := by decide +kernel
theorem d_M_seen_295 : decode prog_14_method_64_code 295 = .ok (.iadd, 1) := by decide +kernel
theorem d_M_seen_296 : decode prog_14_method_64_code 296 = .ok (.iastore, 1) := by decide +kernel
theorem d_M_seen_297 : decode prog_14_method_64_code 297 = .ok (.iinc 10 1, 3) := by decide +kernel
theorem d_M_seen_300 : decode prog_14_method_64_code 300 = .ok (.goto (-162), 3) := by decide +kernel
theorem d_M_seen_303 : decode prog_14_method_64_code 303 = .ok (.iinc 9 1, 3) := by decide +kernel
theorem d_M_seen_306 : decode prog_14_method_64_code 306 = .ok (.goto (-188), 3) := by decide +kernel
theorem d_M_seen_309 : decode prog_14_method_64_code 309 = .ok (.iinc 8 1, 3) := by decide +kernel
theorem d_M_seen_312 : decode prog_14_method_64_code 312 = .ok (.goto (-230), 3) := by decide +kernel
theorem d_M_seen_315 : decode prog_14_method_64_code 315 = .ok (.iinc 7 (-1), 3) := by decide +kernel
theorem d_M_seen_318 : decode prog_14_method_64_code 318 = .ok (.goto (-244), 3) := by decide +kernel
theorem d_M_seen_321 : decode prog_14_method_64_code 321 = .ok (.aload_n 0, 1) := by decide +kernel
theorem d_M_seen_322 : decode prog_14_method_64_code 322 = .ok (.iload 4, 2) := by decide +kernel
theorem d_M_seen_324 : decode prog_14_method_64_code 324 = .ok (.ifCond .ne 18, 3) := by decide +kernel
theorem d_M_seen_327 : decode prog_14_method_64_code 327 = .ok (.aload_n 0, 1) := by decide +kernel
theorem d_M_seen_328 : decode prog_14_method_64_code 328 = .ok (.getfield 47, 3) := by decide +kernel
theorem d_M_seen_331 : decode prog_14_method_64_code 331 = .ok (.aload_n 0, 1) := by decide +kernel
theorem d_M_seen_332 : decode prog_14_method_64_code 332 = .ok (.getfield 25, 3) := by decide +kernel
theorem d_M_seen_335 : decode prog_14_method_64_code 335 = .ok (.invokestatic 203, 3) := by decide +kernel
theorem d_M_seen_338 : decode prog_14_method_64_code 338 = .ok (.iaload, 1) := by decide +kernel
theorem d_M_seen_339 : decode prog_14_method_64_code 339 = .ok (.goto 5, 3) := by decide +kernel
theorem d_M_seen_342 : decode prog_14_method_64_code 342 = .ok (.iload 6, 2) := by decide +kernel
theorem d_M_seen_344 : decode prog_14_method_64_code 344 = .ok (.invokevirtual 71, 3) := by decide +kernel
theorem d_M_seen_347 : decode prog_14_method_64_code 347 = .ok (.ireturn, 1) := by decide +kernel
theorem d_M_power_0 : decode prog_14_method_65_code 0 = .ok (.lconst 1, 1) := by decide +kernel
theorem d_M_power_1 : decode prog_14_method_65_code 1 = .ok (.lstore_n 3, 1) := by decide +kernel
theorem d_M_power_2 : decode prog_14_method_65_code 2 = .ok (.iconst 0, 1) := by decide +kernel
theorem d_M_power_3 : decode prog_14_method_65_code 3 = .ok (.istore 5, 2) := by decide +kernel
theorem d_M_power_5 : decode prog_14_method_65_code 5 = .ok (.iload 5, 2) := by decide +kernel
theorem d_M_power_7 : decode prog_14_method_65_code 7 = .ok (.iload_n 2, 1) := by decide +kernel
theorem d_M_power_8 : decode prog_14_method_65_code 8 = .ok (.if_icmp .ge 13, 3) := by decide +kernel
theorem d_M_power_11 : decode prog_14_method_65_code 11 = .ok (.lload_n 3, 1) := by decide +kernel
theorem d_M_power_12 : decode prog_14_method_65_code 12 = .ok (.lload_n 0, 1) := by decide +kernel
theorem d_M_power_13 : decode prog_14_method_65_code 13 = .ok (.lmul, 1) := by decide +kernel
theorem d_M_power_14 : decode prog_14_method_65_code 14 = .ok (.lstore_n 3, 1) := by decide +kernel
theorem d_M_power_15 : decode prog_14_method_65_code 15 = .ok (.iinc 5 1, 3) := by decide +kernel
theorem d_M_power_18 : decode prog_14_method_65_code 18 = .ok (.goto (-13), 3) := by decide +kernel
theorem d_M_power_21 : decode prog_14_method_65_code 21 = .ok (.lload_n 3, 1) := by decide +kernel
theorem d_M_power_22 : decode prog_14_method_65_code 22 = .ok (.lreturn, 1) := by decide +kernel
theorem d_M_choose_0 : decode prog_14_method_66_code 0 = .ok (.lconst 1, 1) := by decide +kernel
theorem d_M_choose_1 : decode prog_14_method_66_code 1 = .ok (.lstore_n 2, 1) := by decide +kernel
theorem d_M_choose_2 : decode prog_14_method_66_code 2 = .ok (.iconst 0, 1) := by decide +kernel
theorem d_M_choose_3 : decode prog_14_method_66_code 3 = .ok (.istore 4, 2) := by decide +kernel
theorem d_M_choose_5 : decode prog_14_method_66_code 5 = .ok (.iload 4, 2) := by decide +kernel
theorem d_M_choose_7 : decode prog_14_method_66_code 7 = .ok (.iload_n 1, 1) := by decide +kernel
theorem d_M_choose_8 : decode prog_14_method_66_code 8 = .ok (.if_icmp .ge 23, 3) := by decide +kernel
theorem d_M_choose_11 : decode prog_14_method_66_code 11 = .ok (.lload_n 2, 1) := by decide +kernel
theorem d_M_choose_12 : decode prog_14_method_66_code 12 = .ok (.iload_n 0, 1) := by decide +kernel
theorem d_M_choose_13 : decode prog_14_method_66_code 13 = .ok (.iload 4, 2) := by decide +kernel
theorem d_M_choose_15 : decode prog_14_method_66_code 15 = .ok (.isub, 1) := by decide +kernel
theorem d_M_choose_16 : decode prog_14_method_66_code 16 = .ok (.i2l, 1) := by decide +kernel
theorem d_M_choose_17 : decode prog_14_method_66_code 17 = .ok (.lmul, 1) := by decide +kernel
theorem d_M_choose_18 : decode prog_14_method_66_code 18 = .ok (.iload 4, 2) := by decide +kernel
theorem d_M_choose_20 : decode prog_14_method_66_code 20 = .ok (.iconst 1, 1) := by decide +kernel
theorem d_M_choose_21 : decode prog_14_method_66_code 21 = .ok (.iadd, 1) := by decide +kernel
theorem d_M_choose_22 : decode prog_14_method_66_code 22 = .ok (.i2l, 1) := by decide +kernel
theorem d_M_choose_23 : decode prog_14_method_66_code 23 = .ok (.ldiv, 1) := by decide +kernel
theorem d_M_choose_24 : decode prog_14_method_66_code 24 = .ok (.lstore_n 2, 1) := by decide +kernel
theorem d_M_choose_25 : decode prog_14_method_66_code 25 = .ok (.iinc 4 1, 3) := by decide +kernel
theorem d_M_choose_28 : decode prog_14_method_66_code 28 = .ok (.goto (-23), 3) := by decide +kernel
theorem d_M_choose_31 : decode prog_14_method_66_code 31 = .ok (.lload_n 2, 1) := by decide +kernel
theorem d_M_choose_32 : decode prog_14_method_66_code 32 = .ok (.lreturn, 1) := by decide +kernel
theorem d_M_gcd_0 : decode prog_14_method_67_code 0 = .ok (.lload_n 0, 1) := by decide +kernel
theorem d_M_gcd_1 : decode prog_14_method_67_code 1 = .ok (.lstore 4, 2) := by decide +kernel
theorem d_M_gcd_3 : decode prog_14_method_67_code 3 = .ok (.lload_n 2, 1) := by decide +kernel
theorem d_M_gcd_4 : decode prog_14_method_67_code 4 = .ok (.lstore 6, 2) := by decide +kernel
theorem d_M_gcd_6 : decode prog_14_method_67_code 6 = .ok (.lload 6, 2) := by decide +kernel
theorem d_M_gcd_8 : decode prog_14_method_67_code 8 = .ok (.lconst 0, 1) := by decide +kernel
theorem d_M_gcd_9 : decode prog_14_method_67_code 9 = .ok (.lcmp, 1) := by decide +kernel
theorem d_M_gcd_10 : decode prog_14_method_67_code 10 = .ok (.ifCond .eq 21, 3) := by decide +kernel
theorem d_M_gcd_13 : decode prog_14_method_67_code 13 = .ok (.lload 4, 2) := by decide +kernel
theorem d_M_gcd_15 : decode prog_14_method_67_code 15 = .ok (.lload 6, 2) := by decide +kernel
theorem d_M_gcd_17 : decode prog_14_method_67_code 17 = .ok (.lrem, 1) := by decide +kernel
theorem d_M_gcd_18 : decode prog_14_method_67_code 18 = .ok (.lstore 8, 2) := by decide +kernel
theorem d_M_gcd_20 : decode prog_14_method_67_code 20 = .ok (.lload 6, 2) := by decide +kernel
theorem d_M_gcd_22 : decode prog_14_method_67_code 22 = .ok (.lstore 4, 2) := by decide +kernel
theorem d_M_gcd_24 : decode prog_14_method_67_code 24 = .ok (.lload 8, 2) := by decide +kernel
theorem d_M_gcd_26 : decode prog_14_method_67_code 26 = .ok (.lstore 6, 2) := by decide +kernel
theorem d_M_gcd_28 : decode prog_14_method_67_code 28 = .ok (.goto (-22), 3) := by decide +kernel
theorem d_M_gcd_31 : decode prog_14_method_67_code 31 = .ok (.lload 4, 2) := by decide +kernel
theorem d_M_gcd_33 : decode prog_14_method_67_code 33 = .ok (.lreturn, 1) := by decide +kernel
theorem d_M_gusts_0 : decode prog_14_method_68_code 0 = .ok (.aload_n 0, 1) := by decide +kernel
theorem d_M_gusts_1 : decode prog_14_method_68_code 1 = .ok (.iconst 0, 1) := by decide +kernel
theorem d_M_gusts_2 : decode prog_14_method_68_code 2 = .ok (.putfield 50, 3) := by decide +kernel
theorem d_M_gusts_5 : decode prog_14_method_68_code 5 = .ok (.iload_n 1, 1) := by decide +kernel
theorem d_M_gusts_6 : decode prog_14_method_68_code 6 = .ok (.iconst 0, 1) := by decide +kernel
theorem d_M_gusts_7 : decode prog_14_method_68_code 7 = .ok (.bipush 10, 2) := by decide +kernel
theorem d_M_gusts_9 : decode prog_14_method_68_code 9 = .ok (.invokestatic 58, 3) := by decide +kernel
theorem d_M_gusts_12 : decode prog_14_method_68_code 12 = .ok (.ifCond .eq 32, 3) := by decide +kernel
theorem d_M_gusts_15 : decode prog_14_method_68_code 15 = .ok (.iload_n 2, 1) := by decide +kernel
theorem d_M_gusts_16 : decode prog_14_method_68_code 16 = .ok (.iconst 0, 1) := by decide +kernel
theorem d_M_gusts_17 : decode prog_14_method_68_code 17 = .ok (.bipush 9, 2) := by decide +kernel
theorem d_M_gusts_19 : decode prog_14_method_68_code 19 = .ok (.invokestatic 58, 3) := by decide +kernel
theorem d_M_gusts_22 : decode prog_14_method_68_code 22 = .ok (.ifCond .eq 22, 3) := by decide +kernel
theorem d_M_gusts_25 : decode prog_14_method_68_code 25 = .ok (.iload_n 3, 1) := by decide +kernel
theorem d_M_gusts_26 : decode prog_14_method_68_code 26 = .ok (.iconst 0, 1) := by decide +kernel
theorem d_M_gusts_27 : decode prog_14_method_68_code 27 = .ok (.iload_n 2, 1) := by decide +kernel
theorem d_M_gusts_28 : decode prog_14_method_68_code 28 = .ok (.invokestatic 58, 3) := by decide +kernel
theorem d_M_gusts_31 : decode prog_14_method_68_code 31 = .ok (.ifCond .eq 13, 3) := by decide +kernel
theorem d_M_gusts_34 : decode prog_14_method_68_code 34 = .ok (.iload 4, 2) := by decide +kernel
theorem d_M_gusts_36 : decode prog_14_method_68_code 36 = .ok (.iconst 0, 1) := by decide +kernel
theorem d_M_gusts_37 : decode prog_14_method_68_code 37 = .ok (.iconst 1, 1) := by decide +kernel
theorem d_M_gusts_38 : decode prog_14_method_68_code 38 = .ok (.invokestatic 58, 3) := by decide +kernel
theorem d_M_gusts_41 : decode prog_14_method_68_code 41 = .ok (.ifCond .ne 7, 3) := by decide +kernel
theorem d_M_gusts_44 : decode prog_14_method_68_code 44 = .ok (.ldc2_w 226, 3) := by decide +kernel
theorem d_M_gusts_47 : decode prog_14_method_68_code 47 = .ok (.lreturn, 1) := by decide +kernel
theorem d_M_gusts_48 : decode prog_14_method_68_code 48 = .ok (.lconst 0, 1) := by decide +kernel
theorem d_M_gusts_49 : decode prog_14_method_68_code 49 = .ok (.lstore 5, 2) := by decide +kernel
theorem d_M_gusts_51 : decode prog_14_method_68_code 51 = .ok (.iload_n 3, 1) := by decide +kernel
theorem d_M_gusts_52 : decode prog_14_method_68_code 52 = .ok (.istore 7, 2) := by decide +kernel
theorem d_M_gusts_54 : decode prog_14_method_68_code 54 = .ok (.iload 7, 2) := by decide +kernel
theorem d_M_gusts_56 : decode prog_14_method_68_code 56 = .ok (.iload_n 2, 1) := by decide +kernel
theorem d_M_gusts_57 : decode prog_14_method_68_code 57 = .ok (.if_icmp .gt 41, 3) := by decide +kernel
theorem d_M_gusts_60 : decode prog_14_method_68_code 60 = .ok (.lload 5, 2) := by decide +kernel
theorem d_M_gusts_62 : decode prog_14_method_68_code 62 = .ok (.iload_n 2, 1) := by decide +kernel
theorem d_M_gusts_63 : decode prog_14_method_68_code 63 = .ok (.iload 7, 2) := by decide +kernel
theorem d_M_gusts_65 : decode prog_14_method_68_code 65 = .ok (.invokestatic 228, 3) := by decide +kernel
theorem d_M_gusts_68 : decode prog_14_method_68_code 68 = .ok (.iload_n 1, 1) := by decide +kernel
theorem d_M_gusts_69 : decode prog_14_method_68_code 69 = .ok (.i2l, 1) := by decide +kernel
theorem d_M_gusts_70 : decode prog_14_method_68_code 70 = .ok (.iload 7, 2) := by decide +kernel
theorem d_M_gusts_72 : decode prog_14_method_68_code 72 = .ok (.invokestatic 232, 3) := by decide +kernel
theorem d_M_gusts_75 : decode prog_14_method_68_code 75 = .ok (.lmul, 1) := by decide +kernel
theorem d_M_gusts_76 : decode prog_14_method_68_code 76 = .ok (.bipush 10, 2) := by decide +kernel
theorem d_M_gusts_78 : decode prog_14_method_68_code 78 = .ok (.iload_n 1, 1) := by decide +kernel
theorem d_M_gusts_79 : decode prog_14_method_68_code 79 = .ok (.isub, 1) := by decide +kernel
theorem d_M_gusts_80 : decode prog_14_method_68_code 80 = .ok (.i2l, 1) := by decide +kernel
theorem d_M_gusts_81 : decode prog_14_method_68_code 81 = .ok (.iload_n 2, 1) := by decide +kernel
theorem d_M_gusts_82 : decode prog_14_method_68_code 82 = .ok (.iload 7, 2) := by decide +kernel
theorem d_M_gusts_84 : decode prog_14_method_68_code 84 = .ok (.isub, 1) := by decide +kernel
theorem d_M_gusts_85 : decode prog_14_method_68_code 85 = .ok (.invokestatic 232, 3) := by decide +kernel
theorem d_M_gusts_88 : decode prog_14_method_68_code 88 = .ok (.lmul, 1) := by decide +kernel
theorem d_M_gusts_89 : decode prog_14_method_68_code 89 = .ok (.ladd, 1) := by decide +kernel
theorem d_M_gusts_90 : decode prog_14_method_68_code 90 = .ok (.lstore 5, 2) := by decide +kernel
theorem d_M_gusts_92 : decode prog_14_method_68_code 92 = .ok (.iinc 7 1, 3) := by decide +kernel
theorem d_M_gusts_95 : decode prog_14_method_68_code 95 = .ok (.goto (-41), 3) := by decide +kernel
theorem d_M_gusts_98 : decode prog_14_method_68_code 98 = .ok (.ldc2_w 236, 3) := by decide +kernel
theorem d_M_gusts_101 : decode prog_14_method_68_code 101 = .ok (.iload_n 2, 1) := by decide +kernel
theorem d_M_gusts_102 : decode prog_14_method_68_code 102 = .ok (.invokestatic 232, 3) := by decide +kernel
theorem d_M_gusts_105 : decode prog_14_method_68_code 105 = .ok (.lstore 7, 2) := by decide +kernel
theorem d_M_gusts_107 : decode prog_14_method_68_code 107 = .ok (.lload 5, 2) := by decide +kernel
theorem d_M_gusts_109 : decode prog_14_method_68_code 109 = .ok (.lload 7, 2) := by decide +kernel
theorem d_M_gusts_111 : decode prog_14_method_68_code 111 = .ok (.invokestatic 238, 3) := by decide +kernel
theorem d_M_gusts_114 : decode prog_14_method_68_code 114 = .ok (.lstore 9, 2) := by decide +kernel
theorem d_M_gusts_116 : decode prog_14_method_68_code 116 = .ok (.iload 4, 2) := by decide +kernel
theorem d_M_gusts_118 : decode prog_14_method_68_code 118 = .ok (.ifCond .ne 11, 3) := by decide +kernel
theorem d_M_gusts_121 : decode prog_14_method_68_code 121 = .ok (.lload 5, 2) := by decide +kernel
theorem d_M_gusts_123 : decode prog_14_method_68_code 123 = .ok (.lload 9, 2) := by decide +kernel
theorem d_M_gusts_125 : decode prog_14_method_68_code 125 = .ok (.ldiv, 1) := by decide +kernel
theorem d_M_gusts_126 : decode prog_14_method_68_code 126 = .ok (.goto 8, 3) := by decide +kernel
theorem d_M_gusts_129 : decode prog_14_method_68_code 129 = .ok (.lload 7, 2) := by decide +kernel
theorem d_M_gusts_131 : decode prog_14_method_68_code 131 = .ok (.lload 9, 2) := by decide +kernel
theorem d_M_gusts_133 : decode prog_14_method_68_code 133 = .ok (.ldiv, 1) := by decide +kernel
theorem d_M_gusts_134 : decode prog_14_method_68_code 134 = .ok (.lreturn, 1) := by decide +kernel
theorem d_M_reach_0 : decode prog_14_method_69_code 0 = .ok (.aload_n 0, 1) := by decide +kernel
theorem d_M_reach_1 : decode prog_14_method_69_code 1 = .ok (.iconst 0, 1) := by decide +kernel
theorem d_M_reach_2 : decode prog_14_method_69_code 2 = .ok (.putfield 50, 3) := by decide +kernel
theorem d_M_reach_5 : decode prog_14_method_69_code 5 = .ok (.aload_n 0, 1) := by decide +kernel
theorem d_M_reach_6 : decode prog_14_method_69_code 6 = .ok (.getfield 25, 3) := by decide +kernel
theorem d_M_reach_9 : decode prog_14_method_69_code 9 = .ok (.iconst 0, 1) := by decide +kernel
theorem d_M_reach_10 : decode prog_14_method_69_code 10 = .ok (.iaload, 1) := by decide +kernel
theorem d_M_reach_11 : decode prog_14_method_69_code 11 = .ok (.ifCond .ne 6, 3) := by decide +kernel
theorem d_M_reach_14 : decode prog_14_method_69_code 14 = .ok (.ldc 148, 2) := by decide +kernel
theorem d_M_reach_16 : decode prog_14_method_69_code 16 = .ok (.ireturn, 1) := by decide +kernel
theorem d_M_reach_17 : decode prog_14_method_69_code 17 = .ok (.iconst 0, 1) := by decide +kernel
theorem d_M_reach_18 : decode prog_14_method_69_code 18 = .ok (.istore_n 1, 1) := by decide +kernel
theorem d_M_reach_19 : decode prog_14_method_69_code 19 = .ok (.iload_n 1, 1) := by decide +kernel
theorem d_M_reach_20 : decode prog_14_method_69_code 20 = .ok (.sipush 576, 3) := by decide +kernel
theorem d_M_reach_23 : decode prog_14_method_69_code 23 = .ok (.if_icmp .ge 31, 3) := by decide +kernel
theorem d_M_reach_26 : decode prog_14_method_69_code 26 = .ok (.aload_n 0, 1) := by decide +kernel
theorem d_M_reach_27 : decode prog_14_method_69_code 27 = .ok (.getfield 44, 3) := by decide +kernel
theorem d_M_reach_30 : decode prog_14_method_69_code 30 = .ok (.iload_n 1, 1) := by decide +kernel
theorem d_M_reach_31 : decode prog_14_method_69_code 31 = .ok (.iload_n 1, 1) := by decide +kernel
theorem d_M_reach_32 : decode prog_14_method_69_code 32 = .ok (.aload_n 0, 1) := by decide +kernel
theorem d_M_reach_33 : decode prog_14_method_69_code 33 = .ok (.getfield 25, 3) := by decide +kernel
theorem d_M_reach_36 : decode prog_14_method_69_code 36 = .ok (.invokestatic 203, 3) := by decide +kernel
theorem d_M_reach_39 : decode prog_14_method_69_code 39 = .ok (.if_icmp .ne 7, 3) := by decide +kernel
theorem d_M_reach_42 : decode prog_14_method_69_code 42 = .ok (.iconst 1, 1) := by decide +kernel
theorem d_M_reach_43 : decode prog_14_method_69_code 43 = .ok (.goto 4, 3) := by decide +kernel
theorem d_M_reach_46 : decode prog_14_method_69_code 46 = .ok (.iconst 0, 1) := by decide +kernel
theorem d_M_reach_47 : decode prog_14_method_69_code 47 = .ok (.iastore, 1) := by decide +kernel
theorem d_M_reach_48 : decode prog_14_method_69_code 48 = .ok (.iinc 1 1, 3) := by decide +kernel
theorem d_M_reach_51 : decode prog_14_method_69_code 51 = .ok (.goto (-32), 3) := by decide +kernel
theorem d_M_reach_54 : decode prog_14_method_69_code 54 = .ok (.iconst 0, 1) := by decide +kernel
theorem d_M_reach_55 : decode prog_14_method_69_code 55 = .ok (.istore_n 1, 1) := by decide +kernel
theorem d_M_reach_56 : decode prog_14_method_69_code 56 = .ok (.iconst 1, 1) := by decide +kernel
theorem d_M_reach_57 : decode prog_14_method_69_code 57 = .ok (.istore_n 2, 1) := by decide +kernel
theorem d_M_reach_58 : decode prog_14_method_69_code 58 = .ok (.iload_n 2, 1) := by decide +kernel
theorem d_M_reach_59 : decode prog_14_method_69_code 59 = .ok (.ifCond .eq 111, 3) := by decide +kernel
theorem d_M_reach_62 : decode prog_14_method_69_code 62 = .ok (.iconst 0, 1) := by decide +kernel
theorem d_M_reach_63 : decode prog_14_method_69_code 63 = .ok (.istore_n 2, 1) := by decide +kernel
theorem d_M_reach_64 : decode prog_14_method_69_code 64 = .ok (.iconst 0, 1) := by decide +kernel
theorem d_M_reach_65 : decode prog_14_method_69_code 65 = .ok (.istore_n 3, 1) := by decide +kernel
theorem d_M_reach_66 : decode prog_14_method_69_code 66 = .ok (.iload_n 3, 1) := by decide +kernel
theorem d_M_reach_67 : decode prog_14_method_69_code 67 = .ok (.sipush 576, 3) := by decide +kernel
theorem d_M_reach_70 : decode prog_14_method_69_code 70 = .ok (.if_icmp .ge 97, 3) := by decide +kernel
theorem d_M_reach_73 : decode prog_14_method_69_code 73 = .ok (.iconst 0, 1) := by decide +kernel
theorem d_M_reach_74 : decode prog_14_method_69_code 74 = .ok (.istore 4, 2) := by decide +kernel
theorem d_M_reach_76 : decode prog_14_method_69_code 76 = .ok (.iload 4, 2) := by decide +kernel
theorem d_M_reach_78 : decode prog_14_method_69_code 78 = .ok (.aload_n 0, 1) := by decide +kernel
theorem d_M_reach_79 : decode prog_14_method_69_code 79 = .ok (.getfield 25, 3) := by decide +kernel
theorem d_M_reach_82 : decode prog_14_method_69_code 82 = .ok (.iconst 4, 1) := by decide +kernel
theorem d_M_reach_83 : decode prog_14_method_69_code 83 = .ok (.iaload, 1) := by decide +kernel
theorem d_M_reach_84 : decode prog_14_method_69_code 84 = .ok (.if_icmp .ge 77, 3) := by decide +kernel
theorem d_M_reach_87 : decode prog_14_method_69_code 87 = .ok (.aload_n 0, 1) := by decide +kernel
theorem d_M_reach_88 : decode prog_14_method_69_code 88 = .ok (.getfield 44, 3) := by decide +kernel
theorem d_M_reach_91 : decode prog_14_method_69_code 91 = .ok (.iload_n 3, 1) := by decide +kernel
theorem d_M_reach_92 : decode prog_14_method_69_code 92 = .ok (.iaload, 1) := by decide +kernel
theorem d_M_reach_93 : decode prog_14_method_69_code 93 = .ok (.iconst 1, 1) := by decide +kernel
theorem d_M_reach_94 : decode prog_14_method_69_code 94 = .ok (.if_icmp .ne 67, 3) := by decide +kernel
theorem d_M_reach_97 : decode prog_14_method_69_code 97 = .ok (.iconst 0, 1) := by decide +kernel
theorem d_M_reach_98 : decode prog_14_method_69_code 98 = .ok (.istore 5, 2) := by decide +kernel
theorem d_M_reach_100 : decode prog_14_method_69_code 100 = .ok (.iload 5, 2) := by decide +kernel
theorem d_M_reach_102 : decode prog_14_method_69_code 102 = .ok (.bipush 8, 2) := by decide +kernel
theorem d_M_reach_104 : decode prog_14_method_69_code 104 = .ok (.if_icmp .ge 51, 3) := by decide +kernel
theorem d_M_reach_107 : decode prog_14_method_69_code 107 = .ok (.aload_n 0, 1) := by decide +kernel
theorem d_M_reach_108 : decode prog_14_method_69_code 108 = .ok (.getfield 25, 3) := by decide +kernel
theorem d_M_reach_111 : decode prog_14_method_69_code 111 = .ok (.iload_n 3, 1) := by decide +kernel
theorem d_M_reach_112 : decode prog_14_method_69_code 112 = .ok (.iload 4, 2) := by decide +kernel
theorem d_M_reach_114 : decode prog_14_method_69_code 114 = .ok (.iload 5, 2) := by decide +kernel
theorem d_M_reach_116 : decode prog_14_method_69_code 116 = .ok (.iconst 0, 1) := by decide +kernel
theorem d_M_reach_117 : decode prog_14_method_69_code 117 = .ok (.invokestatic 208, 3) := by decide +kernel
theorem d_M_reach_120 : decode prog_14_method_69_code 120 = .ok (.istore 6, 2) := by decide +kernel
theorem d_M_reach_122 : decode prog_14_method_69_code 122 = .ok (.iload 6, 2) := by decide +kernel
theorem d_M_reach_124 : decode prog_14_method_69_code 124 = .ok (.ldc 198, 2) := by decide +kernel
theorem d_M_reach_126 : decode prog_14_method_69_code 126 = .ok (.if_icmp .eq 23, 3) := by decide +kernel
theorem d_M_reach_129 : decode prog_14_method_69_code 129 = .ok (.aload_n 0, 1) := by decide +kernel
theorem d_M_reach_130 : decode prog_14_method_69_code 130 = .ok (.getfield 44, 3) := by decide +kernel
theorem d_M_reach_133 : decode prog_14_method_69_code 133 = .ok (.iload 6, 2) := by decide +kernel
theorem d_M_reach_135 : decode prog_14_method_69_code 135 = .ok (.iaload, 1) := by decide +kernel
theorem d_M_reach_136 : decode prog_14_method_69_code 136 = .ok (.ifCond .ne 13, 3) := by decide +kernel
theorem d_M_reach_139 : decode prog_14_method_69_code 139 = .ok (.aload_n 0, 1) := by decide +kernel
theorem d_M_reach_140 : decode prog_14_method_69_code 140 = .ok (.getfield 44, 3) := by decide +kernel
theorem d_M_reach_143 : decode prog_14_method_69_code 143 = .ok (.iload 6, 2) := by decide +kernel
theorem d_M_reach_145 : decode prog_14_method_69_code 145 = .ok (.iconst 1, 1) := by decide +kernel
theorem d_M_reach_146 : decode prog_14_method_69_code 146 = .ok (.iastore, 1) := by decide +kernel
theorem d_M_reach_147 : decode prog_14_method_69_code 147 = .ok (.iconst 1, 1) := by decide +kernel
theorem d_M_reach_148 : decode prog_14_method_69_code 148 = .ok (.istore_n 2, 1) := by decide +kernel
theorem d_M_reach_149 : decode prog_14_method_69_code 149 = .ok (.iinc 5 1, 3) := by decide +kernel
theorem d_M_reach_152 : decode prog_14_method_69_code 152 = .ok (.goto (-52), 3) := by decide +kernel
theorem d_M_reach_155 : decode prog_14_method_69_code 155 = .ok (.iinc 4 1, 3) := by decide +kernel
theorem d_M_reach_158 : decode prog_14_method_69_code 158 = .ok (.goto (-82), 3) := by decide +kernel
theorem d_M_reach_161 : decode prog_14_method_69_code 161 = .ok (.iinc 3 1, 3) := by decide +kernel
theorem d_M_reach_164 : decode prog_14_method_69_code 164 = .ok (.goto (-98), 3) := by decide +kernel
theorem d_M_reach_167 : decode prog_14_method_69_code 167 = .ok (.goto (-109), 3) := by decide +kernel
theorem d_M_reach_170 : decode prog_14_method_69_code 170 = .ok (.iconst 0, 1) := by decide +kernel
theorem d_M_reach_171 : decode prog_14_method_69_code 171 = .ok (.istore_n 3, 1) := by decide +kernel
theorem d_M_reach_172 : decode prog_14_method_69_code 172 = .ok (.iload_n 3, 1) := by decide +kernel
theorem d_M_reach_173 : decode prog_14_method_69_code 173 = .ok (.sipush 576, 3) := by decide +kernel
theorem d_M_reach_176 : decode prog_14_method_69_code 176 = .ok (.if_icmp .ge 32, 3) := by decide +kernel
theorem d_M_reach_179 : decode prog_14_method_69_code 179 = .ok (.iload_n 1, 1) := by decide +kernel
theorem d_M_reach_180 : decode prog_14_method_69_code 180 = .ok (.aload_n 0, 1) := by decide +kernel
theorem d_M_reach_181 : decode prog_14_method_69_code 181 = .ok (.getfield 44, 3) := by decide +kernel
theorem d_M_reach_184 : decode prog_14_method_69_code 184 = .ok (.iload_n 3, 1) := by decide +kernel
theorem d_M_reach_185 : decode prog_14_method_69_code 185 = .ok (.iaload, 1) := by decide +kernel
theorem d_M_reach_186 : decode prog_14_method_69_code 186 = .ok (.iconst 1, 1) := by decide +kernel
theorem d_M_reach_187 : decode prog_14_method_69_code 187 = .ok (.if_icmp .ne 12, 3) := by decide +kernel
theorem d_M_reach_190 : decode prog_14_method_69_code 190 = .ok (.iconst 1, 1) := by decide +kernel
theorem d_M_reach_191 : decode prog_14_method_69_code 191 = .ok (.iload_n 3, 1) := by decide +kernel
theorem d_M_reach_192 : decode prog_14_method_69_code 192 = .ok (.bipush 24, 2) := by decide +kernel
theorem d_M_reach_194 : decode prog_14_method_69_code 194 = .ok (.idiv, 1) := by decide +kernel
theorem d_M_reach_195 : decode prog_14_method_69_code 195 = .ok (.ishl, 1) := by decide +kernel
theorem d_M_reach_196 : decode prog_14_method_69_code 196 = .ok (.goto 4, 3) := by decide +kernel
theorem d_M_reach_199 : decode prog_14_method_69_code 199 = .ok (.iconst 0, 1) := by decide +kernel
theorem d_M_reach_200 : decode prog_14_method_69_code 200 = .ok (.ior, 1) := by decide +kernel
theorem d_M_reach_201 : decode prog_14_method_69_code 201 = .ok (.istore_n 1, 1) := by decide +kernel
theorem d_M_reach_202 : decode prog_14_method_69_code 202 = .ok (.iinc 3 1, 3) := by decide +kernel
theorem d_M_reach_205 : decode prog_14_method_69_code 205 = .ok (.goto (-33), 3) := by decide +kernel
theorem d_M_reach_208 : decode prog_14_method_69_code 208 = .ok (.iload_n 1, 1) := by decide +kernel
theorem d_M_reach_209 : decode prog_14_method_69_code 209 = .ok (.ireturn, 1) := by decide +kernel
theorem d_M_days_0 : decode prog_14_method_70_code 0 = .ok (.aload_n 0, 1) := by decide +kernel
theorem d_M_days_1 : decode prog_14_method_70_code 1 = .ok (.iconst 0, 1) := by decide +kernel
theorem d_M_days_2 : decode prog_14_method_70_code 2 = .ok (.putfield 50, 3) := by decide +kernel
theorem d_M_days_5 : decode prog_14_method_70_code 5 = .ok (.aload_n 0, 1) := by decide +kernel
theorem d_M_days_6 : decode prog_14_method_70_code 6 = .ok (.getfield 25, 3) := by decide +kernel
theorem d_M_days_9 : decode prog_14_method_70_code 9 = .ok (.iconst 0, 1) := by decide +kernel
theorem d_M_days_10 : decode prog_14_method_70_code 10 = .ok (.iaload, 1) := by decide +kernel
theorem d_M_days_11 : decode prog_14_method_70_code 11 = .ok (.ifCond .ne 6, 3) := by decide +kernel
theorem d_M_days_14 : decode prog_14_method_70_code 14 = .ok (.ldc 148, 2) := by decide +kernel
theorem d_M_days_16 : decode prog_14_method_70_code 16 = .ok (.ireturn, 1) := by decide +kernel
theorem d_M_days_17 : decode prog_14_method_70_code 17 = .ok (.iload_n 1, 1) := by decide +kernel
theorem d_M_days_18 : decode prog_14_method_70_code 18 = .ok (.iconst 0, 1) := by decide +kernel
theorem d_M_days_19 : decode prog_14_method_70_code 19 = .ok (.bipush 60, 2) := by decide +kernel
theorem d_M_days_21 : decode prog_14_method_70_code 21 = .ok (.invokestatic 58, 3) := by decide +kernel
theorem d_M_days_24 : decode prog_14_method_70_code 24 = .ok (.ifCond .eq 22, 3) := by decide +kernel
theorem d_M_days_27 : decode prog_14_method_70_code 27 = .ok (.iload_n 2, 1) := by decide +kernel
theorem d_M_days_28 : decode prog_14_method_70_code 28 = .ok (.iconst 1, 1) := by decide +kernel
theorem d_M_days_29 : decode prog_14_method_70_code 29 = .ok (.ldc 242, 2) := by decide +kernel
theorem d_M_days_31 : decode prog_14_method_70_code 31 = .ok (.invokestatic 58, 3) := by decide +kernel
theorem d_M_days_34 : decode prog_14_method_70_code 34 = .ok (.ifCond .eq 12, 3) := by decide +kernel
theorem d_M_days_37 : decode prog_14_method_70_code 37 = .ok (.iload_n 3, 1) := by decide +kernel
theorem d_M_days_38 : decode prog_14_method_70_code 38 = .ok (.iconst 0, 1) := by decide +kernel
theorem d_M_days_39 : decode prog_14_method_70_code 39 = .ok (.iconst 1, 1) := by decide +kernel
theorem d_M_days_40 : decode prog_14_method_70_code 40 = .ok (.invokestatic 58, 3) := by decide +kernel
theorem d_M_days_43 : decode prog_14_method_70_code 43 = .ok (.ifCond .ne 6, 3) := by decide +kernel
theorem d_M_days_46 : decode prog_14_method_70_code 46 = .ok (.ldc 66, 2) := by decide +kernel
theorem d_M_days_48 : decode prog_14_method_70_code 48 = .ok (.ireturn, 1) := by decide +kernel
theorem d_M_days_49 : decode prog_14_method_70_code 49 = .ok (.aload_n 0, 1) := by decide +kernel
theorem d_M_days_50 : decode prog_14_method_70_code 50 = .ok (.getfield 25, 3) := by decide +kernel
theorem d_M_days_53 : decode prog_14_method_70_code 53 = .ok (.aload_n 0, 1) := by decide +kernel
theorem d_M_days_54 : decode prog_14_method_70_code 54 = .ok (.getfield 28, 3) := by decide +kernel
theorem d_M_days_57 : decode prog_14_method_70_code 57 = .ok (.invokestatic 141, 3) := by decide +kernel
theorem d_M_days_60 : decode prog_14_method_70_code 60 = .ok (.iload_n 2, 1) := by decide +kernel
theorem d_M_days_61 : decode prog_14_method_70_code 61 = .ok (.i2l, 1) := by decide +kernel
theorem d_M_days_62 : decode prog_14_method_70_code 62 = .ok (.lstore 4, 2) := by decide +kernel
theorem d_M_days_64 : decode prog_14_method_70_code 64 = .ok (.iconst 0, 1) := by decide +kernel
theorem d_M_days_65 : decode prog_14_method_70_code 65 = .ok (.istore 6, 2) := by decide +kernel
theorem d_M_days_67 : decode prog_14_method_70_code 67 = .ok (.iconst 0, 1) := by decide +kernel
theorem d_M_days_68 : decode prog_14_method_70_code 68 = .ok (.istore 7, 2) := by decide +kernel
theorem d_M_days_70 : decode prog_14_method_70_code 70 = .ok (.iload 7, 2) := by decide +kernel
theorem d_M_days_72 : decode prog_14_method_70_code 72 = .ok (.iload_n 1, 1) := by decide +kernel
theorem d_M_days_73 : decode prog_14_method_70_code 73 = .ok (.if_icmp .ge 95, 3) := by decide +kernel
theorem d_M_days_76 : decode prog_14_method_70_code 76 = .ok (.lload 4, 2) := by decide +kernel
theorem d_M_days_78 : decode prog_14_method_70_code 78 = .ok (.ldc2_w 243, 3) := by decide +kernel
theorem d_M_days_81 : decode prog_14_method_70_code 81 = .ok (.lmul, 1) := by decide +kernel
theorem d_M_days_82 : decode prog_14_method_70_code 82 = .ok (.ldc2_w 245, 3) := by decide +kernel
theorem d_M_days_85 : decode prog_14_method_70_code 85 = .ok (.lrem, 1) := by decide +kernel
theorem d_M_days_86 : decode prog_14_method_70_code 86 = .ok (.lstore 4, 2) := by decide +kernel
theorem d_M_days_88 : decode prog_14_method_70_code 88 = .ok (.aload_n 0, 1) := by decide +kernel
theorem d_M_days_89 : decode prog_14_method_70_code 89 = .ok (.getfield 25, 3) := by decide +kernel
theorem d_M_days_92 : decode prog_14_method_70_code 92 = .ok (.iconst 4, 1) := by decide +kernel
theorem d_M_days_93 : decode prog_14_method_70_code 93 = .ok (.iaload, 1) := by decide +kernel
theorem d_M_days_94 : decode prog_14_method_70_code 94 = .ok (.ifCond .le 50, 3) := by decide +kernel
theorem d_M_days_97 : decode prog_14_method_70_code 97 = .ok (.aload_n 0, 1) := by decide +kernel
theorem d_M_days_98 : decode prog_14_method_70_code 98 = .ok (.getfield 28, 3) := by decide +kernel
theorem d_M_days_101 : decode prog_14_method_70_code 101 = .ok (.lload 4, 2) := by decide +kernel
theorem d_M_days_103 : decode prog_14_method_70_code 103 = .ok (.aload_n 0, 1) := by decide +kernel
theorem d_M_days_104 : decode prog_14_method_70_code 104 = .ok (.getfield 25, 3) := by decide +kernel
theorem d_M_days_107 : decode prog_14_method_70_code 107 = .ok (.iconst 4, 1) := by decide +kernel
theorem d_M_days_108 : decode prog_14_method_70_code 108 = .ok (.iaload, 1) := by decide +kernel
theorem d_M_days_109 : decode prog_14_method_70_code 109 = .ok (.iconst 1, 1) := by decide +kernel
theorem d_M_days_110 : decode prog_14_method_70_code 110 = .ok (.if_icmp .ge 7, 3) := by decide +kernel
theorem d_M_days_113 : decode prog_14_method_70_code 113 = .ok (.iconst 1, 1) := by decide +kernel
theorem d_M_days_114 : decode prog_14_method_70_code 114 = .ok (.goto 9, 3) := by decide +kernel
theorem d_M_days_117 : decode prog_14_method_70_code 117 = .ok (.aload_n 0, 1) := by decide +kernel
theorem d_M_days_118 : decode prog_14_method_70_code 118 = .ok (.getfield 25, 3) := by decide +kernel
theorem d_M_days_121 : decode prog_14_method_70_code 121 = .ok (.iconst 4, 1) := by decide +kernel
theorem d_M_days_122 : decode prog_14_method_70_code 122 = .ok (.iaload, 1) := by decide +kernel
theorem d_M_days_123 : decode prog_14_method_70_code 123 = .ok (.i2l, 1) := by decide +kernel
theorem d_M_days_124 : decode prog_14_method_70_code 124 = .ok (.lrem, 1) := by decide +kernel
theorem d_M_days_125 : decode prog_14_method_70_code 125 = .ok (.l2i, 1) := by decide +kernel
theorem d_M_days_126 : decode prog_14_method_70_code 126 = .ok (.lload 4, 2) := by decide +kernel
theorem d_M_days_128 : decode prog_14_method_70_code 128 = .ok (.ldc2_w 247, 3) := by decide +kernel
theorem d_M_days_131 : decode prog_14_method_70_code 131 = .ok (.lrem, 1) := by decide +kernel
theorem d_M_days_132 : decode prog_14_method_70_code 132 = .ok (.l2i, 1) := by decide +kernel
theorem d_M_days_133 : decode prog_14_method_70_code 133 = .ok (.iconst 0, 1) := by decide +kernel
theorem d_M_days_134 : decode prog_14_method_70_code 134 = .ok (.invokestatic 177, 3) := by decide +kernel
theorem d_M_days_137 : decode prog_14_method_70_code 137 = .ok (.ifCond .eq 7, 3) := by decide +kernel
theorem d_M_days_140 : decode prog_14_method_70_code 140 = .ok (.iconst 1, 1) := by decide +kernel
theorem d_M_days_141 : decode prog_14_method_70_code 141 = .ok (.goto 4, 3) := by decide +kernel
theorem d_M_days_144 : decode prog_14_method_70_code 144 = .ok (.iconst 0, 1) := by decide +kernel
theorem d_M_days_145 : decode prog_14_method_70_code 145 = .ok (.istore 8, 2) := by decide +kernel
theorem d_M_days_147 : decode prog_14_method_70_code 147 = .ok (.iload 6, 2) := by decide +kernel
theorem d_M_days_149 : decode prog_14_method_70_code 149 = .ok (.iload 8, 2) := by decide +kernel
theorem d_M_days_151 : decode prog_14_method_70_code 151 = .ok (.ifCond .eq 7, 3) := by decide +kernel
theorem d_M_days_154 : decode prog_14_method_70_code 154 = .ok (.iconst 1, 1) := by decide +kernel
theorem d_M_days_155 : decode prog_14_method_70_code 155 = .ok (.goto 4, 3) := by decide +kernel
theorem d_M_days_158 : decode prog_14_method_70_code 158 = .ok (.iconst 0, 1) := by decide +kernel
theorem d_M_days_159 : decode prog_14_method_70_code 159 = .ok (.iadd, 1) := by decide +kernel
theorem d_M_days_160 : decode prog_14_method_70_code 160 = .ok (.istore 6, 2) := by decide +kernel
theorem d_M_days_162 : decode prog_14_method_70_code 162 = .ok (.iinc 7 1, 3) := by decide +kernel
theorem d_M_days_165 : decode prog_14_method_70_code 165 = .ok (.goto (-95), 3) := by decide +kernel
theorem d_M_days_168 : decode prog_14_method_70_code 168 = .ok (.iload_n 3, 1) := by decide +kernel
theorem d_M_days_169 : decode prog_14_method_70_code 169 = .ok (.ifCond .ne 24, 3) := by decide +kernel
theorem d_M_days_172 : decode prog_14_method_70_code 172 = .ok (.bipush 10, 2) := by decide +kernel
theorem d_M_days_174 : decode prog_14_method_70_code 174 = .ok (.aload_n 0, 1) := by decide +kernel
theorem d_M_days_175 : decode prog_14_method_70_code 175 = .ok (.getfield 28, 3) := by decide +kernel
theorem d_M_days_178 : decode prog_14_method_70_code 178 = .ok (.bipush 14, 2) := by decide +kernel
theorem d_M_days_180 : decode prog_14_method_70_code 180 = .ok (.iaload, 1) := by decide +kernel
theorem d_M_days_181 : decode prog_14_method_70_code 181 = .ok (.imul, 1) := by decide +kernel
theorem d_M_days_182 : decode prog_14_method_70_code 182 = .ok (.aload_n 0, 1) := by decide +kernel
theorem d_M_days_183 : decode prog_14_method_70_code 183 = .ok (.getfield 28, 3) := by decide +kernel
theorem d_M_days_186 : decode prog_14_method_70_code 186 = .ok (.bipush 15, 2) := by decide +kernel
theorem d_M_days_188 : decode prog_14_method_70_code 188 = .ok (.iaload, 1) := by decide +kernel
theorem d_M_days_189 : decode prog_14_method_70_code 189 = .ok (.iadd, 1) := by decide +kernel
theorem d_M_days_190 : decode prog_14_method_70_code 190 = .ok (.goto 5, 3) := by decide +kernel
theorem d_M_days_193 : decode prog_14_method_70_code 193 = .ok (.iload 6, 2) := by decide +kernel
theorem d_M_days_195 : decode prog_14_method_70_code 195 = .ok (.ireturn, 1) := by decide +kernel
theorem d_M_image_0 : decode prog_14_method_71_code 0 = .ok (.aload_n 0, 1) := by decide +kernel
theorem d_M_image_1 : decode prog_14_method_71_code 1 = .ok (.iconst 0, 1) := by decide +kernel
theorem d_M_image_2 : decode prog_14_method_71_code 2 = .ok (.putfield 50, 3) := by decide +kernel
theorem d_M_image_5 : decode prog_14_method_71_code 5 = .ok (.iload_n 1, 1) := by decide +kernel
theorem d_M_image_6 : decode prog_14_method_71_code 6 = .ok (.iconst 0, 1) := by decide +kernel
theorem d_M_image_7 : decode prog_14_method_71_code 7 = .ok (.iconst 1, 1) := by decide +kernel
theorem d_M_image_8 : decode prog_14_method_71_code 8 = .ok (.invokestatic 58, 3) := by decide +kernel
theorem d_M_image_11 : decode prog_14_method_71_code 11 = .ok (.ifCond .ne 6, 3) := by decide +kernel
theorem d_M_image_14 : decode prog_14_method_71_code 14 = .ok (.ldc 66, 2) := by decide +kernel
theorem d_M_image_16 : decode prog_14_method_71_code 16 = .ok (.ireturn, 1) := by decide +kernel
theorem d_M_image_17 : decode prog_14_method_71_code 17 = .ok (.aload_n 0, 1) := by decide +kernel
theorem d_M_image_18 : decode prog_14_method_71_code 18 = .ok (.getfield 25, 3) := by decide +kernel
theorem d_M_image_21 : decode prog_14_method_71_code 21 = .ok (.iconst 0, 1) := by decide +kernel
theorem d_M_image_22 : decode prog_14_method_71_code 22 = .ok (.iaload, 1) := by decide +kernel
theorem d_M_image_23 : decode prog_14_method_71_code 23 = .ok (.ifCond .ne 6, 3) := by decide +kernel
theorem d_M_image_26 : decode prog_14_method_71_code 26 = .ok (.ldc 148, 2) := by decide +kernel
theorem d_M_image_28 : decode prog_14_method_71_code 28 = .ok (.ireturn, 1) := by decide +kernel
theorem d_M_image_29 : decode prog_14_method_71_code 29 = .ok (.iconst 0, 1) := by decide +kernel
theorem d_M_image_30 : decode prog_14_method_71_code 30 = .ok (.istore_n 2, 1) := by decide +kernel
theorem d_M_image_31 : decode prog_14_method_71_code 31 = .ok (.iload_n 2, 1) := by decide +kernel
theorem d_M_image_32 : decode prog_14_method_71_code 32 = .ok (.bipush 42, 2) := by decide +kernel
theorem d_M_image_34 : decode prog_14_method_71_code 34 = .ok (.if_icmp .ge 26, 3) := by decide +kernel
theorem d_M_image_37 : decode prog_14_method_71_code 37 = .ok (.aload_n 0, 1) := by decide +kernel
theorem d_M_image_38 : decode prog_14_method_71_code 38 = .ok (.getfield 34, 3) := by decide +kernel
theorem d_M_image_41 : decode prog_14_method_71_code 41 = .ok (.bipush 42, 2) := by decide +kernel
theorem d_M_image_43 : decode prog_14_method_71_code 43 = .ok (.iload_n 1, 1) := by decide +kernel
theorem d_M_image_44 : decode prog_14_method_71_code 44 = .ok (.imul, 1) := by decide +kernel
theorem d_M_image_45 : decode prog_14_method_71_code 45 = .ok (.iload_n 2, 1) := by decide +kernel
theorem d_M_image_46 : decode prog_14_method_71_code 46 = .ok (.iadd, 1) := by decide +kernel
theorem d_M_image_47 : decode prog_14_method_71_code 47 = .ok (.aload_n 0, 1) := by decide +kernel
theorem d_M_image_48 : decode prog_14_method_71_code 48 = .ok (.getfield 25, 3) := by decide +kernel
theorem d_M_image_51 : decode prog_14_method_71_code 51 = .ok (.iload_n 2, 1) := by decide +kernel
theorem d_M_image_52 : decode prog_14_method_71_code 52 = .ok (.iaload, 1) := by decide +kernel
theorem d_M_image_53 : decode prog_14_method_71_code 53 = .ok (.iastore, 1) := by decide +kernel
theorem d_M_image_54 : decode prog_14_method_71_code 54 = .ok (.iinc 2 1, 3) := by decide +kernel
theorem d_M_image_57 : decode prog_14_method_71_code 57 = .ok (.goto (-26), 3) := by decide +kernel
theorem d_M_image_60 : decode prog_14_method_71_code 60 = .ok (.aload_n 0, 1) := by decide +kernel
theorem d_M_image_61 : decode prog_14_method_71_code 61 = .ok (.getfield 37, 3) := by decide +kernel
theorem d_M_image_64 : decode prog_14_method_71_code 64 = .ok (.iload_n 1, 1) := by decide +kernel
theorem d_M_image_65 : decode prog_14_method_71_code 65 = .ok (.iconst 1, 1) := by decide +kernel
theorem d_M_image_66 : decode prog_14_method_71_code 66 = .ok (.bastore, 1) := by decide +kernel
theorem d_M_image_67 : decode prog_14_method_71_code 67 = .ok (.iconst 1, 1) := by decide +kernel
theorem d_M_image_68 : decode prog_14_method_71_code 68 = .ok (.ireturn, 1) := by decide +kernel
theorem d_M_restore_0 : decode prog_14_method_72_code 0 = .ok (.aload_n 0, 1) := by decide +kernel
theorem d_M_restore_1 : decode prog_14_method_72_code 1 = .ok (.iconst 0, 1) := by decide +kernel
theorem d_M_restore_2 : decode prog_14_method_72_code 2 = .ok (.putfield 50, 3) := by decide +kernel
theorem d_M_restore_5 : decode prog_14_method_72_code 5 = .ok (.iload_n 1, 1) := by decide +kernel
theorem d_M_restore_6 : decode prog_14_method_72_code 6 = .ok (.iconst 0, 1) := by decide +kernel
theorem d_M_restore_7 : decode prog_14_method_72_code 7 = .ok (.iconst 1, 1) := by decide +kernel
theorem d_M_restore_8 : decode prog_14_method_72_code 8 = .ok (.invokestatic 58, 3) := by decide +kernel
theorem d_M_restore_11 : decode prog_14_method_72_code 11 = .ok (.ifCond .ne 6, 3) := by decide +kernel
theorem d_M_restore_14 : decode prog_14_method_72_code 14 = .ok (.ldc 66, 2) := by decide +kernel
theorem d_M_restore_16 : decode prog_14_method_72_code 16 = .ok (.ireturn, 1) := by decide +kernel
theorem d_M_restore_17 : decode prog_14_method_72_code 17 = .ok (.aload_n 0, 1) := by decide +kernel
theorem d_M_restore_18 : decode prog_14_method_72_code 18 = .ok (.getfield 37, 3) := by decide +kernel
theorem d_M_restore_21 : decode prog_14_method_72_code 21 = .ok (.iload_n 1, 1) := by decide +kernel
theorem d_M_restore_22 : decode prog_14_method_72_code 22 = .ok (.baload, 1) := by decide +kernel
theorem d_M_restore_23 : decode prog_14_method_72_code 23 = .ok (.ifCond .ne 6, 3) := by decide +kernel
theorem d_M_restore_26 : decode prog_14_method_72_code 26 = .ok (.ldc 148, 2) := by decide +kernel
theorem d_M_restore_28 : decode prog_14_method_72_code 28 = .ok (.ireturn, 1) := by decide +kernel
theorem d_M_restore_29 : decode prog_14_method_72_code 29 = .ok (.iconst 0, 1) := by decide +kernel
theorem d_M_restore_30 : decode prog_14_method_72_code 30 = .ok (.istore_n 2, 1) := by decide +kernel
theorem d_M_restore_31 : decode prog_14_method_72_code 31 = .ok (.iload_n 2, 1) := by decide +kernel
theorem d_M_restore_32 : decode prog_14_method_72_code 32 = .ok (.bipush 42, 2) := by decide +kernel
theorem d_M_restore_34 : decode prog_14_method_72_code 34 = .ok (.if_icmp .ge 26, 3) := by decide +kernel
theorem d_M_restore_37 : decode prog_14_method_72_code 37 = .ok (.aload_n 0, 1) := by decide +kernel
theorem d_M_restore_38 : decode prog_14_method_72_code 38 = .ok (.getfield 25, 3) := by decide +kernel
theorem d_M_restore_41 : decode prog_14_method_72_code 41 = .ok (.iload_n 2, 1) := by decide +kernel
theorem d_M_restore_42 : decode prog_14_method_72_code 42 = .ok (.aload_n 0, 1) := by decide +kernel
theorem d_M_restore_43 : decode prog_14_method_72_code 43 = .ok (.getfield 34, 3) := by decide +kernel
theorem d_M_restore_46 : decode prog_14_method_72_code 46 = .ok (.bipush 42, 2) := by decide +kernel
theorem d_M_restore_48 : decode prog_14_method_72_code 48 = .ok (.iload_n 1, 1) := by decide +kernel
theorem d_M_restore_49 : decode prog_14_method_72_code 49 = .ok (.imul, 1) := by decide +kernel
theorem d_M_restore_50 : decode prog_14_method_72_code 50 = .ok (.iload_n 2, 1) := by decide +kernel
theorem d_M_restore_51 : decode prog_14_method_72_code 51 = .ok (.iadd, 1) := by decide +kernel
theorem d_M_restore_52 : decode prog_14_method_72_code 52 = .ok (.iaload, 1) := by decide +kernel
theorem d_M_restore_53 : decode prog_14_method_72_code 53 = .ok (.iastore, 1) := by decide +kernel
theorem d_M_restore_54 : decode prog_14_method_72_code 54 = .ok (.iinc 2 1, 3) := by decide +kernel
theorem d_M_restore_57 : decode prog_14_method_72_code 57 = .ok (.goto (-26), 3) := by decide +kernel
theorem d_M_restore_60 : decode prog_14_method_72_code 60 = .ok (.aload_n 0, 1) := by decide +kernel
theorem d_M_restore_61 : decode prog_14_method_72_code 61 = .ok (.iconst 0, 1) := by decide +kernel
theorem d_M_restore_62 : decode prog_14_method_72_code 62 = .ok (.putfield 145, 3) := by decide +kernel
theorem d_M_restore_65 : decode prog_14_method_72_code 65 = .ok (.iconst 1, 1) := by decide +kernel
theorem d_M_restore_66 : decode prog_14_method_72_code 66 = .ok (.ireturn, 1) := by decide +kernel
theorem d_M_kind_0 : decode prog_14_method_73_code 0 = .ok (.aload_n 0, 1) := by decide +kernel
theorem d_M_kind_1 : decode prog_14_method_73_code 1 = .ok (.iconst 0, 1) := by decide +kernel
theorem d_M_kind_2 : decode prog_14_method_73_code 2 = .ok (.putfield 50, 3) := by decide +kernel
theorem d_M_kind_5 : decode prog_14_method_73_code 5 = .ok (.aload_n 0, 1) := by decide +kernel
theorem d_M_kind_6 : decode prog_14_method_73_code 6 = .ok (.iload_n 1, 1) := by decide +kernel
theorem d_M_kind_7 : decode prog_14_method_73_code 7 = .ok (.invokevirtual 174, 3) := by decide +kernel
theorem d_M_kind_10 : decode prog_14_method_73_code 10 = .ok (.ifCond .eq 14, 3) := by decide +kernel
theorem d_M_kind_13 : decode prog_14_method_73_code 13 = .ok (.aload_n 0, 1) := by decide +kernel
theorem d_M_kind_14 : decode prog_14_method_73_code 14 = .ok (.getfield 25, 3) := by decide +kernel
theorem d_M_kind_17 : decode prog_14_method_73_code 17 = .ok (.iconst 5, 1) := by decide +kernel
theorem d_M_kind_18 : decode prog_14_method_73_code 18 = .ok (.iload_n 1, 1) := by decide +kernel
theorem d_M_kind_19 : decode prog_14_method_73_code 19 = .ok (.iadd, 1) := by decide +kernel
theorem d_M_kind_20 : decode prog_14_method_73_code 20 = .ok (.iaload, 1) := by decide +kernel
theorem d_M_kind_21 : decode prog_14_method_73_code 21 = .ok (.goto 5, 3) := by decide +kernel
theorem d_M_kind_24 : decode prog_14_method_73_code 24 = .ok (.ldc 66, 2) := by decide +kernel
theorem d_M_kind_26 : decode prog_14_method_73_code 26 = .ok (.ireturn, 1) := by decide +kernel
theorem d_M_as_0 : decode prog_14_method_74_code 0 = .ok (.aload_n 0, 1) := by decide +kernel
theorem d_M_as_1 : decode prog_14_method_74_code 1 = .ok (.iconst 0, 1) := by decide +kernel
theorem d_M_as_2 : decode prog_14_method_74_code 2 = .ok (.putfield 50, 3) := by decide +kernel
theorem d_M_as_5 : decode prog_14_method_74_code 5 = .ok (.aload_n 0, 1) := by decide +kernel
theorem d_M_as_6 : decode prog_14_method_74_code 6 = .ok (.iload_n 1, 1) := by decide +kernel
theorem d_M_as_7 : decode prog_14_method_74_code 7 = .ok (.invokevirtual 174, 3) := by decide +kernel
theorem d_M_as_10 : decode prog_14_method_74_code 10 = .ok (.ifCond .eq 12, 3) := by decide +kernel
theorem d_M_as_13 : decode prog_14_method_74_code 13 = .ok (.iload_n 2, 1) := by decide +kernel
theorem d_M_as_14 : decode prog_14_method_74_code 14 = .ok (.iconst 0, 1) := by decide +kernel
theorem d_M_as_15 : decode prog_14_method_74_code 15 = .ok (.iconst 5, 1) := by decide +kernel
theorem d_M_as_16 : decode prog_14_method_74_code 16 = .ok (.invokestatic 58, 3) := by decide +kernel
theorem d_M_as_19 : decode prog_14_method_74_code 19 = .ok (.ifCond .ne 6, 3) := by decide +kernel
theorem d_M_as_22 : decode prog_14_method_74_code 22 = .ok (.ldc 66, 2) := by decide +kernel
theorem d_M_as_24 : decode prog_14_method_74_code 24 = .ok (.ireturn, 1) := by decide +kernel
theorem d_M_as_25 : decode prog_14_method_74_code 25 = .ok (.aload_n 0, 1) := by decide +kernel
theorem d_M_as_26 : decode prog_14_method_74_code 26 = .ok (.getfield 25, 3) := by decide +kernel
theorem d_M_as_29 : decode prog_14_method_74_code 29 = .ok (.iconst 5, 1) := by decide +kernel
theorem d_M_as_30 : decode prog_14_method_74_code 30 = .ok (.iload_n 1, 1) := by decide +kernel
theorem d_M_as_31 : decode prog_14_method_74_code 31 = .ok (.iadd, 1) := by decide +kernel
theorem d_M_as_32 : decode prog_14_method_74_code 32 = .ok (.iaload, 1) := by decide +kernel
theorem d_M_as_33 : decode prog_14_method_74_code 33 = .ok (.istore_n 3, 1) := by decide +kernel
theorem d_M_as_34 : decode prog_14_method_74_code 34 = .ok (.iload_n 2, 1) := by decide +kernel
theorem d_M_as_35 : decode prog_14_method_74_code 35 = .ok (.ifCond .eq 28, 3) := by decide +kernel
theorem d_M_as_38 : decode prog_14_method_74_code 38 = .ok (.iload_n 2, 1) := by decide +kernel
theorem d_M_as_39 : decode prog_14_method_74_code 39 = .ok (.iload_n 3, 1) := by decide +kernel
theorem d_M_as_40 : decode prog_14_method_74_code 40 = .ok (.if_icmp .eq 23, 3) := by decide +kernel
theorem d_M_as_43 : decode prog_14_method_74_code 43 = .ok (.iload_n 2, 1) := by decide +kernel
theorem d_M_as_44 : decode prog_14_method_74_code 44 = .ok (.iconst 1, 1) := by decide +kernel
theorem d_M_as_45 : decode prog_14_method_74_code 45 = .ok (.if_icmp .ne 8, 3) := by decide +kernel
theorem d_M_as_48 : decode prog_14_method_74_code 48 = .ok (.iload_n 3, 1) := by decide +kernel
theorem d_M_as_49 : decode prog_14_method_74_code 49 = .ok (.iconst 4, 1) := by decide +kernel
theorem d_M_as_50 : decode prog_14_method_74_code 50 = .ok (.if_icmp .lt 13, 3) := by decide +kernel
theorem d_M_as_53 : decode prog_14_method_74_code 53 = .ok (.iload_n 2, 1) := by decide +kernel
theorem d_M_as_54 : decode prog_14_method_74_code 54 = .ok (.iconst 4, 1) := by decide +kernel
theorem d_M_as_55 : decode prog_14_method_74_code 55 = .ok (.if_icmp .ne 12, 3) := by decide +kernel
theorem d_M_as_58 : decode prog_14_method_74_code 58 = .ok (.iload_n 3, 1) := by decide +kernel
theorem d_M_as_59 : decode prog_14_method_74_code 59 = .ok (.iconst 5, 1) := by decide +kernel
theorem d_M_as_60 : decode prog_14_method_74_code 60 = .ok (.if_icmp .ne 7, 3) := by decide +kernel
theorem d_M_as_63 : decode prog_14_method_74_code 63 = .ok (.iconst 1, 1) := by decide +kernel
theorem d_M_as_64 : decode prog_14_method_74_code 64 = .ok (.goto 4, 3) := by decide +kernel
theorem d_M_as_67 : decode prog_14_method_74_code 67 = .ok (.iconst 0, 1) := by decide +kernel
theorem d_M_as_68 : decode prog_14_method_74_code 68 = .ok (.istore 4, 2) := by decide +kernel
theorem d_M_as_70 : decode prog_14_method_74_code 70 = .ok (.iload 4, 2) := by decide +kernel
theorem d_M_as_72 : decode prog_14_method_74_code 72 = .ok (.ifCond .eq 11, 3) := by decide +kernel
theorem d_M_as_75 : decode prog_14_method_74_code 75 = .ok (.aload_n 0, 1) := by decide +kernel
theorem d_M_as_76 : decode prog_14_method_74_code 76 = .ok (.iload_n 1, 1) := by decide +kernel
theorem d_M_as_77 : decode prog_14_method_74_code 77 = .ok (.invokevirtual 71, 3) := by decide +kernel
theorem d_M_as_80 : decode prog_14_method_74_code 80 = .ok (.goto 8, 3) := by decide +kernel
theorem d_M_as_83 : decode prog_14_method_74_code 83 = .ok (.aload_n 0, 1) := by decide +kernel
theorem d_M_as_84 : decode prog_14_method_74_code 84 = .ok (.iconst 3, 1) := by decide +kernel
theorem d_M_as_85 : decode prog_14_method_74_code 85 = .ok (.invokevirtual 67, 3) := by decide +kernel
theorem d_M_as_88 : decode prog_14_method_74_code 88 = .ok (.ireturn, 1) := by decide +kernel
theorem d_M_leaves_0 : decode prog_14_method_75_code 0 = .ok (.aload_n 0, 1) := by decide +kernel
theorem d_M_leaves_1 : decode prog_14_method_75_code 1 = .ok (.getfield 249, 3) := by decide +kernel
theorem d_M_leaves_4 : decode prog_14_method_75_code 4 = .ok (.bipush 16, 2) := by decide +kernel
theorem d_M_leaves_6 : decode prog_14_method_75_code 6 = .ok (.if_icmp .ge 23, 3) := by decide +kernel
theorem d_M_leaves_9 : decode prog_14_method_75_code 9 = .ok (.aload_n 0, 1) := by decide +kernel
theorem d_M_leaves_10 : decode prog_14_method_75_code 10 = .ok (.getfield 41, 3) := by decide +kernel
theorem d_M_leaves_13 : decode prog_14_method_75_code 13 = .ok (.aload_n 0, 1) := by decide +kernel
theorem d_M_leaves_14 : decode prog_14_method_75_code 14 = .ok (.getfield 249, 3) := by decide +kernel
theorem d_M_leaves_17 : decode prog_14_method_75_code 17 = .ok (.iload_n 1, 1) := by decide +kernel
theorem d_M_leaves_18 : decode prog_14_method_75_code 18 = .ok (.iastore, 1) := by decide +kernel
theorem d_M_leaves_19 : decode prog_14_method_75_code 19 = .ok (.aload_n 0, 1) := by decide +kernel
theorem d_M_leaves_20 : decode prog_14_method_75_code 20 = .ok (.dup, 1) := by decide +kernel
theorem d_M_leaves_21 : decode prog_14_method_75_code 21 = .ok (.getfield 249, 3) := by decide +kernel
theorem d_M_leaves_24 : decode prog_14_method_75_code 24 = .ok (.iconst 1, 1) := by decide +kernel
theorem d_M_leaves_25 : decode prog_14_method_75_code 25 = .ok (.iadd, 1) := by decide +kernel
theorem d_M_leaves_26 : decode prog_14_method_75_code 26 = .ok (.putfield 249, 3) := by decide +kernel
theorem d_M_leaves_29 : decode prog_14_method_75_code 29 = .ok (.return_, 1) := by decide +kernel
theorem d_M_plainMark_0 : decode prog_14_method_76_code 0 = .ok (.aload_n 0, 1) := by decide +kernel
theorem d_M_plainMark_1 : decode prog_14_method_76_code 1 = .ok (.getfield 25, 3) := by decide +kernel
theorem d_M_plainMark_4 : decode prog_14_method_76_code 4 = .ok (.iconst 5, 1) := by decide +kernel
theorem d_M_plainMark_5 : decode prog_14_method_76_code 5 = .ok (.iload_n 1, 1) := by decide +kernel
theorem d_M_plainMark_6 : decode prog_14_method_76_code 6 = .ok (.iadd, 1) := by decide +kernel
theorem d_M_plainMark_7 : decode prog_14_method_76_code 7 = .ok (.iaload, 1) := by decide +kernel
theorem d_M_plainMark_8 : decode prog_14_method_76_code 8 = .ok (.istore_n 2, 1) := by decide +kernel
theorem d_M_plainMark_9 : decode prog_14_method_76_code 9 = .ok (.iload_n 2, 1) := by decide +kernel
theorem d_M_plainMark_10 : decode prog_14_method_76_code 10 = .ok (.iconst 2, 1) := by decide +kernel
theorem d_M_plainMark_11 : decode prog_14_method_76_code 11 = .ok (.if_icmp .ne 9, 3) := by decide +kernel
theorem d_M_plainMark_14 : decode prog_14_method_76_code 14 = .ok (.aload_n 0, 1) := by decide +kernel
theorem d_M_plainMark_15 : decode prog_14_method_76_code 15 = .ok (.bipush 24, 2) := by decide +kernel
theorem d_M_plainMark_17 : decode prog_14_method_76_code 17 = .ok (.invokevirtual 252, 3) := by decide +kernel
theorem d_M_plainMark_20 : decode prog_14_method_76_code 20 = .ok (.iload_n 2, 1) := by decide +kernel
theorem d_M_plainMark_21 : decode prog_14_method_76_code 21 = .ok (.iconst 3, 1) := by decide +kernel
theorem d_M_plainMark_22 : decode prog_14_method_76_code 22 = .ok (.if_icmp .ne 9, 3) := by decide +kernel
theorem d_M_plainMark_25 : decode prog_14_method_76_code 25 = .ok (.aload_n 0, 1) := by decide +kernel
theorem d_M_plainMark_26 : decode prog_14_method_76_code 26 = .ok (.bipush 22, 2) := by decide +kernel
theorem d_M_plainMark_28 : decode prog_14_method_76_code 28 = .ok (.invokevirtual 252, 3) := by decide +kernel
theorem d_M_plainMark_31 : decode prog_14_method_76_code 31 = .ok (.aload_n 0, 1) := by decide +kernel
theorem d_M_plainMark_32 : decode prog_14_method_76_code 32 = .ok (.bipush 21, 2) := by decide +kernel
theorem d_M_plainMark_34 : decode prog_14_method_76_code 34 = .ok (.invokevirtual 252, 3) := by decide +kernel
theorem d_M_plainMark_37 : decode prog_14_method_76_code 37 = .ok (.aload_n 0, 1) := by decide +kernel
theorem d_M_plainMark_38 : decode prog_14_method_76_code 38 = .ok (.bipush 20, 2) := by decide +kernel
theorem d_M_plainMark_40 : decode prog_14_method_76_code 40 = .ok (.invokevirtual 252, 3) := by decide +kernel
theorem d_M_plainMark_43 : decode prog_14_method_76_code 43 = .ok (.iload_n 1, 1) := by decide +kernel
theorem d_M_plainMark_44 : decode prog_14_method_76_code 44 = .ok (.aload_n 0, 1) := by decide +kernel
theorem d_M_plainMark_45 : decode prog_14_method_76_code 45 = .ok (.getfield 25, 3) := by decide +kernel
theorem d_M_plainMark_48 : decode prog_14_method_76_code 48 = .ok (.bipush 15, 2) := by decide +kernel
theorem d_M_plainMark_50 : decode prog_14_method_76_code 50 = .ok (.iaload, 1) := by decide +kernel
theorem d_M_plainMark_51 : decode prog_14_method_76_code 51 = .ok (.iadd, 1) := by decide +kernel
theorem d_M_plainMark_52 : decode prog_14_method_76_code 52 = .ok (.istore_n 3, 1) := by decide +kernel
theorem d_M_plainMark_53 : decode prog_14_method_76_code 53 = .ok (.iload_n 2, 1) := by decide +kernel
theorem d_M_plainMark_54 : decode prog_14_method_76_code 54 = .ok (.iconst 2, 1) := by decide +kernel
theorem d_M_plainMark_55 : decode prog_14_method_76_code 55 = .ok (.if_icmp .ne 9, 3) := by decide +kernel
theorem d_M_plainMark_58 : decode prog_14_method_76_code 58 = .ok (.iconst 2, 1) := by decide +kernel
theorem d_M_plainMark_59 : decode prog_14_method_76_code 59 = .ok (.iload_n 3, 1) := by decide +kernel
theorem d_M_plainMark_60 : decode prog_14_method_76_code 60 = .ok (.imul, 1) := by decide +kernel
theorem d_M_plainMark_61 : decode prog_14_method_76_code 61 = .ok (.goto 17, 3) := by decide +kernel
theorem d_M_plainMark_64 : decode prog_14_method_76_code 64 = .ok (.iload_n 2, 1) := by decide +kernel
theorem d_M_plainMark_65 : decode prog_14_method_76_code 65 = .ok (.iconst 3, 1) := by decide +kernel
theorem d_M_plainMark_66 : decode prog_14_method_76_code 66 = .ok (.if_icmp .ne 11, 3) := by decide +kernel
theorem d_M_plainMark_69 : decode prog_14_method_76_code 69 = .ok (.iload_n 3, 1) := by decide +kernel
theorem d_M_plainMark_70 : decode prog_14_method_76_code 70 = .ok (.sipush 1000, 3) := by decide +kernel
theorem d_M_plainMark_73 : decode prog_14_method_76_code 73 = .ok (.isub, 1) := by decide +kernel
theorem d_M_plainMark_74 : decode prog_14_method_76_code 74 = .ok (.goto 4, 3) := by decide +kernel
theorem d_M_plainMark_77 : decode prog_14_method_76_code 77 = .ok (.iload_n 3, 1) := by decide +kernel
theorem d_M_plainMark_78 : decode prog_14_method_76_code 78 = .ok (.ireturn, 1) := by decide +kernel
theorem d_M_sizeOf_0 : decode prog_14_method_77_code 0 = .ok (.aload_n 0, 1) := by decide +kernel
theorem d_M_sizeOf_1 : decode prog_14_method_77_code 1 = .ok (.getfield 25, 3) := by decide +kernel
theorem d_M_sizeOf_4 : decode prog_14_method_77_code 4 = .ok (.iconst 5, 1) := by decide +kernel
theorem d_M_sizeOf_5 : decode prog_14_method_77_code 5 = .ok (.iload_n 1, 1) := by decide +kernel
theorem d_M_sizeOf_6 : decode prog_14_method_77_code 6 = .ok (.iadd, 1) := by decide +kernel
theorem d_M_sizeOf_7 : decode prog_14_method_77_code 7 = .ok (.iaload, 1) := by decide +kernel
theorem d_M_sizeOf_8 : decode prog_14_method_77_code 8 = .ok (.istore_n 2, 1) := by decide +kernel
theorem d_M_sizeOf_9 : decode prog_14_method_77_code 9 = .ok (.iload_n 2, 1) := by decide +kernel
theorem d_M_sizeOf_10 : decode prog_14_method_77_code 10 = .ok (.iconst 5, 1) := by decide +kernel
theorem d_M_sizeOf_11 : decode prog_14_method_77_code 11 = .ok (.if_icmp .ne 9, 3) := by decide +kernel
theorem d_M_sizeOf_14 : decode prog_14_method_77_code 14 = .ok (.aload_n 0, 1) := by decide +kernel
theorem d_M_sizeOf_15 : decode prog_14_method_77_code 15 = .ok (.bipush 14, 2) := by decide +kernel
theorem d_M_sizeOf_17 : decode prog_14_method_77_code 17 = .ok (.invokevirtual 252, 3) := by decide +kernel
theorem d_M_sizeOf_20 : decode prog_14_method_77_code 20 = .ok (.iload_n 2, 1) := by decide +kernel
theorem d_M_sizeOf_21 : decode prog_14_method_77_code 21 = .ok (.iconst 4, 1) := by decide +kernel
theorem d_M_sizeOf_22 : decode prog_14_method_77_code 22 = .ok (.if_icmp .lt 41, 3) := by decide +kernel
theorem d_M_sizeOf_25 : decode prog_14_method_77_code 25 = .ok (.aload_n 0, 1) := by decide +kernel
theorem d_M_sizeOf_26 : decode prog_14_method_77_code 26 = .ok (.bipush 13, 2) := by decide +kernel
theorem d_M_sizeOf_28 : decode prog_14_method_77_code 28 = .ok (.invokevirtual 252, 3) := by decide +kernel
theorem d_M_sizeOf_31 : decode prog_14_method_77_code 31 = .ok (.aload_n 0, 1) := by decide +kernel
theorem d_M_sizeOf_32 : decode prog_14_method_77_code 32 = .ok (.bipush 10, 2) := by decide +kernel
theorem d_M_sizeOf_34 : decode prog_14_method_77_code 34 = .ok (.invokevirtual 252, 3) := by decide +kernel
theorem d_M_sizeOf_37 : decode prog_14_method_77_code 37 = .ok (.aload_n 0, 1) := by decide +kernel
theorem d_M_sizeOf_38 : decode prog_14_method_77_code 38 = .ok (.getfield 25, 3) := by decide +kernel
theorem d_M_sizeOf_41 : decode prog_14_method_77_code 41 = .ok (.bipush 9, 2) := by decide +kernel
theorem d_M_sizeOf_43 : decode prog_14_method_77_code 43 = .ok (.iload_n 1, 1) := by decide +kernel
theorem d_M_sizeOf_44 : decode prog_14_method_77_code 44 = .ok (.iadd, 1) := by decide +kernel
theorem d_M_sizeOf_45 : decode prog_14_method_77_code 45 = .ok (.iaload, 1) := by decide +kernel
theorem d_M_sizeOf_46 : decode prog_14_method_77_code 46 = .ok (.bipush 100, 2) := by decide +kernel
theorem d_M_sizeOf_48 : decode prog_14_method_77_code 48 = .ok (.isub, 1) := by decide +kernel
theorem d_M_sizeOf_49 : decode prog_14_method_77_code 49 = .ok (.istore_n 3, 1) := by decide +kernel
theorem d_M_sizeOf_50 : decode prog_14_method_77_code 50 = .ok (.iload_n 2, 1) := by decide +kernel
theorem d_M_sizeOf_51 : decode prog_14_method_77_code 51 = .ok (.iconst 5, 1) := by decide +kernel
theorem d_M_sizeOf_52 : decode prog_14_method_77_code 52 = .ok (.if_icmp .ne 9, 3) := by decide +kernel
theorem d_M_sizeOf_55 : decode prog_14_method_77_code 55 = .ok (.iconst 2, 1) := by decide +kernel
theorem d_M_sizeOf_56 : decode prog_14_method_77_code 56 = .ok (.iload_n 3, 1) := by decide +kernel
theorem d_M_sizeOf_57 : decode prog_14_method_77_code 57 = .ok (.imul, 1) := by decide +kernel
theorem d_M_sizeOf_58 : decode prog_14_method_77_code 58 = .ok (.goto 4, 3) := by decide +kernel
theorem d_M_sizeOf_61 : decode prog_14_method_77_code 61 = .ok (.iload_n 3, 1) := by decide +kernel
theorem d_M_sizeOf_62 : decode prog_14_method_77_code 62 = .ok (.ireturn, 1) := by decide +kernel
theorem d_M_sizeOf_63 : decode prog_14_method_77_code 63 = .ok (.iload_n 2, 1) := by decide +kernel
theorem d_M_sizeOf_64 : decode prog_14_method_77_code 64 = .ok (.iconst 2, 1) := by decide +kernel
theorem d_M_sizeOf_65 : decode prog_14_method_77_code 65 = .ok (.if_icmp .ne 9, 3) := by decide +kernel
theorem d_M_sizeOf_68 : decode prog_14_method_77_code 68 = .ok (.aload_n 0, 1) := by decide +kernel
theorem d_M_sizeOf_69 : decode prog_14_method_77_code 69 = .ok (.bipush 12, 2) := by decide +kernel
theorem d_M_sizeOf_71 : decode prog_14_method_77_code 71 = .ok (.invokevirtual 252, 3) := by decide +kernel
theorem d_M_sizeOf_74 : decode prog_14_method_77_code 74 = .ok (.aload_n 0, 1) := by decide +kernel
theorem d_M_sizeOf_75 : decode prog_14_method_77_code 75 = .ok (.bipush 11, 2) := by decide +kernel
theorem d_M_sizeOf_77 : decode prog_14_method_77_code 77 = .ok (.invokevirtual 252, 3) := by decide +kernel
theorem d_M_sizeOf_80 : decode prog_14_method_77_code 80 = .ok (.aload_n 0, 1) := by decide +kernel
theorem d_M_sizeOf_81 : decode prog_14_method_77_code 81 = .ok (.bipush 10, 2) := by decide +kernel
theorem d_M_sizeOf_83 : decode prog_14_method_77_code 83 = .ok (.invokevirtual 252, 3) := by decide +kernel
theorem d_M_sizeOf_86 : decode prog_14_method_77_code 86 = .ok (.aload_n 0, 1) := by decide +kernel
theorem d_M_sizeOf_87 : decode prog_14_method_77_code 87 = .ok (.getfield 25, 3) := by decide +kernel
theorem d_M_sizeOf_90 : decode prog_14_method_77_code 90 = .ok (.bipush 9, 2) := by decide +kernel
theorem d_M_sizeOf_92 : decode prog_14_method_77_code 92 = .ok (.iload_n 1, 1) := by decide +kernel
theorem d_M_sizeOf_93 : decode prog_14_method_77_code 93 = .ok (.iadd, 1) := by decide +kernel
theorem d_M_sizeOf_94 : decode prog_14_method_77_code 94 = .ok (.iaload, 1) := by decide +kernel
theorem d_M_sizeOf_95 : decode prog_14_method_77_code 95 = .ok (.aload_n 0, 1) := by decide +kernel
theorem d_M_sizeOf_96 : decode prog_14_method_77_code 96 = .ok (.iload_n 1, 1) := by decide +kernel
theorem d_M_sizeOf_97 : decode prog_14_method_77_code 97 = .ok (.invokevirtual 255, 3) := by decide +kernel
theorem d_M_sizeOf_100 : decode prog_14_method_77_code 100 = .ok (.iadd, 1) := by decide +kernel
theorem d_M_sizeOf_101 : decode prog_14_method_77_code 101 = .ok (.istore_n 3, 1) := by decide +kernel
theorem d_M_sizeOf_102 : decode prog_14_method_77_code 102 = .ok (.iload_n 2, 1) := by decide +kernel
theorem d_M_sizeOf_103 : decode prog_14_method_77_code 103 = .ok (.iconst 2, 1) := by decide +kernel
theorem d_M_sizeOf_104 : decode prog_14_method_77_code 104 = .ok (.if_icmp .ne 8, 3) := by decide +kernel
theorem d_M_sizeOf_107 : decode prog_14_method_77_code 107 = .ok (.iload_n 3, 1) := by decide +kernel
theorem d_M_sizeOf_108 : decode prog_14_method_77_code 108 = .ok (.ineg, 1) := by decide +kernel
theorem d_M_sizeOf_109 : decode prog_14_method_77_code 109 = .ok (.goto 4, 3) := by decide +kernel
theorem d_M_sizeOf_112 : decode prog_14_method_77_code 112 = .ok (.iload_n 3, 1) := by decide +kernel
theorem d_M_sizeOf_113 : decode prog_14_method_77_code 113 = .ok (.ireturn, 1) := by decide +kernel
theorem d_M_markOf_0 : decode prog_14_method_78_code 0 = .ok (.aload_n 0, 1) := by decide +kernel
theorem d_M_markOf_1 : decode prog_14_method_78_code 1 = .ok (.getfield 25, 3) := by decide +kernel
theorem d_M_markOf_4 : decode prog_14_method_78_code 4 = .ok (.iconst 5, 1) := by decide +kernel
theorem d_M_markOf_5 : decode prog_14_method_78_code 5 = .ok (.iload_n 1, 1) := by decide +kernel
theorem d_M_markOf_6 : decode prog_14_method_78_code 6 = .ok (.iadd, 1) := by decide +kernel
theorem d_M_markOf_7 : decode prog_14_method_78_code 7 = .ok (.iaload, 1) := by decide +kernel
theorem d_M_markOf_8 : decode prog_14_method_78_code 8 = .ok (.iconst 4, 1) := by decide +kernel
theorem d_M_markOf_9 : decode prog_14_method_78_code 9 = .ok (.if_icmp .ge 9, 3) := by decide +kernel
theorem d_M_markOf_12 : decode prog_14_method_78_code 12 = .ok (.aload_n 0, 1) := by decide +kernel
theorem d_M_markOf_13 : decode prog_14_method_78_code 13 = .ok (.iload_n 1, 1) := by decide +kernel
theorem d_M_markOf_14 : decode prog_14_method_78_code 14 = .ok (.invokevirtual 255, 3) := by decide +kernel
theorem d_M_markOf_17 : decode prog_14_method_78_code 17 = .ok (.ireturn, 1) := by decide +kernel
theorem d_M_markOf_18 : decode prog_14_method_78_code 18 = .ok (.aload_n 0, 1) := by decide +kernel
theorem d_M_markOf_19 : decode prog_14_method_78_code 19 = .ok (.bipush 23, 2) := by decide +kernel
theorem d_M_markOf_21 : decode prog_14_method_78_code 21 = .ok (.invokevirtual 252, 3) := by decide +kernel
theorem d_M_markOf_24 : decode prog_14_method_78_code 24 = .ok (.aload_n 0, 1) := by decide +kernel
theorem d_M_markOf_25 : decode prog_14_method_78_code 25 = .ok (.bipush 20, 2) := by decide +kernel
theorem d_M_markOf_27 : decode prog_14_method_78_code 27 = .ok (.invokevirtual 252, 3) := by decide +kernel
theorem d_M_markOf_30 : decode prog_14_method_78_code 30 = .ok (.iload_n 1, 1) := by decide +kernel
theorem d_M_markOf_31 : decode prog_14_method_78_code 31 = .ok (.aload_n 0, 1) := by decide +kernel
theorem d_M_markOf_32 : decode prog_14_method_78_code 32 = .ok (.iload_n 1, 1) := by decide +kernel
theorem d_M_markOf_33 : decode prog_14_method_78_code 33 = .ok (.invokevirtual 258, 3) := by decide +kernel
theorem d_M_markOf_36 : decode prog_14_method_78_code 36 = .ok (.isub, 1) := by decide +kernel
theorem d_M_markOf_37 : decode prog_14_method_78_code 37 = .ok (.ireturn, 1) := by decide +kernel
theorem d_M_ask_0 : decode prog_14_method_79_code 0 = .ok (.aload_n 0, 1) := by decide +kernel
theorem d_M_ask_1 : decode prog_14_method_79_code 1 = .ok (.iconst 0, 1) := by decide +kernel
theorem d_M_ask_2 : decode prog_14_method_79_code 2 = .ok (.putfield 50, 3) := by decide +kernel
theorem d_M_ask_5 : decode prog_14_method_79_code 5 = .ok (.aload_n 0, 1) := by decide +kernel
theorem d_M_ask_6 : decode prog_14_method_79_code 6 = .ok (.iload_n 1, 1) := by decide +kernel
theorem d_M_ask_7 : decode prog_14_method_79_code 7 = .ok (.invokevirtual 174, 3) := by decide +kernel
theorem d_M_ask_10 : decode prog_14_method_79_code 10 = .ok (.ifCond .eq 12, 3) := by decide +kernel
theorem d_M_ask_13 : decode prog_14_method_79_code 13 = .ok (.iload_n 2, 1) := by decide +kernel
theorem d_M_ask_14 : decode prog_14_method_79_code 14 = .ok (.iconst 0, 1) := by decide +kernel
theorem d_M_ask_15 : decode prog_14_method_79_code 15 = .ok (.iconst 1, 1) := by decide +kernel
theorem d_M_ask_16 : decode prog_14_method_79_code 16 = .ok (.invokestatic 58, 3) := by decide +kernel
theorem d_M_ask_19 : decode prog_14_method_79_code 19 = .ok (.ifCond .ne 6, 3) := by decide +kernel
theorem d_M_ask_22 : decode prog_14_method_79_code 22 = .ok (.ldc 66, 2) := by decide +kernel
theorem d_M_ask_24 : decode prog_14_method_79_code 24 = .ok (.ireturn, 1) := by decide +kernel
theorem d_M_ask_25 : decode prog_14_method_79_code 25 = .ok (.aload_n 0, 1) := by decide +kernel
theorem d_M_ask_26 : decode prog_14_method_79_code 26 = .ok (.iconst 0, 1) := by decide +kernel
theorem d_M_ask_27 : decode prog_14_method_79_code 27 = .ok (.putfield 249, 3) := by decide +kernel
theorem d_M_ask_30 : decode prog_14_method_79_code 30 = .ok (.iload_n 2, 1) := by decide +kernel
theorem d_M_ask_31 : decode prog_14_method_79_code 31 = .ok (.ifCond .ne 11, 3) := by decide +kernel
theorem d_M_ask_34 : decode prog_14_method_79_code 34 = .ok (.aload_n 0, 1) := by decide +kernel
theorem d_M_ask_35 : decode prog_14_method_79_code 35 = .ok (.iload_n 1, 1) := by decide +kernel
theorem d_M_ask_36 : decode prog_14_method_79_code 36 = .ok (.invokevirtual 258, 3) := by decide +kernel
theorem d_M_ask_39 : decode prog_14_method_79_code 39 = .ok (.goto 8, 3) := by decide +kernel
theorem d_M_ask_42 : decode prog_14_method_79_code 42 = .ok (.aload_n 0, 1) := by decide +kernel
theorem d_M_ask_43 : decode prog_14_method_79_code 43 = .ok (.iload_n 1, 1) := by decide +kernel
theorem d_M_ask_44 : decode prog_14_method_79_code 44 = .ok (.invokevirtual 261, 3) := by decide +kernel
theorem d_M_ask_47 : decode prog_14_method_79_code 47 = .ok (.ireturn, 1) := by decide +kernel
theorem d_M_trace_0 : decode prog_14_method_80_code 0 = .ok (.aload_n 0, 1) := by decide +kernel
theorem d_M_trace_1 : decode prog_14_method_80_code 1 = .ok (.iconst 0, 1) := by decide +kernel
theorem d_M_trace_2 : decode prog_14_method_80_code 2 = .ok (.putfield 50, 3) := by decide +kernel
theorem d_M_trace_5 : decode prog_14_method_80_code 5 = .ok (.iload_n 1, 1) := by decide +kernel
theorem d_M_trace_6 : decode prog_14_method_80_code 6 = .ok (.iconst 0, 1) := by decide +kernel
theorem d_M_trace_7 : decode prog_14_method_80_code 7 = .ok (.aload_n 0, 1) := by decide +kernel
theorem d_M_trace_8 : decode prog_14_method_80_code 8 = .ok (.getfield 249, 3) := by decide +kernel
theorem d_M_trace_11 : decode prog_14_method_80_code 11 = .ok (.iconst 1, 1) := by decide +kernel
theorem d_M_trace_12 : decode prog_14_method_80_code 12 = .ok (.isub, 1) := by decide +kernel
theorem d_M_trace_13 : decode prog_14_method_80_code 13 = .ok (.invokestatic 58, 3) := by decide +kernel
theorem d_M_trace_16 : decode prog_14_method_80_code 16 = .ok (.ifCond .eq 12, 3) := by decide +kernel
theorem d_M_trace_19 : decode prog_14_method_80_code 19 = .ok (.aload_n 0, 1) := by decide +kernel
theorem d_M_trace_20 : decode prog_14_method_80_code 20 = .ok (.getfield 41, 3) := by decide +kernel
theorem d_M_trace_23 : decode prog_14_method_80_code 23 = .ok (.iload_n 1, 1) := by decide +kernel
theorem d_M_trace_24 : decode prog_14_method_80_code 24 = .ok (.iaload, 1) := by decide +kernel
theorem d_M_trace_25 : decode prog_14_method_80_code 25 = .ok (.goto 5, 3) := by decide +kernel
theorem d_M_trace_28 : decode prog_14_method_80_code 28 = .ok (.ldc 198, 2) := by decide +kernel
theorem d_M_trace_30 : decode prog_14_method_80_code 30 = .ok (.ireturn, 1) := by decide +kernel
theorem d_M_count_0 : decode prog_14_method_81_code 0 = .ok (.aload_n 0, 1) := by decide +kernel
theorem d_M_count_1 : decode prog_14_method_81_code 1 = .ok (.iconst 0, 1) := by decide +kernel
theorem d_M_count_2 : decode prog_14_method_81_code 2 = .ok (.putfield 50, 3) := by decide +kernel
theorem d_M_count_5 : decode prog_14_method_81_code 5 = .ok (.iload_n 1, 1) := by decide +kernel
theorem d_M_count_6 : decode prog_14_method_81_code 6 = .ok (.iconst 0, 1) := by decide +kernel
theorem d_M_count_7 : decode prog_14_method_81_code 7 = .ok (.bipush 6, 2) := by decide +kernel
theorem d_M_count_9 : decode prog_14_method_81_code 9 = .ok (.invokestatic 58, 3) := by decide +kernel
theorem d_M_count_12 : decode prog_14_method_81_code 12 = .ok (.ifCond .ne 6, 3) := by decide +kernel
theorem d_M_count_15 : decode prog_14_method_81_code 15 = .ok (.ldc 66, 2) := by decide +kernel
theorem d_M_count_17 : decode prog_14_method_81_code 17 = .ok (.ireturn, 1) := by decide +kernel
theorem d_M_count_18 : decode prog_14_method_81_code 18 = .ok (.iconst 0, 1) := by decide +kernel
theorem d_M_count_19 : decode prog_14_method_81_code 19 = .ok (.istore_n 2, 1) := by decide +kernel
theorem d_M_count_20 : decode prog_14_method_81_code 20 = .ok (.iconst 0, 1) := by decide +kernel
theorem d_M_count_21 : decode prog_14_method_81_code 21 = .ok (.istore_n 3, 1) := by decide +kernel
theorem d_M_count_22 : decode prog_14_method_81_code 22 = .ok (.iload_n 3, 1) := by decide +kernel
theorem d_M_count_23 : decode prog_14_method_81_code 23 = .ok (.bipush 8, 2) := by decide +kernel
theorem d_M_count_25 : decode prog_14_method_81_code 25 = .ok (.if_icmp .ge 26, 3) := by decide +kernel
theorem d_M_count_28 : decode prog_14_method_81_code 28 = .ok (.iload_n 2, 1) := by decide +kernel
theorem d_M_count_29 : decode prog_14_method_81_code 29 = .ok (.aload_n 0, 1) := by decide +kernel
theorem d_M_count_30 : decode prog_14_method_81_code 30 = .ok (.getfield 13, 3) := by decide +kernel
theorem d_M_count_33 : decode prog_14_method_81_code 33 = .ok (.iload_n 3, 1) := by decide +kernel
theorem d_M_count_34 : decode prog_14_method_81_code 34 = .ok (.iaload, 1) := by decide +kernel
theorem d_M_count_35 : decode prog_14_method_81_code 35 = .ok (.ifCond .le 7, 3) := by decide +kernel
theorem d_M_count_38 : decode prog_14_method_81_code 38 = .ok (.iconst 1, 1) := by decide +kernel
theorem d_M_count_39 : decode prog_14_method_81_code 39 = .ok (.goto 4, 3) := by decide +kernel
theorem d_M_count_42 : decode prog_14_method_81_code 42 = .ok (.iconst 0, 1) := by decide +kernel
theorem d_M_count_43 : decode prog_14_method_81_code 43 = .ok (.iadd, 1) := by decide +kernel
theorem d_M_count_44 : decode prog_14_method_81_code 44 = .ok (.istore_n 2, 1) := by decide +kernel
theorem d_M_count_45 : decode prog_14_method_81_code 45 = .ok (.iinc 3 1, 3) := by decide +kernel
theorem d_M_count_48 : decode prog_14_method_81_code 48 = .ok (.goto (-26), 3) := by decide +kernel
theorem d_M_count_51 : decode prog_14_method_81_code 51 = .ok (.iload_n 1, 1) := by decide +kernel
theorem d_M_count_52 : decode prog_14_method_81_code 52 = .ok (.iconst 3, 1) := by decide +kernel
theorem d_M_count_53 : decode prog_14_method_81_code 53 = .ok (.if_icmp .ge 32, 3) := by decide +kernel
theorem d_M_count_56 : decode prog_14_method_81_code 56 = .ok (.iload_n 1, 1) := by decide +kernel
theorem d_M_count_57 : decode prog_14_method_81_code 57 = .ok (.ifCond .ne 7, 3) := by decide +kernel
theorem d_M_count_60 : decode prog_14_method_81_code 60 = .ok (.iload_n 2, 1) := by decide +kernel
theorem d_M_count_61 : decode prog_14_method_81_code 61 = .ok (.goto 23, 3) := by decide +kernel
theorem d_M_count_64 : decode prog_14_method_81_code 64 = .ok (.iload_n 1, 1) := by decide +kernel
theorem d_M_count_65 : decode prog_14_method_81_code 65 = .ok (.iconst 1, 1) := by decide +kernel
theorem d_M_count_66 : decode prog_14_method_81_code 66 = .ok (.if_icmp .ne 12, 3) := by decide +kernel
theorem d_M_count_69 : decode prog_14_method_81_code 69 = .ok (.aload_n 0, 1) := by decide +kernel
theorem d_M_count_70 : decode prog_14_method_81_code 70 = .ok (.getfield 25, 3) := by decide +kernel
theorem d_M_count_73 : decode prog_14_method_81_code 73 = .ok (.iconst 4, 1) := by decide +kernel
theorem d_M_count_74 : decode prog_14_method_81_code 74 = .ok (.iaload, 1) := by decide +kernel
theorem d_M_count_75 : decode prog_14_method_81_code 75 = .ok (.goto 9, 3) := by decide +kernel
theorem d_M_count_78 : decode prog_14_method_81_code 78 = .ok (.aload_n 0, 1) := by decide +kernel
theorem d_M_count_79 : decode prog_14_method_81_code 79 = .ok (.getfield 25, 3) := by decide +kernel
theorem d_M_count_82 : decode prog_14_method_81_code 82 = .ok (.iconst 1, 1) := by decide +kernel
theorem d_M_count_83 : decode prog_14_method_81_code 83 = .ok (.iaload, 1) := by decide +kernel
theorem d_M_count_84 : decode prog_14_method_81_code 84 = .ok (.ireturn, 1) := by decide +kernel
theorem d_M_count_85 : decode prog_14_method_81_code 85 = .ok (.iload_n 1, 1) := by decide +kernel
theorem d_M_count_86 : decode prog_14_method_81_code 86 = .ok (.iconst 3, 1) := by decide +kernel
theorem d_M_count_87 : decode prog_14_method_81_code 87 = .ok (.if_icmp .ne 12, 3) := by decide +kernel
theorem d_M_count_90 : decode prog_14_method_81_code 90 = .ok (.aload_n 0, 1) := by decide +kernel
theorem d_M_count_91 : decode prog_14_method_81_code 91 = .ok (.getfield 25, 3) := by decide +kernel
theorem d_M_count_94 : decode prog_14_method_81_code 94 = .ok (.iconst 3, 1) := by decide +kernel
theorem d_M_count_95 : decode prog_14_method_81_code 95 = .ok (.iaload, 1) := by decide +kernel
theorem d_M_count_96 : decode prog_14_method_81_code 96 = .ok (.goto 34, 3) := by decide +kernel
theorem d_M_count_99 : decode prog_14_method_81_code 99 = .ok (.iload_n 1, 1) := by decide +kernel
theorem d_M_count_100 : decode prog_14_method_81_code 100 = .ok (.iconst 4, 1) := by decide +kernel
theorem d_M_count_101 : decode prog_14_method_81_code 101 = .ok (.if_icmp .ne 13, 3) := by decide +kernel
theorem d_M_count_104 : decode prog_14_method_81_code 104 = .ok (.aload_n 0, 1) := by decide +kernel
theorem d_M_count_105 : decode prog_14_method_81_code 105 = .ok (.getfield 25, 3) := by decide +kernel
theorem d_M_count_108 : decode prog_14_method_81_code 108 = .ok (.bipush 13, 2) := by decide +kernel
theorem d_M_count_110 : decode prog_14_method_81_code 110 = .ok (.iaload, 1) := by decide +kernel
theorem d_M_count_111 : decode prog_14_method_81_code 111 = .ok (.goto 19, 3) := by decide +kernel
theorem d_M_count_114 : decode prog_14_method_81_code 114 = .ok (.iload_n 1, 1) := by decide +kernel
theorem d_M_count_115 : decode prog_14_method_81_code 115 = .ok (.iconst 5, 1) := by decide +kernel
theorem d_M_count_116 : decode prog_14_method_81_code 116 = .ok (.if_icmp .ne 10, 3) := by decide +kernel
theorem d_M_count_119 : decode prog_14_method_81_code 119 = .ok (.aload_n 0, 1) := by decide +kernel
theorem d_M_count_120 : decode prog_14_method_81_code 120 = .ok (.getfield 145, 3) := by decide +kernel
theorem d_M_count_123 : decode prog_14_method_81_code 123 = .ok (.goto 7, 3) := by decide +kernel
theorem d_M_count_126 : decode prog_14_method_81_code 126 = .ok (.aload_n 0, 1) := by decide +kernel
theorem d_M_count_127 : decode prog_14_method_81_code 127 = .ok (.getfield 81, 3) := by decide +kernel
theorem d_M_count_130 : decode prog_14_method_81_code 130 = .ok (.ireturn, 1) := by decide +kernel
theorem d_M_status_0 : decode prog_14_method_82_code 0 = .ok (.aload_n 0, 1) := by decide +kernel
theorem d_M_status_1 : decode prog_14_method_82_code 1 = .ok (.iconst 0, 1) := by decide +kernel
theorem d_M_status_2 : decode prog_14_method_82_code 2 = .ok (.putfield 50, 3) := by decide +kernel
theorem d_M_status_5 : decode prog_14_method_82_code 5 = .ok (.aload_n 0, 1) := by decide +kernel
theorem d_M_status_6 : decode prog_14_method_82_code 6 = .ok (.getfield 54, 3) := by decide +kernel
theorem d_M_status_9 : decode prog_14_method_82_code 9 = .ok (.ireturn, 1) := by decide +kernel
theorem d_J_bitCount_0 : decode prog_15_method_49_code 0 = .ok (.iload_n 0, 1) := by decide +kernel
theorem d_J_bitCount_1 : decode prog_15_method_49_code 1 = .ok (.iload_n 0, 1) := by decide +kernel
theorem d_J_bitCount_2 : decode prog_15_method_49_code 2 = .ok (.iconst 1, 1) := by decide +kernel
theorem d_J_bitCount_3 : decode prog_15_method_49_code 3 = .ok (.iushr, 1) := by decide +kernel
theorem d_J_bitCount_4 : decode prog_15_method_49_code 4 = .ok (.ldc_w 265, 3) := by decide +kernel
theorem d_J_bitCount_7 : decode prog_15_method_49_code 7 = .ok (.iand, 1) := by decide +kernel
theorem d_J_bitCount_8 : decode prog_15_method_49_code 8 = .ok (.isub, 1) := by decide +kernel
theorem d_J_bitCount_9 : decode prog_15_method_49_code 9 = .ok (.istore_n 0, 1) := by decide +kernel
theorem d_J_bitCount_10 : decode prog_15_method_49_code 10 = .ok (.iload_n 0, 1) := by decide +kernel
theorem d_J_bitCount_11 : decode prog_15_method_49_code 11 = .ok (.ldc_w 266, 3) := by decide +kernel
theorem d_J_bitCount_14 : decode prog_15_method_49_code 14 = .ok (.iand, 1) := by decide +kernel
theorem d_J_bitCount_15 : decode prog_15_method_49_code 15 = .ok (.iload_n 0, 1) := by decide +kernel
theorem d_J_bitCount_16 : decode prog_15_method_49_code 16 = .ok (.iconst 2, 1) := by decide +kernel
theorem d_J_bitCount_17 : decode prog_15_method_49_code 17 = .ok (.iushr, 1) := by decide +kernel
theorem d_J_bitCount_18 : decode prog_15_method_49_code 18 = .ok (.ldc_w 266, 3) := by decide +kernel
theorem d_J_bitCount_21 : decode prog_15_method_49_code 21 = .ok (.iand, 1) := by decide +kernel
theorem d_J_bitCount_22 : decode prog_15_method_49_code 22 = .ok (.iadd, 1) := by decide +kernel
theorem d_J_bitCount_23 : decode prog_15_method_49_code 23 = .ok (.istore_n 0, 1) := by decide +kernel
theorem d_J_bitCount_24 : decode prog_15_method_49_code 24 = .ok (.iload_n 0, 1) := by decide +kernel
theorem d_J_bitCount_25 : decode prog_15_method_49_code 25 = .ok (.iload_n 0, 1) := by decide +kernel
theorem d_J_bitCount_26 : decode prog_15_method_49_code 26 = .ok (.iconst 4, 1) := by decide +kernel
theorem d_J_bitCount_27 : decode prog_15_method_49_code 27 = .ok (.iushr, 1) := by decide +kernel
theorem d_J_bitCount_28 : decode prog_15_method_49_code 28 = .ok (.iadd, 1) := by decide +kernel
theorem d_J_bitCount_29 : decode prog_15_method_49_code 29 = .ok (.ldc_w 267, 3) := by decide +kernel
theorem d_J_bitCount_32 : decode prog_15_method_49_code 32 = .ok (.iand, 1) := by decide +kernel
theorem d_J_bitCount_33 : decode prog_15_method_49_code 33 = .ok (.istore_n 0, 1) := by decide +kernel
theorem d_J_bitCount_34 : decode prog_15_method_49_code 34 = .ok (.iload_n 0, 1) := by decide +kernel
theorem d_J_bitCount_35 : decode prog_15_method_49_code 35 = .ok (.iload_n 0, 1) := by decide +kernel
theorem d_J_bitCount_36 : decode prog_15_method_49_code 36 = .ok (.bipush 8, 2) := by decide +kernel
theorem d_J_bitCount_38 : decode prog_15_method_49_code 38 = .ok (.iushr, 1) := by decide +kernel
theorem d_J_bitCount_39 : decode prog_15_method_49_code 39 = .ok (.iadd, 1) := by decide +kernel
theorem d_J_bitCount_40 : decode prog_15_method_49_code 40 = .ok (.istore_n 0, 1) := by decide +kernel
theorem d_J_bitCount_41 : decode prog_15_method_49_code 41 = .ok (.iload_n 0, 1) := by decide +kernel
theorem d_J_bitCount_42 : decode prog_15_method_49_code 42 = .ok (.iload_n 0, 1) := by decide +kernel
theorem d_J_bitCount_43 : decode prog_15_method_49_code 43 = .ok (.bipush 16, 2) := by decide +kernel
theorem d_J_bitCount_45 : decode prog_15_method_49_code 45 = .ok (.iushr, 1) := by decide +kernel
theorem d_J_bitCount_46 : decode prog_15_method_49_code 46 = .ok (.iadd, 1) := by decide +kernel
theorem d_J_bitCount_47 : decode prog_15_method_49_code 47 = .ok (.istore_n 0, 1) := by decide +kernel
theorem d_J_bitCount_48 : decode prog_15_method_49_code 48 = .ok (.iload_n 0, 1) := by decide +kernel
theorem d_J_bitCount_49 : decode prog_15_method_49_code 49 = .ok (.bipush 63, 2) := by decide +kernel
theorem d_J_bitCount_51 : decode prog_15_method_49_code 51 = .ok (.iand, 1) := by decide +kernel
theorem d_J_bitCount_52 : decode prog_15_method_49_code 52 = .ok (.ireturn, 1) := by decide +kernel
theorem d_J_max_0 : decode prog_16_method_65_code 0 = .ok (.iload_n 0, 1) := by decide +kernel
theorem d_J_max_1 : decode prog_16_method_65_code 1 = .ok (.iload_n 1, 1) := by decide +kernel
theorem d_J_max_2 : decode prog_16_method_65_code 2 = .ok (.if_icmp .lt 7, 3) := by decide +kernel
theorem d_J_max_5 : decode prog_16_method_65_code 5 = .ok (.iload_n 0, 1) := by decide +kernel
theorem d_J_max_6 : decode prog_16_method_65_code 6 = .ok (.goto 4, 3) := by decide +kernel
theorem d_J_max_9 : decode prog_16_method_65_code 9 = .ok (.iload_n 1, 1) := by decide +kernel
theorem d_J_max_10 : decode prog_16_method_65_code 10 = .ok (.ireturn, 1) := by decide +kernel
theorem d_J_min_0 : decode prog_16_method_69_code 0 = .ok (.iload_n 0, 1) := by decide +kernel
theorem d_J_min_1 : decode prog_16_method_69_code 1 = .ok (.iload_n 1, 1) := by decide +kernel
theorem d_J_min_2 : decode prog_16_method_69_code 2 = .ok (.if_icmp .gt 7, 3) := by decide +kernel
theorem d_J_min_5 : decode prog_16_method_69_code 5 = .ok (.iload_n 0, 1) := by decide +kernel
theorem d_J_min_6 : decode prog_16_method_69_code 6 = .ok (.goto 4, 3) := by decide +kernel
theorem d_J_min_9 : decode prog_16_method_69_code 9 = .ok (.iload_n 1, 1) := by decide +kernel
theorem d_J_min_10 : decode prog_16_method_69_code 10 = .ok (.ireturn, 1) := by decide +kernel
theorem d_J_fill_0 : decode prog_18_method_103_code 0 = .ok (.iconst 0, 1) := by decide +kernel
theorem d_J_fill_1 : decode prog_18_method_103_code 1 = .ok (.istore_n 2, 1) := by decide +kernel
theorem d_J_fill_2 : decode prog_18_method_103_code 2 = .ok (.aload_n 0, 1) := by decide +kernel
theorem d_J_fill_3 : decode prog_18_method_103_code 3 = .ok (.arraylength, 1) := by decide +kernel
theorem d_J_fill_4 : decode prog_18_method_103_code 4 = .ok (.istore_n 3, 1) := by decide +kernel
theorem d_J_fill_5 : decode prog_18_method_103_code 5 = .ok (.iload_n 2, 1) := by decide +kernel
theorem d_J_fill_6 : decode prog_18_method_103_code 6 = .ok (.iload_n 3, 1) := by decide +kernel
theorem d_J_fill_7 : decode prog_18_method_103_code 7 = .ok (.if_icmp .ge 13, 3) := by decide +kernel
theorem d_J_fill_10 : decode prog_18_method_103_code 10 = .ok (.aload_n 0, 1) := by decide +kernel
theorem d_J_fill_11 : decode prog_18_method_103_code 11 = .ok (.iload_n 2, 1) := by decide +kernel
theorem d_J_fill_12 : decode prog_18_method_103_code 12 = .ok (.iload_n 1, 1) := by decide +kernel
theorem d_J_fill_13 : decode prog_18_method_103_code 13 = .ok (.iastore, 1) := by decide +kernel
theorem d_J_fill_14 : decode prog_18_method_103_code 14 = .ok (.iinc 2 1, 3) := by decide +kernel
theorem d_J_fill_17 : decode prog_18_method_103_code 17 = .ok (.goto (-12), 3) := by decide +kernel
theorem d_J_fill_20 : decode prog_18_method_103_code 20 = .ok (.return_, 1) := by decide +kernel
theorem d_L_law_0 : decode code 0 = .ok (.new 7, 3) := by decide +kernel
theorem d_L_law_3 : decode code 3 = .ok (.dup, 1) := by decide +kernel
theorem d_L_law_4 : decode code 4 = .ok (.invokespecial 9, 3) := by decide +kernel
theorem d_L_law_7 : decode code 7 = .ok (.astore_n 1, 1) := by decide +kernel
theorem d_L_law_8 : decode code 8 = .ok (.new 10, 3) := by decide +kernel
theorem d_L_law_11 : decode code 11 = .ok (.dup, 1) := by decide +kernel
theorem d_L_law_12 : decode code 12 = .ok (.invokespecial 12, 3) := by decide +kernel
theorem d_L_law_15 : decode code 15 = .ok (.astore_n 2, 1) := by decide +kernel
theorem d_L_law_16 : decode code 16 = .ok (.iconst 0, 1) := by decide +kernel
theorem d_L_law_17 : decode code 17 = .ok (.istore_n 3, 1) := by decide +kernel
theorem d_L_law_18 : decode code 18 = .ok (.iload_n 3, 1) := by decide +kernel
theorem d_L_law_19 : decode code 19 = .ok (.aload_n 0, 1) := by decide +kernel
theorem d_L_law_20 : decode code 20 = .ok (.arraylength, 1) := by decide +kernel
theorem d_L_law_21 : decode code 21 = .ok (.bipush 6, 2) := by decide +kernel
theorem d_L_law_23 : decode code 23 = .ok (.isub, 1) := by decide +kernel
theorem d_L_law_24 : decode code 24 = .ok (.if_icmp .gt 1156, 3) := by decide +kernel
theorem d_L_law_27 : decode code 27 = .ok (.aload_n 0, 1) := by decide +kernel
theorem d_L_law_28 : decode code 28 = .ok (.iload_n 3, 1) := by decide +kernel
theorem d_L_law_29 : decode code 29 = .ok (.iaload, 1) := by decide +kernel
theorem d_L_law_30 : decode code 30 = .ok (.bipush 63, 2) := by decide +kernel
theorem d_L_law_32 : decode code 32 = .ok (.iand, 1) := by decide +kernel
theorem d_L_law_33 : decode code 33 = .ok (.tableswitch 1141 0 34 #[155, 198, 241, 304, 327, 350, 363, 376, 389, 422, 445, 478, 491, 514, 547, 580, 623, 646, 659, 682, 705, 718, 731, 784, 837, 891, 904, 947, 970, 993, 1016, 1049, 1082, 1105, 1128], 155) := by decide +kernel
theorem d_L_law_188 : decode code 188 = .ok (.aload_n 1, 1) := by decide +kernel
theorem d_L_law_189 : decode code 189 = .ok (.aload_n 0, 1) := by decide +kernel
theorem d_L_law_190 : decode code 190 = .ok (.iload_n 3, 1) := by decide +kernel
theorem d_L_law_191 : decode code 191 = .ok (.iconst 1, 1) := by decide +kernel
theorem d_L_law_192 : decode code 192 = .ok (.iadd, 1) := by decide +kernel
theorem d_L_law_193 : decode code 193 = .ok (.iaload, 1) := by decide +kernel
theorem d_L_law_194 : decode code 194 = .ok (.aload_n 0, 1) := by decide +kernel
theorem d_L_law_195 : decode code 195 = .ok (.iload_n 3, 1) := by decide +kernel
theorem d_L_law_196 : decode code 196 = .ok (.iconst 2, 1) := by decide +kernel
theorem d_L_law_197 : decode code 197 = .ok (.iadd, 1) := by decide +kernel
theorem d_L_law_198 : decode code 198 = .ok (.iaload, 1) := by decide +kernel
theorem d_L_law_199 : decode code 199 = .ok (.aload_n 0, 1) := by decide +kernel
theorem d_L_law_200 : decode code 200 = .ok (.iload_n 3, 1) := by decide +kernel
theorem d_L_law_201 : decode code 201 = .ok (.iconst 3, 1) := by decide +kernel
theorem d_L_law_202 : decode code 202 = .ok (.iadd, 1) := by decide +kernel
theorem d_L_law_203 : decode code 203 = .ok (.iaload, 1) := by decide +kernel
theorem d_L_law_204 : decode code 204 = .ok (.invokevirtual 13, 3) := by decide +kernel
theorem d_L_law_207 : decode code 207 = .ok (.aload_n 2, 1) := by decide +kernel
theorem d_L_law_208 : decode code 208 = .ok (.aload_n 0, 1) := by decide +kernel
theorem d_L_law_209 : decode code 209 = .ok (.iload_n 3, 1) := by decide +kernel
theorem d_L_law_210 : decode code 210 = .ok (.iconst 1, 1) := by decide +kernel
theorem d_L_law_211 : decode code 211 = .ok (.iadd, 1) := by decide +kernel
theorem d_L_law_212 : decode code 212 = .ok (.iaload, 1) := by decide +kernel
theorem d_L_law_213 : decode code 213 = .ok (.aload_n 0, 1) := by decide +kernel
theorem d_L_law_214 : decode code 214 = .ok (.iload_n 3, 1) := by decide +kernel
theorem d_L_law_215 : decode code 215 = .ok (.iconst 2, 1) := by decide +kernel
theorem d_L_law_216 : decode code 216 = .ok (.iadd, 1) := by decide +kernel
theorem d_L_law_217 : decode code 217 = .ok (.iaload, 1) := by decide +kernel
theorem d_L_law_218 : decode code 218 = .ok (.aload_n 0, 1) := by decide +kernel
theorem d_L_law_219 : decode code 219 = .ok (.iload_n 3, 1) := by decide +kernel
theorem d_L_law_220 : decode code 220 = .ok (.iconst 3, 1) := by decide +kernel
theorem d_L_law_221 : decode code 221 = .ok (.iadd, 1) := by decide +kernel
theorem d_L_law_222 : decode code 222 = .ok (.iaload, 1) := by decide +kernel
theorem d_L_law_223 : decode code 223 = .ok (.invokevirtual 17, 3) := by decide +kernel
theorem d_L_law_226 : decode code 226 = .ok (.if_icmp .eq 948, 3) := by decide +kernel
theorem d_L_law_229 : decode code 229 = .ok (.iconst 0, 1) := by decide +kernel
theorem d_L_law_230 : decode code 230 = .ok (.ireturn, 1) := by decide +kernel
theorem d_L_law_231 : decode code 231 = .ok (.aload_n 1, 1) := by decide +kernel
theorem d_L_law_232 : decode code 232 = .ok (.aload_n 0, 1) := by decide +kernel
theorem d_L_law_233 : decode code 233 = .ok (.iload_n 3, 1) := by decide +kernel
theorem d_L_law_234 : decode code 234 = .ok (.iconst 1, 1) := by decide +kernel
theorem d_L_law_235 : decode code 235 = .ok (.iadd, 1) := by decide +kernel
theorem d_L_law_236 : decode code 236 = .ok (.iaload, 1) := by decide +kernel
theorem d_L_law_237 : decode code 237 = .ok (.aload_n 0, 1) := by decide +kernel
theorem d_L_law_238 : decode code 238 = .ok (.iload_n 3, 1) := by decide +kernel
theorem d_L_law_239 : decode code 239 = .ok (.iconst 2, 1) := by decide +kernel
theorem d_L_law_240 : decode code 240 = .ok (.iadd, 1) := by decide +kernel
theorem d_L_law_241 : decode code 241 = .ok (.iaload, 1) := by decide +kernel
theorem d_L_law_242 : decode code 242 = .ok (.aload_n 0, 1) := by decide +kernel
theorem d_L_law_243 : decode code 243 = .ok (.iload_n 3, 1) := by decide +kernel
theorem d_L_law_244 : decode code 244 = .ok (.iconst 3, 1) := by decide +kernel
theorem d_L_law_245 : decode code 245 = .ok (.iadd, 1) := by decide +kernel
theorem d_L_law_246 : decode code 246 = .ok (.iaload, 1) := by decide +kernel
theorem d_L_law_247 : decode code 247 = .ok (.invokevirtual 18, 3) := by decide +kernel
theorem d_L_law_250 : decode code 250 = .ok (.aload_n 2, 1) := by decide +kernel
theorem d_L_law_251 : decode code 251 = .ok (.aload_n 0, 1) := by decide +kernel
theorem d_L_law_252 : decode code 252 = .ok (.iload_n 3, 1) := by decide +kernel
theorem d_L_law_253 : decode code 253 = .ok (.iconst 1, 1) := by decide +kernel
theorem d_L_law_254 : decode code 254 = .ok (.iadd, 1) := by decide +kernel
theorem d_L_law_255 : decode code 255 = .ok (.iaload, 1) := by decide +kernel
theorem d_L_law_256 : decode code 256 = .ok (.aload_n 0, 1) := by decide +kernel
theorem d_L_law_257 : decode code 257 = .ok (.iload_n 3, 1) := by decide +kernel
theorem d_L_law_258 : decode code 258 = .ok (.iconst 2, 1) := by decide +kernel
theorem d_L_law_259 : decode code 259 = .ok (.iadd, 1) := by decide +kernel
theorem d_L_law_260 : decode code 260 = .ok (.iaload, 1) := by decide +kernel
theorem d_L_law_261 : decode code 261 = .ok (.aload_n 0, 1) := by decide +kernel
theorem d_L_law_262 : decode code 262 = .ok (.iload_n 3, 1) := by decide +kernel
theorem d_L_law_263 : decode code 263 = .ok (.iconst 3, 1) := by decide +kernel
theorem d_L_law_264 : decode code 264 = .ok (.iadd, 1) := by decide +kernel
theorem d_L_law_265 : decode code 265 = .ok (.iaload, 1) := by decide +kernel
theorem d_L_law_266 : decode code 266 = .ok (.invokevirtual 21, 3) := by decide +kernel
theorem d_L_law_269 : decode code 269 = .ok (.if_icmp .eq 905, 3) := by decide +kernel
theorem d_L_law_272 : decode code 272 = .ok (.iconst 0, 1) := by decide +kernel
theorem d_L_law_273 : decode code 273 = .ok (.ireturn, 1) := by decide +kernel
theorem d_L_law_274 : decode code 274 = .ok (.aload_n 1, 1) := by decide +kernel
theorem d_L_law_275 : decode code 275 = .ok (.aload_n 0, 1) := by decide +kernel
theorem d_L_law_276 : decode code 276 = .ok (.iload_n 3, 1) := by decide +kernel
theorem d_L_law_277 : decode code 277 = .ok (.iconst 1, 1) := by decide +kernel
theorem d_L_law_278 : decode code 278 = .ok (.iadd, 1) := by decide +kernel
theorem d_L_law_279 : decode code 279 = .ok (.iaload, 1) := by decide +kernel
theorem d_L_law_280 : decode code 280 = .ok (.aload_n 0, 1) := by decide +kernel
theorem d_L_law_281 : decode code 281 = .ok (.iload_n 3, 1) := by decide +kernel
theorem d_L_law_282 : decode code 282 = .ok (.iconst 2, 1) := by decide +kernel
theorem d_L_law_283 : decode code 283 = .ok (.iadd, 1) := by decide +kernel
theorem d_L_law_284 : decode code 284 = .ok (.iaload, 1) := by decide +kernel
theorem d_L_law_285 : decode code 285 = .ok (.aload_n 0, 1) := by decide +kernel
theorem d_L_law_286 : decode code 286 = .ok (.iload_n 3, 1) := by decide +kernel
theorem d_L_law_287 : decode code 287 = .ok (.iconst 3, 1) := by decide +kernel
theorem d_L_law_288 : decode code 288 = .ok (.iadd, 1) := by decide +kernel
theorem d_L_law_289 : decode code 289 = .ok (.iaload, 1) := by decide +kernel
theorem d_L_law_290 : decode code 290 = .ok (.aload_n 0, 1) := by decide +kernel
theorem d_L_law_291 : decode code 291 = .ok (.iload_n 3, 1) := by decide +kernel
theorem d_L_law_292 : decode code 292 = .ok (.iconst 4, 1) := by decide +kernel
theorem d_L_law_293 : decode code 293 = .ok (.iadd, 1) := by decide +kernel
theorem d_L_law_294 : decode code 294 = .ok (.iaload, 1) := by decide +kernel
theorem d_L_law_295 : decode code 295 = .ok (.aload_n 0, 1) := by decide +kernel
theorem d_L_law_296 : decode code 296 = .ok (.iload_n 3, 1) := by decide +kernel
theorem d_L_law_297 : decode code 297 = .ok (.iconst 5, 1) := by decide +kernel
theorem d_L_law_298 : decode code 298 = .ok (.iadd, 1) := by decide +kernel
theorem d_L_law_299 : decode code 299 = .ok (.iaload, 1) := by decide +kernel
theorem d_L_law_300 : decode code 300 = .ok (.invokevirtual 22, 3) := by decide +kernel
theorem d_L_law_303 : decode code 303 = .ok (.aload_n 2, 1) := by decide +kernel
theorem d_L_law_304 : decode code 304 = .ok (.aload_n 0, 1) := by decide +kernel
theorem d_L_law_305 : decode code 305 = .ok (.iload_n 3, 1) := by decide +kernel
theorem d_L_law_306 : decode code 306 = .ok (.iconst 1, 1) := by decide +kernel
theorem d_L_law_307 : decode code 307 = .ok (.iadd, 1) := by decide +kernel
theorem d_L_law_308 : decode code 308 = .ok (.iaload, 1) := by decide +kernel
theorem d_L_law_309 : decode code 309 = .ok (.aload_n 0, 1) := by decide +kernel
theorem d_L_law_310 : decode code 310 = .ok (.iload_n 3, 1) := by decide +kernel
theorem d_L_law_311 : decode code 311 = .ok (.iconst 2, 1) := by decide +kernel
theorem d_L_law_312 : decode code 312 = .ok (.iadd, 1) := by decide +kernel
theorem d_L_law_313 : decode code 313 = .ok (.iaload, 1) := by decide +kernel
theorem d_L_law_314 : decode code 314 = .ok (.aload_n 0, 1) := by decide +kernel
theorem d_L_law_315 : decode code 315 = .ok (.iload_n 3, 1) := by decide +kernel
theorem d_L_law_316 : decode code 316 = .ok (.iconst 3, 1) := by decide +kernel
theorem d_L_law_317 : decode code 317 = .ok (.iadd, 1) := by decide +kernel
theorem d_L_law_318 : decode code 318 = .ok (.iaload, 1) := by decide +kernel
theorem d_L_law_319 : decode code 319 = .ok (.aload_n 0, 1) := by decide +kernel
theorem d_L_law_320 : decode code 320 = .ok (.iload_n 3, 1) := by decide +kernel
theorem d_L_law_321 : decode code 321 = .ok (.iconst 4, 1) := by decide +kernel
theorem d_L_law_322 : decode code 322 = .ok (.iadd, 1) := by decide +kernel
theorem d_L_law_323 : decode code 323 = .ok (.iaload, 1) := by decide +kernel
theorem d_L_law_324 : decode code 324 = .ok (.aload_n 0, 1) := by decide +kernel
theorem d_L_law_325 : decode code 325 = .ok (.iload_n 3, 1) := by decide +kernel
theorem d_L_law_326 : decode code 326 = .ok (.iconst 5, 1) := by decide +kernel
theorem d_L_law_327 : decode code 327 = .ok (.iadd, 1) := by decide +kernel
theorem d_L_law_328 : decode code 328 = .ok (.iaload, 1) := by decide +kernel
theorem d_L_law_329 : decode code 329 = .ok (.invokevirtual 26, 3) := by decide +kernel
theorem d_L_law_332 : decode code 332 = .ok (.if_icmp .eq 842, 3) := by decide +kernel
theorem d_L_law_335 : decode code 335 = .ok (.iconst 0, 1) := by decide +kernel
theorem d_L_law_336 : decode code 336 = .ok (.ireturn, 1) := by decide +kernel
theorem d_L_law_337 : decode code 337 = .ok (.aload_n 1, 1) := by decide +kernel
theorem d_L_law_338 : decode code 338 = .ok (.aload_n 0, 1) := by decide +kernel
theorem d_L_law_339 : decode code 339 = .ok (.iload_n 3, 1) := by decide +kernel
theorem d_L_law_340 : decode code 340 = .ok (.iconst 1, 1) := by decide +kernel
theorem d_L_law_341 : decode code 341 = .ok (.iadd, 1) := by decide +kernel
theorem d_L_law_342 : decode code 342 = .ok (.iaload, 1) := by decide +kernel
theorem d_L_law_343 : decode code 343 = .ok (.invokevirtual 27, 3) := by decide +kernel
theorem d_L_law_346 : decode code 346 = .ok (.aload_n 2, 1) := by decide +kernel
theorem d_L_law_347 : decode code 347 = .ok (.aload_n 0, 1) := by decide +kernel
theorem d_L_law_348 : decode code 348 = .ok (.iload_n 3, 1) := by decide +kernel
theorem d_L_law_349 : decode code 349 = .ok (.iconst 1, 1) := by decide +kernel
theorem d_L_law_350 : decode code 350 = .ok (.iadd, 1) := by decide +kernel
theorem d_L_law_351 : decode code 351 = .ok (.iaload, 1) := by decide +kernel
theorem d_L_law_352 : decode code 352 = .ok (.invokevirtual 31, 3) := by decide +kernel
theorem d_L_law_355 : decode code 355 = .ok (.if_icmp .eq 819, 3) := by decide +kernel
theorem d_L_law_358 : decode code 358 = .ok (.iconst 0, 1) := by decide +kernel
theorem d_L_law_359 : decode code 359 = .ok (.ireturn, 1) := by decide +kernel
theorem d_L_law_360 : decode code 360 = .ok (.aload_n 1, 1) := by decide +kernel
theorem d_L_law_361 : decode code 361 = .ok (.aload_n 0, 1) := by decide +kernel
theorem d_L_law_362 : decode code 362 = .ok (.iload_n 3, 1) := by decide +kernel
theorem d_L_law_363 : decode code 363 = .ok (.iconst 1, 1) := by decide +kernel
theorem d_L_law_364 : decode code 364 = .ok (.iadd, 1) := by decide +kernel
theorem d_L_law_365 : decode code 365 = .ok (.iaload, 1) := by decide +kernel
theorem d_L_law_366 : decode code 366 = .ok (.invokevirtual 32, 3) := by decide +kernel
theorem d_L_law_369 : decode code 369 = .ok (.aload_n 2, 1) := by decide +kernel
theorem d_L_law_370 : decode code 370 = .ok (.aload_n 0, 1) := by decide +kernel
theorem d_L_law_371 : decode code 371 = .ok (.iload_n 3, 1) := by decide +kernel
theorem d_L_law_372 : decode code 372 = .ok (.iconst 1, 1) := by decide +kernel
theorem d_L_law_373 : decode code 373 = .ok (.iadd, 1) := by decide +kernel
theorem d_L_law_374 : decode code 374 = .ok (.iaload, 1) := by decide +kernel
theorem d_L_law_375 : decode code 375 = .ok (.invokevirtual 35, 3) := by decide +kernel
theorem d_L_law_378 : decode code 378 = .ok (.if_icmp .eq 796, 3) := by decide +kernel
theorem d_L_law_381 : decode code 381 = .ok (.iconst 0, 1) := by decide +kernel
theorem d_L_law_382 : decode code 382 = .ok (.ireturn, 1) := by decide +kernel
theorem d_L_law_383 : decode code 383 = .ok (.aload_n 1, 1) := by decide +kernel
theorem d_L_law_384 : decode code 384 = .ok (.invokevirtual 36, 3) := by decide +kernel
theorem d_L_law_387 : decode code 387 = .ok (.aload_n 2, 1) := by decide +kernel
theorem d_L_law_388 : decode code 388 = .ok (.invokevirtual 40, 3) := by decide +kernel
theorem d_L_law_391 : decode code 391 = .ok (.if_icmp .eq 783, 3) := by decide +kernel
theorem d_L_law_394 : decode code 394 = .ok (.iconst 0, 1) := by decide +kernel
theorem d_L_law_395 : decode code 395 = .ok (.ireturn, 1) := by decide +kernel
theorem d_L_law_396 : decode code 396 = .ok (.aload_n 1, 1) := by decide +kernel
theorem d_L_law_397 : decode code 397 = .ok (.invokevirtual 41, 3) := by decide +kernel
theorem d_L_law_400 : decode code 400 = .ok (.aload_n 2, 1) := by decide +kernel
theorem d_L_law_401 : decode code 401 = .ok (.invokevirtual 44, 3) := by decide +kernel
theorem d_L_law_404 : decode code 404 = .ok (.if_icmp .eq 770, 3) := by decide +kernel
theorem d_L_law_407 : decode code 407 = .ok (.iconst 0, 1) := by decide +kernel
theorem d_L_law_408 : decode code 408 = .ok (.ireturn, 1) := by decide +kernel
theorem d_L_law_409 : decode code 409 = .ok (.aload_n 1, 1) := by decide +kernel
theorem d_L_law_410 : decode code 410 = .ok (.invokevirtual 45, 3) := by decide +kernel
theorem d_L_law_413 : decode code 413 = .ok (.aload_n 2, 1) := by decide +kernel
theorem d_L_law_414 : decode code 414 = .ok (.invokevirtual 48, 3) := by decide +kernel
theorem d_L_law_417 : decode code 417 = .ok (.if_icmp .eq 757, 3) := by decide +kernel
theorem d_L_law_420 : decode code 420 = .ok (.iconst 0, 1) := by decide +kernel
theorem d_L_law_421 : decode code 421 = .ok (.ireturn, 1) := by decide +kernel
theorem d_L_law_422 : decode code 422 = .ok (.aload_n 1, 1) := by decide +kernel
theorem d_L_law_423 : decode code 423 = .ok (.aload_n 0, 1) := by decide +kernel
theorem d_L_law_424 : decode code 424 = .ok (.iload_n 3, 1) := by decide +kernel
theorem d_L_law_425 : decode code 425 = .ok (.iconst 1, 1) := by decide +kernel
theorem d_L_law_426 : decode code 426 = .ok (.iadd, 1) := by decide +kernel
theorem d_L_law_427 : decode code 427 = .ok (.iaload, 1) := by decide +kernel
theorem d_L_law_428 : decode code 428 = .ok (.aload_n 0, 1) := by decide +kernel
theorem d_L_law_429 : decode code 429 = .ok (.iload_n 3, 1) := by decide +kernel
theorem d_L_law_430 : decode code 430 = .ok (.iconst 2, 1) := by decide +kernel
theorem d_L_law_431 : decode code 431 = .ok (.iadd, 1) := by decide +kernel
theorem d_L_law_432 : decode code 432 = .ok (.iaload, 1) := by decide +kernel
theorem d_L_law_433 : decode code 433 = .ok (.invokevirtual 49, 3) := by decide +kernel
theorem d_L_law_436 : decode code 436 = .ok (.aload_n 2, 1) := by decide +kernel
theorem d_L_law_437 : decode code 437 = .ok (.aload_n 0, 1) := by decide +kernel
theorem d_L_law_438 : decode code 438 = .ok (.iload_n 3, 1) := by decide +kernel
theorem d_L_law_439 : decode code 439 = .ok (.iconst 1, 1) := by decide +kernel
theorem d_L_law_440 : decode code 440 = .ok (.iadd, 1) := by decide +kernel
theorem d_L_law_441 : decode code 441 = .ok (.iaload, 1) := by decide +kernel
theorem d_L_law_442 : decode code 442 = .ok (.aload_n 0, 1) := by decide +kernel
theorem d_L_law_443 : decode code 443 = .ok (.iload_n 3, 1) := by decide +kernel
theorem d_L_law_444 : decode code 444 = .ok (.iconst 2, 1) := by decide +kernel
theorem d_L_law_445 : decode code 445 = .ok (.iadd, 1) := by decide +kernel
theorem d_L_law_446 : decode code 446 = .ok (.iaload, 1) := by decide +kernel
theorem d_L_law_447 : decode code 447 = .ok (.invokevirtual 53, 3) := by decide +kernel
theorem d_L_law_450 : decode code 450 = .ok (.if_icmp .eq 724, 3) := by decide +kernel
theorem d_L_law_453 : decode code 453 = .ok (.iconst 0, 1) := by decide +kernel
theorem d_L_law_454 : decode code 454 = .ok (.ireturn, 1) := by decide +kernel
theorem d_L_law_455 : decode code 455 = .ok (.aload_n 1, 1) := by decide +kernel
theorem d_L_law_456 : decode code 456 = .ok (.aload_n 0, 1) := by decide +kernel
theorem d_L_law_457 : decode code 457 = .ok (.iload_n 3, 1) := by decide +kernel
theorem d_L_law_458 : decode code 458 = .ok (.iconst 1, 1) := by decide +kernel
theorem d_L_law_459 : decode code 459 = .ok (.iadd, 1) := by decide +kernel
theorem d_L_law_460 : decode code 460 = .ok (.iaload, 1) := by decide +kernel
theorem d_L_law_461 : decode code 461 = .ok (.invokevirtual 54, 3) := by decide +kernel
theorem d_L_law_464 : decode code 464 = .ok (.aload_n 2, 1) := by decide +kernel
theorem d_L_law_465 : decode code 465 = .ok (.aload_n 0, 1) := by decide +kernel
theorem d_L_law_466 : decode code 466 = .ok (.iload_n 3, 1) := by decide +kernel
theorem d_L_law_467 : decode code 467 = .ok (.iconst 1, 1) := by decide +kernel
theorem d_L_law_468 : decode code 468 = .ok (.iadd, 1) := by decide +kernel
theorem d_L_law_469 : decode code 469 = .ok (.iaload, 1) := by decide +kernel
theorem d_L_law_470 : decode code 470 = .ok (.invokevirtual 57, 3) := by decide +kernel
theorem d_L_law_473 : decode code 473 = .ok (.if_icmp .eq 701, 3) := by decide +kernel
theorem d_L_law_476 : decode code 476 = .ok (.iconst 0, 1) := by decide +kernel
theorem d_L_law_477 : decode code 477 = .ok (.ireturn, 1) := by decide +kernel
theorem d_L_law_478 : decode code 478 = .ok (.aload_n 1, 1) := by decide +kernel
theorem d_L_law_479 : decode code 479 = .ok (.aload_n 0, 1) := by decide +kernel
theorem d_L_law_480 : decode code 480 = .ok (.iload_n 3, 1) := by decide +kernel
theorem d_L_law_481 : decode code 481 = .ok (.iconst 1, 1) := by decide +kernel
theorem d_L_law_482 : decode code 482 = .ok (.iadd, 1) := by decide +kernel
theorem d_L_law_483 : decode code 483 = .ok (.iaload, 1) := by decide +kernel
theorem d_L_law_484 : decode code 484 = .ok (.aload_n 0, 1) := by decide +kernel
theorem d_L_law_485 : decode code 485 = .ok (.iload_n 3, 1) := by decide +kernel
theorem d_L_law_486 : decode code 486 = .ok (.iconst 2, 1) := by decide +kernel
theorem d_L_law_487 : decode code 487 = .ok (.iadd, 1) := by decide +kernel
theorem d_L_law_488 : decode code 488 = .ok (.iaload, 1) := by decide +kernel
theorem d_L_law_489 : decode code 489 = .ok (.invokevirtual 58, 3) := by decide +kernel
theorem d_L_law_492 : decode code 492 = .ok (.aload_n 2, 1) := by decide +kernel
theorem d_L_law_493 : decode code 493 = .ok (.aload_n 0, 1) := by decide +kernel
theorem d_L_law_494 : decode code 494 = .ok (.iload_n 3, 1) := by decide +kernel
theorem d_L_law_495 : decode code 495 = .ok (.iconst 1, 1) := by decide +kernel
theorem d_L_law_496 : decode code 496 = .ok (.iadd, 1) := by decide +kernel
theorem d_L_law_497 : decode code 497 = .ok (.iaload, 1) := by decide +kernel
theorem d_L_law_498 : decode code 498 = .ok (.aload_n 0, 1) := by decide +kernel
theorem d_L_law_499 : decode code 499 = .ok (.iload_n 3, 1) := by decide +kernel
theorem d_L_law_500 : decode code 500 = .ok (.iconst 2, 1) := by decide +kernel
theorem d_L_law_501 : decode code 501 = .ok (.iadd, 1) := by decide +kernel
theorem d_L_law_502 : decode code 502 = .ok (.iaload, 1) := by decide +kernel
theorem d_L_law_503 : decode code 503 = .ok (.invokevirtual 61, 3) := by decide +kernel
theorem d_L_law_506 : decode code 506 = .ok (.if_icmp .eq 668, 3) := by decide +kernel
theorem d_L_law_509 : decode code 509 = .ok (.iconst 0, 1) := by decide +kernel
theorem d_L_law_510 : decode code 510 = .ok (.ireturn, 1) := by decide +kernel
theorem d_L_law_511 : decode code 511 = .ok (.aload_n 1, 1) := by decide +kernel
theorem d_L_law_512 : decode code 512 = .ok (.invokevirtual 62, 3) := by decide +kernel
theorem d_L_law_515 : decode code 515 = .ok (.aload_n 2, 1) := by decide +kernel
theorem d_L_law_516 : decode code 516 = .ok (.invokevirtual 65, 3) := by decide +kernel
theorem d_L_law_519 : decode code 519 = .ok (.if_icmp .eq 655, 3) := by decide +kernel
theorem d_L_law_522 : decode code 522 = .ok (.iconst 0, 1) := by decide +kernel
theorem d_L_law_523 : decode code 523 = .ok (.ireturn, 1) := by decide +kernel
theorem d_L_law_524 : decode code 524 = .ok (.aload_n 1, 1) := by decide +kernel
theorem d_L_law_525 : decode code 525 = .ok (.aload_n 0, 1) := by decide +kernel
theorem d_L_law_526 : decode code 526 = .ok (.iload_n 3, 1) := by decide +kernel
theorem d_L_law_527 : decode code 527 = .ok (.iconst 1, 1) := by decide +kernel
theorem d_L_law_528 : decode code 528 = .ok (.iadd, 1) := by decide +kernel
theorem d_L_law_529 : decode code 529 = .ok (.iaload, 1) := by decide +kernel
theorem d_L_law_530 : decode code 530 = .ok (.invokevirtual 66, 3) := by decide +kernel
theorem d_L_law_533 : decode code 533 = .ok (.aload_n 2, 1) := by decide +kernel
theorem d_L_law_534 : decode code 534 = .ok (.aload_n 0, 1) := by decide +kernel
theorem d_L_law_535 : decode code 535 = .ok (.iload_n 3, 1) := by decide +kernel
theorem d_L_law_536 : decode code 536 = .ok (.iconst 1, 1) := by decide +kernel
theorem d_L_law_537 : decode code 537 = .ok (.iadd, 1) := by decide +kernel
theorem d_L_law_538 : decode code 538 = .ok (.iaload, 1) := by decide +kernel
theorem d_L_law_539 : decode code 539 = .ok (.invokevirtual 69, 3) := by decide +kernel
theorem d_L_law_542 : decode code 542 = .ok (.if_icmp .eq 632, 3) := by decide +kernel
theorem d_L_law_545 : decode code 545 = .ok (.iconst 0, 1) := by decide +kernel
theorem d_L_law_546 : decode code 546 = .ok (.ireturn, 1) := by decide +kernel
theorem d_L_law_547 : decode code 547 = .ok (.aload_n 1, 1) := by decide +kernel
theorem d_L_law_548 : decode code 548 = .ok (.aload_n 0, 1) := by decide +kernel
theorem d_L_law_549 : decode code 549 = .ok (.iload_n 3, 1) := by decide +kernel
theorem d_L_law_550 : decode code 550 = .ok (.iconst 1, 1) := by decide +kernel
theorem d_L_law_551 : decode code 551 = .ok (.iadd, 1) := by decide +kernel
theorem d_L_law_552 : decode code 552 = .ok (.iaload, 1) := by decide +kernel
theorem d_L_law_553 : decode code 553 = .ok (.aload_n 0, 1) := by decide +kernel
theorem d_L_law_554 : decode code 554 = .ok (.iload_n 3, 1) := by decide +kernel
theorem d_L_law_555 : decode code 555 = .ok (.iconst 2, 1) := by decide +kernel
theorem d_L_law_556 : decode code 556 = .ok (.iadd, 1) := by decide +kernel
theorem d_L_law_557 : decode code 557 = .ok (.iaload, 1) := by decide +kernel
theorem d_L_law_558 : decode code 558 = .ok (.invokevirtual 70, 3) := by decide +kernel
theorem d_L_law_561 : decode code 561 = .ok (.aload_n 2, 1) := by decide +kernel
theorem d_L_law_562 : decode code 562 = .ok (.aload_n 0, 1) := by decide +kernel
theorem d_L_law_563 : decode code 563 = .ok (.iload_n 3, 1) := by decide +kernel
theorem d_L_law_564 : decode code 564 = .ok (.iconst 1, 1) := by decide +kernel
theorem d_L_law_565 : decode code 565 = .ok (.iadd, 1) := by decide +kernel
theorem d_L_law_566 : decode code 566 = .ok (.iaload, 1) := by decide +kernel
theorem d_L_law_567 : decode code 567 = .ok (.aload_n 0, 1) := by decide +kernel
theorem d_L_law_568 : decode code 568 = .ok (.iload_n 3, 1) := by decide +kernel
theorem d_L_law_569 : decode code 569 = .ok (.iconst 2, 1) := by decide +kernel
theorem d_L_law_570 : decode code 570 = .ok (.iadd, 1) := by decide +kernel
theorem d_L_law_571 : decode code 571 = .ok (.iaload, 1) := by decide +kernel
theorem d_L_law_572 : decode code 572 = .ok (.invokevirtual 73, 3) := by decide +kernel
theorem d_L_law_575 : decode code 575 = .ok (.if_icmp .eq 599, 3) := by decide +kernel
theorem d_L_law_578 : decode code 578 = .ok (.iconst 0, 1) := by decide +kernel
theorem d_L_law_579 : decode code 579 = .ok (.ireturn, 1) := by decide +kernel
theorem d_L_law_580 : decode code 580 = .ok (.aload_n 1, 1) := by decide +kernel
theorem d_L_law_581 : decode code 581 = .ok (.aload_n 0, 1) := by decide +kernel
theorem d_L_law_582 : decode code 582 = .ok (.iload_n 3, 1) := by decide +kernel
theorem d_L_law_583 : decode code 583 = .ok (.iconst 1, 1) := by decide +kernel
theorem d_L_law_584 : decode code 584 = .ok (.iadd, 1) := by decide +kernel
theorem d_L_law_585 : decode code 585 = .ok (.iaload, 1) := by decide +kernel
theorem d_L_law_586 : decode code 586 = .ok (.aload_n 0, 1) := by decide +kernel
theorem d_L_law_587 : decode code 587 = .ok (.iload_n 3, 1) := by decide +kernel
theorem d_L_law_588 : decode code 588 = .ok (.iconst 2, 1) := by decide +kernel
theorem d_L_law_589 : decode code 589 = .ok (.iadd, 1) := by decide +kernel
theorem d_L_law_590 : decode code 590 = .ok (.iaload, 1) := by decide +kernel
theorem d_L_law_591 : decode code 591 = .ok (.invokevirtual 74, 3) := by decide +kernel
theorem d_L_law_594 : decode code 594 = .ok (.aload_n 2, 1) := by decide +kernel
theorem d_L_law_595 : decode code 595 = .ok (.aload_n 0, 1) := by decide +kernel
theorem d_L_law_596 : decode code 596 = .ok (.iload_n 3, 1) := by decide +kernel
theorem d_L_law_597 : decode code 597 = .ok (.iconst 1, 1) := by decide +kernel
theorem d_L_law_598 : decode code 598 = .ok (.iadd, 1) := by decide +kernel
theorem d_L_law_599 : decode code 599 = .ok (.iaload, 1) := by decide +kernel
theorem d_L_law_600 : decode code 600 = .ok (.aload_n 0, 1) := by decide +kernel
theorem d_L_law_601 : decode code 601 = .ok (.iload_n 3, 1) := by decide +kernel
theorem d_L_law_602 : decode code 602 = .ok (.iconst 2, 1) := by decide +kernel
theorem d_L_law_603 : decode code 603 = .ok (.iadd, 1) := by decide +kernel
theorem d_L_law_604 : decode code 604 = .ok (.iaload, 1) := by decide +kernel
theorem d_L_law_605 : decode code 605 = .ok (.invokevirtual 77, 3) := by decide +kernel
theorem d_L_law_608 : decode code 608 = .ok (.if_icmp .eq 566, 3) := by decide +kernel
theorem d_L_law_611 : decode code 611 = .ok (.iconst 0, 1) := by decide +kernel
theorem d_L_law_612 : decode code 612 = .ok (.ireturn, 1) := by decide +kernel
theorem d_L_law_613 : decode code 613 = .ok (.aload_n 1, 1) := by decide +kernel
theorem d_L_law_614 : decode code 614 = .ok (.aload_n 0, 1) := by decide +kernel
theorem d_L_law_615 : decode code 615 = .ok (.iload_n 3, 1) := by decide +kernel
theorem d_L_law_616 : decode code 616 = .ok (.iconst 1, 1) := by decide +kernel
theorem d_L_law_617 : decode code 617 = .ok (.iadd, 1) := by decide +kernel
theorem d_L_law_618 : decode code 618 = .ok (.iaload, 1) := by decide +kernel
theorem d_L_law_619 : decode code 619 = .ok (.aload_n 0, 1) := by decide +kernel
theorem d_L_law_620 : decode code 620 = .ok (.iload_n 3, 1) := by decide +kernel
theorem d_L_law_621 : decode code 621 = .ok (.iconst 2, 1) := by decide +kernel
theorem d_L_law_622 : decode code 622 = .ok (.iadd, 1) := by decide +kernel
theorem d_L_law_623 : decode code 623 = .ok (.iaload, 1) := by decide +kernel
theorem d_L_law_624 : decode code 624 = .ok (.aload_n 0, 1) := by decide +kernel
theorem d_L_law_625 : decode code 625 = .ok (.iload_n 3, 1) := by decide +kernel
theorem d_L_law_626 : decode code 626 = .ok (.iconst 3, 1) := by decide +kernel
theorem d_L_law_627 : decode code 627 = .ok (.iadd, 1) := by decide +kernel
theorem d_L_law_628 : decode code 628 = .ok (.iaload, 1) := by decide +kernel
theorem d_L_law_629 : decode code 629 = .ok (.invokevirtual 78, 3) := by decide +kernel
theorem d_L_law_632 : decode code 632 = .ok (.aload_n 2, 1) := by decide +kernel
theorem d_L_law_633 : decode code 633 = .ok (.aload_n 0, 1) := by decide +kernel
theorem d_L_law_634 : decode code 634 = .ok (.iload_n 3, 1) := by decide +kernel
theorem d_L_law_635 : decode code 635 = .ok (.iconst 1, 1) := by decide +kernel
theorem d_L_law_636 : decode code 636 = .ok (.iadd, 1) := by decide +kernel
theorem d_L_law_637 : decode code 637 = .ok (.iaload, 1) := by decide +kernel
theorem d_L_law_638 : decode code 638 = .ok (.aload_n 0, 1) := by decide +kernel
theorem d_L_law_639 : decode code 639 = .ok (.iload_n 3, 1) := by decide +kernel
theorem d_L_law_640 : decode code 640 = .ok (.iconst 2, 1) := by decide +kernel
theorem d_L_law_641 : decode code 641 = .ok (.iadd, 1) := by decide +kernel
theorem d_L_law_642 : decode code 642 = .ok (.iaload, 1) := by decide +kernel
theorem d_L_law_643 : decode code 643 = .ok (.aload_n 0, 1) := by decide +kernel
theorem d_L_law_644 : decode code 644 = .ok (.iload_n 3, 1) := by decide +kernel
theorem d_L_law_645 : decode code 645 = .ok (.iconst 3, 1) := by decide +kernel
theorem d_L_law_646 : decode code 646 = .ok (.iadd, 1) := by decide +kernel
theorem d_L_law_647 : decode code 647 = .ok (.iaload, 1) := by decide +kernel
theorem d_L_law_648 : decode code 648 = .ok (.invokevirtual 81, 3) := by decide +kernel
theorem d_L_law_651 : decode code 651 = .ok (.if_icmp .eq 523, 3) := by decide +kernel
theorem d_L_law_654 : decode code 654 = .ok (.iconst 0, 1) := by decide +kernel
theorem d_L_law_655 : decode code 655 = .ok (.ireturn, 1) := by decide +kernel
theorem d_L_law_656 : decode code 656 = .ok (.aload_n 1, 1) := by decide +kernel
theorem d_L_law_657 : decode code 657 = .ok (.aload_n 0, 1) := by decide +kernel
theorem d_L_law_658 : decode code 658 = .ok (.iload_n 3, 1) := by decide +kernel
theorem d_L_law_659 : decode code 659 = .ok (.iconst 1, 1) := by decide +kernel
theorem d_L_law_660 : decode code 660 = .ok (.iadd, 1) := by decide +kernel
theorem d_L_law_661 : decode code 661 = .ok (.iaload, 1) := by decide +kernel
theorem d_L_law_662 : decode code 662 = .ok (.invokevirtual 82, 3) := by decide +kernel
theorem d_L_law_665 : decode code 665 = .ok (.aload_n 2, 1) := by decide +kernel
theorem d_L_law_666 : decode code 666 = .ok (.aload_n 0, 1) := by decide +kernel
theorem d_L_law_667 : decode code 667 = .ok (.iload_n 3, 1) := by decide +kernel
theorem d_L_law_668 : decode code 668 = .ok (.iconst 1, 1) := by decide +kernel
theorem d_L_law_669 : decode code 669 = .ok (.iadd, 1) := by decide +kernel
theorem d_L_law_670 : decode code 670 = .ok (.iaload, 1) := by decide +kernel
theorem d_L_law_671 : decode code 671 = .ok (.invokevirtual 85, 3) := by decide +kernel
theorem d_L_law_674 : decode code 674 = .ok (.if_icmp .eq 500, 3) := by decide +kernel
theorem d_L_law_677 : decode code 677 = .ok (.iconst 0, 1) := by decide +kernel
theorem d_L_law_678 : decode code 678 = .ok (.ireturn, 1) := by decide +kernel
theorem d_L_law_679 : decode code 679 = .ok (.aload_n 1, 1) := by decide +kernel
theorem d_L_law_680 : decode code 680 = .ok (.invokevirtual 86, 3) := by decide +kernel
theorem d_L_law_683 : decode code 683 = .ok (.aload_n 2, 1) := by decide +kernel
theorem d_L_law_684 : decode code 684 = .ok (.invokevirtual 89, 3) := by decide +kernel
theorem d_L_law_687 : decode code 687 = .ok (.if_icmp .eq 487, 3) := by decide +kernel
theorem d_L_law_690 : decode code 690 = .ok (.iconst 0, 1) := by decide +kernel
theorem d_L_law_691 : decode code 691 = .ok (.ireturn, 1) := by decide +kernel
theorem d_L_law_692 : decode code 692 = .ok (.aload_n 1, 1) := by decide +kernel
theorem d_L_law_693 : decode code 693 = .ok (.aload_n 0, 1) := by decide +kernel
theorem d_L_law_694 : decode code 694 = .ok (.iload_n 3, 1) := by decide +kernel
theorem d_L_law_695 : decode code 695 = .ok (.iconst 1, 1) := by decide +kernel
theorem d_L_law_696 : decode code 696 = .ok (.iadd, 1) := by decide +kernel
theorem d_L_law_697 : decode code 697 = .ok (.iaload, 1) := by decide +kernel
theorem d_L_law_698 : decode code 698 = .ok (.invokevirtual 90, 3) := by decide +kernel
theorem d_L_law_701 : decode code 701 = .ok (.aload_n 2, 1) := by decide +kernel
theorem d_L_law_702 : decode code 702 = .ok (.aload_n 0, 1) := by decide +kernel
theorem d_L_law_703 : decode code 703 = .ok (.iload_n 3, 1) := by decide +kernel
theorem d_L_law_704 : decode code 704 = .ok (.iconst 1, 1) := by decide +kernel
theorem d_L_law_705 : decode code 705 = .ok (.iadd, 1) := by decide +kernel
theorem d_L_law_706 : decode code 706 = .ok (.iaload, 1) := by decide +kernel
theorem d_L_law_707 : decode code 707 = .ok (.invokevirtual 93, 3) := by decide +kernel
theorem d_L_law_710 : decode code 710 = .ok (.if_icmp .eq 464, 3) := by decide +kernel
theorem d_L_law_713 : decode code 713 = .ok (.iconst 0, 1) := by decide +kernel
theorem d_L_law_714 : decode code 714 = .ok (.ireturn, 1) := by decide +kernel
theorem d_L_law_715 : decode code 715 = .ok (.aload_n 1, 1) := by decide +kernel
theorem d_L_law_716 : decode code 716 = .ok (.aload_n 0, 1) := by decide +kernel
theorem d_L_law_717 : decode code 717 = .ok (.iload_n 3, 1) := by decide +kernel
theorem d_L_law_718 : decode code 718 = .ok (.iconst 1, 1) := by decide +kernel
theorem d_L_law_719 : decode code 719 = .ok (.iadd, 1) := by decide +kernel
theorem d_L_law_720 : decode code 720 = .ok (.iaload, 1) := by decide +kernel
theorem d_L_law_721 : decode code 721 = .ok (.invokevirtual 94, 3) := by decide +kernel
theorem d_L_law_724 : decode code 724 = .ok (.aload_n 2, 1) := by decide +kernel
theorem d_L_law_725 : decode code 725 = .ok (.aload_n 0, 1) := by decide +kernel
theorem d_L_law_726 : decode code 726 = .ok (.iload_n 3, 1) := by decide +kernel
theorem d_L_law_727 : decode code 727 = .ok (.iconst 1, 1) := by decide +kernel
theorem d_L_law_728 : decode code 728 = .ok (.iadd, 1) := by decide +kernel
theorem d_L_law_729 : decode code 729 = .ok (.iaload, 1) := by decide +kernel
theorem d_L_law_730 : decode code 730 = .ok (.invokevirtual 97, 3) := by decide +kernel
theorem d_L_law_733 : decode code 733 = .ok (.if_icmp .eq 441, 3) := by decide +kernel
theorem d_L_law_736 : decode code 736 = .ok (.iconst 0, 1) := by decide +kernel
theorem d_L_law_737 : decode code 737 = .ok (.ireturn, 1) := by decide +kernel
theorem d_L_law_738 : decode code 738 = .ok (.aload_n 1, 1) := by decide +kernel
theorem d_L_law_739 : decode code 739 = .ok (.invokevirtual 98, 3) := by decide +kernel
theorem d_L_law_742 : decode code 742 = .ok (.aload_n 2, 1) := by decide +kernel
theorem d_L_law_743 : decode code 743 = .ok (.invokevirtual 101, 3) := by decide +kernel
theorem d_L_law_746 : decode code 746 = .ok (.if_icmp .eq 428, 3) := by decide +kernel
theorem d_L_law_749 : decode code 749 = .ok (.iconst 0, 1) := by decide +kernel
theorem d_L_law_750 : decode code 750 = .ok (.ireturn, 1) := by decide +kernel
theorem d_L_law_751 : decode code 751 = .ok (.aload_n 1, 1) := by decide +kernel
theorem d_L_law_752 : decode code 752 = .ok (.invokevirtual 102, 3) := by decide +kernel
theorem d_L_law_755 : decode code 755 = .ok (.aload_n 2, 1) := by decide +kernel
theorem d_L_law_756 : decode code 756 = .ok (.invokevirtual 105, 3) := by decide +kernel
theorem d_L_law_759 : decode code 759 = .ok (.if_icmp .eq 415, 3) := by decide +kernel
theorem d_L_law_762 : decode code 762 = .ok (.iconst 0, 1) := by decide +kernel
theorem d_L_law_763 : decode code 763 = .ok (.ireturn, 1) := by decide +kernel
theorem d_L_law_764 : decode code 764 = .ok (.aload_n 1, 1) := by decide +kernel
theorem d_L_law_765 : decode code 765 = .ok (.aload_n 0, 1) := by decide +kernel
theorem d_L_law_766 : decode code 766 = .ok (.iload_n 3, 1) := by decide +kernel
theorem d_L_law_767 : decode code 767 = .ok (.iconst 1, 1) := by decide +kernel
theorem d_L_law_768 : decode code 768 = .ok (.iadd, 1) := by decide +kernel
theorem d_L_law_769 : decode code 769 = .ok (.iaload, 1) := by decide +kernel
theorem d_L_law_770 : decode code 770 = .ok (.aload_n 0, 1) := by decide +kernel
theorem d_L_law_771 : decode code 771 = .ok (.iload_n 3, 1) := by decide +kernel
theorem d_L_law_772 : decode code 772 = .ok (.iconst 2, 1) := by decide +kernel
theorem d_L_law_773 : decode code 773 = .ok (.iadd, 1) := by decide +kernel
theorem d_L_law_774 : decode code 774 = .ok (.iaload, 1) := by decide +kernel
theorem d_L_law_775 : decode code 775 = .ok (.aload_n 0, 1) := by decide +kernel
theorem d_L_law_776 : decode code 776 = .ok (.iload_n 3, 1) := by decide +kernel
theorem d_L_law_777 : decode code 777 = .ok (.iconst 3, 1) := by decide +kernel
theorem d_L_law_778 : decode code 778 = .ok (.iadd, 1) := by decide +kernel
theorem d_L_law_779 : decode code 779 = .ok (.iaload, 1) := by decide +kernel
theorem d_L_law_780 : decode code 780 = .ok (.aload_n 0, 1) := by decide +kernel
theorem d_L_law_781 : decode code 781 = .ok (.iload_n 3, 1) := by decide +kernel
theorem d_L_law_782 : decode code 782 = .ok (.iconst 4, 1) := by decide +kernel
theorem d_L_law_783 : decode code 783 = .ok (.iadd, 1) := by decide +kernel
theorem d_L_law_784 : decode code 784 = .ok (.iaload, 1) := by decide +kernel
theorem d_L_law_785 : decode code 785 = .ok (.invokevirtual 106, 3) := by decide +kernel
theorem d_L_law_788 : decode code 788 = .ok (.aload_n 2, 1) := by decide +kernel
theorem d_L_law_789 : decode code 789 = .ok (.aload_n 0, 1) := by decide +kernel
theorem d_L_law_790 : decode code 790 = .ok (.iload_n 3, 1) := by decide +kernel
theorem d_L_law_791 : decode code 791 = .ok (.iconst 1, 1) := by decide +kernel
theorem d_L_law_792 : decode code 792 = .ok (.iadd, 1) := by decide +kernel
theorem d_L_law_793 : decode code 793 = .ok (.iaload, 1) := by decide +kernel
theorem d_L_law_794 : decode code 794 = .ok (.aload_n 0, 1) := by decide +kernel
theorem d_L_law_795 : decode code 795 = .ok (.iload_n 3, 1) := by decide +kernel
theorem d_L_law_796 : decode code 796 = .ok (.iconst 2, 1) := by decide +kernel
theorem d_L_law_797 : decode code 797 = .ok (.iadd, 1) := by decide +kernel
theorem d_L_law_798 : decode code 798 = .ok (.iaload, 1) := by decide +kernel
theorem d_L_law_799 : decode code 799 = .ok (.aload_n 0, 1) := by decide +kernel
theorem d_L_law_800 : decode code 800 = .ok (.iload_n 3, 1) := by decide +kernel
theorem d_L_law_801 : decode code 801 = .ok (.iconst 3, 1) := by decide +kernel
theorem d_L_law_802 : decode code 802 = .ok (.iadd, 1) := by decide +kernel
theorem d_L_law_803 : decode code 803 = .ok (.iaload, 1) := by decide +kernel
theorem d_L_law_804 : decode code 804 = .ok (.aload_n 0, 1) := by decide +kernel
theorem d_L_law_805 : decode code 805 = .ok (.iload_n 3, 1) := by decide +kernel
theorem d_L_law_806 : decode code 806 = .ok (.iconst 4, 1) := by decide +kernel
theorem d_L_law_807 : decode code 807 = .ok (.iadd, 1) := by decide +kernel
theorem d_L_law_808 : decode code 808 = .ok (.iaload, 1) := by decide +kernel
theorem d_L_law_809 : decode code 809 = .ok (.invokevirtual 110, 3) := by decide +kernel
theorem d_L_law_812 : decode code 812 = .ok (.if_icmp .eq 362, 3) := by decide +kernel
theorem d_L_law_815 : decode code 815 = .ok (.iconst 0, 1) := by decide +kernel
theorem d_L_law_816 : decode code 816 = .ok (.ireturn, 1) := by decide +kernel
theorem d_L_law_817 : decode code 817 = .ok (.aload_n 1, 1) := by decide +kernel
theorem d_L_law_818 : decode code 818 = .ok (.aload_n 0, 1) := by decide +kernel
theorem d_L_law_819 : decode code 819 = .ok (.iload_n 3, 1) := by decide +kernel
theorem d_L_law_820 : decode code 820 = .ok (.iconst 1, 1) := by decide +kernel
theorem d_L_law_821 : decode code 821 = .ok (.iadd, 1) := by decide +kernel
theorem d_L_law_822 : decode code 822 = .ok (.iaload, 1) := by decide +kernel
theorem d_L_law_823 : decode code 823 = .ok (.aload_n 0, 1) := by decide +kernel
theorem d_L_law_824 : decode code 824 = .ok (.iload_n 3, 1) := by decide +kernel
theorem d_L_law_825 : decode code 825 = .ok (.iconst 2, 1) := by decide +kernel
theorem d_L_law_826 : decode code 826 = .ok (.iadd, 1) := by decide +kernel
theorem d_L_law_827 : decode code 827 = .ok (.iaload, 1) := by decide +kernel
theorem d_L_law_828 : decode code 828 = .ok (.aload_n 0, 1) := by decide +kernel
theorem d_L_law_829 : decode code 829 = .ok (.iload_n 3, 1) := by decide +kernel
theorem d_L_law_830 : decode code 830 = .ok (.iconst 3, 1) := by decide +kernel
theorem d_L_law_831 : decode code 831 = .ok (.iadd, 1) := by decide +kernel
theorem d_L_law_832 : decode code 832 = .ok (.iaload, 1) := by decide +kernel
theorem d_L_law_833 : decode code 833 = .ok (.aload_n 0, 1) := by decide +kernel
theorem d_L_law_834 : decode code 834 = .ok (.iload_n 3, 1) := by decide +kernel
theorem d_L_law_835 : decode code 835 = .ok (.iconst 4, 1) := by decide +kernel
theorem d_L_law_836 : decode code 836 = .ok (.iadd, 1) := by decide +kernel
theorem d_L_law_837 : decode code 837 = .ok (.iaload, 1) := by decide +kernel
theorem d_L_law_838 : decode code 838 = .ok (.invokevirtual 111, 3) := by decide +kernel
theorem d_L_law_841 : decode code 841 = .ok (.aload_n 2, 1) := by decide +kernel
theorem d_L_law_842 : decode code 842 = .ok (.aload_n 0, 1) := by decide +kernel
theorem d_L_law_843 : decode code 843 = .ok (.iload_n 3, 1) := by decide +kernel
theorem d_L_law_844 : decode code 844 = .ok (.iconst 1, 1) := by decide +kernel
theorem d_L_law_845 : decode code 845 = .ok (.iadd, 1) := by decide +kernel
theorem d_L_law_846 : decode code 846 = .ok (.iaload, 1) := by decide +kernel
theorem d_L_law_847 : decode code 847 = .ok (.aload_n 0, 1) := by decide +kernel
theorem d_L_law_848 : decode code 848 = .ok (.iload_n 3, 1) := by decide +kernel
theorem d_L_law_849 : decode code 849 = .ok (.iconst 2, 1) := by decide +kernel
theorem d_L_law_850 : decode code 850 = .ok (.iadd, 1) := by decide +kernel
theorem d_L_law_851 : decode code 851 = .ok (.iaload, 1) := by decide +kernel
theorem d_L_law_852 : decode code 852 = .ok (.aload_n 0, 1) := by decide +kernel
theorem d_L_law_853 : decode code 853 = .ok (.iload_n 3, 1) := by decide +kernel
theorem d_L_law_854 : decode code 854 = .ok (.iconst 3, 1) := by decide +kernel
theorem d_L_law_855 : decode code 855 = .ok (.iadd, 1) := by decide +kernel
theorem d_L_law_856 : decode code 856 = .ok (.iaload, 1) := by decide +kernel
theorem d_L_law_857 : decode code 857 = .ok (.aload_n 0, 1) := by decide +kernel
theorem d_L_law_858 : decode code 858 = .ok (.iload_n 3, 1) := by decide +kernel
theorem d_L_law_859 : decode code 859 = .ok (.iconst 4, 1) := by decide +kernel
theorem d_L_law_860 : decode code 860 = .ok (.iadd, 1) := by decide +kernel
theorem d_L_law_861 : decode code 861 = .ok (.iaload, 1) := by decide +kernel
theorem d_L_law_862 : decode code 862 = .ok (.invokevirtual 114, 3) := by decide +kernel
theorem d_L_law_865 : decode code 865 = .ok (.if_icmp .eq 309, 3) := by decide +kernel
theorem d_L_law_868 : decode code 868 = .ok (.iconst 0, 1) := by decide +kernel
theorem d_L_law_869 : decode code 869 = .ok (.ireturn, 1) := by decide +kernel
theorem d_L_law_870 : decode code 870 = .ok (.aload_n 1, 1) := by decide +kernel
theorem d_L_law_871 : decode code 871 = .ok (.aload_n 0, 1) := by decide +kernel
theorem d_L_law_872 : decode code 872 = .ok (.iload_n 3, 1) := by decide +kernel
theorem d_L_law_873 : decode code 873 = .ok (.iconst 1, 1) := by decide +kernel
theorem d_L_law_874 : decode code 874 = .ok (.iadd, 1) := by decide +kernel
theorem d_L_law_875 : decode code 875 = .ok (.iaload, 1) := by decide +kernel
theorem d_L_law_876 : decode code 876 = .ok (.aload_n 0, 1) := by decide +kernel
theorem d_L_law_877 : decode code 877 = .ok (.iload_n 3, 1) := by decide +kernel
theorem d_L_law_878 : decode code 878 = .ok (.iconst 2, 1) := by decide +kernel
theorem d_L_law_879 : decode code 879 = .ok (.iadd, 1) := by decide +kernel
theorem d_L_law_880 : decode code 880 = .ok (.iaload, 1) := by decide +kernel
theorem d_L_law_881 : decode code 881 = .ok (.aload_n 0, 1) := by decide +kernel
theorem d_L_law_882 : decode code 882 = .ok (.iload_n 3, 1) := by decide +kernel
theorem d_L_law_883 : decode code 883 = .ok (.iconst 3, 1) := by decide +kernel
theorem d_L_law_884 : decode code 884 = .ok (.iadd, 1) := by decide +kernel
theorem d_L_law_885 : decode code 885 = .ok (.iaload, 1) := by decide +kernel
theorem d_L_law_886 : decode code 886 = .ok (.aload_n 0, 1) := by decide +kernel
theorem d_L_law_887 : decode code 887 = .ok (.iload_n 3, 1) := by decide +kernel
theorem d_L_law_888 : decode code 888 = .ok (.iconst 4, 1) := by decide +kernel
theorem d_L_law_889 : decode code 889 = .ok (.iadd, 1) := by decide +kernel
theorem d_L_law_890 : decode code 890 = .ok (.iaload, 1) := by decide +kernel
theorem d_L_law_891 : decode code 891 = .ok (.invokevirtual 115, 3) := by decide +kernel
theorem d_L_law_894 : decode code 894 = .ok (.aload_n 2, 1) := by decide +kernel
theorem d_L_law_895 : decode code 895 = .ok (.aload_n 0, 1) := by decide +kernel
theorem d_L_law_896 : decode code 896 = .ok (.iload_n 3, 1) := by decide +kernel
theorem d_L_law_897 : decode code 897 = .ok (.iconst 1, 1) := by decide +kernel
theorem d_L_law_898 : decode code 898 = .ok (.iadd, 1) := by decide +kernel
theorem d_L_law_899 : decode code 899 = .ok (.iaload, 1) := by decide +kernel
theorem d_L_law_900 : decode code 900 = .ok (.aload_n 0, 1) := by decide +kernel
theorem d_L_law_901 : decode code 901 = .ok (.iload_n 3, 1) := by decide +kernel
theorem d_L_law_902 : decode code 902 = .ok (.iconst 2, 1) := by decide +kernel
theorem d_L_law_903 : decode code 903 = .ok (.iadd, 1) := by decide +kernel
theorem d_L_law_904 : decode code 904 = .ok (.iaload, 1) := by decide +kernel
theorem d_L_law_905 : decode code 905 = .ok (.aload_n 0, 1) := by decide +kernel
theorem d_L_law_906 : decode code 906 = .ok (.iload_n 3, 1) := by decide +kernel
theorem d_L_law_907 : decode code 907 = .ok (.iconst 3, 1) := by decide +kernel
theorem d_L_law_908 : decode code 908 = .ok (.iadd, 1) := by decide +kernel
theorem d_L_law_909 : decode code 909 = .ok (.iaload, 1) := by decide +kernel
theorem d_L_law_910 : decode code 910 = .ok (.aload_n 0, 1) := by decide +kernel
theorem d_L_law_911 : decode code 911 = .ok (.iload_n 3, 1) := by decide +kernel
theorem d_L_law_912 : decode code 912 = .ok (.iconst 4, 1) := by decide +kernel
theorem d_L_law_913 : decode code 913 = .ok (.iadd, 1) := by decide +kernel
theorem d_L_law_914 : decode code 914 = .ok (.iaload, 1) := by decide +kernel
theorem d_L_law_915 : decode code 915 = .ok (.invokevirtual 119, 3) := by decide +kernel
theorem d_L_law_918 : decode code 918 = .ok (.lcmp, 1) := by decide +kernel
theorem d_L_law_919 : decode code 919 = .ok (.ifCond .eq 255, 3) := by decide +kernel
theorem d_L_law_922 : decode code 922 = .ok (.iconst 0, 1) := by decide +kernel
theorem d_L_law_923 : decode code 923 = .ok (.ireturn, 1) := by decide +kernel
theorem d_L_law_924 : decode code 924 = .ok (.aload_n 1, 1) := by decide +kernel
theorem d_L_law_925 : decode code 925 = .ok (.invokevirtual 120, 3) := by decide +kernel
theorem d_L_law_928 : decode code 928 = .ok (.aload_n 2, 1) := by decide +kernel
theorem d_L_law_929 : decode code 929 = .ok (.invokevirtual 123, 3) := by decide +kernel
theorem d_L_law_932 : decode code 932 = .ok (.if_icmp .eq 242, 3) := by decide +kernel
theorem d_L_law_935 : decode code 935 = .ok (.iconst 0, 1) := by decide +kernel
theorem d_L_law_936 : decode code 936 = .ok (.ireturn, 1) := by decide +kernel
theorem d_L_law_937 : decode code 937 = .ok (.aload_n 1, 1) := by decide +kernel
theorem d_L_law_938 : decode code 938 = .ok (.aload_n 0, 1) := by decide +kernel
theorem d_L_law_939 : decode code 939 = .ok (.iload_n 3, 1) := by decide +kernel
theorem d_L_law_940 : decode code 940 = .ok (.iconst 1, 1) := by decide +kernel
theorem d_L_law_941 : decode code 941 = .ok (.iadd, 1) := by decide +kernel
theorem d_L_law_942 : decode code 942 = .ok (.iaload, 1) := by decide +kernel
theorem d_L_law_943 : decode code 943 = .ok (.aload_n 0, 1) := by decide +kernel
theorem d_L_law_944 : decode code 944 = .ok (.iload_n 3, 1) := by decide +kernel
theorem d_L_law_945 : decode code 945 = .ok (.iconst 2, 1) := by decide +kernel
theorem d_L_law_946 : decode code 946 = .ok (.iadd, 1) := by decide +kernel
theorem d_L_law_947 : decode code 947 = .ok (.iaload, 1) := by decide +kernel
theorem d_L_law_948 : decode code 948 = .ok (.aload_n 0, 1) := by decide +kernel
theorem d_L_law_949 : decode code 949 = .ok (.iload_n 3, 1) := by decide +kernel
theorem d_L_law_950 : decode code 950 = .ok (.iconst 3, 1) := by decide +kernel
theorem d_L_law_951 : decode code 951 = .ok (.iadd, 1) := by decide +kernel
theorem d_L_law_952 : decode code 952 = .ok (.iaload, 1) := by decide +kernel
theorem d_L_law_953 : decode code 953 = .ok (.invokevirtual 124, 3) := by decide +kernel
theorem d_L_law_956 : decode code 956 = .ok (.aload_n 2, 1) := by decide +kernel
theorem d_L_law_957 : decode code 957 = .ok (.aload_n 0, 1) := by decide +kernel
theorem d_L_law_958 : decode code 958 = .ok (.iload_n 3, 1) := by decide +kernel
theorem d_L_law_959 : decode code 959 = .ok (.iconst 1, 1) := by decide +kernel
theorem d_L_law_960 : decode code 960 = .ok (.iadd, 1) := by decide +kernel
theorem d_L_law_961 : decode code 961 = .ok (.iaload, 1) := by decide +kernel
theorem d_L_law_962 : decode code 962 = .ok (.aload_n 0, 1) := by decide +kernel
theorem d_L_law_963 : decode code 963 = .ok (.iload_n 3, 1) := by decide +kernel
theorem d_L_law_964 : decode code 964 = .ok (.iconst 2, 1) := by decide +kernel
theorem d_L_law_965 : decode code 965 = .ok (.iadd, 1) := by decide +kernel
theorem d_L_law_966 : decode code 966 = .ok (.iaload, 1) := by decide +kernel
theorem d_L_law_967 : decode code 967 = .ok (.aload_n 0, 1) := by decide +kernel
theorem d_L_law_968 : decode code 968 = .ok (.iload_n 3, 1) := by decide +kernel
theorem d_L_law_969 : decode code 969 = .ok (.iconst 3, 1) := by decide +kernel
theorem d_L_law_970 : decode code 970 = .ok (.iadd, 1) := by decide +kernel
theorem d_L_law_971 : decode code 971 = .ok (.iaload, 1) := by decide +kernel
theorem d_L_law_972 : decode code 972 = .ok (.invokevirtual 127, 3) := by decide +kernel
theorem d_L_law_975 : decode code 975 = .ok (.if_icmp .eq 199, 3) := by decide +kernel
theorem d_L_law_978 : decode code 978 = .ok (.iconst 0, 1) := by decide +kernel
theorem d_L_law_979 : decode code 979 = .ok (.ireturn, 1) := by decide +kernel
theorem d_L_law_980 : decode code 980 = .ok (.aload_n 1, 1) := by decide +kernel
theorem d_L_law_981 : decode code 981 = .ok (.aload_n 0, 1) := by decide +kernel
theorem d_L_law_982 : decode code 982 = .ok (.iload_n 3, 1) := by decide +kernel
theorem d_L_law_983 : decode code 983 = .ok (.iconst 1, 1) := by decide +kernel
theorem d_L_law_984 : decode code 984 = .ok (.iadd, 1) := by decide +kernel
theorem d_L_law_985 : decode code 985 = .ok (.iaload, 1) := by decide +kernel
theorem d_L_law_986 : decode code 986 = .ok (.invokevirtual 128, 3) := by decide +kernel
theorem d_L_law_989 : decode code 989 = .ok (.aload_n 2, 1) := by decide +kernel
theorem d_L_law_990 : decode code 990 = .ok (.aload_n 0, 1) := by decide +kernel
theorem d_L_law_991 : decode code 991 = .ok (.iload_n 3, 1) := by decide +kernel
theorem d_L_law_992 : decode code 992 = .ok (.iconst 1, 1) := by decide +kernel
theorem d_L_law_993 : decode code 993 = .ok (.iadd, 1) := by decide +kernel
theorem d_L_law_994 : decode code 994 = .ok (.iaload, 1) := by decide +kernel
theorem d_L_law_995 : decode code 995 = .ok (.invokevirtual 131, 3) := by decide +kernel
theorem d_L_law_998 : decode code 998 = .ok (.if_icmp .eq 176, 3) := by decide +kernel
theorem d_L_law_1001 : decode code 1001 = .ok (.iconst 0, 1) := by decide +kernel
theorem d_L_law_1002 : decode code 1002 = .ok (.ireturn, 1) := by decide +kernel
theorem d_L_law_1003 : decode code 1003 = .ok (.aload_n 1, 1) := by decide +kernel
theorem d_L_law_1004 : decode code 1004 = .ok (.aload_n 0, 1) := by decide +kernel
theorem d_L_law_1005 : decode code 1005 = .ok (.iload_n 3, 1) := by decide +kernel
theorem d_L_law_1006 : decode code 1006 = .ok (.iconst 1, 1) := by decide +kernel
theorem d_L_law_1007 : decode code 1007 = .ok (.iadd, 1) := by decide +kernel
theorem d_L_law_1008 : decode code 1008 = .ok (.iaload, 1) := by decide +kernel
theorem d_L_law_1009 : decode code 1009 = .ok (.invokevirtual 132, 3) := by decide +kernel
theorem d_L_law_1012 : decode code 1012 = .ok (.aload_n 2, 1) := by decide +kernel
theorem d_L_law_1013 : decode code 1013 = .ok (.aload_n 0, 1) := by decide +kernel
theorem d_L_law_1014 : decode code 1014 = .ok (.iload_n 3, 1) := by decide +kernel
theorem d_L_law_1015 : decode code 1015 = .ok (.iconst 1, 1) := by decide +kernel
theorem d_L_law_1016 : decode code 1016 = .ok (.iadd, 1) := by decide +kernel
theorem d_L_law_1017 : decode code 1017 = .ok (.iaload, 1) := by decide +kernel
theorem d_L_law_1018 : decode code 1018 = .ok (.invokevirtual 135, 3) := by decide +kernel
theorem d_L_law_1021 : decode code 1021 = .ok (.if_icmp .eq 153, 3) := by decide +kernel
theorem d_L_law_1024 : decode code 1024 = .ok (.iconst 0, 1) := by decide +kernel
theorem d_L_law_1025 : decode code 1025 = .ok (.ireturn, 1) := by decide +kernel
theorem d_L_law_1026 : decode code 1026 = .ok (.aload_n 1, 1) := by decide +kernel
theorem d_L_law_1027 : decode code 1027 = .ok (.aload_n 0, 1) := by decide +kernel
theorem d_L_law_1028 : decode code 1028 = .ok (.iload_n 3, 1) := by decide +kernel
theorem d_L_law_1029 : decode code 1029 = .ok (.iconst 1, 1) := by decide +kernel
theorem d_L_law_1030 : decode code 1030 = .ok (.iadd, 1) := by decide +kernel
theorem d_L_law_1031 : decode code 1031 = .ok (.iaload, 1) := by decide +kernel
theorem d_L_law_1032 : decode code 1032 = .ok (.invokevirtual 136, 3) := by decide +kernel
theorem d_L_law_1035 : decode code 1035 = .ok (.aload_n 2, 1) := by decide +kernel
theorem d_L_law_1036 : decode code 1036 = .ok (.aload_n 0, 1) := by decide +kernel
theorem d_L_law_1037 : decode code 1037 = .ok (.iload_n 3, 1) := by decide +kernel
theorem d_L_law_1038 : decode code 1038 = .ok (.iconst 1, 1) := by decide +kernel
theorem d_L_law_1039 : decode code 1039 = .ok (.iadd, 1) := by decide +kernel
theorem d_L_law_1040 : decode code 1040 = .ok (.iaload, 1) := by decide +kernel
theorem d_L_law_1041 : decode code 1041 = .ok (.invokevirtual 139, 3) := by decide +kernel
theorem d_L_law_1044 : decode code 1044 = .ok (.if_icmp .eq 130, 3) := by decide +kernel
theorem d_L_law_1047 : decode code 1047 = .ok (.iconst 0, 1) := by decide +kernel
theorem d_L_law_1048 : decode code 1048 = .ok (.ireturn, 1) := by decide +kernel
theorem d_L_law_1049 : decode code 1049 = .ok (.aload_n 1, 1) := by decide +kernel
theorem d_L_law_1050 : decode code 1050 = .ok (.aload_n 0, 1) := by decide +kernel
theorem d_L_law_1051 : decode code 1051 = .ok (.iload_n 3, 1) := by decide +kernel
theorem d_L_law_1052 : decode code 1052 = .ok (.iconst 1, 1) := by decide +kernel
theorem d_L_law_1053 : decode code 1053 = .ok (.iadd, 1) := by decide +kernel
theorem d_L_law_1054 : decode code 1054 = .ok (.iaload, 1) := by decide +kernel
theorem d_L_law_1055 : decode code 1055 = .ok (.aload_n 0, 1) := by decide +kernel
theorem d_L_law_1056 : decode code 1056 = .ok (.iload_n 3, 1) := by decide +kernel
theorem d_L_law_1057 : decode code 1057 = .ok (.iconst 2, 1) := by decide +kernel
theorem d_L_law_1058 : decode code 1058 = .ok (.iadd, 1) := by decide +kernel
theorem d_L_law_1059 : decode code 1059 = .ok (.iaload, 1) := by decide +kernel
theorem d_L_law_1060 : decode code 1060 = .ok (.invokevirtual 140, 3) := by decide +kernel
theorem d_L_law_1063 : decode code 1063 = .ok (.aload_n 2, 1) := by decide +kernel
theorem d_L_law_1064 : decode code 1064 = .ok (.aload_n 0, 1) := by decide +kernel
theorem d_L_law_1065 : decode code 1065 = .ok (.iload_n 3, 1) := by decide +kernel
theorem d_L_law_1066 : decode code 1066 = .ok (.iconst 1, 1) := by decide +kernel
theorem d_L_law_1067 : decode code 1067 = .ok (.iadd, 1) := by decide +kernel
theorem d_L_law_1068 : decode code 1068 = .ok (.iaload, 1) := by decide +kernel
theorem d_L_law_1069 : decode code 1069 = .ok (.aload_n 0, 1) := by decide +kernel
theorem d_L_law_1070 : decode code 1070 = .ok (.iload_n 3, 1) := by decide +kernel
theorem d_L_law_1071 : decode code 1071 = .ok (.iconst 2, 1) := by decide +kernel
theorem d_L_law_1072 : decode code 1072 = .ok (.iadd, 1) := by decide +kernel
theorem d_L_law_1073 : decode code 1073 = .ok (.iaload, 1) := by decide +kernel
theorem d_L_law_1074 : decode code 1074 = .ok (.invokevirtual 143, 3) := by decide +kernel
theorem d_L_law_1077 : decode code 1077 = .ok (.if_icmp .eq 97, 3) := by decide +kernel
theorem d_L_law_1080 : decode code 1080 = .ok (.iconst 0, 1) := by decide +kernel
theorem d_L_law_1081 : decode code 1081 = .ok (.ireturn, 1) := by decide +kernel
theorem d_L_law_1082 : decode code 1082 = .ok (.aload_n 1, 1) := by decide +kernel
theorem d_L_law_1083 : decode code 1083 = .ok (.aload_n 0, 1) := by decide +kernel
theorem d_L_law_1084 : decode code 1084 = .ok (.iload_n 3, 1) := by decide +kernel
theorem d_L_law_1085 : decode code 1085 = .ok (.iconst 1, 1) := by decide +kernel
theorem d_L_law_1086 : decode code 1086 = .ok (.iadd, 1) := by decide +kernel
theorem d_L_law_1087 : decode code 1087 = .ok (.iaload, 1) := by decide +kernel
theorem d_L_law_1088 : decode code 1088 = .ok (.aload_n 0, 1) := by decide +kernel
theorem d_L_law_1089 : decode code 1089 = .ok (.iload_n 3, 1) := by decide +kernel
theorem d_L_law_1090 : decode code 1090 = .ok (.iconst 2, 1) := by decide +kernel
theorem d_L_law_1091 : decode code 1091 = .ok (.iadd, 1) := by decide +kernel
theorem d_L_law_1092 : decode code 1092 = .ok (.iaload, 1) := by decide +kernel
theorem d_L_law_1093 : decode code 1093 = .ok (.invokevirtual 144, 3) := by decide +kernel
theorem d_L_law_1096 : decode code 1096 = .ok (.aload_n 2, 1) := by decide +kernel
theorem d_L_law_1097 : decode code 1097 = .ok (.aload_n 0, 1) := by decide +kernel
theorem d_L_law_1098 : decode code 1098 = .ok (.iload_n 3, 1) := by decide +kernel
theorem d_L_law_1099 : decode code 1099 = .ok (.iconst 1, 1) := by decide +kernel
theorem d_L_law_1100 : decode code 1100 = .ok (.iadd, 1) := by decide +kernel
theorem d_L_law_1101 : decode code 1101 = .ok (.iaload, 1) := by decide +kernel
theorem d_L_law_1102 : decode code 1102 = .ok (.aload_n 0, 1) := by decide +kernel
theorem d_L_law_1103 : decode code 1103 = .ok (.iload_n 3, 1) := by decide +kernel
theorem d_L_law_1104 : decode code 1104 = .ok (.iconst 2, 1) := by decide +kernel
theorem d_L_law_1105 : decode code 1105 = .ok (.iadd, 1) := by decide +kernel
theorem d_L_law_1106 : decode code 1106 = .ok (.iaload, 1) := by decide +kernel
theorem d_L_law_1107 : decode code 1107 = .ok (.invokevirtual 147, 3) := by decide +kernel
theorem d_L_law_1110 : decode code 1110 = .ok (.if_icmp .eq 64, 3) := by decide +kernel
theorem d_L_law_1113 : decode code 1113 = .ok (.iconst 0, 1) := by decide +kernel
theorem d_L_law_1114 : decode code 1114 = .ok (.ireturn, 1) := by decide +kernel
theorem d_L_law_1115 : decode code 1115 = .ok (.aload_n 1, 1) := by decide +kernel
theorem d_L_law_1116 : decode code 1116 = .ok (.aload_n 0, 1) := by decide +kernel
theorem d_L_law_1117 : decode code 1117 = .ok (.iload_n 3, 1) := by decide +kernel
theorem d_L_law_1118 : decode code 1118 = .ok (.iconst 1, 1) := by decide +kernel
theorem d_L_law_1119 : decode code 1119 = .ok (.iadd, 1) := by decide +kernel
theorem d_L_law_1120 : decode code 1120 = .ok (.iaload, 1) := by decide +kernel
theorem d_L_law_1121 : decode code 1121 = .ok (.invokevirtual 148, 3) := by decide +kernel
theorem d_L_law_1124 : decode code 1124 = .ok (.aload_n 2, 1) := by decide +kernel
theorem d_L_law_1125 : decode code 1125 = .ok (.aload_n 0, 1) := by decide +kernel
theorem d_L_law_1126 : decode code 1126 = .ok (.iload_n 3, 1) := by decide +kernel
theorem d_L_law_1127 : decode code 1127 = .ok (.iconst 1, 1) := by decide +kernel
theorem d_L_law_1128 : decode code 1128 = .ok (.iadd, 1) := by decide +kernel
theorem d_L_law_1129 : decode code 1129 = .ok (.iaload, 1) := by decide +kernel
theorem d_L_law_1130 : decode code 1130 = .ok (.invokevirtual 151, 3) := by decide +kernel
theorem d_L_law_1133 : decode code 1133 = .ok (.if_icmp .eq 41, 3) := by decide +kernel
theorem d_L_law_1136 : decode code 1136 = .ok (.iconst 0, 1) := by decide +kernel
theorem d_L_law_1137 : decode code 1137 = .ok (.ireturn, 1) := by decide +kernel
theorem d_L_law_1138 : decode code 1138 = .ok (.aload_n 1, 1) := by decide +kernel
theorem d_L_law_1139 : decode code 1139 = .ok (.aload_n 0, 1) := by decide +kernel
theorem d_L_law_1140 : decode code 1140 = .ok (.iload_n 3, 1) := by decide +kernel
theorem d_L_law_1141 : decode code 1141 = .ok (.iconst 1, 1) := by decide +kernel
theorem d_L_law_1142 : decode code 1142 = .ok (.iadd, 1) := by decide +kernel
theorem d_L_law_1143 : decode code 1143 = .ok (.iaload, 1) := by decide +kernel
theorem d_L_law_1144 : decode code 1144 = .ok (.invokevirtual 152, 3) := by decide +kernel
theorem d_L_law_1147 : decode code 1147 = .ok (.aload_n 2, 1) := by decide +kernel
theorem d_L_law_1148 : decode code 1148 = .ok (.aload_n 0, 1) := by decide +kernel
theorem d_L_law_1149 : decode code 1149 = .ok (.iload_n 3, 1) := by decide +kernel
theorem d_L_law_1150 : decode code 1150 = .ok (.iconst 1, 1) := by decide +kernel
theorem d_L_law_1151 : decode code 1151 = .ok (.iadd, 1) := by decide +kernel
theorem d_L_law_1152 : decode code 1152 = .ok (.iaload, 1) := by decide +kernel
theorem d_L_law_1153 : decode code 1153 = .ok (.invokevirtual 155, 3) := by decide +kernel
theorem d_L_law_1156 : decode code 1156 = .ok (.if_icmp .eq 18, 3) := by decide +kernel
theorem d_L_law_1159 : decode code 1159 = .ok (.iconst 0, 1) := by decide +kernel
theorem d_L_law_1160 : decode code 1160 = .ok (.ireturn, 1) := by decide +kernel
theorem d_L_law_1161 : decode code 1161 = .ok (.aload_n 1, 1) := by decide +kernel
theorem d_L_law_1162 : decode code 1162 = .ok (.invokevirtual 156, 3) := by decide +kernel
theorem d_L_law_1165 : decode code 1165 = .ok (.aload_n 2, 1) := by decide +kernel
theorem d_L_law_1166 : decode code 1166 = .ok (.invokevirtual 159, 3) := by decide +kernel
theorem d_L_law_1169 : decode code 1169 = .ok (.if_icmp .eq 5, 3) := by decide +kernel
theorem d_L_law_1172 : decode code 1172 = .ok (.iconst 0, 1) := by decide +kernel
theorem d_L_law_1173 : decode code 1173 = .ok (.ireturn, 1) := by decide +kernel
theorem d_L_law_1174 : decode code 1174 = .ok (.iinc 3 6, 3) := by decide +kernel
theorem d_L_law_1177 : decode code 1177 = .ok (.goto (-1159), 3) := by decide +kernel
theorem d_L_law_1180 : decode code 1180 = .ok (.iconst 1, 1) := by decide +kernel
theorem d_L_law_1181 : decode code 1181 = .ok (.ireturn, 1) := by decide +kernel
