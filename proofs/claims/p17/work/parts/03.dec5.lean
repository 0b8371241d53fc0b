theorem dX10_logicNow_45 : decode cX10_logicNow 45 = .ok (.aload_n 0, 1) := by decide +kernel
theorem dX10_logicNow_46 : decode cX10_logicNow 46 = .ok (.getfield 232, 3) := by decide +kernel
theorem dX10_logicNow_49 : decode cX10_logicNow 49 = .ok (.ireturn, 1) := by decide +kernel
theorem dX10_logicNow_50 : decode cX10_logicNow 50 = .ok (.aload_n 0, 1) := by decide +kernel
theorem dX10_logicNow_51 : decode cX10_logicNow 51 = .ok (.getfield 241, 3) := by decide +kernel
theorem dX10_logicNow_54 : decode cX10_logicNow 54 = .ok (.ireturn, 1) := by decide +kernel
theorem dX10_logicNow_55 : decode cX10_logicNow 55 = .ok (.aload_n 0, 1) := by decide +kernel
theorem dX10_logicNow_56 : decode cX10_logicNow 56 = .ok (.invokevirtual 254, 3) := by decide +kernel
theorem dX10_logicNow_59 : decode cX10_logicNow 59 = .ok (.ireturn, 1) := by decide +kernel
theorem dX10_logicNow_60 : decode cX10_logicNow 60 = .ok (.aload_n 0, 1) := by decide +kernel
theorem dX10_logicNow_61 : decode cX10_logicNow 61 = .ok (.iconst 1, 1) := by decide +kernel
theorem dX10_logicNow_62 : decode cX10_logicNow 62 = .ok (.invokevirtual 257, 3) := by decide +kernel
theorem dX10_logicNow_65 : decode cX10_logicNow 65 = .ok (.ireturn, 1) := by decide +kernel
theorem dX10_logicNow_66 : decode cX10_logicNow 66 = .ok (.aload_n 0, 1) := by decide +kernel
theorem dX10_logicNow_67 : decode cX10_logicNow 67 = .ok (.iconst 0, 1) := by decide +kernel
theorem dX10_logicNow_68 : decode cX10_logicNow 68 = .ok (.invokevirtual 257, 3) := by decide +kernel
theorem dX10_logicNow_71 : decode cX10_logicNow 71 = .ok (.ireturn, 1) := by decide +kernel
theorem dX10_logic_0 : decode cX10_logic 0 = .ok (.aload_n 0, 1) := by decide +kernel
theorem dX10_logic_1 : decode cX10_logic 1 = .ok (.invokevirtual 208, 3) := by decide +kernel
theorem dX10_logic_4 : decode cX10_logic 4 = .ok (.ifCond .ne 7, 3) := by decide +kernel
theorem dX10_logic_7 : decode cX10_logic 7 = .ok (.sipush (-1003), 3) := by decide +kernel
theorem dX10_logic_10 : decode cX10_logic 10 = .ok (.ireturn, 1) := by decide +kernel
theorem dX10_logic_11 : decode cX10_logic 11 = .ok (.iload_n 1, 1) := by decide +kernel
theorem dX10_logic_12 : decode cX10_logic 12 = .ok (.iconst 0, 1) := by decide +kernel
theorem dX10_logic_13 : decode cX10_logic 13 = .ok (.aload_n 0, 1) := by decide +kernel
theorem dX10_logic_14 : decode cX10_logic 14 = .ok (.getfield 99, 3) := by decide +kernel
theorem dX10_logic_17 : decode cX10_logic 17 = .ok (.iconst 1, 1) := by decide +kernel
theorem dX10_logic_18 : decode cX10_logic 18 = .ok (.isub, 1) := by decide +kernel
theorem dX10_logic_19 : decode cX10_logic 19 = .ok (.invokestatic 60, 3) := by decide +kernel
theorem dX10_logic_22 : decode cX10_logic 22 = .ok (.ifCond .ne 7, 3) := by decide +kernel
theorem dX10_logic_25 : decode cX10_logic 25 = .ok (.sipush (-1001), 3) := by decide +kernel
theorem dX10_logic_28 : decode cX10_logic 28 = .ok (.ireturn, 1) := by decide +kernel
theorem dX10_logic_29 : decode cX10_logic 29 = .ok (.iload_n 2, 1) := by decide +kernel
theorem dX10_logic_30 : decode cX10_logic 30 = .ok (.iconst 0, 1) := by decide +kernel
theorem dX10_logic_31 : decode cX10_logic 31 = .ok (.iconst 5, 1) := by decide +kernel
theorem dX10_logic_32 : decode cX10_logic 32 = .ok (.invokestatic 60, 3) := by decide +kernel
theorem dX10_logic_35 : decode cX10_logic 35 = .ok (.ifCond .eq 12, 3) := by decide +kernel
theorem dX10_logic_38 : decode cX10_logic 38 = .ok (.aload_n 0, 1) := by decide +kernel
theorem dX10_logic_39 : decode cX10_logic 39 = .ok (.iload_n 1, 1) := by decide +kernel
theorem dX10_logic_40 : decode cX10_logic 40 = .ok (.iload_n 2, 1) := by decide +kernel
theorem dX10_logic_41 : decode cX10_logic 41 = .ok (.invokevirtual 260, 3) := by decide +kernel
theorem dX10_logic_44 : decode cX10_logic 44 = .ok (.goto 6, 3) := by decide +kernel
theorem dX10_logic_47 : decode cX10_logic 47 = .ok (.sipush (-1002), 3) := by decide +kernel
theorem dX10_logic_50 : decode cX10_logic 50 = .ok (.ireturn, 1) := by decide +kernel
theorem dX10_product_0 : decode cX10_product 0 = .ok (.aload_n 0, 1) := by decide +kernel
theorem dX10_product_1 : decode cX10_product 1 = .ok (.invokevirtual 208, 3) := by decide +kernel
theorem dX10_product_4 : decode cX10_product 4 = .ok (.ifCond .ne 7, 3) := by decide +kernel
theorem dX10_product_7 : decode cX10_product 7 = .ok (.sipush (-1003), 3) := by decide +kernel
theorem dX10_product_10 : decode cX10_product 10 = .ok (.ireturn, 1) := by decide +kernel
theorem dX10_product_11 : decode cX10_product 11 = .ok (.iload_n 1, 1) := by decide +kernel
theorem dX10_product_12 : decode cX10_product 12 = .ok (.iconst 0, 1) := by decide +kernel
theorem dX10_product_13 : decode cX10_product 13 = .ok (.aload_n 0, 1) := by decide +kernel
theorem dX10_product_14 : decode cX10_product 14 = .ok (.getfield 99, 3) := by decide +kernel
theorem dX10_product_17 : decode cX10_product 17 = .ok (.iconst 1, 1) := by decide +kernel
theorem dX10_product_18 : decode cX10_product 18 = .ok (.isub, 1) := by decide +kernel
theorem dX10_product_19 : decode cX10_product 19 = .ok (.invokestatic 60, 3) := by decide +kernel
theorem dX10_product_22 : decode cX10_product 22 = .ok (.ifCond .ne 7, 3) := by decide +kernel
theorem dX10_product_25 : decode cX10_product 25 = .ok (.sipush (-1001), 3) := by decide +kernel
theorem dX10_product_28 : decode cX10_product 28 = .ok (.ireturn, 1) := by decide +kernel
theorem dX10_product_29 : decode cX10_product 29 = .ok (.aload_n 0, 1) := by decide +kernel
theorem dX10_product_30 : decode cX10_product 30 = .ok (.iload_n 1, 1) := by decide +kernel
theorem dX10_product_31 : decode cX10_product 31 = .ok (.invokevirtual 251, 3) := by decide +kernel
theorem dX10_product_34 : decode cX10_product 34 = .ok (.iload_n 2, 1) := by decide +kernel
theorem dX10_product_35 : decode cX10_product 35 = .ok (.iconst 0, 1) := by decide +kernel
theorem dX10_product_36 : decode cX10_product 36 = .ok (.aload_n 0, 1) := by decide +kernel
theorem dX10_product_37 : decode cX10_product 37 = .ok (.getfield 232, 3) := by decide +kernel
theorem dX10_product_40 : decode cX10_product 40 = .ok (.iconst 1, 1) := by decide +kernel
theorem dX10_product_41 : decode cX10_product 41 = .ok (.isub, 1) := by decide +kernel
theorem dX10_product_42 : decode cX10_product 42 = .ok (.invokestatic 60, 3) := by decide +kernel
theorem dX10_product_45 : decode cX10_product 45 = .ok (.ifCond .ne 7, 3) := by decide +kernel
theorem dX10_product_48 : decode cX10_product 48 = .ok (.sipush (-1001), 3) := by decide +kernel
theorem dX10_product_51 : decode cX10_product 51 = .ok (.ireturn, 1) := by decide +kernel
theorem dX10_product_52 : decode cX10_product 52 = .ok (.iload_n 3, 1) := by decide +kernel
theorem dX10_product_53 : decode cX10_product 53 = .ok (.ifCond .ne 17, 3) := by decide +kernel
theorem dX10_product_56 : decode cX10_product 56 = .ok (.aload_n 0, 1) := by decide +kernel
theorem dX10_product_57 : decode cX10_product 57 = .ok (.getfield 51, 3) := by decide +kernel
theorem dX10_product_60 : decode cX10_product 60 = .ok (.aload_n 0, 1) := by decide +kernel
theorem dX10_product_61 : decode cX10_product 61 = .ok (.getfield 57, 3) := by decide +kernel
theorem dX10_product_64 : decode cX10_product 64 = .ok (.iload_n 2, 1) := by decide +kernel
theorem dX10_product_65 : decode cX10_product 65 = .ok (.iaload, 1) := by decide +kernel
theorem dX10_product_66 : decode cX10_product 66 = .ok (.iaload, 1) := by decide +kernel
theorem dX10_product_67 : decode cX10_product 67 = .ok (.goto 25, 3) := by decide +kernel
theorem dX10_product_70 : decode cX10_product 70 = .ok (.iload_n 3, 1) := by decide +kernel
theorem dX10_product_71 : decode cX10_product 71 = .ok (.iconst 1, 1) := by decide +kernel
theorem dX10_product_72 : decode cX10_product 72 = .ok (.if_icmp .ne 17, 3) := by decide +kernel
theorem dX10_product_75 : decode cX10_product 75 = .ok (.aload_n 0, 1) := by decide +kernel
theorem dX10_product_76 : decode cX10_product 76 = .ok (.getfield 54, 3) := by decide +kernel
theorem dX10_product_79 : decode cX10_product 79 = .ok (.aload_n 0, 1) := by decide +kernel
theorem dX10_product_80 : decode cX10_product 80 = .ok (.getfield 57, 3) := by decide +kernel
theorem dX10_product_83 : decode cX10_product 83 = .ok (.iload_n 2, 1) := by decide +kernel
theorem dX10_product_84 : decode cX10_product 84 = .ok (.iaload, 1) := by decide +kernel
theorem dX10_product_85 : decode cX10_product 85 = .ok (.iaload, 1) := by decide +kernel
theorem dX10_product_86 : decode cX10_product 86 = .ok (.goto 6, 3) := by decide +kernel
theorem dX10_product_89 : decode cX10_product 89 = .ok (.sipush (-1002), 3) := by decide +kernel
theorem dX10_product_92 : decode cX10_product 92 = .ok (.ireturn, 1) := by decide +kernel
theorem dX10_wide_0 : decode cX10_wide 0 = .ok (.aload_n 0, 1) := by decide +kernel
theorem dX10_wide_1 : decode cX10_wide 1 = .ok (.invokevirtual 208, 3) := by decide +kernel
theorem dX10_wide_4 : decode cX10_wide 4 = .ok (.ifCond .ne 7, 3) := by decide +kernel
theorem dX10_wide_7 : decode cX10_wide 7 = .ok (.sipush (-1003), 3) := by decide +kernel
theorem dX10_wide_10 : decode cX10_wide 10 = .ok (.ireturn, 1) := by decide +kernel
theorem dX10_wide_11 : decode cX10_wide 11 = .ok (.iload_n 1, 1) := by decide +kernel
theorem dX10_wide_12 : decode cX10_wide 12 = .ok (.iconst 0, 1) := by decide +kernel
theorem dX10_wide_13 : decode cX10_wide 13 = .ok (.aload_n 0, 1) := by decide +kernel
theorem dX10_wide_14 : decode cX10_wide 14 = .ok (.getfield 99, 3) := by decide +kernel
theorem dX10_wide_17 : decode cX10_wide 17 = .ok (.iconst 1, 1) := by decide +kernel
theorem dX10_wide_18 : decode cX10_wide 18 = .ok (.isub, 1) := by decide +kernel
theorem dX10_wide_19 : decode cX10_wide 19 = .ok (.invokestatic 60, 3) := by decide +kernel
theorem dX10_wide_22 : decode cX10_wide 22 = .ok (.ifCond .ne 7, 3) := by decide +kernel
theorem dX10_wide_25 : decode cX10_wide 25 = .ok (.sipush (-1001), 3) := by decide +kernel
theorem dX10_wide_28 : decode cX10_wide 28 = .ok (.ireturn, 1) := by decide +kernel
theorem dX10_wide_29 : decode cX10_wide 29 = .ok (.aload_n 0, 1) := by decide +kernel
theorem dX10_wide_30 : decode cX10_wide 30 = .ok (.iload_n 1, 1) := by decide +kernel
theorem dX10_wide_31 : decode cX10_wide 31 = .ok (.invokevirtual 251, 3) := by decide +kernel
theorem dX10_wide_34 : decode cX10_wide 34 = .ok (.iload_n 2, 1) := by decide +kernel
theorem dX10_wide_35 : decode cX10_wide 35 = .ok (.iconst 0, 1) := by decide +kernel
theorem dX10_wide_36 : decode cX10_wide 36 = .ok (.aload_n 0, 1) := by decide +kernel
theorem dX10_wide_37 : decode cX10_wide 37 = .ok (.getfield 226, 3) := by decide +kernel
theorem dX10_wide_40 : decode cX10_wide 40 = .ok (.iconst 1, 1) := by decide +kernel
theorem dX10_wide_41 : decode cX10_wide 41 = .ok (.isub, 1) := by decide +kernel
theorem dX10_wide_42 : decode cX10_wide 42 = .ok (.invokestatic 60, 3) := by decide +kernel
theorem dX10_wide_45 : decode cX10_wide 45 = .ok (.ifCond .ne 7, 3) := by decide +kernel
theorem dX10_wide_48 : decode cX10_wide 48 = .ok (.sipush (-1001), 3) := by decide +kernel
theorem dX10_wide_51 : decode cX10_wide 51 = .ok (.ireturn, 1) := by decide +kernel
theorem dX10_wide_52 : decode cX10_wide 52 = .ok (.iload_n 3, 1) := by decide +kernel
theorem dX10_wide_53 : decode cX10_wide 53 = .ok (.ifCond .ne 12, 3) := by decide +kernel
theorem dX10_wide_56 : decode cX10_wide 56 = .ok (.aload_n 0, 1) := by decide +kernel
theorem dX10_wide_57 : decode cX10_wide 57 = .ok (.getfield 51, 3) := by decide +kernel
theorem dX10_wide_60 : decode cX10_wide 60 = .ok (.iload_n 2, 1) := by decide +kernel
theorem dX10_wide_61 : decode cX10_wide 61 = .ok (.iaload, 1) := by decide +kernel
theorem dX10_wide_62 : decode cX10_wide 62 = .ok (.goto 20, 3) := by decide +kernel
theorem dX10_wide_65 : decode cX10_wide 65 = .ok (.iload_n 3, 1) := by decide +kernel
theorem dX10_wide_66 : decode cX10_wide 66 = .ok (.iconst 1, 1) := by decide +kernel
theorem dX10_wide_67 : decode cX10_wide 67 = .ok (.if_icmp .ne 12, 3) := by decide +kernel
theorem dX10_wide_70 : decode cX10_wide 70 = .ok (.aload_n 0, 1) := by decide +kernel
theorem dX10_wide_71 : decode cX10_wide 71 = .ok (.getfield 54, 3) := by decide +kernel
theorem dX10_wide_74 : decode cX10_wide 74 = .ok (.iload_n 2, 1) := by decide +kernel
theorem dX10_wide_75 : decode cX10_wide 75 = .ok (.iaload, 1) := by decide +kernel
theorem dX10_wide_76 : decode cX10_wide 76 = .ok (.goto 6, 3) := by decide +kernel
theorem dX10_wide_79 : decode cX10_wide 79 = .ok (.sipush (-1002), 3) := by decide +kernel
theorem dX10_wide_82 : decode cX10_wide 82 = .ok (.ireturn, 1) := by decide +kernel
theorem dX10_walk_0 : decode cX10_walk 0 = .ok (.iload_n 1, 1) := by decide +kernel
theorem dX10_walk_1 : decode cX10_walk 1 = .ok (.iconst 0, 1) := by decide +kernel
theorem dX10_walk_2 : decode cX10_walk 2 = .ok (.aload_n 0, 1) := by decide +kernel
theorem dX10_walk_3 : decode cX10_walk 3 = .ok (.getfield 87, 3) := by decide +kernel
theorem dX10_walk_6 : decode cX10_walk 6 = .ok (.iconst 1, 1) := by decide +kernel
theorem dX10_walk_7 : decode cX10_walk 7 = .ok (.isub, 1) := by decide +kernel
theorem dX10_walk_8 : decode cX10_walk 8 = .ok (.invokestatic 60, 3) := by decide +kernel
theorem dX10_walk_11 : decode cX10_walk 11 = .ok (.ifCond .ne 7, 3) := by decide +kernel
theorem dX10_walk_14 : decode cX10_walk 14 = .ok (.sipush (-1001), 3) := by decide +kernel
theorem dX10_walk_17 : decode cX10_walk 17 = .ok (.ireturn, 1) := by decide +kernel
theorem dX10_walk_18 : decode cX10_walk 18 = .ok (.aload_n 0, 1) := by decide +kernel
theorem dX10_walk_19 : decode cX10_walk 19 = .ok (.getfield 19, 3) := by decide +kernel
theorem dX10_walk_22 : decode cX10_walk 22 = .ok (.istore_n 2, 1) := by decide +kernel
theorem dX10_walk_23 : decode cX10_walk 23 = .ok (.aload_n 0, 1) := by decide +kernel
theorem dX10_walk_24 : decode cX10_walk 24 = .ok (.iload_n 1, 1) := by decide +kernel
theorem dX10_walk_25 : decode cX10_walk 25 = .ok (.putfield 19, 3) := by decide +kernel
theorem dX10_walk_28 : decode cX10_walk 28 = .ok (.aload_n 0, 1) := by decide +kernel
theorem dX10_walk_29 : decode cX10_walk 29 = .ok (.iconst 0, 1) := by decide +kernel
theorem dX10_walk_30 : decode cX10_walk 30 = .ok (.putfield 93, 3) := by decide +kernel
theorem dX10_walk_33 : decode cX10_walk 33 = .ok (.aload_n 0, 1) := by decide +kernel
theorem dX10_walk_34 : decode cX10_walk 34 = .ok (.iconst 0, 1) := by decide +kernel
theorem dX10_walk_35 : decode cX10_walk 35 = .ok (.putfield 96, 3) := by decide +kernel
theorem dX10_walk_38 : decode cX10_walk 38 = .ok (.iload_n 2, 1) := by decide +kernel
theorem dX10_walk_39 : decode cX10_walk 39 = .ok (.ireturn, 1) := by decide +kernel
theorem dX10_turn_0 : decode cX10_turn 0 = .ok (.iload_n 1, 1) := by decide +kernel
theorem dX10_turn_1 : decode cX10_turn 1 = .ok (.iconst 0, 1) := by decide +kernel
theorem dX10_turn_2 : decode cX10_turn 2 = .ok (.aload_n 0, 1) := by decide +kernel
theorem dX10_turn_3 : decode cX10_turn 3 = .ok (.getfield 90, 3) := by decide +kernel
theorem dX10_turn_6 : decode cX10_turn 6 = .ok (.iconst 1, 1) := by decide +kernel
theorem dX10_turn_7 : decode cX10_turn 7 = .ok (.isub, 1) := by decide +kernel
theorem dX10_turn_8 : decode cX10_turn 8 = .ok (.invokestatic 60, 3) := by decide +kernel
theorem dX10_turn_11 : decode cX10_turn 11 = .ok (.ifCond .ne 7, 3) := by decide +kernel
theorem dX10_turn_14 : decode cX10_turn 14 = .ok (.sipush (-1001), 3) := by decide +kernel
theorem dX10_turn_17 : decode cX10_turn 17 = .ok (.ireturn, 1) := by decide +kernel
theorem dX10_turn_18 : decode cX10_turn 18 = .ok (.aload_n 0, 1) := by decide +kernel
theorem dX10_turn_19 : decode cX10_turn 19 = .ok (.getfield 19, 3) := by decide +kernel
theorem dX10_turn_22 : decode cX10_turn 22 = .ok (.iconst (-1), 1) := by decide +kernel
theorem dX10_turn_23 : decode cX10_turn 23 = .ok (.if_icmp .eq 16, 3) := by decide +kernel
theorem dX10_turn_26 : decode cX10_turn 26 = .ok (.aload_n 0, 1) := by decide +kernel
theorem dX10_turn_27 : decode cX10_turn 27 = .ok (.aload_n 0, 1) := by decide +kernel
theorem dX10_turn_28 : decode cX10_turn 28 = .ok (.getfield 19, 3) := by decide +kernel
theorem dX10_turn_31 : decode cX10_turn 31 = .ok (.iload_n 1, 1) := by decide +kernel
theorem dX10_turn_32 : decode cX10_turn 32 = .ok (.invokevirtual 118, 3) := by decide +kernel
theorem dX10_turn_35 : decode cX10_turn 35 = .ok (.iconst (-1), 1) := by decide +kernel
theorem dX10_turn_36 : decode cX10_turn 36 = .ok (.if_icmp .ne 7, 3) := by decide +kernel
theorem dX10_turn_39 : decode cX10_turn 39 = .ok (.sipush (-1003), 3) := by decide +kernel
theorem dX10_turn_42 : decode cX10_turn 42 = .ok (.ireturn, 1) := by decide +kernel
theorem dX10_turn_43 : decode cX10_turn 43 = .ok (.aload_n 0, 1) := by decide +kernel
theorem dX10_turn_44 : decode cX10_turn 44 = .ok (.aload_n 0, 1) := by decide +kernel
theorem dX10_turn_45 : decode cX10_turn 45 = .ok (.getfield 19, 3) := by decide +kernel
theorem dX10_turn_48 : decode cX10_turn 48 = .ok (.iload_n 1, 1) := by decide +kernel
theorem dX10_turn_49 : decode cX10_turn 49 = .ok (.invokevirtual 118, 3) := by decide +kernel
theorem dX10_turn_52 : decode cX10_turn 52 = .ok (.istore_n 2, 1) := by decide +kernel
theorem dX10_turn_53 : decode cX10_turn 53 = .ok (.aload_n 0, 1) := by decide +kernel
theorem dX10_turn_54 : decode cX10_turn 54 = .ok (.dup, 1) := by decide +kernel
theorem dX10_turn_55 : decode cX10_turn 55 = .ok (.getfield 96, 3) := by decide +kernel
theorem dX10_turn_58 : decode cX10_turn 58 = .ok (.aload_n 0, 1) := by decide +kernel
theorem dX10_turn_59 : decode cX10_turn 59 = .ok (.invokevirtual 125, 3) := by decide +kernel
theorem dX10_turn_62 : decode cX10_turn 62 = .ok (.ifCond .eq 23, 3) := by decide +kernel
theorem dX10_turn_65 : decode cX10_turn 65 = .ok (.aload_n 0, 1) := by decide +kernel
theorem dX10_turn_66 : decode cX10_turn 66 = .ok (.aload_n 0, 1) := by decide +kernel
theorem dX10_turn_67 : decode cX10_turn 67 = .ok (.getfield 19, 3) := by decide +kernel
theorem dX10_turn_70 : decode cX10_turn 70 = .ok (.invokevirtual 178, 3) := by decide +kernel
theorem dX10_turn_73 : decode cX10_turn 73 = .ok (.aload_n 0, 1) := by decide +kernel
theorem dX10_turn_74 : decode cX10_turn 74 = .ok (.iload_n 2, 1) := by decide +kernel
theorem dX10_turn_75 : decode cX10_turn 75 = .ok (.invokevirtual 178, 3) := by decide +kernel
theorem dX10_turn_78 : decode cX10_turn 78 = .ok (.ixor, 1) := by decide +kernel
theorem dX10_turn_79 : decode cX10_turn 79 = .ok (.invokestatic 190, 3) := by decide +kernel
theorem dX10_turn_82 : decode cX10_turn 82 = .ok (.goto 4, 3) := by decide +kernel
theorem dX10_turn_85 : decode cX10_turn 85 = .ok (.iconst 0, 1) := by decide +kernel
theorem dX10_turn_86 : decode cX10_turn 86 = .ok (.iadd, 1) := by decide +kernel
theorem dX10_turn_87 : decode cX10_turn 87 = .ok (.putfield 96, 3) := by decide +kernel
theorem dX10_turn_90 : decode cX10_turn 90 = .ok (.aload_n 0, 1) := by decide +kernel
theorem dX10_turn_91 : decode cX10_turn 91 = .ok (.dup, 1) := by decide +kernel
theorem dX10_turn_92 : decode cX10_turn 92 = .ok (.getfield 93, 3) := by decide +kernel
theorem dX10_turn_95 : decode cX10_turn 95 = .ok (.iconst 1, 1) := by decide +kernel
theorem dX10_turn_96 : decode cX10_turn 96 = .ok (.iadd, 1) := by decide +kernel
theorem dX10_turn_97 : decode cX10_turn 97 = .ok (.putfield 93, 3) := by decide +kernel
theorem dX10_turn_100 : decode cX10_turn 100 = .ok (.aload_n 0, 1) := by decide +kernel
theorem dX10_turn_101 : decode cX10_turn 101 = .ok (.iload_n 2, 1) := by decide +kernel
theorem dX10_turn_102 : decode cX10_turn 102 = .ok (.putfield 19, 3) := by decide +kernel
theorem dX10_turn_105 : decode cX10_turn 105 = .ok (.iload_n 2, 1) := by decide +kernel
theorem dX10_turn_106 : decode cX10_turn 106 = .ok (.ireturn, 1) := by decide +kernel
theorem dX10_howMany_0 : decode cX10_howMany 0 = .ok (.iload_n 1, 1) := by decide +kernel
theorem dX10_howMany_1 : decode cX10_howMany 1 = .ok (.tableswitch 78 0 6 #[43, 48, 53, 58, 63, 68, 73], 43) := by decide +kernel
theorem dX10_howMany_44 : decode cX10_howMany 44 = .ok (.aload_n 0, 1) := by decide +kernel
theorem dX10_howMany_45 : decode cX10_howMany 45 = .ok (.getfield 64, 3) := by decide +kernel
theorem dX10_howMany_48 : decode cX10_howMany 48 = .ok (.ireturn, 1) := by decide +kernel
theorem dX10_howMany_49 : decode cX10_howMany 49 = .ok (.aload_n 0, 1) := by decide +kernel
theorem dX10_howMany_50 : decode cX10_howMany 50 = .ok (.getfield 87, 3) := by decide +kernel
theorem dX10_howMany_53 : decode cX10_howMany 53 = .ok (.ireturn, 1) := by decide +kernel
theorem dX10_howMany_54 : decode cX10_howMany 54 = .ok (.aload_n 0, 1) := by decide +kernel
theorem dX10_howMany_55 : decode cX10_howMany 55 = .ok (.getfield 90, 3) := by decide +kernel
theorem dX10_howMany_58 : decode cX10_howMany 58 = .ok (.ireturn, 1) := by decide +kernel
theorem dX10_howMany_59 : decode cX10_howMany 59 = .ok (.aload_n 0, 1) := by decide +kernel
theorem dX10_howMany_60 : decode cX10_howMany 60 = .ok (.getfield 19, 3) := by decide +kernel
theorem dX10_howMany_63 : decode cX10_howMany 63 = .ok (.ireturn, 1) := by decide +kernel
theorem dX10_howMany_64 : decode cX10_howMany 64 = .ok (.aload_n 0, 1) := by decide +kernel
theorem dX10_howMany_65 : decode cX10_howMany 65 = .ok (.getfield 93, 3) := by decide +kernel
theorem dX10_howMany_68 : decode cX10_howMany 68 = .ok (.ireturn, 1) := by decide +kernel
theorem dX10_howMany_69 : decode cX10_howMany 69 = .ok (.aload_n 0, 1) := by decide +kernel
theorem dX10_howMany_70 : decode cX10_howMany 70 = .ok (.getfield 96, 3) := by decide +kernel
theorem dX10_howMany_73 : decode cX10_howMany 73 = .ok (.ireturn, 1) := by decide +kernel
theorem dX10_howMany_74 : decode cX10_howMany 74 = .ok (.aload_n 0, 1) := by decide +kernel
theorem dX10_howMany_75 : decode cX10_howMany 75 = .ok (.getfield 102, 3) := by decide +kernel
theorem dX10_howMany_78 : decode cX10_howMany 78 = .ok (.ireturn, 1) := by decide +kernel
theorem dX10_howMany_79 : decode cX10_howMany 79 = .ok (.sipush (-1002), 3) := by decide +kernel
theorem dX10_howMany_82 : decode cX10_howMany 82 = .ok (.ireturn, 1) := by decide +kernel
theorem dX10_count_0 : decode cX10_count 0 = .ok (.aload_n 0, 1) := by decide +kernel
theorem dX10_count_1 : decode cX10_count 1 = .ok (.iload_n 1, 1) := by decide +kernel
theorem dX10_count_2 : decode cX10_count 2 = .ok (.invokevirtual 263, 3) := by decide +kernel
theorem dX10_count_5 : decode cX10_count 5 = .ok (.ireturn, 1) := by decide +kernel
theorem dX10_mix_0 : decode cX10_mix 0 = .ok (.aload_n 0, 1) := by decide +kernel
theorem dX10_mix_1 : decode cX10_mix 1 = .ok (.ldc2_w 266, 3) := by decide +kernel
theorem dX10_mix_4 : decode cX10_mix 4 = .ok (.aload_n 0, 1) := by decide +kernel
theorem dX10_mix_5 : decode cX10_mix 5 = .ok (.getfield 268, 3) := by decide +kernel
theorem dX10_mix_8 : decode cX10_mix 8 = .ok (.lmul, 1) := by decide +kernel
theorem dX10_mix_9 : decode cX10_mix 9 = .ok (.lload_n 1, 1) := by decide +kernel
theorem dX10_mix_10 : decode cX10_mix 10 = .ok (.ladd, 1) := by decide +kernel
theorem dX10_mix_11 : decode cX10_mix 11 = .ok (.putfield 268, 3) := by decide +kernel
theorem dX10_mix_14 : decode cX10_mix 14 = .ok (.return_, 1) := by decide +kernel
theorem dX10_mixNormal_0 : decode cX10_mixNormal 0 = .ok (.iconst 0, 1) := by decide +kernel
theorem dX10_mixNormal_1 : decode cX10_mixNormal 1 = .ok (.istore_n 1, 1) := by decide +kernel
theorem dX10_mixNormal_2 : decode cX10_mixNormal 2 = .ok (.iload_n 1, 1) := by decide +kernel
theorem dX10_mixNormal_3 : decode cX10_mixNormal 3 = .ok (.iconst 3, 1) := by decide +kernel
theorem dX10_mixNormal_4 : decode cX10_mixNormal 4 = .ok (.aload_n 0, 1) := by decide +kernel
theorem dX10_mixNormal_5 : decode cX10_mixNormal 5 = .ok (.getfield 133, 3) := by decide +kernel
theorem dX10_mixNormal_8 : decode cX10_mixNormal 8 = .ok (.imul, 1) := by decide +kernel
theorem dX10_mixNormal_9 : decode cX10_mixNormal 9 = .ok (.if_icmp .ge 24, 3) := by decide +kernel
theorem dX10_mixNormal_12 : decode cX10_mixNormal 12 = .ok (.aload_n 0, 1) := by decide +kernel
theorem dX10_mixNormal_13 : decode cX10_mixNormal 13 = .ok (.aload_n 0, 1) := by decide +kernel
theorem dX10_mixNormal_14 : decode cX10_mixNormal 14 = .ok (.iload_n 1, 1) := by decide +kernel
theorem dX10_mixNormal_15 : decode cX10_mixNormal 15 = .ok (.iconst 3, 1) := by decide +kernel
theorem dX10_mixNormal_16 : decode cX10_mixNormal 16 = .ok (.idiv, 1) := by decide +kernel
theorem dX10_mixNormal_17 : decode cX10_mixNormal 17 = .ok (.iload_n 1, 1) := by decide +kernel
theorem dX10_mixNormal_18 : decode cX10_mixNormal 18 = .ok (.iconst 3, 1) := by decide +kernel
theorem dX10_mixNormal_19 : decode cX10_mixNormal 19 = .ok (.irem, 1) := by decide +kernel
theorem dX10_mixNormal_20 : decode cX10_mixNormal 20 = .ok (.invokevirtual 158, 3) := by decide +kernel
theorem dX10_mixNormal_23 : decode cX10_mixNormal 23 = .ok (.i2l, 1) := by decide +kernel
theorem dX10_mixNormal_24 : decode cX10_mixNormal 24 = .ok (.invokevirtual 272, 3) := by decide +kernel
theorem dX10_mixNormal_27 : decode cX10_mixNormal 27 = .ok (.iinc 1 1, 3) := by decide +kernel
theorem dX10_mixNormal_30 : decode cX10_mixNormal 30 = .ok (.goto (-28), 3) := by decide +kernel
theorem dX10_mixNormal_33 : decode cX10_mixNormal 33 = .ok (.iconst (-1), 1) := by decide +kernel
theorem dX10_mixNormal_34 : decode cX10_mixNormal 34 = .ok (.istore_n 1, 1) := by decide +kernel
theorem dX10_mixNormal_35 : decode cX10_mixNormal 35 = .ok (.iload_n 1, 1) := by decide +kernel
theorem dX10_mixNormal_36 : decode cX10_mixNormal 36 = .ok (.iconst 5, 1) := by decide +kernel
theorem dX10_mixNormal_37 : decode cX10_mixNormal 37 = .ok (.if_icmp .ge 19, 3) := by decide +kernel
theorem dX10_mixNormal_40 : decode cX10_mixNormal 40 = .ok (.aload_n 0, 1) := by decide +kernel
theorem dX10_mixNormal_41 : decode cX10_mixNormal 41 = .ok (.aload_n 0, 1) := by decide +kernel
theorem dX10_mixNormal_42 : decode cX10_mixNormal 42 = .ok (.iload_n 1, 1) := by decide +kernel
theorem dX10_mixNormal_43 : decode cX10_mixNormal 43 = .ok (.invokevirtual 175, 3) := by decide +kernel
theorem dX10_mixNormal_46 : decode cX10_mixNormal 46 = .ok (.i2l, 1) := by decide +kernel
theorem dX10_mixNormal_47 : decode cX10_mixNormal 47 = .ok (.invokevirtual 272, 3) := by decide +kernel
theorem dX10_mixNormal_50 : decode cX10_mixNormal 50 = .ok (.iinc 1 1, 3) := by decide +kernel
theorem dX10_mixNormal_53 : decode cX10_mixNormal 53 = .ok (.goto (-18), 3) := by decide +kernel
theorem dX10_mixNormal_56 : decode cX10_mixNormal 56 = .ok (.iconst 0, 1) := by decide +kernel
theorem dX10_mixNormal_57 : decode cX10_mixNormal 57 = .ok (.istore_n 1, 1) := by decide +kernel
theorem dX10_mixNormal_58 : decode cX10_mixNormal 58 = .ok (.iload_n 1, 1) := by decide +kernel
theorem dX10_mixNormal_59 : decode cX10_mixNormal 59 = .ok (.aload_n 0, 1) := by decide +kernel
theorem dX10_mixNormal_60 : decode cX10_mixNormal 60 = .ok (.getfield 87, 3) := by decide +kernel
theorem dX10_mixNormal_63 : decode cX10_mixNormal 63 = .ok (.if_icmp .ge 19, 3) := by decide +kernel
theorem dX10_mixNormal_66 : decode cX10_mixNormal 66 = .ok (.aload_n 0, 1) := by decide +kernel
theorem dX10_mixNormal_67 : decode cX10_mixNormal 67 = .ok (.aload_n 0, 1) := by decide +kernel
theorem dX10_mixNormal_68 : decode cX10_mixNormal 68 = .ok (.iload_n 1, 1) := by decide +kernel
theorem dX10_mixNormal_69 : decode cX10_mixNormal 69 = .ok (.invokevirtual 178, 3) := by decide +kernel
theorem dX10_mixNormal_72 : decode cX10_mixNormal 72 = .ok (.i2l, 1) := by decide +kernel
theorem dX10_mixNormal_73 : decode cX10_mixNormal 73 = .ok (.invokevirtual 272, 3) := by decide +kernel
theorem dX10_mixNormal_76 : decode cX10_mixNormal 76 = .ok (.iinc 1 1, 3) := by decide +kernel
theorem dX10_mixNormal_79 : decode cX10_mixNormal 79 = .ok (.goto (-21), 3) := by decide +kernel
theorem dX10_mixNormal_82 : decode cX10_mixNormal 82 = .ok (.iconst 0, 1) := by decide +kernel
theorem dX10_mixNormal_83 : decode cX10_mixNormal 83 = .ok (.istore_n 1, 1) := by decide +kernel
theorem dX10_mixNormal_84 : decode cX10_mixNormal 84 = .ok (.iload_n 1, 1) := by decide +kernel
theorem dX10_mixNormal_85 : decode cX10_mixNormal 85 = .ok (.bipush 6, 2) := by decide +kernel
theorem dX10_mixNormal_87 : decode cX10_mixNormal 87 = .ok (.if_icmp .ge 19, 3) := by decide +kernel
theorem dX10_mixNormal_90 : decode cX10_mixNormal 90 = .ok (.aload_n 0, 1) := by decide +kernel
theorem dX10_mixNormal_91 : decode cX10_mixNormal 91 = .ok (.aload_n 0, 1) := by decide +kernel
theorem dX10_mixNormal_92 : decode cX10_mixNormal 92 = .ok (.iload_n 1, 1) := by decide +kernel
theorem dX10_mixNormal_93 : decode cX10_mixNormal 93 = .ok (.invokevirtual 202, 3) := by decide +kernel
theorem dX10_mixNormal_96 : decode cX10_mixNormal 96 = .ok (.i2l, 1) := by decide +kernel
theorem dX10_mixNormal_97 : decode cX10_mixNormal 97 = .ok (.invokevirtual 272, 3) := by decide +kernel
theorem dX10_mixNormal_100 : decode cX10_mixNormal 100 = .ok (.iinc 1 1, 3) := by decide +kernel
theorem dX10_mixNormal_103 : decode cX10_mixNormal 103 = .ok (.goto (-19), 3) := by decide +kernel
theorem dX10_mixNormal_106 : decode cX10_mixNormal 106 = .ok (.return_, 1) := by decide +kernel
theorem dX10_mixLogic_0 : decode cX10_mixLogic 0 = .ok (.iconst 0, 1) := by decide +kernel
theorem dX10_mixLogic_1 : decode cX10_mixLogic 1 = .ok (.istore_n 2, 1) := by decide +kernel
theorem dX10_mixLogic_2 : decode cX10_mixLogic 2 = .ok (.iload_n 2, 1) := by decide +kernel
theorem dX10_mixLogic_3 : decode cX10_mixLogic 3 = .ok (.bipush 6, 2) := by decide +kernel
theorem dX10_mixLogic_5 : decode cX10_mixLogic 5 = .ok (.if_icmp .ge 20, 3) := by decide +kernel
theorem dX10_mixLogic_8 : decode cX10_mixLogic 8 = .ok (.aload_n 0, 1) := by decide +kernel
theorem dX10_mixLogic_9 : decode cX10_mixLogic 9 = .ok (.aload_n 0, 1) := by decide +kernel
theorem dX10_mixLogic_10 : decode cX10_mixLogic 10 = .ok (.iload_n 1, 1) := by decide +kernel
theorem dX10_mixLogic_11 : decode cX10_mixLogic 11 = .ok (.iload_n 2, 1) := by decide +kernel
theorem dX10_mixLogic_12 : decode cX10_mixLogic 12 = .ok (.invokevirtual 260, 3) := by decide +kernel
theorem dX10_mixLogic_15 : decode cX10_mixLogic 15 = .ok (.i2l, 1) := by decide +kernel
theorem dX10_mixLogic_16 : decode cX10_mixLogic 16 = .ok (.invokevirtual 272, 3) := by decide +kernel
theorem dX10_mixLogic_19 : decode cX10_mixLogic 19 = .ok (.iinc 2 1, 3) := by decide +kernel
theorem dX10_mixLogic_22 : decode cX10_mixLogic 22 = .ok (.goto (-20), 3) := by decide +kernel
theorem dX10_mixLogic_25 : decode cX10_mixLogic 25 = .ok (.iconst 0, 1) := by decide +kernel
theorem dX10_mixLogic_26 : decode cX10_mixLogic 26 = .ok (.istore_n 2, 1) := by decide +kernel
theorem dX10_mixLogic_27 : decode cX10_mixLogic 27 = .ok (.iload_n 2, 1) := by decide +kernel
theorem dX10_mixLogic_28 : decode cX10_mixLogic 28 = .ok (.aload_n 0, 1) := by decide +kernel
theorem dX10_mixLogic_29 : decode cX10_mixLogic 29 = .ok (.getfield 232, 3) := by decide +kernel
theorem dX10_mixLogic_32 : decode cX10_mixLogic 32 = .ok (.if_icmp .ge 41, 3) := by decide +kernel
theorem dX10_mixLogic_35 : decode cX10_mixLogic 35 = .ok (.aload_n 0, 1) := by decide +kernel
theorem dX10_mixLogic_36 : decode cX10_mixLogic 36 = .ok (.aload_n 0, 1) := by decide +kernel
theorem dX10_mixLogic_37 : decode cX10_mixLogic 37 = .ok (.getfield 51, 3) := by decide +kernel
theorem dX10_mixLogic_40 : decode cX10_mixLogic 40 = .ok (.aload_n 0, 1) := by decide +kernel
theorem dX10_mixLogic_41 : decode cX10_mixLogic 41 = .ok (.getfield 57, 3) := by decide +kernel
theorem dX10_mixLogic_44 : decode cX10_mixLogic 44 = .ok (.iload_n 2, 1) := by decide +kernel
theorem dX10_mixLogic_45 : decode cX10_mixLogic 45 = .ok (.iaload, 1) := by decide +kernel
theorem dX10_mixLogic_46 : decode cX10_mixLogic 46 = .ok (.iaload, 1) := by decide +kernel
theorem dX10_mixLogic_47 : decode cX10_mixLogic 47 = .ok (.i2l, 1) := by decide +kernel
theorem dX10_mixLogic_48 : decode cX10_mixLogic 48 = .ok (.invokevirtual 272, 3) := by decide +kernel
theorem dX10_mixLogic_51 : decode cX10_mixLogic 51 = .ok (.aload_n 0, 1) := by decide +kernel
theorem dX10_mixLogic_52 : decode cX10_mixLogic 52 = .ok (.aload_n 0, 1) := by decide +kernel
theorem dX10_mixLogic_53 : decode cX10_mixLogic 53 = .ok (.getfield 54, 3) := by decide +kernel
theorem dX10_mixLogic_56 : decode cX10_mixLogic 56 = .ok (.aload_n 0, 1) := by decide +kernel
theorem dX10_mixLogic_57 : decode cX10_mixLogic 57 = .ok (.getfield 57, 3) := by decide +kernel
theorem dX10_mixLogic_60 : decode cX10_mixLogic 60 = .ok (.iload_n 2, 1) := by decide +kernel
theorem dX10_mixLogic_61 : decode cX10_mixLogic 61 = .ok (.iaload, 1) := by decide +kernel
theorem dX10_mixLogic_62 : decode cX10_mixLogic 62 = .ok (.iaload, 1) := by decide +kernel
theorem dX10_mixLogic_63 : decode cX10_mixLogic 63 = .ok (.i2l, 1) := by decide +kernel
theorem dX10_mixLogic_64 : decode cX10_mixLogic 64 = .ok (.invokevirtual 272, 3) := by decide +kernel
theorem dX10_mixLogic_67 : decode cX10_mixLogic 67 = .ok (.iinc 2 1, 3) := by decide +kernel
theorem dX10_mixLogic_70 : decode cX10_mixLogic 70 = .ok (.goto (-43), 3) := by decide +kernel
theorem dX10_mixLogic_73 : decode cX10_mixLogic 73 = .ok (.return_, 1) := by decide +kernel
theorem dX10_digest_0 : decode cX10_digest 0 = .ok (.aload_n 0, 1) := by decide +kernel
theorem dX10_digest_1 : decode cX10_digest 1 = .ok (.ldc2_w 276, 3) := by decide +kernel
theorem dX10_digest_4 : decode cX10_digest 4 = .ok (.putfield 268, 3) := by decide +kernel
theorem dX10_digest_7 : decode cX10_digest 7 = .ok (.iconst 0, 1) := by decide +kernel
theorem dX10_digest_8 : decode cX10_digest 8 = .ok (.istore_n 1, 1) := by decide +kernel
theorem dX10_digest_9 : decode cX10_digest 9 = .ok (.iload_n 1, 1) := by decide +kernel
theorem dX10_digest_10 : decode cX10_digest 10 = .ok (.aload_n 0, 1) := by decide +kernel
theorem dX10_digest_11 : decode cX10_digest 11 = .ok (.getfield 87, 3) := by decide +kernel
theorem dX10_digest_14 : decode cX10_digest 14 = .ok (.if_icmp .ge 36, 3) := by decide +kernel
theorem dX10_digest_17 : decode cX10_digest 17 = .ok (.iconst 0, 1) := by decide +kernel
theorem dX10_digest_18 : decode cX10_digest 18 = .ok (.istore_n 2, 1) := by decide +kernel
theorem dX10_digest_19 : decode cX10_digest 19 = .ok (.iload_n 2, 1) := by decide +kernel
theorem dX10_digest_20 : decode cX10_digest 20 = .ok (.aload_n 0, 1) := by decide +kernel
theorem dX10_digest_21 : decode cX10_digest 21 = .ok (.getfield 90, 3) := by decide +kernel
theorem dX10_digest_24 : decode cX10_digest 24 = .ok (.if_icmp .ge 20, 3) := by decide +kernel
theorem dX10_digest_27 : decode cX10_digest 27 = .ok (.aload_n 0, 1) := by decide +kernel
theorem dX10_digest_28 : decode cX10_digest 28 = .ok (.aload_n 0, 1) := by decide +kernel
theorem dX10_digest_29 : decode cX10_digest 29 = .ok (.iload_n 1, 1) := by decide +kernel
theorem dX10_digest_30 : decode cX10_digest 30 = .ok (.iload_n 2, 1) := by decide +kernel
theorem dX10_digest_31 : decode cX10_digest 31 = .ok (.invokevirtual 118, 3) := by decide +kernel
theorem dX10_digest_34 : decode cX10_digest 34 = .ok (.i2l, 1) := by decide +kernel
theorem dX10_digest_35 : decode cX10_digest 35 = .ok (.invokevirtual 272, 3) := by decide +kernel
theorem dX10_digest_38 : decode cX10_digest 38 = .ok (.iinc 2 1, 3) := by decide +kernel
theorem dX10_digest_41 : decode cX10_digest 41 = .ok (.goto (-22), 3) := by decide +kernel
theorem dX10_digest_44 : decode cX10_digest 44 = .ok (.iinc 1 1, 3) := by decide +kernel
theorem dX10_digest_47 : decode cX10_digest 47 = .ok (.goto (-38), 3) := by decide +kernel
theorem dX10_digest_50 : decode cX10_digest 50 = .ok (.iconst 0, 1) := by decide +kernel
theorem dX10_digest_51 : decode cX10_digest 51 = .ok (.istore_n 1, 1) := by decide +kernel
theorem dX10_digest_52 : decode cX10_digest 52 = .ok (.iload_n 1, 1) := by decide +kernel
theorem dX10_digest_53 : decode cX10_digest 53 = .ok (.iconst 5, 1) := by decide +kernel
theorem dX10_digest_54 : decode cX10_digest 54 = .ok (.if_icmp .ge 26, 3) := by decide +kernel
theorem dX10_digest_57 : decode cX10_digest 57 = .ok (.aload_n 0, 1) := by decide +kernel
theorem dX10_digest_58 : decode cX10_digest 58 = .ok (.getfield 87, 3) := by decide +kernel
theorem dX10_digest_61 : decode cX10_digest 61 = .ok (.ifCond .le 19, 3) := by decide +kernel
theorem dX10_digest_64 : decode cX10_digest 64 = .ok (.aload_n 0, 1) := by decide +kernel
theorem dX10_digest_65 : decode cX10_digest 65 = .ok (.aload_n 0, 1) := by decide +kernel
theorem dX10_digest_66 : decode cX10_digest 66 = .ok (.iload_n 1, 1) := by decide +kernel
theorem dX10_digest_67 : decode cX10_digest 67 = .ok (.invokevirtual 136, 3) := by decide +kernel
theorem dX10_digest_70 : decode cX10_digest 70 = .ok (.i2l, 1) := by decide +kernel
theorem dX10_digest_71 : decode cX10_digest 71 = .ok (.invokevirtual 272, 3) := by decide +kernel
theorem dX10_digest_74 : decode cX10_digest 74 = .ok (.iinc 1 1, 3) := by decide +kernel
theorem dX10_digest_77 : decode cX10_digest 77 = .ok (.goto (-25), 3) := by decide +kernel
theorem dX10_digest_80 : decode cX10_digest 80 = .ok (.aload_n 0, 1) := by decide +kernel
theorem dX10_digest_81 : decode cX10_digest 81 = .ok (.invokevirtual 125, 3) := by decide +kernel
theorem dX10_digest_84 : decode cX10_digest 84 = .ok (.ifCond .eq 7, 3) := by decide +kernel
theorem dX10_digest_87 : decode cX10_digest 87 = .ok (.aload_n 0, 1) := by decide +kernel
theorem dX10_digest_88 : decode cX10_digest 88 = .ok (.invokevirtual 278, 3) := by decide +kernel
theorem dX10_digest_91 : decode cX10_digest 91 = .ok (.iconst 0, 1) := by decide +kernel
theorem dX10_digest_92 : decode cX10_digest 92 = .ok (.istore_n 1, 1) := by decide +kernel
theorem dX10_digest_93 : decode cX10_digest 93 = .ok (.iload_n 1, 1) := by decide +kernel
theorem dX10_digest_94 : decode cX10_digest 94 = .ok (.aload_n 0, 1) := by decide +kernel
theorem dX10_digest_95 : decode cX10_digest 95 = .ok (.getfield 99, 3) := by decide +kernel
theorem dX10_digest_98 : decode cX10_digest 98 = .ok (.if_icmp .ge 21, 3) := by decide +kernel
theorem dX10_digest_101 : decode cX10_digest 101 = .ok (.aload_n 0, 1) := by decide +kernel
theorem dX10_digest_102 : decode cX10_digest 102 = .ok (.invokevirtual 208, 3) := by decide +kernel
theorem dX10_digest_105 : decode cX10_digest 105 = .ok (.ifCond .eq 14, 3) := by decide +kernel
theorem dX10_digest_108 : decode cX10_digest 108 = .ok (.aload_n 0, 1) := by decide +kernel
theorem dX10_digest_109 : decode cX10_digest 109 = .ok (.iload_n 1, 1) := by decide +kernel
theorem dX10_digest_110 : decode cX10_digest 110 = .ok (.invokevirtual 281, 3) := by decide +kernel
theorem dX10_digest_113 : decode cX10_digest 113 = .ok (.iinc 1 1, 3) := by decide +kernel
theorem dX10_digest_116 : decode cX10_digest 116 = .ok (.goto (-23), 3) := by decide +kernel
theorem dX10_digest_119 : decode cX10_digest 119 = .ok (.iconst 0, 1) := by decide +kernel
theorem dX10_digest_120 : decode cX10_digest 120 = .ok (.istore_n 1, 1) := by decide +kernel
theorem dX10_digest_121 : decode cX10_digest 121 = .ok (.iload_n 1, 1) := by decide +kernel
theorem dX10_digest_122 : decode cX10_digest 122 = .ok (.aload_n 0, 1) := by decide +kernel
theorem dX10_digest_123 : decode cX10_digest 123 = .ok (.getfield 64, 3) := by decide +kernel
theorem dX10_digest_126 : decode cX10_digest 126 = .ok (.if_icmp .ge 20, 3) := by decide +kernel
theorem dX10_digest_129 : decode cX10_digest 129 = .ok (.aload_n 0, 1) := by decide +kernel
theorem dX10_digest_130 : decode cX10_digest 130 = .ok (.aload_n 0, 1) := by decide +kernel
theorem dX10_digest_131 : decode cX10_digest 131 = .ok (.getfield 7, 3) := by decide +kernel
theorem dX10_digest_134 : decode cX10_digest 134 = .ok (.iload_n 1, 1) := by decide +kernel
theorem dX10_digest_135 : decode cX10_digest 135 = .ok (.iaload, 1) := by decide +kernel
theorem dX10_digest_136 : decode cX10_digest 136 = .ok (.i2l, 1) := by decide +kernel
theorem dX10_digest_137 : decode cX10_digest 137 = .ok (.invokevirtual 272, 3) := by decide +kernel
theorem dX10_digest_140 : decode cX10_digest 140 = .ok (.iinc 1 1, 3) := by decide +kernel
theorem dX10_digest_143 : decode cX10_digest 143 = .ok (.goto (-22), 3) := by decide +kernel
theorem dX10_digest_146 : decode cX10_digest 146 = .ok (.iconst 0, 1) := by decide +kernel
theorem dX10_digest_147 : decode cX10_digest 147 = .ok (.istore_n 1, 1) := by decide +kernel
theorem dX10_digest_148 : decode cX10_digest 148 = .ok (.iload_n 1, 1) := by decide +kernel
theorem dX10_digest_149 : decode cX10_digest 149 = .ok (.bipush 7, 2) := by decide +kernel
theorem dX10_digest_151 : decode cX10_digest 151 = .ok (.if_icmp .ge 19, 3) := by decide +kernel
theorem dX10_digest_154 : decode cX10_digest 154 = .ok (.aload_n 0, 1) := by decide +kernel
theorem dX10_digest_155 : decode cX10_digest 155 = .ok (.aload_n 0, 1) := by decide +kernel
theorem dX10_digest_156 : decode cX10_digest 156 = .ok (.iload_n 1, 1) := by decide +kernel
theorem dX10_digest_157 : decode cX10_digest 157 = .ok (.invokevirtual 263, 3) := by decide +kernel
theorem dX10_digest_160 : decode cX10_digest 160 = .ok (.i2l, 1) := by decide +kernel
theorem dX10_digest_161 : decode cX10_digest 161 = .ok (.invokevirtual 272, 3) := by decide +kernel
theorem dX10_digest_164 : decode cX10_digest 164 = .ok (.iinc 1 1, 3) := by decide +kernel
theorem dX10_digest_167 : decode cX10_digest 167 = .ok (.goto (-19), 3) := by decide +kernel
theorem dX10_digest_170 : decode cX10_digest 170 = .ok (.aload_n 0, 1) := by decide +kernel
theorem dX10_digest_171 : decode cX10_digest 171 = .ok (.getfield 268, 3) := by decide +kernel
theorem dX10_digest_174 : decode cX10_digest 174 = .ok (.lreturn, 1) := by decide +kernel
theorem dJ6_bitCount_0f7a4_0 : decode cJ6_bitCount_0f7a4 0 = .ok (.iload_n 0, 1) := by decide +kernel
theorem dJ6_bitCount_0f7a4_1 : decode cJ6_bitCount_0f7a4 1 = .ok (.iload_n 0, 1) := by decide +kernel
theorem dJ6_bitCount_0f7a4_2 : decode cJ6_bitCount_0f7a4 2 = .ok (.iconst 1, 1) := by decide +kernel
theorem dJ6_bitCount_0f7a4_3 : decode cJ6_bitCount_0f7a4 3 = .ok (.iushr, 1) := by decide +kernel
theorem dJ6_bitCount_0f7a4_4 : decode cJ6_bitCount_0f7a4 4 = .ok (.ldc_w 265, 3) := by decide +kernel
theorem dJ6_bitCount_0f7a4_7 : decode cJ6_bitCount_0f7a4 7 = .ok (.iand, 1) := by decide +kernel
theorem dJ6_bitCount_0f7a4_8 : decode cJ6_bitCount_0f7a4 8 = .ok (.isub, 1) := by decide +kernel
theorem dJ6_bitCount_0f7a4_9 : decode cJ6_bitCount_0f7a4 9 = .ok (.istore_n 0, 1) := by decide +kernel
theorem dJ6_bitCount_0f7a4_10 : decode cJ6_bitCount_0f7a4 10 = .ok (.iload_n 0, 1) := by decide +kernel
theorem dJ6_bitCount_0f7a4_11 : decode cJ6_bitCount_0f7a4 11 = .ok (.ldc_w 266, 3) := by decide +kernel
theorem dJ6_bitCount_0f7a4_14 : decode cJ6_bitCount_0f7a4 14 = .ok (.iand, 1) := by decide +kernel
theorem dJ6_bitCount_0f7a4_15 : decode cJ6_bitCount_0f7a4 15 = .ok (.iload_n 0, 1) := by decide +kernel
theorem dJ6_bitCount_0f7a4_16 : decode cJ6_bitCount_0f7a4 16 = .ok (.iconst 2, 1) := by decide +kernel
theorem dJ6_bitCount_0f7a4_17 : decode cJ6_bitCount_0f7a4 17 = .ok (.iushr, 1) := by decide +kernel
theorem dJ6_bitCount_0f7a4_18 : decode cJ6_bitCount_0f7a4 18 = .ok (.ldc_w 266, 3) := by decide +kernel
theorem dJ6_bitCount_0f7a4_21 : decode cJ6_bitCount_0f7a4 21 = .ok (.iand, 1) := by decide +kernel
theorem dJ6_bitCount_0f7a4_22 : decode cJ6_bitCount_0f7a4 22 = .ok (.iadd, 1) := by decide +kernel
theorem dJ6_bitCount_0f7a4_23 : decode cJ6_bitCount_0f7a4 23 = .ok (.istore_n 0, 1) := by decide +kernel
theorem dJ6_bitCount_0f7a4_24 : decode cJ6_bitCount_0f7a4 24 = .ok (.iload_n 0, 1) := by decide +kernel
theorem dJ6_bitCount_0f7a4_25 : decode cJ6_bitCount_0f7a4 25 = .ok (.iload_n 0, 1) := by decide +kernel
theorem dJ6_bitCount_0f7a4_26 : decode cJ6_bitCount_0f7a4 26 = .ok (.iconst 4, 1) := by decide +kernel
theorem dJ6_bitCount_0f7a4_27 : decode cJ6_bitCount_0f7a4 27 = .ok (.iushr, 1) := by decide +kernel
theorem dJ6_bitCount_0f7a4_28 : decode cJ6_bitCount_0f7a4 28 = .ok (.iadd, 1) := by decide +kernel
theorem dJ6_bitCount_0f7a4_29 : decode cJ6_bitCount_0f7a4 29 = .ok (.ldc_w 267, 3) := by decide +kernel
theorem dJ6_bitCount_0f7a4_32 : decode cJ6_bitCount_0f7a4 32 = .ok (.iand, 1) := by decide +kernel
theorem dJ6_bitCount_0f7a4_33 : decode cJ6_bitCount_0f7a4 33 = .ok (.istore_n 0, 1) := by decide +kernel
theorem dJ6_bitCount_0f7a4_34 : decode cJ6_bitCount_0f7a4 34 = .ok (.iload_n 0, 1) := by decide +kernel
theorem dJ6_bitCount_0f7a4_35 : decode cJ6_bitCount_0f7a4 35 = .ok (.iload_n 0, 1) := by decide +kernel
theorem dJ6_bitCount_0f7a4_36 : decode cJ6_bitCount_0f7a4 36 = .ok (.bipush 8, 2) := by decide +kernel
theorem dJ6_bitCount_0f7a4_38 : decode cJ6_bitCount_0f7a4 38 = .ok (.iushr, 1) := by decide +kernel
theorem dJ6_bitCount_0f7a4_39 : decode cJ6_bitCount_0f7a4 39 = .ok (.iadd, 1) := by decide +kernel
theorem dJ6_bitCount_0f7a4_40 : decode cJ6_bitCount_0f7a4 40 = .ok (.istore_n 0, 1) := by decide +kernel
theorem dJ6_bitCount_0f7a4_41 : decode cJ6_bitCount_0f7a4 41 = .ok (.iload_n 0, 1) := by decide +kernel
theorem dJ6_bitCount_0f7a4_42 : decode cJ6_bitCount_0f7a4 42 = .ok (.iload_n 0, 1) := by decide +kernel
theorem dJ6_bitCount_0f7a4_43 : decode cJ6_bitCount_0f7a4 43 = .ok (.bipush 16, 2) := by decide +kernel
theorem dJ6_bitCount_0f7a4_45 : decode cJ6_bitCount_0f7a4 45 = .ok (.iushr, 1) := by decide +kernel
theorem dJ6_bitCount_0f7a4_46 : decode cJ6_bitCount_0f7a4 46 = .ok (.iadd, 1) := by decide +kernel
theorem dJ6_bitCount_0f7a4_47 : decode cJ6_bitCount_0f7a4 47 = .ok (.istore_n 0, 1) := by decide +kernel
theorem dJ6_bitCount_0f7a4_48 : decode cJ6_bitCount_0f7a4 48 = .ok (.iload_n 0, 1) := by decide +kernel
theorem dJ6_bitCount_0f7a4_49 : decode cJ6_bitCount_0f7a4 49 = .ok (.bipush 63, 2) := by decide +kernel
theorem dJ6_bitCount_0f7a4_51 : decode cJ6_bitCount_0f7a4 51 = .ok (.iand, 1) := by decide +kernel
theorem dJ6_bitCount_0f7a4_52 : decode cJ6_bitCount_0f7a4 52 = .ok (.ireturn, 1) := by decide +kernel
theorem dJ9_max_7cf53_0 : decode cJ9_max_7cf53 0 = .ok (.iload_n 0, 1) := by decide +kernel
theorem dJ9_max_7cf53_1 : decode cJ9_max_7cf53 1 = .ok (.iload_n 1, 1) := by decide +kernel
theorem dJ9_max_7cf53_2 : decode cJ9_max_7cf53 2 = .ok (.if_icmp .lt 7, 3) := by decide +kernel
theorem dJ9_max_7cf53_5 : decode cJ9_max_7cf53 5 = .ok (.iload_n 0, 1) := by decide +kernel
theorem dJ9_max_7cf53_6 : decode cJ9_max_7cf53 6 = .ok (.goto 4, 3) := by decide +kernel
theorem dJ9_max_7cf53_9 : decode cJ9_max_7cf53 9 = .ok (.iload_n 1, 1) := by decide +kernel
theorem dJ9_max_7cf53_10 : decode cJ9_max_7cf53 10 = .ok (.ireturn, 1) := by decide +kernel
theorem dJ9_min_7cf53_0 : decode cJ9_min_7cf53 0 = .ok (.iload_n 0, 1) := by decide +kernel
theorem dJ9_min_7cf53_1 : decode cJ9_min_7cf53 1 = .ok (.iload_n 1, 1) := by decide +kernel
theorem dJ9_min_7cf53_2 : decode cJ9_min_7cf53 2 = .ok (.if_icmp .gt 7, 3) := by decide +kernel
theorem dJ9_min_7cf53_5 : decode cJ9_min_7cf53 5 = .ok (.iload_n 0, 1) := by decide +kernel
theorem dJ9_min_7cf53_6 : decode cJ9_min_7cf53 6 = .ok (.goto 4, 3) := by decide +kernel
theorem dJ9_min_7cf53_9 : decode cJ9_min_7cf53 9 = .ok (.iload_n 1, 1) := by decide +kernel
theorem dJ9_min_7cf53_10 : decode cJ9_min_7cf53 10 = .ok (.ireturn, 1) := by decide +kernel
theorem dL_law_0 : decode cL_law 0 = .ok (.new 7, 3) := by decide +kernel
theorem dL_law_3 : decode cL_law 3 = .ok (.dup, 1) := by decide +kernel
theorem dL_law_4 : decode cL_law 4 = .ok (.invokespecial 9, 3) := by decide +kernel
theorem dL_law_7 : decode cL_law 7 = .ok (.astore_n 1, 1) := by decide +kernel
theorem dL_law_8 : decode cL_law 8 = .ok (.new 10, 3) := by decide +kernel
theorem dL_law_11 : decode cL_law 11 = .ok (.dup, 1) := by decide +kernel
theorem dL_law_12 : decode cL_law 12 = .ok (.invokespecial 12, 3) := by decide +kernel
theorem dL_law_15 : decode cL_law 15 = .ok (.astore_n 2, 1) := by decide +kernel
theorem dL_law_16 : decode cL_law 16 = .ok (.iconst 0, 1) := by decide +kernel
theorem dL_law_17 : decode cL_law 17 = .ok (.istore_n 3, 1) := by decide +kernel
theorem dL_law_18 : decode cL_law 18 = .ok (.iload_n 3, 1) := by decide +kernel
theorem dL_law_19 : decode cL_law 19 = .ok (.aload_n 0, 1) := by decide +kernel
theorem dL_law_20 : decode cL_law 20 = .ok (.arraylength, 1) := by decide +kernel
theorem dL_law_21 : decode cL_law 21 = .ok (.iconst 4, 1) := by decide +kernel
theorem dL_law_22 : decode cL_law 22 = .ok (.isub, 1) := by decide +kernel
theorem dL_law_23 : decode cL_law 23 = .ok (.if_icmp .gt 601, 3) := by decide +kernel
theorem dL_law_26 : decode cL_law 26 = .ok (.aload_n 0, 1) := by decide +kernel
theorem dL_law_27 : decode cL_law 27 = .ok (.iload_n 3, 1) := by decide +kernel
theorem dL_law_28 : decode cL_law 28 = .ok (.iaload, 1) := by decide +kernel
theorem dL_law_29 : decode cL_law 29 = .ok (.bipush 31, 2) := by decide +kernel
theorem dL_law_31 : decode cL_law 31 = .ok (.iand, 1) := by decide +kernel
theorem dL_law_32 : decode cL_law 32 = .ok (.tableswitch 586 0 19 #[96, 119, 132, 145, 158, 191, 214, 247, 270, 293, 306, 329, 352, 385, 418, 461, 504, 527, 550, 573], 96) := by decide +kernel
theorem dL_law_128 : decode cL_law 128 = .ok (.aload_n 1, 1) := by decide +kernel
theorem dL_law_129 : decode cL_law 129 = .ok (.aload_n 0, 1) := by decide +kernel
theorem dL_law_130 : decode cL_law 130 = .ok (.iload_n 3, 1) := by decide +kernel
theorem dL_law_131 : decode cL_law 131 = .ok (.iconst 1, 1) := by decide +kernel
theorem dL_law_132 : decode cL_law 132 = .ok (.iadd, 1) := by decide +kernel
theorem dL_law_133 : decode cL_law 133 = .ok (.iaload, 1) := by decide +kernel
theorem dL_law_134 : decode cL_law 134 = .ok (.invokevirtual 13, 3) := by decide +kernel
theorem dL_law_137 : decode cL_law 137 = .ok (.pop, 1) := by decide +kernel
theorem dL_law_138 : decode cL_law 138 = .ok (.aload_n 2, 1) := by decide +kernel
theorem dL_law_139 : decode cL_law 139 = .ok (.aload_n 0, 1) := by decide +kernel
theorem dL_law_140 : decode cL_law 140 = .ok (.iload_n 3, 1) := by decide +kernel
theorem dL_law_141 : decode cL_law 141 = .ok (.iconst 1, 1) := by decide +kernel
theorem dL_law_142 : decode cL_law 142 = .ok (.iadd, 1) := by decide +kernel
theorem dL_law_143 : decode cL_law 143 = .ok (.iaload, 1) := by decide +kernel
theorem dL_law_144 : decode cL_law 144 = .ok (.invokevirtual 17, 3) := by decide +kernel
theorem dL_law_147 : decode cL_law 147 = .ok (.pop, 1) := by decide +kernel
theorem dL_law_148 : decode cL_law 148 = .ok (.goto 470, 3) := by decide +kernel
theorem dL_law_151 : decode cL_law 151 = .ok (.aload_n 1, 1) := by decide +kernel
theorem dL_law_152 : decode cL_law 152 = .ok (.invokevirtual 18, 3) := by decide +kernel
theorem dL_law_155 : decode cL_law 155 = .ok (.pop, 1) := by decide +kernel
theorem dL_law_156 : decode cL_law 156 = .ok (.aload_n 2, 1) := by decide +kernel
theorem dL_law_157 : decode cL_law 157 = .ok (.invokevirtual 22, 3) := by decide +kernel
theorem dL_law_160 : decode cL_law 160 = .ok (.pop, 1) := by decide +kernel
theorem dL_law_161 : decode cL_law 161 = .ok (.goto 457, 3) := by decide +kernel
theorem dL_law_164 : decode cL_law 164 = .ok (.aload_n 1, 1) := by decide +kernel
theorem dL_law_165 : decode cL_law 165 = .ok (.invokevirtual 23, 3) := by decide +kernel
theorem dL_law_168 : decode cL_law 168 = .ok (.pop, 1) := by decide +kernel
theorem dL_law_169 : decode cL_law 169 = .ok (.aload_n 2, 1) := by decide +kernel
theorem dL_law_170 : decode cL_law 170 = .ok (.invokevirtual 26, 3) := by decide +kernel
theorem dL_law_173 : decode cL_law 173 = .ok (.pop, 1) := by decide +kernel
theorem dL_law_174 : decode cL_law 174 = .ok (.goto 444, 3) := by decide +kernel
theorem dL_law_177 : decode cL_law 177 = .ok (.aload_n 1, 1) := by decide +kernel
theorem dL_law_178 : decode cL_law 178 = .ok (.invokevirtual 27, 3) := by decide +kernel
theorem dL_law_181 : decode cL_law 181 = .ok (.pop, 1) := by decide +kernel
theorem dL_law_182 : decode cL_law 182 = .ok (.aload_n 2, 1) := by decide +kernel
theorem dL_law_183 : decode cL_law 183 = .ok (.invokevirtual 30, 3) := by decide +kernel
theorem dL_law_186 : decode cL_law 186 = .ok (.pop, 1) := by decide +kernel
theorem dL_law_187 : decode cL_law 187 = .ok (.goto 431, 3) := by decide +kernel
theorem dL_law_190 : decode cL_law 190 = .ok (.aload_n 1, 1) := by decide +kernel
theorem dL_law_191 : decode cL_law 191 = .ok (.aload_n 0, 1) := by decide +kernel
theorem dL_law_192 : decode cL_law 192 = .ok (.iload_n 3, 1) := by decide +kernel
theorem dL_law_193 : decode cL_law 193 = .ok (.iconst 1, 1) := by decide +kernel
theorem dL_law_194 : decode cL_law 194 = .ok (.iadd, 1) := by decide +kernel
theorem dL_law_195 : decode cL_law 195 = .ok (.iaload, 1) := by decide +kernel
theorem dL_law_196 : decode cL_law 196 = .ok (.aload_n 0, 1) := by decide +kernel
theorem dL_law_197 : decode cL_law 197 = .ok (.iload_n 3, 1) := by decide +kernel
theorem dL_law_198 : decode cL_law 198 = .ok (.iconst 2, 1) := by decide +kernel
theorem dL_law_199 : decode cL_law 199 = .ok (.iadd, 1) := by decide +kernel
theorem dL_law_200 : decode cL_law 200 = .ok (.iaload, 1) := by decide +kernel
theorem dL_law_201 : decode cL_law 201 = .ok (.invokevirtual 31, 3) := by decide +kernel
theorem dL_law_204 : decode cL_law 204 = .ok (.pop, 1) := by decide +kernel
theorem dL_law_205 : decode cL_law 205 = .ok (.aload_n 2, 1) := by decide +kernel
theorem dL_law_206 : decode cL_law 206 = .ok (.aload_n 0, 1) := by decide +kernel
theorem dL_law_207 : decode cL_law 207 = .ok (.iload_n 3, 1) := by decide +kernel
theorem dL_law_208 : decode cL_law 208 = .ok (.iconst 1, 1) := by decide +kernel
theorem dL_law_209 : decode cL_law 209 = .ok (.iadd, 1) := by decide +kernel
theorem dL_law_210 : decode cL_law 210 = .ok (.iaload, 1) := by decide +kernel
theorem dL_law_211 : decode cL_law 211 = .ok (.aload_n 0, 1) := by decide +kernel
theorem dL_law_212 : decode cL_law 212 = .ok (.iload_n 3, 1) := by decide +kernel
theorem dL_law_213 : decode cL_law 213 = .ok (.iconst 2, 1) := by decide +kernel
theorem dL_law_214 : decode cL_law 214 = .ok (.iadd, 1) := by decide +kernel
theorem dL_law_215 : decode cL_law 215 = .ok (.iaload, 1) := by decide +kernel
theorem dL_law_216 : decode cL_law 216 = .ok (.invokevirtual 35, 3) := by decide +kernel
theorem dL_law_219 : decode cL_law 219 = .ok (.pop, 1) := by decide +kernel
theorem dL_law_220 : decode cL_law 220 = .ok (.goto 398, 3) := by decide +kernel
theorem dL_law_223 : decode cL_law 223 = .ok (.aload_n 1, 1) := by decide +kernel
theorem dL_law_224 : decode cL_law 224 = .ok (.aload_n 0, 1) := by decide +kernel
theorem dL_law_225 : decode cL_law 225 = .ok (.iload_n 3, 1) := by decide +kernel
theorem dL_law_226 : decode cL_law 226 = .ok (.iconst 1, 1) := by decide +kernel
theorem dL_law_227 : decode cL_law 227 = .ok (.iadd, 1) := by decide +kernel
theorem dL_law_228 : decode cL_law 228 = .ok (.iaload, 1) := by decide +kernel
theorem dL_law_229 : decode cL_law 229 = .ok (.invokevirtual 36, 3) := by decide +kernel
theorem dL_law_232 : decode cL_law 232 = .ok (.pop, 1) := by decide +kernel
theorem dL_law_233 : decode cL_law 233 = .ok (.aload_n 2, 1) := by decide +kernel
theorem dL_law_234 : decode cL_law 234 = .ok (.aload_n 0, 1) := by decide +kernel
theorem dL_law_235 : decode cL_law 235 = .ok (.iload_n 3, 1) := by decide +kernel
theorem dL_law_236 : decode cL_law 236 = .ok (.iconst 1, 1) := by decide +kernel
theorem dL_law_237 : decode cL_law 237 = .ok (.iadd, 1) := by decide +kernel
theorem dL_law_238 : decode cL_law 238 = .ok (.iaload, 1) := by decide +kernel
theorem dL_law_239 : decode cL_law 239 = .ok (.invokevirtual 39, 3) := by decide +kernel
theorem dL_law_242 : decode cL_law 242 = .ok (.pop, 1) := by decide +kernel
theorem dL_law_243 : decode cL_law 243 = .ok (.goto 375, 3) := by decide +kernel
theorem dL_law_246 : decode cL_law 246 = .ok (.aload_n 1, 1) := by decide +kernel
theorem dL_law_247 : decode cL_law 247 = .ok (.aload_n 0, 1) := by decide +kernel
theorem dL_law_248 : decode cL_law 248 = .ok (.iload_n 3, 1) := by decide +kernel
theorem dL_law_249 : decode cL_law 249 = .ok (.iconst 1, 1) := by decide +kernel
theorem dL_law_250 : decode cL_law 250 = .ok (.iadd, 1) := by decide +kernel
theorem dL_law_251 : decode cL_law 251 = .ok (.iaload, 1) := by decide +kernel
theorem dL_law_252 : decode cL_law 252 = .ok (.aload_n 0, 1) := by decide +kernel
theorem dL_law_253 : decode cL_law 253 = .ok (.iload_n 3, 1) := by decide +kernel
theorem dL_law_254 : decode cL_law 254 = .ok (.iconst 2, 1) := by decide +kernel
theorem dL_law_255 : decode cL_law 255 = .ok (.iadd, 1) := by decide +kernel
theorem dL_law_256 : decode cL_law 256 = .ok (.iaload, 1) := by decide +kernel
theorem dL_law_257 : decode cL_law 257 = .ok (.invokevirtual 40, 3) := by decide +kernel
theorem dL_law_260 : decode cL_law 260 = .ok (.pop, 1) := by decide +kernel
theorem dL_law_261 : decode cL_law 261 = .ok (.aload_n 2, 1) := by decide +kernel
theorem dL_law_262 : decode cL_law 262 = .ok (.aload_n 0, 1) := by decide +kernel
theorem dL_law_263 : decode cL_law 263 = .ok (.iload_n 3, 1) := by decide +kernel
theorem dL_law_264 : decode cL_law 264 = .ok (.iconst 1, 1) := by decide +kernel
theorem dL_law_265 : decode cL_law 265 = .ok (.iadd, 1) := by decide +kernel
theorem dL_law_266 : decode cL_law 266 = .ok (.iaload, 1) := by decide +kernel
theorem dL_law_267 : decode cL_law 267 = .ok (.aload_n 0, 1) := by decide +kernel
theorem dL_law_268 : decode cL_law 268 = .ok (.iload_n 3, 1) := by decide +kernel
theorem dL_law_269 : decode cL_law 269 = .ok (.iconst 2, 1) := by decide +kernel
theorem dL_law_270 : decode cL_law 270 = .ok (.iadd, 1) := by decide +kernel
theorem dL_law_271 : decode cL_law 271 = .ok (.iaload, 1) := by decide +kernel
theorem dL_law_272 : decode cL_law 272 = .ok (.invokevirtual 43, 3) := by decide +kernel
theorem dL_law_275 : decode cL_law 275 = .ok (.pop, 1) := by decide +kernel
theorem dL_law_276 : decode cL_law 276 = .ok (.goto 342, 3) := by decide +kernel
theorem dL_law_279 : decode cL_law 279 = .ok (.aload_n 1, 1) := by decide +kernel
theorem dL_law_280 : decode cL_law 280 = .ok (.aload_n 0, 1) := by decide +kernel
theorem dL_law_281 : decode cL_law 281 = .ok (.iload_n 3, 1) := by decide +kernel
theorem dL_law_282 : decode cL_law 282 = .ok (.iconst 1, 1) := by decide +kernel
theorem dL_law_283 : decode cL_law 283 = .ok (.iadd, 1) := by decide +kernel
theorem dL_law_284 : decode cL_law 284 = .ok (.iaload, 1) := by decide +kernel
theorem dL_law_285 : decode cL_law 285 = .ok (.invokevirtual 44, 3) := by decide +kernel
theorem dL_law_288 : decode cL_law 288 = .ok (.pop, 1) := by decide +kernel
theorem dL_law_289 : decode cL_law 289 = .ok (.aload_n 2, 1) := by decide +kernel
theorem dL_law_290 : decode cL_law 290 = .ok (.aload_n 0, 1) := by decide +kernel
theorem dL_law_291 : decode cL_law 291 = .ok (.iload_n 3, 1) := by decide +kernel
theorem dL_law_292 : decode cL_law 292 = .ok (.iconst 1, 1) := by decide +kernel
theorem dL_law_293 : decode cL_law 293 = .ok (.iadd, 1) := by decide +kernel
theorem dL_law_294 : decode cL_law 294 = .ok (.iaload, 1) := by decide +kernel
theorem dL_law_295 : decode cL_law 295 = .ok (.invokevirtual 47, 3) := by decide +kernel
theorem dL_law_298 : decode cL_law 298 = .ok (.pop, 1) := by decide +kernel
theorem dL_law_299 : decode cL_law 299 = .ok (.goto 319, 3) := by decide +kernel
theorem dL_law_302 : decode cL_law 302 = .ok (.aload_n 1, 1) := by decide +kernel
theorem dL_law_303 : decode cL_law 303 = .ok (.aload_n 0, 1) := by decide +kernel
theorem dL_law_304 : decode cL_law 304 = .ok (.iload_n 3, 1) := by decide +kernel
theorem dL_law_305 : decode cL_law 305 = .ok (.iconst 1, 1) := by decide +kernel
theorem dL_law_306 : decode cL_law 306 = .ok (.iadd, 1) := by decide +kernel
theorem dL_law_307 : decode cL_law 307 = .ok (.iaload, 1) := by decide +kernel
theorem dL_law_308 : decode cL_law 308 = .ok (.invokevirtual 48, 3) := by decide +kernel
theorem dL_law_311 : decode cL_law 311 = .ok (.pop, 1) := by decide +kernel
theorem dL_law_312 : decode cL_law 312 = .ok (.aload_n 2, 1) := by decide +kernel
theorem dL_law_313 : decode cL_law 313 = .ok (.aload_n 0, 1) := by decide +kernel
theorem dL_law_314 : decode cL_law 314 = .ok (.iload_n 3, 1) := by decide +kernel
theorem dL_law_315 : decode cL_law 315 = .ok (.iconst 1, 1) := by decide +kernel
theorem dL_law_316 : decode cL_law 316 = .ok (.iadd, 1) := by decide +kernel
theorem dL_law_317 : decode cL_law 317 = .ok (.iaload, 1) := by decide +kernel
theorem dL_law_318 : decode cL_law 318 = .ok (.invokevirtual 51, 3) := by decide +kernel
theorem dL_law_321 : decode cL_law 321 = .ok (.pop, 1) := by decide +kernel
theorem dL_law_322 : decode cL_law 322 = .ok (.goto 296, 3) := by decide +kernel
theorem dL_law_325 : decode cL_law 325 = .ok (.aload_n 1, 1) := by decide +kernel
theorem dL_law_326 : decode cL_law 326 = .ok (.invokevirtual 52, 3) := by decide +kernel
theorem dL_law_329 : decode cL_law 329 = .ok (.pop, 1) := by decide +kernel
theorem dL_law_330 : decode cL_law 330 = .ok (.aload_n 2, 1) := by decide +kernel
theorem dL_law_331 : decode cL_law 331 = .ok (.invokevirtual 55, 3) := by decide +kernel
theorem dL_law_334 : decode cL_law 334 = .ok (.pop, 1) := by decide +kernel
theorem dL_law_335 : decode cL_law 335 = .ok (.goto 283, 3) := by decide +kernel
theorem dL_law_338 : decode cL_law 338 = .ok (.aload_n 1, 1) := by decide +kernel
theorem dL_law_339 : decode cL_law 339 = .ok (.aload_n 0, 1) := by decide +kernel
theorem dL_law_340 : decode cL_law 340 = .ok (.iload_n 3, 1) := by decide +kernel
theorem dL_law_341 : decode cL_law 341 = .ok (.iconst 1, 1) := by decide +kernel
theorem dL_law_342 : decode cL_law 342 = .ok (.iadd, 1) := by decide +kernel
theorem dL_law_343 : decode cL_law 343 = .ok (.iaload, 1) := by decide +kernel
theorem dL_law_344 : decode cL_law 344 = .ok (.invokevirtual 56, 3) := by decide +kernel
theorem dL_law_347 : decode cL_law 347 = .ok (.pop, 1) := by decide +kernel
theorem dL_law_348 : decode cL_law 348 = .ok (.aload_n 2, 1) := by decide +kernel
theorem dL_law_349 : decode cL_law 349 = .ok (.aload_n 0, 1) := by decide +kernel
theorem dL_law_350 : decode cL_law 350 = .ok (.iload_n 3, 1) := by decide +kernel
theorem dL_law_351 : decode cL_law 351 = .ok (.iconst 1, 1) := by decide +kernel
theorem dL_law_352 : decode cL_law 352 = .ok (.iadd, 1) := by decide +kernel
theorem dL_law_353 : decode cL_law 353 = .ok (.iaload, 1) := by decide +kernel
theorem dL_law_354 : decode cL_law 354 = .ok (.invokevirtual 59, 3) := by decide +kernel
theorem dL_law_357 : decode cL_law 357 = .ok (.pop, 1) := by decide +kernel
theorem dL_law_358 : decode cL_law 358 = .ok (.goto 260, 3) := by decide +kernel
theorem dL_law_361 : decode cL_law 361 = .ok (.aload_n 1, 1) := by decide +kernel
theorem dL_law_362 : decode cL_law 362 = .ok (.aload_n 0, 1) := by decide +kernel
theorem dL_law_363 : decode cL_law 363 = .ok (.iload_n 3, 1) := by decide +kernel
theorem dL_law_364 : decode cL_law 364 = .ok (.iconst 1, 1) := by decide +kernel
theorem dL_law_365 : decode cL_law 365 = .ok (.iadd, 1) := by decide +kernel
theorem dL_law_366 : decode cL_law 366 = .ok (.iaload, 1) := by decide +kernel
theorem dL_law_367 : decode cL_law 367 = .ok (.invokevirtual 60, 3) := by decide +kernel
theorem dL_law_370 : decode cL_law 370 = .ok (.pop, 1) := by decide +kernel
theorem dL_law_371 : decode cL_law 371 = .ok (.aload_n 2, 1) := by decide +kernel
theorem dL_law_372 : decode cL_law 372 = .ok (.aload_n 0, 1) := by decide +kernel
theorem dL_law_373 : decode cL_law 373 = .ok (.iload_n 3, 1) := by decide +kernel
theorem dL_law_374 : decode cL_law 374 = .ok (.iconst 1, 1) := by decide +kernel
theorem dL_law_375 : decode cL_law 375 = .ok (.iadd, 1) := by decide +kernel
theorem dL_law_376 : decode cL_law 376 = .ok (.iaload, 1) := by decide +kernel
theorem dL_law_377 : decode cL_law 377 = .ok (.invokevirtual 63, 3) := by decide +kernel
theorem dL_law_380 : decode cL_law 380 = .ok (.pop, 1) := by decide +kernel
theorem dL_law_381 : decode cL_law 381 = .ok (.goto 237, 3) := by decide +kernel
theorem dL_law_384 : decode cL_law 384 = .ok (.aload_n 1, 1) := by decide +kernel
theorem dL_law_385 : decode cL_law 385 = .ok (.aload_n 0, 1) := by decide +kernel
theorem dL_law_386 : decode cL_law 386 = .ok (.iload_n 3, 1) := by decide +kernel
theorem dL_law_387 : decode cL_law 387 = .ok (.iconst 1, 1) := by decide +kernel
theorem dL_law_388 : decode cL_law 388 = .ok (.iadd, 1) := by decide +kernel
theorem dL_law_389 : decode cL_law 389 = .ok (.iaload, 1) := by decide +kernel
theorem dL_law_390 : decode cL_law 390 = .ok (.aload_n 0, 1) := by decide +kernel
theorem dL_law_391 : decode cL_law 391 = .ok (.iload_n 3, 1) := by decide +kernel
theorem dL_law_392 : decode cL_law 392 = .ok (.iconst 2, 1) := by decide +kernel
theorem dL_law_393 : decode cL_law 393 = .ok (.iadd, 1) := by decide +kernel
theorem dL_law_394 : decode cL_law 394 = .ok (.iaload, 1) := by decide +kernel
theorem dL_law_395 : decode cL_law 395 = .ok (.invokevirtual 64, 3) := by decide +kernel
theorem dL_law_398 : decode cL_law 398 = .ok (.pop, 1) := by decide +kernel
theorem dL_law_399 : decode cL_law 399 = .ok (.aload_n 2, 1) := by decide +kernel
theorem dL_law_400 : decode cL_law 400 = .ok (.aload_n 0, 1) := by decide +kernel
theorem dL_law_401 : decode cL_law 401 = .ok (.iload_n 3, 1) := by decide +kernel
theorem dL_law_402 : decode cL_law 402 = .ok (.iconst 1, 1) := by decide +kernel
theorem dL_law_403 : decode cL_law 403 = .ok (.iadd, 1) := by decide +kernel
theorem dL_law_404 : decode cL_law 404 = .ok (.iaload, 1) := by decide +kernel
theorem dL_law_405 : decode cL_law 405 = .ok (.aload_n 0, 1) := by decide +kernel
theorem dL_law_406 : decode cL_law 406 = .ok (.iload_n 3, 1) := by decide +kernel
theorem dL_law_407 : decode cL_law 407 = .ok (.iconst 2, 1) := by decide +kernel
theorem dL_law_408 : decode cL_law 408 = .ok (.iadd, 1) := by decide +kernel
theorem dL_law_409 : decode cL_law 409 = .ok (.iaload, 1) := by decide +kernel
theorem dL_law_410 : decode cL_law 410 = .ok (.invokevirtual 67, 3) := by decide +kernel
theorem dL_law_413 : decode cL_law 413 = .ok (.pop, 1) := by decide +kernel
theorem dL_law_414 : decode cL_law 414 = .ok (.goto 204, 3) := by decide +kernel
theorem dL_law_417 : decode cL_law 417 = .ok (.aload_n 1, 1) := by decide +kernel
theorem dL_law_418 : decode cL_law 418 = .ok (.aload_n 0, 1) := by decide +kernel
theorem dL_law_419 : decode cL_law 419 = .ok (.iload_n 3, 1) := by decide +kernel
theorem dL_law_420 : decode cL_law 420 = .ok (.iconst 1, 1) := by decide +kernel
theorem dL_law_421 : decode cL_law 421 = .ok (.iadd, 1) := by decide +kernel
theorem dL_law_422 : decode cL_law 422 = .ok (.iaload, 1) := by decide +kernel
theorem dL_law_423 : decode cL_law 423 = .ok (.aload_n 0, 1) := by decide +kernel
theorem dL_law_424 : decode cL_law 424 = .ok (.iload_n 3, 1) := by decide +kernel
theorem dL_law_425 : decode cL_law 425 = .ok (.iconst 2, 1) := by decide +kernel
theorem dL_law_426 : decode cL_law 426 = .ok (.iadd, 1) := by decide +kernel
theorem dL_law_427 : decode cL_law 427 = .ok (.iaload, 1) := by decide +kernel
theorem dL_law_428 : decode cL_law 428 = .ok (.invokevirtual 68, 3) := by decide +kernel
theorem dL_law_431 : decode cL_law 431 = .ok (.pop, 1) := by decide +kernel
theorem dL_law_432 : decode cL_law 432 = .ok (.aload_n 2, 1) := by decide +kernel
theorem dL_law_433 : decode cL_law 433 = .ok (.aload_n 0, 1) := by decide +kernel
theorem dL_law_434 : decode cL_law 434 = .ok (.iload_n 3, 1) := by decide +kernel
theorem dL_law_435 : decode cL_law 435 = .ok (.iconst 1, 1) := by decide +kernel
theorem dL_law_436 : decode cL_law 436 = .ok (.iadd, 1) := by decide +kernel
theorem dL_law_437 : decode cL_law 437 = .ok (.iaload, 1) := by decide +kernel
theorem dL_law_438 : decode cL_law 438 = .ok (.aload_n 0, 1) := by decide +kernel
theorem dL_law_439 : decode cL_law 439 = .ok (.iload_n 3, 1) := by decide +kernel
theorem dL_law_440 : decode cL_law 440 = .ok (.iconst 2, 1) := by decide +kernel
theorem dL_law_441 : decode cL_law 441 = .ok (.iadd, 1) := by decide +kernel
theorem dL_law_442 : decode cL_law 442 = .ok (.iaload, 1) := by decide +kernel
theorem dL_law_443 : decode cL_law 443 = .ok (.invokevirtual 71, 3) := by decide +kernel
theorem dL_law_446 : decode cL_law 446 = .ok (.pop, 1) := by decide +kernel
theorem dL_law_447 : decode cL_law 447 = .ok (.goto 171, 3) := by decide +kernel
theorem dL_law_450 : decode cL_law 450 = .ok (.aload_n 1, 1) := by decide +kernel
theorem dL_law_451 : decode cL_law 451 = .ok (.aload_n 0, 1) := by decide +kernel
theorem dL_law_452 : decode cL_law 452 = .ok (.iload_n 3, 1) := by decide +kernel
theorem dL_law_453 : decode cL_law 453 = .ok (.iconst 1, 1) := by decide +kernel
theorem dL_law_454 : decode cL_law 454 = .ok (.iadd, 1) := by decide +kernel
theorem dL_law_455 : decode cL_law 455 = .ok (.iaload, 1) := by decide +kernel
theorem dL_law_456 : decode cL_law 456 = .ok (.aload_n 0, 1) := by decide +kernel
theorem dL_law_457 : decode cL_law 457 = .ok (.iload_n 3, 1) := by decide +kernel
theorem dL_law_458 : decode cL_law 458 = .ok (.iconst 2, 1) := by decide +kernel
theorem dL_law_459 : decode cL_law 459 = .ok (.iadd, 1) := by decide +kernel
theorem dL_law_460 : decode cL_law 460 = .ok (.iaload, 1) := by decide +kernel
theorem dL_law_461 : decode cL_law 461 = .ok (.aload_n 0, 1) := by decide +kernel
theorem dL_law_462 : decode cL_law 462 = .ok (.iload_n 3, 1) := by decide +kernel
theorem dL_law_463 : decode cL_law 463 = .ok (.iconst 3, 1) := by decide +kernel
theorem dL_law_464 : decode cL_law 464 = .ok (.iadd, 1) := by decide +kernel
theorem dL_law_465 : decode cL_law 465 = .ok (.iaload, 1) := by decide +kernel
theorem dL_law_466 : decode cL_law 466 = .ok (.invokevirtual 72, 3) := by decide +kernel
theorem dL_law_469 : decode cL_law 469 = .ok (.pop, 1) := by decide +kernel
theorem dL_law_470 : decode cL_law 470 = .ok (.aload_n 2, 1) := by decide +kernel
theorem dL_law_471 : decode cL_law 471 = .ok (.aload_n 0, 1) := by decide +kernel
theorem dL_law_472 : decode cL_law 472 = .ok (.iload_n 3, 1) := by decide +kernel
theorem dL_law_473 : decode cL_law 473 = .ok (.iconst 1, 1) := by decide +kernel
theorem dL_law_474 : decode cL_law 474 = .ok (.iadd, 1) := by decide +kernel
theorem dL_law_475 : decode cL_law 475 = .ok (.iaload, 1) := by decide +kernel
theorem dL_law_476 : decode cL_law 476 = .ok (.aload_n 0, 1) := by decide +kernel
theorem dL_law_477 : decode cL_law 477 = .ok (.iload_n 3, 1) := by decide +kernel
theorem dL_law_478 : decode cL_law 478 = .ok (.iconst 2, 1) := by decide +kernel
theorem dL_law_479 : decode cL_law 479 = .ok (.iadd, 1) := by decide +kernel
theorem dL_law_480 : decode cL_law 480 = .ok (.iaload, 1) := by decide +kernel
theorem dL_law_481 : decode cL_law 481 = .ok (.aload_n 0, 1) := by decide +kernel
theorem dL_law_482 : decode cL_law 482 = .ok (.iload_n 3, 1) := by decide +kernel
theorem dL_law_483 : decode cL_law 483 = .ok (.iconst 3, 1) := by decide +kernel
theorem dL_law_484 : decode cL_law 484 = .ok (.iadd, 1) := by decide +kernel
theorem dL_law_485 : decode cL_law 485 = .ok (.iaload, 1) := by decide +kernel
theorem dL_law_486 : decode cL_law 486 = .ok (.invokevirtual 76, 3) := by decide +kernel
theorem dL_law_489 : decode cL_law 489 = .ok (.pop, 1) := by decide +kernel
theorem dL_law_490 : decode cL_law 490 = .ok (.goto 128, 3) := by decide +kernel
theorem dL_law_493 : decode cL_law 493 = .ok (.aload_n 1, 1) := by decide +kernel
theorem dL_law_494 : decode cL_law 494 = .ok (.aload_n 0, 1) := by decide +kernel
theorem dL_law_495 : decode cL_law 495 = .ok (.iload_n 3, 1) := by decide +kernel
theorem dL_law_496 : decode cL_law 496 = .ok (.iconst 1, 1) := by decide +kernel
theorem dL_law_497 : decode cL_law 497 = .ok (.iadd, 1) := by decide +kernel
theorem dL_law_498 : decode cL_law 498 = .ok (.iaload, 1) := by decide +kernel
theorem dL_law_499 : decode cL_law 499 = .ok (.aload_n 0, 1) := by decide +kernel
theorem dL_law_500 : decode cL_law 500 = .ok (.iload_n 3, 1) := by decide +kernel
theorem dL_law_501 : decode cL_law 501 = .ok (.iconst 2, 1) := by decide +kernel
theorem dL_law_502 : decode cL_law 502 = .ok (.iadd, 1) := by decide +kernel
theorem dL_law_503 : decode cL_law 503 = .ok (.iaload, 1) := by decide +kernel
theorem dL_law_504 : decode cL_law 504 = .ok (.aload_n 0, 1) := by decide +kernel
theorem dL_law_505 : decode cL_law 505 = .ok (.iload_n 3, 1) := by decide +kernel
theorem dL_law_506 : decode cL_law 506 = .ok (.iconst 3, 1) := by decide +kernel
theorem dL_law_507 : decode cL_law 507 = .ok (.iadd, 1) := by decide +kernel
theorem dL_law_508 : decode cL_law 508 = .ok (.iaload, 1) := by decide +kernel
theorem dL_law_509 : decode cL_law 509 = .ok (.invokevirtual 77, 3) := by decide +kernel
theorem dL_law_512 : decode cL_law 512 = .ok (.aload_n 2, 1) := by decide +kernel
theorem dL_law_513 : decode cL_law 513 = .ok (.aload_n 0, 1) := by decide +kernel
theorem dL_law_514 : decode cL_law 514 = .ok (.iload_n 3, 1) := by decide +kernel
theorem dL_law_515 : decode cL_law 515 = .ok (.iconst 1, 1) := by decide +kernel
theorem dL_law_516 : decode cL_law 516 = .ok (.iadd, 1) := by decide +kernel
theorem dL_law_517 : decode cL_law 517 = .ok (.iaload, 1) := by decide +kernel
theorem dL_law_518 : decode cL_law 518 = .ok (.aload_n 0, 1) := by decide +kernel
theorem dL_law_519 : decode cL_law 519 = .ok (.iload_n 3, 1) := by decide +kernel
theorem dL_law_520 : decode cL_law 520 = .ok (.iconst 2, 1) := by decide +kernel
theorem dL_law_521 : decode cL_law 521 = .ok (.iadd, 1) := by decide +kernel
theorem dL_law_522 : decode cL_law 522 = .ok (.iaload, 1) := by decide +kernel
theorem dL_law_523 : decode cL_law 523 = .ok (.aload_n 0, 1) := by decide +kernel
theorem dL_law_524 : decode cL_law 524 = .ok (.iload_n 3, 1) := by decide +kernel
theorem dL_law_525 : decode cL_law 525 = .ok (.iconst 3, 1) := by decide +kernel
theorem dL_law_526 : decode cL_law 526 = .ok (.iadd, 1) := by decide +kernel
theorem dL_law_527 : decode cL_law 527 = .ok (.iaload, 1) := by decide +kernel
theorem dL_law_528 : decode cL_law 528 = .ok (.invokevirtual 80, 3) := by decide +kernel
theorem dL_law_531 : decode cL_law 531 = .ok (.if_icmp .eq 87, 3) := by decide +kernel
theorem dL_law_534 : decode cL_law 534 = .ok (.iconst 0, 1) := by decide +kernel
theorem dL_law_535 : decode cL_law 535 = .ok (.ireturn, 1) := by decide +kernel
theorem dL_law_536 : decode cL_law 536 = .ok (.aload_n 1, 1) := by decide +kernel
theorem dL_law_537 : decode cL_law 537 = .ok (.aload_n 0, 1) := by decide +kernel
theorem dL_law_538 : decode cL_law 538 = .ok (.iload_n 3, 1) := by decide +kernel
theorem dL_law_539 : decode cL_law 539 = .ok (.iconst 1, 1) := by decide +kernel
theorem dL_law_540 : decode cL_law 540 = .ok (.iadd, 1) := by decide +kernel
theorem dL_law_541 : decode cL_law 541 = .ok (.iaload, 1) := by decide +kernel
theorem dL_law_542 : decode cL_law 542 = .ok (.invokevirtual 81, 3) := by decide +kernel
theorem dL_law_545 : decode cL_law 545 = .ok (.pop, 1) := by decide +kernel
theorem dL_law_546 : decode cL_law 546 = .ok (.aload_n 2, 1) := by decide +kernel
theorem dL_law_547 : decode cL_law 547 = .ok (.aload_n 0, 1) := by decide +kernel
theorem dL_law_548 : decode cL_law 548 = .ok (.iload_n 3, 1) := by decide +kernel
theorem dL_law_549 : decode cL_law 549 = .ok (.iconst 1, 1) := by decide +kernel
theorem dL_law_550 : decode cL_law 550 = .ok (.iadd, 1) := by decide +kernel
theorem dL_law_551 : decode cL_law 551 = .ok (.iaload, 1) := by decide +kernel
theorem dL_law_552 : decode cL_law 552 = .ok (.invokevirtual 84, 3) := by decide +kernel
theorem dL_law_555 : decode cL_law 555 = .ok (.pop, 1) := by decide +kernel
theorem dL_law_556 : decode cL_law 556 = .ok (.goto 62, 3) := by decide +kernel
theorem dL_law_559 : decode cL_law 559 = .ok (.aload_n 1, 1) := by decide +kernel
theorem dL_law_560 : decode cL_law 560 = .ok (.aload_n 0, 1) := by decide +kernel
theorem dL_law_561 : decode cL_law 561 = .ok (.iload_n 3, 1) := by decide +kernel
theorem dL_law_562 : decode cL_law 562 = .ok (.iconst 1, 1) := by decide +kernel
theorem dL_law_563 : decode cL_law 563 = .ok (.iadd, 1) := by decide +kernel
theorem dL_law_564 : decode cL_law 564 = .ok (.iaload, 1) := by decide +kernel
theorem dL_law_565 : decode cL_law 565 = .ok (.invokevirtual 85, 3) := by decide +kernel
theorem dL_law_568 : decode cL_law 568 = .ok (.pop, 1) := by decide +kernel
theorem dL_law_569 : decode cL_law 569 = .ok (.aload_n 2, 1) := by decide +kernel
theorem dL_law_570 : decode cL_law 570 = .ok (.aload_n 0, 1) := by decide +kernel
theorem dL_law_571 : decode cL_law 571 = .ok (.iload_n 3, 1) := by decide +kernel
theorem dL_law_572 : decode cL_law 572 = .ok (.iconst 1, 1) := by decide +kernel
theorem dL_law_573 : decode cL_law 573 = .ok (.iadd, 1) := by decide +kernel
theorem dL_law_574 : decode cL_law 574 = .ok (.iaload, 1) := by decide +kernel
theorem dL_law_575 : decode cL_law 575 = .ok (.invokevirtual 88, 3) := by decide +kernel
theorem dL_law_578 : decode cL_law 578 = .ok (.pop, 1) := by decide +kernel
theorem dL_law_579 : decode cL_law 579 = .ok (.goto 39, 3) := by decide +kernel
theorem dL_law_582 : decode cL_law 582 = .ok (.aload_n 1, 1) := by decide +kernel
theorem dL_law_583 : decode cL_law 583 = .ok (.aload_n 0, 1) := by decide +kernel
theorem dL_law_584 : decode cL_law 584 = .ok (.iload_n 3, 1) := by decide +kernel
theorem dL_law_585 : decode cL_law 585 = .ok (.iconst 1, 1) := by decide +kernel
theorem dL_law_586 : decode cL_law 586 = .ok (.iadd, 1) := by decide +kernel
theorem dL_law_587 : decode cL_law 587 = .ok (.iaload, 1) := by decide +kernel
theorem dL_law_588 : decode cL_law 588 = .ok (.invokevirtual 89, 3) := by decide +kernel
theorem dL_law_591 : decode cL_law 591 = .ok (.pop, 1) := by decide +kernel
theorem dL_law_592 : decode cL_law 592 = .ok (.aload_n 2, 1) := by decide +kernel
theorem dL_law_593 : decode cL_law 593 = .ok (.aload_n 0, 1) := by decide +kernel
theorem dL_law_594 : decode cL_law 594 = .ok (.iload_n 3, 1) := by decide +kernel
theorem dL_law_595 : decode cL_law 595 = .ok (.iconst 1, 1) := by decide +kernel
theorem dL_law_596 : decode cL_law 596 = .ok (.iadd, 1) := by decide +kernel
theorem dL_law_597 : decode cL_law 597 = .ok (.iaload, 1) := by decide +kernel
theorem dL_law_598 : decode cL_law 598 = .ok (.invokevirtual 92, 3) := by decide +kernel
theorem dL_law_601 : decode cL_law 601 = .ok (.pop, 1) := by decide +kernel
theorem dL_law_602 : decode cL_law 602 = .ok (.goto 16, 3) := by decide +kernel
theorem dL_law_605 : decode cL_law 605 = .ok (.aload_n 1, 1) := by decide +kernel
theorem dL_law_606 : decode cL_law 606 = .ok (.invokevirtual 93, 3) := by decide +kernel
theorem dL_law_609 : decode cL_law 609 = .ok (.pop2, 1) := by decide +kernel
theorem dL_law_610 : decode cL_law 610 = .ok (.aload_n 2, 1) := by decide +kernel
theorem dL_law_611 : decode cL_law 611 = .ok (.invokevirtual 97, 3) := by decide +kernel
theorem dL_law_614 : decode cL_law 614 = .ok (.pop2, 1) := by decide +kernel
theorem dL_law_615 : decode cL_law 615 = .ok (.goto 3, 3) := by decide +kernel
theorem dL_law_618 : decode cL_law 618 = .ok (.iinc 3 4, 3) := by decide +kernel
theorem dL_law_621 : decode cL_law 621 = .ok (.goto (-603), 3) := by decide +kernel
theorem dL_law_624 : decode cL_law 624 = .ok (.iconst 1, 1) := by decide +kernel
theorem dL_law_625 : decode cL_law 625 = .ok (.ireturn, 1) := by decide +kernel
