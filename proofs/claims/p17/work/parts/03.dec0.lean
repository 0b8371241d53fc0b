theorem dX0_init_0 : decode cX0_init 0 = .ok (.aload_n 0, 1) := by decide +kernel
theorem dX0_init_1 : decode cX0_init 1 = .ok (.invokespecial 3, 3) := by decide +kernel
theorem dX0_init_4 : decode cX0_init 4 = .ok (.aload_n 0, 1) := by decide +kernel
theorem dX0_init_5 : decode cX0_init 5 = .ok (.sipush 128, 3) := by decide +kernel
theorem dX0_init_8 : decode cX0_init 8 = .ok (.newarray .int, 2) := by decide +kernel
theorem dX0_init_10 : decode cX0_init 10 = .ok (.putfield 9, 3) := by decide +kernel
theorem dX0_init_13 : decode cX0_init 13 = .ok (.return_, 1) := by decide +kernel
theorem dX0_points_0 : decode cX0_points 0 = .ok (.iconst 1, 1) := by decide +kernel
theorem dX0_points_1 : decode cX0_points 1 = .ok (.aload_n 0, 1) := by decide +kernel
theorem dX0_points_2 : decode cX0_points 2 = .ok (.getfield 15, 3) := by decide +kernel
theorem dX0_points_5 : decode cX0_points 5 = .ok (.ishl, 1) := by decide +kernel
theorem dX0_points_6 : decode cX0_points 6 = .ok (.ireturn, 1) := by decide +kernel
theorem dX0_chart_0 : decode cX0_chart 0 = .ok (.aload_n 0, 1) := by decide +kernel
theorem dX0_chart_1 : decode cX0_chart 1 = .ok (.iconst 2, 1) := by decide +kernel
theorem dX0_chart_2 : decode cX0_chart 2 = .ok (.aload_n 2, 1) := by decide +kernel
theorem dX0_chart_3 : decode cX0_chart 3 = .ok (.getfield 19, 3) := by decide +kernel
theorem dX0_chart_6 : decode cX0_chart 6 = .ok (.iadd, 1) := by decide +kernel
theorem dX0_chart_7 : decode cX0_chart 7 = .ok (.putfield 15, 3) := by decide +kernel
theorem dX0_chart_10 : decode cX0_chart 10 = .ok (.iconst 0, 1) := by decide +kernel
theorem dX0_chart_11 : decode cX0_chart 11 = .ok (.istore_n 3, 1) := by decide +kernel
theorem dX0_chart_12 : decode cX0_chart 12 = .ok (.iload_n 3, 1) := by decide +kernel
theorem dX0_chart_13 : decode cX0_chart 13 = .ok (.sipush 128, 3) := by decide +kernel
theorem dX0_chart_16 : decode cX0_chart 16 = .ok (.if_icmp .ge 16, 3) := by decide +kernel
theorem dX0_chart_19 : decode cX0_chart 19 = .ok (.aload_n 0, 1) := by decide +kernel
theorem dX0_chart_20 : decode cX0_chart 20 = .ok (.getfield 9, 3) := by decide +kernel
theorem dX0_chart_23 : decode cX0_chart 23 = .ok (.iload_n 3, 1) := by decide +kernel
theorem dX0_chart_24 : decode cX0_chart 24 = .ok (.iconst (-1), 1) := by decide +kernel
theorem dX0_chart_25 : decode cX0_chart 25 = .ok (.iastore, 1) := by decide +kernel
theorem dX0_chart_26 : decode cX0_chart 26 = .ok (.iinc 3 1, 3) := by decide +kernel
theorem dX0_chart_29 : decode cX0_chart 29 = .ok (.goto (-17), 3) := by decide +kernel
theorem dX0_chart_32 : decode cX0_chart 32 = .ok (.iconst 0, 1) := by decide +kernel
theorem dX0_chart_33 : decode cX0_chart 33 = .ok (.istore_n 3, 1) := by decide +kernel
theorem dX0_chart_34 : decode cX0_chart 34 = .ok (.iload_n 3, 1) := by decide +kernel
theorem dX0_chart_35 : decode cX0_chart 35 = .ok (.aload_n 1, 1) := by decide +kernel
theorem dX0_chart_36 : decode cX0_chart 36 = .ok (.getfield 24, 3) := by decide +kernel
theorem dX0_chart_39 : decode cX0_chart 39 = .ok (.if_icmp .ge 59, 3) := by decide +kernel
theorem dX0_chart_42 : decode cX0_chart 42 = .ok (.iconst 0, 1) := by decide +kernel
theorem dX0_chart_43 : decode cX0_chart 43 = .ok (.istore 4, 2) := by decide +kernel
theorem dX0_chart_45 : decode cX0_chart 45 = .ok (.iload 4, 2) := by decide +kernel
theorem dX0_chart_47 : decode cX0_chart 47 = .ok (.aload_n 1, 1) := by decide +kernel
theorem dX0_chart_48 : decode cX0_chart 48 = .ok (.getfield 29, 3) := by decide +kernel
theorem dX0_chart_51 : decode cX0_chart 51 = .ok (.if_icmp .ge 41, 3) := by decide +kernel
theorem dX0_chart_54 : decode cX0_chart 54 = .ok (.aload_n 1, 1) := by decide +kernel
theorem dX0_chart_55 : decode cX0_chart 55 = .ok (.iload_n 3, 1) := by decide +kernel
theorem dX0_chart_56 : decode cX0_chart 56 = .ok (.iload 4, 2) := by decide +kernel
theorem dX0_chart_58 : decode cX0_chart 58 = .ok (.invokevirtual 32, 3) := by decide +kernel
theorem dX0_chart_61 : decode cX0_chart 61 = .ok (.istore 5, 2) := by decide +kernel
theorem dX0_chart_63 : decode cX0_chart 63 = .ok (.iload 5, 2) := by decide +kernel
theorem dX0_chart_65 : decode cX0_chart 65 = .ok (.iconst (-1), 1) := by decide +kernel
theorem dX0_chart_66 : decode cX0_chart 66 = .ok (.if_icmp .eq 20, 3) := by decide +kernel
theorem dX0_chart_69 : decode cX0_chart 69 = .ok (.aload_n 0, 1) := by decide +kernel
theorem dX0_chart_70 : decode cX0_chart 70 = .ok (.iload 4, 2) := by decide +kernel
theorem dX0_chart_72 : decode cX0_chart 72 = .ok (.aload_n 2, 1) := by decide +kernel
theorem dX0_chart_73 : decode cX0_chart 73 = .ok (.iload_n 3, 1) := by decide +kernel
theorem dX0_chart_74 : decode cX0_chart 74 = .ok (.invokevirtual 36, 3) := by decide +kernel
theorem dX0_chart_77 : decode cX0_chart 77 = .ok (.aload_n 2, 1) := by decide +kernel
theorem dX0_chart_78 : decode cX0_chart 78 = .ok (.iload 5, 2) := by decide +kernel
theorem dX0_chart_80 : decode cX0_chart 80 = .ok (.invokevirtual 36, 3) := by decide +kernel
theorem dX0_chart_83 : decode cX0_chart 83 = .ok (.invokevirtual 40, 3) := by decide +kernel
theorem dX0_chart_86 : decode cX0_chart 86 = .ok (.iinc 4 1, 3) := by decide +kernel
theorem dX0_chart_89 : decode cX0_chart 89 = .ok (.goto (-44), 3) := by decide +kernel
theorem dX0_chart_92 : decode cX0_chart 92 = .ok (.iinc 3 1, 3) := by decide +kernel
theorem dX0_chart_95 : decode cX0_chart 95 = .ok (.goto (-61), 3) := by decide +kernel
theorem dX0_chart_98 : decode cX0_chart 98 = .ok (.return_, 1) := by decide +kernel
theorem dX0_chartWay_0 : decode cX0_chartWay 0 = .ok (.iload_n 2, 1) := by decide +kernel
theorem dX0_chartWay_1 : decode cX0_chartWay 1 = .ok (.iload_n 3, 1) := by decide +kernel
theorem dX0_chartWay_2 : decode cX0_chartWay 2 = .ok (.ixor, 1) := by decide +kernel
theorem dX0_chartWay_3 : decode cX0_chartWay 3 = .ok (.istore 4, 2) := by decide +kernel
theorem dX0_chartWay_5 : decode cX0_chartWay 5 = .ok (.iconst 0, 1) := by decide +kernel
theorem dX0_chartWay_6 : decode cX0_chartWay 6 = .ok (.istore 5, 2) := by decide +kernel
theorem dX0_chartWay_8 : decode cX0_chartWay 8 = .ok (.iload 5, 2) := by decide +kernel
theorem dX0_chartWay_10 : decode cX0_chartWay 10 = .ok (.bipush 32, 2) := by decide +kernel
theorem dX0_chartWay_12 : decode cX0_chartWay 12 = .ok (.if_icmp .ge 33, 3) := by decide +kernel
theorem dX0_chartWay_15 : decode cX0_chartWay 15 = .ok (.iload 5, 2) := by decide +kernel
theorem dX0_chartWay_17 : decode cX0_chartWay 17 = .ok (.iload_n 2, 1) := by decide +kernel
theorem dX0_chartWay_18 : decode cX0_chartWay 18 = .ok (.ixor, 1) := by decide +kernel
theorem dX0_chartWay_19 : decode cX0_chartWay 19 = .ok (.iload 4, 2) := by decide +kernel
theorem dX0_chartWay_21 : decode cX0_chartWay 21 = .ok (.iconst (-1), 1) := by decide +kernel
theorem dX0_chartWay_22 : decode cX0_chartWay 22 = .ok (.ixor, 1) := by decide +kernel
theorem dX0_chartWay_23 : decode cX0_chartWay 23 = .ok (.iand, 1) := by decide +kernel
theorem dX0_chartWay_24 : decode cX0_chartWay 24 = .ok (.ifCond .ne 15, 3) := by decide +kernel
theorem dX0_chartWay_27 : decode cX0_chartWay 27 = .ok (.aload_n 0, 1) := by decide +kernel
theorem dX0_chartWay_28 : decode cX0_chartWay 28 = .ok (.getfield 9, 3) := by decide +kernel
theorem dX0_chartWay_31 : decode cX0_chartWay 31 = .ok (.iload 5, 2) := by decide +kernel
theorem dX0_chartWay_33 : decode cX0_chartWay 33 = .ok (.iconst 2, 1) := by decide +kernel
theorem dX0_chartWay_34 : decode cX0_chartWay 34 = .ok (.ishl, 1) := by decide +kernel
theorem dX0_chartWay_35 : decode cX0_chartWay 35 = .ok (.iload_n 1, 1) := by decide +kernel
theorem dX0_chartWay_36 : decode cX0_chartWay 36 = .ok (.iadd, 1) := by decide +kernel
theorem dX0_chartWay_37 : decode cX0_chartWay 37 = .ok (.iload_n 3, 1) := by decide +kernel
theorem dX0_chartWay_38 : decode cX0_chartWay 38 = .ok (.iastore, 1) := by decide +kernel
theorem dX0_chartWay_39 : decode cX0_chartWay 39 = .ok (.iinc 5 1, 3) := by decide +kernel
theorem dX0_chartWay_42 : decode cX0_chartWay 42 = .ok (.goto (-34), 3) := by decide +kernel
theorem dX0_chartWay_45 : decode cX0_chartWay 45 = .ok (.return_, 1) := by decide +kernel
theorem dX0_at_0 : decode cX0_at 0 = .ok (.iload_n 2, 1) := by decide +kernel
theorem dX0_at_1 : decode cX0_at 1 = .ok (.ifCond .lt 20, 3) := by decide +kernel
theorem dX0_at_4 : decode cX0_at 4 = .ok (.iload_n 2, 1) := by decide +kernel
theorem dX0_at_5 : decode cX0_at 5 = .ok (.sipush 128, 3) := by decide +kernel
theorem dX0_at_8 : decode cX0_at 8 = .ok (.if_icmp .ge 13, 3) := by decide +kernel
theorem dX0_at_11 : decode cX0_at 11 = .ok (.aload_n 0, 1) := by decide +kernel
theorem dX0_at_12 : decode cX0_at 12 = .ok (.getfield 9, 3) := by decide +kernel
theorem dX0_at_15 : decode cX0_at 15 = .ok (.iload_n 2, 1) := by decide +kernel
theorem dX0_at_16 : decode cX0_at 16 = .ok (.iaload, 1) := by decide +kernel
theorem dX0_at_17 : decode cX0_at 17 = .ok (.iconst (-1), 1) := by decide +kernel
theorem dX0_at_18 : decode cX0_at 18 = .ok (.if_icmp .ne 5, 3) := by decide +kernel
theorem dX0_at_21 : decode cX0_at 21 = .ok (.iconst (-1), 1) := by decide +kernel
theorem dX0_at_22 : decode cX0_at 22 = .ok (.ireturn, 1) := by decide +kernel
theorem dX0_at_23 : decode cX0_at 23 = .ok (.aload_n 0, 1) := by decide +kernel
theorem dX0_at_24 : decode cX0_at 24 = .ok (.getfield 9, 3) := by decide +kernel
theorem dX0_at_27 : decode cX0_at 27 = .ok (.iload_n 2, 1) := by decide +kernel
theorem dX0_at_28 : decode cX0_at 28 = .ok (.iaload, 1) := by decide +kernel
theorem dX0_at_29 : decode cX0_at 29 = .ok (.iload_n 1, 1) := by decide +kernel
theorem dX0_at_30 : decode cX0_at 30 = .ok (.ishr, 1) := by decide +kernel
theorem dX0_at_31 : decode cX0_at 31 = .ok (.iconst 1, 1) := by decide +kernel
theorem dX0_at_32 : decode cX0_at 32 = .ok (.iand, 1) := by decide +kernel
theorem dX0_at_33 : decode cX0_at 33 = .ok (.ireturn, 1) := by decide +kernel
theorem dX0_pointsWith_0 : decode cX0_pointsWith 0 = .ok (.iconst 0, 1) := by decide +kernel
theorem dX0_pointsWith_1 : decode cX0_pointsWith 1 = .ok (.istore_n 3, 1) := by decide +kernel
theorem dX0_pointsWith_2 : decode cX0_pointsWith 2 = .ok (.iconst 0, 1) := by decide +kernel
theorem dX0_pointsWith_3 : decode cX0_pointsWith 3 = .ok (.istore 4, 2) := by decide +kernel
theorem dX0_pointsWith_5 : decode cX0_pointsWith 5 = .ok (.iload 4, 2) := by decide +kernel
theorem dX0_pointsWith_7 : decode cX0_pointsWith 7 = .ok (.aload_n 0, 1) := by decide +kernel
theorem dX0_pointsWith_8 : decode cX0_pointsWith 8 = .ok (.invokevirtual 44, 3) := by decide +kernel
theorem dX0_pointsWith_11 : decode cX0_pointsWith 11 = .ok (.if_icmp .ge 23, 3) := by decide +kernel
theorem dX0_pointsWith_14 : decode cX0_pointsWith 14 = .ok (.aload_n 0, 1) := by decide +kernel
theorem dX0_pointsWith_15 : decode cX0_pointsWith 15 = .ok (.iload_n 1, 1) := by decide +kernel
theorem dX0_pointsWith_16 : decode cX0_pointsWith 16 = .ok (.iload 4, 2) := by decide +kernel
theorem dX0_pointsWith_18 : decode cX0_pointsWith 18 = .ok (.invokevirtual 48, 3) := by decide +kernel
theorem dX0_pointsWith_21 : decode cX0_pointsWith 21 = .ok (.iload_n 2, 1) := by decide +kernel
theorem dX0_pointsWith_22 : decode cX0_pointsWith 22 = .ok (.if_icmp .ne 6, 3) := by decide +kernel
theorem dX0_pointsWith_25 : decode cX0_pointsWith 25 = .ok (.iinc 3 1, 3) := by decide +kernel
theorem dX0_pointsWith_28 : decode cX0_pointsWith 28 = .ok (.iinc 4 1, 3) := by decide +kernel
theorem dX0_pointsWith_31 : decode cX0_pointsWith 31 = .ok (.goto (-26), 3) := by decide +kernel
theorem dX0_pointsWith_34 : decode cX0_pointsWith 34 = .ok (.iload_n 3, 1) := by decide +kernel
theorem dX0_pointsWith_35 : decode cX0_pointsWith 35 = .ok (.ireturn, 1) := by decide +kernel
theorem dX1_init_0 : decode cX1_init 0 = .ok (.aload_n 0, 1) := by decide +kernel
theorem dX1_init_1 : decode cX1_init 1 = .ok (.invokespecial 3, 3) := by decide +kernel
theorem dX1_init_4 : decode cX1_init 4 = .ok (.aload_n 0, 1) := by decide +kernel
theorem dX1_init_5 : decode cX1_init 5 = .ok (.sipush 2187, 3) := by decide +kernel
theorem dX1_init_8 : decode cX1_init 8 = .ok (.newarray .byte, 2) := by decide +kernel
theorem dX1_init_10 : decode cX1_init 10 = .ok (.putfield 11, 3) := by decide +kernel
theorem dX1_init_13 : decode cX1_init 13 = .ok (.aload_n 0, 1) := by decide +kernel
theorem dX1_init_14 : decode cX1_init 14 = .ok (.sipush 128, 3) := by decide +kernel
theorem dX1_init_17 : decode cX1_init 17 = .ok (.newarray .int, 2) := by decide +kernel
theorem dX1_init_19 : decode cX1_init 19 = .ok (.putfield 15, 3) := by decide +kernel
theorem dX1_init_22 : decode cX1_init 22 = .ok (.iconst 1, 1) := by decide +kernel
theorem dX1_init_23 : decode cX1_init 23 = .ok (.istore_n 1, 1) := by decide +kernel
theorem dX1_init_24 : decode cX1_init 24 = .ok (.iload_n 1, 1) := by decide +kernel
theorem dX1_init_25 : decode cX1_init 25 = .ok (.sipush 128, 3) := by decide +kernel
theorem dX1_init_28 : decode cX1_init 28 = .ok (.if_icmp .ge 29, 3) := by decide +kernel
theorem dX1_init_31 : decode cX1_init 31 = .ok (.aload_n 0, 1) := by decide +kernel
theorem dX1_init_32 : decode cX1_init 32 = .ok (.getfield 15, 3) := by decide +kernel
theorem dX1_init_35 : decode cX1_init 35 = .ok (.iload_n 1, 1) := by decide +kernel
theorem dX1_init_36 : decode cX1_init 36 = .ok (.iconst 3, 1) := by decide +kernel
theorem dX1_init_37 : decode cX1_init 37 = .ok (.aload_n 0, 1) := by decide +kernel
theorem dX1_init_38 : decode cX1_init 38 = .ok (.getfield 15, 3) := by decide +kernel
theorem dX1_init_41 : decode cX1_init 41 = .ok (.iload_n 1, 1) := by decide +kernel
theorem dX1_init_42 : decode cX1_init 42 = .ok (.iconst 1, 1) := by decide +kernel
theorem dX1_init_43 : decode cX1_init 43 = .ok (.ishr, 1) := by decide +kernel
theorem dX1_init_44 : decode cX1_init 44 = .ok (.iaload, 1) := by decide +kernel
theorem dX1_init_45 : decode cX1_init 45 = .ok (.imul, 1) := by decide +kernel
theorem dX1_init_46 : decode cX1_init 46 = .ok (.iload_n 1, 1) := by decide +kernel
theorem dX1_init_47 : decode cX1_init 47 = .ok (.iconst 1, 1) := by decide +kernel
theorem dX1_init_48 : decode cX1_init 48 = .ok (.iand, 1) := by decide +kernel
theorem dX1_init_49 : decode cX1_init 49 = .ok (.iadd, 1) := by decide +kernel
theorem dX1_init_50 : decode cX1_init 50 = .ok (.iastore, 1) := by decide +kernel
theorem dX1_init_51 : decode cX1_init 51 = .ok (.iinc 1 1, 3) := by decide +kernel
theorem dX1_init_54 : decode cX1_init 54 = .ok (.goto (-30), 3) := by decide +kernel
theorem dX1_init_57 : decode cX1_init 57 = .ok (.return_, 1) := by decide +kernel
theorem dX1_indexOf_0 : decode cX1_indexOf 0 = .ok (.aload_n 0, 1) := by decide +kernel
theorem dX1_indexOf_1 : decode cX1_indexOf 1 = .ok (.getfield 15, 3) := by decide +kernel
theorem dX1_indexOf_4 : decode cX1_indexOf 4 = .ok (.iload_n 2, 1) := by decide +kernel
theorem dX1_indexOf_5 : decode cX1_indexOf 5 = .ok (.iload_n 1, 1) := by decide +kernel
theorem dX1_indexOf_6 : decode cX1_indexOf 6 = .ok (.iand, 1) := by decide +kernel
theorem dX1_indexOf_7 : decode cX1_indexOf 7 = .ok (.aload_n 0, 1) := by decide +kernel
theorem dX1_indexOf_8 : decode cX1_indexOf 8 = .ok (.getfield 19, 3) := by decide +kernel
theorem dX1_indexOf_11 : decode cX1_indexOf 11 = .ok (.iand, 1) := by decide +kernel
theorem dX1_indexOf_12 : decode cX1_indexOf 12 = .ok (.iaload, 1) := by decide +kernel
theorem dX1_indexOf_13 : decode cX1_indexOf 13 = .ok (.iconst 2, 1) := by decide +kernel
theorem dX1_indexOf_14 : decode cX1_indexOf 14 = .ok (.aload_n 0, 1) := by decide +kernel
theorem dX1_indexOf_15 : decode cX1_indexOf 15 = .ok (.getfield 15, 3) := by decide +kernel
theorem dX1_indexOf_18 : decode cX1_indexOf 18 = .ok (.aload_n 0, 1) := by decide +kernel
theorem dX1_indexOf_19 : decode cX1_indexOf 19 = .ok (.getfield 19, 3) := by decide +kernel
theorem dX1_indexOf_22 : decode cX1_indexOf 22 = .ok (.iload_n 1, 1) := by decide +kernel
theorem dX1_indexOf_23 : decode cX1_indexOf 23 = .ok (.iconst (-1), 1) := by decide +kernel
theorem dX1_indexOf_24 : decode cX1_indexOf 24 = .ok (.ixor, 1) := by decide +kernel
theorem dX1_indexOf_25 : decode cX1_indexOf 25 = .ok (.iand, 1) := by decide +kernel
theorem dX1_indexOf_26 : decode cX1_indexOf 26 = .ok (.iaload, 1) := by decide +kernel
theorem dX1_indexOf_27 : decode cX1_indexOf 27 = .ok (.imul, 1) := by decide +kernel
theorem dX1_indexOf_28 : decode cX1_indexOf 28 = .ok (.iadd, 1) := by decide +kernel
theorem dX1_indexOf_29 : decode cX1_indexOf 29 = .ok (.ireturn, 1) := by decide +kernel
theorem dX1_look_0 : decode cX1_look 0 = .ok (.aload_n 0, 1) := by decide +kernel
theorem dX1_look_1 : decode cX1_look 1 = .ok (.aload_n 1, 1) := by decide +kernel
theorem dX1_look_2 : decode cX1_look 2 = .ok (.invokevirtual 23, 3) := by decide +kernel
theorem dX1_look_5 : decode cX1_look 5 = .ok (.iconst 1, 1) := by decide +kernel
theorem dX1_look_6 : decode cX1_look 6 = .ok (.isub, 1) := by decide +kernel
theorem dX1_look_7 : decode cX1_look 7 = .ok (.putfield 19, 3) := by decide +kernel
theorem dX1_look_10 : decode cX1_look 10 = .ok (.aload_n 0, 1) := by decide +kernel
theorem dX1_look_11 : decode cX1_look 11 = .ok (.getfield 19, 3) := by decide +kernel
theorem dX1_look_14 : decode cX1_look 14 = .ok (.istore_n 3, 1) := by decide +kernel
theorem dX1_look_15 : decode cX1_look 15 = .ok (.iload_n 3, 1) := by decide +kernel
theorem dX1_look_16 : decode cX1_look 16 = .ok (.ifCond .lt 126, 3) := by decide +kernel
theorem dX1_look_19 : decode cX1_look 19 = .ok (.aload_n 0, 1) := by decide +kernel
theorem dX1_look_20 : decode cX1_look 20 = .ok (.getfield 19, 3) := by decide +kernel
theorem dX1_look_23 : decode cX1_look 23 = .ok (.iload_n 3, 1) := by decide +kernel
theorem dX1_look_24 : decode cX1_look 24 = .ok (.iconst (-1), 1) := by decide +kernel
theorem dX1_look_25 : decode cX1_look 25 = .ok (.ixor, 1) := by decide +kernel
theorem dX1_look_26 : decode cX1_look 26 = .ok (.iand, 1) := by decide +kernel
theorem dX1_look_27 : decode cX1_look 27 = .ok (.istore 4, 2) := by decide +kernel
theorem dX1_look_29 : decode cX1_look 29 = .ok (.iload 4, 2) := by decide +kernel
theorem dX1_look_31 : decode cX1_look 31 = .ok (.iload 4, 2) := by decide +kernel
theorem dX1_look_33 : decode cX1_look 33 = .ok (.ineg, 1) := by decide +kernel
theorem dX1_look_34 : decode cX1_look 34 = .ok (.iand, 1) := by decide +kernel
theorem dX1_look_35 : decode cX1_look 35 = .ok (.istore 5, 2) := by decide +kernel
theorem dX1_look_37 : decode cX1_look 37 = .ok (.iconst 0, 1) := by decide +kernel
theorem dX1_look_38 : decode cX1_look 38 = .ok (.istore 6, 2) := by decide +kernel
theorem dX1_look_40 : decode cX1_look 40 = .ok (.iconst 1, 1) := by decide +kernel
theorem dX1_look_41 : decode cX1_look 41 = .ok (.iload_n 3, 1) := by decide +kernel
theorem dX1_look_42 : decode cX1_look 42 = .ok (.invokestatic 29, 3) := by decide +kernel
theorem dX1_look_45 : decode cX1_look 45 = .ok (.ishl, 1) := by decide +kernel
theorem dX1_look_46 : decode cX1_look 46 = .ok (.istore 7, 2) := by decide +kernel
theorem dX1_look_48 : decode cX1_look 48 = .ok (.iload 7, 2) := by decide +kernel
theorem dX1_look_50 : decode cX1_look 50 = .ok (.ifCond .le 86, 3) := by decide +kernel
theorem dX1_look_53 : decode cX1_look 53 = .ok (.iload 5, 2) := by decide +kernel
theorem dX1_look_55 : decode cX1_look 55 = .ok (.ifCond .ne 16, 3) := by decide +kernel
theorem dX1_look_58 : decode cX1_look 58 = .ok (.aload_n 1, 1) := by decide +kernel
theorem dX1_look_59 : decode cX1_look 59 = .ok (.iload_n 2, 1) := by decide +kernel
theorem dX1_look_60 : decode cX1_look 60 = .ok (.iload 6, 2) := by decide +kernel
theorem dX1_look_62 : decode cX1_look 62 = .ok (.invokevirtual 35, 3) := by decide +kernel
theorem dX1_look_65 : decode cX1_look 65 = .ok (.invokestatic 39, 3) := by decide +kernel
theorem dX1_look_68 : decode cX1_look 68 = .ok (.goto 37, 3) := by decide +kernel
theorem dX1_look_71 : decode cX1_look 71 = .ok (.aload_n 0, 1) := by decide +kernel
theorem dX1_look_72 : decode cX1_look 72 = .ok (.getfield 11, 3) := by decide +kernel
theorem dX1_look_75 : decode cX1_look 75 = .ok (.aload_n 0, 1) := by decide +kernel
theorem dX1_look_76 : decode cX1_look 76 = .ok (.iload_n 3, 1) := by decide +kernel
theorem dX1_look_77 : decode cX1_look 77 = .ok (.iload 5, 2) := by decide +kernel
theorem dX1_look_79 : decode cX1_look 79 = .ok (.ior, 1) := by decide +kernel
theorem dX1_look_80 : decode cX1_look 80 = .ok (.iload 6, 2) := by decide +kernel
theorem dX1_look_82 : decode cX1_look 82 = .ok (.invokevirtual 42, 3) := by decide +kernel
theorem dX1_look_85 : decode cX1_look 85 = .ok (.baload, 1) := by decide +kernel
theorem dX1_look_86 : decode cX1_look 86 = .ok (.aload_n 0, 1) := by decide +kernel
theorem dX1_look_87 : decode cX1_look 87 = .ok (.getfield 11, 3) := by decide +kernel
theorem dX1_look_90 : decode cX1_look 90 = .ok (.aload_n 0, 1) := by decide +kernel
theorem dX1_look_91 : decode cX1_look 91 = .ok (.iload_n 3, 1) := by decide +kernel
theorem dX1_look_92 : decode cX1_look 92 = .ok (.iload 5, 2) := by decide +kernel
theorem dX1_look_94 : decode cX1_look 94 = .ok (.ior, 1) := by decide +kernel
theorem dX1_look_95 : decode cX1_look 95 = .ok (.iload 6, 2) := by decide +kernel
theorem dX1_look_97 : decode cX1_look 97 = .ok (.iload 5, 2) := by decide +kernel
theorem dX1_look_99 : decode cX1_look 99 = .ok (.ior, 1) := by decide +kernel
theorem dX1_look_100 : decode cX1_look 100 = .ok (.invokevirtual 42, 3) := by decide +kernel
theorem dX1_look_103 : decode cX1_look 103 = .ok (.baload, 1) := by decide +kernel
theorem dX1_look_104 : decode cX1_look 104 = .ok (.ior, 1) := by decide +kernel
theorem dX1_look_105 : decode cX1_look 105 = .ok (.istore 8, 2) := by decide +kernel
theorem dX1_look_107 : decode cX1_look 107 = .ok (.aload_n 0, 1) := by decide +kernel
theorem dX1_look_108 : decode cX1_look 108 = .ok (.getfield 11, 3) := by decide +kernel
theorem dX1_look_111 : decode cX1_look 111 = .ok (.aload_n 0, 1) := by decide +kernel
theorem dX1_look_112 : decode cX1_look 112 = .ok (.iload_n 3, 1) := by decide +kernel
theorem dX1_look_113 : decode cX1_look 113 = .ok (.iload 6, 2) := by decide +kernel
theorem dX1_look_115 : decode cX1_look 115 = .ok (.invokevirtual 42, 3) := by decide +kernel
theorem dX1_look_118 : decode cX1_look 118 = .ok (.iload 8, 2) := by decide +kernel
theorem dX1_look_120 : decode cX1_look 120 = .ok (.i2b, 1) := by decide +kernel
theorem dX1_look_121 : decode cX1_look 121 = .ok (.bastore, 1) := by decide +kernel
theorem dX1_look_122 : decode cX1_look 122 = .ok (.iload 6, 2) := by decide +kernel
theorem dX1_look_124 : decode cX1_look 124 = .ok (.iload_n 3, 1) := by decide +kernel
theorem dX1_look_125 : decode cX1_look 125 = .ok (.isub, 1) := by decide +kernel
theorem dX1_look_126 : decode cX1_look 126 = .ok (.iload_n 3, 1) := by decide +kernel
theorem dX1_look_127 : decode cX1_look 127 = .ok (.iand, 1) := by decide +kernel
theorem dX1_look_128 : decode cX1_look 128 = .ok (.istore 6, 2) := by decide +kernel
theorem dX1_look_130 : decode cX1_look 130 = .ok (.iinc 7 (-1), 3) := by decide +kernel
theorem dX1_look_133 : decode cX1_look 133 = .ok (.goto (-85), 3) := by decide +kernel
theorem dX1_look_136 : decode cX1_look 136 = .ok (.iinc 3 (-1), 3) := by decide +kernel
theorem dX1_look_139 : decode cX1_look 139 = .ok (.goto (-124), 3) := by decide +kernel
theorem dX1_look_142 : decode cX1_look 142 = .ok (.return_, 1) := by decide +kernel
theorem dX1_seenAtPoint_0 : decode cX1_seenAtPoint 0 = .ok (.iload_n 0, 1) := by decide +kernel
theorem dX1_seenAtPoint_1 : decode cX1_seenAtPoint 1 = .ok (.iconst (-1), 1) := by decide +kernel
theorem dX1_seenAtPoint_2 : decode cX1_seenAtPoint 2 = .ok (.if_icmp .ne 5, 3) := by decide +kernel
theorem dX1_seenAtPoint_5 : decode cX1_seenAtPoint 5 = .ok (.iconst 0, 1) := by decide +kernel
theorem dX1_seenAtPoint_6 : decode cX1_seenAtPoint 6 = .ok (.ireturn, 1) := by decide +kernel
theorem dX1_seenAtPoint_7 : decode cX1_seenAtPoint 7 = .ok (.iload_n 0, 1) := by decide +kernel
theorem dX1_seenAtPoint_8 : decode cX1_seenAtPoint 8 = .ok (.iconst 1, 1) := by decide +kernel
theorem dX1_seenAtPoint_9 : decode cX1_seenAtPoint 9 = .ok (.if_icmp .ne 7, 3) := by decide +kernel
theorem dX1_seenAtPoint_12 : decode cX1_seenAtPoint 12 = .ok (.iconst 1, 1) := by decide +kernel
theorem dX1_seenAtPoint_13 : decode cX1_seenAtPoint 13 = .ok (.goto 4, 3) := by decide +kernel
theorem dX1_seenAtPoint_16 : decode cX1_seenAtPoint 16 = .ok (.iconst 2, 1) := by decide +kernel
theorem dX1_seenAtPoint_17 : decode cX1_seenAtPoint 17 = .ok (.ireturn, 1) := by decide +kernel
theorem dX1_isWide_0 : decode cX1_isWide 0 = .ok (.aload_n 0, 1) := by decide +kernel
theorem dX1_isWide_1 : decode cX1_isWide 1 = .ok (.getfield 11, 3) := by decide +kernel
theorem dX1_isWide_4 : decode cX1_isWide 4 = .ok (.aload_n 0, 1) := by decide +kernel
theorem dX1_isWide_5 : decode cX1_isWide 5 = .ok (.iload_n 1, 1) := by decide +kernel
theorem dX1_isWide_6 : decode cX1_isWide 6 = .ok (.iload_n 2, 1) := by decide +kernel
theorem dX1_isWide_7 : decode cX1_isWide 7 = .ok (.invokevirtual 42, 3) := by decide +kernel
theorem dX1_isWide_10 : decode cX1_isWide 10 = .ok (.baload, 1) := by decide +kernel
theorem dX1_isWide_11 : decode cX1_isWide 11 = .ok (.iconst 1, 1) := by decide +kernel
theorem dX1_isWide_12 : decode cX1_isWide 12 = .ok (.if_icmp .eq 5, 3) := by decide +kernel
theorem dX1_isWide_15 : decode cX1_isWide 15 = .ok (.iconst 0, 1) := by decide +kernel
theorem dX1_isWide_16 : decode cX1_isWide 16 = .ok (.ireturn, 1) := by decide +kernel
theorem dX1_isWide_17 : decode cX1_isWide 17 = .ok (.iconst 0, 1) := by decide +kernel
theorem dX1_isWide_18 : decode cX1_isWide 18 = .ok (.istore_n 3, 1) := by decide +kernel
theorem dX1_isWide_19 : decode cX1_isWide 19 = .ok (.iload_n 3, 1) := by decide +kernel
theorem dX1_isWide_20 : decode cX1_isWide 20 = .ok (.bipush 7, 2) := by decide +kernel
theorem dX1_isWide_22 : decode cX1_isWide 22 = .ok (.if_icmp .ge 48, 3) := by decide +kernel
theorem dX1_isWide_25 : decode cX1_isWide 25 = .ok (.iconst 1, 1) := by decide +kernel
theorem dX1_isWide_26 : decode cX1_isWide 26 = .ok (.iload_n 3, 1) := by decide +kernel
theorem dX1_isWide_27 : decode cX1_isWide 27 = .ok (.ishl, 1) := by decide +kernel
theorem dX1_isWide_28 : decode cX1_isWide 28 = .ok (.istore 4, 2) := by decide +kernel
theorem dX1_isWide_30 : decode cX1_isWide 30 = .ok (.iload_n 1, 1) := by decide +kernel
theorem dX1_isWide_31 : decode cX1_isWide 31 = .ok (.iload 4, 2) := by decide +kernel
theorem dX1_isWide_33 : decode cX1_isWide 33 = .ok (.iand, 1) := by decide +kernel
theorem dX1_isWide_34 : decode cX1_isWide 34 = .ok (.ifCond .eq 30, 3) := by decide +kernel
theorem dX1_isWide_37 : decode cX1_isWide 37 = .ok (.aload_n 0, 1) := by decide +kernel
theorem dX1_isWide_38 : decode cX1_isWide 38 = .ok (.getfield 11, 3) := by decide +kernel
theorem dX1_isWide_41 : decode cX1_isWide 41 = .ok (.aload_n 0, 1) := by decide +kernel
theorem dX1_isWide_42 : decode cX1_isWide 42 = .ok (.iload_n 1, 1) := by decide +kernel
theorem dX1_isWide_43 : decode cX1_isWide 43 = .ok (.iload 4, 2) := by decide +kernel
theorem dX1_isWide_45 : decode cX1_isWide 45 = .ok (.iconst (-1), 1) := by decide +kernel
theorem dX1_isWide_46 : decode cX1_isWide 46 = .ok (.ixor, 1) := by decide +kernel
theorem dX1_isWide_47 : decode cX1_isWide 47 = .ok (.iand, 1) := by decide +kernel
theorem dX1_isWide_48 : decode cX1_isWide 48 = .ok (.iload_n 2, 1) := by decide +kernel
theorem dX1_isWide_49 : decode cX1_isWide 49 = .ok (.iload 4, 2) := by decide +kernel
theorem dX1_isWide_51 : decode cX1_isWide 51 = .ok (.iconst (-1), 1) := by decide +kernel
theorem dX1_isWide_52 : decode cX1_isWide 52 = .ok (.ixor, 1) := by decide +kernel
theorem dX1_isWide_53 : decode cX1_isWide 53 = .ok (.iand, 1) := by decide +kernel
theorem dX1_isWide_54 : decode cX1_isWide 54 = .ok (.invokevirtual 42, 3) := by decide +kernel
theorem dX1_isWide_57 : decode cX1_isWide 57 = .ok (.baload, 1) := by decide +kernel
theorem dX1_isWide_58 : decode cX1_isWide 58 = .ok (.iconst 1, 1) := by decide +kernel
theorem dX1_isWide_59 : decode cX1_isWide 59 = .ok (.if_icmp .ne 5, 3) := by decide +kernel
theorem dX1_isWide_62 : decode cX1_isWide 62 = .ok (.iconst 0, 1) := by decide +kernel
theorem dX1_isWide_63 : decode cX1_isWide 63 = .ok (.ireturn, 1) := by decide +kernel
theorem dX1_isWide_64 : decode cX1_isWide 64 = .ok (.iinc 3 1, 3) := by decide +kernel
theorem dX1_isWide_67 : decode cX1_isWide 67 = .ok (.goto (-48), 3) := by decide +kernel
theorem dX1_isWide_70 : decode cX1_isWide 70 = .ok (.iconst 1, 1) := by decide +kernel
theorem dX1_isWide_71 : decode cX1_isWide 71 = .ok (.ireturn, 1) := by decide +kernel
theorem dX2_init_0 : decode cX2_init 0 = .ok (.aload_n 0, 1) := by decide +kernel
theorem dX2_init_1 : decode cX2_init 1 = .ok (.invokespecial 3, 3) := by decide +kernel
theorem dX2_init_4 : decode cX2_init 4 = .ok (.aload_n 0, 1) := by decide +kernel
theorem dX2_init_5 : decode cX2_init 5 = .ok (.bipush 24, 2) := by decide +kernel
theorem dX2_init_7 : decode cX2_init 7 = .ok (.newarray .int, 2) := by decide +kernel
theorem dX2_init_9 : decode cX2_init 9 = .ok (.putfield 9, 3) := by decide +kernel
theorem dX2_init_12 : decode cX2_init 12 = .ok (.aload_n 0, 1) := by decide +kernel
theorem dX2_init_13 : decode cX2_init 13 = .ok (.iconst (-1), 1) := by decide +kernel
theorem dX2_init_14 : decode cX2_init 14 = .ok (.putfield 15, 3) := by decide +kernel
theorem dX2_init_17 : decode cX2_init 17 = .ok (.return_, 1) := by decide +kernel
theorem dX2_read_0 : decode cX2_read 0 = .ok (.aload_n 0, 1) := by decide +kernel
theorem dX2_read_1 : decode cX2_read 1 = .ok (.aload_n 1, 1) := by decide +kernel
theorem dX2_read_2 : decode cX2_read 2 = .ok (.getfield 19, 3) := by decide +kernel
theorem dX2_read_5 : decode cX2_read 5 = .ok (.putfield 24, 3) := by decide +kernel
theorem dX2_read_8 : decode cX2_read 8 = .ok (.aload_n 0, 1) := by decide +kernel
theorem dX2_read_9 : decode cX2_read 9 = .ok (.aload_n 1, 1) := by decide +kernel
theorem dX2_read_10 : decode cX2_read 10 = .ok (.getfield 27, 3) := by decide +kernel
theorem dX2_read_13 : decode cX2_read 13 = .ok (.putfield 30, 3) := by decide +kernel
theorem dX2_read_16 : decode cX2_read 16 = .ok (.iconst 0, 1) := by decide +kernel
theorem dX2_read_17 : decode cX2_read 17 = .ok (.istore_n 2, 1) := by decide +kernel
theorem dX2_read_18 : decode cX2_read 18 = .ok (.iload_n 2, 1) := by decide +kernel
theorem dX2_read_19 : decode cX2_read 19 = .ok (.aload_n 0, 1) := by decide +kernel
theorem dX2_read_20 : decode cX2_read 20 = .ok (.getfield 24, 3) := by decide +kernel
theorem dX2_read_23 : decode cX2_read 23 = .ok (.if_icmp .ge 41, 3) := by decide +kernel
theorem dX2_read_26 : decode cX2_read 26 = .ok (.iconst 0, 1) := by decide +kernel
theorem dX2_read_27 : decode cX2_read 27 = .ok (.istore_n 3, 1) := by decide +kernel
theorem dX2_read_28 : decode cX2_read 28 = .ok (.iload_n 3, 1) := by decide +kernel
theorem dX2_read_29 : decode cX2_read 29 = .ok (.aload_n 0, 1) := by decide +kernel
theorem dX2_read_30 : decode cX2_read 30 = .ok (.getfield 30, 3) := by decide +kernel
theorem dX2_read_33 : decode cX2_read 33 = .ok (.if_icmp .ge 25, 3) := by decide +kernel
theorem dX2_read_36 : decode cX2_read 36 = .ok (.aload_n 0, 1) := by decide +kernel
theorem dX2_read_37 : decode cX2_read 37 = .ok (.getfield 9, 3) := by decide +kernel
theorem dX2_read_40 : decode cX2_read 40 = .ok (.iconst 4, 1) := by decide +kernel
theorem dX2_read_41 : decode cX2_read 41 = .ok (.iload_n 2, 1) := by decide +kernel
theorem dX2_read_42 : decode cX2_read 42 = .ok (.imul, 1) := by decide +kernel
theorem dX2_read_43 : decode cX2_read 43 = .ok (.iload_n 3, 1) := by decide +kernel
theorem dX2_read_44 : decode cX2_read 44 = .ok (.iadd, 1) := by decide +kernel
theorem dX2_read_45 : decode cX2_read 45 = .ok (.aload_n 1, 1) := by decide +kernel
theorem dX2_read_46 : decode cX2_read 46 = .ok (.iload_n 2, 1) := by decide +kernel
theorem dX2_read_47 : decode cX2_read 47 = .ok (.iload_n 3, 1) := by decide +kernel
theorem dX2_read_48 : decode cX2_read 48 = .ok (.invokevirtual 33, 3) := by decide +kernel
theorem dX2_read_51 : decode cX2_read 51 = .ok (.iastore, 1) := by decide +kernel
theorem dX2_read_52 : decode cX2_read 52 = .ok (.iinc 3 1, 3) := by decide +kernel
theorem dX2_read_55 : decode cX2_read 55 = .ok (.goto (-27), 3) := by decide +kernel
theorem dX2_read_58 : decode cX2_read 58 = .ok (.iinc 2 1, 3) := by decide +kernel
theorem dX2_read_61 : decode cX2_read 61 = .ok (.goto (-43), 3) := by decide +kernel
theorem dX2_read_64 : decode cX2_read 64 = .ok (.aload_n 0, 1) := by decide +kernel
theorem dX2_read_65 : decode cX2_read 65 = .ok (.invokevirtual 37, 3) := by decide +kernel
theorem dX2_read_68 : decode cX2_read 68 = .ok (.return_, 1) := by decide +kernel
theorem dX2_inspect_0 : decode cX2_inspect 0 = .ok (.aload_n 0, 1) := by decide +kernel
theorem dX2_inspect_1 : decode cX2_inspect 1 = .ok (.iconst 0, 1) := by decide +kernel
theorem dX2_inspect_2 : decode cX2_inspect 2 = .ok (.putfield 40, 3) := by decide +kernel
theorem dX2_inspect_5 : decode cX2_inspect 5 = .ok (.aload_n 0, 1) := by decide +kernel
theorem dX2_inspect_6 : decode cX2_inspect 6 = .ok (.iconst 0, 1) := by decide +kernel
theorem dX2_inspect_7 : decode cX2_inspect 7 = .ok (.putfield 43, 3) := by decide +kernel
theorem dX2_inspect_10 : decode cX2_inspect 10 = .ok (.aload_n 0, 1) := by decide +kernel
theorem dX2_inspect_11 : decode cX2_inspect 11 = .ok (.iconst (-1), 1) := by decide +kernel
theorem dX2_inspect_12 : decode cX2_inspect 12 = .ok (.putfield 15, 3) := by decide +kernel
theorem dX2_inspect_15 : decode cX2_inspect 15 = .ok (.iconst 0, 1) := by decide +kernel
theorem dX2_inspect_16 : decode cX2_inspect 16 = .ok (.istore_n 1, 1) := by decide +kernel
theorem dX2_inspect_17 : decode cX2_inspect 17 = .ok (.iload_n 1, 1) := by decide +kernel
theorem dX2_inspect_18 : decode cX2_inspect 18 = .ok (.aload_n 0, 1) := by decide +kernel
theorem dX2_inspect_19 : decode cX2_inspect 19 = .ok (.getfield 24, 3) := by decide +kernel
theorem dX2_inspect_22 : decode cX2_inspect 22 = .ok (.if_icmp .ge 31, 3) := by decide +kernel
theorem dX2_inspect_25 : decode cX2_inspect 25 = .ok (.iconst 0, 1) := by decide +kernel
theorem dX2_inspect_26 : decode cX2_inspect 26 = .ok (.istore_n 2, 1) := by decide +kernel
theorem dX2_inspect_27 : decode cX2_inspect 27 = .ok (.iload_n 2, 1) := by decide +kernel
theorem dX2_inspect_28 : decode cX2_inspect 28 = .ok (.aload_n 0, 1) := by decide +kernel
theorem dX2_inspect_29 : decode cX2_inspect 29 = .ok (.getfield 30, 3) := by decide +kernel
theorem dX2_inspect_32 : decode cX2_inspect 32 = .ok (.if_icmp .ge 15, 3) := by decide +kernel
theorem dX2_inspect_35 : decode cX2_inspect 35 = .ok (.aload_n 0, 1) := by decide +kernel
theorem dX2_inspect_36 : decode cX2_inspect 36 = .ok (.iload_n 1, 1) := by decide +kernel
theorem dX2_inspect_37 : decode cX2_inspect 37 = .ok (.iload_n 2, 1) := by decide +kernel
theorem dX2_inspect_38 : decode cX2_inspect 38 = .ok (.invokevirtual 46, 3) := by decide +kernel
theorem dX2_inspect_41 : decode cX2_inspect 41 = .ok (.iinc 2 1, 3) := by decide +kernel
theorem dX2_inspect_44 : decode cX2_inspect 44 = .ok (.goto (-17), 3) := by decide +kernel
theorem dX2_inspect_47 : decode cX2_inspect 47 = .ok (.iinc 1 1, 3) := by decide +kernel
theorem dX2_inspect_50 : decode cX2_inspect 50 = .ok (.goto (-33), 3) := by decide +kernel
theorem dX2_inspect_53 : decode cX2_inspect 53 = .ok (.aload_n 0, 1) := by decide +kernel
theorem dX2_inspect_54 : decode cX2_inspect 54 = .ok (.aload_n 0, 1) := by decide +kernel
theorem dX2_inspect_55 : decode cX2_inspect 55 = .ok (.getfield 15, 3) := by decide +kernel
theorem dX2_inspect_58 : decode cX2_inspect 58 = .ok (.iconst (-1), 1) := by decide +kernel
theorem dX2_inspect_59 : decode cX2_inspect 59 = .ok (.if_icmp .ne 7, 3) := by decide +kernel
theorem dX2_inspect_62 : decode cX2_inspect 62 = .ok (.iconst 1, 1) := by decide +kernel
theorem dX2_inspect_63 : decode cX2_inspect 63 = .ok (.goto 4, 3) := by decide +kernel
theorem dX2_inspect_66 : decode cX2_inspect 66 = .ok (.iconst 0, 1) := by decide +kernel
theorem dX2_inspect_67 : decode cX2_inspect 67 = .ok (.putfield 50, 3) := by decide +kernel
theorem dX2_inspect_70 : decode cX2_inspect 70 = .ok (.return_, 1) := by decide +kernel
theorem dX2_inspectEntry_0 : decode cX2_inspectEntry 0 = .ok (.aload_n 0, 1) := by decide +kernel
theorem dX2_inspectEntry_1 : decode cX2_inspectEntry 1 = .ok (.iload_n 1, 1) := by decide +kernel
theorem dX2_inspectEntry_2 : decode cX2_inspectEntry 2 = .ok (.iload_n 2, 1) := by decide +kernel
theorem dX2_inspectEntry_3 : decode cX2_inspectEntry 3 = .ok (.invokevirtual 54, 3) := by decide +kernel
theorem dX2_inspectEntry_6 : decode cX2_inspectEntry 6 = .ok (.istore_n 3, 1) := by decide +kernel
theorem dX2_inspectEntry_7 : decode cX2_inspectEntry 7 = .ok (.iload_n 3, 1) := by decide +kernel
theorem dX2_inspectEntry_8 : decode cX2_inspectEntry 8 = .ok (.iconst (-1), 1) := by decide +kernel
theorem dX2_inspectEntry_9 : decode cX2_inspectEntry 9 = .ok (.if_icmp .ne 4, 3) := by decide +kernel
theorem dX2_inspectEntry_12 : decode cX2_inspectEntry 12 = .ok (.return_, 1) := by decide +kernel
theorem dX2_inspectEntry_13 : decode cX2_inspectEntry 13 = .ok (.aload_n 0, 1) := by decide +kernel
theorem dX2_inspectEntry_14 : decode cX2_inspectEntry 14 = .ok (.dup, 1) := by decide +kernel
theorem dX2_inspectEntry_15 : decode cX2_inspectEntry 15 = .ok (.getfield 40, 3) := by decide +kernel
theorem dX2_inspectEntry_18 : decode cX2_inspectEntry 18 = .ok (.iconst 1, 1) := by decide +kernel
theorem dX2_inspectEntry_19 : decode cX2_inspectEntry 19 = .ok (.iadd, 1) := by decide +kernel
theorem dX2_inspectEntry_20 : decode cX2_inspectEntry 20 = .ok (.putfield 40, 3) := by decide +kernel
theorem dX2_inspectEntry_23 : decode cX2_inspectEntry 23 = .ok (.iload_n 3, 1) := by decide +kernel
theorem dX2_inspectEntry_24 : decode cX2_inspectEntry 24 = .ok (.iload_n 1, 1) := by decide +kernel
theorem dX2_inspectEntry_25 : decode cX2_inspectEntry 25 = .ok (.if_icmp .ne 13, 3) := by decide +kernel
theorem dX2_inspectEntry_28 : decode cX2_inspectEntry 28 = .ok (.aload_n 0, 1) := by decide +kernel
theorem dX2_inspectEntry_29 : decode cX2_inspectEntry 29 = .ok (.dup, 1) := by decide +kernel
theorem dX2_inspectEntry_30 : decode cX2_inspectEntry 30 = .ok (.getfield 43, 3) := by decide +kernel
theorem dX2_inspectEntry_33 : decode cX2_inspectEntry 33 = .ok (.iconst 1, 1) := by decide +kernel
theorem dX2_inspectEntry_34 : decode cX2_inspectEntry 34 = .ok (.iadd, 1) := by decide +kernel
theorem dX2_inspectEntry_35 : decode cX2_inspectEntry 35 = .ok (.putfield 43, 3) := by decide +kernel
theorem dX2_inspectEntry_38 : decode cX2_inspectEntry 38 = .ok (.aload_n 0, 1) := by decide +kernel
theorem dX2_inspectEntry_39 : decode cX2_inspectEntry 39 = .ok (.getfield 15, 3) := by decide +kernel
theorem dX2_inspectEntry_42 : decode cX2_inspectEntry 42 = .ok (.iconst (-1), 1) := by decide +kernel
theorem dX2_inspectEntry_43 : decode cX2_inspectEntry 43 = .ok (.if_icmp .ne 22, 3) := by decide +kernel
theorem dX2_inspectEntry_46 : decode cX2_inspectEntry 46 = .ok (.aload_n 0, 1) := by decide +kernel
theorem dX2_inspectEntry_47 : decode cX2_inspectEntry 47 = .ok (.iload_n 3, 1) := by decide +kernel
theorem dX2_inspectEntry_48 : decode cX2_inspectEntry 48 = .ok (.iload_n 2, 1) := by decide +kernel
theorem dX2_inspectEntry_49 : decode cX2_inspectEntry 49 = .ok (.invokevirtual 54, 3) := by decide +kernel
theorem dX2_inspectEntry_52 : decode cX2_inspectEntry 52 = .ok (.iload_n 3, 1) := by decide +kernel
theorem dX2_inspectEntry_53 : decode cX2_inspectEntry 53 = .ok (.if_icmp .eq 12, 3) := by decide +kernel
theorem dX2_inspectEntry_56 : decode cX2_inspectEntry 56 = .ok (.aload_n 0, 1) := by decide +kernel
theorem dX2_inspectEntry_57 : decode cX2_inspectEntry 57 = .ok (.iconst 4, 1) := by decide +kernel
theorem dX2_inspectEntry_58 : decode cX2_inspectEntry 58 = .ok (.iload_n 1, 1) := by decide +kernel
theorem dX2_inspectEntry_59 : decode cX2_inspectEntry 59 = .ok (.imul, 1) := by decide +kernel
theorem dX2_inspectEntry_60 : decode cX2_inspectEntry 60 = .ok (.iload_n 2, 1) := by decide +kernel
theorem dX2_inspectEntry_61 : decode cX2_inspectEntry 61 = .ok (.iadd, 1) := by decide +kernel
theorem dX2_inspectEntry_62 : decode cX2_inspectEntry 62 = .ok (.putfield 15, 3) := by decide +kernel
theorem dX2_inspectEntry_65 : decode cX2_inspectEntry 65 = .ok (.return_, 1) := by decide +kernel
theorem dX2_hasState_0 : decode cX2_hasState 0 = .ok (.iload_n 1, 1) := by decide +kernel
theorem dX2_hasState_1 : decode cX2_hasState 1 = .ok (.ifCond .lt 15, 3) := by decide +kernel
theorem dX2_hasState_4 : decode cX2_hasState 4 = .ok (.iload_n 1, 1) := by decide +kernel
theorem dX2_hasState_5 : decode cX2_hasState 5 = .ok (.aload_n 0, 1) := by decide +kernel
theorem dX2_hasState_6 : decode cX2_hasState 6 = .ok (.getfield 24, 3) := by decide +kernel
theorem dX2_hasState_9 : decode cX2_hasState 9 = .ok (.if_icmp .ge 7, 3) := by decide +kernel
theorem dX2_hasState_12 : decode cX2_hasState 12 = .ok (.iconst 1, 1) := by decide +kernel
theorem dX2_hasState_13 : decode cX2_hasState 13 = .ok (.goto 4, 3) := by decide +kernel
theorem dX2_hasState_16 : decode cX2_hasState 16 = .ok (.iconst 0, 1) := by decide +kernel
theorem dX2_hasState_17 : decode cX2_hasState 17 = .ok (.ireturn, 1) := by decide +kernel
theorem dX2_hasColumn_0 : decode cX2_hasColumn 0 = .ok (.iload_n 1, 1) := by decide +kernel
theorem dX2_hasColumn_1 : decode cX2_hasColumn 1 = .ok (.ifCond .lt 15, 3) := by decide +kernel
theorem dX2_hasColumn_4 : decode cX2_hasColumn 4 = .ok (.iload_n 1, 1) := by decide +kernel
theorem dX2_hasColumn_5 : decode cX2_hasColumn 5 = .ok (.aload_n 0, 1) := by decide +kernel
theorem dX2_hasColumn_6 : decode cX2_hasColumn 6 = .ok (.getfield 30, 3) := by decide +kernel
theorem dX2_hasColumn_9 : decode cX2_hasColumn 9 = .ok (.if_icmp .ge 7, 3) := by decide +kernel
theorem dX2_hasColumn_12 : decode cX2_hasColumn 12 = .ok (.iconst 1, 1) := by decide +kernel
theorem dX2_hasColumn_13 : decode cX2_hasColumn 13 = .ok (.goto 4, 3) := by decide +kernel
theorem dX2_hasColumn_16 : decode cX2_hasColumn 16 = .ok (.iconst 0, 1) := by decide +kernel
theorem dX2_hasColumn_17 : decode cX2_hasColumn 17 = .ok (.ireturn, 1) := by decide +kernel
theorem dX2_next_0 : decode cX2_next 0 = .ok (.aload_n 0, 1) := by decide +kernel
theorem dX2_next_1 : decode cX2_next 1 = .ok (.iload_n 1, 1) := by decide +kernel
theorem dX2_next_2 : decode cX2_next 2 = .ok (.invokevirtual 57, 3) := by decide +kernel
theorem dX2_next_5 : decode cX2_next 5 = .ok (.ifCond .eq 24, 3) := by decide +kernel
theorem dX2_next_8 : decode cX2_next 8 = .ok (.aload_n 0, 1) := by decide +kernel
theorem dX2_next_9 : decode cX2_next 9 = .ok (.iload_n 2, 1) := by decide +kernel
theorem dX2_next_10 : decode cX2_next 10 = .ok (.invokevirtual 61, 3) := by decide +kernel
theorem dX2_next_13 : decode cX2_next 13 = .ok (.ifCond .eq 16, 3) := by decide +kernel
theorem dX2_next_16 : decode cX2_next 16 = .ok (.aload_n 0, 1) := by decide +kernel
theorem dX2_next_17 : decode cX2_next 17 = .ok (.getfield 9, 3) := by decide +kernel
theorem dX2_next_20 : decode cX2_next 20 = .ok (.iconst 4, 1) := by decide +kernel
theorem dX2_next_21 : decode cX2_next 21 = .ok (.iload_n 1, 1) := by decide +kernel
theorem dX2_next_22 : decode cX2_next 22 = .ok (.imul, 1) := by decide +kernel
theorem dX2_next_23 : decode cX2_next 23 = .ok (.iload_n 2, 1) := by decide +kernel
theorem dX2_next_24 : decode cX2_next 24 = .ok (.iadd, 1) := by decide +kernel
theorem dX2_next_25 : decode cX2_next 25 = .ok (.iaload, 1) := by decide +kernel
theorem dX2_next_26 : decode cX2_next 26 = .ok (.goto 4, 3) := by decide +kernel
theorem dX2_next_29 : decode cX2_next 29 = .ok (.iconst (-1), 1) := by decide +kernel
theorem dX2_next_30 : decode cX2_next 30 = .ok (.ireturn, 1) := by decide +kernel
theorem dX2_allStates_0 : decode cX2_allStates 0 = .ok (.iconst 1, 1) := by decide +kernel
theorem dX2_allStates_1 : decode cX2_allStates 1 = .ok (.aload_n 0, 1) := by decide +kernel
theorem dX2_allStates_2 : decode cX2_allStates 2 = .ok (.getfield 24, 3) := by decide +kernel
theorem dX2_allStates_5 : decode cX2_allStates 5 = .ok (.ishl, 1) := by decide +kernel
theorem dX2_allStates_6 : decode cX2_allStates 6 = .ok (.iconst 1, 1) := by decide +kernel
theorem dX2_allStates_7 : decode cX2_allStates 7 = .ok (.isub, 1) := by decide +kernel
theorem dX2_allStates_8 : decode cX2_allStates 8 = .ok (.ireturn, 1) := by decide +kernel
theorem dX3_init_0 : decode cX3_init 0 = .ok (.aload_n 0, 1) := by decide +kernel
theorem dX3_init_1 : decode cX3_init 1 = .ok (.invokespecial 3, 3) := by decide +kernel
theorem dX3_init_4 : decode cX3_init 4 = .ok (.aload_n 0, 1) := by decide +kernel
theorem dX3_init_5 : decode cX3_init 5 = .ok (.iconst 5, 1) := by decide +kernel
theorem dX3_init_6 : decode cX3_init 6 = .ok (.newarray .int, 2) := by decide +kernel
theorem dX3_init_8 : decode cX3_init 8 = .ok (.putfield 9, 3) := by decide +kernel
theorem dX3_init_11 : decode cX3_init 11 = .ok (.aload_n 0, 1) := by decide +kernel
theorem dX3_init_12 : decode cX3_init 12 = .ok (.bipush 32, 2) := by decide +kernel
theorem dX3_init_14 : decode cX3_init 14 = .ok (.newarray .long, 2) := by decide +kernel
theorem dX3_init_16 : decode cX3_init 16 = .ok (.putfield 15, 3) := by decide +kernel
theorem dX3_init_19 : decode cX3_init 19 = .ok (.aload_n 0, 1) := by decide +kernel
theorem dX3_init_20 : decode cX3_init 20 = .ok (.bipush 33, 2) := by decide +kernel
theorem dX3_init_22 : decode cX3_init 22 = .ok (.newarray .long, 2) := by decide +kernel
theorem dX3_init_24 : decode cX3_init 24 = .ok (.putfield 19, 3) := by decide +kernel
theorem dX3_init_27 : decode cX3_init 27 = .ok (.return_, 1) := by decide +kernel
theorem dX3_forget_0 : decode cX3_forget 0 = .ok (.aload_n 0, 1) := by decide +kernel
theorem dX3_forget_1 : decode cX3_forget 1 = .ok (.iconst 0, 1) := by decide +kernel
theorem dX3_forget_2 : decode cX3_forget 2 = .ok (.putfield 22, 3) := by decide +kernel
theorem dX3_forget_5 : decode cX3_forget 5 = .ok (.return_, 1) := by decide +kernel
theorem dX3_find_0 : decode cX3_find 0 = .ok (.aload_n 0, 1) := by decide +kernel
theorem dX3_find_1 : decode cX3_find 1 = .ok (.iload_n 1, 1) := by decide +kernel
theorem dX3_find_2 : decode cX3_find 2 = .ok (.aload_n 2, 1) := by decide +kernel
theorem dX3_find_3 : decode cX3_find 3 = .ok (.invokevirtual 26, 3) := by decide +kernel
theorem dX3_find_6 : decode cX3_find 6 = .ok (.aload_n 0, 1) := by decide +kernel
theorem dX3_find_7 : decode cX3_find 7 = .ok (.iconst 0, 1) := by decide +kernel
theorem dX3_find_8 : decode cX3_find 8 = .ok (.putfield 22, 3) := by decide +kernel
theorem dX3_find_11 : decode cX3_find 11 = .ok (.aload_n 0, 1) := by decide +kernel
theorem dX3_find_12 : decode cX3_find 12 = .ok (.getfield 19, 3) := by decide +kernel
theorem dX3_find_15 : decode cX3_find 15 = .ok (.iconst 0, 1) := by decide +kernel
theorem dX3_find_16 : decode cX3_find 16 = .ok (.laload, 1) := by decide +kernel
theorem dX3_find_17 : decode cX3_find 17 = .ok (.lstore_n 3, 1) := by decide +kernel
theorem dX3_find_18 : decode cX3_find 18 = .ok (.iconst 1, 1) := by decide +kernel
theorem dX3_find_19 : decode cX3_find 19 = .ok (.istore 5, 2) := by decide +kernel
theorem dX3_find_21 : decode cX3_find 21 = .ok (.iload 5, 2) := by decide +kernel
theorem dX3_find_23 : decode cX3_find 23 = .ok (.iconst 5, 1) := by decide +kernel
theorem dX3_find_24 : decode cX3_find 24 = .ok (.if_icmp .gt 34, 3) := by decide +kernel
theorem dX3_find_27 : decode cX3_find 27 = .ok (.aload_n 0, 1) := by decide +kernel
theorem dX3_find_28 : decode cX3_find 28 = .ok (.getfield 22, 3) := by decide +kernel
theorem dX3_find_31 : decode cX3_find 31 = .ok (.ifCond .ne 27, 3) := by decide +kernel
theorem dX3_find_34 : decode cX3_find 34 = .ok (.aload_n 0, 1) := by decide +kernel
theorem dX3_find_35 : decode cX3_find 35 = .ok (.iconst 0, 1) := by decide +kernel
theorem dX3_find_36 : decode cX3_find 36 = .ok (.iload 5, 2) := by decide +kernel
theorem dX3_find_38 : decode cX3_find 38 = .ok (.iconst 0, 1) := by decide +kernel
theorem dX3_find_39 : decode cX3_find 39 = .ok (.lload_n 3, 1) := by decide +kernel
theorem dX3_find_40 : decode cX3_find 40 = .ok (.invokevirtual 30, 3) := by decide +kernel
theorem dX3_find_43 : decode cX3_find 43 = .ok (.ifCond .eq 9, 3) := by decide +kernel
theorem dX3_find_46 : decode cX3_find 46 = .ok (.aload_n 0, 1) := by decide +kernel
theorem dX3_find_47 : decode cX3_find 47 = .ok (.iload 5, 2) := by decide +kernel
theorem dX3_find_49 : decode cX3_find 49 = .ok (.putfield 22, 3) := by decide +kernel
theorem dX3_find_52 : decode cX3_find 52 = .ok (.iinc 5 1, 3) := by decide +kernel
theorem dX3_find_55 : decode cX3_find 55 = .ok (.goto (-34), 3) := by decide +kernel
theorem dX3_find_58 : decode cX3_find 58 = .ok (.return_, 1) := by decide +kernel
theorem dX3_prepare_0 : decode cX3_prepare 0 = .ok (.aload_n 0, 1) := by decide +kernel
theorem dX3_prepare_1 : decode cX3_prepare 1 = .ok (.iload_n 1, 1) := by decide +kernel
theorem dX3_prepare_2 : decode cX3_prepare 2 = .ok (.iconst 2, 1) := by decide +kernel
theorem dX3_prepare_3 : decode cX3_prepare 3 = .ok (.if_icmp .lt 17, 3) := by decide +kernel
theorem dX3_prepare_6 : decode cX3_prepare 6 = .ok (.iload_n 1, 1) := by decide +kernel
theorem dX3_prepare_7 : decode cX3_prepare 7 = .ok (.bipush 6, 2) := by decide +kernel
theorem dX3_prepare_9 : decode cX3_prepare 9 = .ok (.if_icmp .gt 11, 3) := by decide +kernel
theorem dX3_prepare_12 : decode cX3_prepare 12 = .ok (.iconst 1, 1) := by decide +kernel
theorem dX3_prepare_13 : decode cX3_prepare 13 = .ok (.iload_n 1, 1) := by decide +kernel
theorem dX3_prepare_14 : decode cX3_prepare 14 = .ok (.iconst 1, 1) := by decide +kernel
theorem dX3_prepare_15 : decode cX3_prepare 15 = .ok (.isub, 1) := by decide +kernel
theorem dX3_prepare_16 : decode cX3_prepare 16 = .ok (.ishl, 1) := by decide +kernel
theorem dX3_prepare_17 : decode cX3_prepare 17 = .ok (.goto 4, 3) := by decide +kernel
theorem dX3_prepare_20 : decode cX3_prepare 20 = .ok (.iconst 0, 1) := by decide +kernel
theorem dX3_prepare_21 : decode cX3_prepare 21 = .ok (.putfield 34, 3) := by decide +kernel
theorem dX3_prepare_24 : decode cX3_prepare 24 = .ok (.aload_n 0, 1) := by decide +kernel
theorem dX3_prepare_25 : decode cX3_prepare 25 = .ok (.getfield 19, 3) := by decide +kernel
theorem dX3_prepare_28 : decode cX3_prepare 28 = .ok (.aload_n 0, 1) := by decide +kernel
theorem dX3_prepare_29 : decode cX3_prepare 29 = .ok (.getfield 34, 3) := by decide +kernel
theorem dX3_prepare_32 : decode cX3_prepare 32 = .ok (.lconst 0, 1) := by decide +kernel
theorem dX3_prepare_33 : decode cX3_prepare 33 = .ok (.lastore, 1) := by decide +kernel
theorem dX3_prepare_34 : decode cX3_prepare 34 = .ok (.aload_n 0, 1) := by decide +kernel
theorem dX3_prepare_35 : decode cX3_prepare 35 = .ok (.getfield 34, 3) := by decide +kernel
theorem dX3_prepare_38 : decode cX3_prepare 38 = .ok (.iconst 1, 1) := by decide +kernel
theorem dX3_prepare_39 : decode cX3_prepare 39 = .ok (.isub, 1) := by decide +kernel
theorem dX3_prepare_40 : decode cX3_prepare 40 = .ok (.istore_n 3, 1) := by decide +kernel
theorem dX3_prepare_41 : decode cX3_prepare 41 = .ok (.iload_n 3, 1) := by decide +kernel
theorem dX3_prepare_42 : decode cX3_prepare 42 = .ok (.ifCond .lt 76, 3) := by decide +kernel
theorem dX3_prepare_45 : decode cX3_prepare 45 = .ok (.lconst 0, 1) := by decide +kernel
theorem dX3_prepare_46 : decode cX3_prepare 46 = .ok (.lstore 4, 2) := by decide +kernel
theorem dX3_prepare_48 : decode cX3_prepare 48 = .ok (.iconst 0, 1) := by decide +kernel
theorem dX3_prepare_49 : decode cX3_prepare 49 = .ok (.istore 6, 2) := by decide +kernel
theorem dX3_prepare_51 : decode cX3_prepare 51 = .ok (.iload 6, 2) := by decide +kernel
theorem dX3_prepare_53 : decode cX3_prepare 53 = .ok (.aload_n 2, 1) := by decide +kernel
theorem dX3_prepare_54 : decode cX3_prepare 54 = .ok (.getfield 37, 3) := by decide +kernel
theorem dX3_prepare_57 : decode cX3_prepare 57 = .ok (.if_icmp .ge 30, 3) := by decide +kernel
theorem dX3_prepare_60 : decode cX3_prepare 60 = .ok (.aload_n 2, 1) := by decide +kernel
theorem dX3_prepare_61 : decode cX3_prepare 61 = .ok (.iload 6, 2) := by decide +kernel
theorem dX3_prepare_63 : decode cX3_prepare 63 = .ok (.iconst 2, 1) := by decide +kernel
theorem dX3_prepare_64 : decode cX3_prepare 64 = .ok (.iload_n 3, 1) := by decide +kernel
theorem dX3_prepare_65 : decode cX3_prepare 65 = .ok (.imul, 1) := by decide +kernel
theorem dX3_prepare_66 : decode cX3_prepare 66 = .ok (.invokevirtual 40, 3) := by decide +kernel
theorem dX3_prepare_69 : decode cX3_prepare 69 = .ok (.ifCond .eq 12, 3) := by decide +kernel
theorem dX3_prepare_72 : decode cX3_prepare 72 = .ok (.lload 4, 2) := by decide +kernel
theorem dX3_prepare_74 : decode cX3_prepare 74 = .ok (.lconst 1, 1) := by decide +kernel
theorem dX3_prepare_75 : decode cX3_prepare 75 = .ok (.iload 6, 2) := by decide +kernel
theorem dX3_prepare_77 : decode cX3_prepare 77 = .ok (.lshl, 1) := by decide +kernel
theorem dX3_prepare_78 : decode cX3_prepare 78 = .ok (.lor, 1) := by decide +kernel
theorem dX3_prepare_79 : decode cX3_prepare 79 = .ok (.lstore 4, 2) := by decide +kernel
theorem dX3_prepare_81 : decode cX3_prepare 81 = .ok (.iinc 6 1, 3) := by decide +kernel
theorem dX3_prepare_84 : decode cX3_prepare 84 = .ok (.goto (-33), 3) := by decide +kernel
theorem dX3_prepare_87 : decode cX3_prepare 87 = .ok (.aload_n 0, 1) := by decide +kernel
theorem dX3_prepare_88 : decode cX3_prepare 88 = .ok (.getfield 15, 3) := by decide +kernel
theorem dX3_prepare_91 : decode cX3_prepare 91 = .ok (.iload_n 3, 1) := by decide +kernel
theorem dX3_prepare_92 : decode cX3_prepare 92 = .ok (.lload 4, 2) := by decide +kernel
theorem dX3_prepare_94 : decode cX3_prepare 94 = .ok (.lastore, 1) := by decide +kernel
theorem dX3_prepare_95 : decode cX3_prepare 95 = .ok (.aload_n 0, 1) := by decide +kernel
theorem dX3_prepare_96 : decode cX3_prepare 96 = .ok (.getfield 19, 3) := by decide +kernel
theorem dX3_prepare_99 : decode cX3_prepare 99 = .ok (.iload_n 3, 1) := by decide +kernel
theorem dX3_prepare_100 : decode cX3_prepare 100 = .ok (.aload_n 0, 1) := by decide +kernel
theorem dX3_prepare_101 : decode cX3_prepare 101 = .ok (.getfield 19, 3) := by decide +kernel
theorem dX3_prepare_104 : decode cX3_prepare 104 = .ok (.iload_n 3, 1) := by decide +kernel
theorem dX3_prepare_105 : decode cX3_prepare 105 = .ok (.iconst 1, 1) := by decide +kernel
theorem dX3_prepare_106 : decode cX3_prepare 106 = .ok (.iadd, 1) := by decide +kernel
theorem dX3_prepare_107 : decode cX3_prepare 107 = .ok (.laload, 1) := by decide +kernel
theorem dX3_prepare_108 : decode cX3_prepare 108 = .ok (.lload 4, 2) := by decide +kernel
theorem dX3_prepare_110 : decode cX3_prepare 110 = .ok (.lor, 1) := by decide +kernel
theorem dX3_prepare_111 : decode cX3_prepare 111 = .ok (.lastore, 1) := by decide +kernel
theorem dX3_prepare_112 : decode cX3_prepare 112 = .ok (.iinc 3 (-1), 3) := by decide +kernel
theorem dX3_prepare_115 : decode cX3_prepare 115 = .ok (.goto (-74), 3) := by decide +kernel
theorem dX3_prepare_118 : decode cX3_prepare 118 = .ok (.return_, 1) := by decide +kernel
theorem dX3_fill_0 : decode cX3_fill 0 = .ok (.iload_n 1, 1) := by decide +kernel
theorem dX3_fill_1 : decode cX3_fill 1 = .ok (.iload_n 2, 1) := by decide +kernel
theorem dX3_fill_2 : decode cX3_fill 2 = .ok (.if_icmp .ge 8, 3) := by decide +kernel
theorem dX3_fill_5 : decode cX3_fill 5 = .ok (.iload_n 1, 1) := by decide +kernel
theorem dX3_fill_6 : decode cX3_fill 6 = .ok (.iconst 5, 1) := by decide +kernel
theorem dX3_fill_7 : decode cX3_fill 7 = .ok (.if_icmp .lt 16, 3) := by decide +kernel
theorem dX3_fill_10 : decode cX3_fill 10 = .ok (.lload 4, 2) := by decide +kernel
theorem dX3_fill_12 : decode cX3_fill 12 = .ok (.lconst 0, 1) := by decide +kernel
theorem dX3_fill_13 : decode cX3_fill 13 = .ok (.lcmp, 1) := by decide +kernel
theorem dX3_fill_14 : decode cX3_fill 14 = .ok (.ifCond .ne 7, 3) := by decide +kernel
theorem dX3_fill_17 : decode cX3_fill 17 = .ok (.iconst 1, 1) := by decide +kernel
theorem dX3_fill_18 : decode cX3_fill 18 = .ok (.goto 4, 3) := by decide +kernel
theorem dX3_fill_21 : decode cX3_fill 21 = .ok (.iconst 0, 1) := by decide +kernel
theorem dX3_fill_22 : decode cX3_fill 22 = .ok (.ireturn, 1) := by decide +kernel
theorem dX3_fill_23 : decode cX3_fill 23 = .ok (.iload_n 1, 1) := by decide +kernel
theorem dX3_fill_24 : decode cX3_fill 24 = .ok (.iload_n 2, 1) := by decide +kernel
theorem dX3_fill_25 : decode cX3_fill 25 = .ok (.iconst 1, 1) := by decide +kernel
theorem dX3_fill_26 : decode cX3_fill 26 = .ok (.isub, 1) := by decide +kernel
theorem dX3_fill_27 : decode cX3_fill 27 = .ok (.if_icmp .ne 7, 3) := by decide +kernel
theorem dX3_fill_30 : decode cX3_fill 30 = .ok (.iconst 1, 1) := by decide +kernel
theorem dX3_fill_31 : decode cX3_fill 31 = .ok (.goto 4, 3) := by decide +kernel
theorem dX3_fill_34 : decode cX3_fill 34 = .ok (.iconst 0, 1) := by decide +kernel
theorem dX3_fill_35 : decode cX3_fill 35 = .ok (.istore 6, 2) := by decide +kernel
theorem dX3_fill_37 : decode cX3_fill 37 = .ok (.iload_n 3, 1) := by decide +kernel
theorem dX3_fill_38 : decode cX3_fill 38 = .ok (.istore 7, 2) := by decide +kernel
theorem dX3_fill_40 : decode cX3_fill 40 = .ok (.iload 7, 2) := by decide +kernel
theorem dX3_fill_42 : decode cX3_fill 42 = .ok (.aload_n 0, 1) := by decide +kernel
theorem dX3_fill_43 : decode cX3_fill 43 = .ok (.getfield 34, 3) := by decide +kernel
theorem dX3_fill_46 : decode cX3_fill 46 = .ok (.if_icmp .ge 113, 3) := by decide +kernel
theorem dX3_fill_49 : decode cX3_fill 49 = .ok (.lload 4, 2) := by decide +kernel
theorem dX3_fill_51 : decode cX3_fill 51 = .ok (.aload_n 0, 1) := by decide +kernel
theorem dX3_fill_52 : decode cX3_fill 52 = .ok (.getfield 19, 3) := by decide +kernel
theorem dX3_fill_55 : decode cX3_fill 55 = .ok (.iload 7, 2) := by decide +kernel
theorem dX3_fill_57 : decode cX3_fill 57 = .ok (.laload, 1) := by decide +kernel
theorem dX3_fill_58 : decode cX3_fill 58 = .ok (.ldc2_w 44, 3) := by decide +kernel
theorem dX3_fill_61 : decode cX3_fill 61 = .ok (.lxor, 1) := by decide +kernel
theorem dX3_fill_62 : decode cX3_fill 62 = .ok (.land, 1) := by decide +kernel
theorem dX3_fill_63 : decode cX3_fill 63 = .ok (.lconst 0, 1) := by decide +kernel
theorem dX3_fill_64 : decode cX3_fill 64 = .ok (.lcmp, 1) := by decide +kernel
theorem dX3_fill_65 : decode cX3_fill 65 = .ok (.ifCond .ne 94, 3) := by decide +kernel
theorem dX3_fill_68 : decode cX3_fill 68 = .ok (.lload 4, 2) := by decide +kernel
theorem dX3_fill_70 : decode cX3_fill 70 = .ok (.aload_n 0, 1) := by decide +kernel
theorem dX3_fill_71 : decode cX3_fill 71 = .ok (.getfield 15, 3) := by decide +kernel
theorem dX3_fill_74 : decode cX3_fill 74 = .ok (.iload 7, 2) := by decide +kernel
theorem dX3_fill_76 : decode cX3_fill 76 = .ok (.laload, 1) := by decide +kernel
theorem dX3_fill_77 : decode cX3_fill 77 = .ok (.ldc2_w 44, 3) := by decide +kernel
theorem dX3_fill_80 : decode cX3_fill 80 = .ok (.lxor, 1) := by decide +kernel
theorem dX3_fill_81 : decode cX3_fill 81 = .ok (.land, 1) := by decide +kernel
theorem dX3_fill_82 : decode cX3_fill 82 = .ok (.lstore 8, 2) := by decide +kernel
theorem dX3_fill_84 : decode cX3_fill 84 = .ok (.iload 6, 2) := by decide +kernel
theorem dX3_fill_86 : decode cX3_fill 86 = .ok (.ifCond .eq 18, 3) := by decide +kernel
theorem dX3_fill_89 : decode cX3_fill 89 = .ok (.lload 8, 2) := by decide +kernel
theorem dX3_fill_91 : decode cX3_fill 91 = .ok (.lconst 0, 1) := by decide +kernel
theorem dX3_fill_92 : decode cX3_fill 92 = .ok (.lcmp, 1) := by decide +kernel
theorem dX3_fill_93 : decode cX3_fill 93 = .ok (.ifCond .ne 7, 3) := by decide +kernel
theorem dX3_fill_96 : decode cX3_fill 96 = .ok (.iconst 1, 1) := by decide +kernel
theorem dX3_fill_97 : decode cX3_fill 97 = .ok (.goto 20, 3) := by decide +kernel
theorem dX3_fill_100 : decode cX3_fill 100 = .ok (.iconst 0, 1) := by decide +kernel
theorem dX3_fill_101 : decode cX3_fill 101 = .ok (.goto 16, 3) := by decide +kernel
theorem dX3_fill_104 : decode cX3_fill 104 = .ok (.lload 8, 2) := by decide +kernel
theorem dX3_fill_106 : decode cX3_fill 106 = .ok (.lload 4, 2) := by decide +kernel
theorem dX3_fill_108 : decode cX3_fill 108 = .ok (.lcmp, 1) := by decide +kernel
theorem dX3_fill_109 : decode cX3_fill 109 = .ok (.ifCond .eq 7, 3) := by decide +kernel
theorem dX3_fill_112 : decode cX3_fill 112 = .ok (.iconst 1, 1) := by decide +kernel
theorem dX3_fill_113 : decode cX3_fill 113 = .ok (.goto 4, 3) := by decide +kernel
theorem dX3_fill_116 : decode cX3_fill 116 = .ok (.iconst 0, 1) := by decide +kernel
theorem dX3_fill_117 : decode cX3_fill 117 = .ok (.istore 10, 2) := by decide +kernel
theorem dX3_fill_119 : decode cX3_fill 119 = .ok (.iload 10, 2) := by decide +kernel
theorem dX3_fill_121 : decode cX3_fill 121 = .ok (.ifCond .eq 32, 3) := by decide +kernel
theorem dX3_fill_124 : decode cX3_fill 124 = .ok (.aload_n 0, 1) := by decide +kernel
theorem dX3_fill_125 : decode cX3_fill 125 = .ok (.iload_n 1, 1) := by decide +kernel
theorem dX3_fill_126 : decode cX3_fill 126 = .ok (.iconst 1, 1) := by decide +kernel
theorem dX3_fill_127 : decode cX3_fill 127 = .ok (.iadd, 1) := by decide +kernel
theorem dX3_fill_128 : decode cX3_fill 128 = .ok (.iload_n 2, 1) := by decide +kernel
theorem dX3_fill_129 : decode cX3_fill 129 = .ok (.iload 7, 2) := by decide +kernel
theorem dX3_fill_131 : decode cX3_fill 131 = .ok (.iconst 1, 1) := by decide +kernel
theorem dX3_fill_132 : decode cX3_fill 132 = .ok (.iadd, 1) := by decide +kernel
theorem dX3_fill_133 : decode cX3_fill 133 = .ok (.lload 8, 2) := by decide +kernel
theorem dX3_fill_135 : decode cX3_fill 135 = .ok (.invokevirtual 30, 3) := by decide +kernel
theorem dX3_fill_138 : decode cX3_fill 138 = .ok (.ifCond .eq 15, 3) := by decide +kernel
theorem dX3_fill_141 : decode cX3_fill 141 = .ok (.aload_n 0, 1) := by decide +kernel
theorem dX3_fill_142 : decode cX3_fill 142 = .ok (.getfield 9, 3) := by decide +kernel
theorem dX3_fill_145 : decode cX3_fill 145 = .ok (.iload_n 1, 1) := by decide +kernel
theorem dX3_fill_146 : decode cX3_fill 146 = .ok (.iconst 2, 1) := by decide +kernel
theorem dX3_fill_147 : decode cX3_fill 147 = .ok (.iload 7, 2) := by decide +kernel
theorem dX3_fill_149 : decode cX3_fill 149 = .ok (.imul, 1) := by decide +kernel
theorem dX3_fill_150 : decode cX3_fill 150 = .ok (.iastore, 1) := by decide +kernel
theorem dX3_fill_151 : decode cX3_fill 151 = .ok (.iconst 1, 1) := by decide +kernel
theorem dX3_fill_152 : decode cX3_fill 152 = .ok (.ireturn, 1) := by decide +kernel
theorem dX3_fill_153 : decode cX3_fill 153 = .ok (.iinc 7 1, 3) := by decide +kernel
theorem dX3_fill_156 : decode cX3_fill 156 = .ok (.goto (-116), 3) := by decide +kernel
theorem dX3_fill_159 : decode cX3_fill 159 = .ok (.iconst 0, 1) := by decide +kernel
theorem dX3_fill_160 : decode cX3_fill 160 = .ok (.ireturn, 1) := by decide +kernel
theorem dX4_init_0 : decode cX4_init 0 = .ok (.aload_n 0, 1) := by decide +kernel
theorem dX4_init_1 : decode cX4_init 1 = .ok (.invokespecial 3, 3) := by decide +kernel
theorem dX4_init_4 : decode cX4_init 4 = .ok (.aload_n 0, 1) := by decide +kernel
theorem dX4_init_5 : decode cX4_init 5 = .ok (.sipush 672, 3) := by decide +kernel
theorem dX4_init_8 : decode cX4_init 8 = .ok (.newarray .int, 2) := by decide +kernel
theorem dX4_init_10 : decode cX4_init 10 = .ok (.putfield 11, 3) := by decide +kernel
theorem dX4_init_13 : decode cX4_init 13 = .ok (.aload_n 0, 1) := by decide +kernel
theorem dX4_init_14 : decode cX4_init 14 = .ok (.sipush 672, 3) := by decide +kernel
theorem dX4_init_17 : decode cX4_init 17 = .ok (.newarray .int, 2) := by decide +kernel
theorem dX4_init_19 : decode cX4_init 19 = .ok (.putfield 15, 3) := by decide +kernel
theorem dX4_init_22 : decode cX4_init 22 = .ok (.aload_n 0, 1) := by decide +kernel
theorem dX4_init_23 : decode cX4_init 23 = .ok (.sipush 672, 3) := by decide +kernel
theorem dX4_init_26 : decode cX4_init 26 = .ok (.newarray .int, 2) := by decide +kernel
theorem dX4_init_28 : decode cX4_init 28 = .ok (.putfield 18, 3) := by decide +kernel
theorem dX4_init_31 : decode cX4_init 31 = .ok (.return_, 1) := by decide +kernel
theorem dX4_collectWide_0 : decode cX4_collectWide 0 = .ok (.aload_n 0, 1) := by decide +kernel
theorem dX4_collectWide_1 : decode cX4_collectWide 1 = .ok (.iconst 0, 1) := by decide +kernel
theorem dX4_collectWide_2 : decode cX4_collectWide 2 = .ok (.putfield 21, 3) := by decide +kernel
theorem dX4_collectWide_5 : decode cX4_collectWide 5 = .ok (.iconst 0, 1) := by decide +kernel
theorem dX4_collectWide_6 : decode cX4_collectWide 6 = .ok (.istore_n 2, 1) := by decide +kernel
theorem dX4_collectWide_7 : decode cX4_collectWide 7 = .ok (.iload_n 2, 1) := by decide +kernel
theorem dX4_collectWide_8 : decode cX4_collectWide 8 = .ok (.aload_n 1, 1) := by decide +kernel
theorem dX4_collectWide_9 : decode cX4_collectWide 9 = .ok (.getfield 25, 3) := by decide +kernel
theorem dX4_collectWide_12 : decode cX4_collectWide 12 = .ok (.if_icmp .gt 85, 3) := by decide +kernel
theorem dX4_collectWide_15 : decode cX4_collectWide 15 = .ok (.iconst 0, 1) := by decide +kernel
theorem dX4_collectWide_16 : decode cX4_collectWide 16 = .ok (.istore_n 3, 1) := by decide +kernel
theorem dX4_collectWide_17 : decode cX4_collectWide 17 = .ok (.iconst 1, 1) := by decide +kernel
theorem dX4_collectWide_18 : decode cX4_collectWide 18 = .ok (.iload_n 2, 1) := by decide +kernel
theorem dX4_collectWide_19 : decode cX4_collectWide 19 = .ok (.invokestatic 30, 3) := by decide +kernel
theorem dX4_collectWide_22 : decode cX4_collectWide 22 = .ok (.ishl, 1) := by decide +kernel
theorem dX4_collectWide_23 : decode cX4_collectWide 23 = .ok (.istore 4, 2) := by decide +kernel
theorem dX4_collectWide_25 : decode cX4_collectWide 25 = .ok (.iload 4, 2) := by decide +kernel
theorem dX4_collectWide_27 : decode cX4_collectWide 27 = .ok (.ifCond .le 64, 3) := by decide +kernel
theorem dX4_collectWide_30 : decode cX4_collectWide 30 = .ok (.aload_n 0, 1) := by decide +kernel
theorem dX4_collectWide_31 : decode cX4_collectWide 31 = .ok (.getfield 21, 3) := by decide +kernel
theorem dX4_collectWide_34 : decode cX4_collectWide 34 = .ok (.sipush 672, 3) := by decide +kernel
theorem dX4_collectWide_37 : decode cX4_collectWide 37 = .ok (.if_icmp .ge 42, 3) := by decide +kernel
theorem dX4_collectWide_40 : decode cX4_collectWide 40 = .ok (.aload_n 1, 1) := by decide +kernel
theorem dX4_collectWide_41 : decode cX4_collectWide 41 = .ok (.iload_n 2, 1) := by decide +kernel
theorem dX4_collectWide_42 : decode cX4_collectWide 42 = .ok (.iload_n 3, 1) := by decide +kernel
theorem dX4_collectWide_43 : decode cX4_collectWide 43 = .ok (.invokevirtual 36, 3) := by decide +kernel
theorem dX4_collectWide_46 : decode cX4_collectWide 46 = .ok (.ifCond .eq 33, 3) := by decide +kernel
theorem dX4_collectWide_49 : decode cX4_collectWide 49 = .ok (.aload_n 0, 1) := by decide +kernel
theorem dX4_collectWide_50 : decode cX4_collectWide 50 = .ok (.getfield 11, 3) := by decide +kernel
theorem dX4_collectWide_53 : decode cX4_collectWide 53 = .ok (.aload_n 0, 1) := by decide +kernel
theorem dX4_collectWide_54 : decode cX4_collectWide 54 = .ok (.getfield 21, 3) := by decide +kernel
theorem dX4_collectWide_57 : decode cX4_collectWide 57 = .ok (.iload_n 2, 1) := by decide +kernel
theorem dX4_collectWide_58 : decode cX4_collectWide 58 = .ok (.iastore, 1) := by decide +kernel
theorem dX4_collectWide_59 : decode cX4_collectWide 59 = .ok (.aload_n 0, 1) := by decide +kernel
theorem dX4_collectWide_60 : decode cX4_collectWide 60 = .ok (.getfield 15, 3) := by decide +kernel
theorem dX4_collectWide_63 : decode cX4_collectWide 63 = .ok (.aload_n 0, 1) := by decide +kernel
theorem dX4_collectWide_64 : decode cX4_collectWide 64 = .ok (.getfield 21, 3) := by decide +kernel
theorem dX4_collectWide_67 : decode cX4_collectWide 67 = .ok (.iload_n 3, 1) := by decide +kernel
theorem dX4_collectWide_68 : decode cX4_collectWide 68 = .ok (.iastore, 1) := by decide +kernel
theorem dX4_collectWide_69 : decode cX4_collectWide 69 = .ok (.aload_n 0, 1) := by decide +kernel
theorem dX4_collectWide_70 : decode cX4_collectWide 70 = .ok (.dup, 1) := by decide +kernel
theorem dX4_collectWide_71 : decode cX4_collectWide 71 = .ok (.getfield 21, 3) := by decide +kernel
theorem dX4_collectWide_74 : decode cX4_collectWide 74 = .ok (.iconst 1, 1) := by decide +kernel
theorem dX4_collectWide_75 : decode cX4_collectWide 75 = .ok (.iadd, 1) := by decide +kernel
theorem dX4_collectWide_76 : decode cX4_collectWide 76 = .ok (.putfield 21, 3) := by decide +kernel
theorem dX4_collectWide_79 : decode cX4_collectWide 79 = .ok (.iload_n 3, 1) := by decide +kernel
theorem dX4_collectWide_80 : decode cX4_collectWide 80 = .ok (.iload_n 2, 1) := by decide +kernel
theorem dX4_collectWide_81 : decode cX4_collectWide 81 = .ok (.isub, 1) := by decide +kernel
theorem dX4_collectWide_82 : decode cX4_collectWide 82 = .ok (.iload_n 2, 1) := by decide +kernel
theorem dX4_collectWide_83 : decode cX4_collectWide 83 = .ok (.iand, 1) := by decide +kernel
theorem dX4_collectWide_84 : decode cX4_collectWide 84 = .ok (.istore_n 3, 1) := by decide +kernel
theorem dX4_collectWide_85 : decode cX4_collectWide 85 = .ok (.iinc 4 (-1), 3) := by decide +kernel
theorem dX4_collectWide_88 : decode cX4_collectWide 88 = .ok (.goto (-63), 3) := by decide +kernel
theorem dX4_collectWide_91 : decode cX4_collectWide 91 = .ok (.iinc 2 1, 3) := by decide +kernel
theorem dX4_collectWide_94 : decode cX4_collectWide 94 = .ok (.goto (-87), 3) := by decide +kernel
theorem dX4_collectWide_97 : decode cX4_collectWide 97 = .ok (.return_, 1) := by decide +kernel
theorem dX4_collectSum_0 : decode cX4_collectSum 0 = .ok (.aload_n 0, 1) := by decide +kernel
theorem dX4_collectSum_1 : decode cX4_collectSum 1 = .ok (.iconst 0, 1) := by decide +kernel
theorem dX4_collectSum_2 : decode cX4_collectSum 2 = .ok (.putfield 40, 3) := by decide +kernel
theorem dX4_collectSum_5 : decode cX4_collectSum 5 = .ok (.iconst 0, 1) := by decide +kernel
theorem dX4_collectSum_6 : decode cX4_collectSum 6 = .ok (.istore_n 3, 1) := by decide +kernel
theorem dX4_collectSum_7 : decode cX4_collectSum 7 = .ok (.iload_n 3, 1) := by decide +kernel
theorem dX4_collectSum_8 : decode cX4_collectSum 8 = .ok (.aload_n 1, 1) := by decide +kernel
theorem dX4_collectSum_9 : decode cX4_collectSum 9 = .ok (.invokevirtual 43, 3) := by decide +kernel
theorem dX4_collectSum_12 : decode cX4_collectSum 12 = .ok (.if_icmp .ge 25, 3) := by decide +kernel
theorem dX4_collectSum_15 : decode cX4_collectSum 15 = .ok (.aload_n 1, 1) := by decide +kernel
theorem dX4_collectSum_16 : decode cX4_collectSum 16 = .ok (.iload_n 2, 1) := by decide +kernel
theorem dX4_collectSum_17 : decode cX4_collectSum 17 = .ok (.iload_n 3, 1) := by decide +kernel
theorem dX4_collectSum_18 : decode cX4_collectSum 18 = .ok (.invokevirtual 49, 3) := by decide +kernel
theorem dX4_collectSum_21 : decode cX4_collectSum 21 = .ok (.iconst 1, 1) := by decide +kernel
theorem dX4_collectSum_22 : decode cX4_collectSum 22 = .ok (.if_icmp .ne 9, 3) := by decide +kernel
theorem dX4_collectSum_25 : decode cX4_collectSum 25 = .ok (.aload_n 0, 1) := by decide +kernel
theorem dX4_collectSum_26 : decode cX4_collectSum 26 = .ok (.iload_n 3, 1) := by decide +kernel
theorem dX4_collectSum_27 : decode cX4_collectSum 27 = .ok (.iconst 0, 1) := by decide +kernel
theorem dX4_collectSum_28 : decode cX4_collectSum 28 = .ok (.invokevirtual 53, 3) := by decide +kernel
theorem dX4_collectSum_31 : decode cX4_collectSum 31 = .ok (.iinc 3 1, 3) := by decide +kernel
theorem dX4_collectSum_34 : decode cX4_collectSum 34 = .ok (.goto (-27), 3) := by decide +kernel
theorem dX4_collectSum_37 : decode cX4_collectSum 37 = .ok (.aload_n 0, 1) := by decide +kernel
theorem dX4_collectSum_38 : decode cX4_collectSum 38 = .ok (.getfield 40, 3) := by decide +kernel
theorem dX4_collectSum_41 : decode cX4_collectSum 41 = .ok (.istore_n 3, 1) := by decide +kernel
theorem dX4_collectSum_42 : decode cX4_collectSum 42 = .ok (.iconst 0, 1) := by decide +kernel
theorem dX4_collectSum_43 : decode cX4_collectSum 43 = .ok (.istore 4, 2) := by decide +kernel
theorem dX4_collectSum_45 : decode cX4_collectSum 45 = .ok (.iload 4, 2) := by decide +kernel
theorem dX4_collectSum_47 : decode cX4_collectSum 47 = .ok (.aload_n 1, 1) := by decide +kernel
theorem dX4_collectSum_48 : decode cX4_collectSum 48 = .ok (.invokevirtual 43, 3) := by decide +kernel
theorem dX4_collectSum_51 : decode cX4_collectSum 51 = .ok (.if_icmp .ge 86, 3) := by decide +kernel
theorem dX4_collectSum_54 : decode cX4_collectSum 54 = .ok (.iconst 0, 1) := by decide +kernel
theorem dX4_collectSum_55 : decode cX4_collectSum 55 = .ok (.istore 5, 2) := by decide +kernel
theorem dX4_collectSum_57 : decode cX4_collectSum 57 = .ok (.iload 5, 2) := by decide +kernel
theorem dX4_collectSum_59 : decode cX4_collectSum 59 = .ok (.aload_n 1, 1) := by decide +kernel
theorem dX4_collectSum_60 : decode cX4_collectSum 60 = .ok (.getfield 57, 3) := by decide +kernel
theorem dX4_collectSum_63 : decode cX4_collectSum 63 = .ok (.if_icmp .ge 68, 3) := by decide +kernel
theorem dX4_collectSum_66 : decode cX4_collectSum 66 = .ok (.iconst 1, 1) := by decide +kernel
theorem dX4_collectSum_67 : decode cX4_collectSum 67 = .ok (.iload 5, 2) := by decide +kernel
theorem dX4_collectSum_69 : decode cX4_collectSum 69 = .ok (.ishl, 1) := by decide +kernel
theorem dX4_collectSum_70 : decode cX4_collectSum 70 = .ok (.istore 6, 2) := by decide +kernel
theorem dX4_collectSum_72 : decode cX4_collectSum 72 = .ok (.iload 4, 2) := by decide +kernel
theorem dX4_collectSum_74 : decode cX4_collectSum 74 = .ok (.iload 6, 2) := by decide +kernel
theorem dX4_collectSum_76 : decode cX4_collectSum 76 = .ok (.iand, 1) := by decide +kernel
theorem dX4_collectSum_77 : decode cX4_collectSum 77 = .ok (.ifCond .ne 7, 3) := by decide +kernel
theorem dX4_collectSum_80 : decode cX4_collectSum 80 = .ok (.iconst 1, 1) := by decide +kernel
theorem dX4_collectSum_81 : decode cX4_collectSum 81 = .ok (.goto 4, 3) := by decide +kernel
theorem dX4_collectSum_84 : decode cX4_collectSum 84 = .ok (.iconst 0, 1) := by decide +kernel
theorem dX4_collectSum_85 : decode cX4_collectSum 85 = .ok (.istore 7, 2) := by decide +kernel
theorem dX4_collectSum_87 : decode cX4_collectSum 87 = .ok (.iload 7, 2) := by decide +kernel
theorem dX4_collectSum_89 : decode cX4_collectSum 89 = .ok (.ifCond .eq 36, 3) := by decide +kernel
theorem dX4_collectSum_92 : decode cX4_collectSum 92 = .ok (.aload_n 1, 1) := by decide +kernel
theorem dX4_collectSum_93 : decode cX4_collectSum 93 = .ok (.iload_n 2, 1) := by decide +kernel
theorem dX4_collectSum_94 : decode cX4_collectSum 94 = .ok (.iload 4, 2) := by decide +kernel
theorem dX4_collectSum_96 : decode cX4_collectSum 96 = .ok (.invokevirtual 49, 3) := by decide +kernel
theorem dX4_collectSum_99 : decode cX4_collectSum 99 = .ok (.iconst 1, 1) := by decide +kernel
theorem dX4_collectSum_100 : decode cX4_collectSum 100 = .ok (.if_icmp .ne 25, 3) := by decide +kernel
theorem dX4_collectSum_103 : decode cX4_collectSum 103 = .ok (.aload_n 1, 1) := by decide +kernel
theorem dX4_collectSum_104 : decode cX4_collectSum 104 = .ok (.iload_n 2, 1) := by decide +kernel
theorem dX4_collectSum_105 : decode cX4_collectSum 105 = .ok (.iload 4, 2) := by decide +kernel
theorem dX4_collectSum_107 : decode cX4_collectSum 107 = .ok (.iload 6, 2) := by decide +kernel
theorem dX4_collectSum_109 : decode cX4_collectSum 109 = .ok (.ior, 1) := by decide +kernel
theorem dX4_collectSum_110 : decode cX4_collectSum 110 = .ok (.invokevirtual 49, 3) := by decide +kernel
theorem dX4_collectSum_113 : decode cX4_collectSum 113 = .ok (.iconst 1, 1) := by decide +kernel
theorem dX4_collectSum_114 : decode cX4_collectSum 114 = .ok (.if_icmp .ne 11, 3) := by decide +kernel
theorem dX4_collectSum_117 : decode cX4_collectSum 117 = .ok (.aload_n 0, 1) := by decide +kernel
theorem dX4_collectSum_118 : decode cX4_collectSum 118 = .ok (.iload 4, 2) := by decide +kernel
theorem dX4_collectSum_120 : decode cX4_collectSum 120 = .ok (.iload 6, 2) := by decide +kernel
theorem dX4_collectSum_122 : decode cX4_collectSum 122 = .ok (.invokevirtual 53, 3) := by decide +kernel
theorem dX4_collectSum_125 : decode cX4_collectSum 125 = .ok (.iinc 5 1, 3) := by decide +kernel
theorem dX4_collectSum_128 : decode cX4_collectSum 128 = .ok (.goto (-71), 3) := by decide +kernel
theorem dX4_collectSum_131 : decode cX4_collectSum 131 = .ok (.iinc 4 1, 3) := by decide +kernel
theorem dX4_collectSum_134 : decode cX4_collectSum 134 = .ok (.goto (-89), 3) := by decide +kernel
theorem dX4_collectSum_137 : decode cX4_collectSum 137 = .ok (.aload_n 0, 1) := by decide +kernel
theorem dX4_collectSum_138 : decode cX4_collectSum 138 = .ok (.aload_n 0, 1) := by decide +kernel
theorem dX4_collectSum_139 : decode cX4_collectSum 139 = .ok (.getfield 40, 3) := by decide +kernel
theorem dX4_collectSum_142 : decode cX4_collectSum 142 = .ok (.iload_n 3, 1) := by decide +kernel
theorem dX4_collectSum_143 : decode cX4_collectSum 143 = .ok (.isub, 1) := by decide +kernel
theorem dX4_collectSum_144 : decode cX4_collectSum 144 = .ok (.putfield 60, 3) := by decide +kernel
theorem dX4_collectSum_147 : decode cX4_collectSum 147 = .ok (.return_, 1) := by decide +kernel
theorem dX4_cover_0 : decode cX4_cover 0 = .ok (.iconst 0, 1) := by decide +kernel
theorem dX4_cover_1 : decode cX4_cover 1 = .ok (.istore_n 3, 1) := by decide +kernel
theorem dX4_cover_2 : decode cX4_cover 2 = .ok (.iload_n 3, 1) := by decide +kernel
theorem dX4_cover_3 : decode cX4_cover 3 = .ok (.aload_n 0, 1) := by decide +kernel
theorem dX4_cover_4 : decode cX4_cover 4 = .ok (.getfield 40, 3) := by decide +kernel
theorem dX4_cover_7 : decode cX4_cover 7 = .ok (.if_icmp .ge 25, 3) := by decide +kernel
theorem dX4_cover_10 : decode cX4_cover 10 = .ok (.aload_n 0, 1) := by decide +kernel
theorem dX4_cover_11 : decode cX4_cover 11 = .ok (.aload_n 0, 1) := by decide +kernel
theorem dX4_cover_12 : decode cX4_cover 12 = .ok (.getfield 18, 3) := by decide +kernel
theorem dX4_cover_15 : decode cX4_cover 15 = .ok (.iload_n 3, 1) := by decide +kernel
theorem dX4_cover_16 : decode cX4_cover 16 = .ok (.iaload, 1) := by decide +kernel
theorem dX4_cover_17 : decode cX4_cover 17 = .ok (.iload_n 1, 1) := by decide +kernel
theorem dX4_cover_18 : decode cX4_cover 18 = .ok (.iload_n 2, 1) := by decide +kernel
theorem dX4_cover_19 : decode cX4_cover 19 = .ok (.invokevirtual 63, 3) := by decide +kernel
theorem dX4_cover_22 : decode cX4_cover 22 = .ok (.ifCond .eq 4, 3) := by decide +kernel
theorem dX4_cover_25 : decode cX4_cover 25 = .ok (.return_, 1) := by decide +kernel
theorem dX4_cover_26 : decode cX4_cover 26 = .ok (.iinc 3 1, 3) := by decide +kernel
theorem dX4_cover_29 : decode cX4_cover 29 = .ok (.goto (-27), 3) := by decide +kernel
theorem dX4_cover_32 : decode cX4_cover 32 = .ok (.iconst (-1), 1) := by decide +kernel
theorem dX4_cover_33 : decode cX4_cover 33 = .ok (.istore_n 3, 1) := by decide +kernel
theorem dX4_cover_34 : decode cX4_cover 34 = .ok (.bipush 8, 2) := by decide +kernel
theorem dX4_cover_36 : decode cX4_cover 36 = .ok (.istore 4, 2) := by decide +kernel
theorem dX4_cover_38 : decode cX4_cover 38 = .ok (.iconst 0, 1) := by decide +kernel
theorem dX4_cover_39 : decode cX4_cover 39 = .ok (.istore 5, 2) := by decide +kernel
theorem dX4_cover_41 : decode cX4_cover 41 = .ok (.iload 5, 2) := by decide +kernel
theorem dX4_cover_43 : decode cX4_cover 43 = .ok (.aload_n 0, 1) := by decide +kernel
theorem dX4_cover_44 : decode cX4_cover 44 = .ok (.getfield 21, 3) := by decide +kernel
theorem dX4_cover_47 : decode cX4_cover 47 = .ok (.if_icmp .ge 50, 3) := by decide +kernel
theorem dX4_cover_50 : decode cX4_cover 50 = .ok (.aload_n 0, 1) := by decide +kernel
theorem dX4_cover_51 : decode cX4_cover 51 = .ok (.iload 5, 2) := by decide +kernel
theorem dX4_cover_53 : decode cX4_cover 53 = .ok (.iload_n 1, 1) := by decide +kernel
theorem dX4_cover_54 : decode cX4_cover 54 = .ok (.iload_n 2, 1) := by decide +kernel
theorem dX4_cover_55 : decode cX4_cover 55 = .ok (.invokevirtual 63, 3) := by decide +kernel
theorem dX4_cover_58 : decode cX4_cover 58 = .ok (.ifCond .eq 33, 3) := by decide +kernel
theorem dX4_cover_61 : decode cX4_cover 61 = .ok (.aload_n 0, 1) := by decide +kernel
theorem dX4_cover_62 : decode cX4_cover 62 = .ok (.getfield 11, 3) := by decide +kernel
theorem dX4_cover_65 : decode cX4_cover 65 = .ok (.iload 5, 2) := by decide +kernel
theorem dX4_cover_67 : decode cX4_cover 67 = .ok (.iaload, 1) := by decide +kernel
theorem dX4_cover_68 : decode cX4_cover 68 = .ok (.invokestatic 30, 3) := by decide +kernel
theorem dX4_cover_71 : decode cX4_cover 71 = .ok (.iload 4, 2) := by decide +kernel
theorem dX4_cover_73 : decode cX4_cover 73 = .ok (.if_icmp .ge 18, 3) := by decide +kernel
theorem dX4_cover_76 : decode cX4_cover 76 = .ok (.iload 5, 2) := by decide +kernel
theorem dX4_cover_78 : decode cX4_cover 78 = .ok (.istore_n 3, 1) := by decide +kernel
theorem dX4_cover_79 : decode cX4_cover 79 = .ok (.aload_n 0, 1) := by decide +kernel
theorem dX4_cover_80 : decode cX4_cover 80 = .ok (.getfield 11, 3) := by decide +kernel
theorem dX4_cover_83 : decode cX4_cover 83 = .ok (.iload 5, 2) := by decide +kernel
theorem dX4_cover_85 : decode cX4_cover 85 = .ok (.iaload, 1) := by decide +kernel
theorem dX4_cover_86 : decode cX4_cover 86 = .ok (.invokestatic 30, 3) := by decide +kernel
theorem dX4_cover_89 : decode cX4_cover 89 = .ok (.istore 4, 2) := by decide +kernel
theorem dX4_cover_91 : decode cX4_cover 91 = .ok (.iinc 5 1, 3) := by decide +kernel
theorem dX4_cover_94 : decode cX4_cover 94 = .ok (.goto (-53), 3) := by decide +kernel
theorem dX4_cover_97 : decode cX4_cover 97 = .ok (.iload_n 3, 1) := by decide +kernel
theorem dX4_cover_98 : decode cX4_cover 98 = .ok (.iconst (-1), 1) := by decide +kernel
theorem dX4_cover_99 : decode cX4_cover 99 = .ok (.if_icmp .eq 33, 3) := by decide +kernel
theorem dX4_cover_102 : decode cX4_cover 102 = .ok (.aload_n 0, 1) := by decide +kernel
theorem dX4_cover_103 : decode cX4_cover 103 = .ok (.getfield 40, 3) := by decide +kernel
theorem dX4_cover_106 : decode cX4_cover 106 = .ok (.sipush 672, 3) := by decide +kernel
theorem dX4_cover_109 : decode cX4_cover 109 = .ok (.if_icmp .ge 23, 3) := by decide +kernel
theorem dX4_cover_112 : decode cX4_cover 112 = .ok (.aload_n 0, 1) := by decide +kernel
theorem dX4_cover_113 : decode cX4_cover 113 = .ok (.getfield 18, 3) := by decide +kernel
theorem dX4_cover_116 : decode cX4_cover 116 = .ok (.aload_n 0, 1) := by decide +kernel
theorem dX4_cover_117 : decode cX4_cover 117 = .ok (.getfield 40, 3) := by decide +kernel
theorem dX4_cover_120 : decode cX4_cover 120 = .ok (.iload_n 3, 1) := by decide +kernel
theorem dX4_cover_121 : decode cX4_cover 121 = .ok (.iastore, 1) := by decide +kernel
theorem dX4_cover_122 : decode cX4_cover 122 = .ok (.aload_n 0, 1) := by decide +kernel
theorem dX4_cover_123 : decode cX4_cover 123 = .ok (.dup, 1) := by decide +kernel
theorem dX4_cover_124 : decode cX4_cover 124 = .ok (.getfield 40, 3) := by decide +kernel
theorem dX4_cover_127 : decode cX4_cover 127 = .ok (.iconst 1, 1) := by decide +kernel
theorem dX4_cover_128 : decode cX4_cover 128 = .ok (.iadd, 1) := by decide +kernel
theorem dX4_cover_129 : decode cX4_cover 129 = .ok (.putfield 40, 3) := by decide +kernel
theorem dX4_cover_132 : decode cX4_cover 132 = .ok (.return_, 1) := by decide +kernel
theorem dX4_hasBoth_0 : decode cX4_hasBoth 0 = .ok (.aload_n 0, 1) := by decide +kernel
theorem dX4_hasBoth_1 : decode cX4_hasBoth 1 = .ok (.getfield 11, 3) := by decide +kernel
theorem dX4_hasBoth_4 : decode cX4_hasBoth 4 = .ok (.iload_n 1, 1) := by decide +kernel
theorem dX4_hasBoth_5 : decode cX4_hasBoth 5 = .ok (.iaload, 1) := by decide +kernel
theorem dX4_hasBoth_6 : decode cX4_hasBoth 6 = .ok (.iload_n 3, 1) := by decide +kernel
theorem dX4_hasBoth_7 : decode cX4_hasBoth 7 = .ok (.iand, 1) := by decide +kernel
theorem dX4_hasBoth_8 : decode cX4_hasBoth 8 = .ok (.ifCond .ne 24, 3) := by decide +kernel
theorem dX4_hasBoth_11 : decode cX4_hasBoth 11 = .ok (.iload_n 2, 1) := by decide +kernel
theorem dX4_hasBoth_12 : decode cX4_hasBoth 12 = .ok (.aload_n 0, 1) := by decide +kernel
theorem dX4_hasBoth_13 : decode cX4_hasBoth 13 = .ok (.getfield 11, 3) := by decide +kernel
theorem dX4_hasBoth_16 : decode cX4_hasBoth 16 = .ok (.iload_n 1, 1) := by decide +kernel
theorem dX4_hasBoth_17 : decode cX4_hasBoth 17 = .ok (.iaload, 1) := by decide +kernel
theorem dX4_hasBoth_18 : decode cX4_hasBoth 18 = .ok (.iand, 1) := by decide +kernel
theorem dX4_hasBoth_19 : decode cX4_hasBoth 19 = .ok (.aload_n 0, 1) := by decide +kernel
theorem dX4_hasBoth_20 : decode cX4_hasBoth 20 = .ok (.getfield 15, 3) := by decide +kernel
theorem dX4_hasBoth_23 : decode cX4_hasBoth 23 = .ok (.iload_n 1, 1) := by decide +kernel
theorem dX4_hasBoth_24 : decode cX4_hasBoth 24 = .ok (.iaload, 1) := by decide +kernel
theorem dX4_hasBoth_25 : decode cX4_hasBoth 25 = .ok (.if_icmp .ne 7, 3) := by decide +kernel
theorem dX4_hasBoth_28 : decode cX4_hasBoth 28 = .ok (.iconst 1, 1) := by decide +kernel
theorem dX4_hasBoth_29 : decode cX4_hasBoth 29 = .ok (.goto 4, 3) := by decide +kernel
theorem dX4_hasBoth_32 : decode cX4_hasBoth 32 = .ok (.iconst 0, 1) := by decide +kernel
theorem dX4_hasBoth_33 : decode cX4_hasBoth 33 = .ok (.ireturn, 1) := by decide +kernel
theorem dX4_askedInSum_0 : decode cX4_askedInSum 0 = .ok (.iconst 0, 1) := by decide +kernel
theorem dX4_askedInSum_1 : decode cX4_askedInSum 1 = .ok (.istore_n 1, 1) := by decide +kernel
theorem dX4_askedInSum_2 : decode cX4_askedInSum 2 = .ok (.iconst 0, 1) := by decide +kernel
theorem dX4_askedInSum_3 : decode cX4_askedInSum 3 = .ok (.istore_n 2, 1) := by decide +kernel
theorem dX4_askedInSum_4 : decode cX4_askedInSum 4 = .ok (.iload_n 2, 1) := by decide +kernel
theorem dX4_askedInSum_5 : decode cX4_askedInSum 5 = .ok (.aload_n 0, 1) := by decide +kernel
theorem dX4_askedInSum_6 : decode cX4_askedInSum 6 = .ok (.getfield 40, 3) := by decide +kernel
theorem dX4_askedInSum_9 : decode cX4_askedInSum 9 = .ok (.if_icmp .ge 26, 3) := by decide +kernel
theorem dX4_askedInSum_12 : decode cX4_askedInSum 12 = .ok (.iload_n 1, 1) := by decide +kernel
theorem dX4_askedInSum_13 : decode cX4_askedInSum 13 = .ok (.aload_n 0, 1) := by decide +kernel
theorem dX4_askedInSum_14 : decode cX4_askedInSum 14 = .ok (.getfield 11, 3) := by decide +kernel
theorem dX4_askedInSum_17 : decode cX4_askedInSum 17 = .ok (.aload_n 0, 1) := by decide +kernel
theorem dX4_askedInSum_18 : decode cX4_askedInSum 18 = .ok (.getfield 18, 3) := by decide +kernel
theorem dX4_askedInSum_21 : decode cX4_askedInSum 21 = .ok (.iload_n 2, 1) := by decide +kernel
theorem dX4_askedInSum_22 : decode cX4_askedInSum 22 = .ok (.iaload, 1) := by decide +kernel
theorem dX4_askedInSum_23 : decode cX4_askedInSum 23 = .ok (.iaload, 1) := by decide +kernel
theorem dX4_askedInSum_24 : decode cX4_askedInSum 24 = .ok (.invokestatic 30, 3) := by decide +kernel
theorem dX4_askedInSum_27 : decode cX4_askedInSum 27 = .ok (.iadd, 1) := by decide +kernel
theorem dX4_askedInSum_28 : decode cX4_askedInSum 28 = .ok (.istore_n 1, 1) := by decide +kernel
theorem dX4_askedInSum_29 : decode cX4_askedInSum 29 = .ok (.iinc 2 1, 3) := by decide +kernel
theorem dX4_askedInSum_32 : decode cX4_askedInSum 32 = .ok (.goto (-28), 3) := by decide +kernel
theorem dX4_askedInSum_35 : decode cX4_askedInSum 35 = .ok (.iload_n 1, 1) := by decide +kernel
theorem dX4_askedInSum_36 : decode cX4_askedInSum 36 = .ok (.ireturn, 1) := by decide +kernel
theorem dX4_ofSum_0 : decode cX4_ofSum 0 = .ok (.iload_n 1, 1) := by decide +kernel
theorem dX4_ofSum_1 : decode cX4_ofSum 1 = .ok (.ifCond .lt 25, 3) := by decide +kernel
theorem dX4_ofSum_4 : decode cX4_ofSum 4 = .ok (.iload_n 1, 1) := by decide +kernel
theorem dX4_ofSum_5 : decode cX4_ofSum 5 = .ok (.aload_n 0, 1) := by decide +kernel
theorem dX4_ofSum_6 : decode cX4_ofSum 6 = .ok (.getfield 40, 3) := by decide +kernel
theorem dX4_ofSum_9 : decode cX4_ofSum 9 = .ok (.if_icmp .ge 17, 3) := by decide +kernel
theorem dX4_ofSum_12 : decode cX4_ofSum 12 = .ok (.aload_n 0, 1) := by decide +kernel
theorem dX4_ofSum_13 : decode cX4_ofSum 13 = .ok (.aload_n 0, 1) := by decide +kernel
theorem dX4_ofSum_14 : decode cX4_ofSum 14 = .ok (.getfield 18, 3) := by decide +kernel
theorem dX4_ofSum_17 : decode cX4_ofSum 17 = .ok (.iload_n 1, 1) := by decide +kernel
theorem dX4_ofSum_18 : decode cX4_ofSum 18 = .ok (.iaload, 1) := by decide +kernel
