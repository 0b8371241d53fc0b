theorem dX10_findLeast_53 : decode cX10_findLeast 53 = .ok (.iload_n 1, 1) := by decide +kernel
theorem dX10_findLeast_54 : decode cX10_findLeast 54 = .ok (.invokevirtual 166, 3) := by decide +kernel
theorem dX10_findLeast_57 : decode cX10_findLeast 57 = .ok (.istore_n 2, 1) := by decide +kernel
theorem dX10_findLeast_58 : decode cX10_findLeast 58 = .ok (.goto (-18), 3) := by decide +kernel
theorem dX10_findLeast_61 : decode cX10_findLeast 61 = .ok (.iload_n 2, 1) := by decide +kernel
theorem dX10_findLeast_62 : decode cX10_findLeast 62 = .ok (.ireturn, 1) := by decide +kernel
theorem dX10_layLeast_0 : decode cX10_layLeast 0 = .ok (.aload_n 0, 1) := by decide +kernel
theorem dX10_layLeast_1 : decode cX10_layLeast 1 = .ok (.iconst (-1), 1) := by decide +kernel
theorem dX10_layLeast_2 : decode cX10_layLeast 2 = .ok (.putfield 32, 3) := by decide +kernel
theorem dX10_layLeast_5 : decode cX10_layLeast 5 = .ok (.aload_n 0, 1) := by decide +kernel
theorem dX10_layLeast_6 : decode cX10_layLeast 6 = .ok (.invokevirtual 125, 3) := by decide +kernel
theorem dX10_layLeast_9 : decode cX10_layLeast 9 = .ok (.ifCond .ne 4, 3) := by decide +kernel
theorem dX10_layLeast_12 : decode cX10_layLeast 12 = .ok (.return_, 1) := by decide +kernel
theorem dX10_layLeast_13 : decode cX10_layLeast 13 = .ok (.aload_n 0, 1) := by decide +kernel
theorem dX10_layLeast_14 : decode cX10_layLeast 14 = .ok (.invokevirtual 169, 3) := by decide +kernel
theorem dX10_layLeast_17 : decode cX10_layLeast 17 = .ok (.iconst 1, 1) := by decide +kernel
theorem dX10_layLeast_18 : decode cX10_layLeast 18 = .ok (.istore_n 1, 1) := by decide +kernel
theorem dX10_layLeast_19 : decode cX10_layLeast 19 = .ok (.iload_n 1, 1) := by decide +kernel
theorem dX10_layLeast_20 : decode cX10_layLeast 20 = .ok (.iconst 5, 1) := by decide +kernel
theorem dX10_layLeast_21 : decode cX10_layLeast 21 = .ok (.if_icmp .gt 17, 3) := by decide +kernel
theorem dX10_layLeast_24 : decode cX10_layLeast 24 = .ok (.aload_n 0, 1) := by decide +kernel
theorem dX10_layLeast_25 : decode cX10_layLeast 25 = .ok (.iload_n 1, 1) := by decide +kernel
theorem dX10_layLeast_26 : decode cX10_layLeast 26 = .ok (.invokevirtual 172, 3) := by decide +kernel
theorem dX10_layLeast_29 : decode cX10_layLeast 29 = .ok (.ifCond .ne 9, 3) := by decide +kernel
theorem dX10_layLeast_32 : decode cX10_layLeast 32 = .ok (.iinc 1 1, 3) := by decide +kernel
theorem dX10_layLeast_35 : decode cX10_layLeast 35 = .ok (.goto (-16), 3) := by decide +kernel
theorem dX10_layLeast_38 : decode cX10_layLeast 38 = .ok (.iload_n 1, 1) := by decide +kernel
theorem dX10_layLeast_39 : decode cX10_layLeast 39 = .ok (.iconst 5, 1) := by decide +kernel
theorem dX10_layLeast_40 : decode cX10_layLeast 40 = .ok (.if_icmp .gt 33, 3) := by decide +kernel
theorem dX10_layLeast_43 : decode cX10_layLeast 43 = .ok (.aload_n 0, 1) := by decide +kernel
theorem dX10_layLeast_44 : decode cX10_layLeast 44 = .ok (.iload_n 1, 1) := by decide +kernel
theorem dX10_layLeast_45 : decode cX10_layLeast 45 = .ok (.putfield 32, 3) := by decide +kernel
theorem dX10_layLeast_48 : decode cX10_layLeast 48 = .ok (.iconst 0, 1) := by decide +kernel
theorem dX10_layLeast_49 : decode cX10_layLeast 49 = .ok (.istore_n 2, 1) := by decide +kernel
theorem dX10_layLeast_50 : decode cX10_layLeast 50 = .ok (.iload_n 2, 1) := by decide +kernel
theorem dX10_layLeast_51 : decode cX10_layLeast 51 = .ok (.iload_n 1, 1) := by decide +kernel
theorem dX10_layLeast_52 : decode cX10_layLeast 52 = .ok (.if_icmp .ge 21, 3) := by decide +kernel
theorem dX10_layLeast_55 : decode cX10_layLeast 55 = .ok (.aload_n 0, 1) := by decide +kernel
theorem dX10_layLeast_56 : decode cX10_layLeast 56 = .ok (.getfield 35, 3) := by decide +kernel
theorem dX10_layLeast_59 : decode cX10_layLeast 59 = .ok (.iload_n 2, 1) := by decide +kernel
theorem dX10_layLeast_60 : decode cX10_layLeast 60 = .ok (.aload_n 0, 1) := by decide +kernel
theorem dX10_layLeast_61 : decode cX10_layLeast 61 = .ok (.getfield 38, 3) := by decide +kernel
theorem dX10_layLeast_64 : decode cX10_layLeast 64 = .ok (.iload_n 2, 1) := by decide +kernel
theorem dX10_layLeast_65 : decode cX10_layLeast 65 = .ok (.iaload, 1) := by decide +kernel
theorem dX10_layLeast_66 : decode cX10_layLeast 66 = .ok (.iastore, 1) := by decide +kernel
theorem dX10_layLeast_67 : decode cX10_layLeast 67 = .ok (.iinc 2 1, 3) := by decide +kernel
theorem dX10_layLeast_70 : decode cX10_layLeast 70 = .ok (.goto (-20), 3) := by decide +kernel
theorem dX10_layLeast_73 : decode cX10_layLeast 73 = .ok (.return_, 1) := by decide +kernel
theorem dX10_leastNow_0 : decode cX10_leastNow 0 = .ok (.iload_n 1, 1) := by decide +kernel
theorem dX10_leastNow_1 : decode cX10_leastNow 1 = .ok (.iconst (-1), 1) := by decide +kernel
theorem dX10_leastNow_2 : decode cX10_leastNow 2 = .ok (.if_icmp .eq 11, 3) := by decide +kernel
theorem dX10_leastNow_5 : decode cX10_leastNow 5 = .ok (.aload_n 0, 1) := by decide +kernel
theorem dX10_leastNow_6 : decode cX10_leastNow 6 = .ok (.getfield 32, 3) := by decide +kernel
theorem dX10_leastNow_9 : decode cX10_leastNow 9 = .ok (.iconst (-1), 1) := by decide +kernel
theorem dX10_leastNow_10 : decode cX10_leastNow 10 = .ok (.if_icmp .ne 8, 3) := by decide +kernel
theorem dX10_leastNow_13 : decode cX10_leastNow 13 = .ok (.aload_n 0, 1) := by decide +kernel
theorem dX10_leastNow_14 : decode cX10_leastNow 14 = .ok (.getfield 32, 3) := by decide +kernel
theorem dX10_leastNow_17 : decode cX10_leastNow 17 = .ok (.ireturn, 1) := by decide +kernel
theorem dX10_leastNow_18 : decode cX10_leastNow 18 = .ok (.iload_n 1, 1) := by decide +kernel
theorem dX10_leastNow_19 : decode cX10_leastNow 19 = .ok (.aload_n 0, 1) := by decide +kernel
theorem dX10_leastNow_20 : decode cX10_leastNow 20 = .ok (.getfield 32, 3) := by decide +kernel
theorem dX10_leastNow_23 : decode cX10_leastNow 23 = .ok (.if_icmp .ge 12, 3) := by decide +kernel
theorem dX10_leastNow_26 : decode cX10_leastNow 26 = .ok (.aload_n 0, 1) := by decide +kernel
theorem dX10_leastNow_27 : decode cX10_leastNow 27 = .ok (.getfield 35, 3) := by decide +kernel
theorem dX10_leastNow_30 : decode cX10_leastNow 30 = .ok (.iload_n 1, 1) := by decide +kernel
theorem dX10_leastNow_31 : decode cX10_leastNow 31 = .ok (.iaload, 1) := by decide +kernel
theorem dX10_leastNow_32 : decode cX10_leastNow 32 = .ok (.goto 4, 3) := by decide +kernel
theorem dX10_leastNow_35 : decode cX10_leastNow 35 = .ok (.iconst (-1), 1) := by decide +kernel
theorem dX10_leastNow_36 : decode cX10_leastNow 36 = .ok (.ireturn, 1) := by decide +kernel
theorem dX10_least_0 : decode cX10_least 0 = .ok (.iload_n 1, 1) := by decide +kernel
theorem dX10_least_1 : decode cX10_least 1 = .ok (.iconst (-1), 1) := by decide +kernel
theorem dX10_least_2 : decode cX10_least 2 = .ok (.iconst 4, 1) := by decide +kernel
theorem dX10_least_3 : decode cX10_least 3 = .ok (.invokestatic 60, 3) := by decide +kernel
theorem dX10_least_6 : decode cX10_least 6 = .ok (.ifCond .ne 7, 3) := by decide +kernel
theorem dX10_least_9 : decode cX10_least 9 = .ok (.sipush (-1002), 3) := by decide +kernel
theorem dX10_least_12 : decode cX10_least 12 = .ok (.ireturn, 1) := by decide +kernel
theorem dX10_least_13 : decode cX10_least 13 = .ok (.aload_n 0, 1) := by decide +kernel
theorem dX10_least_14 : decode cX10_least 14 = .ok (.invokevirtual 125, 3) := by decide +kernel
theorem dX10_least_17 : decode cX10_least 17 = .ok (.ifCond .eq 11, 3) := by decide +kernel
theorem dX10_least_20 : decode cX10_least 20 = .ok (.aload_n 0, 1) := by decide +kernel
theorem dX10_least_21 : decode cX10_least 21 = .ok (.iload_n 1, 1) := by decide +kernel
theorem dX10_least_22 : decode cX10_least 22 = .ok (.invokevirtual 175, 3) := by decide +kernel
theorem dX10_least_25 : decode cX10_least 25 = .ok (.goto 6, 3) := by decide +kernel
theorem dX10_least_28 : decode cX10_least 28 = .ok (.sipush (-1003), 3) := by decide +kernel
theorem dX10_least_31 : decode cX10_least 31 = .ok (.ireturn, 1) := by decide +kernel
theorem dX10_put_0 : decode cX10_put 0 = .ok (.aload_n 0, 1) := by decide +kernel
theorem dX10_put_1 : decode cX10_put 1 = .ok (.invokevirtual 125, 3) := by decide +kernel
theorem dX10_put_4 : decode cX10_put 4 = .ok (.ifCond .ne 7, 3) := by decide +kernel
theorem dX10_put_7 : decode cX10_put 7 = .ok (.sipush (-1003), 3) := by decide +kernel
theorem dX10_put_10 : decode cX10_put 10 = .ok (.ireturn, 1) := by decide +kernel
theorem dX10_put_11 : decode cX10_put 11 = .ok (.iload_n 1, 1) := by decide +kernel
theorem dX10_put_12 : decode cX10_put 12 = .ok (.iconst 0, 1) := by decide +kernel
theorem dX10_put_13 : decode cX10_put 13 = .ok (.iconst 1, 1) := by decide +kernel
theorem dX10_put_14 : decode cX10_put 14 = .ok (.aload_n 0, 1) := by decide +kernel
theorem dX10_put_15 : decode cX10_put 15 = .ok (.getfield 87, 3) := by decide +kernel
theorem dX10_put_18 : decode cX10_put 18 = .ok (.ishl, 1) := by decide +kernel
theorem dX10_put_19 : decode cX10_put 19 = .ok (.iconst 1, 1) := by decide +kernel
theorem dX10_put_20 : decode cX10_put 20 = .ok (.isub, 1) := by decide +kernel
theorem dX10_put_21 : decode cX10_put 21 = .ok (.invokestatic 60, 3) := by decide +kernel
theorem dX10_put_24 : decode cX10_put 24 = .ok (.ifCond .ne 7, 3) := by decide +kernel
theorem dX10_put_27 : decode cX10_put 27 = .ok (.sipush (-1002), 3) := by decide +kernel
theorem dX10_put_30 : decode cX10_put 30 = .ok (.ireturn, 1) := by decide +kernel
theorem dX10_put_31 : decode cX10_put 31 = .ok (.aload_n 0, 1) := by decide +kernel
theorem dX10_put_32 : decode cX10_put 32 = .ok (.getfield 99, 3) := by decide +kernel
theorem dX10_put_35 : decode cX10_put 35 = .ok (.iconst 5, 1) := by decide +kernel
theorem dX10_put_36 : decode cX10_put 36 = .ok (.if_icmp .ne 7, 3) := by decide +kernel
theorem dX10_put_39 : decode cX10_put 39 = .ok (.sipush (-1004), 3) := by decide +kernel
theorem dX10_put_42 : decode cX10_put 42 = .ok (.ireturn, 1) := by decide +kernel
theorem dX10_put_43 : decode cX10_put 43 = .ok (.aload_n 0, 1) := by decide +kernel
theorem dX10_put_44 : decode cX10_put 44 = .ok (.getfield 16, 3) := by decide +kernel
theorem dX10_put_47 : decode cX10_put 47 = .ok (.aload_n 0, 1) := by decide +kernel
theorem dX10_put_48 : decode cX10_put 48 = .ok (.getfield 99, 3) := by decide +kernel
theorem dX10_put_51 : decode cX10_put 51 = .ok (.iload_n 1, 1) := by decide +kernel
theorem dX10_put_52 : decode cX10_put 52 = .ok (.iastore, 1) := by decide +kernel
theorem dX10_put_53 : decode cX10_put 53 = .ok (.aload_n 0, 1) := by decide +kernel
theorem dX10_put_54 : decode cX10_put 54 = .ok (.dup, 1) := by decide +kernel
theorem dX10_put_55 : decode cX10_put 55 = .ok (.getfield 99, 3) := by decide +kernel
theorem dX10_put_58 : decode cX10_put 58 = .ok (.iconst 1, 1) := by decide +kernel
theorem dX10_put_59 : decode cX10_put 59 = .ok (.iadd, 1) := by decide +kernel
theorem dX10_put_60 : decode cX10_put 60 = .ok (.putfield 99, 3) := by decide +kernel
theorem dX10_put_63 : decode cX10_put 63 = .ok (.aload_n 0, 1) := by decide +kernel
theorem dX10_put_64 : decode cX10_put 64 = .ok (.invokevirtual 111, 3) := by decide +kernel
theorem dX10_put_67 : decode cX10_put 67 = .ok (.aload_n 0, 1) := by decide +kernel
theorem dX10_put_68 : decode cX10_put 68 = .ok (.getfield 99, 3) := by decide +kernel
theorem dX10_put_71 : decode cX10_put 71 = .ok (.ireturn, 1) := by decide +kernel
theorem dX10_clear_0 : decode cX10_clear 0 = .ok (.aload_n 0, 1) := by decide +kernel
theorem dX10_clear_1 : decode cX10_clear 1 = .ok (.invokevirtual 125, 3) := by decide +kernel
theorem dX10_clear_4 : decode cX10_clear 4 = .ok (.ifCond .ne 7, 3) := by decide +kernel
theorem dX10_clear_7 : decode cX10_clear 7 = .ok (.sipush (-1003), 3) := by decide +kernel
theorem dX10_clear_10 : decode cX10_clear 10 = .ok (.ireturn, 1) := by decide +kernel
theorem dX10_clear_11 : decode cX10_clear 11 = .ok (.aload_n 0, 1) := by decide +kernel
theorem dX10_clear_12 : decode cX10_clear 12 = .ok (.getfield 99, 3) := by decide +kernel
theorem dX10_clear_15 : decode cX10_clear 15 = .ok (.istore_n 1, 1) := by decide +kernel
theorem dX10_clear_16 : decode cX10_clear 16 = .ok (.aload_n 0, 1) := by decide +kernel
theorem dX10_clear_17 : decode cX10_clear 17 = .ok (.iconst 0, 1) := by decide +kernel
theorem dX10_clear_18 : decode cX10_clear 18 = .ok (.putfield 99, 3) := by decide +kernel
theorem dX10_clear_21 : decode cX10_clear 21 = .ok (.aload_n 0, 1) := by decide +kernel
theorem dX10_clear_22 : decode cX10_clear 22 = .ok (.invokevirtual 111, 3) := by decide +kernel
theorem dX10_clear_25 : decode cX10_clear 25 = .ok (.iload_n 1, 1) := by decide +kernel
theorem dX10_clear_26 : decode cX10_clear 26 = .ok (.ireturn, 1) := by decide +kernel
theorem dX10_codeOf_0 : decode cX10_codeOf 0 = .ok (.iconst 0, 1) := by decide +kernel
theorem dX10_codeOf_1 : decode cX10_codeOf 1 = .ok (.istore_n 2, 1) := by decide +kernel
theorem dX10_codeOf_2 : decode cX10_codeOf 2 = .ok (.iconst 0, 1) := by decide +kernel
theorem dX10_codeOf_3 : decode cX10_codeOf 3 = .ok (.istore_n 3, 1) := by decide +kernel
theorem dX10_codeOf_4 : decode cX10_codeOf 4 = .ok (.iload_n 3, 1) := by decide +kernel
theorem dX10_codeOf_5 : decode cX10_codeOf 5 = .ok (.aload_n 0, 1) := by decide +kernel
theorem dX10_codeOf_6 : decode cX10_codeOf 6 = .ok (.getfield 99, 3) := by decide +kernel
theorem dX10_codeOf_9 : decode cX10_codeOf 9 = .ok (.if_icmp .ge 24, 3) := by decide +kernel
theorem dX10_codeOf_12 : decode cX10_codeOf 12 = .ok (.iload_n 2, 1) := by decide +kernel
theorem dX10_codeOf_13 : decode cX10_codeOf 13 = .ok (.aload_n 0, 1) := by decide +kernel
theorem dX10_codeOf_14 : decode cX10_codeOf 14 = .ok (.getfield 16, 3) := by decide +kernel
theorem dX10_codeOf_17 : decode cX10_codeOf 17 = .ok (.iload_n 3, 1) := by decide +kernel
theorem dX10_codeOf_18 : decode cX10_codeOf 18 = .ok (.iaload, 1) := by decide +kernel
theorem dX10_codeOf_19 : decode cX10_codeOf 19 = .ok (.iload_n 1, 1) := by decide +kernel
theorem dX10_codeOf_20 : decode cX10_codeOf 20 = .ok (.ishr, 1) := by decide +kernel
theorem dX10_codeOf_21 : decode cX10_codeOf 21 = .ok (.iconst 1, 1) := by decide +kernel
theorem dX10_codeOf_22 : decode cX10_codeOf 22 = .ok (.iand, 1) := by decide +kernel
theorem dX10_codeOf_23 : decode cX10_codeOf 23 = .ok (.iload_n 3, 1) := by decide +kernel
theorem dX10_codeOf_24 : decode cX10_codeOf 24 = .ok (.ishl, 1) := by decide +kernel
theorem dX10_codeOf_25 : decode cX10_codeOf 25 = .ok (.ior, 1) := by decide +kernel
theorem dX10_codeOf_26 : decode cX10_codeOf 26 = .ok (.istore_n 2, 1) := by decide +kernel
theorem dX10_codeOf_27 : decode cX10_codeOf 27 = .ok (.iinc 3 1, 3) := by decide +kernel
theorem dX10_codeOf_30 : decode cX10_codeOf 30 = .ok (.goto (-26), 3) := by decide +kernel
theorem dX10_codeOf_33 : decode cX10_codeOf 33 = .ok (.iload_n 2, 1) := by decide +kernel
theorem dX10_codeOf_34 : decode cX10_codeOf 34 = .ok (.ireturn, 1) := by decide +kernel
theorem dX10_code_0 : decode cX10_code 0 = .ok (.iload_n 1, 1) := by decide +kernel
theorem dX10_code_1 : decode cX10_code 1 = .ok (.iconst 0, 1) := by decide +kernel
theorem dX10_code_2 : decode cX10_code 2 = .ok (.aload_n 0, 1) := by decide +kernel
theorem dX10_code_3 : decode cX10_code 3 = .ok (.getfield 87, 3) := by decide +kernel
theorem dX10_code_6 : decode cX10_code 6 = .ok (.iconst 1, 1) := by decide +kernel
theorem dX10_code_7 : decode cX10_code 7 = .ok (.isub, 1) := by decide +kernel
theorem dX10_code_8 : decode cX10_code 8 = .ok (.invokestatic 60, 3) := by decide +kernel
theorem dX10_code_11 : decode cX10_code 11 = .ok (.ifCond .ne 7, 3) := by decide +kernel
theorem dX10_code_14 : decode cX10_code 14 = .ok (.sipush (-1001), 3) := by decide +kernel
theorem dX10_code_17 : decode cX10_code 17 = .ok (.ireturn, 1) := by decide +kernel
theorem dX10_code_18 : decode cX10_code 18 = .ok (.aload_n 0, 1) := by decide +kernel
theorem dX10_code_19 : decode cX10_code 19 = .ok (.invokevirtual 125, 3) := by decide +kernel
theorem dX10_code_22 : decode cX10_code 22 = .ok (.ifCond .eq 11, 3) := by decide +kernel
theorem dX10_code_25 : decode cX10_code 25 = .ok (.aload_n 0, 1) := by decide +kernel
theorem dX10_code_26 : decode cX10_code 26 = .ok (.iload_n 1, 1) := by decide +kernel
theorem dX10_code_27 : decode cX10_code 27 = .ok (.invokevirtual 178, 3) := by decide +kernel
theorem dX10_code_30 : decode cX10_code 30 = .ok (.goto 6, 3) := by decide +kernel
theorem dX10_code_33 : decode cX10_code 33 = .ok (.sipush (-1003), 3) := by decide +kernel
theorem dX10_code_36 : decode cX10_code 36 = .ok (.ireturn, 1) := by decide +kernel
theorem dX10_lost_0 : decode cX10_lost 0 = .ok (.iconst 0, 1) := by decide +kernel
theorem dX10_lost_1 : decode cX10_lost 1 = .ok (.istore_n 1, 1) := by decide +kernel
theorem dX10_lost_2 : decode cX10_lost 2 = .ok (.iconst 0, 1) := by decide +kernel
theorem dX10_lost_3 : decode cX10_lost 3 = .ok (.istore_n 2, 1) := by decide +kernel
theorem dX10_lost_4 : decode cX10_lost 4 = .ok (.iload_n 2, 1) := by decide +kernel
theorem dX10_lost_5 : decode cX10_lost 5 = .ok (.aload_n 0, 1) := by decide +kernel
theorem dX10_lost_6 : decode cX10_lost 6 = .ok (.getfield 133, 3) := by decide +kernel
theorem dX10_lost_9 : decode cX10_lost 9 = .ok (.if_icmp .ge 25, 3) := by decide +kernel
theorem dX10_lost_12 : decode cX10_lost 12 = .ok (.iload_n 1, 1) := by decide +kernel
theorem dX10_lost_13 : decode cX10_lost 13 = .ok (.aload_n 0, 1) := by decide +kernel
theorem dX10_lost_14 : decode cX10_lost 14 = .ok (.iload_n 2, 1) := by decide +kernel
theorem dX10_lost_15 : decode cX10_lost 15 = .ok (.invokevirtual 155, 3) := by decide +kernel
theorem dX10_lost_18 : decode cX10_lost 18 = .ok (.ifCond .ne 7, 3) := by decide +kernel
theorem dX10_lost_21 : decode cX10_lost 21 = .ok (.iconst 1, 1) := by decide +kernel
theorem dX10_lost_22 : decode cX10_lost 22 = .ok (.goto 4, 3) := by decide +kernel
theorem dX10_lost_25 : decode cX10_lost 25 = .ok (.iconst 0, 1) := by decide +kernel
theorem dX10_lost_26 : decode cX10_lost 26 = .ok (.iadd, 1) := by decide +kernel
theorem dX10_lost_27 : decode cX10_lost 27 = .ok (.istore_n 1, 1) := by decide +kernel
theorem dX10_lost_28 : decode cX10_lost 28 = .ok (.iinc 2 1, 3) := by decide +kernel
theorem dX10_lost_31 : decode cX10_lost 31 = .ok (.goto (-27), 3) := by decide +kernel
theorem dX10_lost_34 : decode cX10_lost 34 = .ok (.iload_n 1, 1) := by decide +kernel
theorem dX10_lost_35 : decode cX10_lost 35 = .ok (.ireturn, 1) := by decide +kernel
theorem dX10_isOnWay_0 : decode cX10_isOnWay 0 = .ok (.aload_n 0, 1) := by decide +kernel
theorem dX10_isOnWay_1 : decode cX10_isOnWay 1 = .ok (.iload_n 2, 1) := by decide +kernel
theorem dX10_isOnWay_2 : decode cX10_isOnWay 2 = .ok (.iload_n 3, 1) := by decide +kernel
theorem dX10_isOnWay_3 : decode cX10_isOnWay 3 = .ok (.invokevirtual 118, 3) := by decide +kernel
theorem dX10_isOnWay_6 : decode cX10_isOnWay 6 = .ok (.istore 4, 2) := by decide +kernel
theorem dX10_isOnWay_8 : decode cX10_isOnWay 8 = .ok (.iload 4, 2) := by decide +kernel
theorem dX10_isOnWay_10 : decode cX10_isOnWay 10 = .ok (.iconst (-1), 1) := by decide +kernel
theorem dX10_isOnWay_11 : decode cX10_isOnWay 11 = .ok (.if_icmp .eq 32, 3) := by decide +kernel
theorem dX10_isOnWay_14 : decode cX10_isOnWay 14 = .ok (.iload_n 1, 1) := by decide +kernel
theorem dX10_isOnWay_15 : decode cX10_isOnWay 15 = .ok (.aload_n 0, 1) := by decide +kernel
theorem dX10_isOnWay_16 : decode cX10_isOnWay 16 = .ok (.iload_n 2, 1) := by decide +kernel
theorem dX10_isOnWay_17 : decode cX10_isOnWay 17 = .ok (.invokevirtual 178, 3) := by decide +kernel
theorem dX10_isOnWay_20 : decode cX10_isOnWay 20 = .ok (.ixor, 1) := by decide +kernel
theorem dX10_isOnWay_21 : decode cX10_isOnWay 21 = .ok (.aload_n 0, 1) := by decide +kernel
theorem dX10_isOnWay_22 : decode cX10_isOnWay 22 = .ok (.iload_n 2, 1) := by decide +kernel
theorem dX10_isOnWay_23 : decode cX10_isOnWay 23 = .ok (.invokevirtual 178, 3) := by decide +kernel
theorem dX10_isOnWay_26 : decode cX10_isOnWay 26 = .ok (.aload_n 0, 1) := by decide +kernel
theorem dX10_isOnWay_27 : decode cX10_isOnWay 27 = .ok (.iload 4, 2) := by decide +kernel
theorem dX10_isOnWay_29 : decode cX10_isOnWay 29 = .ok (.invokevirtual 178, 3) := by decide +kernel
theorem dX10_isOnWay_32 : decode cX10_isOnWay 32 = .ok (.ixor, 1) := by decide +kernel
theorem dX10_isOnWay_33 : decode cX10_isOnWay 33 = .ok (.iconst (-1), 1) := by decide +kernel
theorem dX10_isOnWay_34 : decode cX10_isOnWay 34 = .ok (.ixor, 1) := by decide +kernel
theorem dX10_isOnWay_35 : decode cX10_isOnWay 35 = .ok (.iand, 1) := by decide +kernel
theorem dX10_isOnWay_36 : decode cX10_isOnWay 36 = .ok (.ifCond .ne 7, 3) := by decide +kernel
theorem dX10_isOnWay_39 : decode cX10_isOnWay 39 = .ok (.iconst 1, 1) := by decide +kernel
theorem dX10_isOnWay_40 : decode cX10_isOnWay 40 = .ok (.goto 4, 3) := by decide +kernel
theorem dX10_isOnWay_43 : decode cX10_isOnWay 43 = .ok (.iconst 0, 1) := by decide +kernel
theorem dX10_isOnWay_44 : decode cX10_isOnWay 44 = .ok (.ireturn, 1) := by decide +kernel
theorem dX10_areMeeting_0 : decode cX10_areMeeting 0 = .ok (.iconst 0, 1) := by decide +kernel
theorem dX10_areMeeting_1 : decode cX10_areMeeting 1 = .ok (.istore 4, 2) := by decide +kernel
theorem dX10_areMeeting_3 : decode cX10_areMeeting 3 = .ok (.iconst 0, 1) := by decide +kernel
theorem dX10_areMeeting_4 : decode cX10_areMeeting 4 = .ok (.istore 5, 2) := by decide +kernel
theorem dX10_areMeeting_6 : decode cX10_areMeeting 6 = .ok (.iload 5, 2) := by decide +kernel
theorem dX10_areMeeting_8 : decode cX10_areMeeting 8 = .ok (.iconst 1, 1) := by decide +kernel
theorem dX10_areMeeting_9 : decode cX10_areMeeting 9 = .ok (.aload_n 0, 1) := by decide +kernel
theorem dX10_areMeeting_10 : decode cX10_areMeeting 10 = .ok (.getfield 99, 3) := by decide +kernel
theorem dX10_areMeeting_13 : decode cX10_areMeeting 13 = .ok (.ishl, 1) := by decide +kernel
theorem dX10_areMeeting_14 : decode cX10_areMeeting 14 = .ok (.if_icmp .ge 43, 3) := by decide +kernel
theorem dX10_areMeeting_17 : decode cX10_areMeeting 17 = .ok (.iload 4, 2) := by decide +kernel
theorem dX10_areMeeting_19 : decode cX10_areMeeting 19 = .ok (.ifCond .ne 25, 3) := by decide +kernel
theorem dX10_areMeeting_22 : decode cX10_areMeeting 22 = .ok (.aload_n 0, 1) := by decide +kernel
theorem dX10_areMeeting_23 : decode cX10_areMeeting 23 = .ok (.iload 5, 2) := by decide +kernel
theorem dX10_areMeeting_25 : decode cX10_areMeeting 25 = .ok (.iload_n 1, 1) := by decide +kernel
theorem dX10_areMeeting_26 : decode cX10_areMeeting 26 = .ok (.iload_n 3, 1) := by decide +kernel
theorem dX10_areMeeting_27 : decode cX10_areMeeting 27 = .ok (.invokevirtual 181, 3) := by decide +kernel
theorem dX10_areMeeting_30 : decode cX10_areMeeting 30 = .ok (.ifCond .eq 18, 3) := by decide +kernel
theorem dX10_areMeeting_33 : decode cX10_areMeeting 33 = .ok (.aload_n 0, 1) := by decide +kernel
theorem dX10_areMeeting_34 : decode cX10_areMeeting 34 = .ok (.iload 5, 2) := by decide +kernel
theorem dX10_areMeeting_36 : decode cX10_areMeeting 36 = .ok (.iload_n 2, 1) := by decide +kernel
theorem dX10_areMeeting_37 : decode cX10_areMeeting 37 = .ok (.iload_n 3, 1) := by decide +kernel
theorem dX10_areMeeting_38 : decode cX10_areMeeting 38 = .ok (.invokevirtual 181, 3) := by decide +kernel
theorem dX10_areMeeting_41 : decode cX10_areMeeting 41 = .ok (.ifCond .eq 7, 3) := by decide +kernel
theorem dX10_areMeeting_44 : decode cX10_areMeeting 44 = .ok (.iconst 1, 1) := by decide +kernel
theorem dX10_areMeeting_45 : decode cX10_areMeeting 45 = .ok (.goto 4, 3) := by decide +kernel
theorem dX10_areMeeting_48 : decode cX10_areMeeting 48 = .ok (.iconst 0, 1) := by decide +kernel
theorem dX10_areMeeting_49 : decode cX10_areMeeting 49 = .ok (.istore 4, 2) := by decide +kernel
theorem dX10_areMeeting_51 : decode cX10_areMeeting 51 = .ok (.iinc 5 1, 3) := by decide +kernel
theorem dX10_areMeeting_54 : decode cX10_areMeeting 54 = .ok (.goto (-48), 3) := by decide +kernel
theorem dX10_areMeeting_57 : decode cX10_areMeeting 57 = .ok (.iload 4, 2) := by decide +kernel
theorem dX10_areMeeting_59 : decode cX10_areMeeting 59 = .ok (.ireturn, 1) := by decide +kernel
theorem dX10_isWild_0 : decode cX10_isWild 0 = .ok (.iconst 0, 1) := by decide +kernel
theorem dX10_isWild_1 : decode cX10_isWild 1 = .ok (.istore_n 3, 1) := by decide +kernel
theorem dX10_isWild_2 : decode cX10_isWild 2 = .ok (.iconst 0, 1) := by decide +kernel
theorem dX10_isWild_3 : decode cX10_isWild 3 = .ok (.istore 4, 2) := by decide +kernel
theorem dX10_isWild_5 : decode cX10_isWild 5 = .ok (.iload 4, 2) := by decide +kernel
theorem dX10_isWild_7 : decode cX10_isWild 7 = .ok (.aload_n 0, 1) := by decide +kernel
theorem dX10_isWild_8 : decode cX10_isWild 8 = .ok (.getfield 87, 3) := by decide +kernel
theorem dX10_isWild_11 : decode cX10_isWild 11 = .ok (.if_icmp .ge 69, 3) := by decide +kernel
theorem dX10_isWild_14 : decode cX10_isWild 14 = .ok (.aload_n 0, 1) := by decide +kernel
theorem dX10_isWild_15 : decode cX10_isWild 15 = .ok (.iload 4, 2) := by decide +kernel
theorem dX10_isWild_17 : decode cX10_isWild 17 = .ok (.iload_n 2, 1) := by decide +kernel
theorem dX10_isWild_18 : decode cX10_isWild 18 = .ok (.invokevirtual 118, 3) := by decide +kernel
theorem dX10_isWild_21 : decode cX10_isWild 21 = .ok (.iconst (-1), 1) := by decide +kernel
theorem dX10_isWild_22 : decode cX10_isWild 22 = .ok (.if_icmp .eq 23, 3) := by decide +kernel
theorem dX10_isWild_25 : decode cX10_isWild 25 = .ok (.aload_n 0, 1) := by decide +kernel
theorem dX10_isWild_26 : decode cX10_isWild 26 = .ok (.iload 4, 2) := by decide +kernel
theorem dX10_isWild_28 : decode cX10_isWild 28 = .ok (.iload_n 2, 1) := by decide +kernel
theorem dX10_isWild_29 : decode cX10_isWild 29 = .ok (.invokevirtual 118, 3) := by decide +kernel
theorem dX10_isWild_32 : decode cX10_isWild 32 = .ok (.aload_n 0, 1) := by decide +kernel
theorem dX10_isWild_33 : decode cX10_isWild 33 = .ok (.iload_n 1, 1) := by decide +kernel
theorem dX10_isWild_34 : decode cX10_isWild 34 = .ok (.iload_n 2, 1) := by decide +kernel
theorem dX10_isWild_35 : decode cX10_isWild 35 = .ok (.invokevirtual 118, 3) := by decide +kernel
theorem dX10_isWild_38 : decode cX10_isWild 38 = .ok (.if_icmp .eq 7, 3) := by decide +kernel
theorem dX10_isWild_41 : decode cX10_isWild 41 = .ok (.iconst 1, 1) := by decide +kernel
theorem dX10_isWild_42 : decode cX10_isWild 42 = .ok (.goto 4, 3) := by decide +kernel
theorem dX10_isWild_45 : decode cX10_isWild 45 = .ok (.iconst 0, 1) := by decide +kernel
theorem dX10_isWild_46 : decode cX10_isWild 46 = .ok (.istore 5, 2) := by decide +kernel
theorem dX10_isWild_48 : decode cX10_isWild 48 = .ok (.iload_n 3, 1) := by decide +kernel
theorem dX10_isWild_49 : decode cX10_isWild 49 = .ok (.ifCond .ne 19, 3) := by decide +kernel
theorem dX10_isWild_52 : decode cX10_isWild 52 = .ok (.iload 5, 2) := by decide +kernel
theorem dX10_isWild_54 : decode cX10_isWild 54 = .ok (.ifCond .eq 18, 3) := by decide +kernel
theorem dX10_isWild_57 : decode cX10_isWild 57 = .ok (.aload_n 0, 1) := by decide +kernel
theorem dX10_isWild_58 : decode cX10_isWild 58 = .ok (.iload 4, 2) := by decide +kernel
theorem dX10_isWild_60 : decode cX10_isWild 60 = .ok (.iload_n 1, 1) := by decide +kernel
theorem dX10_isWild_61 : decode cX10_isWild 61 = .ok (.iload_n 2, 1) := by decide +kernel
theorem dX10_isWild_62 : decode cX10_isWild 62 = .ok (.invokevirtual 184, 3) := by decide +kernel
theorem dX10_isWild_65 : decode cX10_isWild 65 = .ok (.ifCond .eq 7, 3) := by decide +kernel
theorem dX10_isWild_68 : decode cX10_isWild 68 = .ok (.iconst 1, 1) := by decide +kernel
theorem dX10_isWild_69 : decode cX10_isWild 69 = .ok (.goto 4, 3) := by decide +kernel
theorem dX10_isWild_72 : decode cX10_isWild 72 = .ok (.iconst 0, 1) := by decide +kernel
theorem dX10_isWild_73 : decode cX10_isWild 73 = .ok (.istore_n 3, 1) := by decide +kernel
theorem dX10_isWild_74 : decode cX10_isWild 74 = .ok (.iinc 4 1, 3) := by decide +kernel
theorem dX10_isWild_77 : decode cX10_isWild 77 = .ok (.goto (-72), 3) := by decide +kernel
theorem dX10_isWild_80 : decode cX10_isWild 80 = .ok (.iload_n 3, 1) := by decide +kernel
theorem dX10_isWild_81 : decode cX10_isWild 81 = .ok (.ifCond .eq 17, 3) := by decide +kernel
theorem dX10_isWild_84 : decode cX10_isWild 84 = .ok (.aload_n 0, 1) := by decide +kernel
theorem dX10_isWild_85 : decode cX10_isWild 85 = .ok (.iload_n 1, 1) := by decide +kernel
theorem dX10_isWild_86 : decode cX10_isWild 86 = .ok (.iload_n 2, 1) := by decide +kernel
theorem dX10_isWild_87 : decode cX10_isWild 87 = .ok (.invokevirtual 118, 3) := by decide +kernel
theorem dX10_isWild_90 : decode cX10_isWild 90 = .ok (.iconst (-1), 1) := by decide +kernel
theorem dX10_isWild_91 : decode cX10_isWild 91 = .ok (.if_icmp .eq 7, 3) := by decide +kernel
theorem dX10_isWild_94 : decode cX10_isWild 94 = .ok (.iconst 1, 1) := by decide +kernel
theorem dX10_isWild_95 : decode cX10_isWild 95 = .ok (.goto 4, 3) := by decide +kernel
theorem dX10_isWild_98 : decode cX10_isWild 98 = .ok (.iconst 0, 1) := by decide +kernel
theorem dX10_isWild_99 : decode cX10_isWild 99 = .ok (.ireturn, 1) := by decide +kernel
theorem dX10_wildNow_0 : decode cX10_wildNow 0 = .ok (.iconst 0, 1) := by decide +kernel
theorem dX10_wildNow_1 : decode cX10_wildNow 1 = .ok (.istore_n 2, 1) := by decide +kernel
theorem dX10_wildNow_2 : decode cX10_wildNow 2 = .ok (.iconst 0, 1) := by decide +kernel
theorem dX10_wildNow_3 : decode cX10_wildNow 3 = .ok (.istore_n 3, 1) := by decide +kernel
theorem dX10_wildNow_4 : decode cX10_wildNow 4 = .ok (.iload_n 3, 1) := by decide +kernel
theorem dX10_wildNow_5 : decode cX10_wildNow 5 = .ok (.aload_n 0, 1) := by decide +kernel
theorem dX10_wildNow_6 : decode cX10_wildNow 6 = .ok (.getfield 87, 3) := by decide +kernel
theorem dX10_wildNow_9 : decode cX10_wildNow 9 = .ok (.if_icmp .ge 65, 3) := by decide +kernel
theorem dX10_wildNow_12 : decode cX10_wildNow 12 = .ok (.iconst 0, 1) := by decide +kernel
theorem dX10_wildNow_13 : decode cX10_wildNow 13 = .ok (.istore 4, 2) := by decide +kernel
theorem dX10_wildNow_15 : decode cX10_wildNow 15 = .ok (.iload 4, 2) := by decide +kernel
theorem dX10_wildNow_17 : decode cX10_wildNow 17 = .ok (.aload_n 0, 1) := by decide +kernel
theorem dX10_wildNow_18 : decode cX10_wildNow 18 = .ok (.getfield 90, 3) := by decide +kernel
theorem dX10_wildNow_21 : decode cX10_wildNow 21 = .ok (.if_icmp .ge 47, 3) := by decide +kernel
theorem dX10_wildNow_24 : decode cX10_wildNow 24 = .ok (.aload_n 0, 1) := by decide +kernel
theorem dX10_wildNow_25 : decode cX10_wildNow 25 = .ok (.iload_n 3, 1) := by decide +kernel
theorem dX10_wildNow_26 : decode cX10_wildNow 26 = .ok (.iload 4, 2) := by decide +kernel
theorem dX10_wildNow_28 : decode cX10_wildNow 28 = .ok (.invokevirtual 187, 3) := by decide +kernel
theorem dX10_wildNow_31 : decode cX10_wildNow 31 = .ok (.istore 5, 2) := by decide +kernel
theorem dX10_wildNow_33 : decode cX10_wildNow 33 = .ok (.iload 5, 2) := by decide +kernel
theorem dX10_wildNow_35 : decode cX10_wildNow 35 = .ok (.ifCond .eq 14, 3) := by decide +kernel
theorem dX10_wildNow_38 : decode cX10_wildNow 38 = .ok (.iload_n 1, 1) := by decide +kernel
theorem dX10_wildNow_39 : decode cX10_wildNow 39 = .ok (.ifCond .eq 10, 3) := by decide +kernel
theorem dX10_wildNow_42 : decode cX10_wildNow 42 = .ok (.iconst 4, 1) := by decide +kernel
theorem dX10_wildNow_43 : decode cX10_wildNow 43 = .ok (.iload_n 3, 1) := by decide +kernel
theorem dX10_wildNow_44 : decode cX10_wildNow 44 = .ok (.imul, 1) := by decide +kernel
theorem dX10_wildNow_45 : decode cX10_wildNow 45 = .ok (.iload 4, 2) := by decide +kernel
theorem dX10_wildNow_47 : decode cX10_wildNow 47 = .ok (.iadd, 1) := by decide +kernel
theorem dX10_wildNow_48 : decode cX10_wildNow 48 = .ok (.ireturn, 1) := by decide +kernel
theorem dX10_wildNow_49 : decode cX10_wildNow 49 = .ok (.iload_n 2, 1) := by decide +kernel
theorem dX10_wildNow_50 : decode cX10_wildNow 50 = .ok (.iload 5, 2) := by decide +kernel
theorem dX10_wildNow_52 : decode cX10_wildNow 52 = .ok (.ifCond .eq 7, 3) := by decide +kernel
theorem dX10_wildNow_55 : decode cX10_wildNow 55 = .ok (.iconst 1, 1) := by decide +kernel
theorem dX10_wildNow_56 : decode cX10_wildNow 56 = .ok (.goto 4, 3) := by decide +kernel
theorem dX10_wildNow_59 : decode cX10_wildNow 59 = .ok (.iconst 0, 1) := by decide +kernel
theorem dX10_wildNow_60 : decode cX10_wildNow 60 = .ok (.iadd, 1) := by decide +kernel
theorem dX10_wildNow_61 : decode cX10_wildNow 61 = .ok (.istore_n 2, 1) := by decide +kernel
theorem dX10_wildNow_62 : decode cX10_wildNow 62 = .ok (.iinc 4 1, 3) := by decide +kernel
theorem dX10_wildNow_65 : decode cX10_wildNow 65 = .ok (.goto (-50), 3) := by decide +kernel
theorem dX10_wildNow_68 : decode cX10_wildNow 68 = .ok (.iinc 3 1, 3) := by decide +kernel
theorem dX10_wildNow_71 : decode cX10_wildNow 71 = .ok (.goto (-67), 3) := by decide +kernel
theorem dX10_wildNow_74 : decode cX10_wildNow 74 = .ok (.iload_n 1, 1) := by decide +kernel
theorem dX10_wildNow_75 : decode cX10_wildNow 75 = .ok (.ifCond .eq 7, 3) := by decide +kernel
theorem dX10_wildNow_78 : decode cX10_wildNow 78 = .ok (.iconst (-1), 1) := by decide +kernel
theorem dX10_wildNow_79 : decode cX10_wildNow 79 = .ok (.goto 4, 3) := by decide +kernel
theorem dX10_wildNow_82 : decode cX10_wildNow 82 = .ok (.iload_n 2, 1) := by decide +kernel
theorem dX10_wildNow_83 : decode cX10_wildNow 83 = .ok (.ireturn, 1) := by decide +kernel
theorem dX10_mostChange_0 : decode cX10_mostChange 0 = .ok (.iconst 0, 1) := by decide +kernel
theorem dX10_mostChange_1 : decode cX10_mostChange 1 = .ok (.istore_n 1, 1) := by decide +kernel
theorem dX10_mostChange_2 : decode cX10_mostChange 2 = .ok (.iconst 0, 1) := by decide +kernel
theorem dX10_mostChange_3 : decode cX10_mostChange 3 = .ok (.istore_n 2, 1) := by decide +kernel
theorem dX10_mostChange_4 : decode cX10_mostChange 4 = .ok (.iload_n 2, 1) := by decide +kernel
theorem dX10_mostChange_5 : decode cX10_mostChange 5 = .ok (.aload_n 0, 1) := by decide +kernel
theorem dX10_mostChange_6 : decode cX10_mostChange 6 = .ok (.getfield 87, 3) := by decide +kernel
theorem dX10_mostChange_9 : decode cX10_mostChange 9 = .ok (.if_icmp .ge 73, 3) := by decide +kernel
theorem dX10_mostChange_12 : decode cX10_mostChange 12 = .ok (.iconst 0, 1) := by decide +kernel
theorem dX10_mostChange_13 : decode cX10_mostChange 13 = .ok (.istore_n 3, 1) := by decide +kernel
theorem dX10_mostChange_14 : decode cX10_mostChange 14 = .ok (.iload_n 3, 1) := by decide +kernel
theorem dX10_mostChange_15 : decode cX10_mostChange 15 = .ok (.aload_n 0, 1) := by decide +kernel
theorem dX10_mostChange_16 : decode cX10_mostChange 16 = .ok (.getfield 90, 3) := by decide +kernel
theorem dX10_mostChange_19 : decode cX10_mostChange 19 = .ok (.if_icmp .ge 57, 3) := by decide +kernel
theorem dX10_mostChange_22 : decode cX10_mostChange 22 = .ok (.aload_n 0, 1) := by decide +kernel
theorem dX10_mostChange_23 : decode cX10_mostChange 23 = .ok (.iload_n 2, 1) := by decide +kernel
theorem dX10_mostChange_24 : decode cX10_mostChange 24 = .ok (.iload_n 3, 1) := by decide +kernel
theorem dX10_mostChange_25 : decode cX10_mostChange 25 = .ok (.invokevirtual 118, 3) := by decide +kernel
theorem dX10_mostChange_28 : decode cX10_mostChange 28 = .ok (.istore 4, 2) := by decide +kernel
theorem dX10_mostChange_30 : decode cX10_mostChange 30 = .ok (.iload 4, 2) := by decide +kernel
theorem dX10_mostChange_32 : decode cX10_mostChange 32 = .ok (.iconst (-1), 1) := by decide +kernel
theorem dX10_mostChange_33 : decode cX10_mostChange 33 = .ok (.if_icmp .ne 7, 3) := by decide +kernel
theorem dX10_mostChange_36 : decode cX10_mostChange 36 = .ok (.iconst 0, 1) := by decide +kernel
theorem dX10_mostChange_37 : decode cX10_mostChange 37 = .ok (.goto 18, 3) := by decide +kernel
theorem dX10_mostChange_40 : decode cX10_mostChange 40 = .ok (.aload_n 0, 1) := by decide +kernel
theorem dX10_mostChange_41 : decode cX10_mostChange 41 = .ok (.iload_n 2, 1) := by decide +kernel
theorem dX10_mostChange_42 : decode cX10_mostChange 42 = .ok (.invokevirtual 178, 3) := by decide +kernel
theorem dX10_mostChange_45 : decode cX10_mostChange 45 = .ok (.aload_n 0, 1) := by decide +kernel
theorem dX10_mostChange_46 : decode cX10_mostChange 46 = .ok (.iload 4, 2) := by decide +kernel
theorem dX10_mostChange_48 : decode cX10_mostChange 48 = .ok (.invokevirtual 178, 3) := by decide +kernel
theorem dX10_mostChange_51 : decode cX10_mostChange 51 = .ok (.ixor, 1) := by decide +kernel
theorem dX10_mostChange_52 : decode cX10_mostChange 52 = .ok (.invokestatic 190, 3) := by decide +kernel
theorem dX10_mostChange_55 : decode cX10_mostChange 55 = .ok (.istore 5, 2) := by decide +kernel
theorem dX10_mostChange_57 : decode cX10_mostChange 57 = .ok (.iload 5, 2) := by decide +kernel
theorem dX10_mostChange_59 : decode cX10_mostChange 59 = .ok (.iload_n 1, 1) := by decide +kernel
theorem dX10_mostChange_60 : decode cX10_mostChange 60 = .ok (.if_icmp .le 8, 3) := by decide +kernel
theorem dX10_mostChange_63 : decode cX10_mostChange 63 = .ok (.iload 5, 2) := by decide +kernel
theorem dX10_mostChange_65 : decode cX10_mostChange 65 = .ok (.goto 4, 3) := by decide +kernel
theorem dX10_mostChange_68 : decode cX10_mostChange 68 = .ok (.iload_n 1, 1) := by decide +kernel
theorem dX10_mostChange_69 : decode cX10_mostChange 69 = .ok (.istore_n 1, 1) := by decide +kernel
theorem dX10_mostChange_70 : decode cX10_mostChange 70 = .ok (.iinc 3 1, 3) := by decide +kernel
theorem dX10_mostChange_73 : decode cX10_mostChange 73 = .ok (.goto (-59), 3) := by decide +kernel
theorem dX10_mostChange_76 : decode cX10_mostChange 76 = .ok (.iinc 2 1, 3) := by decide +kernel
theorem dX10_mostChange_79 : decode cX10_mostChange 79 = .ok (.goto (-75), 3) := by decide +kernel
theorem dX10_mostChange_82 : decode cX10_mostChange 82 = .ok (.iload_n 1, 1) := by decide +kernel
theorem dX10_mostChange_83 : decode cX10_mostChange 83 = .ok (.ireturn, 1) := by decide +kernel
theorem dX10_isGood_0 : decode cX10_isGood 0 = .ok (.aload_n 0, 1) := by decide +kernel
theorem dX10_isGood_1 : decode cX10_isGood 1 = .ok (.invokevirtual 125, 3) := by decide +kernel
theorem dX10_isGood_4 : decode cX10_isGood 4 = .ok (.ifCond .eq 14, 3) := by decide +kernel
theorem dX10_isGood_7 : decode cX10_isGood 7 = .ok (.aload_n 0, 1) := by decide +kernel
theorem dX10_isGood_8 : decode cX10_isGood 8 = .ok (.invokevirtual 193, 3) := by decide +kernel
theorem dX10_isGood_11 : decode cX10_isGood 11 = .ok (.ifCond .ne 7, 3) := by decide +kernel
theorem dX10_isGood_14 : decode cX10_isGood 14 = .ok (.iconst 1, 1) := by decide +kernel
theorem dX10_isGood_15 : decode cX10_isGood 15 = .ok (.goto 4, 3) := by decide +kernel
theorem dX10_isGood_18 : decode cX10_isGood 18 = .ok (.iconst 0, 1) := by decide +kernel
theorem dX10_isGood_19 : decode cX10_isGood 19 = .ok (.ireturn, 1) := by decide +kernel
theorem dX10_codedNow_0 : decode cX10_codedNow 0 = .ok (.iload_n 1, 1) := by decide +kernel
theorem dX10_codedNow_1 : decode cX10_codedNow 1 = .ok (.tableswitch 70 0 4 #[35, 40, 53, 58, 64], 35) := by decide +kernel
theorem dX10_codedNow_36 : decode cX10_codedNow 36 = .ok (.aload_n 0, 1) := by decide +kernel
theorem dX10_codedNow_37 : decode cX10_codedNow 37 = .ok (.getfield 99, 3) := by decide +kernel
theorem dX10_codedNow_40 : decode cX10_codedNow 40 = .ok (.ireturn, 1) := by decide +kernel
theorem dX10_codedNow_41 : decode cX10_codedNow 41 = .ok (.aload_n 0, 1) := by decide +kernel
theorem dX10_codedNow_42 : decode cX10_codedNow 42 = .ok (.invokevirtual 193, 3) := by decide +kernel
theorem dX10_codedNow_45 : decode cX10_codedNow 45 = .ok (.ifCond .ne 7, 3) := by decide +kernel
theorem dX10_codedNow_48 : decode cX10_codedNow 48 = .ok (.iconst 1, 1) := by decide +kernel
theorem dX10_codedNow_49 : decode cX10_codedNow 49 = .ok (.goto 4, 3) := by decide +kernel
theorem dX10_codedNow_52 : decode cX10_codedNow 52 = .ok (.iconst 0, 1) := by decide +kernel
theorem dX10_codedNow_53 : decode cX10_codedNow 53 = .ok (.ireturn, 1) := by decide +kernel
theorem dX10_codedNow_54 : decode cX10_codedNow 54 = .ok (.aload_n 0, 1) := by decide +kernel
theorem dX10_codedNow_55 : decode cX10_codedNow 55 = .ok (.invokevirtual 193, 3) := by decide +kernel
theorem dX10_codedNow_58 : decode cX10_codedNow 58 = .ok (.ireturn, 1) := by decide +kernel
theorem dX10_codedNow_59 : decode cX10_codedNow 59 = .ok (.aload_n 0, 1) := by decide +kernel
theorem dX10_codedNow_60 : decode cX10_codedNow 60 = .ok (.iconst 0, 1) := by decide +kernel
theorem dX10_codedNow_61 : decode cX10_codedNow 61 = .ok (.invokevirtual 196, 3) := by decide +kernel
theorem dX10_codedNow_64 : decode cX10_codedNow 64 = .ok (.ireturn, 1) := by decide +kernel
theorem dX10_codedNow_65 : decode cX10_codedNow 65 = .ok (.aload_n 0, 1) := by decide +kernel
theorem dX10_codedNow_66 : decode cX10_codedNow 66 = .ok (.iconst 1, 1) := by decide +kernel
theorem dX10_codedNow_67 : decode cX10_codedNow 67 = .ok (.invokevirtual 196, 3) := by decide +kernel
theorem dX10_codedNow_70 : decode cX10_codedNow 70 = .ok (.ireturn, 1) := by decide +kernel
theorem dX10_codedNow_71 : decode cX10_codedNow 71 = .ok (.aload_n 0, 1) := by decide +kernel
theorem dX10_codedNow_72 : decode cX10_codedNow 72 = .ok (.invokevirtual 199, 3) := by decide +kernel
theorem dX10_codedNow_75 : decode cX10_codedNow 75 = .ok (.ireturn, 1) := by decide +kernel
theorem dX10_coded_0 : decode cX10_coded 0 = .ok (.iload_n 1, 1) := by decide +kernel
theorem dX10_coded_1 : decode cX10_coded 1 = .ok (.iconst 0, 1) := by decide +kernel
theorem dX10_coded_2 : decode cX10_coded 2 = .ok (.iconst 5, 1) := by decide +kernel
theorem dX10_coded_3 : decode cX10_coded 3 = .ok (.invokestatic 60, 3) := by decide +kernel
theorem dX10_coded_6 : decode cX10_coded 6 = .ok (.ifCond .ne 7, 3) := by decide +kernel
theorem dX10_coded_9 : decode cX10_coded 9 = .ok (.sipush (-1002), 3) := by decide +kernel
theorem dX10_coded_12 : decode cX10_coded 12 = .ok (.ireturn, 1) := by decide +kernel
theorem dX10_coded_13 : decode cX10_coded 13 = .ok (.aload_n 0, 1) := by decide +kernel
theorem dX10_coded_14 : decode cX10_coded 14 = .ok (.invokevirtual 125, 3) := by decide +kernel
theorem dX10_coded_17 : decode cX10_coded 17 = .ok (.ifCond .eq 11, 3) := by decide +kernel
theorem dX10_coded_20 : decode cX10_coded 20 = .ok (.aload_n 0, 1) := by decide +kernel
theorem dX10_coded_21 : decode cX10_coded 21 = .ok (.iload_n 1, 1) := by decide +kernel
theorem dX10_coded_22 : decode cX10_coded 22 = .ok (.invokevirtual 202, 3) := by decide +kernel
theorem dX10_coded_25 : decode cX10_coded 25 = .ok (.goto 6, 3) := by decide +kernel
theorem dX10_coded_28 : decode cX10_coded 28 = .ok (.sipush (-1003), 3) := by decide +kernel
theorem dX10_coded_31 : decode cX10_coded 31 = .ok (.ireturn, 1) := by decide +kernel
theorem dX10_altered_0 : decode cX10_altered 0 = .ok (.aload_n 0, 1) := by decide +kernel
theorem dX10_altered_1 : decode cX10_altered 1 = .ok (.iconst (-1), 1) := by decide +kernel
theorem dX10_altered_2 : decode cX10_altered 2 = .ok (.putfield 205, 3) := by decide +kernel
theorem dX10_altered_5 : decode cX10_altered 5 = .ok (.return_, 1) := by decide +kernel
theorem dX10_points_0 : decode cX10_points 0 = .ok (.iconst 4, 1) := by decide +kernel
theorem dX10_points_1 : decode cX10_points 1 = .ok (.aload_n 0, 1) := by decide +kernel
theorem dX10_points_2 : decode cX10_points 2 = .ok (.getfield 99, 3) := by decide +kernel
theorem dX10_points_5 : decode cX10_points 5 = .ok (.ishl, 1) := by decide +kernel
theorem dX10_points_6 : decode cX10_points 6 = .ok (.ireturn, 1) := by decide +kernel
theorem dX10_wantedAt_0 : decode cX10_wantedAt 0 = .ok (.iload_n 2, 1) := by decide +kernel
theorem dX10_wantedAt_1 : decode cX10_wantedAt 1 = .ok (.iconst 4, 1) := by decide +kernel
theorem dX10_wantedAt_2 : decode cX10_wantedAt 2 = .ok (.irem, 1) := by decide +kernel
theorem dX10_wantedAt_3 : decode cX10_wantedAt 3 = .ok (.istore_n 3, 1) := by decide +kernel
theorem dX10_wantedAt_4 : decode cX10_wantedAt 4 = .ok (.iconst (-1), 1) := by decide +kernel
theorem dX10_wantedAt_5 : decode cX10_wantedAt 5 = .ok (.istore 4, 2) := by decide +kernel
theorem dX10_wantedAt_7 : decode cX10_wantedAt 7 = .ok (.iconst 0, 1) := by decide +kernel
theorem dX10_wantedAt_8 : decode cX10_wantedAt 8 = .ok (.istore 5, 2) := by decide +kernel
theorem dX10_wantedAt_10 : decode cX10_wantedAt 10 = .ok (.iload 5, 2) := by decide +kernel
theorem dX10_wantedAt_12 : decode cX10_wantedAt 12 = .ok (.aload_n 0, 1) := by decide +kernel
theorem dX10_wantedAt_13 : decode cX10_wantedAt 13 = .ok (.getfield 87, 3) := by decide +kernel
theorem dX10_wantedAt_16 : decode cX10_wantedAt 16 = .ok (.if_icmp .ge 47, 3) := by decide +kernel
theorem dX10_wantedAt_19 : decode cX10_wantedAt 19 = .ok (.iload_n 3, 1) := by decide +kernel
theorem dX10_wantedAt_20 : decode cX10_wantedAt 20 = .ok (.aload_n 0, 1) := by decide +kernel
theorem dX10_wantedAt_21 : decode cX10_wantedAt 21 = .ok (.getfield 90, 3) := by decide +kernel
theorem dX10_wantedAt_24 : decode cX10_wantedAt 24 = .ok (.if_icmp .ge 39, 3) := by decide +kernel
theorem dX10_wantedAt_27 : decode cX10_wantedAt 27 = .ok (.aload_n 0, 1) := by decide +kernel
theorem dX10_wantedAt_28 : decode cX10_wantedAt 28 = .ok (.iload_n 2, 1) := by decide +kernel
theorem dX10_wantedAt_29 : decode cX10_wantedAt 29 = .ok (.iconst 4, 1) := by decide +kernel
theorem dX10_wantedAt_30 : decode cX10_wantedAt 30 = .ok (.idiv, 1) := by decide +kernel
theorem dX10_wantedAt_31 : decode cX10_wantedAt 31 = .ok (.iload 5, 2) := by decide +kernel
theorem dX10_wantedAt_33 : decode cX10_wantedAt 33 = .ok (.iload_n 3, 1) := by decide +kernel
theorem dX10_wantedAt_34 : decode cX10_wantedAt 34 = .ok (.invokevirtual 181, 3) := by decide +kernel
theorem dX10_wantedAt_37 : decode cX10_wantedAt 37 = .ok (.ifCond .eq 20, 3) := by decide +kernel
theorem dX10_wantedAt_40 : decode cX10_wantedAt 40 = .ok (.aload_n 0, 1) := by decide +kernel
theorem dX10_wantedAt_41 : decode cX10_wantedAt 41 = .ok (.aload_n 0, 1) := by decide +kernel
theorem dX10_wantedAt_42 : decode cX10_wantedAt 42 = .ok (.iload 5, 2) := by decide +kernel
theorem dX10_wantedAt_44 : decode cX10_wantedAt 44 = .ok (.iload_n 3, 1) := by decide +kernel
theorem dX10_wantedAt_45 : decode cX10_wantedAt 45 = .ok (.invokevirtual 118, 3) := by decide +kernel
theorem dX10_wantedAt_48 : decode cX10_wantedAt 48 = .ok (.invokevirtual 178, 3) := by decide +kernel
theorem dX10_wantedAt_51 : decode cX10_wantedAt 51 = .ok (.iload_n 1, 1) := by decide +kernel
theorem dX10_wantedAt_52 : decode cX10_wantedAt 52 = .ok (.ishr, 1) := by decide +kernel
theorem dX10_wantedAt_53 : decode cX10_wantedAt 53 = .ok (.iconst 1, 1) := by decide +kernel
theorem dX10_wantedAt_54 : decode cX10_wantedAt 54 = .ok (.iand, 1) := by decide +kernel
theorem dX10_wantedAt_55 : decode cX10_wantedAt 55 = .ok (.istore 4, 2) := by decide +kernel
theorem dX10_wantedAt_57 : decode cX10_wantedAt 57 = .ok (.iinc 5 1, 3) := by decide +kernel
theorem dX10_wantedAt_60 : decode cX10_wantedAt 60 = .ok (.goto (-50), 3) := by decide +kernel
theorem dX10_wantedAt_63 : decode cX10_wantedAt 63 = .ok (.iload 4, 2) := by decide +kernel
theorem dX10_wantedAt_65 : decode cX10_wantedAt 65 = .ok (.ireturn, 1) := by decide +kernel
theorem dX10_wanted_0 : decode cX10_wanted 0 = .ok (.aload_n 0, 1) := by decide +kernel
theorem dX10_wanted_1 : decode cX10_wanted 1 = .ok (.invokevirtual 208, 3) := by decide +kernel
theorem dX10_wanted_4 : decode cX10_wanted 4 = .ok (.ifCond .ne 7, 3) := by decide +kernel
theorem dX10_wanted_7 : decode cX10_wanted 7 = .ok (.sipush (-1003), 3) := by decide +kernel
theorem dX10_wanted_10 : decode cX10_wanted 10 = .ok (.ireturn, 1) := by decide +kernel
theorem dX10_wanted_11 : decode cX10_wanted 11 = .ok (.iload_n 1, 1) := by decide +kernel
theorem dX10_wanted_12 : decode cX10_wanted 12 = .ok (.iconst 0, 1) := by decide +kernel
theorem dX10_wanted_13 : decode cX10_wanted 13 = .ok (.aload_n 0, 1) := by decide +kernel
theorem dX10_wanted_14 : decode cX10_wanted 14 = .ok (.getfield 99, 3) := by decide +kernel
theorem dX10_wanted_17 : decode cX10_wanted 17 = .ok (.iconst 1, 1) := by decide +kernel
theorem dX10_wanted_18 : decode cX10_wanted 18 = .ok (.isub, 1) := by decide +kernel
theorem dX10_wanted_19 : decode cX10_wanted 19 = .ok (.invokestatic 60, 3) := by decide +kernel
theorem dX10_wanted_22 : decode cX10_wanted 22 = .ok (.ifCond .eq 21, 3) := by decide +kernel
theorem dX10_wanted_25 : decode cX10_wanted 25 = .ok (.iload_n 2, 1) := by decide +kernel
theorem dX10_wanted_26 : decode cX10_wanted 26 = .ok (.iconst 0, 1) := by decide +kernel
theorem dX10_wanted_27 : decode cX10_wanted 27 = .ok (.aload_n 0, 1) := by decide +kernel
theorem dX10_wanted_28 : decode cX10_wanted 28 = .ok (.invokevirtual 211, 3) := by decide +kernel
theorem dX10_wanted_31 : decode cX10_wanted 31 = .ok (.iconst 1, 1) := by decide +kernel
theorem dX10_wanted_32 : decode cX10_wanted 32 = .ok (.isub, 1) := by decide +kernel
theorem dX10_wanted_33 : decode cX10_wanted 33 = .ok (.invokestatic 60, 3) := by decide +kernel
theorem dX10_wanted_36 : decode cX10_wanted 36 = .ok (.ifCond .eq 7, 3) := by decide +kernel
theorem dX10_wanted_39 : decode cX10_wanted 39 = .ok (.iconst 1, 1) := by decide +kernel
theorem dX10_wanted_40 : decode cX10_wanted 40 = .ok (.goto 4, 3) := by decide +kernel
theorem dX10_wanted_43 : decode cX10_wanted 43 = .ok (.iconst 0, 1) := by decide +kernel
theorem dX10_wanted_44 : decode cX10_wanted 44 = .ok (.istore_n 3, 1) := by decide +kernel
theorem dX10_wanted_45 : decode cX10_wanted 45 = .ok (.iload_n 3, 1) := by decide +kernel
theorem dX10_wanted_46 : decode cX10_wanted 46 = .ok (.ifCond .eq 12, 3) := by decide +kernel
theorem dX10_wanted_49 : decode cX10_wanted 49 = .ok (.aload_n 0, 1) := by decide +kernel
theorem dX10_wanted_50 : decode cX10_wanted 50 = .ok (.iload_n 1, 1) := by decide +kernel
theorem dX10_wanted_51 : decode cX10_wanted 51 = .ok (.iload_n 2, 1) := by decide +kernel
theorem dX10_wanted_52 : decode cX10_wanted 52 = .ok (.invokevirtual 214, 3) := by decide +kernel
theorem dX10_wanted_55 : decode cX10_wanted 55 = .ok (.goto 6, 3) := by decide +kernel
theorem dX10_wanted_58 : decode cX10_wanted 58 = .ok (.sipush (-1001), 3) := by decide +kernel
theorem dX10_wanted_61 : decode cX10_wanted 61 = .ok (.ireturn, 1) := by decide +kernel
theorem dX10_has_0 : decode cX10_has 0 = .ok (.iload_n 2, 1) := by decide +kernel
theorem dX10_has_1 : decode cX10_has 1 = .ok (.iload_n 0, 1) := by decide +kernel
theorem dX10_has_2 : decode cX10_has 2 = .ok (.iand, 1) := by decide +kernel
theorem dX10_has_3 : decode cX10_has 3 = .ok (.iload_n 1, 1) := by decide +kernel
theorem dX10_has_4 : decode cX10_has 4 = .ok (.if_icmp .ne 7, 3) := by decide +kernel
theorem dX10_has_7 : decode cX10_has 7 = .ok (.iconst 1, 1) := by decide +kernel
theorem dX10_has_8 : decode cX10_has 8 = .ok (.goto 4, 3) := by decide +kernel
theorem dX10_has_11 : decode cX10_has 11 = .ok (.iconst 0, 1) := by decide +kernel
theorem dX10_has_12 : decode cX10_has 12 = .ok (.ireturn, 1) := by decide +kernel
theorem dX10_isClean_0 : decode cX10_isClean 0 = .ok (.iconst 1, 1) := by decide +kernel
theorem dX10_isClean_1 : decode cX10_isClean 1 = .ok (.istore_n 3, 1) := by decide +kernel
theorem dX10_isClean_2 : decode cX10_isClean 2 = .ok (.iconst 0, 1) := by decide +kernel
theorem dX10_isClean_3 : decode cX10_isClean 3 = .ok (.istore 4, 2) := by decide +kernel
theorem dX10_isClean_5 : decode cX10_isClean 5 = .ok (.iload 4, 2) := by decide +kernel
theorem dX10_isClean_7 : decode cX10_isClean 7 = .ok (.aload_n 0, 1) := by decide +kernel
theorem dX10_isClean_8 : decode cX10_isClean 8 = .ok (.invokevirtual 211, 3) := by decide +kernel
theorem dX10_isClean_11 : decode cX10_isClean 11 = .ok (.if_icmp .ge 39, 3) := by decide +kernel
theorem dX10_isClean_14 : decode cX10_isClean 14 = .ok (.iload_n 3, 1) := by decide +kernel
theorem dX10_isClean_15 : decode cX10_isClean 15 = .ok (.ifCond .eq 35, 3) := by decide +kernel
theorem dX10_isClean_18 : decode cX10_isClean 18 = .ok (.aload_n 0, 1) := by decide +kernel
theorem dX10_isClean_19 : decode cX10_isClean 19 = .ok (.getfield 48, 3) := by decide +kernel
theorem dX10_isClean_22 : decode cX10_isClean 22 = .ok (.iload 4, 2) := by decide +kernel
theorem dX10_isClean_24 : decode cX10_isClean 24 = .ok (.iaload, 1) := by decide +kernel
theorem dX10_isClean_25 : decode cX10_isClean 25 = .ok (.ifCond .ne 13, 3) := by decide +kernel
theorem dX10_isClean_28 : decode cX10_isClean 28 = .ok (.iload_n 1, 1) := by decide +kernel
theorem dX10_isClean_29 : decode cX10_isClean 29 = .ok (.iload_n 2, 1) := by decide +kernel
theorem dX10_isClean_30 : decode cX10_isClean 30 = .ok (.iload 4, 2) := by decide +kernel
theorem dX10_isClean_32 : decode cX10_isClean 32 = .ok (.invokestatic 217, 3) := by decide +kernel
theorem dX10_isClean_35 : decode cX10_isClean 35 = .ok (.ifCond .ne 7, 3) := by decide +kernel
theorem dX10_isClean_38 : decode cX10_isClean 38 = .ok (.iconst 1, 1) := by decide +kernel
theorem dX10_isClean_39 : decode cX10_isClean 39 = .ok (.goto 4, 3) := by decide +kernel
theorem dX10_isClean_42 : decode cX10_isClean 42 = .ok (.iconst 0, 1) := by decide +kernel
theorem dX10_isClean_43 : decode cX10_isClean 43 = .ok (.istore_n 3, 1) := by decide +kernel
theorem dX10_isClean_44 : decode cX10_isClean 44 = .ok (.iinc 4 1, 3) := by decide +kernel
theorem dX10_isClean_47 : decode cX10_isClean 47 = .ok (.goto (-42), 3) := by decide +kernel
theorem dX10_isClean_50 : decode cX10_isClean 50 = .ok (.iload_n 3, 1) := by decide +kernel
theorem dX10_isClean_51 : decode cX10_isClean 51 = .ok (.ireturn, 1) := by decide +kernel
theorem dX10_hasOne_0 : decode cX10_hasOne 0 = .ok (.iconst 0, 1) := by decide +kernel
theorem dX10_hasOne_1 : decode cX10_hasOne 1 = .ok (.istore_n 3, 1) := by decide +kernel
theorem dX10_hasOne_2 : decode cX10_hasOne 2 = .ok (.iconst 0, 1) := by decide +kernel
theorem dX10_hasOne_3 : decode cX10_hasOne 3 = .ok (.istore 4, 2) := by decide +kernel
theorem dX10_hasOne_5 : decode cX10_hasOne 5 = .ok (.iload 4, 2) := by decide +kernel
theorem dX10_hasOne_7 : decode cX10_hasOne 7 = .ok (.aload_n 0, 1) := by decide +kernel
theorem dX10_hasOne_8 : decode cX10_hasOne 8 = .ok (.invokevirtual 211, 3) := by decide +kernel
theorem dX10_hasOne_11 : decode cX10_hasOne 11 = .ok (.if_icmp .ge 40, 3) := by decide +kernel
theorem dX10_hasOne_14 : decode cX10_hasOne 14 = .ok (.iload_n 3, 1) := by decide +kernel
theorem dX10_hasOne_15 : decode cX10_hasOne 15 = .ok (.ifCond .ne 36, 3) := by decide +kernel
theorem dX10_hasOne_18 : decode cX10_hasOne 18 = .ok (.aload_n 0, 1) := by decide +kernel
theorem dX10_hasOne_19 : decode cX10_hasOne 19 = .ok (.getfield 48, 3) := by decide +kernel
theorem dX10_hasOne_22 : decode cX10_hasOne 22 = .ok (.iload 4, 2) := by decide +kernel
theorem dX10_hasOne_24 : decode cX10_hasOne 24 = .ok (.iaload, 1) := by decide +kernel
theorem dX10_hasOne_25 : decode cX10_hasOne 25 = .ok (.iconst 1, 1) := by decide +kernel
theorem dX10_hasOne_26 : decode cX10_hasOne 26 = .ok (.if_icmp .ne 17, 3) := by decide +kernel
theorem dX10_hasOne_29 : decode cX10_hasOne 29 = .ok (.iload_n 1, 1) := by decide +kernel
theorem dX10_hasOne_30 : decode cX10_hasOne 30 = .ok (.iload_n 2, 1) := by decide +kernel
theorem dX10_hasOne_31 : decode cX10_hasOne 31 = .ok (.iload 4, 2) := by decide +kernel
theorem dX10_hasOne_33 : decode cX10_hasOne 33 = .ok (.invokestatic 217, 3) := by decide +kernel
theorem dX10_hasOne_36 : decode cX10_hasOne 36 = .ok (.ifCond .eq 7, 3) := by decide +kernel
theorem dX10_hasOne_39 : decode cX10_hasOne 39 = .ok (.iconst 1, 1) := by decide +kernel
theorem dX10_hasOne_40 : decode cX10_hasOne 40 = .ok (.goto 4, 3) := by decide +kernel
theorem dX10_hasOne_43 : decode cX10_hasOne 43 = .ok (.iconst 0, 1) := by decide +kernel
theorem dX10_hasOne_44 : decode cX10_hasOne 44 = .ok (.istore_n 3, 1) := by decide +kernel
theorem dX10_hasOne_45 : decode cX10_hasOne 45 = .ok (.iinc 4 1, 3) := by decide +kernel
theorem dX10_hasOne_48 : decode cX10_hasOne 48 = .ok (.goto (-43), 3) := by decide +kernel
theorem dX10_hasOne_51 : decode cX10_hasOne 51 = .ok (.iload_n 3, 1) := by decide +kernel
theorem dX10_hasOne_52 : decode cX10_hasOne 52 = .ok (.ireturn, 1) := by decide +kernel
theorem dX10_isWide_0 : decode cX10_isWide 0 = .ok (.iload_n 2, 1) := by decide +kernel
theorem dX10_isWide_1 : decode cX10_isWide 1 = .ok (.iload_n 1, 1) := by decide +kernel
theorem dX10_isWide_2 : decode cX10_isWide 2 = .ok (.iconst (-1), 1) := by decide +kernel
theorem dX10_isWide_3 : decode cX10_isWide 3 = .ok (.ixor, 1) := by decide +kernel
theorem dX10_isWide_4 : decode cX10_isWide 4 = .ok (.iand, 1) := by decide +kernel
theorem dX10_isWide_5 : decode cX10_isWide 5 = .ok (.ifCond .ne 25, 3) := by decide +kernel
theorem dX10_isWide_8 : decode cX10_isWide 8 = .ok (.aload_n 0, 1) := by decide +kernel
theorem dX10_isWide_9 : decode cX10_isWide 9 = .ok (.iload_n 1, 1) := by decide +kernel
theorem dX10_isWide_10 : decode cX10_isWide 10 = .ok (.iload_n 2, 1) := by decide +kernel
theorem dX10_isWide_11 : decode cX10_isWide 11 = .ok (.invokevirtual 220, 3) := by decide +kernel
theorem dX10_isWide_14 : decode cX10_isWide 14 = .ok (.ifCond .eq 16, 3) := by decide +kernel
theorem dX10_isWide_17 : decode cX10_isWide 17 = .ok (.aload_n 0, 1) := by decide +kernel
theorem dX10_isWide_18 : decode cX10_isWide 18 = .ok (.iload_n 1, 1) := by decide +kernel
theorem dX10_isWide_19 : decode cX10_isWide 19 = .ok (.iload_n 2, 1) := by decide +kernel
theorem dX10_isWide_20 : decode cX10_isWide 20 = .ok (.invokevirtual 223, 3) := by decide +kernel
theorem dX10_isWide_23 : decode cX10_isWide 23 = .ok (.ifCond .eq 7, 3) := by decide +kernel
theorem dX10_isWide_26 : decode cX10_isWide 26 = .ok (.iconst 1, 1) := by decide +kernel
theorem dX10_isWide_27 : decode cX10_isWide 27 = .ok (.goto 4, 3) := by decide +kernel
theorem dX10_isWide_30 : decode cX10_isWide 30 = .ok (.iconst 0, 1) := by decide +kernel
theorem dX10_isWide_31 : decode cX10_isWide 31 = .ok (.istore_n 3, 1) := by decide +kernel
theorem dX10_isWide_32 : decode cX10_isWide 32 = .ok (.iconst 0, 1) := by decide +kernel
theorem dX10_isWide_33 : decode cX10_isWide 33 = .ok (.istore 4, 2) := by decide +kernel
theorem dX10_isWide_35 : decode cX10_isWide 35 = .ok (.iload 4, 2) := by decide +kernel
theorem dX10_isWide_37 : decode cX10_isWide 37 = .ok (.aload_n 0, 1) := by decide +kernel
theorem dX10_isWide_38 : decode cX10_isWide 38 = .ok (.getfield 99, 3) := by decide +kernel
theorem dX10_isWide_41 : decode cX10_isWide 41 = .ok (.iconst 2, 1) := by decide +kernel
theorem dX10_isWide_42 : decode cX10_isWide 42 = .ok (.iadd, 1) := by decide +kernel
theorem dX10_isWide_43 : decode cX10_isWide 43 = .ok (.if_icmp .ge 51, 3) := by decide +kernel
theorem dX10_isWide_46 : decode cX10_isWide 46 = .ok (.iload_n 3, 1) := by decide +kernel
theorem dX10_isWide_47 : decode cX10_isWide 47 = .ok (.ifCond .eq 47, 3) := by decide +kernel
theorem dX10_isWide_50 : decode cX10_isWide 50 = .ok (.iload_n 1, 1) := by decide +kernel
theorem dX10_isWide_51 : decode cX10_isWide 51 = .ok (.iload 4, 2) := by decide +kernel
theorem dX10_isWide_53 : decode cX10_isWide 53 = .ok (.ishr, 1) := by decide +kernel
theorem dX10_isWide_54 : decode cX10_isWide 54 = .ok (.iconst 1, 1) := by decide +kernel
theorem dX10_isWide_55 : decode cX10_isWide 55 = .ok (.iand, 1) := by decide +kernel
theorem dX10_isWide_56 : decode cX10_isWide 56 = .ok (.ifCond .eq 26, 3) := by decide +kernel
theorem dX10_isWide_59 : decode cX10_isWide 59 = .ok (.aload_n 0, 1) := by decide +kernel
theorem dX10_isWide_60 : decode cX10_isWide 60 = .ok (.iload_n 1, 1) := by decide +kernel
theorem dX10_isWide_61 : decode cX10_isWide 61 = .ok (.iconst 1, 1) := by decide +kernel
theorem dX10_isWide_62 : decode cX10_isWide 62 = .ok (.iload 4, 2) := by decide +kernel
theorem dX10_isWide_64 : decode cX10_isWide 64 = .ok (.ishl, 1) := by decide +kernel
theorem dX10_isWide_65 : decode cX10_isWide 65 = .ok (.iconst (-1), 1) := by decide +kernel
theorem dX10_isWide_66 : decode cX10_isWide 66 = .ok (.ixor, 1) := by decide +kernel
theorem dX10_isWide_67 : decode cX10_isWide 67 = .ok (.iand, 1) := by decide +kernel
theorem dX10_isWide_68 : decode cX10_isWide 68 = .ok (.iload_n 2, 1) := by decide +kernel
theorem dX10_isWide_69 : decode cX10_isWide 69 = .ok (.iconst 1, 1) := by decide +kernel
theorem dX10_isWide_70 : decode cX10_isWide 70 = .ok (.iload 4, 2) := by decide +kernel
theorem dX10_isWide_72 : decode cX10_isWide 72 = .ok (.ishl, 1) := by decide +kernel
theorem dX10_isWide_73 : decode cX10_isWide 73 = .ok (.iconst (-1), 1) := by decide +kernel
theorem dX10_isWide_74 : decode cX10_isWide 74 = .ok (.ixor, 1) := by decide +kernel
theorem dX10_isWide_75 : decode cX10_isWide 75 = .ok (.iand, 1) := by decide +kernel
theorem dX10_isWide_76 : decode cX10_isWide 76 = .ok (.invokevirtual 223, 3) := by decide +kernel
theorem dX10_isWide_79 : decode cX10_isWide 79 = .ok (.ifCond .ne 7, 3) := by decide +kernel
theorem dX10_isWide_82 : decode cX10_isWide 82 = .ok (.iconst 1, 1) := by decide +kernel
theorem dX10_isWide_83 : decode cX10_isWide 83 = .ok (.goto 4, 3) := by decide +kernel
theorem dX10_isWide_86 : decode cX10_isWide 86 = .ok (.iconst 0, 1) := by decide +kernel
theorem dX10_isWide_87 : decode cX10_isWide 87 = .ok (.istore_n 3, 1) := by decide +kernel
theorem dX10_isWide_88 : decode cX10_isWide 88 = .ok (.iinc 4 1, 3) := by decide +kernel
theorem dX10_isWide_91 : decode cX10_isWide 91 = .ok (.goto (-56), 3) := by decide +kernel
theorem dX10_isWide_94 : decode cX10_isWide 94 = .ok (.iload_n 3, 1) := by decide +kernel
theorem dX10_isWide_95 : decode cX10_isWide 95 = .ok (.ireturn, 1) := by decide +kernel
theorem dX10_layWide_0 : decode cX10_layWide 0 = .ok (.aload_n 0, 1) := by decide +kernel
theorem dX10_layWide_1 : decode cX10_layWide 1 = .ok (.iconst 0, 1) := by decide +kernel
theorem dX10_layWide_2 : decode cX10_layWide 2 = .ok (.putfield 226, 3) := by decide +kernel
theorem dX10_layWide_5 : decode cX10_layWide 5 = .ok (.iconst 0, 1) := by decide +kernel
theorem dX10_layWide_6 : decode cX10_layWide 6 = .ok (.istore_n 1, 1) := by decide +kernel
theorem dX10_layWide_7 : decode cX10_layWide 7 = .ok (.iload_n 1, 1) := by decide +kernel
theorem dX10_layWide_8 : decode cX10_layWide 8 = .ok (.aload_n 0, 1) := by decide +kernel
theorem dX10_layWide_9 : decode cX10_layWide 9 = .ok (.invokevirtual 211, 3) := by decide +kernel
theorem dX10_layWide_12 : decode cX10_layWide 12 = .ok (.if_icmp .ge 61, 3) := by decide +kernel
theorem dX10_layWide_15 : decode cX10_layWide 15 = .ok (.iconst 0, 1) := by decide +kernel
theorem dX10_layWide_16 : decode cX10_layWide 16 = .ok (.istore_n 2, 1) := by decide +kernel
theorem dX10_layWide_17 : decode cX10_layWide 17 = .ok (.iload_n 2, 1) := by decide +kernel
theorem dX10_layWide_18 : decode cX10_layWide 18 = .ok (.iload_n 1, 1) := by decide +kernel
theorem dX10_layWide_19 : decode cX10_layWide 19 = .ok (.if_icmp .gt 48, 3) := by decide +kernel
theorem dX10_layWide_22 : decode cX10_layWide 22 = .ok (.aload_n 0, 1) := by decide +kernel
theorem dX10_layWide_23 : decode cX10_layWide 23 = .ok (.iload_n 1, 1) := by decide +kernel
theorem dX10_layWide_24 : decode cX10_layWide 24 = .ok (.iload_n 2, 1) := by decide +kernel
theorem dX10_layWide_25 : decode cX10_layWide 25 = .ok (.invokevirtual 229, 3) := by decide +kernel
theorem dX10_layWide_28 : decode cX10_layWide 28 = .ok (.ifCond .eq 33, 3) := by decide +kernel
theorem dX10_layWide_31 : decode cX10_layWide 31 = .ok (.aload_n 0, 1) := by decide +kernel
theorem dX10_layWide_32 : decode cX10_layWide 32 = .ok (.getfield 51, 3) := by decide +kernel
theorem dX10_layWide_35 : decode cX10_layWide 35 = .ok (.aload_n 0, 1) := by decide +kernel
theorem dX10_layWide_36 : decode cX10_layWide 36 = .ok (.getfield 226, 3) := by decide +kernel
theorem dX10_layWide_39 : decode cX10_layWide 39 = .ok (.iload_n 1, 1) := by decide +kernel
theorem dX10_layWide_40 : decode cX10_layWide 40 = .ok (.iastore, 1) := by decide +kernel
theorem dX10_layWide_41 : decode cX10_layWide 41 = .ok (.aload_n 0, 1) := by decide +kernel
theorem dX10_layWide_42 : decode cX10_layWide 42 = .ok (.getfield 54, 3) := by decide +kernel
theorem dX10_layWide_45 : decode cX10_layWide 45 = .ok (.aload_n 0, 1) := by decide +kernel
theorem dX10_layWide_46 : decode cX10_layWide 46 = .ok (.getfield 226, 3) := by decide +kernel
theorem dX10_layWide_49 : decode cX10_layWide 49 = .ok (.iload_n 2, 1) := by decide +kernel
theorem dX10_layWide_50 : decode cX10_layWide 50 = .ok (.iastore, 1) := by decide +kernel
theorem dX10_layWide_51 : decode cX10_layWide 51 = .ok (.aload_n 0, 1) := by decide +kernel
theorem dX10_layWide_52 : decode cX10_layWide 52 = .ok (.dup, 1) := by decide +kernel
theorem dX10_layWide_53 : decode cX10_layWide 53 = .ok (.getfield 226, 3) := by decide +kernel
theorem dX10_layWide_56 : decode cX10_layWide 56 = .ok (.iconst 1, 1) := by decide +kernel
theorem dX10_layWide_57 : decode cX10_layWide 57 = .ok (.iadd, 1) := by decide +kernel
theorem dX10_layWide_58 : decode cX10_layWide 58 = .ok (.putfield 226, 3) := by decide +kernel
theorem dX10_layWide_61 : decode cX10_layWide 61 = .ok (.iinc 2 1, 3) := by decide +kernel
theorem dX10_layWide_64 : decode cX10_layWide 64 = .ok (.goto (-47), 3) := by decide +kernel
theorem dX10_layWide_67 : decode cX10_layWide 67 = .ok (.iinc 1 1, 3) := by decide +kernel
theorem dX10_layWide_70 : decode cX10_layWide 70 = .ok (.goto (-63), 3) := by decide +kernel
theorem dX10_layWide_73 : decode cX10_layWide 73 = .ok (.return_, 1) := by decide +kernel
theorem dX10_isSummed_0 : decode cX10_isSummed 0 = .ok (.iconst 0, 1) := by decide +kernel
theorem dX10_isSummed_1 : decode cX10_isSummed 1 = .ok (.istore_n 3, 1) := by decide +kernel
theorem dX10_isSummed_2 : decode cX10_isSummed 2 = .ok (.iconst 0, 1) := by decide +kernel
theorem dX10_isSummed_3 : decode cX10_isSummed 3 = .ok (.istore 4, 2) := by decide +kernel
theorem dX10_isSummed_5 : decode cX10_isSummed 5 = .ok (.iload 4, 2) := by decide +kernel
theorem dX10_isSummed_7 : decode cX10_isSummed 7 = .ok (.aload_n 0, 1) := by decide +kernel
theorem dX10_isSummed_8 : decode cX10_isSummed 8 = .ok (.getfield 232, 3) := by decide +kernel
theorem dX10_isSummed_11 : decode cX10_isSummed 11 = .ok (.if_icmp .ge 70, 3) := by decide +kernel
theorem dX10_isSummed_14 : decode cX10_isSummed 14 = .ok (.aload_n 0, 1) := by decide +kernel
theorem dX10_isSummed_15 : decode cX10_isSummed 15 = .ok (.getfield 57, 3) := by decide +kernel
theorem dX10_isSummed_18 : decode cX10_isSummed 18 = .ok (.iload 4, 2) := by decide +kernel
theorem dX10_isSummed_20 : decode cX10_isSummed 20 = .ok (.iaload, 1) := by decide +kernel
theorem dX10_isSummed_21 : decode cX10_isSummed 21 = .ok (.istore 5, 2) := by decide +kernel
theorem dX10_isSummed_23 : decode cX10_isSummed 23 = .ok (.iload_n 3, 1) := by decide +kernel
theorem dX10_isSummed_24 : decode cX10_isSummed 24 = .ok (.ifCond .ne 45, 3) := by decide +kernel
theorem dX10_isSummed_27 : decode cX10_isSummed 27 = .ok (.aload_n 0, 1) := by decide +kernel
theorem dX10_isSummed_28 : decode cX10_isSummed 28 = .ok (.getfield 51, 3) := by decide +kernel
theorem dX10_isSummed_31 : decode cX10_isSummed 31 = .ok (.iload 5, 2) := by decide +kernel
theorem dX10_isSummed_33 : decode cX10_isSummed 33 = .ok (.iaload, 1) := by decide +kernel
theorem dX10_isSummed_34 : decode cX10_isSummed 34 = .ok (.aload_n 0, 1) := by decide +kernel
theorem dX10_isSummed_35 : decode cX10_isSummed 35 = .ok (.getfield 54, 3) := by decide +kernel
theorem dX10_isSummed_38 : decode cX10_isSummed 38 = .ok (.iload 5, 2) := by decide +kernel
theorem dX10_isSummed_40 : decode cX10_isSummed 40 = .ok (.iaload, 1) := by decide +kernel
theorem dX10_isSummed_41 : decode cX10_isSummed 41 = .ok (.iload_n 1, 1) := by decide +kernel
theorem dX10_isSummed_42 : decode cX10_isSummed 42 = .ok (.invokestatic 217, 3) := by decide +kernel
theorem dX10_isSummed_45 : decode cX10_isSummed 45 = .ok (.ifCond .eq 28, 3) := by decide +kernel
theorem dX10_isSummed_48 : decode cX10_isSummed 48 = .ok (.aload_n 0, 1) := by decide +kernel
theorem dX10_isSummed_49 : decode cX10_isSummed 49 = .ok (.getfield 51, 3) := by decide +kernel
theorem dX10_isSummed_52 : decode cX10_isSummed 52 = .ok (.iload 5, 2) := by decide +kernel
theorem dX10_isSummed_54 : decode cX10_isSummed 54 = .ok (.iaload, 1) := by decide +kernel
theorem dX10_isSummed_55 : decode cX10_isSummed 55 = .ok (.aload_n 0, 1) := by decide +kernel
theorem dX10_isSummed_56 : decode cX10_isSummed 56 = .ok (.getfield 54, 3) := by decide +kernel
theorem dX10_isSummed_59 : decode cX10_isSummed 59 = .ok (.iload 5, 2) := by decide +kernel
theorem dX10_isSummed_61 : decode cX10_isSummed 61 = .ok (.iaload, 1) := by decide +kernel
theorem dX10_isSummed_62 : decode cX10_isSummed 62 = .ok (.iload_n 2, 1) := by decide +kernel
theorem dX10_isSummed_63 : decode cX10_isSummed 63 = .ok (.invokestatic 217, 3) := by decide +kernel
theorem dX10_isSummed_66 : decode cX10_isSummed 66 = .ok (.ifCond .eq 7, 3) := by decide +kernel
theorem dX10_isSummed_69 : decode cX10_isSummed 69 = .ok (.iconst 1, 1) := by decide +kernel
theorem dX10_isSummed_70 : decode cX10_isSummed 70 = .ok (.goto 4, 3) := by decide +kernel
theorem dX10_isSummed_73 : decode cX10_isSummed 73 = .ok (.iconst 0, 1) := by decide +kernel
theorem dX10_isSummed_74 : decode cX10_isSummed 74 = .ok (.istore_n 3, 1) := by decide +kernel
theorem dX10_isSummed_75 : decode cX10_isSummed 75 = .ok (.iinc 4 1, 3) := by decide +kernel
theorem dX10_isSummed_78 : decode cX10_isSummed 78 = .ok (.goto (-73), 3) := by decide +kernel
theorem dX10_isSummed_81 : decode cX10_isSummed 81 = .ok (.iload_n 3, 1) := by decide +kernel
theorem dX10_isSummed_82 : decode cX10_isSummed 82 = .ok (.ireturn, 1) := by decide +kernel
theorem dX10_addSum_0 : decode cX10_addSum 0 = .ok (.iconst (-1), 1) := by decide +kernel
theorem dX10_addSum_1 : decode cX10_addSum 1 = .ok (.istore_n 3, 1) := by decide +kernel
theorem dX10_addSum_2 : decode cX10_addSum 2 = .ok (.iconst 0, 1) := by decide +kernel
theorem dX10_addSum_3 : decode cX10_addSum 3 = .ok (.istore 4, 2) := by decide +kernel
theorem dX10_addSum_5 : decode cX10_addSum 5 = .ok (.iload 4, 2) := by decide +kernel
theorem dX10_addSum_7 : decode cX10_addSum 7 = .ok (.aload_n 0, 1) := by decide +kernel
theorem dX10_addSum_8 : decode cX10_addSum 8 = .ok (.getfield 226, 3) := by decide +kernel
theorem dX10_addSum_11 : decode cX10_addSum 11 = .ok (.if_icmp .ge 97, 3) := by decide +kernel
theorem dX10_addSum_14 : decode cX10_addSum 14 = .ok (.aload_n 0, 1) := by decide +kernel
theorem dX10_addSum_15 : decode cX10_addSum 15 = .ok (.getfield 51, 3) := by decide +kernel
theorem dX10_addSum_18 : decode cX10_addSum 18 = .ok (.iload 4, 2) := by decide +kernel
theorem dX10_addSum_20 : decode cX10_addSum 20 = .ok (.iaload, 1) := by decide +kernel
theorem dX10_addSum_21 : decode cX10_addSum 21 = .ok (.aload_n 0, 1) := by decide +kernel
theorem dX10_addSum_22 : decode cX10_addSum 22 = .ok (.getfield 54, 3) := by decide +kernel
theorem dX10_addSum_25 : decode cX10_addSum 25 = .ok (.iload 4, 2) := by decide +kernel
theorem dX10_addSum_27 : decode cX10_addSum 27 = .ok (.iaload, 1) := by decide +kernel
theorem dX10_addSum_28 : decode cX10_addSum 28 = .ok (.iload_n 1, 1) := by decide +kernel
theorem dX10_addSum_29 : decode cX10_addSum 29 = .ok (.invokestatic 217, 3) := by decide +kernel
theorem dX10_addSum_32 : decode cX10_addSum 32 = .ok (.ifCond .eq 28, 3) := by decide +kernel
theorem dX10_addSum_35 : decode cX10_addSum 35 = .ok (.aload_n 0, 1) := by decide +kernel
theorem dX10_addSum_36 : decode cX10_addSum 36 = .ok (.getfield 51, 3) := by decide +kernel
theorem dX10_addSum_39 : decode cX10_addSum 39 = .ok (.iload 4, 2) := by decide +kernel
theorem dX10_addSum_41 : decode cX10_addSum 41 = .ok (.iaload, 1) := by decide +kernel
theorem dX10_addSum_42 : decode cX10_addSum 42 = .ok (.aload_n 0, 1) := by decide +kernel
theorem dX10_addSum_43 : decode cX10_addSum 43 = .ok (.getfield 54, 3) := by decide +kernel
theorem dX10_addSum_46 : decode cX10_addSum 46 = .ok (.iload 4, 2) := by decide +kernel
theorem dX10_addSum_48 : decode cX10_addSum 48 = .ok (.iaload, 1) := by decide +kernel
theorem dX10_addSum_49 : decode cX10_addSum 49 = .ok (.iload_n 2, 1) := by decide +kernel
theorem dX10_addSum_50 : decode cX10_addSum 50 = .ok (.invokestatic 217, 3) := by decide +kernel
theorem dX10_addSum_53 : decode cX10_addSum 53 = .ok (.ifCond .eq 7, 3) := by decide +kernel
theorem dX10_addSum_56 : decode cX10_addSum 56 = .ok (.iconst 1, 1) := by decide +kernel
theorem dX10_addSum_57 : decode cX10_addSum 57 = .ok (.goto 4, 3) := by decide +kernel
theorem dX10_addSum_60 : decode cX10_addSum 60 = .ok (.iconst 0, 1) := by decide +kernel
theorem dX10_addSum_61 : decode cX10_addSum 61 = .ok (.istore 5, 2) := by decide +kernel
theorem dX10_addSum_63 : decode cX10_addSum 63 = .ok (.iload 5, 2) := by decide +kernel
theorem dX10_addSum_65 : decode cX10_addSum 65 = .ok (.ifCond .eq 35, 3) := by decide +kernel
theorem dX10_addSum_68 : decode cX10_addSum 68 = .ok (.iload_n 3, 1) := by decide +kernel
theorem dX10_addSum_69 : decode cX10_addSum 69 = .ok (.iconst (-1), 1) := by decide +kernel
theorem dX10_addSum_70 : decode cX10_addSum 70 = .ok (.if_icmp .eq 25, 3) := by decide +kernel
theorem dX10_addSum_73 : decode cX10_addSum 73 = .ok (.aload_n 0, 1) := by decide +kernel
theorem dX10_addSum_74 : decode cX10_addSum 74 = .ok (.getfield 51, 3) := by decide +kernel
theorem dX10_addSum_77 : decode cX10_addSum 77 = .ok (.iload 4, 2) := by decide +kernel
theorem dX10_addSum_79 : decode cX10_addSum 79 = .ok (.iaload, 1) := by decide +kernel
theorem dX10_addSum_80 : decode cX10_addSum 80 = .ok (.invokestatic 190, 3) := by decide +kernel
theorem dX10_addSum_83 : decode cX10_addSum 83 = .ok (.aload_n 0, 1) := by decide +kernel
theorem dX10_addSum_84 : decode cX10_addSum 84 = .ok (.getfield 51, 3) := by decide +kernel
theorem dX10_addSum_87 : decode cX10_addSum 87 = .ok (.iload_n 3, 1) := by decide +kernel
theorem dX10_addSum_88 : decode cX10_addSum 88 = .ok (.iaload, 1) := by decide +kernel
theorem dX10_addSum_89 : decode cX10_addSum 89 = .ok (.invokestatic 190, 3) := by decide +kernel
theorem dX10_addSum_92 : decode cX10_addSum 92 = .ok (.if_icmp .ge 8, 3) := by decide +kernel
theorem dX10_addSum_95 : decode cX10_addSum 95 = .ok (.iload 4, 2) := by decide +kernel
theorem dX10_addSum_97 : decode cX10_addSum 97 = .ok (.goto 4, 3) := by decide +kernel
theorem dX10_addSum_100 : decode cX10_addSum 100 = .ok (.iload_n 3, 1) := by decide +kernel
theorem dX10_addSum_101 : decode cX10_addSum 101 = .ok (.istore_n 3, 1) := by decide +kernel
theorem dX10_addSum_102 : decode cX10_addSum 102 = .ok (.iinc 4 1, 3) := by decide +kernel
theorem dX10_addSum_105 : decode cX10_addSum 105 = .ok (.goto (-100), 3) := by decide +kernel
theorem dX10_addSum_108 : decode cX10_addSum 108 = .ok (.aload_n 0, 1) := by decide +kernel
theorem dX10_addSum_109 : decode cX10_addSum 109 = .ok (.getfield 57, 3) := by decide +kernel
theorem dX10_addSum_112 : decode cX10_addSum 112 = .ok (.aload_n 0, 1) := by decide +kernel
theorem dX10_addSum_113 : decode cX10_addSum 113 = .ok (.getfield 232, 3) := by decide +kernel
theorem dX10_addSum_116 : decode cX10_addSum 116 = .ok (.iload_n 3, 1) := by decide +kernel
theorem dX10_addSum_117 : decode cX10_addSum 117 = .ok (.iastore, 1) := by decide +kernel
theorem dX10_addSum_118 : decode cX10_addSum 118 = .ok (.aload_n 0, 1) := by decide +kernel
theorem dX10_addSum_119 : decode cX10_addSum 119 = .ok (.dup, 1) := by decide +kernel
theorem dX10_addSum_120 : decode cX10_addSum 120 = .ok (.getfield 232, 3) := by decide +kernel
theorem dX10_addSum_123 : decode cX10_addSum 123 = .ok (.iconst 1, 1) := by decide +kernel
theorem dX10_addSum_124 : decode cX10_addSum 124 = .ok (.iadd, 1) := by decide +kernel
theorem dX10_addSum_125 : decode cX10_addSum 125 = .ok (.putfield 232, 3) := by decide +kernel
theorem dX10_addSum_128 : decode cX10_addSum 128 = .ok (.return_, 1) := by decide +kernel
theorem dX10_layFlickers_0 : decode cX10_layFlickers 0 = .ok (.iconst 0, 1) := by decide +kernel
theorem dX10_layFlickers_1 : decode cX10_layFlickers 1 = .ok (.istore_n 2, 1) := by decide +kernel
theorem dX10_layFlickers_2 : decode cX10_layFlickers 2 = .ok (.iload_n 2, 1) := by decide +kernel
theorem dX10_layFlickers_3 : decode cX10_layFlickers 3 = .ok (.aload_n 0, 1) := by decide +kernel
theorem dX10_layFlickers_4 : decode cX10_layFlickers 4 = .ok (.getfield 99, 3) := by decide +kernel
theorem dX10_layFlickers_7 : decode cX10_layFlickers 7 = .ok (.iconst 2, 1) := by decide +kernel
theorem dX10_layFlickers_8 : decode cX10_layFlickers 8 = .ok (.iadd, 1) := by decide +kernel
theorem dX10_layFlickers_9 : decode cX10_layFlickers 9 = .ok (.if_icmp .ge 65, 3) := by decide +kernel
theorem dX10_layFlickers_12 : decode cX10_layFlickers 12 = .ok (.iload_n 1, 1) := by decide +kernel
theorem dX10_layFlickers_13 : decode cX10_layFlickers 13 = .ok (.iconst 1, 1) := by decide +kernel
theorem dX10_layFlickers_14 : decode cX10_layFlickers 14 = .ok (.iload_n 2, 1) := by decide +kernel
theorem dX10_layFlickers_15 : decode cX10_layFlickers 15 = .ok (.ishl, 1) := by decide +kernel
theorem dX10_layFlickers_16 : decode cX10_layFlickers 16 = .ok (.ior, 1) := by decide +kernel
theorem dX10_layFlickers_17 : decode cX10_layFlickers 17 = .ok (.istore_n 3, 1) := by decide +kernel
theorem dX10_layFlickers_18 : decode cX10_layFlickers 18 = .ok (.iload_n 3, 1) := by decide +kernel
theorem dX10_layFlickers_19 : decode cX10_layFlickers 19 = .ok (.iload_n 1, 1) := by decide +kernel
theorem dX10_layFlickers_20 : decode cX10_layFlickers 20 = .ok (.if_icmp .eq 48, 3) := by decide +kernel
theorem dX10_layFlickers_23 : decode cX10_layFlickers 23 = .ok (.aload_n 0, 1) := by decide +kernel
theorem dX10_layFlickers_24 : decode cX10_layFlickers 24 = .ok (.getfield 48, 3) := by decide +kernel
theorem dX10_layFlickers_27 : decode cX10_layFlickers 27 = .ok (.iload_n 1, 1) := by decide +kernel
theorem dX10_layFlickers_28 : decode cX10_layFlickers 28 = .ok (.iaload, 1) := by decide +kernel
theorem dX10_layFlickers_29 : decode cX10_layFlickers 29 = .ok (.iconst 1, 1) := by decide +kernel
theorem dX10_layFlickers_30 : decode cX10_layFlickers 30 = .ok (.if_icmp .ne 38, 3) := by decide +kernel
theorem dX10_layFlickers_33 : decode cX10_layFlickers 33 = .ok (.aload_n 0, 1) := by decide +kernel
theorem dX10_layFlickers_34 : decode cX10_layFlickers 34 = .ok (.getfield 48, 3) := by decide +kernel
theorem dX10_layFlickers_37 : decode cX10_layFlickers 37 = .ok (.iload_n 3, 1) := by decide +kernel
theorem dX10_layFlickers_38 : decode cX10_layFlickers 38 = .ok (.iaload, 1) := by decide +kernel
theorem dX10_layFlickers_39 : decode cX10_layFlickers 39 = .ok (.iconst 1, 1) := by decide +kernel
theorem dX10_layFlickers_40 : decode cX10_layFlickers 40 = .ok (.if_icmp .ne 28, 3) := by decide +kernel
theorem dX10_layFlickers_43 : decode cX10_layFlickers 43 = .ok (.aload_n 0, 1) := by decide +kernel
theorem dX10_layFlickers_44 : decode cX10_layFlickers 44 = .ok (.iload_n 1, 1) := by decide +kernel
theorem dX10_layFlickers_45 : decode cX10_layFlickers 45 = .ok (.iload_n 3, 1) := by decide +kernel
theorem dX10_layFlickers_46 : decode cX10_layFlickers 46 = .ok (.invokevirtual 235, 3) := by decide +kernel
theorem dX10_layFlickers_49 : decode cX10_layFlickers 49 = .ok (.ifCond .ne 19, 3) := by decide +kernel
theorem dX10_layFlickers_52 : decode cX10_layFlickers 52 = .ok (.aload_n 0, 1) := by decide +kernel
theorem dX10_layFlickers_53 : decode cX10_layFlickers 53 = .ok (.iload_n 1, 1) := by decide +kernel
theorem dX10_layFlickers_54 : decode cX10_layFlickers 54 = .ok (.iload_n 3, 1) := by decide +kernel
theorem dX10_layFlickers_55 : decode cX10_layFlickers 55 = .ok (.invokevirtual 238, 3) := by decide +kernel
theorem dX10_layFlickers_58 : decode cX10_layFlickers 58 = .ok (.aload_n 0, 1) := by decide +kernel
theorem dX10_layFlickers_59 : decode cX10_layFlickers 59 = .ok (.dup, 1) := by decide +kernel
theorem dX10_layFlickers_60 : decode cX10_layFlickers 60 = .ok (.getfield 241, 3) := by decide +kernel
theorem dX10_layFlickers_63 : decode cX10_layFlickers 63 = .ok (.iconst 1, 1) := by decide +kernel
theorem dX10_layFlickers_64 : decode cX10_layFlickers 64 = .ok (.iadd, 1) := by decide +kernel
theorem dX10_layFlickers_65 : decode cX10_layFlickers 65 = .ok (.putfield 241, 3) := by decide +kernel
theorem dX10_layFlickers_68 : decode cX10_layFlickers 68 = .ok (.iinc 2 1, 3) := by decide +kernel
theorem dX10_layFlickers_71 : decode cX10_layFlickers 71 = .ok (.goto (-69), 3) := by decide +kernel
theorem dX10_layFlickers_74 : decode cX10_layFlickers 74 = .ok (.return_, 1) := by decide +kernel
theorem dX10_laySignal_0 : decode cX10_laySignal 0 = .ok (.aload_n 0, 1) := by decide +kernel
theorem dX10_laySignal_1 : decode cX10_laySignal 1 = .ok (.getfield 205, 3) := by decide +kernel
theorem dX10_laySignal_4 : decode cX10_laySignal 4 = .ok (.iload_n 1, 1) := by decide +kernel
theorem dX10_laySignal_5 : decode cX10_laySignal 5 = .ok (.if_icmp .ne 4, 3) := by decide +kernel
theorem dX10_laySignal_8 : decode cX10_laySignal 8 = .ok (.return_, 1) := by decide +kernel
theorem dX10_laySignal_9 : decode cX10_laySignal 9 = .ok (.aload_n 0, 1) := by decide +kernel
theorem dX10_laySignal_10 : decode cX10_laySignal 10 = .ok (.iload_n 1, 1) := by decide +kernel
theorem dX10_laySignal_11 : decode cX10_laySignal 11 = .ok (.putfield 205, 3) := by decide +kernel
theorem dX10_laySignal_14 : decode cX10_laySignal 14 = .ok (.iconst 0, 1) := by decide +kernel
theorem dX10_laySignal_15 : decode cX10_laySignal 15 = .ok (.istore_n 2, 1) := by decide +kernel
theorem dX10_laySignal_16 : decode cX10_laySignal 16 = .ok (.iload_n 2, 1) := by decide +kernel
theorem dX10_laySignal_17 : decode cX10_laySignal 17 = .ok (.aload_n 0, 1) := by decide +kernel
theorem dX10_laySignal_18 : decode cX10_laySignal 18 = .ok (.invokevirtual 211, 3) := by decide +kernel
theorem dX10_laySignal_21 : decode cX10_laySignal 21 = .ok (.if_icmp .ge 21, 3) := by decide +kernel
theorem dX10_laySignal_24 : decode cX10_laySignal 24 = .ok (.aload_n 0, 1) := by decide +kernel
theorem dX10_laySignal_25 : decode cX10_laySignal 25 = .ok (.getfield 48, 3) := by decide +kernel
theorem dX10_laySignal_28 : decode cX10_laySignal 28 = .ok (.iload_n 2, 1) := by decide +kernel
theorem dX10_laySignal_29 : decode cX10_laySignal 29 = .ok (.aload_n 0, 1) := by decide +kernel
theorem dX10_laySignal_30 : decode cX10_laySignal 30 = .ok (.iload_n 1, 1) := by decide +kernel
theorem dX10_laySignal_31 : decode cX10_laySignal 31 = .ok (.iload_n 2, 1) := by decide +kernel
theorem dX10_laySignal_32 : decode cX10_laySignal 32 = .ok (.invokevirtual 214, 3) := by decide +kernel
theorem dX10_laySignal_35 : decode cX10_laySignal 35 = .ok (.iastore, 1) := by decide +kernel
theorem dX10_laySignal_36 : decode cX10_laySignal 36 = .ok (.iinc 2 1, 3) := by decide +kernel
theorem dX10_laySignal_39 : decode cX10_laySignal 39 = .ok (.goto (-23), 3) := by decide +kernel
theorem dX10_laySignal_42 : decode cX10_laySignal 42 = .ok (.aload_n 0, 1) := by decide +kernel
theorem dX10_laySignal_43 : decode cX10_laySignal 43 = .ok (.invokevirtual 244, 3) := by decide +kernel
theorem dX10_laySignal_46 : decode cX10_laySignal 46 = .ok (.aload_n 0, 1) := by decide +kernel
theorem dX10_laySignal_47 : decode cX10_laySignal 47 = .ok (.iconst 0, 1) := by decide +kernel
theorem dX10_laySignal_48 : decode cX10_laySignal 48 = .ok (.putfield 232, 3) := by decide +kernel
theorem dX10_laySignal_51 : decode cX10_laySignal 51 = .ok (.aload_n 0, 1) := by decide +kernel
theorem dX10_laySignal_52 : decode cX10_laySignal 52 = .ok (.iconst 0, 1) := by decide +kernel
theorem dX10_laySignal_53 : decode cX10_laySignal 53 = .ok (.putfield 241, 3) := by decide +kernel
theorem dX10_laySignal_56 : decode cX10_laySignal 56 = .ok (.iconst 0, 1) := by decide +kernel
theorem dX10_laySignal_57 : decode cX10_laySignal 57 = .ok (.istore_n 2, 1) := by decide +kernel
theorem dX10_laySignal_58 : decode cX10_laySignal 58 = .ok (.iload_n 2, 1) := by decide +kernel
theorem dX10_laySignal_59 : decode cX10_laySignal 59 = .ok (.aload_n 0, 1) := by decide +kernel
theorem dX10_laySignal_60 : decode cX10_laySignal 60 = .ok (.invokevirtual 211, 3) := by decide +kernel
theorem dX10_laySignal_63 : decode cX10_laySignal 63 = .ok (.if_icmp .ge 34, 3) := by decide +kernel
theorem dX10_laySignal_66 : decode cX10_laySignal 66 = .ok (.aload_n 0, 1) := by decide +kernel
theorem dX10_laySignal_67 : decode cX10_laySignal 67 = .ok (.getfield 48, 3) := by decide +kernel
theorem dX10_laySignal_70 : decode cX10_laySignal 70 = .ok (.iload_n 2, 1) := by decide +kernel
theorem dX10_laySignal_71 : decode cX10_laySignal 71 = .ok (.iaload, 1) := by decide +kernel
theorem dX10_laySignal_72 : decode cX10_laySignal 72 = .ok (.iconst 1, 1) := by decide +kernel
theorem dX10_laySignal_73 : decode cX10_laySignal 73 = .ok (.if_icmp .ne 18, 3) := by decide +kernel
theorem dX10_laySignal_76 : decode cX10_laySignal 76 = .ok (.aload_n 0, 1) := by decide +kernel
theorem dX10_laySignal_77 : decode cX10_laySignal 77 = .ok (.iload_n 2, 1) := by decide +kernel
theorem dX10_laySignal_78 : decode cX10_laySignal 78 = .ok (.iload_n 2, 1) := by decide +kernel
theorem dX10_laySignal_79 : decode cX10_laySignal 79 = .ok (.invokevirtual 235, 3) := by decide +kernel
theorem dX10_laySignal_82 : decode cX10_laySignal 82 = .ok (.ifCond .ne 9, 3) := by decide +kernel
theorem dX10_laySignal_85 : decode cX10_laySignal 85 = .ok (.aload_n 0, 1) := by decide +kernel
theorem dX10_laySignal_86 : decode cX10_laySignal 86 = .ok (.iload_n 2, 1) := by decide +kernel
theorem dX10_laySignal_87 : decode cX10_laySignal 87 = .ok (.iload_n 2, 1) := by decide +kernel
theorem dX10_laySignal_88 : decode cX10_laySignal 88 = .ok (.invokevirtual 238, 3) := by decide +kernel
theorem dX10_laySignal_91 : decode cX10_laySignal 91 = .ok (.iinc 2 1, 3) := by decide +kernel
theorem dX10_laySignal_94 : decode cX10_laySignal 94 = .ok (.goto (-36), 3) := by decide +kernel
theorem dX10_laySignal_97 : decode cX10_laySignal 97 = .ok (.iconst 0, 1) := by decide +kernel
theorem dX10_laySignal_98 : decode cX10_laySignal 98 = .ok (.istore_n 2, 1) := by decide +kernel
theorem dX10_laySignal_99 : decode cX10_laySignal 99 = .ok (.iload_n 2, 1) := by decide +kernel
theorem dX10_laySignal_100 : decode cX10_laySignal 100 = .ok (.aload_n 0, 1) := by decide +kernel
theorem dX10_laySignal_101 : decode cX10_laySignal 101 = .ok (.invokevirtual 211, 3) := by decide +kernel
theorem dX10_laySignal_104 : decode cX10_laySignal 104 = .ok (.if_icmp .ge 14, 3) := by decide +kernel
theorem dX10_laySignal_107 : decode cX10_laySignal 107 = .ok (.aload_n 0, 1) := by decide +kernel
theorem dX10_laySignal_108 : decode cX10_laySignal 108 = .ok (.iload_n 2, 1) := by decide +kernel
theorem dX10_laySignal_109 : decode cX10_laySignal 109 = .ok (.invokevirtual 247, 3) := by decide +kernel
theorem dX10_laySignal_112 : decode cX10_laySignal 112 = .ok (.iinc 2 1, 3) := by decide +kernel
theorem dX10_laySignal_115 : decode cX10_laySignal 115 = .ok (.goto (-16), 3) := by decide +kernel
theorem dX10_laySignal_118 : decode cX10_laySignal 118 = .ok (.return_, 1) := by decide +kernel
theorem dX10_asksAll_0 : decode cX10_asksAll 0 = .ok (.iconst 0, 1) := by decide +kernel
theorem dX10_asksAll_1 : decode cX10_asksAll 1 = .ok (.istore_n 1, 1) := by decide +kernel
theorem dX10_asksAll_2 : decode cX10_asksAll 2 = .ok (.iconst 0, 1) := by decide +kernel
theorem dX10_asksAll_3 : decode cX10_asksAll 3 = .ok (.istore_n 2, 1) := by decide +kernel
theorem dX10_asksAll_4 : decode cX10_asksAll 4 = .ok (.iload_n 2, 1) := by decide +kernel
theorem dX10_asksAll_5 : decode cX10_asksAll 5 = .ok (.aload_n 0, 1) := by decide +kernel
theorem dX10_asksAll_6 : decode cX10_asksAll 6 = .ok (.getfield 232, 3) := by decide +kernel
theorem dX10_asksAll_9 : decode cX10_asksAll 9 = .ok (.if_icmp .ge 26, 3) := by decide +kernel
theorem dX10_asksAll_12 : decode cX10_asksAll 12 = .ok (.iload_n 1, 1) := by decide +kernel
theorem dX10_asksAll_13 : decode cX10_asksAll 13 = .ok (.aload_n 0, 1) := by decide +kernel
theorem dX10_asksAll_14 : decode cX10_asksAll 14 = .ok (.getfield 51, 3) := by decide +kernel
theorem dX10_asksAll_17 : decode cX10_asksAll 17 = .ok (.aload_n 0, 1) := by decide +kernel
theorem dX10_asksAll_18 : decode cX10_asksAll 18 = .ok (.getfield 57, 3) := by decide +kernel
theorem dX10_asksAll_21 : decode cX10_asksAll 21 = .ok (.iload_n 2, 1) := by decide +kernel
theorem dX10_asksAll_22 : decode cX10_asksAll 22 = .ok (.iaload, 1) := by decide +kernel
theorem dX10_asksAll_23 : decode cX10_asksAll 23 = .ok (.iaload, 1) := by decide +kernel
theorem dX10_asksAll_24 : decode cX10_asksAll 24 = .ok (.invokestatic 190, 3) := by decide +kernel
theorem dX10_asksAll_27 : decode cX10_asksAll 27 = .ok (.iadd, 1) := by decide +kernel
theorem dX10_asksAll_28 : decode cX10_asksAll 28 = .ok (.istore_n 1, 1) := by decide +kernel
theorem dX10_asksAll_29 : decode cX10_asksAll 29 = .ok (.iinc 2 1, 3) := by decide +kernel
theorem dX10_asksAll_32 : decode cX10_asksAll 32 = .ok (.goto (-28), 3) := by decide +kernel
theorem dX10_asksAll_35 : decode cX10_asksAll 35 = .ok (.iload_n 1, 1) := by decide +kernel
theorem dX10_asksAll_36 : decode cX10_asksAll 36 = .ok (.ireturn, 1) := by decide +kernel
theorem dX10_wantsMany_0 : decode cX10_wantsMany 0 = .ok (.iconst 0, 1) := by decide +kernel
theorem dX10_wantsMany_1 : decode cX10_wantsMany 1 = .ok (.istore_n 2, 1) := by decide +kernel
theorem dX10_wantsMany_2 : decode cX10_wantsMany 2 = .ok (.iconst 0, 1) := by decide +kernel
theorem dX10_wantsMany_3 : decode cX10_wantsMany 3 = .ok (.istore_n 3, 1) := by decide +kernel
theorem dX10_wantsMany_4 : decode cX10_wantsMany 4 = .ok (.iload_n 3, 1) := by decide +kernel
theorem dX10_wantsMany_5 : decode cX10_wantsMany 5 = .ok (.aload_n 0, 1) := by decide +kernel
theorem dX10_wantsMany_6 : decode cX10_wantsMany 6 = .ok (.invokevirtual 211, 3) := by decide +kernel
theorem dX10_wantsMany_9 : decode cX10_wantsMany 9 = .ok (.if_icmp .ge 27, 3) := by decide +kernel
theorem dX10_wantsMany_12 : decode cX10_wantsMany 12 = .ok (.iload_n 2, 1) := by decide +kernel
theorem dX10_wantsMany_13 : decode cX10_wantsMany 13 = .ok (.aload_n 0, 1) := by decide +kernel
theorem dX10_wantsMany_14 : decode cX10_wantsMany 14 = .ok (.getfield 48, 3) := by decide +kernel
theorem dX10_wantsMany_17 : decode cX10_wantsMany 17 = .ok (.iload_n 3, 1) := by decide +kernel
theorem dX10_wantsMany_18 : decode cX10_wantsMany 18 = .ok (.iaload, 1) := by decide +kernel
theorem dX10_wantsMany_19 : decode cX10_wantsMany 19 = .ok (.iload_n 1, 1) := by decide +kernel
theorem dX10_wantsMany_20 : decode cX10_wantsMany 20 = .ok (.if_icmp .ne 7, 3) := by decide +kernel
theorem dX10_wantsMany_23 : decode cX10_wantsMany 23 = .ok (.iconst 1, 1) := by decide +kernel
theorem dX10_wantsMany_24 : decode cX10_wantsMany 24 = .ok (.goto 4, 3) := by decide +kernel
theorem dX10_wantsMany_27 : decode cX10_wantsMany 27 = .ok (.iconst 0, 1) := by decide +kernel
theorem dX10_wantsMany_28 : decode cX10_wantsMany 28 = .ok (.iadd, 1) := by decide +kernel
theorem dX10_wantsMany_29 : decode cX10_wantsMany 29 = .ok (.istore_n 2, 1) := by decide +kernel
theorem dX10_wantsMany_30 : decode cX10_wantsMany 30 = .ok (.iinc 3 1, 3) := by decide +kernel
theorem dX10_wantsMany_33 : decode cX10_wantsMany 33 = .ok (.goto (-29), 3) := by decide +kernel
theorem dX10_wantsMany_36 : decode cX10_wantsMany 36 = .ok (.iload_n 2, 1) := by decide +kernel
theorem dX10_wantsMany_37 : decode cX10_wantsMany 37 = .ok (.ireturn, 1) := by decide +kernel
theorem dX10_logicNow_0 : decode cX10_logicNow 0 = .ok (.aload_n 0, 1) := by decide +kernel
theorem dX10_logicNow_1 : decode cX10_logicNow 1 = .ok (.iload_n 1, 1) := by decide +kernel
theorem dX10_logicNow_2 : decode cX10_logicNow 2 = .ok (.invokevirtual 251, 3) := by decide +kernel
theorem dX10_logicNow_5 : decode cX10_logicNow 5 = .ok (.iload_n 2, 1) := by decide +kernel
theorem dX10_logicNow_6 : decode cX10_logicNow 6 = .ok (.tableswitch 60 0 4 #[34, 39, 44, 49, 54], 34) := by decide +kernel
theorem dX10_logicNow_40 : decode cX10_logicNow 40 = .ok (.aload_n 0, 1) := by decide +kernel
theorem dX10_logicNow_41 : decode cX10_logicNow 41 = .ok (.getfield 226, 3) := by decide +kernel
theorem dX10_logicNow_44 : decode cX10_logicNow 44 = .ok (.ireturn, 1) := by decide +kernel
