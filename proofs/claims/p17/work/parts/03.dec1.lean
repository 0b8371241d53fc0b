theorem dX4_ofSum_19 : decode cX4_ofSum 19 = .ok (.iload_n 2, 1) := by decide +kernel
theorem dX4_ofSum_20 : decode cX4_ofSum 20 = .ok (.invokevirtual 67, 3) := by decide +kernel
theorem dX4_ofSum_23 : decode cX4_ofSum 23 = .ok (.goto 6, 3) := by decide +kernel
theorem dX4_ofSum_26 : decode cX4_ofSum 26 = .ok (.sipush (-1001), 3) := by decide +kernel
theorem dX4_ofSum_29 : decode cX4_ofSum 29 = .ok (.ireturn, 1) := by decide +kernel
theorem dX4_ofWide_0 : decode cX4_ofWide 0 = .ok (.iload_n 1, 1) := by decide +kernel
theorem dX4_ofWide_1 : decode cX4_ofWide 1 = .ok (.ifCond .lt 11, 3) := by decide +kernel
theorem dX4_ofWide_4 : decode cX4_ofWide 4 = .ok (.iload_n 1, 1) := by decide +kernel
theorem dX4_ofWide_5 : decode cX4_ofWide 5 = .ok (.aload_n 0, 1) := by decide +kernel
theorem dX4_ofWide_6 : decode cX4_ofWide 6 = .ok (.getfield 21, 3) := by decide +kernel
theorem dX4_ofWide_9 : decode cX4_ofWide 9 = .ok (.if_icmp .lt 7, 3) := by decide +kernel
theorem dX4_ofWide_12 : decode cX4_ofWide 12 = .ok (.sipush (-1001), 3) := by decide +kernel
theorem dX4_ofWide_15 : decode cX4_ofWide 15 = .ok (.ireturn, 1) := by decide +kernel
theorem dX4_ofWide_16 : decode cX4_ofWide 16 = .ok (.iload_n 2, 1) := by decide +kernel
theorem dX4_ofWide_17 : decode cX4_ofWide 17 = .ok (.ifCond .ne 10, 3) := by decide +kernel
theorem dX4_ofWide_20 : decode cX4_ofWide 20 = .ok (.aload_n 0, 1) := by decide +kernel
theorem dX4_ofWide_21 : decode cX4_ofWide 21 = .ok (.getfield 11, 3) := by decide +kernel
theorem dX4_ofWide_24 : decode cX4_ofWide 24 = .ok (.iload_n 1, 1) := by decide +kernel
theorem dX4_ofWide_25 : decode cX4_ofWide 25 = .ok (.iaload, 1) := by decide +kernel
theorem dX4_ofWide_26 : decode cX4_ofWide 26 = .ok (.ireturn, 1) := by decide +kernel
theorem dX4_ofWide_27 : decode cX4_ofWide 27 = .ok (.iload_n 2, 1) := by decide +kernel
theorem dX4_ofWide_28 : decode cX4_ofWide 28 = .ok (.iconst 1, 1) := by decide +kernel
theorem dX4_ofWide_29 : decode cX4_ofWide 29 = .ok (.if_icmp .ne 12, 3) := by decide +kernel
theorem dX4_ofWide_32 : decode cX4_ofWide 32 = .ok (.aload_n 0, 1) := by decide +kernel
theorem dX4_ofWide_33 : decode cX4_ofWide 33 = .ok (.getfield 15, 3) := by decide +kernel
theorem dX4_ofWide_36 : decode cX4_ofWide 36 = .ok (.iload_n 1, 1) := by decide +kernel
theorem dX4_ofWide_37 : decode cX4_ofWide 37 = .ok (.iaload, 1) := by decide +kernel
theorem dX4_ofWide_38 : decode cX4_ofWide 38 = .ok (.goto 6, 3) := by decide +kernel
theorem dX4_ofWide_41 : decode cX4_ofWide 41 = .ok (.sipush (-1002), 3) := by decide +kernel
theorem dX4_ofWide_44 : decode cX4_ofWide 44 = .ok (.ireturn, 1) := by decide +kernel
theorem dX5_init_0 : decode cX5_init 0 = .ok (.aload_n 0, 1) := by decide +kernel
theorem dX5_init_1 : decode cX5_init 1 = .ok (.invokespecial 3, 3) := by decide +kernel
theorem dX5_init_4 : decode cX5_init 4 = .ok (.aload_n 0, 1) := by decide +kernel
theorem dX5_init_5 : decode cX5_init 5 = .ok (.bipush 40, 2) := by decide +kernel
theorem dX5_init_7 : decode cX5_init 7 = .ok (.newarray .char, 2) := by decide +kernel
theorem dX5_init_9 : decode cX5_init 9 = .ok (.putfield 9, 3) := by decide +kernel
theorem dX5_init_12 : decode cX5_init 12 = .ok (.return_, 1) := by decide +kernel
theorem dX5_append_0 : decode cX5_append 0 = .ok (.aload_n 0, 1) := by decide +kernel
theorem dX5_append_1 : decode cX5_append 1 = .ok (.getfield 15, 3) := by decide +kernel
theorem dX5_append_4 : decode cX5_append 4 = .ok (.bipush 40, 2) := by decide +kernel
theorem dX5_append_6 : decode cX5_append 6 = .ok (.if_icmp .lt 5, 3) := by decide +kernel
theorem dX5_append_9 : decode cX5_append 9 = .ok (.iconst 0, 1) := by decide +kernel
theorem dX5_append_10 : decode cX5_append 10 = .ok (.ireturn, 1) := by decide +kernel
theorem dX5_append_11 : decode cX5_append 11 = .ok (.aload_n 0, 1) := by decide +kernel
theorem dX5_append_12 : decode cX5_append 12 = .ok (.getfield 9, 3) := by decide +kernel
theorem dX5_append_15 : decode cX5_append 15 = .ok (.aload_n 0, 1) := by decide +kernel
theorem dX5_append_16 : decode cX5_append 16 = .ok (.getfield 15, 3) := by decide +kernel
theorem dX5_append_19 : decode cX5_append 19 = .ok (.iload_n 1, 1) := by decide +kernel
theorem dX5_append_20 : decode cX5_append 20 = .ok (.i2c, 1) := by decide +kernel
theorem dX5_append_21 : decode cX5_append 21 = .ok (.castore, 1) := by decide +kernel
theorem dX5_append_22 : decode cX5_append 22 = .ok (.aload_n 0, 1) := by decide +kernel
theorem dX5_append_23 : decode cX5_append 23 = .ok (.dup, 1) := by decide +kernel
theorem dX5_append_24 : decode cX5_append 24 = .ok (.getfield 15, 3) := by decide +kernel
theorem dX5_append_27 : decode cX5_append 27 = .ok (.iconst 1, 1) := by decide +kernel
theorem dX5_append_28 : decode cX5_append 28 = .ok (.iadd, 1) := by decide +kernel
theorem dX5_append_29 : decode cX5_append 29 = .ok (.putfield 15, 3) := by decide +kernel
theorem dX5_append_32 : decode cX5_append 32 = .ok (.iconst 1, 1) := by decide +kernel
theorem dX5_append_33 : decode cX5_append 33 = .ok (.ireturn, 1) := by decide +kernel
theorem dX5_at_0 : decode cX5_at 0 = .ok (.iload_n 1, 1) := by decide +kernel
theorem dX5_at_1 : decode cX5_at 1 = .ok (.ifCond .lt 20, 3) := by decide +kernel
theorem dX5_at_4 : decode cX5_at 4 = .ok (.iload_n 1, 1) := by decide +kernel
theorem dX5_at_5 : decode cX5_at 5 = .ok (.aload_n 0, 1) := by decide +kernel
theorem dX5_at_6 : decode cX5_at 6 = .ok (.getfield 15, 3) := by decide +kernel
theorem dX5_at_9 : decode cX5_at 9 = .ok (.if_icmp .ge 12, 3) := by decide +kernel
theorem dX5_at_12 : decode cX5_at 12 = .ok (.aload_n 0, 1) := by decide +kernel
theorem dX5_at_13 : decode cX5_at 13 = .ok (.getfield 9, 3) := by decide +kernel
theorem dX5_at_16 : decode cX5_at 16 = .ok (.iload_n 1, 1) := by decide +kernel
theorem dX5_at_17 : decode cX5_at 17 = .ok (.caload, 1) := by decide +kernel
theorem dX5_at_18 : decode cX5_at 18 = .ok (.goto 4, 3) := by decide +kernel
theorem dX5_at_21 : decode cX5_at 21 = .ok (.iconst 0, 1) := by decide +kernel
theorem dX5_at_22 : decode cX5_at 22 = .ok (.ireturn, 1) := by decide +kernel
theorem dX5_scan_0 : decode cX5_scan 0 = .ok (.aload_n 0, 1) := by decide +kernel
theorem dX5_scan_1 : decode cX5_scan 1 = .ok (.iconst 1, 1) := by decide +kernel
theorem dX5_scan_2 : decode cX5_scan 2 = .ok (.putfield 19, 3) := by decide +kernel
theorem dX5_scan_5 : decode cX5_scan 5 = .ok (.aload_n 0, 1) := by decide +kernel
theorem dX5_scan_6 : decode cX5_scan 6 = .ok (.iconst 0, 1) := by decide +kernel
theorem dX5_scan_7 : decode cX5_scan 7 = .ok (.putfield 22, 3) := by decide +kernel
theorem dX5_scan_10 : decode cX5_scan 10 = .ok (.aload_n 0, 1) := by decide +kernel
theorem dX5_scan_11 : decode cX5_scan 11 = .ok (.iconst 0, 1) := by decide +kernel
theorem dX5_scan_12 : decode cX5_scan 12 = .ok (.putfield 25, 3) := by decide +kernel
theorem dX5_scan_15 : decode cX5_scan 15 = .ok (.aload_n 0, 1) := by decide +kernel
theorem dX5_scan_16 : decode cX5_scan 16 = .ok (.iconst 0, 1) := by decide +kernel
theorem dX5_scan_17 : decode cX5_scan 17 = .ok (.putfield 28, 3) := by decide +kernel
theorem dX5_scan_20 : decode cX5_scan 20 = .ok (.aload_n 0, 1) := by decide +kernel
theorem dX5_scan_21 : decode cX5_scan 21 = .ok (.getfield 28, 3) := by decide +kernel
theorem dX5_scan_24 : decode cX5_scan 24 = .ok (.aload_n 0, 1) := by decide +kernel
theorem dX5_scan_25 : decode cX5_scan 25 = .ok (.getfield 15, 3) := by decide +kernel
theorem dX5_scan_28 : decode cX5_scan 28 = .ok (.if_icmp .ge 32, 3) := by decide +kernel
theorem dX5_scan_31 : decode cX5_scan 31 = .ok (.aload_n 0, 1) := by decide +kernel
theorem dX5_scan_32 : decode cX5_scan 32 = .ok (.aload_n 0, 1) := by decide +kernel
theorem dX5_scan_33 : decode cX5_scan 33 = .ok (.getfield 9, 3) := by decide +kernel
theorem dX5_scan_36 : decode cX5_scan 36 = .ok (.aload_n 0, 1) := by decide +kernel
theorem dX5_scan_37 : decode cX5_scan 37 = .ok (.getfield 28, 3) := by decide +kernel
theorem dX5_scan_40 : decode cX5_scan 40 = .ok (.caload, 1) := by decide +kernel
theorem dX5_scan_41 : decode cX5_scan 41 = .ok (.invokevirtual 31, 3) := by decide +kernel
theorem dX5_scan_44 : decode cX5_scan 44 = .ok (.ifCond .eq 16, 3) := by decide +kernel
theorem dX5_scan_47 : decode cX5_scan 47 = .ok (.aload_n 0, 1) := by decide +kernel
theorem dX5_scan_48 : decode cX5_scan 48 = .ok (.dup, 1) := by decide +kernel
theorem dX5_scan_49 : decode cX5_scan 49 = .ok (.getfield 28, 3) := by decide +kernel
theorem dX5_scan_52 : decode cX5_scan 52 = .ok (.iconst 1, 1) := by decide +kernel
theorem dX5_scan_53 : decode cX5_scan 53 = .ok (.iadd, 1) := by decide +kernel
theorem dX5_scan_54 : decode cX5_scan 54 = .ok (.putfield 28, 3) := by decide +kernel
theorem dX5_scan_57 : decode cX5_scan 57 = .ok (.goto (-37), 3) := by decide +kernel
theorem dX5_scan_60 : decode cX5_scan 60 = .ok (.return_, 1) := by decide +kernel
theorem dX5_fits_0 : decode cX5_fits 0 = .ok (.iload_n 1, 1) := by decide +kernel
theorem dX5_fits_1 : decode cX5_fits 1 = .ok (.bipush 59, 2) := by decide +kernel
theorem dX5_fits_3 : decode cX5_fits 3 = .ok (.if_icmp .ne 8, 3) := by decide +kernel
theorem dX5_fits_6 : decode cX5_fits 6 = .ok (.aload_n 0, 1) := by decide +kernel
theorem dX5_fits_7 : decode cX5_fits 7 = .ok (.invokevirtual 35, 3) := by decide +kernel
theorem dX5_fits_10 : decode cX5_fits 10 = .ok (.ireturn, 1) := by decide +kernel
theorem dX5_fits_11 : decode cX5_fits 11 = .ok (.iload_n 1, 1) := by decide +kernel
theorem dX5_fits_12 : decode cX5_fits 12 = .ok (.bipush 45, 2) := by decide +kernel
theorem dX5_fits_14 : decode cX5_fits 14 = .ok (.if_icmp .eq 13, 3) := by decide +kernel
theorem dX5_fits_17 : decode cX5_fits 17 = .ok (.iload_n 1, 1) := by decide +kernel
theorem dX5_fits_18 : decode cX5_fits 18 = .ok (.invokestatic 39, 3) := by decide +kernel
theorem dX5_fits_21 : decode cX5_fits 21 = .ok (.iconst (-1), 1) := by decide +kernel
theorem dX5_fits_22 : decode cX5_fits 22 = .ok (.if_icmp .ne 5, 3) := by decide +kernel
theorem dX5_fits_25 : decode cX5_fits 25 = .ok (.iconst 0, 1) := by decide +kernel
theorem dX5_fits_26 : decode cX5_fits 26 = .ok (.ireturn, 1) := by decide +kernel
theorem dX5_fits_27 : decode cX5_fits 27 = .ok (.aload_n 0, 1) := by decide +kernel
theorem dX5_fits_28 : decode cX5_fits 28 = .ok (.getfield 22, 3) := by decide +kernel
theorem dX5_fits_31 : decode cX5_fits 31 = .ok (.aload_n 0, 1) := by decide +kernel
theorem dX5_fits_32 : decode cX5_fits 32 = .ok (.getfield 19, 3) := by decide +kernel
theorem dX5_fits_35 : decode cX5_fits 35 = .ok (.iconst 1, 1) := by decide +kernel
theorem dX5_fits_36 : decode cX5_fits 36 = .ok (.if_icmp .ne 7, 3) := by decide +kernel
theorem dX5_fits_39 : decode cX5_fits 39 = .ok (.iconst 4, 1) := by decide +kernel
theorem dX5_fits_40 : decode cX5_fits 40 = .ok (.goto 7, 3) := by decide +kernel
theorem dX5_fits_43 : decode cX5_fits 43 = .ok (.aload_n 0, 1) := by decide +kernel
theorem dX5_fits_44 : decode cX5_fits 44 = .ok (.getfield 25, 3) := by decide +kernel
theorem dX5_fits_47 : decode cX5_fits 47 = .ok (.if_icmp .lt 5, 3) := by decide +kernel
theorem dX5_fits_50 : decode cX5_fits 50 = .ok (.iconst 0, 1) := by decide +kernel
theorem dX5_fits_51 : decode cX5_fits 51 = .ok (.ireturn, 1) := by decide +kernel
theorem dX5_fits_52 : decode cX5_fits 52 = .ok (.aload_n 0, 1) := by decide +kernel
theorem dX5_fits_53 : decode cX5_fits 53 = .ok (.dup, 1) := by decide +kernel
theorem dX5_fits_54 : decode cX5_fits 54 = .ok (.getfield 22, 3) := by decide +kernel
theorem dX5_fits_57 : decode cX5_fits 57 = .ok (.iconst 1, 1) := by decide +kernel
theorem dX5_fits_58 : decode cX5_fits 58 = .ok (.iadd, 1) := by decide +kernel
theorem dX5_fits_59 : decode cX5_fits 59 = .ok (.putfield 22, 3) := by decide +kernel
theorem dX5_fits_62 : decode cX5_fits 62 = .ok (.iconst 1, 1) := by decide +kernel
theorem dX5_fits_63 : decode cX5_fits 63 = .ok (.ireturn, 1) := by decide +kernel
theorem dX5_endsRow_0 : decode cX5_endsRow 0 = .ok (.aload_n 0, 1) := by decide +kernel
theorem dX5_endsRow_1 : decode cX5_endsRow 1 = .ok (.getfield 19, 3) := by decide +kernel
theorem dX5_endsRow_4 : decode cX5_endsRow 4 = .ok (.iconst 1, 1) := by decide +kernel
theorem dX5_endsRow_5 : decode cX5_endsRow 5 = .ok (.if_icmp .ne 19, 3) := by decide +kernel
theorem dX5_endsRow_8 : decode cX5_endsRow 8 = .ok (.aload_n 0, 1) := by decide +kernel
theorem dX5_endsRow_9 : decode cX5_endsRow 9 = .ok (.getfield 22, 3) := by decide +kernel
theorem dX5_endsRow_12 : decode cX5_endsRow 12 = .ok (.iconst 2, 1) := by decide +kernel
theorem dX5_endsRow_13 : decode cX5_endsRow 13 = .ok (.if_icmp .lt 7, 3) := by decide +kernel
theorem dX5_endsRow_16 : decode cX5_endsRow 16 = .ok (.iconst 1, 1) := by decide +kernel
theorem dX5_endsRow_17 : decode cX5_endsRow 17 = .ok (.goto 23, 3) := by decide +kernel
theorem dX5_endsRow_20 : decode cX5_endsRow 20 = .ok (.iconst 0, 1) := by decide +kernel
theorem dX5_endsRow_21 : decode cX5_endsRow 21 = .ok (.goto 19, 3) := by decide +kernel
theorem dX5_endsRow_24 : decode cX5_endsRow 24 = .ok (.aload_n 0, 1) := by decide +kernel
theorem dX5_endsRow_25 : decode cX5_endsRow 25 = .ok (.getfield 22, 3) := by decide +kernel
theorem dX5_endsRow_28 : decode cX5_endsRow 28 = .ok (.aload_n 0, 1) := by decide +kernel
theorem dX5_endsRow_29 : decode cX5_endsRow 29 = .ok (.getfield 25, 3) := by decide +kernel
theorem dX5_endsRow_32 : decode cX5_endsRow 32 = .ok (.if_icmp .ne 7, 3) := by decide +kernel
theorem dX5_endsRow_35 : decode cX5_endsRow 35 = .ok (.iconst 1, 1) := by decide +kernel
theorem dX5_endsRow_36 : decode cX5_endsRow 36 = .ok (.goto 4, 3) := by decide +kernel
theorem dX5_endsRow_39 : decode cX5_endsRow 39 = .ok (.iconst 0, 1) := by decide +kernel
theorem dX5_endsRow_40 : decode cX5_endsRow 40 = .ok (.istore_n 1, 1) := by decide +kernel
theorem dX5_endsRow_41 : decode cX5_endsRow 41 = .ok (.iload_n 1, 1) := by decide +kernel
theorem dX5_endsRow_42 : decode cX5_endsRow 42 = .ok (.ifCond .eq 12, 3) := by decide +kernel
theorem dX5_endsRow_45 : decode cX5_endsRow 45 = .ok (.aload_n 0, 1) := by decide +kernel
theorem dX5_endsRow_46 : decode cX5_endsRow 46 = .ok (.getfield 19, 3) := by decide +kernel
theorem dX5_endsRow_49 : decode cX5_endsRow 49 = .ok (.bipush 6, 2) := by decide +kernel
theorem dX5_endsRow_51 : decode cX5_endsRow 51 = .ok (.if_icmp .lt 5, 3) := by decide +kernel
theorem dX5_endsRow_54 : decode cX5_endsRow 54 = .ok (.iconst 0, 1) := by decide +kernel
theorem dX5_endsRow_55 : decode cX5_endsRow 55 = .ok (.ireturn, 1) := by decide +kernel
theorem dX5_endsRow_56 : decode cX5_endsRow 56 = .ok (.aload_n 0, 1) := by decide +kernel
theorem dX5_endsRow_57 : decode cX5_endsRow 57 = .ok (.aload_n 0, 1) := by decide +kernel
theorem dX5_endsRow_58 : decode cX5_endsRow 58 = .ok (.getfield 22, 3) := by decide +kernel
theorem dX5_endsRow_61 : decode cX5_endsRow 61 = .ok (.putfield 25, 3) := by decide +kernel
theorem dX5_endsRow_64 : decode cX5_endsRow 64 = .ok (.aload_n 0, 1) := by decide +kernel
theorem dX5_endsRow_65 : decode cX5_endsRow 65 = .ok (.dup, 1) := by decide +kernel
theorem dX5_endsRow_66 : decode cX5_endsRow 66 = .ok (.getfield 19, 3) := by decide +kernel
theorem dX5_endsRow_69 : decode cX5_endsRow 69 = .ok (.iconst 1, 1) := by decide +kernel
theorem dX5_endsRow_70 : decode cX5_endsRow 70 = .ok (.iadd, 1) := by decide +kernel
theorem dX5_endsRow_71 : decode cX5_endsRow 71 = .ok (.putfield 19, 3) := by decide +kernel
theorem dX5_endsRow_74 : decode cX5_endsRow 74 = .ok (.aload_n 0, 1) := by decide +kernel
theorem dX5_endsRow_75 : decode cX5_endsRow 75 = .ok (.iconst 0, 1) := by decide +kernel
theorem dX5_endsRow_76 : decode cX5_endsRow 76 = .ok (.putfield 22, 3) := by decide +kernel
theorem dX5_endsRow_79 : decode cX5_endsRow 79 = .ok (.iconst 1, 1) := by decide +kernel
theorem dX5_endsRow_80 : decode cX5_endsRow 80 = .ok (.ireturn, 1) := by decide +kernel
theorem dX5_isTable_0 : decode cX5_isTable 0 = .ok (.aload_n 0, 1) := by decide +kernel
theorem dX5_isTable_1 : decode cX5_isTable 1 = .ok (.getfield 28, 3) := by decide +kernel
theorem dX5_isTable_4 : decode cX5_isTable 4 = .ok (.aload_n 0, 1) := by decide +kernel
theorem dX5_isTable_5 : decode cX5_isTable 5 = .ok (.getfield 15, 3) := by decide +kernel
theorem dX5_isTable_8 : decode cX5_isTable 8 = .ok (.if_icmp .lt 22, 3) := by decide +kernel
theorem dX5_isTable_11 : decode cX5_isTable 11 = .ok (.aload_n 0, 1) := by decide +kernel
theorem dX5_isTable_12 : decode cX5_isTable 12 = .ok (.getfield 19, 3) := by decide +kernel
theorem dX5_isTable_15 : decode cX5_isTable 15 = .ok (.iconst 2, 1) := by decide +kernel
theorem dX5_isTable_16 : decode cX5_isTable 16 = .ok (.if_icmp .lt 14, 3) := by decide +kernel
theorem dX5_isTable_19 : decode cX5_isTable 19 = .ok (.aload_n 0, 1) := by decide +kernel
theorem dX5_isTable_20 : decode cX5_isTable 20 = .ok (.getfield 22, 3) := by decide +kernel
theorem dX5_isTable_23 : decode cX5_isTable 23 = .ok (.aload_n 0, 1) := by decide +kernel
theorem dX5_isTable_24 : decode cX5_isTable 24 = .ok (.getfield 25, 3) := by decide +kernel
theorem dX5_isTable_27 : decode cX5_isTable 27 = .ok (.if_icmp .eq 5, 3) := by decide +kernel
theorem dX5_isTable_30 : decode cX5_isTable 30 = .ok (.iconst 0, 1) := by decide +kernel
theorem dX5_isTable_31 : decode cX5_isTable 31 = .ok (.ireturn, 1) := by decide +kernel
theorem dX5_isTable_32 : decode cX5_isTable 32 = .ok (.iconst 0, 1) := by decide +kernel
theorem dX5_isTable_33 : decode cX5_isTable 33 = .ok (.istore_n 1, 1) := by decide +kernel
theorem dX5_isTable_34 : decode cX5_isTable 34 = .ok (.iload_n 1, 1) := by decide +kernel
theorem dX5_isTable_35 : decode cX5_isTable 35 = .ok (.aload_n 0, 1) := by decide +kernel
theorem dX5_isTable_36 : decode cX5_isTable 36 = .ok (.getfield 15, 3) := by decide +kernel
theorem dX5_isTable_39 : decode cX5_isTable 39 = .ok (.if_icmp .ge 27, 3) := by decide +kernel
theorem dX5_isTable_42 : decode cX5_isTable 42 = .ok (.aload_n 0, 1) := by decide +kernel
theorem dX5_isTable_43 : decode cX5_isTable 43 = .ok (.getfield 9, 3) := by decide +kernel
theorem dX5_isTable_46 : decode cX5_isTable 46 = .ok (.iload_n 1, 1) := by decide +kernel
theorem dX5_isTable_47 : decode cX5_isTable 47 = .ok (.caload, 1) := by decide +kernel
theorem dX5_isTable_48 : decode cX5_isTable 48 = .ok (.invokestatic 39, 3) := by decide +kernel
theorem dX5_isTable_51 : decode cX5_isTable 51 = .ok (.aload_n 0, 1) := by decide +kernel
theorem dX5_isTable_52 : decode cX5_isTable 52 = .ok (.getfield 19, 3) := by decide +kernel
theorem dX5_isTable_55 : decode cX5_isTable 55 = .ok (.if_icmp .lt 5, 3) := by decide +kernel
theorem dX5_isTable_58 : decode cX5_isTable 58 = .ok (.iconst 0, 1) := by decide +kernel
theorem dX5_isTable_59 : decode cX5_isTable 59 = .ok (.ireturn, 1) := by decide +kernel
theorem dX5_isTable_60 : decode cX5_isTable 60 = .ok (.iinc 1 1, 3) := by decide +kernel
theorem dX5_isTable_63 : decode cX5_isTable 63 = .ok (.goto (-29), 3) := by decide +kernel
theorem dX5_isTable_66 : decode cX5_isTable 66 = .ok (.iconst 1, 1) := by decide +kernel
theorem dX5_isTable_67 : decode cX5_isTable 67 = .ok (.ireturn, 1) := by decide +kernel
theorem dX5_stateAt_0 : decode cX5_stateAt 0 = .ok (.aload_n 0, 1) := by decide +kernel
theorem dX5_stateAt_1 : decode cX5_stateAt 1 = .ok (.iload_n 1, 1) := by decide +kernel
theorem dX5_stateAt_2 : decode cX5_stateAt 2 = .ok (.aload_n 0, 1) := by decide +kernel
theorem dX5_stateAt_3 : decode cX5_stateAt 3 = .ok (.getfield 25, 3) := by decide +kernel
theorem dX5_stateAt_6 : decode cX5_stateAt 6 = .ok (.iconst 1, 1) := by decide +kernel
theorem dX5_stateAt_7 : decode cX5_stateAt 7 = .ok (.iadd, 1) := by decide +kernel
theorem dX5_stateAt_8 : decode cX5_stateAt 8 = .ok (.imul, 1) := by decide +kernel
theorem dX5_stateAt_9 : decode cX5_stateAt 9 = .ok (.iload_n 2, 1) := by decide +kernel
theorem dX5_stateAt_10 : decode cX5_stateAt 10 = .ok (.iadd, 1) := by decide +kernel
theorem dX5_stateAt_11 : decode cX5_stateAt 11 = .ok (.invokevirtual 43, 3) := by decide +kernel
theorem dX5_stateAt_14 : decode cX5_stateAt 14 = .ok (.i2c, 1) := by decide +kernel
theorem dX5_stateAt_15 : decode cX5_stateAt 15 = .ok (.invokestatic 39, 3) := by decide +kernel
theorem dX5_stateAt_18 : decode cX5_stateAt 18 = .ok (.ireturn, 1) := by decide +kernel
theorem dX5_stateOf_0 : decode cX5_stateOf 0 = .ok (.iload_n 0, 1) := by decide +kernel
theorem dX5_stateOf_1 : decode cX5_stateOf 1 = .ok (.bipush 97, 2) := by decide +kernel
theorem dX5_stateOf_3 : decode cX5_stateOf 3 = .ok (.if_icmp .lt 16, 3) := by decide +kernel
theorem dX5_stateOf_6 : decode cX5_stateOf 6 = .ok (.iload_n 0, 1) := by decide +kernel
theorem dX5_stateOf_7 : decode cX5_stateOf 7 = .ok (.bipush 103, 2) := by decide +kernel
theorem dX5_stateOf_9 : decode cX5_stateOf 9 = .ok (.if_icmp .ge 10, 3) := by decide +kernel
theorem dX5_stateOf_12 : decode cX5_stateOf 12 = .ok (.iload_n 0, 1) := by decide +kernel
theorem dX5_stateOf_13 : decode cX5_stateOf 13 = .ok (.bipush 97, 2) := by decide +kernel
theorem dX5_stateOf_15 : decode cX5_stateOf 15 = .ok (.isub, 1) := by decide +kernel
theorem dX5_stateOf_16 : decode cX5_stateOf 16 = .ok (.goto 4, 3) := by decide +kernel
theorem dX5_stateOf_19 : decode cX5_stateOf 19 = .ok (.iconst (-1), 1) := by decide +kernel
theorem dX5_stateOf_20 : decode cX5_stateOf 20 = .ok (.ireturn, 1) := by decide +kernel
theorem dX6_init_0 : decode cX6_init 0 = .ok (.aload_n 0, 1) := by decide +kernel
theorem dX6_init_1 : decode cX6_init 1 = .ok (.invokespecial 3, 3) := by decide +kernel
theorem dX6_init_4 : decode cX6_init 4 = .ok (.aload_n 0, 1) := by decide +kernel
theorem dX6_init_5 : decode cX6_init 5 = .ok (.bipush 75, 2) := by decide +kernel
theorem dX6_init_7 : decode cX6_init 7 = .ok (.newarray .int, 2) := by decide +kernel
theorem dX6_init_9 : decode cX6_init 9 = .ok (.putfield 11, 3) := by decide +kernel
theorem dX6_init_12 : decode cX6_init 12 = .ok (.aload_n 0, 1) := by decide +kernel
theorem dX6_init_13 : decode cX6_init 13 = .ok (.bipush 75, 2) := by decide +kernel
theorem dX6_init_15 : decode cX6_init 15 = .ok (.newarray .int, 2) := by decide +kernel
theorem dX6_init_17 : decode cX6_init 17 = .ok (.putfield 15, 3) := by decide +kernel
theorem dX6_init_20 : decode cX6_init 20 = .ok (.return_, 1) := by decide +kernel
theorem dX6_empty_0 : decode cX6_empty 0 = .ok (.aload_n 0, 1) := by decide +kernel
theorem dX6_empty_1 : decode cX6_empty 1 = .ok (.iconst 0, 1) := by decide +kernel
theorem dX6_empty_2 : decode cX6_empty 2 = .ok (.putfield 18, 3) := by decide +kernel
theorem dX6_empty_5 : decode cX6_empty 5 = .ok (.return_, 1) := by decide +kernel
theorem dX6_lesser_0 : decode cX6_lesser 0 = .ok (.iload_n 1, 1) := by decide +kernel
theorem dX6_lesser_1 : decode cX6_lesser 1 = .ok (.ifCond .lt 20, 3) := by decide +kernel
theorem dX6_lesser_4 : decode cX6_lesser 4 = .ok (.iload_n 1, 1) := by decide +kernel
theorem dX6_lesser_5 : decode cX6_lesser 5 = .ok (.aload_n 0, 1) := by decide +kernel
theorem dX6_lesser_6 : decode cX6_lesser 6 = .ok (.getfield 18, 3) := by decide +kernel
theorem dX6_lesser_9 : decode cX6_lesser 9 = .ok (.if_icmp .ge 12, 3) := by decide +kernel
theorem dX6_lesser_12 : decode cX6_lesser 12 = .ok (.aload_n 0, 1) := by decide +kernel
theorem dX6_lesser_13 : decode cX6_lesser 13 = .ok (.getfield 11, 3) := by decide +kernel
theorem dX6_lesser_16 : decode cX6_lesser 16 = .ok (.iload_n 1, 1) := by decide +kernel
theorem dX6_lesser_17 : decode cX6_lesser 17 = .ok (.iaload, 1) := by decide +kernel
theorem dX6_lesser_18 : decode cX6_lesser 18 = .ok (.goto 4, 3) := by decide +kernel
theorem dX6_lesser_21 : decode cX6_lesser 21 = .ok (.iconst 0, 1) := by decide +kernel
theorem dX6_lesser_22 : decode cX6_lesser 22 = .ok (.ireturn, 1) := by decide +kernel
theorem dX6_greater_0 : decode cX6_greater 0 = .ok (.iload_n 1, 1) := by decide +kernel
theorem dX6_greater_1 : decode cX6_greater 1 = .ok (.ifCond .lt 20, 3) := by decide +kernel
theorem dX6_greater_4 : decode cX6_greater 4 = .ok (.iload_n 1, 1) := by decide +kernel
theorem dX6_greater_5 : decode cX6_greater 5 = .ok (.aload_n 0, 1) := by decide +kernel
theorem dX6_greater_6 : decode cX6_greater 6 = .ok (.getfield 18, 3) := by decide +kernel
theorem dX6_greater_9 : decode cX6_greater 9 = .ok (.if_icmp .ge 12, 3) := by decide +kernel
theorem dX6_greater_12 : decode cX6_greater 12 = .ok (.aload_n 0, 1) := by decide +kernel
theorem dX6_greater_13 : decode cX6_greater 13 = .ok (.getfield 15, 3) := by decide +kernel
theorem dX6_greater_16 : decode cX6_greater 16 = .ok (.iload_n 1, 1) := by decide +kernel
theorem dX6_greater_17 : decode cX6_greater 17 = .ok (.iaload, 1) := by decide +kernel
theorem dX6_greater_18 : decode cX6_greater 18 = .ok (.goto 4, 3) := by decide +kernel
theorem dX6_greater_21 : decode cX6_greater 21 = .ok (.iconst 0, 1) := by decide +kernel
theorem dX6_greater_22 : decode cX6_greater 22 = .ok (.ireturn, 1) := by decide +kernel
theorem dX6_gather_0 : decode cX6_gather 0 = .ok (.aload_n 0, 1) := by decide +kernel
theorem dX6_gather_1 : decode cX6_gather 1 = .ok (.invokevirtual 22, 3) := by decide +kernel
theorem dX6_gather_4 : decode cX6_gather 4 = .ok (.iconst 0, 1) := by decide +kernel
theorem dX6_gather_5 : decode cX6_gather 5 = .ok (.istore_n 2, 1) := by decide +kernel
theorem dX6_gather_6 : decode cX6_gather 6 = .ok (.iload_n 2, 1) := by decide +kernel
theorem dX6_gather_7 : decode cX6_gather 7 = .ok (.aload_n 1, 1) := by decide +kernel
theorem dX6_gather_8 : decode cX6_gather 8 = .ok (.getfield 25, 3) := by decide +kernel
theorem dX6_gather_11 : decode cX6_gather 11 = .ok (.if_icmp .ge 64, 3) := by decide +kernel
theorem dX6_gather_14 : decode cX6_gather 14 = .ok (.iload_n 2, 1) := by decide +kernel
theorem dX6_gather_15 : decode cX6_gather 15 = .ok (.iconst 1, 1) := by decide +kernel
theorem dX6_gather_16 : decode cX6_gather 16 = .ok (.iadd, 1) := by decide +kernel
theorem dX6_gather_17 : decode cX6_gather 17 = .ok (.istore_n 3, 1) := by decide +kernel
theorem dX6_gather_18 : decode cX6_gather 18 = .ok (.iload_n 3, 1) := by decide +kernel
theorem dX6_gather_19 : decode cX6_gather 19 = .ok (.aload_n 1, 1) := by decide +kernel
theorem dX6_gather_20 : decode cX6_gather 20 = .ok (.getfield 25, 3) := by decide +kernel
theorem dX6_gather_23 : decode cX6_gather 23 = .ok (.if_icmp .ge 46, 3) := by decide +kernel
theorem dX6_gather_26 : decode cX6_gather 26 = .ok (.aload_n 0, 1) := by decide +kernel
theorem dX6_gather_27 : decode cX6_gather 27 = .ok (.iconst 1, 1) := by decide +kernel
theorem dX6_gather_28 : decode cX6_gather 28 = .ok (.iload_n 2, 1) := by decide +kernel
theorem dX6_gather_29 : decode cX6_gather 29 = .ok (.ishl, 1) := by decide +kernel
theorem dX6_gather_30 : decode cX6_gather 30 = .ok (.iconst 1, 1) := by decide +kernel
theorem dX6_gather_31 : decode cX6_gather 31 = .ok (.iload_n 3, 1) := by decide +kernel
theorem dX6_gather_32 : decode cX6_gather 32 = .ok (.ishl, 1) := by decide +kernel
theorem dX6_gather_33 : decode cX6_gather 33 = .ok (.invokevirtual 30, 3) := by decide +kernel
theorem dX6_gather_36 : decode cX6_gather 36 = .ok (.iconst 0, 1) := by decide +kernel
theorem dX6_gather_37 : decode cX6_gather 37 = .ok (.istore 4, 2) := by decide +kernel
theorem dX6_gather_39 : decode cX6_gather 39 = .ok (.iload 4, 2) := by decide +kernel
theorem dX6_gather_41 : decode cX6_gather 41 = .ok (.aload_n 1, 1) := by decide +kernel
theorem dX6_gather_42 : decode cX6_gather 42 = .ok (.getfield 34, 3) := by decide +kernel
theorem dX6_gather_45 : decode cX6_gather 45 = .ok (.if_icmp .ge 18, 3) := by decide +kernel
theorem dX6_gather_48 : decode cX6_gather 48 = .ok (.aload_n 0, 1) := by decide +kernel
theorem dX6_gather_49 : decode cX6_gather 49 = .ok (.aload_n 1, 1) := by decide +kernel
theorem dX6_gather_50 : decode cX6_gather 50 = .ok (.iload 4, 2) := by decide +kernel
theorem dX6_gather_52 : decode cX6_gather 52 = .ok (.iload_n 2, 1) := by decide +kernel
theorem dX6_gather_53 : decode cX6_gather 53 = .ok (.iload_n 3, 1) := by decide +kernel
theorem dX6_gather_54 : decode cX6_gather 54 = .ok (.invokevirtual 37, 3) := by decide +kernel
theorem dX6_gather_57 : decode cX6_gather 57 = .ok (.iinc 4 1, 3) := by decide +kernel
theorem dX6_gather_60 : decode cX6_gather 60 = .ok (.goto (-21), 3) := by decide +kernel
theorem dX6_gather_63 : decode cX6_gather 63 = .ok (.iinc 3 1, 3) := by decide +kernel
theorem dX6_gather_66 : decode cX6_gather 66 = .ok (.goto (-48), 3) := by decide +kernel
theorem dX6_gather_69 : decode cX6_gather 69 = .ok (.iinc 2 1, 3) := by decide +kernel
theorem dX6_gather_72 : decode cX6_gather 72 = .ok (.goto (-66), 3) := by decide +kernel
theorem dX6_gather_75 : decode cX6_gather 75 = .ok (.return_, 1) := by decide +kernel
theorem dX6_offerMoves_0 : decode cX6_offerMoves 0 = .ok (.aload_n 1, 1) := by decide +kernel
theorem dX6_offerMoves_1 : decode cX6_offerMoves 1 = .ok (.iload_n 3, 1) := by decide +kernel
theorem dX6_offerMoves_2 : decode cX6_offerMoves 2 = .ok (.iload_n 2, 1) := by decide +kernel
theorem dX6_offerMoves_3 : decode cX6_offerMoves 3 = .ok (.invokevirtual 41, 3) := by decide +kernel
theorem dX6_offerMoves_6 : decode cX6_offerMoves 6 = .ok (.istore 5, 2) := by decide +kernel
theorem dX6_offerMoves_8 : decode cX6_offerMoves 8 = .ok (.aload_n 1, 1) := by decide +kernel
theorem dX6_offerMoves_9 : decode cX6_offerMoves 9 = .ok (.iload 4, 2) := by decide +kernel
theorem dX6_offerMoves_11 : decode cX6_offerMoves 11 = .ok (.iload_n 2, 1) := by decide +kernel
theorem dX6_offerMoves_12 : decode cX6_offerMoves 12 = .ok (.invokevirtual 41, 3) := by decide +kernel
theorem dX6_offerMoves_15 : decode cX6_offerMoves 15 = .ok (.istore 6, 2) := by decide +kernel
theorem dX6_offerMoves_17 : decode cX6_offerMoves 17 = .ok (.iload 5, 2) := by decide +kernel
theorem dX6_offerMoves_19 : decode cX6_offerMoves 19 = .ok (.iconst (-1), 1) := by decide +kernel
theorem dX6_offerMoves_20 : decode cX6_offerMoves 20 = .ok (.if_icmp .eq 37, 3) := by decide +kernel
theorem dX6_offerMoves_23 : decode cX6_offerMoves 23 = .ok (.iload 6, 2) := by decide +kernel
theorem dX6_offerMoves_25 : decode cX6_offerMoves 25 = .ok (.iconst (-1), 1) := by decide +kernel
theorem dX6_offerMoves_26 : decode cX6_offerMoves 26 = .ok (.if_icmp .eq 31, 3) := by decide +kernel
theorem dX6_offerMoves_29 : decode cX6_offerMoves 29 = .ok (.iload 5, 2) := by decide +kernel
theorem dX6_offerMoves_31 : decode cX6_offerMoves 31 = .ok (.iload 6, 2) := by decide +kernel
theorem dX6_offerMoves_33 : decode cX6_offerMoves 33 = .ok (.if_icmp .eq 24, 3) := by decide +kernel
theorem dX6_offerMoves_36 : decode cX6_offerMoves 36 = .ok (.aload_n 0, 1) := by decide +kernel
theorem dX6_offerMoves_37 : decode cX6_offerMoves 37 = .ok (.iconst 1, 1) := by decide +kernel
theorem dX6_offerMoves_38 : decode cX6_offerMoves 38 = .ok (.iload_n 3, 1) := by decide +kernel
theorem dX6_offerMoves_39 : decode cX6_offerMoves 39 = .ok (.ishl, 1) := by decide +kernel
theorem dX6_offerMoves_40 : decode cX6_offerMoves 40 = .ok (.iconst 1, 1) := by decide +kernel
theorem dX6_offerMoves_41 : decode cX6_offerMoves 41 = .ok (.iload 5, 2) := by decide +kernel
theorem dX6_offerMoves_43 : decode cX6_offerMoves 43 = .ok (.ishl, 1) := by decide +kernel
theorem dX6_offerMoves_44 : decode cX6_offerMoves 44 = .ok (.ior, 1) := by decide +kernel
theorem dX6_offerMoves_45 : decode cX6_offerMoves 45 = .ok (.iconst 1, 1) := by decide +kernel
theorem dX6_offerMoves_46 : decode cX6_offerMoves 46 = .ok (.iload 4, 2) := by decide +kernel
theorem dX6_offerMoves_48 : decode cX6_offerMoves 48 = .ok (.ishl, 1) := by decide +kernel
theorem dX6_offerMoves_49 : decode cX6_offerMoves 49 = .ok (.iconst 1, 1) := by decide +kernel
theorem dX6_offerMoves_50 : decode cX6_offerMoves 50 = .ok (.iload 6, 2) := by decide +kernel
theorem dX6_offerMoves_52 : decode cX6_offerMoves 52 = .ok (.ishl, 1) := by decide +kernel
theorem dX6_offerMoves_53 : decode cX6_offerMoves 53 = .ok (.ior, 1) := by decide +kernel
theorem dX6_offerMoves_54 : decode cX6_offerMoves 54 = .ok (.invokevirtual 30, 3) := by decide +kernel
theorem dX6_offerMoves_57 : decode cX6_offerMoves 57 = .ok (.return_, 1) := by decide +kernel
theorem dX6_offer_0 : decode cX6_offer 0 = .ok (.iload_n 1, 1) := by decide +kernel
theorem dX6_offer_1 : decode cX6_offer 1 = .ok (.iload_n 2, 1) := by decide +kernel
theorem dX6_offer_2 : decode cX6_offer 2 = .ok (.invokestatic 45, 3) := by decide +kernel
theorem dX6_offer_5 : decode cX6_offer 5 = .ok (.istore_n 3, 1) := by decide +kernel
theorem dX6_offer_6 : decode cX6_offer 6 = .ok (.iload_n 1, 1) := by decide +kernel
theorem dX6_offer_7 : decode cX6_offer 7 = .ok (.iload_n 2, 1) := by decide +kernel
theorem dX6_offer_8 : decode cX6_offer 8 = .ok (.invokestatic 50, 3) := by decide +kernel
theorem dX6_offer_11 : decode cX6_offer 11 = .ok (.istore 4, 2) := by decide +kernel
theorem dX6_offer_13 : decode cX6_offer 13 = .ok (.iconst 0, 1) := by decide +kernel
theorem dX6_offer_14 : decode cX6_offer 14 = .ok (.istore 5, 2) := by decide +kernel
theorem dX6_offer_16 : decode cX6_offer 16 = .ok (.iload 5, 2) := by decide +kernel
theorem dX6_offer_18 : decode cX6_offer 18 = .ok (.aload_n 0, 1) := by decide +kernel
theorem dX6_offer_19 : decode cX6_offer 19 = .ok (.getfield 18, 3) := by decide +kernel
theorem dX6_offer_22 : decode cX6_offer 22 = .ok (.if_icmp .ge 33, 3) := by decide +kernel
theorem dX6_offer_25 : decode cX6_offer 25 = .ok (.iload_n 3, 1) := by decide +kernel
theorem dX6_offer_26 : decode cX6_offer 26 = .ok (.iload 4, 2) := by decide +kernel
theorem dX6_offer_28 : decode cX6_offer 28 = .ok (.aload_n 0, 1) := by decide +kernel
theorem dX6_offer_29 : decode cX6_offer 29 = .ok (.getfield 11, 3) := by decide +kernel
theorem dX6_offer_32 : decode cX6_offer 32 = .ok (.iload 5, 2) := by decide +kernel
theorem dX6_offer_34 : decode cX6_offer 34 = .ok (.iaload, 1) := by decide +kernel
theorem dX6_offer_35 : decode cX6_offer 35 = .ok (.aload_n 0, 1) := by decide +kernel
theorem dX6_offer_36 : decode cX6_offer 36 = .ok (.getfield 15, 3) := by decide +kernel
theorem dX6_offer_39 : decode cX6_offer 39 = .ok (.iload 5, 2) := by decide +kernel
theorem dX6_offer_41 : decode cX6_offer 41 = .ok (.iaload, 1) := by decide +kernel
theorem dX6_offer_42 : decode cX6_offer 42 = .ok (.invokestatic 53, 3) := by decide +kernel
theorem dX6_offer_45 : decode cX6_offer 45 = .ok (.ifCond .eq 4, 3) := by decide +kernel
theorem dX6_offer_48 : decode cX6_offer 48 = .ok (.return_, 1) := by decide +kernel
theorem dX6_offer_49 : decode cX6_offer 49 = .ok (.iinc 5 1, 3) := by decide +kernel
theorem dX6_offer_52 : decode cX6_offer 52 = .ok (.goto (-36), 3) := by decide +kernel
theorem dX6_offer_55 : decode cX6_offer 55 = .ok (.aload_n 0, 1) := by decide +kernel
theorem dX6_offer_56 : decode cX6_offer 56 = .ok (.iload_n 3, 1) := by decide +kernel
theorem dX6_offer_57 : decode cX6_offer 57 = .ok (.iload 4, 2) := by decide +kernel
theorem dX6_offer_59 : decode cX6_offer 59 = .ok (.invokevirtual 57, 3) := by decide +kernel
theorem dX6_offer_62 : decode cX6_offer 62 = .ok (.aload_n 0, 1) := by decide +kernel
theorem dX6_offer_63 : decode cX6_offer 63 = .ok (.iload_n 3, 1) := by decide +kernel
theorem dX6_offer_64 : decode cX6_offer 64 = .ok (.iload 4, 2) := by decide +kernel
theorem dX6_offer_66 : decode cX6_offer 66 = .ok (.invokevirtual 60, 3) := by decide +kernel
theorem dX6_offer_69 : decode cX6_offer 69 = .ok (.return_, 1) := by decide +kernel
theorem dX6_dropInside_0 : decode cX6_dropInside 0 = .ok (.iconst 0, 1) := by decide +kernel
theorem dX6_dropInside_1 : decode cX6_dropInside 1 = .ok (.istore_n 3, 1) := by decide +kernel
theorem dX6_dropInside_2 : decode cX6_dropInside 2 = .ok (.iconst 0, 1) := by decide +kernel
theorem dX6_dropInside_3 : decode cX6_dropInside 3 = .ok (.istore 4, 2) := by decide +kernel
theorem dX6_dropInside_5 : decode cX6_dropInside 5 = .ok (.iload 4, 2) := by decide +kernel
theorem dX6_dropInside_7 : decode cX6_dropInside 7 = .ok (.aload_n 0, 1) := by decide +kernel
theorem dX6_dropInside_8 : decode cX6_dropInside 8 = .ok (.getfield 18, 3) := by decide +kernel
theorem dX6_dropInside_11 : decode cX6_dropInside 11 = .ok (.if_icmp .ge 60, 3) := by decide +kernel
theorem dX6_dropInside_14 : decode cX6_dropInside 14 = .ok (.aload_n 0, 1) := by decide +kernel
theorem dX6_dropInside_15 : decode cX6_dropInside 15 = .ok (.getfield 11, 3) := by decide +kernel
theorem dX6_dropInside_18 : decode cX6_dropInside 18 = .ok (.iload 4, 2) := by decide +kernel
theorem dX6_dropInside_20 : decode cX6_dropInside 20 = .ok (.iaload, 1) := by decide +kernel
theorem dX6_dropInside_21 : decode cX6_dropInside 21 = .ok (.aload_n 0, 1) := by decide +kernel
theorem dX6_dropInside_22 : decode cX6_dropInside 22 = .ok (.getfield 15, 3) := by decide +kernel
theorem dX6_dropInside_25 : decode cX6_dropInside 25 = .ok (.iload 4, 2) := by decide +kernel
theorem dX6_dropInside_27 : decode cX6_dropInside 27 = .ok (.iaload, 1) := by decide +kernel
theorem dX6_dropInside_28 : decode cX6_dropInside 28 = .ok (.iload_n 1, 1) := by decide +kernel
theorem dX6_dropInside_29 : decode cX6_dropInside 29 = .ok (.iload_n 2, 1) := by decide +kernel
theorem dX6_dropInside_30 : decode cX6_dropInside 30 = .ok (.invokestatic 53, 3) := by decide +kernel
theorem dX6_dropInside_33 : decode cX6_dropInside 33 = .ok (.ifCond .ne 32, 3) := by decide +kernel
theorem dX6_dropInside_36 : decode cX6_dropInside 36 = .ok (.aload_n 0, 1) := by decide +kernel
theorem dX6_dropInside_37 : decode cX6_dropInside 37 = .ok (.getfield 11, 3) := by decide +kernel
theorem dX6_dropInside_40 : decode cX6_dropInside 40 = .ok (.iload_n 3, 1) := by decide +kernel
theorem dX6_dropInside_41 : decode cX6_dropInside 41 = .ok (.aload_n 0, 1) := by decide +kernel
theorem dX6_dropInside_42 : decode cX6_dropInside 42 = .ok (.getfield 11, 3) := by decide +kernel
theorem dX6_dropInside_45 : decode cX6_dropInside 45 = .ok (.iload 4, 2) := by decide +kernel
theorem dX6_dropInside_47 : decode cX6_dropInside 47 = .ok (.iaload, 1) := by decide +kernel
theorem dX6_dropInside_48 : decode cX6_dropInside 48 = .ok (.iastore, 1) := by decide +kernel
theorem dX6_dropInside_49 : decode cX6_dropInside 49 = .ok (.aload_n 0, 1) := by decide +kernel
theorem dX6_dropInside_50 : decode cX6_dropInside 50 = .ok (.getfield 15, 3) := by decide +kernel
theorem dX6_dropInside_53 : decode cX6_dropInside 53 = .ok (.iload_n 3, 1) := by decide +kernel
theorem dX6_dropInside_54 : decode cX6_dropInside 54 = .ok (.aload_n 0, 1) := by decide +kernel
theorem dX6_dropInside_55 : decode cX6_dropInside 55 = .ok (.getfield 15, 3) := by decide +kernel
theorem dX6_dropInside_58 : decode cX6_dropInside 58 = .ok (.iload 4, 2) := by decide +kernel
theorem dX6_dropInside_60 : decode cX6_dropInside 60 = .ok (.iaload, 1) := by decide +kernel
theorem dX6_dropInside_61 : decode cX6_dropInside 61 = .ok (.iastore, 1) := by decide +kernel
theorem dX6_dropInside_62 : decode cX6_dropInside 62 = .ok (.iinc 3 1, 3) := by decide +kernel
theorem dX6_dropInside_65 : decode cX6_dropInside 65 = .ok (.iinc 4 1, 3) := by decide +kernel
theorem dX6_dropInside_68 : decode cX6_dropInside 68 = .ok (.goto (-63), 3) := by decide +kernel
theorem dX6_dropInside_71 : decode cX6_dropInside 71 = .ok (.aload_n 0, 1) := by decide +kernel
theorem dX6_dropInside_72 : decode cX6_dropInside 72 = .ok (.iload_n 3, 1) := by decide +kernel
theorem dX6_dropInside_73 : decode cX6_dropInside 73 = .ok (.putfield 18, 3) := by decide +kernel
theorem dX6_dropInside_76 : decode cX6_dropInside 76 = .ok (.return_, 1) := by decide +kernel
theorem dX6_insert_0 : decode cX6_insert 0 = .ok (.aload_n 0, 1) := by decide +kernel
theorem dX6_insert_1 : decode cX6_insert 1 = .ok (.getfield 18, 3) := by decide +kernel
theorem dX6_insert_4 : decode cX6_insert 4 = .ok (.bipush 75, 2) := by decide +kernel
theorem dX6_insert_6 : decode cX6_insert 6 = .ok (.if_icmp .lt 4, 3) := by decide +kernel
theorem dX6_insert_9 : decode cX6_insert 9 = .ok (.return_, 1) := by decide +kernel
theorem dX6_insert_10 : decode cX6_insert 10 = .ok (.aload_n 0, 1) := by decide +kernel
theorem dX6_insert_11 : decode cX6_insert 11 = .ok (.getfield 18, 3) := by decide +kernel
theorem dX6_insert_14 : decode cX6_insert 14 = .ok (.istore_n 3, 1) := by decide +kernel
theorem dX6_insert_15 : decode cX6_insert 15 = .ok (.iload_n 3, 1) := by decide +kernel
theorem dX6_insert_16 : decode cX6_insert 16 = .ok (.ifCond .le 49, 3) := by decide +kernel
theorem dX6_insert_19 : decode cX6_insert 19 = .ok (.aload_n 0, 1) := by decide +kernel
theorem dX6_insert_20 : decode cX6_insert 20 = .ok (.iload_n 3, 1) := by decide +kernel
theorem dX6_insert_21 : decode cX6_insert 21 = .ok (.iconst 1, 1) := by decide +kernel
theorem dX6_insert_22 : decode cX6_insert 22 = .ok (.isub, 1) := by decide +kernel
theorem dX6_insert_23 : decode cX6_insert 23 = .ok (.iload_n 1, 1) := by decide +kernel
theorem dX6_insert_24 : decode cX6_insert 24 = .ok (.iload_n 2, 1) := by decide +kernel
theorem dX6_insert_25 : decode cX6_insert 25 = .ok (.invokevirtual 63, 3) := by decide +kernel
theorem dX6_insert_28 : decode cX6_insert 28 = .ok (.ifCond .eq 37, 3) := by decide +kernel
theorem dX6_insert_31 : decode cX6_insert 31 = .ok (.aload_n 0, 1) := by decide +kernel
theorem dX6_insert_32 : decode cX6_insert 32 = .ok (.getfield 11, 3) := by decide +kernel
theorem dX6_insert_35 : decode cX6_insert 35 = .ok (.iload_n 3, 1) := by decide +kernel
theorem dX6_insert_36 : decode cX6_insert 36 = .ok (.aload_n 0, 1) := by decide +kernel
theorem dX6_insert_37 : decode cX6_insert 37 = .ok (.getfield 11, 3) := by decide +kernel
theorem dX6_insert_40 : decode cX6_insert 40 = .ok (.iload_n 3, 1) := by decide +kernel
theorem dX6_insert_41 : decode cX6_insert 41 = .ok (.iconst 1, 1) := by decide +kernel
theorem dX6_insert_42 : decode cX6_insert 42 = .ok (.isub, 1) := by decide +kernel
theorem dX6_insert_43 : decode cX6_insert 43 = .ok (.iaload, 1) := by decide +kernel
theorem dX6_insert_44 : decode cX6_insert 44 = .ok (.iastore, 1) := by decide +kernel
theorem dX6_insert_45 : decode cX6_insert 45 = .ok (.aload_n 0, 1) := by decide +kernel
theorem dX6_insert_46 : decode cX6_insert 46 = .ok (.getfield 15, 3) := by decide +kernel
theorem dX6_insert_49 : decode cX6_insert 49 = .ok (.iload_n 3, 1) := by decide +kernel
theorem dX6_insert_50 : decode cX6_insert 50 = .ok (.aload_n 0, 1) := by decide +kernel
theorem dX6_insert_51 : decode cX6_insert 51 = .ok (.getfield 15, 3) := by decide +kernel
theorem dX6_insert_54 : decode cX6_insert 54 = .ok (.iload_n 3, 1) := by decide +kernel
theorem dX6_insert_55 : decode cX6_insert 55 = .ok (.iconst 1, 1) := by decide +kernel
theorem dX6_insert_56 : decode cX6_insert 56 = .ok (.isub, 1) := by decide +kernel
theorem dX6_insert_57 : decode cX6_insert 57 = .ok (.iaload, 1) := by decide +kernel
theorem dX6_insert_58 : decode cX6_insert 58 = .ok (.iastore, 1) := by decide +kernel
theorem dX6_insert_59 : decode cX6_insert 59 = .ok (.iinc 3 (-1), 3) := by decide +kernel
theorem dX6_insert_62 : decode cX6_insert 62 = .ok (.goto (-47), 3) := by decide +kernel
theorem dX6_insert_65 : decode cX6_insert 65 = .ok (.aload_n 0, 1) := by decide +kernel
theorem dX6_insert_66 : decode cX6_insert 66 = .ok (.getfield 11, 3) := by decide +kernel
theorem dX6_insert_69 : decode cX6_insert 69 = .ok (.iload_n 3, 1) := by decide +kernel
theorem dX6_insert_70 : decode cX6_insert 70 = .ok (.iload_n 1, 1) := by decide +kernel
theorem dX6_insert_71 : decode cX6_insert 71 = .ok (.iastore, 1) := by decide +kernel
theorem dX6_insert_72 : decode cX6_insert 72 = .ok (.aload_n 0, 1) := by decide +kernel
theorem dX6_insert_73 : decode cX6_insert 73 = .ok (.getfield 15, 3) := by decide +kernel
theorem dX6_insert_76 : decode cX6_insert 76 = .ok (.iload_n 3, 1) := by decide +kernel
theorem dX6_insert_77 : decode cX6_insert 77 = .ok (.iload_n 2, 1) := by decide +kernel
theorem dX6_insert_78 : decode cX6_insert 78 = .ok (.iastore, 1) := by decide +kernel
theorem dX6_insert_79 : decode cX6_insert 79 = .ok (.aload_n 0, 1) := by decide +kernel
theorem dX6_insert_80 : decode cX6_insert 80 = .ok (.dup, 1) := by decide +kernel
theorem dX6_insert_81 : decode cX6_insert 81 = .ok (.getfield 18, 3) := by decide +kernel
theorem dX6_insert_84 : decode cX6_insert 84 = .ok (.iconst 1, 1) := by decide +kernel
theorem dX6_insert_85 : decode cX6_insert 85 = .ok (.iadd, 1) := by decide +kernel
theorem dX6_insert_86 : decode cX6_insert 86 = .ok (.putfield 18, 3) := by decide +kernel
theorem dX6_insert_89 : decode cX6_insert 89 = .ok (.return_, 1) := by decide +kernel
theorem dX6_isBehind_0 : decode cX6_isBehind 0 = .ok (.aload_n 0, 1) := by decide +kernel
theorem dX6_isBehind_1 : decode cX6_isBehind 1 = .ok (.getfield 11, 3) := by decide +kernel
theorem dX6_isBehind_4 : decode cX6_isBehind 4 = .ok (.iload_n 1, 1) := by decide +kernel
theorem dX6_isBehind_5 : decode cX6_isBehind 5 = .ok (.iaload, 1) := by decide +kernel
theorem dX6_isBehind_6 : decode cX6_isBehind 6 = .ok (.iload_n 2, 1) := by decide +kernel
theorem dX6_isBehind_7 : decode cX6_isBehind 7 = .ok (.if_icmp .gt 23, 3) := by decide +kernel
theorem dX6_isBehind_10 : decode cX6_isBehind 10 = .ok (.aload_n 0, 1) := by decide +kernel
theorem dX6_isBehind_11 : decode cX6_isBehind 11 = .ok (.getfield 11, 3) := by decide +kernel
theorem dX6_isBehind_14 : decode cX6_isBehind 14 = .ok (.iload_n 1, 1) := by decide +kernel
theorem dX6_isBehind_15 : decode cX6_isBehind 15 = .ok (.iaload, 1) := by decide +kernel
theorem dX6_isBehind_16 : decode cX6_isBehind 16 = .ok (.iload_n 2, 1) := by decide +kernel
theorem dX6_isBehind_17 : decode cX6_isBehind 17 = .ok (.if_icmp .ne 17, 3) := by decide +kernel
theorem dX6_isBehind_20 : decode cX6_isBehind 20 = .ok (.aload_n 0, 1) := by decide +kernel
theorem dX6_isBehind_21 : decode cX6_isBehind 21 = .ok (.getfield 15, 3) := by decide +kernel
theorem dX6_isBehind_24 : decode cX6_isBehind 24 = .ok (.iload_n 1, 1) := by decide +kernel
theorem dX6_isBehind_25 : decode cX6_isBehind 25 = .ok (.iaload, 1) := by decide +kernel
theorem dX6_isBehind_26 : decode cX6_isBehind 26 = .ok (.iload_n 3, 1) := by decide +kernel
theorem dX6_isBehind_27 : decode cX6_isBehind 27 = .ok (.if_icmp .le 7, 3) := by decide +kernel
theorem dX6_isBehind_30 : decode cX6_isBehind 30 = .ok (.iconst 1, 1) := by decide +kernel
theorem dX6_isBehind_31 : decode cX6_isBehind 31 = .ok (.goto 4, 3) := by decide +kernel
theorem dX6_isBehind_34 : decode cX6_isBehind 34 = .ok (.iconst 0, 1) := by decide +kernel
theorem dX6_isBehind_35 : decode cX6_isBehind 35 = .ok (.ireturn, 1) := by decide +kernel
theorem dX6_isInside_0 : decode cX6_isInside 0 = .ok (.iload_n 0, 1) := by decide +kernel
theorem dX6_isInside_1 : decode cX6_isInside 1 = .ok (.iload_n 2, 1) := by decide +kernel
theorem dX6_isInside_2 : decode cX6_isInside 2 = .ok (.iconst (-1), 1) := by decide +kernel
theorem dX6_isInside_3 : decode cX6_isInside 3 = .ok (.ixor, 1) := by decide +kernel
theorem dX6_isInside_4 : decode cX6_isInside 4 = .ok (.iand, 1) := by decide +kernel
theorem dX6_isInside_5 : decode cX6_isInside 5 = .ok (.ifCond .ne 11, 3) := by decide +kernel
theorem dX6_isInside_8 : decode cX6_isInside 8 = .ok (.iload_n 1, 1) := by decide +kernel
theorem dX6_isInside_9 : decode cX6_isInside 9 = .ok (.iload_n 3, 1) := by decide +kernel
theorem dX6_isInside_10 : decode cX6_isInside 10 = .ok (.iconst (-1), 1) := by decide +kernel
theorem dX6_isInside_11 : decode cX6_isInside 11 = .ok (.ixor, 1) := by decide +kernel
theorem dX6_isInside_12 : decode cX6_isInside 12 = .ok (.iand, 1) := by decide +kernel
theorem dX6_isInside_13 : decode cX6_isInside 13 = .ok (.ifCond .eq 19, 3) := by decide +kernel
theorem dX6_isInside_16 : decode cX6_isInside 16 = .ok (.iload_n 0, 1) := by decide +kernel
theorem dX6_isInside_17 : decode cX6_isInside 17 = .ok (.iload_n 3, 1) := by decide +kernel
theorem dX6_isInside_18 : decode cX6_isInside 18 = .ok (.iconst (-1), 1) := by decide +kernel
theorem dX6_isInside_19 : decode cX6_isInside 19 = .ok (.ixor, 1) := by decide +kernel
theorem dX6_isInside_20 : decode cX6_isInside 20 = .ok (.iand, 1) := by decide +kernel
theorem dX6_isInside_21 : decode cX6_isInside 21 = .ok (.ifCond .ne 15, 3) := by decide +kernel
theorem dX6_isInside_24 : decode cX6_isInside 24 = .ok (.iload_n 1, 1) := by decide +kernel
theorem dX6_isInside_25 : decode cX6_isInside 25 = .ok (.iload_n 2, 1) := by decide +kernel
theorem dX6_isInside_26 : decode cX6_isInside 26 = .ok (.iconst (-1), 1) := by decide +kernel
theorem dX6_isInside_27 : decode cX6_isInside 27 = .ok (.ixor, 1) := by decide +kernel
theorem dX6_isInside_28 : decode cX6_isInside 28 = .ok (.iand, 1) := by decide +kernel
theorem dX6_isInside_29 : decode cX6_isInside 29 = .ok (.ifCond .ne 7, 3) := by decide +kernel
theorem dX6_isInside_32 : decode cX6_isInside 32 = .ok (.iconst 1, 1) := by decide +kernel
theorem dX6_isInside_33 : decode cX6_isInside 33 = .ok (.goto 4, 3) := by decide +kernel
theorem dX6_isInside_36 : decode cX6_isInside 36 = .ok (.iconst 0, 1) := by decide +kernel
theorem dX6_isInside_37 : decode cX6_isInside 37 = .ok (.ireturn, 1) := by decide +kernel
theorem dX6_isKeptBy_0 : decode cX6_isKeptBy 0 = .ok (.iload_n 2, 1) := by decide +kernel
theorem dX6_isKeptBy_1 : decode cX6_isKeptBy 1 = .ok (.aload_n 0, 1) := by decide +kernel
theorem dX6_isKeptBy_2 : decode cX6_isKeptBy 2 = .ok (.iload_n 1, 1) := by decide +kernel
theorem dX6_isKeptBy_3 : decode cX6_isKeptBy 3 = .ok (.invokevirtual 67, 3) := by decide +kernel
theorem dX6_isKeptBy_6 : decode cX6_isKeptBy 6 = .ok (.iand, 1) := by decide +kernel
theorem dX6_isKeptBy_7 : decode cX6_isKeptBy 7 = .ok (.istore_n 3, 1) := by decide +kernel
theorem dX6_isKeptBy_8 : decode cX6_isKeptBy 8 = .ok (.iload_n 2, 1) := by decide +kernel
theorem dX6_isKeptBy_9 : decode cX6_isKeptBy 9 = .ok (.aload_n 0, 1) := by decide +kernel
theorem dX6_isKeptBy_10 : decode cX6_isKeptBy 10 = .ok (.iload_n 1, 1) := by decide +kernel
theorem dX6_isKeptBy_11 : decode cX6_isKeptBy 11 = .ok (.invokevirtual 71, 3) := by decide +kernel
theorem dX6_isKeptBy_14 : decode cX6_isKeptBy 14 = .ok (.iand, 1) := by decide +kernel
theorem dX6_isKeptBy_15 : decode cX6_isKeptBy 15 = .ok (.istore 4, 2) := by decide +kernel
theorem dX6_isKeptBy_17 : decode cX6_isKeptBy 17 = .ok (.iload_n 3, 1) := by decide +kernel
theorem dX6_isKeptBy_18 : decode cX6_isKeptBy 18 = .ok (.ifCond .ne 13, 3) := by decide +kernel
theorem dX6_isKeptBy_21 : decode cX6_isKeptBy 21 = .ok (.iload 4, 2) := by decide +kernel
theorem dX6_isKeptBy_23 : decode cX6_isKeptBy 23 = .ok (.aload_n 0, 1) := by decide +kernel
theorem dX6_isKeptBy_24 : decode cX6_isKeptBy 24 = .ok (.iload_n 1, 1) := by decide +kernel
theorem dX6_isKeptBy_25 : decode cX6_isKeptBy 25 = .ok (.invokevirtual 71, 3) := by decide +kernel
theorem dX6_isKeptBy_28 : decode cX6_isKeptBy 28 = .ok (.if_icmp .eq 17, 3) := by decide +kernel
theorem dX6_isKeptBy_31 : decode cX6_isKeptBy 31 = .ok (.iload 4, 2) := by decide +kernel
theorem dX6_isKeptBy_33 : decode cX6_isKeptBy 33 = .ok (.ifCond .ne 16, 3) := by decide +kernel
theorem dX6_isKeptBy_36 : decode cX6_isKeptBy 36 = .ok (.iload_n 3, 1) := by decide +kernel
theorem dX6_isKeptBy_37 : decode cX6_isKeptBy 37 = .ok (.aload_n 0, 1) := by decide +kernel
theorem dX6_isKeptBy_38 : decode cX6_isKeptBy 38 = .ok (.iload_n 1, 1) := by decide +kernel
theorem dX6_isKeptBy_39 : decode cX6_isKeptBy 39 = .ok (.invokevirtual 67, 3) := by decide +kernel
theorem dX6_isKeptBy_42 : decode cX6_isKeptBy 42 = .ok (.if_icmp .ne 7, 3) := by decide +kernel
theorem dX6_isKeptBy_45 : decode cX6_isKeptBy 45 = .ok (.iconst 1, 1) := by decide +kernel
theorem dX6_isKeptBy_46 : decode cX6_isKeptBy 46 = .ok (.goto 4, 3) := by decide +kernel
theorem dX6_isKeptBy_49 : decode cX6_isKeptBy 49 = .ok (.iconst 0, 1) := by decide +kernel
theorem dX6_isKeptBy_50 : decode cX6_isKeptBy 50 = .ok (.ireturn, 1) := by decide +kernel
theorem dX7_init_0 : decode cX7_init 0 = .ok (.aload_n 0, 1) := by decide +kernel
theorem dX7_init_1 : decode cX7_init 1 = .ok (.invokespecial 3, 3) := by decide +kernel
theorem dX7_init_4 : decode cX7_init 4 = .ok (.aload_n 0, 1) := by decide +kernel
theorem dX7_init_5 : decode cX7_init 5 = .ok (.iconst 5, 1) := by decide +kernel
theorem dX7_init_6 : decode cX7_init 6 = .ok (.newarray .int, 2) := by decide +kernel
theorem dX7_init_8 : decode cX7_init 8 = .ok (.putfield 9, 3) := by decide +kernel
theorem dX7_init_11 : decode cX7_init 11 = .ok (.aload_n 0, 1) := by decide +kernel
theorem dX7_init_12 : decode cX7_init 12 = .ok (.bipush 6, 2) := by decide +kernel
theorem dX7_init_14 : decode cX7_init 14 = .ok (.newarray .int, 2) := by decide +kernel
theorem dX7_init_16 : decode cX7_init 16 = .ok (.putfield 15, 3) := by decide +kernel
theorem dX7_init_19 : decode cX7_init 19 = .ok (.return_, 1) := by decide +kernel
theorem dX7_empty_0 : decode cX7_empty 0 = .ok (.aload_n 0, 1) := by decide +kernel
theorem dX7_empty_1 : decode cX7_empty 1 = .ok (.iconst 0, 1) := by decide +kernel
theorem dX7_empty_2 : decode cX7_empty 2 = .ok (.putfield 18, 3) := by decide +kernel
theorem dX7_empty_5 : decode cX7_empty 5 = .ok (.iconst 0, 1) := by decide +kernel
theorem dX7_empty_6 : decode cX7_empty 6 = .ok (.istore_n 1, 1) := by decide +kernel
theorem dX7_empty_7 : decode cX7_empty 7 = .ok (.iload_n 1, 1) := by decide +kernel
theorem dX7_empty_8 : decode cX7_empty 8 = .ok (.bipush 6, 2) := by decide +kernel
theorem dX7_empty_10 : decode cX7_empty 10 = .ok (.if_icmp .ge 16, 3) := by decide +kernel
theorem dX7_empty_13 : decode cX7_empty 13 = .ok (.aload_n 0, 1) := by decide +kernel
theorem dX7_empty_14 : decode cX7_empty 14 = .ok (.getfield 15, 3) := by decide +kernel
theorem dX7_empty_17 : decode cX7_empty 17 = .ok (.iload_n 1, 1) := by decide +kernel
theorem dX7_empty_18 : decode cX7_empty 18 = .ok (.iconst 0, 1) := by decide +kernel
theorem dX7_empty_19 : decode cX7_empty 19 = .ok (.iastore, 1) := by decide +kernel
theorem dX7_empty_20 : decode cX7_empty 20 = .ok (.iinc 1 1, 3) := by decide +kernel
theorem dX7_empty_23 : decode cX7_empty 23 = .ok (.goto (-16), 3) := by decide +kernel
theorem dX7_empty_26 : decode cX7_empty 26 = .ok (.return_, 1) := by decide +kernel
theorem dX7_add_0 : decode cX7_add 0 = .ok (.aload_n 0, 1) := by decide +kernel
theorem dX7_add_1 : decode cX7_add 1 = .ok (.getfield 18, 3) := by decide +kernel
theorem dX7_add_4 : decode cX7_add 4 = .ok (.iconst 5, 1) := by decide +kernel
theorem dX7_add_5 : decode cX7_add 5 = .ok (.if_icmp .lt 5, 3) := by decide +kernel
theorem dX7_add_8 : decode cX7_add 8 = .ok (.iconst 0, 1) := by decide +kernel
theorem dX7_add_9 : decode cX7_add 9 = .ok (.ireturn, 1) := by decide +kernel
theorem dX7_add_10 : decode cX7_add 10 = .ok (.aload_n 0, 1) := by decide +kernel
theorem dX7_add_11 : decode cX7_add 11 = .ok (.getfield 9, 3) := by decide +kernel
theorem dX7_add_14 : decode cX7_add 14 = .ok (.aload_n 0, 1) := by decide +kernel
theorem dX7_add_15 : decode cX7_add 15 = .ok (.getfield 18, 3) := by decide +kernel
theorem dX7_add_18 : decode cX7_add 18 = .ok (.iload_n 1, 1) := by decide +kernel
theorem dX7_add_19 : decode cX7_add 19 = .ok (.iastore, 1) := by decide +kernel
theorem dX7_add_20 : decode cX7_add 20 = .ok (.iconst 0, 1) := by decide +kernel
theorem dX7_add_21 : decode cX7_add 21 = .ok (.istore_n 2, 1) := by decide +kernel
theorem dX7_add_22 : decode cX7_add 22 = .ok (.iload_n 2, 1) := by decide +kernel
theorem dX7_add_23 : decode cX7_add 23 = .ok (.bipush 6, 2) := by decide +kernel
theorem dX7_add_25 : decode cX7_add 25 = .ok (.if_icmp .ge 28, 3) := by decide +kernel
theorem dX7_add_28 : decode cX7_add 28 = .ok (.aload_n 0, 1) := by decide +kernel
theorem dX7_add_29 : decode cX7_add 29 = .ok (.getfield 15, 3) := by decide +kernel
theorem dX7_add_32 : decode cX7_add 32 = .ok (.iload_n 2, 1) := by decide +kernel
theorem dX7_add_33 : decode cX7_add 33 = .ok (.dup2, 1) := by decide +kernel
theorem dX7_add_34 : decode cX7_add 34 = .ok (.iaload, 1) := by decide +kernel
theorem dX7_add_35 : decode cX7_add 35 = .ok (.iload_n 1, 1) := by decide +kernel
theorem dX7_add_36 : decode cX7_add 36 = .ok (.iload_n 2, 1) := by decide +kernel
theorem dX7_add_37 : decode cX7_add 37 = .ok (.ishr, 1) := by decide +kernel
theorem dX7_add_38 : decode cX7_add 38 = .ok (.iconst 1, 1) := by decide +kernel
theorem dX7_add_39 : decode cX7_add 39 = .ok (.iand, 1) := by decide +kernel
theorem dX7_add_40 : decode cX7_add 40 = .ok (.aload_n 0, 1) := by decide +kernel
theorem dX7_add_41 : decode cX7_add 41 = .ok (.getfield 18, 3) := by decide +kernel
theorem dX7_add_44 : decode cX7_add 44 = .ok (.ishl, 1) := by decide +kernel
theorem dX7_add_45 : decode cX7_add 45 = .ok (.ior, 1) := by decide +kernel
theorem dX7_add_46 : decode cX7_add 46 = .ok (.iastore, 1) := by decide +kernel
theorem dX7_add_47 : decode cX7_add 47 = .ok (.iinc 2 1, 3) := by decide +kernel
theorem dX7_add_50 : decode cX7_add 50 = .ok (.goto (-28), 3) := by decide +kernel
theorem dX7_add_53 : decode cX7_add 53 = .ok (.aload_n 0, 1) := by decide +kernel
theorem dX7_add_54 : decode cX7_add 54 = .ok (.dup, 1) := by decide +kernel
theorem dX7_add_55 : decode cX7_add 55 = .ok (.getfield 18, 3) := by decide +kernel
theorem dX7_add_58 : decode cX7_add 58 = .ok (.iconst 1, 1) := by decide +kernel
theorem dX7_add_59 : decode cX7_add 59 = .ok (.iadd, 1) := by decide +kernel
theorem dX7_add_60 : decode cX7_add 60 = .ok (.putfield 18, 3) := by decide +kernel
theorem dX7_add_63 : decode cX7_add 63 = .ok (.iconst 1, 1) := by decide +kernel
theorem dX7_add_64 : decode cX7_add 64 = .ok (.ireturn, 1) := by decide +kernel
theorem dX7_take_0 : decode cX7_take 0 = .ok (.aload_n 0, 1) := by decide +kernel
theorem dX7_take_1 : decode cX7_take 1 = .ok (.invokevirtual 22, 3) := by decide +kernel
theorem dX7_take_4 : decode cX7_take 4 = .ok (.iconst 0, 1) := by decide +kernel
theorem dX7_take_5 : decode cX7_take 5 = .ok (.istore_n 2, 1) := by decide +kernel
theorem dX7_take_6 : decode cX7_take 6 = .ok (.iload_n 2, 1) := by decide +kernel
theorem dX7_take_7 : decode cX7_take 7 = .ok (.aload_n 1, 1) := by decide +kernel
theorem dX7_take_8 : decode cX7_take 8 = .ok (.getfield 25, 3) := by decide +kernel
theorem dX7_take_11 : decode cX7_take 11 = .ok (.if_icmp .ge 20, 3) := by decide +kernel
theorem dX7_take_14 : decode cX7_take 14 = .ok (.aload_n 0, 1) := by decide +kernel
theorem dX7_take_15 : decode cX7_take 15 = .ok (.aload_n 1, 1) := by decide +kernel
theorem dX7_take_16 : decode cX7_take 16 = .ok (.getfield 28, 3) := by decide +kernel
theorem dX7_take_19 : decode cX7_take 19 = .ok (.iload_n 2, 1) := by decide +kernel
theorem dX7_take_20 : decode cX7_take 20 = .ok (.iaload, 1) := by decide +kernel
theorem dX7_take_21 : decode cX7_take 21 = .ok (.invokevirtual 29, 3) := by decide +kernel
theorem dX7_take_24 : decode cX7_take 24 = .ok (.pop, 1) := by decide +kernel
theorem dX7_take_25 : decode cX7_take 25 = .ok (.iinc 2 1, 3) := by decide +kernel
theorem dX7_take_28 : decode cX7_take 28 = .ok (.goto (-22), 3) := by decide +kernel
theorem dX7_take_31 : decode cX7_take 31 = .ok (.return_, 1) := by decide +kernel
theorem dX7_codeOf_0 : decode cX7_codeOf 0 = .ok (.iload_n 1, 1) := by decide +kernel
theorem dX7_codeOf_1 : decode cX7_codeOf 1 = .ok (.ifCond .lt 18, 3) := by decide +kernel
theorem dX7_codeOf_4 : decode cX7_codeOf 4 = .ok (.iload_n 1, 1) := by decide +kernel
theorem dX7_codeOf_5 : decode cX7_codeOf 5 = .ok (.bipush 6, 2) := by decide +kernel
theorem dX7_codeOf_7 : decode cX7_codeOf 7 = .ok (.if_icmp .ge 12, 3) := by decide +kernel
theorem dX7_codeOf_10 : decode cX7_codeOf 10 = .ok (.aload_n 0, 1) := by decide +kernel
theorem dX7_codeOf_11 : decode cX7_codeOf 11 = .ok (.getfield 15, 3) := by decide +kernel
theorem dX7_codeOf_14 : decode cX7_codeOf 14 = .ok (.iload_n 1, 1) := by decide +kernel
theorem dX7_codeOf_15 : decode cX7_codeOf 15 = .ok (.iaload, 1) := by decide +kernel
theorem dX7_codeOf_16 : decode cX7_codeOf 16 = .ok (.goto 4, 3) := by decide +kernel
theorem dX7_codeOf_19 : decode cX7_codeOf 19 = .ok (.iconst 0, 1) := by decide +kernel
theorem dX7_codeOf_20 : decode cX7_codeOf 20 = .ok (.ireturn, 1) := by decide +kernel
theorem dX7_changesBetween_0 : decode cX7_changesBetween 0 = .ok (.aload_n 0, 1) := by decide +kernel
theorem dX7_changesBetween_1 : decode cX7_changesBetween 1 = .ok (.iload_n 1, 1) := by decide +kernel
theorem dX7_changesBetween_2 : decode cX7_changesBetween 2 = .ok (.invokevirtual 33, 3) := by decide +kernel
theorem dX7_changesBetween_5 : decode cX7_changesBetween 5 = .ok (.aload_n 0, 1) := by decide +kernel
theorem dX7_changesBetween_6 : decode cX7_changesBetween 6 = .ok (.iload_n 2, 1) := by decide +kernel
theorem dX7_changesBetween_7 : decode cX7_changesBetween 7 = .ok (.invokevirtual 33, 3) := by decide +kernel
theorem dX7_changesBetween_10 : decode cX7_changesBetween 10 = .ok (.ixor, 1) := by decide +kernel
theorem dX7_changesBetween_11 : decode cX7_changesBetween 11 = .ok (.invokestatic 37, 3) := by decide +kernel
theorem dX7_changesBetween_14 : decode cX7_changesBetween 14 = .ok (.ireturn, 1) := by decide +kernel
theorem dX7_keepersOf_0 : decode cX7_keepersOf 0 = .ok (.iconst 0, 1) := by decide +kernel
theorem dX7_keepersOf_1 : decode cX7_keepersOf 1 = .ok (.istore_n 3, 1) := by decide +kernel
theorem dX7_keepersOf_2 : decode cX7_keepersOf 2 = .ok (.iconst 0, 1) := by decide +kernel
theorem dX7_keepersOf_3 : decode cX7_keepersOf 3 = .ok (.istore 4, 2) := by decide +kernel
theorem dX7_keepersOf_5 : decode cX7_keepersOf 5 = .ok (.iload 4, 2) := by decide +kernel
theorem dX7_keepersOf_7 : decode cX7_keepersOf 7 = .ok (.aload_n 0, 1) := by decide +kernel
theorem dX7_keepersOf_8 : decode cX7_keepersOf 8 = .ok (.getfield 18, 3) := by decide +kernel
theorem dX7_keepersOf_11 : decode cX7_keepersOf 11 = .ok (.if_icmp .ge 27, 3) := by decide +kernel
theorem dX7_keepersOf_14 : decode cX7_keepersOf 14 = .ok (.aload_n 1, 1) := by decide +kernel
theorem dX7_keepersOf_15 : decode cX7_keepersOf 15 = .ok (.iload_n 2, 1) := by decide +kernel
theorem dX7_keepersOf_16 : decode cX7_keepersOf 16 = .ok (.aload_n 0, 1) := by decide +kernel
theorem dX7_keepersOf_17 : decode cX7_keepersOf 17 = .ok (.getfield 9, 3) := by decide +kernel
theorem dX7_keepersOf_20 : decode cX7_keepersOf 20 = .ok (.iload 4, 2) := by decide +kernel
theorem dX7_keepersOf_22 : decode cX7_keepersOf 22 = .ok (.iaload, 1) := by decide +kernel
theorem dX7_keepersOf_23 : decode cX7_keepersOf 23 = .ok (.invokevirtual 42, 3) := by decide +kernel
theorem dX7_keepersOf_26 : decode cX7_keepersOf 26 = .ok (.ifCond .eq 6, 3) := by decide +kernel
theorem dX7_keepersOf_29 : decode cX7_keepersOf 29 = .ok (.iinc 3 1, 3) := by decide +kernel
theorem dX7_keepersOf_32 : decode cX7_keepersOf 32 = .ok (.iinc 4 1, 3) := by decide +kernel
theorem dX7_keepersOf_35 : decode cX7_keepersOf 35 = .ok (.goto (-30), 3) := by decide +kernel
theorem dX7_keepersOf_38 : decode cX7_keepersOf 38 = .ok (.iload_n 3, 1) := by decide +kernel
theorem dX7_keepersOf_39 : decode cX7_keepersOf 39 = .ok (.ireturn, 1) := by decide +kernel
theorem dX7_countUnkept_0 : decode cX7_countUnkept 0 = .ok (.iconst 0, 1) := by decide +kernel
theorem dX7_countUnkept_1 : decode cX7_countUnkept 1 = .ok (.istore_n 2, 1) := by decide +kernel
theorem dX7_countUnkept_2 : decode cX7_countUnkept 2 = .ok (.iconst 0, 1) := by decide +kernel
theorem dX7_countUnkept_3 : decode cX7_countUnkept 3 = .ok (.istore_n 3, 1) := by decide +kernel
theorem dX7_countUnkept_4 : decode cX7_countUnkept 4 = .ok (.iload_n 3, 1) := by decide +kernel
theorem dX7_countUnkept_5 : decode cX7_countUnkept 5 = .ok (.aload_n 1, 1) := by decide +kernel
theorem dX7_countUnkept_6 : decode cX7_countUnkept 6 = .ok (.getfield 48, 3) := by decide +kernel
theorem dX7_countUnkept_9 : decode cX7_countUnkept 9 = .ok (.if_icmp .ge 21, 3) := by decide +kernel
theorem dX7_countUnkept_12 : decode cX7_countUnkept 12 = .ok (.aload_n 0, 1) := by decide +kernel
theorem dX7_countUnkept_13 : decode cX7_countUnkept 13 = .ok (.aload_n 1, 1) := by decide +kernel
theorem dX7_countUnkept_14 : decode cX7_countUnkept 14 = .ok (.iload_n 3, 1) := by decide +kernel
theorem dX7_countUnkept_15 : decode cX7_countUnkept 15 = .ok (.invokevirtual 49, 3) := by decide +kernel
theorem dX7_countUnkept_18 : decode cX7_countUnkept 18 = .ok (.ifCond .ne 6, 3) := by decide +kernel
theorem dX7_countUnkept_21 : decode cX7_countUnkept 21 = .ok (.iinc 2 1, 3) := by decide +kernel
theorem dX7_countUnkept_24 : decode cX7_countUnkept 24 = .ok (.iinc 3 1, 3) := by decide +kernel
theorem dX7_countUnkept_27 : decode cX7_countUnkept 27 = .ok (.goto (-23), 3) := by decide +kernel
theorem dX7_countUnkept_30 : decode cX7_countUnkept 30 = .ok (.iload_n 2, 1) := by decide +kernel
theorem dX7_countUnkept_31 : decode cX7_countUnkept 31 = .ok (.ireturn, 1) := by decide +kernel
theorem dX7_countWild_0 : decode cX7_countWild 0 = .ok (.iconst 0, 1) := by decide +kernel
theorem dX7_countWild_1 : decode cX7_countWild 1 = .ok (.istore_n 2, 1) := by decide +kernel
theorem dX7_countWild_2 : decode cX7_countWild 2 = .ok (.iconst 0, 1) := by decide +kernel
theorem dX7_countWild_3 : decode cX7_countWild 3 = .ok (.istore_n 3, 1) := by decide +kernel
theorem dX7_countWild_4 : decode cX7_countWild 4 = .ok (.iload_n 3, 1) := by decide +kernel
theorem dX7_countWild_5 : decode cX7_countWild 5 = .ok (.aload_n 1, 1) := by decide +kernel
theorem dX7_countWild_6 : decode cX7_countWild 6 = .ok (.getfield 53, 3) := by decide +kernel
theorem dX7_countWild_9 : decode cX7_countWild 9 = .ok (.if_icmp .ge 41, 3) := by decide +kernel
theorem dX7_countWild_12 : decode cX7_countWild 12 = .ok (.iconst 0, 1) := by decide +kernel
theorem dX7_countWild_13 : decode cX7_countWild 13 = .ok (.istore 4, 2) := by decide +kernel
theorem dX7_countWild_15 : decode cX7_countWild 15 = .ok (.iload 4, 2) := by decide +kernel
theorem dX7_countWild_17 : decode cX7_countWild 17 = .ok (.aload_n 1, 1) := by decide +kernel
theorem dX7_countWild_18 : decode cX7_countWild 18 = .ok (.getfield 58, 3) := by decide +kernel
theorem dX7_countWild_21 : decode cX7_countWild 21 = .ok (.if_icmp .ge 23, 3) := by decide +kernel
theorem dX7_countWild_24 : decode cX7_countWild 24 = .ok (.aload_n 0, 1) := by decide +kernel
theorem dX7_countWild_25 : decode cX7_countWild 25 = .ok (.aload_n 1, 1) := by decide +kernel
theorem dX7_countWild_26 : decode cX7_countWild 26 = .ok (.iload_n 3, 1) := by decide +kernel
theorem dX7_countWild_27 : decode cX7_countWild 27 = .ok (.iload 4, 2) := by decide +kernel
theorem dX7_countWild_29 : decode cX7_countWild 29 = .ok (.invokevirtual 61, 3) := by decide +kernel
theorem dX7_countWild_32 : decode cX7_countWild 32 = .ok (.ifCond .eq 6, 3) := by decide +kernel
theorem dX7_countWild_35 : decode cX7_countWild 35 = .ok (.iinc 2 1, 3) := by decide +kernel
theorem dX7_countWild_38 : decode cX7_countWild 38 = .ok (.iinc 4 1, 3) := by decide +kernel
theorem dX7_countWild_41 : decode cX7_countWild 41 = .ok (.goto (-26), 3) := by decide +kernel
theorem dX7_countWild_44 : decode cX7_countWild 44 = .ok (.iinc 3 1, 3) := by decide +kernel
theorem dX7_countWild_47 : decode cX7_countWild 47 = .ok (.goto (-43), 3) := by decide +kernel
theorem dX7_countWild_50 : decode cX7_countWild 50 = .ok (.iload_n 2, 1) := by decide +kernel
theorem dX7_countWild_51 : decode cX7_countWild 51 = .ok (.ireturn, 1) := by decide +kernel
theorem dX7_firstWild_0 : decode cX7_firstWild 0 = .ok (.iconst 0, 1) := by decide +kernel
theorem dX7_firstWild_1 : decode cX7_firstWild 1 = .ok (.istore_n 2, 1) := by decide +kernel
theorem dX7_firstWild_2 : decode cX7_firstWild 2 = .ok (.iload_n 2, 1) := by decide +kernel
theorem dX7_firstWild_3 : decode cX7_firstWild 3 = .ok (.aload_n 1, 1) := by decide +kernel
theorem dX7_firstWild_4 : decode cX7_firstWild 4 = .ok (.getfield 53, 3) := by decide +kernel
theorem dX7_firstWild_7 : decode cX7_firstWild 7 = .ok (.if_icmp .ge 41, 3) := by decide +kernel
theorem dX7_firstWild_10 : decode cX7_firstWild 10 = .ok (.iconst 0, 1) := by decide +kernel
theorem dX7_firstWild_11 : decode cX7_firstWild 11 = .ok (.istore_n 3, 1) := by decide +kernel
theorem dX7_firstWild_12 : decode cX7_firstWild 12 = .ok (.iload_n 3, 1) := by decide +kernel
theorem dX7_firstWild_13 : decode cX7_firstWild 13 = .ok (.aload_n 1, 1) := by decide +kernel
theorem dX7_firstWild_14 : decode cX7_firstWild 14 = .ok (.getfield 58, 3) := by decide +kernel
theorem dX7_firstWild_17 : decode cX7_firstWild 17 = .ok (.if_icmp .ge 25, 3) := by decide +kernel
theorem dX7_firstWild_20 : decode cX7_firstWild 20 = .ok (.aload_n 0, 1) := by decide +kernel
theorem dX7_firstWild_21 : decode cX7_firstWild 21 = .ok (.aload_n 1, 1) := by decide +kernel
theorem dX7_firstWild_22 : decode cX7_firstWild 22 = .ok (.iload_n 2, 1) := by decide +kernel
theorem dX7_firstWild_23 : decode cX7_firstWild 23 = .ok (.iload_n 3, 1) := by decide +kernel
theorem dX7_firstWild_24 : decode cX7_firstWild 24 = .ok (.invokevirtual 61, 3) := by decide +kernel
theorem dX7_firstWild_27 : decode cX7_firstWild 27 = .ok (.ifCond .eq 9, 3) := by decide +kernel
theorem dX7_firstWild_30 : decode cX7_firstWild 30 = .ok (.iconst 4, 1) := by decide +kernel
theorem dX7_firstWild_31 : decode cX7_firstWild 31 = .ok (.iload_n 2, 1) := by decide +kernel
theorem dX7_firstWild_32 : decode cX7_firstWild 32 = .ok (.imul, 1) := by decide +kernel
theorem dX7_firstWild_33 : decode cX7_firstWild 33 = .ok (.iload_n 3, 1) := by decide +kernel
theorem dX7_firstWild_34 : decode cX7_firstWild 34 = .ok (.iadd, 1) := by decide +kernel
theorem dX7_firstWild_35 : decode cX7_firstWild 35 = .ok (.ireturn, 1) := by decide +kernel
theorem dX7_firstWild_36 : decode cX7_firstWild 36 = .ok (.iinc 3 1, 3) := by decide +kernel
theorem dX7_firstWild_39 : decode cX7_firstWild 39 = .ok (.goto (-27), 3) := by decide +kernel
theorem dX7_firstWild_42 : decode cX7_firstWild 42 = .ok (.iinc 2 1, 3) := by decide +kernel
theorem dX7_firstWild_45 : decode cX7_firstWild 45 = .ok (.goto (-43), 3) := by decide +kernel
theorem dX7_firstWild_48 : decode cX7_firstWild 48 = .ok (.iconst (-1), 1) := by decide +kernel
theorem dX7_firstWild_49 : decode cX7_firstWild 49 = .ok (.ireturn, 1) := by decide +kernel
theorem dX7_isWild_0 : decode cX7_isWild 0 = .ok (.aload_n 1, 1) := by decide +kernel
theorem dX7_isWild_1 : decode cX7_isWild 1 = .ok (.iload_n 2, 1) := by decide +kernel
theorem dX7_isWild_2 : decode cX7_isWild 2 = .ok (.iload_n 3, 1) := by decide +kernel
theorem dX7_isWild_3 : decode cX7_isWild 3 = .ok (.invokevirtual 65, 3) := by decide +kernel
theorem dX7_isWild_6 : decode cX7_isWild 6 = .ok (.istore 4, 2) := by decide +kernel
theorem dX7_isWild_8 : decode cX7_isWild 8 = .ok (.iload 4, 2) := by decide +kernel
theorem dX7_isWild_10 : decode cX7_isWild 10 = .ok (.iconst (-1), 1) := by decide +kernel
theorem dX7_isWild_11 : decode cX7_isWild 11 = .ok (.if_icmp .ne 5, 3) := by decide +kernel
theorem dX7_isWild_14 : decode cX7_isWild 14 = .ok (.iconst 0, 1) := by decide +kernel
theorem dX7_isWild_15 : decode cX7_isWild 15 = .ok (.ireturn, 1) := by decide +kernel
theorem dX7_isWild_16 : decode cX7_isWild 16 = .ok (.iconst 0, 1) := by decide +kernel
theorem dX7_isWild_17 : decode cX7_isWild 17 = .ok (.istore 5, 2) := by decide +kernel
theorem dX7_isWild_19 : decode cX7_isWild 19 = .ok (.iload 5, 2) := by decide +kernel
theorem dX7_isWild_21 : decode cX7_isWild 21 = .ok (.aload_n 1, 1) := by decide +kernel
theorem dX7_isWild_22 : decode cX7_isWild 22 = .ok (.getfield 53, 3) := by decide +kernel
theorem dX7_isWild_25 : decode cX7_isWild 25 = .ok (.if_icmp .ge 47, 3) := by decide +kernel
theorem dX7_isWild_28 : decode cX7_isWild 28 = .ok (.aload_n 1, 1) := by decide +kernel
theorem dX7_isWild_29 : decode cX7_isWild 29 = .ok (.iload 5, 2) := by decide +kernel
theorem dX7_isWild_31 : decode cX7_isWild 31 = .ok (.iload_n 3, 1) := by decide +kernel
theorem dX7_isWild_32 : decode cX7_isWild 32 = .ok (.invokevirtual 65, 3) := by decide +kernel
theorem dX7_isWild_35 : decode cX7_isWild 35 = .ok (.istore 6, 2) := by decide +kernel
theorem dX7_isWild_37 : decode cX7_isWild 37 = .ok (.iload 6, 2) := by decide +kernel
theorem dX7_isWild_39 : decode cX7_isWild 39 = .ok (.iconst (-1), 1) := by decide +kernel
theorem dX7_isWild_40 : decode cX7_isWild 40 = .ok (.if_icmp .eq 26, 3) := by decide +kernel
theorem dX7_isWild_43 : decode cX7_isWild 43 = .ok (.iload 6, 2) := by decide +kernel
theorem dX7_isWild_45 : decode cX7_isWild 45 = .ok (.iload 4, 2) := by decide +kernel
theorem dX7_isWild_47 : decode cX7_isWild 47 = .ok (.if_icmp .eq 19, 3) := by decide +kernel
theorem dX7_isWild_50 : decode cX7_isWild 50 = .ok (.aload_n 0, 1) := by decide +kernel
theorem dX7_isWild_51 : decode cX7_isWild 51 = .ok (.iload_n 2, 1) := by decide +kernel
theorem dX7_isWild_52 : decode cX7_isWild 52 = .ok (.iload 4, 2) := by decide +kernel
theorem dX7_isWild_54 : decode cX7_isWild 54 = .ok (.iload 5, 2) := by decide +kernel
theorem dX7_isWild_56 : decode cX7_isWild 56 = .ok (.iload 6, 2) := by decide +kernel
theorem dX7_isWild_58 : decode cX7_isWild 58 = .ok (.invokevirtual 69, 3) := by decide +kernel
theorem dX7_isWild_61 : decode cX7_isWild 61 = .ok (.ifCond .eq 5, 3) := by decide +kernel
theorem dX7_isWild_64 : decode cX7_isWild 64 = .ok (.iconst 1, 1) := by decide +kernel
theorem dX7_isWild_65 : decode cX7_isWild 65 = .ok (.ireturn, 1) := by decide +kernel
theorem dX7_isWild_66 : decode cX7_isWild 66 = .ok (.iinc 5 1, 3) := by decide +kernel
theorem dX7_isWild_69 : decode cX7_isWild 69 = .ok (.goto (-50), 3) := by decide +kernel
theorem dX7_isWild_72 : decode cX7_isWild 72 = .ok (.iconst 0, 1) := by decide +kernel
theorem dX7_isWild_73 : decode cX7_isWild 73 = .ok (.ireturn, 1) := by decide +kernel
theorem dX7_waysMeet_0 : decode cX7_waysMeet 0 = .ok (.aload_n 0, 1) := by decide +kernel
theorem dX7_waysMeet_1 : decode cX7_waysMeet 1 = .ok (.iload_n 1, 1) := by decide +kernel
theorem dX7_waysMeet_2 : decode cX7_waysMeet 2 = .ok (.invokevirtual 33, 3) := by decide +kernel
theorem dX7_waysMeet_5 : decode cX7_waysMeet 5 = .ok (.aload_n 0, 1) := by decide +kernel
theorem dX7_waysMeet_6 : decode cX7_waysMeet 6 = .ok (.iload_n 2, 1) := by decide +kernel
theorem dX7_waysMeet_7 : decode cX7_waysMeet 7 = .ok (.invokevirtual 33, 3) := by decide +kernel
theorem dX7_waysMeet_10 : decode cX7_waysMeet 10 = .ok (.ixor, 1) := by decide +kernel
theorem dX7_waysMeet_11 : decode cX7_waysMeet 11 = .ok (.aload_n 0, 1) := by decide +kernel
theorem dX7_waysMeet_12 : decode cX7_waysMeet 12 = .ok (.iload_n 3, 1) := by decide +kernel
theorem dX7_waysMeet_13 : decode cX7_waysMeet 13 = .ok (.invokevirtual 33, 3) := by decide +kernel
theorem dX7_waysMeet_16 : decode cX7_waysMeet 16 = .ok (.aload_n 0, 1) := by decide +kernel
theorem dX7_waysMeet_17 : decode cX7_waysMeet 17 = .ok (.iload 4, 2) := by decide +kernel
theorem dX7_waysMeet_19 : decode cX7_waysMeet 19 = .ok (.invokevirtual 33, 3) := by decide +kernel
theorem dX7_waysMeet_22 : decode cX7_waysMeet 22 = .ok (.ixor, 1) := by decide +kernel
theorem dX7_waysMeet_23 : decode cX7_waysMeet 23 = .ok (.ior, 1) := by decide +kernel
theorem dX7_waysMeet_24 : decode cX7_waysMeet 24 = .ok (.istore 5, 2) := by decide +kernel
theorem dX7_waysMeet_26 : decode cX7_waysMeet 26 = .ok (.aload_n 0, 1) := by decide +kernel
theorem dX7_waysMeet_27 : decode cX7_waysMeet 27 = .ok (.iload_n 1, 1) := by decide +kernel
theorem dX7_waysMeet_28 : decode cX7_waysMeet 28 = .ok (.invokevirtual 33, 3) := by decide +kernel
theorem dX7_waysMeet_31 : decode cX7_waysMeet 31 = .ok (.aload_n 0, 1) := by decide +kernel
theorem dX7_waysMeet_32 : decode cX7_waysMeet 32 = .ok (.iload_n 3, 1) := by decide +kernel
theorem dX7_waysMeet_33 : decode cX7_waysMeet 33 = .ok (.invokevirtual 33, 3) := by decide +kernel
theorem dX7_waysMeet_36 : decode cX7_waysMeet 36 = .ok (.ixor, 1) := by decide +kernel
theorem dX7_waysMeet_37 : decode cX7_waysMeet 37 = .ok (.iload 5, 2) := by decide +kernel
theorem dX7_waysMeet_39 : decode cX7_waysMeet 39 = .ok (.iconst (-1), 1) := by decide +kernel
theorem dX7_waysMeet_40 : decode cX7_waysMeet 40 = .ok (.ixor, 1) := by decide +kernel
theorem dX7_waysMeet_41 : decode cX7_waysMeet 41 = .ok (.iand, 1) := by decide +kernel
theorem dX7_waysMeet_42 : decode cX7_waysMeet 42 = .ok (.ifCond .ne 7, 3) := by decide +kernel
theorem dX7_waysMeet_45 : decode cX7_waysMeet 45 = .ok (.iconst 1, 1) := by decide +kernel
theorem dX7_waysMeet_46 : decode cX7_waysMeet 46 = .ok (.goto 4, 3) := by decide +kernel
theorem dX7_waysMeet_49 : decode cX7_waysMeet 49 = .ok (.iconst 0, 1) := by decide +kernel
theorem dX7_waysMeet_50 : decode cX7_waysMeet 50 = .ok (.ireturn, 1) := by decide +kernel
theorem dX7_mostChanges_0 : decode cX7_mostChanges 0 = .ok (.iconst 0, 1) := by decide +kernel
theorem dX7_mostChanges_1 : decode cX7_mostChanges 1 = .ok (.istore_n 2, 1) := by decide +kernel
theorem dX7_mostChanges_2 : decode cX7_mostChanges 2 = .ok (.iconst 0, 1) := by decide +kernel
theorem dX7_mostChanges_3 : decode cX7_mostChanges 3 = .ok (.istore_n 3, 1) := by decide +kernel
theorem dX7_mostChanges_4 : decode cX7_mostChanges 4 = .ok (.iload_n 3, 1) := by decide +kernel
theorem dX7_mostChanges_5 : decode cX7_mostChanges 5 = .ok (.aload_n 1, 1) := by decide +kernel
theorem dX7_mostChanges_6 : decode cX7_mostChanges 6 = .ok (.getfield 53, 3) := by decide +kernel
theorem dX7_mostChanges_9 : decode cX7_mostChanges 9 = .ok (.if_icmp .ge 54, 3) := by decide +kernel
theorem dX7_mostChanges_12 : decode cX7_mostChanges 12 = .ok (.iconst 0, 1) := by decide +kernel
theorem dX7_mostChanges_13 : decode cX7_mostChanges 13 = .ok (.istore 4, 2) := by decide +kernel
theorem dX7_mostChanges_15 : decode cX7_mostChanges 15 = .ok (.iload 4, 2) := by decide +kernel
theorem dX7_mostChanges_17 : decode cX7_mostChanges 17 = .ok (.aload_n 1, 1) := by decide +kernel
theorem dX7_mostChanges_18 : decode cX7_mostChanges 18 = .ok (.getfield 58, 3) := by decide +kernel
theorem dX7_mostChanges_21 : decode cX7_mostChanges 21 = .ok (.if_icmp .ge 36, 3) := by decide +kernel
theorem dX7_mostChanges_24 : decode cX7_mostChanges 24 = .ok (.aload_n 1, 1) := by decide +kernel
theorem dX7_mostChanges_25 : decode cX7_mostChanges 25 = .ok (.iload_n 3, 1) := by decide +kernel
theorem dX7_mostChanges_26 : decode cX7_mostChanges 26 = .ok (.iload 4, 2) := by decide +kernel
theorem dX7_mostChanges_28 : decode cX7_mostChanges 28 = .ok (.invokevirtual 65, 3) := by decide +kernel
theorem dX7_mostChanges_31 : decode cX7_mostChanges 31 = .ok (.istore 5, 2) := by decide +kernel
theorem dX7_mostChanges_33 : decode cX7_mostChanges 33 = .ok (.iload 5, 2) := by decide +kernel
theorem dX7_mostChanges_35 : decode cX7_mostChanges 35 = .ok (.iconst (-1), 1) := by decide +kernel
theorem dX7_mostChanges_36 : decode cX7_mostChanges 36 = .ok (.if_icmp .eq 15, 3) := by decide +kernel
theorem dX7_mostChanges_39 : decode cX7_mostChanges 39 = .ok (.iload_n 2, 1) := by decide +kernel
theorem dX7_mostChanges_40 : decode cX7_mostChanges 40 = .ok (.aload_n 0, 1) := by decide +kernel
theorem dX7_mostChanges_41 : decode cX7_mostChanges 41 = .ok (.iload_n 3, 1) := by decide +kernel
theorem dX7_mostChanges_42 : decode cX7_mostChanges 42 = .ok (.iload 5, 2) := by decide +kernel
theorem dX7_mostChanges_44 : decode cX7_mostChanges 44 = .ok (.invokevirtual 73, 3) := by decide +kernel
theorem dX7_mostChanges_47 : decode cX7_mostChanges 47 = .ok (.invokestatic 76, 3) := by decide +kernel
theorem dX7_mostChanges_50 : decode cX7_mostChanges 50 = .ok (.istore_n 2, 1) := by decide +kernel
theorem dX7_mostChanges_51 : decode cX7_mostChanges 51 = .ok (.iinc 4 1, 3) := by decide +kernel
theorem dX7_mostChanges_54 : decode cX7_mostChanges 54 = .ok (.goto (-39), 3) := by decide +kernel
theorem dX7_mostChanges_57 : decode cX7_mostChanges 57 = .ok (.iinc 3 1, 3) := by decide +kernel
theorem dX7_mostChanges_60 : decode cX7_mostChanges 60 = .ok (.goto (-56), 3) := by decide +kernel
theorem dX7_mostChanges_63 : decode cX7_mostChanges 63 = .ok (.iload_n 2, 1) := by decide +kernel
theorem dX7_mostChanges_64 : decode cX7_mostChanges 64 = .ok (.ireturn, 1) := by decide +kernel
theorem dX8_init_0 : decode cX8_init 0 = .ok (.aload_n 0, 1) := by decide +kernel
theorem dX8_init_1 : decode cX8_init 1 = .ok (.invokespecial 3, 3) := by decide +kernel
theorem dX8_init_4 : decode cX8_init 4 = .ok (.aload_n 0, 1) := by decide +kernel
theorem dX8_init_5 : decode cX8_init 5 = .ok (.iconst (-1), 1) := by decide +kernel
theorem dX8_init_6 : decode cX8_init 6 = .ok (.putfield 9, 3) := by decide +kernel
theorem dX8_init_9 : decode cX8_init 9 = .ok (.return_, 1) := by decide +kernel
theorem dX8_start_0 : decode cX8_start 0 = .ok (.aload_n 0, 1) := by decide +kernel
theorem dX8_start_1 : decode cX8_start 1 = .ok (.iload_n 1, 1) := by decide +kernel
theorem dX8_start_2 : decode cX8_start 2 = .ok (.putfield 9, 3) := by decide +kernel
theorem dX8_start_5 : decode cX8_start 5 = .ok (.aload_n 0, 1) := by decide +kernel
theorem dX8_start_6 : decode cX8_start 6 = .ok (.iconst 0, 1) := by decide +kernel
theorem dX8_start_7 : decode cX8_start 7 = .ok (.putfield 15, 3) := by decide +kernel
theorem dX8_start_10 : decode cX8_start 10 = .ok (.aload_n 0, 1) := by decide +kernel
theorem dX8_start_11 : decode cX8_start 11 = .ok (.iconst 0, 1) := by decide +kernel
theorem dX8_start_12 : decode cX8_start 12 = .ok (.putfield 18, 3) := by decide +kernel
theorem dX8_start_15 : decode cX8_start 15 = .ok (.return_, 1) := by decide +kernel
theorem dX8_go_0 : decode cX8_go 0 = .ok (.aload_n 0, 1) := by decide +kernel
theorem dX8_go_1 : decode cX8_go 1 = .ok (.iload_n 1, 1) := by decide +kernel
theorem dX8_go_2 : decode cX8_go 2 = .ok (.putfield 9, 3) := by decide +kernel
theorem dX8_go_5 : decode cX8_go 5 = .ok (.aload_n 0, 1) := by decide +kernel
theorem dX8_go_6 : decode cX8_go 6 = .ok (.dup, 1) := by decide +kernel
theorem dX8_go_7 : decode cX8_go 7 = .ok (.getfield 15, 3) := by decide +kernel
theorem dX8_go_10 : decode cX8_go 10 = .ok (.iconst 1, 1) := by decide +kernel
theorem dX8_go_11 : decode cX8_go 11 = .ok (.iadd, 1) := by decide +kernel
theorem dX8_go_12 : decode cX8_go 12 = .ok (.putfield 15, 3) := by decide +kernel
theorem dX8_go_15 : decode cX8_go 15 = .ok (.aload_n 0, 1) := by decide +kernel
theorem dX8_go_16 : decode cX8_go 16 = .ok (.dup, 1) := by decide +kernel
theorem dX8_go_17 : decode cX8_go 17 = .ok (.getfield 18, 3) := by decide +kernel
theorem dX8_go_20 : decode cX8_go 20 = .ok (.iload_n 2, 1) := by decide +kernel
theorem dX8_go_21 : decode cX8_go 21 = .ok (.iadd, 1) := by decide +kernel
theorem dX8_go_22 : decode cX8_go 22 = .ok (.putfield 18, 3) := by decide +kernel
theorem dX8_go_25 : decode cX8_go 25 = .ok (.return_, 1) := by decide +kernel
theorem dX9_init_0 : decode cX9_init 0 = .ok (.aload_n 0, 1) := by decide +kernel
theorem dX9_init_1 : decode cX9_init 1 = .ok (.invokespecial 3, 3) := by decide +kernel
theorem dX9_init_4 : decode cX9_init 4 = .ok (.aload_n 0, 1) := by decide +kernel
theorem dX9_init_5 : decode cX9_init 5 = .ok (.new 9, 3) := by decide +kernel
theorem dX9_init_8 : decode cX9_init 8 = .ok (.dup, 1) := by decide +kernel
theorem dX9_init_9 : decode cX9_init 9 = .ok (.invokespecial 11, 3) := by decide +kernel
theorem dX9_init_12 : decode cX9_init 12 = .ok (.putfield 12, 3) := by decide +kernel
theorem dX9_init_15 : decode cX9_init 15 = .ok (.aload_n 0, 1) := by decide +kernel
theorem dX9_init_16 : decode cX9_init 16 = .ok (.new 16, 3) := by decide +kernel
theorem dX9_init_19 : decode cX9_init 19 = .ok (.dup, 1) := by decide +kernel
theorem dX9_init_20 : decode cX9_init 20 = .ok (.invokespecial 18, 3) := by decide +kernel
theorem dX9_init_23 : decode cX9_init 23 = .ok (.putfield 19, 3) := by decide +kernel
theorem dX9_init_26 : decode cX9_init 26 = .ok (.aload_n 0, 1) := by decide +kernel
theorem dX9_init_27 : decode cX9_init 27 = .ok (.new 23, 3) := by decide +kernel
theorem dX9_init_30 : decode cX9_init 30 = .ok (.dup, 1) := by decide +kernel
theorem dX9_init_31 : decode cX9_init 31 = .ok (.invokespecial 25, 3) := by decide +kernel
theorem dX9_init_34 : decode cX9_init 34 = .ok (.putfield 26, 3) := by decide +kernel
theorem dX9_init_37 : decode cX9_init 37 = .ok (.aload_n 0, 1) := by decide +kernel
theorem dX9_init_38 : decode cX9_init 38 = .ok (.new 30, 3) := by decide +kernel
theorem dX9_init_41 : decode cX9_init 41 = .ok (.dup, 1) := by decide +kernel
theorem dX9_init_42 : decode cX9_init 42 = .ok (.invokespecial 32, 3) := by decide +kernel
theorem dX9_init_45 : decode cX9_init 45 = .ok (.putfield 33, 3) := by decide +kernel
theorem dX9_init_48 : decode cX9_init 48 = .ok (.aload_n 0, 1) := by decide +kernel
theorem dX9_init_49 : decode cX9_init 49 = .ok (.new 37, 3) := by decide +kernel
theorem dX9_init_52 : decode cX9_init 52 = .ok (.dup, 1) := by decide +kernel
theorem dX9_init_53 : decode cX9_init 53 = .ok (.invokespecial 39, 3) := by decide +kernel
theorem dX9_init_56 : decode cX9_init 56 = .ok (.putfield 40, 3) := by decide +kernel
theorem dX9_init_59 : decode cX9_init 59 = .ok (.aload_n 0, 1) := by decide +kernel
theorem dX9_init_60 : decode cX9_init 60 = .ok (.new 44, 3) := by decide +kernel
theorem dX9_init_63 : decode cX9_init 63 = .ok (.dup, 1) := by decide +kernel
theorem dX9_init_64 : decode cX9_init 64 = .ok (.invokespecial 46, 3) := by decide +kernel
theorem dX9_init_67 : decode cX9_init 67 = .ok (.putfield 47, 3) := by decide +kernel
theorem dX9_init_70 : decode cX9_init 70 = .ok (.aload_n 0, 1) := by decide +kernel
theorem dX9_init_71 : decode cX9_init 71 = .ok (.new 51, 3) := by decide +kernel
theorem dX9_init_74 : decode cX9_init 74 = .ok (.dup, 1) := by decide +kernel
theorem dX9_init_75 : decode cX9_init 75 = .ok (.invokespecial 53, 3) := by decide +kernel
theorem dX9_init_78 : decode cX9_init 78 = .ok (.putfield 54, 3) := by decide +kernel
theorem dX9_init_81 : decode cX9_init 81 = .ok (.aload_n 0, 1) := by decide +kernel
theorem dX9_init_82 : decode cX9_init 82 = .ok (.iconst 5, 1) := by decide +kernel
theorem dX9_init_83 : decode cX9_init 83 = .ok (.anewarray 58, 3) := by decide +kernel
theorem dX9_init_86 : decode cX9_init 86 = .ok (.putfield 60, 3) := by decide +kernel
theorem dX9_init_89 : decode cX9_init 89 = .ok (.iconst 0, 1) := by decide +kernel
theorem dX9_init_90 : decode cX9_init 90 = .ok (.istore_n 1, 1) := by decide +kernel
theorem dX9_init_91 : decode cX9_init 91 = .ok (.iload_n 1, 1) := by decide +kernel
theorem dX9_init_92 : decode cX9_init 92 = .ok (.iconst 5, 1) := by decide +kernel
theorem dX9_init_93 : decode cX9_init 93 = .ok (.if_icmp .ge 22, 3) := by decide +kernel
theorem dX9_init_96 : decode cX9_init 96 = .ok (.aload_n 0, 1) := by decide +kernel
theorem dX9_init_97 : decode cX9_init 97 = .ok (.getfield 60, 3) := by decide +kernel
theorem dX9_init_100 : decode cX9_init 100 = .ok (.iload_n 1, 1) := by decide +kernel
theorem dX9_init_101 : decode cX9_init 101 = .ok (.new 58, 3) := by decide +kernel
theorem dX9_init_104 : decode cX9_init 104 = .ok (.dup, 1) := by decide +kernel
theorem dX9_init_105 : decode cX9_init 105 = .ok (.invokespecial 64, 3) := by decide +kernel
theorem dX9_init_108 : decode cX9_init 108 = .ok (.aastore, 1) := by decide +kernel
theorem dX9_init_109 : decode cX9_init 109 = .ok (.iinc 1 1, 3) := by decide +kernel
theorem dX9_init_112 : decode cX9_init 112 = .ok (.goto (-21), 3) := by decide +kernel
theorem dX9_init_115 : decode cX9_init 115 = .ok (.aload_n 0, 1) := by decide +kernel
theorem dX9_init_116 : decode cX9_init 116 = .ok (.new 65, 3) := by decide +kernel
theorem dX9_init_119 : decode cX9_init 119 = .ok (.dup, 1) := by decide +kernel
theorem dX9_init_120 : decode cX9_init 120 = .ok (.invokespecial 67, 3) := by decide +kernel
theorem dX9_init_123 : decode cX9_init 123 = .ok (.putfield 68, 3) := by decide +kernel
theorem dX9_init_126 : decode cX9_init 126 = .ok (.aload_n 0, 1) := by decide +kernel
theorem dX9_init_127 : decode cX9_init 127 = .ok (.iconst 0, 1) := by decide +kernel
theorem dX9_init_128 : decode cX9_init 128 = .ok (.putfield 72, 3) := by decide +kernel
theorem dX9_init_131 : decode cX9_init 131 = .ok (.aload_n 0, 1) := by decide +kernel
theorem dX9_init_132 : decode cX9_init 132 = .ok (.iconst 0, 1) := by decide +kernel
theorem dX9_init_133 : decode cX9_init 133 = .ok (.putfield 76, 3) := by decide +kernel
theorem dX9_init_136 : decode cX9_init 136 = .ok (.return_, 1) := by decide +kernel
theorem dX9_letter_0 : decode cX9_letter 0 = .ok (.iload_n 1, 1) := by decide +kernel
theorem dX9_letter_1 : decode cX9_letter 1 = .ok (.bipush 32, 2) := by decide +kernel
theorem dX9_letter_3 : decode cX9_letter 3 = .ok (.if_icmp .lt 9, 3) := by decide +kernel
theorem dX9_letter_6 : decode cX9_letter 6 = .ok (.iload_n 1, 1) := by decide +kernel
theorem dX9_letter_7 : decode cX9_letter 7 = .ok (.bipush 126, 2) := by decide +kernel
theorem dX9_letter_9 : decode cX9_letter 9 = .ok (.if_icmp .le 7, 3) := by decide +kernel
theorem dX9_letter_12 : decode cX9_letter 12 = .ok (.sipush (-1002), 3) := by decide +kernel
