theorem dX9_letter_15 : decode cX9_letter 15 = .ok (.ireturn, 1) := by decide +kernel
theorem dX9_letter_16 : decode cX9_letter 16 = .ok (.aload_n 0, 1) := by decide +kernel
theorem dX9_letter_17 : decode cX9_letter 17 = .ok (.getfield 12, 3) := by decide +kernel
theorem dX9_letter_20 : decode cX9_letter 20 = .ok (.iload_n 1, 1) := by decide +kernel
theorem dX9_letter_21 : decode cX9_letter 21 = .ok (.invokevirtual 79, 3) := by decide +kernel
theorem dX9_letter_24 : decode cX9_letter 24 = .ok (.ifCond .eq 13, 3) := by decide +kernel
theorem dX9_letter_27 : decode cX9_letter 27 = .ok (.aload_n 0, 1) := by decide +kernel
theorem dX9_letter_28 : decode cX9_letter 28 = .ok (.getfield 12, 3) := by decide +kernel
theorem dX9_letter_31 : decode cX9_letter 31 = .ok (.getfield 83, 3) := by decide +kernel
theorem dX9_letter_34 : decode cX9_letter 34 = .ok (.goto 6, 3) := by decide +kernel
theorem dX9_letter_37 : decode cX9_letter 37 = .ok (.sipush (-1004), 3) := by decide +kernel
theorem dX9_letter_40 : decode cX9_letter 40 = .ok (.ireturn, 1) := by decide +kernel
theorem dX9_blank_0 : decode cX9_blank 0 = .ok (.aload_n 0, 1) := by decide +kernel
theorem dX9_blank_1 : decode cX9_blank 1 = .ok (.getfield 12, 3) := by decide +kernel
theorem dX9_blank_4 : decode cX9_blank 4 = .ok (.getfield 83, 3) := by decide +kernel
theorem dX9_blank_7 : decode cX9_blank 7 = .ok (.istore_n 1, 1) := by decide +kernel
theorem dX9_blank_8 : decode cX9_blank 8 = .ok (.aload_n 0, 1) := by decide +kernel
theorem dX9_blank_9 : decode cX9_blank 9 = .ok (.getfield 12, 3) := by decide +kernel
theorem dX9_blank_12 : decode cX9_blank 12 = .ok (.iconst 0, 1) := by decide +kernel
theorem dX9_blank_13 : decode cX9_blank 13 = .ok (.putfield 83, 3) := by decide +kernel
theorem dX9_blank_16 : decode cX9_blank 16 = .ok (.iload_n 1, 1) := by decide +kernel
theorem dX9_blank_17 : decode cX9_blank 17 = .ok (.ireturn, 1) := by decide +kernel
theorem dX9_fault_0 : decode cX9_fault 0 = .ok (.aload_n 0, 1) := by decide +kernel
theorem dX9_fault_1 : decode cX9_fault 1 = .ok (.getfield 12, 3) := by decide +kernel
theorem dX9_fault_4 : decode cX9_fault 4 = .ok (.invokevirtual 86, 3) := by decide +kernel
theorem dX9_fault_7 : decode cX9_fault 7 = .ok (.aload_n 0, 1) := by decide +kernel
theorem dX9_fault_8 : decode cX9_fault 8 = .ok (.getfield 12, 3) := by decide +kernel
theorem dX9_fault_11 : decode cX9_fault 11 = .ok (.getfield 89, 3) := by decide +kernel
theorem dX9_fault_14 : decode cX9_fault 14 = .ok (.ireturn, 1) := by decide +kernel
theorem dX9_table_0 : decode cX9_table 0 = .ok (.aload_n 0, 1) := by decide +kernel
theorem dX9_table_1 : decode cX9_table 1 = .ok (.getfield 12, 3) := by decide +kernel
theorem dX9_table_4 : decode cX9_table 4 = .ok (.invokevirtual 86, 3) := by decide +kernel
theorem dX9_table_7 : decode cX9_table 7 = .ok (.aload_n 0, 1) := by decide +kernel
theorem dX9_table_8 : decode cX9_table 8 = .ok (.getfield 12, 3) := by decide +kernel
theorem dX9_table_11 : decode cX9_table 11 = .ok (.invokevirtual 92, 3) := by decide +kernel
theorem dX9_table_14 : decode cX9_table 14 = .ok (.ifCond .ne 7, 3) := by decide +kernel
theorem dX9_table_17 : decode cX9_table 17 = .ok (.sipush (-1003), 3) := by decide +kernel
theorem dX9_table_20 : decode cX9_table 20 = .ok (.ireturn, 1) := by decide +kernel
theorem dX9_table_21 : decode cX9_table 21 = .ok (.aload_n 0, 1) := by decide +kernel
theorem dX9_table_22 : decode cX9_table 22 = .ok (.getfield 19, 3) := by decide +kernel
theorem dX9_table_25 : decode cX9_table 25 = .ok (.aload_n 0, 1) := by decide +kernel
theorem dX9_table_26 : decode cX9_table 26 = .ok (.getfield 12, 3) := by decide +kernel
theorem dX9_table_29 : decode cX9_table 29 = .ok (.invokevirtual 96, 3) := by decide +kernel
theorem dX9_table_32 : decode cX9_table 32 = .ok (.aload_n 0, 1) := by decide +kernel
theorem dX9_table_33 : decode cX9_table 33 = .ok (.getfield 12, 3) := by decide +kernel
theorem dX9_table_36 : decode cX9_table 36 = .ok (.iconst 0, 1) := by decide +kernel
theorem dX9_table_37 : decode cX9_table 37 = .ok (.putfield 83, 3) := by decide +kernel
theorem dX9_table_40 : decode cX9_table 40 = .ok (.aload_n 0, 1) := by decide +kernel
theorem dX9_table_41 : decode cX9_table 41 = .ok (.dup, 1) := by decide +kernel
theorem dX9_table_42 : decode cX9_table 42 = .ok (.getfield 76, 3) := by decide +kernel
theorem dX9_table_45 : decode cX9_table 45 = .ok (.iconst 1, 1) := by decide +kernel
theorem dX9_table_46 : decode cX9_table 46 = .ok (.iadd, 1) := by decide +kernel
theorem dX9_table_47 : decode cX9_table 47 = .ok (.putfield 76, 3) := by decide +kernel
theorem dX9_table_50 : decode cX9_table 50 = .ok (.aload_n 0, 1) := by decide +kernel
theorem dX9_table_51 : decode cX9_table 51 = .ok (.getfield 68, 3) := by decide +kernel
theorem dX9_table_54 : decode cX9_table 54 = .ok (.iconst (-1), 1) := by decide +kernel
theorem dX9_table_55 : decode cX9_table 55 = .ok (.invokevirtual 100, 3) := by decide +kernel
theorem dX9_table_58 : decode cX9_table 58 = .ok (.aload_n 0, 1) := by decide +kernel
theorem dX9_table_59 : decode cX9_table 59 = .ok (.getfield 26, 3) := by decide +kernel
theorem dX9_table_62 : decode cX9_table 62 = .ok (.invokevirtual 104, 3) := by decide +kernel
theorem dX9_table_65 : decode cX9_table 65 = .ok (.aload_n 0, 1) := by decide +kernel
theorem dX9_table_66 : decode cX9_table 66 = .ok (.getfield 33, 3) := by decide +kernel
theorem dX9_table_69 : decode cX9_table 69 = .ok (.invokevirtual 107, 3) := by decide +kernel
theorem dX9_table_72 : decode cX9_table 72 = .ok (.aload_n 0, 1) := by decide +kernel
theorem dX9_table_73 : decode cX9_table 73 = .ok (.getfield 19, 3) := by decide +kernel
theorem dX9_table_76 : decode cX9_table 76 = .ok (.getfield 110, 3) := by decide +kernel
theorem dX9_table_79 : decode cX9_table 79 = .ok (.ifCond .eq 32, 3) := by decide +kernel
theorem dX9_table_82 : decode cX9_table 82 = .ok (.aload_n 0, 1) := by decide +kernel
theorem dX9_table_83 : decode cX9_table 83 = .ok (.getfield 26, 3) := by decide +kernel
theorem dX9_table_86 : decode cX9_table 86 = .ok (.aload_n 0, 1) := by decide +kernel
theorem dX9_table_87 : decode cX9_table 87 = .ok (.getfield 19, 3) := by decide +kernel
theorem dX9_table_90 : decode cX9_table 90 = .ok (.invokevirtual 114, 3) := by decide +kernel
theorem dX9_table_93 : decode cX9_table 93 = .ok (.aload_n 0, 1) := by decide +kernel
theorem dX9_table_94 : decode cX9_table 94 = .ok (.getfield 33, 3) := by decide +kernel
theorem dX9_table_97 : decode cX9_table 97 = .ok (.aload_n 0, 1) := by decide +kernel
theorem dX9_table_98 : decode cX9_table 98 = .ok (.getfield 19, 3) := by decide +kernel
theorem dX9_table_101 : decode cX9_table 101 = .ok (.getfield 118, 3) := by decide +kernel
theorem dX9_table_104 : decode cX9_table 104 = .ok (.aload_n 0, 1) := by decide +kernel
theorem dX9_table_105 : decode cX9_table 105 = .ok (.getfield 26, 3) := by decide +kernel
theorem dX9_table_108 : decode cX9_table 108 = .ok (.invokevirtual 121, 3) := by decide +kernel
theorem dX9_table_111 : decode cX9_table 111 = .ok (.aload_n 0, 1) := by decide +kernel
theorem dX9_table_112 : decode cX9_table 112 = .ok (.getfield 40, 3) := by decide +kernel
theorem dX9_table_115 : decode cX9_table 115 = .ok (.aload_n 0, 1) := by decide +kernel
theorem dX9_table_116 : decode cX9_table 116 = .ok (.getfield 33, 3) := by decide +kernel
theorem dX9_table_119 : decode cX9_table 119 = .ok (.invokevirtual 125, 3) := by decide +kernel
theorem dX9_table_122 : decode cX9_table 122 = .ok (.aload_n 0, 1) := by decide +kernel
theorem dX9_table_123 : decode cX9_table 123 = .ok (.invokevirtual 129, 3) := by decide +kernel
theorem dX9_table_126 : decode cX9_table 126 = .ok (.aload_n 0, 1) := by decide +kernel
theorem dX9_table_127 : decode cX9_table 127 = .ok (.getfield 19, 3) := by decide +kernel
theorem dX9_table_130 : decode cX9_table 130 = .ok (.getfield 118, 3) := by decide +kernel
theorem dX9_table_133 : decode cX9_table 133 = .ok (.ireturn, 1) := by decide +kernel
theorem dX9_entry_0 : decode cX9_entry 0 = .ok (.aload_n 0, 1) := by decide +kernel
theorem dX9_entry_1 : decode cX9_entry 1 = .ok (.getfield 19, 3) := by decide +kernel
theorem dX9_entry_4 : decode cX9_entry 4 = .ok (.iload_n 1, 1) := by decide +kernel
theorem dX9_entry_5 : decode cX9_entry 5 = .ok (.invokevirtual 132, 3) := by decide +kernel
theorem dX9_entry_8 : decode cX9_entry 8 = .ok (.ifCond .eq 14, 3) := by decide +kernel
theorem dX9_entry_11 : decode cX9_entry 11 = .ok (.aload_n 0, 1) := by decide +kernel
theorem dX9_entry_12 : decode cX9_entry 12 = .ok (.getfield 19, 3) := by decide +kernel
theorem dX9_entry_15 : decode cX9_entry 15 = .ok (.iload_n 2, 1) := by decide +kernel
theorem dX9_entry_16 : decode cX9_entry 16 = .ok (.invokevirtual 135, 3) := by decide +kernel
theorem dX9_entry_19 : decode cX9_entry 19 = .ok (.ifCond .ne 7, 3) := by decide +kernel
theorem dX9_entry_22 : decode cX9_entry 22 = .ok (.sipush (-1001), 3) := by decide +kernel
theorem dX9_entry_25 : decode cX9_entry 25 = .ok (.ireturn, 1) := by decide +kernel
theorem dX9_entry_26 : decode cX9_entry 26 = .ok (.aload_n 0, 1) := by decide +kernel
theorem dX9_entry_27 : decode cX9_entry 27 = .ok (.getfield 19, 3) := by decide +kernel
theorem dX9_entry_30 : decode cX9_entry 30 = .ok (.iload_n 1, 1) := by decide +kernel
theorem dX9_entry_31 : decode cX9_entry 31 = .ok (.iload_n 2, 1) := by decide +kernel
theorem dX9_entry_32 : decode cX9_entry 32 = .ok (.invokevirtual 138, 3) := by decide +kernel
theorem dX9_entry_35 : decode cX9_entry 35 = .ok (.ireturn, 1) := by decide +kernel
theorem dX9_about_0 : decode cX9_about 0 = .ok (.iload_n 1, 1) := by decide +kernel
theorem dX9_about_1 : decode cX9_about 1 = .ok (.ifCond .lt 8, 3) := by decide +kernel
theorem dX9_about_4 : decode cX9_about 4 = .ok (.iload_n 1, 1) := by decide +kernel
theorem dX9_about_5 : decode cX9_about 5 = .ok (.iconst 4, 1) := by decide +kernel
theorem dX9_about_6 : decode cX9_about 6 = .ok (.if_icmp .le 7, 3) := by decide +kernel
theorem dX9_about_9 : decode cX9_about 9 = .ok (.sipush (-1002), 3) := by decide +kernel
theorem dX9_about_12 : decode cX9_about 12 = .ok (.ireturn, 1) := by decide +kernel
theorem dX9_about_13 : decode cX9_about 13 = .ok (.aload_n 0, 1) := by decide +kernel
theorem dX9_about_14 : decode cX9_about 14 = .ok (.getfield 19, 3) := by decide +kernel
theorem dX9_about_17 : decode cX9_about 17 = .ok (.getfield 118, 3) := by decide +kernel
theorem dX9_about_20 : decode cX9_about 20 = .ok (.ifCond .ne 7, 3) := by decide +kernel
theorem dX9_about_23 : decode cX9_about 23 = .ok (.sipush (-1003), 3) := by decide +kernel
theorem dX9_about_26 : decode cX9_about 26 = .ok (.ireturn, 1) := by decide +kernel
theorem dX9_about_27 : decode cX9_about 27 = .ok (.iload_n 1, 1) := by decide +kernel
theorem dX9_about_28 : decode cX9_about 28 = .ok (.tableswitch 72 0 3 #[32, 48, 56, 64], 32) := by decide +kernel
theorem dX9_about_60 : decode cX9_about 60 = .ok (.aload_n 0, 1) := by decide +kernel
theorem dX9_about_61 : decode cX9_about 61 = .ok (.getfield 19, 3) := by decide +kernel
theorem dX9_about_64 : decode cX9_about 64 = .ok (.getfield 110, 3) := by decide +kernel
theorem dX9_about_67 : decode cX9_about 67 = .ok (.ifCond .eq 7, 3) := by decide +kernel
theorem dX9_about_70 : decode cX9_about 70 = .ok (.iconst 1, 1) := by decide +kernel
theorem dX9_about_71 : decode cX9_about 71 = .ok (.goto 4, 3) := by decide +kernel
theorem dX9_about_74 : decode cX9_about 74 = .ok (.iconst 0, 1) := by decide +kernel
theorem dX9_about_75 : decode cX9_about 75 = .ok (.ireturn, 1) := by decide +kernel
theorem dX9_about_76 : decode cX9_about 76 = .ok (.aload_n 0, 1) := by decide +kernel
theorem dX9_about_77 : decode cX9_about 77 = .ok (.getfield 19, 3) := by decide +kernel
theorem dX9_about_80 : decode cX9_about 80 = .ok (.getfield 142, 3) := by decide +kernel
theorem dX9_about_83 : decode cX9_about 83 = .ok (.ireturn, 1) := by decide +kernel
theorem dX9_about_84 : decode cX9_about 84 = .ok (.aload_n 0, 1) := by decide +kernel
theorem dX9_about_85 : decode cX9_about 85 = .ok (.getfield 19, 3) := by decide +kernel
theorem dX9_about_88 : decode cX9_about 88 = .ok (.getfield 145, 3) := by decide +kernel
theorem dX9_about_91 : decode cX9_about 91 = .ok (.ireturn, 1) := by decide +kernel
theorem dX9_about_92 : decode cX9_about 92 = .ok (.aload_n 0, 1) := by decide +kernel
theorem dX9_about_93 : decode cX9_about 93 = .ok (.getfield 19, 3) := by decide +kernel
theorem dX9_about_96 : decode cX9_about 96 = .ok (.getfield 148, 3) := by decide +kernel
theorem dX9_about_99 : decode cX9_about 99 = .ok (.ireturn, 1) := by decide +kernel
theorem dX9_about_100 : decode cX9_about 100 = .ok (.aload_n 0, 1) := by decide +kernel
theorem dX9_about_101 : decode cX9_about 101 = .ok (.getfield 19, 3) := by decide +kernel
theorem dX9_about_104 : decode cX9_about 104 = .ok (.getfield 110, 3) := by decide +kernel
theorem dX9_about_107 : decode cX9_about 107 = .ok (.ifCond .eq 13, 3) := by decide +kernel
theorem dX9_about_110 : decode cX9_about 110 = .ok (.aload_n 0, 1) := by decide +kernel
theorem dX9_about_111 : decode cX9_about 111 = .ok (.getfield 26, 3) := by decide +kernel
theorem dX9_about_114 : decode cX9_about 114 = .ok (.getfield 151, 3) := by decide +kernel
theorem dX9_about_117 : decode cX9_about 117 = .ok (.goto 4, 3) := by decide +kernel
theorem dX9_about_120 : decode cX9_about 120 = .ok (.iconst (-1), 1) := by decide +kernel
theorem dX9_about_121 : decode cX9_about 121 = .ok (.ireturn, 1) := by decide +kernel
theorem dX9_parting_0 : decode cX9_parting 0 = .ok (.iload_n 2, 1) := by decide +kernel
theorem dX9_parting_1 : decode cX9_parting 1 = .ok (.ifCond .lt 8, 3) := by decide +kernel
theorem dX9_parting_4 : decode cX9_parting 4 = .ok (.iload_n 2, 1) := by decide +kernel
theorem dX9_parting_5 : decode cX9_parting 5 = .ok (.iconst 2, 1) := by decide +kernel
theorem dX9_parting_6 : decode cX9_parting 6 = .ok (.if_icmp .le 7, 3) := by decide +kernel
theorem dX9_parting_9 : decode cX9_parting 9 = .ok (.sipush (-1002), 3) := by decide +kernel
theorem dX9_parting_12 : decode cX9_parting 12 = .ok (.ireturn, 1) := by decide +kernel
theorem dX9_parting_13 : decode cX9_parting 13 = .ok (.aload_n 0, 1) := by decide +kernel
theorem dX9_parting_14 : decode cX9_parting 14 = .ok (.getfield 19, 3) := by decide +kernel
theorem dX9_parting_17 : decode cX9_parting 17 = .ok (.getfield 110, 3) := by decide +kernel
theorem dX9_parting_20 : decode cX9_parting 20 = .ok (.ifCond .ne 7, 3) := by decide +kernel
theorem dX9_parting_23 : decode cX9_parting 23 = .ok (.sipush (-1003), 3) := by decide +kernel
theorem dX9_parting_26 : decode cX9_parting 26 = .ok (.ireturn, 1) := by decide +kernel
theorem dX9_parting_27 : decode cX9_parting 27 = .ok (.iload_n 1, 1) := by decide +kernel
theorem dX9_parting_28 : decode cX9_parting 28 = .ok (.ifCond .lt 14, 3) := by decide +kernel
theorem dX9_parting_31 : decode cX9_parting 31 = .ok (.iload_n 1, 1) := by decide +kernel
theorem dX9_parting_32 : decode cX9_parting 32 = .ok (.aload_n 0, 1) := by decide +kernel
theorem dX9_parting_33 : decode cX9_parting 33 = .ok (.getfield 26, 3) := by decide +kernel
theorem dX9_parting_36 : decode cX9_parting 36 = .ok (.getfield 151, 3) := by decide +kernel
theorem dX9_parting_39 : decode cX9_parting 39 = .ok (.if_icmp .lt 7, 3) := by decide +kernel
theorem dX9_parting_42 : decode cX9_parting 42 = .ok (.sipush (-1001), 3) := by decide +kernel
theorem dX9_parting_45 : decode cX9_parting 45 = .ok (.ireturn, 1) := by decide +kernel
theorem dX9_parting_46 : decode cX9_parting 46 = .ok (.iload_n 2, 1) := by decide +kernel
theorem dX9_parting_47 : decode cX9_parting 47 = .ok (.lookupswitch 43 #[(0, 25), (1, 34)], 25) := by decide +kernel
theorem dX9_parting_72 : decode cX9_parting 72 = .ok (.aload_n 0, 1) := by decide +kernel
theorem dX9_parting_73 : decode cX9_parting 73 = .ok (.getfield 26, 3) := by decide +kernel
theorem dX9_parting_76 : decode cX9_parting 76 = .ok (.iload_n 1, 1) := by decide +kernel
theorem dX9_parting_77 : decode cX9_parting 77 = .ok (.invokevirtual 152, 3) := by decide +kernel
theorem dX9_parting_80 : decode cX9_parting 80 = .ok (.ireturn, 1) := by decide +kernel
theorem dX9_parting_81 : decode cX9_parting 81 = .ok (.aload_n 0, 1) := by decide +kernel
theorem dX9_parting_82 : decode cX9_parting 82 = .ok (.getfield 26, 3) := by decide +kernel
theorem dX9_parting_85 : decode cX9_parting 85 = .ok (.iload_n 1, 1) := by decide +kernel
theorem dX9_parting_86 : decode cX9_parting 86 = .ok (.invokevirtual 156, 3) := by decide +kernel
theorem dX9_parting_89 : decode cX9_parting 89 = .ok (.ireturn, 1) := by decide +kernel
theorem dX9_parting_90 : decode cX9_parting 90 = .ok (.aload_n 0, 1) := by decide +kernel
theorem dX9_parting_91 : decode cX9_parting 91 = .ok (.getfield 40, 3) := by decide +kernel
theorem dX9_parting_94 : decode cX9_parting 94 = .ok (.aload_n 0, 1) := by decide +kernel
theorem dX9_parting_95 : decode cX9_parting 95 = .ok (.getfield 26, 3) := by decide +kernel
theorem dX9_parting_98 : decode cX9_parting 98 = .ok (.iload_n 1, 1) := by decide +kernel
theorem dX9_parting_99 : decode cX9_parting 99 = .ok (.invokevirtual 159, 3) := by decide +kernel
theorem dX9_parting_102 : decode cX9_parting 102 = .ok (.ireturn, 1) := by decide +kernel
theorem dX9_least_0 : decode cX9_least 0 = .ok (.iload_n 1, 1) := by decide +kernel
theorem dX9_least_1 : decode cX9_least 1 = .ok (.iconst (-1), 1) := by decide +kernel
theorem dX9_least_2 : decode cX9_least 2 = .ok (.if_icmp .lt 8, 3) := by decide +kernel
theorem dX9_least_5 : decode cX9_least 5 = .ok (.iload_n 1, 1) := by decide +kernel
theorem dX9_least_6 : decode cX9_least 6 = .ok (.iconst 5, 1) := by decide +kernel
theorem dX9_least_7 : decode cX9_least 7 = .ok (.if_icmp .lt 7, 3) := by decide +kernel
theorem dX9_least_10 : decode cX9_least 10 = .ok (.sipush (-1002), 3) := by decide +kernel
theorem dX9_least_13 : decode cX9_least 13 = .ok (.ireturn, 1) := by decide +kernel
theorem dX9_least_14 : decode cX9_least 14 = .ok (.aload_n 0, 1) := by decide +kernel
theorem dX9_least_15 : decode cX9_least 15 = .ok (.getfield 19, 3) := by decide +kernel
theorem dX9_least_18 : decode cX9_least 18 = .ok (.getfield 110, 3) := by decide +kernel
theorem dX9_least_21 : decode cX9_least 21 = .ok (.ifCond .ne 7, 3) := by decide +kernel
theorem dX9_least_24 : decode cX9_least 24 = .ok (.sipush (-1003), 3) := by decide +kernel
theorem dX9_least_27 : decode cX9_least 27 = .ok (.ireturn, 1) := by decide +kernel
theorem dX9_least_28 : decode cX9_least 28 = .ok (.iload_n 1, 1) := by decide +kernel
theorem dX9_least_29 : decode cX9_least 29 = .ok (.iconst (-1), 1) := by decide +kernel
theorem dX9_least_30 : decode cX9_least 30 = .ok (.if_icmp .ne 25, 3) := by decide +kernel
theorem dX9_least_33 : decode cX9_least 33 = .ok (.aload_n 0, 1) := by decide +kernel
theorem dX9_least_34 : decode cX9_least 34 = .ok (.getfield 33, 3) := by decide +kernel
theorem dX9_least_37 : decode cX9_least 37 = .ok (.getfield 163, 3) := by decide +kernel
theorem dX9_least_40 : decode cX9_least 40 = .ok (.ifCond .le 13, 3) := by decide +kernel
theorem dX9_least_43 : decode cX9_least 43 = .ok (.aload_n 0, 1) := by decide +kernel
theorem dX9_least_44 : decode cX9_least 44 = .ok (.getfield 33, 3) := by decide +kernel
theorem dX9_least_47 : decode cX9_least 47 = .ok (.getfield 163, 3) := by decide +kernel
theorem dX9_least_50 : decode cX9_least 50 = .ok (.goto 4, 3) := by decide +kernel
theorem dX9_least_53 : decode cX9_least 53 = .ok (.iconst (-1), 1) := by decide +kernel
theorem dX9_least_54 : decode cX9_least 54 = .ok (.ireturn, 1) := by decide +kernel
theorem dX9_least_55 : decode cX9_least 55 = .ok (.iload_n 1, 1) := by decide +kernel
theorem dX9_least_56 : decode cX9_least 56 = .ok (.aload_n 0, 1) := by decide +kernel
theorem dX9_least_57 : decode cX9_least 57 = .ok (.getfield 33, 3) := by decide +kernel
theorem dX9_least_60 : decode cX9_least 60 = .ok (.getfield 163, 3) := by decide +kernel
theorem dX9_least_63 : decode cX9_least 63 = .ok (.if_icmp .ge 15, 3) := by decide +kernel
theorem dX9_least_66 : decode cX9_least 66 = .ok (.aload_n 0, 1) := by decide +kernel
theorem dX9_least_67 : decode cX9_least 67 = .ok (.getfield 33, 3) := by decide +kernel
theorem dX9_least_70 : decode cX9_least 70 = .ok (.getfield 164, 3) := by decide +kernel
theorem dX9_least_73 : decode cX9_least 73 = .ok (.iload_n 1, 1) := by decide +kernel
theorem dX9_least_74 : decode cX9_least 74 = .ok (.iaload, 1) := by decide +kernel
theorem dX9_least_75 : decode cX9_least 75 = .ok (.goto 4, 3) := by decide +kernel
theorem dX9_least_78 : decode cX9_least 78 = .ok (.iconst (-1), 1) := by decide +kernel
theorem dX9_least_79 : decode cX9_least 79 = .ok (.ireturn, 1) := by decide +kernel
theorem dX9_put_0 : decode cX9_put 0 = .ok (.aload_n 0, 1) := by decide +kernel
theorem dX9_put_1 : decode cX9_put 1 = .ok (.getfield 19, 3) := by decide +kernel
theorem dX9_put_4 : decode cX9_put 4 = .ok (.getfield 110, 3) := by decide +kernel
theorem dX9_put_7 : decode cX9_put 7 = .ok (.ifCond .ne 7, 3) := by decide +kernel
theorem dX9_put_10 : decode cX9_put 10 = .ok (.sipush (-1003), 3) := by decide +kernel
theorem dX9_put_13 : decode cX9_put 13 = .ok (.ireturn, 1) := by decide +kernel
theorem dX9_put_14 : decode cX9_put 14 = .ok (.iload_n 1, 1) := by decide +kernel
theorem dX9_put_15 : decode cX9_put 15 = .ok (.aload_n 0, 1) := by decide +kernel
theorem dX9_put_16 : decode cX9_put 16 = .ok (.getfield 19, 3) := by decide +kernel
theorem dX9_put_19 : decode cX9_put 19 = .ok (.invokevirtual 168, 3) := by decide +kernel
theorem dX9_put_22 : decode cX9_put 22 = .ok (.iconst (-1), 1) := by decide +kernel
theorem dX9_put_23 : decode cX9_put 23 = .ok (.ixor, 1) := by decide +kernel
theorem dX9_put_24 : decode cX9_put 24 = .ok (.iand, 1) := by decide +kernel
theorem dX9_put_25 : decode cX9_put 25 = .ok (.ifCond .eq 7, 3) := by decide +kernel
theorem dX9_put_28 : decode cX9_put 28 = .ok (.sipush (-1002), 3) := by decide +kernel
theorem dX9_put_31 : decode cX9_put 31 = .ok (.ireturn, 1) := by decide +kernel
theorem dX9_put_32 : decode cX9_put 32 = .ok (.aload_n 0, 1) := by decide +kernel
theorem dX9_put_33 : decode cX9_put 33 = .ok (.getfield 40, 3) := by decide +kernel
theorem dX9_put_36 : decode cX9_put 36 = .ok (.iload_n 1, 1) := by decide +kernel
theorem dX9_put_37 : decode cX9_put 37 = .ok (.invokevirtual 172, 3) := by decide +kernel
theorem dX9_put_40 : decode cX9_put 40 = .ok (.ifCond .ne 7, 3) := by decide +kernel
theorem dX9_put_43 : decode cX9_put 43 = .ok (.sipush (-1004), 3) := by decide +kernel
theorem dX9_put_46 : decode cX9_put 46 = .ok (.ireturn, 1) := by decide +kernel
theorem dX9_put_47 : decode cX9_put 47 = .ok (.aload_n 0, 1) := by decide +kernel
theorem dX9_put_48 : decode cX9_put 48 = .ok (.invokevirtual 129, 3) := by decide +kernel
theorem dX9_put_51 : decode cX9_put 51 = .ok (.aload_n 0, 1) := by decide +kernel
theorem dX9_put_52 : decode cX9_put 52 = .ok (.getfield 40, 3) := by decide +kernel
theorem dX9_put_55 : decode cX9_put 55 = .ok (.getfield 175, 3) := by decide +kernel
theorem dX9_put_58 : decode cX9_put 58 = .ok (.ireturn, 1) := by decide +kernel
theorem dX9_clear_0 : decode cX9_clear 0 = .ok (.aload_n 0, 1) := by decide +kernel
theorem dX9_clear_1 : decode cX9_clear 1 = .ok (.getfield 19, 3) := by decide +kernel
theorem dX9_clear_4 : decode cX9_clear 4 = .ok (.getfield 110, 3) := by decide +kernel
theorem dX9_clear_7 : decode cX9_clear 7 = .ok (.ifCond .ne 7, 3) := by decide +kernel
theorem dX9_clear_10 : decode cX9_clear 10 = .ok (.sipush (-1003), 3) := by decide +kernel
theorem dX9_clear_13 : decode cX9_clear 13 = .ok (.ireturn, 1) := by decide +kernel
theorem dX9_clear_14 : decode cX9_clear 14 = .ok (.aload_n 0, 1) := by decide +kernel
theorem dX9_clear_15 : decode cX9_clear 15 = .ok (.getfield 40, 3) := by decide +kernel
theorem dX9_clear_18 : decode cX9_clear 18 = .ok (.getfield 175, 3) := by decide +kernel
theorem dX9_clear_21 : decode cX9_clear 21 = .ok (.istore_n 1, 1) := by decide +kernel
theorem dX9_clear_22 : decode cX9_clear 22 = .ok (.aload_n 0, 1) := by decide +kernel
theorem dX9_clear_23 : decode cX9_clear 23 = .ok (.getfield 40, 3) := by decide +kernel
theorem dX9_clear_26 : decode cX9_clear 26 = .ok (.invokevirtual 176, 3) := by decide +kernel
theorem dX9_clear_29 : decode cX9_clear 29 = .ok (.aload_n 0, 1) := by decide +kernel
theorem dX9_clear_30 : decode cX9_clear 30 = .ok (.invokevirtual 129, 3) := by decide +kernel
theorem dX9_clear_33 : decode cX9_clear 33 = .ok (.iload_n 1, 1) := by decide +kernel
theorem dX9_clear_34 : decode cX9_clear 34 = .ok (.ireturn, 1) := by decide +kernel
theorem dX9_code_0 : decode cX9_code 0 = .ok (.aload_n 0, 1) := by decide +kernel
theorem dX9_code_1 : decode cX9_code 1 = .ok (.getfield 19, 3) := by decide +kernel
theorem dX9_code_4 : decode cX9_code 4 = .ok (.iload_n 1, 1) := by decide +kernel
theorem dX9_code_5 : decode cX9_code 5 = .ok (.invokevirtual 132, 3) := by decide +kernel
theorem dX9_code_8 : decode cX9_code 8 = .ok (.ifCond .ne 7, 3) := by decide +kernel
theorem dX9_code_11 : decode cX9_code 11 = .ok (.sipush (-1001), 3) := by decide +kernel
theorem dX9_code_14 : decode cX9_code 14 = .ok (.ireturn, 1) := by decide +kernel
theorem dX9_code_15 : decode cX9_code 15 = .ok (.aload_n 0, 1) := by decide +kernel
theorem dX9_code_16 : decode cX9_code 16 = .ok (.getfield 19, 3) := by decide +kernel
theorem dX9_code_19 : decode cX9_code 19 = .ok (.getfield 110, 3) := by decide +kernel
theorem dX9_code_22 : decode cX9_code 22 = .ok (.ifCond .eq 14, 3) := by decide +kernel
theorem dX9_code_25 : decode cX9_code 25 = .ok (.aload_n 0, 1) := by decide +kernel
theorem dX9_code_26 : decode cX9_code 26 = .ok (.getfield 40, 3) := by decide +kernel
theorem dX9_code_29 : decode cX9_code 29 = .ok (.iload_n 1, 1) := by decide +kernel
theorem dX9_code_30 : decode cX9_code 30 = .ok (.invokevirtual 177, 3) := by decide +kernel
theorem dX9_code_33 : decode cX9_code 33 = .ok (.goto 6, 3) := by decide +kernel
theorem dX9_code_36 : decode cX9_code 36 = .ok (.sipush (-1003), 3) := by decide +kernel
theorem dX9_code_39 : decode cX9_code 39 = .ok (.ireturn, 1) := by decide +kernel
theorem dX9_coded_0 : decode cX9_coded 0 = .ok (.iload_n 1, 1) := by decide +kernel
theorem dX9_coded_1 : decode cX9_coded 1 = .ok (.ifCond .lt 8, 3) := by decide +kernel
theorem dX9_coded_4 : decode cX9_coded 4 = .ok (.iload_n 1, 1) := by decide +kernel
theorem dX9_coded_5 : decode cX9_coded 5 = .ok (.iconst 5, 1) := by decide +kernel
theorem dX9_coded_6 : decode cX9_coded 6 = .ok (.if_icmp .le 7, 3) := by decide +kernel
theorem dX9_coded_9 : decode cX9_coded 9 = .ok (.sipush (-1002), 3) := by decide +kernel
theorem dX9_coded_12 : decode cX9_coded 12 = .ok (.ireturn, 1) := by decide +kernel
theorem dX9_coded_13 : decode cX9_coded 13 = .ok (.aload_n 0, 1) := by decide +kernel
theorem dX9_coded_14 : decode cX9_coded 14 = .ok (.getfield 19, 3) := by decide +kernel
theorem dX9_coded_17 : decode cX9_coded 17 = .ok (.getfield 110, 3) := by decide +kernel
theorem dX9_coded_20 : decode cX9_coded 20 = .ok (.ifCond .ne 7, 3) := by decide +kernel
theorem dX9_coded_23 : decode cX9_coded 23 = .ok (.sipush (-1003), 3) := by decide +kernel
theorem dX9_coded_26 : decode cX9_coded 26 = .ok (.ireturn, 1) := by decide +kernel
theorem dX9_coded_27 : decode cX9_coded 27 = .ok (.iload_n 1, 1) := by decide +kernel
theorem dX9_coded_28 : decode cX9_coded 28 = .ok (.tableswitch 86 0 4 #[36, 44, 57, 62, 74], 36) := by decide +kernel
theorem dX9_coded_64 : decode cX9_coded 64 = .ok (.aload_n 0, 1) := by decide +kernel
theorem dX9_coded_65 : decode cX9_coded 65 = .ok (.getfield 40, 3) := by decide +kernel
theorem dX9_coded_68 : decode cX9_coded 68 = .ok (.getfield 175, 3) := by decide +kernel
theorem dX9_coded_71 : decode cX9_coded 71 = .ok (.ireturn, 1) := by decide +kernel
theorem dX9_coded_72 : decode cX9_coded 72 = .ok (.aload_n 0, 1) := by decide +kernel
theorem dX9_coded_73 : decode cX9_coded 73 = .ok (.getfield 72, 3) := by decide +kernel
theorem dX9_coded_76 : decode cX9_coded 76 = .ok (.ifCond .ne 7, 3) := by decide +kernel
theorem dX9_coded_79 : decode cX9_coded 79 = .ok (.iconst 1, 1) := by decide +kernel
theorem dX9_coded_80 : decode cX9_coded 80 = .ok (.goto 4, 3) := by decide +kernel
theorem dX9_coded_83 : decode cX9_coded 83 = .ok (.iconst 0, 1) := by decide +kernel
theorem dX9_coded_84 : decode cX9_coded 84 = .ok (.ireturn, 1) := by decide +kernel
theorem dX9_coded_85 : decode cX9_coded 85 = .ok (.aload_n 0, 1) := by decide +kernel
theorem dX9_coded_86 : decode cX9_coded 86 = .ok (.getfield 72, 3) := by decide +kernel
theorem dX9_coded_89 : decode cX9_coded 89 = .ok (.ireturn, 1) := by decide +kernel
theorem dX9_coded_90 : decode cX9_coded 90 = .ok (.aload_n 0, 1) := by decide +kernel
theorem dX9_coded_91 : decode cX9_coded 91 = .ok (.getfield 40, 3) := by decide +kernel
theorem dX9_coded_94 : decode cX9_coded 94 = .ok (.aload_n 0, 1) := by decide +kernel
theorem dX9_coded_95 : decode cX9_coded 95 = .ok (.getfield 19, 3) := by decide +kernel
theorem dX9_coded_98 : decode cX9_coded 98 = .ok (.invokevirtual 180, 3) := by decide +kernel
theorem dX9_coded_101 : decode cX9_coded 101 = .ok (.ireturn, 1) := by decide +kernel
theorem dX9_coded_102 : decode cX9_coded 102 = .ok (.aload_n 0, 1) := by decide +kernel
theorem dX9_coded_103 : decode cX9_coded 103 = .ok (.getfield 40, 3) := by decide +kernel
theorem dX9_coded_106 : decode cX9_coded 106 = .ok (.aload_n 0, 1) := by decide +kernel
theorem dX9_coded_107 : decode cX9_coded 107 = .ok (.getfield 19, 3) := by decide +kernel
theorem dX9_coded_110 : decode cX9_coded 110 = .ok (.invokevirtual 184, 3) := by decide +kernel
theorem dX9_coded_113 : decode cX9_coded 113 = .ok (.ireturn, 1) := by decide +kernel
theorem dX9_coded_114 : decode cX9_coded 114 = .ok (.aload_n 0, 1) := by decide +kernel
theorem dX9_coded_115 : decode cX9_coded 115 = .ok (.getfield 40, 3) := by decide +kernel
theorem dX9_coded_118 : decode cX9_coded 118 = .ok (.aload_n 0, 1) := by decide +kernel
theorem dX9_coded_119 : decode cX9_coded 119 = .ok (.getfield 19, 3) := by decide +kernel
theorem dX9_coded_122 : decode cX9_coded 122 = .ok (.invokevirtual 187, 3) := by decide +kernel
theorem dX9_coded_125 : decode cX9_coded 125 = .ok (.ireturn, 1) := by decide +kernel
theorem dX9_wanted_0 : decode cX9_wanted 0 = .ok (.aload_n 0, 1) := by decide +kernel
theorem dX9_wanted_1 : decode cX9_wanted 1 = .ok (.iload_n 1, 1) := by decide +kernel
theorem dX9_wanted_2 : decode cX9_wanted 2 = .ok (.invokevirtual 190, 3) := by decide +kernel
theorem dX9_wanted_5 : decode cX9_wanted 5 = .ok (.istore_n 3, 1) := by decide +kernel
theorem dX9_wanted_6 : decode cX9_wanted 6 = .ok (.iload_n 3, 1) := by decide +kernel
theorem dX9_wanted_7 : decode cX9_wanted 7 = .ok (.ifCond .eq 5, 3) := by decide +kernel
theorem dX9_wanted_10 : decode cX9_wanted 10 = .ok (.iload_n 3, 1) := by decide +kernel
theorem dX9_wanted_11 : decode cX9_wanted 11 = .ok (.ireturn, 1) := by decide +kernel
theorem dX9_wanted_12 : decode cX9_wanted 12 = .ok (.iload_n 2, 1) := by decide +kernel
theorem dX9_wanted_13 : decode cX9_wanted 13 = .ok (.ifCond .lt 14, 3) := by decide +kernel
theorem dX9_wanted_16 : decode cX9_wanted 16 = .ok (.iload_n 2, 1) := by decide +kernel
theorem dX9_wanted_17 : decode cX9_wanted 17 = .ok (.aload_n 0, 1) := by decide +kernel
theorem dX9_wanted_18 : decode cX9_wanted 18 = .ok (.getfield 47, 3) := by decide +kernel
theorem dX9_wanted_21 : decode cX9_wanted 21 = .ok (.invokevirtual 193, 3) := by decide +kernel
theorem dX9_wanted_24 : decode cX9_wanted 24 = .ok (.if_icmp .lt 7, 3) := by decide +kernel
theorem dX9_wanted_27 : decode cX9_wanted 27 = .ok (.sipush (-1001), 3) := by decide +kernel
theorem dX9_wanted_30 : decode cX9_wanted 30 = .ok (.ireturn, 1) := by decide +kernel
theorem dX9_wanted_31 : decode cX9_wanted 31 = .ok (.aload_n 0, 1) := by decide +kernel
theorem dX9_wanted_32 : decode cX9_wanted 32 = .ok (.getfield 47, 3) := by decide +kernel
theorem dX9_wanted_35 : decode cX9_wanted 35 = .ok (.iload_n 1, 1) := by decide +kernel
theorem dX9_wanted_36 : decode cX9_wanted 36 = .ok (.iload_n 2, 1) := by decide +kernel
theorem dX9_wanted_37 : decode cX9_wanted 37 = .ok (.invokevirtual 196, 3) := by decide +kernel
theorem dX9_wanted_40 : decode cX9_wanted 40 = .ok (.ireturn, 1) := by decide +kernel
theorem dX9_logic_0 : decode cX9_logic 0 = .ok (.aload_n 0, 1) := by decide +kernel
theorem dX9_logic_1 : decode cX9_logic 1 = .ok (.iload_n 1, 1) := by decide +kernel
theorem dX9_logic_2 : decode cX9_logic 2 = .ok (.invokevirtual 190, 3) := by decide +kernel
theorem dX9_logic_5 : decode cX9_logic 5 = .ok (.istore_n 3, 1) := by decide +kernel
theorem dX9_logic_6 : decode cX9_logic 6 = .ok (.iload_n 3, 1) := by decide +kernel
theorem dX9_logic_7 : decode cX9_logic 7 = .ok (.ifCond .eq 5, 3) := by decide +kernel
theorem dX9_logic_10 : decode cX9_logic 10 = .ok (.iload_n 3, 1) := by decide +kernel
theorem dX9_logic_11 : decode cX9_logic 11 = .ok (.ireturn, 1) := by decide +kernel
theorem dX9_logic_12 : decode cX9_logic 12 = .ok (.iload_n 2, 1) := by decide +kernel
theorem dX9_logic_13 : decode cX9_logic 13 = .ok (.ifCond .lt 8, 3) := by decide +kernel
theorem dX9_logic_16 : decode cX9_logic 16 = .ok (.iload_n 2, 1) := by decide +kernel
theorem dX9_logic_17 : decode cX9_logic 17 = .ok (.iconst 5, 1) := by decide +kernel
theorem dX9_logic_18 : decode cX9_logic 18 = .ok (.if_icmp .le 7, 3) := by decide +kernel
theorem dX9_logic_21 : decode cX9_logic 21 = .ok (.sipush (-1002), 3) := by decide +kernel
theorem dX9_logic_24 : decode cX9_logic 24 = .ok (.ireturn, 1) := by decide +kernel
theorem dX9_logic_25 : decode cX9_logic 25 = .ok (.aload_n 0, 1) := by decide +kernel
theorem dX9_logic_26 : decode cX9_logic 26 = .ok (.iload_n 1, 1) := by decide +kernel
theorem dX9_logic_27 : decode cX9_logic 27 = .ok (.invokevirtual 199, 3) := by decide +kernel
theorem dX9_logic_30 : decode cX9_logic 30 = .ok (.astore 4, 2) := by decide +kernel
theorem dX9_logic_32 : decode cX9_logic 32 = .ok (.iload_n 2, 1) := by decide +kernel
theorem dX9_logic_33 : decode cX9_logic 33 = .ok (.tableswitch 69 0 4 #[35, 41, 47, 53, 59], 35) := by decide +kernel
theorem dX9_logic_68 : decode cX9_logic 68 = .ok (.aload 4, 2) := by decide +kernel
theorem dX9_logic_70 : decode cX9_logic 70 = .ok (.getfield 203, 3) := by decide +kernel
theorem dX9_logic_73 : decode cX9_logic 73 = .ok (.ireturn, 1) := by decide +kernel
theorem dX9_logic_74 : decode cX9_logic 74 = .ok (.aload 4, 2) := by decide +kernel
theorem dX9_logic_76 : decode cX9_logic 76 = .ok (.getfield 206, 3) := by decide +kernel
theorem dX9_logic_79 : decode cX9_logic 79 = .ok (.ireturn, 1) := by decide +kernel
theorem dX9_logic_80 : decode cX9_logic 80 = .ok (.aload 4, 2) := by decide +kernel
theorem dX9_logic_82 : decode cX9_logic 82 = .ok (.getfield 209, 3) := by decide +kernel
theorem dX9_logic_85 : decode cX9_logic 85 = .ok (.ireturn, 1) := by decide +kernel
theorem dX9_logic_86 : decode cX9_logic 86 = .ok (.aload 4, 2) := by decide +kernel
theorem dX9_logic_88 : decode cX9_logic 88 = .ok (.invokevirtual 212, 3) := by decide +kernel
theorem dX9_logic_91 : decode cX9_logic 91 = .ok (.ireturn, 1) := by decide +kernel
theorem dX9_logic_92 : decode cX9_logic 92 = .ok (.aload_n 0, 1) := by decide +kernel
theorem dX9_logic_93 : decode cX9_logic 93 = .ok (.getfield 47, 3) := by decide +kernel
theorem dX9_logic_96 : decode cX9_logic 96 = .ok (.iload_n 1, 1) := by decide +kernel
theorem dX9_logic_97 : decode cX9_logic 97 = .ok (.iconst 1, 1) := by decide +kernel
theorem dX9_logic_98 : decode cX9_logic 98 = .ok (.invokevirtual 215, 3) := by decide +kernel
theorem dX9_logic_101 : decode cX9_logic 101 = .ok (.ireturn, 1) := by decide +kernel
theorem dX9_logic_102 : decode cX9_logic 102 = .ok (.aload_n 0, 1) := by decide +kernel
theorem dX9_logic_103 : decode cX9_logic 103 = .ok (.getfield 47, 3) := by decide +kernel
theorem dX9_logic_106 : decode cX9_logic 106 = .ok (.iload_n 1, 1) := by decide +kernel
theorem dX9_logic_107 : decode cX9_logic 107 = .ok (.iconst 0, 1) := by decide +kernel
theorem dX9_logic_108 : decode cX9_logic 108 = .ok (.invokevirtual 215, 3) := by decide +kernel
theorem dX9_logic_111 : decode cX9_logic 111 = .ok (.ireturn, 1) := by decide +kernel
theorem dX9_product_0 : decode cX9_product 0 = .ok (.aload_n 0, 1) := by decide +kernel
theorem dX9_product_1 : decode cX9_product 1 = .ok (.iload_n 1, 1) := by decide +kernel
theorem dX9_product_2 : decode cX9_product 2 = .ok (.invokevirtual 190, 3) := by decide +kernel
theorem dX9_product_5 : decode cX9_product 5 = .ok (.istore 4, 2) := by decide +kernel
theorem dX9_product_7 : decode cX9_product 7 = .ok (.iload 4, 2) := by decide +kernel
theorem dX9_product_9 : decode cX9_product 9 = .ok (.ifCond .eq 6, 3) := by decide +kernel
theorem dX9_product_12 : decode cX9_product 12 = .ok (.iload 4, 2) := by decide +kernel
theorem dX9_product_14 : decode cX9_product 14 = .ok (.ireturn, 1) := by decide +kernel
theorem dX9_product_15 : decode cX9_product 15 = .ok (.aload_n 0, 1) := by decide +kernel
theorem dX9_product_16 : decode cX9_product 16 = .ok (.iload_n 1, 1) := by decide +kernel
theorem dX9_product_17 : decode cX9_product 17 = .ok (.invokevirtual 199, 3) := by decide +kernel
theorem dX9_product_20 : decode cX9_product 20 = .ok (.iload_n 2, 1) := by decide +kernel
theorem dX9_product_21 : decode cX9_product 21 = .ok (.iload_n 3, 1) := by decide +kernel
theorem dX9_product_22 : decode cX9_product 22 = .ok (.invokevirtual 218, 3) := by decide +kernel
theorem dX9_product_25 : decode cX9_product 25 = .ok (.ireturn, 1) := by decide +kernel
theorem dX9_wide_0 : decode cX9_wide 0 = .ok (.aload_n 0, 1) := by decide +kernel
theorem dX9_wide_1 : decode cX9_wide 1 = .ok (.iload_n 1, 1) := by decide +kernel
theorem dX9_wide_2 : decode cX9_wide 2 = .ok (.invokevirtual 190, 3) := by decide +kernel
theorem dX9_wide_5 : decode cX9_wide 5 = .ok (.istore 4, 2) := by decide +kernel
theorem dX9_wide_7 : decode cX9_wide 7 = .ok (.iload 4, 2) := by decide +kernel
theorem dX9_wide_9 : decode cX9_wide 9 = .ok (.ifCond .eq 6, 3) := by decide +kernel
theorem dX9_wide_12 : decode cX9_wide 12 = .ok (.iload 4, 2) := by decide +kernel
theorem dX9_wide_14 : decode cX9_wide 14 = .ok (.ireturn, 1) := by decide +kernel
theorem dX9_wide_15 : decode cX9_wide 15 = .ok (.aload_n 0, 1) := by decide +kernel
theorem dX9_wide_16 : decode cX9_wide 16 = .ok (.iload_n 1, 1) := by decide +kernel
theorem dX9_wide_17 : decode cX9_wide 17 = .ok (.invokevirtual 199, 3) := by decide +kernel
theorem dX9_wide_20 : decode cX9_wide 20 = .ok (.iload_n 2, 1) := by decide +kernel
theorem dX9_wide_21 : decode cX9_wide 21 = .ok (.iload_n 3, 1) := by decide +kernel
theorem dX9_wide_22 : decode cX9_wide 22 = .ok (.invokevirtual 221, 3) := by decide +kernel
theorem dX9_wide_25 : decode cX9_wide 25 = .ok (.ireturn, 1) := by decide +kernel
theorem dX9_walk_0 : decode cX9_walk 0 = .ok (.aload_n 0, 1) := by decide +kernel
theorem dX9_walk_1 : decode cX9_walk 1 = .ok (.getfield 19, 3) := by decide +kernel
theorem dX9_walk_4 : decode cX9_walk 4 = .ok (.iload_n 1, 1) := by decide +kernel
theorem dX9_walk_5 : decode cX9_walk 5 = .ok (.invokevirtual 132, 3) := by decide +kernel
theorem dX9_walk_8 : decode cX9_walk 8 = .ok (.ifCond .ne 7, 3) := by decide +kernel
theorem dX9_walk_11 : decode cX9_walk 11 = .ok (.sipush (-1001), 3) := by decide +kernel
theorem dX9_walk_14 : decode cX9_walk 14 = .ok (.ireturn, 1) := by decide +kernel
theorem dX9_walk_15 : decode cX9_walk 15 = .ok (.aload_n 0, 1) := by decide +kernel
theorem dX9_walk_16 : decode cX9_walk 16 = .ok (.getfield 68, 3) := by decide +kernel
theorem dX9_walk_19 : decode cX9_walk 19 = .ok (.getfield 224, 3) := by decide +kernel
theorem dX9_walk_22 : decode cX9_walk 22 = .ok (.istore_n 2, 1) := by decide +kernel
theorem dX9_walk_23 : decode cX9_walk 23 = .ok (.aload_n 0, 1) := by decide +kernel
theorem dX9_walk_24 : decode cX9_walk 24 = .ok (.getfield 68, 3) := by decide +kernel
theorem dX9_walk_27 : decode cX9_walk 27 = .ok (.iload_n 1, 1) := by decide +kernel
theorem dX9_walk_28 : decode cX9_walk 28 = .ok (.invokevirtual 100, 3) := by decide +kernel
theorem dX9_walk_31 : decode cX9_walk 31 = .ok (.iload_n 2, 1) := by decide +kernel
theorem dX9_walk_32 : decode cX9_walk 32 = .ok (.ireturn, 1) := by decide +kernel
theorem dX9_turn_0 : decode cX9_turn 0 = .ok (.aload_n 0, 1) := by decide +kernel
theorem dX9_turn_1 : decode cX9_turn 1 = .ok (.getfield 19, 3) := by decide +kernel
theorem dX9_turn_4 : decode cX9_turn 4 = .ok (.iload_n 1, 1) := by decide +kernel
theorem dX9_turn_5 : decode cX9_turn 5 = .ok (.invokevirtual 135, 3) := by decide +kernel
theorem dX9_turn_8 : decode cX9_turn 8 = .ok (.ifCond .ne 7, 3) := by decide +kernel
theorem dX9_turn_11 : decode cX9_turn 11 = .ok (.sipush (-1001), 3) := by decide +kernel
theorem dX9_turn_14 : decode cX9_turn 14 = .ok (.ireturn, 1) := by decide +kernel
theorem dX9_turn_15 : decode cX9_turn 15 = .ok (.aload_n 0, 1) := by decide +kernel
theorem dX9_turn_16 : decode cX9_turn 16 = .ok (.getfield 19, 3) := by decide +kernel
theorem dX9_turn_19 : decode cX9_turn 19 = .ok (.aload_n 0, 1) := by decide +kernel
theorem dX9_turn_20 : decode cX9_turn 20 = .ok (.getfield 68, 3) := by decide +kernel
theorem dX9_turn_23 : decode cX9_turn 23 = .ok (.getfield 224, 3) := by decide +kernel
theorem dX9_turn_26 : decode cX9_turn 26 = .ok (.iload_n 1, 1) := by decide +kernel
theorem dX9_turn_27 : decode cX9_turn 27 = .ok (.invokevirtual 138, 3) := by decide +kernel
theorem dX9_turn_30 : decode cX9_turn 30 = .ok (.istore_n 2, 1) := by decide +kernel
theorem dX9_turn_31 : decode cX9_turn 31 = .ok (.iload_n 2, 1) := by decide +kernel
theorem dX9_turn_32 : decode cX9_turn 32 = .ok (.iconst (-1), 1) := by decide +kernel
theorem dX9_turn_33 : decode cX9_turn 33 = .ok (.if_icmp .ne 7, 3) := by decide +kernel
theorem dX9_turn_36 : decode cX9_turn 36 = .ok (.sipush (-1003), 3) := by decide +kernel
theorem dX9_turn_39 : decode cX9_turn 39 = .ok (.ireturn, 1) := by decide +kernel
theorem dX9_turn_40 : decode cX9_turn 40 = .ok (.aload_n 0, 1) := by decide +kernel
theorem dX9_turn_41 : decode cX9_turn 41 = .ok (.getfield 68, 3) := by decide +kernel
theorem dX9_turn_44 : decode cX9_turn 44 = .ok (.iload_n 2, 1) := by decide +kernel
theorem dX9_turn_45 : decode cX9_turn 45 = .ok (.aload_n 0, 1) := by decide +kernel
theorem dX9_turn_46 : decode cX9_turn 46 = .ok (.getfield 40, 3) := by decide +kernel
theorem dX9_turn_49 : decode cX9_turn 49 = .ok (.aload_n 0, 1) := by decide +kernel
theorem dX9_turn_50 : decode cX9_turn 50 = .ok (.getfield 68, 3) := by decide +kernel
theorem dX9_turn_53 : decode cX9_turn 53 = .ok (.getfield 224, 3) := by decide +kernel
theorem dX9_turn_56 : decode cX9_turn 56 = .ok (.iload_n 2, 1) := by decide +kernel
theorem dX9_turn_57 : decode cX9_turn 57 = .ok (.invokevirtual 226, 3) := by decide +kernel
theorem dX9_turn_60 : decode cX9_turn 60 = .ok (.invokevirtual 229, 3) := by decide +kernel
theorem dX9_turn_63 : decode cX9_turn 63 = .ok (.iload_n 2, 1) := by decide +kernel
theorem dX9_turn_64 : decode cX9_turn 64 = .ok (.ireturn, 1) := by decide +kernel
theorem dX9_count_0 : decode cX9_count 0 = .ok (.iload_n 1, 1) := by decide +kernel
theorem dX9_count_1 : decode cX9_count 1 = .ok (.tableswitch 96 0 6 #[43, 51, 59, 67, 75, 83, 91], 43) := by decide +kernel
theorem dX9_count_44 : decode cX9_count 44 = .ok (.aload_n 0, 1) := by decide +kernel
theorem dX9_count_45 : decode cX9_count 45 = .ok (.getfield 12, 3) := by decide +kernel
theorem dX9_count_48 : decode cX9_count 48 = .ok (.getfield 83, 3) := by decide +kernel
theorem dX9_count_51 : decode cX9_count 51 = .ok (.ireturn, 1) := by decide +kernel
theorem dX9_count_52 : decode cX9_count 52 = .ok (.aload_n 0, 1) := by decide +kernel
theorem dX9_count_53 : decode cX9_count 53 = .ok (.getfield 19, 3) := by decide +kernel
theorem dX9_count_56 : decode cX9_count 56 = .ok (.getfield 118, 3) := by decide +kernel
theorem dX9_count_59 : decode cX9_count 59 = .ok (.ireturn, 1) := by decide +kernel
theorem dX9_count_60 : decode cX9_count 60 = .ok (.aload_n 0, 1) := by decide +kernel
theorem dX9_count_61 : decode cX9_count 61 = .ok (.getfield 19, 3) := by decide +kernel
theorem dX9_count_64 : decode cX9_count 64 = .ok (.getfield 233, 3) := by decide +kernel
theorem dX9_count_67 : decode cX9_count 67 = .ok (.ireturn, 1) := by decide +kernel
theorem dX9_count_68 : decode cX9_count 68 = .ok (.aload_n 0, 1) := by decide +kernel
theorem dX9_count_69 : decode cX9_count 69 = .ok (.getfield 68, 3) := by decide +kernel
theorem dX9_count_72 : decode cX9_count 72 = .ok (.getfield 224, 3) := by decide +kernel
theorem dX9_count_75 : decode cX9_count 75 = .ok (.ireturn, 1) := by decide +kernel
theorem dX9_count_76 : decode cX9_count 76 = .ok (.aload_n 0, 1) := by decide +kernel
theorem dX9_count_77 : decode cX9_count 77 = .ok (.getfield 68, 3) := by decide +kernel
theorem dX9_count_80 : decode cX9_count 80 = .ok (.getfield 236, 3) := by decide +kernel
theorem dX9_count_83 : decode cX9_count 83 = .ok (.ireturn, 1) := by decide +kernel
theorem dX9_count_84 : decode cX9_count 84 = .ok (.aload_n 0, 1) := by decide +kernel
theorem dX9_count_85 : decode cX9_count 85 = .ok (.getfield 68, 3) := by decide +kernel
theorem dX9_count_88 : decode cX9_count 88 = .ok (.getfield 239, 3) := by decide +kernel
theorem dX9_count_91 : decode cX9_count 91 = .ok (.ireturn, 1) := by decide +kernel
theorem dX9_count_92 : decode cX9_count 92 = .ok (.aload_n 0, 1) := by decide +kernel
theorem dX9_count_93 : decode cX9_count 93 = .ok (.getfield 76, 3) := by decide +kernel
theorem dX9_count_96 : decode cX9_count 96 = .ok (.ireturn, 1) := by decide +kernel
theorem dX9_count_97 : decode cX9_count 97 = .ok (.sipush (-1002), 3) := by decide +kernel
theorem dX9_count_100 : decode cX9_count 100 = .ok (.ireturn, 1) := by decide +kernel
theorem dX9_digest_0 : decode cX9_digest 0 = .ok (.ldc2_w 242, 3) := by decide +kernel
theorem dX9_digest_3 : decode cX9_digest 3 = .ok (.lstore_n 1, 1) := by decide +kernel
theorem dX9_digest_4 : decode cX9_digest 4 = .ok (.iconst 0, 1) := by decide +kernel
theorem dX9_digest_5 : decode cX9_digest 5 = .ok (.istore_n 3, 1) := by decide +kernel
theorem dX9_digest_6 : decode cX9_digest 6 = .ok (.iload_n 3, 1) := by decide +kernel
theorem dX9_digest_7 : decode cX9_digest 7 = .ok (.aload_n 0, 1) := by decide +kernel
theorem dX9_digest_8 : decode cX9_digest 8 = .ok (.getfield 19, 3) := by decide +kernel
theorem dX9_digest_11 : decode cX9_digest 11 = .ok (.getfield 118, 3) := by decide +kernel
theorem dX9_digest_14 : decode cX9_digest 14 = .ok (.if_icmp .ge 42, 3) := by decide +kernel
theorem dX9_digest_17 : decode cX9_digest 17 = .ok (.iconst 0, 1) := by decide +kernel
theorem dX9_digest_18 : decode cX9_digest 18 = .ok (.istore 4, 2) := by decide +kernel
theorem dX9_digest_20 : decode cX9_digest 20 = .ok (.iload 4, 2) := by decide +kernel
theorem dX9_digest_22 : decode cX9_digest 22 = .ok (.aload_n 0, 1) := by decide +kernel
theorem dX9_digest_23 : decode cX9_digest 23 = .ok (.getfield 19, 3) := by decide +kernel
theorem dX9_digest_26 : decode cX9_digest 26 = .ok (.getfield 233, 3) := by decide +kernel
theorem dX9_digest_29 : decode cX9_digest 29 = .ok (.if_icmp .ge 21, 3) := by decide +kernel
theorem dX9_digest_32 : decode cX9_digest 32 = .ok (.lload_n 1, 1) := by decide +kernel
theorem dX9_digest_33 : decode cX9_digest 33 = .ok (.aload_n 0, 1) := by decide +kernel
theorem dX9_digest_34 : decode cX9_digest 34 = .ok (.iload_n 3, 1) := by decide +kernel
theorem dX9_digest_35 : decode cX9_digest 35 = .ok (.iload 4, 2) := by decide +kernel
theorem dX9_digest_37 : decode cX9_digest 37 = .ok (.invokevirtual 244, 3) := by decide +kernel
theorem dX9_digest_40 : decode cX9_digest 40 = .ok (.invokestatic 247, 3) := by decide +kernel
theorem dX9_digest_43 : decode cX9_digest 43 = .ok (.lstore_n 1, 1) := by decide +kernel
theorem dX9_digest_44 : decode cX9_digest 44 = .ok (.iinc 4 1, 3) := by decide +kernel
theorem dX9_digest_47 : decode cX9_digest 47 = .ok (.goto (-27), 3) := by decide +kernel
theorem dX9_digest_50 : decode cX9_digest 50 = .ok (.iinc 3 1, 3) := by decide +kernel
theorem dX9_digest_53 : decode cX9_digest 53 = .ok (.goto (-47), 3) := by decide +kernel
theorem dX9_digest_56 : decode cX9_digest 56 = .ok (.aload_n 0, 1) := by decide +kernel
theorem dX9_digest_57 : decode cX9_digest 57 = .ok (.getfield 19, 3) := by decide +kernel
theorem dX9_digest_60 : decode cX9_digest 60 = .ok (.getfield 118, 3) := by decide +kernel
theorem dX9_digest_63 : decode cX9_digest 63 = .ok (.ifCond .le 26, 3) := by decide +kernel
theorem dX9_digest_66 : decode cX9_digest 66 = .ok (.iconst 0, 1) := by decide +kernel
theorem dX9_digest_67 : decode cX9_digest 67 = .ok (.istore_n 3, 1) := by decide +kernel
theorem dX9_digest_68 : decode cX9_digest 68 = .ok (.iload_n 3, 1) := by decide +kernel
theorem dX9_digest_69 : decode cX9_digest 69 = .ok (.iconst 4, 1) := by decide +kernel
theorem dX9_digest_70 : decode cX9_digest 70 = .ok (.if_icmp .gt 19, 3) := by decide +kernel
theorem dX9_digest_73 : decode cX9_digest 73 = .ok (.lload_n 1, 1) := by decide +kernel
theorem dX9_digest_74 : decode cX9_digest 74 = .ok (.aload_n 0, 1) := by decide +kernel
theorem dX9_digest_75 : decode cX9_digest 75 = .ok (.iload_n 3, 1) := by decide +kernel
theorem dX9_digest_76 : decode cX9_digest 76 = .ok (.invokevirtual 251, 3) := by decide +kernel
theorem dX9_digest_79 : decode cX9_digest 79 = .ok (.invokestatic 247, 3) := by decide +kernel
theorem dX9_digest_82 : decode cX9_digest 82 = .ok (.lstore_n 1, 1) := by decide +kernel
theorem dX9_digest_83 : decode cX9_digest 83 = .ok (.iinc 3 1, 3) := by decide +kernel
theorem dX9_digest_86 : decode cX9_digest 86 = .ok (.goto (-18), 3) := by decide +kernel
theorem dX9_digest_89 : decode cX9_digest 89 = .ok (.aload_n 0, 1) := by decide +kernel
theorem dX9_digest_90 : decode cX9_digest 90 = .ok (.getfield 19, 3) := by decide +kernel
theorem dX9_digest_93 : decode cX9_digest 93 = .ok (.getfield 110, 3) := by decide +kernel
theorem dX9_digest_96 : decode cX9_digest 96 = .ok (.ifCond .eq 9, 3) := by decide +kernel
theorem dX9_digest_99 : decode cX9_digest 99 = .ok (.aload_n 0, 1) := by decide +kernel
theorem dX9_digest_100 : decode cX9_digest 100 = .ok (.lload_n 1, 1) := by decide +kernel
theorem dX9_digest_101 : decode cX9_digest 101 = .ok (.invokevirtual 254, 3) := by decide +kernel
theorem dX9_digest_104 : decode cX9_digest 104 = .ok (.lstore_n 1, 1) := by decide +kernel
theorem dX9_digest_105 : decode cX9_digest 105 = .ok (.iconst 0, 1) := by decide +kernel
theorem dX9_digest_106 : decode cX9_digest 106 = .ok (.istore_n 3, 1) := by decide +kernel
theorem dX9_digest_107 : decode cX9_digest 107 = .ok (.iload_n 3, 1) := by decide +kernel
theorem dX9_digest_108 : decode cX9_digest 108 = .ok (.iconst 5, 1) := by decide +kernel
theorem dX9_digest_109 : decode cX9_digest 109 = .ok (.if_icmp .gt 19, 3) := by decide +kernel
theorem dX9_digest_112 : decode cX9_digest 112 = .ok (.lload_n 1, 1) := by decide +kernel
theorem dX9_digest_113 : decode cX9_digest 113 = .ok (.aload_n 0, 1) := by decide +kernel
theorem dX9_digest_114 : decode cX9_digest 114 = .ok (.iload_n 3, 1) := by decide +kernel
theorem dX9_digest_115 : decode cX9_digest 115 = .ok (.invokevirtual 258, 3) := by decide +kernel
theorem dX9_digest_118 : decode cX9_digest 118 = .ok (.invokestatic 247, 3) := by decide +kernel
theorem dX9_digest_121 : decode cX9_digest 121 = .ok (.lstore_n 1, 1) := by decide +kernel
theorem dX9_digest_122 : decode cX9_digest 122 = .ok (.iinc 3 1, 3) := by decide +kernel
theorem dX9_digest_125 : decode cX9_digest 125 = .ok (.goto (-18), 3) := by decide +kernel
theorem dX9_digest_128 : decode cX9_digest 128 = .ok (.aload_n 0, 1) := by decide +kernel
theorem dX9_digest_129 : decode cX9_digest 129 = .ok (.invokevirtual 261, 3) := by decide +kernel
theorem dX9_digest_132 : decode cX9_digest 132 = .ok (.ifCond .eq 29, 3) := by decide +kernel
theorem dX9_digest_135 : decode cX9_digest 135 = .ok (.iconst 0, 1) := by decide +kernel
theorem dX9_digest_136 : decode cX9_digest 136 = .ok (.istore_n 3, 1) := by decide +kernel
theorem dX9_digest_137 : decode cX9_digest 137 = .ok (.iload_n 3, 1) := by decide +kernel
theorem dX9_digest_138 : decode cX9_digest 138 = .ok (.aload_n 0, 1) := by decide +kernel
theorem dX9_digest_139 : decode cX9_digest 139 = .ok (.getfield 40, 3) := by decide +kernel
theorem dX9_digest_142 : decode cX9_digest 142 = .ok (.getfield 175, 3) := by decide +kernel
theorem dX9_digest_145 : decode cX9_digest 145 = .ok (.if_icmp .ge 16, 3) := by decide +kernel
theorem dX9_digest_148 : decode cX9_digest 148 = .ok (.aload_n 0, 1) := by decide +kernel
theorem dX9_digest_149 : decode cX9_digest 149 = .ok (.lload_n 1, 1) := by decide +kernel
theorem dX9_digest_150 : decode cX9_digest 150 = .ok (.iload_n 3, 1) := by decide +kernel
theorem dX9_digest_151 : decode cX9_digest 151 = .ok (.invokevirtual 264, 3) := by decide +kernel
theorem dX9_digest_154 : decode cX9_digest 154 = .ok (.lstore_n 1, 1) := by decide +kernel
theorem dX9_digest_155 : decode cX9_digest 155 = .ok (.iinc 3 1, 3) := by decide +kernel
theorem dX9_digest_158 : decode cX9_digest 158 = .ok (.goto (-21), 3) := by decide +kernel
theorem dX9_digest_161 : decode cX9_digest 161 = .ok (.iconst 0, 1) := by decide +kernel
theorem dX9_digest_162 : decode cX9_digest 162 = .ok (.istore_n 3, 1) := by decide +kernel
theorem dX9_digest_163 : decode cX9_digest 163 = .ok (.iload_n 3, 1) := by decide +kernel
theorem dX9_digest_164 : decode cX9_digest 164 = .ok (.aload_n 0, 1) := by decide +kernel
theorem dX9_digest_165 : decode cX9_digest 165 = .ok (.getfield 12, 3) := by decide +kernel
theorem dX9_digest_168 : decode cX9_digest 168 = .ok (.getfield 83, 3) := by decide +kernel
theorem dX9_digest_171 : decode cX9_digest 171 = .ok (.if_icmp .ge 22, 3) := by decide +kernel
theorem dX9_digest_174 : decode cX9_digest 174 = .ok (.lload_n 1, 1) := by decide +kernel
theorem dX9_digest_175 : decode cX9_digest 175 = .ok (.aload_n 0, 1) := by decide +kernel
theorem dX9_digest_176 : decode cX9_digest 176 = .ok (.getfield 12, 3) := by decide +kernel
theorem dX9_digest_179 : decode cX9_digest 179 = .ok (.iload_n 3, 1) := by decide +kernel
theorem dX9_digest_180 : decode cX9_digest 180 = .ok (.invokevirtual 267, 3) := by decide +kernel
theorem dX9_digest_183 : decode cX9_digest 183 = .ok (.invokestatic 247, 3) := by decide +kernel
theorem dX9_digest_186 : decode cX9_digest 186 = .ok (.lstore_n 1, 1) := by decide +kernel
theorem dX9_digest_187 : decode cX9_digest 187 = .ok (.iinc 3 1, 3) := by decide +kernel
theorem dX9_digest_190 : decode cX9_digest 190 = .ok (.goto (-27), 3) := by decide +kernel
theorem dX9_digest_193 : decode cX9_digest 193 = .ok (.iconst 0, 1) := by decide +kernel
theorem dX9_digest_194 : decode cX9_digest 194 = .ok (.istore_n 3, 1) := by decide +kernel
theorem dX9_digest_195 : decode cX9_digest 195 = .ok (.iload_n 3, 1) := by decide +kernel
theorem dX9_digest_196 : decode cX9_digest 196 = .ok (.bipush 6, 2) := by decide +kernel
theorem dX9_digest_198 : decode cX9_digest 198 = .ok (.if_icmp .gt 19, 3) := by decide +kernel
theorem dX9_digest_201 : decode cX9_digest 201 = .ok (.lload_n 1, 1) := by decide +kernel
theorem dX9_digest_202 : decode cX9_digest 202 = .ok (.aload_n 0, 1) := by decide +kernel
theorem dX9_digest_203 : decode cX9_digest 203 = .ok (.iload_n 3, 1) := by decide +kernel
theorem dX9_digest_204 : decode cX9_digest 204 = .ok (.invokevirtual 269, 3) := by decide +kernel
theorem dX9_digest_207 : decode cX9_digest 207 = .ok (.invokestatic 247, 3) := by decide +kernel
theorem dX9_digest_210 : decode cX9_digest 210 = .ok (.lstore_n 1, 1) := by decide +kernel
theorem dX9_digest_211 : decode cX9_digest 211 = .ok (.iinc 3 1, 3) := by decide +kernel
theorem dX9_digest_214 : decode cX9_digest 214 = .ok (.goto (-19), 3) := by decide +kernel
theorem dX9_digest_217 : decode cX9_digest 217 = .ok (.lload_n 1, 1) := by decide +kernel
theorem dX9_digest_218 : decode cX9_digest 218 = .ok (.lreturn, 1) := by decide +kernel
theorem dX9_mixed_0 : decode cX9_mixed 0 = .ok (.ldc2_w 272, 3) := by decide +kernel
theorem dX9_mixed_3 : decode cX9_mixed 3 = .ok (.lload_n 0, 1) := by decide +kernel
theorem dX9_mixed_4 : decode cX9_mixed 4 = .ok (.lmul, 1) := by decide +kernel
theorem dX9_mixed_5 : decode cX9_mixed 5 = .ok (.iload_n 2, 1) := by decide +kernel
theorem dX9_mixed_6 : decode cX9_mixed 6 = .ok (.i2l, 1) := by decide +kernel
theorem dX9_mixed_7 : decode cX9_mixed 7 = .ok (.ladd, 1) := by decide +kernel
theorem dX9_mixed_8 : decode cX9_mixed 8 = .ok (.lreturn, 1) := by decide +kernel
theorem dX9_mixedCode_0 : decode cX9_mixedCode 0 = .ok (.lload_n 1, 1) := by decide +kernel
theorem dX9_mixedCode_1 : decode cX9_mixedCode 1 = .ok (.lstore_n 3, 1) := by decide +kernel
theorem dX9_mixedCode_2 : decode cX9_mixedCode 2 = .ok (.iconst 0, 1) := by decide +kernel
theorem dX9_mixedCode_3 : decode cX9_mixedCode 3 = .ok (.istore 5, 2) := by decide +kernel
theorem dX9_mixedCode_5 : decode cX9_mixedCode 5 = .ok (.iload 5, 2) := by decide +kernel
theorem dX9_mixedCode_7 : decode cX9_mixedCode 7 = .ok (.aload_n 0, 1) := by decide +kernel
theorem dX9_mixedCode_8 : decode cX9_mixedCode 8 = .ok (.getfield 26, 3) := by decide +kernel
theorem dX9_mixedCode_11 : decode cX9_mixedCode 11 = .ok (.getfield 151, 3) := by decide +kernel
theorem dX9_mixedCode_14 : decode cX9_mixedCode 14 = .ok (.if_icmp .ge 37, 3) := by decide +kernel
theorem dX9_mixedCode_17 : decode cX9_mixedCode 17 = .ok (.iconst 0, 1) := by decide +kernel
theorem dX9_mixedCode_18 : decode cX9_mixedCode 18 = .ok (.istore 6, 2) := by decide +kernel
theorem dX9_mixedCode_20 : decode cX9_mixedCode 20 = .ok (.iload 6, 2) := by decide +kernel
theorem dX9_mixedCode_22 : decode cX9_mixedCode 22 = .ok (.iconst 2, 1) := by decide +kernel
theorem dX9_mixedCode_23 : decode cX9_mixedCode 23 = .ok (.if_icmp .gt 22, 3) := by decide +kernel
theorem dX9_mixedCode_26 : decode cX9_mixedCode 26 = .ok (.lload_n 3, 1) := by decide +kernel
theorem dX9_mixedCode_27 : decode cX9_mixedCode 27 = .ok (.aload_n 0, 1) := by decide +kernel
theorem dX9_mixedCode_28 : decode cX9_mixedCode 28 = .ok (.iload 5, 2) := by decide +kernel
theorem dX9_mixedCode_30 : decode cX9_mixedCode 30 = .ok (.iload 6, 2) := by decide +kernel
theorem dX9_mixedCode_32 : decode cX9_mixedCode 32 = .ok (.invokevirtual 274, 3) := by decide +kernel
theorem dX9_mixedCode_35 : decode cX9_mixedCode 35 = .ok (.invokestatic 247, 3) := by decide +kernel
theorem dX9_mixedCode_38 : decode cX9_mixedCode 38 = .ok (.lstore_n 3, 1) := by decide +kernel
theorem dX9_mixedCode_39 : decode cX9_mixedCode 39 = .ok (.iinc 6 1, 3) := by decide +kernel
theorem dX9_mixedCode_42 : decode cX9_mixedCode 42 = .ok (.goto (-22), 3) := by decide +kernel
theorem dX9_mixedCode_45 : decode cX9_mixedCode 45 = .ok (.iinc 5 1, 3) := by decide +kernel
theorem dX9_mixedCode_48 : decode cX9_mixedCode 48 = .ok (.goto (-43), 3) := by decide +kernel
theorem dX9_mixedCode_51 : decode cX9_mixedCode 51 = .ok (.iconst (-1), 1) := by decide +kernel
theorem dX9_mixedCode_52 : decode cX9_mixedCode 52 = .ok (.istore 5, 2) := by decide +kernel
theorem dX9_mixedCode_54 : decode cX9_mixedCode 54 = .ok (.iload 5, 2) := by decide +kernel
theorem dX9_mixedCode_56 : decode cX9_mixedCode 56 = .ok (.iconst 5, 1) := by decide +kernel
theorem dX9_mixedCode_57 : decode cX9_mixedCode 57 = .ok (.if_icmp .ge 20, 3) := by decide +kernel
theorem dX9_mixedCode_60 : decode cX9_mixedCode 60 = .ok (.lload_n 3, 1) := by decide +kernel
theorem dX9_mixedCode_61 : decode cX9_mixedCode 61 = .ok (.aload_n 0, 1) := by decide +kernel
theorem dX9_mixedCode_62 : decode cX9_mixedCode 62 = .ok (.iload 5, 2) := by decide +kernel
theorem dX9_mixedCode_64 : decode cX9_mixedCode 64 = .ok (.invokevirtual 277, 3) := by decide +kernel
theorem dX9_mixedCode_67 : decode cX9_mixedCode 67 = .ok (.invokestatic 247, 3) := by decide +kernel
theorem dX9_mixedCode_70 : decode cX9_mixedCode 70 = .ok (.lstore_n 3, 1) := by decide +kernel
theorem dX9_mixedCode_71 : decode cX9_mixedCode 71 = .ok (.iinc 5 1, 3) := by decide +kernel
theorem dX9_mixedCode_74 : decode cX9_mixedCode 74 = .ok (.goto (-20), 3) := by decide +kernel
theorem dX9_mixedCode_77 : decode cX9_mixedCode 77 = .ok (.iconst 0, 1) := by decide +kernel
theorem dX9_mixedCode_78 : decode cX9_mixedCode 78 = .ok (.istore 5, 2) := by decide +kernel
theorem dX9_mixedCode_80 : decode cX9_mixedCode 80 = .ok (.iload 5, 2) := by decide +kernel
theorem dX9_mixedCode_82 : decode cX9_mixedCode 82 = .ok (.aload_n 0, 1) := by decide +kernel
theorem dX9_mixedCode_83 : decode cX9_mixedCode 83 = .ok (.getfield 19, 3) := by decide +kernel
theorem dX9_mixedCode_86 : decode cX9_mixedCode 86 = .ok (.getfield 118, 3) := by decide +kernel
theorem dX9_mixedCode_89 : decode cX9_mixedCode 89 = .ok (.if_icmp .ge 20, 3) := by decide +kernel
theorem dX9_mixedCode_92 : decode cX9_mixedCode 92 = .ok (.lload_n 3, 1) := by decide +kernel
theorem dX9_mixedCode_93 : decode cX9_mixedCode 93 = .ok (.aload_n 0, 1) := by decide +kernel
theorem dX9_mixedCode_94 : decode cX9_mixedCode 94 = .ok (.iload 5, 2) := by decide +kernel
theorem dX9_mixedCode_96 : decode cX9_mixedCode 96 = .ok (.invokevirtual 280, 3) := by decide +kernel
theorem dX9_mixedCode_99 : decode cX9_mixedCode 99 = .ok (.invokestatic 247, 3) := by decide +kernel
theorem dX9_mixedCode_102 : decode cX9_mixedCode 102 = .ok (.lstore_n 3, 1) := by decide +kernel
theorem dX9_mixedCode_103 : decode cX9_mixedCode 103 = .ok (.iinc 5 1, 3) := by decide +kernel
theorem dX9_mixedCode_106 : decode cX9_mixedCode 106 = .ok (.goto (-26), 3) := by decide +kernel
theorem dX9_mixedCode_109 : decode cX9_mixedCode 109 = .ok (.lload_n 3, 1) := by decide +kernel
theorem dX9_mixedCode_110 : decode cX9_mixedCode 110 = .ok (.lreturn, 1) := by decide +kernel
theorem dX9_mixedLogic_0 : decode cX9_mixedLogic 0 = .ok (.lload_n 1, 1) := by decide +kernel
theorem dX9_mixedLogic_1 : decode cX9_mixedLogic 1 = .ok (.lstore 4, 2) := by decide +kernel
theorem dX9_mixedLogic_3 : decode cX9_mixedLogic 3 = .ok (.iconst 0, 1) := by decide +kernel
theorem dX9_mixedLogic_4 : decode cX9_mixedLogic 4 = .ok (.istore 6, 2) := by decide +kernel
theorem dX9_mixedLogic_6 : decode cX9_mixedLogic 6 = .ok (.iload 6, 2) := by decide +kernel
theorem dX9_mixedLogic_8 : decode cX9_mixedLogic 8 = .ok (.iconst 5, 1) := by decide +kernel
theorem dX9_mixedLogic_9 : decode cX9_mixedLogic 9 = .ok (.if_icmp .gt 23, 3) := by decide +kernel
theorem dX9_mixedLogic_12 : decode cX9_mixedLogic 12 = .ok (.lload 4, 2) := by decide +kernel
theorem dX9_mixedLogic_14 : decode cX9_mixedLogic 14 = .ok (.aload_n 0, 1) := by decide +kernel
theorem dX9_mixedLogic_15 : decode cX9_mixedLogic 15 = .ok (.iload_n 3, 1) := by decide +kernel
theorem dX9_mixedLogic_16 : decode cX9_mixedLogic 16 = .ok (.iload 6, 2) := by decide +kernel
theorem dX9_mixedLogic_18 : decode cX9_mixedLogic 18 = .ok (.invokevirtual 283, 3) := by decide +kernel
theorem dX9_mixedLogic_21 : decode cX9_mixedLogic 21 = .ok (.invokestatic 247, 3) := by decide +kernel
theorem dX9_mixedLogic_24 : decode cX9_mixedLogic 24 = .ok (.lstore 4, 2) := by decide +kernel
theorem dX9_mixedLogic_26 : decode cX9_mixedLogic 26 = .ok (.iinc 6 1, 3) := by decide +kernel
theorem dX9_mixedLogic_29 : decode cX9_mixedLogic 29 = .ok (.goto (-23), 3) := by decide +kernel
theorem dX9_mixedLogic_32 : decode cX9_mixedLogic 32 = .ok (.aload_n 0, 1) := by decide +kernel
theorem dX9_mixedLogic_33 : decode cX9_mixedLogic 33 = .ok (.iload_n 3, 1) := by decide +kernel
theorem dX9_mixedLogic_34 : decode cX9_mixedLogic 34 = .ok (.invokevirtual 199, 3) := by decide +kernel
theorem dX9_mixedLogic_37 : decode cX9_mixedLogic 37 = .ok (.getfield 206, 3) := by decide +kernel
theorem dX9_mixedLogic_40 : decode cX9_mixedLogic 40 = .ok (.istore 6, 2) := by decide +kernel
theorem dX9_mixedLogic_42 : decode cX9_mixedLogic 42 = .ok (.iconst 0, 1) := by decide +kernel
theorem dX9_mixedLogic_43 : decode cX9_mixedLogic 43 = .ok (.istore 7, 2) := by decide +kernel
theorem dX9_mixedLogic_45 : decode cX9_mixedLogic 45 = .ok (.iload 7, 2) := by decide +kernel
theorem dX9_mixedLogic_47 : decode cX9_mixedLogic 47 = .ok (.iload 6, 2) := by decide +kernel
theorem dX9_mixedLogic_49 : decode cX9_mixedLogic 49 = .ok (.if_icmp .ge 39, 3) := by decide +kernel
theorem dX9_mixedLogic_52 : decode cX9_mixedLogic 52 = .ok (.lload 4, 2) := by decide +kernel
theorem dX9_mixedLogic_54 : decode cX9_mixedLogic 54 = .ok (.aload_n 0, 1) := by decide +kernel
theorem dX9_mixedLogic_55 : decode cX9_mixedLogic 55 = .ok (.iload_n 3, 1) := by decide +kernel
theorem dX9_mixedLogic_56 : decode cX9_mixedLogic 56 = .ok (.iload 7, 2) := by decide +kernel
theorem dX9_mixedLogic_58 : decode cX9_mixedLogic 58 = .ok (.iconst 0, 1) := by decide +kernel
theorem dX9_mixedLogic_59 : decode cX9_mixedLogic 59 = .ok (.invokevirtual 286, 3) := by decide +kernel
theorem dX9_mixedLogic_62 : decode cX9_mixedLogic 62 = .ok (.invokestatic 247, 3) := by decide +kernel
theorem dX9_mixedLogic_65 : decode cX9_mixedLogic 65 = .ok (.lstore 4, 2) := by decide +kernel
theorem dX9_mixedLogic_67 : decode cX9_mixedLogic 67 = .ok (.lload 4, 2) := by decide +kernel
theorem dX9_mixedLogic_69 : decode cX9_mixedLogic 69 = .ok (.aload_n 0, 1) := by decide +kernel
theorem dX9_mixedLogic_70 : decode cX9_mixedLogic 70 = .ok (.iload_n 3, 1) := by decide +kernel
theorem dX9_mixedLogic_71 : decode cX9_mixedLogic 71 = .ok (.iload 7, 2) := by decide +kernel
theorem dX9_mixedLogic_73 : decode cX9_mixedLogic 73 = .ok (.iconst 1, 1) := by decide +kernel
theorem dX9_mixedLogic_74 : decode cX9_mixedLogic 74 = .ok (.invokevirtual 286, 3) := by decide +kernel
theorem dX9_mixedLogic_77 : decode cX9_mixedLogic 77 = .ok (.invokestatic 247, 3) := by decide +kernel
theorem dX9_mixedLogic_80 : decode cX9_mixedLogic 80 = .ok (.lstore 4, 2) := by decide +kernel
theorem dX9_mixedLogic_82 : decode cX9_mixedLogic 82 = .ok (.iinc 7 1, 3) := by decide +kernel
theorem dX9_mixedLogic_85 : decode cX9_mixedLogic 85 = .ok (.goto (-40), 3) := by decide +kernel
theorem dX9_mixedLogic_88 : decode cX9_mixedLogic 88 = .ok (.lload 4, 2) := by decide +kernel
theorem dX9_mixedLogic_90 : decode cX9_mixedLogic 90 = .ok (.lreturn, 1) := by decide +kernel
theorem dX9_isGood_0 : decode cX9_isGood 0 = .ok (.aload_n 0, 1) := by decide +kernel
theorem dX9_isGood_1 : decode cX9_isGood 1 = .ok (.getfield 19, 3) := by decide +kernel
theorem dX9_isGood_4 : decode cX9_isGood 4 = .ok (.getfield 110, 3) := by decide +kernel
theorem dX9_isGood_7 : decode cX9_isGood 7 = .ok (.ifCond .eq 14, 3) := by decide +kernel
theorem dX9_isGood_10 : decode cX9_isGood 10 = .ok (.aload_n 0, 1) := by decide +kernel
theorem dX9_isGood_11 : decode cX9_isGood 11 = .ok (.getfield 72, 3) := by decide +kernel
theorem dX9_isGood_14 : decode cX9_isGood 14 = .ok (.ifCond .ne 7, 3) := by decide +kernel
theorem dX9_isGood_17 : decode cX9_isGood 17 = .ok (.iconst 1, 1) := by decide +kernel
theorem dX9_isGood_18 : decode cX9_isGood 18 = .ok (.goto 4, 3) := by decide +kernel
theorem dX9_isGood_21 : decode cX9_isGood 21 = .ok (.iconst 0, 1) := by decide +kernel
theorem dX9_isGood_22 : decode cX9_isGood 22 = .ok (.ireturn, 1) := by decide +kernel
theorem dX9_refusalOf_0 : decode cX9_refusalOf 0 = .ok (.aload_n 0, 1) := by decide +kernel
theorem dX9_refusalOf_1 : decode cX9_refusalOf 1 = .ok (.invokevirtual 261, 3) := by decide +kernel
theorem dX9_refusalOf_4 : decode cX9_refusalOf 4 = .ok (.ifCond .ne 7, 3) := by decide +kernel
theorem dX9_refusalOf_7 : decode cX9_refusalOf 7 = .ok (.sipush (-1003), 3) := by decide +kernel
theorem dX9_refusalOf_10 : decode cX9_refusalOf 10 = .ok (.ireturn, 1) := by decide +kernel
theorem dX9_refusalOf_11 : decode cX9_refusalOf 11 = .ok (.iload_n 1, 1) := by decide +kernel
theorem dX9_refusalOf_12 : decode cX9_refusalOf 12 = .ok (.ifCond .lt 14, 3) := by decide +kernel
theorem dX9_refusalOf_15 : decode cX9_refusalOf 15 = .ok (.iload_n 1, 1) := by decide +kernel
theorem dX9_refusalOf_16 : decode cX9_refusalOf 16 = .ok (.aload_n 0, 1) := by decide +kernel
theorem dX9_refusalOf_17 : decode cX9_refusalOf 17 = .ok (.getfield 40, 3) := by decide +kernel
theorem dX9_refusalOf_20 : decode cX9_refusalOf 20 = .ok (.getfield 175, 3) := by decide +kernel
theorem dX9_refusalOf_23 : decode cX9_refusalOf 23 = .ok (.if_icmp .lt 9, 3) := by decide +kernel
theorem dX9_refusalOf_26 : decode cX9_refusalOf 26 = .ok (.sipush (-1001), 3) := by decide +kernel
theorem dX9_refusalOf_29 : decode cX9_refusalOf 29 = .ok (.goto 4, 3) := by decide +kernel
theorem dX9_refusalOf_32 : decode cX9_refusalOf 32 = .ok (.iconst 0, 1) := by decide +kernel
theorem dX9_refusalOf_33 : decode cX9_refusalOf 33 = .ok (.ireturn, 1) := by decide +kernel
theorem dX9_settle_0 : decode cX9_settle 0 = .ok (.aload_n 0, 1) := by decide +kernel
theorem dX9_settle_1 : decode cX9_settle 1 = .ok (.aload_n 0, 1) := by decide +kernel
theorem dX9_settle_2 : decode cX9_settle 2 = .ok (.getfield 40, 3) := by decide +kernel
theorem dX9_settle_5 : decode cX9_settle 5 = .ok (.aload_n 0, 1) := by decide +kernel
theorem dX9_settle_6 : decode cX9_settle 6 = .ok (.getfield 26, 3) := by decide +kernel
theorem dX9_settle_9 : decode cX9_settle 9 = .ok (.invokevirtual 290, 3) := by decide +kernel
theorem dX9_settle_12 : decode cX9_settle 12 = .ok (.putfield 72, 3) := by decide +kernel
theorem dX9_settle_15 : decode cX9_settle 15 = .ok (.iconst 0, 1) := by decide +kernel
theorem dX9_settle_16 : decode cX9_settle 16 = .ok (.istore_n 1, 1) := by decide +kernel
theorem dX9_settle_17 : decode cX9_settle 17 = .ok (.iload_n 1, 1) := by decide +kernel
theorem dX9_settle_18 : decode cX9_settle 18 = .ok (.iconst 5, 1) := by decide +kernel
theorem dX9_settle_19 : decode cX9_settle 19 = .ok (.if_icmp .ge 19, 3) := by decide +kernel
theorem dX9_settle_22 : decode cX9_settle 22 = .ok (.aload_n 0, 1) := by decide +kernel
theorem dX9_settle_23 : decode cX9_settle 23 = .ok (.getfield 60, 3) := by decide +kernel
theorem dX9_settle_26 : decode cX9_settle 26 = .ok (.iload_n 1, 1) := by decide +kernel
theorem dX9_settle_27 : decode cX9_settle 27 = .ok (.aaload, 1) := by decide +kernel
theorem dX9_settle_28 : decode cX9_settle 28 = .ok (.iconst 0, 1) := by decide +kernel
theorem dX9_settle_29 : decode cX9_settle 29 = .ok (.putfield 294, 3) := by decide +kernel
theorem dX9_settle_32 : decode cX9_settle 32 = .ok (.iinc 1 1, 3) := by decide +kernel
theorem dX9_settle_35 : decode cX9_settle 35 = .ok (.goto (-18), 3) := by decide +kernel
theorem dX9_settle_38 : decode cX9_settle 38 = .ok (.aload_n 0, 1) := by decide +kernel
theorem dX9_settle_39 : decode cX9_settle 39 = .ok (.invokevirtual 261, 3) := by decide +kernel
theorem dX9_settle_42 : decode cX9_settle 42 = .ok (.ifCond .eq 18, 3) := by decide +kernel
theorem dX9_settle_45 : decode cX9_settle 45 = .ok (.aload_n 0, 1) := by decide +kernel
theorem dX9_settle_46 : decode cX9_settle 46 = .ok (.getfield 47, 3) := by decide +kernel
theorem dX9_settle_49 : decode cX9_settle 49 = .ok (.aload_n 0, 1) := by decide +kernel
theorem dX9_settle_50 : decode cX9_settle 50 = .ok (.getfield 19, 3) := by decide +kernel
theorem dX9_settle_53 : decode cX9_settle 53 = .ok (.aload_n 0, 1) := by decide +kernel
theorem dX9_settle_54 : decode cX9_settle 54 = .ok (.getfield 40, 3) := by decide +kernel
theorem dX9_settle_57 : decode cX9_settle 57 = .ok (.invokevirtual 297, 3) := by decide +kernel
theorem dX9_settle_60 : decode cX9_settle 60 = .ok (.return_, 1) := by decide +kernel
theorem dX9_workedOut_0 : decode cX9_workedOut 0 = .ok (.aload_n 0, 1) := by decide +kernel
theorem dX9_workedOut_1 : decode cX9_workedOut 1 = .ok (.getfield 60, 3) := by decide +kernel
theorem dX9_workedOut_4 : decode cX9_workedOut 4 = .ok (.iload_n 1, 1) := by decide +kernel
theorem dX9_workedOut_5 : decode cX9_workedOut 5 = .ok (.ifCond .lt 12, 3) := by decide +kernel
theorem dX9_workedOut_8 : decode cX9_workedOut 8 = .ok (.iload_n 1, 1) := by decide +kernel
theorem dX9_workedOut_9 : decode cX9_workedOut 9 = .ok (.iconst 5, 1) := by decide +kernel
theorem dX9_workedOut_10 : decode cX9_workedOut 10 = .ok (.if_icmp .ge 7, 3) := by decide +kernel
theorem dX9_workedOut_13 : decode cX9_workedOut 13 = .ok (.iload_n 1, 1) := by decide +kernel
theorem dX9_workedOut_14 : decode cX9_workedOut 14 = .ok (.goto 4, 3) := by decide +kernel
theorem dX9_workedOut_17 : decode cX9_workedOut 17 = .ok (.iconst 0, 1) := by decide +kernel
theorem dX9_workedOut_18 : decode cX9_workedOut 18 = .ok (.aaload, 1) := by decide +kernel
theorem dX9_workedOut_19 : decode cX9_workedOut 19 = .ok (.astore_n 2, 1) := by decide +kernel
theorem dX9_workedOut_20 : decode cX9_workedOut 20 = .ok (.aload_n 2, 1) := by decide +kernel
theorem dX9_workedOut_21 : decode cX9_workedOut 21 = .ok (.getfield 294, 3) := by decide +kernel
theorem dX9_workedOut_24 : decode cX9_workedOut 24 = .ok (.ifCond .ne 37, 3) := by decide +kernel
theorem dX9_workedOut_27 : decode cX9_workedOut 27 = .ok (.aload_n 0, 1) := by decide +kernel
theorem dX9_workedOut_28 : decode cX9_workedOut 28 = .ok (.getfield 54, 3) := by decide +kernel
theorem dX9_workedOut_31 : decode cX9_workedOut 31 = .ok (.aload_n 0, 1) := by decide +kernel
theorem dX9_workedOut_32 : decode cX9_workedOut 32 = .ok (.getfield 47, 3) := by decide +kernel
theorem dX9_workedOut_35 : decode cX9_workedOut 35 = .ok (.iload_n 1, 1) := by decide +kernel
theorem dX9_workedOut_36 : decode cX9_workedOut 36 = .ok (.invokevirtual 301, 3) := by decide +kernel
theorem dX9_workedOut_39 : decode cX9_workedOut 39 = .ok (.aload_n 2, 1) := by decide +kernel
theorem dX9_workedOut_40 : decode cX9_workedOut 40 = .ok (.aload_n 0, 1) := by decide +kernel
theorem dX9_workedOut_41 : decode cX9_workedOut 41 = .ok (.getfield 54, 3) := by decide +kernel
theorem dX9_workedOut_44 : decode cX9_workedOut 44 = .ok (.invokevirtual 305, 3) := by decide +kernel
theorem dX9_workedOut_47 : decode cX9_workedOut 47 = .ok (.aload_n 2, 1) := by decide +kernel
theorem dX9_workedOut_48 : decode cX9_workedOut 48 = .ok (.aload_n 0, 1) := by decide +kernel
theorem dX9_workedOut_49 : decode cX9_workedOut 49 = .ok (.getfield 47, 3) := by decide +kernel
theorem dX9_workedOut_52 : decode cX9_workedOut 52 = .ok (.iload_n 1, 1) := by decide +kernel
theorem dX9_workedOut_53 : decode cX9_workedOut 53 = .ok (.invokevirtual 309, 3) := by decide +kernel
theorem dX9_workedOut_56 : decode cX9_workedOut 56 = .ok (.aload_n 2, 1) := by decide +kernel
theorem dX9_workedOut_57 : decode cX9_workedOut 57 = .ok (.iconst 1, 1) := by decide +kernel
theorem dX9_workedOut_58 : decode cX9_workedOut 58 = .ok (.putfield 294, 3) := by decide +kernel
theorem dX9_workedOut_61 : decode cX9_workedOut 61 = .ok (.aload_n 2, 1) := by decide +kernel
theorem dX9_workedOut_62 : decode cX9_workedOut 62 = .ok (.areturn, 1) := by decide +kernel
theorem dX10_init_0 : decode cX10_init 0 = .ok (.aload_n 0, 1) := by decide +kernel
theorem dX10_init_1 : decode cX10_init 1 = .ok (.invokespecial 1, 3) := by decide +kernel
theorem dX10_init_4 : decode cX10_init 4 = .ok (.aload_n 0, 1) := by decide +kernel
theorem dX10_init_5 : decode cX10_init 5 = .ok (.bipush 40, 2) := by decide +kernel
theorem dX10_init_7 : decode cX10_init 7 = .ok (.newarray .int, 2) := by decide +kernel
theorem dX10_init_9 : decode cX10_init 9 = .ok (.putfield 7, 3) := by decide +kernel
theorem dX10_init_12 : decode cX10_init 12 = .ok (.aload_n 0, 1) := by decide +kernel
theorem dX10_init_13 : decode cX10_init 13 = .ok (.bipush 24, 2) := by decide +kernel
theorem dX10_init_15 : decode cX10_init 15 = .ok (.newarray .int, 2) := by decide +kernel
theorem dX10_init_17 : decode cX10_init 17 = .ok (.putfield 13, 3) := by decide +kernel
theorem dX10_init_20 : decode cX10_init 20 = .ok (.aload_n 0, 1) := by decide +kernel
theorem dX10_init_21 : decode cX10_init 21 = .ok (.iconst 5, 1) := by decide +kernel
theorem dX10_init_22 : decode cX10_init 22 = .ok (.newarray .int, 2) := by decide +kernel
theorem dX10_init_24 : decode cX10_init 24 = .ok (.putfield 16, 3) := by decide +kernel
theorem dX10_init_27 : decode cX10_init 27 = .ok (.aload_n 0, 1) := by decide +kernel
theorem dX10_init_28 : decode cX10_init 28 = .ok (.iconst (-1), 1) := by decide +kernel
theorem dX10_init_29 : decode cX10_init 29 = .ok (.putfield 19, 3) := by decide +kernel
theorem dX10_init_32 : decode cX10_init 32 = .ok (.aload_n 0, 1) := by decide +kernel
theorem dX10_init_33 : decode cX10_init 33 = .ok (.bipush 24, 2) := by decide +kernel
theorem dX10_init_35 : decode cX10_init 35 = .ok (.newarray .int, 2) := by decide +kernel
theorem dX10_init_37 : decode cX10_init 37 = .ok (.putfield 23, 3) := by decide +kernel
theorem dX10_init_40 : decode cX10_init 40 = .ok (.aload_n 0, 1) := by decide +kernel
theorem dX10_init_41 : decode cX10_init 41 = .ok (.bipush 80, 2) := by decide +kernel
theorem dX10_init_43 : decode cX10_init 43 = .ok (.newarray .int, 2) := by decide +kernel
theorem dX10_init_45 : decode cX10_init 45 = .ok (.putfield 26, 3) := by decide +kernel
theorem dX10_init_48 : decode cX10_init 48 = .ok (.aload_n 0, 1) := by decide +kernel
theorem dX10_init_49 : decode cX10_init 49 = .ok (.bipush 80, 2) := by decide +kernel
theorem dX10_init_51 : decode cX10_init 51 = .ok (.newarray .int, 2) := by decide +kernel
theorem dX10_init_53 : decode cX10_init 53 = .ok (.putfield 29, 3) := by decide +kernel
theorem dX10_init_56 : decode cX10_init 56 = .ok (.aload_n 0, 1) := by decide +kernel
theorem dX10_init_57 : decode cX10_init 57 = .ok (.iconst (-1), 1) := by decide +kernel
theorem dX10_init_58 : decode cX10_init 58 = .ok (.putfield 32, 3) := by decide +kernel
theorem dX10_init_61 : decode cX10_init 61 = .ok (.aload_n 0, 1) := by decide +kernel
theorem dX10_init_62 : decode cX10_init 62 = .ok (.iconst 5, 1) := by decide +kernel
theorem dX10_init_63 : decode cX10_init 63 = .ok (.newarray .int, 2) := by decide +kernel
theorem dX10_init_65 : decode cX10_init 65 = .ok (.putfield 35, 3) := by decide +kernel
theorem dX10_init_68 : decode cX10_init 68 = .ok (.aload_n 0, 1) := by decide +kernel
theorem dX10_init_69 : decode cX10_init 69 = .ok (.iconst 5, 1) := by decide +kernel
theorem dX10_init_70 : decode cX10_init 70 = .ok (.newarray .int, 2) := by decide +kernel
theorem dX10_init_72 : decode cX10_init 72 = .ok (.putfield 38, 3) := by decide +kernel
theorem dX10_init_75 : decode cX10_init 75 = .ok (.aload_n 0, 1) := by decide +kernel
theorem dX10_init_76 : decode cX10_init 76 = .ok (.bipush 64, 2) := by decide +kernel
theorem dX10_init_78 : decode cX10_init 78 = .ok (.newarray .long, 2) := by decide +kernel
theorem dX10_init_80 : decode cX10_init 80 = .ok (.putfield 41, 3) := by decide +kernel
theorem dX10_init_83 : decode cX10_init 83 = .ok (.aload_n 0, 1) := by decide +kernel
theorem dX10_init_84 : decode cX10_init 84 = .ok (.bipush 64, 2) := by decide +kernel
theorem dX10_init_86 : decode cX10_init 86 = .ok (.newarray .long, 2) := by decide +kernel
theorem dX10_init_88 : decode cX10_init 88 = .ok (.putfield 45, 3) := by decide +kernel
theorem dX10_init_91 : decode cX10_init 91 = .ok (.aload_n 0, 1) := by decide +kernel
theorem dX10_init_92 : decode cX10_init 92 = .ok (.sipush 128, 3) := by decide +kernel
theorem dX10_init_95 : decode cX10_init 95 = .ok (.newarray .int, 2) := by decide +kernel
theorem dX10_init_97 : decode cX10_init 97 = .ok (.putfield 48, 3) := by decide +kernel
theorem dX10_init_100 : decode cX10_init 100 = .ok (.aload_n 0, 1) := by decide +kernel
theorem dX10_init_101 : decode cX10_init 101 = .ok (.sipush 2187, 3) := by decide +kernel
theorem dX10_init_104 : decode cX10_init 104 = .ok (.newarray .int, 2) := by decide +kernel
theorem dX10_init_106 : decode cX10_init 106 = .ok (.putfield 51, 3) := by decide +kernel
theorem dX10_init_109 : decode cX10_init 109 = .ok (.aload_n 0, 1) := by decide +kernel
theorem dX10_init_110 : decode cX10_init 110 = .ok (.sipush 2187, 3) := by decide +kernel
theorem dX10_init_113 : decode cX10_init 113 = .ok (.newarray .int, 2) := by decide +kernel
theorem dX10_init_115 : decode cX10_init 115 = .ok (.putfield 54, 3) := by decide +kernel
theorem dX10_init_118 : decode cX10_init 118 = .ok (.aload_n 0, 1) := by decide +kernel
theorem dX10_init_119 : decode cX10_init 119 = .ok (.sipush 600, 3) := by decide +kernel
theorem dX10_init_122 : decode cX10_init 122 = .ok (.newarray .int, 2) := by decide +kernel
theorem dX10_init_124 : decode cX10_init 124 = .ok (.putfield 57, 3) := by decide +kernel
theorem dX10_init_127 : decode cX10_init 127 = .ok (.return_, 1) := by decide +kernel
theorem dX10_within_0 : decode cX10_within 0 = .ok (.iload_n 0, 1) := by decide +kernel
theorem dX10_within_1 : decode cX10_within 1 = .ok (.iload_n 1, 1) := by decide +kernel
theorem dX10_within_2 : decode cX10_within 2 = .ok (.if_icmp .lt 12, 3) := by decide +kernel
theorem dX10_within_5 : decode cX10_within 5 = .ok (.iload_n 0, 1) := by decide +kernel
theorem dX10_within_6 : decode cX10_within 6 = .ok (.iload_n 2, 1) := by decide +kernel
theorem dX10_within_7 : decode cX10_within 7 = .ok (.if_icmp .gt 7, 3) := by decide +kernel
theorem dX10_within_10 : decode cX10_within 10 = .ok (.iconst 1, 1) := by decide +kernel
theorem dX10_within_11 : decode cX10_within 11 = .ok (.goto 4, 3) := by decide +kernel
theorem dX10_within_14 : decode cX10_within 14 = .ok (.iconst 0, 1) := by decide +kernel
theorem dX10_within_15 : decode cX10_within 15 = .ok (.ireturn, 1) := by decide +kernel
theorem dX10_ones_0 : decode cX10_ones 0 = .ok (.iconst 0, 1) := by decide +kernel
theorem dX10_ones_1 : decode cX10_ones 1 = .ok (.istore_n 1, 1) := by decide +kernel
theorem dX10_ones_2 : decode cX10_ones 2 = .ok (.iconst 0, 1) := by decide +kernel
theorem dX10_ones_3 : decode cX10_ones 3 = .ok (.istore_n 2, 1) := by decide +kernel
theorem dX10_ones_4 : decode cX10_ones 4 = .ok (.iload_n 2, 1) := by decide +kernel
theorem dX10_ones_5 : decode cX10_ones 5 = .ok (.bipush 8, 2) := by decide +kernel
theorem dX10_ones_7 : decode cX10_ones 7 = .ok (.if_icmp .ge 17, 3) := by decide +kernel
theorem dX10_ones_10 : decode cX10_ones 10 = .ok (.iload_n 1, 1) := by decide +kernel
theorem dX10_ones_11 : decode cX10_ones 11 = .ok (.iload_n 0, 1) := by decide +kernel
theorem dX10_ones_12 : decode cX10_ones 12 = .ok (.iload_n 2, 1) := by decide +kernel
theorem dX10_ones_13 : decode cX10_ones 13 = .ok (.ishr, 1) := by decide +kernel
theorem dX10_ones_14 : decode cX10_ones 14 = .ok (.iconst 1, 1) := by decide +kernel
theorem dX10_ones_15 : decode cX10_ones 15 = .ok (.iand, 1) := by decide +kernel
theorem dX10_ones_16 : decode cX10_ones 16 = .ok (.iadd, 1) := by decide +kernel
theorem dX10_ones_17 : decode cX10_ones 17 = .ok (.istore_n 1, 1) := by decide +kernel
theorem dX10_ones_18 : decode cX10_ones 18 = .ok (.iinc 2 1, 3) := by decide +kernel
theorem dX10_ones_21 : decode cX10_ones 21 = .ok (.goto (-17), 3) := by decide +kernel
theorem dX10_ones_24 : decode cX10_ones 24 = .ok (.iload_n 1, 1) := by decide +kernel
theorem dX10_ones_25 : decode cX10_ones 25 = .ok (.ireturn, 1) := by decide +kernel
theorem dX10_letter_0 : decode cX10_letter 0 = .ok (.iload_n 1, 1) := by decide +kernel
theorem dX10_letter_1 : decode cX10_letter 1 = .ok (.bipush 32, 2) := by decide +kernel
theorem dX10_letter_3 : decode cX10_letter 3 = .ok (.bipush 126, 2) := by decide +kernel
theorem dX10_letter_5 : decode cX10_letter 5 = .ok (.invokestatic 60, 3) := by decide +kernel
theorem dX10_letter_8 : decode cX10_letter 8 = .ok (.ifCond .ne 7, 3) := by decide +kernel
theorem dX10_letter_11 : decode cX10_letter 11 = .ok (.sipush (-1002), 3) := by decide +kernel
theorem dX10_letter_14 : decode cX10_letter 14 = .ok (.ireturn, 1) := by decide +kernel
theorem dX10_letter_15 : decode cX10_letter 15 = .ok (.aload_n 0, 1) := by decide +kernel
theorem dX10_letter_16 : decode cX10_letter 16 = .ok (.getfield 64, 3) := by decide +kernel
theorem dX10_letter_19 : decode cX10_letter 19 = .ok (.bipush 40, 2) := by decide +kernel
theorem dX10_letter_21 : decode cX10_letter 21 = .ok (.if_icmp .ne 7, 3) := by decide +kernel
theorem dX10_letter_24 : decode cX10_letter 24 = .ok (.sipush (-1004), 3) := by decide +kernel
theorem dX10_letter_27 : decode cX10_letter 27 = .ok (.ireturn, 1) := by decide +kernel
theorem dX10_letter_28 : decode cX10_letter 28 = .ok (.aload_n 0, 1) := by decide +kernel
theorem dX10_letter_29 : decode cX10_letter 29 = .ok (.getfield 7, 3) := by decide +kernel
theorem dX10_letter_32 : decode cX10_letter 32 = .ok (.aload_n 0, 1) := by decide +kernel
theorem dX10_letter_33 : decode cX10_letter 33 = .ok (.getfield 64, 3) := by decide +kernel
theorem dX10_letter_36 : decode cX10_letter 36 = .ok (.iload_n 1, 1) := by decide +kernel
theorem dX10_letter_37 : decode cX10_letter 37 = .ok (.iastore, 1) := by decide +kernel
theorem dX10_letter_38 : decode cX10_letter 38 = .ok (.aload_n 0, 1) := by decide +kernel
theorem dX10_letter_39 : decode cX10_letter 39 = .ok (.dup, 1) := by decide +kernel
theorem dX10_letter_40 : decode cX10_letter 40 = .ok (.getfield 64, 3) := by decide +kernel
theorem dX10_letter_43 : decode cX10_letter 43 = .ok (.iconst 1, 1) := by decide +kernel
theorem dX10_letter_44 : decode cX10_letter 44 = .ok (.iadd, 1) := by decide +kernel
theorem dX10_letter_45 : decode cX10_letter 45 = .ok (.putfield 64, 3) := by decide +kernel
theorem dX10_letter_48 : decode cX10_letter 48 = .ok (.aload_n 0, 1) := by decide +kernel
theorem dX10_letter_49 : decode cX10_letter 49 = .ok (.getfield 64, 3) := by decide +kernel
theorem dX10_letter_52 : decode cX10_letter 52 = .ok (.ireturn, 1) := by decide +kernel
theorem dX10_blank_0 : decode cX10_blank 0 = .ok (.aload_n 0, 1) := by decide +kernel
theorem dX10_blank_1 : decode cX10_blank 1 = .ok (.getfield 64, 3) := by decide +kernel
theorem dX10_blank_4 : decode cX10_blank 4 = .ok (.istore_n 1, 1) := by decide +kernel
theorem dX10_blank_5 : decode cX10_blank 5 = .ok (.aload_n 0, 1) := by decide +kernel
theorem dX10_blank_6 : decode cX10_blank 6 = .ok (.iconst 0, 1) := by decide +kernel
theorem dX10_blank_7 : decode cX10_blank 7 = .ok (.putfield 64, 3) := by decide +kernel
theorem dX10_blank_10 : decode cX10_blank 10 = .ok (.iload_n 1, 1) := by decide +kernel
theorem dX10_blank_11 : decode cX10_blank 11 = .ok (.ireturn, 1) := by decide +kernel
theorem dX10_takes_0 : decode cX10_takes 0 = .ok (.aload_n 0, 1) := by decide +kernel
theorem dX10_takes_1 : decode cX10_takes 1 = .ok (.getfield 67, 3) := by decide +kernel
theorem dX10_takes_4 : decode cX10_takes 4 = .ok (.ifCond .ne 7, 3) := by decide +kernel
theorem dX10_takes_7 : decode cX10_takes 7 = .ok (.iconst 4, 1) := by decide +kernel
theorem dX10_takes_8 : decode cX10_takes 8 = .ok (.goto 7, 3) := by decide +kernel
theorem dX10_takes_11 : decode cX10_takes 11 = .ok (.aload_n 0, 1) := by decide +kernel
theorem dX10_takes_12 : decode cX10_takes 12 = .ok (.getfield 67, 3) := by decide +kernel
theorem dX10_takes_15 : decode cX10_takes 15 = .ok (.istore_n 2, 1) := by decide +kernel
theorem dX10_takes_16 : decode cX10_takes 16 = .ok (.iload_n 1, 1) := by decide +kernel
theorem dX10_takes_17 : decode cX10_takes 17 = .ok (.bipush 59, 2) := by decide +kernel
theorem dX10_takes_19 : decode cX10_takes 19 = .ok (.if_icmp .ne 121, 3) := by decide +kernel
theorem dX10_takes_22 : decode cX10_takes 22 = .ok (.aload_n 0, 1) := by decide +kernel
theorem dX10_takes_23 : decode cX10_takes 23 = .ok (.getfield 67, 3) := by decide +kernel
theorem dX10_takes_26 : decode cX10_takes 26 = .ok (.ifCond .ne 19, 3) := by decide +kernel
theorem dX10_takes_29 : decode cX10_takes 29 = .ok (.aload_n 0, 1) := by decide +kernel
theorem dX10_takes_30 : decode cX10_takes 30 = .ok (.getfield 70, 3) := by decide +kernel
theorem dX10_takes_33 : decode cX10_takes 33 = .ok (.iconst 1, 1) := by decide +kernel
theorem dX10_takes_34 : decode cX10_takes 34 = .ok (.if_icmp .le 7, 3) := by decide +kernel
theorem dX10_takes_37 : decode cX10_takes 37 = .ok (.iconst 1, 1) := by decide +kernel
theorem dX10_takes_38 : decode cX10_takes 38 = .ok (.goto 23, 3) := by decide +kernel
theorem dX10_takes_41 : decode cX10_takes 41 = .ok (.iconst 0, 1) := by decide +kernel
theorem dX10_takes_42 : decode cX10_takes 42 = .ok (.goto 19, 3) := by decide +kernel
theorem dX10_takes_45 : decode cX10_takes 45 = .ok (.aload_n 0, 1) := by decide +kernel
theorem dX10_takes_46 : decode cX10_takes 46 = .ok (.getfield 70, 3) := by decide +kernel
theorem dX10_takes_49 : decode cX10_takes 49 = .ok (.aload_n 0, 1) := by decide +kernel
theorem dX10_takes_50 : decode cX10_takes 50 = .ok (.getfield 67, 3) := by decide +kernel
theorem dX10_takes_53 : decode cX10_takes 53 = .ok (.if_icmp .ne 7, 3) := by decide +kernel
theorem dX10_takes_56 : decode cX10_takes 56 = .ok (.iconst 1, 1) := by decide +kernel
theorem dX10_takes_57 : decode cX10_takes 57 = .ok (.goto 4, 3) := by decide +kernel
theorem dX10_takes_60 : decode cX10_takes 60 = .ok (.iconst 0, 1) := by decide +kernel
theorem dX10_takes_61 : decode cX10_takes 61 = .ok (.istore_n 3, 1) := by decide +kernel
