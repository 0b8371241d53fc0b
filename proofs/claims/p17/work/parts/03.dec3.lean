theorem dX10_takes_62 : decode cX10_takes 62 = .ok (.iload_n 3, 1) := by decide +kernel
theorem dX10_takes_63 : decode cX10_takes 63 = .ok (.ifCond .eq 15, 3) := by decide +kernel
theorem dX10_takes_66 : decode cX10_takes 66 = .ok (.aload_n 0, 1) := by decide +kernel
theorem dX10_takes_67 : decode cX10_takes 67 = .ok (.getfield 73, 3) := by decide +kernel
theorem dX10_takes_70 : decode cX10_takes 70 = .ok (.iconst 5, 1) := by decide +kernel
theorem dX10_takes_71 : decode cX10_takes 71 = .ok (.if_icmp .ge 7, 3) := by decide +kernel
theorem dX10_takes_74 : decode cX10_takes 74 = .ok (.iconst 1, 1) := by decide +kernel
theorem dX10_takes_75 : decode cX10_takes 75 = .ok (.goto 4, 3) := by decide +kernel
theorem dX10_takes_78 : decode cX10_takes 78 = .ok (.iconst 0, 1) := by decide +kernel
theorem dX10_takes_79 : decode cX10_takes 79 = .ok (.istore 4, 2) := by decide +kernel
theorem dX10_takes_81 : decode cX10_takes 81 = .ok (.aload_n 0, 1) := by decide +kernel
theorem dX10_takes_82 : decode cX10_takes 82 = .ok (.iload 4, 2) := by decide +kernel
theorem dX10_takes_84 : decode cX10_takes 84 = .ok (.ifCond .eq 10, 3) := by decide +kernel
theorem dX10_takes_87 : decode cX10_takes 87 = .ok (.aload_n 0, 1) := by decide +kernel
theorem dX10_takes_88 : decode cX10_takes 88 = .ok (.getfield 70, 3) := by decide +kernel
theorem dX10_takes_91 : decode cX10_takes 91 = .ok (.goto 7, 3) := by decide +kernel
theorem dX10_takes_94 : decode cX10_takes 94 = .ok (.aload_n 0, 1) := by decide +kernel
theorem dX10_takes_95 : decode cX10_takes 95 = .ok (.getfield 67, 3) := by decide +kernel
theorem dX10_takes_98 : decode cX10_takes 98 = .ok (.putfield 67, 3) := by decide +kernel
theorem dX10_takes_101 : decode cX10_takes 101 = .ok (.aload_n 0, 1) := by decide +kernel
theorem dX10_takes_102 : decode cX10_takes 102 = .ok (.dup, 1) := by decide +kernel
theorem dX10_takes_103 : decode cX10_takes 103 = .ok (.getfield 73, 3) := by decide +kernel
theorem dX10_takes_106 : decode cX10_takes 106 = .ok (.iload 4, 2) := by decide +kernel
theorem dX10_takes_108 : decode cX10_takes 108 = .ok (.ifCond .eq 7, 3) := by decide +kernel
theorem dX10_takes_111 : decode cX10_takes 111 = .ok (.iconst 1, 1) := by decide +kernel
theorem dX10_takes_112 : decode cX10_takes 112 = .ok (.goto 4, 3) := by decide +kernel
theorem dX10_takes_115 : decode cX10_takes 115 = .ok (.iconst 0, 1) := by decide +kernel
theorem dX10_takes_116 : decode cX10_takes 116 = .ok (.iadd, 1) := by decide +kernel
theorem dX10_takes_117 : decode cX10_takes 117 = .ok (.putfield 73, 3) := by decide +kernel
theorem dX10_takes_120 : decode cX10_takes 120 = .ok (.aload_n 0, 1) := by decide +kernel
theorem dX10_takes_121 : decode cX10_takes 121 = .ok (.iload 4, 2) := by decide +kernel
theorem dX10_takes_123 : decode cX10_takes 123 = .ok (.ifCond .eq 7, 3) := by decide +kernel
theorem dX10_takes_126 : decode cX10_takes 126 = .ok (.iconst 0, 1) := by decide +kernel
theorem dX10_takes_127 : decode cX10_takes 127 = .ok (.goto 7, 3) := by decide +kernel
theorem dX10_takes_130 : decode cX10_takes 130 = .ok (.aload_n 0, 1) := by decide +kernel
theorem dX10_takes_131 : decode cX10_takes 131 = .ok (.getfield 70, 3) := by decide +kernel
theorem dX10_takes_134 : decode cX10_takes 134 = .ok (.putfield 70, 3) := by decide +kernel
theorem dX10_takes_137 : decode cX10_takes 137 = .ok (.iload 4, 2) := by decide +kernel
theorem dX10_takes_139 : decode cX10_takes 139 = .ok (.ireturn, 1) := by decide +kernel
theorem dX10_takes_140 : decode cX10_takes 140 = .ok (.iload_n 1, 1) := by decide +kernel
theorem dX10_takes_141 : decode cX10_takes 141 = .ok (.bipush 45, 2) := by decide +kernel
theorem dX10_takes_143 : decode cX10_takes 143 = .ok (.if_icmp .eq 14, 3) := by decide +kernel
theorem dX10_takes_146 : decode cX10_takes 146 = .ok (.iload_n 1, 1) := by decide +kernel
theorem dX10_takes_147 : decode cX10_takes 147 = .ok (.bipush 97, 2) := by decide +kernel
theorem dX10_takes_149 : decode cX10_takes 149 = .ok (.bipush 102, 2) := by decide +kernel
theorem dX10_takes_151 : decode cX10_takes 151 = .ok (.invokestatic 60, 3) := by decide +kernel
theorem dX10_takes_154 : decode cX10_takes 154 = .ok (.ifCond .eq 15, 3) := by decide +kernel
theorem dX10_takes_157 : decode cX10_takes 157 = .ok (.aload_n 0, 1) := by decide +kernel
theorem dX10_takes_158 : decode cX10_takes 158 = .ok (.getfield 70, 3) := by decide +kernel
theorem dX10_takes_161 : decode cX10_takes 161 = .ok (.iload_n 2, 1) := by decide +kernel
theorem dX10_takes_162 : decode cX10_takes 162 = .ok (.if_icmp .ge 7, 3) := by decide +kernel
theorem dX10_takes_165 : decode cX10_takes 165 = .ok (.iconst 1, 1) := by decide +kernel
theorem dX10_takes_166 : decode cX10_takes 166 = .ok (.goto 4, 3) := by decide +kernel
theorem dX10_takes_169 : decode cX10_takes 169 = .ok (.iconst 0, 1) := by decide +kernel
theorem dX10_takes_170 : decode cX10_takes 170 = .ok (.istore_n 3, 1) := by decide +kernel
theorem dX10_takes_171 : decode cX10_takes 171 = .ok (.iload_n 3, 1) := by decide +kernel
theorem dX10_takes_172 : decode cX10_takes 172 = .ok (.ifCond .ne 5, 3) := by decide +kernel
theorem dX10_takes_175 : decode cX10_takes 175 = .ok (.iconst 0, 1) := by decide +kernel
theorem dX10_takes_176 : decode cX10_takes 176 = .ok (.ireturn, 1) := by decide +kernel
theorem dX10_takes_177 : decode cX10_takes 177 = .ok (.iload_n 1, 1) := by decide +kernel
theorem dX10_takes_178 : decode cX10_takes 178 = .ok (.bipush 45, 2) := by decide +kernel
theorem dX10_takes_180 : decode cX10_takes 180 = .ok (.if_icmp .ne 7, 3) := by decide +kernel
theorem dX10_takes_183 : decode cX10_takes 183 = .ok (.iconst (-1), 1) := by decide +kernel
theorem dX10_takes_184 : decode cX10_takes 184 = .ok (.goto 7, 3) := by decide +kernel
theorem dX10_takes_187 : decode cX10_takes 187 = .ok (.iload_n 1, 1) := by decide +kernel
theorem dX10_takes_188 : decode cX10_takes 188 = .ok (.bipush 97, 2) := by decide +kernel
theorem dX10_takes_190 : decode cX10_takes 190 = .ok (.isub, 1) := by decide +kernel
theorem dX10_takes_191 : decode cX10_takes 191 = .ok (.istore 4, 2) := by decide +kernel
theorem dX10_takes_193 : decode cX10_takes 193 = .ok (.aload_n 0, 1) := by decide +kernel
theorem dX10_takes_194 : decode cX10_takes 194 = .ok (.getfield 23, 3) := by decide +kernel
theorem dX10_takes_197 : decode cX10_takes 197 = .ok (.iconst 4, 1) := by decide +kernel
theorem dX10_takes_198 : decode cX10_takes 198 = .ok (.aload_n 0, 1) := by decide +kernel
theorem dX10_takes_199 : decode cX10_takes 199 = .ok (.getfield 73, 3) := by decide +kernel
theorem dX10_takes_202 : decode cX10_takes 202 = .ok (.imul, 1) := by decide +kernel
theorem dX10_takes_203 : decode cX10_takes 203 = .ok (.aload_n 0, 1) := by decide +kernel
theorem dX10_takes_204 : decode cX10_takes 204 = .ok (.getfield 70, 3) := by decide +kernel
theorem dX10_takes_207 : decode cX10_takes 207 = .ok (.iadd, 1) := by decide +kernel
theorem dX10_takes_208 : decode cX10_takes 208 = .ok (.iload 4, 2) := by decide +kernel
theorem dX10_takes_210 : decode cX10_takes 210 = .ok (.iastore, 1) := by decide +kernel
theorem dX10_takes_211 : decode cX10_takes 211 = .ok (.aload_n 0, 1) := by decide +kernel
theorem dX10_takes_212 : decode cX10_takes 212 = .ok (.iload 4, 2) := by decide +kernel
theorem dX10_takes_214 : decode cX10_takes 214 = .ok (.aload_n 0, 1) := by decide +kernel
theorem dX10_takes_215 : decode cX10_takes 215 = .ok (.getfield 76, 3) := by decide +kernel
theorem dX10_takes_218 : decode cX10_takes 218 = .ok (.if_icmp .le 8, 3) := by decide +kernel
theorem dX10_takes_221 : decode cX10_takes 221 = .ok (.iload 4, 2) := by decide +kernel
theorem dX10_takes_223 : decode cX10_takes 223 = .ok (.goto 7, 3) := by decide +kernel
theorem dX10_takes_226 : decode cX10_takes 226 = .ok (.aload_n 0, 1) := by decide +kernel
theorem dX10_takes_227 : decode cX10_takes 227 = .ok (.getfield 76, 3) := by decide +kernel
theorem dX10_takes_230 : decode cX10_takes 230 = .ok (.putfield 76, 3) := by decide +kernel
theorem dX10_takes_233 : decode cX10_takes 233 = .ok (.aload_n 0, 1) := by decide +kernel
theorem dX10_takes_234 : decode cX10_takes 234 = .ok (.dup, 1) := by decide +kernel
theorem dX10_takes_235 : decode cX10_takes 235 = .ok (.getfield 70, 3) := by decide +kernel
theorem dX10_takes_238 : decode cX10_takes 238 = .ok (.iconst 1, 1) := by decide +kernel
theorem dX10_takes_239 : decode cX10_takes 239 = .ok (.iadd, 1) := by decide +kernel
theorem dX10_takes_240 : decode cX10_takes 240 = .ok (.putfield 70, 3) := by decide +kernel
theorem dX10_takes_243 : decode cX10_takes 243 = .ok (.iconst 1, 1) := by decide +kernel
theorem dX10_takes_244 : decode cX10_takes 244 = .ok (.ireturn, 1) := by decide +kernel
theorem dX10_readPage_0 : decode cX10_readPage 0 = .ok (.aload_n 0, 1) := by decide +kernel
theorem dX10_readPage_1 : decode cX10_readPage 1 = .ok (.iconst 0, 1) := by decide +kernel
theorem dX10_readPage_2 : decode cX10_readPage 2 = .ok (.putfield 73, 3) := by decide +kernel
theorem dX10_readPage_5 : decode cX10_readPage 5 = .ok (.aload_n 0, 1) := by decide +kernel
theorem dX10_readPage_6 : decode cX10_readPage 6 = .ok (.iconst 0, 1) := by decide +kernel
theorem dX10_readPage_7 : decode cX10_readPage 7 = .ok (.putfield 70, 3) := by decide +kernel
theorem dX10_readPage_10 : decode cX10_readPage 10 = .ok (.aload_n 0, 1) := by decide +kernel
theorem dX10_readPage_11 : decode cX10_readPage 11 = .ok (.iconst 0, 1) := by decide +kernel
theorem dX10_readPage_12 : decode cX10_readPage 12 = .ok (.putfield 67, 3) := by decide +kernel
theorem dX10_readPage_15 : decode cX10_readPage 15 = .ok (.aload_n 0, 1) := by decide +kernel
theorem dX10_readPage_16 : decode cX10_readPage 16 = .ok (.iconst (-1), 1) := by decide +kernel
theorem dX10_readPage_17 : decode cX10_readPage 17 = .ok (.putfield 76, 3) := by decide +kernel
theorem dX10_readPage_20 : decode cX10_readPage 20 = .ok (.iconst 0, 1) := by decide +kernel
theorem dX10_readPage_21 : decode cX10_readPage 21 = .ok (.istore_n 1, 1) := by decide +kernel
theorem dX10_readPage_22 : decode cX10_readPage 22 = .ok (.iload_n 1, 1) := by decide +kernel
theorem dX10_readPage_23 : decode cX10_readPage 23 = .ok (.aload_n 0, 1) := by decide +kernel
theorem dX10_readPage_24 : decode cX10_readPage 24 = .ok (.getfield 64, 3) := by decide +kernel
theorem dX10_readPage_27 : decode cX10_readPage 27 = .ok (.if_icmp .ge 22, 3) := by decide +kernel
theorem dX10_readPage_30 : decode cX10_readPage 30 = .ok (.aload_n 0, 1) := by decide +kernel
theorem dX10_readPage_31 : decode cX10_readPage 31 = .ok (.aload_n 0, 1) := by decide +kernel
theorem dX10_readPage_32 : decode cX10_readPage 32 = .ok (.getfield 7, 3) := by decide +kernel
theorem dX10_readPage_35 : decode cX10_readPage 35 = .ok (.iload_n 1, 1) := by decide +kernel
theorem dX10_readPage_36 : decode cX10_readPage 36 = .ok (.iaload, 1) := by decide +kernel
theorem dX10_readPage_37 : decode cX10_readPage 37 = .ok (.invokevirtual 79, 3) := by decide +kernel
theorem dX10_readPage_40 : decode cX10_readPage 40 = .ok (.ifCond .eq 9, 3) := by decide +kernel
theorem dX10_readPage_43 : decode cX10_readPage 43 = .ok (.iinc 1 1, 3) := by decide +kernel
theorem dX10_readPage_46 : decode cX10_readPage 46 = .ok (.goto (-24), 3) := by decide +kernel
theorem dX10_readPage_49 : decode cX10_readPage 49 = .ok (.iload_n 1, 1) := by decide +kernel
theorem dX10_readPage_50 : decode cX10_readPage 50 = .ok (.ireturn, 1) := by decide +kernel
theorem dX10_fault_0 : decode cX10_fault 0 = .ok (.aload_n 0, 1) := by decide +kernel
theorem dX10_fault_1 : decode cX10_fault 1 = .ok (.invokevirtual 83, 3) := by decide +kernel
theorem dX10_fault_4 : decode cX10_fault 4 = .ok (.ireturn, 1) := by decide +kernel
theorem dX10_table_0 : decode cX10_table 0 = .ok (.aload_n 0, 1) := by decide +kernel
theorem dX10_table_1 : decode cX10_table 1 = .ok (.invokevirtual 83, 3) := by decide +kernel
theorem dX10_table_4 : decode cX10_table 4 = .ok (.aload_n 0, 1) := by decide +kernel
theorem dX10_table_5 : decode cX10_table 5 = .ok (.getfield 64, 3) := by decide +kernel
theorem dX10_table_8 : decode cX10_table 8 = .ok (.if_icmp .ne 36, 3) := by decide +kernel
theorem dX10_table_11 : decode cX10_table 11 = .ok (.aload_n 0, 1) := by decide +kernel
theorem dX10_table_12 : decode cX10_table 12 = .ok (.getfield 73, 3) := by decide +kernel
theorem dX10_table_15 : decode cX10_table 15 = .ok (.ifCond .le 29, 3) := by decide +kernel
theorem dX10_table_18 : decode cX10_table 18 = .ok (.aload_n 0, 1) := by decide +kernel
theorem dX10_table_19 : decode cX10_table 19 = .ok (.getfield 70, 3) := by decide +kernel
theorem dX10_table_22 : decode cX10_table 22 = .ok (.aload_n 0, 1) := by decide +kernel
theorem dX10_table_23 : decode cX10_table 23 = .ok (.getfield 67, 3) := by decide +kernel
theorem dX10_table_26 : decode cX10_table 26 = .ok (.if_icmp .ne 18, 3) := by decide +kernel
theorem dX10_table_29 : decode cX10_table 29 = .ok (.aload_n 0, 1) := by decide +kernel
theorem dX10_table_30 : decode cX10_table 30 = .ok (.getfield 76, 3) := by decide +kernel
theorem dX10_table_33 : decode cX10_table 33 = .ok (.aload_n 0, 1) := by decide +kernel
theorem dX10_table_34 : decode cX10_table 34 = .ok (.getfield 73, 3) := by decide +kernel
theorem dX10_table_37 : decode cX10_table 37 = .ok (.if_icmp .gt 7, 3) := by decide +kernel
theorem dX10_table_40 : decode cX10_table 40 = .ok (.iconst 1, 1) := by decide +kernel
theorem dX10_table_41 : decode cX10_table 41 = .ok (.goto 4, 3) := by decide +kernel
theorem dX10_table_44 : decode cX10_table 44 = .ok (.iconst 0, 1) := by decide +kernel
theorem dX10_table_45 : decode cX10_table 45 = .ok (.istore_n 1, 1) := by decide +kernel
theorem dX10_table_46 : decode cX10_table 46 = .ok (.iload_n 1, 1) := by decide +kernel
theorem dX10_table_47 : decode cX10_table 47 = .ok (.ifCond .ne 7, 3) := by decide +kernel
theorem dX10_table_50 : decode cX10_table 50 = .ok (.sipush (-1003), 3) := by decide +kernel
theorem dX10_table_53 : decode cX10_table 53 = .ok (.ireturn, 1) := by decide +kernel
theorem dX10_table_54 : decode cX10_table 54 = .ok (.aload_n 0, 1) := by decide +kernel
theorem dX10_table_55 : decode cX10_table 55 = .ok (.aload_n 0, 1) := by decide +kernel
theorem dX10_table_56 : decode cX10_table 56 = .ok (.getfield 73, 3) := by decide +kernel
theorem dX10_table_59 : decode cX10_table 59 = .ok (.iconst 1, 1) := by decide +kernel
theorem dX10_table_60 : decode cX10_table 60 = .ok (.iadd, 1) := by decide +kernel
theorem dX10_table_61 : decode cX10_table 61 = .ok (.putfield 87, 3) := by decide +kernel
theorem dX10_table_64 : decode cX10_table 64 = .ok (.aload_n 0, 1) := by decide +kernel
theorem dX10_table_65 : decode cX10_table 65 = .ok (.aload_n 0, 1) := by decide +kernel
theorem dX10_table_66 : decode cX10_table 66 = .ok (.getfield 67, 3) := by decide +kernel
theorem dX10_table_69 : decode cX10_table 69 = .ok (.putfield 90, 3) := by decide +kernel
theorem dX10_table_72 : decode cX10_table 72 = .ok (.iconst 0, 1) := by decide +kernel
theorem dX10_table_73 : decode cX10_table 73 = .ok (.istore_n 2, 1) := by decide +kernel
theorem dX10_table_74 : decode cX10_table 74 = .ok (.iload_n 2, 1) := by decide +kernel
theorem dX10_table_75 : decode cX10_table 75 = .ok (.iconst 4, 1) := by decide +kernel
theorem dX10_table_76 : decode cX10_table 76 = .ok (.aload_n 0, 1) := by decide +kernel
theorem dX10_table_77 : decode cX10_table 77 = .ok (.getfield 87, 3) := by decide +kernel
theorem dX10_table_80 : decode cX10_table 80 = .ok (.imul, 1) := by decide +kernel
theorem dX10_table_81 : decode cX10_table 81 = .ok (.if_icmp .ge 21, 3) := by decide +kernel
theorem dX10_table_84 : decode cX10_table 84 = .ok (.aload_n 0, 1) := by decide +kernel
theorem dX10_table_85 : decode cX10_table 85 = .ok (.getfield 13, 3) := by decide +kernel
theorem dX10_table_88 : decode cX10_table 88 = .ok (.iload_n 2, 1) := by decide +kernel
theorem dX10_table_89 : decode cX10_table 89 = .ok (.aload_n 0, 1) := by decide +kernel
theorem dX10_table_90 : decode cX10_table 90 = .ok (.getfield 23, 3) := by decide +kernel
theorem dX10_table_93 : decode cX10_table 93 = .ok (.iload_n 2, 1) := by decide +kernel
theorem dX10_table_94 : decode cX10_table 94 = .ok (.iaload, 1) := by decide +kernel
theorem dX10_table_95 : decode cX10_table 95 = .ok (.iastore, 1) := by decide +kernel
theorem dX10_table_96 : decode cX10_table 96 = .ok (.iinc 2 1, 3) := by decide +kernel
theorem dX10_table_99 : decode cX10_table 99 = .ok (.goto (-25), 3) := by decide +kernel
theorem dX10_table_102 : decode cX10_table 102 = .ok (.aload_n 0, 1) := by decide +kernel
theorem dX10_table_103 : decode cX10_table 103 = .ok (.iconst (-1), 1) := by decide +kernel
theorem dX10_table_104 : decode cX10_table 104 = .ok (.putfield 19, 3) := by decide +kernel
theorem dX10_table_107 : decode cX10_table 107 = .ok (.aload_n 0, 1) := by decide +kernel
theorem dX10_table_108 : decode cX10_table 108 = .ok (.iconst 0, 1) := by decide +kernel
theorem dX10_table_109 : decode cX10_table 109 = .ok (.putfield 93, 3) := by decide +kernel
theorem dX10_table_112 : decode cX10_table 112 = .ok (.aload_n 0, 1) := by decide +kernel
theorem dX10_table_113 : decode cX10_table 113 = .ok (.iconst 0, 1) := by decide +kernel
theorem dX10_table_114 : decode cX10_table 114 = .ok (.putfield 96, 3) := by decide +kernel
theorem dX10_table_117 : decode cX10_table 117 = .ok (.aload_n 0, 1) := by decide +kernel
theorem dX10_table_118 : decode cX10_table 118 = .ok (.iconst 0, 1) := by decide +kernel
theorem dX10_table_119 : decode cX10_table 119 = .ok (.putfield 99, 3) := by decide +kernel
theorem dX10_table_122 : decode cX10_table 122 = .ok (.aload_n 0, 1) := by decide +kernel
theorem dX10_table_123 : decode cX10_table 123 = .ok (.dup, 1) := by decide +kernel
theorem dX10_table_124 : decode cX10_table 124 = .ok (.getfield 102, 3) := by decide +kernel
theorem dX10_table_127 : decode cX10_table 127 = .ok (.iconst 1, 1) := by decide +kernel
theorem dX10_table_128 : decode cX10_table 128 = .ok (.iadd, 1) := by decide +kernel
theorem dX10_table_129 : decode cX10_table 129 = .ok (.putfield 102, 3) := by decide +kernel
theorem dX10_table_132 : decode cX10_table 132 = .ok (.aload_n 0, 1) := by decide +kernel
theorem dX10_table_133 : decode cX10_table 133 = .ok (.iconst 0, 1) := by decide +kernel
theorem dX10_table_134 : decode cX10_table 134 = .ok (.putfield 64, 3) := by decide +kernel
theorem dX10_table_137 : decode cX10_table 137 = .ok (.aload_n 0, 1) := by decide +kernel
theorem dX10_table_138 : decode cX10_table 138 = .ok (.invokevirtual 105, 3) := by decide +kernel
theorem dX10_table_141 : decode cX10_table 141 = .ok (.aload_n 0, 1) := by decide +kernel
theorem dX10_table_142 : decode cX10_table 142 = .ok (.invokevirtual 108, 3) := by decide +kernel
theorem dX10_table_145 : decode cX10_table 145 = .ok (.iconst 0, 1) := by decide +kernel
theorem dX10_table_146 : decode cX10_table 146 = .ok (.istore_n 2, 1) := by decide +kernel
theorem dX10_table_147 : decode cX10_table 147 = .ok (.iload_n 2, 1) := by decide +kernel
theorem dX10_table_148 : decode cX10_table 148 = .ok (.aload_n 0, 1) := by decide +kernel
theorem dX10_table_149 : decode cX10_table 149 = .ok (.getfield 32, 3) := by decide +kernel
theorem dX10_table_152 : decode cX10_table 152 = .ok (.if_icmp .ge 21, 3) := by decide +kernel
theorem dX10_table_155 : decode cX10_table 155 = .ok (.aload_n 0, 1) := by decide +kernel
theorem dX10_table_156 : decode cX10_table 156 = .ok (.getfield 16, 3) := by decide +kernel
theorem dX10_table_159 : decode cX10_table 159 = .ok (.iload_n 2, 1) := by decide +kernel
theorem dX10_table_160 : decode cX10_table 160 = .ok (.aload_n 0, 1) := by decide +kernel
theorem dX10_table_161 : decode cX10_table 161 = .ok (.getfield 35, 3) := by decide +kernel
theorem dX10_table_164 : decode cX10_table 164 = .ok (.iload_n 2, 1) := by decide +kernel
theorem dX10_table_165 : decode cX10_table 165 = .ok (.iaload, 1) := by decide +kernel
theorem dX10_table_166 : decode cX10_table 166 = .ok (.iastore, 1) := by decide +kernel
theorem dX10_table_167 : decode cX10_table 167 = .ok (.iinc 2 1, 3) := by decide +kernel
theorem dX10_table_170 : decode cX10_table 170 = .ok (.goto (-23), 3) := by decide +kernel
theorem dX10_table_173 : decode cX10_table 173 = .ok (.aload_n 0, 1) := by decide +kernel
theorem dX10_table_174 : decode cX10_table 174 = .ok (.aload_n 0, 1) := by decide +kernel
theorem dX10_table_175 : decode cX10_table 175 = .ok (.getfield 32, 3) := by decide +kernel
theorem dX10_table_178 : decode cX10_table 178 = .ok (.ifCond .ge 7, 3) := by decide +kernel
theorem dX10_table_181 : decode cX10_table 181 = .ok (.iconst 0, 1) := by decide +kernel
theorem dX10_table_182 : decode cX10_table 182 = .ok (.goto 7, 3) := by decide +kernel
theorem dX10_table_185 : decode cX10_table 185 = .ok (.aload_n 0, 1) := by decide +kernel
theorem dX10_table_186 : decode cX10_table 186 = .ok (.getfield 32, 3) := by decide +kernel
theorem dX10_table_189 : decode cX10_table 189 = .ok (.putfield 99, 3) := by decide +kernel
theorem dX10_table_192 : decode cX10_table 192 = .ok (.aload_n 0, 1) := by decide +kernel
theorem dX10_table_193 : decode cX10_table 193 = .ok (.invokevirtual 111, 3) := by decide +kernel
theorem dX10_table_196 : decode cX10_table 196 = .ok (.aload_n 0, 1) := by decide +kernel
theorem dX10_table_197 : decode cX10_table 197 = .ok (.getfield 87, 3) := by decide +kernel
theorem dX10_table_200 : decode cX10_table 200 = .ok (.ireturn, 1) := by decide +kernel
theorem dX10_entryAt_0 : decode cX10_entryAt 0 = .ok (.aload_n 0, 1) := by decide +kernel
theorem dX10_entryAt_1 : decode cX10_entryAt 1 = .ok (.getfield 13, 3) := by decide +kernel
theorem dX10_entryAt_4 : decode cX10_entryAt 4 = .ok (.iconst 4, 1) := by decide +kernel
theorem dX10_entryAt_5 : decode cX10_entryAt 5 = .ok (.iload_n 1, 1) := by decide +kernel
theorem dX10_entryAt_6 : decode cX10_entryAt 6 = .ok (.imul, 1) := by decide +kernel
theorem dX10_entryAt_7 : decode cX10_entryAt 7 = .ok (.iload_n 2, 1) := by decide +kernel
theorem dX10_entryAt_8 : decode cX10_entryAt 8 = .ok (.iadd, 1) := by decide +kernel
theorem dX10_entryAt_9 : decode cX10_entryAt 9 = .ok (.iaload, 1) := by decide +kernel
theorem dX10_entryAt_10 : decode cX10_entryAt 10 = .ok (.ireturn, 1) := by decide +kernel
theorem dX10_isEntry_0 : decode cX10_isEntry 0 = .ok (.iload_n 1, 1) := by decide +kernel
theorem dX10_isEntry_1 : decode cX10_isEntry 1 = .ok (.iconst 0, 1) := by decide +kernel
theorem dX10_isEntry_2 : decode cX10_isEntry 2 = .ok (.aload_n 0, 1) := by decide +kernel
theorem dX10_isEntry_3 : decode cX10_isEntry 3 = .ok (.getfield 87, 3) := by decide +kernel
theorem dX10_isEntry_6 : decode cX10_isEntry 6 = .ok (.iconst 1, 1) := by decide +kernel
theorem dX10_isEntry_7 : decode cX10_isEntry 7 = .ok (.isub, 1) := by decide +kernel
theorem dX10_isEntry_8 : decode cX10_isEntry 8 = .ok (.invokestatic 60, 3) := by decide +kernel
theorem dX10_isEntry_11 : decode cX10_isEntry 11 = .ok (.ifCond .eq 21, 3) := by decide +kernel
theorem dX10_isEntry_14 : decode cX10_isEntry 14 = .ok (.iload_n 2, 1) := by decide +kernel
theorem dX10_isEntry_15 : decode cX10_isEntry 15 = .ok (.iconst 0, 1) := by decide +kernel
theorem dX10_isEntry_16 : decode cX10_isEntry 16 = .ok (.aload_n 0, 1) := by decide +kernel
theorem dX10_isEntry_17 : decode cX10_isEntry 17 = .ok (.getfield 90, 3) := by decide +kernel
theorem dX10_isEntry_20 : decode cX10_isEntry 20 = .ok (.iconst 1, 1) := by decide +kernel
theorem dX10_isEntry_21 : decode cX10_isEntry 21 = .ok (.isub, 1) := by decide +kernel
theorem dX10_isEntry_22 : decode cX10_isEntry 22 = .ok (.invokestatic 60, 3) := by decide +kernel
theorem dX10_isEntry_25 : decode cX10_isEntry 25 = .ok (.ifCond .eq 7, 3) := by decide +kernel
theorem dX10_isEntry_28 : decode cX10_isEntry 28 = .ok (.iconst 1, 1) := by decide +kernel
theorem dX10_isEntry_29 : decode cX10_isEntry 29 = .ok (.goto 4, 3) := by decide +kernel
theorem dX10_isEntry_32 : decode cX10_isEntry 32 = .ok (.iconst 0, 1) := by decide +kernel
theorem dX10_isEntry_33 : decode cX10_isEntry 33 = .ok (.ireturn, 1) := by decide +kernel
theorem dX10_entry_0 : decode cX10_entry 0 = .ok (.aload_n 0, 1) := by decide +kernel
theorem dX10_entry_1 : decode cX10_entry 1 = .ok (.iload_n 1, 1) := by decide +kernel
theorem dX10_entry_2 : decode cX10_entry 2 = .ok (.iload_n 2, 1) := by decide +kernel
theorem dX10_entry_3 : decode cX10_entry 3 = .ok (.invokevirtual 114, 3) := by decide +kernel
theorem dX10_entry_6 : decode cX10_entry 6 = .ok (.ifCond .eq 12, 3) := by decide +kernel
theorem dX10_entry_9 : decode cX10_entry 9 = .ok (.aload_n 0, 1) := by decide +kernel
theorem dX10_entry_10 : decode cX10_entry 10 = .ok (.iload_n 1, 1) := by decide +kernel
theorem dX10_entry_11 : decode cX10_entry 11 = .ok (.iload_n 2, 1) := by decide +kernel
theorem dX10_entry_12 : decode cX10_entry 12 = .ok (.invokevirtual 118, 3) := by decide +kernel
theorem dX10_entry_15 : decode cX10_entry 15 = .ok (.goto 6, 3) := by decide +kernel
theorem dX10_entry_18 : decode cX10_entry 18 = .ok (.sipush (-1001), 3) := by decide +kernel
theorem dX10_entry_21 : decode cX10_entry 21 = .ok (.ireturn, 1) := by decide +kernel
theorem dX10_amiss_0 : decode cX10_amiss 0 = .ok (.iconst 0, 1) := by decide +kernel
theorem dX10_amiss_1 : decode cX10_amiss 1 = .ok (.istore_n 1, 1) := by decide +kernel
theorem dX10_amiss_2 : decode cX10_amiss 2 = .ok (.iload_n 1, 1) := by decide +kernel
theorem dX10_amiss_3 : decode cX10_amiss 3 = .ok (.aload_n 0, 1) := by decide +kernel
theorem dX10_amiss_4 : decode cX10_amiss 4 = .ok (.getfield 87, 3) := by decide +kernel
theorem dX10_amiss_7 : decode cX10_amiss 7 = .ok (.if_icmp .ge 53, 3) := by decide +kernel
theorem dX10_amiss_10 : decode cX10_amiss 10 = .ok (.iconst 0, 1) := by decide +kernel
theorem dX10_amiss_11 : decode cX10_amiss 11 = .ok (.istore_n 2, 1) := by decide +kernel
theorem dX10_amiss_12 : decode cX10_amiss 12 = .ok (.iload_n 2, 1) := by decide +kernel
theorem dX10_amiss_13 : decode cX10_amiss 13 = .ok (.aload_n 0, 1) := by decide +kernel
theorem dX10_amiss_14 : decode cX10_amiss 14 = .ok (.getfield 90, 3) := by decide +kernel
theorem dX10_amiss_17 : decode cX10_amiss 17 = .ok (.if_icmp .ge 37, 3) := by decide +kernel
theorem dX10_amiss_20 : decode cX10_amiss 20 = .ok (.aload_n 0, 1) := by decide +kernel
theorem dX10_amiss_21 : decode cX10_amiss 21 = .ok (.iload_n 1, 1) := by decide +kernel
theorem dX10_amiss_22 : decode cX10_amiss 22 = .ok (.iload_n 2, 1) := by decide +kernel
theorem dX10_amiss_23 : decode cX10_amiss 23 = .ok (.invokevirtual 118, 3) := by decide +kernel
theorem dX10_amiss_26 : decode cX10_amiss 26 = .ok (.istore_n 3, 1) := by decide +kernel
theorem dX10_amiss_27 : decode cX10_amiss 27 = .ok (.iload_n 3, 1) := by decide +kernel
theorem dX10_amiss_28 : decode cX10_amiss 28 = .ok (.iconst (-1), 1) := by decide +kernel
theorem dX10_amiss_29 : decode cX10_amiss 29 = .ok (.if_icmp .eq 19, 3) := by decide +kernel
theorem dX10_amiss_32 : decode cX10_amiss 32 = .ok (.aload_n 0, 1) := by decide +kernel
theorem dX10_amiss_33 : decode cX10_amiss 33 = .ok (.iload_n 3, 1) := by decide +kernel
theorem dX10_amiss_34 : decode cX10_amiss 34 = .ok (.iload_n 2, 1) := by decide +kernel
theorem dX10_amiss_35 : decode cX10_amiss 35 = .ok (.invokevirtual 118, 3) := by decide +kernel
theorem dX10_amiss_38 : decode cX10_amiss 38 = .ok (.iload_n 3, 1) := by decide +kernel
theorem dX10_amiss_39 : decode cX10_amiss 39 = .ok (.if_icmp .eq 9, 3) := by decide +kernel
theorem dX10_amiss_42 : decode cX10_amiss 42 = .ok (.iconst 4, 1) := by decide +kernel
theorem dX10_amiss_43 : decode cX10_amiss 43 = .ok (.iload_n 1, 1) := by decide +kernel
theorem dX10_amiss_44 : decode cX10_amiss 44 = .ok (.imul, 1) := by decide +kernel
theorem dX10_amiss_45 : decode cX10_amiss 45 = .ok (.iload_n 2, 1) := by decide +kernel
theorem dX10_amiss_46 : decode cX10_amiss 46 = .ok (.iadd, 1) := by decide +kernel
theorem dX10_amiss_47 : decode cX10_amiss 47 = .ok (.ireturn, 1) := by decide +kernel
theorem dX10_amiss_48 : decode cX10_amiss 48 = .ok (.iinc 2 1, 3) := by decide +kernel
theorem dX10_amiss_51 : decode cX10_amiss 51 = .ok (.goto (-39), 3) := by decide +kernel
theorem dX10_amiss_54 : decode cX10_amiss 54 = .ok (.iinc 1 1, 3) := by decide +kernel
theorem dX10_amiss_57 : decode cX10_amiss 57 = .ok (.goto (-55), 3) := by decide +kernel
theorem dX10_amiss_60 : decode cX10_amiss 60 = .ok (.iconst (-1), 1) := by decide +kernel
theorem dX10_amiss_61 : decode cX10_amiss 61 = .ok (.ireturn, 1) := by decide +kernel
theorem dX10_isNormal_0 : decode cX10_isNormal 0 = .ok (.aload_n 0, 1) := by decide +kernel
theorem dX10_isNormal_1 : decode cX10_isNormal 1 = .ok (.getfield 87, 3) := by decide +kernel
theorem dX10_isNormal_4 : decode cX10_isNormal 4 = .ok (.ifCond .le 15, 3) := by decide +kernel
theorem dX10_isNormal_7 : decode cX10_isNormal 7 = .ok (.aload_n 0, 1) := by decide +kernel
theorem dX10_isNormal_8 : decode cX10_isNormal 8 = .ok (.invokevirtual 122, 3) := by decide +kernel
theorem dX10_isNormal_11 : decode cX10_isNormal 11 = .ok (.iconst (-1), 1) := by decide +kernel
theorem dX10_isNormal_12 : decode cX10_isNormal 12 = .ok (.if_icmp .ne 7, 3) := by decide +kernel
theorem dX10_isNormal_15 : decode cX10_isNormal 15 = .ok (.iconst 1, 1) := by decide +kernel
theorem dX10_isNormal_16 : decode cX10_isNormal 16 = .ok (.goto 4, 3) := by decide +kernel
theorem dX10_isNormal_19 : decode cX10_isNormal 19 = .ok (.iconst 0, 1) := by decide +kernel
theorem dX10_isNormal_20 : decode cX10_isNormal 20 = .ok (.ireturn, 1) := by decide +kernel
theorem dX10_movesMany_0 : decode cX10_movesMany 0 = .ok (.iconst 0, 1) := by decide +kernel
theorem dX10_movesMany_1 : decode cX10_movesMany 1 = .ok (.istore_n 2, 1) := by decide +kernel
theorem dX10_movesMany_2 : decode cX10_movesMany 2 = .ok (.iconst 0, 1) := by decide +kernel
theorem dX10_movesMany_3 : decode cX10_movesMany 3 = .ok (.istore_n 3, 1) := by decide +kernel
theorem dX10_movesMany_4 : decode cX10_movesMany 4 = .ok (.iload_n 3, 1) := by decide +kernel
theorem dX10_movesMany_5 : decode cX10_movesMany 5 = .ok (.aload_n 0, 1) := by decide +kernel
theorem dX10_movesMany_6 : decode cX10_movesMany 6 = .ok (.getfield 87, 3) := by decide +kernel
theorem dX10_movesMany_9 : decode cX10_movesMany 9 = .ok (.if_icmp .ge 60, 3) := by decide +kernel
theorem dX10_movesMany_12 : decode cX10_movesMany 12 = .ok (.iconst 0, 1) := by decide +kernel
theorem dX10_movesMany_13 : decode cX10_movesMany 13 = .ok (.istore 4, 2) := by decide +kernel
theorem dX10_movesMany_15 : decode cX10_movesMany 15 = .ok (.iload 4, 2) := by decide +kernel
theorem dX10_movesMany_17 : decode cX10_movesMany 17 = .ok (.aload_n 0, 1) := by decide +kernel
theorem dX10_movesMany_18 : decode cX10_movesMany 18 = .ok (.getfield 90, 3) := by decide +kernel
theorem dX10_movesMany_21 : decode cX10_movesMany 21 = .ok (.if_icmp .ge 42, 3) := by decide +kernel
theorem dX10_movesMany_24 : decode cX10_movesMany 24 = .ok (.aload_n 0, 1) := by decide +kernel
theorem dX10_movesMany_25 : decode cX10_movesMany 25 = .ok (.iload_n 3, 1) := by decide +kernel
theorem dX10_movesMany_26 : decode cX10_movesMany 26 = .ok (.iload 4, 2) := by decide +kernel
theorem dX10_movesMany_28 : decode cX10_movesMany 28 = .ok (.invokevirtual 118, 3) := by decide +kernel
theorem dX10_movesMany_31 : decode cX10_movesMany 31 = .ok (.istore 5, 2) := by decide +kernel
theorem dX10_movesMany_33 : decode cX10_movesMany 33 = .ok (.iload_n 2, 1) := by decide +kernel
theorem dX10_movesMany_34 : decode cX10_movesMany 34 = .ok (.iload 5, 2) := by decide +kernel
theorem dX10_movesMany_36 : decode cX10_movesMany 36 = .ok (.iconst (-1), 1) := by decide +kernel
theorem dX10_movesMany_37 : decode cX10_movesMany 37 = .ok (.if_icmp .eq 17, 3) := by decide +kernel
theorem dX10_movesMany_40 : decode cX10_movesMany 40 = .ok (.iload_n 1, 1) := by decide +kernel
theorem dX10_movesMany_41 : decode cX10_movesMany 41 = .ok (.ifCond .eq 9, 3) := by decide +kernel
theorem dX10_movesMany_44 : decode cX10_movesMany 44 = .ok (.iload 5, 2) := by decide +kernel
theorem dX10_movesMany_46 : decode cX10_movesMany 46 = .ok (.iload_n 3, 1) := by decide +kernel
theorem dX10_movesMany_47 : decode cX10_movesMany 47 = .ok (.if_icmp .ne 7, 3) := by decide +kernel
theorem dX10_movesMany_50 : decode cX10_movesMany 50 = .ok (.iconst 1, 1) := by decide +kernel
theorem dX10_movesMany_51 : decode cX10_movesMany 51 = .ok (.goto 4, 3) := by decide +kernel
theorem dX10_movesMany_54 : decode cX10_movesMany 54 = .ok (.iconst 0, 1) := by decide +kernel
theorem dX10_movesMany_55 : decode cX10_movesMany 55 = .ok (.iadd, 1) := by decide +kernel
theorem dX10_movesMany_56 : decode cX10_movesMany 56 = .ok (.istore_n 2, 1) := by decide +kernel
theorem dX10_movesMany_57 : decode cX10_movesMany 57 = .ok (.iinc 4 1, 3) := by decide +kernel
theorem dX10_movesMany_60 : decode cX10_movesMany 60 = .ok (.goto (-45), 3) := by decide +kernel
theorem dX10_movesMany_63 : decode cX10_movesMany 63 = .ok (.iinc 3 1, 3) := by decide +kernel
theorem dX10_movesMany_66 : decode cX10_movesMany 66 = .ok (.goto (-62), 3) := by decide +kernel
theorem dX10_movesMany_69 : decode cX10_movesMany 69 = .ok (.iload_n 2, 1) := by decide +kernel
theorem dX10_movesMany_70 : decode cX10_movesMany 70 = .ok (.ireturn, 1) := by decide +kernel
theorem dX10_aboutNow_0 : decode cX10_aboutNow 0 = .ok (.iload_n 1, 1) := by decide +kernel
theorem dX10_aboutNow_1 : decode cX10_aboutNow 1 = .ok (.tableswitch 61 0 3 #[31, 44, 49, 55], 31) := by decide +kernel
theorem dX10_aboutNow_32 : decode cX10_aboutNow 32 = .ok (.aload_n 0, 1) := by decide +kernel
theorem dX10_aboutNow_33 : decode cX10_aboutNow 33 = .ok (.invokevirtual 125, 3) := by decide +kernel
theorem dX10_aboutNow_36 : decode cX10_aboutNow 36 = .ok (.ifCond .eq 7, 3) := by decide +kernel
theorem dX10_aboutNow_39 : decode cX10_aboutNow 39 = .ok (.iconst 1, 1) := by decide +kernel
theorem dX10_aboutNow_40 : decode cX10_aboutNow 40 = .ok (.goto 4, 3) := by decide +kernel
theorem dX10_aboutNow_43 : decode cX10_aboutNow 43 = .ok (.iconst 0, 1) := by decide +kernel
theorem dX10_aboutNow_44 : decode cX10_aboutNow 44 = .ok (.ireturn, 1) := by decide +kernel
theorem dX10_aboutNow_45 : decode cX10_aboutNow 45 = .ok (.aload_n 0, 1) := by decide +kernel
theorem dX10_aboutNow_46 : decode cX10_aboutNow 46 = .ok (.invokevirtual 122, 3) := by decide +kernel
theorem dX10_aboutNow_49 : decode cX10_aboutNow 49 = .ok (.ireturn, 1) := by decide +kernel
theorem dX10_aboutNow_50 : decode cX10_aboutNow 50 = .ok (.aload_n 0, 1) := by decide +kernel
theorem dX10_aboutNow_51 : decode cX10_aboutNow 51 = .ok (.iconst 0, 1) := by decide +kernel
theorem dX10_aboutNow_52 : decode cX10_aboutNow 52 = .ok (.invokevirtual 129, 3) := by decide +kernel
theorem dX10_aboutNow_55 : decode cX10_aboutNow 55 = .ok (.ireturn, 1) := by decide +kernel
theorem dX10_aboutNow_56 : decode cX10_aboutNow 56 = .ok (.aload_n 0, 1) := by decide +kernel
theorem dX10_aboutNow_57 : decode cX10_aboutNow 57 = .ok (.iconst 1, 1) := by decide +kernel
theorem dX10_aboutNow_58 : decode cX10_aboutNow 58 = .ok (.invokevirtual 129, 3) := by decide +kernel
theorem dX10_aboutNow_61 : decode cX10_aboutNow 61 = .ok (.ireturn, 1) := by decide +kernel
theorem dX10_aboutNow_62 : decode cX10_aboutNow 62 = .ok (.aload_n 0, 1) := by decide +kernel
theorem dX10_aboutNow_63 : decode cX10_aboutNow 63 = .ok (.invokevirtual 125, 3) := by decide +kernel
theorem dX10_aboutNow_66 : decode cX10_aboutNow 66 = .ok (.ifCond .eq 10, 3) := by decide +kernel
theorem dX10_aboutNow_69 : decode cX10_aboutNow 69 = .ok (.aload_n 0, 1) := by decide +kernel
theorem dX10_aboutNow_70 : decode cX10_aboutNow 70 = .ok (.getfield 133, 3) := by decide +kernel
theorem dX10_aboutNow_73 : decode cX10_aboutNow 73 = .ok (.goto 4, 3) := by decide +kernel
theorem dX10_aboutNow_76 : decode cX10_aboutNow 76 = .ok (.iconst (-1), 1) := by decide +kernel
theorem dX10_aboutNow_77 : decode cX10_aboutNow 77 = .ok (.ireturn, 1) := by decide +kernel
theorem dX10_about_0 : decode cX10_about 0 = .ok (.iload_n 1, 1) := by decide +kernel
theorem dX10_about_1 : decode cX10_about 1 = .ok (.iconst 0, 1) := by decide +kernel
theorem dX10_about_2 : decode cX10_about 2 = .ok (.iconst 4, 1) := by decide +kernel
theorem dX10_about_3 : decode cX10_about 3 = .ok (.invokestatic 60, 3) := by decide +kernel
theorem dX10_about_6 : decode cX10_about 6 = .ok (.ifCond .ne 7, 3) := by decide +kernel
theorem dX10_about_9 : decode cX10_about 9 = .ok (.sipush (-1002), 3) := by decide +kernel
theorem dX10_about_12 : decode cX10_about 12 = .ok (.ireturn, 1) := by decide +kernel
theorem dX10_about_13 : decode cX10_about 13 = .ok (.aload_n 0, 1) := by decide +kernel
theorem dX10_about_14 : decode cX10_about 14 = .ok (.getfield 87, 3) := by decide +kernel
theorem dX10_about_17 : decode cX10_about 17 = .ok (.ifCond .ne 9, 3) := by decide +kernel
theorem dX10_about_20 : decode cX10_about 20 = .ok (.sipush (-1003), 3) := by decide +kernel
theorem dX10_about_23 : decode cX10_about 23 = .ok (.goto 8, 3) := by decide +kernel
theorem dX10_about_26 : decode cX10_about 26 = .ok (.aload_n 0, 1) := by decide +kernel
theorem dX10_about_27 : decode cX10_about 27 = .ok (.iload_n 1, 1) := by decide +kernel
theorem dX10_about_28 : decode cX10_about 28 = .ok (.invokevirtual 136, 3) := by decide +kernel
theorem dX10_about_31 : decode cX10_about 31 = .ok (.ireturn, 1) := by decide +kernel
theorem dX10_isIn_0 : decode cX10_isIn 0 = .ok (.iload_n 0, 1) := by decide +kernel
theorem dX10_isIn_1 : decode cX10_isIn 1 = .ok (.iload_n 2, 1) := by decide +kernel
theorem dX10_isIn_2 : decode cX10_isIn 2 = .ok (.iconst (-1), 1) := by decide +kernel
theorem dX10_isIn_3 : decode cX10_isIn 3 = .ok (.ixor, 1) := by decide +kernel
theorem dX10_isIn_4 : decode cX10_isIn 4 = .ok (.iand, 1) := by decide +kernel
theorem dX10_isIn_5 : decode cX10_isIn 5 = .ok (.ifCond .ne 11, 3) := by decide +kernel
theorem dX10_isIn_8 : decode cX10_isIn 8 = .ok (.iload_n 1, 1) := by decide +kernel
theorem dX10_isIn_9 : decode cX10_isIn 9 = .ok (.iload_n 3, 1) := by decide +kernel
theorem dX10_isIn_10 : decode cX10_isIn 10 = .ok (.iconst (-1), 1) := by decide +kernel
theorem dX10_isIn_11 : decode cX10_isIn 11 = .ok (.ixor, 1) := by decide +kernel
theorem dX10_isIn_12 : decode cX10_isIn 12 = .ok (.iand, 1) := by decide +kernel
theorem dX10_isIn_13 : decode cX10_isIn 13 = .ok (.ifCond .eq 19, 3) := by decide +kernel
theorem dX10_isIn_16 : decode cX10_isIn 16 = .ok (.iload_n 0, 1) := by decide +kernel
theorem dX10_isIn_17 : decode cX10_isIn 17 = .ok (.iload_n 3, 1) := by decide +kernel
theorem dX10_isIn_18 : decode cX10_isIn 18 = .ok (.iconst (-1), 1) := by decide +kernel
theorem dX10_isIn_19 : decode cX10_isIn 19 = .ok (.ixor, 1) := by decide +kernel
theorem dX10_isIn_20 : decode cX10_isIn 20 = .ok (.iand, 1) := by decide +kernel
theorem dX10_isIn_21 : decode cX10_isIn 21 = .ok (.ifCond .ne 15, 3) := by decide +kernel
theorem dX10_isIn_24 : decode cX10_isIn 24 = .ok (.iload_n 1, 1) := by decide +kernel
theorem dX10_isIn_25 : decode cX10_isIn 25 = .ok (.iload_n 2, 1) := by decide +kernel
theorem dX10_isIn_26 : decode cX10_isIn 26 = .ok (.iconst (-1), 1) := by decide +kernel
theorem dX10_isIn_27 : decode cX10_isIn 27 = .ok (.ixor, 1) := by decide +kernel
theorem dX10_isIn_28 : decode cX10_isIn 28 = .ok (.iand, 1) := by decide +kernel
theorem dX10_isIn_29 : decode cX10_isIn 29 = .ok (.ifCond .ne 7, 3) := by decide +kernel
theorem dX10_isIn_32 : decode cX10_isIn 32 = .ok (.iconst 1, 1) := by decide +kernel
theorem dX10_isIn_33 : decode cX10_isIn 33 = .ok (.goto 4, 3) := by decide +kernel
theorem dX10_isIn_36 : decode cX10_isIn 36 = .ok (.iconst 0, 1) := by decide +kernel
theorem dX10_isIn_37 : decode cX10_isIn 37 = .ok (.ireturn, 1) := by decide +kernel
theorem dX10_addParting_0 : decode cX10_addParting 0 = .ok (.iload_n 1, 1) := by decide +kernel
theorem dX10_addParting_1 : decode cX10_addParting 1 = .ok (.iload_n 2, 1) := by decide +kernel
theorem dX10_addParting_2 : decode cX10_addParting 2 = .ok (.if_icmp .ge 7, 3) := by decide +kernel
theorem dX10_addParting_5 : decode cX10_addParting 5 = .ok (.iload_n 1, 1) := by decide +kernel
theorem dX10_addParting_6 : decode cX10_addParting 6 = .ok (.goto 4, 3) := by decide +kernel
theorem dX10_addParting_9 : decode cX10_addParting 9 = .ok (.iload_n 2, 1) := by decide +kernel
theorem dX10_addParting_10 : decode cX10_addParting 10 = .ok (.istore_n 3, 1) := by decide +kernel
theorem dX10_addParting_11 : decode cX10_addParting 11 = .ok (.iload_n 1, 1) := by decide +kernel
theorem dX10_addParting_12 : decode cX10_addParting 12 = .ok (.iload_n 2, 1) := by decide +kernel
theorem dX10_addParting_13 : decode cX10_addParting 13 = .ok (.if_icmp .ge 7, 3) := by decide +kernel
theorem dX10_addParting_16 : decode cX10_addParting 16 = .ok (.iload_n 2, 1) := by decide +kernel
theorem dX10_addParting_17 : decode cX10_addParting 17 = .ok (.goto 4, 3) := by decide +kernel
theorem dX10_addParting_20 : decode cX10_addParting 20 = .ok (.iload_n 1, 1) := by decide +kernel
theorem dX10_addParting_21 : decode cX10_addParting 21 = .ok (.istore 4, 2) := by decide +kernel
theorem dX10_addParting_23 : decode cX10_addParting 23 = .ok (.iconst 0, 1) := by decide +kernel
theorem dX10_addParting_24 : decode cX10_addParting 24 = .ok (.istore 5, 2) := by decide +kernel
theorem dX10_addParting_26 : decode cX10_addParting 26 = .ok (.iconst 0, 1) := by decide +kernel
theorem dX10_addParting_27 : decode cX10_addParting 27 = .ok (.istore 6, 2) := by decide +kernel
theorem dX10_addParting_29 : decode cX10_addParting 29 = .ok (.iload 6, 2) := by decide +kernel
theorem dX10_addParting_31 : decode cX10_addParting 31 = .ok (.aload_n 0, 1) := by decide +kernel
theorem dX10_addParting_32 : decode cX10_addParting 32 = .ok (.getfield 133, 3) := by decide +kernel
theorem dX10_addParting_35 : decode cX10_addParting 35 = .ok (.if_icmp .ge 33, 3) := by decide +kernel
theorem dX10_addParting_38 : decode cX10_addParting 38 = .ok (.iload_n 3, 1) := by decide +kernel
theorem dX10_addParting_39 : decode cX10_addParting 39 = .ok (.iload 4, 2) := by decide +kernel
theorem dX10_addParting_41 : decode cX10_addParting 41 = .ok (.aload_n 0, 1) := by decide +kernel
theorem dX10_addParting_42 : decode cX10_addParting 42 = .ok (.getfield 26, 3) := by decide +kernel
theorem dX10_addParting_45 : decode cX10_addParting 45 = .ok (.iload 6, 2) := by decide +kernel
theorem dX10_addParting_47 : decode cX10_addParting 47 = .ok (.iaload, 1) := by decide +kernel
theorem dX10_addParting_48 : decode cX10_addParting 48 = .ok (.aload_n 0, 1) := by decide +kernel
theorem dX10_addParting_49 : decode cX10_addParting 49 = .ok (.getfield 29, 3) := by decide +kernel
theorem dX10_addParting_52 : decode cX10_addParting 52 = .ok (.iload 6, 2) := by decide +kernel
theorem dX10_addParting_54 : decode cX10_addParting 54 = .ok (.iaload, 1) := by decide +kernel
theorem dX10_addParting_55 : decode cX10_addParting 55 = .ok (.invokestatic 140, 3) := by decide +kernel
theorem dX10_addParting_58 : decode cX10_addParting 58 = .ok (.ifCond .eq 4, 3) := by decide +kernel
theorem dX10_addParting_61 : decode cX10_addParting 61 = .ok (.return_, 1) := by decide +kernel
theorem dX10_addParting_62 : decode cX10_addParting 62 = .ok (.iinc 6 1, 3) := by decide +kernel
theorem dX10_addParting_65 : decode cX10_addParting 65 = .ok (.goto (-36), 3) := by decide +kernel
theorem dX10_addParting_68 : decode cX10_addParting 68 = .ok (.iconst 0, 1) := by decide +kernel
theorem dX10_addParting_69 : decode cX10_addParting 69 = .ok (.istore 6, 2) := by decide +kernel
theorem dX10_addParting_71 : decode cX10_addParting 71 = .ok (.iload 6, 2) := by decide +kernel
theorem dX10_addParting_73 : decode cX10_addParting 73 = .ok (.aload_n 0, 1) := by decide +kernel
theorem dX10_addParting_74 : decode cX10_addParting 74 = .ok (.getfield 133, 3) := by decide +kernel
theorem dX10_addParting_77 : decode cX10_addParting 77 = .ok (.if_icmp .ge 63, 3) := by decide +kernel
theorem dX10_addParting_80 : decode cX10_addParting 80 = .ok (.aload_n 0, 1) := by decide +kernel
theorem dX10_addParting_81 : decode cX10_addParting 81 = .ok (.getfield 26, 3) := by decide +kernel
theorem dX10_addParting_84 : decode cX10_addParting 84 = .ok (.iload 6, 2) := by decide +kernel
theorem dX10_addParting_86 : decode cX10_addParting 86 = .ok (.iaload, 1) := by decide +kernel
theorem dX10_addParting_87 : decode cX10_addParting 87 = .ok (.aload_n 0, 1) := by decide +kernel
theorem dX10_addParting_88 : decode cX10_addParting 88 = .ok (.getfield 29, 3) := by decide +kernel
theorem dX10_addParting_91 : decode cX10_addParting 91 = .ok (.iload 6, 2) := by decide +kernel
theorem dX10_addParting_93 : decode cX10_addParting 93 = .ok (.iaload, 1) := by decide +kernel
theorem dX10_addParting_94 : decode cX10_addParting 94 = .ok (.iload_n 3, 1) := by decide +kernel
theorem dX10_addParting_95 : decode cX10_addParting 95 = .ok (.iload 4, 2) := by decide +kernel
theorem dX10_addParting_97 : decode cX10_addParting 97 = .ok (.invokestatic 140, 3) := by decide +kernel
theorem dX10_addParting_100 : decode cX10_addParting 100 = .ok (.ifCond .ne 34, 3) := by decide +kernel
theorem dX10_addParting_103 : decode cX10_addParting 103 = .ok (.aload_n 0, 1) := by decide +kernel
theorem dX10_addParting_104 : decode cX10_addParting 104 = .ok (.getfield 26, 3) := by decide +kernel
theorem dX10_addParting_107 : decode cX10_addParting 107 = .ok (.iload 5, 2) := by decide +kernel
theorem dX10_addParting_109 : decode cX10_addParting 109 = .ok (.aload_n 0, 1) := by decide +kernel
theorem dX10_addParting_110 : decode cX10_addParting 110 = .ok (.getfield 26, 3) := by decide +kernel
theorem dX10_addParting_113 : decode cX10_addParting 113 = .ok (.iload 6, 2) := by decide +kernel
theorem dX10_addParting_115 : decode cX10_addParting 115 = .ok (.iaload, 1) := by decide +kernel
theorem dX10_addParting_116 : decode cX10_addParting 116 = .ok (.iastore, 1) := by decide +kernel
theorem dX10_addParting_117 : decode cX10_addParting 117 = .ok (.aload_n 0, 1) := by decide +kernel
theorem dX10_addParting_118 : decode cX10_addParting 118 = .ok (.getfield 29, 3) := by decide +kernel
theorem dX10_addParting_121 : decode cX10_addParting 121 = .ok (.iload 5, 2) := by decide +kernel
theorem dX10_addParting_123 : decode cX10_addParting 123 = .ok (.aload_n 0, 1) := by decide +kernel
theorem dX10_addParting_124 : decode cX10_addParting 124 = .ok (.getfield 29, 3) := by decide +kernel
theorem dX10_addParting_127 : decode cX10_addParting 127 = .ok (.iload 6, 2) := by decide +kernel
theorem dX10_addParting_129 : decode cX10_addParting 129 = .ok (.iaload, 1) := by decide +kernel
theorem dX10_addParting_130 : decode cX10_addParting 130 = .ok (.iastore, 1) := by decide +kernel
theorem dX10_addParting_131 : decode cX10_addParting 131 = .ok (.iinc 5 1, 3) := by decide +kernel
theorem dX10_addParting_134 : decode cX10_addParting 134 = .ok (.iinc 6 1, 3) := by decide +kernel
theorem dX10_addParting_137 : decode cX10_addParting 137 = .ok (.goto (-66), 3) := by decide +kernel
theorem dX10_addParting_140 : decode cX10_addParting 140 = .ok (.iload 5, 2) := by decide +kernel
theorem dX10_addParting_142 : decode cX10_addParting 142 = .ok (.istore 6, 2) := by decide +kernel
theorem dX10_addParting_144 : decode cX10_addParting 144 = .ok (.iload 6, 2) := by decide +kernel
theorem dX10_addParting_146 : decode cX10_addParting 146 = .ok (.ifCond .le 81, 3) := by decide +kernel
theorem dX10_addParting_149 : decode cX10_addParting 149 = .ok (.aload_n 0, 1) := by decide +kernel
theorem dX10_addParting_150 : decode cX10_addParting 150 = .ok (.getfield 26, 3) := by decide +kernel
theorem dX10_addParting_153 : decode cX10_addParting 153 = .ok (.iload 6, 2) := by decide +kernel
theorem dX10_addParting_155 : decode cX10_addParting 155 = .ok (.iconst 1, 1) := by decide +kernel
theorem dX10_addParting_156 : decode cX10_addParting 156 = .ok (.isub, 1) := by decide +kernel
theorem dX10_addParting_157 : decode cX10_addParting 157 = .ok (.iaload, 1) := by decide +kernel
theorem dX10_addParting_158 : decode cX10_addParting 158 = .ok (.iload_n 3, 1) := by decide +kernel
theorem dX10_addParting_159 : decode cX10_addParting 159 = .ok (.if_icmp .gt 30, 3) := by decide +kernel
theorem dX10_addParting_162 : decode cX10_addParting 162 = .ok (.aload_n 0, 1) := by decide +kernel
theorem dX10_addParting_163 : decode cX10_addParting 163 = .ok (.getfield 26, 3) := by decide +kernel
theorem dX10_addParting_166 : decode cX10_addParting 166 = .ok (.iload 6, 2) := by decide +kernel
theorem dX10_addParting_168 : decode cX10_addParting 168 = .ok (.iconst 1, 1) := by decide +kernel
theorem dX10_addParting_169 : decode cX10_addParting 169 = .ok (.isub, 1) := by decide +kernel
theorem dX10_addParting_170 : decode cX10_addParting 170 = .ok (.iaload, 1) := by decide +kernel
theorem dX10_addParting_171 : decode cX10_addParting 171 = .ok (.iload_n 3, 1) := by decide +kernel
theorem dX10_addParting_172 : decode cX10_addParting 172 = .ok (.if_icmp .ne 55, 3) := by decide +kernel
theorem dX10_addParting_175 : decode cX10_addParting 175 = .ok (.aload_n 0, 1) := by decide +kernel
theorem dX10_addParting_176 : decode cX10_addParting 176 = .ok (.getfield 29, 3) := by decide +kernel
theorem dX10_addParting_179 : decode cX10_addParting 179 = .ok (.iload 6, 2) := by decide +kernel
theorem dX10_addParting_181 : decode cX10_addParting 181 = .ok (.iconst 1, 1) := by decide +kernel
theorem dX10_addParting_182 : decode cX10_addParting 182 = .ok (.isub, 1) := by decide +kernel
theorem dX10_addParting_183 : decode cX10_addParting 183 = .ok (.iaload, 1) := by decide +kernel
theorem dX10_addParting_184 : decode cX10_addParting 184 = .ok (.iload 4, 2) := by decide +kernel
theorem dX10_addParting_186 : decode cX10_addParting 186 = .ok (.if_icmp .le 41, 3) := by decide +kernel
theorem dX10_addParting_189 : decode cX10_addParting 189 = .ok (.aload_n 0, 1) := by decide +kernel
theorem dX10_addParting_190 : decode cX10_addParting 190 = .ok (.getfield 26, 3) := by decide +kernel
theorem dX10_addParting_193 : decode cX10_addParting 193 = .ok (.iload 6, 2) := by decide +kernel
theorem dX10_addParting_195 : decode cX10_addParting 195 = .ok (.aload_n 0, 1) := by decide +kernel
theorem dX10_addParting_196 : decode cX10_addParting 196 = .ok (.getfield 26, 3) := by decide +kernel
theorem dX10_addParting_199 : decode cX10_addParting 199 = .ok (.iload 6, 2) := by decide +kernel
theorem dX10_addParting_201 : decode cX10_addParting 201 = .ok (.iconst 1, 1) := by decide +kernel
theorem dX10_addParting_202 : decode cX10_addParting 202 = .ok (.isub, 1) := by decide +kernel
theorem dX10_addParting_203 : decode cX10_addParting 203 = .ok (.iaload, 1) := by decide +kernel
theorem dX10_addParting_204 : decode cX10_addParting 204 = .ok (.iastore, 1) := by decide +kernel
theorem dX10_addParting_205 : decode cX10_addParting 205 = .ok (.aload_n 0, 1) := by decide +kernel
theorem dX10_addParting_206 : decode cX10_addParting 206 = .ok (.getfield 29, 3) := by decide +kernel
theorem dX10_addParting_209 : decode cX10_addParting 209 = .ok (.iload 6, 2) := by decide +kernel
theorem dX10_addParting_211 : decode cX10_addParting 211 = .ok (.aload_n 0, 1) := by decide +kernel
theorem dX10_addParting_212 : decode cX10_addParting 212 = .ok (.getfield 29, 3) := by decide +kernel
theorem dX10_addParting_215 : decode cX10_addParting 215 = .ok (.iload 6, 2) := by decide +kernel
theorem dX10_addParting_217 : decode cX10_addParting 217 = .ok (.iconst 1, 1) := by decide +kernel
theorem dX10_addParting_218 : decode cX10_addParting 218 = .ok (.isub, 1) := by decide +kernel
theorem dX10_addParting_219 : decode cX10_addParting 219 = .ok (.iaload, 1) := by decide +kernel
theorem dX10_addParting_220 : decode cX10_addParting 220 = .ok (.iastore, 1) := by decide +kernel
theorem dX10_addParting_221 : decode cX10_addParting 221 = .ok (.iinc 6 (-1), 3) := by decide +kernel
theorem dX10_addParting_224 : decode cX10_addParting 224 = .ok (.goto (-80), 3) := by decide +kernel
theorem dX10_addParting_227 : decode cX10_addParting 227 = .ok (.aload_n 0, 1) := by decide +kernel
theorem dX10_addParting_228 : decode cX10_addParting 228 = .ok (.getfield 26, 3) := by decide +kernel
theorem dX10_addParting_231 : decode cX10_addParting 231 = .ok (.iload 6, 2) := by decide +kernel
theorem dX10_addParting_233 : decode cX10_addParting 233 = .ok (.iload_n 3, 1) := by decide +kernel
theorem dX10_addParting_234 : decode cX10_addParting 234 = .ok (.iastore, 1) := by decide +kernel
theorem dX10_addParting_235 : decode cX10_addParting 235 = .ok (.aload_n 0, 1) := by decide +kernel
theorem dX10_addParting_236 : decode cX10_addParting 236 = .ok (.getfield 29, 3) := by decide +kernel
theorem dX10_addParting_239 : decode cX10_addParting 239 = .ok (.iload 6, 2) := by decide +kernel
theorem dX10_addParting_241 : decode cX10_addParting 241 = .ok (.iload 4, 2) := by decide +kernel
theorem dX10_addParting_243 : decode cX10_addParting 243 = .ok (.iastore, 1) := by decide +kernel
theorem dX10_addParting_244 : decode cX10_addParting 244 = .ok (.aload_n 0, 1) := by decide +kernel
theorem dX10_addParting_245 : decode cX10_addParting 245 = .ok (.iload 5, 2) := by decide +kernel
theorem dX10_addParting_247 : decode cX10_addParting 247 = .ok (.iconst 1, 1) := by decide +kernel
theorem dX10_addParting_248 : decode cX10_addParting 248 = .ok (.iadd, 1) := by decide +kernel
theorem dX10_addParting_249 : decode cX10_addParting 249 = .ok (.putfield 133, 3) := by decide +kernel
theorem dX10_addParting_252 : decode cX10_addParting 252 = .ok (.return_, 1) := by decide +kernel
theorem dX10_addOfColumn_0 : decode cX10_addOfColumn 0 = .ok (.aload_n 0, 1) := by decide +kernel
theorem dX10_addOfColumn_1 : decode cX10_addOfColumn 1 = .ok (.iload_n 2, 1) := by decide +kernel
theorem dX10_addOfColumn_2 : decode cX10_addOfColumn 2 = .ok (.iload_n 1, 1) := by decide +kernel
theorem dX10_addOfColumn_3 : decode cX10_addOfColumn 3 = .ok (.invokevirtual 118, 3) := by decide +kernel
theorem dX10_addOfColumn_6 : decode cX10_addOfColumn 6 = .ok (.istore 4, 2) := by decide +kernel
theorem dX10_addOfColumn_8 : decode cX10_addOfColumn 8 = .ok (.aload_n 0, 1) := by decide +kernel
theorem dX10_addOfColumn_9 : decode cX10_addOfColumn 9 = .ok (.iload_n 3, 1) := by decide +kernel
theorem dX10_addOfColumn_10 : decode cX10_addOfColumn 10 = .ok (.iload_n 1, 1) := by decide +kernel
theorem dX10_addOfColumn_11 : decode cX10_addOfColumn 11 = .ok (.invokevirtual 118, 3) := by decide +kernel
theorem dX10_addOfColumn_14 : decode cX10_addOfColumn 14 = .ok (.istore 5, 2) := by decide +kernel
theorem dX10_addOfColumn_16 : decode cX10_addOfColumn 16 = .ok (.iload 4, 2) := by decide +kernel
theorem dX10_addOfColumn_18 : decode cX10_addOfColumn 18 = .ok (.iconst (-1), 1) := by decide +kernel
theorem dX10_addOfColumn_19 : decode cX10_addOfColumn 19 = .ok (.if_icmp .eq 36, 3) := by decide +kernel
theorem dX10_addOfColumn_22 : decode cX10_addOfColumn 22 = .ok (.iload 5, 2) := by decide +kernel
theorem dX10_addOfColumn_24 : decode cX10_addOfColumn 24 = .ok (.iconst (-1), 1) := by decide +kernel
theorem dX10_addOfColumn_25 : decode cX10_addOfColumn 25 = .ok (.if_icmp .eq 30, 3) := by decide +kernel
theorem dX10_addOfColumn_28 : decode cX10_addOfColumn 28 = .ok (.iload 4, 2) := by decide +kernel
theorem dX10_addOfColumn_30 : decode cX10_addOfColumn 30 = .ok (.iload 5, 2) := by decide +kernel
theorem dX10_addOfColumn_32 : decode cX10_addOfColumn 32 = .ok (.if_icmp .eq 23, 3) := by decide +kernel
theorem dX10_addOfColumn_35 : decode cX10_addOfColumn 35 = .ok (.aload_n 0, 1) := by decide +kernel
theorem dX10_addOfColumn_36 : decode cX10_addOfColumn 36 = .ok (.iconst 1, 1) := by decide +kernel
theorem dX10_addOfColumn_37 : decode cX10_addOfColumn 37 = .ok (.iload_n 2, 1) := by decide +kernel
theorem dX10_addOfColumn_38 : decode cX10_addOfColumn 38 = .ok (.ishl, 1) := by decide +kernel
theorem dX10_addOfColumn_39 : decode cX10_addOfColumn 39 = .ok (.iconst 1, 1) := by decide +kernel
theorem dX10_addOfColumn_40 : decode cX10_addOfColumn 40 = .ok (.iload 4, 2) := by decide +kernel
theorem dX10_addOfColumn_42 : decode cX10_addOfColumn 42 = .ok (.ishl, 1) := by decide +kernel
theorem dX10_addOfColumn_43 : decode cX10_addOfColumn 43 = .ok (.ior, 1) := by decide +kernel
theorem dX10_addOfColumn_44 : decode cX10_addOfColumn 44 = .ok (.iconst 1, 1) := by decide +kernel
theorem dX10_addOfColumn_45 : decode cX10_addOfColumn 45 = .ok (.iload_n 3, 1) := by decide +kernel
theorem dX10_addOfColumn_46 : decode cX10_addOfColumn 46 = .ok (.ishl, 1) := by decide +kernel
theorem dX10_addOfColumn_47 : decode cX10_addOfColumn 47 = .ok (.iconst 1, 1) := by decide +kernel
theorem dX10_addOfColumn_48 : decode cX10_addOfColumn 48 = .ok (.iload 5, 2) := by decide +kernel
theorem dX10_addOfColumn_50 : decode cX10_addOfColumn 50 = .ok (.ishl, 1) := by decide +kernel
theorem dX10_addOfColumn_51 : decode cX10_addOfColumn 51 = .ok (.ior, 1) := by decide +kernel
theorem dX10_addOfColumn_52 : decode cX10_addOfColumn 52 = .ok (.invokevirtual 144, 3) := by decide +kernel
theorem dX10_addOfColumn_55 : decode cX10_addOfColumn 55 = .ok (.return_, 1) := by decide +kernel
theorem dX10_layPartings_0 : decode cX10_layPartings 0 = .ok (.aload_n 0, 1) := by decide +kernel
theorem dX10_layPartings_1 : decode cX10_layPartings 1 = .ok (.iconst 0, 1) := by decide +kernel
theorem dX10_layPartings_2 : decode cX10_layPartings 2 = .ok (.putfield 133, 3) := by decide +kernel
theorem dX10_layPartings_5 : decode cX10_layPartings 5 = .ok (.aload_n 0, 1) := by decide +kernel
theorem dX10_layPartings_6 : decode cX10_layPartings 6 = .ok (.invokevirtual 125, 3) := by decide +kernel
theorem dX10_layPartings_9 : decode cX10_layPartings 9 = .ok (.ifCond .ne 4, 3) := by decide +kernel
theorem dX10_layPartings_12 : decode cX10_layPartings 12 = .ok (.return_, 1) := by decide +kernel
theorem dX10_layPartings_13 : decode cX10_layPartings 13 = .ok (.iconst 0, 1) := by decide +kernel
theorem dX10_layPartings_14 : decode cX10_layPartings 14 = .ok (.istore_n 1, 1) := by decide +kernel
theorem dX10_layPartings_15 : decode cX10_layPartings 15 = .ok (.iload_n 1, 1) := by decide +kernel
theorem dX10_layPartings_16 : decode cX10_layPartings 16 = .ok (.aload_n 0, 1) := by decide +kernel
theorem dX10_layPartings_17 : decode cX10_layPartings 17 = .ok (.getfield 87, 3) := by decide +kernel
theorem dX10_layPartings_20 : decode cX10_layPartings 20 = .ok (.if_icmp .ge 60, 3) := by decide +kernel
theorem dX10_layPartings_23 : decode cX10_layPartings 23 = .ok (.iload_n 1, 1) := by decide +kernel
theorem dX10_layPartings_24 : decode cX10_layPartings 24 = .ok (.iconst 1, 1) := by decide +kernel
theorem dX10_layPartings_25 : decode cX10_layPartings 25 = .ok (.iadd, 1) := by decide +kernel
theorem dX10_layPartings_26 : decode cX10_layPartings 26 = .ok (.istore_n 2, 1) := by decide +kernel
theorem dX10_layPartings_27 : decode cX10_layPartings 27 = .ok (.iload_n 2, 1) := by decide +kernel
theorem dX10_layPartings_28 : decode cX10_layPartings 28 = .ok (.aload_n 0, 1) := by decide +kernel
theorem dX10_layPartings_29 : decode cX10_layPartings 29 = .ok (.getfield 87, 3) := by decide +kernel
theorem dX10_layPartings_32 : decode cX10_layPartings 32 = .ok (.if_icmp .ge 42, 3) := by decide +kernel
theorem dX10_layPartings_35 : decode cX10_layPartings 35 = .ok (.aload_n 0, 1) := by decide +kernel
theorem dX10_layPartings_36 : decode cX10_layPartings 36 = .ok (.iconst 1, 1) := by decide +kernel
theorem dX10_layPartings_37 : decode cX10_layPartings 37 = .ok (.iload_n 1, 1) := by decide +kernel
theorem dX10_layPartings_38 : decode cX10_layPartings 38 = .ok (.ishl, 1) := by decide +kernel
theorem dX10_layPartings_39 : decode cX10_layPartings 39 = .ok (.iconst 1, 1) := by decide +kernel
theorem dX10_layPartings_40 : decode cX10_layPartings 40 = .ok (.iload_n 2, 1) := by decide +kernel
theorem dX10_layPartings_41 : decode cX10_layPartings 41 = .ok (.ishl, 1) := by decide +kernel
theorem dX10_layPartings_42 : decode cX10_layPartings 42 = .ok (.invokevirtual 144, 3) := by decide +kernel
theorem dX10_layPartings_45 : decode cX10_layPartings 45 = .ok (.iconst 0, 1) := by decide +kernel
theorem dX10_layPartings_46 : decode cX10_layPartings 46 = .ok (.istore_n 3, 1) := by decide +kernel
theorem dX10_layPartings_47 : decode cX10_layPartings 47 = .ok (.iload_n 3, 1) := by decide +kernel
theorem dX10_layPartings_48 : decode cX10_layPartings 48 = .ok (.aload_n 0, 1) := by decide +kernel
theorem dX10_layPartings_49 : decode cX10_layPartings 49 = .ok (.getfield 90, 3) := by decide +kernel
theorem dX10_layPartings_52 : decode cX10_layPartings 52 = .ok (.if_icmp .ge 16, 3) := by decide +kernel
theorem dX10_layPartings_55 : decode cX10_layPartings 55 = .ok (.aload_n 0, 1) := by decide +kernel
theorem dX10_layPartings_56 : decode cX10_layPartings 56 = .ok (.iload_n 3, 1) := by decide +kernel
theorem dX10_layPartings_57 : decode cX10_layPartings 57 = .ok (.iload_n 1, 1) := by decide +kernel
theorem dX10_layPartings_58 : decode cX10_layPartings 58 = .ok (.iload_n 2, 1) := by decide +kernel
theorem dX10_layPartings_59 : decode cX10_layPartings 59 = .ok (.invokevirtual 148, 3) := by decide +kernel
theorem dX10_layPartings_62 : decode cX10_layPartings 62 = .ok (.iinc 3 1, 3) := by decide +kernel
theorem dX10_layPartings_65 : decode cX10_layPartings 65 = .ok (.goto (-18), 3) := by decide +kernel
theorem dX10_layPartings_68 : decode cX10_layPartings 68 = .ok (.iinc 2 1, 3) := by decide +kernel
theorem dX10_layPartings_71 : decode cX10_layPartings 71 = .ok (.goto (-44), 3) := by decide +kernel
theorem dX10_layPartings_74 : decode cX10_layPartings 74 = .ok (.iinc 1 1, 3) := by decide +kernel
theorem dX10_layPartings_77 : decode cX10_layPartings 77 = .ok (.goto (-62), 3) := by decide +kernel
theorem dX10_layPartings_80 : decode cX10_layPartings 80 = .ok (.return_, 1) := by decide +kernel
theorem dX10_keeps_0 : decode cX10_keeps 0 = .ok (.iload_n 0, 1) := by decide +kernel
theorem dX10_keeps_1 : decode cX10_keeps 1 = .ok (.iload_n 1, 1) := by decide +kernel
theorem dX10_keeps_2 : decode cX10_keeps 2 = .ok (.iand, 1) := by decide +kernel
theorem dX10_keeps_3 : decode cX10_keeps 3 = .ok (.ifCond .ne 10, 3) := by decide +kernel
theorem dX10_keeps_6 : decode cX10_keeps 6 = .ok (.iload_n 0, 1) := by decide +kernel
theorem dX10_keeps_7 : decode cX10_keeps 7 = .ok (.iload_n 2, 1) := by decide +kernel
theorem dX10_keeps_8 : decode cX10_keeps 8 = .ok (.iand, 1) := by decide +kernel
theorem dX10_keeps_9 : decode cX10_keeps 9 = .ok (.iload_n 2, 1) := by decide +kernel
theorem dX10_keeps_10 : decode cX10_keeps 10 = .ok (.if_icmp .eq 16, 3) := by decide +kernel
theorem dX10_keeps_13 : decode cX10_keeps 13 = .ok (.iload_n 0, 1) := by decide +kernel
theorem dX10_keeps_14 : decode cX10_keeps 14 = .ok (.iload_n 2, 1) := by decide +kernel
theorem dX10_keeps_15 : decode cX10_keeps 15 = .ok (.iand, 1) := by decide +kernel
theorem dX10_keeps_16 : decode cX10_keeps 16 = .ok (.ifCond .ne 14, 3) := by decide +kernel
theorem dX10_keeps_19 : decode cX10_keeps 19 = .ok (.iload_n 0, 1) := by decide +kernel
theorem dX10_keeps_20 : decode cX10_keeps 20 = .ok (.iload_n 1, 1) := by decide +kernel
theorem dX10_keeps_21 : decode cX10_keeps 21 = .ok (.iand, 1) := by decide +kernel
theorem dX10_keeps_22 : decode cX10_keeps 22 = .ok (.iload_n 1, 1) := by decide +kernel
theorem dX10_keeps_23 : decode cX10_keeps 23 = .ok (.if_icmp .ne 7, 3) := by decide +kernel
theorem dX10_keeps_26 : decode cX10_keeps 26 = .ok (.iconst 1, 1) := by decide +kernel
theorem dX10_keeps_27 : decode cX10_keeps 27 = .ok (.goto 4, 3) := by decide +kernel
theorem dX10_keeps_30 : decode cX10_keeps 30 = .ok (.iconst 0, 1) := by decide +kernel
theorem dX10_keeps_31 : decode cX10_keeps 31 = .ok (.ireturn, 1) := by decide +kernel
theorem dX10_keptBy_0 : decode cX10_keptBy 0 = .ok (.iconst 0, 1) := by decide +kernel
theorem dX10_keptBy_1 : decode cX10_keptBy 1 = .ok (.istore_n 2, 1) := by decide +kernel
theorem dX10_keptBy_2 : decode cX10_keptBy 2 = .ok (.iconst 0, 1) := by decide +kernel
theorem dX10_keptBy_3 : decode cX10_keptBy 3 = .ok (.istore_n 3, 1) := by decide +kernel
theorem dX10_keptBy_4 : decode cX10_keptBy 4 = .ok (.iload_n 3, 1) := by decide +kernel
theorem dX10_keptBy_5 : decode cX10_keptBy 5 = .ok (.aload_n 0, 1) := by decide +kernel
theorem dX10_keptBy_6 : decode cX10_keptBy 6 = .ok (.getfield 99, 3) := by decide +kernel
theorem dX10_keptBy_9 : decode cX10_keptBy 9 = .ok (.if_icmp .ge 41, 3) := by decide +kernel
theorem dX10_keptBy_12 : decode cX10_keptBy 12 = .ok (.iload_n 2, 1) := by decide +kernel
theorem dX10_keptBy_13 : decode cX10_keptBy 13 = .ok (.aload_n 0, 1) := by decide +kernel
theorem dX10_keptBy_14 : decode cX10_keptBy 14 = .ok (.getfield 16, 3) := by decide +kernel
theorem dX10_keptBy_17 : decode cX10_keptBy 17 = .ok (.iload_n 3, 1) := by decide +kernel
theorem dX10_keptBy_18 : decode cX10_keptBy 18 = .ok (.iaload, 1) := by decide +kernel
theorem dX10_keptBy_19 : decode cX10_keptBy 19 = .ok (.aload_n 0, 1) := by decide +kernel
theorem dX10_keptBy_20 : decode cX10_keptBy 20 = .ok (.getfield 26, 3) := by decide +kernel
theorem dX10_keptBy_23 : decode cX10_keptBy 23 = .ok (.iload_n 1, 1) := by decide +kernel
theorem dX10_keptBy_24 : decode cX10_keptBy 24 = .ok (.iaload, 1) := by decide +kernel
theorem dX10_keptBy_25 : decode cX10_keptBy 25 = .ok (.aload_n 0, 1) := by decide +kernel
theorem dX10_keptBy_26 : decode cX10_keptBy 26 = .ok (.getfield 29, 3) := by decide +kernel
theorem dX10_keptBy_29 : decode cX10_keptBy 29 = .ok (.iload_n 1, 1) := by decide +kernel
theorem dX10_keptBy_30 : decode cX10_keptBy 30 = .ok (.iaload, 1) := by decide +kernel
theorem dX10_keptBy_31 : decode cX10_keptBy 31 = .ok (.invokestatic 152, 3) := by decide +kernel
theorem dX10_keptBy_34 : decode cX10_keptBy 34 = .ok (.ifCond .eq 7, 3) := by decide +kernel
theorem dX10_keptBy_37 : decode cX10_keptBy 37 = .ok (.iconst 1, 1) := by decide +kernel
theorem dX10_keptBy_38 : decode cX10_keptBy 38 = .ok (.goto 4, 3) := by decide +kernel
theorem dX10_keptBy_41 : decode cX10_keptBy 41 = .ok (.iconst 0, 1) := by decide +kernel
theorem dX10_keptBy_42 : decode cX10_keptBy 42 = .ok (.iadd, 1) := by decide +kernel
theorem dX10_keptBy_43 : decode cX10_keptBy 43 = .ok (.istore_n 2, 1) := by decide +kernel
theorem dX10_keptBy_44 : decode cX10_keptBy 44 = .ok (.iinc 3 1, 3) := by decide +kernel
theorem dX10_keptBy_47 : decode cX10_keptBy 47 = .ok (.goto (-43), 3) := by decide +kernel
theorem dX10_keptBy_50 : decode cX10_keptBy 50 = .ok (.iload_n 2, 1) := by decide +kernel
theorem dX10_keptBy_51 : decode cX10_keptBy 51 = .ok (.ireturn, 1) := by decide +kernel
theorem dX10_partingNow_0 : decode cX10_partingNow 0 = .ok (.iload_n 2, 1) := by decide +kernel
theorem dX10_partingNow_1 : decode cX10_partingNow 1 = .ok (.ifCond .ne 12, 3) := by decide +kernel
theorem dX10_partingNow_4 : decode cX10_partingNow 4 = .ok (.aload_n 0, 1) := by decide +kernel
theorem dX10_partingNow_5 : decode cX10_partingNow 5 = .ok (.getfield 26, 3) := by decide +kernel
theorem dX10_partingNow_8 : decode cX10_partingNow 8 = .ok (.iload_n 1, 1) := by decide +kernel
theorem dX10_partingNow_9 : decode cX10_partingNow 9 = .ok (.iaload, 1) := by decide +kernel
theorem dX10_partingNow_10 : decode cX10_partingNow 10 = .ok (.goto 22, 3) := by decide +kernel
theorem dX10_partingNow_13 : decode cX10_partingNow 13 = .ok (.iload_n 2, 1) := by decide +kernel
theorem dX10_partingNow_14 : decode cX10_partingNow 14 = .ok (.iconst 1, 1) := by decide +kernel
theorem dX10_partingNow_15 : decode cX10_partingNow 15 = .ok (.if_icmp .ne 12, 3) := by decide +kernel
theorem dX10_partingNow_18 : decode cX10_partingNow 18 = .ok (.aload_n 0, 1) := by decide +kernel
theorem dX10_partingNow_19 : decode cX10_partingNow 19 = .ok (.getfield 29, 3) := by decide +kernel
theorem dX10_partingNow_22 : decode cX10_partingNow 22 = .ok (.iload_n 1, 1) := by decide +kernel
theorem dX10_partingNow_23 : decode cX10_partingNow 23 = .ok (.iaload, 1) := by decide +kernel
theorem dX10_partingNow_24 : decode cX10_partingNow 24 = .ok (.goto 8, 3) := by decide +kernel
theorem dX10_partingNow_27 : decode cX10_partingNow 27 = .ok (.aload_n 0, 1) := by decide +kernel
theorem dX10_partingNow_28 : decode cX10_partingNow 28 = .ok (.iload_n 1, 1) := by decide +kernel
theorem dX10_partingNow_29 : decode cX10_partingNow 29 = .ok (.invokevirtual 155, 3) := by decide +kernel
theorem dX10_partingNow_32 : decode cX10_partingNow 32 = .ok (.ireturn, 1) := by decide +kernel
theorem dX10_parting_0 : decode cX10_parting 0 = .ok (.iload_n 2, 1) := by decide +kernel
theorem dX10_parting_1 : decode cX10_parting 1 = .ok (.iconst 0, 1) := by decide +kernel
theorem dX10_parting_2 : decode cX10_parting 2 = .ok (.iconst 2, 1) := by decide +kernel
theorem dX10_parting_3 : decode cX10_parting 3 = .ok (.invokestatic 60, 3) := by decide +kernel
theorem dX10_parting_6 : decode cX10_parting 6 = .ok (.ifCond .ne 7, 3) := by decide +kernel
theorem dX10_parting_9 : decode cX10_parting 9 = .ok (.sipush (-1002), 3) := by decide +kernel
theorem dX10_parting_12 : decode cX10_parting 12 = .ok (.ireturn, 1) := by decide +kernel
theorem dX10_parting_13 : decode cX10_parting 13 = .ok (.aload_n 0, 1) := by decide +kernel
theorem dX10_parting_14 : decode cX10_parting 14 = .ok (.invokevirtual 125, 3) := by decide +kernel
theorem dX10_parting_17 : decode cX10_parting 17 = .ok (.ifCond .ne 7, 3) := by decide +kernel
theorem dX10_parting_20 : decode cX10_parting 20 = .ok (.sipush (-1003), 3) := by decide +kernel
theorem dX10_parting_23 : decode cX10_parting 23 = .ok (.ireturn, 1) := by decide +kernel
theorem dX10_parting_24 : decode cX10_parting 24 = .ok (.iload_n 1, 1) := by decide +kernel
theorem dX10_parting_25 : decode cX10_parting 25 = .ok (.iconst 0, 1) := by decide +kernel
theorem dX10_parting_26 : decode cX10_parting 26 = .ok (.aload_n 0, 1) := by decide +kernel
theorem dX10_parting_27 : decode cX10_parting 27 = .ok (.getfield 133, 3) := by decide +kernel
theorem dX10_parting_30 : decode cX10_parting 30 = .ok (.iconst 1, 1) := by decide +kernel
theorem dX10_parting_31 : decode cX10_parting 31 = .ok (.isub, 1) := by decide +kernel
theorem dX10_parting_32 : decode cX10_parting 32 = .ok (.invokestatic 60, 3) := by decide +kernel
theorem dX10_parting_35 : decode cX10_parting 35 = .ok (.ifCond .eq 12, 3) := by decide +kernel
theorem dX10_parting_38 : decode cX10_parting 38 = .ok (.aload_n 0, 1) := by decide +kernel
theorem dX10_parting_39 : decode cX10_parting 39 = .ok (.iload_n 1, 1) := by decide +kernel
theorem dX10_parting_40 : decode cX10_parting 40 = .ok (.iload_n 2, 1) := by decide +kernel
theorem dX10_parting_41 : decode cX10_parting 41 = .ok (.invokevirtual 158, 3) := by decide +kernel
theorem dX10_parting_44 : decode cX10_parting 44 = .ok (.goto 6, 3) := by decide +kernel
theorem dX10_parting_47 : decode cX10_parting 47 = .ok (.sipush (-1001), 3) := by decide +kernel
theorem dX10_parting_50 : decode cX10_parting 50 = .ok (.ireturn, 1) := by decide +kernel
theorem dX10_layKept_0 : decode cX10_layKept 0 = .ok (.iconst 0, 1) := by decide +kernel
theorem dX10_layKept_1 : decode cX10_layKept 1 = .ok (.istore_n 1, 1) := by decide +kernel
theorem dX10_layKept_2 : decode cX10_layKept 2 = .ok (.iload_n 1, 1) := by decide +kernel
theorem dX10_layKept_3 : decode cX10_layKept 3 = .ok (.iconst 1, 1) := by decide +kernel
theorem dX10_layKept_4 : decode cX10_layKept 4 = .ok (.aload_n 0, 1) := by decide +kernel
theorem dX10_layKept_5 : decode cX10_layKept 5 = .ok (.getfield 87, 3) := by decide +kernel
theorem dX10_layKept_8 : decode cX10_layKept 8 = .ok (.ishl, 1) := by decide +kernel
theorem dX10_layKept_9 : decode cX10_layKept 9 = .ok (.if_icmp .ge 111, 3) := by decide +kernel
theorem dX10_layKept_12 : decode cX10_layKept 12 = .ok (.aload_n 0, 1) := by decide +kernel
theorem dX10_layKept_13 : decode cX10_layKept 13 = .ok (.getfield 41, 3) := by decide +kernel
theorem dX10_layKept_16 : decode cX10_layKept 16 = .ok (.iload_n 1, 1) := by decide +kernel
theorem dX10_layKept_17 : decode cX10_layKept 17 = .ok (.lconst 0, 1) := by decide +kernel
theorem dX10_layKept_18 : decode cX10_layKept 18 = .ok (.lastore, 1) := by decide +kernel
theorem dX10_layKept_19 : decode cX10_layKept 19 = .ok (.aload_n 0, 1) := by decide +kernel
theorem dX10_layKept_20 : decode cX10_layKept 20 = .ok (.getfield 45, 3) := by decide +kernel
theorem dX10_layKept_23 : decode cX10_layKept 23 = .ok (.iload_n 1, 1) := by decide +kernel
theorem dX10_layKept_24 : decode cX10_layKept 24 = .ok (.lconst 0, 1) := by decide +kernel
theorem dX10_layKept_25 : decode cX10_layKept 25 = .ok (.lastore, 1) := by decide +kernel
theorem dX10_layKept_26 : decode cX10_layKept 26 = .ok (.iconst 0, 1) := by decide +kernel
theorem dX10_layKept_27 : decode cX10_layKept 27 = .ok (.istore_n 2, 1) := by decide +kernel
theorem dX10_layKept_28 : decode cX10_layKept 28 = .ok (.iload_n 2, 1) := by decide +kernel
theorem dX10_layKept_29 : decode cX10_layKept 29 = .ok (.aload_n 0, 1) := by decide +kernel
theorem dX10_layKept_30 : decode cX10_layKept 30 = .ok (.getfield 133, 3) := by decide +kernel
theorem dX10_layKept_33 : decode cX10_layKept 33 = .ok (.if_icmp .ge 81, 3) := by decide +kernel
theorem dX10_layKept_36 : decode cX10_layKept 36 = .ok (.iload_n 1, 1) := by decide +kernel
theorem dX10_layKept_37 : decode cX10_layKept 37 = .ok (.aload_n 0, 1) := by decide +kernel
theorem dX10_layKept_38 : decode cX10_layKept 38 = .ok (.getfield 26, 3) := by decide +kernel
theorem dX10_layKept_41 : decode cX10_layKept 41 = .ok (.iload_n 2, 1) := by decide +kernel
theorem dX10_layKept_42 : decode cX10_layKept 42 = .ok (.iaload, 1) := by decide +kernel
theorem dX10_layKept_43 : decode cX10_layKept 43 = .ok (.aload_n 0, 1) := by decide +kernel
theorem dX10_layKept_44 : decode cX10_layKept 44 = .ok (.getfield 29, 3) := by decide +kernel
theorem dX10_layKept_47 : decode cX10_layKept 47 = .ok (.iload_n 2, 1) := by decide +kernel
theorem dX10_layKept_48 : decode cX10_layKept 48 = .ok (.iaload, 1) := by decide +kernel
theorem dX10_layKept_49 : decode cX10_layKept 49 = .ok (.invokestatic 152, 3) := by decide +kernel
theorem dX10_layKept_52 : decode cX10_layKept 52 = .ok (.ifCond .eq 7, 3) := by decide +kernel
theorem dX10_layKept_55 : decode cX10_layKept 55 = .ok (.lconst 1, 1) := by decide +kernel
theorem dX10_layKept_56 : decode cX10_layKept 56 = .ok (.goto 4, 3) := by decide +kernel
theorem dX10_layKept_59 : decode cX10_layKept 59 = .ok (.lconst 0, 1) := by decide +kernel
theorem dX10_layKept_60 : decode cX10_layKept 60 = .ok (.lstore_n 3, 1) := by decide +kernel
theorem dX10_layKept_61 : decode cX10_layKept 61 = .ok (.aload_n 0, 1) := by decide +kernel
theorem dX10_layKept_62 : decode cX10_layKept 62 = .ok (.getfield 41, 3) := by decide +kernel
theorem dX10_layKept_65 : decode cX10_layKept 65 = .ok (.iload_n 1, 1) := by decide +kernel
theorem dX10_layKept_66 : decode cX10_layKept 66 = .ok (.dup2, 1) := by decide +kernel
theorem dX10_layKept_67 : decode cX10_layKept 67 = .ok (.laload, 1) := by decide +kernel
theorem dX10_layKept_68 : decode cX10_layKept 68 = .ok (.iload_n 2, 1) := by decide +kernel
theorem dX10_layKept_69 : decode cX10_layKept 69 = .ok (.bipush 40, 2) := by decide +kernel
theorem dX10_layKept_71 : decode cX10_layKept 71 = .ok (.if_icmp .ge 9, 3) := by decide +kernel
theorem dX10_layKept_74 : decode cX10_layKept 74 = .ok (.lload_n 3, 1) := by decide +kernel
theorem dX10_layKept_75 : decode cX10_layKept 75 = .ok (.iload_n 2, 1) := by decide +kernel
theorem dX10_layKept_76 : decode cX10_layKept 76 = .ok (.lshl, 1) := by decide +kernel
theorem dX10_layKept_77 : decode cX10_layKept 77 = .ok (.goto 4, 3) := by decide +kernel
theorem dX10_layKept_80 : decode cX10_layKept 80 = .ok (.lconst 0, 1) := by decide +kernel
theorem dX10_layKept_81 : decode cX10_layKept 81 = .ok (.lor, 1) := by decide +kernel
theorem dX10_layKept_82 : decode cX10_layKept 82 = .ok (.lastore, 1) := by decide +kernel
theorem dX10_layKept_83 : decode cX10_layKept 83 = .ok (.aload_n 0, 1) := by decide +kernel
theorem dX10_layKept_84 : decode cX10_layKept 84 = .ok (.getfield 45, 3) := by decide +kernel
theorem dX10_layKept_87 : decode cX10_layKept 87 = .ok (.iload_n 1, 1) := by decide +kernel
theorem dX10_layKept_88 : decode cX10_layKept 88 = .ok (.dup2, 1) := by decide +kernel
theorem dX10_layKept_89 : decode cX10_layKept 89 = .ok (.laload, 1) := by decide +kernel
theorem dX10_layKept_90 : decode cX10_layKept 90 = .ok (.iload_n 2, 1) := by decide +kernel
theorem dX10_layKept_91 : decode cX10_layKept 91 = .ok (.bipush 40, 2) := by decide +kernel
theorem dX10_layKept_93 : decode cX10_layKept 93 = .ok (.if_icmp .ge 7, 3) := by decide +kernel
theorem dX10_layKept_96 : decode cX10_layKept 96 = .ok (.lconst 0, 1) := by decide +kernel
theorem dX10_layKept_97 : decode cX10_layKept 97 = .ok (.goto 9, 3) := by decide +kernel
theorem dX10_layKept_100 : decode cX10_layKept 100 = .ok (.lload_n 3, 1) := by decide +kernel
theorem dX10_layKept_101 : decode cX10_layKept 101 = .ok (.iload_n 2, 1) := by decide +kernel
theorem dX10_layKept_102 : decode cX10_layKept 102 = .ok (.bipush 40, 2) := by decide +kernel
theorem dX10_layKept_104 : decode cX10_layKept 104 = .ok (.isub, 1) := by decide +kernel
theorem dX10_layKept_105 : decode cX10_layKept 105 = .ok (.lshl, 1) := by decide +kernel
theorem dX10_layKept_106 : decode cX10_layKept 106 = .ok (.lor, 1) := by decide +kernel
theorem dX10_layKept_107 : decode cX10_layKept 107 = .ok (.lastore, 1) := by decide +kernel
theorem dX10_layKept_108 : decode cX10_layKept 108 = .ok (.iinc 2 1, 3) := by decide +kernel
theorem dX10_layKept_111 : decode cX10_layKept 111 = .ok (.goto (-83), 3) := by decide +kernel
theorem dX10_layKept_114 : decode cX10_layKept 114 = .ok (.iinc 1 1, 3) := by decide +kernel
theorem dX10_layKept_117 : decode cX10_layKept 117 = .ok (.goto (-115), 3) := by decide +kernel
theorem dX10_layKept_120 : decode cX10_layKept 120 = .ok (.return_, 1) := by decide +kernel
theorem dX10_isTriedGood_0 : decode cX10_isTriedGood 0 = .ok (.lconst 0, 1) := by decide +kernel
theorem dX10_isTriedGood_1 : decode cX10_isTriedGood 1 = .ok (.lstore_n 2, 1) := by decide +kernel
theorem dX10_isTriedGood_2 : decode cX10_isTriedGood 2 = .ok (.lconst 0, 1) := by decide +kernel
theorem dX10_isTriedGood_3 : decode cX10_isTriedGood 3 = .ok (.lstore 4, 2) := by decide +kernel
theorem dX10_isTriedGood_5 : decode cX10_isTriedGood 5 = .ok (.iconst 0, 1) := by decide +kernel
theorem dX10_isTriedGood_6 : decode cX10_isTriedGood 6 = .ok (.istore 6, 2) := by decide +kernel
theorem dX10_isTriedGood_8 : decode cX10_isTriedGood 8 = .ok (.iload 6, 2) := by decide +kernel
theorem dX10_isTriedGood_10 : decode cX10_isTriedGood 10 = .ok (.iload_n 1, 1) := by decide +kernel
theorem dX10_isTriedGood_11 : decode cX10_isTriedGood 11 = .ok (.if_icmp .ge 41, 3) := by decide +kernel
theorem dX10_isTriedGood_14 : decode cX10_isTriedGood 14 = .ok (.lload_n 2, 1) := by decide +kernel
theorem dX10_isTriedGood_15 : decode cX10_isTriedGood 15 = .ok (.aload_n 0, 1) := by decide +kernel
theorem dX10_isTriedGood_16 : decode cX10_isTriedGood 16 = .ok (.getfield 41, 3) := by decide +kernel
theorem dX10_isTriedGood_19 : decode cX10_isTriedGood 19 = .ok (.aload_n 0, 1) := by decide +kernel
theorem dX10_isTriedGood_20 : decode cX10_isTriedGood 20 = .ok (.getfield 38, 3) := by decide +kernel
theorem dX10_isTriedGood_23 : decode cX10_isTriedGood 23 = .ok (.iload 6, 2) := by decide +kernel
theorem dX10_isTriedGood_25 : decode cX10_isTriedGood 25 = .ok (.iaload, 1) := by decide +kernel
theorem dX10_isTriedGood_26 : decode cX10_isTriedGood 26 = .ok (.laload, 1) := by decide +kernel
theorem dX10_isTriedGood_27 : decode cX10_isTriedGood 27 = .ok (.lor, 1) := by decide +kernel
theorem dX10_isTriedGood_28 : decode cX10_isTriedGood 28 = .ok (.lstore_n 2, 1) := by decide +kernel
theorem dX10_isTriedGood_29 : decode cX10_isTriedGood 29 = .ok (.lload 4, 2) := by decide +kernel
theorem dX10_isTriedGood_31 : decode cX10_isTriedGood 31 = .ok (.aload_n 0, 1) := by decide +kernel
theorem dX10_isTriedGood_32 : decode cX10_isTriedGood 32 = .ok (.getfield 45, 3) := by decide +kernel
theorem dX10_isTriedGood_35 : decode cX10_isTriedGood 35 = .ok (.aload_n 0, 1) := by decide +kernel
theorem dX10_isTriedGood_36 : decode cX10_isTriedGood 36 = .ok (.getfield 38, 3) := by decide +kernel
theorem dX10_isTriedGood_39 : decode cX10_isTriedGood 39 = .ok (.iload 6, 2) := by decide +kernel
theorem dX10_isTriedGood_41 : decode cX10_isTriedGood 41 = .ok (.iaload, 1) := by decide +kernel
theorem dX10_isTriedGood_42 : decode cX10_isTriedGood 42 = .ok (.laload, 1) := by decide +kernel
theorem dX10_isTriedGood_43 : decode cX10_isTriedGood 43 = .ok (.lor, 1) := by decide +kernel
theorem dX10_isTriedGood_44 : decode cX10_isTriedGood 44 = .ok (.lstore 4, 2) := by decide +kernel
theorem dX10_isTriedGood_46 : decode cX10_isTriedGood 46 = .ok (.iinc 6 1, 3) := by decide +kernel
theorem dX10_isTriedGood_49 : decode cX10_isTriedGood 49 = .ok (.goto (-41), 3) := by decide +kernel
theorem dX10_isTriedGood_52 : decode cX10_isTriedGood 52 = .ok (.aload_n 0, 1) := by decide +kernel
theorem dX10_isTriedGood_53 : decode cX10_isTriedGood 53 = .ok (.getfield 133, 3) := by decide +kernel
theorem dX10_isTriedGood_56 : decode cX10_isTriedGood 56 = .ok (.bipush 40, 2) := by decide +kernel
theorem dX10_isTriedGood_58 : decode cX10_isTriedGood 58 = .ok (.if_icmp .ge 14, 3) := by decide +kernel
theorem dX10_isTriedGood_61 : decode cX10_isTriedGood 61 = .ok (.lconst 1, 1) := by decide +kernel
theorem dX10_isTriedGood_62 : decode cX10_isTriedGood 62 = .ok (.aload_n 0, 1) := by decide +kernel
theorem dX10_isTriedGood_63 : decode cX10_isTriedGood 63 = .ok (.getfield 133, 3) := by decide +kernel
theorem dX10_isTriedGood_66 : decode cX10_isTriedGood 66 = .ok (.lshl, 1) := by decide +kernel
theorem dX10_isTriedGood_67 : decode cX10_isTriedGood 67 = .ok (.lconst 1, 1) := by decide +kernel
theorem dX10_isTriedGood_68 : decode cX10_isTriedGood 68 = .ok (.lsub, 1) := by decide +kernel
theorem dX10_isTriedGood_69 : decode cX10_isTriedGood 69 = .ok (.goto 6, 3) := by decide +kernel
theorem dX10_isTriedGood_72 : decode cX10_isTriedGood 72 = .ok (.ldc2_w 161, 3) := by decide +kernel
theorem dX10_isTriedGood_75 : decode cX10_isTriedGood 75 = .ok (.lstore 6, 2) := by decide +kernel
theorem dX10_isTriedGood_77 : decode cX10_isTriedGood 77 = .ok (.aload_n 0, 1) := by decide +kernel
theorem dX10_isTriedGood_78 : decode cX10_isTriedGood 78 = .ok (.getfield 133, 3) := by decide +kernel
theorem dX10_isTriedGood_81 : decode cX10_isTriedGood 81 = .ok (.bipush 40, 2) := by decide +kernel
theorem dX10_isTriedGood_83 : decode cX10_isTriedGood 83 = .ok (.if_icmp .ge 7, 3) := by decide +kernel
theorem dX10_isTriedGood_86 : decode cX10_isTriedGood 86 = .ok (.lconst 0, 1) := by decide +kernel
theorem dX10_isTriedGood_87 : decode cX10_isTriedGood 87 = .ok (.goto 14, 3) := by decide +kernel
theorem dX10_isTriedGood_90 : decode cX10_isTriedGood 90 = .ok (.lconst 1, 1) := by decide +kernel
theorem dX10_isTriedGood_91 : decode cX10_isTriedGood 91 = .ok (.aload_n 0, 1) := by decide +kernel
theorem dX10_isTriedGood_92 : decode cX10_isTriedGood 92 = .ok (.getfield 133, 3) := by decide +kernel
theorem dX10_isTriedGood_95 : decode cX10_isTriedGood 95 = .ok (.bipush 40, 2) := by decide +kernel
theorem dX10_isTriedGood_97 : decode cX10_isTriedGood 97 = .ok (.isub, 1) := by decide +kernel
theorem dX10_isTriedGood_98 : decode cX10_isTriedGood 98 = .ok (.lshl, 1) := by decide +kernel
theorem dX10_isTriedGood_99 : decode cX10_isTriedGood 99 = .ok (.lconst 1, 1) := by decide +kernel
theorem dX10_isTriedGood_100 : decode cX10_isTriedGood 100 = .ok (.lsub, 1) := by decide +kernel
theorem dX10_isTriedGood_101 : decode cX10_isTriedGood 101 = .ok (.lstore 8, 2) := by decide +kernel
theorem dX10_isTriedGood_103 : decode cX10_isTriedGood 103 = .ok (.lload_n 2, 1) := by decide +kernel
theorem dX10_isTriedGood_104 : decode cX10_isTriedGood 104 = .ok (.lload 6, 2) := by decide +kernel
theorem dX10_isTriedGood_106 : decode cX10_isTriedGood 106 = .ok (.lcmp, 1) := by decide +kernel
theorem dX10_isTriedGood_107 : decode cX10_isTriedGood 107 = .ok (.ifCond .ne 15, 3) := by decide +kernel
theorem dX10_isTriedGood_110 : decode cX10_isTriedGood 110 = .ok (.lload 4, 2) := by decide +kernel
theorem dX10_isTriedGood_112 : decode cX10_isTriedGood 112 = .ok (.lload 8, 2) := by decide +kernel
theorem dX10_isTriedGood_114 : decode cX10_isTriedGood 114 = .ok (.lcmp, 1) := by decide +kernel
theorem dX10_isTriedGood_115 : decode cX10_isTriedGood 115 = .ok (.ifCond .ne 7, 3) := by decide +kernel
theorem dX10_isTriedGood_118 : decode cX10_isTriedGood 118 = .ok (.iconst 1, 1) := by decide +kernel
theorem dX10_isTriedGood_119 : decode cX10_isTriedGood 119 = .ok (.goto 4, 3) := by decide +kernel
theorem dX10_isTriedGood_122 : decode cX10_isTriedGood 122 = .ok (.iconst 0, 1) := by decide +kernel
theorem dX10_isTriedGood_123 : decode cX10_isTriedGood 123 = .ok (.ireturn, 1) := by decide +kernel
theorem dX10_goesOn_0 : decode cX10_goesOn 0 = .ok (.iload_n 1, 1) := by decide +kernel
theorem dX10_goesOn_1 : decode cX10_goesOn 1 = .ok (.iconst 1, 1) := by decide +kernel
theorem dX10_goesOn_2 : decode cX10_goesOn 2 = .ok (.isub, 1) := by decide +kernel
theorem dX10_goesOn_3 : decode cX10_goesOn 3 = .ok (.istore_n 2, 1) := by decide +kernel
theorem dX10_goesOn_4 : decode cX10_goesOn 4 = .ok (.iload_n 2, 1) := by decide +kernel
theorem dX10_goesOn_5 : decode cX10_goesOn 5 = .ok (.ifCond .lt 30, 3) := by decide +kernel
theorem dX10_goesOn_8 : decode cX10_goesOn 8 = .ok (.aload_n 0, 1) := by decide +kernel
theorem dX10_goesOn_9 : decode cX10_goesOn 9 = .ok (.getfield 38, 3) := by decide +kernel
theorem dX10_goesOn_12 : decode cX10_goesOn 12 = .ok (.iload_n 2, 1) := by decide +kernel
theorem dX10_goesOn_13 : decode cX10_goesOn 13 = .ok (.iaload, 1) := by decide +kernel
theorem dX10_goesOn_14 : decode cX10_goesOn 14 = .ok (.iconst 2, 1) := by decide +kernel
theorem dX10_goesOn_15 : decode cX10_goesOn 15 = .ok (.iload_n 1, 1) := by decide +kernel
theorem dX10_goesOn_16 : decode cX10_goesOn 16 = .ok (.iload_n 2, 1) := by decide +kernel
theorem dX10_goesOn_17 : decode cX10_goesOn 17 = .ok (.isub, 1) := by decide +kernel
theorem dX10_goesOn_18 : decode cX10_goesOn 18 = .ok (.imul, 1) := by decide +kernel
theorem dX10_goesOn_19 : decode cX10_goesOn 19 = .ok (.iadd, 1) := by decide +kernel
theorem dX10_goesOn_20 : decode cX10_goesOn 20 = .ok (.iconst 1, 1) := by decide +kernel
theorem dX10_goesOn_21 : decode cX10_goesOn 21 = .ok (.aload_n 0, 1) := by decide +kernel
theorem dX10_goesOn_22 : decode cX10_goesOn 22 = .ok (.getfield 87, 3) := by decide +kernel
theorem dX10_goesOn_25 : decode cX10_goesOn 25 = .ok (.ishl, 1) := by decide +kernel
theorem dX10_goesOn_26 : decode cX10_goesOn 26 = .ok (.if_icmp .lt 9, 3) := by decide +kernel
theorem dX10_goesOn_29 : decode cX10_goesOn 29 = .ok (.iinc 2 (-1), 3) := by decide +kernel
theorem dX10_goesOn_32 : decode cX10_goesOn 32 = .ok (.goto (-28), 3) := by decide +kernel
theorem dX10_goesOn_35 : decode cX10_goesOn 35 = .ok (.iload_n 2, 1) := by decide +kernel
theorem dX10_goesOn_36 : decode cX10_goesOn 36 = .ok (.ifCond .ge 5, 3) := by decide +kernel
theorem dX10_goesOn_39 : decode cX10_goesOn 39 = .ok (.iconst 0, 1) := by decide +kernel
theorem dX10_goesOn_40 : decode cX10_goesOn 40 = .ok (.ireturn, 1) := by decide +kernel
theorem dX10_goesOn_41 : decode cX10_goesOn 41 = .ok (.aload_n 0, 1) := by decide +kernel
theorem dX10_goesOn_42 : decode cX10_goesOn 42 = .ok (.getfield 38, 3) := by decide +kernel
theorem dX10_goesOn_45 : decode cX10_goesOn 45 = .ok (.iload_n 2, 1) := by decide +kernel
theorem dX10_goesOn_46 : decode cX10_goesOn 46 = .ok (.dup2, 1) := by decide +kernel
theorem dX10_goesOn_47 : decode cX10_goesOn 47 = .ok (.iaload, 1) := by decide +kernel
theorem dX10_goesOn_48 : decode cX10_goesOn 48 = .ok (.iconst 2, 1) := by decide +kernel
theorem dX10_goesOn_49 : decode cX10_goesOn 49 = .ok (.iadd, 1) := by decide +kernel
theorem dX10_goesOn_50 : decode cX10_goesOn 50 = .ok (.iastore, 1) := by decide +kernel
theorem dX10_goesOn_51 : decode cX10_goesOn 51 = .ok (.iload_n 2, 1) := by decide +kernel
theorem dX10_goesOn_52 : decode cX10_goesOn 52 = .ok (.iconst 1, 1) := by decide +kernel
theorem dX10_goesOn_53 : decode cX10_goesOn 53 = .ok (.iadd, 1) := by decide +kernel
theorem dX10_goesOn_54 : decode cX10_goesOn 54 = .ok (.istore_n 3, 1) := by decide +kernel
theorem dX10_goesOn_55 : decode cX10_goesOn 55 = .ok (.iload_n 3, 1) := by decide +kernel
theorem dX10_goesOn_56 : decode cX10_goesOn 56 = .ok (.iload_n 1, 1) := by decide +kernel
theorem dX10_goesOn_57 : decode cX10_goesOn 57 = .ok (.if_icmp .ge 25, 3) := by decide +kernel
theorem dX10_goesOn_60 : decode cX10_goesOn 60 = .ok (.aload_n 0, 1) := by decide +kernel
theorem dX10_goesOn_61 : decode cX10_goesOn 61 = .ok (.getfield 38, 3) := by decide +kernel
theorem dX10_goesOn_64 : decode cX10_goesOn 64 = .ok (.iload_n 3, 1) := by decide +kernel
theorem dX10_goesOn_65 : decode cX10_goesOn 65 = .ok (.aload_n 0, 1) := by decide +kernel
theorem dX10_goesOn_66 : decode cX10_goesOn 66 = .ok (.getfield 38, 3) := by decide +kernel
theorem dX10_goesOn_69 : decode cX10_goesOn 69 = .ok (.iload_n 3, 1) := by decide +kernel
theorem dX10_goesOn_70 : decode cX10_goesOn 70 = .ok (.iconst 1, 1) := by decide +kernel
theorem dX10_goesOn_71 : decode cX10_goesOn 71 = .ok (.isub, 1) := by decide +kernel
theorem dX10_goesOn_72 : decode cX10_goesOn 72 = .ok (.iaload, 1) := by decide +kernel
theorem dX10_goesOn_73 : decode cX10_goesOn 73 = .ok (.iconst 2, 1) := by decide +kernel
theorem dX10_goesOn_74 : decode cX10_goesOn 74 = .ok (.iadd, 1) := by decide +kernel
theorem dX10_goesOn_75 : decode cX10_goesOn 75 = .ok (.iastore, 1) := by decide +kernel
theorem dX10_goesOn_76 : decode cX10_goesOn 76 = .ok (.iinc 3 1, 3) := by decide +kernel
theorem dX10_goesOn_79 : decode cX10_goesOn 79 = .ok (.goto (-24), 3) := by decide +kernel
theorem dX10_goesOn_82 : decode cX10_goesOn 82 = .ok (.iconst 1, 1) := by decide +kernel
theorem dX10_goesOn_83 : decode cX10_goesOn 83 = .ok (.ireturn, 1) := by decide +kernel
theorem dX10_findLeast_0 : decode cX10_findLeast 0 = .ok (.iconst 0, 1) := by decide +kernel
theorem dX10_findLeast_1 : decode cX10_findLeast 1 = .ok (.istore_n 2, 1) := by decide +kernel
theorem dX10_findLeast_2 : decode cX10_findLeast 2 = .ok (.iload_n 2, 1) := by decide +kernel
theorem dX10_findLeast_3 : decode cX10_findLeast 3 = .ok (.iload_n 1, 1) := by decide +kernel
theorem dX10_findLeast_4 : decode cX10_findLeast 4 = .ok (.if_icmp .ge 18, 3) := by decide +kernel
theorem dX10_findLeast_7 : decode cX10_findLeast 7 = .ok (.aload_n 0, 1) := by decide +kernel
theorem dX10_findLeast_8 : decode cX10_findLeast 8 = .ok (.getfield 38, 3) := by decide +kernel
theorem dX10_findLeast_11 : decode cX10_findLeast 11 = .ok (.iload_n 2, 1) := by decide +kernel
theorem dX10_findLeast_12 : decode cX10_findLeast 12 = .ok (.iconst 2, 1) := by decide +kernel
theorem dX10_findLeast_13 : decode cX10_findLeast 13 = .ok (.iload_n 2, 1) := by decide +kernel
theorem dX10_findLeast_14 : decode cX10_findLeast 14 = .ok (.imul, 1) := by decide +kernel
theorem dX10_findLeast_15 : decode cX10_findLeast 15 = .ok (.iastore, 1) := by decide +kernel
theorem dX10_findLeast_16 : decode cX10_findLeast 16 = .ok (.iinc 2 1, 3) := by decide +kernel
theorem dX10_findLeast_19 : decode cX10_findLeast 19 = .ok (.goto (-17), 3) := by decide +kernel
theorem dX10_findLeast_22 : decode cX10_findLeast 22 = .ok (.iconst 2, 1) := by decide +kernel
theorem dX10_findLeast_23 : decode cX10_findLeast 23 = .ok (.iload_n 1, 1) := by decide +kernel
theorem dX10_findLeast_24 : decode cX10_findLeast 24 = .ok (.imul, 1) := by decide +kernel
theorem dX10_findLeast_25 : decode cX10_findLeast 25 = .ok (.iconst 1, 1) := by decide +kernel
theorem dX10_findLeast_26 : decode cX10_findLeast 26 = .ok (.aload_n 0, 1) := by decide +kernel
theorem dX10_findLeast_27 : decode cX10_findLeast 27 = .ok (.getfield 87, 3) := by decide +kernel
theorem dX10_findLeast_30 : decode cX10_findLeast 30 = .ok (.ishl, 1) := by decide +kernel
theorem dX10_findLeast_31 : decode cX10_findLeast 31 = .ok (.if_icmp .gt 7, 3) := by decide +kernel
theorem dX10_findLeast_34 : decode cX10_findLeast 34 = .ok (.iconst 1, 1) := by decide +kernel
theorem dX10_findLeast_35 : decode cX10_findLeast 35 = .ok (.goto 4, 3) := by decide +kernel
theorem dX10_findLeast_38 : decode cX10_findLeast 38 = .ok (.iconst 0, 1) := by decide +kernel
theorem dX10_findLeast_39 : decode cX10_findLeast 39 = .ok (.istore_n 2, 1) := by decide +kernel
theorem dX10_findLeast_40 : decode cX10_findLeast 40 = .ok (.iload_n 2, 1) := by decide +kernel
theorem dX10_findLeast_41 : decode cX10_findLeast 41 = .ok (.ifCond .eq 20, 3) := by decide +kernel
theorem dX10_findLeast_44 : decode cX10_findLeast 44 = .ok (.aload_n 0, 1) := by decide +kernel
theorem dX10_findLeast_45 : decode cX10_findLeast 45 = .ok (.iload_n 1, 1) := by decide +kernel
theorem dX10_findLeast_46 : decode cX10_findLeast 46 = .ok (.invokevirtual 163, 3) := by decide +kernel
theorem dX10_findLeast_49 : decode cX10_findLeast 49 = .ok (.ifCond .ne 12, 3) := by decide +kernel
theorem dX10_findLeast_52 : decode cX10_findLeast 52 = .ok (.aload_n 0, 1) := by decide +kernel
