theorem dL_cell_0 : decode cL_cell 0 = .ok (.iload_n 1, 1) := by decide +kernel
theorem dL_cell_1 : decode cL_cell 1 = .ok (.aload_n 0, 1) := by decide +kernel
theorem dL_cell_2 : decode cL_cell 2 = .ok (.arraylength, 1) := by decide +kernel
theorem dL_cell_3 : decode cL_cell 3 = .ok (.if_icmp .ge 9, 3) := by decide +kernel
theorem dL_cell_6 : decode cL_cell 6 = .ok (.aload_n 0, 1) := by decide +kernel
theorem dL_cell_7 : decode cL_cell 7 = .ok (.iload_n 1, 1) := by decide +kernel
theorem dL_cell_8 : decode cL_cell 8 = .ok (.iaload, 1) := by decide +kernel
theorem dL_cell_9 : decode cL_cell 9 = .ok (.goto 10, 3) := by decide +kernel
theorem dL_cell_12 : decode cL_cell 12 = .ok (.ldc 7, 2) := by decide +kernel
theorem dL_cell_14 : decode cL_cell 14 = .ok (.iload_n 1, 1) := by decide +kernel
theorem dL_cell_15 : decode cL_cell 15 = .ok (.bipush 109, 2) := by decide +kernel
theorem dL_cell_17 : decode cL_cell 17 = .ok (.iadd, 1) := by decide +kernel
theorem dL_cell_18 : decode cL_cell 18 = .ok (.imul, 1) := by decide +kernel
theorem dL_cell_19 : decode cL_cell 19 = .ok (.istore_n 2, 1) := by decide +kernel
theorem dL_cell_20 : decode cL_cell 20 = .ok (.iload_n 2, 1) := by decide +kernel
theorem dL_cell_21 : decode cL_cell 21 = .ok (.iload_n 2, 1) := by decide +kernel
theorem dL_cell_22 : decode cL_cell 22 = .ok (.bipush 16, 2) := by decide +kernel
theorem dL_cell_24 : decode cL_cell 24 = .ok (.iushr, 1) := by decide +kernel
theorem dL_cell_25 : decode cL_cell 25 = .ok (.ixor, 1) := by decide +kernel
theorem dL_cell_26 : decode cL_cell 26 = .ok (.ldc 8, 2) := by decide +kernel
theorem dL_cell_28 : decode cL_cell 28 = .ok (.imul, 1) := by decide +kernel
theorem dL_cell_29 : decode cL_cell 29 = .ok (.sipush 329, 3) := by decide +kernel
theorem dL_cell_32 : decode cL_cell 32 = .ok (.iload_n 1, 1) := by decide +kernel
theorem dL_cell_33 : decode cL_cell 33 = .ok (.imul, 1) := by decide +kernel
theorem dL_cell_34 : decode cL_cell 34 = .ok (.iadd, 1) := by decide +kernel
theorem dL_cell_35 : decode cL_cell 35 = .ok (.ireturn, 1) := by decide +kernel
theorem dL_some_0 : decode cL_some 0 = .ok (.iload_n 0, 1) := by decide +kernel
theorem dL_some_1 : decode cL_some 1 = .ok (.iconst 1, 1) := by decide +kernel
theorem dL_some_2 : decode cL_some 2 = .ok (.iushr, 1) := by decide +kernel
theorem dL_some_3 : decode cL_some 3 = .ok (.iload_n 1, 1) := by decide +kernel
theorem dL_some_4 : decode cL_some 4 = .ok (.irem, 1) := by decide +kernel
theorem dL_some_5 : decode cL_some 5 = .ok (.ireturn, 1) := by decide +kernel
theorem dL_call_0 : decode cL_call 0 = .ok (.aload_n 0, 1) := by decide +kernel
theorem dL_call_1 : decode cL_call 1 = .ok (.iload_n 1, 1) := by decide +kernel
theorem dL_call_2 : decode cL_call 2 = .ok (.iload_n 2, 1) := by decide +kernel
theorem dL_call_3 : decode cL_call 3 = .ok (.iload_n 3, 1) := by decide +kernel
theorem dL_call_4 : decode cL_call 4 = .ok (.iload 4, 2) := by decide +kernel
theorem dL_call_6 : decode cL_call 6 = .ok (.invokestatic 9, 3) := by decide +kernel
theorem dL_call_9 : decode cL_call 9 = .ok (.ireturn, 1) := by decide +kernel
theorem dL_call_10 : decode cL_call 10 = .ok (.astore 5, 2) := by decide +kernel
theorem dL_call_12 : decode cL_call 12 = .ok (.ldc 17, 2) := by decide +kernel
theorem dL_call_14 : decode cL_call 14 = .ok (.ireturn, 1) := by decide +kernel
theorem dL_call_15 : decode cL_call 15 = .ok (.astore 5, 2) := by decide +kernel
theorem dL_call_17 : decode cL_call 17 = .ok (.ldc 20, 2) := by decide +kernel
theorem dL_call_19 : decode cL_call 19 = .ok (.ireturn, 1) := by decide +kernel
theorem dL_call_20 : decode cL_call 20 = .ok (.astore 5, 2) := by decide +kernel
theorem dL_call_22 : decode cL_call 22 = .ok (.ldc 23, 2) := by decide +kernel
theorem dL_call_24 : decode cL_call 24 = .ok (.ireturn, 1) := by decide +kernel
theorem dL_does_0 : decode cL_does 0 = .ok (.iload_n 1, 1) := by decide +kernel
theorem dL_does_1 : decode cL_does 1 = .ok (.tableswitch 217 0 16 #[83, 101, 110, 118, 124, 131, 137, 143, 159, 165, 171, 177, 184, 190, 198, 204, 211], 83) := by decide +kernel
theorem dL_does_84 : decode cL_does 84 = .ok (.aload_n 0, 1) := by decide +kernel
theorem dL_does_85 : decode cL_does 85 = .ok (.iload_n 2, 1) := by decide +kernel
theorem dL_does_86 : decode cL_does 86 = .ok (.iload_n 3, 1) := by decide +kernel
theorem dL_does_87 : decode cL_does 87 = .ok (.iload 4, 2) := by decide +kernel
theorem dL_does_89 : decode cL_does 89 = .ok (.iconst 1, 1) := by decide +kernel
theorem dL_does_90 : decode cL_does 90 = .ok (.if_icmp .ne 7, 3) := by decide +kernel
theorem dL_does_93 : decode cL_does 93 = .ok (.iconst 1, 1) := by decide +kernel
theorem dL_does_94 : decode cL_does 94 = .ok (.goto 4, 3) := by decide +kernel
theorem dL_does_97 : decode cL_does 97 = .ok (.iconst 0, 1) := by decide +kernel
theorem dL_does_98 : decode cL_does 98 = .ok (.invokevirtual 24, 3) := by decide +kernel
theorem dL_does_101 : decode cL_does 101 = .ok (.ireturn, 1) := by decide +kernel
theorem dL_does_102 : decode cL_does 102 = .ok (.aload_n 0, 1) := by decide +kernel
theorem dL_does_103 : decode cL_does 103 = .ok (.iload_n 2, 1) := by decide +kernel
theorem dL_does_104 : decode cL_does 104 = .ok (.iload_n 3, 1) := by decide +kernel
theorem dL_does_105 : decode cL_does 105 = .ok (.iload 4, 2) := by decide +kernel
theorem dL_does_107 : decode cL_does 107 = .ok (.invokevirtual 30, 3) := by decide +kernel
theorem dL_does_110 : decode cL_does 110 = .ok (.ireturn, 1) := by decide +kernel
theorem dL_does_111 : decode cL_does 111 = .ok (.aload_n 0, 1) := by decide +kernel
theorem dL_does_112 : decode cL_does 112 = .ok (.iload_n 2, 1) := by decide +kernel
theorem dL_does_113 : decode cL_does 113 = .ok (.iload_n 3, 1) := by decide +kernel
theorem dL_does_114 : decode cL_does 114 = .ok (.invokevirtual 34, 3) := by decide +kernel
theorem dL_does_117 : decode cL_does 117 = .ok (.iconst 0, 1) := by decide +kernel
theorem dL_does_118 : decode cL_does 118 = .ok (.ireturn, 1) := by decide +kernel
theorem dL_does_119 : decode cL_does 119 = .ok (.aload_n 0, 1) := by decide +kernel
theorem dL_does_120 : decode cL_does 120 = .ok (.iload_n 2, 1) := by decide +kernel
theorem dL_does_121 : decode cL_does 121 = .ok (.invokevirtual 38, 3) := by decide +kernel
theorem dL_does_124 : decode cL_does 124 = .ok (.ireturn, 1) := by decide +kernel
theorem dL_does_125 : decode cL_does 125 = .ok (.aload_n 0, 1) := by decide +kernel
theorem dL_does_126 : decode cL_does 126 = .ok (.iload_n 2, 1) := by decide +kernel
theorem dL_does_127 : decode cL_does 127 = .ok (.iload_n 3, 1) := by decide +kernel
theorem dL_does_128 : decode cL_does 128 = .ok (.invokevirtual 42, 3) := by decide +kernel
theorem dL_does_131 : decode cL_does 131 = .ok (.ireturn, 1) := by decide +kernel
theorem dL_does_132 : decode cL_does 132 = .ok (.aload_n 0, 1) := by decide +kernel
theorem dL_does_133 : decode cL_does 133 = .ok (.iload_n 2, 1) := by decide +kernel
theorem dL_does_134 : decode cL_does 134 = .ok (.invokevirtual 46, 3) := by decide +kernel
theorem dL_does_137 : decode cL_does 137 = .ok (.ireturn, 1) := by decide +kernel
theorem dL_does_138 : decode cL_does 138 = .ok (.aload_n 0, 1) := by decide +kernel
theorem dL_does_139 : decode cL_does 139 = .ok (.iload_n 2, 1) := by decide +kernel
theorem dL_does_140 : decode cL_does 140 = .ok (.invokevirtual 49, 3) := by decide +kernel
theorem dL_does_143 : decode cL_does 143 = .ok (.ireturn, 1) := by decide +kernel
theorem dL_does_144 : decode cL_does 144 = .ok (.aload_n 0, 1) := by decide +kernel
theorem dL_does_145 : decode cL_does 145 = .ok (.iload_n 2, 1) := by decide +kernel
theorem dL_does_146 : decode cL_does 146 = .ok (.invokevirtual 52, 3) := by decide +kernel
theorem dL_does_149 : decode cL_does 149 = .ok (.fconst 0, 1) := by decide +kernel
theorem dL_does_150 : decode cL_does 150 = .ok (.fcmp .l, 1) := by decide +kernel
theorem dL_does_151 : decode cL_does 151 = .ok (.ifCond .le 7, 3) := by decide +kernel
theorem dL_does_154 : decode cL_does 154 = .ok (.iconst 1, 1) := by decide +kernel
theorem dL_does_155 : decode cL_does 155 = .ok (.goto 4, 3) := by decide +kernel
theorem dL_does_158 : decode cL_does 158 = .ok (.iconst 0, 1) := by decide +kernel
theorem dL_does_159 : decode cL_does 159 = .ok (.ireturn, 1) := by decide +kernel
theorem dL_does_160 : decode cL_does 160 = .ok (.aload_n 0, 1) := by decide +kernel
theorem dL_does_161 : decode cL_does 161 = .ok (.iload_n 2, 1) := by decide +kernel
theorem dL_does_162 : decode cL_does 162 = .ok (.invokevirtual 56, 3) := by decide +kernel
theorem dL_does_165 : decode cL_does 165 = .ok (.ireturn, 1) := by decide +kernel
theorem dL_does_166 : decode cL_does 166 = .ok (.aload_n 0, 1) := by decide +kernel
theorem dL_does_167 : decode cL_does 167 = .ok (.iload_n 2, 1) := by decide +kernel
theorem dL_does_168 : decode cL_does 168 = .ok (.invokevirtual 59, 3) := by decide +kernel
theorem dL_does_171 : decode cL_does 171 = .ok (.ireturn, 1) := by decide +kernel
theorem dL_does_172 : decode cL_does 172 = .ok (.aload_n 0, 1) := by decide +kernel
theorem dL_does_173 : decode cL_does 173 = .ok (.iload_n 2, 1) := by decide +kernel
theorem dL_does_174 : decode cL_does 174 = .ok (.invokevirtual 62, 3) := by decide +kernel
theorem dL_does_177 : decode cL_does 177 = .ok (.ireturn, 1) := by decide +kernel
theorem dL_does_178 : decode cL_does 178 = .ok (.aload_n 0, 1) := by decide +kernel
theorem dL_does_179 : decode cL_does 179 = .ok (.iload_n 2, 1) := by decide +kernel
theorem dL_does_180 : decode cL_does 180 = .ok (.iload_n 3, 1) := by decide +kernel
theorem dL_does_181 : decode cL_does 181 = .ok (.invokevirtual 65, 3) := by decide +kernel
theorem dL_does_184 : decode cL_does 184 = .ok (.ireturn, 1) := by decide +kernel
theorem dL_does_185 : decode cL_does 185 = .ok (.aload_n 0, 1) := by decide +kernel
theorem dL_does_186 : decode cL_does 186 = .ok (.iload_n 2, 1) := by decide +kernel
theorem dL_does_187 : decode cL_does 187 = .ok (.invokevirtual 68, 3) := by decide +kernel
theorem dL_does_190 : decode cL_does 190 = .ok (.ireturn, 1) := by decide +kernel
theorem dL_does_191 : decode cL_does 191 = .ok (.aload_n 0, 1) := by decide +kernel
theorem dL_does_192 : decode cL_does 192 = .ok (.iload_n 2, 1) := by decide +kernel
theorem dL_does_193 : decode cL_does 193 = .ok (.iload_n 3, 1) := by decide +kernel
theorem dL_does_194 : decode cL_does 194 = .ok (.invokevirtual 71, 3) := by decide +kernel
theorem dL_does_197 : decode cL_does 197 = .ok (.iconst 0, 1) := by decide +kernel
theorem dL_does_198 : decode cL_does 198 = .ok (.ireturn, 1) := by decide +kernel
theorem dL_does_199 : decode cL_does 199 = .ok (.aload_n 0, 1) := by decide +kernel
theorem dL_does_200 : decode cL_does 200 = .ok (.iload_n 2, 1) := by decide +kernel
theorem dL_does_201 : decode cL_does 201 = .ok (.invokevirtual 74, 3) := by decide +kernel
theorem dL_does_204 : decode cL_does 204 = .ok (.ireturn, 1) := by decide +kernel
theorem dL_does_205 : decode cL_does 205 = .ok (.aload_n 0, 1) := by decide +kernel
theorem dL_does_206 : decode cL_does 206 = .ok (.iload_n 2, 1) := by decide +kernel
theorem dL_does_207 : decode cL_does 207 = .ok (.invokevirtual 77, 3) := by decide +kernel
theorem dL_does_210 : decode cL_does 210 = .ok (.iconst 0, 1) := by decide +kernel
theorem dL_does_211 : decode cL_does 211 = .ok (.ireturn, 1) := by decide +kernel
theorem dL_does_212 : decode cL_does 212 = .ok (.aload_n 0, 1) := by decide +kernel
theorem dL_does_213 : decode cL_does 213 = .ok (.iload_n 2, 1) := by decide +kernel
theorem dL_does_214 : decode cL_does 214 = .ok (.invokevirtual 81, 3) := by decide +kernel
theorem dL_does_217 : decode cL_does 217 = .ok (.ireturn, 1) := by decide +kernel
theorem dL_does_218 : decode cL_does 218 = .ok (.aload_n 0, 1) := by decide +kernel
theorem dL_does_219 : decode cL_does 219 = .ok (.iload_n 2, 1) := by decide +kernel
theorem dL_does_220 : decode cL_does 220 = .ok (.invokevirtual 84, 3) := by decide +kernel
theorem dL_does_223 : decode cL_does 223 = .ok (.ireturn, 1) := by decide +kernel
theorem dL_sew_0 : decode cL_sew 0 = .ok (.aload_n 0, 1) := by decide +kernel
theorem dL_sew_1 : decode cL_sew 1 = .ok (.iload_n 1, 1) := by decide +kernel
theorem dL_sew_2 : decode cL_sew 2 = .ok (.iload_n 2, 1) := by decide +kernel
theorem dL_sew_3 : decode cL_sew 3 = .ok (.iload_n 3, 1) := by decide +kernel
theorem dL_sew_4 : decode cL_sew 4 = .ok (.iload 4, 2) := by decide +kernel
theorem dL_sew_6 : decode cL_sew 6 = .ok (.iload 5, 2) := by decide +kernel
theorem dL_sew_8 : decode cL_sew 8 = .ok (.iload 6, 2) := by decide +kernel
theorem dL_sew_10 : decode cL_sew 10 = .ok (.invokevirtual 87, 3) := by decide +kernel
theorem dL_sew_13 : decode cL_sew 13 = .ok (.iconst 0, 1) := by decide +kernel
theorem dL_sew_14 : decode cL_sew 14 = .ok (.ireturn, 1) := by decide +kernel
theorem dL_sew_15 : decode cL_sew 15 = .ok (.astore 7, 2) := by decide +kernel
theorem dL_sew_17 : decode cL_sew 17 = .ok (.ldc 17, 2) := by decide +kernel
theorem dL_sew_19 : decode cL_sew 19 = .ok (.ireturn, 1) := by decide +kernel
theorem dL_sew_20 : decode cL_sew 20 = .ok (.astore 7, 2) := by decide +kernel
theorem dL_sew_22 : decode cL_sew 22 = .ok (.ldc 20, 2) := by decide +kernel
theorem dL_sew_24 : decode cL_sew 24 = .ok (.ireturn, 1) := by decide +kernel
theorem dL_size_0 : decode cL_size 0 = .ok (.iload_n 0, 1) := by decide +kernel
theorem dL_size_1 : decode cL_size 1 = .ok (.ifCond .ge 8, 3) := by decide +kernel
theorem dL_size_4 : decode cL_size 4 = .ok (.iload_n 0, 1) := by decide +kernel
theorem dL_size_5 : decode cL_size 5 = .ok (.ineg, 1) := by decide +kernel
theorem dL_size_6 : decode cL_size 6 = .ok (.goto 4, 3) := by decide +kernel
theorem dL_size_9 : decode cL_size 9 = .ok (.iload_n 0, 1) := by decide +kernel
theorem dL_size_10 : decode cL_size 10 = .ok (.ireturn, 1) := by decide +kernel
theorem dL_all_0 : decode cL_all 0 = .ok (.ldc2_w 91, 3) := by decide +kernel
theorem dL_all_3 : decode cL_all 3 = .ok (.aload_n 0, 1) := by decide +kernel
theorem dL_all_4 : decode cL_all 4 = .ok (.invokevirtual 93, 3) := by decide +kernel
theorem dL_all_7 : decode cL_all 7 = .ok (.i2l, 1) := by decide +kernel
theorem dL_all_8 : decode cL_all 8 = .ok (.ladd, 1) := by decide +kernel
theorem dL_all_9 : decode cL_all 9 = .ok (.lstore_n 2, 1) := by decide +kernel
theorem dL_all_10 : decode cL_all 10 = .ok (.iconst 0, 1) := by decide +kernel
theorem dL_all_11 : decode cL_all 11 = .ok (.istore 4, 2) := by decide +kernel
theorem dL_all_13 : decode cL_all 13 = .ok (.iload 4, 2) := by decide +kernel
theorem dL_all_15 : decode cL_all 15 = .ok (.aload_n 0, 1) := by decide +kernel
theorem dL_all_16 : decode cL_all 16 = .ok (.invokevirtual 93, 3) := by decide +kernel
theorem dL_all_19 : decode cL_all 19 = .ok (.if_icmp .ge 40, 3) := by decide +kernel
theorem dL_all_22 : decode cL_all 22 = .ok (.iconst 0, 1) := by decide +kernel
theorem dL_all_23 : decode cL_all 23 = .ok (.istore 5, 2) := by decide +kernel
theorem dL_all_25 : decode cL_all 25 = .ok (.iload 5, 2) := by decide +kernel
theorem dL_all_27 : decode cL_all 27 = .ok (.iconst 4, 1) := by decide +kernel
theorem dL_all_28 : decode cL_all 28 = .ok (.if_icmp .ge 25, 3) := by decide +kernel
theorem dL_all_31 : decode cL_all 31 = .ok (.lload_n 2, 1) := by decide +kernel
theorem dL_all_32 : decode cL_all 32 = .ok (.ldc2_w 97, 3) := by decide +kernel
theorem dL_all_35 : decode cL_all 35 = .ok (.lmul, 1) := by decide +kernel
theorem dL_all_36 : decode cL_all 36 = .ok (.aload_n 0, 1) := by decide +kernel
theorem dL_all_37 : decode cL_all 37 = .ok (.iload 4, 2) := by decide +kernel
theorem dL_all_39 : decode cL_all 39 = .ok (.iload 5, 2) := by decide +kernel
theorem dL_all_41 : decode cL_all 41 = .ok (.invokevirtual 42, 3) := by decide +kernel
theorem dL_all_44 : decode cL_all 44 = .ok (.i2l, 1) := by decide +kernel
theorem dL_all_45 : decode cL_all 45 = .ok (.ladd, 1) := by decide +kernel
theorem dL_all_46 : decode cL_all 46 = .ok (.lstore_n 2, 1) := by decide +kernel
theorem dL_all_47 : decode cL_all 47 = .ok (.iinc 5 1, 3) := by decide +kernel
theorem dL_all_50 : decode cL_all 50 = .ok (.goto (-25), 3) := by decide +kernel
theorem dL_all_53 : decode cL_all 53 = .ok (.iinc 4 1, 3) := by decide +kernel
theorem dL_all_56 : decode cL_all 56 = .ok (.goto (-43), 3) := by decide +kernel
theorem dL_all_59 : decode cL_all 59 = .ok (.iconst 0, 1) := by decide +kernel
theorem dL_all_60 : decode cL_all 60 = .ok (.istore 4, 2) := by decide +kernel
theorem dL_all_62 : decode cL_all 62 = .ok (.iload 4, 2) := by decide +kernel
theorem dL_all_64 : decode cL_all 64 = .ok (.aload_n 1, 1) := by decide +kernel
theorem dL_all_65 : decode cL_all 65 = .ok (.iconst 0, 1) := by decide +kernel
theorem dL_all_66 : decode cL_all 66 = .ok (.iaload, 1) := by decide +kernel
theorem dL_all_67 : decode cL_all 67 = .ok (.if_icmp .ge 23, 3) := by decide +kernel
theorem dL_all_70 : decode cL_all 70 = .ok (.lload_n 2, 1) := by decide +kernel
theorem dL_all_71 : decode cL_all 71 = .ok (.ldc2_w 99, 3) := by decide +kernel
theorem dL_all_74 : decode cL_all 74 = .ok (.lmul, 1) := by decide +kernel
theorem dL_all_75 : decode cL_all 75 = .ok (.aload_n 0, 1) := by decide +kernel
theorem dL_all_76 : decode cL_all 76 = .ok (.iload 4, 2) := by decide +kernel
theorem dL_all_78 : decode cL_all 78 = .ok (.invokevirtual 56, 3) := by decide +kernel
theorem dL_all_81 : decode cL_all 81 = .ok (.i2l, 1) := by decide +kernel
theorem dL_all_82 : decode cL_all 82 = .ok (.ladd, 1) := by decide +kernel
theorem dL_all_83 : decode cL_all 83 = .ok (.lstore_n 2, 1) := by decide +kernel
theorem dL_all_84 : decode cL_all 84 = .ok (.iinc 4 1, 3) := by decide +kernel
theorem dL_all_87 : decode cL_all 87 = .ok (.goto (-25), 3) := by decide +kernel
theorem dL_all_90 : decode cL_all 90 = .ok (.iconst 0, 1) := by decide +kernel
theorem dL_all_91 : decode cL_all 91 = .ok (.istore 4, 2) := by decide +kernel
theorem dL_all_93 : decode cL_all 93 = .ok (.iload 4, 2) := by decide +kernel
theorem dL_all_95 : decode cL_all 95 = .ok (.aload_n 1, 1) := by decide +kernel
theorem dL_all_96 : decode cL_all 96 = .ok (.iconst 2, 1) := by decide +kernel
theorem dL_all_97 : decode cL_all 97 = .ok (.iaload, 1) := by decide +kernel
theorem dL_all_98 : decode cL_all 98 = .ok (.if_icmp .ge 30, 3) := by decide +kernel
theorem dL_all_101 : decode cL_all 101 = .ok (.iload 4, 2) := by decide +kernel
theorem dL_all_103 : decode cL_all 103 = .ok (.bipush 40, 2) := by decide +kernel
theorem dL_all_105 : decode cL_all 105 = .ok (.if_icmp .ge 23, 3) := by decide +kernel
theorem dL_all_108 : decode cL_all 108 = .ok (.lload_n 2, 1) := by decide +kernel
theorem dL_all_109 : decode cL_all 109 = .ok (.ldc2_w 101, 3) := by decide +kernel
theorem dL_all_112 : decode cL_all 112 = .ok (.lmul, 1) := by decide +kernel
theorem dL_all_113 : decode cL_all 113 = .ok (.aload_n 0, 1) := by decide +kernel
theorem dL_all_114 : decode cL_all 114 = .ok (.iload 4, 2) := by decide +kernel
theorem dL_all_116 : decode cL_all 116 = .ok (.invokevirtual 62, 3) := by decide +kernel
theorem dL_all_119 : decode cL_all 119 = .ok (.i2l, 1) := by decide +kernel
theorem dL_all_120 : decode cL_all 120 = .ok (.ladd, 1) := by decide +kernel
theorem dL_all_121 : decode cL_all 121 = .ok (.lstore_n 2, 1) := by decide +kernel
theorem dL_all_122 : decode cL_all 122 = .ok (.iinc 4 1, 3) := by decide +kernel
theorem dL_all_125 : decode cL_all 125 = .ok (.goto (-32), 3) := by decide +kernel
theorem dL_all_128 : decode cL_all 128 = .ok (.iconst 0, 1) := by decide +kernel
theorem dL_all_129 : decode cL_all 129 = .ok (.istore 4, 2) := by decide +kernel
theorem dL_all_131 : decode cL_all 131 = .ok (.iload 4, 2) := by decide +kernel
theorem dL_all_133 : decode cL_all 133 = .ok (.aload_n 1, 1) := by decide +kernel
theorem dL_all_134 : decode cL_all 134 = .ok (.iconst 3, 1) := by decide +kernel
theorem dL_all_135 : decode cL_all 135 = .ok (.iaload, 1) := by decide +kernel
theorem dL_all_136 : decode cL_all 136 = .ok (.if_icmp .ge 23, 3) := by decide +kernel
theorem dL_all_139 : decode cL_all 139 = .ok (.lload_n 2, 1) := by decide +kernel
theorem dL_all_140 : decode cL_all 140 = .ok (.ldc2_w 103, 3) := by decide +kernel
theorem dL_all_143 : decode cL_all 143 = .ok (.lmul, 1) := by decide +kernel
theorem dL_all_144 : decode cL_all 144 = .ok (.aload_n 0, 1) := by decide +kernel
theorem dL_all_145 : decode cL_all 145 = .ok (.iload 4, 2) := by decide +kernel
theorem dL_all_147 : decode cL_all 147 = .ok (.invokevirtual 84, 3) := by decide +kernel
theorem dL_all_150 : decode cL_all 150 = .ok (.i2l, 1) := by decide +kernel
theorem dL_all_151 : decode cL_all 151 = .ok (.ladd, 1) := by decide +kernel
theorem dL_all_152 : decode cL_all 152 = .ok (.lstore_n 2, 1) := by decide +kernel
theorem dL_all_153 : decode cL_all 153 = .ok (.iinc 4 1, 3) := by decide +kernel
theorem dL_all_156 : decode cL_all 156 = .ok (.goto (-25), 3) := by decide +kernel
theorem dL_all_159 : decode cL_all 159 = .ok (.lload_n 2, 1) := by decide +kernel
theorem dL_all_160 : decode cL_all 160 = .ok (.ldc2_w 97, 3) := by decide +kernel
theorem dL_all_163 : decode cL_all 163 = .ok (.lmul, 1) := by decide +kernel
theorem dL_all_164 : decode cL_all 164 = .ok (.aload_n 0, 1) := by decide +kernel
theorem dL_all_165 : decode cL_all 165 = .ok (.invokevirtual 105, 3) := by decide +kernel
theorem dL_all_168 : decode cL_all 168 = .ok (.i2l, 1) := by decide +kernel
theorem dL_all_169 : decode cL_all 169 = .ok (.ladd, 1) := by decide +kernel
theorem dL_all_170 : decode cL_all 170 = .ok (.ldc2_w 97, 3) := by decide +kernel
theorem dL_all_173 : decode cL_all 173 = .ok (.lmul, 1) := by decide +kernel
theorem dL_all_174 : decode cL_all 174 = .ok (.aload_n 0, 1) := by decide +kernel
theorem dL_all_175 : decode cL_all 175 = .ok (.invokevirtual 108, 3) := by decide +kernel
theorem dL_all_178 : decode cL_all 178 = .ok (.i2l, 1) := by decide +kernel
theorem dL_all_179 : decode cL_all 179 = .ok (.ladd, 1) := by decide +kernel
theorem dL_all_180 : decode cL_all 180 = .ok (.lreturn, 1) := by decide +kernel
theorem dL_both_0 : decode cL_both 0 = .ok (.aload_n 0, 1) := by decide +kernel
theorem dL_both_1 : decode cL_both 1 = .ok (.iload_n 2, 1) := by decide +kernel
theorem dL_both_2 : decode cL_both 2 = .ok (.iload_n 3, 1) := by decide +kernel
theorem dL_both_3 : decode cL_both 3 = .ok (.iload 4, 2) := by decide +kernel
theorem dL_both_5 : decode cL_both 5 = .ok (.iload 5, 2) := by decide +kernel
theorem dL_both_7 : decode cL_both 7 = .ok (.invokestatic 111, 3) := by decide +kernel
theorem dL_both_10 : decode cL_both 10 = .ok (.istore 6, 2) := by decide +kernel
theorem dL_both_12 : decode cL_both 12 = .ok (.iload 6, 2) := by decide +kernel
theorem dL_both_14 : decode cL_both 14 = .ok (.aload_n 1, 1) := by decide +kernel
theorem dL_both_15 : decode cL_both 15 = .ok (.iload_n 2, 1) := by decide +kernel
theorem dL_both_16 : decode cL_both 16 = .ok (.iload_n 3, 1) := by decide +kernel
theorem dL_both_17 : decode cL_both 17 = .ok (.iload 4, 2) := by decide +kernel
theorem dL_both_19 : decode cL_both 19 = .ok (.iload 5, 2) := by decide +kernel
theorem dL_both_21 : decode cL_both 21 = .ok (.invokestatic 111, 3) := by decide +kernel
theorem dL_both_24 : decode cL_both 24 = .ok (.if_icmp .ne 8, 3) := by decide +kernel
theorem dL_both_27 : decode cL_both 27 = .ok (.iload 6, 2) := by decide +kernel
theorem dL_both_29 : decode cL_both 29 = .ok (.goto 5, 3) := by decide +kernel
theorem dL_both_32 : decode cL_both 32 = .ok (.ldc 114, 2) := by decide +kernel
theorem dL_both_34 : decode cL_both 34 = .ok (.ireturn, 1) := by decide +kernel
theorem dL_fields_0 : decode cL_fields 0 = .ok (.iload_n 3, 1) := by decide +kernel
theorem dL_fields_1 : decode cL_fields 1 = .ok (.bipush 16, 2) := by decide +kernel
theorem dL_fields_3 : decode cL_fields 3 = .ok (.invokestatic 115, 3) := by decide +kernel
theorem dL_fields_6 : decode cL_fields 6 = .ok (.istore 5, 2) := by decide +kernel
theorem dL_fields_8 : decode cL_fields 8 = .ok (.iload 5, 2) := by decide +kernel
theorem dL_fields_10 : decode cL_fields 10 = .ok (.iconst 2, 1) := by decide +kernel
theorem dL_fields_11 : decode cL_fields 11 = .ok (.if_icmp .lt 9, 3) := by decide +kernel
theorem dL_fields_14 : decode cL_fields 14 = .ok (.aload_n 2, 1) := by decide +kernel
theorem dL_fields_15 : decode cL_fields 15 = .ok (.iconst 0, 1) := by decide +kernel
theorem dL_fields_16 : decode cL_fields 16 = .ok (.iaload, 1) := by decide +kernel
theorem dL_fields_17 : decode cL_fields 17 = .ok (.ifCond .ne 125, 3) := by decide +kernel
theorem dL_fields_20 : decode cL_fields 20 = .ok (.iload 4, 2) := by decide +kernel
theorem dL_fields_22 : decode cL_fields 22 = .ok (.iconst 4, 1) := by decide +kernel
theorem dL_fields_23 : decode cL_fields 23 = .ok (.invokestatic 115, 3) := by decide +kernel
theorem dL_fields_26 : decode cL_fields 26 = .ok (.ifCond .ne 7, 3) := by decide +kernel
theorem dL_fields_29 : decode cL_fields 29 = .ok (.iconst 1, 1) := by decide +kernel
theorem dL_fields_30 : decode cL_fields 30 = .ok (.goto 4, 3) := by decide +kernel
theorem dL_fields_33 : decode cL_fields 33 = .ok (.iconst 0, 1) := by decide +kernel
theorem dL_fields_34 : decode cL_fields 34 = .ok (.istore 6, 2) := by decide +kernel
theorem dL_fields_36 : decode cL_fields 36 = .ok (.aload_n 0, 1) := by decide +kernel
theorem dL_fields_37 : decode cL_fields 37 = .ok (.aload_n 1, 1) := by decide +kernel
theorem dL_fields_38 : decode cL_fields 38 = .ok (.iconst 0, 1) := by decide +kernel
theorem dL_fields_39 : decode cL_fields 39 = .ok (.iload 4, 2) := by decide +kernel
theorem dL_fields_41 : decode cL_fields 41 = .ok (.iconst 2, 1) := by decide +kernel
theorem dL_fields_42 : decode cL_fields 42 = .ok (.ishr, 1) := by decide +kernel
theorem dL_fields_43 : decode cL_fields 43 = .ok (.iconst 4, 1) := by decide +kernel
theorem dL_fields_44 : decode cL_fields 44 = .ok (.invokestatic 115, 3) := by decide +kernel
theorem dL_fields_47 : decode cL_fields 47 = .ok (.iload 4, 2) := by decide +kernel
theorem dL_fields_49 : decode cL_fields 49 = .ok (.iconst 5, 1) := by decide +kernel
theorem dL_fields_50 : decode cL_fields 50 = .ok (.ishr, 1) := by decide +kernel
theorem dL_fields_51 : decode cL_fields 51 = .ok (.iconst 3, 1) := by decide +kernel
theorem dL_fields_52 : decode cL_fields 52 = .ok (.invokestatic 115, 3) := by decide +kernel
theorem dL_fields_55 : decode cL_fields 55 = .ok (.iload 6, 2) := by decide +kernel
theorem dL_fields_57 : decode cL_fields 57 = .ok (.invokestatic 118, 3) := by decide +kernel
theorem dL_fields_60 : decode cL_fields 60 = .ok (.istore 7, 2) := by decide +kernel
theorem dL_fields_62 : decode cL_fields 62 = .ok (.iload 7, 2) := by decide +kernel
theorem dL_fields_64 : decode cL_fields 64 = .ok (.ifCond .lt 19, 3) := by decide +kernel
theorem dL_fields_67 : decode cL_fields 67 = .ok (.aload_n 2, 1) := by decide +kernel
theorem dL_fields_68 : decode cL_fields 68 = .ok (.bipush 14, 2) := by decide +kernel
theorem dL_fields_70 : decode cL_fields 70 = .ok (.iload 7, 2) := by decide +kernel
theorem dL_fields_72 : decode cL_fields 72 = .ok (.iadd, 1) := by decide +kernel
theorem dL_fields_73 : decode cL_fields 73 = .ok (.iload 6, 2) := by decide +kernel
theorem dL_fields_75 : decode cL_fields 75 = .ok (.iastore, 1) := by decide +kernel
theorem dL_fields_76 : decode cL_fields 76 = .ok (.aload_n 2, 1) := by decide +kernel
theorem dL_fields_77 : decode cL_fields 77 = .ok (.iconst 0, 1) := by decide +kernel
theorem dL_fields_78 : decode cL_fields 78 = .ok (.dup2, 1) := by decide +kernel
theorem dL_fields_79 : decode cL_fields 79 = .ok (.iaload, 1) := by decide +kernel
theorem dL_fields_80 : decode cL_fields 80 = .ok (.iconst 1, 1) := by decide +kernel
theorem dL_fields_81 : decode cL_fields 81 = .ok (.iadd, 1) := by decide +kernel
theorem dL_fields_82 : decode cL_fields 82 = .ok (.iastore, 1) := by decide +kernel
theorem dL_fields_83 : decode cL_fields 83 = .ok (.iload 7, 2) := by decide +kernel
theorem dL_fields_85 : decode cL_fields 85 = .ok (.ldc 23, 2) := by decide +kernel
theorem dL_fields_87 : decode cL_fields 87 = .ok (.if_icmp .ne 19, 3) := by decide +kernel
theorem dL_fields_90 : decode cL_fields 90 = .ok (.aload_n 2, 1) := by decide +kernel
theorem dL_fields_91 : decode cL_fields 91 = .ok (.iconst 0, 1) := by decide +kernel
theorem dL_fields_92 : decode cL_fields 92 = .ok (.iaload, 1) := by decide +kernel
theorem dL_fields_93 : decode cL_fields 93 = .ok (.bipush 8, 2) := by decide +kernel
theorem dL_fields_95 : decode cL_fields 95 = .ok (.if_icmp .ne 7, 3) := by decide +kernel
theorem dL_fields_98 : decode cL_fields 98 = .ok (.iconst 1, 1) := by decide +kernel
theorem dL_fields_99 : decode cL_fields 99 = .ok (.goto 42, 3) := by decide +kernel
theorem dL_fields_102 : decode cL_fields 102 = .ok (.iconst 0, 1) := by decide +kernel
theorem dL_fields_103 : decode cL_fields 103 = .ok (.goto 38, 3) := by decide +kernel
theorem dL_fields_106 : decode cL_fields 106 = .ok (.iload 7, 2) := by decide +kernel
theorem dL_fields_108 : decode cL_fields 108 = .ok (.aload_n 2, 1) := by decide +kernel
theorem dL_fields_109 : decode cL_fields 109 = .ok (.iconst 0, 1) := by decide +kernel
theorem dL_fields_110 : decode cL_fields 110 = .ok (.iaload, 1) := by decide +kernel
theorem dL_fields_111 : decode cL_fields 111 = .ok (.iconst 1, 1) := by decide +kernel
theorem dL_fields_112 : decode cL_fields 112 = .ok (.isub, 1) := by decide +kernel
theorem dL_fields_113 : decode cL_fields 113 = .ok (.if_icmp .ne 27, 3) := by decide +kernel
theorem dL_fields_116 : decode cL_fields 116 = .ok (.aload_n 0, 1) := by decide +kernel
theorem dL_fields_117 : decode cL_fields 117 = .ok (.iload 7, 2) := by decide +kernel
theorem dL_fields_119 : decode cL_fields 119 = .ok (.invokevirtual 52, 3) := by decide +kernel
theorem dL_fields_122 : decode cL_fields 122 = .ok (.fconst 0, 1) := by decide +kernel
theorem dL_fields_123 : decode cL_fields 123 = .ok (.fcmp .l, 1) := by decide +kernel
theorem dL_fields_124 : decode cL_fields 124 = .ok (.ifCond .ne 16, 3) := by decide +kernel
theorem dL_fields_127 : decode cL_fields 127 = .ok (.aload_n 0, 1) := by decide +kernel
theorem dL_fields_128 : decode cL_fields 128 = .ok (.iload 7, 2) := by decide +kernel
theorem dL_fields_130 : decode cL_fields 130 = .ok (.invokevirtual 56, 3) := by decide +kernel
theorem dL_fields_133 : decode cL_fields 133 = .ok (.ifCond .ne 7, 3) := by decide +kernel
theorem dL_fields_136 : decode cL_fields 136 = .ok (.iconst 1, 1) := by decide +kernel
theorem dL_fields_137 : decode cL_fields 137 = .ok (.goto 4, 3) := by decide +kernel
theorem dL_fields_140 : decode cL_fields 140 = .ok (.iconst 0, 1) := by decide +kernel
theorem dL_fields_141 : decode cL_fields 141 = .ok (.ireturn, 1) := by decide +kernel
theorem dL_fields_142 : decode cL_fields 142 = .ok (.iload 4, 2) := by decide +kernel
theorem dL_fields_144 : decode cL_fields 144 = .ok (.aload_n 2, 1) := by decide +kernel
theorem dL_fields_145 : decode cL_fields 145 = .ok (.iconst 0, 1) := by decide +kernel
theorem dL_fields_146 : decode cL_fields 146 = .ok (.iaload, 1) := by decide +kernel
theorem dL_fields_147 : decode cL_fields 147 = .ok (.invokestatic 115, 3) := by decide +kernel
theorem dL_fields_150 : decode cL_fields 150 = .ok (.istore 6, 2) := by decide +kernel
theorem dL_fields_152 : decode cL_fields 152 = .ok (.iload 5, 2) := by decide +kernel
theorem dL_fields_154 : decode cL_fields 154 = .ok (.bipush 11, 2) := by decide +kernel
theorem dL_fields_156 : decode cL_fields 156 = .ok (.if_icmp .ge 112, 3) := by decide +kernel
theorem dL_fields_159 : decode cL_fields 159 = .ok (.aload_n 0, 1) := by decide +kernel
theorem dL_fields_160 : decode cL_fields 160 = .ok (.aload_n 1, 1) := by decide +kernel
theorem dL_fields_161 : decode cL_fields 161 = .ok (.iconst 1, 1) := by decide +kernel
theorem dL_fields_162 : decode cL_fields 162 = .ok (.iload 6, 2) := by decide +kernel
theorem dL_fields_164 : decode cL_fields 164 = .ok (.iload 4, 2) := by decide +kernel
theorem dL_fields_166 : decode cL_fields 166 = .ok (.iconst 3, 1) := by decide +kernel
theorem dL_fields_167 : decode cL_fields 167 = .ok (.ishr, 1) := by decide +kernel
theorem dL_fields_168 : decode cL_fields 168 = .ok (.bipush 20, 2) := by decide +kernel
theorem dL_fields_170 : decode cL_fields 170 = .ok (.invokestatic 115, 3) := by decide +kernel
theorem dL_fields_173 : decode cL_fields 173 = .ok (.iload 4, 2) := by decide +kernel
theorem dL_fields_175 : decode cL_fields 175 = .ok (.bipush 7, 2) := by decide +kernel
theorem dL_fields_177 : decode cL_fields 177 = .ok (.ishr, 1) := by decide +kernel
theorem dL_fields_178 : decode cL_fields 178 = .ok (.bipush 14, 2) := by decide +kernel
theorem dL_fields_180 : decode cL_fields 180 = .ok (.invokestatic 115, 3) := by decide +kernel
theorem dL_fields_183 : decode cL_fields 183 = .ok (.invokestatic 118, 3) := by decide +kernel
theorem dL_fields_186 : decode cL_fields 186 = .ok (.istore 7, 2) := by decide +kernel
theorem dL_fields_188 : decode cL_fields 188 = .ok (.aload_n 2, 1) := by decide +kernel
theorem dL_fields_189 : decode cL_fields 189 = .ok (.bipush 6, 2) := by decide +kernel
theorem dL_fields_191 : decode cL_fields 191 = .ok (.iload 6, 2) := by decide +kernel
theorem dL_fields_193 : decode cL_fields 193 = .ok (.iadd, 1) := by decide +kernel
theorem dL_fields_194 : decode cL_fields 194 = .ok (.dup2, 1) := by decide +kernel
theorem dL_fields_195 : decode cL_fields 195 = .ok (.iaload, 1) := by decide +kernel
theorem dL_fields_196 : decode cL_fields 196 = .ok (.iload 7, 2) := by decide +kernel
theorem dL_fields_198 : decode cL_fields 198 = .ok (.ifCond .lt 7, 3) := by decide +kernel
theorem dL_fields_201 : decode cL_fields 201 = .ok (.iconst 1, 1) := by decide +kernel
theorem dL_fields_202 : decode cL_fields 202 = .ok (.goto 4, 3) := by decide +kernel
theorem dL_fields_205 : decode cL_fields 205 = .ok (.iconst 0, 1) := by decide +kernel
theorem dL_fields_206 : decode cL_fields 206 = .ok (.iadd, 1) := by decide +kernel
theorem dL_fields_207 : decode cL_fields 207 = .ok (.iastore, 1) := by decide +kernel
theorem dL_fields_208 : decode cL_fields 208 = .ok (.iload 7, 2) := by decide +kernel
theorem dL_fields_210 : decode cL_fields 210 = .ok (.ldc 23, 2) := by decide +kernel
theorem dL_fields_212 : decode cL_fields 212 = .ok (.if_icmp .ne 38, 3) := by decide +kernel
theorem dL_fields_215 : decode cL_fields 215 = .ok (.aload_n 2, 1) := by decide +kernel
theorem dL_fields_216 : decode cL_fields 216 = .ok (.bipush 6, 2) := by decide +kernel
theorem dL_fields_218 : decode cL_fields 218 = .ok (.iload 6, 2) := by decide +kernel
theorem dL_fields_220 : decode cL_fields 220 = .ok (.iadd, 1) := by decide +kernel
theorem dL_fields_221 : decode cL_fields 221 = .ok (.iaload, 1) := by decide +kernel
theorem dL_fields_222 : decode cL_fields 222 = .ok (.aload_n 2, 1) := by decide +kernel
theorem dL_fields_223 : decode cL_fields 223 = .ok (.bipush 14, 2) := by decide +kernel
theorem dL_fields_225 : decode cL_fields 225 = .ok (.iload 6, 2) := by decide +kernel
theorem dL_fields_227 : decode cL_fields 227 = .ok (.iadd, 1) := by decide +kernel
theorem dL_fields_228 : decode cL_fields 228 = .ok (.iaload, 1) := by decide +kernel
theorem dL_fields_229 : decode cL_fields 229 = .ok (.iconst 1, 1) := by decide +kernel
theorem dL_fields_230 : decode cL_fields 230 = .ok (.if_icmp .ne 7, 3) := by decide +kernel
theorem dL_fields_233 : decode cL_fields 233 = .ok (.iconst 4, 1) := by decide +kernel
theorem dL_fields_234 : decode cL_fields 234 = .ok (.goto 5, 3) := by decide +kernel
theorem dL_fields_237 : decode cL_fields 237 = .ok (.bipush 8, 2) := by decide +kernel
theorem dL_fields_239 : decode cL_fields 239 = .ok (.if_icmp .ne 7, 3) := by decide +kernel
theorem dL_fields_242 : decode cL_fields 242 = .ok (.iconst 1, 1) := by decide +kernel
theorem dL_fields_243 : decode cL_fields 243 = .ok (.goto 24, 3) := by decide +kernel
theorem dL_fields_246 : decode cL_fields 246 = .ok (.iconst 0, 1) := by decide +kernel
theorem dL_fields_247 : decode cL_fields 247 = .ok (.goto 20, 3) := by decide +kernel
theorem dL_fields_250 : decode cL_fields 250 = .ok (.iload 7, 2) := by decide +kernel
theorem dL_fields_252 : decode cL_fields 252 = .ok (.aload_n 2, 1) := by decide +kernel
theorem dL_fields_253 : decode cL_fields 253 = .ok (.bipush 6, 2) := by decide +kernel
theorem dL_fields_255 : decode cL_fields 255 = .ok (.iload 6, 2) := by decide +kernel
theorem dL_fields_257 : decode cL_fields 257 = .ok (.iadd, 1) := by decide +kernel
theorem dL_fields_258 : decode cL_fields 258 = .ok (.iaload, 1) := by decide +kernel
theorem dL_fields_259 : decode cL_fields 259 = .ok (.if_icmp .ne 7, 3) := by decide +kernel
theorem dL_fields_262 : decode cL_fields 262 = .ok (.iconst 1, 1) := by decide +kernel
theorem dL_fields_263 : decode cL_fields 263 = .ok (.goto 4, 3) := by decide +kernel
theorem dL_fields_266 : decode cL_fields 266 = .ok (.iconst 0, 1) := by decide +kernel
theorem dL_fields_267 : decode cL_fields 267 = .ok (.ireturn, 1) := by decide +kernel
theorem dL_fields_268 : decode cL_fields 268 = .ok (.iload 5, 2) := by decide +kernel
theorem dL_fields_270 : decode cL_fields 270 = .ok (.bipush 14, 2) := by decide +kernel
theorem dL_fields_272 : decode cL_fields 272 = .ok (.if_icmp .ge 138, 3) := by decide +kernel
theorem dL_fields_275 : decode cL_fields 275 = .ok (.iload 4, 2) := by decide +kernel
theorem dL_fields_277 : decode cL_fields 277 = .ok (.bipush 14, 2) := by decide +kernel
theorem dL_fields_279 : decode cL_fields 279 = .ok (.ishr, 1) := by decide +kernel
theorem dL_fields_280 : decode cL_fields 280 = .ok (.iconst 2, 1) := by decide +kernel
theorem dL_fields_281 : decode cL_fields 281 = .ok (.invokestatic 115, 3) := by decide +kernel
theorem dL_fields_284 : decode cL_fields 284 = .ok (.ifCond .ne 7, 3) := by decide +kernel
theorem dL_fields_287 : decode cL_fields 287 = .ok (.iconst 1, 1) := by decide +kernel
theorem dL_fields_288 : decode cL_fields 288 = .ok (.goto 4, 3) := by decide +kernel
theorem dL_fields_291 : decode cL_fields 291 = .ok (.iconst 0, 1) := by decide +kernel
theorem dL_fields_292 : decode cL_fields 292 = .ok (.istore 7, 2) := by decide +kernel
theorem dL_fields_294 : decode cL_fields 294 = .ok (.aload_n 0, 1) := by decide +kernel
theorem dL_fields_295 : decode cL_fields 295 = .ok (.iload 6, 2) := by decide +kernel
theorem dL_fields_297 : decode cL_fields 297 = .ok (.iconst 1, 1) := by decide +kernel
theorem dL_fields_298 : decode cL_fields 298 = .ok (.iload 4, 2) := by decide +kernel
theorem dL_fields_300 : decode cL_fields 300 = .ok (.iconst 3, 1) := by decide +kernel
theorem dL_fields_301 : decode cL_fields 301 = .ok (.ishr, 1) := by decide +kernel
theorem dL_fields_302 : decode cL_fields 302 = .ok (.bipush 8, 2) := by decide +kernel
theorem dL_fields_304 : decode cL_fields 304 = .ok (.invokestatic 115, 3) := by decide +kernel
theorem dL_fields_307 : decode cL_fields 307 = .ok (.iadd, 1) := by decide +kernel
theorem dL_fields_308 : decode cL_fields 308 = .ok (.iconst 2, 1) := by decide +kernel
theorem dL_fields_309 : decode cL_fields 309 = .ok (.iload 4, 2) := by decide +kernel
theorem dL_fields_311 : decode cL_fields 311 = .ok (.bipush 6, 2) := by decide +kernel
theorem dL_fields_313 : decode cL_fields 313 = .ok (.ishr, 1) := by decide +kernel
theorem dL_fields_314 : decode cL_fields 314 = .ok (.bipush 11, 2) := by decide +kernel
theorem dL_fields_316 : decode cL_fields 316 = .ok (.invokestatic 115, 3) := by decide +kernel
theorem dL_fields_319 : decode cL_fields 319 = .ok (.iadd, 1) := by decide +kernel
theorem dL_fields_320 : decode cL_fields 320 = .ok (.iload 4, 2) := by decide +kernel
theorem dL_fields_322 : decode cL_fields 322 = .ok (.bipush 8, 2) := by decide +kernel
theorem dL_fields_324 : decode cL_fields 324 = .ok (.ishr, 1) := by decide +kernel
theorem dL_fields_325 : decode cL_fields 325 = .ok (.bipush 12, 2) := by decide +kernel
theorem dL_fields_327 : decode cL_fields 327 = .ok (.invokestatic 115, 3) := by decide +kernel
theorem dL_fields_330 : decode cL_fields 330 = .ok (.iload 4, 2) := by decide +kernel
theorem dL_fields_332 : decode cL_fields 332 = .ok (.bipush 10, 2) := by decide +kernel
theorem dL_fields_334 : decode cL_fields 334 = .ok (.ishr, 1) := by decide +kernel
theorem dL_fields_335 : decode cL_fields 335 = .ok (.iconst 4, 1) := by decide +kernel
theorem dL_fields_336 : decode cL_fields 336 = .ok (.invokestatic 115, 3) := by decide +kernel
theorem dL_fields_339 : decode cL_fields 339 = .ok (.iload 7, 2) := by decide +kernel
theorem dL_fields_341 : decode cL_fields 341 = .ok (.invokestatic 122, 3) := by decide +kernel
theorem dL_fields_344 : decode cL_fields 344 = .ok (.istore 8, 2) := by decide +kernel
theorem dL_fields_346 : decode cL_fields 346 = .ok (.iload 8, 2) := by decide +kernel
theorem dL_fields_348 : decode cL_fields 348 = .ok (.ifCond .ne 60, 3) := by decide +kernel
theorem dL_fields_351 : decode cL_fields 351 = .ok (.aload_n 1, 1) := by decide +kernel
theorem dL_fields_352 : decode cL_fields 352 = .ok (.iload 6, 2) := by decide +kernel
theorem dL_fields_354 : decode cL_fields 354 = .ok (.iconst 1, 1) := by decide +kernel
theorem dL_fields_355 : decode cL_fields 355 = .ok (.iload 4, 2) := by decide +kernel
theorem dL_fields_357 : decode cL_fields 357 = .ok (.iconst 3, 1) := by decide +kernel
theorem dL_fields_358 : decode cL_fields 358 = .ok (.ishr, 1) := by decide +kernel
theorem dL_fields_359 : decode cL_fields 359 = .ok (.bipush 8, 2) := by decide +kernel
theorem dL_fields_361 : decode cL_fields 361 = .ok (.invokestatic 115, 3) := by decide +kernel
theorem dL_fields_364 : decode cL_fields 364 = .ok (.iadd, 1) := by decide +kernel
theorem dL_fields_365 : decode cL_fields 365 = .ok (.iconst 2, 1) := by decide +kernel
theorem dL_fields_366 : decode cL_fields 366 = .ok (.iload 4, 2) := by decide +kernel
theorem dL_fields_368 : decode cL_fields 368 = .ok (.bipush 6, 2) := by decide +kernel
theorem dL_fields_370 : decode cL_fields 370 = .ok (.ishr, 1) := by decide +kernel
theorem dL_fields_371 : decode cL_fields 371 = .ok (.bipush 11, 2) := by decide +kernel
theorem dL_fields_373 : decode cL_fields 373 = .ok (.invokestatic 115, 3) := by decide +kernel
theorem dL_fields_376 : decode cL_fields 376 = .ok (.iadd, 1) := by decide +kernel
theorem dL_fields_377 : decode cL_fields 377 = .ok (.iload 4, 2) := by decide +kernel
theorem dL_fields_379 : decode cL_fields 379 = .ok (.bipush 8, 2) := by decide +kernel
theorem dL_fields_381 : decode cL_fields 381 = .ok (.ishr, 1) := by decide +kernel
theorem dL_fields_382 : decode cL_fields 382 = .ok (.bipush 12, 2) := by decide +kernel
theorem dL_fields_384 : decode cL_fields 384 = .ok (.invokestatic 115, 3) := by decide +kernel
theorem dL_fields_387 : decode cL_fields 387 = .ok (.iload 4, 2) := by decide +kernel
theorem dL_fields_389 : decode cL_fields 389 = .ok (.bipush 10, 2) := by decide +kernel
theorem dL_fields_391 : decode cL_fields 391 = .ok (.ishr, 1) := by decide +kernel
theorem dL_fields_392 : decode cL_fields 392 = .ok (.iconst 4, 1) := by decide +kernel
theorem dL_fields_393 : decode cL_fields 393 = .ok (.invokestatic 115, 3) := by decide +kernel
theorem dL_fields_396 : decode cL_fields 396 = .ok (.iload 7, 2) := by decide +kernel
theorem dL_fields_398 : decode cL_fields 398 = .ok (.invokestatic 122, 3) := by decide +kernel
theorem dL_fields_401 : decode cL_fields 401 = .ok (.ifCond .ne 7, 3) := by decide +kernel
theorem dL_fields_404 : decode cL_fields 404 = .ok (.iconst 1, 1) := by decide +kernel
theorem dL_fields_405 : decode cL_fields 405 = .ok (.goto 4, 3) := by decide +kernel
theorem dL_fields_408 : decode cL_fields 408 = .ok (.iconst 0, 1) := by decide +kernel
theorem dL_fields_409 : decode cL_fields 409 = .ok (.ireturn, 1) := by decide +kernel
theorem dL_fields_410 : decode cL_fields 410 = .ok (.iload 5, 2) := by decide +kernel
theorem dL_fields_412 : decode cL_fields 412 = .ok (.bipush 15, 2) := by decide +kernel
theorem dL_fields_414 : decode cL_fields 414 = .ok (.if_icmp .ge 44, 3) := by decide +kernel
theorem dL_fields_417 : decode cL_fields 417 = .ok (.aload_n 0, 1) := by decide +kernel
theorem dL_fields_418 : decode cL_fields 418 = .ok (.aload_n 1, 1) := by decide +kernel
theorem dL_fields_419 : decode cL_fields 419 = .ok (.iconst 2, 1) := by decide +kernel
theorem dL_fields_420 : decode cL_fields 420 = .ok (.iload 6, 2) := by decide +kernel
theorem dL_fields_422 : decode cL_fields 422 = .ok (.bipush 40, 2) := by decide +kernel
theorem dL_fields_424 : decode cL_fields 424 = .ok (.iload 4, 2) := by decide +kernel
theorem dL_fields_426 : decode cL_fields 426 = .ok (.iconst 4, 1) := by decide +kernel
theorem dL_fields_427 : decode cL_fields 427 = .ok (.ishr, 1) := by decide +kernel
theorem dL_fields_428 : decode cL_fields 428 = .ok (.bipush 110, 2) := by decide +kernel
theorem dL_fields_430 : decode cL_fields 430 = .ok (.invokestatic 115, 3) := by decide +kernel
theorem dL_fields_433 : decode cL_fields 433 = .ok (.iadd, 1) := by decide +kernel
theorem dL_fields_434 : decode cL_fields 434 = .ok (.iconst 0, 1) := by decide +kernel
theorem dL_fields_435 : decode cL_fields 435 = .ok (.invokestatic 118, 3) := by decide +kernel
theorem dL_fields_438 : decode cL_fields 438 = .ok (.istore 7, 2) := by decide +kernel
theorem dL_fields_440 : decode cL_fields 440 = .ok (.iload 7, 2) := by decide +kernel
theorem dL_fields_442 : decode cL_fields 442 = .ok (.ifCond .eq 10, 3) := by decide +kernel
theorem dL_fields_445 : decode cL_fields 445 = .ok (.iload 7, 2) := by decide +kernel
theorem dL_fields_447 : decode cL_fields 447 = .ok (.ldc 23, 2) := by decide +kernel
theorem dL_fields_449 : decode cL_fields 449 = .ok (.if_icmp .ne 7, 3) := by decide +kernel
theorem dL_fields_452 : decode cL_fields 452 = .ok (.iconst 1, 1) := by decide +kernel
theorem dL_fields_453 : decode cL_fields 453 = .ok (.goto 4, 3) := by decide +kernel
theorem dL_fields_456 : decode cL_fields 456 = .ok (.iconst 0, 1) := by decide +kernel
theorem dL_fields_457 : decode cL_fields 457 = .ok (.ireturn, 1) := by decide +kernel
theorem dL_fields_458 : decode cL_fields 458 = .ok (.aload_n 2, 1) := by decide +kernel
theorem dL_fields_459 : decode cL_fields 459 = .ok (.iconst 1, 1) := by decide +kernel
theorem dL_fields_460 : decode cL_fields 460 = .ok (.iaload, 1) := by decide +kernel
theorem dL_fields_461 : decode cL_fields 461 = .ok (.istore 7, 2) := by decide +kernel
theorem dL_fields_463 : decode cL_fields 463 = .ok (.aload_n 2, 1) := by decide +kernel
theorem dL_fields_464 : decode cL_fields 464 = .ok (.iconst 1, 1) := by decide +kernel
theorem dL_fields_465 : decode cL_fields 465 = .ok (.iload 4, 2) := by decide +kernel
theorem dL_fields_467 : decode cL_fields 467 = .ok (.bipush 101, 2) := by decide +kernel
theorem dL_fields_469 : decode cL_fields 469 = .ok (.invokestatic 115, 3) := by decide +kernel
theorem dL_fields_472 : decode cL_fields 472 = .ok (.iastore, 1) := by decide +kernel
theorem dL_fields_473 : decode cL_fields 473 = .ok (.aload_n 0, 1) := by decide +kernel
theorem dL_fields_474 : decode cL_fields 474 = .ok (.aload_n 1, 1) := by decide +kernel
theorem dL_fields_475 : decode cL_fields 475 = .ok (.iconst 3, 1) := by decide +kernel
theorem dL_fields_476 : decode cL_fields 476 = .ok (.aload_n 2, 1) := by decide +kernel
theorem dL_fields_477 : decode cL_fields 477 = .ok (.iconst 1, 1) := by decide +kernel
theorem dL_fields_478 : decode cL_fields 478 = .ok (.iaload, 1) := by decide +kernel
theorem dL_fields_479 : decode cL_fields 479 = .ok (.iconst 0, 1) := by decide +kernel
theorem dL_fields_480 : decode cL_fields 480 = .ok (.iconst 0, 1) := by decide +kernel
theorem dL_fields_481 : decode cL_fields 481 = .ok (.invokestatic 118, 3) := by decide +kernel
theorem dL_fields_484 : decode cL_fields 484 = .ok (.iload 7, 2) := by decide +kernel
theorem dL_fields_486 : decode cL_fields 486 = .ok (.if_icmp .ne 7, 3) := by decide +kernel
theorem dL_fields_489 : decode cL_fields 489 = .ok (.iconst 1, 1) := by decide +kernel
theorem dL_fields_490 : decode cL_fields 490 = .ok (.goto 4, 3) := by decide +kernel
theorem dL_fields_493 : decode cL_fields 493 = .ok (.iconst 0, 1) := by decide +kernel
theorem dL_fields_494 : decode cL_fields 494 = .ok (.ireturn, 1) := by decide +kernel
theorem dL_sound_0 : decode cL_sound 0 = .ok (.aload_n 0, 1) := by decide +kernel
theorem dL_sound_1 : decode cL_sound 1 = .ok (.invokevirtual 93, 3) := by decide +kernel
theorem dL_sound_4 : decode cL_sound 4 = .ok (.istore_n 2, 1) := by decide +kernel
theorem dL_sound_5 : decode cL_sound 5 = .ok (.iconst 0, 1) := by decide +kernel
theorem dL_sound_6 : decode cL_sound 6 = .ok (.istore_n 3, 1) := by decide +kernel
theorem dL_sound_7 : decode cL_sound 7 = .ok (.iconst 0, 1) := by decide +kernel
theorem dL_sound_8 : decode cL_sound 8 = .ok (.istore 4, 2) := by decide +kernel
theorem dL_sound_10 : decode cL_sound 10 = .ok (.iconst 0, 1) := by decide +kernel
theorem dL_sound_11 : decode cL_sound 11 = .ok (.istore 5, 2) := by decide +kernel
theorem dL_sound_13 : decode cL_sound 13 = .ok (.iload_n 2, 1) := by decide +kernel
theorem dL_sound_14 : decode cL_sound 14 = .ok (.ifCond .le 19, 3) := by decide +kernel
theorem dL_sound_17 : decode cL_sound 17 = .ok (.aload_n 0, 1) := by decide +kernel
theorem dL_sound_18 : decode cL_sound 18 = .ok (.iload_n 2, 1) := by decide +kernel
theorem dL_sound_19 : decode cL_sound 19 = .ok (.iconst 1, 1) := by decide +kernel
theorem dL_sound_20 : decode cL_sound 20 = .ok (.isub, 1) := by decide +kernel
theorem dL_sound_21 : decode cL_sound 21 = .ok (.iconst 0, 1) := by decide +kernel
theorem dL_sound_22 : decode cL_sound 22 = .ok (.invokevirtual 42, 3) := by decide +kernel
theorem dL_sound_25 : decode cL_sound 25 = .ok (.iconst 4, 1) := by decide +kernel
theorem dL_sound_26 : decode cL_sound 26 = .ok (.if_icmp .ne 7, 3) := by decide +kernel
theorem dL_sound_29 : decode cL_sound 29 = .ok (.iconst 1, 1) := by decide +kernel
theorem dL_sound_30 : decode cL_sound 30 = .ok (.goto 4, 3) := by decide +kernel
theorem dL_sound_33 : decode cL_sound 33 = .ok (.iconst 0, 1) := by decide +kernel
theorem dL_sound_34 : decode cL_sound 34 = .ok (.istore 6, 2) := by decide +kernel
theorem dL_sound_36 : decode cL_sound 36 = .ok (.iconst 0, 1) := by decide +kernel
theorem dL_sound_37 : decode cL_sound 37 = .ok (.istore 7, 2) := by decide +kernel
theorem dL_sound_39 : decode cL_sound 39 = .ok (.iload 7, 2) := by decide +kernel
theorem dL_sound_41 : decode cL_sound 41 = .ok (.iload_n 2, 1) := by decide +kernel
theorem dL_sound_42 : decode cL_sound 42 = .ok (.if_icmp .ge 238, 3) := by decide +kernel
theorem dL_sound_45 : decode cL_sound 45 = .ok (.iload 6, 2) := by decide +kernel
theorem dL_sound_47 : decode cL_sound 47 = .ok (.ifCond .eq 233, 3) := by decide +kernel
theorem dL_sound_50 : decode cL_sound 50 = .ok (.aload_n 0, 1) := by decide +kernel
theorem dL_sound_51 : decode cL_sound 51 = .ok (.iload 7, 2) := by decide +kernel
theorem dL_sound_53 : decode cL_sound 53 = .ok (.iconst 0, 1) := by decide +kernel
theorem dL_sound_54 : decode cL_sound 54 = .ok (.invokevirtual 42, 3) := by decide +kernel
theorem dL_sound_57 : decode cL_sound 57 = .ok (.istore 8, 2) := by decide +kernel
theorem dL_sound_59 : decode cL_sound 59 = .ok (.aload_n 0, 1) := by decide +kernel
theorem dL_sound_60 : decode cL_sound 60 = .ok (.iload 7, 2) := by decide +kernel
theorem dL_sound_62 : decode cL_sound 62 = .ok (.iconst 1, 1) := by decide +kernel
theorem dL_sound_63 : decode cL_sound 63 = .ok (.invokevirtual 42, 3) := by decide +kernel
theorem dL_sound_66 : decode cL_sound 66 = .ok (.istore 9, 2) := by decide +kernel
theorem dL_sound_68 : decode cL_sound 68 = .ok (.aload_n 0, 1) := by decide +kernel
theorem dL_sound_69 : decode cL_sound 69 = .ok (.iload 7, 2) := by decide +kernel
theorem dL_sound_71 : decode cL_sound 71 = .ok (.iconst 2, 1) := by decide +kernel
theorem dL_sound_72 : decode cL_sound 72 = .ok (.invokevirtual 42, 3) := by decide +kernel
theorem dL_sound_75 : decode cL_sound 75 = .ok (.istore 10, 2) := by decide +kernel
theorem dL_sound_77 : decode cL_sound 77 = .ok (.aload_n 0, 1) := by decide +kernel
theorem dL_sound_78 : decode cL_sound 78 = .ok (.iload 7, 2) := by decide +kernel
theorem dL_sound_80 : decode cL_sound 80 = .ok (.iconst 3, 1) := by decide +kernel
theorem dL_sound_81 : decode cL_sound 81 = .ok (.invokevirtual 42, 3) := by decide +kernel
theorem dL_sound_84 : decode cL_sound 84 = .ok (.istore 11, 2) := by decide +kernel
theorem dL_sound_86 : decode cL_sound 86 = .ok (.iload_n 3, 1) := by decide +kernel
theorem dL_sound_87 : decode cL_sound 87 = .ok (.iload 9, 2) := by decide +kernel
theorem dL_sound_89 : decode cL_sound 89 = .ok (.iadd, 1) := by decide +kernel
theorem dL_sound_90 : decode cL_sound 90 = .ok (.istore_n 3, 1) := by decide +kernel
theorem dL_sound_91 : decode cL_sound 91 = .ok (.iload 4, 2) := by decide +kernel
theorem dL_sound_93 : decode cL_sound 93 = .ok (.iload 10, 2) := by decide +kernel
theorem dL_sound_95 : decode cL_sound 95 = .ok (.iadd, 1) := by decide +kernel
theorem dL_sound_96 : decode cL_sound 96 = .ok (.istore 4, 2) := by decide +kernel
theorem dL_sound_98 : decode cL_sound 98 = .ok (.iload 5, 2) := by decide +kernel
theorem dL_sound_100 : decode cL_sound 100 = .ok (.iload 8, 2) := by decide +kernel
theorem dL_sound_102 : decode cL_sound 102 = .ok (.ifCond .ne 7, 3) := by decide +kernel
theorem dL_sound_105 : decode cL_sound 105 = .ok (.iconst 1, 1) := by decide +kernel
theorem dL_sound_106 : decode cL_sound 106 = .ok (.goto 4, 3) := by decide +kernel
theorem dL_sound_109 : decode cL_sound 109 = .ok (.iconst 0, 1) := by decide +kernel
theorem dL_sound_110 : decode cL_sound 110 = .ok (.iadd, 1) := by decide +kernel
theorem dL_sound_111 : decode cL_sound 111 = .ok (.istore 5, 2) := by decide +kernel
theorem dL_sound_113 : decode cL_sound 113 = .ok (.iload 9, 2) := by decide +kernel
theorem dL_sound_115 : decode cL_sound 115 = .ok (.ifCond .ne 8, 3) := by decide +kernel
theorem dL_sound_118 : decode cL_sound 118 = .ok (.iload 10, 2) := by decide +kernel
theorem dL_sound_120 : decode cL_sound 120 = .ok (.ifCond .eq 7, 3) := by decide +kernel
theorem dL_sound_123 : decode cL_sound 123 = .ok (.iconst 1, 1) := by decide +kernel
theorem dL_sound_124 : decode cL_sound 124 = .ok (.goto 4, 3) := by decide +kernel
theorem dL_sound_127 : decode cL_sound 127 = .ok (.iconst 0, 1) := by decide +kernel
theorem dL_sound_128 : decode cL_sound 128 = .ok (.istore 12, 2) := by decide +kernel
theorem dL_sound_130 : decode cL_sound 130 = .ok (.iload 8, 2) := by decide +kernel
theorem dL_sound_132 : decode cL_sound 132 = .ok (.iconst 2, 1) := by decide +kernel
theorem dL_sound_133 : decode cL_sound 133 = .ok (.if_icmp .ge 53, 3) := by decide +kernel
theorem dL_sound_136 : decode cL_sound 136 = .ok (.iload 12, 2) := by decide +kernel
theorem dL_sound_138 : decode cL_sound 138 = .ok (.ifCond .eq 44, 3) := by decide +kernel
theorem dL_sound_141 : decode cL_sound 141 = .ok (.iload 11, 2) := by decide +kernel
theorem dL_sound_143 : decode cL_sound 143 = .ok (.ifCond .lt 39, 3) := by decide +kernel
theorem dL_sound_146 : decode cL_sound 146 = .ok (.iload 11, 2) := by decide +kernel
theorem dL_sound_148 : decode cL_sound 148 = .ok (.aload_n 1, 1) := by decide +kernel
theorem dL_sound_149 : decode cL_sound 149 = .ok (.iconst 0, 1) := by decide +kernel
theorem dL_sound_150 : decode cL_sound 150 = .ok (.iaload, 1) := by decide +kernel
theorem dL_sound_151 : decode cL_sound 151 = .ok (.if_icmp .ge 31, 3) := by decide +kernel
theorem dL_sound_154 : decode cL_sound 154 = .ok (.iload_n 3, 1) := by decide +kernel
theorem dL_sound_155 : decode cL_sound 155 = .ok (.bipush (-4), 2) := by decide +kernel
theorem dL_sound_157 : decode cL_sound 157 = .ok (.if_icmp .le 25, 3) := by decide +kernel
theorem dL_sound_160 : decode cL_sound 160 = .ok (.iload_n 3, 1) := by decide +kernel
theorem dL_sound_161 : decode cL_sound 161 = .ok (.bipush 36, 2) := by decide +kernel
theorem dL_sound_163 : decode cL_sound 163 = .ok (.if_icmp .ge 19, 3) := by decide +kernel
theorem dL_sound_166 : decode cL_sound 166 = .ok (.iload 4, 2) := by decide +kernel
theorem dL_sound_168 : decode cL_sound 168 = .ok (.ifCond .lt 14, 3) := by decide +kernel
theorem dL_sound_171 : decode cL_sound 171 = .ok (.iload 4, 2) := by decide +kernel
theorem dL_sound_173 : decode cL_sound 173 = .ok (.bipush 32, 2) := by decide +kernel
theorem dL_sound_175 : decode cL_sound 175 = .ok (.if_icmp .ge 7, 3) := by decide +kernel
theorem dL_sound_178 : decode cL_sound 178 = .ok (.iconst 1, 1) := by decide +kernel
theorem dL_sound_179 : decode cL_sound 179 = .ok (.goto 23, 3) := by decide +kernel
theorem dL_sound_182 : decode cL_sound 182 = .ok (.iconst 0, 1) := by decide +kernel
theorem dL_sound_183 : decode cL_sound 183 = .ok (.goto 19, 3) := by decide +kernel
theorem dL_sound_186 : decode cL_sound 186 = .ok (.iload 12, 2) := by decide +kernel
theorem dL_sound_188 : decode cL_sound 188 = .ok (.ifCond .ne 13, 3) := by decide +kernel
theorem dL_sound_191 : decode cL_sound 191 = .ok (.iload 11, 2) := by decide +kernel
theorem dL_sound_193 : decode cL_sound 193 = .ok (.iconst (-1), 1) := by decide +kernel
theorem dL_sound_194 : decode cL_sound 194 = .ok (.if_icmp .ne 7, 3) := by decide +kernel
theorem dL_sound_197 : decode cL_sound 197 = .ok (.iconst 1, 1) := by decide +kernel
theorem dL_sound_198 : decode cL_sound 198 = .ok (.goto 4, 3) := by decide +kernel
theorem dL_sound_201 : decode cL_sound 201 = .ok (.iconst 0, 1) := by decide +kernel
theorem dL_sound_202 : decode cL_sound 202 = .ok (.istore 6, 2) := by decide +kernel
theorem dL_sound_204 : decode cL_sound 204 = .ok (.iload 6, 2) := by decide +kernel
theorem dL_sound_206 : decode cL_sound 206 = .ok (.ifCond .eq 65, 3) := by decide +kernel
theorem dL_sound_209 : decode cL_sound 209 = .ok (.iload 8, 2) := by decide +kernel
theorem dL_sound_211 : decode cL_sound 211 = .ok (.ifCond .ne 23, 3) := by decide +kernel
theorem dL_sound_214 : decode cL_sound 214 = .ok (.iload 9, 2) := by decide +kernel
theorem dL_sound_216 : decode cL_sound 216 = .ok (.invokestatic 125, 3) := by decide +kernel
theorem dL_sound_219 : decode cL_sound 219 = .ok (.bipush 13, 2) := by decide +kernel
theorem dL_sound_221 : decode cL_sound 221 = .ok (.if_icmp .ge 50, 3) := by decide +kernel
theorem dL_sound_224 : decode cL_sound 224 = .ok (.iload 10, 2) := by decide +kernel
theorem dL_sound_226 : decode cL_sound 226 = .ok (.invokestatic 125, 3) := by decide +kernel
theorem dL_sound_229 : decode cL_sound 229 = .ok (.bipush 13, 2) := by decide +kernel
theorem dL_sound_231 : decode cL_sound 231 = .ok (.if_icmp .ge 40, 3) := by decide +kernel
theorem dL_sound_234 : decode cL_sound 234 = .ok (.iload 8, 2) := by decide +kernel
theorem dL_sound_236 : decode cL_sound 236 = .ok (.iconst 2, 1) := by decide +kernel
theorem dL_sound_237 : decode cL_sound 237 = .ok (.if_icmp .ne 16, 3) := by decide +kernel
theorem dL_sound_240 : decode cL_sound 240 = .ok (.aload_n 0, 1) := by decide +kernel
theorem dL_sound_241 : decode cL_sound 241 = .ok (.iload 7, 2) := by decide +kernel
theorem dL_sound_243 : decode cL_sound 243 = .ok (.iconst 1, 1) := by decide +kernel
theorem dL_sound_244 : decode cL_sound 244 = .ok (.iadd, 1) := by decide +kernel
theorem dL_sound_245 : decode cL_sound 245 = .ok (.iconst 0, 1) := by decide +kernel
theorem dL_sound_246 : decode cL_sound 246 = .ok (.invokevirtual 42, 3) := by decide +kernel
theorem dL_sound_249 : decode cL_sound 249 = .ok (.iconst 1, 1) := by decide +kernel
theorem dL_sound_250 : decode cL_sound 250 = .ok (.if_icmp .ne 21, 3) := by decide +kernel
theorem dL_sound_253 : decode cL_sound 253 = .ok (.iload 8, 2) := by decide +kernel
theorem dL_sound_255 : decode cL_sound 255 = .ok (.iconst 4, 1) := by decide +kernel
theorem dL_sound_256 : decode cL_sound 256 = .ok (.if_icmp .ne 11, 3) := by decide +kernel
theorem dL_sound_259 : decode cL_sound 259 = .ok (.iload 7, 2) := by decide +kernel
theorem dL_sound_261 : decode cL_sound 261 = .ok (.iload_n 2, 1) := by decide +kernel
theorem dL_sound_262 : decode cL_sound 262 = .ok (.iconst 1, 1) := by decide +kernel
theorem dL_sound_263 : decode cL_sound 263 = .ok (.isub, 1) := by decide +kernel
theorem dL_sound_264 : decode cL_sound 264 = .ok (.if_icmp .ne 7, 3) := by decide +kernel
theorem dL_sound_267 : decode cL_sound 267 = .ok (.iconst 1, 1) := by decide +kernel
theorem dL_sound_268 : decode cL_sound 268 = .ok (.goto 4, 3) := by decide +kernel
theorem dL_sound_271 : decode cL_sound 271 = .ok (.iconst 0, 1) := by decide +kernel
theorem dL_sound_272 : decode cL_sound 272 = .ok (.istore 6, 2) := by decide +kernel
theorem dL_sound_274 : decode cL_sound 274 = .ok (.iinc 7 1, 3) := by decide +kernel
theorem dL_sound_277 : decode cL_sound 277 = .ok (.goto (-238), 3) := by decide +kernel
theorem dL_sound_280 : decode cL_sound 280 = .ok (.iload 6, 2) := by decide +kernel
theorem dL_sound_282 : decode cL_sound 282 = .ok (.ifCond .eq 35, 3) := by decide +kernel
theorem dL_sound_285 : decode cL_sound 285 = .ok (.aload_n 0, 1) := by decide +kernel
theorem dL_sound_286 : decode cL_sound 286 = .ok (.iconst 0, 1) := by decide +kernel
theorem dL_sound_287 : decode cL_sound 287 = .ok (.invokevirtual 46, 3) := by decide +kernel
theorem dL_sound_290 : decode cL_sound 290 = .ok (.iload 5, 2) := by decide +kernel
theorem dL_sound_292 : decode cL_sound 292 = .ok (.if_icmp .ne 25, 3) := by decide +kernel
theorem dL_sound_295 : decode cL_sound 295 = .ok (.aload_n 0, 1) := by decide +kernel
theorem dL_sound_296 : decode cL_sound 296 = .ok (.iconst 4, 1) := by decide +kernel
theorem dL_sound_297 : decode cL_sound 297 = .ok (.invokevirtual 46, 3) := by decide +kernel
theorem dL_sound_300 : decode cL_sound 300 = .ok (.iconst 1, 1) := by decide +kernel
theorem dL_sound_301 : decode cL_sound 301 = .ok (.if_icmp .ne 16, 3) := by decide +kernel
theorem dL_sound_304 : decode cL_sound 304 = .ok (.aload_n 0, 1) := by decide +kernel
theorem dL_sound_305 : decode cL_sound 305 = .ok (.invokevirtual 128, 3) := by decide +kernel
theorem dL_sound_308 : decode cL_sound 308 = .ok (.fconst 0, 1) := by decide +kernel
theorem dL_sound_309 : decode cL_sound 309 = .ok (.fcmp .l, 1) := by decide +kernel
theorem dL_sound_310 : decode cL_sound 310 = .ok (.ifCond .lt 7, 3) := by decide +kernel
theorem dL_sound_313 : decode cL_sound 313 = .ok (.iconst 1, 1) := by decide +kernel
theorem dL_sound_314 : decode cL_sound 314 = .ok (.goto 4, 3) := by decide +kernel
theorem dL_sound_317 : decode cL_sound 317 = .ok (.iconst 0, 1) := by decide +kernel
theorem dL_sound_318 : decode cL_sound 318 = .ok (.ireturn, 1) := by decide +kernel
theorem dL_files_0 : decode cL_files 0 = .ok (.iload_n 3, 1) := by decide +kernel
theorem dL_files_1 : decode cL_files 1 = .ok (.bipush 6, 2) := by decide +kernel
theorem dL_files_3 : decode cL_files 3 = .ok (.invokestatic 115, 3) := by decide +kernel
theorem dL_files_6 : decode cL_files 6 = .ok (.istore 5, 2) := by decide +kernel
theorem dL_files_8 : decode cL_files 8 = .ok (.iload 5, 2) := by decide +kernel
theorem dL_files_10 : decode cL_files 10 = .ok (.iconst 2, 1) := by decide +kernel
theorem dL_files_11 : decode cL_files 11 = .ok (.if_icmp .lt 9, 3) := by decide +kernel
theorem dL_files_14 : decode cL_files 14 = .ok (.aload_n 2, 1) := by decide +kernel
theorem dL_files_15 : decode cL_files 15 = .ok (.iconst 2, 1) := by decide +kernel
theorem dL_files_16 : decode cL_files 16 = .ok (.iaload, 1) := by decide +kernel
theorem dL_files_17 : decode cL_files 17 = .ok (.ifCond .ne 68, 3) := by decide +kernel
theorem dL_files_20 : decode cL_files 20 = .ok (.iload 4, 2) := by decide +kernel
theorem dL_files_22 : decode cL_files 22 = .ok (.iconst 2, 1) := by decide +kernel
theorem dL_files_23 : decode cL_files 23 = .ok (.invokestatic 115, 3) := by decide +kernel
theorem dL_files_26 : decode cL_files 26 = .ok (.istore 6, 2) := by decide +kernel
theorem dL_files_28 : decode cL_files 28 = .ok (.aload_n 2, 1) := by decide +kernel
theorem dL_files_29 : decode cL_files 29 = .ok (.iconst 2, 1) := by decide +kernel
theorem dL_files_30 : decode cL_files 30 = .ok (.aload_n 0, 1) := by decide +kernel
theorem dL_files_31 : decode cL_files 31 = .ok (.aload_n 1, 1) := by decide +kernel
theorem dL_files_32 : decode cL_files 32 = .ok (.bipush 9, 2) := by decide +kernel
theorem dL_files_34 : decode cL_files 34 = .ok (.iload 6, 2) := by decide +kernel
theorem dL_files_36 : decode cL_files 36 = .ok (.iconst 0, 1) := by decide +kernel
theorem dL_files_37 : decode cL_files 37 = .ok (.iconst 0, 1) := by decide +kernel
theorem dL_files_38 : decode cL_files 38 = .ok (.invokestatic 118, 3) := by decide +kernel
theorem dL_files_41 : decode cL_files 41 = .ok (.iastore, 1) := by decide +kernel
theorem dL_files_42 : decode cL_files 42 = .ok (.aload_n 2, 1) := by decide +kernel
theorem dL_files_43 : decode cL_files 43 = .ok (.iconst 2, 1) := by decide +kernel
theorem dL_files_44 : decode cL_files 44 = .ok (.iaload, 1) := by decide +kernel
theorem dL_files_45 : decode cL_files 45 = .ok (.iconst 2, 1) := by decide +kernel
theorem dL_files_46 : decode cL_files 46 = .ok (.iload 6, 2) := by decide +kernel
theorem dL_files_48 : decode cL_files 48 = .ok (.iadd, 1) := by decide +kernel
theorem dL_files_49 : decode cL_files 49 = .ok (.aload_n 0, 1) := by decide +kernel
theorem dL_files_50 : decode cL_files 50 = .ok (.invokevirtual 93, 3) := by decide +kernel
theorem dL_files_53 : decode cL_files 53 = .ok (.imul, 1) := by decide +kernel
theorem dL_files_54 : decode cL_files 54 = .ok (.iconst 1, 1) := by decide +kernel
theorem dL_files_55 : decode cL_files 55 = .ok (.iadd, 1) := by decide +kernel
theorem dL_files_56 : decode cL_files 56 = .ok (.if_icmp .lt 27, 3) := by decide +kernel
theorem dL_files_59 : decode cL_files 59 = .ok (.aload_n 0, 1) := by decide +kernel
theorem dL_files_60 : decode cL_files 60 = .ok (.invokevirtual 105, 3) := by decide +kernel
theorem dL_files_63 : decode cL_files 63 = .ok (.iconst (-1), 1) := by decide +kernel
theorem dL_files_64 : decode cL_files 64 = .ok (.if_icmp .ne 19, 3) := by decide +kernel
theorem dL_files_67 : decode cL_files 67 = .ok (.aload_n 0, 1) := by decide +kernel
theorem dL_files_68 : decode cL_files 68 = .ok (.invokevirtual 108, 3) := by decide +kernel
theorem dL_files_71 : decode cL_files 71 = .ok (.aload_n 0, 1) := by decide +kernel
theorem dL_files_72 : decode cL_files 72 = .ok (.iconst 0, 1) := by decide +kernel
theorem dL_files_73 : decode cL_files 73 = .ok (.invokevirtual 46, 3) := by decide +kernel
theorem dL_files_76 : decode cL_files 76 = .ok (.if_icmp .ne 7, 3) := by decide +kernel
theorem dL_files_79 : decode cL_files 79 = .ok (.iconst 1, 1) := by decide +kernel
theorem dL_files_80 : decode cL_files 80 = .ok (.goto 4, 3) := by decide +kernel
theorem dL_files_83 : decode cL_files 83 = .ok (.iconst 0, 1) := by decide +kernel
theorem dL_files_84 : decode cL_files 84 = .ok (.ireturn, 1) := by decide +kernel
theorem dL_files_85 : decode cL_files 85 = .ok (.iload 5, 2) := by decide +kernel
theorem dL_files_87 : decode cL_files 87 = .ok (.iconst 5, 1) := by decide +kernel
theorem dL_files_88 : decode cL_files 88 = .ok (.if_icmp .ge 134, 3) := by decide +kernel
theorem dL_files_91 : decode cL_files 91 = .ok (.iload 4, 2) := by decide +kernel
theorem dL_files_93 : decode cL_files 93 = .ok (.aload_n 2, 1) := by decide +kernel
theorem dL_files_94 : decode cL_files 94 = .ok (.iconst 2, 1) := by decide +kernel
theorem dL_files_95 : decode cL_files 95 = .ok (.iaload, 1) := by decide +kernel
theorem dL_files_96 : decode cL_files 96 = .ok (.invokestatic 115, 3) := by decide +kernel
theorem dL_files_99 : decode cL_files 99 = .ok (.istore 6, 2) := by decide +kernel
theorem dL_files_101 : decode cL_files 101 = .ok (.iload 4, 2) := by decide +kernel
theorem dL_files_103 : decode cL_files 103 = .ok (.bipush 11, 2) := by decide +kernel
theorem dL_files_105 : decode cL_files 105 = .ok (.ishr, 1) := by decide +kernel
theorem dL_files_106 : decode cL_files 106 = .ok (.sipush 256, 3) := by decide +kernel
theorem dL_files_109 : decode cL_files 109 = .ok (.invokestatic 115, 3) := by decide +kernel
theorem dL_files_112 : decode cL_files 112 = .ok (.istore 7, 2) := by decide +kernel
theorem dL_files_114 : decode cL_files 114 = .ok (.aload_n 0, 1) := by decide +kernel
theorem dL_files_115 : decode cL_files 115 = .ok (.iload 6, 2) := by decide +kernel
theorem dL_files_117 : decode cL_files 117 = .ok (.invokevirtual 62, 3) := by decide +kernel
theorem dL_files_120 : decode cL_files 120 = .ok (.istore 8, 2) := by decide +kernel
theorem dL_files_122 : decode cL_files 122 = .ok (.aload_n 0, 1) := by decide +kernel
theorem dL_files_123 : decode cL_files 123 = .ok (.invokevirtual 105, 3) := by decide +kernel
theorem dL_files_126 : decode cL_files 126 = .ok (.istore 9, 2) := by decide +kernel
theorem dL_files_128 : decode cL_files 128 = .ok (.aload_n 0, 1) := by decide +kernel
theorem dL_files_129 : decode cL_files 129 = .ok (.aload_n 1, 1) := by decide +kernel
theorem dL_files_130 : decode cL_files 130 = .ok (.bipush 11, 2) := by decide +kernel
theorem dL_files_132 : decode cL_files 132 = .ok (.iload 6, 2) := by decide +kernel
theorem dL_files_134 : decode cL_files 134 = .ok (.iload 7, 2) := by decide +kernel
theorem dL_files_136 : decode cL_files 136 = .ok (.iconst 0, 1) := by decide +kernel
theorem dL_files_137 : decode cL_files 137 = .ok (.invokestatic 118, 3) := by decide +kernel
theorem dL_files_140 : decode cL_files 140 = .ok (.istore 10, 2) := by decide +kernel
theorem dL_files_142 : decode cL_files 142 = .ok (.iload 9, 2) := by decide +kernel
theorem dL_files_144 : decode cL_files 144 = .ok (.iconst (-1), 1) := by decide +kernel
theorem dL_files_145 : decode cL_files 145 = .ok (.if_icmp .ne 7, 3) := by decide +kernel
theorem dL_files_148 : decode cL_files 148 = .ok (.iconst 1, 1) := by decide +kernel
theorem dL_files_149 : decode cL_files 149 = .ok (.goto 4, 3) := by decide +kernel
theorem dL_files_152 : decode cL_files 152 = .ok (.iconst 0, 1) := by decide +kernel
theorem dL_files_153 : decode cL_files 153 = .ok (.istore 11, 2) := by decide +kernel
theorem dL_files_155 : decode cL_files 155 = .ok (.iload 10, 2) := by decide +kernel
theorem dL_files_157 : decode cL_files 157 = .ok (.iload 8, 2) := by decide +kernel
theorem dL_files_159 : decode cL_files 159 = .ok (.if_icmp .ne 61, 3) := by decide +kernel
theorem dL_files_162 : decode cL_files 162 = .ok (.aload_n 0, 1) := by decide +kernel
theorem dL_files_163 : decode cL_files 163 = .ok (.iload 6, 2) := by decide +kernel
theorem dL_files_165 : decode cL_files 165 = .ok (.invokevirtual 62, 3) := by decide +kernel
theorem dL_files_168 : decode cL_files 168 = .ok (.iload 7, 2) := by decide +kernel
theorem dL_files_170 : decode cL_files 170 = .ok (.if_icmp .ne 50, 3) := by decide +kernel
theorem dL_files_173 : decode cL_files 173 = .ok (.iload 11, 2) := by decide +kernel
theorem dL_files_175 : decode cL_files 175 = .ok (.ifCond .eq 31, 3) := by decide +kernel
theorem dL_files_178 : decode cL_files 178 = .ok (.aload_n 0, 1) := by decide +kernel
theorem dL_files_179 : decode cL_files 179 = .ok (.invokevirtual 105, 3) := by decide +kernel
theorem dL_files_182 : decode cL_files 182 = .ok (.iconst (-1), 1) := by decide +kernel
theorem dL_files_183 : decode cL_files 183 = .ok (.if_icmp .ne 7, 3) := by decide +kernel
theorem dL_files_186 : decode cL_files 186 = .ok (.iconst 1, 1) := by decide +kernel
theorem dL_files_187 : decode cL_files 187 = .ok (.goto 4, 3) := by decide +kernel
theorem dL_files_190 : decode cL_files 190 = .ok (.iconst 0, 1) := by decide +kernel
theorem dL_files_191 : decode cL_files 191 = .ok (.iload 7, 2) := by decide +kernel
theorem dL_files_193 : decode cL_files 193 = .ok (.iload 8, 2) := by decide +kernel
theorem dL_files_195 : decode cL_files 195 = .ok (.if_icmp .ne 7, 3) := by decide +kernel
theorem dL_files_198 : decode cL_files 198 = .ok (.iconst 1, 1) := by decide +kernel
theorem dL_files_199 : decode cL_files 199 = .ok (.goto 4, 3) := by decide +kernel
theorem dL_files_202 : decode cL_files 202 = .ok (.iconst 0, 1) := by decide +kernel
theorem dL_files_203 : decode cL_files 203 = .ok (.if_icmp .ne 17, 3) := by decide +kernel
theorem dL_files_206 : decode cL_files 206 = .ok (.aload_n 0, 1) := by decide +kernel
theorem dL_files_207 : decode cL_files 207 = .ok (.invokevirtual 105, 3) := by decide +kernel
theorem dL_files_210 : decode cL_files 210 = .ok (.aload_n 2, 1) := by decide +kernel
theorem dL_files_211 : decode cL_files 211 = .ok (.iconst 2, 1) := by decide +kernel
theorem dL_files_212 : decode cL_files 212 = .ok (.iaload, 1) := by decide +kernel
theorem dL_files_213 : decode cL_files 213 = .ok (.if_icmp .gt 7, 3) := by decide +kernel
theorem dL_files_216 : decode cL_files 216 = .ok (.iconst 1, 1) := by decide +kernel
theorem dL_files_217 : decode cL_files 217 = .ok (.goto 4, 3) := by decide +kernel
theorem dL_files_220 : decode cL_files 220 = .ok (.iconst 0, 1) := by decide +kernel
theorem dL_files_221 : decode cL_files 221 = .ok (.ireturn, 1) := by decide +kernel
theorem dL_files_222 : decode cL_files 222 = .ok (.iload 4, 2) := by decide +kernel
theorem dL_files_224 : decode cL_files 224 = .ok (.aload_n 2, 1) := by decide +kernel
theorem dL_files_225 : decode cL_files 225 = .ok (.iconst 2, 1) := by decide +kernel
theorem dL_files_226 : decode cL_files 226 = .ok (.iaload, 1) := by decide +kernel
theorem dL_files_227 : decode cL_files 227 = .ok (.iconst 1, 1) := by decide +kernel
theorem dL_files_228 : decode cL_files 228 = .ok (.iadd, 1) := by decide +kernel
theorem dL_files_229 : decode cL_files 229 = .ok (.invokestatic 115, 3) := by decide +kernel
theorem dL_files_232 : decode cL_files 232 = .ok (.istore 6, 2) := by decide +kernel
theorem dL_files_234 : decode cL_files 234 = .ok (.aload_n 0, 1) := by decide +kernel
theorem dL_files_235 : decode cL_files 235 = .ok (.invokevirtual 105, 3) := by decide +kernel
theorem dL_files_238 : decode cL_files 238 = .ok (.istore 7, 2) := by decide +kernel
theorem dL_files_240 : decode cL_files 240 = .ok (.aload_n 0, 1) := by decide +kernel
theorem dL_files_241 : decode cL_files 241 = .ok (.aload_n 1, 1) := by decide +kernel
theorem dL_files_242 : decode cL_files 242 = .ok (.bipush 12, 2) := by decide +kernel
theorem dL_files_244 : decode cL_files 244 = .ok (.iload 6, 2) := by decide +kernel
theorem dL_files_246 : decode cL_files 246 = .ok (.iconst 0, 1) := by decide +kernel
theorem dL_files_247 : decode cL_files 247 = .ok (.iconst 0, 1) := by decide +kernel
theorem dL_files_248 : decode cL_files 248 = .ok (.invokestatic 118, 3) := by decide +kernel
theorem dL_files_251 : decode cL_files 251 = .ok (.istore 8, 2) := by decide +kernel
theorem dL_files_253 : decode cL_files 253 = .ok (.iload 8, 2) := by decide +kernel
theorem dL_files_255 : decode cL_files 255 = .ok (.aload_n 2, 1) := by decide +kernel
theorem dL_files_256 : decode cL_files 256 = .ok (.iconst 2, 1) := by decide +kernel
theorem dL_files_257 : decode cL_files 257 = .ok (.iaload, 1) := by decide +kernel
theorem dL_files_258 : decode cL_files 258 = .ok (.if_icmp .ne 50, 3) := by decide +kernel
theorem dL_files_261 : decode cL_files 261 = .ok (.aload_n 0, 1) := by decide +kernel
theorem dL_files_262 : decode cL_files 262 = .ok (.invokevirtual 105, 3) := by decide +kernel
theorem dL_files_265 : decode cL_files 265 = .ok (.iload 6, 2) := by decide +kernel
theorem dL_files_267 : decode cL_files 267 = .ok (.if_icmp .gt 41, 3) := by decide +kernel
theorem dL_files_270 : decode cL_files 270 = .ok (.iload 7, 2) := by decide +kernel
theorem dL_files_272 : decode cL_files 272 = .ok (.iconst (-1), 1) := by decide +kernel
theorem dL_files_273 : decode cL_files 273 = .ok (.if_icmp .ne 31, 3) := by decide +kernel
theorem dL_files_276 : decode cL_files 276 = .ok (.iload 6, 2) := by decide +kernel
theorem dL_files_278 : decode cL_files 278 = .ok (.iload 8, 2) := by decide +kernel
theorem dL_files_280 : decode cL_files 280 = .ok (.if_icmp .ne 7, 3) := by decide +kernel
theorem dL_files_283 : decode cL_files 283 = .ok (.iconst 1, 1) := by decide +kernel
theorem dL_files_284 : decode cL_files 284 = .ok (.goto 4, 3) := by decide +kernel
theorem dL_files_287 : decode cL_files 287 = .ok (.iconst 0, 1) := by decide +kernel
theorem dL_files_288 : decode cL_files 288 = .ok (.aload_n 0, 1) := by decide +kernel
theorem dL_files_289 : decode cL_files 289 = .ok (.invokevirtual 105, 3) := by decide +kernel
theorem dL_files_292 : decode cL_files 292 = .ok (.iconst (-1), 1) := by decide +kernel
theorem dL_files_293 : decode cL_files 293 = .ok (.if_icmp .ne 7, 3) := by decide +kernel
theorem dL_files_296 : decode cL_files 296 = .ok (.iconst 1, 1) := by decide +kernel
theorem dL_files_297 : decode cL_files 297 = .ok (.goto 4, 3) := by decide +kernel
theorem dL_files_300 : decode cL_files 300 = .ok (.iconst 0, 1) := by decide +kernel
theorem dL_files_301 : decode cL_files 301 = .ok (.if_icmp .ne 7, 3) := by decide +kernel
theorem dL_files_304 : decode cL_files 304 = .ok (.iconst 1, 1) := by decide +kernel
theorem dL_files_305 : decode cL_files 305 = .ok (.goto 4, 3) := by decide +kernel
theorem dL_files_308 : decode cL_files 308 = .ok (.iconst 0, 1) := by decide +kernel
theorem dL_files_309 : decode cL_files 309 = .ok (.istore 9, 2) := by decide +kernel
theorem dL_files_311 : decode cL_files 311 = .ok (.aload_n 2, 1) := by decide +kernel
theorem dL_files_312 : decode cL_files 312 = .ok (.iconst 2, 1) := by decide +kernel
theorem dL_files_313 : decode cL_files 313 = .ok (.iload 6, 2) := by decide +kernel
theorem dL_files_315 : decode cL_files 315 = .ok (.iastore, 1) := by decide +kernel
theorem dL_files_316 : decode cL_files 316 = .ok (.iload 9, 2) := by decide +kernel
theorem dL_files_318 : decode cL_files 318 = .ok (.ireturn, 1) := by decide +kernel
theorem dL_machine_0 : decode cL_machine 0 = .ok (.iload_n 3, 1) := by decide +kernel
theorem dL_machine_1 : decode cL_machine 1 = .ok (.bipush 8, 2) := by decide +kernel
theorem dL_machine_3 : decode cL_machine 3 = .ok (.invokestatic 115, 3) := by decide +kernel
theorem dL_machine_6 : decode cL_machine 6 = .ok (.istore 5, 2) := by decide +kernel
theorem dL_machine_8 : decode cL_machine 8 = .ok (.iload 5, 2) := by decide +kernel
theorem dL_machine_10 : decode cL_machine 10 = .ok (.iconst 1, 1) := by decide +kernel
theorem dL_machine_11 : decode cL_machine 11 = .ok (.if_icmp .lt 9, 3) := by decide +kernel
theorem dL_machine_14 : decode cL_machine 14 = .ok (.aload_n 2, 1) := by decide +kernel
theorem dL_machine_15 : decode cL_machine 15 = .ok (.iconst 3, 1) := by decide +kernel
theorem dL_machine_16 : decode cL_machine 16 = .ok (.iaload, 1) := by decide +kernel
theorem dL_machine_17 : decode cL_machine 17 = .ok (.ifCond .ne 85, 3) := by decide +kernel
theorem dL_machine_20 : decode cL_machine 20 = .ok (.aload_n 2, 1) := by decide +kernel
theorem dL_machine_21 : decode cL_machine 21 = .ok (.iconst 3, 1) := by decide +kernel
theorem dL_machine_22 : decode cL_machine 22 = .ok (.iconst 1, 1) := by decide +kernel
theorem dL_machine_23 : decode cL_machine 23 = .ok (.iload 4, 2) := by decide +kernel
theorem dL_machine_25 : decode cL_machine 25 = .ok (.iconst 4, 1) := by decide +kernel
theorem dL_machine_26 : decode cL_machine 26 = .ok (.invokestatic 115, 3) := by decide +kernel
theorem dL_machine_29 : decode cL_machine 29 = .ok (.iadd, 1) := by decide +kernel
theorem dL_machine_30 : decode cL_machine 30 = .ok (.iastore, 1) := by decide +kernel
theorem dL_machine_31 : decode cL_machine 31 = .ok (.aload_n 2, 1) := by decide +kernel
theorem dL_machine_32 : decode cL_machine 32 = .ok (.iconst 4, 1) := by decide +kernel
theorem dL_machine_33 : decode cL_machine 33 = .ok (.aload_n 0, 1) := by decide +kernel
theorem dL_machine_34 : decode cL_machine 34 = .ok (.invokevirtual 93, 3) := by decide +kernel
theorem dL_machine_37 : decode cL_machine 37 = .ok (.iastore, 1) := by decide +kernel
theorem dL_machine_38 : decode cL_machine 38 = .ok (.aload_n 2, 1) := by decide +kernel
theorem dL_machine_39 : decode cL_machine 39 = .ok (.iconst 5, 1) := by decide +kernel
theorem dL_machine_40 : decode cL_machine 40 = .ok (.iconst 0, 1) := by decide +kernel
theorem dL_machine_41 : decode cL_machine 41 = .ok (.iastore, 1) := by decide +kernel
theorem dL_machine_42 : decode cL_machine 42 = .ok (.iconst 0, 1) := by decide +kernel
theorem dL_machine_43 : decode cL_machine 43 = .ok (.istore 6, 2) := by decide +kernel
theorem dL_machine_45 : decode cL_machine 45 = .ok (.iload 6, 2) := by decide +kernel
theorem dL_machine_47 : decode cL_machine 47 = .ok (.iconst 4, 1) := by decide +kernel
theorem dL_machine_48 : decode cL_machine 48 = .ok (.if_icmp .ge 17, 3) := by decide +kernel
theorem dL_machine_51 : decode cL_machine 51 = .ok (.aload_n 2, 1) := by decide +kernel
theorem dL_machine_52 : decode cL_machine 52 = .ok (.bipush 22, 2) := by decide +kernel
theorem dL_machine_54 : decode cL_machine 54 = .ok (.iload 6, 2) := by decide +kernel
theorem dL_machine_56 : decode cL_machine 56 = .ok (.iadd, 1) := by decide +kernel
theorem dL_machine_57 : decode cL_machine 57 = .ok (.iconst (-1), 1) := by decide +kernel
theorem dL_machine_58 : decode cL_machine 58 = .ok (.iastore, 1) := by decide +kernel
theorem dL_machine_59 : decode cL_machine 59 = .ok (.iinc 6 1, 3) := by decide +kernel
theorem dL_machine_62 : decode cL_machine 62 = .ok (.goto (-17), 3) := by decide +kernel
theorem dL_machine_65 : decode cL_machine 65 = .ok (.aload_n 0, 1) := by decide +kernel
theorem dL_machine_66 : decode cL_machine 66 = .ok (.aload_n 1, 1) := by decide +kernel
theorem dL_machine_67 : decode cL_machine 67 = .ok (.bipush 13, 2) := by decide +kernel
theorem dL_machine_69 : decode cL_machine 69 = .ok (.aload_n 2, 1) := by decide +kernel
theorem dL_machine_70 : decode cL_machine 70 = .ok (.iconst 3, 1) := by decide +kernel
theorem dL_machine_71 : decode cL_machine 71 = .ok (.iaload, 1) := by decide +kernel
theorem dL_machine_72 : decode cL_machine 72 = .ok (.iload 4, 2) := by decide +kernel
theorem dL_machine_74 : decode cL_machine 74 = .ok (.iconst 3, 1) := by decide +kernel
theorem dL_machine_75 : decode cL_machine 75 = .ok (.ishr, 1) := by decide +kernel
theorem dL_machine_76 : decode cL_machine 76 = .ok (.bipush 6, 2) := by decide +kernel
theorem dL_machine_78 : decode cL_machine 78 = .ok (.invokestatic 115, 3) := by decide +kernel
theorem dL_machine_81 : decode cL_machine 81 = .ok (.iconst 0, 1) := by decide +kernel
theorem dL_machine_82 : decode cL_machine 82 = .ok (.invokestatic 118, 3) := by decide +kernel
theorem dL_machine_85 : decode cL_machine 85 = .ok (.ifCond .ne 15, 3) := by decide +kernel
theorem dL_machine_88 : decode cL_machine 88 = .ok (.aload_n 0, 1) := by decide +kernel
theorem dL_machine_89 : decode cL_machine 89 = .ok (.iconst 0, 1) := by decide +kernel
theorem dL_machine_90 : decode cL_machine 90 = .ok (.invokevirtual 84, 3) := by decide +kernel
theorem dL_machine_93 : decode cL_machine 93 = .ok (.ifCond .ne 7, 3) := by decide +kernel
theorem dL_machine_96 : decode cL_machine 96 = .ok (.iconst 1, 1) := by decide +kernel
theorem dL_machine_97 : decode cL_machine 97 = .ok (.goto 4, 3) := by decide +kernel
theorem dL_machine_100 : decode cL_machine 100 = .ok (.iconst 0, 1) := by decide +kernel
theorem dL_machine_101 : decode cL_machine 101 = .ok (.ireturn, 1) := by decide +kernel
theorem dL_machine_102 : decode cL_machine 102 = .ok (.iload 4, 2) := by decide +kernel
theorem dL_machine_104 : decode cL_machine 104 = .ok (.aload_n 2, 1) := by decide +kernel
theorem dL_machine_105 : decode cL_machine 105 = .ok (.iconst 3, 1) := by decide +kernel
theorem dL_machine_106 : decode cL_machine 106 = .ok (.iaload, 1) := by decide +kernel
theorem dL_machine_107 : decode cL_machine 107 = .ok (.invokestatic 115, 3) := by decide +kernel
theorem dL_machine_110 : decode cL_machine 110 = .ok (.istore 6, 2) := by decide +kernel
theorem dL_machine_112 : decode cL_machine 112 = .ok (.aload_n 0, 1) := by decide +kernel
theorem dL_machine_113 : decode cL_machine 113 = .ok (.iload 6, 2) := by decide +kernel
theorem dL_machine_115 : decode cL_machine 115 = .ok (.invokevirtual 84, 3) := by decide +kernel
theorem dL_machine_118 : decode cL_machine 118 = .ok (.istore 7, 2) := by decide +kernel
theorem dL_machine_120 : decode cL_machine 120 = .ok (.iload 5, 2) := by decide +kernel
theorem dL_machine_122 : decode cL_machine 122 = .ok (.iconst 5, 1) := by decide +kernel
theorem dL_machine_123 : decode cL_machine 123 = .ok (.if_icmp .ge 116, 3) := by decide +kernel
theorem dL_machine_126 : decode cL_machine 126 = .ok (.iconst 1, 1) := by decide +kernel
theorem dL_machine_127 : decode cL_machine 127 = .ok (.iload 4, 2) := by decide +kernel
theorem dL_machine_129 : decode cL_machine 129 = .ok (.iconst 3, 1) := by decide +kernel
theorem dL_machine_130 : decode cL_machine 130 = .ok (.ishr, 1) := by decide +kernel
theorem dL_machine_131 : decode cL_machine 131 = .ok (.bipush 60, 2) := by decide +kernel
theorem dL_machine_133 : decode cL_machine 133 = .ok (.invokestatic 115, 3) := by decide +kernel
theorem dL_machine_136 : decode cL_machine 136 = .ok (.iadd, 1) := by decide +kernel
theorem dL_machine_137 : decode cL_machine 137 = .ok (.istore 8, 2) := by decide +kernel
theorem dL_machine_139 : decode cL_machine 139 = .ok (.aload_n 0, 1) := by decide +kernel
theorem dL_machine_140 : decode cL_machine 140 = .ok (.aload_n 1, 1) := by decide +kernel
theorem dL_machine_141 : decode cL_machine 141 = .ok (.bipush 14, 2) := by decide +kernel
theorem dL_machine_143 : decode cL_machine 143 = .ok (.iload 8, 2) := by decide +kernel
theorem dL_machine_145 : decode cL_machine 145 = .ok (.iconst 0, 1) := by decide +kernel
theorem dL_machine_146 : decode cL_machine 146 = .ok (.iconst 0, 1) := by decide +kernel
theorem dL_machine_147 : decode cL_machine 147 = .ok (.invokestatic 118, 3) := by decide +kernel
theorem dL_machine_150 : decode cL_machine 150 = .ok (.istore 9, 2) := by decide +kernel
theorem dL_machine_152 : decode cL_machine 152 = .ok (.aload_n 2, 1) := by decide +kernel
theorem dL_machine_153 : decode cL_machine 153 = .ok (.iconst 5, 1) := by decide +kernel
theorem dL_machine_154 : decode cL_machine 154 = .ok (.dup2, 1) := by decide +kernel
theorem dL_machine_155 : decode cL_machine 155 = .ok (.iaload, 1) := by decide +kernel
theorem dL_machine_156 : decode cL_machine 156 = .ok (.iload 9, 2) := by decide +kernel
theorem dL_machine_158 : decode cL_machine 158 = .ok (.iadd, 1) := by decide +kernel
theorem dL_machine_159 : decode cL_machine 159 = .ok (.iastore, 1) := by decide +kernel
theorem dL_machine_160 : decode cL_machine 160 = .ok (.aload_n 2, 1) := by decide +kernel
theorem dL_machine_161 : decode cL_machine 161 = .ok (.bipush 22, 2) := by decide +kernel
theorem dL_machine_163 : decode cL_machine 163 = .ok (.iload 6, 2) := by decide +kernel
theorem dL_machine_165 : decode cL_machine 165 = .ok (.iadd, 1) := by decide +kernel
theorem dL_machine_166 : decode cL_machine 166 = .ok (.iaload, 1) := by decide +kernel
theorem dL_machine_167 : decode cL_machine 167 = .ok (.iconst (-1), 1) := by decide +kernel
theorem dL_machine_168 : decode cL_machine 168 = .ok (.if_icmp .ne 7, 3) := by decide +kernel
theorem dL_machine_171 : decode cL_machine 171 = .ok (.iconst 1, 1) := by decide +kernel
theorem dL_machine_172 : decode cL_machine 172 = .ok (.goto 4, 3) := by decide +kernel
theorem dL_machine_175 : decode cL_machine 175 = .ok (.iconst 0, 1) := by decide +kernel
theorem dL_machine_176 : decode cL_machine 176 = .ok (.istore 10, 2) := by decide +kernel
theorem dL_machine_178 : decode cL_machine 178 = .ok (.iload 9, 2) := by decide +kernel
theorem dL_machine_180 : decode cL_machine 180 = .ok (.ifCond .lt 57, 3) := by decide +kernel
theorem dL_machine_183 : decode cL_machine 183 = .ok (.iload 9, 2) := by decide +kernel
theorem dL_machine_185 : decode cL_machine 185 = .ok (.iload 8, 2) := by decide +kernel
theorem dL_machine_187 : decode cL_machine 187 = .ok (.if_icmp .gt 50, 3) := by decide +kernel
theorem dL_machine_190 : decode cL_machine 190 = .ok (.aload_n 2, 1) := by decide +kernel
theorem dL_machine_191 : decode cL_machine 191 = .ok (.iconst 5, 1) := by decide +kernel
theorem dL_machine_192 : decode cL_machine 192 = .ok (.iaload, 1) := by decide +kernel
theorem dL_machine_193 : decode cL_machine 193 = .ok (.aload_n 2, 1) := by decide +kernel
theorem dL_machine_194 : decode cL_machine 194 = .ok (.iconst 4, 1) := by decide +kernel
theorem dL_machine_195 : decode cL_machine 195 = .ok (.iaload, 1) := by decide +kernel
theorem dL_machine_196 : decode cL_machine 196 = .ok (.if_icmp .gt 41, 3) := by decide +kernel
theorem dL_machine_199 : decode cL_machine 199 = .ok (.aload_n 0, 1) := by decide +kernel
theorem dL_machine_200 : decode cL_machine 200 = .ok (.iload 6, 2) := by decide +kernel
theorem dL_machine_202 : decode cL_machine 202 = .ok (.invokevirtual 84, 3) := by decide +kernel
theorem dL_machine_205 : decode cL_machine 205 = .ok (.iload 7, 2) := by decide +kernel
theorem dL_machine_207 : decode cL_machine 207 = .ok (.iload 10, 2) := by decide +kernel
theorem dL_machine_209 : decode cL_machine 209 = .ok (.ifCond .eq 8, 3) := by decide +kernel
theorem dL_machine_212 : decode cL_machine 212 = .ok (.iload 9, 2) := by decide +kernel
theorem dL_machine_214 : decode cL_machine 214 = .ok (.goto 4, 3) := by decide +kernel
theorem dL_machine_217 : decode cL_machine 217 = .ok (.iconst 0, 1) := by decide +kernel
theorem dL_machine_218 : decode cL_machine 218 = .ok (.iadd, 1) := by decide +kernel
theorem dL_machine_219 : decode cL_machine 219 = .ok (.if_icmp .gt 18, 3) := by decide +kernel
theorem dL_machine_222 : decode cL_machine 222 = .ok (.aload_n 0, 1) := by decide +kernel
theorem dL_machine_223 : decode cL_machine 223 = .ok (.iload 6, 2) := by decide +kernel
theorem dL_machine_225 : decode cL_machine 225 = .ok (.invokevirtual 84, 3) := by decide +kernel
theorem dL_machine_228 : decode cL_machine 228 = .ok (.iload 7, 2) := by decide +kernel
theorem dL_machine_230 : decode cL_machine 230 = .ok (.if_icmp .lt 7, 3) := by decide +kernel
theorem dL_machine_233 : decode cL_machine 233 = .ok (.iconst 1, 1) := by decide +kernel
theorem dL_machine_234 : decode cL_machine 234 = .ok (.goto 4, 3) := by decide +kernel
theorem dL_machine_237 : decode cL_machine 237 = .ok (.iconst 0, 1) := by decide +kernel
theorem dL_machine_238 : decode cL_machine 238 = .ok (.ireturn, 1) := by decide +kernel
theorem dL_machine_239 : decode cL_machine 239 = .ok (.iload 5, 2) := by decide +kernel
theorem dL_machine_241 : decode cL_machine 241 = .ok (.bipush 6, 2) := by decide +kernel
theorem dL_machine_243 : decode cL_machine 243 = .ok (.if_icmp .ge 92, 3) := by decide +kernel
theorem dL_machine_246 : decode cL_machine 246 = .ok (.aload_n 0, 1) := by decide +kernel
theorem dL_machine_247 : decode cL_machine 247 = .ok (.aload_n 1, 1) := by decide +kernel
theorem dL_machine_248 : decode cL_machine 248 = .ok (.bipush 15, 2) := by decide +kernel
theorem dL_machine_250 : decode cL_machine 250 = .ok (.iload 6, 2) := by decide +kernel
theorem dL_machine_252 : decode cL_machine 252 = .ok (.iconst 0, 1) := by decide +kernel
theorem dL_machine_253 : decode cL_machine 253 = .ok (.iconst 0, 1) := by decide +kernel
theorem dL_machine_254 : decode cL_machine 254 = .ok (.invokestatic 118, 3) := by decide +kernel
theorem dL_machine_257 : decode cL_machine 257 = .ok (.istore 8, 2) := by decide +kernel
theorem dL_machine_259 : decode cL_machine 259 = .ok (.aload_n 2, 1) := by decide +kernel
theorem dL_machine_260 : decode cL_machine 260 = .ok (.bipush 22, 2) := by decide +kernel
theorem dL_machine_262 : decode cL_machine 262 = .ok (.iload 6, 2) := by decide +kernel
theorem dL_machine_264 : decode cL_machine 264 = .ok (.iadd, 1) := by decide +kernel
theorem dL_machine_265 : decode cL_machine 265 = .ok (.iaload, 1) := by decide +kernel
theorem dL_machine_266 : decode cL_machine 266 = .ok (.iconst (-1), 1) := by decide +kernel
theorem dL_machine_267 : decode cL_machine 267 = .ok (.if_icmp .ne 7, 3) := by decide +kernel
theorem dL_machine_270 : decode cL_machine 270 = .ok (.iconst 1, 1) := by decide +kernel
theorem dL_machine_271 : decode cL_machine 271 = .ok (.goto 4, 3) := by decide +kernel
theorem dL_machine_274 : decode cL_machine 274 = .ok (.iconst 0, 1) := by decide +kernel
theorem dL_machine_275 : decode cL_machine 275 = .ok (.istore 9, 2) := by decide +kernel
theorem dL_machine_277 : decode cL_machine 277 = .ok (.aload_n 2, 1) := by decide +kernel
theorem dL_machine_278 : decode cL_machine 278 = .ok (.bipush 22, 2) := by decide +kernel
theorem dL_machine_280 : decode cL_machine 280 = .ok (.iload 6, 2) := by decide +kernel
theorem dL_machine_282 : decode cL_machine 282 = .ok (.iadd, 1) := by decide +kernel
theorem dL_machine_283 : decode cL_machine 283 = .ok (.iload 9, 2) := by decide +kernel
theorem dL_machine_285 : decode cL_machine 285 = .ok (.ifCond .eq 9, 3) := by decide +kernel
theorem dL_machine_288 : decode cL_machine 288 = .ok (.aload_n 2, 1) := by decide +kernel
theorem dL_machine_289 : decode cL_machine 289 = .ok (.iconst 5, 1) := by decide +kernel
theorem dL_machine_290 : decode cL_machine 290 = .ok (.iaload, 1) := by decide +kernel
theorem dL_machine_291 : decode cL_machine 291 = .ok (.goto 10, 3) := by decide +kernel
theorem dL_machine_294 : decode cL_machine 294 = .ok (.aload_n 2, 1) := by decide +kernel
theorem dL_machine_295 : decode cL_machine 295 = .ok (.bipush 22, 2) := by decide +kernel
theorem dL_machine_297 : decode cL_machine 297 = .ok (.iload 6, 2) := by decide +kernel
theorem dL_machine_299 : decode cL_machine 299 = .ok (.iadd, 1) := by decide +kernel
theorem dL_machine_300 : decode cL_machine 300 = .ok (.iaload, 1) := by decide +kernel
theorem dL_machine_301 : decode cL_machine 301 = .ok (.iastore, 1) := by decide +kernel
theorem dL_machine_302 : decode cL_machine 302 = .ok (.iload 8, 2) := by decide +kernel
theorem dL_machine_304 : decode cL_machine 304 = .ok (.iload 9, 2) := by decide +kernel
theorem dL_machine_306 : decode cL_machine 306 = .ok (.ifCond .eq 7, 3) := by decide +kernel
theorem dL_machine_309 : decode cL_machine 309 = .ok (.iconst 0, 1) := by decide +kernel
theorem dL_machine_310 : decode cL_machine 310 = .ok (.goto 5, 3) := by decide +kernel
theorem dL_machine_313 : decode cL_machine 313 = .ok (.ldc 23, 2) := by decide +kernel
theorem dL_machine_315 : decode cL_machine 315 = .ok (.if_icmp .ne 18, 3) := by decide +kernel
theorem dL_machine_318 : decode cL_machine 318 = .ok (.aload_n 0, 1) := by decide +kernel
theorem dL_machine_319 : decode cL_machine 319 = .ok (.iload 6, 2) := by decide +kernel
theorem dL_machine_321 : decode cL_machine 321 = .ok (.invokevirtual 84, 3) := by decide +kernel
theorem dL_machine_324 : decode cL_machine 324 = .ok (.iload 7, 2) := by decide +kernel
theorem dL_machine_326 : decode cL_machine 326 = .ok (.if_icmp .ne 7, 3) := by decide +kernel
theorem dL_machine_329 : decode cL_machine 329 = .ok (.iconst 1, 1) := by decide +kernel
theorem dL_machine_330 : decode cL_machine 330 = .ok (.goto 4, 3) := by decide +kernel
theorem dL_machine_333 : decode cL_machine 333 = .ok (.iconst 0, 1) := by decide +kernel
theorem dL_machine_334 : decode cL_machine 334 = .ok (.ireturn, 1) := by decide +kernel
theorem dL_machine_335 : decode cL_machine 335 = .ok (.aload_n 0, 1) := by decide +kernel
theorem dL_machine_336 : decode cL_machine 336 = .ok (.aload_n 1, 1) := by decide +kernel
theorem dL_machine_337 : decode cL_machine 337 = .ok (.bipush 16, 2) := by decide +kernel
theorem dL_machine_339 : decode cL_machine 339 = .ok (.iload 6, 2) := by decide +kernel
theorem dL_machine_341 : decode cL_machine 341 = .ok (.iconst 0, 1) := by decide +kernel
theorem dL_machine_342 : decode cL_machine 342 = .ok (.iconst 0, 1) := by decide +kernel
theorem dL_machine_343 : decode cL_machine 343 = .ok (.invokestatic 118, 3) := by decide +kernel
theorem dL_machine_346 : decode cL_machine 346 = .ok (.istore 8, 2) := by decide +kernel
theorem dL_machine_348 : decode cL_machine 348 = .ok (.iload 8, 2) := by decide +kernel
theorem dL_machine_350 : decode cL_machine 350 = .ok (.ldc 23, 2) := by decide +kernel
theorem dL_machine_352 : decode cL_machine 352 = .ok (.if_icmp .ne 40, 3) := by decide +kernel
theorem dL_machine_355 : decode cL_machine 355 = .ok (.aload_n 0, 1) := by decide +kernel
theorem dL_machine_356 : decode cL_machine 356 = .ok (.iload 6, 2) := by decide +kernel
theorem dL_machine_358 : decode cL_machine 358 = .ok (.invokevirtual 84, 3) := by decide +kernel
theorem dL_machine_361 : decode cL_machine 361 = .ok (.iload 7, 2) := by decide +kernel
theorem dL_machine_363 : decode cL_machine 363 = .ok (.if_icmp .ne 27, 3) := by decide +kernel
theorem dL_machine_366 : decode cL_machine 366 = .ok (.aload_n 2, 1) := by decide +kernel
theorem dL_machine_367 : decode cL_machine 367 = .ok (.bipush 22, 2) := by decide +kernel
theorem dL_machine_369 : decode cL_machine 369 = .ok (.iload 6, 2) := by decide +kernel
theorem dL_machine_371 : decode cL_machine 371 = .ok (.iadd, 1) := by decide +kernel
theorem dL_machine_372 : decode cL_machine 372 = .ok (.iaload, 1) := by decide +kernel
theorem dL_machine_373 : decode cL_machine 373 = .ok (.iconst (-1), 1) := by decide +kernel
theorem dL_machine_374 : decode cL_machine 374 = .ok (.if_icmp .eq 12, 3) := by decide +kernel
theorem dL_machine_377 : decode cL_machine 377 = .ok (.aload_n 2, 1) := by decide +kernel
theorem dL_machine_378 : decode cL_machine 378 = .ok (.iconst 5, 1) := by decide +kernel
theorem dL_machine_379 : decode cL_machine 379 = .ok (.iaload, 1) := by decide +kernel
theorem dL_machine_380 : decode cL_machine 380 = .ok (.aload_n 2, 1) := by decide +kernel
theorem dL_machine_381 : decode cL_machine 381 = .ok (.iconst 4, 1) := by decide +kernel
theorem dL_machine_382 : decode cL_machine 382 = .ok (.iaload, 1) := by decide +kernel
theorem dL_machine_383 : decode cL_machine 383 = .ok (.if_icmp .ge 7, 3) := by decide +kernel
theorem dL_machine_386 : decode cL_machine 386 = .ok (.iconst 1, 1) := by decide +kernel
theorem dL_machine_387 : decode cL_machine 387 = .ok (.goto 4, 3) := by decide +kernel
theorem dL_machine_390 : decode cL_machine 390 = .ok (.iconst 0, 1) := by decide +kernel
theorem dL_machine_391 : decode cL_machine 391 = .ok (.ireturn, 1) := by decide +kernel
theorem dL_machine_392 : decode cL_machine 392 = .ok (.aload_n 2, 1) := by decide +kernel
theorem dL_machine_393 : decode cL_machine 393 = .ok (.iconst 5, 1) := by decide +kernel
theorem dL_machine_394 : decode cL_machine 394 = .ok (.iaload, 1) := by decide +kernel
theorem dL_machine_395 : decode cL_machine 395 = .ok (.aload_n 2, 1) := by decide +kernel
theorem dL_machine_396 : decode cL_machine 396 = .ok (.bipush 22, 2) := by decide +kernel
theorem dL_machine_398 : decode cL_machine 398 = .ok (.iload 6, 2) := by decide +kernel
theorem dL_machine_400 : decode cL_machine 400 = .ok (.iadd, 1) := by decide +kernel
theorem dL_machine_401 : decode cL_machine 401 = .ok (.iaload, 1) := by decide +kernel
theorem dL_machine_402 : decode cL_machine 402 = .ok (.isub, 1) := by decide +kernel
theorem dL_machine_403 : decode cL_machine 403 = .ok (.iconst 3, 1) := by decide +kernel
theorem dL_machine_404 : decode cL_machine 404 = .ok (.iadd, 1) := by decide +kernel
theorem dL_machine_405 : decode cL_machine 405 = .ok (.istore 9, 2) := by decide +kernel
theorem dL_machine_407 : decode cL_machine 407 = .ok (.aload_n 2, 1) := by decide +kernel
theorem dL_machine_408 : decode cL_machine 408 = .ok (.bipush 22, 2) := by decide +kernel
theorem dL_machine_410 : decode cL_machine 410 = .ok (.iload 6, 2) := by decide +kernel
theorem dL_machine_412 : decode cL_machine 412 = .ok (.iadd, 1) := by decide +kernel
theorem dL_machine_413 : decode cL_machine 413 = .ok (.iconst (-1), 1) := by decide +kernel
theorem dL_machine_414 : decode cL_machine 414 = .ok (.iastore, 1) := by decide +kernel
theorem dL_machine_415 : decode cL_machine 415 = .ok (.iload 8, 2) := by decide +kernel
theorem dL_machine_417 : decode cL_machine 417 = .ok (.ifCond .lt 43, 3) := by decide +kernel
theorem dL_machine_420 : decode cL_machine 420 = .ok (.iload 8, 2) := by decide +kernel
theorem dL_machine_422 : decode cL_machine 422 = .ok (.iload 9, 2) := by decide +kernel
theorem dL_machine_424 : decode cL_machine 424 = .ok (.if_icmp .gt 36, 3) := by decide +kernel
theorem dL_machine_427 : decode cL_machine 427 = .ok (.aload_n 0, 1) := by decide +kernel
theorem dL_machine_428 : decode cL_machine 428 = .ok (.iload 6, 2) := by decide +kernel
theorem dL_machine_430 : decode cL_machine 430 = .ok (.invokevirtual 84, 3) := by decide +kernel
theorem dL_machine_433 : decode cL_machine 433 = .ok (.iload 7, 2) := by decide +kernel
theorem dL_machine_435 : decode cL_machine 435 = .ok (.iload 8, 2) := by decide +kernel
theorem dL_machine_437 : decode cL_machine 437 = .ok (.iadd, 1) := by decide +kernel
theorem dL_machine_438 : decode cL_machine 438 = .ok (.if_icmp .ne 22, 3) := by decide +kernel
theorem dL_machine_441 : decode cL_machine 441 = .ok (.aload_n 0, 1) := by decide +kernel
theorem dL_machine_442 : decode cL_machine 442 = .ok (.bipush 16, 2) := by decide +kernel
theorem dL_machine_444 : decode cL_machine 444 = .ok (.iload 6, 2) := by decide +kernel
theorem dL_machine_446 : decode cL_machine 446 = .ok (.iconst 0, 1) := by decide +kernel
theorem dL_machine_447 : decode cL_machine 447 = .ok (.iconst 0, 1) := by decide +kernel
theorem dL_machine_448 : decode cL_machine 448 = .ok (.invokestatic 111, 3) := by decide +kernel
theorem dL_machine_451 : decode cL_machine 451 = .ok (.ldc 23, 2) := by decide +kernel
theorem dL_machine_453 : decode cL_machine 453 = .ok (.if_icmp .ne 7, 3) := by decide +kernel
theorem dL_machine_456 : decode cL_machine 456 = .ok (.iconst 1, 1) := by decide +kernel
theorem dL_machine_457 : decode cL_machine 457 = .ok (.goto 4, 3) := by decide +kernel
theorem dL_machine_460 : decode cL_machine 460 = .ok (.iconst 0, 1) := by decide +kernel
theorem dL_machine_461 : decode cL_machine 461 = .ok (.ireturn, 1) := by decide +kernel
theorem dL_refused_0 : decode cL_refused 0 = .ok (.aload_n 0, 1) := by decide +kernel
theorem dL_refused_1 : decode cL_refused 1 = .ok (.aload_n 1, 1) := by decide +kernel
theorem dL_refused_2 : decode cL_refused 2 = .ok (.invokestatic 132, 3) := by decide +kernel
theorem dL_refused_5 : decode cL_refused 5 = .ok (.lstore_n 2, 1) := by decide +kernel
theorem dL_refused_6 : decode cL_refused 6 = .ok (.aload_n 0, 1) := by decide +kernel
theorem dL_refused_7 : decode cL_refused 7 = .ok (.iconst 0, 1) := by decide +kernel
theorem dL_refused_8 : decode cL_refused 8 = .ok (.iconst (-1), 1) := by decide +kernel
theorem dL_refused_9 : decode cL_refused 9 = .ok (.iconst 0, 1) := by decide +kernel
theorem dL_refused_10 : decode cL_refused 10 = .ok (.iconst 0, 1) := by decide +kernel
theorem dL_refused_11 : decode cL_refused 11 = .ok (.invokestatic 111, 3) := by decide +kernel
theorem dL_refused_14 : decode cL_refused 14 = .ok (.ldc 20, 2) := by decide +kernel
theorem dL_refused_16 : decode cL_refused 16 = .ok (.if_icmp .ne 221, 3) := by decide +kernel
theorem dL_refused_19 : decode cL_refused 19 = .ok (.aload_n 0, 1) := by decide +kernel
theorem dL_refused_20 : decode cL_refused 20 = .ok (.iconst 0, 1) := by decide +kernel
theorem dL_refused_21 : decode cL_refused 21 = .ok (.iconst 0, 1) := by decide +kernel
theorem dL_refused_22 : decode cL_refused 22 = .ok (.iconst 4, 1) := by decide +kernel
theorem dL_refused_23 : decode cL_refused 23 = .ok (.iconst 0, 1) := by decide +kernel
theorem dL_refused_24 : decode cL_refused 24 = .ok (.invokestatic 111, 3) := by decide +kernel
theorem dL_refused_27 : decode cL_refused 27 = .ok (.ldc 20, 2) := by decide +kernel
theorem dL_refused_29 : decode cL_refused 29 = .ok (.if_icmp .ne 208, 3) := by decide +kernel
theorem dL_refused_32 : decode cL_refused 32 = .ok (.aload_n 0, 1) := by decide +kernel
theorem dL_refused_33 : decode cL_refused 33 = .ok (.iconst 1, 1) := by decide +kernel
theorem dL_refused_34 : decode cL_refused 34 = .ok (.bipush 8, 2) := by decide +kernel
theorem dL_refused_36 : decode cL_refused 36 = .ok (.iconst 0, 1) := by decide +kernel
theorem dL_refused_37 : decode cL_refused 37 = .ok (.iconst 0, 1) := by decide +kernel
theorem dL_refused_38 : decode cL_refused 38 = .ok (.invokestatic 111, 3) := by decide +kernel
theorem dL_refused_41 : decode cL_refused 41 = .ok (.ldc 17, 2) := by decide +kernel
theorem dL_refused_43 : decode cL_refused 43 = .ok (.if_icmp .ne 194, 3) := by decide +kernel
theorem dL_refused_46 : decode cL_refused 46 = .ok (.aload_n 0, 1) := by decide +kernel
theorem dL_refused_47 : decode cL_refused 47 = .ok (.iconst 1, 1) := by decide +kernel
theorem dL_refused_48 : decode cL_refused 48 = .ok (.iconst (-1), 1) := by decide +kernel
theorem dL_refused_49 : decode cL_refused 49 = .ok (.iconst 0, 1) := by decide +kernel
theorem dL_refused_50 : decode cL_refused 50 = .ok (.iconst 0, 1) := by decide +kernel
theorem dL_refused_51 : decode cL_refused 51 = .ok (.invokestatic 111, 3) := by decide +kernel
theorem dL_refused_54 : decode cL_refused 54 = .ok (.ldc 17, 2) := by decide +kernel
theorem dL_refused_56 : decode cL_refused 56 = .ok (.if_icmp .ne 181, 3) := by decide +kernel
theorem dL_refused_59 : decode cL_refused 59 = .ok (.aload_n 0, 1) := by decide +kernel
theorem dL_refused_60 : decode cL_refused 60 = .ok (.bipush 8, 2) := by decide +kernel
theorem dL_refused_62 : decode cL_refused 62 = .ok (.iconst 1, 1) := by decide +kernel
theorem dL_refused_63 : decode cL_refused 63 = .ok (.iconst 1, 1) := by decide +kernel
theorem dL_refused_64 : decode cL_refused 64 = .ok (.iconst 0, 1) := by decide +kernel
theorem dL_refused_65 : decode cL_refused 65 = .ok (.iconst 0, 1) := by decide +kernel
theorem dL_refused_66 : decode cL_refused 66 = .ok (.iconst 0, 1) := by decide +kernel
theorem dL_refused_67 : decode cL_refused 67 = .ok (.invokestatic 122, 3) := by decide +kernel
theorem dL_refused_70 : decode cL_refused 70 = .ok (.ldc 17, 2) := by decide +kernel
theorem dL_refused_72 : decode cL_refused 72 = .ok (.if_icmp .ne 165, 3) := by decide +kernel
theorem dL_refused_75 : decode cL_refused 75 = .ok (.aload_n 0, 1) := by decide +kernel
theorem dL_refused_76 : decode cL_refused 76 = .ok (.iconst 2, 1) := by decide +kernel
theorem dL_refused_77 : decode cL_refused 77 = .ok (.bipush 8, 2) := by decide +kernel
theorem dL_refused_79 : decode cL_refused 79 = .ok (.bipush 100, 2) := by decide +kernel
theorem dL_refused_81 : decode cL_refused 81 = .ok (.iconst 0, 1) := by decide +kernel
theorem dL_refused_82 : decode cL_refused 82 = .ok (.invokestatic 111, 3) := by decide +kernel
theorem dL_refused_85 : decode cL_refused 85 = .ok (.ldc 17, 2) := by decide +kernel
theorem dL_refused_87 : decode cL_refused 87 = .ok (.if_icmp .ne 150, 3) := by decide +kernel
theorem dL_refused_90 : decode cL_refused 90 = .ok (.aload_n 0, 1) := by decide +kernel
theorem dL_refused_91 : decode cL_refused 91 = .ok (.iconst 3, 1) := by decide +kernel
theorem dL_refused_92 : decode cL_refused 92 = .ok (.iconst (-1), 1) := by decide +kernel
theorem dL_refused_93 : decode cL_refused 93 = .ok (.iconst 0, 1) := by decide +kernel
theorem dL_refused_94 : decode cL_refused 94 = .ok (.iconst 0, 1) := by decide +kernel
theorem dL_refused_95 : decode cL_refused 95 = .ok (.invokestatic 111, 3) := by decide +kernel
theorem dL_refused_98 : decode cL_refused 98 = .ok (.ldc 20, 2) := by decide +kernel
theorem dL_refused_100 : decode cL_refused 100 = .ok (.if_icmp .ne 137, 3) := by decide +kernel
theorem dL_refused_103 : decode cL_refused 103 = .ok (.aload_n 0, 1) := by decide +kernel
theorem dL_refused_104 : decode cL_refused 104 = .ok (.iconst 4, 1) := by decide +kernel
theorem dL_refused_105 : decode cL_refused 105 = .ok (.aload_n 0, 1) := by decide +kernel
theorem dL_refused_106 : decode cL_refused 106 = .ok (.invokevirtual 93, 3) := by decide +kernel
theorem dL_refused_109 : decode cL_refused 109 = .ok (.iconst 0, 1) := by decide +kernel
theorem dL_refused_110 : decode cL_refused 110 = .ok (.iconst 0, 1) := by decide +kernel
theorem dL_refused_111 : decode cL_refused 111 = .ok (.invokestatic 111, 3) := by decide +kernel
theorem dL_refused_114 : decode cL_refused 114 = .ok (.ldc 17, 2) := by decide +kernel
theorem dL_refused_116 : decode cL_refused 116 = .ok (.if_icmp .ne 121, 3) := by decide +kernel
theorem dL_refused_119 : decode cL_refused 119 = .ok (.aload_n 0, 1) := by decide +kernel
theorem dL_refused_120 : decode cL_refused 120 = .ok (.iconst 4, 1) := by decide +kernel
theorem dL_refused_121 : decode cL_refused 121 = .ok (.iconst 0, 1) := by decide +kernel
theorem dL_refused_122 : decode cL_refused 122 = .ok (.iconst (-1), 1) := by decide +kernel
theorem dL_refused_123 : decode cL_refused 123 = .ok (.iconst 0, 1) := by decide +kernel
theorem dL_refused_124 : decode cL_refused 124 = .ok (.invokestatic 111, 3) := by decide +kernel
theorem dL_refused_127 : decode cL_refused 127 = .ok (.ldc 20, 2) := by decide +kernel
theorem dL_refused_129 : decode cL_refused 129 = .ok (.if_icmp .ne 108, 3) := by decide +kernel
theorem dL_refused_132 : decode cL_refused 132 = .ok (.aload_n 0, 1) := by decide +kernel
theorem dL_refused_133 : decode cL_refused 133 = .ok (.iconst 5, 1) := by decide +kernel
theorem dL_refused_134 : decode cL_refused 134 = .ok (.iconst (-1), 1) := by decide +kernel
theorem dL_refused_135 : decode cL_refused 135 = .ok (.iconst 0, 1) := by decide +kernel
theorem dL_refused_136 : decode cL_refused 136 = .ok (.iconst 0, 1) := by decide +kernel
theorem dL_refused_137 : decode cL_refused 137 = .ok (.invokestatic 111, 3) := by decide +kernel
theorem dL_refused_140 : decode cL_refused 140 = .ok (.ldc 20, 2) := by decide +kernel
theorem dL_refused_142 : decode cL_refused 142 = .ok (.if_icmp .ne 95, 3) := by decide +kernel
theorem dL_refused_145 : decode cL_refused 145 = .ok (.aload_n 0, 1) := by decide +kernel
theorem dL_refused_146 : decode cL_refused 146 = .ok (.bipush 6, 2) := by decide +kernel
theorem dL_refused_148 : decode cL_refused 148 = .ok (.bipush 6, 2) := by decide +kernel
theorem dL_refused_150 : decode cL_refused 150 = .ok (.iconst 0, 1) := by decide +kernel
theorem dL_refused_151 : decode cL_refused 151 = .ok (.iconst 0, 1) := by decide +kernel
theorem dL_refused_152 : decode cL_refused 152 = .ok (.invokestatic 111, 3) := by decide +kernel
theorem dL_refused_155 : decode cL_refused 155 = .ok (.ldc 20, 2) := by decide +kernel
theorem dL_refused_157 : decode cL_refused 157 = .ok (.if_icmp .ne 80, 3) := by decide +kernel
theorem dL_refused_160 : decode cL_refused 160 = .ok (.aload_n 0, 1) := by decide +kernel
theorem dL_refused_161 : decode cL_refused 161 = .ok (.bipush 7, 2) := by decide +kernel
theorem dL_refused_163 : decode cL_refused 163 = .ok (.bipush 8, 2) := by decide +kernel
theorem dL_refused_165 : decode cL_refused 165 = .ok (.iconst 0, 1) := by decide +kernel
theorem dL_refused_166 : decode cL_refused 166 = .ok (.iconst 0, 1) := by decide +kernel
theorem dL_refused_167 : decode cL_refused 167 = .ok (.invokestatic 111, 3) := by decide +kernel
theorem dL_refused_170 : decode cL_refused 170 = .ok (.ldc 17, 2) := by decide +kernel
theorem dL_refused_172 : decode cL_refused 172 = .ok (.if_icmp .ne 65, 3) := by decide +kernel
theorem dL_refused_175 : decode cL_refused 175 = .ok (.aload_n 0, 1) := by decide +kernel
theorem dL_refused_176 : decode cL_refused 176 = .ok (.bipush 8, 2) := by decide +kernel
theorem dL_refused_178 : decode cL_refused 178 = .ok (.iconst (-1), 1) := by decide +kernel
theorem dL_refused_179 : decode cL_refused 179 = .ok (.iconst 0, 1) := by decide +kernel
theorem dL_refused_180 : decode cL_refused 180 = .ok (.iconst 0, 1) := by decide +kernel
theorem dL_refused_181 : decode cL_refused 181 = .ok (.invokestatic 111, 3) := by decide +kernel
theorem dL_refused_184 : decode cL_refused 184 = .ok (.ldc 17, 2) := by decide +kernel
theorem dL_refused_186 : decode cL_refused 186 = .ok (.if_icmp .ne 51, 3) := by decide +kernel
theorem dL_refused_189 : decode cL_refused 189 = .ok (.aload_n 0, 1) := by decide +kernel
theorem dL_refused_190 : decode cL_refused 190 = .ok (.bipush 9, 2) := by decide +kernel
theorem dL_refused_192 : decode cL_refused 192 = .ok (.iconst (-1), 1) := by decide +kernel
theorem dL_refused_193 : decode cL_refused 193 = .ok (.iconst 0, 1) := by decide +kernel
theorem dL_refused_194 : decode cL_refused 194 = .ok (.iconst 0, 1) := by decide +kernel
theorem dL_refused_195 : decode cL_refused 195 = .ok (.invokestatic 111, 3) := by decide +kernel
theorem dL_refused_198 : decode cL_refused 198 = .ok (.ldc 20, 2) := by decide +kernel
theorem dL_refused_200 : decode cL_refused 200 = .ok (.if_icmp .ne 37, 3) := by decide +kernel
theorem dL_refused_203 : decode cL_refused 203 = .ok (.aload_n 0, 1) := by decide +kernel
theorem dL_refused_204 : decode cL_refused 204 = .ok (.bipush 10, 2) := by decide +kernel
theorem dL_refused_206 : decode cL_refused 206 = .ok (.iconst (-1), 1) := by decide +kernel
theorem dL_refused_207 : decode cL_refused 207 = .ok (.iconst 0, 1) := by decide +kernel
theorem dL_refused_208 : decode cL_refused 208 = .ok (.iconst 0, 1) := by decide +kernel
theorem dL_refused_209 : decode cL_refused 209 = .ok (.invokestatic 111, 3) := by decide +kernel
theorem dL_refused_212 : decode cL_refused 212 = .ok (.ldc 17, 2) := by decide +kernel
theorem dL_refused_214 : decode cL_refused 214 = .ok (.if_icmp .ne 23, 3) := by decide +kernel
theorem dL_refused_217 : decode cL_refused 217 = .ok (.aload_n 0, 1) := by decide +kernel
theorem dL_refused_218 : decode cL_refused 218 = .ok (.bipush 10, 2) := by decide +kernel
theorem dL_refused_220 : decode cL_refused 220 = .ok (.aload_n 1, 1) := by decide +kernel
theorem dL_refused_221 : decode cL_refused 221 = .ok (.iconst 2, 1) := by decide +kernel
theorem dL_refused_222 : decode cL_refused 222 = .ok (.iaload, 1) := by decide +kernel
theorem dL_refused_223 : decode cL_refused 223 = .ok (.iconst 0, 1) := by decide +kernel
theorem dL_refused_224 : decode cL_refused 224 = .ok (.iconst 0, 1) := by decide +kernel
theorem dL_refused_225 : decode cL_refused 225 = .ok (.invokestatic 111, 3) := by decide +kernel
theorem dL_refused_228 : decode cL_refused 228 = .ok (.ldc 17, 2) := by decide +kernel
theorem dL_refused_230 : decode cL_refused 230 = .ok (.if_icmp .ne 7, 3) := by decide +kernel
theorem dL_refused_233 : decode cL_refused 233 = .ok (.iconst 1, 1) := by decide +kernel
theorem dL_refused_234 : decode cL_refused 234 = .ok (.goto 4, 3) := by decide +kernel
theorem dL_refused_237 : decode cL_refused 237 = .ok (.iconst 0, 1) := by decide +kernel
theorem dL_refused_238 : decode cL_refused 238 = .ok (.istore 4, 2) := by decide +kernel
theorem dL_refused_240 : decode cL_refused 240 = .ok (.iload 4, 2) := by decide +kernel
theorem dL_refused_242 : decode cL_refused 242 = .ok (.ifCond .eq 150, 3) := by decide +kernel
theorem dL_refused_245 : decode cL_refused 245 = .ok (.aload_n 0, 1) := by decide +kernel
theorem dL_refused_246 : decode cL_refused 246 = .ok (.bipush 11, 2) := by decide +kernel
theorem dL_refused_248 : decode cL_refused 248 = .ok (.aload_n 1, 1) := by decide +kernel
theorem dL_refused_249 : decode cL_refused 249 = .ok (.iconst 2, 1) := by decide +kernel
theorem dL_refused_250 : decode cL_refused 250 = .ok (.iaload, 1) := by decide +kernel
theorem dL_refused_251 : decode cL_refused 251 = .ok (.iconst 0, 1) := by decide +kernel
theorem dL_refused_252 : decode cL_refused 252 = .ok (.iconst 0, 1) := by decide +kernel
theorem dL_refused_253 : decode cL_refused 253 = .ok (.invokestatic 111, 3) := by decide +kernel
theorem dL_refused_256 : decode cL_refused 256 = .ok (.ldc 17, 2) := by decide +kernel
theorem dL_refused_258 : decode cL_refused 258 = .ok (.if_icmp .ne 134, 3) := by decide +kernel
theorem dL_refused_261 : decode cL_refused 261 = .ok (.aload_n 0, 1) := by decide +kernel
theorem dL_refused_262 : decode cL_refused 262 = .ok (.bipush 12, 2) := by decide +kernel
theorem dL_refused_264 : decode cL_refused 264 = .ok (.iconst (-1), 1) := by decide +kernel
theorem dL_refused_265 : decode cL_refused 265 = .ok (.iconst 0, 1) := by decide +kernel
theorem dL_refused_266 : decode cL_refused 266 = .ok (.iconst 0, 1) := by decide +kernel
theorem dL_refused_267 : decode cL_refused 267 = .ok (.invokestatic 111, 3) := by decide +kernel
theorem dL_refused_270 : decode cL_refused 270 = .ok (.ldc 20, 2) := by decide +kernel
theorem dL_refused_272 : decode cL_refused 272 = .ok (.if_icmp .ne 120, 3) := by decide +kernel
theorem dL_refused_275 : decode cL_refused 275 = .ok (.aload_n 0, 1) := by decide +kernel
theorem dL_refused_276 : decode cL_refused 276 = .ok (.bipush 12, 2) := by decide +kernel
theorem dL_refused_278 : decode cL_refused 278 = .ok (.aload_n 1, 1) := by decide +kernel
theorem dL_refused_279 : decode cL_refused 279 = .ok (.iconst 2, 1) := by decide +kernel
theorem dL_refused_280 : decode cL_refused 280 = .ok (.iaload, 1) := by decide +kernel
theorem dL_refused_281 : decode cL_refused 281 = .ok (.iconst 1, 1) := by decide +kernel
theorem dL_refused_282 : decode cL_refused 282 = .ok (.iadd, 1) := by decide +kernel
theorem dL_refused_283 : decode cL_refused 283 = .ok (.iconst 0, 1) := by decide +kernel
theorem dL_refused_284 : decode cL_refused 284 = .ok (.iconst 0, 1) := by decide +kernel
theorem dL_refused_285 : decode cL_refused 285 = .ok (.invokestatic 111, 3) := by decide +kernel
theorem dL_refused_288 : decode cL_refused 288 = .ok (.ldc 20, 2) := by decide +kernel
theorem dL_refused_290 : decode cL_refused 290 = .ok (.if_icmp .ne 102, 3) := by decide +kernel
theorem dL_refused_293 : decode cL_refused 293 = .ok (.aload_n 0, 1) := by decide +kernel
theorem dL_refused_294 : decode cL_refused 294 = .ok (.bipush 13, 2) := by decide +kernel
theorem dL_refused_296 : decode cL_refused 296 = .ok (.iconst 0, 1) := by decide +kernel
theorem dL_refused_297 : decode cL_refused 297 = .ok (.iconst 0, 1) := by decide +kernel
theorem dL_refused_298 : decode cL_refused 298 = .ok (.iconst 0, 1) := by decide +kernel
theorem dL_refused_299 : decode cL_refused 299 = .ok (.invokestatic 111, 3) := by decide +kernel
theorem dL_refused_302 : decode cL_refused 302 = .ok (.ldc 20, 2) := by decide +kernel
theorem dL_refused_304 : decode cL_refused 304 = .ok (.if_icmp .ne 88, 3) := by decide +kernel
theorem dL_refused_307 : decode cL_refused 307 = .ok (.aload_n 0, 1) := by decide +kernel
theorem dL_refused_308 : decode cL_refused 308 = .ok (.bipush 13, 2) := by decide +kernel
theorem dL_refused_310 : decode cL_refused 310 = .ok (.iconst 1, 1) := by decide +kernel
theorem dL_refused_311 : decode cL_refused 311 = .ok (.bipush 21, 2) := by decide +kernel
theorem dL_refused_313 : decode cL_refused 313 = .ok (.iconst 0, 1) := by decide +kernel
theorem dL_refused_314 : decode cL_refused 314 = .ok (.invokestatic 111, 3) := by decide +kernel
theorem dL_refused_317 : decode cL_refused 317 = .ok (.ldc 20, 2) := by decide +kernel
theorem dL_refused_319 : decode cL_refused 319 = .ok (.if_icmp .ne 73, 3) := by decide +kernel
theorem dL_refused_322 : decode cL_refused 322 = .ok (.aload_n 0, 1) := by decide +kernel
theorem dL_refused_323 : decode cL_refused 323 = .ok (.bipush 14, 2) := by decide +kernel
theorem dL_refused_325 : decode cL_refused 325 = .ok (.iconst 0, 1) := by decide +kernel
theorem dL_refused_326 : decode cL_refused 326 = .ok (.iconst 0, 1) := by decide +kernel
theorem dL_refused_327 : decode cL_refused 327 = .ok (.iconst 0, 1) := by decide +kernel
theorem dL_refused_328 : decode cL_refused 328 = .ok (.invokestatic 111, 3) := by decide +kernel
theorem dL_refused_331 : decode cL_refused 331 = .ok (.ldc 20, 2) := by decide +kernel
theorem dL_refused_333 : decode cL_refused 333 = .ok (.if_icmp .ne 59, 3) := by decide +kernel
theorem dL_refused_336 : decode cL_refused 336 = .ok (.aload_n 0, 1) := by decide +kernel
theorem dL_refused_337 : decode cL_refused 337 = .ok (.bipush 15, 2) := by decide +kernel
theorem dL_refused_339 : decode cL_refused 339 = .ok (.iconst 4, 1) := by decide +kernel
theorem dL_refused_340 : decode cL_refused 340 = .ok (.iconst 0, 1) := by decide +kernel
theorem dL_refused_341 : decode cL_refused 341 = .ok (.iconst 0, 1) := by decide +kernel
theorem dL_refused_342 : decode cL_refused 342 = .ok (.invokestatic 111, 3) := by decide +kernel
theorem dL_refused_345 : decode cL_refused 345 = .ok (.ldc 17, 2) := by decide +kernel
theorem dL_refused_347 : decode cL_refused 347 = .ok (.if_icmp .ne 45, 3) := by decide +kernel
theorem dL_refused_350 : decode cL_refused 350 = .ok (.aload_n 0, 1) := by decide +kernel
theorem dL_refused_351 : decode cL_refused 351 = .ok (.bipush 16, 2) := by decide +kernel
theorem dL_refused_353 : decode cL_refused 353 = .ok (.iconst (-1), 1) := by decide +kernel
theorem dL_refused_354 : decode cL_refused 354 = .ok (.iconst 0, 1) := by decide +kernel
theorem dL_refused_355 : decode cL_refused 355 = .ok (.iconst 0, 1) := by decide +kernel
theorem dL_refused_356 : decode cL_refused 356 = .ok (.invokestatic 111, 3) := by decide +kernel
theorem dL_refused_359 : decode cL_refused 359 = .ok (.ldc 17, 2) := by decide +kernel
theorem dL_refused_361 : decode cL_refused 361 = .ok (.if_icmp .ne 31, 3) := by decide +kernel
theorem dL_refused_364 : decode cL_refused 364 = .ok (.aload_n 0, 1) := by decide +kernel
theorem dL_refused_365 : decode cL_refused 365 = .ok (.bipush 17, 2) := by decide +kernel
theorem dL_refused_367 : decode cL_refused 367 = .ok (.iconst 4, 1) := by decide +kernel
theorem dL_refused_368 : decode cL_refused 368 = .ok (.iconst 0, 1) := by decide +kernel
theorem dL_refused_369 : decode cL_refused 369 = .ok (.iconst 0, 1) := by decide +kernel
theorem dL_refused_370 : decode cL_refused 370 = .ok (.invokestatic 111, 3) := by decide +kernel
theorem dL_refused_373 : decode cL_refused 373 = .ok (.ldc 17, 2) := by decide +kernel
theorem dL_refused_375 : decode cL_refused 375 = .ok (.if_icmp .ne 17, 3) := by decide +kernel
theorem dL_refused_378 : decode cL_refused 378 = .ok (.aload_n 0, 1) := by decide +kernel
theorem dL_refused_379 : decode cL_refused 379 = .ok (.aload_n 1, 1) := by decide +kernel
theorem dL_refused_380 : decode cL_refused 380 = .ok (.invokestatic 132, 3) := by decide +kernel
theorem dL_refused_383 : decode cL_refused 383 = .ok (.lload_n 2, 1) := by decide +kernel
theorem dL_refused_384 : decode cL_refused 384 = .ok (.lcmp, 1) := by decide +kernel
theorem dL_refused_385 : decode cL_refused 385 = .ok (.ifCond .ne 7, 3) := by decide +kernel
theorem dL_refused_388 : decode cL_refused 388 = .ok (.iconst 1, 1) := by decide +kernel
theorem dL_refused_389 : decode cL_refused 389 = .ok (.goto 4, 3) := by decide +kernel
theorem dL_refused_392 : decode cL_refused 392 = .ok (.iconst 0, 1) := by decide +kernel
theorem dL_refused_393 : decode cL_refused 393 = .ok (.ireturn, 1) := by decide +kernel
theorem dL_law_0 : decode cL_law 0 = .ok (.new 25, 3) := by decide +kernel
theorem dL_law_3 : decode cL_law 3 = .ok (.dup, 1) := by decide +kernel
theorem dL_law_4 : decode cL_law 4 = .ok (.invokespecial 136, 3) := by decide +kernel
theorem dL_law_7 : decode cL_law 7 = .ok (.astore_n 1, 1) := by decide +kernel
theorem dL_law_8 : decode cL_law 8 = .ok (.new 25, 3) := by decide +kernel
theorem dL_law_11 : decode cL_law 11 = .ok (.dup, 1) := by decide +kernel
theorem dL_law_12 : decode cL_law 12 = .ok (.invokespecial 136, 3) := by decide +kernel
theorem dL_law_15 : decode cL_law 15 = .ok (.astore_n 2, 1) := by decide +kernel
theorem dL_law_16 : decode cL_law 16 = .ok (.bipush 26, 2) := by decide +kernel
theorem dL_law_18 : decode cL_law 18 = .ok (.newarray .int, 2) := by decide +kernel
theorem dL_law_20 : decode cL_law 20 = .ok (.astore_n 3, 1) := by decide +kernel
theorem dL_law_21 : decode cL_law 21 = .ok (.aload_n 3, 1) := by decide +kernel
theorem dL_law_22 : decode cL_law 22 = .ok (.iconst 1, 1) := by decide +kernel
theorem dL_law_23 : decode cL_law 23 = .ok (.bipush 8, 2) := by decide +kernel
theorem dL_law_25 : decode cL_law 25 = .ok (.iastore, 1) := by decide +kernel
theorem dL_law_26 : decode cL_law 26 = .ok (.aload_n 1, 1) := by decide +kernel
theorem dL_law_27 : decode cL_law 27 = .ok (.aload_n 3, 1) := by decide +kernel
theorem dL_law_28 : decode cL_law 28 = .ok (.invokestatic 137, 3) := by decide +kernel
theorem dL_law_31 : decode cL_law 31 = .ok (.istore 4, 2) := by decide +kernel
theorem dL_law_33 : decode cL_law 33 = .ok (.iconst 0, 1) := by decide +kernel
theorem dL_law_34 : decode cL_law 34 = .ok (.istore 5, 2) := by decide +kernel
theorem dL_law_36 : decode cL_law 36 = .ok (.iload 5, 2) := by decide +kernel
theorem dL_law_38 : decode cL_law 38 = .ok (.bipush 60, 2) := by decide +kernel
theorem dL_law_40 : decode cL_law 40 = .ok (.if_icmp .ge 167, 3) := by decide +kernel
theorem dL_law_43 : decode cL_law 43 = .ok (.iload 4, 2) := by decide +kernel
theorem dL_law_45 : decode cL_law 45 = .ok (.ifCond .eq 162, 3) := by decide +kernel
theorem dL_law_48 : decode cL_law 48 = .ok (.aload_n 0, 1) := by decide +kernel
theorem dL_law_49 : decode cL_law 49 = .ok (.iconst 2, 1) := by decide +kernel
theorem dL_law_50 : decode cL_law 50 = .ok (.iload 5, 2) := by decide +kernel
theorem dL_law_52 : decode cL_law 52 = .ok (.imul, 1) := by decide +kernel
theorem dL_law_53 : decode cL_law 53 = .ok (.invokestatic 141, 3) := by decide +kernel
theorem dL_law_56 : decode cL_law 56 = .ok (.istore 6, 2) := by decide +kernel
theorem dL_law_58 : decode cL_law 58 = .ok (.aload_n 0, 1) := by decide +kernel
theorem dL_law_59 : decode cL_law 59 = .ok (.iconst 2, 1) := by decide +kernel
theorem dL_law_60 : decode cL_law 60 = .ok (.iload 5, 2) := by decide +kernel
theorem dL_law_62 : decode cL_law 62 = .ok (.imul, 1) := by decide +kernel
theorem dL_law_63 : decode cL_law 63 = .ok (.iconst 1, 1) := by decide +kernel
theorem dL_law_64 : decode cL_law 64 = .ok (.iadd, 1) := by decide +kernel
theorem dL_law_65 : decode cL_law 65 = .ok (.invokestatic 141, 3) := by decide +kernel
theorem dL_law_68 : decode cL_law 68 = .ok (.istore 7, 2) := by decide +kernel
theorem dL_law_70 : decode cL_law 70 = .ok (.iload 6, 2) := by decide +kernel
theorem dL_law_72 : decode cL_law 72 = .ok (.bipush 24, 2) := by decide +kernel
theorem dL_law_74 : decode cL_law 74 = .ok (.invokestatic 115, 3) := by decide +kernel
theorem dL_law_77 : decode cL_law 77 = .ok (.istore 8, 2) := by decide +kernel
theorem dL_law_79 : decode cL_law 79 = .ok (.iload 8, 2) := by decide +kernel
theorem dL_law_81 : decode cL_law 81 = .ok (.bipush 12, 2) := by decide +kernel
theorem dL_law_83 : decode cL_law 83 = .ok (.if_icmp .lt 9, 3) := by decide +kernel
theorem dL_law_86 : decode cL_law 86 = .ok (.iload 5, 2) := by decide +kernel
theorem dL_law_88 : decode cL_law 88 = .ok (.iconst 5, 1) := by decide +kernel
theorem dL_law_89 : decode cL_law 89 = .ok (.if_icmp .ge 18, 3) := by decide +kernel
theorem dL_law_92 : decode cL_law 92 = .ok (.aload_n 1, 1) := by decide +kernel
theorem dL_law_93 : decode cL_law 93 = .ok (.aload_n 2, 1) := by decide +kernel
theorem dL_law_94 : decode cL_law 94 = .ok (.aload_n 3, 1) := by decide +kernel
theorem dL_law_95 : decode cL_law 95 = .ok (.iload 6, 2) := by decide +kernel
theorem dL_law_97 : decode cL_law 97 = .ok (.iconst 5, 1) := by decide +kernel
theorem dL_law_98 : decode cL_law 98 = .ok (.ishr, 1) := by decide +kernel
theorem dL_law_99 : decode cL_law 99 = .ok (.iload 7, 2) := by decide +kernel
theorem dL_law_101 : decode cL_law 101 = .ok (.invokestatic 145, 3) := by decide +kernel
theorem dL_law_104 : decode cL_law 104 = .ok (.goto 37, 3) := by decide +kernel
theorem dL_law_107 : decode cL_law 107 = .ok (.iload 8, 2) := by decide +kernel
theorem dL_law_109 : decode cL_law 109 = .ok (.bipush 18, 2) := by decide +kernel
theorem dL_law_111 : decode cL_law 111 = .ok (.if_icmp .ge 18, 3) := by decide +kernel
theorem dL_law_114 : decode cL_law 114 = .ok (.aload_n 1, 1) := by decide +kernel
theorem dL_law_115 : decode cL_law 115 = .ok (.aload_n 2, 1) := by decide +kernel
theorem dL_law_116 : decode cL_law 116 = .ok (.aload_n 3, 1) := by decide +kernel
theorem dL_law_117 : decode cL_law 117 = .ok (.iload 6, 2) := by decide +kernel
theorem dL_law_119 : decode cL_law 119 = .ok (.iconst 5, 1) := by decide +kernel
theorem dL_law_120 : decode cL_law 120 = .ok (.ishr, 1) := by decide +kernel
theorem dL_law_121 : decode cL_law 121 = .ok (.iload 7, 2) := by decide +kernel
theorem dL_law_123 : decode cL_law 123 = .ok (.invokestatic 149, 3) := by decide +kernel
theorem dL_law_126 : decode cL_law 126 = .ok (.goto 15, 3) := by decide +kernel
theorem dL_law_129 : decode cL_law 129 = .ok (.aload_n 1, 1) := by decide +kernel
theorem dL_law_130 : decode cL_law 130 = .ok (.aload_n 2, 1) := by decide +kernel
theorem dL_law_131 : decode cL_law 131 = .ok (.aload_n 3, 1) := by decide +kernel
theorem dL_law_132 : decode cL_law 132 = .ok (.iload 6, 2) := by decide +kernel
theorem dL_law_134 : decode cL_law 134 = .ok (.iconst 5, 1) := by decide +kernel
theorem dL_law_135 : decode cL_law 135 = .ok (.ishr, 1) := by decide +kernel
theorem dL_law_136 : decode cL_law 136 = .ok (.iload 7, 2) := by decide +kernel
theorem dL_law_138 : decode cL_law 138 = .ok (.invokestatic 152, 3) := by decide +kernel
theorem dL_law_141 : decode cL_law 141 = .ok (.istore 4, 2) := by decide +kernel
theorem dL_law_143 : decode cL_law 143 = .ok (.iload 4, 2) := by decide +kernel
theorem dL_law_145 : decode cL_law 145 = .ok (.ifCond .eq 53, 3) := by decide +kernel
theorem dL_law_148 : decode cL_law 148 = .ok (.iload 5, 2) := by decide +kernel
theorem dL_law_150 : decode cL_law 150 = .ok (.bipush 12, 2) := by decide +kernel
theorem dL_law_152 : decode cL_law 152 = .ok (.irem, 1) := by decide +kernel
theorem dL_law_153 : decode cL_law 153 = .ok (.ifCond .gt 25, 3) := by decide +kernel
theorem dL_law_156 : decode cL_law 156 = .ok (.aload_n 1, 1) := by decide +kernel
theorem dL_law_157 : decode cL_law 157 = .ok (.aload_n 3, 1) := by decide +kernel
theorem dL_law_158 : decode cL_law 158 = .ok (.invokestatic 132, 3) := by decide +kernel
theorem dL_law_161 : decode cL_law 161 = .ok (.aload_n 2, 1) := by decide +kernel
theorem dL_law_162 : decode cL_law 162 = .ok (.aload_n 3, 1) := by decide +kernel
theorem dL_law_163 : decode cL_law 163 = .ok (.invokestatic 132, 3) := by decide +kernel
theorem dL_law_166 : decode cL_law 166 = .ok (.lcmp, 1) := by decide +kernel
theorem dL_law_167 : decode cL_law 167 = .ok (.ifCond .ne 31, 3) := by decide +kernel
theorem dL_law_170 : decode cL_law 170 = .ok (.aload_n 1, 1) := by decide +kernel
theorem dL_law_171 : decode cL_law 171 = .ok (.aload_n 3, 1) := by decide +kernel
theorem dL_law_172 : decode cL_law 172 = .ok (.invokestatic 155, 3) := by decide +kernel
theorem dL_law_175 : decode cL_law 175 = .ok (.ifCond .eq 23, 3) := by decide +kernel
theorem dL_law_178 : decode cL_law 178 = .ok (.iload 5, 2) := by decide +kernel
theorem dL_law_180 : decode cL_law 180 = .ok (.bipush 30, 2) := by decide +kernel
theorem dL_law_182 : decode cL_law 182 = .ok (.irem, 1) := by decide +kernel
theorem dL_law_183 : decode cL_law 183 = .ok (.ifCond .gt 11, 3) := by decide +kernel
theorem dL_law_186 : decode cL_law 186 = .ok (.aload_n 1, 1) := by decide +kernel
theorem dL_law_187 : decode cL_law 187 = .ok (.aload_n 3, 1) := by decide +kernel
theorem dL_law_188 : decode cL_law 188 = .ok (.invokestatic 137, 3) := by decide +kernel
theorem dL_law_191 : decode cL_law 191 = .ok (.ifCond .eq 7, 3) := by decide +kernel
theorem dL_law_194 : decode cL_law 194 = .ok (.iconst 1, 1) := by decide +kernel
theorem dL_law_195 : decode cL_law 195 = .ok (.goto 4, 3) := by decide +kernel
theorem dL_law_198 : decode cL_law 198 = .ok (.iconst 0, 1) := by decide +kernel
theorem dL_law_199 : decode cL_law 199 = .ok (.istore 4, 2) := by decide +kernel
theorem dL_law_201 : decode cL_law 201 = .ok (.iinc 5 1, 3) := by decide +kernel
theorem dL_law_204 : decode cL_law 204 = .ok (.goto (-168), 3) := by decide +kernel
theorem dL_law_207 : decode cL_law 207 = .ok (.iload 4, 2) := by decide +kernel
theorem dL_law_209 : decode cL_law 209 = .ok (.ifCond .eq 29, 3) := by decide +kernel
theorem dL_law_212 : decode cL_law 212 = .ok (.aload_n 1, 1) := by decide +kernel
theorem dL_law_213 : decode cL_law 213 = .ok (.aload_n 3, 1) := by decide +kernel
theorem dL_law_214 : decode cL_law 214 = .ok (.invokestatic 132, 3) := by decide +kernel
theorem dL_law_217 : decode cL_law 217 = .ok (.aload_n 2, 1) := by decide +kernel
theorem dL_law_218 : decode cL_law 218 = .ok (.aload_n 3, 1) := by decide +kernel
theorem dL_law_219 : decode cL_law 219 = .ok (.invokestatic 132, 3) := by decide +kernel
theorem dL_law_222 : decode cL_law 222 = .ok (.lcmp, 1) := by decide +kernel
theorem dL_law_223 : decode cL_law 223 = .ok (.ifCond .ne 15, 3) := by decide +kernel
theorem dL_law_226 : decode cL_law 226 = .ok (.aload_n 1, 1) := by decide +kernel
theorem dL_law_227 : decode cL_law 227 = .ok (.aload_n 3, 1) := by decide +kernel
theorem dL_law_228 : decode cL_law 228 = .ok (.invokestatic 155, 3) := by decide +kernel
theorem dL_law_231 : decode cL_law 231 = .ok (.ifCond .eq 7, 3) := by decide +kernel
theorem dL_law_234 : decode cL_law 234 = .ok (.iconst 1, 1) := by decide +kernel
theorem dL_law_235 : decode cL_law 235 = .ok (.goto 4, 3) := by decide +kernel
theorem dL_law_238 : decode cL_law 238 = .ok (.iconst 0, 1) := by decide +kernel
theorem dL_law_239 : decode cL_law 239 = .ok (.ireturn, 1) := by decide +kernel
