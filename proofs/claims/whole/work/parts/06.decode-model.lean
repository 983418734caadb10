theorem dX7_init_0 : decode cX7_init 0 = .ok (.aload_n 0, 1) := by decide +kernel
theorem dX7_init_1 : decode cX7_init 1 = .ok (.invokespecial 1, 3) := by decide +kernel
theorem dX7_init_4 : decode cX7_init 4 = .ok (.aload_n 0, 1) := by decide +kernel
theorem dX7_init_5 : decode cX7_init 5 = .ok (.bipush 8, 2) := by decide +kernel
theorem dX7_init_7 : decode cX7_init 7 = .ok (.newarray .int, 2) := by decide +kernel
theorem dX7_init_9 : decode cX7_init 9 = .ok (.putfield 7, 3) := by decide +kernel
theorem dX7_init_12 : decode cX7_init 12 = .ok (.aload_n 0, 1) := by decide +kernel
theorem dX7_init_13 : decode cX7_init 13 = .ok (.bipush 8, 2) := by decide +kernel
theorem dX7_init_15 : decode cX7_init 15 = .ok (.newarray .int, 2) := by decide +kernel
theorem dX7_init_17 : decode cX7_init 17 = .ok (.putfield 13, 3) := by decide +kernel
theorem dX7_init_20 : decode cX7_init 20 = .ok (.aload_n 0, 1) := by decide +kernel
theorem dX7_init_21 : decode cX7_init 21 = .ok (.bipush 8, 2) := by decide +kernel
theorem dX7_init_23 : decode cX7_init 23 = .ok (.newarray .boolean, 2) := by decide +kernel
theorem dX7_init_25 : decode cX7_init 25 = .ok (.putfield 16, 3) := by decide +kernel
theorem dX7_init_28 : decode cX7_init 28 = .ok (.aload_n 0, 1) := by decide +kernel
theorem dX7_init_29 : decode cX7_init 29 = .ok (.bipush 8, 2) := by decide +kernel
theorem dX7_init_31 : decode cX7_init 31 = .ok (.newarray .int, 2) := by decide +kernel
theorem dX7_init_33 : decode cX7_init 33 = .ok (.putfield 20, 3) := by decide +kernel
theorem dX7_init_36 : decode cX7_init 36 = .ok (.aload_n 0, 1) := by decide +kernel
theorem dX7_init_37 : decode cX7_init 37 = .ok (.bipush 64, 2) := by decide +kernel
theorem dX7_init_39 : decode cX7_init 39 = .ok (.newarray .int, 2) := by decide +kernel
theorem dX7_init_41 : decode cX7_init 41 = .ok (.putfield 23, 3) := by decide +kernel
theorem dX7_init_44 : decode cX7_init 44 = .ok (.aload_n 0, 1) := by decide +kernel
theorem dX7_init_45 : decode cX7_init 45 = .ok (.bipush 64, 2) := by decide +kernel
theorem dX7_init_47 : decode cX7_init 47 = .ok (.newarray .int, 2) := by decide +kernel
theorem dX7_init_49 : decode cX7_init 49 = .ok (.putfield 26, 3) := by decide +kernel
theorem dX7_init_52 : decode cX7_init 52 = .ok (.aload_n 0, 1) := by decide +kernel
theorem dX7_init_53 : decode cX7_init 53 = .ok (.bipush 8, 2) := by decide +kernel
theorem dX7_init_55 : decode cX7_init 55 = .ok (.newarray .int, 2) := by decide +kernel
theorem dX7_init_57 : decode cX7_init 57 = .ok (.putfield 29, 3) := by decide +kernel
theorem dX7_init_60 : decode cX7_init 60 = .ok (.aload_n 0, 1) := by decide +kernel
theorem dX7_init_61 : decode cX7_init 61 = .ok (.bipush 8, 2) := by decide +kernel
theorem dX7_init_63 : decode cX7_init 63 = .ok (.newarray .int, 2) := by decide +kernel
theorem dX7_init_65 : decode cX7_init 65 = .ok (.putfield 32, 3) := by decide +kernel
theorem dX7_init_68 : decode cX7_init 68 = .ok (.aload_n 0, 1) := by decide +kernel
theorem dX7_init_69 : decode cX7_init 69 = .ok (.bipush 8, 2) := by decide +kernel
theorem dX7_init_71 : decode cX7_init 71 = .ok (.newarray .int, 2) := by decide +kernel
theorem dX7_init_73 : decode cX7_init 73 = .ok (.putfield 35, 3) := by decide +kernel
theorem dX7_init_76 : decode cX7_init 76 = .ok (.aload_n 0, 1) := by decide +kernel
theorem dX7_init_77 : decode cX7_init 77 = .ok (.bipush 8, 2) := by decide +kernel
theorem dX7_init_79 : decode cX7_init 79 = .ok (.newarray .int, 2) := by decide +kernel
theorem dX7_init_81 : decode cX7_init 81 = .ok (.putfield 38, 3) := by decide +kernel
theorem dX7_init_84 : decode cX7_init 84 = .ok (.aload_n 0, 1) := by decide +kernel
theorem dX7_init_85 : decode cX7_init 85 = .ok (.bipush 8, 2) := by decide +kernel
theorem dX7_init_87 : decode cX7_init 87 = .ok (.newarray .boolean, 2) := by decide +kernel
theorem dX7_init_89 : decode cX7_init 89 = .ok (.putfield 41, 3) := by decide +kernel
theorem dX7_init_92 : decode cX7_init 92 = .ok (.aload_n 0, 1) := by decide +kernel
theorem dX7_init_93 : decode cX7_init 93 = .ok (.bipush 8, 2) := by decide +kernel
theorem dX7_init_95 : decode cX7_init 95 = .ok (.putfield 44, 3) := by decide +kernel
theorem dX7_init_98 : decode cX7_init 98 = .ok (.aload_n 0, 1) := by decide +kernel
theorem dX7_init_99 : decode cX7_init 99 = .ok (.sipush 4096, 3) := by decide +kernel
theorem dX7_init_102 : decode cX7_init 102 = .ok (.newarray .int, 2) := by decide +kernel
theorem dX7_init_104 : decode cX7_init 104 = .ok (.putfield 48, 3) := by decide +kernel
theorem dX7_init_107 : decode cX7_init 107 = .ok (.aload_n 0, 1) := by decide +kernel
theorem dX7_init_108 : decode cX7_init 108 = .ok (.sipush 4096, 3) := by decide +kernel
theorem dX7_init_111 : decode cX7_init 111 = .ok (.newarray .int, 2) := by decide +kernel
theorem dX7_init_113 : decode cX7_init 113 = .ok (.putfield 51, 3) := by decide +kernel
theorem dX7_init_116 : decode cX7_init 116 = .ok (.aload_n 0, 1) := by decide +kernel
theorem dX7_init_117 : decode cX7_init 117 = .ok (.bipush 8, 2) := by decide +kernel
theorem dX7_init_119 : decode cX7_init 119 = .ok (.newarray .int, 2) := by decide +kernel
theorem dX7_init_121 : decode cX7_init 121 = .ok (.putfield 54, 3) := by decide +kernel
theorem dX7_init_124 : decode cX7_init 124 = .ok (.aload_n 0, 1) := by decide +kernel
theorem dX7_init_125 : decode cX7_init 125 = .ok (.sipush 20000, 3) := by decide +kernel
theorem dX7_init_128 : decode cX7_init 128 = .ok (.newarray .int, 2) := by decide +kernel
theorem dX7_init_130 : decode cX7_init 130 = .ok (.putfield 57, 3) := by decide +kernel
theorem dX7_init_133 : decode cX7_init 133 = .ok (.aload_n 0, 1) := by decide +kernel
theorem dX7_init_134 : decode cX7_init 134 = .ok (.sipush 20000, 3) := by decide +kernel
theorem dX7_init_137 : decode cX7_init 137 = .ok (.newarray .int, 2) := by decide +kernel
theorem dX7_init_139 : decode cX7_init 139 = .ok (.putfield 60, 3) := by decide +kernel
theorem dX7_init_142 : decode cX7_init 142 = .ok (.aload_n 0, 1) := by decide +kernel
theorem dX7_init_143 : decode cX7_init 143 = .ok (.sipush 20000, 3) := by decide +kernel
theorem dX7_init_146 : decode cX7_init 146 = .ok (.newarray .int, 2) := by decide +kernel
theorem dX7_init_148 : decode cX7_init 148 = .ok (.putfield 63, 3) := by decide +kernel
theorem dX7_init_151 : decode cX7_init 151 = .ok (.aload_n 0, 1) := by decide +kernel
theorem dX7_init_152 : decode cX7_init 152 = .ok (.sipush 20000, 3) := by decide +kernel
theorem dX7_init_155 : decode cX7_init 155 = .ok (.newarray .int, 2) := by decide +kernel
theorem dX7_init_157 : decode cX7_init 157 = .ok (.putfield 66, 3) := by decide +kernel
theorem dX7_init_160 : decode cX7_init 160 = .ok (.aload_n 0, 1) := by decide +kernel
theorem dX7_init_161 : decode cX7_init 161 = .ok (.bipush 8, 2) := by decide +kernel
theorem dX7_init_163 : decode cX7_init 163 = .ok (.newarray .boolean, 2) := by decide +kernel
theorem dX7_init_165 : decode cX7_init 165 = .ok (.putfield 69, 3) := by decide +kernel
theorem dX7_init_168 : decode cX7_init 168 = .ok (.aload_n 0, 1) := by decide +kernel
theorem dX7_init_169 : decode cX7_init 169 = .ok (.sipush 1024, 3) := by decide +kernel
theorem dX7_init_172 : decode cX7_init 172 = .ok (.newarray .boolean, 2) := by decide +kernel
theorem dX7_init_174 : decode cX7_init 174 = .ok (.putfield 72, 3) := by decide +kernel
theorem dX7_init_177 : decode cX7_init 177 = .ok (.aload_n 0, 1) := by decide +kernel
theorem dX7_init_178 : decode cX7_init 178 = .ok (.ldc 75, 2) := by decide +kernel
theorem dX7_init_180 : decode cX7_init 180 = .ok (.newarray .int, 2) := by decide +kernel
theorem dX7_init_182 : decode cX7_init 182 = .ok (.putfield 76, 3) := by decide +kernel
theorem dX7_init_185 : decode cX7_init 185 = .ok (.aload_n 0, 1) := by decide +kernel
theorem dX7_init_186 : decode cX7_init 186 = .ok (.sipush 20000, 3) := by decide +kernel
theorem dX7_init_189 : decode cX7_init 189 = .ok (.newarray .int, 2) := by decide +kernel
theorem dX7_init_191 : decode cX7_init 191 = .ok (.putfield 79, 3) := by decide +kernel
theorem dX7_init_194 : decode cX7_init 194 = .ok (.aload_n 0, 1) := by decide +kernel
theorem dX7_init_195 : decode cX7_init 195 = .ok (.iconst 4, 1) := by decide +kernel
theorem dX7_init_196 : decode cX7_init 196 = .ok (.newarray .int, 2) := by decide +kernel
theorem dX7_init_198 : decode cX7_init 198 = .ok (.putfield 82, 3) := by decide +kernel
theorem dX7_init_201 : decode cX7_init 201 = .ok (.aload_n 0, 1) := by decide +kernel
theorem dX7_init_202 : decode cX7_init 202 = .ok (.iconst 4, 1) := by decide +kernel
theorem dX7_init_203 : decode cX7_init 203 = .ok (.newarray .int, 2) := by decide +kernel
theorem dX7_init_205 : decode cX7_init 205 = .ok (.putfield 85, 3) := by decide +kernel
theorem dX7_init_208 : decode cX7_init 208 = .ok (.aload_n 0, 1) := by decide +kernel
theorem dX7_init_209 : decode cX7_init 209 = .ok (.iconst 0, 1) := by decide +kernel
theorem dX7_init_210 : decode cX7_init 210 = .ok (.putfield 88, 3) := by decide +kernel
theorem dX7_init_213 : decode cX7_init 213 = .ok (.return_, 1) := by decide +kernel
theorem dX7_thrown_0 : decode cX7_thrown 0 = .ok (.aload_n 0, 1) := by decide +kernel
theorem dX7_thrown_1 : decode cX7_thrown 1 = .ok (.getfield 91, 3) := by decide +kernel
theorem dX7_thrown_4 : decode cX7_thrown 4 = .ok (.ireturn, 1) := by decide +kernel
theorem dX7_fails_0 : decode cX7_fails 0 = .ok (.aload_n 0, 1) := by decide +kernel
theorem dX7_fails_1 : decode cX7_fails 1 = .ok (.iload_n 1, 1) := by decide +kernel
theorem dX7_fails_2 : decode cX7_fails 2 = .ok (.putfield 91, 3) := by decide +kernel
theorem dX7_fails_5 : decode cX7_fails 5 = .ok (.iconst 0, 1) := by decide +kernel
theorem dX7_fails_6 : decode cX7_fails 6 = .ok (.ireturn, 1) := by decide +kernel
theorem dX7_asks_0 : decode cX7_asks 0 = .ok (.aload_n 0, 1) := by decide +kernel
theorem dX7_asks_1 : decode cX7_asks 1 = .ok (.iload_n 1, 1) := by decide +kernel
theorem dX7_asks_2 : decode cX7_asks 2 = .ok (.ifCond .eq 7, 3) := by decide +kernel
theorem dX7_asks_5 : decode cX7_asks 5 = .ok (.iconst 0, 1) := by decide +kernel
theorem dX7_asks_6 : decode cX7_asks 6 = .ok (.goto 4, 3) := by decide +kernel
theorem dX7_asks_9 : decode cX7_asks 9 = .ok (.iconst 1, 1) := by decide +kernel
theorem dX7_asks_10 : decode cX7_asks 10 = .ok (.putfield 91, 3) := by decide +kernel
theorem dX7_asks_13 : decode cX7_asks 13 = .ok (.iload_n 1, 1) := by decide +kernel
theorem dX7_asks_14 : decode cX7_asks 14 = .ok (.ireturn, 1) := by decide +kernel
theorem dX7_in_0 : decode cX7_in 0 = .ok (.iload_n 0, 1) := by decide +kernel
theorem dX7_in_1 : decode cX7_in 1 = .ok (.iload_n 1, 1) := by decide +kernel
theorem dX7_in_2 : decode cX7_in 2 = .ok (.if_icmp .lt 12, 3) := by decide +kernel
theorem dX7_in_5 : decode cX7_in 5 = .ok (.iload_n 0, 1) := by decide +kernel
theorem dX7_in_6 : decode cX7_in 6 = .ok (.iload_n 2, 1) := by decide +kernel
theorem dX7_in_7 : decode cX7_in 7 = .ok (.if_icmp .gt 7, 3) := by decide +kernel
theorem dX7_in_10 : decode cX7_in 10 = .ok (.iconst 1, 1) := by decide +kernel
theorem dX7_in_11 : decode cX7_in 11 = .ok (.goto 4, 3) := by decide +kernel
theorem dX7_in_14 : decode cX7_in 14 = .ok (.iconst 0, 1) := by decide +kernel
theorem dX7_in_15 : decode cX7_in 15 = .ok (.ireturn, 1) := by decide +kernel
theorem dX7_size_0 : decode cX7_size 0 = .ok (.iload_n 0, 1) := by decide +kernel
theorem dX7_size_1 : decode cX7_size 1 = .ok (.ifCond .ge 8, 3) := by decide +kernel
theorem dX7_size_4 : decode cX7_size 4 = .ok (.iload_n 0, 1) := by decide +kernel
theorem dX7_size_5 : decode cX7_size 5 = .ok (.ineg, 1) := by decide +kernel
theorem dX7_size_6 : decode cX7_size 6 = .ok (.goto 4, 3) := by decide +kernel
theorem dX7_size_9 : decode cX7_size 9 = .ok (.iload_n 0, 1) := by decide +kernel
theorem dX7_size_10 : decode cX7_size 10 = .ok (.ireturn, 1) := by decide +kernel
theorem dX7_greater_0 : decode cX7_greater 0 = .ok (.iload_n 0, 1) := by decide +kernel
theorem dX7_greater_1 : decode cX7_greater 1 = .ok (.iload_n 1, 1) := by decide +kernel
theorem dX7_greater_2 : decode cX7_greater 2 = .ok (.if_icmp .le 7, 3) := by decide +kernel
theorem dX7_greater_5 : decode cX7_greater 5 = .ok (.iload_n 0, 1) := by decide +kernel
theorem dX7_greater_6 : decode cX7_greater 6 = .ok (.goto 4, 3) := by decide +kernel
theorem dX7_greater_9 : decode cX7_greater 9 = .ok (.iload_n 1, 1) := by decide +kernel
theorem dX7_greater_10 : decode cX7_greater 10 = .ok (.ireturn, 1) := by decide +kernel
theorem dX7_down_0 : decode cX7_down 0 = .ok (.iload_n 1, 1) := by decide +kernel
theorem dX7_down_1 : decode cX7_down 1 = .ok (.ifCond .ge 8, 3) := by decide +kernel
theorem dX7_down_4 : decode cX7_down 4 = .ok (.iload_n 0, 1) := by decide +kernel
theorem dX7_down_5 : decode cX7_down 5 = .ok (.ineg, 1) := by decide +kernel
theorem dX7_down_6 : decode cX7_down 6 = .ok (.goto 4, 3) := by decide +kernel
theorem dX7_down_9 : decode cX7_down 9 = .ok (.iload_n 0, 1) := by decide +kernel
theorem dX7_down_10 : decode cX7_down 10 = .ok (.istore_n 2, 1) := by decide +kernel
theorem dX7_down_11 : decode cX7_down 11 = .ok (.iload_n 1, 1) := by decide +kernel
theorem dX7_down_12 : decode cX7_down 12 = .ok (.ifCond .ge 8, 3) := by decide +kernel
theorem dX7_down_15 : decode cX7_down 15 = .ok (.iload_n 1, 1) := by decide +kernel
theorem dX7_down_16 : decode cX7_down 16 = .ok (.ineg, 1) := by decide +kernel
theorem dX7_down_17 : decode cX7_down 17 = .ok (.goto 4, 3) := by decide +kernel
theorem dX7_down_20 : decode cX7_down 20 = .ok (.iload_n 1, 1) := by decide +kernel
theorem dX7_down_21 : decode cX7_down 21 = .ok (.istore_n 3, 1) := by decide +kernel
theorem dX7_down_22 : decode cX7_down 22 = .ok (.iload_n 2, 1) := by decide +kernel
theorem dX7_down_23 : decode cX7_down 23 = .ok (.ifCond .lt 9, 3) := by decide +kernel
theorem dX7_down_26 : decode cX7_down 26 = .ok (.iload_n 2, 1) := by decide +kernel
theorem dX7_down_27 : decode cX7_down 27 = .ok (.iload_n 3, 1) := by decide +kernel
theorem dX7_down_28 : decode cX7_down 28 = .ok (.idiv, 1) := by decide +kernel
theorem dX7_down_29 : decode cX7_down 29 = .ok (.goto 11, 3) := by decide +kernel
theorem dX7_down_32 : decode cX7_down 32 = .ok (.iload_n 3, 1) := by decide +kernel
theorem dX7_down_33 : decode cX7_down 33 = .ok (.iconst 1, 1) := by decide +kernel
theorem dX7_down_34 : decode cX7_down 34 = .ok (.isub, 1) := by decide +kernel
theorem dX7_down_35 : decode cX7_down 35 = .ok (.iload_n 2, 1) := by decide +kernel
theorem dX7_down_36 : decode cX7_down 36 = .ok (.isub, 1) := by decide +kernel
theorem dX7_down_37 : decode cX7_down 37 = .ok (.iload_n 3, 1) := by decide +kernel
theorem dX7_down_38 : decode cX7_down 38 = .ok (.idiv, 1) := by decide +kernel
theorem dX7_down_39 : decode cX7_down 39 = .ok (.ineg, 1) := by decide +kernel
theorem dX7_down_40 : decode cX7_down 40 = .ok (.ireturn, 1) := by decide +kernel
theorem dX7_isField_0 : decode cX7_isField 0 = .ok (.iload_n 1, 1) := by decide +kernel
theorem dX7_isField_1 : decode cX7_isField 1 = .ok (.iconst 0, 1) := by decide +kernel
theorem dX7_isField_2 : decode cX7_isField 2 = .ok (.aload_n 0, 1) := by decide +kernel
theorem dX7_isField_3 : decode cX7_isField 3 = .ok (.getfield 94, 3) := by decide +kernel
theorem dX7_isField_6 : decode cX7_isField 6 = .ok (.iconst 1, 1) := by decide +kernel
theorem dX7_isField_7 : decode cX7_isField 7 = .ok (.isub, 1) := by decide +kernel
theorem dX7_isField_8 : decode cX7_isField 8 = .ok (.invokestatic 97, 3) := by decide +kernel
theorem dX7_isField_11 : decode cX7_isField 11 = .ok (.ireturn, 1) := by decide +kernel
theorem dX7_field_0 : decode cX7_field 0 = .ok (.aload_n 0, 1) := by decide +kernel
theorem dX7_field_1 : decode cX7_field 1 = .ok (.iload_n 1, 1) := by decide +kernel
theorem dX7_field_2 : decode cX7_field 2 = .ok (.iconst 0, 1) := by decide +kernel
theorem dX7_field_3 : decode cX7_field 3 = .ok (.iconst 5, 1) := by decide +kernel
theorem dX7_field_4 : decode cX7_field 4 = .ok (.invokestatic 97, 3) := by decide +kernel
theorem dX7_field_7 : decode cX7_field 7 = .ok (.ifCond .eq 16, 3) := by decide +kernel
theorem dX7_field_10 : decode cX7_field 10 = .ok (.iload_n 2, 1) := by decide +kernel
theorem dX7_field_11 : decode cX7_field 11 = .ok (.iconst 0, 1) := by decide +kernel
theorem dX7_field_12 : decode cX7_field 12 = .ok (.iconst 3, 1) := by decide +kernel
theorem dX7_field_13 : decode cX7_field 13 = .ok (.invokestatic 97, 3) := by decide +kernel
theorem dX7_field_16 : decode cX7_field 16 = .ok (.ifCond .eq 7, 3) := by decide +kernel
theorem dX7_field_19 : decode cX7_field 19 = .ok (.iconst 1, 1) := by decide +kernel
theorem dX7_field_20 : decode cX7_field 20 = .ok (.goto 4, 3) := by decide +kernel
theorem dX7_field_23 : decode cX7_field 23 = .ok (.iconst 0, 1) := by decide +kernel
theorem dX7_field_24 : decode cX7_field 24 = .ok (.invokevirtual 101, 3) := by decide +kernel
theorem dX7_field_27 : decode cX7_field 27 = .ok (.ifCond .ne 5, 3) := by decide +kernel
theorem dX7_field_30 : decode cX7_field 30 = .ok (.iconst 0, 1) := by decide +kernel
theorem dX7_field_31 : decode cX7_field 31 = .ok (.ireturn, 1) := by decide +kernel
theorem dX7_field_32 : decode cX7_field 32 = .ok (.aload_n 0, 1) := by decide +kernel
theorem dX7_field_33 : decode cX7_field 33 = .ok (.getfield 94, 3) := by decide +kernel
theorem dX7_field_36 : decode cX7_field 36 = .ok (.bipush 8, 2) := by decide +kernel
theorem dX7_field_38 : decode cX7_field 38 = .ok (.if_icmp .ne 9, 3) := by decide +kernel
theorem dX7_field_41 : decode cX7_field 41 = .ok (.aload_n 0, 1) := by decide +kernel
theorem dX7_field_42 : decode cX7_field 42 = .ok (.iconst 2, 1) := by decide +kernel
theorem dX7_field_43 : decode cX7_field 43 = .ok (.invokevirtual 105, 3) := by decide +kernel
theorem dX7_field_46 : decode cX7_field 46 = .ok (.ireturn, 1) := by decide +kernel
theorem dX7_field_47 : decode cX7_field 47 = .ok (.aload_n 0, 1) := by decide +kernel
theorem dX7_field_48 : decode cX7_field 48 = .ok (.getfield 7, 3) := by decide +kernel
theorem dX7_field_51 : decode cX7_field 51 = .ok (.aload_n 0, 1) := by decide +kernel
theorem dX7_field_52 : decode cX7_field 52 = .ok (.getfield 94, 3) := by decide +kernel
theorem dX7_field_55 : decode cX7_field 55 = .ok (.iload_n 1, 1) := by decide +kernel
theorem dX7_field_56 : decode cX7_field 56 = .ok (.iastore, 1) := by decide +kernel
theorem dX7_field_57 : decode cX7_field 57 = .ok (.aload_n 0, 1) := by decide +kernel
theorem dX7_field_58 : decode cX7_field 58 = .ok (.getfield 13, 3) := by decide +kernel
theorem dX7_field_61 : decode cX7_field 61 = .ok (.aload_n 0, 1) := by decide +kernel
theorem dX7_field_62 : decode cX7_field 62 = .ok (.getfield 94, 3) := by decide +kernel
theorem dX7_field_65 : decode cX7_field 65 = .ok (.iload_n 2, 1) := by decide +kernel
theorem dX7_field_66 : decode cX7_field 66 = .ok (.iastore, 1) := by decide +kernel
theorem dX7_field_67 : decode cX7_field 67 = .ok (.aload_n 0, 1) := by decide +kernel
theorem dX7_field_68 : decode cX7_field 68 = .ok (.getfield 16, 3) := by decide +kernel
theorem dX7_field_71 : decode cX7_field 71 = .ok (.aload_n 0, 1) := by decide +kernel
theorem dX7_field_72 : decode cX7_field 72 = .ok (.getfield 94, 3) := by decide +kernel
theorem dX7_field_75 : decode cX7_field 75 = .ok (.iload_n 3, 1) := by decide +kernel
theorem dX7_field_76 : decode cX7_field 76 = .ok (.bastore, 1) := by decide +kernel
theorem dX7_field_77 : decode cX7_field 77 = .ok (.aload_n 0, 1) := by decide +kernel
theorem dX7_field_78 : decode cX7_field 78 = .ok (.getfield 29, 3) := by decide +kernel
theorem dX7_field_81 : decode cX7_field 81 = .ok (.aload_n 0, 1) := by decide +kernel
theorem dX7_field_82 : decode cX7_field 82 = .ok (.getfield 94, 3) := by decide +kernel
theorem dX7_field_85 : decode cX7_field 85 = .ok (.iconst 2, 1) := by decide +kernel
theorem dX7_field_86 : decode cX7_field 86 = .ok (.iastore, 1) := by decide +kernel
theorem dX7_field_87 : decode cX7_field 87 = .ok (.aload_n 0, 1) := by decide +kernel
theorem dX7_field_88 : decode cX7_field 88 = .ok (.getfield 32, 3) := by decide +kernel
theorem dX7_field_91 : decode cX7_field 91 = .ok (.aload_n 0, 1) := by decide +kernel
theorem dX7_field_92 : decode cX7_field 92 = .ok (.getfield 94, 3) := by decide +kernel
theorem dX7_field_95 : decode cX7_field 95 = .ok (.bipush 6, 2) := by decide +kernel
theorem dX7_field_97 : decode cX7_field 97 = .ok (.iastore, 1) := by decide +kernel
theorem dX7_field_98 : decode cX7_field 98 = .ok (.aload_n 0, 1) := by decide +kernel
theorem dX7_field_99 : decode cX7_field 99 = .ok (.dup, 1) := by decide +kernel
theorem dX7_field_100 : decode cX7_field 100 = .ok (.getfield 94, 3) := by decide +kernel
theorem dX7_field_103 : decode cX7_field 103 = .ok (.iconst 1, 1) := by decide +kernel
theorem dX7_field_104 : decode cX7_field 104 = .ok (.iadd, 1) := by decide +kernel
theorem dX7_field_105 : decode cX7_field 105 = .ok (.putfield 94, 3) := by decide +kernel
theorem dX7_field_108 : decode cX7_field 108 = .ok (.aload_n 0, 1) := by decide +kernel
theorem dX7_field_109 : decode cX7_field 109 = .ok (.iconst 0, 1) := by decide +kernel
theorem dX7_field_110 : decode cX7_field 110 = .ok (.putfield 109, 3) := by decide +kernel
theorem dX7_field_113 : decode cX7_field 113 = .ok (.aload_n 0, 1) := by decide +kernel
theorem dX7_field_114 : decode cX7_field 114 = .ok (.getfield 94, 3) := by decide +kernel
theorem dX7_field_117 : decode cX7_field 117 = .ok (.iconst 1, 1) := by decide +kernel
theorem dX7_field_118 : decode cX7_field 118 = .ok (.isub, 1) := by decide +kernel
theorem dX7_field_119 : decode cX7_field 119 = .ok (.ireturn, 1) := by decide +kernel
theorem dX7_corner_0 : decode cX7_corner 0 = .ok (.aload_n 0, 1) := by decide +kernel
theorem dX7_corner_1 : decode cX7_corner 1 = .ok (.aload_n 0, 1) := by decide +kernel
theorem dX7_corner_2 : decode cX7_corner 2 = .ok (.iload_n 1, 1) := by decide +kernel
theorem dX7_corner_3 : decode cX7_corner 3 = .ok (.invokevirtual 113, 3) := by decide +kernel
theorem dX7_corner_6 : decode cX7_corner 6 = .ok (.invokevirtual 101, 3) := by decide +kernel
theorem dX7_corner_9 : decode cX7_corner 9 = .ok (.ifCond .ne 5, 3) := by decide +kernel
theorem dX7_corner_12 : decode cX7_corner 12 = .ok (.iconst 0, 1) := by decide +kernel
theorem dX7_corner_13 : decode cX7_corner 13 = .ok (.ireturn, 1) := by decide +kernel
theorem dX7_corner_14 : decode cX7_corner 14 = .ok (.iload_n 2, 1) := by decide +kernel
theorem dX7_corner_15 : decode cX7_corner 15 = .ok (.iconst 0, 1) := by decide +kernel
theorem dX7_corner_16 : decode cX7_corner 16 = .ok (.bipush 31, 2) := by decide +kernel
theorem dX7_corner_18 : decode cX7_corner 18 = .ok (.invokestatic 97, 3) := by decide +kernel
theorem dX7_corner_21 : decode cX7_corner 21 = .ok (.ifCond .eq 13, 3) := by decide +kernel
theorem dX7_corner_24 : decode cX7_corner 24 = .ok (.iload_n 3, 1) := by decide +kernel
theorem dX7_corner_25 : decode cX7_corner 25 = .ok (.iconst 0, 1) := by decide +kernel
theorem dX7_corner_26 : decode cX7_corner 26 = .ok (.bipush 31, 2) := by decide +kernel
theorem dX7_corner_28 : decode cX7_corner 28 = .ok (.invokestatic 97, 3) := by decide +kernel
theorem dX7_corner_31 : decode cX7_corner 31 = .ok (.ifCond .ne 9, 3) := by decide +kernel
theorem dX7_corner_34 : decode cX7_corner 34 = .ok (.aload_n 0, 1) := by decide +kernel
theorem dX7_corner_35 : decode cX7_corner 35 = .ok (.iconst 2, 1) := by decide +kernel
theorem dX7_corner_36 : decode cX7_corner 36 = .ok (.invokevirtual 105, 3) := by decide +kernel
theorem dX7_corner_39 : decode cX7_corner 39 = .ok (.ireturn, 1) := by decide +kernel
theorem dX7_corner_40 : decode cX7_corner 40 = .ok (.aload_n 0, 1) := by decide +kernel
theorem dX7_corner_41 : decode cX7_corner 41 = .ok (.getfield 20, 3) := by decide +kernel
theorem dX7_corner_44 : decode cX7_corner 44 = .ok (.iload_n 1, 1) := by decide +kernel
theorem dX7_corner_45 : decode cX7_corner 45 = .ok (.iaload, 1) := by decide +kernel
theorem dX7_corner_46 : decode cX7_corner 46 = .ok (.aload_n 0, 1) := by decide +kernel
theorem dX7_corner_47 : decode cX7_corner 47 = .ok (.getfield 16, 3) := by decide +kernel
theorem dX7_corner_50 : decode cX7_corner 50 = .ok (.iload_n 1, 1) := by decide +kernel
theorem dX7_corner_51 : decode cX7_corner 51 = .ok (.baload, 1) := by decide +kernel
theorem dX7_corner_52 : decode cX7_corner 52 = .ok (.ifCond .eq 7, 3) := by decide +kernel
theorem dX7_corner_55 : decode cX7_corner 55 = .ok (.iconst 4, 1) := by decide +kernel
theorem dX7_corner_56 : decode cX7_corner 56 = .ok (.goto 5, 3) := by decide +kernel
theorem dX7_corner_59 : decode cX7_corner 59 = .ok (.bipush 8, 2) := by decide +kernel
theorem dX7_corner_61 : decode cX7_corner 61 = .ok (.if_icmp .ne 9, 3) := by decide +kernel
theorem dX7_corner_64 : decode cX7_corner 64 = .ok (.aload_n 0, 1) := by decide +kernel
theorem dX7_corner_65 : decode cX7_corner 65 = .ok (.iconst 3, 1) := by decide +kernel
theorem dX7_corner_66 : decode cX7_corner 66 = .ok (.invokevirtual 105, 3) := by decide +kernel
theorem dX7_corner_69 : decode cX7_corner 69 = .ok (.ireturn, 1) := by decide +kernel
theorem dX7_corner_70 : decode cX7_corner 70 = .ok (.aload_n 0, 1) := by decide +kernel
theorem dX7_corner_71 : decode cX7_corner 71 = .ok (.getfield 23, 3) := by decide +kernel
theorem dX7_corner_74 : decode cX7_corner 74 = .ok (.bipush 8, 2) := by decide +kernel
theorem dX7_corner_76 : decode cX7_corner 76 = .ok (.iload_n 1, 1) := by decide +kernel
theorem dX7_corner_77 : decode cX7_corner 77 = .ok (.imul, 1) := by decide +kernel
theorem dX7_corner_78 : decode cX7_corner 78 = .ok (.aload_n 0, 1) := by decide +kernel
theorem dX7_corner_79 : decode cX7_corner 79 = .ok (.getfield 20, 3) := by decide +kernel
theorem dX7_corner_82 : decode cX7_corner 82 = .ok (.iload_n 1, 1) := by decide +kernel
theorem dX7_corner_83 : decode cX7_corner 83 = .ok (.iaload, 1) := by decide +kernel
theorem dX7_corner_84 : decode cX7_corner 84 = .ok (.iadd, 1) := by decide +kernel
theorem dX7_corner_85 : decode cX7_corner 85 = .ok (.iload_n 2, 1) := by decide +kernel
theorem dX7_corner_86 : decode cX7_corner 86 = .ok (.iastore, 1) := by decide +kernel
theorem dX7_corner_87 : decode cX7_corner 87 = .ok (.aload_n 0, 1) := by decide +kernel
theorem dX7_corner_88 : decode cX7_corner 88 = .ok (.getfield 26, 3) := by decide +kernel
theorem dX7_corner_91 : decode cX7_corner 91 = .ok (.bipush 8, 2) := by decide +kernel
theorem dX7_corner_93 : decode cX7_corner 93 = .ok (.iload_n 1, 1) := by decide +kernel
theorem dX7_corner_94 : decode cX7_corner 94 = .ok (.imul, 1) := by decide +kernel
theorem dX7_corner_95 : decode cX7_corner 95 = .ok (.aload_n 0, 1) := by decide +kernel
theorem dX7_corner_96 : decode cX7_corner 96 = .ok (.getfield 20, 3) := by decide +kernel
theorem dX7_corner_99 : decode cX7_corner 99 = .ok (.iload_n 1, 1) := by decide +kernel
theorem dX7_corner_100 : decode cX7_corner 100 = .ok (.iaload, 1) := by decide +kernel
theorem dX7_corner_101 : decode cX7_corner 101 = .ok (.iadd, 1) := by decide +kernel
theorem dX7_corner_102 : decode cX7_corner 102 = .ok (.iload_n 3, 1) := by decide +kernel
theorem dX7_corner_103 : decode cX7_corner 103 = .ok (.iastore, 1) := by decide +kernel
theorem dX7_corner_104 : decode cX7_corner 104 = .ok (.aload_n 0, 1) := by decide +kernel
theorem dX7_corner_105 : decode cX7_corner 105 = .ok (.getfield 20, 3) := by decide +kernel
theorem dX7_corner_108 : decode cX7_corner 108 = .ok (.iload_n 1, 1) := by decide +kernel
theorem dX7_corner_109 : decode cX7_corner 109 = .ok (.dup2, 1) := by decide +kernel
theorem dX7_corner_110 : decode cX7_corner 110 = .ok (.iaload, 1) := by decide +kernel
theorem dX7_corner_111 : decode cX7_corner 111 = .ok (.iconst 1, 1) := by decide +kernel
theorem dX7_corner_112 : decode cX7_corner 112 = .ok (.iadd, 1) := by decide +kernel
theorem dX7_corner_113 : decode cX7_corner 113 = .ok (.iastore, 1) := by decide +kernel
theorem dX7_corner_114 : decode cX7_corner 114 = .ok (.aload_n 0, 1) := by decide +kernel
theorem dX7_corner_115 : decode cX7_corner 115 = .ok (.iconst 0, 1) := by decide +kernel
theorem dX7_corner_116 : decode cX7_corner 116 = .ok (.putfield 109, 3) := by decide +kernel
theorem dX7_corner_119 : decode cX7_corner 119 = .ok (.aload_n 0, 1) := by decide +kernel
theorem dX7_corner_120 : decode cX7_corner 120 = .ok (.getfield 20, 3) := by decide +kernel
theorem dX7_corner_123 : decode cX7_corner 123 = .ok (.iload_n 1, 1) := by decide +kernel
theorem dX7_corner_124 : decode cX7_corner 124 = .ok (.iaload, 1) := by decide +kernel
theorem dX7_corner_125 : decode cX7_corner 125 = .ok (.ireturn, 1) := by decide +kernel
theorem dX7_sew_0 : decode cX7_sew 0 = .ok (.aload_n 0, 1) := by decide +kernel
theorem dX7_sew_1 : decode cX7_sew 1 = .ok (.aload_n 0, 1) := by decide +kernel
theorem dX7_sew_2 : decode cX7_sew 2 = .ok (.iload_n 1, 1) := by decide +kernel
theorem dX7_sew_3 : decode cX7_sew 3 = .ok (.invokevirtual 113, 3) := by decide +kernel
theorem dX7_sew_6 : decode cX7_sew 6 = .ok (.invokevirtual 101, 3) := by decide +kernel
theorem dX7_sew_9 : decode cX7_sew 9 = .ok (.ifCond .ne 4, 3) := by decide +kernel
theorem dX7_sew_12 : decode cX7_sew 12 = .ok (.return_, 1) := by decide +kernel
theorem dX7_sew_13 : decode cX7_sew 13 = .ok (.iload_n 2, 1) := by decide +kernel
theorem dX7_sew_14 : decode cX7_sew 14 = .ok (.iconst 1, 1) := by decide +kernel
theorem dX7_sew_15 : decode cX7_sew 15 = .ok (.bipush 8, 2) := by decide +kernel
theorem dX7_sew_17 : decode cX7_sew 17 = .ok (.invokestatic 97, 3) := by decide +kernel
theorem dX7_sew_20 : decode cX7_sew 20 = .ok (.ifCond .eq 34, 3) := by decide +kernel
theorem dX7_sew_23 : decode cX7_sew 23 = .ok (.iload_n 3, 1) := by decide +kernel
theorem dX7_sew_24 : decode cX7_sew 24 = .ok (.iconst 1, 1) := by decide +kernel
theorem dX7_sew_25 : decode cX7_sew 25 = .ok (.bipush 12, 2) := by decide +kernel
theorem dX7_sew_27 : decode cX7_sew 27 = .ok (.invokestatic 97, 3) := by decide +kernel
theorem dX7_sew_30 : decode cX7_sew 30 = .ok (.ifCond .eq 24, 3) := by decide +kernel
theorem dX7_sew_33 : decode cX7_sew 33 = .ok (.iload 4, 2) := by decide +kernel
theorem dX7_sew_35 : decode cX7_sew 35 = .ok (.iconst 0, 1) := by decide +kernel
theorem dX7_sew_36 : decode cX7_sew 36 = .ok (.bipush 11, 2) := by decide +kernel
theorem dX7_sew_38 : decode cX7_sew 38 = .ok (.invokestatic 97, 3) := by decide +kernel
theorem dX7_sew_41 : decode cX7_sew 41 = .ok (.ifCond .eq 13, 3) := by decide +kernel
theorem dX7_sew_44 : decode cX7_sew 44 = .ok (.iload 5, 2) := by decide +kernel
theorem dX7_sew_46 : decode cX7_sew 46 = .ok (.iconst 0, 1) := by decide +kernel
theorem dX7_sew_47 : decode cX7_sew 47 = .ok (.iconst 3, 1) := by decide +kernel
theorem dX7_sew_48 : decode cX7_sew 48 = .ok (.invokestatic 97, 3) := by decide +kernel
theorem dX7_sew_51 : decode cX7_sew 51 = .ok (.ifCond .ne 9, 3) := by decide +kernel
theorem dX7_sew_54 : decode cX7_sew 54 = .ok (.aload_n 0, 1) := by decide +kernel
theorem dX7_sew_55 : decode cX7_sew 55 = .ok (.iconst 2, 1) := by decide +kernel
theorem dX7_sew_56 : decode cX7_sew 56 = .ok (.putfield 91, 3) := by decide +kernel
theorem dX7_sew_59 : decode cX7_sew 59 = .ok (.return_, 1) := by decide +kernel
theorem dX7_sew_60 : decode cX7_sew 60 = .ok (.aload_n 0, 1) := by decide +kernel
theorem dX7_sew_61 : decode cX7_sew 61 = .ok (.getfield 29, 3) := by decide +kernel
theorem dX7_sew_64 : decode cX7_sew 64 = .ok (.iload_n 1, 1) := by decide +kernel
theorem dX7_sew_65 : decode cX7_sew 65 = .ok (.iload_n 2, 1) := by decide +kernel
theorem dX7_sew_66 : decode cX7_sew 66 = .ok (.iastore, 1) := by decide +kernel
theorem dX7_sew_67 : decode cX7_sew 67 = .ok (.aload_n 0, 1) := by decide +kernel
theorem dX7_sew_68 : decode cX7_sew 68 = .ok (.getfield 32, 3) := by decide +kernel
theorem dX7_sew_71 : decode cX7_sew 71 = .ok (.iload_n 1, 1) := by decide +kernel
theorem dX7_sew_72 : decode cX7_sew 72 = .ok (.iload_n 3, 1) := by decide +kernel
theorem dX7_sew_73 : decode cX7_sew 73 = .ok (.iastore, 1) := by decide +kernel
theorem dX7_sew_74 : decode cX7_sew 74 = .ok (.aload_n 0, 1) := by decide +kernel
theorem dX7_sew_75 : decode cX7_sew 75 = .ok (.getfield 35, 3) := by decide +kernel
theorem dX7_sew_78 : decode cX7_sew 78 = .ok (.iload_n 1, 1) := by decide +kernel
theorem dX7_sew_79 : decode cX7_sew 79 = .ok (.iload 4, 2) := by decide +kernel
theorem dX7_sew_81 : decode cX7_sew 81 = .ok (.iastore, 1) := by decide +kernel
theorem dX7_sew_82 : decode cX7_sew 82 = .ok (.aload_n 0, 1) := by decide +kernel
theorem dX7_sew_83 : decode cX7_sew 83 = .ok (.getfield 38, 3) := by decide +kernel
theorem dX7_sew_86 : decode cX7_sew 86 = .ok (.iload_n 1, 1) := by decide +kernel
theorem dX7_sew_87 : decode cX7_sew 87 = .ok (.iload 5, 2) := by decide +kernel
theorem dX7_sew_89 : decode cX7_sew 89 = .ok (.iastore, 1) := by decide +kernel
theorem dX7_sew_90 : decode cX7_sew 90 = .ok (.aload_n 0, 1) := by decide +kernel
theorem dX7_sew_91 : decode cX7_sew 91 = .ok (.getfield 41, 3) := by decide +kernel
theorem dX7_sew_94 : decode cX7_sew 94 = .ok (.iload_n 1, 1) := by decide +kernel
theorem dX7_sew_95 : decode cX7_sew 95 = .ok (.iload 6, 2) := by decide +kernel
theorem dX7_sew_97 : decode cX7_sew 97 = .ok (.bastore, 1) := by decide +kernel
theorem dX7_sew_98 : decode cX7_sew 98 = .ok (.aload_n 0, 1) := by decide +kernel
theorem dX7_sew_99 : decode cX7_sew 99 = .ok (.iconst 0, 1) := by decide +kernel
theorem dX7_sew_100 : decode cX7_sew 100 = .ok (.putfield 109, 3) := by decide +kernel
theorem dX7_sew_103 : decode cX7_sew 103 = .ok (.return_, 1) := by decide +kernel
theorem dX7_scale_0 : decode cX7_scale 0 = .ok (.aload_n 0, 1) := by decide +kernel
theorem dX7_scale_1 : decode cX7_scale 1 = .ok (.aload_n 0, 1) := by decide +kernel
theorem dX7_scale_2 : decode cX7_scale 2 = .ok (.iload_n 1, 1) := by decide +kernel
theorem dX7_scale_3 : decode cX7_scale 3 = .ok (.invokevirtual 113, 3) := by decide +kernel
theorem dX7_scale_6 : decode cX7_scale 6 = .ok (.invokevirtual 101, 3) := by decide +kernel
theorem dX7_scale_9 : decode cX7_scale 9 = .ok (.ifCond .ne 4, 3) := by decide +kernel
theorem dX7_scale_12 : decode cX7_scale 12 = .ok (.return_, 1) := by decide +kernel
theorem dX7_scale_13 : decode cX7_scale 13 = .ok (.iload_n 2, 1) := by decide +kernel
theorem dX7_scale_14 : decode cX7_scale 14 = .ok (.iconst 1, 1) := by decide +kernel
theorem dX7_scale_15 : decode cX7_scale 15 = .ok (.sipush 400, 3) := by decide +kernel
theorem dX7_scale_18 : decode cX7_scale 18 = .ok (.invokestatic 97, 3) := by decide +kernel
theorem dX7_scale_21 : decode cX7_scale 21 = .ok (.ifCond .ne 9, 3) := by decide +kernel
theorem dX7_scale_24 : decode cX7_scale 24 = .ok (.aload_n 0, 1) := by decide +kernel
theorem dX7_scale_25 : decode cX7_scale 25 = .ok (.iconst 2, 1) := by decide +kernel
theorem dX7_scale_26 : decode cX7_scale 26 = .ok (.putfield 91, 3) := by decide +kernel
theorem dX7_scale_29 : decode cX7_scale 29 = .ok (.return_, 1) := by decide +kernel
theorem dX7_scale_30 : decode cX7_scale 30 = .ok (.iconst 1, 1) := by decide +kernel
theorem dX7_scale_31 : decode cX7_scale 31 = .ok (.istore_n 3, 1) := by decide +kernel
theorem dX7_scale_32 : decode cX7_scale 32 = .ok (.iconst 0, 1) := by decide +kernel
theorem dX7_scale_33 : decode cX7_scale 33 = .ok (.istore 4, 2) := by decide +kernel
theorem dX7_scale_35 : decode cX7_scale 35 = .ok (.iload 4, 2) := by decide +kernel
theorem dX7_scale_37 : decode cX7_scale 37 = .ok (.aload_n 0, 1) := by decide +kernel
theorem dX7_scale_38 : decode cX7_scale 38 = .ok (.getfield 20, 3) := by decide +kernel
theorem dX7_scale_41 : decode cX7_scale 41 = .ok (.iload_n 1, 1) := by decide +kernel
theorem dX7_scale_42 : decode cX7_scale 42 = .ok (.iaload, 1) := by decide +kernel
theorem dX7_scale_43 : decode cX7_scale 43 = .ok (.if_icmp .ge 62, 3) := by decide +kernel
theorem dX7_scale_46 : decode cX7_scale 46 = .ok (.bipush 8, 2) := by decide +kernel
theorem dX7_scale_48 : decode cX7_scale 48 = .ok (.iload_n 1, 1) := by decide +kernel
theorem dX7_scale_49 : decode cX7_scale 49 = .ok (.imul, 1) := by decide +kernel
theorem dX7_scale_50 : decode cX7_scale 50 = .ok (.iload 4, 2) := by decide +kernel
theorem dX7_scale_52 : decode cX7_scale 52 = .ok (.iadd, 1) := by decide +kernel
theorem dX7_scale_53 : decode cX7_scale 53 = .ok (.istore 5, 2) := by decide +kernel
theorem dX7_scale_55 : decode cX7_scale 55 = .ok (.iload_n 3, 1) := by decide +kernel
theorem dX7_scale_56 : decode cX7_scale 56 = .ok (.ifCond .eq 41, 3) := by decide +kernel
theorem dX7_scale_59 : decode cX7_scale 59 = .ok (.aload_n 0, 1) := by decide +kernel
theorem dX7_scale_60 : decode cX7_scale 60 = .ok (.getfield 23, 3) := by decide +kernel
theorem dX7_scale_63 : decode cX7_scale 63 = .ok (.iload 5, 2) := by decide +kernel
theorem dX7_scale_65 : decode cX7_scale 65 = .ok (.iaload, 1) := by decide +kernel
theorem dX7_scale_66 : decode cX7_scale 66 = .ok (.iload_n 2, 1) := by decide +kernel
theorem dX7_scale_67 : decode cX7_scale 67 = .ok (.imul, 1) := by decide +kernel
theorem dX7_scale_68 : decode cX7_scale 68 = .ok (.bipush 100, 2) := by decide +kernel
theorem dX7_scale_70 : decode cX7_scale 70 = .ok (.idiv, 1) := by decide +kernel
theorem dX7_scale_71 : decode cX7_scale 71 = .ok (.bipush 32, 2) := by decide +kernel
theorem dX7_scale_73 : decode cX7_scale 73 = .ok (.if_icmp .ge 24, 3) := by decide +kernel
theorem dX7_scale_76 : decode cX7_scale 76 = .ok (.aload_n 0, 1) := by decide +kernel
theorem dX7_scale_77 : decode cX7_scale 77 = .ok (.getfield 26, 3) := by decide +kernel
theorem dX7_scale_80 : decode cX7_scale 80 = .ok (.iload 5, 2) := by decide +kernel
theorem dX7_scale_82 : decode cX7_scale 82 = .ok (.iaload, 1) := by decide +kernel
theorem dX7_scale_83 : decode cX7_scale 83 = .ok (.iload_n 2, 1) := by decide +kernel
theorem dX7_scale_84 : decode cX7_scale 84 = .ok (.imul, 1) := by decide +kernel
theorem dX7_scale_85 : decode cX7_scale 85 = .ok (.bipush 100, 2) := by decide +kernel
theorem dX7_scale_87 : decode cX7_scale 87 = .ok (.idiv, 1) := by decide +kernel
theorem dX7_scale_88 : decode cX7_scale 88 = .ok (.bipush 32, 2) := by decide +kernel
theorem dX7_scale_90 : decode cX7_scale 90 = .ok (.if_icmp .ge 7, 3) := by decide +kernel
theorem dX7_scale_93 : decode cX7_scale 93 = .ok (.iconst 1, 1) := by decide +kernel
theorem dX7_scale_94 : decode cX7_scale 94 = .ok (.goto 4, 3) := by decide +kernel
theorem dX7_scale_97 : decode cX7_scale 97 = .ok (.iconst 0, 1) := by decide +kernel
theorem dX7_scale_98 : decode cX7_scale 98 = .ok (.istore_n 3, 1) := by decide +kernel
theorem dX7_scale_99 : decode cX7_scale 99 = .ok (.iinc 4 1, 3) := by decide +kernel
theorem dX7_scale_102 : decode cX7_scale 102 = .ok (.goto (-67), 3) := by decide +kernel
theorem dX7_scale_105 : decode cX7_scale 105 = .ok (.iload_n 3, 1) := by decide +kernel
theorem dX7_scale_106 : decode cX7_scale 106 = .ok (.ifCond .ne 9, 3) := by decide +kernel
theorem dX7_scale_109 : decode cX7_scale 109 = .ok (.aload_n 0, 1) := by decide +kernel
theorem dX7_scale_110 : decode cX7_scale 110 = .ok (.iconst 3, 1) := by decide +kernel
theorem dX7_scale_111 : decode cX7_scale 111 = .ok (.putfield 91, 3) := by decide +kernel
theorem dX7_scale_114 : decode cX7_scale 114 = .ok (.return_, 1) := by decide +kernel
theorem dX7_scale_115 : decode cX7_scale 115 = .ok (.iconst 0, 1) := by decide +kernel
theorem dX7_scale_116 : decode cX7_scale 116 = .ok (.istore 4, 2) := by decide +kernel
theorem dX7_scale_118 : decode cX7_scale 118 = .ok (.iload 4, 2) := by decide +kernel
theorem dX7_scale_120 : decode cX7_scale 120 = .ok (.aload_n 0, 1) := by decide +kernel
theorem dX7_scale_121 : decode cX7_scale 121 = .ok (.getfield 20, 3) := by decide +kernel
theorem dX7_scale_124 : decode cX7_scale 124 = .ok (.iload_n 1, 1) := by decide +kernel
theorem dX7_scale_125 : decode cX7_scale 125 = .ok (.iaload, 1) := by decide +kernel
theorem dX7_scale_126 : decode cX7_scale 126 = .ok (.if_icmp .ge 56, 3) := by decide +kernel
theorem dX7_scale_129 : decode cX7_scale 129 = .ok (.bipush 8, 2) := by decide +kernel
theorem dX7_scale_131 : decode cX7_scale 131 = .ok (.iload_n 1, 1) := by decide +kernel
theorem dX7_scale_132 : decode cX7_scale 132 = .ok (.imul, 1) := by decide +kernel
theorem dX7_scale_133 : decode cX7_scale 133 = .ok (.iload 4, 2) := by decide +kernel
theorem dX7_scale_135 : decode cX7_scale 135 = .ok (.iadd, 1) := by decide +kernel
theorem dX7_scale_136 : decode cX7_scale 136 = .ok (.istore 5, 2) := by decide +kernel
theorem dX7_scale_138 : decode cX7_scale 138 = .ok (.aload_n 0, 1) := by decide +kernel
theorem dX7_scale_139 : decode cX7_scale 139 = .ok (.getfield 23, 3) := by decide +kernel
theorem dX7_scale_142 : decode cX7_scale 142 = .ok (.iload 5, 2) := by decide +kernel
theorem dX7_scale_144 : decode cX7_scale 144 = .ok (.aload_n 0, 1) := by decide +kernel
theorem dX7_scale_145 : decode cX7_scale 145 = .ok (.getfield 23, 3) := by decide +kernel
theorem dX7_scale_148 : decode cX7_scale 148 = .ok (.iload 5, 2) := by decide +kernel
theorem dX7_scale_150 : decode cX7_scale 150 = .ok (.iaload, 1) := by decide +kernel
theorem dX7_scale_151 : decode cX7_scale 151 = .ok (.iload_n 2, 1) := by decide +kernel
theorem dX7_scale_152 : decode cX7_scale 152 = .ok (.imul, 1) := by decide +kernel
theorem dX7_scale_153 : decode cX7_scale 153 = .ok (.bipush 100, 2) := by decide +kernel
theorem dX7_scale_155 : decode cX7_scale 155 = .ok (.idiv, 1) := by decide +kernel
theorem dX7_scale_156 : decode cX7_scale 156 = .ok (.iastore, 1) := by decide +kernel
theorem dX7_scale_157 : decode cX7_scale 157 = .ok (.aload_n 0, 1) := by decide +kernel
theorem dX7_scale_158 : decode cX7_scale 158 = .ok (.getfield 26, 3) := by decide +kernel
theorem dX7_scale_161 : decode cX7_scale 161 = .ok (.iload 5, 2) := by decide +kernel
theorem dX7_scale_163 : decode cX7_scale 163 = .ok (.aload_n 0, 1) := by decide +kernel
theorem dX7_scale_164 : decode cX7_scale 164 = .ok (.getfield 26, 3) := by decide +kernel
theorem dX7_scale_167 : decode cX7_scale 167 = .ok (.iload 5, 2) := by decide +kernel
theorem dX7_scale_169 : decode cX7_scale 169 = .ok (.iaload, 1) := by decide +kernel
theorem dX7_scale_170 : decode cX7_scale 170 = .ok (.iload_n 2, 1) := by decide +kernel
theorem dX7_scale_171 : decode cX7_scale 171 = .ok (.imul, 1) := by decide +kernel
theorem dX7_scale_172 : decode cX7_scale 172 = .ok (.bipush 100, 2) := by decide +kernel
theorem dX7_scale_174 : decode cX7_scale 174 = .ok (.idiv, 1) := by decide +kernel
theorem dX7_scale_175 : decode cX7_scale 175 = .ok (.iastore, 1) := by decide +kernel
theorem dX7_scale_176 : decode cX7_scale 176 = .ok (.iinc 4 1, 3) := by decide +kernel
theorem dX7_scale_179 : decode cX7_scale 179 = .ok (.goto (-61), 3) := by decide +kernel
theorem dX7_scale_182 : decode cX7_scale 182 = .ok (.aload_n 0, 1) := by decide +kernel
theorem dX7_scale_183 : decode cX7_scale 183 = .ok (.iconst 0, 1) := by decide +kernel
theorem dX7_scale_184 : decode cX7_scale 184 = .ok (.putfield 109, 3) := by decide +kernel
theorem dX7_scale_187 : decode cX7_scale 187 = .ok (.return_, 1) := by decide +kernel
theorem dX7_bound_0 : decode cX7_bound 0 = .ok (.aload_n 0, 1) := by decide +kernel
theorem dX7_bound_1 : decode cX7_bound 1 = .ok (.iload_n 1, 1) := by decide +kernel
theorem dX7_bound_2 : decode cX7_bound 2 = .ok (.iconst 0, 1) := by decide +kernel
theorem dX7_bound_3 : decode cX7_bound 3 = .ok (.bipush 100, 2) := by decide +kernel
theorem dX7_bound_5 : decode cX7_bound 5 = .ok (.invokestatic 97, 3) := by decide +kernel
theorem dX7_bound_8 : decode cX7_bound 8 = .ok (.invokevirtual 101, 3) := by decide +kernel
theorem dX7_bound_11 : decode cX7_bound 11 = .ok (.ifCond .ne 5, 3) := by decide +kernel
theorem dX7_bound_14 : decode cX7_bound 14 = .ok (.iconst 0, 1) := by decide +kernel
theorem dX7_bound_15 : decode cX7_bound 15 = .ok (.ireturn, 1) := by decide +kernel
theorem dX7_bound_16 : decode cX7_bound 16 = .ok (.aload_n 0, 1) := by decide +kernel
theorem dX7_bound_17 : decode cX7_bound 17 = .ok (.getfield 44, 3) := by decide +kernel
theorem dX7_bound_20 : decode cX7_bound 20 = .ok (.istore_n 2, 1) := by decide +kernel
theorem dX7_bound_21 : decode cX7_bound 21 = .ok (.aload_n 0, 1) := by decide +kernel
theorem dX7_bound_22 : decode cX7_bound 22 = .ok (.iload_n 1, 1) := by decide +kernel
theorem dX7_bound_23 : decode cX7_bound 23 = .ok (.putfield 44, 3) := by decide +kernel
theorem dX7_bound_26 : decode cX7_bound 26 = .ok (.aload_n 0, 1) := by decide +kernel
theorem dX7_bound_27 : decode cX7_bound 27 = .ok (.iconst 0, 1) := by decide +kernel
theorem dX7_bound_28 : decode cX7_bound 28 = .ok (.putfield 109, 3) := by decide +kernel
theorem dX7_bound_31 : decode cX7_bound 31 = .ok (.iload_n 2, 1) := by decide +kernel
theorem dX7_bound_32 : decode cX7_bound 32 = .ok (.ireturn, 1) := by decide +kernel
theorem dX7_point_0 : decode cX7_point 0 = .ok (.aload_n 0, 1) := by decide +kernel
theorem dX7_point_1 : decode cX7_point 1 = .ok (.getfield 48, 3) := by decide +kernel
theorem dX7_point_4 : decode cX7_point 4 = .ok (.aload_n 0, 1) := by decide +kernel
theorem dX7_point_5 : decode cX7_point 5 = .ok (.getfield 117, 3) := by decide +kernel
theorem dX7_point_8 : decode cX7_point 8 = .ok (.iload_n 1, 1) := by decide +kernel
theorem dX7_point_9 : decode cX7_point 9 = .ok (.iastore, 1) := by decide +kernel
theorem dX7_point_10 : decode cX7_point 10 = .ok (.aload_n 0, 1) := by decide +kernel
theorem dX7_point_11 : decode cX7_point 11 = .ok (.getfield 51, 3) := by decide +kernel
theorem dX7_point_14 : decode cX7_point 14 = .ok (.aload_n 0, 1) := by decide +kernel
theorem dX7_point_15 : decode cX7_point 15 = .ok (.getfield 117, 3) := by decide +kernel
theorem dX7_point_18 : decode cX7_point 18 = .ok (.iload_n 2, 1) := by decide +kernel
theorem dX7_point_19 : decode cX7_point 19 = .ok (.iastore, 1) := by decide +kernel
theorem dX7_point_20 : decode cX7_point 20 = .ok (.aload_n 0, 1) := by decide +kernel
theorem dX7_point_21 : decode cX7_point 21 = .ok (.dup, 1) := by decide +kernel
theorem dX7_point_22 : decode cX7_point 22 = .ok (.getfield 117, 3) := by decide +kernel
theorem dX7_point_25 : decode cX7_point 25 = .ok (.iconst 1, 1) := by decide +kernel
theorem dX7_point_26 : decode cX7_point 26 = .ok (.iadd, 1) := by decide +kernel
theorem dX7_point_27 : decode cX7_point 27 = .ok (.putfield 117, 3) := by decide +kernel
theorem dX7_point_30 : decode cX7_point 30 = .ok (.return_, 1) := by decide +kernel
theorem dX7_crosses_0 : decode cX7_crosses 0 = .ok (.aload_n 0, 1) := by decide +kernel
theorem dX7_crosses_1 : decode cX7_crosses 1 = .ok (.iconst 0, 1) := by decide +kernel
theorem dX7_crosses_2 : decode cX7_crosses 2 = .ok (.putfield 120, 3) := by decide +kernel
theorem dX7_crosses_5 : decode cX7_crosses 5 = .ok (.iconst 0, 1) := by decide +kernel
theorem dX7_crosses_6 : decode cX7_crosses 6 = .ok (.istore_n 3, 1) := by decide +kernel
theorem dX7_crosses_7 : decode cX7_crosses 7 = .ok (.iload_n 3, 1) := by decide +kernel
theorem dX7_crosses_8 : decode cX7_crosses 8 = .ok (.aload_n 0, 1) := by decide +kernel
theorem dX7_crosses_9 : decode cX7_crosses 9 = .ok (.getfield 20, 3) := by decide +kernel
theorem dX7_crosses_12 : decode cX7_crosses 12 = .ok (.iload_n 1, 1) := by decide +kernel
theorem dX7_crosses_13 : decode cX7_crosses 13 = .ok (.iaload, 1) := by decide +kernel
theorem dX7_crosses_14 : decode cX7_crosses 14 = .ok (.if_icmp .ge 207, 3) := by decide +kernel
theorem dX7_crosses_17 : decode cX7_crosses 17 = .ok (.bipush 8, 2) := by decide +kernel
theorem dX7_crosses_19 : decode cX7_crosses 19 = .ok (.iload_n 1, 1) := by decide +kernel
theorem dX7_crosses_20 : decode cX7_crosses 20 = .ok (.imul, 1) := by decide +kernel
theorem dX7_crosses_21 : decode cX7_crosses 21 = .ok (.iload_n 3, 1) := by decide +kernel
theorem dX7_crosses_22 : decode cX7_crosses 22 = .ok (.iadd, 1) := by decide +kernel
theorem dX7_crosses_23 : decode cX7_crosses 23 = .ok (.istore 4, 2) := by decide +kernel
theorem dX7_crosses_25 : decode cX7_crosses 25 = .ok (.bipush 8, 2) := by decide +kernel
theorem dX7_crosses_27 : decode cX7_crosses 27 = .ok (.iload_n 1, 1) := by decide +kernel
theorem dX7_crosses_28 : decode cX7_crosses 28 = .ok (.imul, 1) := by decide +kernel
theorem dX7_crosses_29 : decode cX7_crosses 29 = .ok (.iload_n 3, 1) := by decide +kernel
theorem dX7_crosses_30 : decode cX7_crosses 30 = .ok (.iconst 1, 1) := by decide +kernel
theorem dX7_crosses_31 : decode cX7_crosses 31 = .ok (.iadd, 1) := by decide +kernel
theorem dX7_crosses_32 : decode cX7_crosses 32 = .ok (.aload_n 0, 1) := by decide +kernel
theorem dX7_crosses_33 : decode cX7_crosses 33 = .ok (.getfield 20, 3) := by decide +kernel
theorem dX7_crosses_36 : decode cX7_crosses 36 = .ok (.iload_n 1, 1) := by decide +kernel
theorem dX7_crosses_37 : decode cX7_crosses 37 = .ok (.iaload, 1) := by decide +kernel
theorem dX7_crosses_38 : decode cX7_crosses 38 = .ok (.irem, 1) := by decide +kernel
theorem dX7_crosses_39 : decode cX7_crosses 39 = .ok (.iadd, 1) := by decide +kernel
theorem dX7_crosses_40 : decode cX7_crosses 40 = .ok (.istore 5, 2) := by decide +kernel
theorem dX7_crosses_42 : decode cX7_crosses 42 = .ok (.aload_n 0, 1) := by decide +kernel
theorem dX7_crosses_43 : decode cX7_crosses 43 = .ok (.getfield 26, 3) := by decide +kernel
theorem dX7_crosses_46 : decode cX7_crosses 46 = .ok (.iload 4, 2) := by decide +kernel
theorem dX7_crosses_48 : decode cX7_crosses 48 = .ok (.iaload, 1) := by decide +kernel
theorem dX7_crosses_49 : decode cX7_crosses 49 = .ok (.istore 6, 2) := by decide +kernel
theorem dX7_crosses_51 : decode cX7_crosses 51 = .ok (.aload_n 0, 1) := by decide +kernel
theorem dX7_crosses_52 : decode cX7_crosses 52 = .ok (.getfield 26, 3) := by decide +kernel
theorem dX7_crosses_55 : decode cX7_crosses 55 = .ok (.iload 5, 2) := by decide +kernel
theorem dX7_crosses_57 : decode cX7_crosses 57 = .ok (.iaload, 1) := by decide +kernel
theorem dX7_crosses_58 : decode cX7_crosses 58 = .ok (.istore 7, 2) := by decide +kernel
theorem dX7_crosses_60 : decode cX7_crosses 60 = .ok (.iload 6, 2) := by decide +kernel
theorem dX7_crosses_62 : decode cX7_crosses 62 = .ok (.iload 7, 2) := by decide +kernel
theorem dX7_crosses_64 : decode cX7_crosses 64 = .ok (.if_icmp .ge 23, 3) := by decide +kernel
theorem dX7_crosses_67 : decode cX7_crosses 67 = .ok (.iload 6, 2) := by decide +kernel
theorem dX7_crosses_69 : decode cX7_crosses 69 = .ok (.iload_n 2, 1) := by decide +kernel
theorem dX7_crosses_70 : decode cX7_crosses 70 = .ok (.if_icmp .gt 13, 3) := by decide +kernel
theorem dX7_crosses_73 : decode cX7_crosses 73 = .ok (.iload_n 2, 1) := by decide +kernel
theorem dX7_crosses_74 : decode cX7_crosses 74 = .ok (.iload 7, 2) := by decide +kernel
theorem dX7_crosses_76 : decode cX7_crosses 76 = .ok (.if_icmp .ge 7, 3) := by decide +kernel
theorem dX7_crosses_79 : decode cX7_crosses 79 = .ok (.iconst 1, 1) := by decide +kernel
theorem dX7_crosses_80 : decode cX7_crosses 80 = .ok (.goto 24, 3) := by decide +kernel
theorem dX7_crosses_83 : decode cX7_crosses 83 = .ok (.iconst 0, 1) := by decide +kernel
theorem dX7_crosses_84 : decode cX7_crosses 84 = .ok (.goto 20, 3) := by decide +kernel
theorem dX7_crosses_87 : decode cX7_crosses 87 = .ok (.iload 7, 2) := by decide +kernel
theorem dX7_crosses_89 : decode cX7_crosses 89 = .ok (.iload_n 2, 1) := by decide +kernel
theorem dX7_crosses_90 : decode cX7_crosses 90 = .ok (.if_icmp .gt 13, 3) := by decide +kernel
theorem dX7_crosses_93 : decode cX7_crosses 93 = .ok (.iload_n 2, 1) := by decide +kernel
theorem dX7_crosses_94 : decode cX7_crosses 94 = .ok (.iload 6, 2) := by decide +kernel
theorem dX7_crosses_96 : decode cX7_crosses 96 = .ok (.if_icmp .ge 7, 3) := by decide +kernel
theorem dX7_crosses_99 : decode cX7_crosses 99 = .ok (.iconst 1, 1) := by decide +kernel
theorem dX7_crosses_100 : decode cX7_crosses 100 = .ok (.goto 4, 3) := by decide +kernel
theorem dX7_crosses_103 : decode cX7_crosses 103 = .ok (.iconst 0, 1) := by decide +kernel
theorem dX7_crosses_104 : decode cX7_crosses 104 = .ok (.istore 8, 2) := by decide +kernel
theorem dX7_crosses_106 : decode cX7_crosses 106 = .ok (.iload 8, 2) := by decide +kernel
theorem dX7_crosses_108 : decode cX7_crosses 108 = .ok (.ifCond .eq 107, 3) := by decide +kernel
theorem dX7_crosses_111 : decode cX7_crosses 111 = .ok (.aload_n 0, 1) := by decide +kernel
theorem dX7_crosses_112 : decode cX7_crosses 112 = .ok (.getfield 23, 3) := by decide +kernel
theorem dX7_crosses_115 : decode cX7_crosses 115 = .ok (.iload 4, 2) := by decide +kernel
theorem dX7_crosses_117 : decode cX7_crosses 117 = .ok (.iaload, 1) := by decide +kernel
theorem dX7_crosses_118 : decode cX7_crosses 118 = .ok (.iload_n 2, 1) := by decide +kernel
theorem dX7_crosses_119 : decode cX7_crosses 119 = .ok (.iload 6, 2) := by decide +kernel
theorem dX7_crosses_121 : decode cX7_crosses 121 = .ok (.isub, 1) := by decide +kernel
theorem dX7_crosses_122 : decode cX7_crosses 122 = .ok (.aload_n 0, 1) := by decide +kernel
theorem dX7_crosses_123 : decode cX7_crosses 123 = .ok (.getfield 23, 3) := by decide +kernel
theorem dX7_crosses_126 : decode cX7_crosses 126 = .ok (.iload 5, 2) := by decide +kernel
theorem dX7_crosses_128 : decode cX7_crosses 128 = .ok (.iaload, 1) := by decide +kernel
theorem dX7_crosses_129 : decode cX7_crosses 129 = .ok (.aload_n 0, 1) := by decide +kernel
theorem dX7_crosses_130 : decode cX7_crosses 130 = .ok (.getfield 23, 3) := by decide +kernel
theorem dX7_crosses_133 : decode cX7_crosses 133 = .ok (.iload 4, 2) := by decide +kernel
theorem dX7_crosses_135 : decode cX7_crosses 135 = .ok (.iaload, 1) := by decide +kernel
theorem dX7_crosses_136 : decode cX7_crosses 136 = .ok (.isub, 1) := by decide +kernel
theorem dX7_crosses_137 : decode cX7_crosses 137 = .ok (.imul, 1) := by decide +kernel
theorem dX7_crosses_138 : decode cX7_crosses 138 = .ok (.iload 7, 2) := by decide +kernel
theorem dX7_crosses_140 : decode cX7_crosses 140 = .ok (.iload 6, 2) := by decide +kernel
theorem dX7_crosses_142 : decode cX7_crosses 142 = .ok (.isub, 1) := by decide +kernel
theorem dX7_crosses_143 : decode cX7_crosses 143 = .ok (.invokestatic 123, 3) := by decide +kernel
theorem dX7_crosses_146 : decode cX7_crosses 146 = .ok (.iadd, 1) := by decide +kernel
theorem dX7_crosses_147 : decode cX7_crosses 147 = .ok (.istore 9, 2) := by decide +kernel
theorem dX7_crosses_149 : decode cX7_crosses 149 = .ok (.aload_n 0, 1) := by decide +kernel
theorem dX7_crosses_150 : decode cX7_crosses 150 = .ok (.getfield 120, 3) := by decide +kernel
theorem dX7_crosses_153 : decode cX7_crosses 153 = .ok (.istore 10, 2) := by decide +kernel
theorem dX7_crosses_155 : decode cX7_crosses 155 = .ok (.iload 10, 2) := by decide +kernel
theorem dX7_crosses_157 : decode cX7_crosses 157 = .ok (.ifCond .le 39, 3) := by decide +kernel
theorem dX7_crosses_160 : decode cX7_crosses 160 = .ok (.aload_n 0, 1) := by decide +kernel
theorem dX7_crosses_161 : decode cX7_crosses 161 = .ok (.getfield 54, 3) := by decide +kernel
theorem dX7_crosses_164 : decode cX7_crosses 164 = .ok (.iload 10, 2) := by decide +kernel
theorem dX7_crosses_166 : decode cX7_crosses 166 = .ok (.iconst 1, 1) := by decide +kernel
theorem dX7_crosses_167 : decode cX7_crosses 167 = .ok (.isub, 1) := by decide +kernel
theorem dX7_crosses_168 : decode cX7_crosses 168 = .ok (.iaload, 1) := by decide +kernel
theorem dX7_crosses_169 : decode cX7_crosses 169 = .ok (.iload 9, 2) := by decide +kernel
theorem dX7_crosses_171 : decode cX7_crosses 171 = .ok (.if_icmp .le 25, 3) := by decide +kernel
theorem dX7_crosses_174 : decode cX7_crosses 174 = .ok (.aload_n 0, 1) := by decide +kernel
theorem dX7_crosses_175 : decode cX7_crosses 175 = .ok (.getfield 54, 3) := by decide +kernel
theorem dX7_crosses_178 : decode cX7_crosses 178 = .ok (.iload 10, 2) := by decide +kernel
theorem dX7_crosses_180 : decode cX7_crosses 180 = .ok (.aload_n 0, 1) := by decide +kernel
theorem dX7_crosses_181 : decode cX7_crosses 181 = .ok (.getfield 54, 3) := by decide +kernel
theorem dX7_crosses_184 : decode cX7_crosses 184 = .ok (.iload 10, 2) := by decide +kernel
theorem dX7_crosses_186 : decode cX7_crosses 186 = .ok (.iconst 1, 1) := by decide +kernel
theorem dX7_crosses_187 : decode cX7_crosses 187 = .ok (.isub, 1) := by decide +kernel
theorem dX7_crosses_188 : decode cX7_crosses 188 = .ok (.iaload, 1) := by decide +kernel
theorem dX7_crosses_189 : decode cX7_crosses 189 = .ok (.iastore, 1) := by decide +kernel
theorem dX7_crosses_190 : decode cX7_crosses 190 = .ok (.iinc 10 (-1), 3) := by decide +kernel
theorem dX7_crosses_193 : decode cX7_crosses 193 = .ok (.goto (-38), 3) := by decide +kernel
theorem dX7_crosses_196 : decode cX7_crosses 196 = .ok (.aload_n 0, 1) := by decide +kernel
theorem dX7_crosses_197 : decode cX7_crosses 197 = .ok (.getfield 54, 3) := by decide +kernel
theorem dX7_crosses_200 : decode cX7_crosses 200 = .ok (.iload 10, 2) := by decide +kernel
theorem dX7_crosses_202 : decode cX7_crosses 202 = .ok (.iload 9, 2) := by decide +kernel
theorem dX7_crosses_204 : decode cX7_crosses 204 = .ok (.iastore, 1) := by decide +kernel
theorem dX7_crosses_205 : decode cX7_crosses 205 = .ok (.aload_n 0, 1) := by decide +kernel
theorem dX7_crosses_206 : decode cX7_crosses 206 = .ok (.dup, 1) := by decide +kernel
theorem dX7_crosses_207 : decode cX7_crosses 207 = .ok (.getfield 120, 3) := by decide +kernel
theorem dX7_crosses_210 : decode cX7_crosses 210 = .ok (.iconst 1, 1) := by decide +kernel
theorem dX7_crosses_211 : decode cX7_crosses 211 = .ok (.iadd, 1) := by decide +kernel
theorem dX7_crosses_212 : decode cX7_crosses 212 = .ok (.putfield 120, 3) := by decide +kernel
theorem dX7_crosses_215 : decode cX7_crosses 215 = .ok (.iinc 3 1, 3) := by decide +kernel
theorem dX7_crosses_218 : decode cX7_crosses 218 = .ok (.goto (-211), 3) := by decide +kernel
theorem dX7_crosses_221 : decode cX7_crosses 221 = .ok (.return_, 1) := by decide +kernel
theorem dX7_spans_0 : decode cX7_spans 0 = .ok (.iconst 0, 1) := by decide +kernel
theorem dX7_spans_1 : decode cX7_spans 1 = .ok (.istore_n 3, 1) := by decide +kernel
theorem dX7_spans_2 : decode cX7_spans 2 = .ok (.iload_n 3, 1) := by decide +kernel
theorem dX7_spans_3 : decode cX7_spans 3 = .ok (.iconst 1, 1) := by decide +kernel
theorem dX7_spans_4 : decode cX7_spans 4 = .ok (.iadd, 1) := by decide +kernel
theorem dX7_spans_5 : decode cX7_spans 5 = .ok (.aload_n 0, 1) := by decide +kernel
theorem dX7_spans_6 : decode cX7_spans 6 = .ok (.getfield 120, 3) := by decide +kernel
theorem dX7_spans_9 : decode cX7_spans 9 = .ok (.if_icmp .ge 175, 3) := by decide +kernel
theorem dX7_spans_12 : decode cX7_spans 12 = .ok (.iload_n 2, 1) := by decide +kernel
theorem dX7_spans_13 : decode cX7_spans 13 = .ok (.iconst 2, 1) := by decide +kernel
theorem dX7_spans_14 : decode cX7_spans 14 = .ok (.irem, 1) := by decide +kernel
theorem dX7_spans_15 : decode cX7_spans 15 = .ok (.ifCond .ne 7, 3) := by decide +kernel
theorem dX7_spans_18 : decode cX7_spans 18 = .ok (.iload_n 3, 1) := by decide +kernel
theorem dX7_spans_19 : decode cX7_spans 19 = .ok (.goto 11, 3) := by decide +kernel
theorem dX7_spans_22 : decode cX7_spans 22 = .ok (.aload_n 0, 1) := by decide +kernel
theorem dX7_spans_23 : decode cX7_spans 23 = .ok (.getfield 120, 3) := by decide +kernel
theorem dX7_spans_26 : decode cX7_spans 26 = .ok (.iconst 2, 1) := by decide +kernel
theorem dX7_spans_27 : decode cX7_spans 27 = .ok (.isub, 1) := by decide +kernel
theorem dX7_spans_28 : decode cX7_spans 28 = .ok (.iload_n 3, 1) := by decide +kernel
theorem dX7_spans_29 : decode cX7_spans 29 = .ok (.isub, 1) := by decide +kernel
theorem dX7_spans_30 : decode cX7_spans 30 = .ok (.istore 4, 2) := by decide +kernel
theorem dX7_spans_32 : decode cX7_spans 32 = .ok (.aload_n 0, 1) := by decide +kernel
theorem dX7_spans_33 : decode cX7_spans 33 = .ok (.getfield 54, 3) := by decide +kernel
theorem dX7_spans_36 : decode cX7_spans 36 = .ok (.iload 4, 2) := by decide +kernel
theorem dX7_spans_38 : decode cX7_spans 38 = .ok (.iaload, 1) := by decide +kernel
theorem dX7_spans_39 : decode cX7_spans 39 = .ok (.aload_n 0, 1) := by decide +kernel
theorem dX7_spans_40 : decode cX7_spans 40 = .ok (.getfield 38, 3) := by decide +kernel
theorem dX7_spans_43 : decode cX7_spans 43 = .ok (.iload_n 1, 1) := by decide +kernel
theorem dX7_spans_44 : decode cX7_spans 44 = .ok (.iaload, 1) := by decide +kernel
theorem dX7_spans_45 : decode cX7_spans 45 = .ok (.isub, 1) := by decide +kernel
theorem dX7_spans_46 : decode cX7_spans 46 = .ok (.istore 5, 2) := by decide +kernel
theorem dX7_spans_48 : decode cX7_spans 48 = .ok (.aload_n 0, 1) := by decide +kernel
theorem dX7_spans_49 : decode cX7_spans 49 = .ok (.getfield 54, 3) := by decide +kernel
theorem dX7_spans_52 : decode cX7_spans 52 = .ok (.iload 4, 2) := by decide +kernel
theorem dX7_spans_54 : decode cX7_spans 54 = .ok (.iconst 1, 1) := by decide +kernel
theorem dX7_spans_55 : decode cX7_spans 55 = .ok (.iadd, 1) := by decide +kernel
theorem dX7_spans_56 : decode cX7_spans 56 = .ok (.iaload, 1) := by decide +kernel
theorem dX7_spans_57 : decode cX7_spans 57 = .ok (.aload_n 0, 1) := by decide +kernel
theorem dX7_spans_58 : decode cX7_spans 58 = .ok (.getfield 38, 3) := by decide +kernel
theorem dX7_spans_61 : decode cX7_spans 61 = .ok (.iload_n 1, 1) := by decide +kernel
theorem dX7_spans_62 : decode cX7_spans 62 = .ok (.iaload, 1) := by decide +kernel
theorem dX7_spans_63 : decode cX7_spans 63 = .ok (.iadd, 1) := by decide +kernel
theorem dX7_spans_64 : decode cX7_spans 64 = .ok (.istore 6, 2) := by decide +kernel
theorem dX7_spans_66 : decode cX7_spans 66 = .ok (.iconst 0, 1) := by decide +kernel
theorem dX7_spans_67 : decode cX7_spans 67 = .ok (.istore 7, 2) := by decide +kernel
theorem dX7_spans_69 : decode cX7_spans 69 = .ok (.iload 7, 2) := by decide +kernel
theorem dX7_spans_71 : decode cX7_spans 71 = .ok (.iload 6, 2) := by decide +kernel
theorem dX7_spans_73 : decode cX7_spans 73 = .ok (.iload 5, 2) := by decide +kernel
theorem dX7_spans_75 : decode cX7_spans 75 = .ok (.isub, 1) := by decide +kernel
theorem dX7_spans_76 : decode cX7_spans 76 = .ok (.if_icmp .gt 102, 3) := by decide +kernel
theorem dX7_spans_79 : decode cX7_spans 79 = .ok (.iload_n 2, 1) := by decide +kernel
theorem dX7_spans_80 : decode cX7_spans 80 = .ok (.iconst 2, 1) := by decide +kernel
theorem dX7_spans_81 : decode cX7_spans 81 = .ok (.irem, 1) := by decide +kernel
theorem dX7_spans_82 : decode cX7_spans 82 = .ok (.ifCond .ne 11, 3) := by decide +kernel
theorem dX7_spans_85 : decode cX7_spans 85 = .ok (.iload 5, 2) := by decide +kernel
theorem dX7_spans_87 : decode cX7_spans 87 = .ok (.iload 7, 2) := by decide +kernel
theorem dX7_spans_89 : decode cX7_spans 89 = .ok (.iadd, 1) := by decide +kernel
theorem dX7_spans_90 : decode cX7_spans 90 = .ok (.goto 8, 3) := by decide +kernel
theorem dX7_spans_93 : decode cX7_spans 93 = .ok (.iload 6, 2) := by decide +kernel
theorem dX7_spans_95 : decode cX7_spans 95 = .ok (.iload 7, 2) := by decide +kernel
theorem dX7_spans_97 : decode cX7_spans 97 = .ok (.isub, 1) := by decide +kernel
theorem dX7_spans_98 : decode cX7_spans 98 = .ok (.istore 8, 2) := by decide +kernel
theorem dX7_spans_100 : decode cX7_spans 100 = .ok (.iload 8, 2) := by decide +kernel
theorem dX7_spans_102 : decode cX7_spans 102 = .ok (.iload_n 2, 1) := by decide +kernel
theorem dX7_spans_103 : decode cX7_spans 103 = .ok (.aload_n 0, 1) := by decide +kernel
theorem dX7_spans_104 : decode cX7_spans 104 = .ok (.getfield 35, 3) := by decide +kernel
theorem dX7_spans_107 : decode cX7_spans 107 = .ok (.iload_n 1, 1) := by decide +kernel
theorem dX7_spans_108 : decode cX7_spans 108 = .ok (.iaload, 1) := by decide +kernel
theorem dX7_spans_109 : decode cX7_spans 109 = .ok (.imul, 1) := by decide +kernel
theorem dX7_spans_110 : decode cX7_spans 110 = .ok (.isub, 1) := by decide +kernel
theorem dX7_spans_111 : decode cX7_spans 111 = .ok (.istore 9, 2) := by decide +kernel
theorem dX7_spans_113 : decode cX7_spans 113 = .ok (.iload 8, 2) := by decide +kernel
theorem dX7_spans_115 : decode cX7_spans 115 = .ok (.iload 5, 2) := by decide +kernel
theorem dX7_spans_117 : decode cX7_spans 117 = .ok (.if_icmp .eq 33, 3) := by decide +kernel
theorem dX7_spans_120 : decode cX7_spans 120 = .ok (.iload 8, 2) := by decide +kernel
theorem dX7_spans_122 : decode cX7_spans 122 = .ok (.iload 6, 2) := by decide +kernel
theorem dX7_spans_124 : decode cX7_spans 124 = .ok (.if_icmp .eq 26, 3) := by decide +kernel
theorem dX7_spans_127 : decode cX7_spans 127 = .ok (.iload 9, 2) := by decide +kernel
theorem dX7_spans_129 : decode cX7_spans 129 = .ok (.aload_n 0, 1) := by decide +kernel
theorem dX7_spans_130 : decode cX7_spans 130 = .ok (.getfield 32, 3) := by decide +kernel
theorem dX7_spans_133 : decode cX7_spans 133 = .ok (.iload_n 1, 1) := by decide +kernel
theorem dX7_spans_134 : decode cX7_spans 134 = .ok (.iaload, 1) := by decide +kernel
theorem dX7_spans_135 : decode cX7_spans 135 = .ok (.invokestatic 123, 3) := by decide +kernel
theorem dX7_spans_138 : decode cX7_spans 138 = .ok (.aload_n 0, 1) := by decide +kernel
theorem dX7_spans_139 : decode cX7_spans 139 = .ok (.getfield 32, 3) := by decide +kernel
theorem dX7_spans_142 : decode cX7_spans 142 = .ok (.iload_n 1, 1) := by decide +kernel
theorem dX7_spans_143 : decode cX7_spans 143 = .ok (.iaload, 1) := by decide +kernel
theorem dX7_spans_144 : decode cX7_spans 144 = .ok (.imul, 1) := by decide +kernel
theorem dX7_spans_145 : decode cX7_spans 145 = .ok (.iload 9, 2) := by decide +kernel
theorem dX7_spans_147 : decode cX7_spans 147 = .ok (.if_icmp .ne 7, 3) := by decide +kernel
theorem dX7_spans_150 : decode cX7_spans 150 = .ok (.iconst 1, 1) := by decide +kernel
theorem dX7_spans_151 : decode cX7_spans 151 = .ok (.goto 4, 3) := by decide +kernel
theorem dX7_spans_154 : decode cX7_spans 154 = .ok (.iconst 0, 1) := by decide +kernel
theorem dX7_spans_155 : decode cX7_spans 155 = .ok (.istore 10, 2) := by decide +kernel
theorem dX7_spans_157 : decode cX7_spans 157 = .ok (.iload 10, 2) := by decide +kernel
theorem dX7_spans_159 : decode cX7_spans 159 = .ok (.ifCond .eq 13, 3) := by decide +kernel
theorem dX7_spans_162 : decode cX7_spans 162 = .ok (.aload_n 0, 1) := by decide +kernel
theorem dX7_spans_163 : decode cX7_spans 163 = .ok (.iload 8, 2) := by decide +kernel
theorem dX7_spans_165 : decode cX7_spans 165 = .ok (.aload_n 0, 1) := by decide +kernel
theorem dX7_spans_166 : decode cX7_spans 166 = .ok (.getfield 127, 3) := by decide +kernel
theorem dX7_spans_169 : decode cX7_spans 169 = .ok (.invokevirtual 130, 3) := by decide +kernel
theorem dX7_spans_172 : decode cX7_spans 172 = .ok (.iinc 7 1, 3) := by decide +kernel
theorem dX7_spans_175 : decode cX7_spans 175 = .ok (.goto (-106), 3) := by decide +kernel
theorem dX7_spans_178 : decode cX7_spans 178 = .ok (.iinc 3 2, 3) := by decide +kernel
theorem dX7_spans_181 : decode cX7_spans 181 = .ok (.goto (-179), 3) := by decide +kernel
theorem dX7_spans_184 : decode cX7_spans 184 = .ok (.return_, 1) := by decide +kernel
theorem dX7_rows_0 : decode cX7_rows 0 = .ok (.bipush 32, 2) := by decide +kernel
theorem dX7_rows_2 : decode cX7_rows 2 = .ok (.istore_n 2, 1) := by decide +kernel
theorem dX7_rows_3 : decode cX7_rows 3 = .ok (.iconst 0, 1) := by decide +kernel
theorem dX7_rows_4 : decode cX7_rows 4 = .ok (.istore_n 3, 1) := by decide +kernel
theorem dX7_rows_5 : decode cX7_rows 5 = .ok (.iconst 0, 1) := by decide +kernel
theorem dX7_rows_6 : decode cX7_rows 6 = .ok (.istore 4, 2) := by decide +kernel
theorem dX7_rows_8 : decode cX7_rows 8 = .ok (.iload 4, 2) := by decide +kernel
theorem dX7_rows_10 : decode cX7_rows 10 = .ok (.aload_n 0, 1) := by decide +kernel
theorem dX7_rows_11 : decode cX7_rows 11 = .ok (.getfield 20, 3) := by decide +kernel
theorem dX7_rows_14 : decode cX7_rows 14 = .ok (.iload_n 1, 1) := by decide +kernel
theorem dX7_rows_15 : decode cX7_rows 15 = .ok (.iaload, 1) := by decide +kernel
theorem dX7_rows_16 : decode cX7_rows 16 = .ok (.if_icmp .ge 43, 3) := by decide +kernel
theorem dX7_rows_19 : decode cX7_rows 19 = .ok (.aload_n 0, 1) := by decide +kernel
theorem dX7_rows_20 : decode cX7_rows 20 = .ok (.getfield 26, 3) := by decide +kernel
theorem dX7_rows_23 : decode cX7_rows 23 = .ok (.bipush 8, 2) := by decide +kernel
theorem dX7_rows_25 : decode cX7_rows 25 = .ok (.iload_n 1, 1) := by decide +kernel
theorem dX7_rows_26 : decode cX7_rows 26 = .ok (.imul, 1) := by decide +kernel
theorem dX7_rows_27 : decode cX7_rows 27 = .ok (.iload 4, 2) := by decide +kernel
theorem dX7_rows_29 : decode cX7_rows 29 = .ok (.iadd, 1) := by decide +kernel
theorem dX7_rows_30 : decode cX7_rows 30 = .ok (.iaload, 1) := by decide +kernel
theorem dX7_rows_31 : decode cX7_rows 31 = .ok (.istore 5, 2) := by decide +kernel
theorem dX7_rows_33 : decode cX7_rows 33 = .ok (.iload 5, 2) := by decide +kernel
theorem dX7_rows_35 : decode cX7_rows 35 = .ok (.iload_n 2, 1) := by decide +kernel
theorem dX7_rows_36 : decode cX7_rows 36 = .ok (.if_icmp .ge 8, 3) := by decide +kernel
theorem dX7_rows_39 : decode cX7_rows 39 = .ok (.iload 5, 2) := by decide +kernel
theorem dX7_rows_41 : decode cX7_rows 41 = .ok (.goto 4, 3) := by decide +kernel
theorem dX7_rows_44 : decode cX7_rows 44 = .ok (.iload_n 2, 1) := by decide +kernel
theorem dX7_rows_45 : decode cX7_rows 45 = .ok (.istore_n 2, 1) := by decide +kernel
theorem dX7_rows_46 : decode cX7_rows 46 = .ok (.iload_n 3, 1) := by decide +kernel
theorem dX7_rows_47 : decode cX7_rows 47 = .ok (.iload 5, 2) := by decide +kernel
theorem dX7_rows_49 : decode cX7_rows 49 = .ok (.invokestatic 134, 3) := by decide +kernel
theorem dX7_rows_52 : decode cX7_rows 52 = .ok (.istore_n 3, 1) := by decide +kernel
theorem dX7_rows_53 : decode cX7_rows 53 = .ok (.iinc 4 1, 3) := by decide +kernel
theorem dX7_rows_56 : decode cX7_rows 56 = .ok (.goto (-48), 3) := by decide +kernel
theorem dX7_rows_59 : decode cX7_rows 59 = .ok (.iconst 0, 1) := by decide +kernel
theorem dX7_rows_60 : decode cX7_rows 60 = .ok (.istore 4, 2) := by decide +kernel
theorem dX7_rows_62 : decode cX7_rows 62 = .ok (.iload_n 2, 1) := by decide +kernel
theorem dX7_rows_63 : decode cX7_rows 63 = .ok (.istore 5, 2) := by decide +kernel
theorem dX7_rows_65 : decode cX7_rows 65 = .ok (.iload 5, 2) := by decide +kernel
theorem dX7_rows_67 : decode cX7_rows 67 = .ok (.iload_n 3, 1) := by decide +kernel
theorem dX7_rows_68 : decode cX7_rows 68 = .ok (.if_icmp .ge 40, 3) := by decide +kernel
theorem dX7_rows_71 : decode cX7_rows 71 = .ok (.aload_n 0, 1) := by decide +kernel
theorem dX7_rows_72 : decode cX7_rows 72 = .ok (.iload 5, 2) := by decide +kernel
theorem dX7_rows_74 : decode cX7_rows 74 = .ok (.putfield 127, 3) := by decide +kernel
theorem dX7_rows_77 : decode cX7_rows 77 = .ok (.aload_n 0, 1) := by decide +kernel
theorem dX7_rows_78 : decode cX7_rows 78 = .ok (.iload_n 1, 1) := by decide +kernel
theorem dX7_rows_79 : decode cX7_rows 79 = .ok (.iload 5, 2) := by decide +kernel
theorem dX7_rows_81 : decode cX7_rows 81 = .ok (.invokevirtual 137, 3) := by decide +kernel
theorem dX7_rows_84 : decode cX7_rows 84 = .ok (.aload_n 0, 1) := by decide +kernel
theorem dX7_rows_85 : decode cX7_rows 85 = .ok (.iload_n 1, 1) := by decide +kernel
theorem dX7_rows_86 : decode cX7_rows 86 = .ok (.iload 4, 2) := by decide +kernel
theorem dX7_rows_88 : decode cX7_rows 88 = .ok (.invokevirtual 140, 3) := by decide +kernel
theorem dX7_rows_91 : decode cX7_rows 91 = .ok (.iinc 4 1, 3) := by decide +kernel
theorem dX7_rows_94 : decode cX7_rows 94 = .ok (.iload 5, 2) := by decide +kernel
theorem dX7_rows_96 : decode cX7_rows 96 = .ok (.aload_n 0, 1) := by decide +kernel
theorem dX7_rows_97 : decode cX7_rows 97 = .ok (.getfield 29, 3) := by decide +kernel
theorem dX7_rows_100 : decode cX7_rows 100 = .ok (.iload_n 1, 1) := by decide +kernel
theorem dX7_rows_101 : decode cX7_rows 101 = .ok (.iaload, 1) := by decide +kernel
theorem dX7_rows_102 : decode cX7_rows 102 = .ok (.iadd, 1) := by decide +kernel
theorem dX7_rows_103 : decode cX7_rows 103 = .ok (.istore 5, 2) := by decide +kernel
theorem dX7_rows_105 : decode cX7_rows 105 = .ok (.goto (-40), 3) := by decide +kernel
theorem dX7_rows_108 : decode cX7_rows 108 = .ok (.return_, 1) := by decide +kernel
theorem dX7_steps_0 : decode cX7_steps 0 = .ok (.iload_n 0, 1) := by decide +kernel
theorem dX7_steps_1 : decode cX7_steps 1 = .ok (.invokestatic 143, 3) := by decide +kernel
theorem dX7_steps_4 : decode cX7_steps 4 = .ok (.iload_n 1, 1) := by decide +kernel
theorem dX7_steps_5 : decode cX7_steps 5 = .ok (.invokestatic 143, 3) := by decide +kernel
theorem dX7_steps_8 : decode cX7_steps 8 = .ok (.invokestatic 134, 3) := by decide +kernel
theorem dX7_steps_11 : decode cX7_steps 11 = .ok (.iload_n 2, 1) := by decide +kernel
theorem dX7_steps_12 : decode cX7_steps 12 = .ok (.iadd, 1) := by decide +kernel
theorem dX7_steps_13 : decode cX7_steps 13 = .ok (.iconst 1, 1) := by decide +kernel
theorem dX7_steps_14 : decode cX7_steps 14 = .ok (.isub, 1) := by decide +kernel
theorem dX7_steps_15 : decode cX7_steps 15 = .ok (.iload_n 2, 1) := by decide +kernel
theorem dX7_steps_16 : decode cX7_steps 16 = .ok (.idiv, 1) := by decide +kernel
theorem dX7_steps_17 : decode cX7_steps 17 = .ok (.ireturn, 1) := by decide +kernel
theorem dX7_underlays_0 : decode cX7_underlays 0 = .ok (.bipush 8, 2) := by decide +kernel
theorem dX7_underlays_2 : decode cX7_underlays 2 = .ok (.iload_n 1, 1) := by decide +kernel
theorem dX7_underlays_3 : decode cX7_underlays 3 = .ok (.imul, 1) := by decide +kernel
theorem dX7_underlays_4 : decode cX7_underlays 4 = .ok (.istore_n 2, 1) := by decide +kernel
theorem dX7_underlays_5 : decode cX7_underlays 5 = .ok (.aload_n 0, 1) := by decide +kernel
theorem dX7_underlays_6 : decode cX7_underlays 6 = .ok (.aload_n 0, 1) := by decide +kernel
theorem dX7_underlays_7 : decode cX7_underlays 7 = .ok (.getfield 23, 3) := by decide +kernel
theorem dX7_underlays_10 : decode cX7_underlays 10 = .ok (.iload_n 2, 1) := by decide +kernel
theorem dX7_underlays_11 : decode cX7_underlays 11 = .ok (.iaload, 1) := by decide +kernel
theorem dX7_underlays_12 : decode cX7_underlays 12 = .ok (.aload_n 0, 1) := by decide +kernel
theorem dX7_underlays_13 : decode cX7_underlays 13 = .ok (.getfield 26, 3) := by decide +kernel
theorem dX7_underlays_16 : decode cX7_underlays 16 = .ok (.iload_n 2, 1) := by decide +kernel
theorem dX7_underlays_17 : decode cX7_underlays 17 = .ok (.iaload, 1) := by decide +kernel
theorem dX7_underlays_18 : decode cX7_underlays 18 = .ok (.invokevirtual 130, 3) := by decide +kernel
theorem dX7_underlays_21 : decode cX7_underlays 21 = .ok (.iconst 0, 1) := by decide +kernel
theorem dX7_underlays_22 : decode cX7_underlays 22 = .ok (.istore_n 3, 1) := by decide +kernel
theorem dX7_underlays_23 : decode cX7_underlays 23 = .ok (.iload_n 3, 1) := by decide +kernel
theorem dX7_underlays_24 : decode cX7_underlays 24 = .ok (.aload_n 0, 1) := by decide +kernel
theorem dX7_underlays_25 : decode cX7_underlays 25 = .ok (.getfield 20, 3) := by decide +kernel
theorem dX7_underlays_28 : decode cX7_underlays 28 = .ok (.iload_n 1, 1) := by decide +kernel
theorem dX7_underlays_29 : decode cX7_underlays 29 = .ok (.iaload, 1) := by decide +kernel
theorem dX7_underlays_30 : decode cX7_underlays 30 = .ok (.if_icmp .ge 133, 3) := by decide +kernel
theorem dX7_underlays_33 : decode cX7_underlays 33 = .ok (.iload_n 2, 1) := by decide +kernel
theorem dX7_underlays_34 : decode cX7_underlays 34 = .ok (.iload_n 3, 1) := by decide +kernel
theorem dX7_underlays_35 : decode cX7_underlays 35 = .ok (.iadd, 1) := by decide +kernel
theorem dX7_underlays_36 : decode cX7_underlays 36 = .ok (.istore 4, 2) := by decide +kernel
theorem dX7_underlays_38 : decode cX7_underlays 38 = .ok (.iload_n 2, 1) := by decide +kernel
theorem dX7_underlays_39 : decode cX7_underlays 39 = .ok (.iload_n 3, 1) := by decide +kernel
theorem dX7_underlays_40 : decode cX7_underlays 40 = .ok (.iconst 1, 1) := by decide +kernel
theorem dX7_underlays_41 : decode cX7_underlays 41 = .ok (.iadd, 1) := by decide +kernel
theorem dX7_underlays_42 : decode cX7_underlays 42 = .ok (.aload_n 0, 1) := by decide +kernel
theorem dX7_underlays_43 : decode cX7_underlays 43 = .ok (.getfield 20, 3) := by decide +kernel
theorem dX7_underlays_46 : decode cX7_underlays 46 = .ok (.iload_n 1, 1) := by decide +kernel
theorem dX7_underlays_47 : decode cX7_underlays 47 = .ok (.iaload, 1) := by decide +kernel
theorem dX7_underlays_48 : decode cX7_underlays 48 = .ok (.irem, 1) := by decide +kernel
theorem dX7_underlays_49 : decode cX7_underlays 49 = .ok (.iadd, 1) := by decide +kernel
theorem dX7_underlays_50 : decode cX7_underlays 50 = .ok (.istore 5, 2) := by decide +kernel
theorem dX7_underlays_52 : decode cX7_underlays 52 = .ok (.aload_n 0, 1) := by decide +kernel
theorem dX7_underlays_53 : decode cX7_underlays 53 = .ok (.getfield 23, 3) := by decide +kernel
theorem dX7_underlays_56 : decode cX7_underlays 56 = .ok (.iload 5, 2) := by decide +kernel
theorem dX7_underlays_58 : decode cX7_underlays 58 = .ok (.iaload, 1) := by decide +kernel
theorem dX7_underlays_59 : decode cX7_underlays 59 = .ok (.aload_n 0, 1) := by decide +kernel
theorem dX7_underlays_60 : decode cX7_underlays 60 = .ok (.getfield 23, 3) := by decide +kernel
theorem dX7_underlays_63 : decode cX7_underlays 63 = .ok (.iload 4, 2) := by decide +kernel
theorem dX7_underlays_65 : decode cX7_underlays 65 = .ok (.iaload, 1) := by decide +kernel
theorem dX7_underlays_66 : decode cX7_underlays 66 = .ok (.isub, 1) := by decide +kernel
theorem dX7_underlays_67 : decode cX7_underlays 67 = .ok (.istore 6, 2) := by decide +kernel
theorem dX7_underlays_69 : decode cX7_underlays 69 = .ok (.aload_n 0, 1) := by decide +kernel
theorem dX7_underlays_70 : decode cX7_underlays 70 = .ok (.getfield 26, 3) := by decide +kernel
theorem dX7_underlays_73 : decode cX7_underlays 73 = .ok (.iload 5, 2) := by decide +kernel
theorem dX7_underlays_75 : decode cX7_underlays 75 = .ok (.iaload, 1) := by decide +kernel
theorem dX7_underlays_76 : decode cX7_underlays 76 = .ok (.aload_n 0, 1) := by decide +kernel
theorem dX7_underlays_77 : decode cX7_underlays 77 = .ok (.getfield 26, 3) := by decide +kernel
theorem dX7_underlays_80 : decode cX7_underlays 80 = .ok (.iload 4, 2) := by decide +kernel
theorem dX7_underlays_82 : decode cX7_underlays 82 = .ok (.iaload, 1) := by decide +kernel
theorem dX7_underlays_83 : decode cX7_underlays 83 = .ok (.isub, 1) := by decide +kernel
theorem dX7_underlays_84 : decode cX7_underlays 84 = .ok (.istore 7, 2) := by decide +kernel
theorem dX7_underlays_86 : decode cX7_underlays 86 = .ok (.iload 6, 2) := by decide +kernel
theorem dX7_underlays_88 : decode cX7_underlays 88 = .ok (.iload 7, 2) := by decide +kernel
theorem dX7_underlays_90 : decode cX7_underlays 90 = .ok (.aload_n 0, 1) := by decide +kernel
theorem dX7_underlays_91 : decode cX7_underlays 91 = .ok (.getfield 32, 3) := by decide +kernel
theorem dX7_underlays_94 : decode cX7_underlays 94 = .ok (.iload_n 1, 1) := by decide +kernel
theorem dX7_underlays_95 : decode cX7_underlays 95 = .ok (.iaload, 1) := by decide +kernel
theorem dX7_underlays_96 : decode cX7_underlays 96 = .ok (.invokestatic 146, 3) := by decide +kernel
theorem dX7_underlays_99 : decode cX7_underlays 99 = .ok (.istore 8, 2) := by decide +kernel
theorem dX7_underlays_101 : decode cX7_underlays 101 = .ok (.iconst 1, 1) := by decide +kernel
theorem dX7_underlays_102 : decode cX7_underlays 102 = .ok (.istore 9, 2) := by decide +kernel
theorem dX7_underlays_104 : decode cX7_underlays 104 = .ok (.iload 9, 2) := by decide +kernel
theorem dX7_underlays_106 : decode cX7_underlays 106 = .ok (.iload 8, 2) := by decide +kernel
theorem dX7_underlays_108 : decode cX7_underlays 108 = .ok (.if_icmp .gt 49, 3) := by decide +kernel
theorem dX7_underlays_111 : decode cX7_underlays 111 = .ok (.aload_n 0, 1) := by decide +kernel
theorem dX7_underlays_112 : decode cX7_underlays 112 = .ok (.aload_n 0, 1) := by decide +kernel
theorem dX7_underlays_113 : decode cX7_underlays 113 = .ok (.getfield 23, 3) := by decide +kernel
theorem dX7_underlays_116 : decode cX7_underlays 116 = .ok (.iload 4, 2) := by decide +kernel
theorem dX7_underlays_118 : decode cX7_underlays 118 = .ok (.iaload, 1) := by decide +kernel
theorem dX7_underlays_119 : decode cX7_underlays 119 = .ok (.iload 6, 2) := by decide +kernel
theorem dX7_underlays_121 : decode cX7_underlays 121 = .ok (.iload 9, 2) := by decide +kernel
theorem dX7_underlays_123 : decode cX7_underlays 123 = .ok (.imul, 1) := by decide +kernel
theorem dX7_underlays_124 : decode cX7_underlays 124 = .ok (.iload 8, 2) := by decide +kernel
theorem dX7_underlays_126 : decode cX7_underlays 126 = .ok (.invokestatic 123, 3) := by decide +kernel
theorem dX7_underlays_129 : decode cX7_underlays 129 = .ok (.iadd, 1) := by decide +kernel
theorem dX7_underlays_130 : decode cX7_underlays 130 = .ok (.aload_n 0, 1) := by decide +kernel
theorem dX7_underlays_131 : decode cX7_underlays 131 = .ok (.getfield 26, 3) := by decide +kernel
theorem dX7_underlays_134 : decode cX7_underlays 134 = .ok (.iload 4, 2) := by decide +kernel
theorem dX7_underlays_136 : decode cX7_underlays 136 = .ok (.iaload, 1) := by decide +kernel
theorem dX7_underlays_137 : decode cX7_underlays 137 = .ok (.iload 7, 2) := by decide +kernel
theorem dX7_underlays_139 : decode cX7_underlays 139 = .ok (.iload 9, 2) := by decide +kernel
theorem dX7_underlays_141 : decode cX7_underlays 141 = .ok (.imul, 1) := by decide +kernel
theorem dX7_underlays_142 : decode cX7_underlays 142 = .ok (.iload 8, 2) := by decide +kernel
theorem dX7_underlays_144 : decode cX7_underlays 144 = .ok (.invokestatic 123, 3) := by decide +kernel
theorem dX7_underlays_147 : decode cX7_underlays 147 = .ok (.iadd, 1) := by decide +kernel
theorem dX7_underlays_148 : decode cX7_underlays 148 = .ok (.invokevirtual 130, 3) := by decide +kernel
theorem dX7_underlays_151 : decode cX7_underlays 151 = .ok (.iinc 9 1, 3) := by decide +kernel
theorem dX7_underlays_154 : decode cX7_underlays 154 = .ok (.goto (-50), 3) := by decide +kernel
theorem dX7_underlays_157 : decode cX7_underlays 157 = .ok (.iinc 3 1, 3) := by decide +kernel
theorem dX7_underlays_160 : decode cX7_underlays 160 = .ok (.goto (-137), 3) := by decide +kernel
theorem dX7_underlays_163 : decode cX7_underlays 163 = .ok (.return_, 1) := by decide +kernel
theorem dX7_column_0 : decode cX7_column 0 = .ok (.bipush 8, 2) := by decide +kernel
theorem dX7_column_2 : decode cX7_column 2 = .ok (.iload_n 1, 1) := by decide +kernel
theorem dX7_column_3 : decode cX7_column 3 = .ok (.imul, 1) := by decide +kernel
theorem dX7_column_4 : decode cX7_column 4 = .ok (.istore_n 2, 1) := by decide +kernel
theorem dX7_column_5 : decode cX7_column 5 = .ok (.aload_n 0, 1) := by decide +kernel
theorem dX7_column_6 : decode cX7_column 6 = .ok (.getfield 23, 3) := by decide +kernel
theorem dX7_column_9 : decode cX7_column 9 = .ok (.iload_n 2, 1) := by decide +kernel
theorem dX7_column_10 : decode cX7_column 10 = .ok (.iconst 1, 1) := by decide +kernel
theorem dX7_column_11 : decode cX7_column 11 = .ok (.iadd, 1) := by decide +kernel
theorem dX7_column_12 : decode cX7_column 12 = .ok (.iaload, 1) := by decide +kernel
theorem dX7_column_13 : decode cX7_column 13 = .ok (.aload_n 0, 1) := by decide +kernel
theorem dX7_column_14 : decode cX7_column 14 = .ok (.getfield 23, 3) := by decide +kernel
theorem dX7_column_17 : decode cX7_column 17 = .ok (.iload_n 2, 1) := by decide +kernel
theorem dX7_column_18 : decode cX7_column 18 = .ok (.iaload, 1) := by decide +kernel
theorem dX7_column_19 : decode cX7_column 19 = .ok (.isub, 1) := by decide +kernel
theorem dX7_column_20 : decode cX7_column 20 = .ok (.istore_n 3, 1) := by decide +kernel
theorem dX7_column_21 : decode cX7_column 21 = .ok (.aload_n 0, 1) := by decide +kernel
theorem dX7_column_22 : decode cX7_column 22 = .ok (.getfield 26, 3) := by decide +kernel
theorem dX7_column_25 : decode cX7_column 25 = .ok (.iload_n 2, 1) := by decide +kernel
theorem dX7_column_26 : decode cX7_column 26 = .ok (.iconst 1, 1) := by decide +kernel
theorem dX7_column_27 : decode cX7_column 27 = .ok (.iadd, 1) := by decide +kernel
theorem dX7_column_28 : decode cX7_column 28 = .ok (.iaload, 1) := by decide +kernel
theorem dX7_column_29 : decode cX7_column 29 = .ok (.aload_n 0, 1) := by decide +kernel
theorem dX7_column_30 : decode cX7_column 30 = .ok (.getfield 26, 3) := by decide +kernel
theorem dX7_column_33 : decode cX7_column 33 = .ok (.iload_n 2, 1) := by decide +kernel
theorem dX7_column_34 : decode cX7_column 34 = .ok (.iaload, 1) := by decide +kernel
theorem dX7_column_35 : decode cX7_column 35 = .ok (.isub, 1) := by decide +kernel
theorem dX7_column_36 : decode cX7_column 36 = .ok (.istore 4, 2) := by decide +kernel
theorem dX7_column_38 : decode cX7_column 38 = .ok (.aload_n 0, 1) := by decide +kernel
theorem dX7_column_39 : decode cX7_column 39 = .ok (.getfield 23, 3) := by decide +kernel
theorem dX7_column_42 : decode cX7_column 42 = .ok (.iload_n 2, 1) := by decide +kernel
theorem dX7_column_43 : decode cX7_column 43 = .ok (.iconst 2, 1) := by decide +kernel
theorem dX7_column_44 : decode cX7_column 44 = .ok (.iadd, 1) := by decide +kernel
theorem dX7_column_45 : decode cX7_column 45 = .ok (.iaload, 1) := by decide +kernel
theorem dX7_column_46 : decode cX7_column 46 = .ok (.aload_n 0, 1) := by decide +kernel
theorem dX7_column_47 : decode cX7_column 47 = .ok (.getfield 23, 3) := by decide +kernel
theorem dX7_column_50 : decode cX7_column 50 = .ok (.iload_n 2, 1) := by decide +kernel
theorem dX7_column_51 : decode cX7_column 51 = .ok (.iconst 3, 1) := by decide +kernel
theorem dX7_column_52 : decode cX7_column 52 = .ok (.iadd, 1) := by decide +kernel
theorem dX7_column_53 : decode cX7_column 53 = .ok (.iaload, 1) := by decide +kernel
theorem dX7_column_54 : decode cX7_column 54 = .ok (.isub, 1) := by decide +kernel
theorem dX7_column_55 : decode cX7_column 55 = .ok (.istore 5, 2) := by decide +kernel
theorem dX7_column_57 : decode cX7_column 57 = .ok (.aload_n 0, 1) := by decide +kernel
theorem dX7_column_58 : decode cX7_column 58 = .ok (.getfield 26, 3) := by decide +kernel
theorem dX7_column_61 : decode cX7_column 61 = .ok (.iload_n 2, 1) := by decide +kernel
theorem dX7_column_62 : decode cX7_column 62 = .ok (.iconst 2, 1) := by decide +kernel
theorem dX7_column_63 : decode cX7_column 63 = .ok (.iadd, 1) := by decide +kernel
theorem dX7_column_64 : decode cX7_column 64 = .ok (.iaload, 1) := by decide +kernel
theorem dX7_column_65 : decode cX7_column 65 = .ok (.aload_n 0, 1) := by decide +kernel
theorem dX7_column_66 : decode cX7_column 66 = .ok (.getfield 26, 3) := by decide +kernel
theorem dX7_column_69 : decode cX7_column 69 = .ok (.iload_n 2, 1) := by decide +kernel
theorem dX7_column_70 : decode cX7_column 70 = .ok (.iconst 3, 1) := by decide +kernel
theorem dX7_column_71 : decode cX7_column 71 = .ok (.iadd, 1) := by decide +kernel
theorem dX7_column_72 : decode cX7_column 72 = .ok (.iaload, 1) := by decide +kernel
theorem dX7_column_73 : decode cX7_column 73 = .ok (.isub, 1) := by decide +kernel
theorem dX7_column_74 : decode cX7_column 74 = .ok (.istore 6, 2) := by decide +kernel
theorem dX7_column_76 : decode cX7_column 76 = .ok (.iload_n 3, 1) := by decide +kernel
theorem dX7_column_77 : decode cX7_column 77 = .ok (.invokestatic 143, 3) := by decide +kernel
theorem dX7_column_80 : decode cX7_column 80 = .ok (.iload 4, 2) := by decide +kernel
theorem dX7_column_82 : decode cX7_column 82 = .ok (.invokestatic 143, 3) := by decide +kernel
theorem dX7_column_85 : decode cX7_column 85 = .ok (.invokestatic 134, 3) := by decide +kernel
theorem dX7_column_88 : decode cX7_column 88 = .ok (.iload 5, 2) := by decide +kernel
theorem dX7_column_90 : decode cX7_column 90 = .ok (.invokestatic 143, 3) := by decide +kernel
theorem dX7_column_93 : decode cX7_column 93 = .ok (.iload 6, 2) := by decide +kernel
theorem dX7_column_95 : decode cX7_column 95 = .ok (.invokestatic 143, 3) := by decide +kernel
theorem dX7_column_98 : decode cX7_column 98 = .ok (.invokestatic 134, 3) := by decide +kernel
theorem dX7_column_101 : decode cX7_column 101 = .ok (.invokestatic 134, 3) := by decide +kernel
theorem dX7_column_104 : decode cX7_column 104 = .ok (.aload_n 0, 1) := by decide +kernel
theorem dX7_column_105 : decode cX7_column 105 = .ok (.getfield 29, 3) := by decide +kernel
theorem dX7_column_108 : decode cX7_column 108 = .ok (.iload_n 1, 1) := by decide +kernel
theorem dX7_column_109 : decode cX7_column 109 = .ok (.iaload, 1) := by decide +kernel
theorem dX7_column_110 : decode cX7_column 110 = .ok (.idiv, 1) := by decide +kernel
theorem dX7_column_111 : decode cX7_column 111 = .ok (.iconst 1, 1) := by decide +kernel
theorem dX7_column_112 : decode cX7_column 112 = .ok (.iadd, 1) := by decide +kernel
theorem dX7_column_113 : decode cX7_column 113 = .ok (.istore 7, 2) := by decide +kernel
theorem dX7_column_115 : decode cX7_column 115 = .ok (.iconst 0, 1) := by decide +kernel
theorem dX7_column_116 : decode cX7_column 116 = .ok (.istore 8, 2) := by decide +kernel
theorem dX7_column_118 : decode cX7_column 118 = .ok (.iload 8, 2) := by decide +kernel
theorem dX7_column_120 : decode cX7_column 120 = .ok (.iload 7, 2) := by decide +kernel
theorem dX7_column_122 : decode cX7_column 122 = .ok (.if_icmp .gt 88, 3) := by decide +kernel
theorem dX7_column_125 : decode cX7_column 125 = .ok (.aload_n 0, 1) := by decide +kernel
theorem dX7_column_126 : decode cX7_column 126 = .ok (.aload_n 0, 1) := by decide +kernel
theorem dX7_column_127 : decode cX7_column 127 = .ok (.getfield 23, 3) := by decide +kernel
theorem dX7_column_130 : decode cX7_column 130 = .ok (.iload_n 2, 1) := by decide +kernel
theorem dX7_column_131 : decode cX7_column 131 = .ok (.iaload, 1) := by decide +kernel
theorem dX7_column_132 : decode cX7_column 132 = .ok (.iload_n 3, 1) := by decide +kernel
theorem dX7_column_133 : decode cX7_column 133 = .ok (.iload 8, 2) := by decide +kernel
theorem dX7_column_135 : decode cX7_column 135 = .ok (.imul, 1) := by decide +kernel
theorem dX7_column_136 : decode cX7_column 136 = .ok (.iload 7, 2) := by decide +kernel
theorem dX7_column_138 : decode cX7_column 138 = .ok (.invokestatic 123, 3) := by decide +kernel
theorem dX7_column_141 : decode cX7_column 141 = .ok (.iadd, 1) := by decide +kernel
theorem dX7_column_142 : decode cX7_column 142 = .ok (.aload_n 0, 1) := by decide +kernel
theorem dX7_column_143 : decode cX7_column 143 = .ok (.getfield 26, 3) := by decide +kernel
theorem dX7_column_146 : decode cX7_column 146 = .ok (.iload_n 2, 1) := by decide +kernel
theorem dX7_column_147 : decode cX7_column 147 = .ok (.iaload, 1) := by decide +kernel
theorem dX7_column_148 : decode cX7_column 148 = .ok (.iload 4, 2) := by decide +kernel
theorem dX7_column_150 : decode cX7_column 150 = .ok (.iload 8, 2) := by decide +kernel
theorem dX7_column_152 : decode cX7_column 152 = .ok (.imul, 1) := by decide +kernel
theorem dX7_column_153 : decode cX7_column 153 = .ok (.iload 7, 2) := by decide +kernel
theorem dX7_column_155 : decode cX7_column 155 = .ok (.invokestatic 123, 3) := by decide +kernel
theorem dX7_column_158 : decode cX7_column 158 = .ok (.iadd, 1) := by decide +kernel
theorem dX7_column_159 : decode cX7_column 159 = .ok (.invokevirtual 130, 3) := by decide +kernel
theorem dX7_column_162 : decode cX7_column 162 = .ok (.aload_n 0, 1) := by decide +kernel
theorem dX7_column_163 : decode cX7_column 163 = .ok (.aload_n 0, 1) := by decide +kernel
theorem dX7_column_164 : decode cX7_column 164 = .ok (.getfield 23, 3) := by decide +kernel
theorem dX7_column_167 : decode cX7_column 167 = .ok (.iload_n 2, 1) := by decide +kernel
theorem dX7_column_168 : decode cX7_column 168 = .ok (.iconst 3, 1) := by decide +kernel
theorem dX7_column_169 : decode cX7_column 169 = .ok (.iadd, 1) := by decide +kernel
theorem dX7_column_170 : decode cX7_column 170 = .ok (.iaload, 1) := by decide +kernel
theorem dX7_column_171 : decode cX7_column 171 = .ok (.iload 5, 2) := by decide +kernel
theorem dX7_column_173 : decode cX7_column 173 = .ok (.iload 8, 2) := by decide +kernel
theorem dX7_column_175 : decode cX7_column 175 = .ok (.imul, 1) := by decide +kernel
theorem dX7_column_176 : decode cX7_column 176 = .ok (.iload 7, 2) := by decide +kernel
theorem dX7_column_178 : decode cX7_column 178 = .ok (.invokestatic 123, 3) := by decide +kernel
theorem dX7_column_181 : decode cX7_column 181 = .ok (.iadd, 1) := by decide +kernel
theorem dX7_column_182 : decode cX7_column 182 = .ok (.aload_n 0, 1) := by decide +kernel
theorem dX7_column_183 : decode cX7_column 183 = .ok (.getfield 26, 3) := by decide +kernel
theorem dX7_column_186 : decode cX7_column 186 = .ok (.iload_n 2, 1) := by decide +kernel
theorem dX7_column_187 : decode cX7_column 187 = .ok (.iconst 3, 1) := by decide +kernel
theorem dX7_column_188 : decode cX7_column 188 = .ok (.iadd, 1) := by decide +kernel
theorem dX7_column_189 : decode cX7_column 189 = .ok (.iaload, 1) := by decide +kernel
theorem dX7_column_190 : decode cX7_column 190 = .ok (.iload 6, 2) := by decide +kernel
theorem dX7_column_192 : decode cX7_column 192 = .ok (.iload 8, 2) := by decide +kernel
theorem dX7_column_194 : decode cX7_column 194 = .ok (.imul, 1) := by decide +kernel
theorem dX7_column_195 : decode cX7_column 195 = .ok (.iload 7, 2) := by decide +kernel
theorem dX7_column_197 : decode cX7_column 197 = .ok (.invokestatic 123, 3) := by decide +kernel
theorem dX7_column_200 : decode cX7_column 200 = .ok (.iadd, 1) := by decide +kernel
theorem dX7_column_201 : decode cX7_column 201 = .ok (.invokevirtual 130, 3) := by decide +kernel
theorem dX7_column_204 : decode cX7_column 204 = .ok (.iinc 8 1, 3) := by decide +kernel
theorem dX7_column_207 : decode cX7_column 207 = .ok (.goto (-89), 3) := by decide +kernel
theorem dX7_column_210 : decode cX7_column 210 = .ok (.return_, 1) := by decide +kernel
theorem dX7_finds_0 : decode cX7_finds 0 = .ok (.aload_n 0, 1) := by decide +kernel
theorem dX7_finds_1 : decode cX7_finds 1 = .ok (.iconst 0, 1) := by decide +kernel
theorem dX7_finds_2 : decode cX7_finds 2 = .ok (.putfield 117, 3) := by decide +kernel
theorem dX7_finds_5 : decode cX7_finds 5 = .ok (.aload_n 0, 1) := by decide +kernel
theorem dX7_finds_6 : decode cX7_finds 6 = .ok (.getfield 16, 3) := by decide +kernel
theorem dX7_finds_9 : decode cX7_finds 9 = .ok (.iload_n 1, 1) := by decide +kernel
theorem dX7_finds_10 : decode cX7_finds 10 = .ok (.baload, 1) := by decide +kernel
theorem dX7_finds_11 : decode cX7_finds 11 = .ok (.ifCond .eq 21, 3) := by decide +kernel
theorem dX7_finds_14 : decode cX7_finds 14 = .ok (.aload_n 0, 1) := by decide +kernel
theorem dX7_finds_15 : decode cX7_finds 15 = .ok (.getfield 20, 3) := by decide +kernel
theorem dX7_finds_18 : decode cX7_finds 18 = .ok (.iload_n 1, 1) := by decide +kernel
theorem dX7_finds_19 : decode cX7_finds 19 = .ok (.iaload, 1) := by decide +kernel
theorem dX7_finds_20 : decode cX7_finds 20 = .ok (.iconst 4, 1) := by decide +kernel
theorem dX7_finds_21 : decode cX7_finds 21 = .ok (.if_icmp .ne 40, 3) := by decide +kernel
theorem dX7_finds_24 : decode cX7_finds 24 = .ok (.aload_n 0, 1) := by decide +kernel
theorem dX7_finds_25 : decode cX7_finds 25 = .ok (.iload_n 1, 1) := by decide +kernel
theorem dX7_finds_26 : decode cX7_finds 26 = .ok (.invokevirtual 150, 3) := by decide +kernel
theorem dX7_finds_29 : decode cX7_finds 29 = .ok (.goto 32, 3) := by decide +kernel
theorem dX7_finds_32 : decode cX7_finds 32 = .ok (.aload_n 0, 1) := by decide +kernel
theorem dX7_finds_33 : decode cX7_finds 33 = .ok (.getfield 20, 3) := by decide +kernel
theorem dX7_finds_36 : decode cX7_finds 36 = .ok (.iload_n 1, 1) := by decide +kernel
theorem dX7_finds_37 : decode cX7_finds 37 = .ok (.iaload, 1) := by decide +kernel
theorem dX7_finds_38 : decode cX7_finds 38 = .ok (.iconst 2, 1) := by decide +kernel
theorem dX7_finds_39 : decode cX7_finds 39 = .ok (.if_icmp .le 22, 3) := by decide +kernel
theorem dX7_finds_42 : decode cX7_finds 42 = .ok (.aload_n 0, 1) := by decide +kernel
theorem dX7_finds_43 : decode cX7_finds 43 = .ok (.getfield 41, 3) := by decide +kernel
theorem dX7_finds_46 : decode cX7_finds 46 = .ok (.iload_n 1, 1) := by decide +kernel
theorem dX7_finds_47 : decode cX7_finds 47 = .ok (.baload, 1) := by decide +kernel
theorem dX7_finds_48 : decode cX7_finds 48 = .ok (.ifCond .eq 8, 3) := by decide +kernel
theorem dX7_finds_51 : decode cX7_finds 51 = .ok (.aload_n 0, 1) := by decide +kernel
theorem dX7_finds_52 : decode cX7_finds 52 = .ok (.iload_n 1, 1) := by decide +kernel
theorem dX7_finds_53 : decode cX7_finds 53 = .ok (.invokevirtual 154, 3) := by decide +kernel
theorem dX7_finds_56 : decode cX7_finds 56 = .ok (.aload_n 0, 1) := by decide +kernel
theorem dX7_finds_57 : decode cX7_finds 57 = .ok (.iload_n 1, 1) := by decide +kernel
theorem dX7_finds_58 : decode cX7_finds 58 = .ok (.invokevirtual 157, 3) := by decide +kernel
theorem dX7_finds_61 : decode cX7_finds 61 = .ok (.return_, 1) := by decide +kernel
theorem dX7_command_0 : decode cX7_command 0 = .ok (.aload_n 0, 1) := by decide +kernel
theorem dX7_command_1 : decode cX7_command 1 = .ok (.getfield 57, 3) := by decide +kernel
theorem dX7_command_4 : decode cX7_command 4 = .ok (.aload_n 0, 1) := by decide +kernel
theorem dX7_command_5 : decode cX7_command 5 = .ok (.getfield 160, 3) := by decide +kernel
theorem dX7_command_8 : decode cX7_command 8 = .ok (.iload_n 1, 1) := by decide +kernel
theorem dX7_command_9 : decode cX7_command 9 = .ok (.iastore, 1) := by decide +kernel
theorem dX7_command_10 : decode cX7_command 10 = .ok (.aload_n 0, 1) := by decide +kernel
theorem dX7_command_11 : decode cX7_command 11 = .ok (.getfield 60, 3) := by decide +kernel
theorem dX7_command_14 : decode cX7_command 14 = .ok (.aload_n 0, 1) := by decide +kernel
theorem dX7_command_15 : decode cX7_command 15 = .ok (.getfield 160, 3) := by decide +kernel
theorem dX7_command_18 : decode cX7_command 18 = .ok (.iload_n 2, 1) := by decide +kernel
theorem dX7_command_19 : decode cX7_command 19 = .ok (.iastore, 1) := by decide +kernel
theorem dX7_command_20 : decode cX7_command 20 = .ok (.aload_n 0, 1) := by decide +kernel
theorem dX7_command_21 : decode cX7_command 21 = .ok (.getfield 63, 3) := by decide +kernel
theorem dX7_command_24 : decode cX7_command 24 = .ok (.aload_n 0, 1) := by decide +kernel
theorem dX7_command_25 : decode cX7_command 25 = .ok (.getfield 160, 3) := by decide +kernel
theorem dX7_command_28 : decode cX7_command 28 = .ok (.iload_n 3, 1) := by decide +kernel
theorem dX7_command_29 : decode cX7_command 29 = .ok (.iastore, 1) := by decide +kernel
theorem dX7_command_30 : decode cX7_command 30 = .ok (.aload_n 0, 1) := by decide +kernel
theorem dX7_command_31 : decode cX7_command 31 = .ok (.getfield 66, 3) := by decide +kernel
theorem dX7_command_34 : decode cX7_command 34 = .ok (.aload_n 0, 1) := by decide +kernel
theorem dX7_command_35 : decode cX7_command 35 = .ok (.getfield 160, 3) := by decide +kernel
theorem dX7_command_38 : decode cX7_command 38 = .ok (.iload 4, 2) := by decide +kernel
theorem dX7_command_40 : decode cX7_command 40 = .ok (.iastore, 1) := by decide +kernel
theorem dX7_command_41 : decode cX7_command 41 = .ok (.aload_n 0, 1) := by decide +kernel
theorem dX7_command_42 : decode cX7_command 42 = .ok (.dup, 1) := by decide +kernel
theorem dX7_command_43 : decode cX7_command 43 = .ok (.getfield 160, 3) := by decide +kernel
theorem dX7_command_46 : decode cX7_command 46 = .ok (.iconst 1, 1) := by decide +kernel
theorem dX7_command_47 : decode cX7_command 47 = .ok (.iadd, 1) := by decide +kernel
theorem dX7_command_48 : decode cX7_command 48 = .ok (.putfield 160, 3) := by decide +kernel
theorem dX7_command_51 : decode cX7_command 51 = .ok (.aload_n 0, 1) := by decide +kernel
theorem dX7_command_52 : decode cX7_command 52 = .ok (.dup, 1) := by decide +kernel
theorem dX7_command_53 : decode cX7_command 53 = .ok (.getfield 88, 3) := by decide +kernel
theorem dX7_command_56 : decode cX7_command 56 = .ok (.iload_n 2, 1) := by decide +kernel
theorem dX7_command_57 : decode cX7_command 57 = .ok (.iadd, 1) := by decide +kernel
theorem dX7_command_58 : decode cX7_command 58 = .ok (.putfield 88, 3) := by decide +kernel
theorem dX7_command_61 : decode cX7_command 61 = .ok (.aload_n 0, 1) := by decide +kernel
theorem dX7_command_62 : decode cX7_command 62 = .ok (.dup, 1) := by decide +kernel
theorem dX7_command_63 : decode cX7_command 63 = .ok (.getfield 163, 3) := by decide +kernel
theorem dX7_command_66 : decode cX7_command 66 = .ok (.iload_n 3, 1) := by decide +kernel
theorem dX7_command_67 : decode cX7_command 67 = .ok (.iadd, 1) := by decide +kernel
theorem dX7_command_68 : decode cX7_command 68 = .ok (.putfield 163, 3) := by decide +kernel
theorem dX7_command_71 : decode cX7_command 71 = .ok (.return_, 1) := by decide +kernel
theorem dX7_squareTo_0 : decode cX7_squareTo 0 = .ok (.iload_n 1, 1) := by decide +kernel
theorem dX7_squareTo_1 : decode cX7_squareTo 1 = .ok (.aload_n 0, 1) := by decide +kernel
theorem dX7_squareTo_2 : decode cX7_squareTo 2 = .ok (.getfield 88, 3) := by decide +kernel
theorem dX7_squareTo_5 : decode cX7_squareTo 5 = .ok (.isub, 1) := by decide +kernel
theorem dX7_squareTo_6 : decode cX7_squareTo 6 = .ok (.iload_n 1, 1) := by decide +kernel
theorem dX7_squareTo_7 : decode cX7_squareTo 7 = .ok (.aload_n 0, 1) := by decide +kernel
theorem dX7_squareTo_8 : decode cX7_squareTo 8 = .ok (.getfield 88, 3) := by decide +kernel
theorem dX7_squareTo_11 : decode cX7_squareTo 11 = .ok (.isub, 1) := by decide +kernel
theorem dX7_squareTo_12 : decode cX7_squareTo 12 = .ok (.imul, 1) := by decide +kernel
theorem dX7_squareTo_13 : decode cX7_squareTo 13 = .ok (.iload_n 2, 1) := by decide +kernel
theorem dX7_squareTo_14 : decode cX7_squareTo 14 = .ok (.aload_n 0, 1) := by decide +kernel
theorem dX7_squareTo_15 : decode cX7_squareTo 15 = .ok (.getfield 163, 3) := by decide +kernel
theorem dX7_squareTo_18 : decode cX7_squareTo 18 = .ok (.isub, 1) := by decide +kernel
theorem dX7_squareTo_19 : decode cX7_squareTo 19 = .ok (.iload_n 2, 1) := by decide +kernel
theorem dX7_squareTo_20 : decode cX7_squareTo 20 = .ok (.aload_n 0, 1) := by decide +kernel
theorem dX7_squareTo_21 : decode cX7_squareTo 21 = .ok (.getfield 163, 3) := by decide +kernel
theorem dX7_squareTo_24 : decode cX7_squareTo 24 = .ok (.isub, 1) := by decide +kernel
theorem dX7_squareTo_25 : decode cX7_squareTo 25 = .ok (.imul, 1) := by decide +kernel
theorem dX7_squareTo_26 : decode cX7_squareTo 26 = .ok (.iadd, 1) := by decide +kernel
theorem dX7_squareTo_27 : decode cX7_squareTo 27 = .ok (.ireturn, 1) := by decide +kernel
theorem dX7_nearest_0 : decode cX7_nearest 0 = .ok (.iconst (-1), 1) := by decide +kernel
theorem dX7_nearest_1 : decode cX7_nearest 1 = .ok (.istore_n 3, 1) := by decide +kernel
theorem dX7_nearest_2 : decode cX7_nearest 2 = .ok (.iconst 0, 1) := by decide +kernel
theorem dX7_nearest_3 : decode cX7_nearest 3 = .ok (.istore 4, 2) := by decide +kernel
theorem dX7_nearest_5 : decode cX7_nearest 5 = .ok (.iconst 0, 1) := by decide +kernel
theorem dX7_nearest_6 : decode cX7_nearest 6 = .ok (.istore 5, 2) := by decide +kernel
theorem dX7_nearest_8 : decode cX7_nearest 8 = .ok (.iload 5, 2) := by decide +kernel
theorem dX7_nearest_10 : decode cX7_nearest 10 = .ok (.aload_n 0, 1) := by decide +kernel
theorem dX7_nearest_11 : decode cX7_nearest 11 = .ok (.getfield 94, 3) := by decide +kernel
theorem dX7_nearest_14 : decode cX7_nearest 14 = .ok (.if_icmp .ge 122, 3) := by decide +kernel
theorem dX7_nearest_17 : decode cX7_nearest 17 = .ok (.aload_n 0, 1) := by decide +kernel
theorem dX7_nearest_18 : decode cX7_nearest 18 = .ok (.getfield 69, 3) := by decide +kernel
theorem dX7_nearest_21 : decode cX7_nearest 21 = .ok (.iload 5, 2) := by decide +kernel
theorem dX7_nearest_23 : decode cX7_nearest 23 = .ok (.baload, 1) := by decide +kernel
theorem dX7_nearest_24 : decode cX7_nearest 24 = .ok (.ifCond .ne 106, 3) := by decide +kernel
theorem dX7_nearest_27 : decode cX7_nearest 27 = .ok (.aload_n 0, 1) := by decide +kernel
theorem dX7_nearest_28 : decode cX7_nearest 28 = .ok (.getfield 13, 3) := by decide +kernel
theorem dX7_nearest_31 : decode cX7_nearest 31 = .ok (.iload 5, 2) := by decide +kernel
theorem dX7_nearest_33 : decode cX7_nearest 33 = .ok (.iaload, 1) := by decide +kernel
theorem dX7_nearest_34 : decode cX7_nearest 34 = .ok (.iload_n 1, 1) := by decide +kernel
theorem dX7_nearest_35 : decode cX7_nearest 35 = .ok (.if_icmp .ne 95, 3) := by decide +kernel
theorem dX7_nearest_38 : decode cX7_nearest 38 = .ok (.iload_n 2, 1) := by decide +kernel
theorem dX7_nearest_39 : decode cX7_nearest 39 = .ok (.iconst (-1), 1) := by decide +kernel
theorem dX7_nearest_40 : decode cX7_nearest 40 = .ok (.if_icmp .eq 14, 3) := by decide +kernel
theorem dX7_nearest_43 : decode cX7_nearest 43 = .ok (.aload_n 0, 1) := by decide +kernel
theorem dX7_nearest_44 : decode cX7_nearest 44 = .ok (.getfield 7, 3) := by decide +kernel
theorem dX7_nearest_47 : decode cX7_nearest 47 = .ok (.iload 5, 2) := by decide +kernel
theorem dX7_nearest_49 : decode cX7_nearest 49 = .ok (.iaload, 1) := by decide +kernel
theorem dX7_nearest_50 : decode cX7_nearest 50 = .ok (.iload_n 2, 1) := by decide +kernel
theorem dX7_nearest_51 : decode cX7_nearest 51 = .ok (.if_icmp .ne 79, 3) := by decide +kernel
theorem dX7_nearest_54 : decode cX7_nearest 54 = .ok (.aload_n 0, 1) := by decide +kernel
theorem dX7_nearest_55 : decode cX7_nearest 55 = .ok (.iload 5, 2) := by decide +kernel
theorem dX7_nearest_57 : decode cX7_nearest 57 = .ok (.invokevirtual 166, 3) := by decide +kernel
theorem dX7_nearest_60 : decode cX7_nearest 60 = .ok (.aload_n 0, 1) := by decide +kernel
theorem dX7_nearest_61 : decode cX7_nearest 61 = .ok (.getfield 117, 3) := by decide +kernel
theorem dX7_nearest_64 : decode cX7_nearest 64 = .ok (.ifCond .le 66, 3) := by decide +kernel
theorem dX7_nearest_67 : decode cX7_nearest 67 = .ok (.aload_n 0, 1) := by decide +kernel
theorem dX7_nearest_68 : decode cX7_nearest 68 = .ok (.aload_n 0, 1) := by decide +kernel
theorem dX7_nearest_69 : decode cX7_nearest 69 = .ok (.getfield 48, 3) := by decide +kernel
theorem dX7_nearest_72 : decode cX7_nearest 72 = .ok (.iconst 0, 1) := by decide +kernel
theorem dX7_nearest_73 : decode cX7_nearest 73 = .ok (.iaload, 1) := by decide +kernel
theorem dX7_nearest_74 : decode cX7_nearest 74 = .ok (.aload_n 0, 1) := by decide +kernel
theorem dX7_nearest_75 : decode cX7_nearest 75 = .ok (.getfield 51, 3) := by decide +kernel
theorem dX7_nearest_78 : decode cX7_nearest 78 = .ok (.iconst 0, 1) := by decide +kernel
theorem dX7_nearest_79 : decode cX7_nearest 79 = .ok (.iaload, 1) := by decide +kernel
theorem dX7_nearest_80 : decode cX7_nearest 80 = .ok (.invokevirtual 169, 3) := by decide +kernel
theorem dX7_nearest_83 : decode cX7_nearest 83 = .ok (.istore 6, 2) := by decide +kernel
theorem dX7_nearest_85 : decode cX7_nearest 85 = .ok (.iload_n 3, 1) := by decide +kernel
theorem dX7_nearest_86 : decode cX7_nearest 86 = .ok (.iconst (-1), 1) := by decide +kernel
theorem dX7_nearest_87 : decode cX7_nearest 87 = .ok (.if_icmp .eq 10, 3) := by decide +kernel
theorem dX7_nearest_90 : decode cX7_nearest 90 = .ok (.iload 6, 2) := by decide +kernel
theorem dX7_nearest_92 : decode cX7_nearest 92 = .ok (.iload 4, 2) := by decide +kernel
theorem dX7_nearest_94 : decode cX7_nearest 94 = .ok (.if_icmp .ge 7, 3) := by decide +kernel
theorem dX7_nearest_97 : decode cX7_nearest 97 = .ok (.iconst 1, 1) := by decide +kernel
theorem dX7_nearest_98 : decode cX7_nearest 98 = .ok (.goto 4, 3) := by decide +kernel
theorem dX7_nearest_101 : decode cX7_nearest 101 = .ok (.iconst 0, 1) := by decide +kernel
theorem dX7_nearest_102 : decode cX7_nearest 102 = .ok (.istore 7, 2) := by decide +kernel
theorem dX7_nearest_104 : decode cX7_nearest 104 = .ok (.iload 7, 2) := by decide +kernel
theorem dX7_nearest_106 : decode cX7_nearest 106 = .ok (.ifCond .eq 8, 3) := by decide +kernel
theorem dX7_nearest_109 : decode cX7_nearest 109 = .ok (.iload 5, 2) := by decide +kernel
theorem dX7_nearest_111 : decode cX7_nearest 111 = .ok (.goto 4, 3) := by decide +kernel
theorem dX7_nearest_114 : decode cX7_nearest 114 = .ok (.iload_n 3, 1) := by decide +kernel
theorem dX7_nearest_115 : decode cX7_nearest 115 = .ok (.istore_n 3, 1) := by decide +kernel
theorem dX7_nearest_116 : decode cX7_nearest 116 = .ok (.iload 7, 2) := by decide +kernel
theorem dX7_nearest_118 : decode cX7_nearest 118 = .ok (.ifCond .eq 8, 3) := by decide +kernel
theorem dX7_nearest_121 : decode cX7_nearest 121 = .ok (.iload 6, 2) := by decide +kernel
theorem dX7_nearest_123 : decode cX7_nearest 123 = .ok (.goto 5, 3) := by decide +kernel
theorem dX7_nearest_126 : decode cX7_nearest 126 = .ok (.iload 4, 2) := by decide +kernel
theorem dX7_nearest_128 : decode cX7_nearest 128 = .ok (.istore 4, 2) := by decide +kernel
theorem dX7_nearest_130 : decode cX7_nearest 130 = .ok (.iinc 5 1, 3) := by decide +kernel
theorem dX7_nearest_133 : decode cX7_nearest 133 = .ok (.goto (-125), 3) := by decide +kernel
theorem dX7_nearest_136 : decode cX7_nearest 136 = .ok (.iload_n 3, 1) := by decide +kernel
theorem dX7_nearest_137 : decode cX7_nearest 137 = .ok (.ireturn, 1) := by decide +kernel
theorem dX7_sews_0 : decode cX7_sews 0 = .ok (.aload_n 0, 1) := by decide +kernel
theorem dX7_sews_1 : decode cX7_sews 1 = .ok (.iload_n 1, 1) := by decide +kernel
theorem dX7_sews_2 : decode cX7_sews 2 = .ok (.invokevirtual 166, 3) := by decide +kernel
theorem dX7_sews_5 : decode cX7_sews 5 = .ok (.iload_n 2, 1) := by decide +kernel
theorem dX7_sews_6 : decode cX7_sews 6 = .ok (.iconst (-1), 1) := by decide +kernel
theorem dX7_sews_7 : decode cX7_sews 7 = .ok (.if_icmp .eq 21, 3) := by decide +kernel
theorem dX7_sews_10 : decode cX7_sews 10 = .ok (.iload_n 2, 1) := by decide +kernel
theorem dX7_sews_11 : decode cX7_sews 11 = .ok (.aload_n 0, 1) := by decide +kernel
theorem dX7_sews_12 : decode cX7_sews 12 = .ok (.getfield 7, 3) := by decide +kernel
theorem dX7_sews_15 : decode cX7_sews 15 = .ok (.iload_n 1, 1) := by decide +kernel
theorem dX7_sews_16 : decode cX7_sews 16 = .ok (.iaload, 1) := by decide +kernel
theorem dX7_sews_17 : decode cX7_sews 17 = .ok (.if_icmp .eq 11, 3) := by decide +kernel
theorem dX7_sews_20 : decode cX7_sews 20 = .ok (.aload_n 0, 1) := by decide +kernel
theorem dX7_sews_21 : decode cX7_sews 21 = .ok (.iconst 3, 1) := by decide +kernel
theorem dX7_sews_22 : decode cX7_sews 22 = .ok (.iconst 0, 1) := by decide +kernel
theorem dX7_sews_23 : decode cX7_sews 23 = .ok (.iconst 0, 1) := by decide +kernel
theorem dX7_sews_24 : decode cX7_sews 24 = .ok (.iconst (-1), 1) := by decide +kernel
theorem dX7_sews_25 : decode cX7_sews 25 = .ok (.invokevirtual 172, 3) := by decide +kernel
theorem dX7_sews_28 : decode cX7_sews 28 = .ok (.aload_n 0, 1) := by decide +kernel
theorem dX7_sews_29 : decode cX7_sews 29 = .ok (.aload_n 0, 1) := by decide +kernel
theorem dX7_sews_30 : decode cX7_sews 30 = .ok (.getfield 48, 3) := by decide +kernel
theorem dX7_sews_33 : decode cX7_sews 33 = .ok (.iconst 0, 1) := by decide +kernel
theorem dX7_sews_34 : decode cX7_sews 34 = .ok (.iaload, 1) := by decide +kernel
theorem dX7_sews_35 : decode cX7_sews 35 = .ok (.aload_n 0, 1) := by decide +kernel
theorem dX7_sews_36 : decode cX7_sews 36 = .ok (.getfield 51, 3) := by decide +kernel
theorem dX7_sews_39 : decode cX7_sews 39 = .ok (.iconst 0, 1) := by decide +kernel
theorem dX7_sews_40 : decode cX7_sews 40 = .ok (.iaload, 1) := by decide +kernel
theorem dX7_sews_41 : decode cX7_sews 41 = .ok (.invokevirtual 169, 3) := by decide +kernel
theorem dX7_sews_44 : decode cX7_sews 44 = .ok (.istore_n 3, 1) := by decide +kernel
theorem dX7_sews_45 : decode cX7_sews 45 = .ok (.iload_n 3, 1) := by decide +kernel
theorem dX7_sews_46 : decode cX7_sews 46 = .ok (.aload_n 0, 1) := by decide +kernel
theorem dX7_sews_47 : decode cX7_sews 47 = .ok (.getfield 44, 3) := by decide +kernel
theorem dX7_sews_50 : decode cX7_sews 50 = .ok (.aload_n 0, 1) := by decide +kernel
theorem dX7_sews_51 : decode cX7_sews 51 = .ok (.getfield 44, 3) := by decide +kernel
theorem dX7_sews_54 : decode cX7_sews 54 = .ok (.imul, 1) := by decide +kernel
theorem dX7_sews_55 : decode cX7_sews 55 = .ok (.if_icmp .le 11, 3) := by decide +kernel
theorem dX7_sews_58 : decode cX7_sews 58 = .ok (.aload_n 0, 1) := by decide +kernel
theorem dX7_sews_59 : decode cX7_sews 59 = .ok (.iconst 2, 1) := by decide +kernel
theorem dX7_sews_60 : decode cX7_sews 60 = .ok (.iconst 0, 1) := by decide +kernel
theorem dX7_sews_61 : decode cX7_sews 61 = .ok (.iconst 0, 1) := by decide +kernel
theorem dX7_sews_62 : decode cX7_sews 62 = .ok (.iconst (-1), 1) := by decide +kernel
theorem dX7_sews_63 : decode cX7_sews 63 = .ok (.invokevirtual 172, 3) := by decide +kernel
theorem dX7_sews_66 : decode cX7_sews 66 = .ok (.iload_n 3, 1) := by decide +kernel
theorem dX7_sews_67 : decode cX7_sews 67 = .ok (.ifCond .le 31, 3) := by decide +kernel
theorem dX7_sews_70 : decode cX7_sews 70 = .ok (.aload_n 0, 1) := by decide +kernel
theorem dX7_sews_71 : decode cX7_sews 71 = .ok (.iconst 1, 1) := by decide +kernel
theorem dX7_sews_72 : decode cX7_sews 72 = .ok (.aload_n 0, 1) := by decide +kernel
theorem dX7_sews_73 : decode cX7_sews 73 = .ok (.getfield 48, 3) := by decide +kernel
theorem dX7_sews_76 : decode cX7_sews 76 = .ok (.iconst 0, 1) := by decide +kernel
theorem dX7_sews_77 : decode cX7_sews 77 = .ok (.iaload, 1) := by decide +kernel
theorem dX7_sews_78 : decode cX7_sews 78 = .ok (.aload_n 0, 1) := by decide +kernel
theorem dX7_sews_79 : decode cX7_sews 79 = .ok (.getfield 88, 3) := by decide +kernel
theorem dX7_sews_82 : decode cX7_sews 82 = .ok (.isub, 1) := by decide +kernel
theorem dX7_sews_83 : decode cX7_sews 83 = .ok (.aload_n 0, 1) := by decide +kernel
theorem dX7_sews_84 : decode cX7_sews 84 = .ok (.getfield 51, 3) := by decide +kernel
theorem dX7_sews_87 : decode cX7_sews 87 = .ok (.iconst 0, 1) := by decide +kernel
theorem dX7_sews_88 : decode cX7_sews 88 = .ok (.iaload, 1) := by decide +kernel
theorem dX7_sews_89 : decode cX7_sews 89 = .ok (.aload_n 0, 1) := by decide +kernel
theorem dX7_sews_90 : decode cX7_sews 90 = .ok (.getfield 163, 3) := by decide +kernel
theorem dX7_sews_93 : decode cX7_sews 93 = .ok (.isub, 1) := by decide +kernel
theorem dX7_sews_94 : decode cX7_sews 94 = .ok (.iload_n 1, 1) := by decide +kernel
theorem dX7_sews_95 : decode cX7_sews 95 = .ok (.invokevirtual 172, 3) := by decide +kernel
theorem dX7_sews_98 : decode cX7_sews 98 = .ok (.iconst 1, 1) := by decide +kernel
theorem dX7_sews_99 : decode cX7_sews 99 = .ok (.istore 4, 2) := by decide +kernel
theorem dX7_sews_101 : decode cX7_sews 101 = .ok (.iload 4, 2) := by decide +kernel
theorem dX7_sews_103 : decode cX7_sews 103 = .ok (.aload_n 0, 1) := by decide +kernel
theorem dX7_sews_104 : decode cX7_sews 104 = .ok (.getfield 117, 3) := by decide +kernel
theorem dX7_sews_107 : decode cX7_sews 107 = .ok (.if_icmp .ge 81, 3) := by decide +kernel
theorem dX7_sews_110 : decode cX7_sews 110 = .ok (.aload_n 0, 1) := by decide +kernel
theorem dX7_sews_111 : decode cX7_sews 111 = .ok (.getfield 48, 3) := by decide +kernel
theorem dX7_sews_114 : decode cX7_sews 114 = .ok (.iload 4, 2) := by decide +kernel
theorem dX7_sews_116 : decode cX7_sews 116 = .ok (.iaload, 1) := by decide +kernel
theorem dX7_sews_117 : decode cX7_sews 117 = .ok (.aload_n 0, 1) := by decide +kernel
theorem dX7_sews_118 : decode cX7_sews 118 = .ok (.getfield 88, 3) := by decide +kernel
theorem dX7_sews_121 : decode cX7_sews 121 = .ok (.isub, 1) := by decide +kernel
theorem dX7_sews_122 : decode cX7_sews 122 = .ok (.istore 5, 2) := by decide +kernel
theorem dX7_sews_124 : decode cX7_sews 124 = .ok (.aload_n 0, 1) := by decide +kernel
theorem dX7_sews_125 : decode cX7_sews 125 = .ok (.getfield 51, 3) := by decide +kernel
theorem dX7_sews_128 : decode cX7_sews 128 = .ok (.iload 4, 2) := by decide +kernel
theorem dX7_sews_130 : decode cX7_sews 130 = .ok (.iaload, 1) := by decide +kernel
theorem dX7_sews_131 : decode cX7_sews 131 = .ok (.aload_n 0, 1) := by decide +kernel
theorem dX7_sews_132 : decode cX7_sews 132 = .ok (.getfield 163, 3) := by decide +kernel
theorem dX7_sews_135 : decode cX7_sews 135 = .ok (.isub, 1) := by decide +kernel
theorem dX7_sews_136 : decode cX7_sews 136 = .ok (.istore 6, 2) := by decide +kernel
theorem dX7_sews_138 : decode cX7_sews 138 = .ok (.iload 5, 2) := by decide +kernel
theorem dX7_sews_140 : decode cX7_sews 140 = .ok (.ifCond .ne 8, 3) := by decide +kernel
theorem dX7_sews_143 : decode cX7_sews 143 = .ok (.iload 6, 2) := by decide +kernel
theorem dX7_sews_145 : decode cX7_sews 145 = .ok (.ifCond .eq 37, 3) := by decide +kernel
theorem dX7_sews_148 : decode cX7_sews 148 = .ok (.aload_n 0, 1) := by decide +kernel
theorem dX7_sews_149 : decode cX7_sews 149 = .ok (.iload 5, 2) := by decide +kernel
theorem dX7_sews_151 : decode cX7_sews 151 = .ok (.invokestatic 143, 3) := by decide +kernel
theorem dX7_sews_154 : decode cX7_sews 154 = .ok (.bipush 12, 2) := by decide +kernel
theorem dX7_sews_156 : decode cX7_sews 156 = .ok (.if_icmp .gt 17, 3) := by decide +kernel
theorem dX7_sews_159 : decode cX7_sews 159 = .ok (.iload 6, 2) := by decide +kernel
theorem dX7_sews_161 : decode cX7_sews 161 = .ok (.invokestatic 143, 3) := by decide +kernel
theorem dX7_sews_164 : decode cX7_sews 164 = .ok (.bipush 12, 2) := by decide +kernel
theorem dX7_sews_166 : decode cX7_sews 166 = .ok (.if_icmp .gt 7, 3) := by decide +kernel
theorem dX7_sews_169 : decode cX7_sews 169 = .ok (.iconst 0, 1) := by decide +kernel
theorem dX7_sews_170 : decode cX7_sews 170 = .ok (.goto 4, 3) := by decide +kernel
theorem dX7_sews_173 : decode cX7_sews 173 = .ok (.iconst 1, 1) := by decide +kernel
theorem dX7_sews_174 : decode cX7_sews 174 = .ok (.iload 5, 2) := by decide +kernel
theorem dX7_sews_176 : decode cX7_sews 176 = .ok (.iload 6, 2) := by decide +kernel
theorem dX7_sews_178 : decode cX7_sews 178 = .ok (.iload_n 1, 1) := by decide +kernel
theorem dX7_sews_179 : decode cX7_sews 179 = .ok (.invokevirtual 172, 3) := by decide +kernel
theorem dX7_sews_182 : decode cX7_sews 182 = .ok (.iinc 4 1, 3) := by decide +kernel
theorem dX7_sews_185 : decode cX7_sews 185 = .ok (.goto (-84), 3) := by decide +kernel
theorem dX7_sews_188 : decode cX7_sews 188 = .ok (.return_, 1) := by decide +kernel
theorem dX7_reckons_0 : decode cX7_reckons 0 = .ok (.aload_n 0, 1) := by decide +kernel
theorem dX7_reckons_1 : decode cX7_reckons 1 = .ok (.getfield 109, 3) := by decide +kernel
theorem dX7_reckons_4 : decode cX7_reckons 4 = .ok (.ifCond .eq 4, 3) := by decide +kernel
theorem dX7_reckons_7 : decode cX7_reckons 7 = .ok (.return_, 1) := by decide +kernel
theorem dX7_reckons_8 : decode cX7_reckons 8 = .ok (.aload_n 0, 1) := by decide +kernel
theorem dX7_reckons_9 : decode cX7_reckons 9 = .ok (.iconst 1, 1) := by decide +kernel
theorem dX7_reckons_10 : decode cX7_reckons 10 = .ok (.putfield 109, 3) := by decide +kernel
theorem dX7_reckons_13 : decode cX7_reckons 13 = .ok (.aload_n 0, 1) := by decide +kernel
theorem dX7_reckons_14 : decode cX7_reckons 14 = .ok (.iconst 0, 1) := by decide +kernel
theorem dX7_reckons_15 : decode cX7_reckons 15 = .ok (.putfield 160, 3) := by decide +kernel
theorem dX7_reckons_18 : decode cX7_reckons 18 = .ok (.aload_n 0, 1) := by decide +kernel
theorem dX7_reckons_19 : decode cX7_reckons 19 = .ok (.iconst 0, 1) := by decide +kernel
theorem dX7_reckons_20 : decode cX7_reckons 20 = .ok (.putfield 88, 3) := by decide +kernel
theorem dX7_reckons_23 : decode cX7_reckons 23 = .ok (.aload_n 0, 1) := by decide +kernel
theorem dX7_reckons_24 : decode cX7_reckons 24 = .ok (.iconst 0, 1) := by decide +kernel
theorem dX7_reckons_25 : decode cX7_reckons 25 = .ok (.putfield 163, 3) := by decide +kernel
theorem dX7_reckons_28 : decode cX7_reckons 28 = .ok (.iconst 0, 1) := by decide +kernel
theorem dX7_reckons_29 : decode cX7_reckons 29 = .ok (.istore_n 1, 1) := by decide +kernel
theorem dX7_reckons_30 : decode cX7_reckons 30 = .ok (.iload_n 1, 1) := by decide +kernel
theorem dX7_reckons_31 : decode cX7_reckons 31 = .ok (.aload_n 0, 1) := by decide +kernel
theorem dX7_reckons_32 : decode cX7_reckons 32 = .ok (.getfield 94, 3) := by decide +kernel
theorem dX7_reckons_35 : decode cX7_reckons 35 = .ok (.if_icmp .ge 16, 3) := by decide +kernel
theorem dX7_reckons_38 : decode cX7_reckons 38 = .ok (.aload_n 0, 1) := by decide +kernel
theorem dX7_reckons_39 : decode cX7_reckons 39 = .ok (.getfield 69, 3) := by decide +kernel
theorem dX7_reckons_42 : decode cX7_reckons 42 = .ok (.iload_n 1, 1) := by decide +kernel
theorem dX7_reckons_43 : decode cX7_reckons 43 = .ok (.iconst 0, 1) := by decide +kernel
theorem dX7_reckons_44 : decode cX7_reckons 44 = .ok (.bastore, 1) := by decide +kernel
theorem dX7_reckons_45 : decode cX7_reckons 45 = .ok (.iinc 1 1, 3) := by decide +kernel
theorem dX7_reckons_48 : decode cX7_reckons 48 = .ok (.goto (-18), 3) := by decide +kernel
theorem dX7_reckons_51 : decode cX7_reckons 51 = .ok (.iconst (-1), 1) := by decide +kernel
theorem dX7_reckons_52 : decode cX7_reckons 52 = .ok (.istore_n 1, 1) := by decide +kernel
theorem dX7_reckons_53 : decode cX7_reckons 53 = .ok (.iconst 0, 1) := by decide +kernel
theorem dX7_reckons_54 : decode cX7_reckons 54 = .ok (.istore_n 2, 1) := by decide +kernel
theorem dX7_reckons_55 : decode cX7_reckons 55 = .ok (.iload_n 2, 1) := by decide +kernel
theorem dX7_reckons_56 : decode cX7_reckons 56 = .ok (.iconst 4, 1) := by decide +kernel
theorem dX7_reckons_57 : decode cX7_reckons 57 = .ok (.if_icmp .ge 81, 3) := by decide +kernel
theorem dX7_reckons_60 : decode cX7_reckons 60 = .ok (.aload_n 0, 1) := by decide +kernel
theorem dX7_reckons_61 : decode cX7_reckons 61 = .ok (.iload_n 2, 1) := by decide +kernel
theorem dX7_reckons_62 : decode cX7_reckons 62 = .ok (.iconst (-1), 1) := by decide +kernel
theorem dX7_reckons_63 : decode cX7_reckons 63 = .ok (.invokevirtual 176, 3) := by decide +kernel
theorem dX7_reckons_66 : decode cX7_reckons 66 = .ok (.istore_n 3, 1) := by decide +kernel
theorem dX7_reckons_67 : decode cX7_reckons 67 = .ok (.iload_n 3, 1) := by decide +kernel
theorem dX7_reckons_68 : decode cX7_reckons 68 = .ok (.iconst (-1), 1) := by decide +kernel
theorem dX7_reckons_69 : decode cX7_reckons 69 = .ok (.if_icmp .eq 63, 3) := by decide +kernel
theorem dX7_reckons_72 : decode cX7_reckons 72 = .ok (.iload_n 1, 1) := by decide +kernel
theorem dX7_reckons_73 : decode cX7_reckons 73 = .ok (.iconst (-1), 1) := by decide +kernel
theorem dX7_reckons_74 : decode cX7_reckons 74 = .ok (.if_icmp .ne 7, 3) := by decide +kernel
theorem dX7_reckons_77 : decode cX7_reckons 77 = .ok (.iconst (-1), 1) := by decide +kernel
theorem dX7_reckons_78 : decode cX7_reckons 78 = .ok (.goto 9, 3) := by decide +kernel
theorem dX7_reckons_81 : decode cX7_reckons 81 = .ok (.aload_n 0, 1) := by decide +kernel
theorem dX7_reckons_82 : decode cX7_reckons 82 = .ok (.iload_n 2, 1) := by decide +kernel
theorem dX7_reckons_83 : decode cX7_reckons 83 = .ok (.iload_n 1, 1) := by decide +kernel
theorem dX7_reckons_84 : decode cX7_reckons 84 = .ok (.invokevirtual 176, 3) := by decide +kernel
theorem dX7_reckons_87 : decode cX7_reckons 87 = .ok (.istore 4, 2) := by decide +kernel
theorem dX7_reckons_89 : decode cX7_reckons 89 = .ok (.iload 4, 2) := by decide +kernel
theorem dX7_reckons_91 : decode cX7_reckons 91 = .ok (.iconst (-1), 1) := by decide +kernel
theorem dX7_reckons_92 : decode cX7_reckons 92 = .ok (.if_icmp .ne 7, 3) := by decide +kernel
theorem dX7_reckons_95 : decode cX7_reckons 95 = .ok (.iload_n 3, 1) := by decide +kernel
theorem dX7_reckons_96 : decode cX7_reckons 96 = .ok (.goto 5, 3) := by decide +kernel
theorem dX7_reckons_99 : decode cX7_reckons 99 = .ok (.iload 4, 2) := by decide +kernel
theorem dX7_reckons_101 : decode cX7_reckons 101 = .ok (.istore_n 3, 1) := by decide +kernel
theorem dX7_reckons_102 : decode cX7_reckons 102 = .ok (.aload_n 0, 1) := by decide +kernel
theorem dX7_reckons_103 : decode cX7_reckons 103 = .ok (.iload_n 3, 1) := by decide +kernel
theorem dX7_reckons_104 : decode cX7_reckons 104 = .ok (.iload_n 1, 1) := by decide +kernel
theorem dX7_reckons_105 : decode cX7_reckons 105 = .ok (.invokevirtual 179, 3) := by decide +kernel
theorem dX7_reckons_108 : decode cX7_reckons 108 = .ok (.aload_n 0, 1) := by decide +kernel
theorem dX7_reckons_109 : decode cX7_reckons 109 = .ok (.getfield 69, 3) := by decide +kernel
theorem dX7_reckons_112 : decode cX7_reckons 112 = .ok (.iload_n 3, 1) := by decide +kernel
theorem dX7_reckons_113 : decode cX7_reckons 113 = .ok (.iconst 1, 1) := by decide +kernel
theorem dX7_reckons_114 : decode cX7_reckons 114 = .ok (.bastore, 1) := by decide +kernel
theorem dX7_reckons_115 : decode cX7_reckons 115 = .ok (.aload_n 0, 1) := by decide +kernel
theorem dX7_reckons_116 : decode cX7_reckons 116 = .ok (.getfield 7, 3) := by decide +kernel
theorem dX7_reckons_119 : decode cX7_reckons 119 = .ok (.iload_n 3, 1) := by decide +kernel
theorem dX7_reckons_120 : decode cX7_reckons 120 = .ok (.iaload, 1) := by decide +kernel
theorem dX7_reckons_121 : decode cX7_reckons 121 = .ok (.istore_n 1, 1) := by decide +kernel
theorem dX7_reckons_122 : decode cX7_reckons 122 = .ok (.aload_n 0, 1) := by decide +kernel
theorem dX7_reckons_123 : decode cX7_reckons 123 = .ok (.iload_n 2, 1) := by decide +kernel
theorem dX7_reckons_124 : decode cX7_reckons 124 = .ok (.iconst (-1), 1) := by decide +kernel
theorem dX7_reckons_125 : decode cX7_reckons 125 = .ok (.invokevirtual 176, 3) := by decide +kernel
theorem dX7_reckons_128 : decode cX7_reckons 128 = .ok (.istore_n 3, 1) := by decide +kernel
theorem dX7_reckons_129 : decode cX7_reckons 129 = .ok (.goto (-62), 3) := by decide +kernel
theorem dX7_reckons_132 : decode cX7_reckons 132 = .ok (.iinc 2 1, 3) := by decide +kernel
theorem dX7_reckons_135 : decode cX7_reckons 135 = .ok (.goto (-80), 3) := by decide +kernel
theorem dX7_reckons_138 : decode cX7_reckons 138 = .ok (.aload_n 0, 1) := by decide +kernel
theorem dX7_reckons_139 : decode cX7_reckons 139 = .ok (.iconst 4, 1) := by decide +kernel
theorem dX7_reckons_140 : decode cX7_reckons 140 = .ok (.iconst 0, 1) := by decide +kernel
theorem dX7_reckons_141 : decode cX7_reckons 141 = .ok (.iconst 0, 1) := by decide +kernel
theorem dX7_reckons_142 : decode cX7_reckons 142 = .ok (.iconst (-1), 1) := by decide +kernel
theorem dX7_reckons_143 : decode cX7_reckons 143 = .ok (.invokevirtual 172, 3) := by decide +kernel
theorem dX7_reckons_146 : decode cX7_reckons 146 = .ok (.return_, 1) := by decide +kernel
theorem dX7_commands_0 : decode cX7_commands 0 = .ok (.aload_n 0, 1) := by decide +kernel
theorem dX7_commands_1 : decode cX7_commands 1 = .ok (.iconst 0, 1) := by decide +kernel
theorem dX7_commands_2 : decode cX7_commands 2 = .ok (.putfield 91, 3) := by decide +kernel
theorem dX7_commands_5 : decode cX7_commands 5 = .ok (.aload_n 0, 1) := by decide +kernel
theorem dX7_commands_6 : decode cX7_commands 6 = .ok (.invokevirtual 182, 3) := by decide +kernel
theorem dX7_commands_9 : decode cX7_commands 9 = .ok (.aload_n 0, 1) := by decide +kernel
theorem dX7_commands_10 : decode cX7_commands 10 = .ok (.getfield 160, 3) := by decide +kernel
theorem dX7_commands_13 : decode cX7_commands 13 = .ok (.ireturn, 1) := by decide +kernel
theorem dX7_ofCommand_0 : decode cX7_ofCommand 0 = .ok (.aload_n 0, 1) := by decide +kernel
theorem dX7_ofCommand_1 : decode cX7_ofCommand 1 = .ok (.invokevirtual 182, 3) := by decide +kernel
theorem dX7_ofCommand_4 : decode cX7_ofCommand 4 = .ok (.aload_n 0, 1) := by decide +kernel
theorem dX7_ofCommand_5 : decode cX7_ofCommand 5 = .ok (.iload_n 1, 1) := by decide +kernel
theorem dX7_ofCommand_6 : decode cX7_ofCommand 6 = .ok (.iconst 0, 1) := by decide +kernel
theorem dX7_ofCommand_7 : decode cX7_ofCommand 7 = .ok (.aload_n 0, 1) := by decide +kernel
theorem dX7_ofCommand_8 : decode cX7_ofCommand 8 = .ok (.getfield 160, 3) := by decide +kernel
theorem dX7_ofCommand_11 : decode cX7_ofCommand 11 = .ok (.iconst 1, 1) := by decide +kernel
theorem dX7_ofCommand_12 : decode cX7_ofCommand 12 = .ok (.isub, 1) := by decide +kernel
theorem dX7_ofCommand_13 : decode cX7_ofCommand 13 = .ok (.invokestatic 97, 3) := by decide +kernel
theorem dX7_ofCommand_16 : decode cX7_ofCommand 16 = .ok (.invokevirtual 101, 3) := by decide +kernel
theorem dX7_ofCommand_19 : decode cX7_ofCommand 19 = .ok (.ifCond .ne 5, 3) := by decide +kernel
theorem dX7_ofCommand_22 : decode cX7_ofCommand 22 = .ok (.iconst 0, 1) := by decide +kernel
theorem dX7_ofCommand_23 : decode cX7_ofCommand 23 = .ok (.ireturn, 1) := by decide +kernel
theorem dX7_ofCommand_24 : decode cX7_ofCommand 24 = .ok (.iload_n 2, 1) := by decide +kernel
theorem dX7_ofCommand_25 : decode cX7_ofCommand 25 = .ok (.tableswitch 59 0 3 #[31, 38, 45, 52], 31) := by decide +kernel
theorem dX7_ofCommand_56 : decode cX7_ofCommand 56 = .ok (.aload_n 0, 1) := by decide +kernel
theorem dX7_ofCommand_57 : decode cX7_ofCommand 57 = .ok (.getfield 57, 3) := by decide +kernel
theorem dX7_ofCommand_60 : decode cX7_ofCommand 60 = .ok (.iload_n 1, 1) := by decide +kernel
theorem dX7_ofCommand_61 : decode cX7_ofCommand 61 = .ok (.iaload, 1) := by decide +kernel
theorem dX7_ofCommand_62 : decode cX7_ofCommand 62 = .ok (.ireturn, 1) := by decide +kernel
theorem dX7_ofCommand_63 : decode cX7_ofCommand 63 = .ok (.aload_n 0, 1) := by decide +kernel
theorem dX7_ofCommand_64 : decode cX7_ofCommand 64 = .ok (.getfield 60, 3) := by decide +kernel
theorem dX7_ofCommand_67 : decode cX7_ofCommand 67 = .ok (.iload_n 1, 1) := by decide +kernel
theorem dX7_ofCommand_68 : decode cX7_ofCommand 68 = .ok (.iaload, 1) := by decide +kernel
theorem dX7_ofCommand_69 : decode cX7_ofCommand 69 = .ok (.ireturn, 1) := by decide +kernel
theorem dX7_ofCommand_70 : decode cX7_ofCommand 70 = .ok (.aload_n 0, 1) := by decide +kernel
theorem dX7_ofCommand_71 : decode cX7_ofCommand 71 = .ok (.getfield 63, 3) := by decide +kernel
theorem dX7_ofCommand_74 : decode cX7_ofCommand 74 = .ok (.iload_n 1, 1) := by decide +kernel
theorem dX7_ofCommand_75 : decode cX7_ofCommand 75 = .ok (.iaload, 1) := by decide +kernel
theorem dX7_ofCommand_76 : decode cX7_ofCommand 76 = .ok (.ireturn, 1) := by decide +kernel
theorem dX7_ofCommand_77 : decode cX7_ofCommand 77 = .ok (.aload_n 0, 1) := by decide +kernel
theorem dX7_ofCommand_78 : decode cX7_ofCommand 78 = .ok (.getfield 66, 3) := by decide +kernel
theorem dX7_ofCommand_81 : decode cX7_ofCommand 81 = .ok (.iload_n 1, 1) := by decide +kernel
theorem dX7_ofCommand_82 : decode cX7_ofCommand 82 = .ok (.iaload, 1) := by decide +kernel
theorem dX7_ofCommand_83 : decode cX7_ofCommand 83 = .ok (.ireturn, 1) := by decide +kernel
theorem dX7_ofCommand_84 : decode cX7_ofCommand 84 = .ok (.aload_n 0, 1) := by decide +kernel
theorem dX7_ofCommand_85 : decode cX7_ofCommand 85 = .ok (.iconst 2, 1) := by decide +kernel
theorem dX7_ofCommand_86 : decode cX7_ofCommand 86 = .ok (.invokevirtual 105, 3) := by decide +kernel
theorem dX7_ofCommand_89 : decode cX7_ofCommand 89 = .ok (.ireturn, 1) := by decide +kernel
theorem dX7_count_0 : decode cX7_count 0 = .ok (.aload_n 0, 1) := by decide +kernel
theorem dX7_count_1 : decode cX7_count 1 = .ok (.iload_n 1, 1) := by decide +kernel
theorem dX7_count_2 : decode cX7_count 2 = .ok (.iconst 0, 1) := by decide +kernel
theorem dX7_count_3 : decode cX7_count 3 = .ok (.iconst 4, 1) := by decide +kernel
theorem dX7_count_4 : decode cX7_count 4 = .ok (.invokestatic 97, 3) := by decide +kernel
theorem dX7_count_7 : decode cX7_count 7 = .ok (.invokevirtual 101, 3) := by decide +kernel
theorem dX7_count_10 : decode cX7_count 10 = .ok (.ifCond .ne 5, 3) := by decide +kernel
theorem dX7_count_13 : decode cX7_count 13 = .ok (.iconst 0, 1) := by decide +kernel
theorem dX7_count_14 : decode cX7_count 14 = .ok (.ireturn, 1) := by decide +kernel
theorem dX7_count_15 : decode cX7_count 15 = .ok (.aload_n 0, 1) := by decide +kernel
theorem dX7_count_16 : decode cX7_count 16 = .ok (.invokevirtual 182, 3) := by decide +kernel
theorem dX7_count_19 : decode cX7_count 19 = .ok (.iconst 0, 1) := by decide +kernel
theorem dX7_count_20 : decode cX7_count 20 = .ok (.istore_n 2, 1) := by decide +kernel
theorem dX7_count_21 : decode cX7_count 21 = .ok (.iconst 0, 1) := by decide +kernel
theorem dX7_count_22 : decode cX7_count 22 = .ok (.istore_n 3, 1) := by decide +kernel
theorem dX7_count_23 : decode cX7_count 23 = .ok (.iload_n 3, 1) := by decide +kernel
theorem dX7_count_24 : decode cX7_count 24 = .ok (.aload_n 0, 1) := by decide +kernel
theorem dX7_count_25 : decode cX7_count 25 = .ok (.getfield 160, 3) := by decide +kernel
theorem dX7_count_28 : decode cX7_count 28 = .ok (.if_icmp .ge 27, 3) := by decide +kernel
theorem dX7_count_31 : decode cX7_count 31 = .ok (.iload_n 2, 1) := by decide +kernel
theorem dX7_count_32 : decode cX7_count 32 = .ok (.aload_n 0, 1) := by decide +kernel
theorem dX7_count_33 : decode cX7_count 33 = .ok (.getfield 57, 3) := by decide +kernel
theorem dX7_count_36 : decode cX7_count 36 = .ok (.iload_n 3, 1) := by decide +kernel
theorem dX7_count_37 : decode cX7_count 37 = .ok (.iaload, 1) := by decide +kernel
theorem dX7_count_38 : decode cX7_count 38 = .ok (.iload_n 1, 1) := by decide +kernel
theorem dX7_count_39 : decode cX7_count 39 = .ok (.if_icmp .ne 7, 3) := by decide +kernel
theorem dX7_count_42 : decode cX7_count 42 = .ok (.iconst 1, 1) := by decide +kernel
theorem dX7_count_43 : decode cX7_count 43 = .ok (.goto 4, 3) := by decide +kernel
theorem dX7_count_46 : decode cX7_count 46 = .ok (.iconst 0, 1) := by decide +kernel
theorem dX7_count_47 : decode cX7_count 47 = .ok (.iadd, 1) := by decide +kernel
theorem dX7_count_48 : decode cX7_count 48 = .ok (.istore_n 2, 1) := by decide +kernel
theorem dX7_count_49 : decode cX7_count 49 = .ok (.iinc 3 1, 3) := by decide +kernel
theorem dX7_count_52 : decode cX7_count 52 = .ok (.goto (-29), 3) := by decide +kernel
theorem dX7_count_55 : decode cX7_count 55 = .ok (.iload_n 2, 1) := by decide +kernel
theorem dX7_count_56 : decode cX7_count 56 = .ok (.ireturn, 1) := by decide +kernel
theorem dX7_secondsOf_0 : decode cX7_secondsOf 0 = .ok (.aload_n 0, 1) := by decide +kernel
theorem dX7_secondsOf_1 : decode cX7_secondsOf 1 = .ok (.getfield 57, 3) := by decide +kernel
theorem dX7_secondsOf_4 : decode cX7_secondsOf 4 = .ok (.iload_n 1, 1) := by decide +kernel
theorem dX7_secondsOf_5 : decode cX7_secondsOf 5 = .ok (.iaload, 1) := by decide +kernel
theorem dX7_secondsOf_6 : decode cX7_secondsOf 6 = .ok (.tableswitch 73 0 3 #[30, 64, 67, 70], 30) := by decide +kernel
theorem dX7_secondsOf_36 : decode cX7_secondsOf 36 = .ok (.aload_n 0, 1) := by decide +kernel
theorem dX7_secondsOf_37 : decode cX7_secondsOf 37 = .ok (.getfield 60, 3) := by decide +kernel
theorem dX7_secondsOf_40 : decode cX7_secondsOf 40 = .ok (.iload_n 1, 1) := by decide +kernel
theorem dX7_secondsOf_41 : decode cX7_secondsOf 41 = .ok (.iaload, 1) := by decide +kernel
theorem dX7_secondsOf_42 : decode cX7_secondsOf 42 = .ok (.invokestatic 143, 3) := by decide +kernel
theorem dX7_secondsOf_45 : decode cX7_secondsOf 45 = .ok (.iconst 4, 1) := by decide +kernel
theorem dX7_secondsOf_46 : decode cX7_secondsOf 46 = .ok (.if_icmp .gt 21, 3) := by decide +kernel
theorem dX7_secondsOf_49 : decode cX7_secondsOf 49 = .ok (.aload_n 0, 1) := by decide +kernel
theorem dX7_secondsOf_50 : decode cX7_secondsOf 50 = .ok (.getfield 63, 3) := by decide +kernel
theorem dX7_secondsOf_53 : decode cX7_secondsOf 53 = .ok (.iload_n 1, 1) := by decide +kernel
theorem dX7_secondsOf_54 : decode cX7_secondsOf 54 = .ok (.iaload, 1) := by decide +kernel
theorem dX7_secondsOf_55 : decode cX7_secondsOf 55 = .ok (.invokestatic 143, 3) := by decide +kernel
theorem dX7_secondsOf_58 : decode cX7_secondsOf 58 = .ok (.iconst 4, 1) := by decide +kernel
theorem dX7_secondsOf_59 : decode cX7_secondsOf 59 = .ok (.if_icmp .gt 8, 3) := by decide +kernel
theorem dX7_secondsOf_62 : decode cX7_secondsOf 62 = .ok (.ldc 185, 2) := by decide +kernel
theorem dX7_secondsOf_64 : decode cX7_secondsOf 64 = .ok (.goto 5, 3) := by decide +kernel
theorem dX7_secondsOf_67 : decode cX7_secondsOf 67 = .ok (.ldc 186, 2) := by decide +kernel
theorem dX7_secondsOf_69 : decode cX7_secondsOf 69 = .ok (.freturn, 1) := by decide +kernel
theorem dX7_secondsOf_70 : decode cX7_secondsOf 70 = .ok (.ldc 187, 2) := by decide +kernel
theorem dX7_secondsOf_72 : decode cX7_secondsOf 72 = .ok (.freturn, 1) := by decide +kernel
theorem dX7_secondsOf_73 : decode cX7_secondsOf 73 = .ok (.ldc 188, 2) := by decide +kernel
theorem dX7_secondsOf_75 : decode cX7_secondsOf 75 = .ok (.freturn, 1) := by decide +kernel
theorem dX7_secondsOf_76 : decode cX7_secondsOf 76 = .ok (.ldc 189, 2) := by decide +kernel
theorem dX7_secondsOf_78 : decode cX7_secondsOf 78 = .ok (.freturn, 1) := by decide +kernel
theorem dX7_secondsOf_79 : decode cX7_secondsOf 79 = .ok (.fconst 0, 1) := by decide +kernel
theorem dX7_secondsOf_80 : decode cX7_secondsOf 80 = .ok (.freturn, 1) := by decide +kernel
theorem dX7_time_0 : decode cX7_time 0 = .ok (.aload_n 0, 1) := by decide +kernel
theorem dX7_time_1 : decode cX7_time 1 = .ok (.iconst 0, 1) := by decide +kernel
theorem dX7_time_2 : decode cX7_time 2 = .ok (.putfield 91, 3) := by decide +kernel
theorem dX7_time_5 : decode cX7_time 5 = .ok (.aload_n 0, 1) := by decide +kernel
theorem dX7_time_6 : decode cX7_time 6 = .ok (.invokevirtual 182, 3) := by decide +kernel
theorem dX7_time_9 : decode cX7_time 9 = .ok (.fconst 0, 1) := by decide +kernel
theorem dX7_time_10 : decode cX7_time 10 = .ok (.fstore_n 1, 1) := by decide +kernel
theorem dX7_time_11 : decode cX7_time 11 = .ok (.iconst 0, 1) := by decide +kernel
theorem dX7_time_12 : decode cX7_time 12 = .ok (.istore_n 2, 1) := by decide +kernel
theorem dX7_time_13 : decode cX7_time 13 = .ok (.iload_n 2, 1) := by decide +kernel
theorem dX7_time_14 : decode cX7_time 14 = .ok (.aload_n 0, 1) := by decide +kernel
theorem dX7_time_15 : decode cX7_time 15 = .ok (.getfield 160, 3) := by decide +kernel
theorem dX7_time_18 : decode cX7_time 18 = .ok (.if_icmp .ge 17, 3) := by decide +kernel
theorem dX7_time_21 : decode cX7_time 21 = .ok (.fload_n 1, 1) := by decide +kernel
theorem dX7_time_22 : decode cX7_time 22 = .ok (.aload_n 0, 1) := by decide +kernel
theorem dX7_time_23 : decode cX7_time 23 = .ok (.iload_n 2, 1) := by decide +kernel
theorem dX7_time_24 : decode cX7_time 24 = .ok (.invokevirtual 190, 3) := by decide +kernel
theorem dX7_time_27 : decode cX7_time 27 = .ok (.fadd, 1) := by decide +kernel
theorem dX7_time_28 : decode cX7_time 28 = .ok (.fstore_n 1, 1) := by decide +kernel
theorem dX7_time_29 : decode cX7_time 29 = .ok (.iinc 2 1, 3) := by decide +kernel
theorem dX7_time_32 : decode cX7_time 32 = .ok (.goto (-19), 3) := by decide +kernel
theorem dX7_time_35 : decode cX7_time 35 = .ok (.fload_n 1, 1) := by decide +kernel
theorem dX7_time_36 : decode cX7_time 36 = .ok (.freturn, 1) := by decide +kernel
theorem dX7_root_0 : decode cX7_root 0 = .ok (.iconst 0, 1) := by decide +kernel
theorem dX7_root_1 : decode cX7_root 1 = .ok (.istore_n 1, 1) := by decide +kernel
theorem dX7_root_2 : decode cX7_root 2 = .ok (.iload_n 1, 1) := by decide +kernel
theorem dX7_root_3 : decode cX7_root 3 = .ok (.iconst 1, 1) := by decide +kernel
theorem dX7_root_4 : decode cX7_root 4 = .ok (.iadd, 1) := by decide +kernel
theorem dX7_root_5 : decode cX7_root 5 = .ok (.iload_n 1, 1) := by decide +kernel
theorem dX7_root_6 : decode cX7_root 6 = .ok (.iconst 1, 1) := by decide +kernel
theorem dX7_root_7 : decode cX7_root 7 = .ok (.iadd, 1) := by decide +kernel
theorem dX7_root_8 : decode cX7_root 8 = .ok (.imul, 1) := by decide +kernel
theorem dX7_root_9 : decode cX7_root 9 = .ok (.iload_n 0, 1) := by decide +kernel
theorem dX7_root_10 : decode cX7_root 10 = .ok (.if_icmp .gt 9, 3) := by decide +kernel
theorem dX7_root_13 : decode cX7_root 13 = .ok (.iinc 1 1, 3) := by decide +kernel
theorem dX7_root_16 : decode cX7_root 16 = .ok (.goto (-14), 3) := by decide +kernel
theorem dX7_root_19 : decode cX7_root 19 = .ok (.iload_n 1, 1) := by decide +kernel
theorem dX7_root_20 : decode cX7_root 20 = .ok (.ireturn, 1) := by decide +kernel
theorem dX7_thread_0 : decode cX7_thread 0 = .ok (.aload_n 0, 1) := by decide +kernel
theorem dX7_thread_1 : decode cX7_thread 1 = .ok (.iload_n 1, 1) := by decide +kernel
theorem dX7_thread_2 : decode cX7_thread 2 = .ok (.iconst 0, 1) := by decide +kernel
theorem dX7_thread_3 : decode cX7_thread 3 = .ok (.iconst 5, 1) := by decide +kernel
theorem dX7_thread_4 : decode cX7_thread 4 = .ok (.invokestatic 97, 3) := by decide +kernel
theorem dX7_thread_7 : decode cX7_thread 7 = .ok (.invokevirtual 101, 3) := by decide +kernel
theorem dX7_thread_10 : decode cX7_thread 10 = .ok (.ifCond .ne 5, 3) := by decide +kernel
theorem dX7_thread_13 : decode cX7_thread 13 = .ok (.iconst 0, 1) := by decide +kernel
theorem dX7_thread_14 : decode cX7_thread 14 = .ok (.ireturn, 1) := by decide +kernel
theorem dX7_thread_15 : decode cX7_thread 15 = .ok (.aload_n 0, 1) := by decide +kernel
theorem dX7_thread_16 : decode cX7_thread 16 = .ok (.invokevirtual 182, 3) := by decide +kernel
theorem dX7_thread_19 : decode cX7_thread 19 = .ok (.iconst 0, 1) := by decide +kernel
theorem dX7_thread_20 : decode cX7_thread 20 = .ok (.istore_n 2, 1) := by decide +kernel
theorem dX7_thread_21 : decode cX7_thread 21 = .ok (.iconst 0, 1) := by decide +kernel
theorem dX7_thread_22 : decode cX7_thread 22 = .ok (.istore_n 3, 1) := by decide +kernel
theorem dX7_thread_23 : decode cX7_thread 23 = .ok (.iload_n 3, 1) := by decide +kernel
theorem dX7_thread_24 : decode cX7_thread 24 = .ok (.aload_n 0, 1) := by decide +kernel
theorem dX7_thread_25 : decode cX7_thread 25 = .ok (.getfield 160, 3) := by decide +kernel
theorem dX7_thread_28 : decode cX7_thread 28 = .ok (.if_icmp .ge 85, 3) := by decide +kernel
theorem dX7_thread_31 : decode cX7_thread 31 = .ok (.aload_n 0, 1) := by decide +kernel
theorem dX7_thread_32 : decode cX7_thread 32 = .ok (.getfield 57, 3) := by decide +kernel
theorem dX7_thread_35 : decode cX7_thread 35 = .ok (.iload_n 3, 1) := by decide +kernel
theorem dX7_thread_36 : decode cX7_thread 36 = .ok (.iaload, 1) := by decide +kernel
theorem dX7_thread_37 : decode cX7_thread 37 = .ok (.ifCond .ne 22, 3) := by decide +kernel
theorem dX7_thread_40 : decode cX7_thread 40 = .ok (.aload_n 0, 1) := by decide +kernel
theorem dX7_thread_41 : decode cX7_thread 41 = .ok (.getfield 7, 3) := by decide +kernel
theorem dX7_thread_44 : decode cX7_thread 44 = .ok (.aload_n 0, 1) := by decide +kernel
theorem dX7_thread_45 : decode cX7_thread 45 = .ok (.getfield 66, 3) := by decide +kernel
theorem dX7_thread_48 : decode cX7_thread 48 = .ok (.iload_n 3, 1) := by decide +kernel
theorem dX7_thread_49 : decode cX7_thread 49 = .ok (.iaload, 1) := by decide +kernel
theorem dX7_thread_50 : decode cX7_thread 50 = .ok (.iaload, 1) := by decide +kernel
theorem dX7_thread_51 : decode cX7_thread 51 = .ok (.iload_n 1, 1) := by decide +kernel
theorem dX7_thread_52 : decode cX7_thread 52 = .ok (.if_icmp .ne 7, 3) := by decide +kernel
theorem dX7_thread_55 : decode cX7_thread 55 = .ok (.iconst 1, 1) := by decide +kernel
theorem dX7_thread_56 : decode cX7_thread 56 = .ok (.goto 4, 3) := by decide +kernel
theorem dX7_thread_59 : decode cX7_thread 59 = .ok (.iconst 0, 1) := by decide +kernel
theorem dX7_thread_60 : decode cX7_thread 60 = .ok (.istore 4, 2) := by decide +kernel
theorem dX7_thread_62 : decode cX7_thread 62 = .ok (.iload_n 2, 1) := by decide +kernel
theorem dX7_thread_63 : decode cX7_thread 63 = .ok (.iload 4, 2) := by decide +kernel
theorem dX7_thread_65 : decode cX7_thread 65 = .ok (.ifCond .eq 39, 3) := by decide +kernel
theorem dX7_thread_68 : decode cX7_thread 68 = .ok (.bipush 100, 2) := by decide +kernel
theorem dX7_thread_70 : decode cX7_thread 70 = .ok (.aload_n 0, 1) := by decide +kernel
theorem dX7_thread_71 : decode cX7_thread 71 = .ok (.getfield 60, 3) := by decide +kernel
theorem dX7_thread_74 : decode cX7_thread 74 = .ok (.iload_n 3, 1) := by decide +kernel
theorem dX7_thread_75 : decode cX7_thread 75 = .ok (.iaload, 1) := by decide +kernel
theorem dX7_thread_76 : decode cX7_thread 76 = .ok (.aload_n 0, 1) := by decide +kernel
theorem dX7_thread_77 : decode cX7_thread 77 = .ok (.getfield 60, 3) := by decide +kernel
theorem dX7_thread_80 : decode cX7_thread 80 = .ok (.iload_n 3, 1) := by decide +kernel
theorem dX7_thread_81 : decode cX7_thread 81 = .ok (.iaload, 1) := by decide +kernel
theorem dX7_thread_82 : decode cX7_thread 82 = .ok (.imul, 1) := by decide +kernel
theorem dX7_thread_83 : decode cX7_thread 83 = .ok (.aload_n 0, 1) := by decide +kernel
theorem dX7_thread_84 : decode cX7_thread 84 = .ok (.getfield 63, 3) := by decide +kernel
theorem dX7_thread_87 : decode cX7_thread 87 = .ok (.iload_n 3, 1) := by decide +kernel
theorem dX7_thread_88 : decode cX7_thread 88 = .ok (.iaload, 1) := by decide +kernel
theorem dX7_thread_89 : decode cX7_thread 89 = .ok (.aload_n 0, 1) := by decide +kernel
theorem dX7_thread_90 : decode cX7_thread 90 = .ok (.getfield 63, 3) := by decide +kernel
theorem dX7_thread_93 : decode cX7_thread 93 = .ok (.iload_n 3, 1) := by decide +kernel
theorem dX7_thread_94 : decode cX7_thread 94 = .ok (.iaload, 1) := by decide +kernel
theorem dX7_thread_95 : decode cX7_thread 95 = .ok (.imul, 1) := by decide +kernel
theorem dX7_thread_96 : decode cX7_thread 96 = .ok (.iadd, 1) := by decide +kernel
theorem dX7_thread_97 : decode cX7_thread 97 = .ok (.imul, 1) := by decide +kernel
theorem dX7_thread_98 : decode cX7_thread 98 = .ok (.invokestatic 194, 3) := by decide +kernel
theorem dX7_thread_101 : decode cX7_thread 101 = .ok (.goto 4, 3) := by decide +kernel
theorem dX7_thread_104 : decode cX7_thread 104 = .ok (.iconst 0, 1) := by decide +kernel
theorem dX7_thread_105 : decode cX7_thread 105 = .ok (.iadd, 1) := by decide +kernel
theorem dX7_thread_106 : decode cX7_thread 106 = .ok (.istore_n 2, 1) := by decide +kernel
theorem dX7_thread_107 : decode cX7_thread 107 = .ok (.iinc 3 1, 3) := by decide +kernel
theorem dX7_thread_110 : decode cX7_thread 110 = .ok (.goto (-87), 3) := by decide +kernel
theorem dX7_thread_113 : decode cX7_thread 113 = .ok (.iload_n 2, 1) := by decide +kernel
theorem dX7_thread_114 : decode cX7_thread 114 = .ok (.ireturn, 1) := by decide +kernel
theorem dX7_touches_0 : decode cX7_touches 0 = .ok (.aload_n 0, 1) := by decide +kernel
theorem dX7_touches_1 : decode cX7_touches 1 = .ok (.invokevirtual 182, 3) := by decide +kernel
theorem dX7_touches_4 : decode cX7_touches 4 = .ok (.iconst 0, 1) := by decide +kernel
theorem dX7_touches_5 : decode cX7_touches 5 = .ok (.istore_n 2, 1) := by decide +kernel
theorem dX7_touches_6 : decode cX7_touches 6 = .ok (.iload_n 2, 1) := by decide +kernel
theorem dX7_touches_7 : decode cX7_touches 7 = .ok (.sipush 1024, 3) := by decide +kernel
theorem dX7_touches_10 : decode cX7_touches 10 = .ok (.if_icmp .ge 16, 3) := by decide +kernel
theorem dX7_touches_13 : decode cX7_touches 13 = .ok (.aload_n 0, 1) := by decide +kernel
theorem dX7_touches_14 : decode cX7_touches 14 = .ok (.getfield 72, 3) := by decide +kernel
theorem dX7_touches_17 : decode cX7_touches 17 = .ok (.iload_n 2, 1) := by decide +kernel
theorem dX7_touches_18 : decode cX7_touches 18 = .ok (.iconst 0, 1) := by decide +kernel
theorem dX7_touches_19 : decode cX7_touches 19 = .ok (.bastore, 1) := by decide +kernel
theorem dX7_touches_20 : decode cX7_touches 20 = .ok (.iinc 2 1, 3) := by decide +kernel
theorem dX7_touches_23 : decode cX7_touches 23 = .ok (.goto (-17), 3) := by decide +kernel
theorem dX7_touches_26 : decode cX7_touches 26 = .ok (.iconst 0, 1) := by decide +kernel
theorem dX7_touches_27 : decode cX7_touches 27 = .ok (.istore_n 2, 1) := by decide +kernel
theorem dX7_touches_28 : decode cX7_touches 28 = .ok (.iconst 0, 1) := by decide +kernel
theorem dX7_touches_29 : decode cX7_touches 29 = .ok (.istore_n 3, 1) := by decide +kernel
theorem dX7_touches_30 : decode cX7_touches 30 = .ok (.iconst 0, 1) := by decide +kernel
theorem dX7_touches_31 : decode cX7_touches 31 = .ok (.istore 4, 2) := by decide +kernel
theorem dX7_touches_33 : decode cX7_touches 33 = .ok (.iload 4, 2) := by decide +kernel
theorem dX7_touches_35 : decode cX7_touches 35 = .ok (.aload_n 0, 1) := by decide +kernel
theorem dX7_touches_36 : decode cX7_touches 36 = .ok (.getfield 160, 3) := by decide +kernel
theorem dX7_touches_39 : decode cX7_touches 39 = .ok (.if_icmp .ge 129, 3) := by decide +kernel
theorem dX7_touches_42 : decode cX7_touches 42 = .ok (.aload_n 0, 1) := by decide +kernel
theorem dX7_touches_43 : decode cX7_touches 43 = .ok (.getfield 57, 3) := by decide +kernel
theorem dX7_touches_46 : decode cX7_touches 46 = .ok (.iload 4, 2) := by decide +kernel
theorem dX7_touches_48 : decode cX7_touches 48 = .ok (.iaload, 1) := by decide +kernel
theorem dX7_touches_49 : decode cX7_touches 49 = .ok (.ifCond .ne 93, 3) := by decide +kernel
theorem dX7_touches_52 : decode cX7_touches 52 = .ok (.aload_n 0, 1) := by decide +kernel
theorem dX7_touches_53 : decode cX7_touches 53 = .ok (.getfield 66, 3) := by decide +kernel
theorem dX7_touches_56 : decode cX7_touches 56 = .ok (.iload 4, 2) := by decide +kernel
theorem dX7_touches_58 : decode cX7_touches 58 = .ok (.iaload, 1) := by decide +kernel
theorem dX7_touches_59 : decode cX7_touches 59 = .ok (.iload_n 1, 1) := by decide +kernel
theorem dX7_touches_60 : decode cX7_touches 60 = .ok (.if_icmp .ne 82, 3) := by decide +kernel
theorem dX7_touches_63 : decode cX7_touches 63 = .ok (.aload_n 0, 1) := by decide +kernel
theorem dX7_touches_64 : decode cX7_touches 64 = .ok (.getfield 60, 3) := by decide +kernel
theorem dX7_touches_67 : decode cX7_touches 67 = .ok (.iload 4, 2) := by decide +kernel
theorem dX7_touches_69 : decode cX7_touches 69 = .ok (.iaload, 1) := by decide +kernel
theorem dX7_touches_70 : decode cX7_touches 70 = .ok (.invokestatic 143, 3) := by decide +kernel
theorem dX7_touches_73 : decode cX7_touches 73 = .ok (.aload_n 0, 1) := by decide +kernel
theorem dX7_touches_74 : decode cX7_touches 74 = .ok (.getfield 63, 3) := by decide +kernel
theorem dX7_touches_77 : decode cX7_touches 77 = .ok (.iload 4, 2) := by decide +kernel
theorem dX7_touches_79 : decode cX7_touches 79 = .ok (.iaload, 1) := by decide +kernel
theorem dX7_touches_80 : decode cX7_touches 80 = .ok (.invokestatic 143, 3) := by decide +kernel
theorem dX7_touches_83 : decode cX7_touches 83 = .ok (.invokestatic 134, 3) := by decide +kernel
theorem dX7_touches_86 : decode cX7_touches 86 = .ok (.istore 5, 2) := by decide +kernel
theorem dX7_touches_88 : decode cX7_touches 88 = .ok (.iconst 0, 1) := by decide +kernel
theorem dX7_touches_89 : decode cX7_touches 89 = .ok (.istore 6, 2) := by decide +kernel
theorem dX7_touches_91 : decode cX7_touches 91 = .ok (.iload 6, 2) := by decide +kernel
theorem dX7_touches_93 : decode cX7_touches 93 = .ok (.iload 5, 2) := by decide +kernel
theorem dX7_touches_95 : decode cX7_touches 95 = .ok (.if_icmp .gt 47, 3) := by decide +kernel
theorem dX7_touches_98 : decode cX7_touches 98 = .ok (.aload_n 0, 1) := by decide +kernel
theorem dX7_touches_99 : decode cX7_touches 99 = .ok (.iload_n 2, 1) := by decide +kernel
theorem dX7_touches_100 : decode cX7_touches 100 = .ok (.aload_n 0, 1) := by decide +kernel
theorem dX7_touches_101 : decode cX7_touches 101 = .ok (.getfield 60, 3) := by decide +kernel
theorem dX7_touches_104 : decode cX7_touches 104 = .ok (.iload 4, 2) := by decide +kernel
theorem dX7_touches_106 : decode cX7_touches 106 = .ok (.iaload, 1) := by decide +kernel
theorem dX7_touches_107 : decode cX7_touches 107 = .ok (.iload 6, 2) := by decide +kernel
theorem dX7_touches_109 : decode cX7_touches 109 = .ok (.imul, 1) := by decide +kernel
theorem dX7_touches_110 : decode cX7_touches 110 = .ok (.iload 5, 2) := by decide +kernel
theorem dX7_touches_112 : decode cX7_touches 112 = .ok (.invokestatic 123, 3) := by decide +kernel
theorem dX7_touches_115 : decode cX7_touches 115 = .ok (.iadd, 1) := by decide +kernel
theorem dX7_touches_116 : decode cX7_touches 116 = .ok (.iload_n 3, 1) := by decide +kernel
theorem dX7_touches_117 : decode cX7_touches 117 = .ok (.aload_n 0, 1) := by decide +kernel
theorem dX7_touches_118 : decode cX7_touches 118 = .ok (.getfield 63, 3) := by decide +kernel
theorem dX7_touches_121 : decode cX7_touches 121 = .ok (.iload 4, 2) := by decide +kernel
theorem dX7_touches_123 : decode cX7_touches 123 = .ok (.iaload, 1) := by decide +kernel
theorem dX7_touches_124 : decode cX7_touches 124 = .ok (.iload 6, 2) := by decide +kernel
theorem dX7_touches_126 : decode cX7_touches 126 = .ok (.imul, 1) := by decide +kernel
theorem dX7_touches_127 : decode cX7_touches 127 = .ok (.iload 5, 2) := by decide +kernel
theorem dX7_touches_129 : decode cX7_touches 129 = .ok (.invokestatic 123, 3) := by decide +kernel
theorem dX7_touches_132 : decode cX7_touches 132 = .ok (.iadd, 1) := by decide +kernel
theorem dX7_touches_133 : decode cX7_touches 133 = .ok (.invokevirtual 197, 3) := by decide +kernel
theorem dX7_touches_136 : decode cX7_touches 136 = .ok (.iinc 6 1, 3) := by decide +kernel
theorem dX7_touches_139 : decode cX7_touches 139 = .ok (.goto (-48), 3) := by decide +kernel
theorem dX7_touches_142 : decode cX7_touches 142 = .ok (.iload_n 2, 1) := by decide +kernel
theorem dX7_touches_143 : decode cX7_touches 143 = .ok (.aload_n 0, 1) := by decide +kernel
theorem dX7_touches_144 : decode cX7_touches 144 = .ok (.getfield 60, 3) := by decide +kernel
theorem dX7_touches_147 : decode cX7_touches 147 = .ok (.iload 4, 2) := by decide +kernel
theorem dX7_touches_149 : decode cX7_touches 149 = .ok (.iaload, 1) := by decide +kernel
theorem dX7_touches_150 : decode cX7_touches 150 = .ok (.iadd, 1) := by decide +kernel
theorem dX7_touches_151 : decode cX7_touches 151 = .ok (.istore_n 2, 1) := by decide +kernel
theorem dX7_touches_152 : decode cX7_touches 152 = .ok (.iload_n 3, 1) := by decide +kernel
theorem dX7_touches_153 : decode cX7_touches 153 = .ok (.aload_n 0, 1) := by decide +kernel
theorem dX7_touches_154 : decode cX7_touches 154 = .ok (.getfield 63, 3) := by decide +kernel
theorem dX7_touches_157 : decode cX7_touches 157 = .ok (.iload 4, 2) := by decide +kernel
theorem dX7_touches_159 : decode cX7_touches 159 = .ok (.iaload, 1) := by decide +kernel
theorem dX7_touches_160 : decode cX7_touches 160 = .ok (.iadd, 1) := by decide +kernel
theorem dX7_touches_161 : decode cX7_touches 161 = .ok (.istore_n 3, 1) := by decide +kernel
theorem dX7_touches_162 : decode cX7_touches 162 = .ok (.iinc 4 1, 3) := by decide +kernel
theorem dX7_touches_165 : decode cX7_touches 165 = .ok (.goto (-132), 3) := by decide +kernel
theorem dX7_touches_168 : decode cX7_touches 168 = .ok (.iconst 0, 1) := by decide +kernel
theorem dX7_touches_169 : decode cX7_touches 169 = .ok (.istore 4, 2) := by decide +kernel
theorem dX7_touches_171 : decode cX7_touches 171 = .ok (.iconst 0, 1) := by decide +kernel
theorem dX7_touches_172 : decode cX7_touches 172 = .ok (.istore 5, 2) := by decide +kernel
theorem dX7_touches_174 : decode cX7_touches 174 = .ok (.iload 5, 2) := by decide +kernel
theorem dX7_touches_176 : decode cX7_touches 176 = .ok (.sipush 1024, 3) := by decide +kernel
theorem dX7_touches_179 : decode cX7_touches 179 = .ok (.if_icmp .ge 29, 3) := by decide +kernel
theorem dX7_touches_182 : decode cX7_touches 182 = .ok (.iload 4, 2) := by decide +kernel
theorem dX7_touches_184 : decode cX7_touches 184 = .ok (.aload_n 0, 1) := by decide +kernel
theorem dX7_touches_185 : decode cX7_touches 185 = .ok (.getfield 72, 3) := by decide +kernel
theorem dX7_touches_188 : decode cX7_touches 188 = .ok (.iload 5, 2) := by decide +kernel
theorem dX7_touches_190 : decode cX7_touches 190 = .ok (.baload, 1) := by decide +kernel
theorem dX7_touches_191 : decode cX7_touches 191 = .ok (.ifCond .eq 7, 3) := by decide +kernel
theorem dX7_touches_194 : decode cX7_touches 194 = .ok (.iconst 1, 1) := by decide +kernel
theorem dX7_touches_195 : decode cX7_touches 195 = .ok (.goto 4, 3) := by decide +kernel
theorem dX7_touches_198 : decode cX7_touches 198 = .ok (.iconst 0, 1) := by decide +kernel
theorem dX7_touches_199 : decode cX7_touches 199 = .ok (.iadd, 1) := by decide +kernel
theorem dX7_touches_200 : decode cX7_touches 200 = .ok (.istore 4, 2) := by decide +kernel
theorem dX7_touches_202 : decode cX7_touches 202 = .ok (.iinc 5 1, 3) := by decide +kernel
theorem dX7_touches_205 : decode cX7_touches 205 = .ok (.goto (-31), 3) := by decide +kernel
theorem dX7_touches_208 : decode cX7_touches 208 = .ok (.iload 4, 2) := by decide +kernel
theorem dX7_touches_210 : decode cX7_touches 210 = .ok (.ireturn, 1) := by decide +kernel
theorem dX7_marks_0 : decode cX7_marks 0 = .ok (.iload_n 1, 1) := by decide +kernel
theorem dX7_marks_1 : decode cX7_marks 1 = .ok (.iconst 0, 1) := by decide +kernel
theorem dX7_marks_2 : decode cX7_marks 2 = .ok (.bipush 31, 2) := by decide +kernel
theorem dX7_marks_4 : decode cX7_marks 4 = .ok (.invokestatic 97, 3) := by decide +kernel
theorem dX7_marks_7 : decode cX7_marks 7 = .ok (.ifCond .eq 25, 3) := by decide +kernel
theorem dX7_marks_10 : decode cX7_marks 10 = .ok (.iload_n 2, 1) := by decide +kernel
theorem dX7_marks_11 : decode cX7_marks 11 = .ok (.iconst 0, 1) := by decide +kernel
theorem dX7_marks_12 : decode cX7_marks 12 = .ok (.bipush 31, 2) := by decide +kernel
theorem dX7_marks_14 : decode cX7_marks 14 = .ok (.invokestatic 97, 3) := by decide +kernel
theorem dX7_marks_17 : decode cX7_marks 17 = .ok (.ifCond .eq 15, 3) := by decide +kernel
theorem dX7_marks_20 : decode cX7_marks 20 = .ok (.aload_n 0, 1) := by decide +kernel
theorem dX7_marks_21 : decode cX7_marks 21 = .ok (.getfield 72, 3) := by decide +kernel
theorem dX7_marks_24 : decode cX7_marks 24 = .ok (.bipush 32, 2) := by decide +kernel
theorem dX7_marks_26 : decode cX7_marks 26 = .ok (.iload_n 2, 1) := by decide +kernel
theorem dX7_marks_27 : decode cX7_marks 27 = .ok (.imul, 1) := by decide +kernel
theorem dX7_marks_28 : decode cX7_marks 28 = .ok (.iload_n 1, 1) := by decide +kernel
theorem dX7_marks_29 : decode cX7_marks 29 = .ok (.iadd, 1) := by decide +kernel
theorem dX7_marks_30 : decode cX7_marks 30 = .ok (.iconst 1, 1) := by decide +kernel
theorem dX7_marks_31 : decode cX7_marks 31 = .ok (.bastore, 1) := by decide +kernel
theorem dX7_marks_32 : decode cX7_marks 32 = .ok (.return_, 1) := by decide +kernel
theorem dX7_isCovered_0 : decode cX7_isCovered 0 = .ok (.iconst 0, 1) := by decide +kernel
theorem dX7_isCovered_1 : decode cX7_isCovered 1 = .ok (.istore 4, 2) := by decide +kernel
theorem dX7_isCovered_3 : decode cX7_isCovered 3 = .ok (.iload_n 3, 1) := by decide +kernel
theorem dX7_isCovered_4 : decode cX7_isCovered 4 = .ok (.aload_n 0, 1) := by decide +kernel
theorem dX7_isCovered_5 : decode cX7_isCovered 5 = .ok (.getfield 29, 3) := by decide +kernel
theorem dX7_isCovered_8 : decode cX7_isCovered 8 = .ok (.iload_n 1, 1) := by decide +kernel
theorem dX7_isCovered_9 : decode cX7_isCovered 9 = .ok (.iaload, 1) := by decide +kernel
theorem dX7_isCovered_10 : decode cX7_isCovered 10 = .ok (.isub, 1) := by decide +kernel
theorem dX7_isCovered_11 : decode cX7_isCovered 11 = .ok (.iconst 1, 1) := by decide +kernel
theorem dX7_isCovered_12 : decode cX7_isCovered 12 = .ok (.iadd, 1) := by decide +kernel
theorem dX7_isCovered_13 : decode cX7_isCovered 13 = .ok (.istore 5, 2) := by decide +kernel
theorem dX7_isCovered_15 : decode cX7_isCovered 15 = .ok (.iload 5, 2) := by decide +kernel
theorem dX7_isCovered_17 : decode cX7_isCovered 17 = .ok (.iload_n 3, 1) := by decide +kernel
theorem dX7_isCovered_18 : decode cX7_isCovered 18 = .ok (.aload_n 0, 1) := by decide +kernel
theorem dX7_isCovered_19 : decode cX7_isCovered 19 = .ok (.getfield 29, 3) := by decide +kernel
theorem dX7_isCovered_22 : decode cX7_isCovered 22 = .ok (.iload_n 1, 1) := by decide +kernel
theorem dX7_isCovered_23 : decode cX7_isCovered 23 = .ok (.iaload, 1) := by decide +kernel
theorem dX7_isCovered_24 : decode cX7_isCovered 24 = .ok (.iadd, 1) := by decide +kernel
theorem dX7_isCovered_25 : decode cX7_isCovered 25 = .ok (.if_icmp .ge 47, 3) := by decide +kernel
theorem dX7_isCovered_28 : decode cX7_isCovered 28 = .ok (.iload 4, 2) := by decide +kernel
theorem dX7_isCovered_30 : decode cX7_isCovered 30 = .ok (.ifCond .ne 29, 3) := by decide +kernel
theorem dX7_isCovered_33 : decode cX7_isCovered 33 = .ok (.iload 5, 2) := by decide +kernel
theorem dX7_isCovered_35 : decode cX7_isCovered 35 = .ok (.iconst 0, 1) := by decide +kernel
theorem dX7_isCovered_36 : decode cX7_isCovered 36 = .ok (.bipush 31, 2) := by decide +kernel
theorem dX7_isCovered_38 : decode cX7_isCovered 38 = .ok (.invokestatic 97, 3) := by decide +kernel
theorem dX7_isCovered_41 : decode cX7_isCovered 41 = .ok (.ifCond .eq 22, 3) := by decide +kernel
theorem dX7_isCovered_44 : decode cX7_isCovered 44 = .ok (.aload_n 0, 1) := by decide +kernel
theorem dX7_isCovered_45 : decode cX7_isCovered 45 = .ok (.getfield 72, 3) := by decide +kernel
theorem dX7_isCovered_48 : decode cX7_isCovered 48 = .ok (.bipush 32, 2) := by decide +kernel
theorem dX7_isCovered_50 : decode cX7_isCovered 50 = .ok (.iload 5, 2) := by decide +kernel
theorem dX7_isCovered_52 : decode cX7_isCovered 52 = .ok (.imul, 1) := by decide +kernel
theorem dX7_isCovered_53 : decode cX7_isCovered 53 = .ok (.iload_n 2, 1) := by decide +kernel
theorem dX7_isCovered_54 : decode cX7_isCovered 54 = .ok (.iadd, 1) := by decide +kernel
theorem dX7_isCovered_55 : decode cX7_isCovered 55 = .ok (.baload, 1) := by decide +kernel
theorem dX7_isCovered_56 : decode cX7_isCovered 56 = .ok (.ifCond .eq 7, 3) := by decide +kernel
theorem dX7_isCovered_59 : decode cX7_isCovered 59 = .ok (.iconst 1, 1) := by decide +kernel
theorem dX7_isCovered_60 : decode cX7_isCovered 60 = .ok (.goto 4, 3) := by decide +kernel
theorem dX7_isCovered_63 : decode cX7_isCovered 63 = .ok (.iconst 0, 1) := by decide +kernel
theorem dX7_isCovered_64 : decode cX7_isCovered 64 = .ok (.istore 4, 2) := by decide +kernel
theorem dX7_isCovered_66 : decode cX7_isCovered 66 = .ok (.iinc 5 1, 3) := by decide +kernel
theorem dX7_isCovered_69 : decode cX7_isCovered 69 = .ok (.goto (-54), 3) := by decide +kernel
theorem dX7_isCovered_72 : decode cX7_isCovered 72 = .ok (.iload 4, 2) := by decide +kernel
theorem dX7_isCovered_74 : decode cX7_isCovered 74 = .ok (.ireturn, 1) := by decide +kernel
theorem dX7_covered_0 : decode cX7_covered 0 = .ok (.aload_n 0, 1) := by decide +kernel
theorem dX7_covered_1 : decode cX7_covered 1 = .ok (.aload_n 0, 1) := by decide +kernel
theorem dX7_covered_2 : decode cX7_covered 2 = .ok (.iload_n 1, 1) := by decide +kernel
theorem dX7_covered_3 : decode cX7_covered 3 = .ok (.invokevirtual 113, 3) := by decide +kernel
theorem dX7_covered_6 : decode cX7_covered 6 = .ok (.invokevirtual 101, 3) := by decide +kernel
theorem dX7_covered_9 : decode cX7_covered 9 = .ok (.ifCond .ne 5, 3) := by decide +kernel
theorem dX7_covered_12 : decode cX7_covered 12 = .ok (.fconst 0, 1) := by decide +kernel
theorem dX7_covered_13 : decode cX7_covered 13 = .ok (.freturn, 1) := by decide +kernel
theorem dX7_covered_14 : decode cX7_covered 14 = .ok (.aload_n 0, 1) := by decide +kernel
theorem dX7_covered_15 : decode cX7_covered 15 = .ok (.getfield 16, 3) := by decide +kernel
theorem dX7_covered_18 : decode cX7_covered 18 = .ok (.iload_n 1, 1) := by decide +kernel
theorem dX7_covered_19 : decode cX7_covered 19 = .ok (.baload, 1) := by decide +kernel
theorem dX7_covered_20 : decode cX7_covered 20 = .ok (.ifCond .ne 13, 3) := by decide +kernel
theorem dX7_covered_23 : decode cX7_covered 23 = .ok (.aload_n 0, 1) := by decide +kernel
theorem dX7_covered_24 : decode cX7_covered 24 = .ok (.getfield 20, 3) := by decide +kernel
theorem dX7_covered_27 : decode cX7_covered 27 = .ok (.iload_n 1, 1) := by decide +kernel
theorem dX7_covered_28 : decode cX7_covered 28 = .ok (.iaload, 1) := by decide +kernel
theorem dX7_covered_29 : decode cX7_covered 29 = .ok (.iconst 3, 1) := by decide +kernel
theorem dX7_covered_30 : decode cX7_covered 30 = .ok (.if_icmp .ge 5, 3) := by decide +kernel
theorem dX7_covered_33 : decode cX7_covered 33 = .ok (.fconst 0, 1) := by decide +kernel
theorem dX7_covered_34 : decode cX7_covered 34 = .ok (.freturn, 1) := by decide +kernel
theorem dX7_covered_35 : decode cX7_covered 35 = .ok (.aload_n 0, 1) := by decide +kernel
theorem dX7_covered_36 : decode cX7_covered 36 = .ok (.iload_n 1, 1) := by decide +kernel
theorem dX7_covered_37 : decode cX7_covered 37 = .ok (.invokevirtual 200, 3) := by decide +kernel
theorem dX7_covered_40 : decode cX7_covered 40 = .ok (.istore_n 2, 1) := by decide +kernel
theorem dX7_covered_41 : decode cX7_covered 41 = .ok (.iconst 0, 1) := by decide +kernel
theorem dX7_covered_42 : decode cX7_covered 42 = .ok (.istore_n 3, 1) := by decide +kernel
theorem dX7_covered_43 : decode cX7_covered 43 = .ok (.iconst 0, 1) := by decide +kernel
theorem dX7_covered_44 : decode cX7_covered 44 = .ok (.istore 4, 2) := by decide +kernel
theorem dX7_covered_46 : decode cX7_covered 46 = .ok (.iconst 0, 1) := by decide +kernel
theorem dX7_covered_47 : decode cX7_covered 47 = .ok (.istore 5, 2) := by decide +kernel
theorem dX7_covered_49 : decode cX7_covered 49 = .ok (.iload 5, 2) := by decide +kernel
theorem dX7_covered_51 : decode cX7_covered 51 = .ok (.bipush 32, 2) := by decide +kernel
theorem dX7_covered_53 : decode cX7_covered 53 = .ok (.if_icmp .ge 137, 3) := by decide +kernel
theorem dX7_covered_56 : decode cX7_covered 56 = .ok (.aload_n 0, 1) := by decide +kernel
theorem dX7_covered_57 : decode cX7_covered 57 = .ok (.iload_n 1, 1) := by decide +kernel
theorem dX7_covered_58 : decode cX7_covered 58 = .ok (.iload 5, 2) := by decide +kernel
theorem dX7_covered_60 : decode cX7_covered 60 = .ok (.invokevirtual 137, 3) := by decide +kernel
theorem dX7_covered_63 : decode cX7_covered 63 = .ok (.iconst 0, 1) := by decide +kernel
theorem dX7_covered_64 : decode cX7_covered 64 = .ok (.istore 6, 2) := by decide +kernel
theorem dX7_covered_66 : decode cX7_covered 66 = .ok (.iload 6, 2) := by decide +kernel
theorem dX7_covered_68 : decode cX7_covered 68 = .ok (.bipush 32, 2) := by decide +kernel
theorem dX7_covered_70 : decode cX7_covered 70 = .ok (.if_icmp .ge 114, 3) := by decide +kernel
theorem dX7_covered_73 : decode cX7_covered 73 = .ok (.iconst 0, 1) := by decide +kernel
theorem dX7_covered_74 : decode cX7_covered 74 = .ok (.istore 7, 2) := by decide +kernel
theorem dX7_covered_76 : decode cX7_covered 76 = .ok (.iconst 0, 1) := by decide +kernel
theorem dX7_covered_77 : decode cX7_covered 77 = .ok (.istore 8, 2) := by decide +kernel
theorem dX7_covered_79 : decode cX7_covered 79 = .ok (.iload 8, 2) := by decide +kernel
theorem dX7_covered_81 : decode cX7_covered 81 = .ok (.iconst 1, 1) := by decide +kernel
theorem dX7_covered_82 : decode cX7_covered 82 = .ok (.iadd, 1) := by decide +kernel
theorem dX7_covered_83 : decode cX7_covered 83 = .ok (.aload_n 0, 1) := by decide +kernel
theorem dX7_covered_84 : decode cX7_covered 84 = .ok (.getfield 120, 3) := by decide +kernel
theorem dX7_covered_87 : decode cX7_covered 87 = .ok (.if_icmp .ge 47, 3) := by decide +kernel
theorem dX7_covered_90 : decode cX7_covered 90 = .ok (.iload 7, 2) := by decide +kernel
theorem dX7_covered_92 : decode cX7_covered 92 = .ok (.ifCond .ne 29, 3) := by decide +kernel
theorem dX7_covered_95 : decode cX7_covered 95 = .ok (.aload_n 0, 1) := by decide +kernel
theorem dX7_covered_96 : decode cX7_covered 96 = .ok (.getfield 54, 3) := by decide +kernel
theorem dX7_covered_99 : decode cX7_covered 99 = .ok (.iload 8, 2) := by decide +kernel
theorem dX7_covered_101 : decode cX7_covered 101 = .ok (.iaload, 1) := by decide +kernel
theorem dX7_covered_102 : decode cX7_covered 102 = .ok (.iload 6, 2) := by decide +kernel
theorem dX7_covered_104 : decode cX7_covered 104 = .ok (.if_icmp .gt 21, 3) := by decide +kernel
theorem dX7_covered_107 : decode cX7_covered 107 = .ok (.iload 6, 2) := by decide +kernel
theorem dX7_covered_109 : decode cX7_covered 109 = .ok (.aload_n 0, 1) := by decide +kernel
theorem dX7_covered_110 : decode cX7_covered 110 = .ok (.getfield 54, 3) := by decide +kernel
theorem dX7_covered_113 : decode cX7_covered 113 = .ok (.iload 8, 2) := by decide +kernel
theorem dX7_covered_115 : decode cX7_covered 115 = .ok (.iconst 1, 1) := by decide +kernel
theorem dX7_covered_116 : decode cX7_covered 116 = .ok (.iadd, 1) := by decide +kernel
theorem dX7_covered_117 : decode cX7_covered 117 = .ok (.iaload, 1) := by decide +kernel
theorem dX7_covered_118 : decode cX7_covered 118 = .ok (.if_icmp .gt 7, 3) := by decide +kernel
theorem dX7_covered_121 : decode cX7_covered 121 = .ok (.iconst 1, 1) := by decide +kernel
theorem dX7_covered_122 : decode cX7_covered 122 = .ok (.goto 4, 3) := by decide +kernel
theorem dX7_covered_125 : decode cX7_covered 125 = .ok (.iconst 0, 1) := by decide +kernel
theorem dX7_covered_126 : decode cX7_covered 126 = .ok (.istore 7, 2) := by decide +kernel
theorem dX7_covered_128 : decode cX7_covered 128 = .ok (.iinc 8 2, 3) := by decide +kernel
theorem dX7_covered_131 : decode cX7_covered 131 = .ok (.goto (-52), 3) := by decide +kernel
theorem dX7_covered_134 : decode cX7_covered 134 = .ok (.iload_n 3, 1) := by decide +kernel
theorem dX7_covered_135 : decode cX7_covered 135 = .ok (.iload 7, 2) := by decide +kernel
theorem dX7_covered_137 : decode cX7_covered 137 = .ok (.ifCond .eq 7, 3) := by decide +kernel
theorem dX7_covered_140 : decode cX7_covered 140 = .ok (.iconst 1, 1) := by decide +kernel
theorem dX7_covered_141 : decode cX7_covered 141 = .ok (.goto 4, 3) := by decide +kernel
theorem dX7_covered_144 : decode cX7_covered 144 = .ok (.iconst 0, 1) := by decide +kernel
theorem dX7_covered_145 : decode cX7_covered 145 = .ok (.iadd, 1) := by decide +kernel
theorem dX7_covered_146 : decode cX7_covered 146 = .ok (.istore_n 3, 1) := by decide +kernel
theorem dX7_covered_147 : decode cX7_covered 147 = .ok (.iload 4, 2) := by decide +kernel
theorem dX7_covered_149 : decode cX7_covered 149 = .ok (.iload 7, 2) := by decide +kernel
theorem dX7_covered_151 : decode cX7_covered 151 = .ok (.ifCond .eq 23, 3) := by decide +kernel
theorem dX7_covered_154 : decode cX7_covered 154 = .ok (.iload_n 2, 1) := by decide +kernel
theorem dX7_covered_155 : decode cX7_covered 155 = .ok (.ifCond .le 19, 3) := by decide +kernel
theorem dX7_covered_158 : decode cX7_covered 158 = .ok (.aload_n 0, 1) := by decide +kernel
theorem dX7_covered_159 : decode cX7_covered 159 = .ok (.iload_n 1, 1) := by decide +kernel
theorem dX7_covered_160 : decode cX7_covered 160 = .ok (.iload 6, 2) := by decide +kernel
theorem dX7_covered_162 : decode cX7_covered 162 = .ok (.iload 5, 2) := by decide +kernel
theorem dX7_covered_164 : decode cX7_covered 164 = .ok (.invokevirtual 203, 3) := by decide +kernel
theorem dX7_covered_167 : decode cX7_covered 167 = .ok (.ifCond .eq 7, 3) := by decide +kernel
theorem dX7_covered_170 : decode cX7_covered 170 = .ok (.iconst 1, 1) := by decide +kernel
theorem dX7_covered_171 : decode cX7_covered 171 = .ok (.goto 4, 3) := by decide +kernel
theorem dX7_covered_174 : decode cX7_covered 174 = .ok (.iconst 0, 1) := by decide +kernel
theorem dX7_covered_175 : decode cX7_covered 175 = .ok (.iadd, 1) := by decide +kernel
theorem dX7_covered_176 : decode cX7_covered 176 = .ok (.istore 4, 2) := by decide +kernel
theorem dX7_covered_178 : decode cX7_covered 178 = .ok (.iinc 6 1, 3) := by decide +kernel
theorem dX7_covered_181 : decode cX7_covered 181 = .ok (.goto (-115), 3) := by decide +kernel
theorem dX7_covered_184 : decode cX7_covered 184 = .ok (.iinc 5 1, 3) := by decide +kernel
theorem dX7_covered_187 : decode cX7_covered 187 = .ok (.goto (-138), 3) := by decide +kernel
theorem dX7_covered_190 : decode cX7_covered 190 = .ok (.iload_n 3, 1) := by decide +kernel
theorem dX7_covered_191 : decode cX7_covered 191 = .ok (.ifCond .ne 7, 3) := by decide +kernel
theorem dX7_covered_194 : decode cX7_covered 194 = .ok (.fconst 0, 1) := by decide +kernel
theorem dX7_covered_195 : decode cX7_covered 195 = .ok (.goto 9, 3) := by decide +kernel
theorem dX7_covered_198 : decode cX7_covered 198 = .ok (.iload 4, 2) := by decide +kernel
theorem dX7_covered_200 : decode cX7_covered 200 = .ok (.i2f, 1) := by decide +kernel
theorem dX7_covered_201 : decode cX7_covered 201 = .ok (.iload_n 3, 1) := by decide +kernel
theorem dX7_covered_202 : decode cX7_covered 202 = .ok (.i2f, 1) := by decide +kernel
theorem dX7_covered_203 : decode cX7_covered 203 = .ok (.fdiv, 1) := by decide +kernel
theorem dX7_covered_204 : decode cX7_covered 204 = .ok (.freturn, 1) := by decide +kernel
theorem dX7_touched_0 : decode cX7_touched 0 = .ok (.aload_n 0, 1) := by decide +kernel
theorem dX7_touched_1 : decode cX7_touched 1 = .ok (.aload_n 0, 1) := by decide +kernel
theorem dX7_touched_2 : decode cX7_touched 2 = .ok (.iload_n 1, 1) := by decide +kernel
theorem dX7_touched_3 : decode cX7_touched 3 = .ok (.invokevirtual 113, 3) := by decide +kernel
theorem dX7_touched_6 : decode cX7_touched 6 = .ok (.invokevirtual 101, 3) := by decide +kernel
theorem dX7_touched_9 : decode cX7_touched 9 = .ok (.ifCond .eq 11, 3) := by decide +kernel
theorem dX7_touched_12 : decode cX7_touched 12 = .ok (.aload_n 0, 1) := by decide +kernel
theorem dX7_touched_13 : decode cX7_touched 13 = .ok (.iload_n 1, 1) := by decide +kernel
theorem dX7_touched_14 : decode cX7_touched 14 = .ok (.invokevirtual 200, 3) := by decide +kernel
theorem dX7_touched_17 : decode cX7_touched 17 = .ok (.goto 4, 3) := by decide +kernel
theorem dX7_touched_20 : decode cX7_touched 20 = .ok (.iconst 0, 1) := by decide +kernel
theorem dX7_touched_21 : decode cX7_touched 21 = .ok (.ireturn, 1) := by decide +kernel
theorem dX7_limitOf_0 : decode cX7_limitOf 0 = .ok (.iload_n 0, 1) := by decide +kernel
theorem dX7_limitOf_1 : decode cX7_limitOf 1 = .ok (.ifCond .ne 8, 3) := by decide +kernel
theorem dX7_limitOf_4 : decode cX7_limitOf 4 = .ok (.bipush 12, 2) := by decide +kernel
theorem dX7_limitOf_6 : decode cX7_limitOf 6 = .ok (.goto 5, 3) := by decide +kernel
theorem dX7_limitOf_9 : decode cX7_limitOf 9 = .ok (.bipush 121, 2) := by decide +kernel
theorem dX7_limitOf_11 : decode cX7_limitOf 11 = .ok (.ireturn, 1) := by decide +kernel
theorem dX7_writes_0 : decode cX7_writes 0 = .ok (.aload_n 0, 1) := by decide +kernel
theorem dX7_writes_1 : decode cX7_writes 1 = .ok (.getfield 206, 3) := by decide +kernel
theorem dX7_writes_4 : decode cX7_writes 4 = .ok (.ifCond .ne 49, 3) := by decide +kernel
theorem dX7_writes_7 : decode cX7_writes 7 = .ok (.aload_n 0, 1) := by decide +kernel
theorem dX7_writes_8 : decode cX7_writes 8 = .ok (.getfield 76, 3) := by decide +kernel
theorem dX7_writes_11 : decode cX7_writes 11 = .ok (.aload_n 0, 1) := by decide +kernel
theorem dX7_writes_12 : decode cX7_writes 12 = .ok (.getfield 209, 3) := by decide +kernel
theorem dX7_writes_15 : decode cX7_writes 15 = .ok (.bipush 32, 2) := by decide +kernel
theorem dX7_writes_17 : decode cX7_writes 17 = .ok (.iload_n 1, 1) := by decide +kernel
theorem dX7_writes_18 : decode cX7_writes 18 = .ok (.imul, 1) := by decide +kernel
theorem dX7_writes_19 : decode cX7_writes 19 = .ok (.iload_n 2, 1) := by decide +kernel
theorem dX7_writes_20 : decode cX7_writes 20 = .ok (.iadd, 1) := by decide +kernel
theorem dX7_writes_21 : decode cX7_writes 21 = .ok (.bipush 16, 2) := by decide +kernel
theorem dX7_writes_23 : decode cX7_writes 23 = .ok (.iadd, 1) := by decide +kernel
theorem dX7_writes_24 : decode cX7_writes 24 = .ok (.iastore, 1) := by decide +kernel
theorem dX7_writes_25 : decode cX7_writes 25 = .ok (.aload_n 0, 1) := by decide +kernel
theorem dX7_writes_26 : decode cX7_writes 26 = .ok (.getfield 76, 3) := by decide +kernel
theorem dX7_writes_29 : decode cX7_writes 29 = .ok (.aload_n 0, 1) := by decide +kernel
theorem dX7_writes_30 : decode cX7_writes 30 = .ok (.getfield 209, 3) := by decide +kernel
theorem dX7_writes_33 : decode cX7_writes 33 = .ok (.iconst 1, 1) := by decide +kernel
theorem dX7_writes_34 : decode cX7_writes 34 = .ok (.iadd, 1) := by decide +kernel
theorem dX7_writes_35 : decode cX7_writes 35 = .ok (.iload_n 3, 1) := by decide +kernel
theorem dX7_writes_36 : decode cX7_writes 36 = .ok (.bipush 16, 2) := by decide +kernel
theorem dX7_writes_38 : decode cX7_writes 38 = .ok (.iadd, 1) := by decide +kernel
theorem dX7_writes_39 : decode cX7_writes 39 = .ok (.iastore, 1) := by decide +kernel
theorem dX7_writes_40 : decode cX7_writes 40 = .ok (.aload_n 0, 1) := by decide +kernel
theorem dX7_writes_41 : decode cX7_writes 41 = .ok (.dup, 1) := by decide +kernel
theorem dX7_writes_42 : decode cX7_writes 42 = .ok (.getfield 209, 3) := by decide +kernel
theorem dX7_writes_45 : decode cX7_writes 45 = .ok (.iconst 2, 1) := by decide +kernel
theorem dX7_writes_46 : decode cX7_writes 46 = .ok (.iadd, 1) := by decide +kernel
theorem dX7_writes_47 : decode cX7_writes 47 = .ok (.putfield 209, 3) := by decide +kernel
theorem dX7_writes_50 : decode cX7_writes 50 = .ok (.goto 55, 3) := by decide +kernel
theorem dX7_writes_53 : decode cX7_writes 53 = .ok (.aload_n 0, 1) := by decide +kernel
theorem dX7_writes_54 : decode cX7_writes 54 = .ok (.getfield 76, 3) := by decide +kernel
theorem dX7_writes_57 : decode cX7_writes 57 = .ok (.aload_n 0, 1) := by decide +kernel
theorem dX7_writes_58 : decode cX7_writes 58 = .ok (.getfield 209, 3) := by decide +kernel
theorem dX7_writes_61 : decode cX7_writes 61 = .ok (.iload_n 1, 1) := by decide +kernel
theorem dX7_writes_62 : decode cX7_writes 62 = .ok (.iastore, 1) := by decide +kernel
theorem dX7_writes_63 : decode cX7_writes 63 = .ok (.aload_n 0, 1) := by decide +kernel
theorem dX7_writes_64 : decode cX7_writes 64 = .ok (.getfield 76, 3) := by decide +kernel
theorem dX7_writes_67 : decode cX7_writes 67 = .ok (.aload_n 0, 1) := by decide +kernel
theorem dX7_writes_68 : decode cX7_writes 68 = .ok (.getfield 209, 3) := by decide +kernel
theorem dX7_writes_71 : decode cX7_writes 71 = .ok (.iconst 1, 1) := by decide +kernel
theorem dX7_writes_72 : decode cX7_writes 72 = .ok (.iadd, 1) := by decide +kernel
theorem dX7_writes_73 : decode cX7_writes 73 = .ok (.iload_n 2, 1) := by decide +kernel
theorem dX7_writes_74 : decode cX7_writes 74 = .ok (.sipush 128, 3) := by decide +kernel
theorem dX7_writes_77 : decode cX7_writes 77 = .ok (.iadd, 1) := by decide +kernel
theorem dX7_writes_78 : decode cX7_writes 78 = .ok (.iastore, 1) := by decide +kernel
theorem dX7_writes_79 : decode cX7_writes 79 = .ok (.aload_n 0, 1) := by decide +kernel
theorem dX7_writes_80 : decode cX7_writes 80 = .ok (.getfield 76, 3) := by decide +kernel
theorem dX7_writes_83 : decode cX7_writes 83 = .ok (.aload_n 0, 1) := by decide +kernel
theorem dX7_writes_84 : decode cX7_writes 84 = .ok (.getfield 209, 3) := by decide +kernel
theorem dX7_writes_87 : decode cX7_writes 87 = .ok (.iconst 2, 1) := by decide +kernel
theorem dX7_writes_88 : decode cX7_writes 88 = .ok (.iadd, 1) := by decide +kernel
theorem dX7_writes_89 : decode cX7_writes 89 = .ok (.iload_n 3, 1) := by decide +kernel
theorem dX7_writes_90 : decode cX7_writes 90 = .ok (.sipush 128, 3) := by decide +kernel
theorem dX7_writes_93 : decode cX7_writes 93 = .ok (.iadd, 1) := by decide +kernel
theorem dX7_writes_94 : decode cX7_writes 94 = .ok (.iastore, 1) := by decide +kernel
theorem dX7_writes_95 : decode cX7_writes 95 = .ok (.aload_n 0, 1) := by decide +kernel
theorem dX7_writes_96 : decode cX7_writes 96 = .ok (.dup, 1) := by decide +kernel
theorem dX7_writes_97 : decode cX7_writes 97 = .ok (.getfield 209, 3) := by decide +kernel
theorem dX7_writes_100 : decode cX7_writes 100 = .ok (.iconst 3, 1) := by decide +kernel
theorem dX7_writes_101 : decode cX7_writes 101 = .ok (.iadd, 1) := by decide +kernel
theorem dX7_writes_102 : decode cX7_writes 102 = .ok (.putfield 209, 3) := by decide +kernel
theorem dX7_writes_105 : decode cX7_writes 105 = .ok (.return_, 1) := by decide +kernel
theorem dX7_sumTo_0 : decode cX7_sumTo 0 = .ok (.iconst 0, 1) := by decide +kernel
theorem dX7_sumTo_1 : decode cX7_sumTo 1 = .ok (.istore_n 2, 1) := by decide +kernel
theorem dX7_sumTo_2 : decode cX7_sumTo 2 = .ok (.iconst 0, 1) := by decide +kernel
theorem dX7_sumTo_3 : decode cX7_sumTo 3 = .ok (.istore_n 3, 1) := by decide +kernel
theorem dX7_sumTo_4 : decode cX7_sumTo 4 = .ok (.iload_n 3, 1) := by decide +kernel
theorem dX7_sumTo_5 : decode cX7_sumTo 5 = .ok (.iload_n 1, 1) := by decide +kernel
theorem dX7_sumTo_6 : decode cX7_sumTo 6 = .ok (.if_icmp .ge 18, 3) := by decide +kernel
theorem dX7_sumTo_9 : decode cX7_sumTo 9 = .ok (.iload_n 2, 1) := by decide +kernel
theorem dX7_sumTo_10 : decode cX7_sumTo 10 = .ok (.aload_n 0, 1) := by decide +kernel
theorem dX7_sumTo_11 : decode cX7_sumTo 11 = .ok (.getfield 76, 3) := by decide +kernel
theorem dX7_sumTo_14 : decode cX7_sumTo 14 = .ok (.iload_n 3, 1) := by decide +kernel
theorem dX7_sumTo_15 : decode cX7_sumTo 15 = .ok (.iaload, 1) := by decide +kernel
theorem dX7_sumTo_16 : decode cX7_sumTo 16 = .ok (.iadd, 1) := by decide +kernel
theorem dX7_sumTo_17 : decode cX7_sumTo 17 = .ok (.istore_n 2, 1) := by decide +kernel
theorem dX7_sumTo_18 : decode cX7_sumTo 18 = .ok (.iinc 3 1, 3) := by decide +kernel
theorem dX7_sumTo_21 : decode cX7_sumTo 21 = .ok (.goto (-17), 3) := by decide +kernel
theorem dX7_sumTo_24 : decode cX7_sumTo 24 = .ok (.iload_n 2, 1) := by decide +kernel
theorem dX7_sumTo_25 : decode cX7_sumTo 25 = .ok (.sipush 256, 3) := by decide +kernel
theorem dX7_sumTo_28 : decode cX7_sumTo 28 = .ok (.irem, 1) := by decide +kernel
theorem dX7_sumTo_29 : decode cX7_sumTo 29 = .ok (.ireturn, 1) := by decide +kernel
theorem dX7_write_0 : decode cX7_write 0 = .ok (.aload_n 0, 1) := by decide +kernel
theorem dX7_write_1 : decode cX7_write 1 = .ok (.iload_n 1, 1) := by decide +kernel
theorem dX7_write_2 : decode cX7_write 2 = .ok (.ifCond .eq 8, 3) := by decide +kernel
theorem dX7_write_5 : decode cX7_write 5 = .ok (.iload_n 1, 1) := by decide +kernel
theorem dX7_write_6 : decode cX7_write 6 = .ok (.iconst 1, 1) := by decide +kernel
theorem dX7_write_7 : decode cX7_write 7 = .ok (.if_icmp .ne 7, 3) := by decide +kernel
theorem dX7_write_10 : decode cX7_write 10 = .ok (.iconst 1, 1) := by decide +kernel
theorem dX7_write_11 : decode cX7_write 11 = .ok (.goto 4, 3) := by decide +kernel
theorem dX7_write_14 : decode cX7_write 14 = .ok (.iconst 0, 1) := by decide +kernel
theorem dX7_write_15 : decode cX7_write 15 = .ok (.invokevirtual 101, 3) := by decide +kernel
theorem dX7_write_18 : decode cX7_write 18 = .ok (.ifCond .ne 5, 3) := by decide +kernel
theorem dX7_write_21 : decode cX7_write 21 = .ok (.iconst 0, 1) := by decide +kernel
theorem dX7_write_22 : decode cX7_write 22 = .ok (.ireturn, 1) := by decide +kernel
theorem dX7_write_23 : decode cX7_write 23 = .ok (.aload_n 0, 1) := by decide +kernel
theorem dX7_write_24 : decode cX7_write 24 = .ok (.invokevirtual 182, 3) := by decide +kernel
theorem dX7_write_27 : decode cX7_write 27 = .ok (.aload_n 0, 1) := by decide +kernel
theorem dX7_write_28 : decode cX7_write 28 = .ok (.iload_n 1, 1) := by decide +kernel
theorem dX7_write_29 : decode cX7_write 29 = .ok (.putfield 206, 3) := by decide +kernel
theorem dX7_write_32 : decode cX7_write 32 = .ok (.aload_n 0, 1) := by decide +kernel
theorem dX7_write_33 : decode cX7_write 33 = .ok (.iconst 1, 1) := by decide +kernel
theorem dX7_write_34 : decode cX7_write 34 = .ok (.putfield 212, 3) := by decide +kernel
theorem dX7_write_37 : decode cX7_write 37 = .ok (.aload_n 0, 1) := by decide +kernel
theorem dX7_write_38 : decode cX7_write 38 = .ok (.iconst 0, 1) := by decide +kernel
theorem dX7_write_39 : decode cX7_write 39 = .ok (.putfield 209, 3) := by decide +kernel
theorem dX7_write_42 : decode cX7_write 42 = .ok (.iload_n 1, 1) := by decide +kernel
theorem dX7_write_43 : decode cX7_write 43 = .ok (.invokestatic 215, 3) := by decide +kernel
theorem dX7_write_46 : decode cX7_write 46 = .ok (.istore_n 2, 1) := by decide +kernel
theorem dX7_write_47 : decode cX7_write 47 = .ok (.iconst 0, 1) := by decide +kernel
theorem dX7_write_48 : decode cX7_write 48 = .ok (.istore_n 3, 1) := by decide +kernel
theorem dX7_write_49 : decode cX7_write 49 = .ok (.iload_n 3, 1) := by decide +kernel
theorem dX7_write_50 : decode cX7_write 50 = .ok (.aload_n 0, 1) := by decide +kernel
theorem dX7_write_51 : decode cX7_write 51 = .ok (.getfield 160, 3) := by decide +kernel
theorem dX7_write_54 : decode cX7_write 54 = .ok (.if_icmp .ge 137, 3) := by decide +kernel
theorem dX7_write_57 : decode cX7_write 57 = .ok (.aload_n 0, 1) := by decide +kernel
theorem dX7_write_58 : decode cX7_write 58 = .ok (.getfield 60, 3) := by decide +kernel
theorem dX7_write_61 : decode cX7_write 61 = .ok (.iload_n 3, 1) := by decide +kernel
theorem dX7_write_62 : decode cX7_write 62 = .ok (.iaload, 1) := by decide +kernel
theorem dX7_write_63 : decode cX7_write 63 = .ok (.aload_n 0, 1) := by decide +kernel
theorem dX7_write_64 : decode cX7_write 64 = .ok (.getfield 63, 3) := by decide +kernel
theorem dX7_write_67 : decode cX7_write 67 = .ok (.iload_n 3, 1) := by decide +kernel
theorem dX7_write_68 : decode cX7_write 68 = .ok (.iaload, 1) := by decide +kernel
theorem dX7_write_69 : decode cX7_write 69 = .ok (.iload_n 2, 1) := by decide +kernel
theorem dX7_write_70 : decode cX7_write 70 = .ok (.invokestatic 146, 3) := by decide +kernel
theorem dX7_write_73 : decode cX7_write 73 = .ok (.istore 4, 2) := by decide +kernel
theorem dX7_write_75 : decode cX7_write 75 = .ok (.iload 4, 2) := by decide +kernel
theorem dX7_write_77 : decode cX7_write 77 = .ok (.iconst 1, 1) := by decide +kernel
theorem dX7_write_78 : decode cX7_write 78 = .ok (.if_icmp .ge 7, 3) := by decide +kernel
theorem dX7_write_81 : decode cX7_write 81 = .ok (.iconst 1, 1) := by decide +kernel
theorem dX7_write_82 : decode cX7_write 82 = .ok (.goto 5, 3) := by decide +kernel
theorem dX7_write_85 : decode cX7_write 85 = .ok (.iload 4, 2) := by decide +kernel
theorem dX7_write_87 : decode cX7_write 87 = .ok (.istore 4, 2) := by decide +kernel
theorem dX7_write_89 : decode cX7_write 89 = .ok (.iconst 1, 1) := by decide +kernel
theorem dX7_write_90 : decode cX7_write 90 = .ok (.istore 5, 2) := by decide +kernel
theorem dX7_write_92 : decode cX7_write 92 = .ok (.iload 5, 2) := by decide +kernel
theorem dX7_write_94 : decode cX7_write 94 = .ok (.iload 4, 2) := by decide +kernel
theorem dX7_write_96 : decode cX7_write 96 = .ok (.if_icmp .gt 89, 3) := by decide +kernel
theorem dX7_write_99 : decode cX7_write 99 = .ok (.aload_n 0, 1) := by decide +kernel
theorem dX7_write_100 : decode cX7_write 100 = .ok (.getfield 60, 3) := by decide +kernel
theorem dX7_write_103 : decode cX7_write 103 = .ok (.iload_n 3, 1) := by decide +kernel
theorem dX7_write_104 : decode cX7_write 104 = .ok (.iaload, 1) := by decide +kernel
theorem dX7_write_105 : decode cX7_write 105 = .ok (.iload 5, 2) := by decide +kernel
theorem dX7_write_107 : decode cX7_write 107 = .ok (.imul, 1) := by decide +kernel
theorem dX7_write_108 : decode cX7_write 108 = .ok (.iload 4, 2) := by decide +kernel
theorem dX7_write_110 : decode cX7_write 110 = .ok (.invokestatic 123, 3) := by decide +kernel
theorem dX7_write_113 : decode cX7_write 113 = .ok (.aload_n 0, 1) := by decide +kernel
theorem dX7_write_114 : decode cX7_write 114 = .ok (.getfield 60, 3) := by decide +kernel
theorem dX7_write_117 : decode cX7_write 117 = .ok (.iload_n 3, 1) := by decide +kernel
theorem dX7_write_118 : decode cX7_write 118 = .ok (.iaload, 1) := by decide +kernel
theorem dX7_write_119 : decode cX7_write 119 = .ok (.iload 5, 2) := by decide +kernel
theorem dX7_write_121 : decode cX7_write 121 = .ok (.iconst 1, 1) := by decide +kernel
theorem dX7_write_122 : decode cX7_write 122 = .ok (.isub, 1) := by decide +kernel
theorem dX7_write_123 : decode cX7_write 123 = .ok (.imul, 1) := by decide +kernel
theorem dX7_write_124 : decode cX7_write 124 = .ok (.iload 4, 2) := by decide +kernel
theorem dX7_write_126 : decode cX7_write 126 = .ok (.invokestatic 123, 3) := by decide +kernel
theorem dX7_write_129 : decode cX7_write 129 = .ok (.isub, 1) := by decide +kernel
theorem dX7_write_130 : decode cX7_write 130 = .ok (.istore 6, 2) := by decide +kernel
theorem dX7_write_132 : decode cX7_write 132 = .ok (.aload_n 0, 1) := by decide +kernel
theorem dX7_write_133 : decode cX7_write 133 = .ok (.getfield 63, 3) := by decide +kernel
theorem dX7_write_136 : decode cX7_write 136 = .ok (.iload_n 3, 1) := by decide +kernel
theorem dX7_write_137 : decode cX7_write 137 = .ok (.iaload, 1) := by decide +kernel
theorem dX7_write_138 : decode cX7_write 138 = .ok (.iload 5, 2) := by decide +kernel
theorem dX7_write_140 : decode cX7_write 140 = .ok (.imul, 1) := by decide +kernel
theorem dX7_write_141 : decode cX7_write 141 = .ok (.iload 4, 2) := by decide +kernel
theorem dX7_write_143 : decode cX7_write 143 = .ok (.invokestatic 123, 3) := by decide +kernel
theorem dX7_write_146 : decode cX7_write 146 = .ok (.aload_n 0, 1) := by decide +kernel
theorem dX7_write_147 : decode cX7_write 147 = .ok (.getfield 63, 3) := by decide +kernel
theorem dX7_write_150 : decode cX7_write 150 = .ok (.iload_n 3, 1) := by decide +kernel
theorem dX7_write_151 : decode cX7_write 151 = .ok (.iaload, 1) := by decide +kernel
theorem dX7_write_152 : decode cX7_write 152 = .ok (.iload 5, 2) := by decide +kernel
theorem dX7_write_154 : decode cX7_write 154 = .ok (.iconst 1, 1) := by decide +kernel
theorem dX7_write_155 : decode cX7_write 155 = .ok (.isub, 1) := by decide +kernel
theorem dX7_write_156 : decode cX7_write 156 = .ok (.imul, 1) := by decide +kernel
theorem dX7_write_157 : decode cX7_write 157 = .ok (.iload 4, 2) := by decide +kernel
theorem dX7_write_159 : decode cX7_write 159 = .ok (.invokestatic 123, 3) := by decide +kernel
theorem dX7_write_162 : decode cX7_write 162 = .ok (.isub, 1) := by decide +kernel
theorem dX7_write_163 : decode cX7_write 163 = .ok (.istore 7, 2) := by decide +kernel
theorem dX7_write_165 : decode cX7_write 165 = .ok (.aload_n 0, 1) := by decide +kernel
theorem dX7_write_166 : decode cX7_write 166 = .ok (.aload_n 0, 1) := by decide +kernel
theorem dX7_write_167 : decode cX7_write 167 = .ok (.getfield 57, 3) := by decide +kernel
theorem dX7_write_170 : decode cX7_write 170 = .ok (.iload_n 3, 1) := by decide +kernel
theorem dX7_write_171 : decode cX7_write 171 = .ok (.iaload, 1) := by decide +kernel
theorem dX7_write_172 : decode cX7_write 172 = .ok (.iload 6, 2) := by decide +kernel
theorem dX7_write_174 : decode cX7_write 174 = .ok (.iload 7, 2) := by decide +kernel
theorem dX7_write_176 : decode cX7_write 176 = .ok (.invokevirtual 218, 3) := by decide +kernel
theorem dX7_write_179 : decode cX7_write 179 = .ok (.iinc 5 1, 3) := by decide +kernel
theorem dX7_write_182 : decode cX7_write 182 = .ok (.goto (-90), 3) := by decide +kernel
theorem dX7_write_185 : decode cX7_write 185 = .ok (.iinc 3 1, 3) := by decide +kernel
theorem dX7_write_188 : decode cX7_write 188 = .ok (.goto (-139), 3) := by decide +kernel
theorem dX7_write_191 : decode cX7_write 191 = .ok (.aload_n 0, 1) := by decide +kernel
theorem dX7_write_192 : decode cX7_write 192 = .ok (.getfield 76, 3) := by decide +kernel
theorem dX7_write_195 : decode cX7_write 195 = .ok (.aload_n 0, 1) := by decide +kernel
theorem dX7_write_196 : decode cX7_write 196 = .ok (.getfield 209, 3) := by decide +kernel
theorem dX7_write_199 : decode cX7_write 199 = .ok (.aload_n 0, 1) := by decide +kernel
theorem dX7_write_200 : decode cX7_write 200 = .ok (.aload_n 0, 1) := by decide +kernel
theorem dX7_write_201 : decode cX7_write 201 = .ok (.getfield 209, 3) := by decide +kernel
theorem dX7_write_204 : decode cX7_write 204 = .ok (.invokevirtual 222, 3) := by decide +kernel
theorem dX7_write_207 : decode cX7_write 207 = .ok (.iastore, 1) := by decide +kernel
theorem dX7_write_208 : decode cX7_write 208 = .ok (.aload_n 0, 1) := by decide +kernel
theorem dX7_write_209 : decode cX7_write 209 = .ok (.dup, 1) := by decide +kernel
theorem dX7_write_210 : decode cX7_write 210 = .ok (.getfield 209, 3) := by decide +kernel
theorem dX7_write_213 : decode cX7_write 213 = .ok (.iconst 1, 1) := by decide +kernel
theorem dX7_write_214 : decode cX7_write 214 = .ok (.iadd, 1) := by decide +kernel
theorem dX7_write_215 : decode cX7_write 215 = .ok (.putfield 209, 3) := by decide +kernel
theorem dX7_write_218 : decode cX7_write 218 = .ok (.aload_n 0, 1) := by decide +kernel
theorem dX7_write_219 : decode cX7_write 219 = .ok (.getfield 209, 3) := by decide +kernel
theorem dX7_write_222 : decode cX7_write 222 = .ok (.ireturn, 1) := by decide +kernel
theorem dX7_byteAt_0 : decode cX7_byteAt 0 = .ok (.aload_n 0, 1) := by decide +kernel
theorem dX7_byteAt_1 : decode cX7_byteAt 1 = .ok (.iload_n 1, 1) := by decide +kernel
theorem dX7_byteAt_2 : decode cX7_byteAt 2 = .ok (.iconst 0, 1) := by decide +kernel
theorem dX7_byteAt_3 : decode cX7_byteAt 3 = .ok (.aload_n 0, 1) := by decide +kernel
theorem dX7_byteAt_4 : decode cX7_byteAt 4 = .ok (.getfield 209, 3) := by decide +kernel
theorem dX7_byteAt_7 : decode cX7_byteAt 7 = .ok (.iconst 1, 1) := by decide +kernel
theorem dX7_byteAt_8 : decode cX7_byteAt 8 = .ok (.isub, 1) := by decide +kernel
theorem dX7_byteAt_9 : decode cX7_byteAt 9 = .ok (.invokestatic 97, 3) := by decide +kernel
theorem dX7_byteAt_12 : decode cX7_byteAt 12 = .ok (.invokevirtual 101, 3) := by decide +kernel
theorem dX7_byteAt_15 : decode cX7_byteAt 15 = .ok (.ifCond .eq 12, 3) := by decide +kernel
theorem dX7_byteAt_18 : decode cX7_byteAt 18 = .ok (.aload_n 0, 1) := by decide +kernel
theorem dX7_byteAt_19 : decode cX7_byteAt 19 = .ok (.getfield 76, 3) := by decide +kernel
theorem dX7_byteAt_22 : decode cX7_byteAt 22 = .ok (.iload_n 1, 1) := by decide +kernel
theorem dX7_byteAt_23 : decode cX7_byteAt 23 = .ok (.iaload, 1) := by decide +kernel
theorem dX7_byteAt_24 : decode cX7_byteAt 24 = .ok (.goto 4, 3) := by decide +kernel
theorem dX7_byteAt_27 : decode cX7_byteAt 27 = .ok (.iconst 0, 1) := by decide +kernel
theorem dX7_byteAt_28 : decode cX7_byteAt 28 = .ok (.ireturn, 1) := by decide +kernel
theorem dX7_damage_0 : decode cX7_damage 0 = .ok (.aload_n 0, 1) := by decide +kernel
theorem dX7_damage_1 : decode cX7_damage 1 = .ok (.iload_n 1, 1) := by decide +kernel
theorem dX7_damage_2 : decode cX7_damage 2 = .ok (.iconst 0, 1) := by decide +kernel
theorem dX7_damage_3 : decode cX7_damage 3 = .ok (.aload_n 0, 1) := by decide +kernel
theorem dX7_damage_4 : decode cX7_damage 4 = .ok (.getfield 209, 3) := by decide +kernel
theorem dX7_damage_7 : decode cX7_damage 7 = .ok (.iconst 1, 1) := by decide +kernel
theorem dX7_damage_8 : decode cX7_damage 8 = .ok (.isub, 1) := by decide +kernel
theorem dX7_damage_9 : decode cX7_damage 9 = .ok (.invokestatic 97, 3) := by decide +kernel
theorem dX7_damage_12 : decode cX7_damage 12 = .ok (.invokevirtual 101, 3) := by decide +kernel
theorem dX7_damage_15 : decode cX7_damage 15 = .ok (.ifCond .ne 5, 3) := by decide +kernel
theorem dX7_damage_18 : decode cX7_damage 18 = .ok (.iconst 0, 1) := by decide +kernel
theorem dX7_damage_19 : decode cX7_damage 19 = .ok (.ireturn, 1) := by decide +kernel
theorem dX7_damage_20 : decode cX7_damage 20 = .ok (.iload_n 2, 1) := by decide +kernel
theorem dX7_damage_21 : decode cX7_damage 21 = .ok (.iconst 0, 1) := by decide +kernel
theorem dX7_damage_22 : decode cX7_damage 22 = .ok (.sipush 255, 3) := by decide +kernel
theorem dX7_damage_25 : decode cX7_damage 25 = .ok (.invokestatic 97, 3) := by decide +kernel
theorem dX7_damage_28 : decode cX7_damage 28 = .ok (.ifCond .ne 9, 3) := by decide +kernel
theorem dX7_damage_31 : decode cX7_damage 31 = .ok (.aload_n 0, 1) := by decide +kernel
theorem dX7_damage_32 : decode cX7_damage 32 = .ok (.iconst 2, 1) := by decide +kernel
theorem dX7_damage_33 : decode cX7_damage 33 = .ok (.invokevirtual 105, 3) := by decide +kernel
theorem dX7_damage_36 : decode cX7_damage 36 = .ok (.ireturn, 1) := by decide +kernel
theorem dX7_damage_37 : decode cX7_damage 37 = .ok (.aload_n 0, 1) := by decide +kernel
theorem dX7_damage_38 : decode cX7_damage 38 = .ok (.getfield 76, 3) := by decide +kernel
theorem dX7_damage_41 : decode cX7_damage 41 = .ok (.iload_n 1, 1) := by decide +kernel
theorem dX7_damage_42 : decode cX7_damage 42 = .ok (.iaload, 1) := by decide +kernel
theorem dX7_damage_43 : decode cX7_damage 43 = .ok (.istore_n 3, 1) := by decide +kernel
theorem dX7_damage_44 : decode cX7_damage 44 = .ok (.aload_n 0, 1) := by decide +kernel
theorem dX7_damage_45 : decode cX7_damage 45 = .ok (.getfield 76, 3) := by decide +kernel
theorem dX7_damage_48 : decode cX7_damage 48 = .ok (.iload_n 1, 1) := by decide +kernel
theorem dX7_damage_49 : decode cX7_damage 49 = .ok (.iload_n 2, 1) := by decide +kernel
theorem dX7_damage_50 : decode cX7_damage 50 = .ok (.iastore, 1) := by decide +kernel
theorem dX7_damage_51 : decode cX7_damage 51 = .ok (.iload_n 3, 1) := by decide +kernel
theorem dX7_damage_52 : decode cX7_damage 52 = .ok (.ireturn, 1) := by decide +kernel
theorem dX7_shorten_0 : decode cX7_shorten 0 = .ok (.aload_n 0, 1) := by decide +kernel
theorem dX7_shorten_1 : decode cX7_shorten 1 = .ok (.iload_n 1, 1) := by decide +kernel
theorem dX7_shorten_2 : decode cX7_shorten 2 = .ok (.iconst 0, 1) := by decide +kernel
theorem dX7_shorten_3 : decode cX7_shorten 3 = .ok (.aload_n 0, 1) := by decide +kernel
theorem dX7_shorten_4 : decode cX7_shorten 4 = .ok (.getfield 209, 3) := by decide +kernel
theorem dX7_shorten_7 : decode cX7_shorten 7 = .ok (.invokestatic 97, 3) := by decide +kernel
theorem dX7_shorten_10 : decode cX7_shorten 10 = .ok (.invokevirtual 101, 3) := by decide +kernel
theorem dX7_shorten_13 : decode cX7_shorten 13 = .ok (.ifCond .ne 5, 3) := by decide +kernel
theorem dX7_shorten_16 : decode cX7_shorten 16 = .ok (.iconst 0, 1) := by decide +kernel
theorem dX7_shorten_17 : decode cX7_shorten 17 = .ok (.ireturn, 1) := by decide +kernel
theorem dX7_shorten_18 : decode cX7_shorten 18 = .ok (.aload_n 0, 1) := by decide +kernel
theorem dX7_shorten_19 : decode cX7_shorten 19 = .ok (.getfield 209, 3) := by decide +kernel
theorem dX7_shorten_22 : decode cX7_shorten 22 = .ok (.istore_n 2, 1) := by decide +kernel
theorem dX7_shorten_23 : decode cX7_shorten 23 = .ok (.aload_n 0, 1) := by decide +kernel
theorem dX7_shorten_24 : decode cX7_shorten 24 = .ok (.iload_n 1, 1) := by decide +kernel
theorem dX7_shorten_25 : decode cX7_shorten 25 = .ok (.putfield 209, 3) := by decide +kernel
theorem dX7_shorten_28 : decode cX7_shorten 28 = .ok (.iload_n 2, 1) := by decide +kernel
theorem dX7_shorten_29 : decode cX7_shorten 29 = .ok (.ireturn, 1) := by decide +kernel
theorem dX7_isBad_0 : decode cX7_isBad 0 = .ok (.iload_n 0, 1) := by decide +kernel
theorem dX7_isBad_1 : decode cX7_isBad 1 = .ok (.iconst 1, 1) := by decide +kernel
theorem dX7_isBad_2 : decode cX7_isBad 2 = .ok (.if_icmp .le 15, 3) := by decide +kernel
theorem dX7_isBad_5 : decode cX7_isBad 5 = .ok (.iload_n 1, 1) := by decide +kernel
theorem dX7_isBad_6 : decode cX7_isBad 6 = .ok (.ifCond .eq 7, 3) := by decide +kernel
theorem dX7_isBad_9 : decode cX7_isBad 9 = .ok (.iconst 1, 1) := by decide +kernel
theorem dX7_isBad_10 : decode cX7_isBad 10 = .ok (.goto 22, 3) := by decide +kernel
theorem dX7_isBad_13 : decode cX7_isBad 13 = .ok (.iconst 0, 1) := by decide +kernel
theorem dX7_isBad_14 : decode cX7_isBad 14 = .ok (.goto 18, 3) := by decide +kernel
theorem dX7_isBad_17 : decode cX7_isBad 17 = .ok (.iload_n 1, 1) := by decide +kernel
theorem dX7_isBad_18 : decode cX7_isBad 18 = .ok (.iload_n 2, 1) := by decide +kernel
theorem dX7_isBad_19 : decode cX7_isBad 19 = .ok (.ineg, 1) := by decide +kernel
theorem dX7_isBad_20 : decode cX7_isBad 20 = .ok (.iload_n 2, 1) := by decide +kernel
theorem dX7_isBad_21 : decode cX7_isBad 21 = .ok (.invokestatic 97, 3) := by decide +kernel
theorem dX7_isBad_24 : decode cX7_isBad 24 = .ok (.ifCond .ne 7, 3) := by decide +kernel
theorem dX7_isBad_27 : decode cX7_isBad 27 = .ok (.iconst 1, 1) := by decide +kernel
theorem dX7_isBad_28 : decode cX7_isBad 28 = .ok (.goto 4, 3) := by decide +kernel
theorem dX7_isBad_31 : decode cX7_isBad 31 = .ok (.iconst 0, 1) := by decide +kernel
theorem dX7_isBad_32 : decode cX7_isBad 32 = .ok (.ireturn, 1) := by decide +kernel
theorem dX7_faultAt_0 : decode cX7_faultAt 0 = .ok (.aload_n 0, 1) := by decide +kernel
theorem dX7_faultAt_1 : decode cX7_faultAt 1 = .ok (.getfield 206, 3) := by decide +kernel
theorem dX7_faultAt_4 : decode cX7_faultAt 4 = .ok (.invokestatic 215, 3) := by decide +kernel
theorem dX7_faultAt_7 : decode cX7_faultAt 7 = .ok (.istore_n 2, 1) := by decide +kernel
theorem dX7_faultAt_8 : decode cX7_faultAt 8 = .ok (.iload_n 1, 1) := by decide +kernel
theorem dX7_faultAt_9 : decode cX7_faultAt 9 = .ok (.aload_n 0, 1) := by decide +kernel
theorem dX7_faultAt_10 : decode cX7_faultAt 10 = .ok (.getfield 209, 3) := by decide +kernel
theorem dX7_faultAt_13 : decode cX7_faultAt 13 = .ok (.if_icmp .lt 8, 3) := by decide +kernel
theorem dX7_faultAt_16 : decode cX7_faultAt 16 = .ok (.aload_n 0, 1) := by decide +kernel
theorem dX7_faultAt_17 : decode cX7_faultAt 17 = .ok (.getfield 209, 3) := by decide +kernel
theorem dX7_faultAt_20 : decode cX7_faultAt 20 = .ok (.ireturn, 1) := by decide +kernel
theorem dX7_faultAt_21 : decode cX7_faultAt 21 = .ok (.aload_n 0, 1) := by decide +kernel
theorem dX7_faultAt_22 : decode cX7_faultAt 22 = .ok (.getfield 206, 3) := by decide +kernel
theorem dX7_faultAt_25 : decode cX7_faultAt 25 = .ok (.ifCond .ne 15, 3) := by decide +kernel
theorem dX7_faultAt_28 : decode cX7_faultAt 28 = .ok (.aload_n 0, 1) := by decide +kernel
theorem dX7_faultAt_29 : decode cX7_faultAt 29 = .ok (.getfield 76, 3) := by decide +kernel
theorem dX7_faultAt_32 : decode cX7_faultAt 32 = .ok (.iload_n 1, 1) := by decide +kernel
theorem dX7_faultAt_33 : decode cX7_faultAt 33 = .ok (.iaload, 1) := by decide +kernel
theorem dX7_faultAt_34 : decode cX7_faultAt 34 = .ok (.bipush 32, 2) := by decide +kernel
theorem dX7_faultAt_36 : decode cX7_faultAt 36 = .ok (.idiv, 1) := by decide +kernel
theorem dX7_faultAt_37 : decode cX7_faultAt 37 = .ok (.goto 9, 3) := by decide +kernel
theorem dX7_faultAt_40 : decode cX7_faultAt 40 = .ok (.aload_n 0, 1) := by decide +kernel
theorem dX7_faultAt_41 : decode cX7_faultAt 41 = .ok (.getfield 76, 3) := by decide +kernel
theorem dX7_faultAt_44 : decode cX7_faultAt 44 = .ok (.iload_n 1, 1) := by decide +kernel
theorem dX7_faultAt_45 : decode cX7_faultAt 45 = .ok (.iaload, 1) := by decide +kernel
theorem dX7_faultAt_46 : decode cX7_faultAt 46 = .ok (.istore_n 3, 1) := by decide +kernel
theorem dX7_faultAt_47 : decode cX7_faultAt 47 = .ok (.iload_n 3, 1) := by decide +kernel
theorem dX7_faultAt_48 : decode cX7_faultAt 48 = .ok (.iconst 4, 1) := by decide +kernel
theorem dX7_faultAt_49 : decode cX7_faultAt 49 = .ok (.if_icmp .le 5, 3) := by decide +kernel
theorem dX7_faultAt_52 : decode cX7_faultAt 52 = .ok (.iload_n 1, 1) := by decide +kernel
theorem dX7_faultAt_53 : decode cX7_faultAt 53 = .ok (.ireturn, 1) := by decide +kernel
theorem dX7_faultAt_54 : decode cX7_faultAt 54 = .ok (.aload_n 0, 1) := by decide +kernel
theorem dX7_faultAt_55 : decode cX7_faultAt 55 = .ok (.getfield 206, 3) := by decide +kernel
theorem dX7_faultAt_58 : decode cX7_faultAt 58 = .ok (.ifCond .ne 7, 3) := by decide +kernel
theorem dX7_faultAt_61 : decode cX7_faultAt 61 = .ok (.iload_n 1, 1) := by decide +kernel
theorem dX7_faultAt_62 : decode cX7_faultAt 62 = .ok (.goto 6, 3) := by decide +kernel
theorem dX7_faultAt_65 : decode cX7_faultAt 65 = .ok (.iload_n 1, 1) := by decide +kernel
theorem dX7_faultAt_66 : decode cX7_faultAt 66 = .ok (.iconst 1, 1) := by decide +kernel
theorem dX7_faultAt_67 : decode cX7_faultAt 67 = .ok (.iadd, 1) := by decide +kernel
theorem dX7_faultAt_68 : decode cX7_faultAt 68 = .ok (.istore 4, 2) := by decide +kernel
theorem dX7_faultAt_70 : decode cX7_faultAt 70 = .ok (.iload 4, 2) := by decide +kernel
theorem dX7_faultAt_72 : decode cX7_faultAt 72 = .ok (.aload_n 0, 1) := by decide +kernel
theorem dX7_faultAt_73 : decode cX7_faultAt 73 = .ok (.getfield 209, 3) := by decide +kernel
theorem dX7_faultAt_76 : decode cX7_faultAt 76 = .ok (.if_icmp .lt 8, 3) := by decide +kernel
theorem dX7_faultAt_79 : decode cX7_faultAt 79 = .ok (.aload_n 0, 1) := by decide +kernel
theorem dX7_faultAt_80 : decode cX7_faultAt 80 = .ok (.getfield 209, 3) := by decide +kernel
theorem dX7_faultAt_83 : decode cX7_faultAt 83 = .ok (.ireturn, 1) := by decide +kernel
theorem dX7_faultAt_84 : decode cX7_faultAt 84 = .ok (.aload_n 0, 1) := by decide +kernel
theorem dX7_faultAt_85 : decode cX7_faultAt 85 = .ok (.getfield 206, 3) := by decide +kernel
theorem dX7_faultAt_88 : decode cX7_faultAt 88 = .ok (.ifCond .ne 18, 3) := by decide +kernel
theorem dX7_faultAt_91 : decode cX7_faultAt 91 = .ok (.aload_n 0, 1) := by decide +kernel
theorem dX7_faultAt_92 : decode cX7_faultAt 92 = .ok (.getfield 76, 3) := by decide +kernel
theorem dX7_faultAt_95 : decode cX7_faultAt 95 = .ok (.iload_n 1, 1) := by decide +kernel
theorem dX7_faultAt_96 : decode cX7_faultAt 96 = .ok (.iaload, 1) := by decide +kernel
theorem dX7_faultAt_97 : decode cX7_faultAt 97 = .ok (.bipush 32, 2) := by decide +kernel
theorem dX7_faultAt_99 : decode cX7_faultAt 99 = .ok (.irem, 1) := by decide +kernel
theorem dX7_faultAt_100 : decode cX7_faultAt 100 = .ok (.bipush 16, 2) := by decide +kernel
theorem dX7_faultAt_102 : decode cX7_faultAt 102 = .ok (.isub, 1) := by decide +kernel
theorem dX7_faultAt_103 : decode cX7_faultAt 103 = .ok (.goto 14, 3) := by decide +kernel
theorem dX7_faultAt_106 : decode cX7_faultAt 106 = .ok (.aload_n 0, 1) := by decide +kernel
theorem dX7_faultAt_107 : decode cX7_faultAt 107 = .ok (.getfield 76, 3) := by decide +kernel
theorem dX7_faultAt_110 : decode cX7_faultAt 110 = .ok (.iload 4, 2) := by decide +kernel
theorem dX7_faultAt_112 : decode cX7_faultAt 112 = .ok (.iaload, 1) := by decide +kernel
theorem dX7_faultAt_113 : decode cX7_faultAt 113 = .ok (.sipush 128, 3) := by decide +kernel
theorem dX7_faultAt_116 : decode cX7_faultAt 116 = .ok (.isub, 1) := by decide +kernel
theorem dX7_faultAt_117 : decode cX7_faultAt 117 = .ok (.istore 5, 2) := by decide +kernel
theorem dX7_faultAt_119 : decode cX7_faultAt 119 = .ok (.iload_n 3, 1) := by decide +kernel
theorem dX7_faultAt_120 : decode cX7_faultAt 120 = .ok (.iload 5, 2) := by decide +kernel
theorem dX7_faultAt_122 : decode cX7_faultAt 122 = .ok (.iload_n 2, 1) := by decide +kernel
theorem dX7_faultAt_123 : decode cX7_faultAt 123 = .ok (.invokestatic 225, 3) := by decide +kernel
theorem dX7_faultAt_126 : decode cX7_faultAt 126 = .ok (.ifCond .eq 6, 3) := by decide +kernel
theorem dX7_faultAt_129 : decode cX7_faultAt 129 = .ok (.iload 4, 2) := by decide +kernel
theorem dX7_faultAt_131 : decode cX7_faultAt 131 = .ok (.ireturn, 1) := by decide +kernel
theorem dX7_faultAt_132 : decode cX7_faultAt 132 = .ok (.iload 4, 2) := by decide +kernel
theorem dX7_faultAt_134 : decode cX7_faultAt 134 = .ok (.iconst 1, 1) := by decide +kernel
theorem dX7_faultAt_135 : decode cX7_faultAt 135 = .ok (.iadd, 1) := by decide +kernel
theorem dX7_faultAt_136 : decode cX7_faultAt 136 = .ok (.aload_n 0, 1) := by decide +kernel
theorem dX7_faultAt_137 : decode cX7_faultAt 137 = .ok (.getfield 209, 3) := by decide +kernel
theorem dX7_faultAt_140 : decode cX7_faultAt 140 = .ok (.if_icmp .lt 8, 3) := by decide +kernel
theorem dX7_faultAt_143 : decode cX7_faultAt 143 = .ok (.aload_n 0, 1) := by decide +kernel
theorem dX7_faultAt_144 : decode cX7_faultAt 144 = .ok (.getfield 209, 3) := by decide +kernel
theorem dX7_faultAt_147 : decode cX7_faultAt 147 = .ok (.ireturn, 1) := by decide +kernel
theorem dX7_faultAt_148 : decode cX7_faultAt 148 = .ok (.aload_n 0, 1) := by decide +kernel
theorem dX7_faultAt_149 : decode cX7_faultAt 149 = .ok (.getfield 76, 3) := by decide +kernel
theorem dX7_faultAt_152 : decode cX7_faultAt 152 = .ok (.iload 4, 2) := by decide +kernel
theorem dX7_faultAt_154 : decode cX7_faultAt 154 = .ok (.iconst 1, 1) := by decide +kernel
theorem dX7_faultAt_155 : decode cX7_faultAt 155 = .ok (.iadd, 1) := by decide +kernel
theorem dX7_faultAt_156 : decode cX7_faultAt 156 = .ok (.iaload, 1) := by decide +kernel
theorem dX7_faultAt_157 : decode cX7_faultAt 157 = .ok (.aload_n 0, 1) := by decide +kernel
theorem dX7_faultAt_158 : decode cX7_faultAt 158 = .ok (.getfield 206, 3) := by decide +kernel
theorem dX7_faultAt_161 : decode cX7_faultAt 161 = .ok (.ifCond .ne 8, 3) := by decide +kernel
theorem dX7_faultAt_164 : decode cX7_faultAt 164 = .ok (.bipush 16, 2) := by decide +kernel
theorem dX7_faultAt_166 : decode cX7_faultAt 166 = .ok (.goto 6, 3) := by decide +kernel
theorem dX7_faultAt_169 : decode cX7_faultAt 169 = .ok (.sipush 128, 3) := by decide +kernel
theorem dX7_faultAt_172 : decode cX7_faultAt 172 = .ok (.isub, 1) := by decide +kernel
theorem dX7_faultAt_173 : decode cX7_faultAt 173 = .ok (.istore 6, 2) := by decide +kernel
theorem dX7_faultAt_175 : decode cX7_faultAt 175 = .ok (.iload_n 3, 1) := by decide +kernel
theorem dX7_faultAt_176 : decode cX7_faultAt 176 = .ok (.iload 6, 2) := by decide +kernel
theorem dX7_faultAt_178 : decode cX7_faultAt 178 = .ok (.iload_n 2, 1) := by decide +kernel
theorem dX7_faultAt_179 : decode cX7_faultAt 179 = .ok (.invokestatic 225, 3) := by decide +kernel
theorem dX7_faultAt_182 : decode cX7_faultAt 182 = .ok (.ifCond .eq 10, 3) := by decide +kernel
theorem dX7_faultAt_185 : decode cX7_faultAt 185 = .ok (.iload 4, 2) := by decide +kernel
theorem dX7_faultAt_187 : decode cX7_faultAt 187 = .ok (.iconst 1, 1) := by decide +kernel
theorem dX7_faultAt_188 : decode cX7_faultAt 188 = .ok (.iadd, 1) := by decide +kernel
theorem dX7_faultAt_189 : decode cX7_faultAt 189 = .ok (.goto 4, 3) := by decide +kernel
theorem dX7_faultAt_192 : decode cX7_faultAt 192 = .ok (.iconst (-1), 1) := by decide +kernel
theorem dX7_faultAt_193 : decode cX7_faultAt 193 = .ok (.ireturn, 1) := by decide +kernel
theorem dX7_reading_0 : decode cX7_reading 0 = .ok (.aload_n 0, 1) := by decide +kernel
theorem dX7_reading_1 : decode cX7_reading 1 = .ok (.iconst 0, 1) := by decide +kernel
theorem dX7_reading_2 : decode cX7_reading 2 = .ok (.putfield 228, 3) := by decide +kernel
theorem dX7_reading_5 : decode cX7_reading 5 = .ok (.aload_n 0, 1) := by decide +kernel
theorem dX7_reading_6 : decode cX7_reading 6 = .ok (.getfield 212, 3) := by decide +kernel
theorem dX7_reading_9 : decode cX7_reading 9 = .ok (.ifCond .ne 5, 3) := by decide +kernel
theorem dX7_reading_12 : decode cX7_reading 12 = .ok (.iconst 0, 1) := by decide +kernel
theorem dX7_reading_13 : decode cX7_reading 13 = .ok (.ireturn, 1) := by decide +kernel
theorem dX7_reading_14 : decode cX7_reading 14 = .ok (.aload_n 0, 1) := by decide +kernel
theorem dX7_reading_15 : decode cX7_reading 15 = .ok (.getfield 206, 3) := by decide +kernel
theorem dX7_reading_18 : decode cX7_reading 18 = .ok (.ifCond .ne 7, 3) := by decide +kernel
theorem dX7_reading_21 : decode cX7_reading 21 = .ok (.iconst 2, 1) := by decide +kernel
theorem dX7_reading_22 : decode cX7_reading 22 = .ok (.goto 4, 3) := by decide +kernel
theorem dX7_reading_25 : decode cX7_reading 25 = .ok (.iconst 3, 1) := by decide +kernel
theorem dX7_reading_26 : decode cX7_reading 26 = .ok (.istore_n 1, 1) := by decide +kernel
theorem dX7_reading_27 : decode cX7_reading 27 = .ok (.iconst 0, 1) := by decide +kernel
theorem dX7_reading_28 : decode cX7_reading 28 = .ok (.istore_n 2, 1) := by decide +kernel
theorem dX7_reading_29 : decode cX7_reading 29 = .ok (.iconst 0, 1) := by decide +kernel
theorem dX7_reading_30 : decode cX7_reading 30 = .ok (.istore_n 3, 1) := by decide +kernel
theorem dX7_reading_31 : decode cX7_reading 31 = .ok (.iload_n 3, 1) := by decide +kernel
theorem dX7_reading_32 : decode cX7_reading 32 = .ok (.ifCond .ne 84, 3) := by decide +kernel
theorem dX7_reading_35 : decode cX7_reading 35 = .ok (.aload_n 0, 1) := by decide +kernel
theorem dX7_reading_36 : decode cX7_reading 36 = .ok (.iload_n 2, 1) := by decide +kernel
theorem dX7_reading_37 : decode cX7_reading 37 = .ok (.invokevirtual 231, 3) := by decide +kernel
theorem dX7_reading_40 : decode cX7_reading 40 = .ok (.istore 4, 2) := by decide +kernel
theorem dX7_reading_42 : decode cX7_reading 42 = .ok (.iload 4, 2) := by decide +kernel
theorem dX7_reading_44 : decode cX7_reading 44 = .ok (.iconst (-1), 1) := by decide +kernel
theorem dX7_reading_45 : decode cX7_reading 45 = .ok (.if_icmp .eq 6, 3) := by decide +kernel
theorem dX7_reading_48 : decode cX7_reading 48 = .ok (.iload 4, 2) := by decide +kernel
theorem dX7_reading_50 : decode cX7_reading 50 = .ok (.ireturn, 1) := by decide +kernel
theorem dX7_reading_51 : decode cX7_reading 51 = .ok (.aload_n 0, 1) := by decide +kernel
theorem dX7_reading_52 : decode cX7_reading 52 = .ok (.getfield 206, 3) := by decide +kernel
theorem dX7_reading_55 : decode cX7_reading 55 = .ok (.ifCond .ne 15, 3) := by decide +kernel
theorem dX7_reading_58 : decode cX7_reading 58 = .ok (.aload_n 0, 1) := by decide +kernel
theorem dX7_reading_59 : decode cX7_reading 59 = .ok (.getfield 76, 3) := by decide +kernel
theorem dX7_reading_62 : decode cX7_reading 62 = .ok (.iload_n 2, 1) := by decide +kernel
theorem dX7_reading_63 : decode cX7_reading 63 = .ok (.iaload, 1) := by decide +kernel
theorem dX7_reading_64 : decode cX7_reading 64 = .ok (.bipush 32, 2) := by decide +kernel
theorem dX7_reading_66 : decode cX7_reading 66 = .ok (.idiv, 1) := by decide +kernel
theorem dX7_reading_67 : decode cX7_reading 67 = .ok (.goto 9, 3) := by decide +kernel
theorem dX7_reading_70 : decode cX7_reading 70 = .ok (.aload_n 0, 1) := by decide +kernel
theorem dX7_reading_71 : decode cX7_reading 71 = .ok (.getfield 76, 3) := by decide +kernel
theorem dX7_reading_74 : decode cX7_reading 74 = .ok (.iload_n 2, 1) := by decide +kernel
theorem dX7_reading_75 : decode cX7_reading 75 = .ok (.iaload, 1) := by decide +kernel
theorem dX7_reading_76 : decode cX7_reading 76 = .ok (.istore 5, 2) := by decide +kernel
theorem dX7_reading_78 : decode cX7_reading 78 = .ok (.aload_n 0, 1) := by decide +kernel
theorem dX7_reading_79 : decode cX7_reading 79 = .ok (.dup, 1) := by decide +kernel
theorem dX7_reading_80 : decode cX7_reading 80 = .ok (.getfield 228, 3) := by decide +kernel
theorem dX7_reading_83 : decode cX7_reading 83 = .ok (.iload 5, 2) := by decide +kernel
theorem dX7_reading_85 : decode cX7_reading 85 = .ok (.ifCond .ne 7, 3) := by decide +kernel
theorem dX7_reading_88 : decode cX7_reading 88 = .ok (.iconst 1, 1) := by decide +kernel
theorem dX7_reading_89 : decode cX7_reading 89 = .ok (.goto 4, 3) := by decide +kernel
theorem dX7_reading_92 : decode cX7_reading 92 = .ok (.iconst 0, 1) := by decide +kernel
theorem dX7_reading_93 : decode cX7_reading 93 = .ok (.iadd, 1) := by decide +kernel
theorem dX7_reading_94 : decode cX7_reading 94 = .ok (.putfield 228, 3) := by decide +kernel
theorem dX7_reading_97 : decode cX7_reading 97 = .ok (.iload 5, 2) := by decide +kernel
theorem dX7_reading_99 : decode cX7_reading 99 = .ok (.iconst 4, 1) := by decide +kernel
theorem dX7_reading_100 : decode cX7_reading 100 = .ok (.if_icmp .ne 7, 3) := by decide +kernel
theorem dX7_reading_103 : decode cX7_reading 103 = .ok (.iconst 1, 1) := by decide +kernel
theorem dX7_reading_104 : decode cX7_reading 104 = .ok (.goto 4, 3) := by decide +kernel
theorem dX7_reading_107 : decode cX7_reading 107 = .ok (.iconst 0, 1) := by decide +kernel
theorem dX7_reading_108 : decode cX7_reading 108 = .ok (.istore_n 3, 1) := by decide +kernel
theorem dX7_reading_109 : decode cX7_reading 109 = .ok (.iload_n 2, 1) := by decide +kernel
theorem dX7_reading_110 : decode cX7_reading 110 = .ok (.iload_n 1, 1) := by decide +kernel
theorem dX7_reading_111 : decode cX7_reading 111 = .ok (.iadd, 1) := by decide +kernel
theorem dX7_reading_112 : decode cX7_reading 112 = .ok (.istore_n 2, 1) := by decide +kernel
theorem dX7_reading_113 : decode cX7_reading 113 = .ok (.goto (-82), 3) := by decide +kernel
theorem dX7_reading_116 : decode cX7_reading 116 = .ok (.iload_n 2, 1) := by decide +kernel
theorem dX7_reading_117 : decode cX7_reading 117 = .ok (.aload_n 0, 1) := by decide +kernel
theorem dX7_reading_118 : decode cX7_reading 118 = .ok (.getfield 209, 3) := by decide +kernel
theorem dX7_reading_121 : decode cX7_reading 121 = .ok (.if_icmp .ge 21, 3) := by decide +kernel
theorem dX7_reading_124 : decode cX7_reading 124 = .ok (.aload_n 0, 1) := by decide +kernel
theorem dX7_reading_125 : decode cX7_reading 125 = .ok (.getfield 76, 3) := by decide +kernel
theorem dX7_reading_128 : decode cX7_reading 128 = .ok (.iload_n 2, 1) := by decide +kernel
theorem dX7_reading_129 : decode cX7_reading 129 = .ok (.iaload, 1) := by decide +kernel
theorem dX7_reading_130 : decode cX7_reading 130 = .ok (.aload_n 0, 1) := by decide +kernel
theorem dX7_reading_131 : decode cX7_reading 131 = .ok (.iload_n 2, 1) := by decide +kernel
theorem dX7_reading_132 : decode cX7_reading 132 = .ok (.invokevirtual 222, 3) := by decide +kernel
theorem dX7_reading_135 : decode cX7_reading 135 = .ok (.if_icmp .ne 7, 3) := by decide +kernel
theorem dX7_reading_138 : decode cX7_reading 138 = .ok (.iconst 1, 1) := by decide +kernel
theorem dX7_reading_139 : decode cX7_reading 139 = .ok (.goto 4, 3) := by decide +kernel
theorem dX7_reading_142 : decode cX7_reading 142 = .ok (.iconst 0, 1) := by decide +kernel
theorem dX7_reading_143 : decode cX7_reading 143 = .ok (.istore 4, 2) := by decide +kernel
theorem dX7_reading_145 : decode cX7_reading 145 = .ok (.iload 4, 2) := by decide +kernel
theorem dX7_reading_147 : decode cX7_reading 147 = .ok (.ifCond .ne 7, 3) := by decide +kernel
theorem dX7_reading_150 : decode cX7_reading 150 = .ok (.iload_n 2, 1) := by decide +kernel
theorem dX7_reading_151 : decode cX7_reading 151 = .ok (.goto 20, 3) := by decide +kernel
theorem dX7_reading_154 : decode cX7_reading 154 = .ok (.iload_n 2, 1) := by decide +kernel
theorem dX7_reading_155 : decode cX7_reading 155 = .ok (.iconst 1, 1) := by decide +kernel
theorem dX7_reading_156 : decode cX7_reading 156 = .ok (.iadd, 1) := by decide +kernel
theorem dX7_reading_157 : decode cX7_reading 157 = .ok (.aload_n 0, 1) := by decide +kernel
theorem dX7_reading_158 : decode cX7_reading 158 = .ok (.getfield 209, 3) := by decide +kernel
theorem dX7_reading_161 : decode cX7_reading 161 = .ok (.if_icmp .ge 9, 3) := by decide +kernel
theorem dX7_reading_164 : decode cX7_reading 164 = .ok (.iload_n 2, 1) := by decide +kernel
theorem dX7_reading_165 : decode cX7_reading 165 = .ok (.iconst 1, 1) := by decide +kernel
theorem dX7_reading_166 : decode cX7_reading 166 = .ok (.iadd, 1) := by decide +kernel
theorem dX7_reading_167 : decode cX7_reading 167 = .ok (.goto 4, 3) := by decide +kernel
theorem dX7_reading_170 : decode cX7_reading 170 = .ok (.iconst (-1), 1) := by decide +kernel
theorem dX7_reading_171 : decode cX7_reading 171 = .ok (.ireturn, 1) := by decide +kernel
theorem dX7_fault_0 : decode cX7_fault 0 = .ok (.aload_n 0, 1) := by decide +kernel
theorem dX7_fault_1 : decode cX7_fault 1 = .ok (.iconst 0, 1) := by decide +kernel
theorem dX7_fault_2 : decode cX7_fault 2 = .ok (.putfield 91, 3) := by decide +kernel
theorem dX7_fault_5 : decode cX7_fault 5 = .ok (.aload_n 0, 1) := by decide +kernel
theorem dX7_fault_6 : decode cX7_fault 6 = .ok (.invokevirtual 234, 3) := by decide +kernel
theorem dX7_fault_9 : decode cX7_fault 9 = .ok (.ireturn, 1) := by decide +kernel
theorem dX7_reads_0 : decode cX7_reads 0 = .ok (.aload_n 0, 1) := by decide +kernel
theorem dX7_reads_1 : decode cX7_reads 1 = .ok (.iconst 0, 1) := by decide +kernel
theorem dX7_reads_2 : decode cX7_reads 2 = .ok (.putfield 91, 3) := by decide +kernel
theorem dX7_reads_5 : decode cX7_reads 5 = .ok (.aload_n 0, 1) := by decide +kernel
theorem dX7_reads_6 : decode cX7_reads 6 = .ok (.invokevirtual 234, 3) := by decide +kernel
theorem dX7_reads_9 : decode cX7_reads 9 = .ok (.istore_n 1, 1) := by decide +kernel
theorem dX7_reads_10 : decode cX7_reads 10 = .ok (.iload_n 1, 1) := by decide +kernel
theorem dX7_reads_11 : decode cX7_reads 11 = .ok (.iconst (-1), 1) := by decide +kernel
theorem dX7_reads_12 : decode cX7_reads 12 = .ok (.if_icmp .ge 7, 3) := by decide +kernel
theorem dX7_reads_15 : decode cX7_reads 15 = .ok (.iconst 0, 1) := by decide +kernel
theorem dX7_reads_16 : decode cX7_reads 16 = .ok (.goto 7, 3) := by decide +kernel
theorem dX7_reads_19 : decode cX7_reads 19 = .ok (.aload_n 0, 1) := by decide +kernel
theorem dX7_reads_20 : decode cX7_reads 20 = .ok (.getfield 228, 3) := by decide +kernel
theorem dX7_reads_23 : decode cX7_reads 23 = .ok (.ireturn, 1) := by decide +kernel
theorem dX7_start_0 : decode cX7_start 0 = .ok (.aload_n 0, 1) := by decide +kernel
theorem dX7_start_1 : decode cX7_start 1 = .ok (.iload_n 1, 1) := by decide +kernel
theorem dX7_start_2 : decode cX7_start 2 = .ok (.iconst 1, 1) := by decide +kernel
theorem dX7_start_3 : decode cX7_start 3 = .ok (.iconst 4, 1) := by decide +kernel
theorem dX7_start_4 : decode cX7_start 4 = .ok (.invokestatic 97, 3) := by decide +kernel
theorem dX7_start_7 : decode cX7_start 7 = .ok (.ifCond .eq 17, 3) := by decide +kernel
theorem dX7_start_10 : decode cX7_start 10 = .ok (.iload_n 2, 1) := by decide +kernel
theorem dX7_start_11 : decode cX7_start 11 = .ok (.iconst 0, 1) := by decide +kernel
theorem dX7_start_12 : decode cX7_start 12 = .ok (.bipush 20, 2) := by decide +kernel
theorem dX7_start_14 : decode cX7_start 14 = .ok (.invokestatic 97, 3) := by decide +kernel
theorem dX7_start_17 : decode cX7_start 17 = .ok (.ifCond .eq 7, 3) := by decide +kernel
theorem dX7_start_20 : decode cX7_start 20 = .ok (.iconst 1, 1) := by decide +kernel
theorem dX7_start_21 : decode cX7_start 21 = .ok (.goto 4, 3) := by decide +kernel
theorem dX7_start_24 : decode cX7_start 24 = .ok (.iconst 0, 1) := by decide +kernel
theorem dX7_start_25 : decode cX7_start 25 = .ok (.invokevirtual 101, 3) := by decide +kernel
theorem dX7_start_28 : decode cX7_start 28 = .ok (.ifCond .ne 4, 3) := by decide +kernel
theorem dX7_start_31 : decode cX7_start 31 = .ok (.return_, 1) := by decide +kernel
theorem dX7_start_32 : decode cX7_start 32 = .ok (.aload_n 0, 1) := by decide +kernel
theorem dX7_start_33 : decode cX7_start 33 = .ok (.invokevirtual 182, 3) := by decide +kernel
theorem dX7_start_36 : decode cX7_start 36 = .ok (.aload_n 0, 1) := by decide +kernel
theorem dX7_start_37 : decode cX7_start 37 = .ok (.iload_n 1, 1) := by decide +kernel
theorem dX7_start_38 : decode cX7_start 38 = .ok (.putfield 238, 3) := by decide +kernel
theorem dX7_start_41 : decode cX7_start 41 = .ok (.aload_n 0, 1) := by decide +kernel
theorem dX7_start_42 : decode cX7_start 42 = .ok (.iload_n 2, 1) := by decide +kernel
theorem dX7_start_43 : decode cX7_start 43 = .ok (.putfield 241, 3) := by decide +kernel
theorem dX7_start_46 : decode cX7_start 46 = .ok (.aload_n 0, 1) := by decide +kernel
theorem dX7_start_47 : decode cX7_start 47 = .ok (.iconst 0, 1) := by decide +kernel
theorem dX7_start_48 : decode cX7_start 48 = .ok (.putfield 244, 3) := by decide +kernel
theorem dX7_start_51 : decode cX7_start 51 = .ok (.aload_n 0, 1) := by decide +kernel
theorem dX7_start_52 : decode cX7_start 52 = .ok (.aload_n 0, 1) := by decide +kernel
theorem dX7_start_53 : decode cX7_start 53 = .ok (.getfield 160, 3) := by decide +kernel
theorem dX7_start_56 : decode cX7_start 56 = .ok (.putfield 247, 3) := by decide +kernel
theorem dX7_start_59 : decode cX7_start 59 = .ok (.iconst 0, 1) := by decide +kernel
theorem dX7_start_60 : decode cX7_start 60 = .ok (.istore_n 3, 1) := by decide +kernel
theorem dX7_start_61 : decode cX7_start 61 = .ok (.iload_n 3, 1) := by decide +kernel
theorem dX7_start_62 : decode cX7_start 62 = .ok (.aload_n 0, 1) := by decide +kernel
theorem dX7_start_63 : decode cX7_start 63 = .ok (.getfield 160, 3) := by decide +kernel
theorem dX7_start_66 : decode cX7_start 66 = .ok (.if_icmp .ge 21, 3) := by decide +kernel
theorem dX7_start_69 : decode cX7_start 69 = .ok (.aload_n 0, 1) := by decide +kernel
theorem dX7_start_70 : decode cX7_start 70 = .ok (.getfield 79, 3) := by decide +kernel
theorem dX7_start_73 : decode cX7_start 73 = .ok (.iload_n 3, 1) := by decide +kernel
theorem dX7_start_74 : decode cX7_start 74 = .ok (.aload_n 0, 1) := by decide +kernel
theorem dX7_start_75 : decode cX7_start 75 = .ok (.getfield 57, 3) := by decide +kernel
theorem dX7_start_78 : decode cX7_start 78 = .ok (.iload_n 3, 1) := by decide +kernel
theorem dX7_start_79 : decode cX7_start 79 = .ok (.iaload, 1) := by decide +kernel
theorem dX7_start_80 : decode cX7_start 80 = .ok (.iastore, 1) := by decide +kernel
theorem dX7_start_81 : decode cX7_start 81 = .ok (.iinc 3 1, 3) := by decide +kernel
theorem dX7_start_84 : decode cX7_start 84 = .ok (.goto (-23), 3) := by decide +kernel
theorem dX7_start_87 : decode cX7_start 87 = .ok (.iconst 0, 1) := by decide +kernel
theorem dX7_start_88 : decode cX7_start 88 = .ok (.istore_n 3, 1) := by decide +kernel
theorem dX7_start_89 : decode cX7_start 89 = .ok (.iload_n 3, 1) := by decide +kernel
theorem dX7_start_90 : decode cX7_start 90 = .ok (.iconst 4, 1) := by decide +kernel
theorem dX7_start_91 : decode cX7_start 91 = .ok (.if_icmp .ge 23, 3) := by decide +kernel
theorem dX7_start_94 : decode cX7_start 94 = .ok (.aload_n 0, 1) := by decide +kernel
theorem dX7_start_95 : decode cX7_start 95 = .ok (.getfield 82, 3) := by decide +kernel
theorem dX7_start_98 : decode cX7_start 98 = .ok (.iload_n 3, 1) := by decide +kernel
theorem dX7_start_99 : decode cX7_start 99 = .ok (.iconst (-1), 1) := by decide +kernel
theorem dX7_start_100 : decode cX7_start 100 = .ok (.iastore, 1) := by decide +kernel
theorem dX7_start_101 : decode cX7_start 101 = .ok (.aload_n 0, 1) := by decide +kernel
theorem dX7_start_102 : decode cX7_start 102 = .ok (.getfield 85, 3) := by decide +kernel
theorem dX7_start_105 : decode cX7_start 105 = .ok (.iload_n 3, 1) := by decide +kernel
theorem dX7_start_106 : decode cX7_start 106 = .ok (.iconst 0, 1) := by decide +kernel
theorem dX7_start_107 : decode cX7_start 107 = .ok (.iastore, 1) := by decide +kernel
theorem dX7_start_108 : decode cX7_start 108 = .ok (.iinc 3 1, 3) := by decide +kernel
theorem dX7_start_111 : decode cX7_start 111 = .ok (.goto (-22), 3) := by decide +kernel
theorem dX7_start_114 : decode cX7_start 114 = .ok (.return_, 1) := by decide +kernel
theorem dX7_isHead_0 : decode cX7_isHead 0 = .ok (.iload_n 1, 1) := by decide +kernel
theorem dX7_isHead_1 : decode cX7_isHead 1 = .ok (.iconst 0, 1) := by decide +kernel
theorem dX7_isHead_2 : decode cX7_isHead 2 = .ok (.aload_n 0, 1) := by decide +kernel
theorem dX7_isHead_3 : decode cX7_isHead 3 = .ok (.getfield 238, 3) := by decide +kernel
theorem dX7_isHead_6 : decode cX7_isHead 6 = .ok (.iconst 1, 1) := by decide +kernel
theorem dX7_isHead_7 : decode cX7_isHead 7 = .ok (.isub, 1) := by decide +kernel
theorem dX7_isHead_8 : decode cX7_isHead 8 = .ok (.invokestatic 97, 3) := by decide +kernel
theorem dX7_isHead_11 : decode cX7_isHead 11 = .ok (.ireturn, 1) := by decide +kernel
theorem dX7_isSeen_0 : decode cX7_isSeen 0 = .ok (.aload_n 0, 1) := by decide +kernel
theorem dX7_isSeen_1 : decode cX7_isSeen 1 = .ok (.getfield 82, 3) := by decide +kernel
theorem dX7_isSeen_4 : decode cX7_isSeen 4 = .ok (.iload_n 1, 1) := by decide +kernel
theorem dX7_isSeen_5 : decode cX7_isSeen 5 = .ok (.iaload, 1) := by decide +kernel
theorem dX7_isSeen_6 : decode cX7_isSeen 6 = .ok (.iconst (-1), 1) := by decide +kernel
theorem dX7_isSeen_7 : decode cX7_isSeen 7 = .ok (.if_icmp .eq 36, 3) := by decide +kernel
theorem dX7_isSeen_10 : decode cX7_isSeen 10 = .ok (.aload_n 0, 1) := by decide +kernel
theorem dX7_isSeen_11 : decode cX7_isSeen 11 = .ok (.getfield 244, 3) := by decide +kernel
theorem dX7_isSeen_14 : decode cX7_isSeen 14 = .ok (.aload_n 0, 1) := by decide +kernel
theorem dX7_isSeen_15 : decode cX7_isSeen 15 = .ok (.getfield 82, 3) := by decide +kernel
theorem dX7_isSeen_18 : decode cX7_isSeen 18 = .ok (.iload_n 1, 1) := by decide +kernel
theorem dX7_isSeen_19 : decode cX7_isSeen 19 = .ok (.iaload, 1) := by decide +kernel
theorem dX7_isSeen_20 : decode cX7_isSeen 20 = .ok (.aload_n 0, 1) := by decide +kernel
theorem dX7_isSeen_21 : decode cX7_isSeen 21 = .ok (.getfield 241, 3) := by decide +kernel
theorem dX7_isSeen_24 : decode cX7_isSeen 24 = .ok (.iadd, 1) := by decide +kernel
theorem dX7_isSeen_25 : decode cX7_isSeen 25 = .ok (.if_icmp .ge 14, 3) := by decide +kernel
theorem dX7_isSeen_28 : decode cX7_isSeen 28 = .ok (.aload_n 0, 1) := by decide +kernel
theorem dX7_isSeen_29 : decode cX7_isSeen 29 = .ok (.getfield 244, 3) := by decide +kernel
theorem dX7_isSeen_32 : decode cX7_isSeen 32 = .ok (.aload_n 0, 1) := by decide +kernel
theorem dX7_isSeen_33 : decode cX7_isSeen 33 = .ok (.getfield 247, 3) := by decide +kernel
theorem dX7_isSeen_36 : decode cX7_isSeen 36 = .ok (.if_icmp .ne 7, 3) := by decide +kernel
theorem dX7_isSeen_39 : decode cX7_isSeen 39 = .ok (.iconst 1, 1) := by decide +kernel
theorem dX7_isSeen_40 : decode cX7_isSeen 40 = .ok (.goto 4, 3) := by decide +kernel
theorem dX7_isSeen_43 : decode cX7_isSeen 43 = .ok (.iconst 0, 1) := by decide +kernel
theorem dX7_isSeen_44 : decode cX7_isSeen 44 = .ok (.ireturn, 1) := by decide +kernel
theorem dX7_stands_0 : decode cX7_stands 0 = .ok (.iconst 0, 1) := by decide +kernel
theorem dX7_stands_1 : decode cX7_stands 1 = .ok (.istore_n 1, 1) := by decide +kernel
theorem dX7_stands_2 : decode cX7_stands 2 = .ok (.iconst 0, 1) := by decide +kernel
theorem dX7_stands_3 : decode cX7_stands 3 = .ok (.istore_n 2, 1) := by decide +kernel
theorem dX7_stands_4 : decode cX7_stands 4 = .ok (.iload_n 2, 1) := by decide +kernel
theorem dX7_stands_5 : decode cX7_stands 5 = .ok (.aload_n 0, 1) := by decide +kernel
theorem dX7_stands_6 : decode cX7_stands 6 = .ok (.getfield 238, 3) := by decide +kernel
theorem dX7_stands_9 : decode cX7_stands 9 = .ok (.if_icmp .ge 27, 3) := by decide +kernel
theorem dX7_stands_12 : decode cX7_stands 12 = .ok (.iload_n 1, 1) := by decide +kernel
theorem dX7_stands_13 : decode cX7_stands 13 = .ok (.ifCond .ne 11, 3) := by decide +kernel
theorem dX7_stands_16 : decode cX7_stands 16 = .ok (.aload_n 0, 1) := by decide +kernel
theorem dX7_stands_17 : decode cX7_stands 17 = .ok (.iload_n 2, 1) := by decide +kernel
theorem dX7_stands_18 : decode cX7_stands 18 = .ok (.invokevirtual 250, 3) := by decide +kernel
theorem dX7_stands_21 : decode cX7_stands 21 = .ok (.ifCond .eq 7, 3) := by decide +kernel
theorem dX7_stands_24 : decode cX7_stands 24 = .ok (.iconst 1, 1) := by decide +kernel
theorem dX7_stands_25 : decode cX7_stands 25 = .ok (.goto 4, 3) := by decide +kernel
theorem dX7_stands_28 : decode cX7_stands 28 = .ok (.iconst 0, 1) := by decide +kernel
theorem dX7_stands_29 : decode cX7_stands 29 = .ok (.istore_n 1, 1) := by decide +kernel
theorem dX7_stands_30 : decode cX7_stands 30 = .ok (.iinc 2 1, 3) := by decide +kernel
theorem dX7_stands_33 : decode cX7_stands 33 = .ok (.goto (-29), 3) := by decide +kernel
theorem dX7_stands_36 : decode cX7_stands 36 = .ok (.iload_n 1, 1) := by decide +kernel
theorem dX7_stands_37 : decode cX7_stands 37 = .ok (.ireturn, 1) := by decide +kernel
theorem dX7_run_0 : decode cX7_run 0 = .ok (.aload_n 0, 1) := by decide +kernel
theorem dX7_run_1 : decode cX7_run 1 = .ok (.iload_n 1, 1) := by decide +kernel
theorem dX7_run_2 : decode cX7_run 2 = .ok (.iconst 1, 1) := by decide +kernel
theorem dX7_run_3 : decode cX7_run 3 = .ok (.sipush 1000, 3) := by decide +kernel
theorem dX7_run_6 : decode cX7_run 6 = .ok (.invokestatic 97, 3) := by decide +kernel
theorem dX7_run_9 : decode cX7_run 9 = .ok (.invokevirtual 101, 3) := by decide +kernel
theorem dX7_run_12 : decode cX7_run 12 = .ok (.ifCond .ne 5, 3) := by decide +kernel
theorem dX7_run_15 : decode cX7_run 15 = .ok (.iconst 0, 1) := by decide +kernel
theorem dX7_run_16 : decode cX7_run 16 = .ok (.ireturn, 1) := by decide +kernel
theorem dX7_run_17 : decode cX7_run 17 = .ok (.aload_n 0, 1) := by decide +kernel
theorem dX7_run_18 : decode cX7_run 18 = .ok (.getfield 238, 3) := by decide +kernel
theorem dX7_run_21 : decode cX7_run 21 = .ok (.ifCond .ne 9, 3) := by decide +kernel
theorem dX7_run_24 : decode cX7_run 24 = .ok (.aload_n 0, 1) := by decide +kernel
theorem dX7_run_25 : decode cX7_run 25 = .ok (.iconst 2, 1) := by decide +kernel
theorem dX7_run_26 : decode cX7_run 26 = .ok (.invokevirtual 105, 3) := by decide +kernel
theorem dX7_run_29 : decode cX7_run 29 = .ok (.ireturn, 1) := by decide +kernel
theorem dX7_run_30 : decode cX7_run 30 = .ok (.iconst 0, 1) := by decide +kernel
theorem dX7_run_31 : decode cX7_run 31 = .ok (.istore_n 2, 1) := by decide +kernel
theorem dX7_run_32 : decode cX7_run 32 = .ok (.iload_n 2, 1) := by decide +kernel
theorem dX7_run_33 : decode cX7_run 33 = .ok (.iload_n 1, 1) := by decide +kernel
theorem dX7_run_34 : decode cX7_run 34 = .ok (.if_icmp .ge 89, 3) := by decide +kernel
theorem dX7_run_37 : decode cX7_run 37 = .ok (.aload_n 0, 1) := by decide +kernel
theorem dX7_run_38 : decode cX7_run 38 = .ok (.getfield 244, 3) := by decide +kernel
theorem dX7_run_41 : decode cX7_run 41 = .ok (.aload_n 0, 1) := by decide +kernel
theorem dX7_run_42 : decode cX7_run 42 = .ok (.getfield 247, 3) := by decide +kernel
theorem dX7_run_45 : decode cX7_run 45 = .ok (.if_icmp .ge 78, 3) := by decide +kernel
theorem dX7_run_48 : decode cX7_run 48 = .ok (.aload_n 0, 1) := by decide +kernel
theorem dX7_run_49 : decode cX7_run 49 = .ok (.invokevirtual 253, 3) := by decide +kernel
theorem dX7_run_52 : decode cX7_run 52 = .ok (.ifCond .ne 71, 3) := by decide +kernel
theorem dX7_run_55 : decode cX7_run 55 = .ok (.iconst 0, 1) := by decide +kernel
theorem dX7_run_56 : decode cX7_run 56 = .ok (.istore_n 3, 1) := by decide +kernel
theorem dX7_run_57 : decode cX7_run 57 = .ok (.iload_n 3, 1) := by decide +kernel
theorem dX7_run_58 : decode cX7_run 58 = .ok (.aload_n 0, 1) := by decide +kernel
theorem dX7_run_59 : decode cX7_run 59 = .ok (.getfield 238, 3) := by decide +kernel
theorem dX7_run_62 : decode cX7_run 62 = .ok (.if_icmp .ge 45, 3) := by decide +kernel
theorem dX7_run_65 : decode cX7_run 65 = .ok (.aload_n 0, 1) := by decide +kernel
theorem dX7_run_66 : decode cX7_run 66 = .ok (.getfield 85, 3) := by decide +kernel
theorem dX7_run_69 : decode cX7_run 69 = .ok (.iload_n 3, 1) := by decide +kernel
theorem dX7_run_70 : decode cX7_run 70 = .ok (.dup2, 1) := by decide +kernel
theorem dX7_run_71 : decode cX7_run 71 = .ok (.iaload, 1) := by decide +kernel
theorem dX7_run_72 : decode cX7_run 72 = .ok (.aload_n 0, 1) := by decide +kernel
theorem dX7_run_73 : decode cX7_run 73 = .ok (.getfield 79, 3) := by decide +kernel
theorem dX7_run_76 : decode cX7_run 76 = .ok (.aload_n 0, 1) := by decide +kernel
theorem dX7_run_77 : decode cX7_run 77 = .ok (.getfield 244, 3) := by decide +kernel
theorem dX7_run_80 : decode cX7_run 80 = .ok (.iaload, 1) := by decide +kernel
theorem dX7_run_81 : decode cX7_run 81 = .ok (.ifCond .ne 17, 3) := by decide +kernel
theorem dX7_run_84 : decode cX7_run 84 = .ok (.aload_n 0, 1) := by decide +kernel
theorem dX7_run_85 : decode cX7_run 85 = .ok (.getfield 82, 3) := by decide +kernel
theorem dX7_run_88 : decode cX7_run 88 = .ok (.iload_n 3, 1) := by decide +kernel
theorem dX7_run_89 : decode cX7_run 89 = .ok (.iaload, 1) := by decide +kernel
theorem dX7_run_90 : decode cX7_run 90 = .ok (.iconst (-1), 1) := by decide +kernel
theorem dX7_run_91 : decode cX7_run 91 = .ok (.if_icmp .ne 7, 3) := by decide +kernel
theorem dX7_run_94 : decode cX7_run 94 = .ok (.iconst 1, 1) := by decide +kernel
theorem dX7_run_95 : decode cX7_run 95 = .ok (.goto 4, 3) := by decide +kernel
theorem dX7_run_98 : decode cX7_run 98 = .ok (.iconst 0, 1) := by decide +kernel
theorem dX7_run_99 : decode cX7_run 99 = .ok (.iadd, 1) := by decide +kernel
theorem dX7_run_100 : decode cX7_run 100 = .ok (.iastore, 1) := by decide +kernel
theorem dX7_run_101 : decode cX7_run 101 = .ok (.iinc 3 1, 3) := by decide +kernel
theorem dX7_run_104 : decode cX7_run 104 = .ok (.goto (-47), 3) := by decide +kernel
theorem dX7_run_107 : decode cX7_run 107 = .ok (.aload_n 0, 1) := by decide +kernel
theorem dX7_run_108 : decode cX7_run 108 = .ok (.dup, 1) := by decide +kernel
theorem dX7_run_109 : decode cX7_run 109 = .ok (.getfield 244, 3) := by decide +kernel
theorem dX7_run_112 : decode cX7_run 112 = .ok (.iconst 1, 1) := by decide +kernel
theorem dX7_run_113 : decode cX7_run 113 = .ok (.iadd, 1) := by decide +kernel
theorem dX7_run_114 : decode cX7_run 114 = .ok (.putfield 244, 3) := by decide +kernel
theorem dX7_run_117 : decode cX7_run 117 = .ok (.iinc 2 1, 3) := by decide +kernel
theorem dX7_run_120 : decode cX7_run 120 = .ok (.goto (-88), 3) := by decide +kernel
theorem dX7_run_123 : decode cX7_run 123 = .ok (.iload_n 2, 1) := by decide +kernel
theorem dX7_run_124 : decode cX7_run 124 = .ok (.ireturn, 1) := by decide +kernel
theorem dX7_breaks_0 : decode cX7_breaks 0 = .ok (.aload_n 0, 1) := by decide +kernel
theorem dX7_breaks_1 : decode cX7_breaks 1 = .ok (.aload_n 0, 1) := by decide +kernel
theorem dX7_breaks_2 : decode cX7_breaks 2 = .ok (.iload_n 1, 1) := by decide +kernel
theorem dX7_breaks_3 : decode cX7_breaks 3 = .ok (.invokevirtual 257, 3) := by decide +kernel
theorem dX7_breaks_6 : decode cX7_breaks 6 = .ok (.invokevirtual 101, 3) := by decide +kernel
theorem dX7_breaks_9 : decode cX7_breaks 9 = .ok (.ifCond .ne 4, 3) := by decide +kernel
theorem dX7_breaks_12 : decode cX7_breaks 12 = .ok (.return_, 1) := by decide +kernel
theorem dX7_breaks_13 : decode cX7_breaks 13 = .ok (.aload_n 0, 1) := by decide +kernel
theorem dX7_breaks_14 : decode cX7_breaks 14 = .ok (.getfield 82, 3) := by decide +kernel
theorem dX7_breaks_17 : decode cX7_breaks 17 = .ok (.iload_n 1, 1) := by decide +kernel
theorem dX7_breaks_18 : decode cX7_breaks 18 = .ok (.iaload, 1) := by decide +kernel
theorem dX7_breaks_19 : decode cX7_breaks 19 = .ok (.iconst (-1), 1) := by decide +kernel
theorem dX7_breaks_20 : decode cX7_breaks 20 = .ok (.if_icmp .eq 9, 3) := by decide +kernel
theorem dX7_breaks_23 : decode cX7_breaks 23 = .ok (.aload_n 0, 1) := by decide +kernel
theorem dX7_breaks_24 : decode cX7_breaks 24 = .ok (.iconst 2, 1) := by decide +kernel
theorem dX7_breaks_25 : decode cX7_breaks 25 = .ok (.putfield 91, 3) := by decide +kernel
theorem dX7_breaks_28 : decode cX7_breaks 28 = .ok (.return_, 1) := by decide +kernel
theorem dX7_breaks_29 : decode cX7_breaks 29 = .ok (.aload_n 0, 1) := by decide +kernel
theorem dX7_breaks_30 : decode cX7_breaks 30 = .ok (.getfield 82, 3) := by decide +kernel
theorem dX7_breaks_33 : decode cX7_breaks 33 = .ok (.iload_n 1, 1) := by decide +kernel
theorem dX7_breaks_34 : decode cX7_breaks 34 = .ok (.aload_n 0, 1) := by decide +kernel
theorem dX7_breaks_35 : decode cX7_breaks 35 = .ok (.getfield 244, 3) := by decide +kernel
theorem dX7_breaks_38 : decode cX7_breaks 38 = .ok (.iastore, 1) := by decide +kernel
theorem dX7_breaks_39 : decode cX7_breaks 39 = .ok (.return_, 1) := by decide +kernel
theorem dX7_mend_0 : decode cX7_mend 0 = .ok (.aload_n 0, 1) := by decide +kernel
theorem dX7_mend_1 : decode cX7_mend 1 = .ok (.aload_n 0, 1) := by decide +kernel
theorem dX7_mend_2 : decode cX7_mend 2 = .ok (.iload_n 1, 1) := by decide +kernel
theorem dX7_mend_3 : decode cX7_mend 3 = .ok (.invokevirtual 257, 3) := by decide +kernel
theorem dX7_mend_6 : decode cX7_mend 6 = .ok (.invokevirtual 101, 3) := by decide +kernel
theorem dX7_mend_9 : decode cX7_mend 9 = .ok (.ifCond .ne 5, 3) := by decide +kernel
theorem dX7_mend_12 : decode cX7_mend 12 = .ok (.iconst 0, 1) := by decide +kernel
theorem dX7_mend_13 : decode cX7_mend 13 = .ok (.ireturn, 1) := by decide +kernel
theorem dX7_mend_14 : decode cX7_mend 14 = .ok (.aload_n 0, 1) := by decide +kernel
theorem dX7_mend_15 : decode cX7_mend 15 = .ok (.iload_n 1, 1) := by decide +kernel
theorem dX7_mend_16 : decode cX7_mend 16 = .ok (.invokevirtual 250, 3) := by decide +kernel
theorem dX7_mend_19 : decode cX7_mend 19 = .ok (.ifCond .ne 9, 3) := by decide +kernel
theorem dX7_mend_22 : decode cX7_mend 22 = .ok (.aload_n 0, 1) := by decide +kernel
theorem dX7_mend_23 : decode cX7_mend 23 = .ok (.iconst 2, 1) := by decide +kernel
theorem dX7_mend_24 : decode cX7_mend 24 = .ok (.invokevirtual 105, 3) := by decide +kernel
theorem dX7_mend_27 : decode cX7_mend 27 = .ok (.ireturn, 1) := by decide +kernel
theorem dX7_mend_28 : decode cX7_mend 28 = .ok (.iconst 0, 1) := by decide +kernel
theorem dX7_mend_29 : decode cX7_mend 29 = .ok (.istore_n 2, 1) := by decide +kernel
theorem dX7_mend_30 : decode cX7_mend 30 = .ok (.iconst 0, 1) := by decide +kernel
theorem dX7_mend_31 : decode cX7_mend 31 = .ok (.aload_n 0, 1) := by decide +kernel
theorem dX7_mend_32 : decode cX7_mend 32 = .ok (.getfield 82, 3) := by decide +kernel
theorem dX7_mend_35 : decode cX7_mend 35 = .ok (.iload_n 1, 1) := by decide +kernel
theorem dX7_mend_36 : decode cX7_mend 36 = .ok (.iaload, 1) := by decide +kernel
theorem dX7_mend_37 : decode cX7_mend 37 = .ok (.iconst 3, 1) := by decide +kernel
theorem dX7_mend_38 : decode cX7_mend 38 = .ok (.isub, 1) := by decide +kernel
theorem dX7_mend_39 : decode cX7_mend 39 = .ok (.invokestatic 134, 3) := by decide +kernel
theorem dX7_mend_42 : decode cX7_mend 42 = .ok (.istore_n 3, 1) := by decide +kernel
theorem dX7_mend_43 : decode cX7_mend 43 = .ok (.iload_n 3, 1) := by decide +kernel
theorem dX7_mend_44 : decode cX7_mend 44 = .ok (.aload_n 0, 1) := by decide +kernel
theorem dX7_mend_45 : decode cX7_mend 45 = .ok (.getfield 244, 3) := by decide +kernel
theorem dX7_mend_48 : decode cX7_mend 48 = .ok (.if_icmp .ge 26, 3) := by decide +kernel
theorem dX7_mend_51 : decode cX7_mend 51 = .ok (.iload_n 2, 1) := by decide +kernel
theorem dX7_mend_52 : decode cX7_mend 52 = .ok (.aload_n 0, 1) := by decide +kernel
theorem dX7_mend_53 : decode cX7_mend 53 = .ok (.getfield 79, 3) := by decide +kernel
theorem dX7_mend_56 : decode cX7_mend 56 = .ok (.iload_n 3, 1) := by decide +kernel
theorem dX7_mend_57 : decode cX7_mend 57 = .ok (.iaload, 1) := by decide +kernel
theorem dX7_mend_58 : decode cX7_mend 58 = .ok (.ifCond .ne 7, 3) := by decide +kernel
theorem dX7_mend_61 : decode cX7_mend 61 = .ok (.iconst 1, 1) := by decide +kernel
theorem dX7_mend_62 : decode cX7_mend 62 = .ok (.goto 4, 3) := by decide +kernel
theorem dX7_mend_65 : decode cX7_mend 65 = .ok (.iconst 0, 1) := by decide +kernel
theorem dX7_mend_66 : decode cX7_mend 66 = .ok (.iadd, 1) := by decide +kernel
theorem dX7_mend_67 : decode cX7_mend 67 = .ok (.istore_n 2, 1) := by decide +kernel
theorem dX7_mend_68 : decode cX7_mend 68 = .ok (.iinc 3 1, 3) := by decide +kernel
theorem dX7_mend_71 : decode cX7_mend 71 = .ok (.goto (-28), 3) := by decide +kernel
theorem dX7_mend_74 : decode cX7_mend 74 = .ok (.aload_n 0, 1) := by decide +kernel
theorem dX7_mend_75 : decode cX7_mend 75 = .ok (.getfield 82, 3) := by decide +kernel
theorem dX7_mend_78 : decode cX7_mend 78 = .ok (.iload_n 1, 1) := by decide +kernel
theorem dX7_mend_79 : decode cX7_mend 79 = .ok (.iconst (-1), 1) := by decide +kernel
theorem dX7_mend_80 : decode cX7_mend 80 = .ok (.iastore, 1) := by decide +kernel
theorem dX7_mend_81 : decode cX7_mend 81 = .ok (.aload_n 0, 1) := by decide +kernel
theorem dX7_mend_82 : decode cX7_mend 82 = .ok (.getfield 85, 3) := by decide +kernel
theorem dX7_mend_85 : decode cX7_mend 85 = .ok (.iload_n 1, 1) := by decide +kernel
theorem dX7_mend_86 : decode cX7_mend 86 = .ok (.dup2, 1) := by decide +kernel
theorem dX7_mend_87 : decode cX7_mend 87 = .ok (.iaload, 1) := by decide +kernel
theorem dX7_mend_88 : decode cX7_mend 88 = .ok (.iload_n 2, 1) := by decide +kernel
theorem dX7_mend_89 : decode cX7_mend 89 = .ok (.iadd, 1) := by decide +kernel
theorem dX7_mend_90 : decode cX7_mend 90 = .ok (.iastore, 1) := by decide +kernel
theorem dX7_mend_91 : decode cX7_mend 91 = .ok (.iload_n 2, 1) := by decide +kernel
theorem dX7_mend_92 : decode cX7_mend 92 = .ok (.ireturn, 1) := by decide +kernel
theorem dX7_sewn_0 : decode cX7_sewn 0 = .ok (.aload_n 0, 1) := by decide +kernel
theorem dX7_sewn_1 : decode cX7_sewn 1 = .ok (.aload_n 0, 1) := by decide +kernel
theorem dX7_sewn_2 : decode cX7_sewn 2 = .ok (.iload_n 1, 1) := by decide +kernel
theorem dX7_sewn_3 : decode cX7_sewn 3 = .ok (.invokevirtual 257, 3) := by decide +kernel
theorem dX7_sewn_6 : decode cX7_sewn 6 = .ok (.invokevirtual 101, 3) := by decide +kernel
theorem dX7_sewn_9 : decode cX7_sewn 9 = .ok (.ifCond .eq 12, 3) := by decide +kernel
theorem dX7_sewn_12 : decode cX7_sewn 12 = .ok (.aload_n 0, 1) := by decide +kernel
theorem dX7_sewn_13 : decode cX7_sewn 13 = .ok (.getfield 85, 3) := by decide +kernel
theorem dX7_sewn_16 : decode cX7_sewn 16 = .ok (.iload_n 1, 1) := by decide +kernel
theorem dX7_sewn_17 : decode cX7_sewn 17 = .ok (.iaload, 1) := by decide +kernel
theorem dX7_sewn_18 : decode cX7_sewn 18 = .ok (.goto 4, 3) := by decide +kernel
theorem dX7_sewn_21 : decode cX7_sewn 21 = .ok (.iconst 0, 1) := by decide +kernel
theorem dX7_sewn_22 : decode cX7_sewn 22 = .ok (.ireturn, 1) := by decide +kernel
