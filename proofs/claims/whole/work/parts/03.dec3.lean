theorem dX11_init_0 : decode cX11_init 0 = .ok (.aload_n 0, 1) := by decide +kernel
theorem dX11_init_1 : decode cX11_init 1 = .ok (.invokespecial 1, 3) := by decide +kernel
theorem dX11_init_4 : decode cX11_init 4 = .ok (.aload_n 0, 1) := by decide +kernel
theorem dX11_init_5 : decode cX11_init 5 = .ok (.bipush 6, 2) := by decide +kernel
theorem dX11_init_7 : decode cX11_init 7 = .ok (.newarray .int, 2) := by decide +kernel
theorem dX11_init_9 : decode cX11_init 9 = .ok (.putfield 7, 3) := by decide +kernel
theorem dX11_init_12 : decode cX11_init 12 = .ok (.aload_n 0, 1) := by decide +kernel
theorem dX11_init_13 : decode cX11_init 13 = .ok (.iconst 5, 1) := by decide +kernel
theorem dX11_init_14 : decode cX11_init 14 = .ok (.newarray .int, 2) := by decide +kernel
theorem dX11_init_16 : decode cX11_init 16 = .ok (.putfield 13, 3) := by decide +kernel
theorem dX11_init_19 : decode cX11_init 19 = .ok (.aload_n 0, 1) := by decide +kernel
theorem dX11_init_20 : decode cX11_init 20 = .ok (.iconst 5, 1) := by decide +kernel
theorem dX11_init_21 : decode cX11_init 21 = .ok (.newarray .int, 2) := by decide +kernel
theorem dX11_init_23 : decode cX11_init 23 = .ok (.putfield 16, 3) := by decide +kernel
theorem dX11_init_26 : decode cX11_init 26 = .ok (.aload_n 0, 1) := by decide +kernel
theorem dX11_init_27 : decode cX11_init 27 = .ok (.sipush 300, 3) := by decide +kernel
theorem dX11_init_30 : decode cX11_init 30 = .ok (.newarray .int, 2) := by decide +kernel
theorem dX11_init_32 : decode cX11_init 32 = .ok (.putfield 19, 3) := by decide +kernel
theorem dX11_init_35 : decode cX11_init 35 = .ok (.aload_n 0, 1) := by decide +kernel
theorem dX11_init_36 : decode cX11_init 36 = .ok (.iconst 5, 1) := by decide +kernel
theorem dX11_init_37 : decode cX11_init 37 = .ok (.newarray .int, 2) := by decide +kernel
theorem dX11_init_39 : decode cX11_init 39 = .ok (.putfield 22, 3) := by decide +kernel
theorem dX11_init_42 : decode cX11_init 42 = .ok (.aload_n 0, 1) := by decide +kernel
theorem dX11_init_43 : decode cX11_init 43 = .ok (.iconst 1, 1) := by decide +kernel
theorem dX11_init_44 : decode cX11_init 44 = .ok (.putfield 25, 3) := by decide +kernel
theorem dX11_init_47 : decode cX11_init 47 = .ok (.aload_n 0, 1) := by decide +kernel
theorem dX11_init_48 : decode cX11_init 48 = .ok (.bipush 6, 2) := by decide +kernel
theorem dX11_init_50 : decode cX11_init 50 = .ok (.putfield 29, 3) := by decide +kernel
theorem dX11_init_53 : decode cX11_init 53 = .ok (.aload_n 0, 1) := by decide +kernel
theorem dX11_init_54 : decode cX11_init 54 = .ok (.bipush 60, 2) := by decide +kernel
theorem dX11_init_56 : decode cX11_init 56 = .ok (.newarray .char, 2) := by decide +kernel
theorem dX11_init_58 : decode cX11_init 58 = .ok (.putfield 32, 3) := by decide +kernel
theorem dX11_init_61 : decode cX11_init 61 = .ok (.aload_n 0, 1) := by decide +kernel
theorem dX11_init_62 : decode cX11_init 62 = .ok (.iconst (-1), 1) := by decide +kernel
theorem dX11_init_63 : decode cX11_init 63 = .ok (.putfield 36, 3) := by decide +kernel
theorem dX11_init_66 : decode cX11_init 66 = .ok (.aload_n 0, 1) := by decide +kernel
theorem dX11_init_67 : decode cX11_init 67 = .ok (.bipush 60, 2) := by decide +kernel
theorem dX11_init_69 : decode cX11_init 69 = .ok (.newarray .int, 2) := by decide +kernel
theorem dX11_init_71 : decode cX11_init 71 = .ok (.putfield 39, 3) := by decide +kernel
theorem dX11_init_74 : decode cX11_init 74 = .ok (.aload_n 0, 1) := by decide +kernel
theorem dX11_init_75 : decode cX11_init 75 = .ok (.bipush 60, 2) := by decide +kernel
theorem dX11_init_77 : decode cX11_init 77 = .ok (.newarray .boolean, 2) := by decide +kernel
theorem dX11_init_79 : decode cX11_init 79 = .ok (.putfield 42, 3) := by decide +kernel
theorem dX11_init_82 : decode cX11_init 82 = .ok (.aload_n 0, 1) := by decide +kernel
theorem dX11_init_83 : decode cX11_init 83 = .ok (.bipush 100, 2) := by decide +kernel
theorem dX11_init_85 : decode cX11_init 85 = .ok (.newarray .boolean, 2) := by decide +kernel
theorem dX11_init_87 : decode cX11_init 87 = .ok (.putfield 46, 3) := by decide +kernel
theorem dX11_init_90 : decode cX11_init 90 = .ok (.aload_n 0, 1) := by decide +kernel
theorem dX11_init_91 : decode cX11_init 91 = .ok (.sipush 29524, 3) := by decide +kernel
theorem dX11_init_94 : decode cX11_init 94 = .ok (.newarray .boolean, 2) := by decide +kernel
theorem dX11_init_96 : decode cX11_init 96 = .ok (.putfield 49, 3) := by decide +kernel
theorem dX11_init_99 : decode cX11_init 99 = .ok (.aload_n 0, 1) := by decide +kernel
theorem dX11_init_100 : decode cX11_init 100 = .ok (.sipush 29524, 3) := by decide +kernel
theorem dX11_init_103 : decode cX11_init 103 = .ok (.newarray .int, 2) := by decide +kernel
theorem dX11_init_105 : decode cX11_init 105 = .ok (.putfield 52, 3) := by decide +kernel
theorem dX11_init_108 : decode cX11_init 108 = .ok (.aload_n 0, 1) := by decide +kernel
theorem dX11_init_109 : decode cX11_init 109 = .ok (.iconst 5, 1) := by decide +kernel
theorem dX11_init_110 : decode cX11_init 110 = .ok (.newarray .int, 2) := by decide +kernel
theorem dX11_init_112 : decode cX11_init 112 = .ok (.putfield 55, 3) := by decide +kernel
theorem dX11_init_115 : decode cX11_init 115 = .ok (.aload_n 0, 1) := by decide +kernel
theorem dX11_init_116 : decode cX11_init 116 = .ok (.sipush 29524, 3) := by decide +kernel
theorem dX11_init_119 : decode cX11_init 119 = .ok (.newarray .boolean, 2) := by decide +kernel
theorem dX11_init_121 : decode cX11_init 121 = .ok (.putfield 58, 3) := by decide +kernel
theorem dX11_init_124 : decode cX11_init 124 = .ok (.aload_n 0, 1) := by decide +kernel
theorem dX11_init_125 : decode cX11_init 125 = .ok (.sipush 29524, 3) := by decide +kernel
theorem dX11_init_128 : decode cX11_init 128 = .ok (.newarray .int, 2) := by decide +kernel
theorem dX11_init_130 : decode cX11_init 130 = .ok (.putfield 61, 3) := by decide +kernel
theorem dX11_init_133 : decode cX11_init 133 = .ok (.aload_n 0, 1) := by decide +kernel
theorem dX11_init_134 : decode cX11_init 134 = .ok (.sipush 29524, 3) := by decide +kernel
theorem dX11_init_137 : decode cX11_init 137 = .ok (.newarray .int, 2) := by decide +kernel
theorem dX11_init_139 : decode cX11_init 139 = .ok (.putfield 64, 3) := by decide +kernel
theorem dX11_init_142 : decode cX11_init 142 = .ok (.aload_n 0, 1) := by decide +kernel
theorem dX11_init_143 : decode cX11_init 143 = .ok (.sipush 29524, 3) := by decide +kernel
theorem dX11_init_146 : decode cX11_init 146 = .ok (.newarray .long, 2) := by decide +kernel
theorem dX11_init_148 : decode cX11_init 148 = .ok (.putfield 67, 3) := by decide +kernel
theorem dX11_init_151 : decode cX11_init 151 = .ok (.aload_n 0, 1) := by decide +kernel
theorem dX11_init_152 : decode cX11_init 152 = .ok (.sipush 500, 3) := by decide +kernel
theorem dX11_init_155 : decode cX11_init 155 = .ok (.newarray .int, 2) := by decide +kernel
theorem dX11_init_157 : decode cX11_init 157 = .ok (.putfield 71, 3) := by decide +kernel
theorem dX11_init_160 : decode cX11_init 160 = .ok (.aload_n 0, 1) := by decide +kernel
theorem dX11_init_161 : decode cX11_init 161 = .ok (.sipush 500, 3) := by decide +kernel
theorem dX11_init_164 : decode cX11_init 164 = .ok (.newarray .int, 2) := by decide +kernel
theorem dX11_init_166 : decode cX11_init 166 = .ok (.putfield 74, 3) := by decide +kernel
theorem dX11_init_169 : decode cX11_init 169 = .ok (.aload_n 0, 1) := by decide +kernel
theorem dX11_init_170 : decode cX11_init 170 = .ok (.iconst 3, 1) := by decide +kernel
theorem dX11_init_171 : decode cX11_init 171 = .ok (.newarray .int, 2) := by decide +kernel
theorem dX11_init_173 : decode cX11_init 173 = .ok (.dup, 1) := by decide +kernel
theorem dX11_init_174 : decode cX11_init 174 = .ok (.iconst 0, 1) := by decide +kernel
theorem dX11_init_175 : decode cX11_init 175 = .ok (.iconst (-1), 1) := by decide +kernel
theorem dX11_init_176 : decode cX11_init 176 = .ok (.iastore, 1) := by decide +kernel
theorem dX11_init_177 : decode cX11_init 177 = .ok (.dup, 1) := by decide +kernel
theorem dX11_init_178 : decode cX11_init 178 = .ok (.iconst 1, 1) := by decide +kernel
theorem dX11_init_179 : decode cX11_init 179 = .ok (.iconst (-1), 1) := by decide +kernel
theorem dX11_init_180 : decode cX11_init 180 = .ok (.iastore, 1) := by decide +kernel
theorem dX11_init_181 : decode cX11_init 181 = .ok (.dup, 1) := by decide +kernel
theorem dX11_init_182 : decode cX11_init 182 = .ok (.iconst 2, 1) := by decide +kernel
theorem dX11_init_183 : decode cX11_init 183 = .ok (.iconst (-1), 1) := by decide +kernel
theorem dX11_init_184 : decode cX11_init 184 = .ok (.iastore, 1) := by decide +kernel
theorem dX11_init_185 : decode cX11_init 185 = .ok (.putfield 77, 3) := by decide +kernel
theorem dX11_init_188 : decode cX11_init 188 = .ok (.aload_n 0, 1) := by decide +kernel
theorem dX11_init_189 : decode cX11_init 189 = .ok (.iconst 3, 1) := by decide +kernel
theorem dX11_init_190 : decode cX11_init 190 = .ok (.newarray .int, 2) := by decide +kernel
theorem dX11_init_192 : decode cX11_init 192 = .ok (.putfield 80, 3) := by decide +kernel
theorem dX11_init_195 : decode cX11_init 195 = .ok (.aload_n 0, 1) := by decide +kernel
theorem dX11_init_196 : decode cX11_init 196 = .ok (.bipush 60, 2) := by decide +kernel
theorem dX11_init_198 : decode cX11_init 198 = .ok (.newarray .int, 2) := by decide +kernel
theorem dX11_init_200 : decode cX11_init 200 = .ok (.putfield 83, 3) := by decide +kernel
theorem dX11_init_203 : decode cX11_init 203 = .ok (.aload_n 0, 1) := by decide +kernel
theorem dX11_init_204 : decode cX11_init 204 = .ok (.bipush 6, 2) := by decide +kernel
theorem dX11_init_206 : decode cX11_init 206 = .ok (.newarray .int, 2) := by decide +kernel
theorem dX11_init_208 : decode cX11_init 208 = .ok (.putfield 86, 3) := by decide +kernel
theorem dX11_init_211 : decode cX11_init 211 = .ok (.aload_n 0, 1) := by decide +kernel
theorem dX11_init_212 : decode cX11_init 212 = .ok (.iconst 5, 1) := by decide +kernel
theorem dX11_init_213 : decode cX11_init 213 = .ok (.newarray .int, 2) := by decide +kernel
theorem dX11_init_215 : decode cX11_init 215 = .ok (.putfield 89, 3) := by decide +kernel
theorem dX11_init_218 : decode cX11_init 218 = .ok (.aload_n 0, 1) := by decide +kernel
theorem dX11_init_219 : decode cX11_init 219 = .ok (.iconst 5, 1) := by decide +kernel
theorem dX11_init_220 : decode cX11_init 220 = .ok (.newarray .int, 2) := by decide +kernel
theorem dX11_init_222 : decode cX11_init 222 = .ok (.putfield 92, 3) := by decide +kernel
theorem dX11_init_225 : decode cX11_init 225 = .ok (.aload_n 0, 1) := by decide +kernel
theorem dX11_init_226 : decode cX11_init 226 = .ok (.sipush 300, 3) := by decide +kernel
theorem dX11_init_229 : decode cX11_init 229 = .ok (.newarray .int, 2) := by decide +kernel
theorem dX11_init_231 : decode cX11_init 231 = .ok (.putfield 95, 3) := by decide +kernel
theorem dX11_init_234 : decode cX11_init 234 = .ok (.aload_n 0, 1) := by decide +kernel
theorem dX11_init_235 : decode cX11_init 235 = .ok (.iconst 5, 1) := by decide +kernel
theorem dX11_init_236 : decode cX11_init 236 = .ok (.newarray .int, 2) := by decide +kernel
theorem dX11_init_238 : decode cX11_init 238 = .ok (.putfield 98, 3) := by decide +kernel
theorem dX11_init_241 : decode cX11_init 241 = .ok (.aload_n 0, 1) := by decide +kernel
theorem dX11_init_242 : decode cX11_init 242 = .ok (.iconst 5, 1) := by decide +kernel
theorem dX11_init_243 : decode cX11_init 243 = .ok (.newarray .int, 2) := by decide +kernel
theorem dX11_init_245 : decode cX11_init 245 = .ok (.putfield 101, 3) := by decide +kernel
theorem dX11_init_248 : decode cX11_init 248 = .ok (.return_, 1) := by decide +kernel
theorem dX11_isIn_0 : decode cX11_isIn 0 = .ok (.iload_n 0, 1) := by decide +kernel
theorem dX11_isIn_1 : decode cX11_isIn 1 = .ok (.iload_n 1, 1) := by decide +kernel
theorem dX11_isIn_2 : decode cX11_isIn 2 = .ok (.if_icmp .lt 12, 3) := by decide +kernel
theorem dX11_isIn_5 : decode cX11_isIn 5 = .ok (.iload_n 0, 1) := by decide +kernel
theorem dX11_isIn_6 : decode cX11_isIn 6 = .ok (.iload_n 2, 1) := by decide +kernel
theorem dX11_isIn_7 : decode cX11_isIn 7 = .ok (.if_icmp .gt 7, 3) := by decide +kernel
theorem dX11_isIn_10 : decode cX11_isIn 10 = .ok (.iconst 1, 1) := by decide +kernel
theorem dX11_isIn_11 : decode cX11_isIn 11 = .ok (.goto 4, 3) := by decide +kernel
theorem dX11_isIn_14 : decode cX11_isIn 14 = .ok (.iconst 0, 1) := by decide +kernel
theorem dX11_isIn_15 : decode cX11_isIn 15 = .ok (.ireturn, 1) := by decide +kernel
theorem dX11_thrown_0 : decode cX11_thrown 0 = .ok (.aload_n 0, 1) := by decide +kernel
theorem dX11_thrown_1 : decode cX11_thrown 1 = .ok (.getfield 104, 3) := by decide +kernel
theorem dX11_thrown_4 : decode cX11_thrown 4 = .ok (.ireturn, 1) := by decide +kernel
theorem dX11_fail_0 : decode cX11_fail 0 = .ok (.aload_n 0, 1) := by decide +kernel
theorem dX11_fail_1 : decode cX11_fail 1 = .ok (.iload_n 1, 1) := by decide +kernel
theorem dX11_fail_2 : decode cX11_fail 2 = .ok (.putfield 104, 3) := by decide +kernel
theorem dX11_fail_5 : decode cX11_fail 5 = .ok (.iconst 0, 1) := by decide +kernel
theorem dX11_fail_6 : decode cX11_fail 6 = .ok (.ireturn, 1) := by decide +kernel
theorem dX11_power_0 : decode cX11_power 0 = .ok (.iconst 1, 1) := by decide +kernel
theorem dX11_power_1 : decode cX11_power 1 = .ok (.istore_n 1, 1) := by decide +kernel
theorem dX11_power_2 : decode cX11_power 2 = .ok (.iconst 0, 1) := by decide +kernel
theorem dX11_power_3 : decode cX11_power 3 = .ok (.istore_n 2, 1) := by decide +kernel
theorem dX11_power_4 : decode cX11_power 4 = .ok (.iload_n 2, 1) := by decide +kernel
theorem dX11_power_5 : decode cX11_power 5 = .ok (.iload_n 0, 1) := by decide +kernel
theorem dX11_power_6 : decode cX11_power 6 = .ok (.if_icmp .ge 13, 3) := by decide +kernel
theorem dX11_power_9 : decode cX11_power 9 = .ok (.iload_n 1, 1) := by decide +kernel
theorem dX11_power_10 : decode cX11_power 10 = .ok (.iconst 3, 1) := by decide +kernel
theorem dX11_power_11 : decode cX11_power 11 = .ok (.imul, 1) := by decide +kernel
theorem dX11_power_12 : decode cX11_power 12 = .ok (.istore_n 1, 1) := by decide +kernel
theorem dX11_power_13 : decode cX11_power 13 = .ok (.iinc 2 1, 3) := by decide +kernel
theorem dX11_power_16 : decode cX11_power 16 = .ok (.goto (-12), 3) := by decide +kernel
theorem dX11_power_19 : decode cX11_power 19 = .ok (.iload_n 1, 1) := by decide +kernel
theorem dX11_power_20 : decode cX11_power 20 = .ok (.ireturn, 1) := by decide +kernel
theorem dX11_first_0 : decode cX11_first 0 = .ok (.iload_n 0, 1) := by decide +kernel
theorem dX11_first_1 : decode cX11_first 1 = .ok (.invokestatic 107, 3) := by decide +kernel
theorem dX11_first_4 : decode cX11_first 4 = .ok (.iconst 1, 1) := by decide +kernel
theorem dX11_first_5 : decode cX11_first 5 = .ok (.isub, 1) := by decide +kernel
theorem dX11_first_6 : decode cX11_first 6 = .ok (.iconst 2, 1) := by decide +kernel
theorem dX11_first_7 : decode cX11_first 7 = .ok (.idiv, 1) := by decide +kernel
theorem dX11_first_8 : decode cX11_first 8 = .ok (.ireturn, 1) := by decide +kernel
theorem dX11_lengthOf_0 : decode cX11_lengthOf 0 = .ok (.iconst 0, 1) := by decide +kernel
theorem dX11_lengthOf_1 : decode cX11_lengthOf 1 = .ok (.istore_n 1, 1) := by decide +kernel
theorem dX11_lengthOf_2 : decode cX11_lengthOf 2 = .ok (.iload_n 0, 1) := by decide +kernel
theorem dX11_lengthOf_3 : decode cX11_lengthOf 3 = .ok (.iload_n 1, 1) := by decide +kernel
theorem dX11_lengthOf_4 : decode cX11_lengthOf 4 = .ok (.iconst 1, 1) := by decide +kernel
theorem dX11_lengthOf_5 : decode cX11_lengthOf 5 = .ok (.iadd, 1) := by decide +kernel
theorem dX11_lengthOf_6 : decode cX11_lengthOf 6 = .ok (.invokestatic 111, 3) := by decide +kernel
theorem dX11_lengthOf_9 : decode cX11_lengthOf 9 = .ok (.if_icmp .lt 9, 3) := by decide +kernel
theorem dX11_lengthOf_12 : decode cX11_lengthOf 12 = .ok (.iinc 1 1, 3) := by decide +kernel
theorem dX11_lengthOf_15 : decode cX11_lengthOf 15 = .ok (.goto (-13), 3) := by decide +kernel
theorem dX11_lengthOf_18 : decode cX11_lengthOf 18 = .ok (.iload_n 1, 1) := by decide +kernel
theorem dX11_lengthOf_19 : decode cX11_lengthOf 19 = .ok (.ireturn, 1) := by decide +kernel
theorem dX11_part_0 : decode cX11_part 0 = .ok (.iload_n 0, 1) := by decide +kernel
theorem dX11_part_1 : decode cX11_part 1 = .ok (.iload_n 1, 1) := by decide +kernel
theorem dX11_part_2 : decode cX11_part 2 = .ok (.invokestatic 111, 3) := by decide +kernel
theorem dX11_part_5 : decode cX11_part 5 = .ok (.isub, 1) := by decide +kernel
theorem dX11_part_6 : decode cX11_part 6 = .ok (.iload_n 1, 1) := by decide +kernel
theorem dX11_part_7 : decode cX11_part 7 = .ok (.iload_n 3, 1) := by decide +kernel
theorem dX11_part_8 : decode cX11_part 8 = .ok (.isub, 1) := by decide +kernel
theorem dX11_part_9 : decode cX11_part 9 = .ok (.invokestatic 107, 3) := by decide +kernel
theorem dX11_part_12 : decode cX11_part 12 = .ok (.idiv, 1) := by decide +kernel
theorem dX11_part_13 : decode cX11_part 13 = .ok (.iload_n 3, 1) := by decide +kernel
theorem dX11_part_14 : decode cX11_part 14 = .ok (.iload_n 2, 1) := by decide +kernel
theorem dX11_part_15 : decode cX11_part 15 = .ok (.isub, 1) := by decide +kernel
theorem dX11_part_16 : decode cX11_part 16 = .ok (.invokestatic 107, 3) := by decide +kernel
theorem dX11_part_19 : decode cX11_part 19 = .ok (.irem, 1) := by decide +kernel
theorem dX11_part_20 : decode cX11_part 20 = .ok (.istore 4, 2) := by decide +kernel
theorem dX11_part_22 : decode cX11_part 22 = .ok (.iload_n 3, 1) := by decide +kernel
theorem dX11_part_23 : decode cX11_part 23 = .ok (.iload_n 2, 1) := by decide +kernel
theorem dX11_part_24 : decode cX11_part 24 = .ok (.isub, 1) := by decide +kernel
theorem dX11_part_25 : decode cX11_part 25 = .ok (.invokestatic 111, 3) := by decide +kernel
theorem dX11_part_28 : decode cX11_part 28 = .ok (.iload 4, 2) := by decide +kernel
theorem dX11_part_30 : decode cX11_part 30 = .ok (.iadd, 1) := by decide +kernel
theorem dX11_part_31 : decode cX11_part 31 = .ok (.ireturn, 1) := by decide +kernel
theorem dX11_joined_0 : decode cX11_joined 0 = .ok (.iload_n 0, 1) := by decide +kernel
theorem dX11_joined_1 : decode cX11_joined 1 = .ok (.invokestatic 114, 3) := by decide +kernel
theorem dX11_joined_4 : decode cX11_joined 4 = .ok (.istore_n 2, 1) := by decide +kernel
theorem dX11_joined_5 : decode cX11_joined 5 = .ok (.iload_n 1, 1) := by decide +kernel
theorem dX11_joined_6 : decode cX11_joined 6 = .ok (.invokestatic 114, 3) := by decide +kernel
theorem dX11_joined_9 : decode cX11_joined 9 = .ok (.istore_n 3, 1) := by decide +kernel
theorem dX11_joined_10 : decode cX11_joined 10 = .ok (.iload_n 2, 1) := by decide +kernel
theorem dX11_joined_11 : decode cX11_joined 11 = .ok (.iload_n 3, 1) := by decide +kernel
theorem dX11_joined_12 : decode cX11_joined 12 = .ok (.iadd, 1) := by decide +kernel
theorem dX11_joined_13 : decode cX11_joined 13 = .ok (.invokestatic 111, 3) := by decide +kernel
theorem dX11_joined_16 : decode cX11_joined 16 = .ok (.iload_n 0, 1) := by decide +kernel
theorem dX11_joined_17 : decode cX11_joined 17 = .ok (.iload_n 2, 1) := by decide +kernel
theorem dX11_joined_18 : decode cX11_joined 18 = .ok (.invokestatic 111, 3) := by decide +kernel
theorem dX11_joined_21 : decode cX11_joined 21 = .ok (.isub, 1) := by decide +kernel
theorem dX11_joined_22 : decode cX11_joined 22 = .ok (.iload_n 3, 1) := by decide +kernel
theorem dX11_joined_23 : decode cX11_joined 23 = .ok (.invokestatic 107, 3) := by decide +kernel
theorem dX11_joined_26 : decode cX11_joined 26 = .ok (.imul, 1) := by decide +kernel
theorem dX11_joined_27 : decode cX11_joined 27 = .ok (.iadd, 1) := by decide +kernel
theorem dX11_joined_28 : decode cX11_joined 28 = .ok (.iload_n 1, 1) := by decide +kernel
theorem dX11_joined_29 : decode cX11_joined 29 = .ok (.iadd, 1) := by decide +kernel
theorem dX11_joined_30 : decode cX11_joined 30 = .ok (.iload_n 3, 1) := by decide +kernel
theorem dX11_joined_31 : decode cX11_joined 31 = .ok (.invokestatic 111, 3) := by decide +kernel
theorem dX11_joined_34 : decode cX11_joined 34 = .ok (.isub, 1) := by decide +kernel
theorem dX11_joined_35 : decode cX11_joined 35 = .ok (.ireturn, 1) := by decide +kernel
theorem dX11_letter_0 : decode cX11_letter 0 = .ok (.iload_n 0, 1) := by decide +kernel
theorem dX11_letter_1 : decode cX11_letter 1 = .ok (.iload_n 1, 1) := by decide +kernel
theorem dX11_letter_2 : decode cX11_letter 2 = .ok (.iload_n 2, 1) := by decide +kernel
theorem dX11_letter_3 : decode cX11_letter 3 = .ok (.iload_n 2, 1) := by decide +kernel
theorem dX11_letter_4 : decode cX11_letter 4 = .ok (.iconst 1, 1) := by decide +kernel
theorem dX11_letter_5 : decode cX11_letter 5 = .ok (.iadd, 1) := by decide +kernel
theorem dX11_letter_6 : decode cX11_letter 6 = .ok (.invokestatic 117, 3) := by decide +kernel
theorem dX11_letter_9 : decode cX11_letter 9 = .ok (.iconst 1, 1) := by decide +kernel
theorem dX11_letter_10 : decode cX11_letter 10 = .ok (.isub, 1) := by decide +kernel
theorem dX11_letter_11 : decode cX11_letter 11 = .ok (.ireturn, 1) := by decide +kernel
theorem dX11_isContext_0 : decode cX11_isContext 0 = .ok (.iload_n 1, 1) := by decide +kernel
theorem dX11_isContext_1 : decode cX11_isContext 1 = .ok (.iconst 0, 1) := by decide +kernel
theorem dX11_isContext_2 : decode cX11_isContext 2 = .ok (.aload_n 0, 1) := by decide +kernel
theorem dX11_isContext_3 : decode cX11_isContext 3 = .ok (.getfield 121, 3) := by decide +kernel
theorem dX11_isContext_6 : decode cX11_isContext 6 = .ok (.iconst 1, 1) := by decide +kernel
theorem dX11_isContext_7 : decode cX11_isContext 7 = .ok (.isub, 1) := by decide +kernel
theorem dX11_isContext_8 : decode cX11_isContext 8 = .ok (.invokestatic 124, 3) := by decide +kernel
theorem dX11_isContext_11 : decode cX11_isContext 11 = .ok (.ireturn, 1) := by decide +kernel
theorem dX11_count_0 : decode cX11_count 0 = .ok (.aload_n 0, 1) := by decide +kernel
theorem dX11_count_1 : decode cX11_count 1 = .ok (.iconst 0, 1) := by decide +kernel
theorem dX11_count_2 : decode cX11_count 2 = .ok (.putfield 104, 3) := by decide +kernel
theorem dX11_count_5 : decode cX11_count 5 = .ok (.iload_n 1, 1) := by decide +kernel
theorem dX11_count_6 : decode cX11_count 6 = .ok (.tableswitch 59 0 4 #[34, 39, 44, 49, 54], 34) := by decide +kernel
theorem dX11_count_40 : decode cX11_count 40 = .ok (.aload_n 0, 1) := by decide +kernel
theorem dX11_count_41 : decode cX11_count 41 = .ok (.getfield 128, 3) := by decide +kernel
theorem dX11_count_44 : decode cX11_count 44 = .ok (.ireturn, 1) := by decide +kernel
theorem dX11_count_45 : decode cX11_count 45 = .ok (.aload_n 0, 1) := by decide +kernel
theorem dX11_count_46 : decode cX11_count 46 = .ok (.getfield 121, 3) := by decide +kernel
theorem dX11_count_49 : decode cX11_count 49 = .ok (.ireturn, 1) := by decide +kernel
theorem dX11_count_50 : decode cX11_count 50 = .ok (.aload_n 0, 1) := by decide +kernel
theorem dX11_count_51 : decode cX11_count 51 = .ok (.getfield 25, 3) := by decide +kernel
theorem dX11_count_54 : decode cX11_count 54 = .ok (.ireturn, 1) := by decide +kernel
theorem dX11_count_55 : decode cX11_count 55 = .ok (.aload_n 0, 1) := by decide +kernel
theorem dX11_count_56 : decode cX11_count 56 = .ok (.getfield 29, 3) := by decide +kernel
theorem dX11_count_59 : decode cX11_count 59 = .ok (.ireturn, 1) := by decide +kernel
theorem dX11_count_60 : decode cX11_count 60 = .ok (.aload_n 0, 1) := by decide +kernel
theorem dX11_count_61 : decode cX11_count 61 = .ok (.getfield 131, 3) := by decide +kernel
theorem dX11_count_64 : decode cX11_count 64 = .ok (.ireturn, 1) := by decide +kernel
theorem dX11_count_65 : decode cX11_count 65 = .ok (.aload_n 0, 1) := by decide +kernel
theorem dX11_count_66 : decode cX11_count 66 = .ok (.iconst 1, 1) := by decide +kernel
theorem dX11_count_67 : decode cX11_count 67 = .ok (.invokevirtual 134, 3) := by decide +kernel
theorem dX11_count_70 : decode cX11_count 70 = .ok (.ireturn, 1) := by decide +kernel
theorem dX11_removeAxiom_0 : decode cX11_removeAxiom 0 = .ok (.aload_n 0, 1) := by decide +kernel
theorem dX11_removeAxiom_1 : decode cX11_removeAxiom 1 = .ok (.iconst 0, 1) := by decide +kernel
theorem dX11_removeAxiom_2 : decode cX11_removeAxiom 2 = .ok (.putfield 104, 3) := by decide +kernel
theorem dX11_removeAxiom_5 : decode cX11_removeAxiom 5 = .ok (.iload_n 1, 1) := by decide +kernel
theorem dX11_removeAxiom_6 : decode cX11_removeAxiom 6 = .ok (.iconst 0, 1) := by decide +kernel
theorem dX11_removeAxiom_7 : decode cX11_removeAxiom 7 = .ok (.aload_n 0, 1) := by decide +kernel
theorem dX11_removeAxiom_8 : decode cX11_removeAxiom 8 = .ok (.getfield 128, 3) := by decide +kernel
theorem dX11_removeAxiom_11 : decode cX11_removeAxiom 11 = .ok (.iconst 1, 1) := by decide +kernel
theorem dX11_removeAxiom_12 : decode cX11_removeAxiom 12 = .ok (.isub, 1) := by decide +kernel
theorem dX11_removeAxiom_13 : decode cX11_removeAxiom 13 = .ok (.invokestatic 124, 3) := by decide +kernel
theorem dX11_removeAxiom_16 : decode cX11_removeAxiom 16 = .ok (.ifCond .ne 9, 3) := by decide +kernel
theorem dX11_removeAxiom_19 : decode cX11_removeAxiom 19 = .ok (.aload_n 0, 1) := by decide +kernel
theorem dX11_removeAxiom_20 : decode cX11_removeAxiom 20 = .ok (.iconst 1, 1) := by decide +kernel
theorem dX11_removeAxiom_21 : decode cX11_removeAxiom 21 = .ok (.putfield 104, 3) := by decide +kernel
theorem dX11_removeAxiom_24 : decode cX11_removeAxiom 24 = .ok (.return_, 1) := by decide +kernel
theorem dX11_removeAxiom_25 : decode cX11_removeAxiom 25 = .ok (.aload_n 0, 1) := by decide +kernel
theorem dX11_removeAxiom_26 : decode cX11_removeAxiom 26 = .ok (.dup, 1) := by decide +kernel
theorem dX11_removeAxiom_27 : decode cX11_removeAxiom 27 = .ok (.getfield 128, 3) := by decide +kernel
theorem dX11_removeAxiom_30 : decode cX11_removeAxiom 30 = .ok (.iconst 1, 1) := by decide +kernel
theorem dX11_removeAxiom_31 : decode cX11_removeAxiom 31 = .ok (.isub, 1) := by decide +kernel
theorem dX11_removeAxiom_32 : decode cX11_removeAxiom 32 = .ok (.putfield 128, 3) := by decide +kernel
theorem dX11_removeAxiom_35 : decode cX11_removeAxiom 35 = .ok (.iload_n 1, 1) := by decide +kernel
theorem dX11_removeAxiom_36 : decode cX11_removeAxiom 36 = .ok (.istore_n 2, 1) := by decide +kernel
theorem dX11_removeAxiom_37 : decode cX11_removeAxiom 37 = .ok (.iload_n 2, 1) := by decide +kernel
theorem dX11_removeAxiom_38 : decode cX11_removeAxiom 38 = .ok (.aload_n 0, 1) := by decide +kernel
theorem dX11_removeAxiom_39 : decode cX11_removeAxiom 39 = .ok (.getfield 128, 3) := by decide +kernel
theorem dX11_removeAxiom_42 : decode cX11_removeAxiom 42 = .ok (.if_icmp .ge 23, 3) := by decide +kernel
theorem dX11_removeAxiom_45 : decode cX11_removeAxiom 45 = .ok (.aload_n 0, 1) := by decide +kernel
theorem dX11_removeAxiom_46 : decode cX11_removeAxiom 46 = .ok (.getfield 7, 3) := by decide +kernel
theorem dX11_removeAxiom_49 : decode cX11_removeAxiom 49 = .ok (.iload_n 2, 1) := by decide +kernel
theorem dX11_removeAxiom_50 : decode cX11_removeAxiom 50 = .ok (.aload_n 0, 1) := by decide +kernel
theorem dX11_removeAxiom_51 : decode cX11_removeAxiom 51 = .ok (.getfield 7, 3) := by decide +kernel
theorem dX11_removeAxiom_54 : decode cX11_removeAxiom 54 = .ok (.iload_n 2, 1) := by decide +kernel
theorem dX11_removeAxiom_55 : decode cX11_removeAxiom 55 = .ok (.iconst 1, 1) := by decide +kernel
theorem dX11_removeAxiom_56 : decode cX11_removeAxiom 56 = .ok (.iadd, 1) := by decide +kernel
theorem dX11_removeAxiom_57 : decode cX11_removeAxiom 57 = .ok (.iaload, 1) := by decide +kernel
theorem dX11_removeAxiom_58 : decode cX11_removeAxiom 58 = .ok (.iastore, 1) := by decide +kernel
theorem dX11_removeAxiom_59 : decode cX11_removeAxiom 59 = .ok (.iinc 2 1, 3) := by decide +kernel
theorem dX11_removeAxiom_62 : decode cX11_removeAxiom 62 = .ok (.goto (-25), 3) := by decide +kernel
theorem dX11_removeAxiom_65 : decode cX11_removeAxiom 65 = .ok (.return_, 1) := by decide +kernel
theorem dX11_removeContext_0 : decode cX11_removeContext 0 = .ok (.aload_n 0, 1) := by decide +kernel
theorem dX11_removeContext_1 : decode cX11_removeContext 1 = .ok (.iconst 0, 1) := by decide +kernel
theorem dX11_removeContext_2 : decode cX11_removeContext 2 = .ok (.putfield 104, 3) := by decide +kernel
theorem dX11_removeContext_5 : decode cX11_removeContext 5 = .ok (.aload_n 0, 1) := by decide +kernel
theorem dX11_removeContext_6 : decode cX11_removeContext 6 = .ok (.iload_n 1, 1) := by decide +kernel
theorem dX11_removeContext_7 : decode cX11_removeContext 7 = .ok (.invokevirtual 137, 3) := by decide +kernel
theorem dX11_removeContext_10 : decode cX11_removeContext 10 = .ok (.ifCond .ne 9, 3) := by decide +kernel
theorem dX11_removeContext_13 : decode cX11_removeContext 13 = .ok (.aload_n 0, 1) := by decide +kernel
theorem dX11_removeContext_14 : decode cX11_removeContext 14 = .ok (.iconst 1, 1) := by decide +kernel
theorem dX11_removeContext_15 : decode cX11_removeContext 15 = .ok (.putfield 104, 3) := by decide +kernel
theorem dX11_removeContext_18 : decode cX11_removeContext 18 = .ok (.return_, 1) := by decide +kernel
theorem dX11_removeContext_19 : decode cX11_removeContext 19 = .ok (.aload_n 0, 1) := by decide +kernel
theorem dX11_removeContext_20 : decode cX11_removeContext 20 = .ok (.dup, 1) := by decide +kernel
theorem dX11_removeContext_21 : decode cX11_removeContext 21 = .ok (.getfield 121, 3) := by decide +kernel
theorem dX11_removeContext_24 : decode cX11_removeContext 24 = .ok (.iconst 1, 1) := by decide +kernel
theorem dX11_removeContext_25 : decode cX11_removeContext 25 = .ok (.isub, 1) := by decide +kernel
theorem dX11_removeContext_26 : decode cX11_removeContext 26 = .ok (.putfield 121, 3) := by decide +kernel
theorem dX11_removeContext_29 : decode cX11_removeContext 29 = .ok (.iload_n 1, 1) := by decide +kernel
theorem dX11_removeContext_30 : decode cX11_removeContext 30 = .ok (.istore_n 2, 1) := by decide +kernel
theorem dX11_removeContext_31 : decode cX11_removeContext 31 = .ok (.iload_n 2, 1) := by decide +kernel
theorem dX11_removeContext_32 : decode cX11_removeContext 32 = .ok (.aload_n 0, 1) := by decide +kernel
theorem dX11_removeContext_33 : decode cX11_removeContext 33 = .ok (.getfield 121, 3) := by decide +kernel
theorem dX11_removeContext_36 : decode cX11_removeContext 36 = .ok (.if_icmp .ge 89, 3) := by decide +kernel
theorem dX11_removeContext_39 : decode cX11_removeContext 39 = .ok (.aload_n 0, 1) := by decide +kernel
theorem dX11_removeContext_40 : decode cX11_removeContext 40 = .ok (.getfield 13, 3) := by decide +kernel
theorem dX11_removeContext_43 : decode cX11_removeContext 43 = .ok (.iload_n 2, 1) := by decide +kernel
theorem dX11_removeContext_44 : decode cX11_removeContext 44 = .ok (.aload_n 0, 1) := by decide +kernel
theorem dX11_removeContext_45 : decode cX11_removeContext 45 = .ok (.getfield 13, 3) := by decide +kernel
theorem dX11_removeContext_48 : decode cX11_removeContext 48 = .ok (.iload_n 2, 1) := by decide +kernel
theorem dX11_removeContext_49 : decode cX11_removeContext 49 = .ok (.iconst 1, 1) := by decide +kernel
theorem dX11_removeContext_50 : decode cX11_removeContext 50 = .ok (.iadd, 1) := by decide +kernel
theorem dX11_removeContext_51 : decode cX11_removeContext 51 = .ok (.iaload, 1) := by decide +kernel
theorem dX11_removeContext_52 : decode cX11_removeContext 52 = .ok (.iastore, 1) := by decide +kernel
theorem dX11_removeContext_53 : decode cX11_removeContext 53 = .ok (.aload_n 0, 1) := by decide +kernel
theorem dX11_removeContext_54 : decode cX11_removeContext 54 = .ok (.getfield 16, 3) := by decide +kernel
theorem dX11_removeContext_57 : decode cX11_removeContext 57 = .ok (.iload_n 2, 1) := by decide +kernel
theorem dX11_removeContext_58 : decode cX11_removeContext 58 = .ok (.aload_n 0, 1) := by decide +kernel
theorem dX11_removeContext_59 : decode cX11_removeContext 59 = .ok (.getfield 16, 3) := by decide +kernel
theorem dX11_removeContext_62 : decode cX11_removeContext 62 = .ok (.iload_n 2, 1) := by decide +kernel
theorem dX11_removeContext_63 : decode cX11_removeContext 63 = .ok (.iconst 1, 1) := by decide +kernel
theorem dX11_removeContext_64 : decode cX11_removeContext 64 = .ok (.iadd, 1) := by decide +kernel
theorem dX11_removeContext_65 : decode cX11_removeContext 65 = .ok (.iaload, 1) := by decide +kernel
theorem dX11_removeContext_66 : decode cX11_removeContext 66 = .ok (.iastore, 1) := by decide +kernel
theorem dX11_removeContext_67 : decode cX11_removeContext 67 = .ok (.aload_n 0, 1) := by decide +kernel
theorem dX11_removeContext_68 : decode cX11_removeContext 68 = .ok (.getfield 22, 3) := by decide +kernel
theorem dX11_removeContext_71 : decode cX11_removeContext 71 = .ok (.iload_n 2, 1) := by decide +kernel
theorem dX11_removeContext_72 : decode cX11_removeContext 72 = .ok (.aload_n 0, 1) := by decide +kernel
theorem dX11_removeContext_73 : decode cX11_removeContext 73 = .ok (.getfield 22, 3) := by decide +kernel
theorem dX11_removeContext_76 : decode cX11_removeContext 76 = .ok (.iload_n 2, 1) := by decide +kernel
theorem dX11_removeContext_77 : decode cX11_removeContext 77 = .ok (.iconst 1, 1) := by decide +kernel
theorem dX11_removeContext_78 : decode cX11_removeContext 78 = .ok (.iadd, 1) := by decide +kernel
theorem dX11_removeContext_79 : decode cX11_removeContext 79 = .ok (.iaload, 1) := by decide +kernel
theorem dX11_removeContext_80 : decode cX11_removeContext 80 = .ok (.iastore, 1) := by decide +kernel
theorem dX11_removeContext_81 : decode cX11_removeContext 81 = .ok (.iconst 0, 1) := by decide +kernel
theorem dX11_removeContext_82 : decode cX11_removeContext 82 = .ok (.istore_n 3, 1) := by decide +kernel
theorem dX11_removeContext_83 : decode cX11_removeContext 83 = .ok (.iload_n 3, 1) := by decide +kernel
theorem dX11_removeContext_84 : decode cX11_removeContext 84 = .ok (.bipush 60, 2) := by decide +kernel
theorem dX11_removeContext_86 : decode cX11_removeContext 86 = .ok (.if_icmp .ge 33, 3) := by decide +kernel
theorem dX11_removeContext_89 : decode cX11_removeContext 89 = .ok (.aload_n 0, 1) := by decide +kernel
theorem dX11_removeContext_90 : decode cX11_removeContext 90 = .ok (.getfield 19, 3) := by decide +kernel
theorem dX11_removeContext_93 : decode cX11_removeContext 93 = .ok (.bipush 60, 2) := by decide +kernel
theorem dX11_removeContext_95 : decode cX11_removeContext 95 = .ok (.iload_n 2, 1) := by decide +kernel
theorem dX11_removeContext_96 : decode cX11_removeContext 96 = .ok (.imul, 1) := by decide +kernel
theorem dX11_removeContext_97 : decode cX11_removeContext 97 = .ok (.iload_n 3, 1) := by decide +kernel
theorem dX11_removeContext_98 : decode cX11_removeContext 98 = .ok (.iadd, 1) := by decide +kernel
theorem dX11_removeContext_99 : decode cX11_removeContext 99 = .ok (.aload_n 0, 1) := by decide +kernel
theorem dX11_removeContext_100 : decode cX11_removeContext 100 = .ok (.getfield 19, 3) := by decide +kernel
theorem dX11_removeContext_103 : decode cX11_removeContext 103 = .ok (.bipush 60, 2) := by decide +kernel
theorem dX11_removeContext_105 : decode cX11_removeContext 105 = .ok (.iload_n 2, 1) := by decide +kernel
theorem dX11_removeContext_106 : decode cX11_removeContext 106 = .ok (.iconst 1, 1) := by decide +kernel
theorem dX11_removeContext_107 : decode cX11_removeContext 107 = .ok (.iadd, 1) := by decide +kernel
theorem dX11_removeContext_108 : decode cX11_removeContext 108 = .ok (.imul, 1) := by decide +kernel
theorem dX11_removeContext_109 : decode cX11_removeContext 109 = .ok (.iload_n 3, 1) := by decide +kernel
theorem dX11_removeContext_110 : decode cX11_removeContext 110 = .ok (.iadd, 1) := by decide +kernel
theorem dX11_removeContext_111 : decode cX11_removeContext 111 = .ok (.iaload, 1) := by decide +kernel
theorem dX11_removeContext_112 : decode cX11_removeContext 112 = .ok (.iastore, 1) := by decide +kernel
theorem dX11_removeContext_113 : decode cX11_removeContext 113 = .ok (.iinc 3 1, 3) := by decide +kernel
theorem dX11_removeContext_116 : decode cX11_removeContext 116 = .ok (.goto (-33), 3) := by decide +kernel
theorem dX11_removeContext_119 : decode cX11_removeContext 119 = .ok (.iinc 2 1, 3) := by decide +kernel
theorem dX11_removeContext_122 : decode cX11_removeContext 122 = .ok (.goto (-91), 3) := by decide +kernel
theorem dX11_removeContext_125 : decode cX11_removeContext 125 = .ok (.return_, 1) := by decide +kernel
theorem dX11_append_0 : decode cX11_append 0 = .ok (.aload_n 0, 1) := by decide +kernel
theorem dX11_append_1 : decode cX11_append 1 = .ok (.iconst 0, 1) := by decide +kernel
theorem dX11_append_2 : decode cX11_append 2 = .ok (.putfield 104, 3) := by decide +kernel
theorem dX11_append_5 : decode cX11_append 5 = .ok (.aload_n 0, 1) := by decide +kernel
theorem dX11_append_6 : decode cX11_append 6 = .ok (.getfield 131, 3) := by decide +kernel
theorem dX11_append_9 : decode cX11_append 9 = .ok (.bipush 60, 2) := by decide +kernel
theorem dX11_append_11 : decode cX11_append 11 = .ok (.if_icmp .ne 9, 3) := by decide +kernel
theorem dX11_append_14 : decode cX11_append 14 = .ok (.aload_n 0, 1) := by decide +kernel
theorem dX11_append_15 : decode cX11_append 15 = .ok (.iconst 1, 1) := by decide +kernel
theorem dX11_append_16 : decode cX11_append 16 = .ok (.putfield 104, 3) := by decide +kernel
theorem dX11_append_19 : decode cX11_append 19 = .ok (.return_, 1) := by decide +kernel
theorem dX11_append_20 : decode cX11_append 20 = .ok (.aload_n 0, 1) := by decide +kernel
theorem dX11_append_21 : decode cX11_append 21 = .ok (.getfield 32, 3) := by decide +kernel
theorem dX11_append_24 : decode cX11_append 24 = .ok (.aload_n 0, 1) := by decide +kernel
theorem dX11_append_25 : decode cX11_append 25 = .ok (.getfield 131, 3) := by decide +kernel
theorem dX11_append_28 : decode cX11_append 28 = .ok (.iload_n 1, 1) := by decide +kernel
theorem dX11_append_29 : decode cX11_append 29 = .ok (.castore, 1) := by decide +kernel
theorem dX11_append_30 : decode cX11_append 30 = .ok (.aload_n 0, 1) := by decide +kernel
theorem dX11_append_31 : decode cX11_append 31 = .ok (.dup, 1) := by decide +kernel
theorem dX11_append_32 : decode cX11_append 32 = .ok (.getfield 131, 3) := by decide +kernel
theorem dX11_append_35 : decode cX11_append 35 = .ok (.iconst 1, 1) := by decide +kernel
theorem dX11_append_36 : decode cX11_append 36 = .ok (.iadd, 1) := by decide +kernel
theorem dX11_append_37 : decode cX11_append 37 = .ok (.putfield 131, 3) := by decide +kernel
theorem dX11_append_40 : decode cX11_append 40 = .ok (.return_, 1) := by decide +kernel
theorem dX11_sign_0 : decode cX11_sign 0 = .ok (.aload_n 0, 1) := by decide +kernel
theorem dX11_sign_1 : decode cX11_sign 1 = .ok (.getfield 141, 3) := by decide +kernel
theorem dX11_sign_4 : decode cX11_sign 4 = .ok (.aload_n 0, 1) := by decide +kernel
theorem dX11_sign_5 : decode cX11_sign 5 = .ok (.getfield 144, 3) := by decide +kernel
theorem dX11_sign_8 : decode cX11_sign 8 = .ok (.if_icmp .ge 15, 3) := by decide +kernel
theorem dX11_sign_11 : decode cX11_sign 11 = .ok (.aload_n 0, 1) := by decide +kernel
theorem dX11_sign_12 : decode cX11_sign 12 = .ok (.getfield 32, 3) := by decide +kernel
theorem dX11_sign_15 : decode cX11_sign 15 = .ok (.aload_n 0, 1) := by decide +kernel
theorem dX11_sign_16 : decode cX11_sign 16 = .ok (.getfield 141, 3) := by decide +kernel
theorem dX11_sign_19 : decode cX11_sign 19 = .ok (.caload, 1) := by decide +kernel
theorem dX11_sign_20 : decode cX11_sign 20 = .ok (.goto 4, 3) := by decide +kernel
theorem dX11_sign_23 : decode cX11_sign 23 = .ok (.iconst (-1), 1) := by decide +kernel
theorem dX11_sign_24 : decode cX11_sign 24 = .ok (.ireturn, 1) := by decide +kernel
theorem dX11_goes_0 : decode cX11_goes 0 = .ok (.aload_n 0, 1) := by decide +kernel
theorem dX11_goes_1 : decode cX11_goes 1 = .ok (.getfield 36, 3) := by decide +kernel
theorem dX11_goes_4 : decode cX11_goes 4 = .ok (.ifCond .ge 15, 3) := by decide +kernel
theorem dX11_goes_7 : decode cX11_goes 7 = .ok (.aload_n 0, 1) := by decide +kernel
theorem dX11_goes_8 : decode cX11_goes 8 = .ok (.invokevirtual 147, 3) := by decide +kernel
theorem dX11_goes_11 : decode cX11_goes 11 = .ok (.iload_n 1, 1) := by decide +kernel
theorem dX11_goes_12 : decode cX11_goes 12 = .ok (.if_icmp .ne 7, 3) := by decide +kernel
theorem dX11_goes_15 : decode cX11_goes 15 = .ok (.iconst 1, 1) := by decide +kernel
theorem dX11_goes_16 : decode cX11_goes 16 = .ok (.goto 4, 3) := by decide +kernel
theorem dX11_goes_19 : decode cX11_goes 19 = .ok (.iconst 0, 1) := by decide +kernel
theorem dX11_goes_20 : decode cX11_goes 20 = .ok (.istore_n 2, 1) := by decide +kernel
theorem dX11_goes_21 : decode cX11_goes 21 = .ok (.aload_n 0, 1) := by decide +kernel
theorem dX11_goes_22 : decode cX11_goes 22 = .ok (.dup, 1) := by decide +kernel
theorem dX11_goes_23 : decode cX11_goes 23 = .ok (.getfield 141, 3) := by decide +kernel
theorem dX11_goes_26 : decode cX11_goes 26 = .ok (.iload_n 2, 1) := by decide +kernel
theorem dX11_goes_27 : decode cX11_goes 27 = .ok (.ifCond .eq 7, 3) := by decide +kernel
theorem dX11_goes_30 : decode cX11_goes 30 = .ok (.iconst 1, 1) := by decide +kernel
theorem dX11_goes_31 : decode cX11_goes 31 = .ok (.goto 4, 3) := by decide +kernel
theorem dX11_goes_34 : decode cX11_goes 34 = .ok (.iconst 0, 1) := by decide +kernel
theorem dX11_goes_35 : decode cX11_goes 35 = .ok (.iadd, 1) := by decide +kernel
theorem dX11_goes_36 : decode cX11_goes 36 = .ok (.putfield 141, 3) := by decide +kernel
theorem dX11_goes_39 : decode cX11_goes 39 = .ok (.iload_n 2, 1) := by decide +kernel
theorem dX11_goes_40 : decode cX11_goes 40 = .ok (.ireturn, 1) := by decide +kernel
theorem dX11_expect_0 : decode cX11_expect 0 = .ok (.aload_n 0, 1) := by decide +kernel
theorem dX11_expect_1 : decode cX11_expect 1 = .ok (.iload_n 1, 1) := by decide +kernel
theorem dX11_expect_2 : decode cX11_expect 2 = .ok (.invokevirtual 151, 3) := by decide +kernel
theorem dX11_expect_5 : decode cX11_expect 5 = .ok (.ifCond .ne 18, 3) := by decide +kernel
theorem dX11_expect_8 : decode cX11_expect 8 = .ok (.aload_n 0, 1) := by decide +kernel
theorem dX11_expect_9 : decode cX11_expect 9 = .ok (.getfield 36, 3) := by decide +kernel
theorem dX11_expect_12 : decode cX11_expect 12 = .ok (.ifCond .ge 11, 3) := by decide +kernel
theorem dX11_expect_15 : decode cX11_expect 15 = .ok (.aload_n 0, 1) := by decide +kernel
theorem dX11_expect_16 : decode cX11_expect 16 = .ok (.aload_n 0, 1) := by decide +kernel
theorem dX11_expect_17 : decode cX11_expect 17 = .ok (.getfield 141, 3) := by decide +kernel
theorem dX11_expect_20 : decode cX11_expect 20 = .ok (.putfield 36, 3) := by decide +kernel
theorem dX11_expect_23 : decode cX11_expect 23 = .ok (.return_, 1) := by decide +kernel
theorem dX11_isLetter_0 : decode cX11_isLetter 0 = .ok (.aload_n 0, 1) := by decide +kernel
theorem dX11_isLetter_1 : decode cX11_isLetter 1 = .ok (.getfield 36, 3) := by decide +kernel
theorem dX11_isLetter_4 : decode cX11_isLetter 4 = .ok (.ifCond .ge 21, 3) := by decide +kernel
theorem dX11_isLetter_7 : decode cX11_isLetter 7 = .ok (.aload_n 0, 1) := by decide +kernel
theorem dX11_isLetter_8 : decode cX11_isLetter 8 = .ok (.invokevirtual 147, 3) := by decide +kernel
theorem dX11_isLetter_11 : decode cX11_isLetter 11 = .ok (.bipush 97, 2) := by decide +kernel
theorem dX11_isLetter_13 : decode cX11_isLetter 13 = .ok (.bipush 99, 2) := by decide +kernel
theorem dX11_isLetter_15 : decode cX11_isLetter 15 = .ok (.invokestatic 124, 3) := by decide +kernel
theorem dX11_isLetter_18 : decode cX11_isLetter 18 = .ok (.ifCond .eq 7, 3) := by decide +kernel
theorem dX11_isLetter_21 : decode cX11_isLetter 21 = .ok (.iconst 1, 1) := by decide +kernel
theorem dX11_isLetter_22 : decode cX11_isLetter 22 = .ok (.goto 4, 3) := by decide +kernel
theorem dX11_isLetter_25 : decode cX11_isLetter 25 = .ok (.iconst 0, 1) := by decide +kernel
theorem dX11_isLetter_26 : decode cX11_isLetter 26 = .ok (.ireturn, 1) := by decide +kernel
theorem dX11_readWord_0 : decode cX11_readWord 0 = .ok (.iconst 0, 1) := by decide +kernel
theorem dX11_readWord_1 : decode cX11_readWord 1 = .ok (.istore_n 3, 1) := by decide +kernel
theorem dX11_readWord_2 : decode cX11_readWord 2 = .ok (.iconst 0, 1) := by decide +kernel
theorem dX11_readWord_3 : decode cX11_readWord 3 = .ok (.istore 4, 2) := by decide +kernel
theorem dX11_readWord_5 : decode cX11_readWord 5 = .ok (.iload 4, 2) := by decide +kernel
theorem dX11_readWord_7 : decode cX11_readWord 7 = .ok (.iload_n 2, 1) := by decide +kernel
theorem dX11_readWord_8 : decode cX11_readWord 8 = .ok (.if_icmp .ge 40, 3) := by decide +kernel
theorem dX11_readWord_11 : decode cX11_readWord 11 = .ok (.aload_n 0, 1) := by decide +kernel
theorem dX11_readWord_12 : decode cX11_readWord 12 = .ok (.invokevirtual 155, 3) := by decide +kernel
theorem dX11_readWord_15 : decode cX11_readWord 15 = .ok (.ifCond .eq 33, 3) := by decide +kernel
theorem dX11_readWord_18 : decode cX11_readWord 18 = .ok (.iload_n 3, 1) := by decide +kernel
theorem dX11_readWord_19 : decode cX11_readWord 19 = .ok (.iconst 1, 1) := by decide +kernel
theorem dX11_readWord_20 : decode cX11_readWord 20 = .ok (.aload_n 0, 1) := by decide +kernel
theorem dX11_readWord_21 : decode cX11_readWord 21 = .ok (.invokevirtual 147, 3) := by decide +kernel
theorem dX11_readWord_24 : decode cX11_readWord 24 = .ok (.iadd, 1) := by decide +kernel
theorem dX11_readWord_25 : decode cX11_readWord 25 = .ok (.bipush 97, 2) := by decide +kernel
theorem dX11_readWord_27 : decode cX11_readWord 27 = .ok (.isub, 1) := by decide +kernel
theorem dX11_readWord_28 : decode cX11_readWord 28 = .ok (.invokestatic 159, 3) := by decide +kernel
theorem dX11_readWord_31 : decode cX11_readWord 31 = .ok (.istore_n 3, 1) := by decide +kernel
theorem dX11_readWord_32 : decode cX11_readWord 32 = .ok (.iinc 4 1, 3) := by decide +kernel
theorem dX11_readWord_35 : decode cX11_readWord 35 = .ok (.aload_n 0, 1) := by decide +kernel
theorem dX11_readWord_36 : decode cX11_readWord 36 = .ok (.dup, 1) := by decide +kernel
theorem dX11_readWord_37 : decode cX11_readWord 37 = .ok (.getfield 141, 3) := by decide +kernel
theorem dX11_readWord_40 : decode cX11_readWord 40 = .ok (.iconst 1, 1) := by decide +kernel
theorem dX11_readWord_41 : decode cX11_readWord 41 = .ok (.iadd, 1) := by decide +kernel
theorem dX11_readWord_42 : decode cX11_readWord 42 = .ok (.putfield 141, 3) := by decide +kernel
theorem dX11_readWord_45 : decode cX11_readWord 45 = .ok (.goto (-40), 3) := by decide +kernel
theorem dX11_readWord_48 : decode cX11_readWord 48 = .ok (.iload 4, 2) := by decide +kernel
theorem dX11_readWord_50 : decode cX11_readWord 50 = .ok (.iload_n 1, 1) := by decide +kernel
theorem dX11_readWord_51 : decode cX11_readWord 51 = .ok (.if_icmp .ge 18, 3) := by decide +kernel
theorem dX11_readWord_54 : decode cX11_readWord 54 = .ok (.aload_n 0, 1) := by decide +kernel
theorem dX11_readWord_55 : decode cX11_readWord 55 = .ok (.getfield 36, 3) := by decide +kernel
theorem dX11_readWord_58 : decode cX11_readWord 58 = .ok (.ifCond .ge 11, 3) := by decide +kernel
theorem dX11_readWord_61 : decode cX11_readWord 61 = .ok (.aload_n 0, 1) := by decide +kernel
theorem dX11_readWord_62 : decode cX11_readWord 62 = .ok (.aload_n 0, 1) := by decide +kernel
theorem dX11_readWord_63 : decode cX11_readWord 63 = .ok (.getfield 141, 3) := by decide +kernel
theorem dX11_readWord_66 : decode cX11_readWord 66 = .ok (.putfield 36, 3) := by decide +kernel
theorem dX11_readWord_69 : decode cX11_readWord 69 = .ok (.iload_n 3, 1) := by decide +kernel
theorem dX11_readWord_70 : decode cX11_readWord 70 = .ok (.ireturn, 1) := by decide +kernel
theorem dX11_put_0 : decode cX11_put 0 = .ok (.aload_n 0, 1) := by decide +kernel
theorem dX11_put_1 : decode cX11_put 1 = .ok (.getfield 36, 3) := by decide +kernel
theorem dX11_put_4 : decode cX11_put 4 = .ok (.ifCond .ge 23, 3) := by decide +kernel
theorem dX11_put_7 : decode cX11_put 7 = .ok (.aload_n 0, 1) := by decide +kernel
theorem dX11_put_8 : decode cX11_put 8 = .ok (.getfield 39, 3) := by decide +kernel
theorem dX11_put_11 : decode cX11_put 11 = .ok (.aload_n 0, 1) := by decide +kernel
theorem dX11_put_12 : decode cX11_put 12 = .ok (.getfield 163, 3) := by decide +kernel
theorem dX11_put_15 : decode cX11_put 15 = .ok (.iload_n 1, 1) := by decide +kernel
theorem dX11_put_16 : decode cX11_put 16 = .ok (.iastore, 1) := by decide +kernel
theorem dX11_put_17 : decode cX11_put 17 = .ok (.aload_n 0, 1) := by decide +kernel
theorem dX11_put_18 : decode cX11_put 18 = .ok (.dup, 1) := by decide +kernel
theorem dX11_put_19 : decode cX11_put 19 = .ok (.getfield 163, 3) := by decide +kernel
theorem dX11_put_22 : decode cX11_put 22 = .ok (.iconst 1, 1) := by decide +kernel
theorem dX11_put_23 : decode cX11_put 23 = .ok (.iadd, 1) := by decide +kernel
theorem dX11_put_24 : decode cX11_put 24 = .ok (.putfield 163, 3) := by decide +kernel
theorem dX11_put_27 : decode cX11_put 27 = .ok (.return_, 1) := by decide +kernel
theorem dX11_readSelector_0 : decode cX11_readSelector 0 = .ok (.aload_n 0, 1) := by decide +kernel
theorem dX11_readSelector_1 : decode cX11_readSelector 1 = .ok (.invokevirtual 166, 3) := by decide +kernel
theorem dX11_readSelector_4 : decode cX11_readSelector 4 = .ok (.aload_n 0, 1) := by decide +kernel
theorem dX11_readSelector_5 : decode cX11_readSelector 5 = .ok (.bipush 124, 2) := by decide +kernel
theorem dX11_readSelector_7 : decode cX11_readSelector 7 = .ok (.invokevirtual 151, 3) := by decide +kernel
theorem dX11_readSelector_10 : decode cX11_readSelector 10 = .ok (.ifCond .eq 15, 3) := by decide +kernel
theorem dX11_readSelector_13 : decode cX11_readSelector 13 = .ok (.aload_n 0, 1) := by decide +kernel
theorem dX11_readSelector_14 : decode cX11_readSelector 14 = .ok (.invokevirtual 166, 3) := by decide +kernel
theorem dX11_readSelector_17 : decode cX11_readSelector 17 = .ok (.aload_n 0, 1) := by decide +kernel
theorem dX11_readSelector_18 : decode cX11_readSelector 18 = .ok (.iconst 4, 1) := by decide +kernel
theorem dX11_readSelector_19 : decode cX11_readSelector 19 = .ok (.invokevirtual 169, 3) := by decide +kernel
theorem dX11_readSelector_22 : decode cX11_readSelector 22 = .ok (.goto (-18), 3) := by decide +kernel
theorem dX11_readSelector_25 : decode cX11_readSelector 25 = .ok (.return_, 1) := by decide +kernel
theorem dX11_readAll_0 : decode cX11_readAll 0 = .ok (.aload_n 0, 1) := by decide +kernel
theorem dX11_readAll_1 : decode cX11_readAll 1 = .ok (.invokevirtual 173, 3) := by decide +kernel
theorem dX11_readAll_4 : decode cX11_readAll 4 = .ok (.aload_n 0, 1) := by decide +kernel
theorem dX11_readAll_5 : decode cX11_readAll 5 = .ok (.bipush 38, 2) := by decide +kernel
theorem dX11_readAll_7 : decode cX11_readAll 7 = .ok (.invokevirtual 151, 3) := by decide +kernel
theorem dX11_readAll_10 : decode cX11_readAll 10 = .ok (.ifCond .eq 15, 3) := by decide +kernel
theorem dX11_readAll_13 : decode cX11_readAll 13 = .ok (.aload_n 0, 1) := by decide +kernel
theorem dX11_readAll_14 : decode cX11_readAll 14 = .ok (.invokevirtual 173, 3) := by decide +kernel
theorem dX11_readAll_17 : decode cX11_readAll 17 = .ok (.aload_n 0, 1) := by decide +kernel
theorem dX11_readAll_18 : decode cX11_readAll 18 = .ok (.iconst 3, 1) := by decide +kernel
theorem dX11_readAll_19 : decode cX11_readAll 19 = .ok (.invokevirtual 169, 3) := by decide +kernel
theorem dX11_readAll_22 : decode cX11_readAll 22 = .ok (.goto (-18), 3) := by decide +kernel
theorem dX11_readAll_25 : decode cX11_readAll 25 = .ok (.return_, 1) := by decide +kernel
theorem dX11_opens_0 : decode cX11_opens 0 = .ok (.aload_n 0, 1) := by decide +kernel
theorem dX11_opens_1 : decode cX11_opens 1 = .ok (.getfield 176, 3) := by decide +kernel
theorem dX11_opens_4 : decode cX11_opens 4 = .ok (.bipush 6, 2) := by decide +kernel
theorem dX11_opens_6 : decode cX11_opens 6 = .ok (.if_icmp .ne 20, 3) := by decide +kernel
theorem dX11_opens_9 : decode cX11_opens 9 = .ok (.aload_n 0, 1) := by decide +kernel
theorem dX11_opens_10 : decode cX11_opens 10 = .ok (.getfield 36, 3) := by decide +kernel
theorem dX11_opens_13 : decode cX11_opens 13 = .ok (.ifCond .ge 13, 3) := by decide +kernel
theorem dX11_opens_16 : decode cX11_opens 16 = .ok (.aload_n 0, 1) := by decide +kernel
theorem dX11_opens_17 : decode cX11_opens 17 = .ok (.aload_n 0, 1) := by decide +kernel
theorem dX11_opens_18 : decode cX11_opens 18 = .ok (.getfield 141, 3) := by decide +kernel
theorem dX11_opens_21 : decode cX11_opens 21 = .ok (.iconst 1, 1) := by decide +kernel
theorem dX11_opens_22 : decode cX11_opens 22 = .ok (.isub, 1) := by decide +kernel
theorem dX11_opens_23 : decode cX11_opens 23 = .ok (.putfield 36, 3) := by decide +kernel
theorem dX11_opens_26 : decode cX11_opens 26 = .ok (.aload_n 0, 1) := by decide +kernel
theorem dX11_opens_27 : decode cX11_opens 27 = .ok (.dup, 1) := by decide +kernel
theorem dX11_opens_28 : decode cX11_opens 28 = .ok (.getfield 176, 3) := by decide +kernel
theorem dX11_opens_31 : decode cX11_opens 31 = .ok (.iconst 1, 1) := by decide +kernel
theorem dX11_opens_32 : decode cX11_opens 32 = .ok (.iadd, 1) := by decide +kernel
theorem dX11_opens_33 : decode cX11_opens 33 = .ok (.putfield 176, 3) := by decide +kernel
theorem dX11_opens_36 : decode cX11_opens 36 = .ok (.return_, 1) := by decide +kernel
theorem dX11_readOne_0 : decode cX11_readOne 0 = .ok (.aload_n 0, 1) := by decide +kernel
theorem dX11_readOne_1 : decode cX11_readOne 1 = .ok (.bipush 33, 2) := by decide +kernel
theorem dX11_readOne_3 : decode cX11_readOne 3 = .ok (.invokevirtual 151, 3) := by decide +kernel
theorem dX11_readOne_6 : decode cX11_readOne 6 = .ok (.ifCond .eq 29, 3) := by decide +kernel
theorem dX11_readOne_9 : decode cX11_readOne 9 = .ok (.aload_n 0, 1) := by decide +kernel
theorem dX11_readOne_10 : decode cX11_readOne 10 = .ok (.invokevirtual 179, 3) := by decide +kernel
theorem dX11_readOne_13 : decode cX11_readOne 13 = .ok (.aload_n 0, 1) := by decide +kernel
theorem dX11_readOne_14 : decode cX11_readOne 14 = .ok (.invokevirtual 173, 3) := by decide +kernel
theorem dX11_readOne_17 : decode cX11_readOne 17 = .ok (.aload_n 0, 1) := by decide +kernel
theorem dX11_readOne_18 : decode cX11_readOne 18 = .ok (.dup, 1) := by decide +kernel
theorem dX11_readOne_19 : decode cX11_readOne 19 = .ok (.getfield 176, 3) := by decide +kernel
theorem dX11_readOne_22 : decode cX11_readOne 22 = .ok (.iconst 1, 1) := by decide +kernel
theorem dX11_readOne_23 : decode cX11_readOne 23 = .ok (.isub, 1) := by decide +kernel
theorem dX11_readOne_24 : decode cX11_readOne 24 = .ok (.putfield 176, 3) := by decide +kernel
theorem dX11_readOne_27 : decode cX11_readOne 27 = .ok (.aload_n 0, 1) := by decide +kernel
theorem dX11_readOne_28 : decode cX11_readOne 28 = .ok (.iconst 2, 1) := by decide +kernel
theorem dX11_readOne_29 : decode cX11_readOne 29 = .ok (.invokevirtual 169, 3) := by decide +kernel
theorem dX11_readOne_32 : decode cX11_readOne 32 = .ok (.goto 138, 3) := by decide +kernel
theorem dX11_readOne_35 : decode cX11_readOne 35 = .ok (.aload_n 0, 1) := by decide +kernel
theorem dX11_readOne_36 : decode cX11_readOne 36 = .ok (.bipush 40, 2) := by decide +kernel
theorem dX11_readOne_38 : decode cX11_readOne 38 = .ok (.invokevirtual 151, 3) := by decide +kernel
theorem dX11_readOne_41 : decode cX11_readOne 41 = .ok (.ifCond .eq 30, 3) := by decide +kernel
theorem dX11_readOne_44 : decode cX11_readOne 44 = .ok (.aload_n 0, 1) := by decide +kernel
theorem dX11_readOne_45 : decode cX11_readOne 45 = .ok (.invokevirtual 179, 3) := by decide +kernel
theorem dX11_readOne_48 : decode cX11_readOne 48 = .ok (.aload_n 0, 1) := by decide +kernel
theorem dX11_readOne_49 : decode cX11_readOne 49 = .ok (.invokevirtual 182, 3) := by decide +kernel
theorem dX11_readOne_52 : decode cX11_readOne 52 = .ok (.aload_n 0, 1) := by decide +kernel
theorem dX11_readOne_53 : decode cX11_readOne 53 = .ok (.bipush 41, 2) := by decide +kernel
theorem dX11_readOne_55 : decode cX11_readOne 55 = .ok (.invokevirtual 185, 3) := by decide +kernel
theorem dX11_readOne_58 : decode cX11_readOne 58 = .ok (.aload_n 0, 1) := by decide +kernel
theorem dX11_readOne_59 : decode cX11_readOne 59 = .ok (.dup, 1) := by decide +kernel
theorem dX11_readOne_60 : decode cX11_readOne 60 = .ok (.getfield 176, 3) := by decide +kernel
theorem dX11_readOne_63 : decode cX11_readOne 63 = .ok (.iconst 1, 1) := by decide +kernel
theorem dX11_readOne_64 : decode cX11_readOne 64 = .ok (.isub, 1) := by decide +kernel
theorem dX11_readOne_65 : decode cX11_readOne 65 = .ok (.putfield 176, 3) := by decide +kernel
theorem dX11_readOne_68 : decode cX11_readOne 68 = .ok (.goto 102, 3) := by decide +kernel
theorem dX11_readOne_71 : decode cX11_readOne 71 = .ok (.aload_n 0, 1) := by decide +kernel
theorem dX11_readOne_72 : decode cX11_readOne 72 = .ok (.bipush 42, 2) := by decide +kernel
theorem dX11_readOne_74 : decode cX11_readOne 74 = .ok (.invokevirtual 151, 3) := by decide +kernel
theorem dX11_readOne_77 : decode cX11_readOne 77 = .ok (.ifCond .eq 11, 3) := by decide +kernel
theorem dX11_readOne_80 : decode cX11_readOne 80 = .ok (.aload_n 0, 1) := by decide +kernel
theorem dX11_readOne_81 : decode cX11_readOne 81 = .ok (.iconst 1, 1) := by decide +kernel
theorem dX11_readOne_82 : decode cX11_readOne 82 = .ok (.invokevirtual 169, 3) := by decide +kernel
theorem dX11_readOne_85 : decode cX11_readOne 85 = .ok (.goto 85, 3) := by decide +kernel
theorem dX11_readOne_88 : decode cX11_readOne 88 = .ok (.aload_n 0, 1) := by decide +kernel
theorem dX11_readOne_89 : decode cX11_readOne 89 = .ok (.bipush 94, 2) := by decide +kernel
theorem dX11_readOne_91 : decode cX11_readOne 91 = .ok (.invokevirtual 151, 3) := by decide +kernel
theorem dX11_readOne_94 : decode cX11_readOne 94 = .ok (.ifCond .eq 20, 3) := by decide +kernel
theorem dX11_readOne_97 : decode cX11_readOne 97 = .ok (.aload_n 0, 1) := by decide +kernel
theorem dX11_readOne_98 : decode cX11_readOne 98 = .ok (.sipush 5000, 3) := by decide +kernel
theorem dX11_readOne_101 : decode cX11_readOne 101 = .ok (.aload_n 0, 1) := by decide +kernel
theorem dX11_readOne_102 : decode cX11_readOne 102 = .ok (.iconst 1, 1) := by decide +kernel
theorem dX11_readOne_103 : decode cX11_readOne 103 = .ok (.iconst 3, 1) := by decide +kernel
theorem dX11_readOne_104 : decode cX11_readOne 104 = .ok (.invokevirtual 189, 3) := by decide +kernel
theorem dX11_readOne_107 : decode cX11_readOne 107 = .ok (.iadd, 1) := by decide +kernel
theorem dX11_readOne_108 : decode cX11_readOne 108 = .ok (.invokevirtual 169, 3) := by decide +kernel
theorem dX11_readOne_111 : decode cX11_readOne 111 = .ok (.goto 59, 3) := by decide +kernel
theorem dX11_readOne_114 : decode cX11_readOne 114 = .ok (.aload_n 0, 1) := by decide +kernel
theorem dX11_readOne_115 : decode cX11_readOne 115 = .ok (.bipush 36, 2) := by decide +kernel
theorem dX11_readOne_117 : decode cX11_readOne 117 = .ok (.invokevirtual 151, 3) := by decide +kernel
theorem dX11_readOne_120 : decode cX11_readOne 120 = .ok (.ifCond .eq 20, 3) := by decide +kernel
theorem dX11_readOne_123 : decode cX11_readOne 123 = .ok (.aload_n 0, 1) := by decide +kernel
theorem dX11_readOne_124 : decode cX11_readOne 124 = .ok (.sipush 5100, 3) := by decide +kernel
theorem dX11_readOne_127 : decode cX11_readOne 127 = .ok (.aload_n 0, 1) := by decide +kernel
theorem dX11_readOne_128 : decode cX11_readOne 128 = .ok (.iconst 1, 1) := by decide +kernel
theorem dX11_readOne_129 : decode cX11_readOne 129 = .ok (.iconst 3, 1) := by decide +kernel
theorem dX11_readOne_130 : decode cX11_readOne 130 = .ok (.invokevirtual 189, 3) := by decide +kernel
theorem dX11_readOne_133 : decode cX11_readOne 133 = .ok (.iadd, 1) := by decide +kernel
theorem dX11_readOne_134 : decode cX11_readOne 134 = .ok (.invokevirtual 169, 3) := by decide +kernel
theorem dX11_readOne_137 : decode cX11_readOne 137 = .ok (.goto 33, 3) := by decide +kernel
theorem dX11_readOne_140 : decode cX11_readOne 140 = .ok (.aload_n 0, 1) := by decide +kernel
theorem dX11_readOne_141 : decode cX11_readOne 141 = .ok (.bipush 126, 2) := by decide +kernel
theorem dX11_readOne_143 : decode cX11_readOne 143 = .ok (.invokevirtual 151, 3) := by decide +kernel
theorem dX11_readOne_146 : decode cX11_readOne 146 = .ok (.ifCond .eq 20, 3) := by decide +kernel
theorem dX11_readOne_149 : decode cX11_readOne 149 = .ok (.aload_n 0, 1) := by decide +kernel
theorem dX11_readOne_150 : decode cX11_readOne 150 = .ok (.sipush 5200, 3) := by decide +kernel
theorem dX11_readOne_153 : decode cX11_readOne 153 = .ok (.aload_n 0, 1) := by decide +kernel
theorem dX11_readOne_154 : decode cX11_readOne 154 = .ok (.iconst 1, 1) := by decide +kernel
theorem dX11_readOne_155 : decode cX11_readOne 155 = .ok (.iconst 3, 1) := by decide +kernel
theorem dX11_readOne_156 : decode cX11_readOne 156 = .ok (.invokevirtual 189, 3) := by decide +kernel
theorem dX11_readOne_159 : decode cX11_readOne 159 = .ok (.iadd, 1) := by decide +kernel
theorem dX11_readOne_160 : decode cX11_readOne 160 = .ok (.invokevirtual 169, 3) := by decide +kernel
theorem dX11_readOne_163 : decode cX11_readOne 163 = .ok (.goto 7, 3) := by decide +kernel
theorem dX11_readOne_166 : decode cX11_readOne 166 = .ok (.aload_n 0, 1) := by decide +kernel
theorem dX11_readOne_167 : decode cX11_readOne 167 = .ok (.invokevirtual 192, 3) := by decide +kernel
theorem dX11_readOne_170 : decode cX11_readOne 170 = .ok (.return_, 1) := by decide +kernel
theorem dX11_readComparison_0 : decode cX11_readComparison 0 = .ok (.aload_n 0, 1) := by decide +kernel
theorem dX11_readComparison_1 : decode cX11_readComparison 1 = .ok (.invokevirtual 155, 3) := by decide +kernel
theorem dX11_readComparison_4 : decode cX11_readComparison 4 = .ok (.ifCond .eq 13, 3) := by decide +kernel
theorem dX11_readComparison_7 : decode cX11_readComparison 7 = .ok (.aload_n 0, 1) := by decide +kernel
theorem dX11_readComparison_8 : decode cX11_readComparison 8 = .ok (.invokevirtual 147, 3) := by decide +kernel
theorem dX11_readComparison_11 : decode cX11_readComparison 11 = .ok (.bipush 97, 2) := by decide +kernel
theorem dX11_readComparison_13 : decode cX11_readComparison 13 = .ok (.isub, 1) := by decide +kernel
theorem dX11_readComparison_14 : decode cX11_readComparison 14 = .ok (.goto 4, 3) := by decide +kernel
theorem dX11_readComparison_17 : decode cX11_readComparison 17 = .ok (.iconst 3, 1) := by decide +kernel
theorem dX11_readComparison_18 : decode cX11_readComparison 18 = .ok (.istore_n 1, 1) := by decide +kernel
theorem dX11_readComparison_19 : decode cX11_readComparison 19 = .ok (.aload_n 0, 1) := by decide +kernel
theorem dX11_readComparison_20 : decode cX11_readComparison 20 = .ok (.dup, 1) := by decide +kernel
theorem dX11_readComparison_21 : decode cX11_readComparison 21 = .ok (.getfield 141, 3) := by decide +kernel
theorem dX11_readComparison_24 : decode cX11_readComparison 24 = .ok (.aload_n 0, 1) := by decide +kernel
theorem dX11_readComparison_25 : decode cX11_readComparison 25 = .ok (.invokevirtual 155, 3) := by decide +kernel
theorem dX11_readComparison_28 : decode cX11_readComparison 28 = .ok (.ifCond .eq 7, 3) := by decide +kernel
theorem dX11_readComparison_31 : decode cX11_readComparison 31 = .ok (.iconst 1, 1) := by decide +kernel
theorem dX11_readComparison_32 : decode cX11_readComparison 32 = .ok (.goto 4, 3) := by decide +kernel
theorem dX11_readComparison_35 : decode cX11_readComparison 35 = .ok (.iconst 0, 1) := by decide +kernel
theorem dX11_readComparison_36 : decode cX11_readComparison 36 = .ok (.iadd, 1) := by decide +kernel
theorem dX11_readComparison_37 : decode cX11_readComparison 37 = .ok (.putfield 141, 3) := by decide +kernel
theorem dX11_readComparison_40 : decode cX11_readComparison 40 = .ok (.iload_n 1, 1) := by decide +kernel
theorem dX11_readComparison_41 : decode cX11_readComparison 41 = .ok (.iconst 3, 1) := by decide +kernel
theorem dX11_readComparison_42 : decode cX11_readComparison 42 = .ok (.if_icmp .ne 9, 3) := by decide +kernel
theorem dX11_readComparison_45 : decode cX11_readComparison 45 = .ok (.aload_n 0, 1) := by decide +kernel
theorem dX11_readComparison_46 : decode cX11_readComparison 46 = .ok (.bipush 35, 2) := by decide +kernel
theorem dX11_readComparison_48 : decode cX11_readComparison 48 = .ok (.invokevirtual 185, 3) := by decide +kernel
theorem dX11_readComparison_51 : decode cX11_readComparison 51 = .ok (.aload_n 0, 1) := by decide +kernel
theorem dX11_readComparison_52 : decode cX11_readComparison 52 = .ok (.bipush 60, 2) := by decide +kernel
theorem dX11_readComparison_54 : decode cX11_readComparison 54 = .ok (.invokevirtual 151, 3) := by decide +kernel
theorem dX11_readComparison_57 : decode cX11_readComparison 57 = .ok (.ifCond .eq 7, 3) := by decide +kernel
theorem dX11_readComparison_60 : decode cX11_readComparison 60 = .ok (.iconst 0, 1) := by decide +kernel
theorem dX11_readComparison_61 : decode cX11_readComparison 61 = .ok (.goto 17, 3) := by decide +kernel
theorem dX11_readComparison_64 : decode cX11_readComparison 64 = .ok (.aload_n 0, 1) := by decide +kernel
theorem dX11_readComparison_65 : decode cX11_readComparison 65 = .ok (.bipush 61, 2) := by decide +kernel
theorem dX11_readComparison_67 : decode cX11_readComparison 67 = .ok (.invokevirtual 151, 3) := by decide +kernel
theorem dX11_readComparison_70 : decode cX11_readComparison 70 = .ok (.ifCond .eq 7, 3) := by decide +kernel
theorem dX11_readComparison_73 : decode cX11_readComparison 73 = .ok (.iconst 1, 1) := by decide +kernel
theorem dX11_readComparison_74 : decode cX11_readComparison 74 = .ok (.goto 4, 3) := by decide +kernel
theorem dX11_readComparison_77 : decode cX11_readComparison 77 = .ok (.iconst 2, 1) := by decide +kernel
theorem dX11_readComparison_78 : decode cX11_readComparison 78 = .ok (.istore_n 2, 1) := by decide +kernel
theorem dX11_readComparison_79 : decode cX11_readComparison 79 = .ok (.iload_n 2, 1) := by decide +kernel
theorem dX11_readComparison_80 : decode cX11_readComparison 80 = .ok (.iconst 2, 1) := by decide +kernel
theorem dX11_readComparison_81 : decode cX11_readComparison 81 = .ok (.if_icmp .ne 9, 3) := by decide +kernel
theorem dX11_readComparison_84 : decode cX11_readComparison 84 = .ok (.aload_n 0, 1) := by decide +kernel
theorem dX11_readComparison_85 : decode cX11_readComparison 85 = .ok (.bipush 62, 2) := by decide +kernel
theorem dX11_readComparison_87 : decode cX11_readComparison 87 = .ok (.invokevirtual 185, 3) := by decide +kernel
theorem dX11_readComparison_90 : decode cX11_readComparison 90 = .ok (.aload_n 0, 1) := by decide +kernel
theorem dX11_readComparison_91 : decode cX11_readComparison 91 = .ok (.sipush 1000, 3) := by decide +kernel
theorem dX11_readComparison_94 : decode cX11_readComparison 94 = .ok (.bipush 100, 2) := by decide +kernel
theorem dX11_readComparison_96 : decode cX11_readComparison 96 = .ok (.iload_n 1, 1) := by decide +kernel
theorem dX11_readComparison_97 : decode cX11_readComparison 97 = .ok (.imul, 1) := by decide +kernel
theorem dX11_readComparison_98 : decode cX11_readComparison 98 = .ok (.iadd, 1) := by decide +kernel
theorem dX11_readComparison_99 : decode cX11_readComparison 99 = .ok (.bipush 10, 2) := by decide +kernel
theorem dX11_readComparison_101 : decode cX11_readComparison 101 = .ok (.iload_n 2, 1) := by decide +kernel
theorem dX11_readComparison_102 : decode cX11_readComparison 102 = .ok (.imul, 1) := by decide +kernel
theorem dX11_readComparison_103 : decode cX11_readComparison 103 = .ok (.iadd, 1) := by decide +kernel
theorem dX11_readComparison_104 : decode cX11_readComparison 104 = .ok (.aload_n 0, 1) := by decide +kernel
theorem dX11_readComparison_105 : decode cX11_readComparison 105 = .ok (.iconst 0, 1) := by decide +kernel
theorem dX11_readComparison_106 : decode cX11_readComparison 106 = .ok (.invokevirtual 195, 3) := by decide +kernel
theorem dX11_readComparison_109 : decode cX11_readComparison 109 = .ok (.iadd, 1) := by decide +kernel
theorem dX11_readComparison_110 : decode cX11_readComparison 110 = .ok (.invokevirtual 169, 3) := by decide +kernel
theorem dX11_readComparison_113 : decode cX11_readComparison 113 = .ok (.return_, 1) := by decide +kernel
theorem dX11_readDigit_0 : decode cX11_readDigit 0 = .ok (.aload_n 0, 1) := by decide +kernel
theorem dX11_readDigit_1 : decode cX11_readDigit 1 = .ok (.getfield 36, 3) := by decide +kernel
theorem dX11_readDigit_4 : decode cX11_readDigit 4 = .ok (.ifCond .ge 27, 3) := by decide +kernel
theorem dX11_readDigit_7 : decode cX11_readDigit 7 = .ok (.aload_n 0, 1) := by decide +kernel
theorem dX11_readDigit_8 : decode cX11_readDigit 8 = .ok (.invokevirtual 147, 3) := by decide +kernel
theorem dX11_readDigit_11 : decode cX11_readDigit 11 = .ok (.bipush 48, 2) := by decide +kernel
theorem dX11_readDigit_13 : decode cX11_readDigit 13 = .ok (.iload_n 1, 1) := by decide +kernel
theorem dX11_readDigit_14 : decode cX11_readDigit 14 = .ok (.iadd, 1) := by decide +kernel
theorem dX11_readDigit_15 : decode cX11_readDigit 15 = .ok (.bipush 57, 2) := by decide +kernel
theorem dX11_readDigit_17 : decode cX11_readDigit 17 = .ok (.invokestatic 124, 3) := by decide +kernel
theorem dX11_readDigit_20 : decode cX11_readDigit 20 = .ok (.ifCond .ne 11, 3) := by decide +kernel
theorem dX11_readDigit_23 : decode cX11_readDigit 23 = .ok (.aload_n 0, 1) := by decide +kernel
theorem dX11_readDigit_24 : decode cX11_readDigit 24 = .ok (.aload_n 0, 1) := by decide +kernel
theorem dX11_readDigit_25 : decode cX11_readDigit 25 = .ok (.getfield 141, 3) := by decide +kernel
theorem dX11_readDigit_28 : decode cX11_readDigit 28 = .ok (.putfield 36, 3) := by decide +kernel
theorem dX11_readDigit_31 : decode cX11_readDigit 31 = .ok (.aload_n 0, 1) := by decide +kernel
theorem dX11_readDigit_32 : decode cX11_readDigit 32 = .ok (.getfield 36, 3) := by decide +kernel
theorem dX11_readDigit_35 : decode cX11_readDigit 35 = .ok (.ifCond .ge 13, 3) := by decide +kernel
theorem dX11_readDigit_38 : decode cX11_readDigit 38 = .ok (.aload_n 0, 1) := by decide +kernel
theorem dX11_readDigit_39 : decode cX11_readDigit 39 = .ok (.invokevirtual 147, 3) := by decide +kernel
theorem dX11_readDigit_42 : decode cX11_readDigit 42 = .ok (.bipush 48, 2) := by decide +kernel
theorem dX11_readDigit_44 : decode cX11_readDigit 44 = .ok (.isub, 1) := by decide +kernel
theorem dX11_readDigit_45 : decode cX11_readDigit 45 = .ok (.goto 4, 3) := by decide +kernel
theorem dX11_readDigit_48 : decode cX11_readDigit 48 = .ok (.iconst 0, 1) := by decide +kernel
theorem dX11_readDigit_49 : decode cX11_readDigit 49 = .ok (.istore_n 2, 1) := by decide +kernel
theorem dX11_readDigit_50 : decode cX11_readDigit 50 = .ok (.aload_n 0, 1) := by decide +kernel
theorem dX11_readDigit_51 : decode cX11_readDigit 51 = .ok (.dup, 1) := by decide +kernel
theorem dX11_readDigit_52 : decode cX11_readDigit 52 = .ok (.getfield 141, 3) := by decide +kernel
theorem dX11_readDigit_55 : decode cX11_readDigit 55 = .ok (.aload_n 0, 1) := by decide +kernel
theorem dX11_readDigit_56 : decode cX11_readDigit 56 = .ok (.getfield 36, 3) := by decide +kernel
theorem dX11_readDigit_59 : decode cX11_readDigit 59 = .ok (.ifCond .ge 7, 3) := by decide +kernel
theorem dX11_readDigit_62 : decode cX11_readDigit 62 = .ok (.iconst 1, 1) := by decide +kernel
theorem dX11_readDigit_63 : decode cX11_readDigit 63 = .ok (.goto 4, 3) := by decide +kernel
theorem dX11_readDigit_66 : decode cX11_readDigit 66 = .ok (.iconst 0, 1) := by decide +kernel
theorem dX11_readDigit_67 : decode cX11_readDigit 67 = .ok (.iadd, 1) := by decide +kernel
theorem dX11_readDigit_68 : decode cX11_readDigit 68 = .ok (.putfield 141, 3) := by decide +kernel
theorem dX11_readDigit_71 : decode cX11_readDigit 71 = .ok (.iload_n 2, 1) := by decide +kernel
theorem dX11_readDigit_72 : decode cX11_readDigit 72 = .ok (.ireturn, 1) := by decide +kernel
theorem dX11_nameAt_0 : decode cX11_nameAt 0 = .ok (.iload_n 0, 1) := by decide +kernel
theorem dX11_nameAt_1 : decode cX11_nameAt 1 = .ok (.tableswitch 446 0 7 #[47, 98, 170, 211, 262, 308, 354, 400], 47) := by decide +kernel
theorem dX11_nameAt_48 : decode cX11_nameAt 48 = .ok (.iload_n 1, 1) := by decide +kernel
theorem dX11_nameAt_49 : decode cX11_nameAt 49 = .ok (.ifCond .ne 8, 3) := by decide +kernel
theorem dX11_nameAt_52 : decode cX11_nameAt 52 = .ok (.bipush 97, 2) := by decide +kernel
theorem dX11_nameAt_54 : decode cX11_nameAt 54 = .ok (.goto 44, 3) := by decide +kernel
theorem dX11_nameAt_57 : decode cX11_nameAt 57 = .ok (.iload_n 1, 1) := by decide +kernel
theorem dX11_nameAt_58 : decode cX11_nameAt 58 = .ok (.iconst 1, 1) := by decide +kernel
theorem dX11_nameAt_59 : decode cX11_nameAt 59 = .ok (.if_icmp .ne 8, 3) := by decide +kernel
theorem dX11_nameAt_62 : decode cX11_nameAt 62 = .ok (.bipush 120, 2) := by decide +kernel
theorem dX11_nameAt_64 : decode cX11_nameAt 64 = .ok (.goto 34, 3) := by decide +kernel
theorem dX11_nameAt_67 : decode cX11_nameAt 67 = .ok (.iload_n 1, 1) := by decide +kernel
theorem dX11_nameAt_68 : decode cX11_nameAt 68 = .ok (.iconst 2, 1) := by decide +kernel
theorem dX11_nameAt_69 : decode cX11_nameAt 69 = .ok (.if_icmp .ne 8, 3) := by decide +kernel
theorem dX11_nameAt_72 : decode cX11_nameAt 72 = .ok (.bipush 105, 2) := by decide +kernel
theorem dX11_nameAt_74 : decode cX11_nameAt 74 = .ok (.goto 24, 3) := by decide +kernel
theorem dX11_nameAt_77 : decode cX11_nameAt 77 = .ok (.iload_n 1, 1) := by decide +kernel
theorem dX11_nameAt_78 : decode cX11_nameAt 78 = .ok (.iconst 3, 1) := by decide +kernel
theorem dX11_nameAt_79 : decode cX11_nameAt 79 = .ok (.if_icmp .ne 8, 3) := by decide +kernel
theorem dX11_nameAt_82 : decode cX11_nameAt 82 = .ok (.bipush 111, 2) := by decide +kernel
theorem dX11_nameAt_84 : decode cX11_nameAt 84 = .ok (.goto 14, 3) := by decide +kernel
theorem dX11_nameAt_87 : decode cX11_nameAt 87 = .ok (.iload_n 1, 1) := by decide +kernel
theorem dX11_nameAt_88 : decode cX11_nameAt 88 = .ok (.iconst 4, 1) := by decide +kernel
theorem dX11_nameAt_89 : decode cX11_nameAt 89 = .ok (.if_icmp .ne 8, 3) := by decide +kernel
theorem dX11_nameAt_92 : decode cX11_nameAt 92 = .ok (.bipush 109, 2) := by decide +kernel
theorem dX11_nameAt_94 : decode cX11_nameAt 94 = .ok (.goto 4, 3) := by decide +kernel
theorem dX11_nameAt_97 : decode cX11_nameAt 97 = .ok (.iconst 0, 1) := by decide +kernel
theorem dX11_nameAt_98 : decode cX11_nameAt 98 = .ok (.ireturn, 1) := by decide +kernel
theorem dX11_nameAt_99 : decode cX11_nameAt 99 = .ok (.iload_n 1, 1) := by decide +kernel
theorem dX11_nameAt_100 : decode cX11_nameAt 100 = .ok (.ifCond .ne 8, 3) := by decide +kernel
theorem dX11_nameAt_103 : decode cX11_nameAt 103 = .ok (.bipush 99, 2) := by decide +kernel
theorem dX11_nameAt_105 : decode cX11_nameAt 105 = .ok (.goto 65, 3) := by decide +kernel
theorem dX11_nameAt_108 : decode cX11_nameAt 108 = .ok (.iload_n 1, 1) := by decide +kernel
theorem dX11_nameAt_109 : decode cX11_nameAt 109 = .ok (.iconst 1, 1) := by decide +kernel
theorem dX11_nameAt_110 : decode cX11_nameAt 110 = .ok (.if_icmp .ne 8, 3) := by decide +kernel
theorem dX11_nameAt_113 : decode cX11_nameAt 113 = .ok (.bipush 111, 2) := by decide +kernel
theorem dX11_nameAt_115 : decode cX11_nameAt 115 = .ok (.goto 55, 3) := by decide +kernel
theorem dX11_nameAt_118 : decode cX11_nameAt 118 = .ok (.iload_n 1, 1) := by decide +kernel
theorem dX11_nameAt_119 : decode cX11_nameAt 119 = .ok (.iconst 2, 1) := by decide +kernel
theorem dX11_nameAt_120 : decode cX11_nameAt 120 = .ok (.if_icmp .ne 8, 3) := by decide +kernel
theorem dX11_nameAt_123 : decode cX11_nameAt 123 = .ok (.bipush 110, 2) := by decide +kernel
theorem dX11_nameAt_125 : decode cX11_nameAt 125 = .ok (.goto 45, 3) := by decide +kernel
theorem dX11_nameAt_128 : decode cX11_nameAt 128 = .ok (.iload_n 1, 1) := by decide +kernel
theorem dX11_nameAt_129 : decode cX11_nameAt 129 = .ok (.iconst 3, 1) := by decide +kernel
theorem dX11_nameAt_130 : decode cX11_nameAt 130 = .ok (.if_icmp .ne 8, 3) := by decide +kernel
theorem dX11_nameAt_133 : decode cX11_nameAt 133 = .ok (.bipush 116, 2) := by decide +kernel
theorem dX11_nameAt_135 : decode cX11_nameAt 135 = .ok (.goto 35, 3) := by decide +kernel
theorem dX11_nameAt_138 : decode cX11_nameAt 138 = .ok (.iload_n 1, 1) := by decide +kernel
theorem dX11_nameAt_139 : decode cX11_nameAt 139 = .ok (.iconst 4, 1) := by decide +kernel
theorem dX11_nameAt_140 : decode cX11_nameAt 140 = .ok (.if_icmp .ne 8, 3) := by decide +kernel
theorem dX11_nameAt_143 : decode cX11_nameAt 143 = .ok (.bipush 101, 2) := by decide +kernel
theorem dX11_nameAt_145 : decode cX11_nameAt 145 = .ok (.goto 25, 3) := by decide +kernel
theorem dX11_nameAt_148 : decode cX11_nameAt 148 = .ok (.iload_n 1, 1) := by decide +kernel
theorem dX11_nameAt_149 : decode cX11_nameAt 149 = .ok (.iconst 5, 1) := by decide +kernel
theorem dX11_nameAt_150 : decode cX11_nameAt 150 = .ok (.if_icmp .ne 8, 3) := by decide +kernel
theorem dX11_nameAt_153 : decode cX11_nameAt 153 = .ok (.bipush 120, 2) := by decide +kernel
theorem dX11_nameAt_155 : decode cX11_nameAt 155 = .ok (.goto 15, 3) := by decide +kernel
theorem dX11_nameAt_158 : decode cX11_nameAt 158 = .ok (.iload_n 1, 1) := by decide +kernel
theorem dX11_nameAt_159 : decode cX11_nameAt 159 = .ok (.bipush 6, 2) := by decide +kernel
theorem dX11_nameAt_161 : decode cX11_nameAt 161 = .ok (.if_icmp .ne 8, 3) := by decide +kernel
theorem dX11_nameAt_164 : decode cX11_nameAt 164 = .ok (.bipush 116, 2) := by decide +kernel
theorem dX11_nameAt_166 : decode cX11_nameAt 166 = .ok (.goto 4, 3) := by decide +kernel
theorem dX11_nameAt_169 : decode cX11_nameAt 169 = .ok (.iconst 0, 1) := by decide +kernel
theorem dX11_nameAt_170 : decode cX11_nameAt 170 = .ok (.ireturn, 1) := by decide +kernel
theorem dX11_nameAt_171 : decode cX11_nameAt 171 = .ok (.iload_n 1, 1) := by decide +kernel
theorem dX11_nameAt_172 : decode cX11_nameAt 172 = .ok (.ifCond .ne 8, 3) := by decide +kernel
theorem dX11_nameAt_175 : decode cX11_nameAt 175 = .ok (.bipush 109, 2) := by decide +kernel
theorem dX11_nameAt_177 : decode cX11_nameAt 177 = .ok (.goto 34, 3) := by decide +kernel
theorem dX11_nameAt_180 : decode cX11_nameAt 180 = .ok (.iload_n 1, 1) := by decide +kernel
theorem dX11_nameAt_181 : decode cX11_nameAt 181 = .ok (.iconst 1, 1) := by decide +kernel
theorem dX11_nameAt_182 : decode cX11_nameAt 182 = .ok (.if_icmp .ne 8, 3) := by decide +kernel
theorem dX11_nameAt_185 : decode cX11_nameAt 185 = .ok (.bipush 111, 2) := by decide +kernel
theorem dX11_nameAt_187 : decode cX11_nameAt 187 = .ok (.goto 24, 3) := by decide +kernel
theorem dX11_nameAt_190 : decode cX11_nameAt 190 = .ok (.iload_n 1, 1) := by decide +kernel
theorem dX11_nameAt_191 : decode cX11_nameAt 191 = .ok (.iconst 2, 1) := by decide +kernel
theorem dX11_nameAt_192 : decode cX11_nameAt 192 = .ok (.if_icmp .ne 8, 3) := by decide +kernel
theorem dX11_nameAt_195 : decode cX11_nameAt 195 = .ok (.bipush 100, 2) := by decide +kernel
theorem dX11_nameAt_197 : decode cX11_nameAt 197 = .ok (.goto 14, 3) := by decide +kernel
theorem dX11_nameAt_200 : decode cX11_nameAt 200 = .ok (.iload_n 1, 1) := by decide +kernel
theorem dX11_nameAt_201 : decode cX11_nameAt 201 = .ok (.iconst 3, 1) := by decide +kernel
theorem dX11_nameAt_202 : decode cX11_nameAt 202 = .ok (.if_icmp .ne 8, 3) := by decide +kernel
theorem dX11_nameAt_205 : decode cX11_nameAt 205 = .ok (.bipush 101, 2) := by decide +kernel
theorem dX11_nameAt_207 : decode cX11_nameAt 207 = .ok (.goto 4, 3) := by decide +kernel
theorem dX11_nameAt_210 : decode cX11_nameAt 210 = .ok (.iconst 0, 1) := by decide +kernel
theorem dX11_nameAt_211 : decode cX11_nameAt 211 = .ok (.ireturn, 1) := by decide +kernel
theorem dX11_nameAt_212 : decode cX11_nameAt 212 = .ok (.iload_n 1, 1) := by decide +kernel
theorem dX11_nameAt_213 : decode cX11_nameAt 213 = .ok (.ifCond .ne 8, 3) := by decide +kernel
theorem dX11_nameAt_216 : decode cX11_nameAt 216 = .ok (.bipush 108, 2) := by decide +kernel
theorem dX11_nameAt_218 : decode cX11_nameAt 218 = .ok (.goto 44, 3) := by decide +kernel
theorem dX11_nameAt_221 : decode cX11_nameAt 221 = .ok (.iload_n 1, 1) := by decide +kernel
theorem dX11_nameAt_222 : decode cX11_nameAt 222 = .ok (.iconst 1, 1) := by decide +kernel
theorem dX11_nameAt_223 : decode cX11_nameAt 223 = .ok (.if_icmp .ne 8, 3) := by decide +kernel
theorem dX11_nameAt_226 : decode cX11_nameAt 226 = .ok (.bipush 105, 2) := by decide +kernel
theorem dX11_nameAt_228 : decode cX11_nameAt 228 = .ok (.goto 34, 3) := by decide +kernel
theorem dX11_nameAt_231 : decode cX11_nameAt 231 = .ok (.iload_n 1, 1) := by decide +kernel
theorem dX11_nameAt_232 : decode cX11_nameAt 232 = .ok (.iconst 2, 1) := by decide +kernel
theorem dX11_nameAt_233 : decode cX11_nameAt 233 = .ok (.if_icmp .ne 8, 3) := by decide +kernel
theorem dX11_nameAt_236 : decode cX11_nameAt 236 = .ok (.bipush 109, 2) := by decide +kernel
theorem dX11_nameAt_238 : decode cX11_nameAt 238 = .ok (.goto 24, 3) := by decide +kernel
theorem dX11_nameAt_241 : decode cX11_nameAt 241 = .ok (.iload_n 1, 1) := by decide +kernel
theorem dX11_nameAt_242 : decode cX11_nameAt 242 = .ok (.iconst 3, 1) := by decide +kernel
theorem dX11_nameAt_243 : decode cX11_nameAt 243 = .ok (.if_icmp .ne 8, 3) := by decide +kernel
theorem dX11_nameAt_246 : decode cX11_nameAt 246 = .ok (.bipush 105, 2) := by decide +kernel
theorem dX11_nameAt_248 : decode cX11_nameAt 248 = .ok (.goto 14, 3) := by decide +kernel
theorem dX11_nameAt_251 : decode cX11_nameAt 251 = .ok (.iload_n 1, 1) := by decide +kernel
theorem dX11_nameAt_252 : decode cX11_nameAt 252 = .ok (.iconst 4, 1) := by decide +kernel
theorem dX11_nameAt_253 : decode cX11_nameAt 253 = .ok (.if_icmp .ne 8, 3) := by decide +kernel
theorem dX11_nameAt_256 : decode cX11_nameAt 256 = .ok (.bipush 116, 2) := by decide +kernel
theorem dX11_nameAt_258 : decode cX11_nameAt 258 = .ok (.goto 4, 3) := by decide +kernel
theorem dX11_nameAt_261 : decode cX11_nameAt 261 = .ok (.iconst 0, 1) := by decide +kernel
theorem dX11_nameAt_262 : decode cX11_nameAt 262 = .ok (.ireturn, 1) := by decide +kernel
theorem dX11_nameAt_263 : decode cX11_nameAt 263 = .ok (.iload_n 1, 1) := by decide +kernel
theorem dX11_nameAt_264 : decode cX11_nameAt 264 = .ok (.iconst 2, 1) := by decide +kernel
theorem dX11_nameAt_265 : decode cX11_nameAt 265 = .ok (.if_icmp .ge 17, 3) := by decide +kernel
theorem dX11_nameAt_268 : decode cX11_nameAt 268 = .ok (.iload_n 1, 1) := by decide +kernel
theorem dX11_nameAt_269 : decode cX11_nameAt 269 = .ok (.ifCond .ne 8, 3) := by decide +kernel
theorem dX11_nameAt_272 : decode cX11_nameAt 272 = .ok (.bipush 101, 2) := by decide +kernel
theorem dX11_nameAt_274 : decode cX11_nameAt 274 = .ok (.goto 34, 3) := by decide +kernel
theorem dX11_nameAt_277 : decode cX11_nameAt 277 = .ok (.bipush 120, 2) := by decide +kernel
theorem dX11_nameAt_279 : decode cX11_nameAt 279 = .ok (.goto 29, 3) := by decide +kernel
theorem dX11_nameAt_282 : decode cX11_nameAt 282 = .ok (.iload_n 1, 1) := by decide +kernel
theorem dX11_nameAt_283 : decode cX11_nameAt 283 = .ok (.iconst 2, 1) := by decide +kernel
theorem dX11_nameAt_284 : decode cX11_nameAt 284 = .ok (.if_icmp .ne 8, 3) := by decide +kernel
theorem dX11_nameAt_287 : decode cX11_nameAt 287 = .ok (.bipush 116, 2) := by decide +kernel
theorem dX11_nameAt_289 : decode cX11_nameAt 289 = .ok (.goto 19, 3) := by decide +kernel
theorem dX11_nameAt_292 : decode cX11_nameAt 292 = .ok (.iload_n 1, 1) := by decide +kernel
theorem dX11_nameAt_293 : decode cX11_nameAt 293 = .ok (.bipush 8, 2) := by decide +kernel
theorem dX11_nameAt_295 : decode cX11_nameAt 295 = .ok (.if_icmp .ge 12, 3) := by decide +kernel
theorem dX11_nameAt_298 : decode cX11_nameAt 298 = .ok (.iload_n 1, 1) := by decide +kernel
theorem dX11_nameAt_299 : decode cX11_nameAt 299 = .ok (.iconst 3, 1) := by decide +kernel
theorem dX11_nameAt_300 : decode cX11_nameAt 300 = .ok (.isub, 1) := by decide +kernel
theorem dX11_nameAt_301 : decode cX11_nameAt 301 = .ok (.invokestatic 198, 3) := by decide +kernel
theorem dX11_nameAt_304 : decode cX11_nameAt 304 = .ok (.goto 4, 3) := by decide +kernel
theorem dX11_nameAt_307 : decode cX11_nameAt 307 = .ok (.iconst 0, 1) := by decide +kernel
theorem dX11_nameAt_308 : decode cX11_nameAt 308 = .ok (.ireturn, 1) := by decide +kernel
theorem dX11_nameAt_309 : decode cX11_nameAt 309 = .ok (.iload_n 1, 1) := by decide +kernel
theorem dX11_nameAt_310 : decode cX11_nameAt 310 = .ok (.iconst 2, 1) := by decide +kernel
theorem dX11_nameAt_311 : decode cX11_nameAt 311 = .ok (.if_icmp .ge 17, 3) := by decide +kernel
theorem dX11_nameAt_314 : decode cX11_nameAt 314 = .ok (.iload_n 1, 1) := by decide +kernel
theorem dX11_nameAt_315 : decode cX11_nameAt 315 = .ok (.ifCond .ne 8, 3) := by decide +kernel
theorem dX11_nameAt_318 : decode cX11_nameAt 318 = .ok (.bipush 105, 2) := by decide +kernel
theorem dX11_nameAt_320 : decode cX11_nameAt 320 = .ok (.goto 34, 3) := by decide +kernel
theorem dX11_nameAt_323 : decode cX11_nameAt 323 = .ok (.bipush 110, 2) := by decide +kernel
theorem dX11_nameAt_325 : decode cX11_nameAt 325 = .ok (.goto 29, 3) := by decide +kernel
theorem dX11_nameAt_328 : decode cX11_nameAt 328 = .ok (.iload_n 1, 1) := by decide +kernel
theorem dX11_nameAt_329 : decode cX11_nameAt 329 = .ok (.iconst 2, 1) := by decide +kernel
theorem dX11_nameAt_330 : decode cX11_nameAt 330 = .ok (.if_icmp .ne 8, 3) := by decide +kernel
theorem dX11_nameAt_333 : decode cX11_nameAt 333 = .ok (.bipush 116, 2) := by decide +kernel
theorem dX11_nameAt_335 : decode cX11_nameAt 335 = .ok (.goto 19, 3) := by decide +kernel
theorem dX11_nameAt_338 : decode cX11_nameAt 338 = .ok (.iload_n 1, 1) := by decide +kernel
theorem dX11_nameAt_339 : decode cX11_nameAt 339 = .ok (.bipush 8, 2) := by decide +kernel
theorem dX11_nameAt_341 : decode cX11_nameAt 341 = .ok (.if_icmp .ge 12, 3) := by decide +kernel
theorem dX11_nameAt_344 : decode cX11_nameAt 344 = .ok (.iload_n 1, 1) := by decide +kernel
theorem dX11_nameAt_345 : decode cX11_nameAt 345 = .ok (.iconst 3, 1) := by decide +kernel
theorem dX11_nameAt_346 : decode cX11_nameAt 346 = .ok (.isub, 1) := by decide +kernel
theorem dX11_nameAt_347 : decode cX11_nameAt 347 = .ok (.invokestatic 198, 3) := by decide +kernel
theorem dX11_nameAt_350 : decode cX11_nameAt 350 = .ok (.goto 4, 3) := by decide +kernel
theorem dX11_nameAt_353 : decode cX11_nameAt 353 = .ok (.iconst 0, 1) := by decide +kernel
theorem dX11_nameAt_354 : decode cX11_nameAt 354 = .ok (.ireturn, 1) := by decide +kernel
theorem dX11_nameAt_355 : decode cX11_nameAt 355 = .ok (.iload_n 1, 1) := by decide +kernel
theorem dX11_nameAt_356 : decode cX11_nameAt 356 = .ok (.iconst 2, 1) := by decide +kernel
theorem dX11_nameAt_357 : decode cX11_nameAt 357 = .ok (.if_icmp .ge 17, 3) := by decide +kernel
theorem dX11_nameAt_360 : decode cX11_nameAt 360 = .ok (.iload_n 1, 1) := by decide +kernel
theorem dX11_nameAt_361 : decode cX11_nameAt 361 = .ok (.ifCond .ne 8, 3) := by decide +kernel
theorem dX11_nameAt_364 : decode cX11_nameAt 364 = .ok (.bipush 109, 2) := by decide +kernel
theorem dX11_nameAt_366 : decode cX11_nameAt 366 = .ok (.goto 34, 3) := by decide +kernel
theorem dX11_nameAt_369 : decode cX11_nameAt 369 = .ok (.bipush 97, 2) := by decide +kernel
theorem dX11_nameAt_371 : decode cX11_nameAt 371 = .ok (.goto 29, 3) := by decide +kernel
theorem dX11_nameAt_374 : decode cX11_nameAt 374 = .ok (.iload_n 1, 1) := by decide +kernel
theorem dX11_nameAt_375 : decode cX11_nameAt 375 = .ok (.iconst 2, 1) := by decide +kernel
theorem dX11_nameAt_376 : decode cX11_nameAt 376 = .ok (.if_icmp .ne 8, 3) := by decide +kernel
theorem dX11_nameAt_379 : decode cX11_nameAt 379 = .ok (.bipush 120, 2) := by decide +kernel
theorem dX11_nameAt_381 : decode cX11_nameAt 381 = .ok (.goto 19, 3) := by decide +kernel
theorem dX11_nameAt_384 : decode cX11_nameAt 384 = .ok (.iload_n 1, 1) := by decide +kernel
theorem dX11_nameAt_385 : decode cX11_nameAt 385 = .ok (.bipush 7, 2) := by decide +kernel
theorem dX11_nameAt_387 : decode cX11_nameAt 387 = .ok (.if_icmp .ge 12, 3) := by decide +kernel
theorem dX11_nameAt_390 : decode cX11_nameAt 390 = .ok (.iload_n 1, 1) := by decide +kernel
theorem dX11_nameAt_391 : decode cX11_nameAt 391 = .ok (.iconst 3, 1) := by decide +kernel
theorem dX11_nameAt_392 : decode cX11_nameAt 392 = .ok (.isub, 1) := by decide +kernel
theorem dX11_nameAt_393 : decode cX11_nameAt 393 = .ok (.invokestatic 201, 3) := by decide +kernel
theorem dX11_nameAt_396 : decode cX11_nameAt 396 = .ok (.goto 4, 3) := by decide +kernel
theorem dX11_nameAt_399 : decode cX11_nameAt 399 = .ok (.iconst 0, 1) := by decide +kernel
theorem dX11_nameAt_400 : decode cX11_nameAt 400 = .ok (.ireturn, 1) := by decide +kernel
theorem dX11_nameAt_401 : decode cX11_nameAt 401 = .ok (.iload_n 1, 1) := by decide +kernel
theorem dX11_nameAt_402 : decode cX11_nameAt 402 = .ok (.iconst 2, 1) := by decide +kernel
theorem dX11_nameAt_403 : decode cX11_nameAt 403 = .ok (.if_icmp .ge 17, 3) := by decide +kernel
theorem dX11_nameAt_406 : decode cX11_nameAt 406 = .ok (.iload_n 1, 1) := by decide +kernel
theorem dX11_nameAt_407 : decode cX11_nameAt 407 = .ok (.ifCond .ne 8, 3) := by decide +kernel
theorem dX11_nameAt_410 : decode cX11_nameAt 410 = .ok (.bipush 109, 2) := by decide +kernel
theorem dX11_nameAt_412 : decode cX11_nameAt 412 = .ok (.goto 34, 3) := by decide +kernel
theorem dX11_nameAt_415 : decode cX11_nameAt 415 = .ok (.bipush 105, 2) := by decide +kernel
theorem dX11_nameAt_417 : decode cX11_nameAt 417 = .ok (.goto 29, 3) := by decide +kernel
theorem dX11_nameAt_420 : decode cX11_nameAt 420 = .ok (.iload_n 1, 1) := by decide +kernel
theorem dX11_nameAt_421 : decode cX11_nameAt 421 = .ok (.iconst 2, 1) := by decide +kernel
theorem dX11_nameAt_422 : decode cX11_nameAt 422 = .ok (.if_icmp .ne 8, 3) := by decide +kernel
theorem dX11_nameAt_425 : decode cX11_nameAt 425 = .ok (.bipush 110, 2) := by decide +kernel
theorem dX11_nameAt_427 : decode cX11_nameAt 427 = .ok (.goto 19, 3) := by decide +kernel
theorem dX11_nameAt_430 : decode cX11_nameAt 430 = .ok (.iload_n 1, 1) := by decide +kernel
theorem dX11_nameAt_431 : decode cX11_nameAt 431 = .ok (.bipush 7, 2) := by decide +kernel
theorem dX11_nameAt_433 : decode cX11_nameAt 433 = .ok (.if_icmp .ge 12, 3) := by decide +kernel
theorem dX11_nameAt_436 : decode cX11_nameAt 436 = .ok (.iload_n 1, 1) := by decide +kernel
theorem dX11_nameAt_437 : decode cX11_nameAt 437 = .ok (.iconst 3, 1) := by decide +kernel
theorem dX11_nameAt_438 : decode cX11_nameAt 438 = .ok (.isub, 1) := by decide +kernel
theorem dX11_nameAt_439 : decode cX11_nameAt 439 = .ok (.invokestatic 201, 3) := by decide +kernel
theorem dX11_nameAt_442 : decode cX11_nameAt 442 = .ok (.goto 4, 3) := by decide +kernel
theorem dX11_nameAt_445 : decode cX11_nameAt 445 = .ok (.iconst 0, 1) := by decide +kernel
theorem dX11_nameAt_446 : decode cX11_nameAt 446 = .ok (.ireturn, 1) := by decide +kernel
theorem dX11_nameAt_447 : decode cX11_nameAt 447 = .ok (.iload_n 1, 1) := by decide +kernel
theorem dX11_nameAt_448 : decode cX11_nameAt 448 = .ok (.ifCond .ne 8, 3) := by decide +kernel
theorem dX11_nameAt_451 : decode cX11_nameAt 451 = .ok (.bipush 108, 2) := by decide +kernel
theorem dX11_nameAt_453 : decode cX11_nameAt 453 = .ok (.goto 34, 3) := by decide +kernel
theorem dX11_nameAt_456 : decode cX11_nameAt 456 = .ok (.iload_n 1, 1) := by decide +kernel
theorem dX11_nameAt_457 : decode cX11_nameAt 457 = .ok (.iconst 1, 1) := by decide +kernel
theorem dX11_nameAt_458 : decode cX11_nameAt 458 = .ok (.if_icmp .ne 8, 3) := by decide +kernel
theorem dX11_nameAt_461 : decode cX11_nameAt 461 = .ok (.bipush 101, 2) := by decide +kernel
theorem dX11_nameAt_463 : decode cX11_nameAt 463 = .ok (.goto 24, 3) := by decide +kernel
theorem dX11_nameAt_466 : decode cX11_nameAt 466 = .ok (.iload_n 1, 1) := by decide +kernel
theorem dX11_nameAt_467 : decode cX11_nameAt 467 = .ok (.iconst 2, 1) := by decide +kernel
theorem dX11_nameAt_468 : decode cX11_nameAt 468 = .ok (.if_icmp .ne 8, 3) := by decide +kernel
theorem dX11_nameAt_471 : decode cX11_nameAt 471 = .ok (.bipush 102, 2) := by decide +kernel
theorem dX11_nameAt_473 : decode cX11_nameAt 473 = .ok (.goto 14, 3) := by decide +kernel
theorem dX11_nameAt_476 : decode cX11_nameAt 476 = .ok (.iload_n 1, 1) := by decide +kernel
theorem dX11_nameAt_477 : decode cX11_nameAt 477 = .ok (.iconst 3, 1) := by decide +kernel
theorem dX11_nameAt_478 : decode cX11_nameAt 478 = .ok (.if_icmp .ne 8, 3) := by decide +kernel
theorem dX11_nameAt_481 : decode cX11_nameAt 481 = .ok (.bipush 116, 2) := by decide +kernel
theorem dX11_nameAt_483 : decode cX11_nameAt 483 = .ok (.goto 4, 3) := by decide +kernel
theorem dX11_nameAt_486 : decode cX11_nameAt 486 = .ok (.iconst 0, 1) := by decide +kernel
theorem dX11_nameAt_487 : decode cX11_nameAt 487 = .ok (.ireturn, 1) := by decide +kernel
theorem dX11_ernal_0 : decode cX11_ernal 0 = .ok (.iload_n 0, 1) := by decide +kernel
theorem dX11_ernal_1 : decode cX11_ernal 1 = .ok (.ifCond .ne 8, 3) := by decide +kernel
theorem dX11_ernal_4 : decode cX11_ernal 4 = .ok (.bipush 101, 2) := by decide +kernel
theorem dX11_ernal_6 : decode cX11_ernal 6 = .ok (.goto 35, 3) := by decide +kernel
theorem dX11_ernal_9 : decode cX11_ernal 9 = .ok (.iload_n 0, 1) := by decide +kernel
theorem dX11_ernal_10 : decode cX11_ernal 10 = .ok (.iconst 1, 1) := by decide +kernel
theorem dX11_ernal_11 : decode cX11_ernal 11 = .ok (.if_icmp .ne 8, 3) := by decide +kernel
theorem dX11_ernal_14 : decode cX11_ernal 14 = .ok (.bipush 114, 2) := by decide +kernel
theorem dX11_ernal_16 : decode cX11_ernal 16 = .ok (.goto 25, 3) := by decide +kernel
theorem dX11_ernal_19 : decode cX11_ernal 19 = .ok (.iload_n 0, 1) := by decide +kernel
theorem dX11_ernal_20 : decode cX11_ernal 20 = .ok (.iconst 2, 1) := by decide +kernel
theorem dX11_ernal_21 : decode cX11_ernal 21 = .ok (.if_icmp .ne 8, 3) := by decide +kernel
theorem dX11_ernal_24 : decode cX11_ernal 24 = .ok (.bipush 110, 2) := by decide +kernel
theorem dX11_ernal_26 : decode cX11_ernal 26 = .ok (.goto 15, 3) := by decide +kernel
theorem dX11_ernal_29 : decode cX11_ernal 29 = .ok (.iload_n 0, 1) := by decide +kernel
theorem dX11_ernal_30 : decode cX11_ernal 30 = .ok (.iconst 3, 1) := by decide +kernel
theorem dX11_ernal_31 : decode cX11_ernal 31 = .ok (.if_icmp .ne 8, 3) := by decide +kernel
theorem dX11_ernal_34 : decode cX11_ernal 34 = .ok (.bipush 97, 2) := by decide +kernel
theorem dX11_ernal_36 : decode cX11_ernal 36 = .ok (.goto 5, 3) := by decide +kernel
theorem dX11_ernal_39 : decode cX11_ernal 39 = .ok (.bipush 108, 2) := by decide +kernel
theorem dX11_ernal_41 : decode cX11_ernal 41 = .ok (.ireturn, 1) := by decide +kernel
theorem dX11_imal_0 : decode cX11_imal 0 = .ok (.iload_n 0, 1) := by decide +kernel
theorem dX11_imal_1 : decode cX11_imal 1 = .ok (.ifCond .ne 8, 3) := by decide +kernel
theorem dX11_imal_4 : decode cX11_imal 4 = .ok (.bipush 105, 2) := by decide +kernel
theorem dX11_imal_6 : decode cX11_imal 6 = .ok (.goto 25, 3) := by decide +kernel
theorem dX11_imal_9 : decode cX11_imal 9 = .ok (.iload_n 0, 1) := by decide +kernel
theorem dX11_imal_10 : decode cX11_imal 10 = .ok (.iconst 1, 1) := by decide +kernel
theorem dX11_imal_11 : decode cX11_imal 11 = .ok (.if_icmp .ne 8, 3) := by decide +kernel
theorem dX11_imal_14 : decode cX11_imal 14 = .ok (.bipush 109, 2) := by decide +kernel
theorem dX11_imal_16 : decode cX11_imal 16 = .ok (.goto 15, 3) := by decide +kernel
theorem dX11_imal_19 : decode cX11_imal 19 = .ok (.iload_n 0, 1) := by decide +kernel
theorem dX11_imal_20 : decode cX11_imal 20 = .ok (.iconst 2, 1) := by decide +kernel
theorem dX11_imal_21 : decode cX11_imal 21 = .ok (.if_icmp .ne 8, 3) := by decide +kernel
theorem dX11_imal_24 : decode cX11_imal 24 = .ok (.bipush 97, 2) := by decide +kernel
theorem dX11_imal_26 : decode cX11_imal 26 = .ok (.goto 5, 3) := by decide +kernel
theorem dX11_imal_29 : decode cX11_imal 29 = .ok (.bipush 108, 2) := by decide +kernel
theorem dX11_imal_31 : decode cX11_imal 31 = .ok (.ireturn, 1) := by decide +kernel
theorem dX11_readName_0 : decode cX11_readName 0 = .ok (.iconst 0, 1) := by decide +kernel
theorem dX11_readName_1 : decode cX11_readName 1 = .ok (.istore_n 3, 1) := by decide +kernel
theorem dX11_readName_2 : decode cX11_readName 2 = .ok (.iload_n 1, 1) := by decide +kernel
theorem dX11_readName_3 : decode cX11_readName 3 = .ok (.istore 4, 2) := by decide +kernel
theorem dX11_readName_5 : decode cX11_readName 5 = .ok (.iload 4, 2) := by decide +kernel
theorem dX11_readName_7 : decode cX11_readName 7 = .ok (.iload_n 2, 1) := by decide +kernel
theorem dX11_readName_8 : decode cX11_readName 8 = .ok (.if_icmp .gt 95, 3) := by decide +kernel
theorem dX11_readName_11 : decode cX11_readName 11 = .ok (.iconst 0, 1) := by decide +kernel
theorem dX11_readName_12 : decode cX11_readName 12 = .ok (.istore 5, 2) := by decide +kernel
theorem dX11_readName_14 : decode cX11_readName 14 = .ok (.aload_n 0, 1) := by decide +kernel
theorem dX11_readName_15 : decode cX11_readName 15 = .ok (.getfield 141, 3) := by decide +kernel
theorem dX11_readName_18 : decode cX11_readName 18 = .ok (.iload 5, 2) := by decide +kernel
theorem dX11_readName_20 : decode cX11_readName 20 = .ok (.iadd, 1) := by decide +kernel
theorem dX11_readName_21 : decode cX11_readName 21 = .ok (.aload_n 0, 1) := by decide +kernel
theorem dX11_readName_22 : decode cX11_readName 22 = .ok (.getfield 144, 3) := by decide +kernel
theorem dX11_readName_25 : decode cX11_readName 25 = .ok (.if_icmp .ge 41, 3) := by decide +kernel
theorem dX11_readName_28 : decode cX11_readName 28 = .ok (.iload 4, 2) := by decide +kernel
theorem dX11_readName_30 : decode cX11_readName 30 = .ok (.iload 5, 2) := by decide +kernel
theorem dX11_readName_32 : decode cX11_readName 32 = .ok (.invokestatic 204, 3) := by decide +kernel
theorem dX11_readName_35 : decode cX11_readName 35 = .ok (.ifCond .eq 31, 3) := by decide +kernel
theorem dX11_readName_38 : decode cX11_readName 38 = .ok (.aload_n 0, 1) := by decide +kernel
theorem dX11_readName_39 : decode cX11_readName 39 = .ok (.getfield 32, 3) := by decide +kernel
theorem dX11_readName_42 : decode cX11_readName 42 = .ok (.aload_n 0, 1) := by decide +kernel
theorem dX11_readName_43 : decode cX11_readName 43 = .ok (.getfield 141, 3) := by decide +kernel
theorem dX11_readName_46 : decode cX11_readName 46 = .ok (.iload 5, 2) := by decide +kernel
theorem dX11_readName_48 : decode cX11_readName 48 = .ok (.iadd, 1) := by decide +kernel
theorem dX11_readName_49 : decode cX11_readName 49 = .ok (.caload, 1) := by decide +kernel
theorem dX11_readName_50 : decode cX11_readName 50 = .ok (.iload 4, 2) := by decide +kernel
theorem dX11_readName_52 : decode cX11_readName 52 = .ok (.iload 5, 2) := by decide +kernel
theorem dX11_readName_54 : decode cX11_readName 54 = .ok (.invokestatic 204, 3) := by decide +kernel
theorem dX11_readName_57 : decode cX11_readName 57 = .ok (.if_icmp .ne 9, 3) := by decide +kernel
theorem dX11_readName_60 : decode cX11_readName 60 = .ok (.iinc 5 1, 3) := by decide +kernel
theorem dX11_readName_63 : decode cX11_readName 63 = .ok (.goto (-49), 3) := by decide +kernel
theorem dX11_readName_66 : decode cX11_readName 66 = .ok (.iload 4, 2) := by decide +kernel
theorem dX11_readName_68 : decode cX11_readName 68 = .ok (.iload 5, 2) := by decide +kernel
theorem dX11_readName_70 : decode cX11_readName 70 = .ok (.invokestatic 204, 3) := by decide +kernel
theorem dX11_readName_73 : decode cX11_readName 73 = .ok (.ifCond .ne 17, 3) := by decide +kernel
theorem dX11_readName_76 : decode cX11_readName 76 = .ok (.aload_n 0, 1) := by decide +kernel
theorem dX11_readName_77 : decode cX11_readName 77 = .ok (.dup, 1) := by decide +kernel
theorem dX11_readName_78 : decode cX11_readName 78 = .ok (.getfield 141, 3) := by decide +kernel
theorem dX11_readName_81 : decode cX11_readName 81 = .ok (.iload 5, 2) := by decide +kernel
theorem dX11_readName_83 : decode cX11_readName 83 = .ok (.iadd, 1) := by decide +kernel
theorem dX11_readName_84 : decode cX11_readName 84 = .ok (.putfield 141, 3) := by decide +kernel
theorem dX11_readName_87 : decode cX11_readName 87 = .ok (.iload 4, 2) := by decide +kernel
theorem dX11_readName_89 : decode cX11_readName 89 = .ok (.ireturn, 1) := by decide +kernel
theorem dX11_readName_90 : decode cX11_readName 90 = .ok (.iload_n 3, 1) := by decide +kernel
theorem dX11_readName_91 : decode cX11_readName 91 = .ok (.iload 5, 2) := by decide +kernel
theorem dX11_readName_93 : decode cX11_readName 93 = .ok (.invokestatic 207, 3) := by decide +kernel
theorem dX11_readName_96 : decode cX11_readName 96 = .ok (.istore_n 3, 1) := by decide +kernel
theorem dX11_readName_97 : decode cX11_readName 97 = .ok (.iinc 4 1, 3) := by decide +kernel
theorem dX11_readName_100 : decode cX11_readName 100 = .ok (.goto (-95), 3) := by decide +kernel
theorem dX11_readName_103 : decode cX11_readName 103 = .ok (.aload_n 0, 1) := by decide +kernel
theorem dX11_readName_104 : decode cX11_readName 104 = .ok (.aload_n 0, 1) := by decide +kernel
theorem dX11_readName_105 : decode cX11_readName 105 = .ok (.getfield 141, 3) := by decide +kernel
theorem dX11_readName_108 : decode cX11_readName 108 = .ok (.iload_n 3, 1) := by decide +kernel
theorem dX11_readName_109 : decode cX11_readName 109 = .ok (.iadd, 1) := by decide +kernel
theorem dX11_readName_110 : decode cX11_readName 110 = .ok (.putfield 36, 3) := by decide +kernel
theorem dX11_readName_113 : decode cX11_readName 113 = .ok (.iconst (-1), 1) := by decide +kernel
theorem dX11_readName_114 : decode cX11_readName 114 = .ok (.ireturn, 1) := by decide +kernel
theorem dX11_finish_0 : decode cX11_finish 0 = .ok (.aload_n 0, 1) := by decide +kernel
theorem dX11_finish_1 : decode cX11_finish 1 = .ok (.getfield 36, 3) := by decide +kernel
theorem dX11_finish_4 : decode cX11_finish 4 = .ok (.ifCond .ge 22, 3) := by decide +kernel
theorem dX11_finish_7 : decode cX11_finish 7 = .ok (.aload_n 0, 1) := by decide +kernel
theorem dX11_finish_8 : decode cX11_finish 8 = .ok (.getfield 141, 3) := by decide +kernel
theorem dX11_finish_11 : decode cX11_finish 11 = .ok (.aload_n 0, 1) := by decide +kernel
theorem dX11_finish_12 : decode cX11_finish 12 = .ok (.getfield 144, 3) := by decide +kernel
theorem dX11_finish_15 : decode cX11_finish 15 = .ok (.if_icmp .ge 11, 3) := by decide +kernel
theorem dX11_finish_18 : decode cX11_finish 18 = .ok (.aload_n 0, 1) := by decide +kernel
theorem dX11_finish_19 : decode cX11_finish 19 = .ok (.aload_n 0, 1) := by decide +kernel
theorem dX11_finish_20 : decode cX11_finish 20 = .ok (.getfield 141, 3) := by decide +kernel
theorem dX11_finish_23 : decode cX11_finish 23 = .ok (.putfield 36, 3) := by decide +kernel
theorem dX11_finish_26 : decode cX11_finish 26 = .ok (.return_, 1) := by decide +kernel
theorem dX11_define_0 : decode cX11_define 0 = .ok (.aload_n 0, 1) := by decide +kernel
theorem dX11_define_1 : decode cX11_define 1 = .ok (.iconst 0, 1) := by decide +kernel
theorem dX11_define_2 : decode cX11_define 2 = .ok (.putfield 104, 3) := by decide +kernel
theorem dX11_define_5 : decode cX11_define 5 = .ok (.aload_n 0, 1) := by decide +kernel
theorem dX11_define_6 : decode cX11_define 6 = .ok (.aload_n 0, 1) := by decide +kernel
theorem dX11_define_7 : decode cX11_define 7 = .ok (.getfield 131, 3) := by decide +kernel
theorem dX11_define_10 : decode cX11_define 10 = .ok (.putfield 144, 3) := by decide +kernel
theorem dX11_define_13 : decode cX11_define 13 = .ok (.aload_n 0, 1) := by decide +kernel
theorem dX11_define_14 : decode cX11_define 14 = .ok (.iconst 0, 1) := by decide +kernel
theorem dX11_define_15 : decode cX11_define 15 = .ok (.putfield 131, 3) := by decide +kernel
theorem dX11_define_18 : decode cX11_define 18 = .ok (.aload_n 0, 1) := by decide +kernel
theorem dX11_define_19 : decode cX11_define 19 = .ok (.iconst 0, 1) := by decide +kernel
theorem dX11_define_20 : decode cX11_define 20 = .ok (.putfield 141, 3) := by decide +kernel
theorem dX11_define_23 : decode cX11_define 23 = .ok (.aload_n 0, 1) := by decide +kernel
theorem dX11_define_24 : decode cX11_define 24 = .ok (.iconst (-1), 1) := by decide +kernel
theorem dX11_define_25 : decode cX11_define 25 = .ok (.putfield 36, 3) := by decide +kernel
theorem dX11_define_28 : decode cX11_define 28 = .ok (.aload_n 0, 1) := by decide +kernel
theorem dX11_define_29 : decode cX11_define 29 = .ok (.iconst 0, 1) := by decide +kernel
theorem dX11_define_30 : decode cX11_define 30 = .ok (.putfield 176, 3) := by decide +kernel
theorem dX11_define_33 : decode cX11_define 33 = .ok (.aload_n 0, 1) := by decide +kernel
theorem dX11_define_34 : decode cX11_define 34 = .ok (.iconst 0, 1) := by decide +kernel
theorem dX11_define_35 : decode cX11_define 35 = .ok (.putfield 163, 3) := by decide +kernel
theorem dX11_define_38 : decode cX11_define 38 = .ok (.aload_n 0, 1) := by decide +kernel
theorem dX11_define_39 : decode cX11_define 39 = .ok (.iconst 0, 1) := by decide +kernel
theorem dX11_define_40 : decode cX11_define 40 = .ok (.iconst 3, 1) := by decide +kernel
theorem dX11_define_41 : decode cX11_define 41 = .ok (.invokevirtual 212, 3) := by decide +kernel
theorem dX11_define_44 : decode cX11_define 44 = .ok (.istore_n 1, 1) := by decide +kernel
theorem dX11_define_45 : decode cX11_define 45 = .ok (.aload_n 0, 1) := by decide +kernel
theorem dX11_define_46 : decode cX11_define 46 = .ok (.bipush 32, 2) := by decide +kernel
theorem dX11_define_48 : decode cX11_define 48 = .ok (.invokevirtual 185, 3) := by decide +kernel
theorem dX11_define_51 : decode cX11_define 51 = .ok (.iload_n 1, 1) := by decide +kernel
theorem dX11_define_52 : decode cX11_define 52 = .ok (.tableswitch 52 0 3 #[32, 37, 42, 47], 32) := by decide +kernel
theorem dX11_define_84 : decode cX11_define 84 = .ok (.aload_n 0, 1) := by decide +kernel
theorem dX11_define_85 : decode cX11_define 85 = .ok (.invokevirtual 215, 3) := by decide +kernel
theorem dX11_define_88 : decode cX11_define 88 = .ok (.ireturn, 1) := by decide +kernel
theorem dX11_define_89 : decode cX11_define 89 = .ok (.aload_n 0, 1) := by decide +kernel
theorem dX11_define_90 : decode cX11_define 90 = .ok (.invokevirtual 218, 3) := by decide +kernel
theorem dX11_define_93 : decode cX11_define 93 = .ok (.ireturn, 1) := by decide +kernel
theorem dX11_define_94 : decode cX11_define 94 = .ok (.aload_n 0, 1) := by decide +kernel
theorem dX11_define_95 : decode cX11_define 95 = .ok (.invokevirtual 221, 3) := by decide +kernel
theorem dX11_define_98 : decode cX11_define 98 = .ok (.ireturn, 1) := by decide +kernel
theorem dX11_define_99 : decode cX11_define 99 = .ok (.aload_n 0, 1) := by decide +kernel
theorem dX11_define_100 : decode cX11_define 100 = .ok (.invokevirtual 224, 3) := by decide +kernel
theorem dX11_define_103 : decode cX11_define 103 = .ok (.ireturn, 1) := by decide +kernel
theorem dX11_define_104 : decode cX11_define 104 = .ok (.aload_n 0, 1) := by decide +kernel
theorem dX11_define_105 : decode cX11_define 105 = .ok (.iconst 1, 1) := by decide +kernel
theorem dX11_define_106 : decode cX11_define 106 = .ok (.invokevirtual 134, 3) := by decide +kernel
theorem dX11_define_109 : decode cX11_define 109 = .ok (.ireturn, 1) := by decide +kernel
theorem dX11_defineAxiom_0 : decode cX11_defineAxiom 0 = .ok (.aload_n 0, 1) := by decide +kernel
theorem dX11_defineAxiom_1 : decode cX11_defineAxiom 1 = .ok (.iconst 1, 1) := by decide +kernel
theorem dX11_defineAxiom_2 : decode cX11_defineAxiom 2 = .ok (.bipush 8, 2) := by decide +kernel
theorem dX11_defineAxiom_4 : decode cX11_defineAxiom 4 = .ok (.invokevirtual 189, 3) := by decide +kernel
theorem dX11_defineAxiom_7 : decode cX11_defineAxiom 7 = .ok (.istore_n 1, 1) := by decide +kernel
theorem dX11_defineAxiom_8 : decode cX11_defineAxiom 8 = .ok (.aload_n 0, 1) := by decide +kernel
theorem dX11_defineAxiom_9 : decode cX11_defineAxiom 9 = .ok (.invokevirtual 227, 3) := by decide +kernel
theorem dX11_defineAxiom_12 : decode cX11_defineAxiom 12 = .ok (.aload_n 0, 1) := by decide +kernel
theorem dX11_defineAxiom_13 : decode cX11_defineAxiom 13 = .ok (.getfield 36, 3) := by decide +kernel
theorem dX11_defineAxiom_16 : decode cX11_defineAxiom 16 = .ok (.ifCond .lt 9, 3) := by decide +kernel
theorem dX11_defineAxiom_19 : decode cX11_defineAxiom 19 = .ok (.aload_n 0, 1) := by decide +kernel
theorem dX11_defineAxiom_20 : decode cX11_defineAxiom 20 = .ok (.iconst 1, 1) := by decide +kernel
theorem dX11_defineAxiom_21 : decode cX11_defineAxiom 21 = .ok (.invokevirtual 134, 3) := by decide +kernel
theorem dX11_defineAxiom_24 : decode cX11_defineAxiom 24 = .ok (.ireturn, 1) := by decide +kernel
theorem dX11_defineAxiom_25 : decode cX11_defineAxiom 25 = .ok (.iconst 0, 1) := by decide +kernel
theorem dX11_defineAxiom_26 : decode cX11_defineAxiom 26 = .ok (.istore_n 2, 1) := by decide +kernel
theorem dX11_defineAxiom_27 : decode cX11_defineAxiom 27 = .ok (.iconst 0, 1) := by decide +kernel
theorem dX11_defineAxiom_28 : decode cX11_defineAxiom 28 = .ok (.istore_n 3, 1) := by decide +kernel
theorem dX11_defineAxiom_29 : decode cX11_defineAxiom 29 = .ok (.iload_n 3, 1) := by decide +kernel
theorem dX11_defineAxiom_30 : decode cX11_defineAxiom 30 = .ok (.aload_n 0, 1) := by decide +kernel
theorem dX11_defineAxiom_31 : decode cX11_defineAxiom 31 = .ok (.getfield 128, 3) := by decide +kernel
theorem dX11_defineAxiom_34 : decode cX11_defineAxiom 34 = .ok (.if_icmp .ge 29, 3) := by decide +kernel
theorem dX11_defineAxiom_37 : decode cX11_defineAxiom 37 = .ok (.iload_n 2, 1) := by decide +kernel
theorem dX11_defineAxiom_38 : decode cX11_defineAxiom 38 = .ok (.ifCond .ne 13, 3) := by decide +kernel
theorem dX11_defineAxiom_41 : decode cX11_defineAxiom 41 = .ok (.aload_n 0, 1) := by decide +kernel
theorem dX11_defineAxiom_42 : decode cX11_defineAxiom 42 = .ok (.getfield 7, 3) := by decide +kernel
theorem dX11_defineAxiom_45 : decode cX11_defineAxiom 45 = .ok (.iload_n 3, 1) := by decide +kernel
theorem dX11_defineAxiom_46 : decode cX11_defineAxiom 46 = .ok (.iaload, 1) := by decide +kernel
theorem dX11_defineAxiom_47 : decode cX11_defineAxiom 47 = .ok (.iload_n 1, 1) := by decide +kernel
theorem dX11_defineAxiom_48 : decode cX11_defineAxiom 48 = .ok (.if_icmp .ne 7, 3) := by decide +kernel
theorem dX11_defineAxiom_51 : decode cX11_defineAxiom 51 = .ok (.iconst 1, 1) := by decide +kernel
theorem dX11_defineAxiom_52 : decode cX11_defineAxiom 52 = .ok (.goto 4, 3) := by decide +kernel
theorem dX11_defineAxiom_55 : decode cX11_defineAxiom 55 = .ok (.iconst 0, 1) := by decide +kernel
theorem dX11_defineAxiom_56 : decode cX11_defineAxiom 56 = .ok (.istore_n 2, 1) := by decide +kernel
theorem dX11_defineAxiom_57 : decode cX11_defineAxiom 57 = .ok (.iinc 3 1, 3) := by decide +kernel
theorem dX11_defineAxiom_60 : decode cX11_defineAxiom 60 = .ok (.goto (-31), 3) := by decide +kernel
theorem dX11_defineAxiom_63 : decode cX11_defineAxiom 63 = .ok (.aload_n 0, 1) := by decide +kernel
theorem dX11_defineAxiom_64 : decode cX11_defineAxiom 64 = .ok (.getfield 128, 3) := by decide +kernel
theorem dX11_defineAxiom_67 : decode cX11_defineAxiom 67 = .ok (.bipush 6, 2) := by decide +kernel
theorem dX11_defineAxiom_69 : decode cX11_defineAxiom 69 = .ok (.if_icmp .eq 7, 3) := by decide +kernel
theorem dX11_defineAxiom_72 : decode cX11_defineAxiom 72 = .ok (.iload_n 2, 1) := by decide +kernel
theorem dX11_defineAxiom_73 : decode cX11_defineAxiom 73 = .ok (.ifCond .eq 9, 3) := by decide +kernel
theorem dX11_defineAxiom_76 : decode cX11_defineAxiom 76 = .ok (.aload_n 0, 1) := by decide +kernel
theorem dX11_defineAxiom_77 : decode cX11_defineAxiom 77 = .ok (.iconst 2, 1) := by decide +kernel
theorem dX11_defineAxiom_78 : decode cX11_defineAxiom 78 = .ok (.invokevirtual 134, 3) := by decide +kernel
theorem dX11_defineAxiom_81 : decode cX11_defineAxiom 81 = .ok (.ireturn, 1) := by decide +kernel
theorem dX11_defineAxiom_82 : decode cX11_defineAxiom 82 = .ok (.aload_n 0, 1) := by decide +kernel
theorem dX11_defineAxiom_83 : decode cX11_defineAxiom 83 = .ok (.getfield 7, 3) := by decide +kernel
theorem dX11_defineAxiom_86 : decode cX11_defineAxiom 86 = .ok (.aload_n 0, 1) := by decide +kernel
theorem dX11_defineAxiom_87 : decode cX11_defineAxiom 87 = .ok (.getfield 128, 3) := by decide +kernel
theorem dX11_defineAxiom_90 : decode cX11_defineAxiom 90 = .ok (.iload_n 1, 1) := by decide +kernel
theorem dX11_defineAxiom_91 : decode cX11_defineAxiom 91 = .ok (.iastore, 1) := by decide +kernel
theorem dX11_defineAxiom_92 : decode cX11_defineAxiom 92 = .ok (.aload_n 0, 1) := by decide +kernel
theorem dX11_defineAxiom_93 : decode cX11_defineAxiom 93 = .ok (.dup, 1) := by decide +kernel
theorem dX11_defineAxiom_94 : decode cX11_defineAxiom 94 = .ok (.getfield 128, 3) := by decide +kernel
theorem dX11_defineAxiom_97 : decode cX11_defineAxiom 97 = .ok (.iconst 1, 1) := by decide +kernel
theorem dX11_defineAxiom_98 : decode cX11_defineAxiom 98 = .ok (.iadd, 1) := by decide +kernel
theorem dX11_defineAxiom_99 : decode cX11_defineAxiom 99 = .ok (.putfield 128, 3) := by decide +kernel
theorem dX11_defineAxiom_102 : decode cX11_defineAxiom 102 = .ok (.aload_n 0, 1) := by decide +kernel
theorem dX11_defineAxiom_103 : decode cX11_defineAxiom 103 = .ok (.getfield 128, 3) := by decide +kernel
theorem dX11_defineAxiom_106 : decode cX11_defineAxiom 106 = .ok (.iconst 1, 1) := by decide +kernel
theorem dX11_defineAxiom_107 : decode cX11_defineAxiom 107 = .ok (.isub, 1) := by decide +kernel
theorem dX11_defineAxiom_108 : decode cX11_defineAxiom 108 = .ok (.ireturn, 1) := by decide +kernel
theorem dX11_defineContext_0 : decode cX11_defineContext 0 = .ok (.aload_n 0, 1) := by decide +kernel
theorem dX11_defineContext_1 : decode cX11_defineContext 1 = .ok (.iconst 1, 1) := by decide +kernel
theorem dX11_defineContext_2 : decode cX11_defineContext 2 = .ok (.iconst 3, 1) := by decide +kernel
theorem dX11_defineContext_3 : decode cX11_defineContext 3 = .ok (.invokevirtual 189, 3) := by decide +kernel
theorem dX11_defineContext_6 : decode cX11_defineContext 6 = .ok (.istore_n 1, 1) := by decide +kernel
theorem dX11_defineContext_7 : decode cX11_defineContext 7 = .ok (.aload_n 0, 1) := by decide +kernel
theorem dX11_defineContext_8 : decode cX11_defineContext 8 = .ok (.bipush 44, 2) := by decide +kernel
theorem dX11_defineContext_10 : decode cX11_defineContext 10 = .ok (.invokevirtual 185, 3) := by decide +kernel
theorem dX11_defineContext_13 : decode cX11_defineContext 13 = .ok (.aload_n 0, 1) := by decide +kernel
theorem dX11_defineContext_14 : decode cX11_defineContext 14 = .ok (.iconst 0, 1) := by decide +kernel
theorem dX11_defineContext_15 : decode cX11_defineContext 15 = .ok (.iconst 3, 1) := by decide +kernel
theorem dX11_defineContext_16 : decode cX11_defineContext 16 = .ok (.invokevirtual 189, 3) := by decide +kernel
theorem dX11_defineContext_19 : decode cX11_defineContext 19 = .ok (.istore_n 2, 1) := by decide +kernel
theorem dX11_defineContext_20 : decode cX11_defineContext 20 = .ok (.aload_n 0, 1) := by decide +kernel
theorem dX11_defineContext_21 : decode cX11_defineContext 21 = .ok (.bipush 32, 2) := by decide +kernel
theorem dX11_defineContext_23 : decode cX11_defineContext 23 = .ok (.invokevirtual 185, 3) := by decide +kernel
theorem dX11_defineContext_26 : decode cX11_defineContext 26 = .ok (.aload_n 0, 1) := by decide +kernel
theorem dX11_defineContext_27 : decode cX11_defineContext 27 = .ok (.invokevirtual 182, 3) := by decide +kernel
theorem dX11_defineContext_30 : decode cX11_defineContext 30 = .ok (.aload_n 0, 1) := by decide +kernel
theorem dX11_defineContext_31 : decode cX11_defineContext 31 = .ok (.invokevirtual 227, 3) := by decide +kernel
theorem dX11_defineContext_34 : decode cX11_defineContext 34 = .ok (.aload_n 0, 1) := by decide +kernel
theorem dX11_defineContext_35 : decode cX11_defineContext 35 = .ok (.getfield 36, 3) := by decide +kernel
theorem dX11_defineContext_38 : decode cX11_defineContext 38 = .ok (.ifCond .lt 9, 3) := by decide +kernel
theorem dX11_defineContext_41 : decode cX11_defineContext 41 = .ok (.aload_n 0, 1) := by decide +kernel
theorem dX11_defineContext_42 : decode cX11_defineContext 42 = .ok (.iconst 1, 1) := by decide +kernel
theorem dX11_defineContext_43 : decode cX11_defineContext 43 = .ok (.invokevirtual 134, 3) := by decide +kernel
theorem dX11_defineContext_46 : decode cX11_defineContext 46 = .ok (.ireturn, 1) := by decide +kernel
theorem dX11_defineContext_47 : decode cX11_defineContext 47 = .ok (.aload_n 0, 1) := by decide +kernel
theorem dX11_defineContext_48 : decode cX11_defineContext 48 = .ok (.getfield 121, 3) := by decide +kernel
theorem dX11_defineContext_51 : decode cX11_defineContext 51 = .ok (.iconst 5, 1) := by decide +kernel
theorem dX11_defineContext_52 : decode cX11_defineContext 52 = .ok (.if_icmp .ne 9, 3) := by decide +kernel
theorem dX11_defineContext_55 : decode cX11_defineContext 55 = .ok (.aload_n 0, 1) := by decide +kernel
theorem dX11_defineContext_56 : decode cX11_defineContext 56 = .ok (.iconst 2, 1) := by decide +kernel
theorem dX11_defineContext_57 : decode cX11_defineContext 57 = .ok (.invokevirtual 134, 3) := by decide +kernel
theorem dX11_defineContext_60 : decode cX11_defineContext 60 = .ok (.ireturn, 1) := by decide +kernel
theorem dX11_defineContext_61 : decode cX11_defineContext 61 = .ok (.aload_n 0, 1) := by decide +kernel
theorem dX11_defineContext_62 : decode cX11_defineContext 62 = .ok (.getfield 13, 3) := by decide +kernel
theorem dX11_defineContext_65 : decode cX11_defineContext 65 = .ok (.aload_n 0, 1) := by decide +kernel
theorem dX11_defineContext_66 : decode cX11_defineContext 66 = .ok (.getfield 121, 3) := by decide +kernel
theorem dX11_defineContext_69 : decode cX11_defineContext 69 = .ok (.iload_n 1, 1) := by decide +kernel
theorem dX11_defineContext_70 : decode cX11_defineContext 70 = .ok (.iastore, 1) := by decide +kernel
theorem dX11_defineContext_71 : decode cX11_defineContext 71 = .ok (.aload_n 0, 1) := by decide +kernel
theorem dX11_defineContext_72 : decode cX11_defineContext 72 = .ok (.getfield 16, 3) := by decide +kernel
theorem dX11_defineContext_75 : decode cX11_defineContext 75 = .ok (.aload_n 0, 1) := by decide +kernel
theorem dX11_defineContext_76 : decode cX11_defineContext 76 = .ok (.getfield 121, 3) := by decide +kernel
theorem dX11_defineContext_79 : decode cX11_defineContext 79 = .ok (.iload_n 2, 1) := by decide +kernel
theorem dX11_defineContext_80 : decode cX11_defineContext 80 = .ok (.iastore, 1) := by decide +kernel
theorem dX11_defineContext_81 : decode cX11_defineContext 81 = .ok (.aload_n 0, 1) := by decide +kernel
theorem dX11_defineContext_82 : decode cX11_defineContext 82 = .ok (.getfield 22, 3) := by decide +kernel
theorem dX11_defineContext_85 : decode cX11_defineContext 85 = .ok (.aload_n 0, 1) := by decide +kernel
theorem dX11_defineContext_86 : decode cX11_defineContext 86 = .ok (.getfield 121, 3) := by decide +kernel
theorem dX11_defineContext_89 : decode cX11_defineContext 89 = .ok (.aload_n 0, 1) := by decide +kernel
theorem dX11_defineContext_90 : decode cX11_defineContext 90 = .ok (.getfield 163, 3) := by decide +kernel
theorem dX11_defineContext_93 : decode cX11_defineContext 93 = .ok (.iastore, 1) := by decide +kernel
theorem dX11_defineContext_94 : decode cX11_defineContext 94 = .ok (.iconst 0, 1) := by decide +kernel
theorem dX11_defineContext_95 : decode cX11_defineContext 95 = .ok (.istore_n 3, 1) := by decide +kernel
theorem dX11_defineContext_96 : decode cX11_defineContext 96 = .ok (.iload_n 3, 1) := by decide +kernel
theorem dX11_defineContext_97 : decode cX11_defineContext 97 = .ok (.aload_n 0, 1) := by decide +kernel
theorem dX11_defineContext_98 : decode cX11_defineContext 98 = .ok (.getfield 163, 3) := by decide +kernel
theorem dX11_defineContext_101 : decode cX11_defineContext 101 = .ok (.if_icmp .ge 29, 3) := by decide +kernel
theorem dX11_defineContext_104 : decode cX11_defineContext 104 = .ok (.aload_n 0, 1) := by decide +kernel
theorem dX11_defineContext_105 : decode cX11_defineContext 105 = .ok (.getfield 19, 3) := by decide +kernel
theorem dX11_defineContext_108 : decode cX11_defineContext 108 = .ok (.bipush 60, 2) := by decide +kernel
theorem dX11_defineContext_110 : decode cX11_defineContext 110 = .ok (.aload_n 0, 1) := by decide +kernel
theorem dX11_defineContext_111 : decode cX11_defineContext 111 = .ok (.getfield 121, 3) := by decide +kernel
theorem dX11_defineContext_114 : decode cX11_defineContext 114 = .ok (.imul, 1) := by decide +kernel
theorem dX11_defineContext_115 : decode cX11_defineContext 115 = .ok (.iload_n 3, 1) := by decide +kernel
theorem dX11_defineContext_116 : decode cX11_defineContext 116 = .ok (.iadd, 1) := by decide +kernel
theorem dX11_defineContext_117 : decode cX11_defineContext 117 = .ok (.aload_n 0, 1) := by decide +kernel
theorem dX11_defineContext_118 : decode cX11_defineContext 118 = .ok (.getfield 39, 3) := by decide +kernel
theorem dX11_defineContext_121 : decode cX11_defineContext 121 = .ok (.iload_n 3, 1) := by decide +kernel
theorem dX11_defineContext_122 : decode cX11_defineContext 122 = .ok (.iaload, 1) := by decide +kernel
theorem dX11_defineContext_123 : decode cX11_defineContext 123 = .ok (.iastore, 1) := by decide +kernel
theorem dX11_defineContext_124 : decode cX11_defineContext 124 = .ok (.iinc 3 1, 3) := by decide +kernel
theorem dX11_defineContext_127 : decode cX11_defineContext 127 = .ok (.goto (-31), 3) := by decide +kernel
theorem dX11_defineContext_130 : decode cX11_defineContext 130 = .ok (.aload_n 0, 1) := by decide +kernel
theorem dX11_defineContext_131 : decode cX11_defineContext 131 = .ok (.dup, 1) := by decide +kernel
theorem dX11_defineContext_132 : decode cX11_defineContext 132 = .ok (.getfield 121, 3) := by decide +kernel
theorem dX11_defineContext_135 : decode cX11_defineContext 135 = .ok (.iconst 1, 1) := by decide +kernel
theorem dX11_defineContext_136 : decode cX11_defineContext 136 = .ok (.iadd, 1) := by decide +kernel
theorem dX11_defineContext_137 : decode cX11_defineContext 137 = .ok (.putfield 121, 3) := by decide +kernel
theorem dX11_defineContext_140 : decode cX11_defineContext 140 = .ok (.aload_n 0, 1) := by decide +kernel
theorem dX11_defineContext_141 : decode cX11_defineContext 141 = .ok (.getfield 121, 3) := by decide +kernel
theorem dX11_defineContext_144 : decode cX11_defineContext 144 = .ok (.iconst 1, 1) := by decide +kernel
theorem dX11_defineContext_145 : decode cX11_defineContext 145 = .ok (.isub, 1) := by decide +kernel
theorem dX11_defineContext_146 : decode cX11_defineContext 146 = .ok (.ireturn, 1) := by decide +kernel
theorem dX11_defineMode_0 : decode cX11_defineMode 0 = .ok (.aload_n 0, 1) := by decide +kernel
theorem dX11_defineMode_1 : decode cX11_defineMode 1 = .ok (.getfield 36, 3) := by decide +kernel
theorem dX11_defineMode_4 : decode cX11_defineMode 4 = .ok (.ifCond .ge 13, 3) := by decide +kernel
theorem dX11_defineMode_7 : decode cX11_defineMode 7 = .ok (.aload_n 0, 1) := by decide +kernel
theorem dX11_defineMode_8 : decode cX11_defineMode 8 = .ok (.iconst 4, 1) := by decide +kernel
theorem dX11_defineMode_9 : decode cX11_defineMode 9 = .ok (.bipush 8, 2) := by decide +kernel
theorem dX11_defineMode_11 : decode cX11_defineMode 11 = .ok (.invokevirtual 212, 3) := by decide +kernel
theorem dX11_defineMode_14 : decode cX11_defineMode 14 = .ok (.goto 4, 3) := by decide +kernel
theorem dX11_defineMode_17 : decode cX11_defineMode 17 = .ok (.iconst (-1), 1) := by decide +kernel
theorem dX11_defineMode_18 : decode cX11_defineMode 18 = .ok (.istore_n 1, 1) := by decide +kernel
theorem dX11_defineMode_19 : decode cX11_defineMode 19 = .ok (.aload_n 0, 1) := by decide +kernel
theorem dX11_defineMode_20 : decode cX11_defineMode 20 = .ok (.invokevirtual 227, 3) := by decide +kernel
theorem dX11_defineMode_23 : decode cX11_defineMode 23 = .ok (.aload_n 0, 1) := by decide +kernel
theorem dX11_defineMode_24 : decode cX11_defineMode 24 = .ok (.getfield 36, 3) := by decide +kernel
theorem dX11_defineMode_27 : decode cX11_defineMode 27 = .ok (.ifCond .lt 9, 3) := by decide +kernel
theorem dX11_defineMode_30 : decode cX11_defineMode 30 = .ok (.aload_n 0, 1) := by decide +kernel
theorem dX11_defineMode_31 : decode cX11_defineMode 31 = .ok (.iconst 1, 1) := by decide +kernel
theorem dX11_defineMode_32 : decode cX11_defineMode 32 = .ok (.invokevirtual 134, 3) := by decide +kernel
theorem dX11_defineMode_35 : decode cX11_defineMode 35 = .ok (.ireturn, 1) := by decide +kernel
theorem dX11_defineMode_36 : decode cX11_defineMode 36 = .ok (.aload_n 0, 1) := by decide +kernel
theorem dX11_defineMode_37 : decode cX11_defineMode 37 = .ok (.getfield 25, 3) := by decide +kernel
theorem dX11_defineMode_40 : decode cX11_defineMode 40 = .ok (.istore_n 2, 1) := by decide +kernel
theorem dX11_defineMode_41 : decode cX11_defineMode 41 = .ok (.aload_n 0, 1) := by decide +kernel
theorem dX11_defineMode_42 : decode cX11_defineMode 42 = .ok (.iload_n 1, 1) := by decide +kernel
theorem dX11_defineMode_43 : decode cX11_defineMode 43 = .ok (.iconst 4, 1) := by decide +kernel
theorem dX11_defineMode_44 : decode cX11_defineMode 44 = .ok (.isub, 1) := by decide +kernel
theorem dX11_defineMode_45 : decode cX11_defineMode 45 = .ok (.putfield 25, 3) := by decide +kernel
theorem dX11_defineMode_48 : decode cX11_defineMode 48 = .ok (.iload_n 2, 1) := by decide +kernel
theorem dX11_defineMode_49 : decode cX11_defineMode 49 = .ok (.ireturn, 1) := by decide +kernel
theorem dX11_defineLimit_0 : decode cX11_defineLimit 0 = .ok (.aload_n 0, 1) := by decide +kernel
theorem dX11_defineLimit_1 : decode cX11_defineLimit 1 = .ok (.iconst 1, 1) := by decide +kernel
theorem dX11_defineLimit_2 : decode cX11_defineLimit 2 = .ok (.invokevirtual 195, 3) := by decide +kernel
theorem dX11_defineLimit_5 : decode cX11_defineLimit 5 = .ok (.istore_n 1, 1) := by decide +kernel
theorem dX11_defineLimit_6 : decode cX11_defineLimit 6 = .ok (.aload_n 0, 1) := by decide +kernel
theorem dX11_defineLimit_7 : decode cX11_defineLimit 7 = .ok (.invokevirtual 227, 3) := by decide +kernel
theorem dX11_defineLimit_10 : decode cX11_defineLimit 10 = .ok (.aload_n 0, 1) := by decide +kernel
theorem dX11_defineLimit_11 : decode cX11_defineLimit 11 = .ok (.getfield 36, 3) := by decide +kernel
theorem dX11_defineLimit_14 : decode cX11_defineLimit 14 = .ok (.ifCond .lt 9, 3) := by decide +kernel
theorem dX11_defineLimit_17 : decode cX11_defineLimit 17 = .ok (.aload_n 0, 1) := by decide +kernel
theorem dX11_defineLimit_18 : decode cX11_defineLimit 18 = .ok (.iconst 1, 1) := by decide +kernel
theorem dX11_defineLimit_19 : decode cX11_defineLimit 19 = .ok (.invokevirtual 134, 3) := by decide +kernel
theorem dX11_defineLimit_22 : decode cX11_defineLimit 22 = .ok (.ireturn, 1) := by decide +kernel
theorem dX11_defineLimit_23 : decode cX11_defineLimit 23 = .ok (.aload_n 0, 1) := by decide +kernel
theorem dX11_defineLimit_24 : decode cX11_defineLimit 24 = .ok (.getfield 29, 3) := by decide +kernel
theorem dX11_defineLimit_27 : decode cX11_defineLimit 27 = .ok (.istore_n 2, 1) := by decide +kernel
theorem dX11_defineLimit_28 : decode cX11_defineLimit 28 = .ok (.aload_n 0, 1) := by decide +kernel
theorem dX11_defineLimit_29 : decode cX11_defineLimit 29 = .ok (.iload_n 1, 1) := by decide +kernel
theorem dX11_defineLimit_30 : decode cX11_defineLimit 30 = .ok (.putfield 29, 3) := by decide +kernel
theorem dX11_defineLimit_33 : decode cX11_defineLimit 33 = .ok (.iload_n 2, 1) := by decide +kernel
theorem dX11_defineLimit_34 : decode cX11_defineLimit 34 = .ok (.ireturn, 1) := by decide +kernel
theorem dX11_faultPosition_0 : decode cX11_faultPosition 0 = .ok (.aload_n 0, 1) := by decide +kernel
theorem dX11_faultPosition_1 : decode cX11_faultPosition 1 = .ok (.iconst 0, 1) := by decide +kernel
theorem dX11_faultPosition_2 : decode cX11_faultPosition 2 = .ok (.putfield 104, 3) := by decide +kernel
theorem dX11_faultPosition_5 : decode cX11_faultPosition 5 = .ok (.aload_n 0, 1) := by decide +kernel
theorem dX11_faultPosition_6 : decode cX11_faultPosition 6 = .ok (.getfield 36, 3) := by decide +kernel
theorem dX11_faultPosition_9 : decode cX11_faultPosition 9 = .ok (.ireturn, 1) := by decide +kernel
theorem dX11_compares_0 : decode cX11_compares 0 = .ok (.iload_n 0, 1) := by decide +kernel
theorem dX11_compares_1 : decode cX11_compares 1 = .ok (.bipush 100, 2) := by decide +kernel
theorem dX11_compares_3 : decode cX11_compares 3 = .ok (.idiv, 1) := by decide +kernel
theorem dX11_compares_4 : decode cX11_compares 4 = .ok (.bipush 10, 2) := by decide +kernel
theorem dX11_compares_6 : decode cX11_compares 6 = .ok (.irem, 1) := by decide +kernel
theorem dX11_compares_7 : decode cX11_compares 7 = .ok (.istore_n 3, 1) := by decide +kernel
theorem dX11_compares_8 : decode cX11_compares 8 = .ok (.iload_n 3, 1) := by decide +kernel
theorem dX11_compares_9 : decode cX11_compares 9 = .ok (.iconst 3, 1) := by decide +kernel
theorem dX11_compares_10 : decode cX11_compares 10 = .ok (.if_icmp .ne 7, 3) := by decide +kernel
theorem dX11_compares_13 : decode cX11_compares 13 = .ok (.iload_n 2, 1) := by decide +kernel
theorem dX11_compares_14 : decode cX11_compares 14 = .ok (.goto 4, 3) := by decide +kernel
theorem dX11_compares_17 : decode cX11_compares 17 = .ok (.iconst 0, 1) := by decide +kernel
theorem dX11_compares_18 : decode cX11_compares 18 = .ok (.istore 4, 2) := by decide +kernel
theorem dX11_compares_20 : decode cX11_compares 20 = .ok (.iconst 0, 1) := by decide +kernel
theorem dX11_compares_21 : decode cX11_compares 21 = .ok (.istore 5, 2) := by decide +kernel
theorem dX11_compares_23 : decode cX11_compares 23 = .ok (.iload 5, 2) := by decide +kernel
theorem dX11_compares_25 : decode cX11_compares 25 = .ok (.iload_n 2, 1) := by decide +kernel
theorem dX11_compares_26 : decode cX11_compares 26 = .ok (.if_icmp .ge 35, 3) := by decide +kernel
theorem dX11_compares_29 : decode cX11_compares 29 = .ok (.iload 4, 2) := by decide +kernel
theorem dX11_compares_31 : decode cX11_compares 31 = .ok (.iload_n 3, 1) := by decide +kernel
theorem dX11_compares_32 : decode cX11_compares 32 = .ok (.iconst 3, 1) := by decide +kernel
theorem dX11_compares_33 : decode cX11_compares 33 = .ok (.if_icmp .ge 18, 3) := by decide +kernel
theorem dX11_compares_36 : decode cX11_compares 36 = .ok (.iload_n 1, 1) := by decide +kernel
theorem dX11_compares_37 : decode cX11_compares 37 = .ok (.iload_n 2, 1) := by decide +kernel
theorem dX11_compares_38 : decode cX11_compares 38 = .ok (.iload 5, 2) := by decide +kernel
theorem dX11_compares_40 : decode cX11_compares 40 = .ok (.invokestatic 230, 3) := by decide +kernel
theorem dX11_compares_43 : decode cX11_compares 43 = .ok (.iload_n 3, 1) := by decide +kernel
theorem dX11_compares_44 : decode cX11_compares 44 = .ok (.if_icmp .ne 7, 3) := by decide +kernel
theorem dX11_compares_47 : decode cX11_compares 47 = .ok (.iconst 1, 1) := by decide +kernel
theorem dX11_compares_48 : decode cX11_compares 48 = .ok (.goto 4, 3) := by decide +kernel
theorem dX11_compares_51 : decode cX11_compares 51 = .ok (.iconst 0, 1) := by decide +kernel
theorem dX11_compares_52 : decode cX11_compares 52 = .ok (.iadd, 1) := by decide +kernel
theorem dX11_compares_53 : decode cX11_compares 53 = .ok (.istore 4, 2) := by decide +kernel
theorem dX11_compares_55 : decode cX11_compares 55 = .ok (.iinc 5 1, 3) := by decide +kernel
theorem dX11_compares_58 : decode cX11_compares 58 = .ok (.goto (-35), 3) := by decide +kernel
theorem dX11_compares_61 : decode cX11_compares 61 = .ok (.iload_n 0, 1) := by decide +kernel
theorem dX11_compares_62 : decode cX11_compares 62 = .ok (.bipush 10, 2) := by decide +kernel
theorem dX11_compares_64 : decode cX11_compares 64 = .ok (.irem, 1) := by decide +kernel
theorem dX11_compares_65 : decode cX11_compares 65 = .ok (.istore 5, 2) := by decide +kernel
theorem dX11_compares_67 : decode cX11_compares 67 = .ok (.iload_n 0, 1) := by decide +kernel
theorem dX11_compares_68 : decode cX11_compares 68 = .ok (.bipush 10, 2) := by decide +kernel
theorem dX11_compares_70 : decode cX11_compares 70 = .ok (.idiv, 1) := by decide +kernel
theorem dX11_compares_71 : decode cX11_compares 71 = .ok (.bipush 10, 2) := by decide +kernel
theorem dX11_compares_73 : decode cX11_compares 73 = .ok (.irem, 1) := by decide +kernel
theorem dX11_compares_74 : decode cX11_compares 74 = .ok (.istore 6, 2) := by decide +kernel
theorem dX11_compares_76 : decode cX11_compares 76 = .ok (.iload 6, 2) := by decide +kernel
theorem dX11_compares_78 : decode cX11_compares 78 = .ok (.ifCond .ne 18, 3) := by decide +kernel
theorem dX11_compares_81 : decode cX11_compares 81 = .ok (.iload 4, 2) := by decide +kernel
theorem dX11_compares_83 : decode cX11_compares 83 = .ok (.iload 5, 2) := by decide +kernel
theorem dX11_compares_85 : decode cX11_compares 85 = .ok (.if_icmp .ge 7, 3) := by decide +kernel
theorem dX11_compares_88 : decode cX11_compares 88 = .ok (.iconst 1, 1) := by decide +kernel
theorem dX11_compares_89 : decode cX11_compares 89 = .ok (.goto 40, 3) := by decide +kernel
theorem dX11_compares_92 : decode cX11_compares 92 = .ok (.iconst 0, 1) := by decide +kernel
theorem dX11_compares_93 : decode cX11_compares 93 = .ok (.goto 36, 3) := by decide +kernel
theorem dX11_compares_96 : decode cX11_compares 96 = .ok (.iload 6, 2) := by decide +kernel
theorem dX11_compares_98 : decode cX11_compares 98 = .ok (.iconst 1, 1) := by decide +kernel
theorem dX11_compares_99 : decode cX11_compares 99 = .ok (.if_icmp .ne 18, 3) := by decide +kernel
theorem dX11_compares_102 : decode cX11_compares 102 = .ok (.iload 4, 2) := by decide +kernel
theorem dX11_compares_104 : decode cX11_compares 104 = .ok (.iload 5, 2) := by decide +kernel
theorem dX11_compares_106 : decode cX11_compares 106 = .ok (.if_icmp .ne 7, 3) := by decide +kernel
theorem dX11_compares_109 : decode cX11_compares 109 = .ok (.iconst 1, 1) := by decide +kernel
theorem dX11_compares_110 : decode cX11_compares 110 = .ok (.goto 19, 3) := by decide +kernel
theorem dX11_compares_113 : decode cX11_compares 113 = .ok (.iconst 0, 1) := by decide +kernel
theorem dX11_compares_114 : decode cX11_compares 114 = .ok (.goto 15, 3) := by decide +kernel
theorem dX11_compares_117 : decode cX11_compares 117 = .ok (.iload 4, 2) := by decide +kernel
theorem dX11_compares_119 : decode cX11_compares 119 = .ok (.iload 5, 2) := by decide +kernel
theorem dX11_compares_121 : decode cX11_compares 121 = .ok (.if_icmp .le 7, 3) := by decide +kernel
theorem dX11_compares_124 : decode cX11_compares 124 = .ok (.iconst 1, 1) := by decide +kernel
theorem dX11_compares_125 : decode cX11_compares 125 = .ok (.goto 4, 3) := by decide +kernel
theorem dX11_compares_128 : decode cX11_compares 128 = .ok (.iconst 0, 1) := by decide +kernel
theorem dX11_compares_129 : decode cX11_compares 129 = .ok (.ireturn, 1) := by decide +kernel
theorem dX11_shows_0 : decode cX11_shows 0 = .ok (.iload_n 0, 1) := by decide +kernel
theorem dX11_shows_1 : decode cX11_shows 1 = .ok (.bipush 100, 2) := by decide +kernel
theorem dX11_shows_3 : decode cX11_shows 3 = .ok (.irem, 1) := by decide +kernel
theorem dX11_shows_4 : decode cX11_shows 4 = .ok (.istore_n 3, 1) := by decide +kernel
theorem dX11_shows_5 : decode cX11_shows 5 = .ok (.iload_n 3, 1) := by decide +kernel
theorem dX11_shows_6 : decode cX11_shows 6 = .ok (.invokestatic 114, 3) := by decide +kernel
theorem dX11_shows_9 : decode cX11_shows 9 = .ok (.istore 4, 2) := by decide +kernel
theorem dX11_shows_11 : decode cX11_shows 11 = .ok (.iload_n 0, 1) := by decide +kernel
theorem dX11_shows_12 : decode cX11_shows 12 = .ok (.bipush 100, 2) := by decide +kernel
theorem dX11_shows_14 : decode cX11_shows 14 = .ok (.idiv, 1) := by decide +kernel
theorem dX11_shows_15 : decode cX11_shows 15 = .ok (.bipush 10, 2) := by decide +kernel
theorem dX11_shows_17 : decode cX11_shows 17 = .ok (.irem, 1) := by decide +kernel
theorem dX11_shows_18 : decode cX11_shows 18 = .ok (.istore 5, 2) := by decide +kernel
theorem dX11_shows_20 : decode cX11_shows 20 = .ok (.iload 4, 2) := by decide +kernel
theorem dX11_shows_22 : decode cX11_shows 22 = .ok (.iload_n 2, 1) := by decide +kernel
theorem dX11_shows_23 : decode cX11_shows 23 = .ok (.if_icmp .le 5, 3) := by decide +kernel
theorem dX11_shows_26 : decode cX11_shows 26 = .ok (.iconst 0, 1) := by decide +kernel
theorem dX11_shows_27 : decode cX11_shows 27 = .ok (.ireturn, 1) := by decide +kernel
theorem dX11_shows_28 : decode cX11_shows 28 = .ok (.iload 5, 2) := by decide +kernel
theorem dX11_shows_30 : decode cX11_shows 30 = .ok (.ifCond .ne 21, 3) := by decide +kernel
theorem dX11_shows_33 : decode cX11_shows 33 = .ok (.iload_n 1, 1) := by decide +kernel
theorem dX11_shows_34 : decode cX11_shows 34 = .ok (.iload_n 2, 1) := by decide +kernel
theorem dX11_shows_35 : decode cX11_shows 35 = .ok (.iconst 0, 1) := by decide +kernel
theorem dX11_shows_36 : decode cX11_shows 36 = .ok (.iload 4, 2) := by decide +kernel
theorem dX11_shows_38 : decode cX11_shows 38 = .ok (.invokestatic 117, 3) := by decide +kernel
theorem dX11_shows_41 : decode cX11_shows 41 = .ok (.iload_n 3, 1) := by decide +kernel
theorem dX11_shows_42 : decode cX11_shows 42 = .ok (.if_icmp .ne 7, 3) := by decide +kernel
theorem dX11_shows_45 : decode cX11_shows 45 = .ok (.iconst 1, 1) := by decide +kernel
theorem dX11_shows_46 : decode cX11_shows 46 = .ok (.goto 4, 3) := by decide +kernel
theorem dX11_shows_49 : decode cX11_shows 49 = .ok (.iconst 0, 1) := by decide +kernel
theorem dX11_shows_50 : decode cX11_shows 50 = .ok (.ireturn, 1) := by decide +kernel
theorem dX11_shows_51 : decode cX11_shows 51 = .ok (.iload 5, 2) := by decide +kernel
theorem dX11_shows_53 : decode cX11_shows 53 = .ok (.iconst 1, 1) := by decide +kernel
theorem dX11_shows_54 : decode cX11_shows 54 = .ok (.if_icmp .ne 23, 3) := by decide +kernel
theorem dX11_shows_57 : decode cX11_shows 57 = .ok (.iload_n 1, 1) := by decide +kernel
theorem dX11_shows_58 : decode cX11_shows 58 = .ok (.iload_n 2, 1) := by decide +kernel
theorem dX11_shows_59 : decode cX11_shows 59 = .ok (.iload_n 2, 1) := by decide +kernel
theorem dX11_shows_60 : decode cX11_shows 60 = .ok (.iload 4, 2) := by decide +kernel
theorem dX11_shows_62 : decode cX11_shows 62 = .ok (.isub, 1) := by decide +kernel
theorem dX11_shows_63 : decode cX11_shows 63 = .ok (.iload_n 2, 1) := by decide +kernel
theorem dX11_shows_64 : decode cX11_shows 64 = .ok (.invokestatic 117, 3) := by decide +kernel
theorem dX11_shows_67 : decode cX11_shows 67 = .ok (.iload_n 3, 1) := by decide +kernel
theorem dX11_shows_68 : decode cX11_shows 68 = .ok (.if_icmp .ne 7, 3) := by decide +kernel
theorem dX11_shows_71 : decode cX11_shows 71 = .ok (.iconst 1, 1) := by decide +kernel
theorem dX11_shows_72 : decode cX11_shows 72 = .ok (.goto 4, 3) := by decide +kernel
theorem dX11_shows_75 : decode cX11_shows 75 = .ok (.iconst 0, 1) := by decide +kernel
theorem dX11_shows_76 : decode cX11_shows 76 = .ok (.ireturn, 1) := by decide +kernel
theorem dX11_shows_77 : decode cX11_shows 77 = .ok (.iconst 0, 1) := by decide +kernel
theorem dX11_shows_78 : decode cX11_shows 78 = .ok (.istore 6, 2) := by decide +kernel
theorem dX11_shows_80 : decode cX11_shows 80 = .ok (.iconst 0, 1) := by decide +kernel
theorem dX11_shows_81 : decode cX11_shows 81 = .ok (.istore 7, 2) := by decide +kernel
theorem dX11_shows_83 : decode cX11_shows 83 = .ok (.iload 7, 2) := by decide +kernel
theorem dX11_shows_85 : decode cX11_shows 85 = .ok (.iload 4, 2) := by decide +kernel
theorem dX11_shows_87 : decode cX11_shows 87 = .ok (.iadd, 1) := by decide +kernel
theorem dX11_shows_88 : decode cX11_shows 88 = .ok (.iload_n 2, 1) := by decide +kernel
theorem dX11_shows_89 : decode cX11_shows 89 = .ok (.if_icmp .gt 37, 3) := by decide +kernel
theorem dX11_shows_92 : decode cX11_shows 92 = .ok (.iload 6, 2) := by decide +kernel
theorem dX11_shows_94 : decode cX11_shows 94 = .ok (.ifCond .ne 19, 3) := by decide +kernel
theorem dX11_shows_97 : decode cX11_shows 97 = .ok (.iload_n 1, 1) := by decide +kernel
theorem dX11_shows_98 : decode cX11_shows 98 = .ok (.iload_n 2, 1) := by decide +kernel
theorem dX11_shows_99 : decode cX11_shows 99 = .ok (.iload 7, 2) := by decide +kernel
theorem dX11_shows_101 : decode cX11_shows 101 = .ok (.iload 7, 2) := by decide +kernel
theorem dX11_shows_103 : decode cX11_shows 103 = .ok (.iload 4, 2) := by decide +kernel
theorem dX11_shows_105 : decode cX11_shows 105 = .ok (.iadd, 1) := by decide +kernel
theorem dX11_shows_106 : decode cX11_shows 106 = .ok (.invokestatic 117, 3) := by decide +kernel
theorem dX11_shows_109 : decode cX11_shows 109 = .ok (.iload_n 3, 1) := by decide +kernel
theorem dX11_shows_110 : decode cX11_shows 110 = .ok (.if_icmp .ne 7, 3) := by decide +kernel
theorem dX11_shows_113 : decode cX11_shows 113 = .ok (.iconst 1, 1) := by decide +kernel
theorem dX11_shows_114 : decode cX11_shows 114 = .ok (.goto 4, 3) := by decide +kernel
theorem dX11_shows_117 : decode cX11_shows 117 = .ok (.iconst 0, 1) := by decide +kernel
theorem dX11_shows_118 : decode cX11_shows 118 = .ok (.istore 6, 2) := by decide +kernel
theorem dX11_shows_120 : decode cX11_shows 120 = .ok (.iinc 7 1, 3) := by decide +kernel
theorem dX11_shows_123 : decode cX11_shows 123 = .ok (.goto (-40), 3) := by decide +kernel
theorem dX11_shows_126 : decode cX11_shows 126 = .ok (.iload 6, 2) := by decide +kernel
theorem dX11_shows_128 : decode cX11_shows 128 = .ok (.ireturn, 1) := by decide +kernel
theorem dX11_fulfils_0 : decode cX11_fulfils 0 = .ok (.iload_n 2, 1) := by decide +kernel
theorem dX11_fulfils_1 : decode cX11_fulfils 1 = .ok (.invokestatic 114, 3) := by decide +kernel
theorem dX11_fulfils_4 : decode cX11_fulfils 4 = .ok (.istore_n 3, 1) := by decide +kernel
theorem dX11_fulfils_5 : decode cX11_fulfils 5 = .ok (.iconst 0, 1) := by decide +kernel
theorem dX11_fulfils_6 : decode cX11_fulfils 6 = .ok (.istore 4, 2) := by decide +kernel
theorem dX11_fulfils_8 : decode cX11_fulfils 8 = .ok (.bipush 60, 2) := by decide +kernel
theorem dX11_fulfils_10 : decode cX11_fulfils 10 = .ok (.iload_n 1, 1) := by decide +kernel
theorem dX11_fulfils_11 : decode cX11_fulfils 11 = .ok (.imul, 1) := by decide +kernel
theorem dX11_fulfils_12 : decode cX11_fulfils 12 = .ok (.istore 5, 2) := by decide +kernel
theorem dX11_fulfils_14 : decode cX11_fulfils 14 = .ok (.iload 5, 2) := by decide +kernel
theorem dX11_fulfils_16 : decode cX11_fulfils 16 = .ok (.bipush 60, 2) := by decide +kernel
theorem dX11_fulfils_18 : decode cX11_fulfils 18 = .ok (.iload_n 1, 1) := by decide +kernel
theorem dX11_fulfils_19 : decode cX11_fulfils 19 = .ok (.imul, 1) := by decide +kernel
theorem dX11_fulfils_20 : decode cX11_fulfils 20 = .ok (.aload_n 0, 1) := by decide +kernel
theorem dX11_fulfils_21 : decode cX11_fulfils 21 = .ok (.getfield 22, 3) := by decide +kernel
theorem dX11_fulfils_24 : decode cX11_fulfils 24 = .ok (.iload_n 1, 1) := by decide +kernel
theorem dX11_fulfils_25 : decode cX11_fulfils 25 = .ok (.iaload, 1) := by decide +kernel
theorem dX11_fulfils_26 : decode cX11_fulfils 26 = .ok (.iadd, 1) := by decide +kernel
theorem dX11_fulfils_27 : decode cX11_fulfils 27 = .ok (.if_icmp .ge 195, 3) := by decide +kernel
theorem dX11_fulfils_30 : decode cX11_fulfils 30 = .ok (.aload_n 0, 1) := by decide +kernel
theorem dX11_fulfils_31 : decode cX11_fulfils 31 = .ok (.getfield 19, 3) := by decide +kernel
theorem dX11_fulfils_34 : decode cX11_fulfils 34 = .ok (.iload 5, 2) := by decide +kernel
theorem dX11_fulfils_36 : decode cX11_fulfils 36 = .ok (.iaload, 1) := by decide +kernel
theorem dX11_fulfils_37 : decode cX11_fulfils 37 = .ok (.istore 6, 2) := by decide +kernel
theorem dX11_fulfils_39 : decode cX11_fulfils 39 = .ok (.iload 6, 2) := by decide +kernel
theorem dX11_fulfils_41 : decode cX11_fulfils 41 = .ok (.iconst 2, 1) := by decide +kernel
theorem dX11_fulfils_42 : decode cX11_fulfils 42 = .ok (.if_icmp .ne 32, 3) := by decide +kernel
theorem dX11_fulfils_45 : decode cX11_fulfils 45 = .ok (.aload_n 0, 1) := by decide +kernel
theorem dX11_fulfils_46 : decode cX11_fulfils 46 = .ok (.getfield 42, 3) := by decide +kernel
theorem dX11_fulfils_49 : decode cX11_fulfils 49 = .ok (.iload 4, 2) := by decide +kernel
theorem dX11_fulfils_51 : decode cX11_fulfils 51 = .ok (.iconst 1, 1) := by decide +kernel
theorem dX11_fulfils_52 : decode cX11_fulfils 52 = .ok (.isub, 1) := by decide +kernel
theorem dX11_fulfils_53 : decode cX11_fulfils 53 = .ok (.aload_n 0, 1) := by decide +kernel
theorem dX11_fulfils_54 : decode cX11_fulfils 54 = .ok (.getfield 42, 3) := by decide +kernel
theorem dX11_fulfils_57 : decode cX11_fulfils 57 = .ok (.iload 4, 2) := by decide +kernel
theorem dX11_fulfils_59 : decode cX11_fulfils 59 = .ok (.iconst 1, 1) := by decide +kernel
theorem dX11_fulfils_60 : decode cX11_fulfils 60 = .ok (.isub, 1) := by decide +kernel
theorem dX11_fulfils_61 : decode cX11_fulfils 61 = .ok (.baload, 1) := by decide +kernel
theorem dX11_fulfils_62 : decode cX11_fulfils 62 = .ok (.ifCond .ne 7, 3) := by decide +kernel
theorem dX11_fulfils_65 : decode cX11_fulfils 65 = .ok (.iconst 1, 1) := by decide +kernel
theorem dX11_fulfils_66 : decode cX11_fulfils 66 = .ok (.goto 4, 3) := by decide +kernel
theorem dX11_fulfils_69 : decode cX11_fulfils 69 = .ok (.iconst 0, 1) := by decide +kernel
theorem dX11_fulfils_70 : decode cX11_fulfils 70 = .ok (.bastore, 1) := by decide +kernel
theorem dX11_fulfils_71 : decode cX11_fulfils 71 = .ok (.goto 145, 3) := by decide +kernel
theorem dX11_fulfils_74 : decode cX11_fulfils 74 = .ok (.iload 6, 2) := by decide +kernel
theorem dX11_fulfils_76 : decode cX11_fulfils 76 = .ok (.iconst 3, 1) := by decide +kernel
theorem dX11_fulfils_77 : decode cX11_fulfils 77 = .ok (.if_icmp .eq 9, 3) := by decide +kernel
theorem dX11_fulfils_80 : decode cX11_fulfils 80 = .ok (.iload 6, 2) := by decide +kernel
theorem dX11_fulfils_82 : decode cX11_fulfils 82 = .ok (.iconst 4, 1) := by decide +kernel
theorem dX11_fulfils_83 : decode cX11_fulfils 83 = .ok (.if_icmp .ne 81, 3) := by decide +kernel
theorem dX11_fulfils_86 : decode cX11_fulfils 86 = .ok (.iinc 4 (-1), 3) := by decide +kernel
theorem dX11_fulfils_89 : decode cX11_fulfils 89 = .ok (.aload_n 0, 1) := by decide +kernel
theorem dX11_fulfils_90 : decode cX11_fulfils 90 = .ok (.getfield 42, 3) := by decide +kernel
theorem dX11_fulfils_93 : decode cX11_fulfils 93 = .ok (.iload 4, 2) := by decide +kernel
theorem dX11_fulfils_95 : decode cX11_fulfils 95 = .ok (.iconst 1, 1) := by decide +kernel
theorem dX11_fulfils_96 : decode cX11_fulfils 96 = .ok (.isub, 1) := by decide +kernel
theorem dX11_fulfils_97 : decode cX11_fulfils 97 = .ok (.iload 6, 2) := by decide +kernel
theorem dX11_fulfils_99 : decode cX11_fulfils 99 = .ok (.iconst 3, 1) := by decide +kernel
theorem dX11_fulfils_100 : decode cX11_fulfils 100 = .ok (.if_icmp .ne 33, 3) := by decide +kernel
theorem dX11_fulfils_103 : decode cX11_fulfils 103 = .ok (.aload_n 0, 1) := by decide +kernel
theorem dX11_fulfils_104 : decode cX11_fulfils 104 = .ok (.getfield 42, 3) := by decide +kernel
theorem dX11_fulfils_107 : decode cX11_fulfils 107 = .ok (.iload 4, 2) := by decide +kernel
theorem dX11_fulfils_109 : decode cX11_fulfils 109 = .ok (.iconst 1, 1) := by decide +kernel
theorem dX11_fulfils_110 : decode cX11_fulfils 110 = .ok (.isub, 1) := by decide +kernel
theorem dX11_fulfils_111 : decode cX11_fulfils 111 = .ok (.baload, 1) := by decide +kernel
theorem dX11_fulfils_112 : decode cX11_fulfils 112 = .ok (.ifCond .eq 17, 3) := by decide +kernel
theorem dX11_fulfils_115 : decode cX11_fulfils 115 = .ok (.aload_n 0, 1) := by decide +kernel
theorem dX11_fulfils_116 : decode cX11_fulfils 116 = .ok (.getfield 42, 3) := by decide +kernel
theorem dX11_fulfils_119 : decode cX11_fulfils 119 = .ok (.iload 4, 2) := by decide +kernel
theorem dX11_fulfils_121 : decode cX11_fulfils 121 = .ok (.baload, 1) := by decide +kernel
theorem dX11_fulfils_122 : decode cX11_fulfils 122 = .ok (.ifCond .eq 7, 3) := by decide +kernel
theorem dX11_fulfils_125 : decode cX11_fulfils 125 = .ok (.iconst 1, 1) := by decide +kernel
theorem dX11_fulfils_126 : decode cX11_fulfils 126 = .ok (.goto 34, 3) := by decide +kernel
theorem dX11_fulfils_129 : decode cX11_fulfils 129 = .ok (.iconst 0, 1) := by decide +kernel
theorem dX11_fulfils_130 : decode cX11_fulfils 130 = .ok (.goto 30, 3) := by decide +kernel
theorem dX11_fulfils_133 : decode cX11_fulfils 133 = .ok (.aload_n 0, 1) := by decide +kernel
theorem dX11_fulfils_134 : decode cX11_fulfils 134 = .ok (.getfield 42, 3) := by decide +kernel
theorem dX11_fulfils_137 : decode cX11_fulfils 137 = .ok (.iload 4, 2) := by decide +kernel
theorem dX11_fulfils_139 : decode cX11_fulfils 139 = .ok (.iconst 1, 1) := by decide +kernel
theorem dX11_fulfils_140 : decode cX11_fulfils 140 = .ok (.isub, 1) := by decide +kernel
theorem dX11_fulfils_141 : decode cX11_fulfils 141 = .ok (.baload, 1) := by decide +kernel
theorem dX11_fulfils_142 : decode cX11_fulfils 142 = .ok (.ifCond .ne 13, 3) := by decide +kernel
theorem dX11_fulfils_145 : decode cX11_fulfils 145 = .ok (.aload_n 0, 1) := by decide +kernel
theorem dX11_fulfils_146 : decode cX11_fulfils 146 = .ok (.getfield 42, 3) := by decide +kernel
theorem dX11_fulfils_149 : decode cX11_fulfils 149 = .ok (.iload 4, 2) := by decide +kernel
theorem dX11_fulfils_151 : decode cX11_fulfils 151 = .ok (.baload, 1) := by decide +kernel
theorem dX11_fulfils_152 : decode cX11_fulfils 152 = .ok (.ifCond .eq 7, 3) := by decide +kernel
theorem dX11_fulfils_155 : decode cX11_fulfils 155 = .ok (.iconst 1, 1) := by decide +kernel
theorem dX11_fulfils_156 : decode cX11_fulfils 156 = .ok (.goto 4, 3) := by decide +kernel
theorem dX11_fulfils_159 : decode cX11_fulfils 159 = .ok (.iconst 0, 1) := by decide +kernel
theorem dX11_fulfils_160 : decode cX11_fulfils 160 = .ok (.bastore, 1) := by decide +kernel
theorem dX11_fulfils_161 : decode cX11_fulfils 161 = .ok (.goto 55, 3) := by decide +kernel
theorem dX11_fulfils_164 : decode cX11_fulfils 164 = .ok (.aload_n 0, 1) := by decide +kernel
theorem dX11_fulfils_165 : decode cX11_fulfils 165 = .ok (.getfield 42, 3) := by decide +kernel
theorem dX11_fulfils_168 : decode cX11_fulfils 168 = .ok (.iload 4, 2) := by decide +kernel
theorem dX11_fulfils_170 : decode cX11_fulfils 170 = .ok (.iload 6, 2) := by decide +kernel
theorem dX11_fulfils_172 : decode cX11_fulfils 172 = .ok (.iconst 1, 1) := by decide +kernel
theorem dX11_fulfils_173 : decode cX11_fulfils 173 = .ok (.if_icmp .eq 34, 3) := by decide +kernel
theorem dX11_fulfils_176 : decode cX11_fulfils 176 = .ok (.iload 6, 2) := by decide +kernel
theorem dX11_fulfils_178 : decode cX11_fulfils 178 = .ok (.sipush 5000, 3) := by decide +kernel
theorem dX11_fulfils_181 : decode cX11_fulfils 181 = .ok (.if_icmp .ge 16, 3) := by decide +kernel
theorem dX11_fulfils_184 : decode cX11_fulfils 184 = .ok (.iload 6, 2) := by decide +kernel
theorem dX11_fulfils_186 : decode cX11_fulfils 186 = .ok (.iload_n 2, 1) := by decide +kernel
theorem dX11_fulfils_187 : decode cX11_fulfils 187 = .ok (.iload_n 3, 1) := by decide +kernel
theorem dX11_fulfils_188 : decode cX11_fulfils 188 = .ok (.invokestatic 234, 3) := by decide +kernel
theorem dX11_fulfils_191 : decode cX11_fulfils 191 = .ok (.ifCond .eq 20, 3) := by decide +kernel
theorem dX11_fulfils_194 : decode cX11_fulfils 194 = .ok (.goto 13, 3) := by decide +kernel
theorem dX11_fulfils_197 : decode cX11_fulfils 197 = .ok (.iload 6, 2) := by decide +kernel
theorem dX11_fulfils_199 : decode cX11_fulfils 199 = .ok (.iload_n 2, 1) := by decide +kernel
theorem dX11_fulfils_200 : decode cX11_fulfils 200 = .ok (.iload_n 3, 1) := by decide +kernel
theorem dX11_fulfils_201 : decode cX11_fulfils 201 = .ok (.invokestatic 237, 3) := by decide +kernel
theorem dX11_fulfils_204 : decode cX11_fulfils 204 = .ok (.ifCond .eq 7, 3) := by decide +kernel
theorem dX11_fulfils_207 : decode cX11_fulfils 207 = .ok (.iconst 1, 1) := by decide +kernel
theorem dX11_fulfils_208 : decode cX11_fulfils 208 = .ok (.goto 4, 3) := by decide +kernel
theorem dX11_fulfils_211 : decode cX11_fulfils 211 = .ok (.iconst 0, 1) := by decide +kernel
theorem dX11_fulfils_212 : decode cX11_fulfils 212 = .ok (.bastore, 1) := by decide +kernel
theorem dX11_fulfils_213 : decode cX11_fulfils 213 = .ok (.iinc 4 1, 3) := by decide +kernel
theorem dX11_fulfils_216 : decode cX11_fulfils 216 = .ok (.iinc 5 1, 3) := by decide +kernel
theorem dX11_fulfils_219 : decode cX11_fulfils 219 = .ok (.goto (-205), 3) := by decide +kernel
theorem dX11_fulfils_222 : decode cX11_fulfils 222 = .ok (.aload_n 0, 1) := by decide +kernel
theorem dX11_fulfils_223 : decode cX11_fulfils 223 = .ok (.getfield 42, 3) := by decide +kernel
theorem dX11_fulfils_226 : decode cX11_fulfils 226 = .ok (.iconst 0, 1) := by decide +kernel
theorem dX11_fulfils_227 : decode cX11_fulfils 227 = .ok (.baload, 1) := by decide +kernel
theorem dX11_fulfils_228 : decode cX11_fulfils 228 = .ok (.ireturn, 1) := by decide +kernel
theorem dX11_fit_0 : decode cX11_fit 0 = .ok (.aload_n 0, 1) := by decide +kernel
theorem dX11_fit_1 : decode cX11_fit 1 = .ok (.iload_n 1, 1) := by decide +kernel
theorem dX11_fit_2 : decode cX11_fit 2 = .ok (.putfield 240, 3) := by decide +kernel
theorem dX11_fit_5 : decode cX11_fit 5 = .ok (.aload_n 0, 1) := by decide +kernel
theorem dX11_fit_6 : decode cX11_fit 6 = .ok (.iload_n 1, 1) := by decide +kernel
theorem dX11_fit_7 : decode cX11_fit 7 = .ok (.invokestatic 114, 3) := by decide +kernel
theorem dX11_fit_10 : decode cX11_fit 10 = .ok (.putfield 243, 3) := by decide +kernel
theorem dX11_fit_13 : decode cX11_fit 13 = .ok (.iconst 0, 1) := by decide +kernel
theorem dX11_fit_14 : decode cX11_fit 14 = .ok (.istore_n 3, 1) := by decide +kernel
theorem dX11_fit_15 : decode cX11_fit 15 = .ok (.iload_n 3, 1) := by decide +kernel
theorem dX11_fit_16 : decode cX11_fit 16 = .ok (.aload_n 0, 1) := by decide +kernel
theorem dX11_fit_17 : decode cX11_fit 17 = .ok (.getfield 243, 3) := by decide +kernel
theorem dX11_fit_20 : decode cX11_fit 20 = .ok (.if_icmp .gt 55, 3) := by decide +kernel
theorem dX11_fit_23 : decode cX11_fit 23 = .ok (.iload_n 3, 1) := by decide +kernel
theorem dX11_fit_24 : decode cX11_fit 24 = .ok (.istore 4, 2) := by decide +kernel
theorem dX11_fit_26 : decode cX11_fit 26 = .ok (.iload 4, 2) := by decide +kernel
theorem dX11_fit_28 : decode cX11_fit 28 = .ok (.aload_n 0, 1) := by decide +kernel
theorem dX11_fit_29 : decode cX11_fit 29 = .ok (.getfield 243, 3) := by decide +kernel
theorem dX11_fit_32 : decode cX11_fit 32 = .ok (.if_icmp .gt 37, 3) := by decide +kernel
theorem dX11_fit_35 : decode cX11_fit 35 = .ok (.aload_n 0, 1) := by decide +kernel
theorem dX11_fit_36 : decode cX11_fit 36 = .ok (.getfield 46, 3) := by decide +kernel
theorem dX11_fit_39 : decode cX11_fit 39 = .ok (.bipush 10, 2) := by decide +kernel
theorem dX11_fit_41 : decode cX11_fit 41 = .ok (.iload_n 3, 1) := by decide +kernel
theorem dX11_fit_42 : decode cX11_fit 42 = .ok (.imul, 1) := by decide +kernel
theorem dX11_fit_43 : decode cX11_fit 43 = .ok (.iload 4, 2) := by decide +kernel
theorem dX11_fit_45 : decode cX11_fit 45 = .ok (.iadd, 1) := by decide +kernel
theorem dX11_fit_46 : decode cX11_fit 46 = .ok (.aload_n 0, 1) := by decide +kernel
theorem dX11_fit_47 : decode cX11_fit 47 = .ok (.iload_n 2, 1) := by decide +kernel
theorem dX11_fit_48 : decode cX11_fit 48 = .ok (.iload_n 1, 1) := by decide +kernel
theorem dX11_fit_49 : decode cX11_fit 49 = .ok (.aload_n 0, 1) := by decide +kernel
theorem dX11_fit_50 : decode cX11_fit 50 = .ok (.getfield 243, 3) := by decide +kernel
theorem dX11_fit_53 : decode cX11_fit 53 = .ok (.iload_n 3, 1) := by decide +kernel
theorem dX11_fit_54 : decode cX11_fit 54 = .ok (.iload 4, 2) := by decide +kernel
theorem dX11_fit_56 : decode cX11_fit 56 = .ok (.invokestatic 117, 3) := by decide +kernel
theorem dX11_fit_59 : decode cX11_fit 59 = .ok (.invokevirtual 246, 3) := by decide +kernel
theorem dX11_fit_62 : decode cX11_fit 62 = .ok (.bastore, 1) := by decide +kernel
theorem dX11_fit_63 : decode cX11_fit 63 = .ok (.iinc 4 1, 3) := by decide +kernel
theorem dX11_fit_66 : decode cX11_fit 66 = .ok (.goto (-40), 3) := by decide +kernel
theorem dX11_fit_69 : decode cX11_fit 69 = .ok (.iinc 3 1, 3) := by decide +kernel
theorem dX11_fit_72 : decode cX11_fit 72 = .ok (.goto (-57), 3) := by decide +kernel
theorem dX11_fit_75 : decode cX11_fit 75 = .ok (.return_, 1) := by decide +kernel
theorem dX11_isSelected_0 : decode cX11_isSelected 0 = .ok (.aload_n 0, 1) := by decide +kernel
theorem dX11_isSelected_1 : decode cX11_isSelected 1 = .ok (.getfield 46, 3) := by decide +kernel
theorem dX11_isSelected_4 : decode cX11_isSelected 4 = .ok (.bipush 10, 2) := by decide +kernel
theorem dX11_isSelected_6 : decode cX11_isSelected 6 = .ok (.iload_n 1, 1) := by decide +kernel
theorem dX11_isSelected_7 : decode cX11_isSelected 7 = .ok (.imul, 1) := by decide +kernel
theorem dX11_isSelected_8 : decode cX11_isSelected 8 = .ok (.iload_n 2, 1) := by decide +kernel
theorem dX11_isSelected_9 : decode cX11_isSelected 9 = .ok (.iadd, 1) := by decide +kernel
theorem dX11_isSelected_10 : decode cX11_isSelected 10 = .ok (.baload, 1) := by decide +kernel
theorem dX11_isSelected_11 : decode cX11_isSelected 11 = .ok (.ifCond .ne 5, 3) := by decide +kernel
theorem dX11_isSelected_14 : decode cX11_isSelected 14 = .ok (.iconst 0, 1) := by decide +kernel
theorem dX11_isSelected_15 : decode cX11_isSelected 15 = .ok (.ireturn, 1) := by decide +kernel
theorem dX11_isSelected_16 : decode cX11_isSelected 16 = .ok (.aload_n 0, 1) := by decide +kernel
theorem dX11_isSelected_17 : decode cX11_isSelected 17 = .ok (.getfield 25, 3) := by decide +kernel
theorem dX11_isSelected_20 : decode cX11_isSelected 20 = .ok (.ifCond .ne 21, 3) := by decide +kernel
theorem dX11_isSelected_23 : decode cX11_isSelected 23 = .ok (.iload_n 1, 1) := by decide +kernel
theorem dX11_isSelected_24 : decode cX11_isSelected 24 = .ok (.ifCond .ne 15, 3) := by decide +kernel
theorem dX11_isSelected_27 : decode cX11_isSelected 27 = .ok (.iload_n 2, 1) := by decide +kernel
theorem dX11_isSelected_28 : decode cX11_isSelected 28 = .ok (.aload_n 0, 1) := by decide +kernel
theorem dX11_isSelected_29 : decode cX11_isSelected 29 = .ok (.getfield 243, 3) := by decide +kernel
theorem dX11_isSelected_32 : decode cX11_isSelected 32 = .ok (.if_icmp .ne 7, 3) := by decide +kernel
theorem dX11_isSelected_35 : decode cX11_isSelected 35 = .ok (.iconst 1, 1) := by decide +kernel
theorem dX11_isSelected_36 : decode cX11_isSelected 36 = .ok (.goto 4, 3) := by decide +kernel
theorem dX11_isSelected_39 : decode cX11_isSelected 39 = .ok (.iconst 0, 1) := by decide +kernel
theorem dX11_isSelected_40 : decode cX11_isSelected 40 = .ok (.ireturn, 1) := by decide +kernel
theorem dX11_isSelected_41 : decode cX11_isSelected 41 = .ok (.iconst 1, 1) := by decide +kernel
theorem dX11_isSelected_42 : decode cX11_isSelected 42 = .ok (.istore_n 3, 1) := by decide +kernel
theorem dX11_isSelected_43 : decode cX11_isSelected 43 = .ok (.iconst 0, 1) := by decide +kernel
theorem dX11_isSelected_44 : decode cX11_isSelected 44 = .ok (.istore 4, 2) := by decide +kernel
theorem dX11_isSelected_46 : decode cX11_isSelected 46 = .ok (.iload 4, 2) := by decide +kernel
theorem dX11_isSelected_48 : decode cX11_isSelected 48 = .ok (.aload_n 0, 1) := by decide +kernel
theorem dX11_isSelected_49 : decode cX11_isSelected 49 = .ok (.getfield 243, 3) := by decide +kernel
theorem dX11_isSelected_52 : decode cX11_isSelected 52 = .ok (.if_icmp .gt 160, 3) := by decide +kernel
theorem dX11_isSelected_55 : decode cX11_isSelected 55 = .ok (.aload_n 0, 1) := by decide +kernel
theorem dX11_isSelected_56 : decode cX11_isSelected 56 = .ok (.getfield 25, 3) := by decide +kernel
theorem dX11_isSelected_59 : decode cX11_isSelected 59 = .ok (.iconst 1, 1) := by decide +kernel
theorem dX11_isSelected_60 : decode cX11_isSelected 60 = .ok (.if_icmp .le 152, 3) := by decide +kernel
theorem dX11_isSelected_63 : decode cX11_isSelected 63 = .ok (.iload 4, 2) := by decide +kernel
theorem dX11_isSelected_65 : decode cX11_isSelected 65 = .ok (.istore 5, 2) := by decide +kernel
theorem dX11_isSelected_67 : decode cX11_isSelected 67 = .ok (.iload 5, 2) := by decide +kernel
theorem dX11_isSelected_69 : decode cX11_isSelected 69 = .ok (.aload_n 0, 1) := by decide +kernel
theorem dX11_isSelected_70 : decode cX11_isSelected 70 = .ok (.getfield 243, 3) := by decide +kernel
theorem dX11_isSelected_73 : decode cX11_isSelected 73 = .ok (.if_icmp .gt 133, 3) := by decide +kernel
theorem dX11_isSelected_76 : decode cX11_isSelected 76 = .ok (.aload_n 0, 1) := by decide +kernel
theorem dX11_isSelected_77 : decode cX11_isSelected 77 = .ok (.getfield 46, 3) := by decide +kernel
theorem dX11_isSelected_80 : decode cX11_isSelected 80 = .ok (.bipush 10, 2) := by decide +kernel
theorem dX11_isSelected_82 : decode cX11_isSelected 82 = .ok (.iload 4, 2) := by decide +kernel
theorem dX11_isSelected_84 : decode cX11_isSelected 84 = .ok (.imul, 1) := by decide +kernel
theorem dX11_isSelected_85 : decode cX11_isSelected 85 = .ok (.iload 5, 2) := by decide +kernel
theorem dX11_isSelected_87 : decode cX11_isSelected 87 = .ok (.iadd, 1) := by decide +kernel
theorem dX11_isSelected_88 : decode cX11_isSelected 88 = .ok (.baload, 1) := by decide +kernel
theorem dX11_isSelected_89 : decode cX11_isSelected 89 = .ok (.ifCond .eq 19, 3) := by decide +kernel
theorem dX11_isSelected_92 : decode cX11_isSelected 92 = .ok (.iload 4, 2) := by decide +kernel
theorem dX11_isSelected_94 : decode cX11_isSelected 94 = .ok (.iload_n 1, 1) := by decide +kernel
theorem dX11_isSelected_95 : decode cX11_isSelected 95 = .ok (.if_icmp .ne 9, 3) := by decide +kernel
theorem dX11_isSelected_98 : decode cX11_isSelected 98 = .ok (.iload 5, 2) := by decide +kernel
theorem dX11_isSelected_100 : decode cX11_isSelected 100 = .ok (.iload_n 2, 1) := by decide +kernel
theorem dX11_isSelected_101 : decode cX11_isSelected 101 = .ok (.if_icmp .eq 7, 3) := by decide +kernel
theorem dX11_isSelected_104 : decode cX11_isSelected 104 = .ok (.iconst 1, 1) := by decide +kernel
theorem dX11_isSelected_105 : decode cX11_isSelected 105 = .ok (.goto 4, 3) := by decide +kernel
theorem dX11_isSelected_108 : decode cX11_isSelected 108 = .ok (.iconst 0, 1) := by decide +kernel
theorem dX11_isSelected_109 : decode cX11_isSelected 109 = .ok (.istore 6, 2) := by decide +kernel
theorem dX11_isSelected_111 : decode cX11_isSelected 111 = .ok (.aload_n 0, 1) := by decide +kernel
theorem dX11_isSelected_112 : decode cX11_isSelected 112 = .ok (.getfield 25, 3) := by decide +kernel
theorem dX11_isSelected_115 : decode cX11_isSelected 115 = .ok (.iconst 2, 1) := by decide +kernel
theorem dX11_isSelected_116 : decode cX11_isSelected 116 = .ok (.if_icmp .ne 23, 3) := by decide +kernel
theorem dX11_isSelected_119 : decode cX11_isSelected 119 = .ok (.iload 4, 2) := by decide +kernel
theorem dX11_isSelected_121 : decode cX11_isSelected 121 = .ok (.iload_n 1, 1) := by decide +kernel
theorem dX11_isSelected_122 : decode cX11_isSelected 122 = .ok (.if_icmp .gt 13, 3) := by decide +kernel
theorem dX11_isSelected_125 : decode cX11_isSelected 125 = .ok (.iload_n 2, 1) := by decide +kernel
theorem dX11_isSelected_126 : decode cX11_isSelected 126 = .ok (.iload 5, 2) := by decide +kernel
theorem dX11_isSelected_128 : decode cX11_isSelected 128 = .ok (.if_icmp .gt 7, 3) := by decide +kernel
theorem dX11_isSelected_131 : decode cX11_isSelected 131 = .ok (.iconst 1, 1) := by decide +kernel
theorem dX11_isSelected_132 : decode cX11_isSelected 132 = .ok (.goto 46, 3) := by decide +kernel
theorem dX11_isSelected_135 : decode cX11_isSelected 135 = .ok (.iconst 0, 1) := by decide +kernel
theorem dX11_isSelected_136 : decode cX11_isSelected 136 = .ok (.goto 42, 3) := by decide +kernel
theorem dX11_isSelected_139 : decode cX11_isSelected 139 = .ok (.aload_n 0, 1) := by decide +kernel
theorem dX11_isSelected_140 : decode cX11_isSelected 140 = .ok (.getfield 25, 3) := by decide +kernel
theorem dX11_isSelected_143 : decode cX11_isSelected 143 = .ok (.iconst 3, 1) := by decide +kernel
theorem dX11_isSelected_144 : decode cX11_isSelected 144 = .ok (.if_icmp .ne 23, 3) := by decide +kernel
theorem dX11_isSelected_147 : decode cX11_isSelected 147 = .ok (.iload_n 1, 1) := by decide +kernel
theorem dX11_isSelected_148 : decode cX11_isSelected 148 = .ok (.iload 4, 2) := by decide +kernel
theorem dX11_isSelected_150 : decode cX11_isSelected 150 = .ok (.if_icmp .gt 13, 3) := by decide +kernel
theorem dX11_isSelected_153 : decode cX11_isSelected 153 = .ok (.iload 5, 2) := by decide +kernel
theorem dX11_isSelected_155 : decode cX11_isSelected 155 = .ok (.iload_n 2, 1) := by decide +kernel
theorem dX11_isSelected_156 : decode cX11_isSelected 156 = .ok (.if_icmp .gt 7, 3) := by decide +kernel
theorem dX11_isSelected_159 : decode cX11_isSelected 159 = .ok (.iconst 1, 1) := by decide +kernel
theorem dX11_isSelected_160 : decode cX11_isSelected 160 = .ok (.goto 18, 3) := by decide +kernel
theorem dX11_isSelected_163 : decode cX11_isSelected 163 = .ok (.iconst 0, 1) := by decide +kernel
theorem dX11_isSelected_164 : decode cX11_isSelected 164 = .ok (.goto 14, 3) := by decide +kernel
theorem dX11_isSelected_167 : decode cX11_isSelected 167 = .ok (.iload 4, 2) := by decide +kernel
theorem dX11_isSelected_169 : decode cX11_isSelected 169 = .ok (.iload_n 1, 1) := by decide +kernel
theorem dX11_isSelected_170 : decode cX11_isSelected 170 = .ok (.if_icmp .ge 7, 3) := by decide +kernel
theorem dX11_isSelected_173 : decode cX11_isSelected 173 = .ok (.iconst 1, 1) := by decide +kernel
theorem dX11_isSelected_174 : decode cX11_isSelected 174 = .ok (.goto 4, 3) := by decide +kernel
theorem dX11_isSelected_177 : decode cX11_isSelected 177 = .ok (.iconst 0, 1) := by decide +kernel
theorem dX11_isSelected_178 : decode cX11_isSelected 178 = .ok (.istore 7, 2) := by decide +kernel
theorem dX11_isSelected_180 : decode cX11_isSelected 180 = .ok (.iload_n 3, 1) := by decide +kernel
theorem dX11_isSelected_181 : decode cX11_isSelected 181 = .ok (.ifCond .eq 17, 3) := by decide +kernel
theorem dX11_isSelected_184 : decode cX11_isSelected 184 = .ok (.iload 6, 2) := by decide +kernel
theorem dX11_isSelected_186 : decode cX11_isSelected 186 = .ok (.ifCond .eq 8, 3) := by decide +kernel
theorem dX11_isSelected_189 : decode cX11_isSelected 189 = .ok (.iload 7, 2) := by decide +kernel
theorem dX11_isSelected_191 : decode cX11_isSelected 191 = .ok (.ifCond .ne 7, 3) := by decide +kernel
theorem dX11_isSelected_194 : decode cX11_isSelected 194 = .ok (.iconst 1, 1) := by decide +kernel
theorem dX11_isSelected_195 : decode cX11_isSelected 195 = .ok (.goto 4, 3) := by decide +kernel
theorem dX11_isSelected_198 : decode cX11_isSelected 198 = .ok (.iconst 0, 1) := by decide +kernel
theorem dX11_isSelected_199 : decode cX11_isSelected 199 = .ok (.istore_n 3, 1) := by decide +kernel
theorem dX11_isSelected_200 : decode cX11_isSelected 200 = .ok (.iinc 5 1, 3) := by decide +kernel
theorem dX11_isSelected_203 : decode cX11_isSelected 203 = .ok (.goto (-136), 3) := by decide +kernel
theorem dX11_isSelected_206 : decode cX11_isSelected 206 = .ok (.iinc 4 1, 3) := by decide +kernel
theorem dX11_isSelected_209 : decode cX11_isSelected 209 = .ok (.goto (-163), 3) := by decide +kernel
theorem dX11_isSelected_212 : decode cX11_isSelected 212 = .ok (.iload_n 3, 1) := by decide +kernel
theorem dX11_isSelected_213 : decode cX11_isSelected 213 = .ok (.ireturn, 1) := by decide +kernel
theorem dX11_hasRoom_0 : decode cX11_hasRoom 0 = .ok (.aload_n 0, 1) := by decide +kernel
theorem dX11_hasRoom_1 : decode cX11_hasRoom 1 = .ok (.getfield 243, 3) := by decide +kernel
theorem dX11_hasRoom_4 : decode cX11_hasRoom 4 = .ok (.aload_n 0, 1) := by decide +kernel
theorem dX11_hasRoom_5 : decode cX11_hasRoom 5 = .ok (.getfield 13, 3) := by decide +kernel
theorem dX11_hasRoom_8 : decode cX11_hasRoom 8 = .ok (.iload_n 1, 1) := by decide +kernel
theorem dX11_hasRoom_9 : decode cX11_hasRoom 9 = .ok (.iaload, 1) := by decide +kernel
theorem dX11_hasRoom_10 : decode cX11_hasRoom 10 = .ok (.invokestatic 114, 3) := by decide +kernel
theorem dX11_hasRoom_13 : decode cX11_hasRoom 13 = .ok (.iadd, 1) := by decide +kernel
theorem dX11_hasRoom_14 : decode cX11_hasRoom 14 = .ok (.aload_n 0, 1) := by decide +kernel
theorem dX11_hasRoom_15 : decode cX11_hasRoom 15 = .ok (.getfield 16, 3) := by decide +kernel
theorem dX11_hasRoom_18 : decode cX11_hasRoom 18 = .ok (.iload_n 1, 1) := by decide +kernel
theorem dX11_hasRoom_19 : decode cX11_hasRoom 19 = .ok (.iaload, 1) := by decide +kernel
theorem dX11_hasRoom_20 : decode cX11_hasRoom 20 = .ok (.invokestatic 114, 3) := by decide +kernel
theorem dX11_hasRoom_23 : decode cX11_hasRoom 23 = .ok (.iadd, 1) := by decide +kernel
theorem dX11_hasRoom_24 : decode cX11_hasRoom 24 = .ok (.aload_n 0, 1) := by decide +kernel
theorem dX11_hasRoom_25 : decode cX11_hasRoom 25 = .ok (.getfield 29, 3) := by decide +kernel
theorem dX11_hasRoom_28 : decode cX11_hasRoom 28 = .ok (.if_icmp .gt 7, 3) := by decide +kernel
theorem dX11_hasRoom_31 : decode cX11_hasRoom 31 = .ok (.iconst 1, 1) := by decide +kernel
theorem dX11_hasRoom_32 : decode cX11_hasRoom 32 = .ok (.goto 4, 3) := by decide +kernel
theorem dX11_hasRoom_35 : decode cX11_hasRoom 35 = .ok (.iconst 0, 1) := by decide +kernel
theorem dX11_hasRoom_36 : decode cX11_hasRoom 36 = .ok (.ireturn, 1) := by decide +kernel
theorem dX11_inserted_0 : decode cX11_inserted 0 = .ok (.aload_n 0, 1) := by decide +kernel
theorem dX11_inserted_1 : decode cX11_inserted 1 = .ok (.getfield 240, 3) := by decide +kernel
theorem dX11_inserted_4 : decode cX11_inserted 4 = .ok (.aload_n 0, 1) := by decide +kernel
theorem dX11_inserted_5 : decode cX11_inserted 5 = .ok (.getfield 243, 3) := by decide +kernel
theorem dX11_inserted_8 : decode cX11_inserted 8 = .ok (.iconst 0, 1) := by decide +kernel
theorem dX11_inserted_9 : decode cX11_inserted 9 = .ok (.iload_n 2, 1) := by decide +kernel
theorem dX11_inserted_10 : decode cX11_inserted 10 = .ok (.invokestatic 117, 3) := by decide +kernel
theorem dX11_inserted_13 : decode cX11_inserted 13 = .ok (.aload_n 0, 1) := by decide +kernel
theorem dX11_inserted_14 : decode cX11_inserted 14 = .ok (.getfield 13, 3) := by decide +kernel
theorem dX11_inserted_17 : decode cX11_inserted 17 = .ok (.iload_n 1, 1) := by decide +kernel
theorem dX11_inserted_18 : decode cX11_inserted 18 = .ok (.iaload, 1) := by decide +kernel
theorem dX11_inserted_19 : decode cX11_inserted 19 = .ok (.invokestatic 159, 3) := by decide +kernel
theorem dX11_inserted_22 : decode cX11_inserted 22 = .ok (.istore 4, 2) := by decide +kernel
theorem dX11_inserted_24 : decode cX11_inserted 24 = .ok (.aload_n 0, 1) := by decide +kernel
theorem dX11_inserted_25 : decode cX11_inserted 25 = .ok (.getfield 240, 3) := by decide +kernel
theorem dX11_inserted_28 : decode cX11_inserted 28 = .ok (.aload_n 0, 1) := by decide +kernel
theorem dX11_inserted_29 : decode cX11_inserted 29 = .ok (.getfield 243, 3) := by decide +kernel
theorem dX11_inserted_32 : decode cX11_inserted 32 = .ok (.iload_n 2, 1) := by decide +kernel
theorem dX11_inserted_33 : decode cX11_inserted 33 = .ok (.iload_n 3, 1) := by decide +kernel
theorem dX11_inserted_34 : decode cX11_inserted 34 = .ok (.invokestatic 117, 3) := by decide +kernel
theorem dX11_inserted_37 : decode cX11_inserted 37 = .ok (.aload_n 0, 1) := by decide +kernel
theorem dX11_inserted_38 : decode cX11_inserted 38 = .ok (.getfield 16, 3) := by decide +kernel
theorem dX11_inserted_41 : decode cX11_inserted 41 = .ok (.iload_n 1, 1) := by decide +kernel
theorem dX11_inserted_42 : decode cX11_inserted 42 = .ok (.iaload, 1) := by decide +kernel
theorem dX11_inserted_43 : decode cX11_inserted 43 = .ok (.invokestatic 159, 3) := by decide +kernel
theorem dX11_inserted_46 : decode cX11_inserted 46 = .ok (.istore 5, 2) := by decide +kernel
theorem dX11_inserted_48 : decode cX11_inserted 48 = .ok (.iload 4, 2) := by decide +kernel
theorem dX11_inserted_50 : decode cX11_inserted 50 = .ok (.iload 5, 2) := by decide +kernel
theorem dX11_inserted_52 : decode cX11_inserted 52 = .ok (.invokestatic 159, 3) := by decide +kernel
theorem dX11_inserted_55 : decode cX11_inserted 55 = .ok (.aload_n 0, 1) := by decide +kernel
theorem dX11_inserted_56 : decode cX11_inserted 56 = .ok (.getfield 240, 3) := by decide +kernel
theorem dX11_inserted_59 : decode cX11_inserted 59 = .ok (.aload_n 0, 1) := by decide +kernel
theorem dX11_inserted_60 : decode cX11_inserted 60 = .ok (.getfield 243, 3) := by decide +kernel
theorem dX11_inserted_63 : decode cX11_inserted 63 = .ok (.iload_n 3, 1) := by decide +kernel
theorem dX11_inserted_64 : decode cX11_inserted 64 = .ok (.aload_n 0, 1) := by decide +kernel
theorem dX11_inserted_65 : decode cX11_inserted 65 = .ok (.getfield 243, 3) := by decide +kernel
theorem dX11_inserted_68 : decode cX11_inserted 68 = .ok (.invokestatic 117, 3) := by decide +kernel
theorem dX11_inserted_71 : decode cX11_inserted 71 = .ok (.invokestatic 159, 3) := by decide +kernel
theorem dX11_inserted_74 : decode cX11_inserted 74 = .ok (.ireturn, 1) := by decide +kernel
theorem dX11_enter_0 : decode cX11_enter 0 = .ok (.aload_n 0, 1) := by decide +kernel
theorem dX11_enter_1 : decode cX11_enter 1 = .ok (.dup, 1) := by decide +kernel
theorem dX11_enter_2 : decode cX11_enter 2 = .ok (.getfield 250, 3) := by decide +kernel
theorem dX11_enter_5 : decode cX11_enter 5 = .ok (.aload_n 0, 1) := by decide +kernel
theorem dX11_enter_6 : decode cX11_enter 6 = .ok (.getfield 49, 3) := by decide +kernel
theorem dX11_enter_9 : decode cX11_enter 9 = .ok (.iload_n 1, 1) := by decide +kernel
theorem dX11_enter_10 : decode cX11_enter 10 = .ok (.baload, 1) := by decide +kernel
theorem dX11_enter_11 : decode cX11_enter 11 = .ok (.ifCond .eq 7, 3) := by decide +kernel
theorem dX11_enter_14 : decode cX11_enter 14 = .ok (.iconst 0, 1) := by decide +kernel
theorem dX11_enter_15 : decode cX11_enter 15 = .ok (.goto 4, 3) := by decide +kernel
theorem dX11_enter_18 : decode cX11_enter 18 = .ok (.iconst 1, 1) := by decide +kernel
theorem dX11_enter_19 : decode cX11_enter 19 = .ok (.iadd, 1) := by decide +kernel
theorem dX11_enter_20 : decode cX11_enter 20 = .ok (.putfield 250, 3) := by decide +kernel
theorem dX11_enter_23 : decode cX11_enter 23 = .ok (.aload_n 0, 1) := by decide +kernel
theorem dX11_enter_24 : decode cX11_enter 24 = .ok (.getfield 49, 3) := by decide +kernel
theorem dX11_enter_27 : decode cX11_enter 27 = .ok (.iload_n 1, 1) := by decide +kernel
theorem dX11_enter_28 : decode cX11_enter 28 = .ok (.iconst 1, 1) := by decide +kernel
theorem dX11_enter_29 : decode cX11_enter 29 = .ok (.bastore, 1) := by decide +kernel
theorem dX11_enter_30 : decode cX11_enter 30 = .ok (.return_, 1) := by decide +kernel
theorem dX11_find_0 : decode cX11_find 0 = .ok (.iconst 0, 1) := by decide +kernel
theorem dX11_find_1 : decode cX11_find 1 = .ok (.istore_n 2, 1) := by decide +kernel
theorem dX11_find_2 : decode cX11_find 2 = .ok (.iload_n 2, 1) := by decide +kernel
theorem dX11_find_3 : decode cX11_find 3 = .ok (.sipush 29524, 3) := by decide +kernel
theorem dX11_find_6 : decode cX11_find 6 = .ok (.if_icmp .ge 16, 3) := by decide +kernel
theorem dX11_find_9 : decode cX11_find 9 = .ok (.aload_n 0, 1) := by decide +kernel
theorem dX11_find_10 : decode cX11_find 10 = .ok (.getfield 49, 3) := by decide +kernel
theorem dX11_find_13 : decode cX11_find 13 = .ok (.iload_n 2, 1) := by decide +kernel
theorem dX11_find_14 : decode cX11_find 14 = .ok (.iconst 0, 1) := by decide +kernel
theorem dX11_find_15 : decode cX11_find 15 = .ok (.bastore, 1) := by decide +kernel
theorem dX11_find_16 : decode cX11_find 16 = .ok (.iinc 2 1, 3) := by decide +kernel
theorem dX11_find_19 : decode cX11_find 19 = .ok (.goto (-17), 3) := by decide +kernel
theorem dX11_find_22 : decode cX11_find 22 = .ok (.aload_n 0, 1) := by decide +kernel
theorem dX11_find_23 : decode cX11_find 23 = .ok (.iconst 0, 1) := by decide +kernel
theorem dX11_find_24 : decode cX11_find 24 = .ok (.putfield 250, 3) := by decide +kernel
theorem dX11_find_27 : decode cX11_find 27 = .ok (.iconst 0, 1) := by decide +kernel
theorem dX11_find_28 : decode cX11_find 28 = .ok (.istore_n 2, 1) := by decide +kernel
theorem dX11_find_29 : decode cX11_find 29 = .ok (.iload_n 2, 1) := by decide +kernel
theorem dX11_find_30 : decode cX11_find 30 = .ok (.aload_n 0, 1) := by decide +kernel
theorem dX11_find_31 : decode cX11_find 31 = .ok (.getfield 128, 3) := by decide +kernel
theorem dX11_find_34 : decode cX11_find 34 = .ok (.if_icmp .ge 35, 3) := by decide +kernel
theorem dX11_find_37 : decode cX11_find 37 = .ok (.aload_n 0, 1) := by decide +kernel
theorem dX11_find_38 : decode cX11_find 38 = .ok (.getfield 7, 3) := by decide +kernel
theorem dX11_find_41 : decode cX11_find 41 = .ok (.iload_n 2, 1) := by decide +kernel
theorem dX11_find_42 : decode cX11_find 42 = .ok (.iaload, 1) := by decide +kernel
theorem dX11_find_43 : decode cX11_find 43 = .ok (.invokestatic 114, 3) := by decide +kernel
theorem dX11_find_46 : decode cX11_find 46 = .ok (.aload_n 0, 1) := by decide +kernel
theorem dX11_find_47 : decode cX11_find 47 = .ok (.getfield 29, 3) := by decide +kernel
theorem dX11_find_50 : decode cX11_find 50 = .ok (.if_icmp .gt 13, 3) := by decide +kernel
theorem dX11_find_53 : decode cX11_find 53 = .ok (.aload_n 0, 1) := by decide +kernel
theorem dX11_find_54 : decode cX11_find 54 = .ok (.aload_n 0, 1) := by decide +kernel
theorem dX11_find_55 : decode cX11_find 55 = .ok (.getfield 7, 3) := by decide +kernel
theorem dX11_find_58 : decode cX11_find 58 = .ok (.iload_n 2, 1) := by decide +kernel
theorem dX11_find_59 : decode cX11_find 59 = .ok (.iaload, 1) := by decide +kernel
theorem dX11_find_60 : decode cX11_find 60 = .ok (.invokevirtual 253, 3) := by decide +kernel
theorem dX11_find_63 : decode cX11_find 63 = .ok (.iinc 2 1, 3) := by decide +kernel
theorem dX11_find_66 : decode cX11_find 66 = .ok (.goto (-37), 3) := by decide +kernel
theorem dX11_find_69 : decode cX11_find 69 = .ok (.iconst 0, 1) := by decide +kernel
theorem dX11_find_70 : decode cX11_find 70 = .ok (.istore_n 2, 1) := by decide +kernel
theorem dX11_find_71 : decode cX11_find 71 = .ok (.iload_n 2, 1) := by decide +kernel
theorem dX11_find_72 : decode cX11_find 72 = .ok (.sipush 29524, 3) := by decide +kernel
theorem dX11_find_75 : decode cX11_find 75 = .ok (.if_icmp .ge 59, 3) := by decide +kernel
theorem dX11_find_78 : decode cX11_find 78 = .ok (.aload_n 0, 1) := by decide +kernel
theorem dX11_find_79 : decode cX11_find 79 = .ok (.getfield 250, 3) := by decide +kernel
theorem dX11_find_82 : decode cX11_find 82 = .ok (.sipush 300, 3) := by decide +kernel
theorem dX11_find_85 : decode cX11_find 85 = .ok (.if_icmp .gt 49, 3) := by decide +kernel
theorem dX11_find_88 : decode cX11_find 88 = .ok (.iconst 0, 1) := by decide +kernel
theorem dX11_find_89 : decode cX11_find 89 = .ok (.istore_n 3, 1) := by decide +kernel
theorem dX11_find_90 : decode cX11_find 90 = .ok (.iload_n 3, 1) := by decide +kernel
theorem dX11_find_91 : decode cX11_find 91 = .ok (.aload_n 0, 1) := by decide +kernel
theorem dX11_find_92 : decode cX11_find 92 = .ok (.getfield 121, 3) := by decide +kernel
theorem dX11_find_95 : decode cX11_find 95 = .ok (.if_icmp .ge 33, 3) := by decide +kernel
theorem dX11_find_98 : decode cX11_find 98 = .ok (.aload_n 0, 1) := by decide +kernel
theorem dX11_find_99 : decode cX11_find 99 = .ok (.getfield 49, 3) := by decide +kernel
theorem dX11_find_102 : decode cX11_find 102 = .ok (.iload_n 2, 1) := by decide +kernel
theorem dX11_find_103 : decode cX11_find 103 = .ok (.baload, 1) := by decide +kernel
theorem dX11_find_104 : decode cX11_find 104 = .ok (.ifCond .eq 24, 3) := by decide +kernel
theorem dX11_find_107 : decode cX11_find 107 = .ok (.iload_n 1, 1) := by decide +kernel
theorem dX11_find_108 : decode cX11_find 108 = .ok (.iload_n 3, 1) := by decide +kernel
theorem dX11_find_109 : decode cX11_find 109 = .ok (.ishr, 1) := by decide +kernel
theorem dX11_find_110 : decode cX11_find 110 = .ok (.iconst 1, 1) := by decide +kernel
theorem dX11_find_111 : decode cX11_find 111 = .ok (.iand, 1) := by decide +kernel
theorem dX11_find_112 : decode cX11_find 112 = .ok (.iconst 1, 1) := by decide +kernel
theorem dX11_find_113 : decode cX11_find 113 = .ok (.if_icmp .ne 9, 3) := by decide +kernel
theorem dX11_find_116 : decode cX11_find 116 = .ok (.aload_n 0, 1) := by decide +kernel
theorem dX11_find_117 : decode cX11_find 117 = .ok (.iload_n 2, 1) := by decide +kernel
theorem dX11_find_118 : decode cX11_find 118 = .ok (.iload_n 3, 1) := by decide +kernel
theorem dX11_find_119 : decode cX11_find 119 = .ok (.invokevirtual 256, 3) := by decide +kernel
theorem dX11_find_122 : decode cX11_find 122 = .ok (.iinc 3 1, 3) := by decide +kernel
theorem dX11_find_125 : decode cX11_find 125 = .ok (.goto (-35), 3) := by decide +kernel
theorem dX11_find_128 : decode cX11_find 128 = .ok (.iinc 2 1, 3) := by decide +kernel
theorem dX11_find_131 : decode cX11_find 131 = .ok (.goto (-60), 3) := by decide +kernel
theorem dX11_find_134 : decode cX11_find 134 = .ok (.aload_n 0, 1) := by decide +kernel
theorem dX11_find_135 : decode cX11_find 135 = .ok (.getfield 250, 3) := by decide +kernel
theorem dX11_find_138 : decode cX11_find 138 = .ok (.sipush 300, 3) := by decide +kernel
theorem dX11_find_141 : decode cX11_find 141 = .ok (.if_icmp .gt 7, 3) := by decide +kernel
theorem dX11_find_144 : decode cX11_find 144 = .ok (.iconst 1, 1) := by decide +kernel
theorem dX11_find_145 : decode cX11_find 145 = .ok (.goto 4, 3) := by decide +kernel
theorem dX11_find_148 : decode cX11_find 148 = .ok (.iconst 0, 1) := by decide +kernel
theorem dX11_find_149 : decode cX11_find 149 = .ok (.ireturn, 1) := by decide +kernel
theorem dX11_grow_0 : decode cX11_grow 0 = .ok (.aload_n 0, 1) := by decide +kernel
theorem dX11_grow_1 : decode cX11_grow 1 = .ok (.iload_n 1, 1) := by decide +kernel
theorem dX11_grow_2 : decode cX11_grow 2 = .ok (.iload_n 2, 1) := by decide +kernel
theorem dX11_grow_3 : decode cX11_grow 3 = .ok (.invokevirtual 260, 3) := by decide +kernel
theorem dX11_grow_6 : decode cX11_grow 6 = .ok (.iconst 0, 1) := by decide +kernel
theorem dX11_grow_7 : decode cX11_grow 7 = .ok (.istore_n 3, 1) := by decide +kernel
theorem dX11_grow_8 : decode cX11_grow 8 = .ok (.iload_n 3, 1) := by decide +kernel
theorem dX11_grow_9 : decode cX11_grow 9 = .ok (.bipush 100, 2) := by decide +kernel
theorem dX11_grow_11 : decode cX11_grow 11 = .ok (.if_icmp .ge 57, 3) := by decide +kernel
theorem dX11_grow_14 : decode cX11_grow 14 = .ok (.aload_n 0, 1) := by decide +kernel
theorem dX11_grow_15 : decode cX11_grow 15 = .ok (.iload_n 2, 1) := by decide +kernel
theorem dX11_grow_16 : decode cX11_grow 16 = .ok (.invokevirtual 263, 3) := by decide +kernel
theorem dX11_grow_19 : decode cX11_grow 19 = .ok (.ifCond .eq 49, 3) := by decide +kernel
theorem dX11_grow_22 : decode cX11_grow 22 = .ok (.aload_n 0, 1) := by decide +kernel
theorem dX11_grow_23 : decode cX11_grow 23 = .ok (.iload_n 3, 1) := by decide +kernel
theorem dX11_grow_24 : decode cX11_grow 24 = .ok (.invokevirtual 266, 3) := by decide +kernel
theorem dX11_grow_27 : decode cX11_grow 27 = .ok (.ifCond .eq 35, 3) := by decide +kernel
theorem dX11_grow_30 : decode cX11_grow 30 = .ok (.aload_n 0, 1) := by decide +kernel
theorem dX11_grow_31 : decode cX11_grow 31 = .ok (.iload_n 3, 1) := by decide +kernel
theorem dX11_grow_32 : decode cX11_grow 32 = .ok (.bipush 10, 2) := by decide +kernel
theorem dX11_grow_34 : decode cX11_grow 34 = .ok (.idiv, 1) := by decide +kernel
theorem dX11_grow_35 : decode cX11_grow 35 = .ok (.iload_n 3, 1) := by decide +kernel
theorem dX11_grow_36 : decode cX11_grow 36 = .ok (.bipush 10, 2) := by decide +kernel
theorem dX11_grow_38 : decode cX11_grow 38 = .ok (.irem, 1) := by decide +kernel
theorem dX11_grow_39 : decode cX11_grow 39 = .ok (.invokevirtual 269, 3) := by decide +kernel
theorem dX11_grow_42 : decode cX11_grow 42 = .ok (.ifCond .eq 20, 3) := by decide +kernel
theorem dX11_grow_45 : decode cX11_grow 45 = .ok (.aload_n 0, 1) := by decide +kernel
theorem dX11_grow_46 : decode cX11_grow 46 = .ok (.aload_n 0, 1) := by decide +kernel
theorem dX11_grow_47 : decode cX11_grow 47 = .ok (.iload_n 2, 1) := by decide +kernel
theorem dX11_grow_48 : decode cX11_grow 48 = .ok (.iload_n 3, 1) := by decide +kernel
theorem dX11_grow_49 : decode cX11_grow 49 = .ok (.bipush 10, 2) := by decide +kernel
theorem dX11_grow_51 : decode cX11_grow 51 = .ok (.idiv, 1) := by decide +kernel
theorem dX11_grow_52 : decode cX11_grow 52 = .ok (.iload_n 3, 1) := by decide +kernel
theorem dX11_grow_53 : decode cX11_grow 53 = .ok (.bipush 10, 2) := by decide +kernel
theorem dX11_grow_55 : decode cX11_grow 55 = .ok (.irem, 1) := by decide +kernel
theorem dX11_grow_56 : decode cX11_grow 56 = .ok (.invokevirtual 272, 3) := by decide +kernel
theorem dX11_grow_59 : decode cX11_grow 59 = .ok (.invokevirtual 253, 3) := by decide +kernel
theorem dX11_grow_62 : decode cX11_grow 62 = .ok (.iinc 3 1, 3) := by decide +kernel
theorem dX11_grow_65 : decode cX11_grow 65 = .ok (.goto (-57), 3) := by decide +kernel
theorem dX11_grow_68 : decode cX11_grow 68 = .ok (.return_, 1) := by decide +kernel
theorem dX11_isFactor_0 : decode cX11_isFactor 0 = .ok (.iload_n 1, 1) := by decide +kernel
theorem dX11_isFactor_1 : decode cX11_isFactor 1 = .ok (.bipush 10, 2) := by decide +kernel
theorem dX11_isFactor_3 : decode cX11_isFactor 3 = .ok (.idiv, 1) := by decide +kernel
theorem dX11_isFactor_4 : decode cX11_isFactor 4 = .ok (.iload_n 1, 1) := by decide +kernel
theorem dX11_isFactor_5 : decode cX11_isFactor 5 = .ok (.bipush 10, 2) := by decide +kernel
theorem dX11_isFactor_7 : decode cX11_isFactor 7 = .ok (.irem, 1) := by decide +kernel
theorem dX11_isFactor_8 : decode cX11_isFactor 8 = .ok (.if_icmp .gt 18, 3) := by decide +kernel
theorem dX11_isFactor_11 : decode cX11_isFactor 11 = .ok (.iload_n 1, 1) := by decide +kernel
theorem dX11_isFactor_12 : decode cX11_isFactor 12 = .ok (.bipush 10, 2) := by decide +kernel
theorem dX11_isFactor_14 : decode cX11_isFactor 14 = .ok (.irem, 1) := by decide +kernel
theorem dX11_isFactor_15 : decode cX11_isFactor 15 = .ok (.aload_n 0, 1) := by decide +kernel
theorem dX11_isFactor_16 : decode cX11_isFactor 16 = .ok (.getfield 243, 3) := by decide +kernel
theorem dX11_isFactor_19 : decode cX11_isFactor 19 = .ok (.if_icmp .gt 7, 3) := by decide +kernel
theorem dX11_isFactor_22 : decode cX11_isFactor 22 = .ok (.iconst 1, 1) := by decide +kernel
theorem dX11_isFactor_23 : decode cX11_isFactor 23 = .ok (.goto 4, 3) := by decide +kernel
theorem dX11_isFactor_26 : decode cX11_isFactor 26 = .ok (.iconst 0, 1) := by decide +kernel
theorem dX11_isFactor_27 : decode cX11_isFactor 27 = .ok (.ireturn, 1) := by decide +kernel
theorem dX11_findAll_0 : decode cX11_findAll 0 = .ok (.aload_n 0, 1) := by decide +kernel
theorem dX11_findAll_1 : decode cX11_findAll 1 = .ok (.iconst 1, 1) := by decide +kernel
theorem dX11_findAll_2 : decode cX11_findAll 2 = .ok (.aload_n 0, 1) := by decide +kernel
theorem dX11_findAll_3 : decode cX11_findAll 3 = .ok (.getfield 121, 3) := by decide +kernel
theorem dX11_findAll_6 : decode cX11_findAll 6 = .ok (.ishl, 1) := by decide +kernel
theorem dX11_findAll_7 : decode cX11_findAll 7 = .ok (.iconst 1, 1) := by decide +kernel
theorem dX11_findAll_8 : decode cX11_findAll 8 = .ok (.isub, 1) := by decide +kernel
theorem dX11_findAll_9 : decode cX11_findAll 9 = .ok (.invokevirtual 275, 3) := by decide +kernel
theorem dX11_findAll_12 : decode cX11_findAll 12 = .ok (.ireturn, 1) := by decide +kernel
theorem dX11_canInsert_0 : decode cX11_canInsert 0 = .ok (.aload_n 0, 1) := by decide +kernel
theorem dX11_canInsert_1 : decode cX11_canInsert 1 = .ok (.iload_n 1, 1) := by decide +kernel
theorem dX11_canInsert_2 : decode cX11_canInsert 2 = .ok (.iload_n 2, 1) := by decide +kernel
theorem dX11_canInsert_3 : decode cX11_canInsert 3 = .ok (.invokevirtual 260, 3) := by decide +kernel
theorem dX11_canInsert_6 : decode cX11_canInsert 6 = .ok (.iconst 0, 1) := by decide +kernel
theorem dX11_canInsert_7 : decode cX11_canInsert 7 = .ok (.istore_n 3, 1) := by decide +kernel
theorem dX11_canInsert_8 : decode cX11_canInsert 8 = .ok (.iload_n 3, 1) := by decide +kernel
theorem dX11_canInsert_9 : decode cX11_canInsert 9 = .ok (.bipush 100, 2) := by decide +kernel
theorem dX11_canInsert_11 : decode cX11_canInsert 11 = .ok (.if_icmp .ge 42, 3) := by decide +kernel
theorem dX11_canInsert_14 : decode cX11_canInsert 14 = .ok (.aload_n 0, 1) := by decide +kernel
theorem dX11_canInsert_15 : decode cX11_canInsert 15 = .ok (.iload_n 2, 1) := by decide +kernel
theorem dX11_canInsert_16 : decode cX11_canInsert 16 = .ok (.invokevirtual 263, 3) := by decide +kernel
theorem dX11_canInsert_19 : decode cX11_canInsert 19 = .ok (.ifCond .eq 34, 3) := by decide +kernel
theorem dX11_canInsert_22 : decode cX11_canInsert 22 = .ok (.aload_n 0, 1) := by decide +kernel
theorem dX11_canInsert_23 : decode cX11_canInsert 23 = .ok (.iload_n 3, 1) := by decide +kernel
theorem dX11_canInsert_24 : decode cX11_canInsert 24 = .ok (.invokevirtual 266, 3) := by decide +kernel
theorem dX11_canInsert_27 : decode cX11_canInsert 27 = .ok (.ifCond .eq 20, 3) := by decide +kernel
theorem dX11_canInsert_30 : decode cX11_canInsert 30 = .ok (.aload_n 0, 1) := by decide +kernel
theorem dX11_canInsert_31 : decode cX11_canInsert 31 = .ok (.iload_n 3, 1) := by decide +kernel
theorem dX11_canInsert_32 : decode cX11_canInsert 32 = .ok (.bipush 10, 2) := by decide +kernel
theorem dX11_canInsert_34 : decode cX11_canInsert 34 = .ok (.idiv, 1) := by decide +kernel
theorem dX11_canInsert_35 : decode cX11_canInsert 35 = .ok (.iload_n 3, 1) := by decide +kernel
theorem dX11_canInsert_36 : decode cX11_canInsert 36 = .ok (.bipush 10, 2) := by decide +kernel
theorem dX11_canInsert_38 : decode cX11_canInsert 38 = .ok (.irem, 1) := by decide +kernel
theorem dX11_canInsert_39 : decode cX11_canInsert 39 = .ok (.invokevirtual 269, 3) := by decide +kernel
theorem dX11_canInsert_42 : decode cX11_canInsert 42 = .ok (.ifCond .eq 5, 3) := by decide +kernel
theorem dX11_canInsert_45 : decode cX11_canInsert 45 = .ok (.iconst 1, 1) := by decide +kernel
theorem dX11_canInsert_46 : decode cX11_canInsert 46 = .ok (.ireturn, 1) := by decide +kernel
theorem dX11_canInsert_47 : decode cX11_canInsert 47 = .ok (.iinc 3 1, 3) := by decide +kernel
theorem dX11_canInsert_50 : decode cX11_canInsert 50 = .ok (.goto (-42), 3) := by decide +kernel
theorem dX11_canInsert_53 : decode cX11_canInsert 53 = .ok (.iconst 0, 1) := by decide +kernel
theorem dX11_canInsert_54 : decode cX11_canInsert 54 = .ok (.ireturn, 1) := by decide +kernel
theorem dX11_size_0 : decode cX11_size 0 = .ok (.aload_n 0, 1) := by decide +kernel
theorem dX11_size_1 : decode cX11_size 1 = .ok (.iconst 0, 1) := by decide +kernel
theorem dX11_size_2 : decode cX11_size 2 = .ok (.putfield 104, 3) := by decide +kernel
theorem dX11_size_5 : decode cX11_size 5 = .ok (.aload_n 0, 1) := by decide +kernel
theorem dX11_size_6 : decode cX11_size 6 = .ok (.invokevirtual 278, 3) := by decide +kernel
theorem dX11_size_9 : decode cX11_size 9 = .ok (.ifCond .eq 10, 3) := by decide +kernel
theorem dX11_size_12 : decode cX11_size 12 = .ok (.aload_n 0, 1) := by decide +kernel
theorem dX11_size_13 : decode cX11_size 13 = .ok (.getfield 250, 3) := by decide +kernel
theorem dX11_size_16 : decode cX11_size 16 = .ok (.goto 8, 3) := by decide +kernel
theorem dX11_size_19 : decode cX11_size 19 = .ok (.aload_n 0, 1) := by decide +kernel
theorem dX11_size_20 : decode cX11_size 20 = .ok (.iconst 1, 1) := by decide +kernel
theorem dX11_size_21 : decode cX11_size 21 = .ok (.invokevirtual 134, 3) := by decide +kernel
theorem dX11_size_24 : decode cX11_size 24 = .ok (.ireturn, 1) := by decide +kernel
theorem dX11_countOf_0 : decode cX11_countOf 0 = .ok (.iconst 0, 1) := by decide +kernel
theorem dX11_countOf_1 : decode cX11_countOf 1 = .ok (.istore_n 2, 1) := by decide +kernel
theorem dX11_countOf_2 : decode cX11_countOf 2 = .ok (.iload_n 1, 1) := by decide +kernel
theorem dX11_countOf_3 : decode cX11_countOf 3 = .ok (.invokestatic 111, 3) := by decide +kernel
theorem dX11_countOf_6 : decode cX11_countOf 6 = .ok (.istore_n 3, 1) := by decide +kernel
theorem dX11_countOf_7 : decode cX11_countOf 7 = .ok (.iload_n 3, 1) := by decide +kernel
theorem dX11_countOf_8 : decode cX11_countOf 8 = .ok (.iload_n 1, 1) := by decide +kernel
theorem dX11_countOf_9 : decode cX11_countOf 9 = .ok (.iconst 1, 1) := by decide +kernel
theorem dX11_countOf_10 : decode cX11_countOf 10 = .ok (.iadd, 1) := by decide +kernel
theorem dX11_countOf_11 : decode cX11_countOf 11 = .ok (.invokestatic 111, 3) := by decide +kernel
theorem dX11_countOf_14 : decode cX11_countOf 14 = .ok (.if_icmp .ge 26, 3) := by decide +kernel
theorem dX11_countOf_17 : decode cX11_countOf 17 = .ok (.iload_n 2, 1) := by decide +kernel
theorem dX11_countOf_18 : decode cX11_countOf 18 = .ok (.aload_n 0, 1) := by decide +kernel
theorem dX11_countOf_19 : decode cX11_countOf 19 = .ok (.getfield 49, 3) := by decide +kernel
theorem dX11_countOf_22 : decode cX11_countOf 22 = .ok (.iload_n 3, 1) := by decide +kernel
theorem dX11_countOf_23 : decode cX11_countOf 23 = .ok (.baload, 1) := by decide +kernel
theorem dX11_countOf_24 : decode cX11_countOf 24 = .ok (.ifCond .eq 7, 3) := by decide +kernel
theorem dX11_countOf_27 : decode cX11_countOf 27 = .ok (.iconst 1, 1) := by decide +kernel
theorem dX11_countOf_28 : decode cX11_countOf 28 = .ok (.goto 4, 3) := by decide +kernel
theorem dX11_countOf_31 : decode cX11_countOf 31 = .ok (.iconst 0, 1) := by decide +kernel
theorem dX11_countOf_32 : decode cX11_countOf 32 = .ok (.iadd, 1) := by decide +kernel
theorem dX11_countOf_33 : decode cX11_countOf 33 = .ok (.istore_n 2, 1) := by decide +kernel
theorem dX11_countOf_34 : decode cX11_countOf 34 = .ok (.iinc 3 1, 3) := by decide +kernel
theorem dX11_countOf_37 : decode cX11_countOf 37 = .ok (.goto (-30), 3) := by decide +kernel
theorem dX11_countOf_40 : decode cX11_countOf 40 = .ok (.iload_n 2, 1) := by decide +kernel
theorem dX11_countOf_41 : decode cX11_countOf 41 = .ok (.ireturn, 1) := by decide +kernel
theorem dX11_sizeOf_0 : decode cX11_sizeOf 0 = .ok (.aload_n 0, 1) := by decide +kernel
theorem dX11_sizeOf_1 : decode cX11_sizeOf 1 = .ok (.iconst 0, 1) := by decide +kernel
theorem dX11_sizeOf_2 : decode cX11_sizeOf 2 = .ok (.putfield 104, 3) := by decide +kernel
theorem dX11_sizeOf_5 : decode cX11_sizeOf 5 = .ok (.iload_n 1, 1) := by decide +kernel
theorem dX11_sizeOf_6 : decode cX11_sizeOf 6 = .ok (.iconst 0, 1) := by decide +kernel
theorem dX11_sizeOf_7 : decode cX11_sizeOf 7 = .ok (.aload_n 0, 1) := by decide +kernel
theorem dX11_sizeOf_8 : decode cX11_sizeOf 8 = .ok (.getfield 29, 3) := by decide +kernel
theorem dX11_sizeOf_11 : decode cX11_sizeOf 11 = .ok (.invokestatic 124, 3) := by decide +kernel
theorem dX11_sizeOf_14 : decode cX11_sizeOf 14 = .ok (.ifCond .ne 9, 3) := by decide +kernel
theorem dX11_sizeOf_17 : decode cX11_sizeOf 17 = .ok (.aload_n 0, 1) := by decide +kernel
theorem dX11_sizeOf_18 : decode cX11_sizeOf 18 = .ok (.iconst 1, 1) := by decide +kernel
theorem dX11_sizeOf_19 : decode cX11_sizeOf 19 = .ok (.invokevirtual 134, 3) := by decide +kernel
theorem dX11_sizeOf_22 : decode cX11_sizeOf 22 = .ok (.ireturn, 1) := by decide +kernel
theorem dX11_sizeOf_23 : decode cX11_sizeOf 23 = .ok (.aload_n 0, 1) := by decide +kernel
theorem dX11_sizeOf_24 : decode cX11_sizeOf 24 = .ok (.invokevirtual 278, 3) := by decide +kernel
theorem dX11_sizeOf_27 : decode cX11_sizeOf 27 = .ok (.ifCond .eq 11, 3) := by decide +kernel
theorem dX11_sizeOf_30 : decode cX11_sizeOf 30 = .ok (.aload_n 0, 1) := by decide +kernel
theorem dX11_sizeOf_31 : decode cX11_sizeOf 31 = .ok (.iload_n 1, 1) := by decide +kernel
theorem dX11_sizeOf_32 : decode cX11_sizeOf 32 = .ok (.invokevirtual 281, 3) := by decide +kernel
theorem dX11_sizeOf_35 : decode cX11_sizeOf 35 = .ok (.goto 8, 3) := by decide +kernel
theorem dX11_sizeOf_38 : decode cX11_sizeOf 38 = .ok (.aload_n 0, 1) := by decide +kernel
theorem dX11_sizeOf_39 : decode cX11_sizeOf 39 = .ok (.iconst 2, 1) := by decide +kernel
theorem dX11_sizeOf_40 : decode cX11_sizeOf 40 = .ok (.invokevirtual 134, 3) := by decide +kernel
theorem dX11_sizeOf_43 : decode cX11_sizeOf 43 = .ok (.ireturn, 1) := by decide +kernel
theorem dX11_density_0 : decode cX11_density 0 = .ok (.aload_n 0, 1) := by decide +kernel
theorem dX11_density_1 : decode cX11_density 1 = .ok (.iload_n 1, 1) := by decide +kernel
theorem dX11_density_2 : decode cX11_density 2 = .ok (.invokevirtual 284, 3) := by decide +kernel
theorem dX11_density_5 : decode cX11_density 5 = .ok (.istore_n 2, 1) := by decide +kernel
theorem dX11_density_6 : decode cX11_density 6 = .ok (.aload_n 0, 1) := by decide +kernel
theorem dX11_density_7 : decode cX11_density 7 = .ok (.getfield 104, 3) := by decide +kernel
theorem dX11_density_10 : decode cX11_density 10 = .ok (.ifCond .ne 14, 3) := by decide +kernel
theorem dX11_density_13 : decode cX11_density 13 = .ok (.iload_n 2, 1) := by decide +kernel
theorem dX11_density_14 : decode cX11_density 14 = .ok (.i2d, 1) := by decide +kernel
theorem dX11_density_15 : decode cX11_density 15 = .ok (.iload_n 1, 1) := by decide +kernel
theorem dX11_density_16 : decode cX11_density 16 = .ok (.invokestatic 107, 3) := by decide +kernel
theorem dX11_density_19 : decode cX11_density 19 = .ok (.i2d, 1) := by decide +kernel
theorem dX11_density_20 : decode cX11_density 20 = .ok (.ddiv, 1) := by decide +kernel
theorem dX11_density_21 : decode cX11_density 21 = .ok (.goto 4, 3) := by decide +kernel
theorem dX11_density_24 : decode cX11_density 24 = .ok (.dconst 0, 1) := by decide +kernel
theorem dX11_density_25 : decode cX11_density 25 = .ok (.dreturn, 1) := by decide +kernel
theorem dX11_isUsedIn_0 : decode cX11_isUsedIn 0 = .ok (.iconst 0, 1) := by decide +kernel
theorem dX11_isUsedIn_1 : decode cX11_isUsedIn 1 = .ok (.istore_n 2, 1) := by decide +kernel
theorem dX11_isUsedIn_2 : decode cX11_isUsedIn 2 = .ok (.iload_n 2, 1) := by decide +kernel
theorem dX11_isUsedIn_3 : decode cX11_isUsedIn 3 = .ok (.sipush 29524, 3) := by decide +kernel
theorem dX11_isUsedIn_6 : decode cX11_isUsedIn 6 = .ok (.if_icmp .ge 29, 3) := by decide +kernel
theorem dX11_isUsedIn_9 : decode cX11_isUsedIn 9 = .ok (.aload_n 0, 1) := by decide +kernel
theorem dX11_isUsedIn_10 : decode cX11_isUsedIn 10 = .ok (.getfield 49, 3) := by decide +kernel
theorem dX11_isUsedIn_13 : decode cX11_isUsedIn 13 = .ok (.iload_n 2, 1) := by decide +kernel
theorem dX11_isUsedIn_14 : decode cX11_isUsedIn 14 = .ok (.baload, 1) := by decide +kernel
theorem dX11_isUsedIn_15 : decode cX11_isUsedIn 15 = .ok (.ifCond .eq 14, 3) := by decide +kernel
theorem dX11_isUsedIn_18 : decode cX11_isUsedIn 18 = .ok (.aload_n 0, 1) := by decide +kernel
theorem dX11_isUsedIn_19 : decode cX11_isUsedIn 19 = .ok (.iload_n 2, 1) := by decide +kernel
theorem dX11_isUsedIn_20 : decode cX11_isUsedIn 20 = .ok (.iload_n 1, 1) := by decide +kernel
theorem dX11_isUsedIn_21 : decode cX11_isUsedIn 21 = .ok (.invokevirtual 287, 3) := by decide +kernel
theorem dX11_isUsedIn_24 : decode cX11_isUsedIn 24 = .ok (.ifCond .eq 5, 3) := by decide +kernel
theorem dX11_isUsedIn_27 : decode cX11_isUsedIn 27 = .ok (.iconst 1, 1) := by decide +kernel
theorem dX11_isUsedIn_28 : decode cX11_isUsedIn 28 = .ok (.ireturn, 1) := by decide +kernel
theorem dX11_isUsedIn_29 : decode cX11_isUsedIn 29 = .ok (.iinc 2 1, 3) := by decide +kernel
theorem dX11_isUsedIn_32 : decode cX11_isUsedIn 32 = .ok (.goto (-30), 3) := by decide +kernel
theorem dX11_isUsedIn_35 : decode cX11_isUsedIn 35 = .ok (.iconst 0, 1) := by decide +kernel
theorem dX11_isUsedIn_36 : decode cX11_isUsedIn 36 = .ok (.ireturn, 1) := by decide +kernel
theorem dX11_isUsed_0 : decode cX11_isUsed 0 = .ok (.aload_n 0, 1) := by decide +kernel
theorem dX11_isUsed_1 : decode cX11_isUsed 1 = .ok (.iconst 0, 1) := by decide +kernel
theorem dX11_isUsed_2 : decode cX11_isUsed 2 = .ok (.putfield 104, 3) := by decide +kernel
theorem dX11_isUsed_5 : decode cX11_isUsed 5 = .ok (.aload_n 0, 1) := by decide +kernel
theorem dX11_isUsed_6 : decode cX11_isUsed 6 = .ok (.iload_n 1, 1) := by decide +kernel
theorem dX11_isUsed_7 : decode cX11_isUsed 7 = .ok (.invokevirtual 137, 3) := by decide +kernel
theorem dX11_isUsed_10 : decode cX11_isUsed 10 = .ok (.ifCond .eq 10, 3) := by decide +kernel
theorem dX11_isUsed_13 : decode cX11_isUsed 13 = .ok (.aload_n 0, 1) := by decide +kernel
theorem dX11_isUsed_14 : decode cX11_isUsed 14 = .ok (.invokevirtual 278, 3) := by decide +kernel
theorem dX11_isUsed_17 : decode cX11_isUsed 17 = .ok (.ifCond .ne 29, 3) := by decide +kernel
theorem dX11_isUsed_20 : decode cX11_isUsed 20 = .ok (.aload_n 0, 1) := by decide +kernel
theorem dX11_isUsed_21 : decode cX11_isUsed 21 = .ok (.aload_n 0, 1) := by decide +kernel
theorem dX11_isUsed_22 : decode cX11_isUsed 22 = .ok (.iload_n 1, 1) := by decide +kernel
theorem dX11_isUsed_23 : decode cX11_isUsed 23 = .ok (.invokevirtual 137, 3) := by decide +kernel
theorem dX11_isUsed_26 : decode cX11_isUsed 26 = .ok (.ifCond .eq 7, 3) := by decide +kernel
theorem dX11_isUsed_29 : decode cX11_isUsed 29 = .ok (.iconst 2, 1) := by decide +kernel
theorem dX11_isUsed_30 : decode cX11_isUsed 30 = .ok (.goto 4, 3) := by decide +kernel
theorem dX11_isUsed_33 : decode cX11_isUsed 33 = .ok (.iconst 1, 1) := by decide +kernel
theorem dX11_isUsed_34 : decode cX11_isUsed 34 = .ok (.invokevirtual 134, 3) := by decide +kernel
theorem dX11_isUsed_37 : decode cX11_isUsed 37 = .ok (.ifCond .le 7, 3) := by decide +kernel
theorem dX11_isUsed_40 : decode cX11_isUsed 40 = .ok (.iconst 1, 1) := by decide +kernel
theorem dX11_isUsed_41 : decode cX11_isUsed 41 = .ok (.goto 4, 3) := by decide +kernel
theorem dX11_isUsed_44 : decode cX11_isUsed 44 = .ok (.iconst 0, 1) := by decide +kernel
theorem dX11_isUsed_45 : decode cX11_isUsed 45 = .ok (.ireturn, 1) := by decide +kernel
theorem dX11_isUsed_46 : decode cX11_isUsed 46 = .ok (.aload_n 0, 1) := by decide +kernel
theorem dX11_isUsed_47 : decode cX11_isUsed 47 = .ok (.iload_n 1, 1) := by decide +kernel
theorem dX11_isUsed_48 : decode cX11_isUsed 48 = .ok (.invokevirtual 290, 3) := by decide +kernel
theorem dX11_isUsed_51 : decode cX11_isUsed 51 = .ok (.ireturn, 1) := by decide +kernel
theorem dX11_isRedundant_0 : decode cX11_isRedundant 0 = .ok (.aload_n 0, 1) := by decide +kernel
theorem dX11_isRedundant_1 : decode cX11_isRedundant 1 = .ok (.iconst 0, 1) := by decide +kernel
theorem dX11_isRedundant_2 : decode cX11_isRedundant 2 = .ok (.putfield 104, 3) := by decide +kernel
theorem dX11_isRedundant_5 : decode cX11_isRedundant 5 = .ok (.aload_n 0, 1) := by decide +kernel
theorem dX11_isRedundant_6 : decode cX11_isRedundant 6 = .ok (.iload_n 1, 1) := by decide +kernel
theorem dX11_isRedundant_7 : decode cX11_isRedundant 7 = .ok (.invokevirtual 137, 3) := by decide +kernel
theorem dX11_isRedundant_10 : decode cX11_isRedundant 10 = .ok (.ifCond .eq 10, 3) := by decide +kernel
theorem dX11_isRedundant_13 : decode cX11_isRedundant 13 = .ok (.aload_n 0, 1) := by decide +kernel
theorem dX11_isRedundant_14 : decode cX11_isRedundant 14 = .ok (.invokevirtual 278, 3) := by decide +kernel
theorem dX11_isRedundant_17 : decode cX11_isRedundant 17 = .ok (.ifCond .ne 29, 3) := by decide +kernel
theorem dX11_isRedundant_20 : decode cX11_isRedundant 20 = .ok (.aload_n 0, 1) := by decide +kernel
theorem dX11_isRedundant_21 : decode cX11_isRedundant 21 = .ok (.aload_n 0, 1) := by decide +kernel
theorem dX11_isRedundant_22 : decode cX11_isRedundant 22 = .ok (.iload_n 1, 1) := by decide +kernel
theorem dX11_isRedundant_23 : decode cX11_isRedundant 23 = .ok (.invokevirtual 137, 3) := by decide +kernel
theorem dX11_isRedundant_26 : decode cX11_isRedundant 26 = .ok (.ifCond .eq 7, 3) := by decide +kernel
theorem dX11_isRedundant_29 : decode cX11_isRedundant 29 = .ok (.iconst 2, 1) := by decide +kernel
theorem dX11_isRedundant_30 : decode cX11_isRedundant 30 = .ok (.goto 4, 3) := by decide +kernel
theorem dX11_isRedundant_33 : decode cX11_isRedundant 33 = .ok (.iconst 1, 1) := by decide +kernel
theorem dX11_isRedundant_34 : decode cX11_isRedundant 34 = .ok (.invokevirtual 134, 3) := by decide +kernel
theorem dX11_isRedundant_37 : decode cX11_isRedundant 37 = .ok (.ifCond .le 7, 3) := by decide +kernel
theorem dX11_isRedundant_40 : decode cX11_isRedundant 40 = .ok (.iconst 1, 1) := by decide +kernel
theorem dX11_isRedundant_41 : decode cX11_isRedundant 41 = .ok (.goto 4, 3) := by decide +kernel
theorem dX11_isRedundant_44 : decode cX11_isRedundant 44 = .ok (.iconst 0, 1) := by decide +kernel
theorem dX11_isRedundant_45 : decode cX11_isRedundant 45 = .ok (.ireturn, 1) := by decide +kernel
theorem dX11_isRedundant_46 : decode cX11_isRedundant 46 = .ok (.aload_n 0, 1) := by decide +kernel
theorem dX11_isRedundant_47 : decode cX11_isRedundant 47 = .ok (.getfield 250, 3) := by decide +kernel
theorem dX11_isRedundant_50 : decode cX11_isRedundant 50 = .ok (.istore_n 2, 1) := by decide +kernel
theorem dX11_isRedundant_51 : decode cX11_isRedundant 51 = .ok (.aload_n 0, 1) := by decide +kernel
theorem dX11_isRedundant_52 : decode cX11_isRedundant 52 = .ok (.iconst 1, 1) := by decide +kernel
theorem dX11_isRedundant_53 : decode cX11_isRedundant 53 = .ok (.aload_n 0, 1) := by decide +kernel
theorem dX11_isRedundant_54 : decode cX11_isRedundant 54 = .ok (.getfield 121, 3) := by decide +kernel
theorem dX11_isRedundant_57 : decode cX11_isRedundant 57 = .ok (.ishl, 1) := by decide +kernel
theorem dX11_isRedundant_58 : decode cX11_isRedundant 58 = .ok (.iconst 1, 1) := by decide +kernel
theorem dX11_isRedundant_59 : decode cX11_isRedundant 59 = .ok (.isub, 1) := by decide +kernel
theorem dX11_isRedundant_60 : decode cX11_isRedundant 60 = .ok (.iconst 1, 1) := by decide +kernel
theorem dX11_isRedundant_61 : decode cX11_isRedundant 61 = .ok (.iload_n 1, 1) := by decide +kernel
theorem dX11_isRedundant_62 : decode cX11_isRedundant 62 = .ok (.ishl, 1) := by decide +kernel
theorem dX11_isRedundant_63 : decode cX11_isRedundant 63 = .ok (.isub, 1) := by decide +kernel
theorem dX11_isRedundant_64 : decode cX11_isRedundant 64 = .ok (.invokevirtual 275, 3) := by decide +kernel
theorem dX11_isRedundant_67 : decode cX11_isRedundant 67 = .ok (.pop, 1) := by decide +kernel
theorem dX11_isRedundant_68 : decode cX11_isRedundant 68 = .ok (.aload_n 0, 1) := by decide +kernel
theorem dX11_isRedundant_69 : decode cX11_isRedundant 69 = .ok (.getfield 250, 3) := by decide +kernel
theorem dX11_isRedundant_72 : decode cX11_isRedundant 72 = .ok (.iload_n 2, 1) := by decide +kernel
theorem dX11_isRedundant_73 : decode cX11_isRedundant 73 = .ok (.if_icmp .ne 7, 3) := by decide +kernel
theorem dX11_isRedundant_76 : decode cX11_isRedundant 76 = .ok (.iconst 1, 1) := by decide +kernel
theorem dX11_isRedundant_77 : decode cX11_isRedundant 77 = .ok (.goto 4, 3) := by decide +kernel
theorem dX11_isRedundant_80 : decode cX11_isRedundant 80 = .ok (.iconst 0, 1) := by decide +kernel
theorem dX11_isRedundant_81 : decode cX11_isRedundant 81 = .ok (.ireturn, 1) := by decide +kernel
theorem dX11_minimalContexts_0 : decode cX11_minimalContexts 0 = .ok (.aload_n 0, 1) := by decide +kernel
theorem dX11_minimalContexts_1 : decode cX11_minimalContexts 1 = .ok (.iconst 0, 1) := by decide +kernel
theorem dX11_minimalContexts_2 : decode cX11_minimalContexts 2 = .ok (.putfield 104, 3) := by decide +kernel
theorem dX11_minimalContexts_5 : decode cX11_minimalContexts 5 = .ok (.aload_n 0, 1) := by decide +kernel
theorem dX11_minimalContexts_6 : decode cX11_minimalContexts 6 = .ok (.invokevirtual 278, 3) := by decide +kernel
theorem dX11_minimalContexts_9 : decode cX11_minimalContexts 9 = .ok (.ifCond .ne 9, 3) := by decide +kernel
theorem dX11_minimalContexts_12 : decode cX11_minimalContexts 12 = .ok (.aload_n 0, 1) := by decide +kernel
theorem dX11_minimalContexts_13 : decode cX11_minimalContexts 13 = .ok (.iconst 1, 1) := by decide +kernel
theorem dX11_minimalContexts_14 : decode cX11_minimalContexts 14 = .ok (.invokevirtual 134, 3) := by decide +kernel
theorem dX11_minimalContexts_17 : decode cX11_minimalContexts 17 = .ok (.ireturn, 1) := by decide +kernel
theorem dX11_minimalContexts_18 : decode cX11_minimalContexts 18 = .ok (.aload_n 0, 1) := by decide +kernel
theorem dX11_minimalContexts_19 : decode cX11_minimalContexts 19 = .ok (.getfield 250, 3) := by decide +kernel
theorem dX11_minimalContexts_22 : decode cX11_minimalContexts 22 = .ok (.istore_n 1, 1) := by decide +kernel
theorem dX11_minimalContexts_23 : decode cX11_minimalContexts 23 = .ok (.iconst 1, 1) := by decide +kernel
theorem dX11_minimalContexts_24 : decode cX11_minimalContexts 24 = .ok (.aload_n 0, 1) := by decide +kernel
theorem dX11_minimalContexts_25 : decode cX11_minimalContexts 25 = .ok (.getfield 121, 3) := by decide +kernel
theorem dX11_minimalContexts_28 : decode cX11_minimalContexts 28 = .ok (.ishl, 1) := by decide +kernel
theorem dX11_minimalContexts_29 : decode cX11_minimalContexts 29 = .ok (.iconst 1, 1) := by decide +kernel
theorem dX11_minimalContexts_30 : decode cX11_minimalContexts 30 = .ok (.isub, 1) := by decide +kernel
theorem dX11_minimalContexts_31 : decode cX11_minimalContexts 31 = .ok (.istore_n 2, 1) := by decide +kernel
theorem dX11_minimalContexts_32 : decode cX11_minimalContexts 32 = .ok (.iload_n 2, 1) := by decide +kernel
theorem dX11_minimalContexts_33 : decode cX11_minimalContexts 33 = .ok (.iconst 1, 1) := by decide +kernel
theorem dX11_minimalContexts_34 : decode cX11_minimalContexts 34 = .ok (.isub, 1) := by decide +kernel
theorem dX11_minimalContexts_35 : decode cX11_minimalContexts 35 = .ok (.istore_n 3, 1) := by decide +kernel
theorem dX11_minimalContexts_36 : decode cX11_minimalContexts 36 = .ok (.iload_n 3, 1) := by decide +kernel
theorem dX11_minimalContexts_37 : decode cX11_minimalContexts 37 = .ok (.ifCond .lt 40, 3) := by decide +kernel
theorem dX11_minimalContexts_40 : decode cX11_minimalContexts 40 = .ok (.iload_n 3, 1) := by decide +kernel
theorem dX11_minimalContexts_41 : decode cX11_minimalContexts 41 = .ok (.invokestatic 293, 3) := by decide +kernel
theorem dX11_minimalContexts_44 : decode cX11_minimalContexts 44 = .ok (.iload_n 2, 1) := by decide +kernel
theorem dX11_minimalContexts_45 : decode cX11_minimalContexts 45 = .ok (.invokestatic 293, 3) := by decide +kernel
theorem dX11_minimalContexts_48 : decode cX11_minimalContexts 48 = .ok (.if_icmp .gt 23, 3) := by decide +kernel
theorem dX11_minimalContexts_51 : decode cX11_minimalContexts 51 = .ok (.aload_n 0, 1) := by decide +kernel
theorem dX11_minimalContexts_52 : decode cX11_minimalContexts 52 = .ok (.iload_n 3, 1) := by decide +kernel
theorem dX11_minimalContexts_53 : decode cX11_minimalContexts 53 = .ok (.invokevirtual 275, 3) := by decide +kernel
theorem dX11_minimalContexts_56 : decode cX11_minimalContexts 56 = .ok (.pop, 1) := by decide +kernel
theorem dX11_minimalContexts_57 : decode cX11_minimalContexts 57 = .ok (.aload_n 0, 1) := by decide +kernel
theorem dX11_minimalContexts_58 : decode cX11_minimalContexts 58 = .ok (.getfield 250, 3) := by decide +kernel
theorem dX11_minimalContexts_61 : decode cX11_minimalContexts 61 = .ok (.iload_n 1, 1) := by decide +kernel
theorem dX11_minimalContexts_62 : decode cX11_minimalContexts 62 = .ok (.if_icmp .ne 7, 3) := by decide +kernel
theorem dX11_minimalContexts_65 : decode cX11_minimalContexts 65 = .ok (.iload_n 3, 1) := by decide +kernel
theorem dX11_minimalContexts_66 : decode cX11_minimalContexts 66 = .ok (.goto 4, 3) := by decide +kernel
theorem dX11_minimalContexts_69 : decode cX11_minimalContexts 69 = .ok (.iload_n 2, 1) := by decide +kernel
theorem dX11_minimalContexts_70 : decode cX11_minimalContexts 70 = .ok (.istore_n 2, 1) := by decide +kernel
theorem dX11_minimalContexts_71 : decode cX11_minimalContexts 71 = .ok (.iinc 3 (-1), 3) := by decide +kernel
theorem dX11_minimalContexts_74 : decode cX11_minimalContexts 74 = .ok (.goto (-38), 3) := by decide +kernel
theorem dX11_minimalContexts_77 : decode cX11_minimalContexts 77 = .ok (.iload_n 2, 1) := by decide +kernel
theorem dX11_minimalContexts_78 : decode cX11_minimalContexts 78 = .ok (.ireturn, 1) := by decide +kernel
theorem dX11_findFollows_0 : decode cX11_findFollows 0 = .ok (.iconst 0, 1) := by decide +kernel
theorem dX11_findFollows_1 : decode cX11_findFollows 1 = .ok (.istore_n 1, 1) := by decide +kernel
theorem dX11_findFollows_2 : decode cX11_findFollows 2 = .ok (.iload_n 1, 1) := by decide +kernel
theorem dX11_findFollows_3 : decode cX11_findFollows 3 = .ok (.sipush 29524, 3) := by decide +kernel
theorem dX11_findFollows_6 : decode cX11_findFollows 6 = .ok (.if_icmp .ge 16, 3) := by decide +kernel
theorem dX11_findFollows_9 : decode cX11_findFollows 9 = .ok (.aload_n 0, 1) := by decide +kernel
theorem dX11_findFollows_10 : decode cX11_findFollows 10 = .ok (.getfield 52, 3) := by decide +kernel
theorem dX11_findFollows_13 : decode cX11_findFollows 13 = .ok (.iload_n 1, 1) := by decide +kernel
theorem dX11_findFollows_14 : decode cX11_findFollows 14 = .ok (.iconst 0, 1) := by decide +kernel
theorem dX11_findFollows_15 : decode cX11_findFollows 15 = .ok (.iastore, 1) := by decide +kernel
theorem dX11_findFollows_16 : decode cX11_findFollows 16 = .ok (.iinc 1 1, 3) := by decide +kernel
theorem dX11_findFollows_19 : decode cX11_findFollows 19 = .ok (.goto (-17), 3) := by decide +kernel
theorem dX11_findFollows_22 : decode cX11_findFollows 22 = .ok (.iconst 0, 1) := by decide +kernel
theorem dX11_findFollows_23 : decode cX11_findFollows 23 = .ok (.istore_n 1, 1) := by decide +kernel
theorem dX11_findFollows_24 : decode cX11_findFollows 24 = .ok (.iload_n 1, 1) := by decide +kernel
theorem dX11_findFollows_25 : decode cX11_findFollows 25 = .ok (.iconst 5, 1) := by decide +kernel
theorem dX11_findFollows_26 : decode cX11_findFollows 26 = .ok (.if_icmp .ge 16, 3) := by decide +kernel
theorem dX11_findFollows_29 : decode cX11_findFollows 29 = .ok (.aload_n 0, 1) := by decide +kernel
theorem dX11_findFollows_30 : decode cX11_findFollows 30 = .ok (.getfield 55, 3) := by decide +kernel
theorem dX11_findFollows_33 : decode cX11_findFollows 33 = .ok (.iload_n 1, 1) := by decide +kernel
theorem dX11_findFollows_34 : decode cX11_findFollows 34 = .ok (.iconst 0, 1) := by decide +kernel
theorem dX11_findFollows_35 : decode cX11_findFollows 35 = .ok (.iastore, 1) := by decide +kernel
theorem dX11_findFollows_36 : decode cX11_findFollows 36 = .ok (.iinc 1 1, 3) := by decide +kernel
theorem dX11_findFollows_39 : decode cX11_findFollows 39 = .ok (.goto (-15), 3) := by decide +kernel
theorem dX11_findFollows_42 : decode cX11_findFollows 42 = .ok (.iconst 0, 1) := by decide +kernel
theorem dX11_findFollows_43 : decode cX11_findFollows 43 = .ok (.istore_n 1, 1) := by decide +kernel
theorem dX11_findFollows_44 : decode cX11_findFollows 44 = .ok (.iload_n 1, 1) := by decide +kernel
theorem dX11_findFollows_45 : decode cX11_findFollows 45 = .ok (.sipush 29524, 3) := by decide +kernel
theorem dX11_findFollows_48 : decode cX11_findFollows 48 = .ok (.if_icmp .ge 120, 3) := by decide +kernel
theorem dX11_findFollows_51 : decode cX11_findFollows 51 = .ok (.iconst 0, 1) := by decide +kernel
theorem dX11_findFollows_52 : decode cX11_findFollows 52 = .ok (.istore_n 2, 1) := by decide +kernel
theorem dX11_findFollows_53 : decode cX11_findFollows 53 = .ok (.iload_n 2, 1) := by decide +kernel
theorem dX11_findFollows_54 : decode cX11_findFollows 54 = .ok (.aload_n 0, 1) := by decide +kernel
theorem dX11_findFollows_55 : decode cX11_findFollows 55 = .ok (.getfield 121, 3) := by decide +kernel
theorem dX11_findFollows_58 : decode cX11_findFollows 58 = .ok (.if_icmp .ge 104, 3) := by decide +kernel
theorem dX11_findFollows_61 : decode cX11_findFollows 61 = .ok (.aload_n 0, 1) := by decide +kernel
theorem dX11_findFollows_62 : decode cX11_findFollows 62 = .ok (.getfield 49, 3) := by decide +kernel
theorem dX11_findFollows_65 : decode cX11_findFollows 65 = .ok (.iload_n 1, 1) := by decide +kernel
theorem dX11_findFollows_66 : decode cX11_findFollows 66 = .ok (.baload, 1) := by decide +kernel
theorem dX11_findFollows_67 : decode cX11_findFollows 67 = .ok (.ifCond .eq 95, 3) := by decide +kernel
theorem dX11_findFollows_70 : decode cX11_findFollows 70 = .ok (.aload_n 0, 1) := by decide +kernel
theorem dX11_findFollows_71 : decode cX11_findFollows 71 = .ok (.iload_n 1, 1) := by decide +kernel
theorem dX11_findFollows_72 : decode cX11_findFollows 72 = .ok (.iload_n 2, 1) := by decide +kernel
theorem dX11_findFollows_73 : decode cX11_findFollows 73 = .ok (.invokevirtual 260, 3) := by decide +kernel
theorem dX11_findFollows_76 : decode cX11_findFollows 76 = .ok (.iconst 0, 1) := by decide +kernel
theorem dX11_findFollows_77 : decode cX11_findFollows 77 = .ok (.istore_n 3, 1) := by decide +kernel
theorem dX11_findFollows_78 : decode cX11_findFollows 78 = .ok (.iload_n 3, 1) := by decide +kernel
theorem dX11_findFollows_79 : decode cX11_findFollows 79 = .ok (.bipush 100, 2) := by decide +kernel
theorem dX11_findFollows_81 : decode cX11_findFollows 81 = .ok (.if_icmp .ge 75, 3) := by decide +kernel
theorem dX11_findFollows_84 : decode cX11_findFollows 84 = .ok (.aload_n 0, 1) := by decide +kernel
theorem dX11_findFollows_85 : decode cX11_findFollows 85 = .ok (.iload_n 2, 1) := by decide +kernel
theorem dX11_findFollows_86 : decode cX11_findFollows 86 = .ok (.invokevirtual 263, 3) := by decide +kernel
theorem dX11_findFollows_89 : decode cX11_findFollows 89 = .ok (.ifCond .eq 67, 3) := by decide +kernel
theorem dX11_findFollows_92 : decode cX11_findFollows 92 = .ok (.aload_n 0, 1) := by decide +kernel
theorem dX11_findFollows_93 : decode cX11_findFollows 93 = .ok (.iload_n 3, 1) := by decide +kernel
theorem dX11_findFollows_94 : decode cX11_findFollows 94 = .ok (.invokevirtual 266, 3) := by decide +kernel
theorem dX11_findFollows_97 : decode cX11_findFollows 97 = .ok (.ifCond .eq 53, 3) := by decide +kernel
theorem dX11_findFollows_100 : decode cX11_findFollows 100 = .ok (.aload_n 0, 1) := by decide +kernel
theorem dX11_findFollows_101 : decode cX11_findFollows 101 = .ok (.iload_n 3, 1) := by decide +kernel
theorem dX11_findFollows_102 : decode cX11_findFollows 102 = .ok (.bipush 10, 2) := by decide +kernel
theorem dX11_findFollows_104 : decode cX11_findFollows 104 = .ok (.idiv, 1) := by decide +kernel
theorem dX11_findFollows_105 : decode cX11_findFollows 105 = .ok (.iload_n 3, 1) := by decide +kernel
theorem dX11_findFollows_106 : decode cX11_findFollows 106 = .ok (.bipush 10, 2) := by decide +kernel
theorem dX11_findFollows_108 : decode cX11_findFollows 108 = .ok (.irem, 1) := by decide +kernel
theorem dX11_findFollows_109 : decode cX11_findFollows 109 = .ok (.invokevirtual 269, 3) := by decide +kernel
theorem dX11_findFollows_112 : decode cX11_findFollows 112 = .ok (.ifCond .eq 38, 3) := by decide +kernel
theorem dX11_findFollows_115 : decode cX11_findFollows 115 = .ok (.aload_n 0, 1) := by decide +kernel
theorem dX11_findFollows_116 : decode cX11_findFollows 116 = .ok (.getfield 52, 3) := by decide +kernel
theorem dX11_findFollows_119 : decode cX11_findFollows 119 = .ok (.aload_n 0, 1) := by decide +kernel
theorem dX11_findFollows_120 : decode cX11_findFollows 120 = .ok (.iload_n 2, 1) := by decide +kernel
theorem dX11_findFollows_121 : decode cX11_findFollows 121 = .ok (.iload_n 3, 1) := by decide +kernel
theorem dX11_findFollows_122 : decode cX11_findFollows 122 = .ok (.bipush 10, 2) := by decide +kernel
theorem dX11_findFollows_124 : decode cX11_findFollows 124 = .ok (.idiv, 1) := by decide +kernel
theorem dX11_findFollows_125 : decode cX11_findFollows 125 = .ok (.iload_n 3, 1) := by decide +kernel
theorem dX11_findFollows_126 : decode cX11_findFollows 126 = .ok (.bipush 10, 2) := by decide +kernel
theorem dX11_findFollows_128 : decode cX11_findFollows 128 = .ok (.irem, 1) := by decide +kernel
theorem dX11_findFollows_129 : decode cX11_findFollows 129 = .ok (.invokevirtual 272, 3) := by decide +kernel
theorem dX11_findFollows_132 : decode cX11_findFollows 132 = .ok (.dup2, 1) := by decide +kernel
theorem dX11_findFollows_133 : decode cX11_findFollows 133 = .ok (.iaload, 1) := by decide +kernel
theorem dX11_findFollows_134 : decode cX11_findFollows 134 = .ok (.iconst 1, 1) := by decide +kernel
theorem dX11_findFollows_135 : decode cX11_findFollows 135 = .ok (.iload_n 2, 1) := by decide +kernel
theorem dX11_findFollows_136 : decode cX11_findFollows 136 = .ok (.ishl, 1) := by decide +kernel
theorem dX11_findFollows_137 : decode cX11_findFollows 137 = .ok (.ior, 1) := by decide +kernel
theorem dX11_findFollows_138 : decode cX11_findFollows 138 = .ok (.iastore, 1) := by decide +kernel
theorem dX11_findFollows_139 : decode cX11_findFollows 139 = .ok (.aload_n 0, 1) := by decide +kernel
theorem dX11_findFollows_140 : decode cX11_findFollows 140 = .ok (.aload_n 0, 1) := by decide +kernel
theorem dX11_findFollows_141 : decode cX11_findFollows 141 = .ok (.getfield 52, 3) := by decide +kernel
theorem dX11_findFollows_144 : decode cX11_findFollows 144 = .ok (.iload_n 1, 1) := by decide +kernel
theorem dX11_findFollows_145 : decode cX11_findFollows 145 = .ok (.iaload, 1) := by decide +kernel
theorem dX11_findFollows_146 : decode cX11_findFollows 146 = .ok (.iload_n 2, 1) := by decide +kernel
theorem dX11_findFollows_147 : decode cX11_findFollows 147 = .ok (.invokevirtual 298, 3) := by decide +kernel
theorem dX11_findFollows_150 : decode cX11_findFollows 150 = .ok (.iinc 3 1, 3) := by decide +kernel
theorem dX11_findFollows_153 : decode cX11_findFollows 153 = .ok (.goto (-75), 3) := by decide +kernel
theorem dX11_findFollows_156 : decode cX11_findFollows 156 = .ok (.iinc 2 1, 3) := by decide +kernel
theorem dX11_findFollows_159 : decode cX11_findFollows 159 = .ok (.goto (-106), 3) := by decide +kernel
theorem dX11_findFollows_162 : decode cX11_findFollows 162 = .ok (.iinc 1 1, 3) := by decide +kernel
theorem dX11_findFollows_165 : decode cX11_findFollows 165 = .ok (.goto (-121), 3) := by decide +kernel
theorem dX11_findFollows_168 : decode cX11_findFollows 168 = .ok (.return_, 1) := by decide +kernel
theorem dX11_link_0 : decode cX11_link 0 = .ok (.iconst 0, 1) := by decide +kernel
theorem dX11_link_1 : decode cX11_link 1 = .ok (.istore_n 3, 1) := by decide +kernel
theorem dX11_link_2 : decode cX11_link 2 = .ok (.iload_n 3, 1) := by decide +kernel
theorem dX11_link_3 : decode cX11_link 3 = .ok (.iconst 5, 1) := by decide +kernel
theorem dX11_link_4 : decode cX11_link 4 = .ok (.if_icmp .ge 34, 3) := by decide +kernel
theorem dX11_link_7 : decode cX11_link 7 = .ok (.aload_n 0, 1) := by decide +kernel
theorem dX11_link_8 : decode cX11_link 8 = .ok (.getfield 55, 3) := by decide +kernel
theorem dX11_link_11 : decode cX11_link 11 = .ok (.iload_n 3, 1) := by decide +kernel
theorem dX11_link_12 : decode cX11_link 12 = .ok (.dup2, 1) := by decide +kernel
theorem dX11_link_13 : decode cX11_link 13 = .ok (.iaload, 1) := by decide +kernel
theorem dX11_link_14 : decode cX11_link 14 = .ok (.iload_n 1, 1) := by decide +kernel
theorem dX11_link_15 : decode cX11_link 15 = .ok (.iload_n 3, 1) := by decide +kernel
theorem dX11_link_16 : decode cX11_link 16 = .ok (.ishr, 1) := by decide +kernel
theorem dX11_link_17 : decode cX11_link 17 = .ok (.iconst 1, 1) := by decide +kernel
theorem dX11_link_18 : decode cX11_link 18 = .ok (.iand, 1) := by decide +kernel
theorem dX11_link_19 : decode cX11_link 19 = .ok (.iconst 1, 1) := by decide +kernel
theorem dX11_link_20 : decode cX11_link 20 = .ok (.if_icmp .ne 9, 3) := by decide +kernel
theorem dX11_link_23 : decode cX11_link 23 = .ok (.iconst 1, 1) := by decide +kernel
theorem dX11_link_24 : decode cX11_link 24 = .ok (.iload_n 2, 1) := by decide +kernel
theorem dX11_link_25 : decode cX11_link 25 = .ok (.ishl, 1) := by decide +kernel
theorem dX11_link_26 : decode cX11_link 26 = .ok (.goto 4, 3) := by decide +kernel
theorem dX11_link_29 : decode cX11_link 29 = .ok (.iconst 0, 1) := by decide +kernel
theorem dX11_link_30 : decode cX11_link 30 = .ok (.ior, 1) := by decide +kernel
theorem dX11_link_31 : decode cX11_link 31 = .ok (.iastore, 1) := by decide +kernel
theorem dX11_link_32 : decode cX11_link 32 = .ok (.iinc 3 1, 3) := by decide +kernel
theorem dX11_link_35 : decode cX11_link 35 = .ok (.goto (-33), 3) := by decide +kernel
theorem dX11_link_38 : decode cX11_link 38 = .ok (.return_, 1) := by decide +kernel
theorem dX11_canFollow_0 : decode cX11_canFollow 0 = .ok (.aload_n 0, 1) := by decide +kernel
theorem dX11_canFollow_1 : decode cX11_canFollow 1 = .ok (.iconst 0, 1) := by decide +kernel
theorem dX11_canFollow_2 : decode cX11_canFollow 2 = .ok (.putfield 104, 3) := by decide +kernel
theorem dX11_canFollow_5 : decode cX11_canFollow 5 = .ok (.aload_n 0, 1) := by decide +kernel
theorem dX11_canFollow_6 : decode cX11_canFollow 6 = .ok (.iload_n 1, 1) := by decide +kernel
theorem dX11_canFollow_7 : decode cX11_canFollow 7 = .ok (.invokevirtual 137, 3) := by decide +kernel
theorem dX11_canFollow_10 : decode cX11_canFollow 10 = .ok (.ifCond .eq 11, 3) := by decide +kernel
theorem dX11_canFollow_13 : decode cX11_canFollow 13 = .ok (.aload_n 0, 1) := by decide +kernel
theorem dX11_canFollow_14 : decode cX11_canFollow 14 = .ok (.iload_n 2, 1) := by decide +kernel
theorem dX11_canFollow_15 : decode cX11_canFollow 15 = .ok (.invokevirtual 137, 3) := by decide +kernel
theorem dX11_canFollow_18 : decode cX11_canFollow 18 = .ok (.ifCond .ne 17, 3) := by decide +kernel
theorem dX11_canFollow_21 : decode cX11_canFollow 21 = .ok (.aload_n 0, 1) := by decide +kernel
theorem dX11_canFollow_22 : decode cX11_canFollow 22 = .ok (.iconst 1, 1) := by decide +kernel
theorem dX11_canFollow_23 : decode cX11_canFollow 23 = .ok (.invokevirtual 134, 3) := by decide +kernel
theorem dX11_canFollow_26 : decode cX11_canFollow 26 = .ok (.ifCond .le 7, 3) := by decide +kernel
theorem dX11_canFollow_29 : decode cX11_canFollow 29 = .ok (.iconst 1, 1) := by decide +kernel
theorem dX11_canFollow_30 : decode cX11_canFollow 30 = .ok (.goto 4, 3) := by decide +kernel
theorem dX11_canFollow_33 : decode cX11_canFollow 33 = .ok (.iconst 0, 1) := by decide +kernel
theorem dX11_canFollow_34 : decode cX11_canFollow 34 = .ok (.ireturn, 1) := by decide +kernel
theorem dX11_canFollow_35 : decode cX11_canFollow 35 = .ok (.aload_n 0, 1) := by decide +kernel
theorem dX11_canFollow_36 : decode cX11_canFollow 36 = .ok (.invokevirtual 278, 3) := by decide +kernel
theorem dX11_canFollow_39 : decode cX11_canFollow 39 = .ok (.ifCond .ne 17, 3) := by decide +kernel
theorem dX11_canFollow_42 : decode cX11_canFollow 42 = .ok (.aload_n 0, 1) := by decide +kernel
theorem dX11_canFollow_43 : decode cX11_canFollow 43 = .ok (.iconst 2, 1) := by decide +kernel
theorem dX11_canFollow_44 : decode cX11_canFollow 44 = .ok (.invokevirtual 134, 3) := by decide +kernel
theorem dX11_canFollow_47 : decode cX11_canFollow 47 = .ok (.ifCond .le 7, 3) := by decide +kernel
theorem dX11_canFollow_50 : decode cX11_canFollow 50 = .ok (.iconst 1, 1) := by decide +kernel
theorem dX11_canFollow_51 : decode cX11_canFollow 51 = .ok (.goto 4, 3) := by decide +kernel
theorem dX11_canFollow_54 : decode cX11_canFollow 54 = .ok (.iconst 0, 1) := by decide +kernel
theorem dX11_canFollow_55 : decode cX11_canFollow 55 = .ok (.ireturn, 1) := by decide +kernel
theorem dX11_canFollow_56 : decode cX11_canFollow 56 = .ok (.aload_n 0, 1) := by decide +kernel
theorem dX11_canFollow_57 : decode cX11_canFollow 57 = .ok (.invokevirtual 301, 3) := by decide +kernel
theorem dX11_canFollow_60 : decode cX11_canFollow 60 = .ok (.aload_n 0, 1) := by decide +kernel
theorem dX11_canFollow_61 : decode cX11_canFollow 61 = .ok (.getfield 55, 3) := by decide +kernel
theorem dX11_canFollow_64 : decode cX11_canFollow 64 = .ok (.iload_n 1, 1) := by decide +kernel
theorem dX11_canFollow_65 : decode cX11_canFollow 65 = .ok (.iaload, 1) := by decide +kernel
theorem dX11_canFollow_66 : decode cX11_canFollow 66 = .ok (.iload_n 2, 1) := by decide +kernel
theorem dX11_canFollow_67 : decode cX11_canFollow 67 = .ok (.ishr, 1) := by decide +kernel
theorem dX11_canFollow_68 : decode cX11_canFollow 68 = .ok (.iconst 1, 1) := by decide +kernel
theorem dX11_canFollow_69 : decode cX11_canFollow 69 = .ok (.iand, 1) := by decide +kernel
theorem dX11_canFollow_70 : decode cX11_canFollow 70 = .ok (.iconst 1, 1) := by decide +kernel
theorem dX11_canFollow_71 : decode cX11_canFollow 71 = .ok (.if_icmp .ne 7, 3) := by decide +kernel
theorem dX11_canFollow_74 : decode cX11_canFollow 74 = .ok (.iconst 1, 1) := by decide +kernel
theorem dX11_canFollow_75 : decode cX11_canFollow 75 = .ok (.goto 4, 3) := by decide +kernel
theorem dX11_canFollow_78 : decode cX11_canFollow 78 = .ok (.iconst 0, 1) := by decide +kernel
theorem dX11_canFollow_79 : decode cX11_canFollow 79 = .ok (.ireturn, 1) := by decide +kernel
theorem dX11_shortestLoop_0 : decode cX11_shortestLoop 0 = .ok (.aload_n 0, 1) := by decide +kernel
theorem dX11_shortestLoop_1 : decode cX11_shortestLoop 1 = .ok (.iconst 0, 1) := by decide +kernel
theorem dX11_shortestLoop_2 : decode cX11_shortestLoop 2 = .ok (.putfield 104, 3) := by decide +kernel
theorem dX11_shortestLoop_5 : decode cX11_shortestLoop 5 = .ok (.aload_n 0, 1) := by decide +kernel
theorem dX11_shortestLoop_6 : decode cX11_shortestLoop 6 = .ok (.iload_n 1, 1) := by decide +kernel
theorem dX11_shortestLoop_7 : decode cX11_shortestLoop 7 = .ok (.invokevirtual 137, 3) := by decide +kernel
theorem dX11_shortestLoop_10 : decode cX11_shortestLoop 10 = .ok (.ifCond .ne 9, 3) := by decide +kernel
theorem dX11_shortestLoop_13 : decode cX11_shortestLoop 13 = .ok (.aload_n 0, 1) := by decide +kernel
theorem dX11_shortestLoop_14 : decode cX11_shortestLoop 14 = .ok (.iconst 1, 1) := by decide +kernel
theorem dX11_shortestLoop_15 : decode cX11_shortestLoop 15 = .ok (.invokevirtual 134, 3) := by decide +kernel
theorem dX11_shortestLoop_18 : decode cX11_shortestLoop 18 = .ok (.ireturn, 1) := by decide +kernel
theorem dX11_shortestLoop_19 : decode cX11_shortestLoop 19 = .ok (.aload_n 0, 1) := by decide +kernel
theorem dX11_shortestLoop_20 : decode cX11_shortestLoop 20 = .ok (.invokevirtual 278, 3) := by decide +kernel
theorem dX11_shortestLoop_23 : decode cX11_shortestLoop 23 = .ok (.ifCond .ne 9, 3) := by decide +kernel
theorem dX11_shortestLoop_26 : decode cX11_shortestLoop 26 = .ok (.aload_n 0, 1) := by decide +kernel
theorem dX11_shortestLoop_27 : decode cX11_shortestLoop 27 = .ok (.iconst 2, 1) := by decide +kernel
theorem dX11_shortestLoop_28 : decode cX11_shortestLoop 28 = .ok (.invokevirtual 134, 3) := by decide +kernel
theorem dX11_shortestLoop_31 : decode cX11_shortestLoop 31 = .ok (.ireturn, 1) := by decide +kernel
theorem dX11_shortestLoop_32 : decode cX11_shortestLoop 32 = .ok (.aload_n 0, 1) := by decide +kernel
theorem dX11_shortestLoop_33 : decode cX11_shortestLoop 33 = .ok (.invokevirtual 301, 3) := by decide +kernel
theorem dX11_shortestLoop_36 : decode cX11_shortestLoop 36 = .ok (.iconst 1, 1) := by decide +kernel
theorem dX11_shortestLoop_37 : decode cX11_shortestLoop 37 = .ok (.iload_n 1, 1) := by decide +kernel
theorem dX11_shortestLoop_38 : decode cX11_shortestLoop 38 = .ok (.ishl, 1) := by decide +kernel
theorem dX11_shortestLoop_39 : decode cX11_shortestLoop 39 = .ok (.istore_n 2, 1) := by decide +kernel
theorem dX11_shortestLoop_40 : decode cX11_shortestLoop 40 = .ok (.iconst 1, 1) := by decide +kernel
theorem dX11_shortestLoop_41 : decode cX11_shortestLoop 41 = .ok (.istore_n 3, 1) := by decide +kernel
theorem dX11_shortestLoop_42 : decode cX11_shortestLoop 42 = .ok (.iload_n 3, 1) := by decide +kernel
theorem dX11_shortestLoop_43 : decode cX11_shortestLoop 43 = .ok (.iconst 5, 1) := by decide +kernel
theorem dX11_shortestLoop_44 : decode cX11_shortestLoop 44 = .ok (.if_icmp .gt 68, 3) := by decide +kernel
theorem dX11_shortestLoop_47 : decode cX11_shortestLoop 47 = .ok (.iconst 0, 1) := by decide +kernel
theorem dX11_shortestLoop_48 : decode cX11_shortestLoop 48 = .ok (.istore 4, 2) := by decide +kernel
theorem dX11_shortestLoop_50 : decode cX11_shortestLoop 50 = .ok (.iconst 0, 1) := by decide +kernel
theorem dX11_shortestLoop_51 : decode cX11_shortestLoop 51 = .ok (.istore 5, 2) := by decide +kernel
theorem dX11_shortestLoop_53 : decode cX11_shortestLoop 53 = .ok (.iload 5, 2) := by decide +kernel
theorem dX11_shortestLoop_55 : decode cX11_shortestLoop 55 = .ok (.iconst 5, 1) := by decide +kernel
theorem dX11_shortestLoop_56 : decode cX11_shortestLoop 56 = .ok (.if_icmp .ge 35, 3) := by decide +kernel
theorem dX11_shortestLoop_59 : decode cX11_shortestLoop 59 = .ok (.iload 4, 2) := by decide +kernel
theorem dX11_shortestLoop_61 : decode cX11_shortestLoop 61 = .ok (.iload_n 2, 1) := by decide +kernel
theorem dX11_shortestLoop_62 : decode cX11_shortestLoop 62 = .ok (.iload 5, 2) := by decide +kernel
theorem dX11_shortestLoop_64 : decode cX11_shortestLoop 64 = .ok (.ishr, 1) := by decide +kernel
theorem dX11_shortestLoop_65 : decode cX11_shortestLoop 65 = .ok (.iconst 1, 1) := by decide +kernel
theorem dX11_shortestLoop_66 : decode cX11_shortestLoop 66 = .ok (.iand, 1) := by decide +kernel
theorem dX11_shortestLoop_67 : decode cX11_shortestLoop 67 = .ok (.iconst 1, 1) := by decide +kernel
theorem dX11_shortestLoop_68 : decode cX11_shortestLoop 68 = .ok (.if_icmp .ne 13, 3) := by decide +kernel
theorem dX11_shortestLoop_71 : decode cX11_shortestLoop 71 = .ok (.aload_n 0, 1) := by decide +kernel
theorem dX11_shortestLoop_72 : decode cX11_shortestLoop 72 = .ok (.getfield 55, 3) := by decide +kernel
theorem dX11_shortestLoop_75 : decode cX11_shortestLoop 75 = .ok (.iload 5, 2) := by decide +kernel
theorem dX11_shortestLoop_77 : decode cX11_shortestLoop 77 = .ok (.iaload, 1) := by decide +kernel
theorem dX11_shortestLoop_78 : decode cX11_shortestLoop 78 = .ok (.goto 4, 3) := by decide +kernel
theorem dX11_shortestLoop_81 : decode cX11_shortestLoop 81 = .ok (.iconst 0, 1) := by decide +kernel
theorem dX11_shortestLoop_82 : decode cX11_shortestLoop 82 = .ok (.ior, 1) := by decide +kernel
theorem dX11_shortestLoop_83 : decode cX11_shortestLoop 83 = .ok (.istore 4, 2) := by decide +kernel
theorem dX11_shortestLoop_85 : decode cX11_shortestLoop 85 = .ok (.iinc 5 1, 3) := by decide +kernel
theorem dX11_shortestLoop_88 : decode cX11_shortestLoop 88 = .ok (.goto (-35), 3) := by decide +kernel
theorem dX11_shortestLoop_91 : decode cX11_shortestLoop 91 = .ok (.iload 4, 2) := by decide +kernel
theorem dX11_shortestLoop_93 : decode cX11_shortestLoop 93 = .ok (.iload_n 1, 1) := by decide +kernel
theorem dX11_shortestLoop_94 : decode cX11_shortestLoop 94 = .ok (.ishr, 1) := by decide +kernel
theorem dX11_shortestLoop_95 : decode cX11_shortestLoop 95 = .ok (.iconst 1, 1) := by decide +kernel
theorem dX11_shortestLoop_96 : decode cX11_shortestLoop 96 = .ok (.iand, 1) := by decide +kernel
theorem dX11_shortestLoop_97 : decode cX11_shortestLoop 97 = .ok (.iconst 1, 1) := by decide +kernel
theorem dX11_shortestLoop_98 : decode cX11_shortestLoop 98 = .ok (.if_icmp .ne 5, 3) := by decide +kernel
theorem dX11_shortestLoop_101 : decode cX11_shortestLoop 101 = .ok (.iload_n 3, 1) := by decide +kernel
theorem dX11_shortestLoop_102 : decode cX11_shortestLoop 102 = .ok (.ireturn, 1) := by decide +kernel
theorem dX11_shortestLoop_103 : decode cX11_shortestLoop 103 = .ok (.iload 4, 2) := by decide +kernel
theorem dX11_shortestLoop_105 : decode cX11_shortestLoop 105 = .ok (.istore_n 2, 1) := by decide +kernel
theorem dX11_shortestLoop_106 : decode cX11_shortestLoop 106 = .ok (.iinc 3 1, 3) := by decide +kernel
theorem dX11_shortestLoop_109 : decode cX11_shortestLoop 109 = .ok (.goto (-67), 3) := by decide +kernel
theorem dX11_shortestLoop_112 : decode cX11_shortestLoop 112 = .ok (.aload_n 0, 1) := by decide +kernel
theorem dX11_shortestLoop_113 : decode cX11_shortestLoop 113 = .ok (.iconst 3, 1) := by decide +kernel
theorem dX11_shortestLoop_114 : decode cX11_shortestLoop 114 = .ok (.invokevirtual 134, 3) := by decide +kernel
theorem dX11_shortestLoop_117 : decode cX11_shortestLoop 117 = .ok (.ireturn, 1) := by decide +kernel
theorem dX11_reduces_0 : decode cX11_reduces 0 = .ok (.iload_n 1, 1) := by decide +kernel
theorem dX11_reduces_1 : decode cX11_reduces 1 = .ok (.invokestatic 114, 3) := by decide +kernel
theorem dX11_reduces_4 : decode cX11_reduces 4 = .ok (.istore 5, 2) := by decide +kernel
theorem dX11_reduces_6 : decode cX11_reduces 6 = .ok (.aload_n 0, 1) := by decide +kernel
theorem dX11_reduces_7 : decode cX11_reduces 7 = .ok (.getfield 13, 3) := by decide +kernel
theorem dX11_reduces_10 : decode cX11_reduces 10 = .ok (.iload_n 2, 1) := by decide +kernel
theorem dX11_reduces_11 : decode cX11_reduces 11 = .ok (.iaload, 1) := by decide +kernel
theorem dX11_reduces_12 : decode cX11_reduces 12 = .ok (.invokestatic 114, 3) := by decide +kernel
theorem dX11_reduces_15 : decode cX11_reduces 15 = .ok (.istore 6, 2) := by decide +kernel
theorem dX11_reduces_17 : decode cX11_reduces 17 = .ok (.aload_n 0, 1) := by decide +kernel
theorem dX11_reduces_18 : decode cX11_reduces 18 = .ok (.getfield 16, 3) := by decide +kernel
theorem dX11_reduces_21 : decode cX11_reduces 21 = .ok (.iload_n 2, 1) := by decide +kernel
theorem dX11_reduces_22 : decode cX11_reduces 22 = .ok (.iaload, 1) := by decide +kernel
theorem dX11_reduces_23 : decode cX11_reduces 23 = .ok (.invokestatic 114, 3) := by decide +kernel
theorem dX11_reduces_26 : decode cX11_reduces 26 = .ok (.istore 7, 2) := by decide +kernel
theorem dX11_reduces_28 : decode cX11_reduces 28 = .ok (.iload 4, 2) := by decide +kernel
theorem dX11_reduces_30 : decode cX11_reduces 30 = .ok (.iload 6, 2) := by decide +kernel
theorem dX11_reduces_32 : decode cX11_reduces 32 = .ok (.iadd, 1) := by decide +kernel
theorem dX11_reduces_33 : decode cX11_reduces 33 = .ok (.iload 7, 2) := by decide +kernel
theorem dX11_reduces_35 : decode cX11_reduces 35 = .ok (.iadd, 1) := by decide +kernel
theorem dX11_reduces_36 : decode cX11_reduces 36 = .ok (.istore 8, 2) := by decide +kernel
theorem dX11_reduces_38 : decode cX11_reduces 38 = .ok (.iload 5, 2) := by decide +kernel
theorem dX11_reduces_40 : decode cX11_reduces 40 = .ok (.aload_n 0, 1) := by decide +kernel
theorem dX11_reduces_41 : decode cX11_reduces 41 = .ok (.getfield 29, 3) := by decide +kernel
theorem dX11_reduces_44 : decode cX11_reduces 44 = .ok (.if_icmp .gt 52, 3) := by decide +kernel
theorem dX11_reduces_47 : decode cX11_reduces 47 = .ok (.iload 8, 2) := by decide +kernel
theorem dX11_reduces_49 : decode cX11_reduces 49 = .ok (.iload 5, 2) := by decide +kernel
theorem dX11_reduces_51 : decode cX11_reduces 51 = .ok (.if_icmp .gt 45, 3) := by decide +kernel
theorem dX11_reduces_54 : decode cX11_reduces 54 = .ok (.iload_n 1, 1) := by decide +kernel
theorem dX11_reduces_55 : decode cX11_reduces 55 = .ok (.iload 5, 2) := by decide +kernel
theorem dX11_reduces_57 : decode cX11_reduces 57 = .ok (.iload_n 3, 1) := by decide +kernel
theorem dX11_reduces_58 : decode cX11_reduces 58 = .ok (.iload_n 3, 1) := by decide +kernel
theorem dX11_reduces_59 : decode cX11_reduces 59 = .ok (.iload 6, 2) := by decide +kernel
theorem dX11_reduces_61 : decode cX11_reduces 61 = .ok (.iadd, 1) := by decide +kernel
theorem dX11_reduces_62 : decode cX11_reduces 62 = .ok (.invokestatic 117, 3) := by decide +kernel
theorem dX11_reduces_65 : decode cX11_reduces 65 = .ok (.aload_n 0, 1) := by decide +kernel
theorem dX11_reduces_66 : decode cX11_reduces 66 = .ok (.getfield 13, 3) := by decide +kernel
theorem dX11_reduces_69 : decode cX11_reduces 69 = .ok (.iload_n 2, 1) := by decide +kernel
theorem dX11_reduces_70 : decode cX11_reduces 70 = .ok (.iaload, 1) := by decide +kernel
theorem dX11_reduces_71 : decode cX11_reduces 71 = .ok (.if_icmp .ne 25, 3) := by decide +kernel
theorem dX11_reduces_74 : decode cX11_reduces 74 = .ok (.iload_n 1, 1) := by decide +kernel
theorem dX11_reduces_75 : decode cX11_reduces 75 = .ok (.iload 5, 2) := by decide +kernel
theorem dX11_reduces_77 : decode cX11_reduces 77 = .ok (.iload 4, 2) := by decide +kernel
theorem dX11_reduces_79 : decode cX11_reduces 79 = .ok (.iload 6, 2) := by decide +kernel
theorem dX11_reduces_81 : decode cX11_reduces 81 = .ok (.iadd, 1) := by decide +kernel
theorem dX11_reduces_82 : decode cX11_reduces 82 = .ok (.iload 8, 2) := by decide +kernel
theorem dX11_reduces_84 : decode cX11_reduces 84 = .ok (.invokestatic 117, 3) := by decide +kernel
theorem dX11_reduces_87 : decode cX11_reduces 87 = .ok (.aload_n 0, 1) := by decide +kernel
theorem dX11_reduces_88 : decode cX11_reduces 88 = .ok (.getfield 16, 3) := by decide +kernel
theorem dX11_reduces_91 : decode cX11_reduces 91 = .ok (.iload_n 2, 1) := by decide +kernel
theorem dX11_reduces_92 : decode cX11_reduces 92 = .ok (.iaload, 1) := by decide +kernel
theorem dX11_reduces_93 : decode cX11_reduces 93 = .ok (.if_icmp .eq 5, 3) := by decide +kernel
theorem dX11_reduces_96 : decode cX11_reduces 96 = .ok (.iconst 0, 1) := by decide +kernel
theorem dX11_reduces_97 : decode cX11_reduces 97 = .ok (.ireturn, 1) := by decide +kernel
theorem dX11_reduces_98 : decode cX11_reduces 98 = .ok (.aload_n 0, 1) := by decide +kernel
theorem dX11_reduces_99 : decode cX11_reduces 99 = .ok (.iload_n 1, 1) := by decide +kernel
theorem dX11_reduces_100 : decode cX11_reduces 100 = .ok (.iload 5, 2) := by decide +kernel
theorem dX11_reduces_102 : decode cX11_reduces 102 = .ok (.iconst 0, 1) := by decide +kernel
theorem dX11_reduces_103 : decode cX11_reduces 103 = .ok (.iload_n 3, 1) := by decide +kernel
theorem dX11_reduces_104 : decode cX11_reduces 104 = .ok (.invokestatic 117, 3) := by decide +kernel
theorem dX11_reduces_107 : decode cX11_reduces 107 = .ok (.iload_n 1, 1) := by decide +kernel
theorem dX11_reduces_108 : decode cX11_reduces 108 = .ok (.iload 5, 2) := by decide +kernel
theorem dX11_reduces_110 : decode cX11_reduces 110 = .ok (.iload_n 3, 1) := by decide +kernel
theorem dX11_reduces_111 : decode cX11_reduces 111 = .ok (.iload 6, 2) := by decide +kernel
theorem dX11_reduces_113 : decode cX11_reduces 113 = .ok (.iadd, 1) := by decide +kernel
theorem dX11_reduces_114 : decode cX11_reduces 114 = .ok (.iload 4, 2) := by decide +kernel
theorem dX11_reduces_116 : decode cX11_reduces 116 = .ok (.iload 6, 2) := by decide +kernel
theorem dX11_reduces_118 : decode cX11_reduces 118 = .ok (.iadd, 1) := by decide +kernel
theorem dX11_reduces_119 : decode cX11_reduces 119 = .ok (.invokestatic 117, 3) := by decide +kernel
theorem dX11_reduces_122 : decode cX11_reduces 122 = .ok (.invokestatic 159, 3) := by decide +kernel
theorem dX11_reduces_125 : decode cX11_reduces 125 = .ok (.iload_n 1, 1) := by decide +kernel
theorem dX11_reduces_126 : decode cX11_reduces 126 = .ok (.iload 5, 2) := by decide +kernel
theorem dX11_reduces_128 : decode cX11_reduces 128 = .ok (.iload 8, 2) := by decide +kernel
theorem dX11_reduces_130 : decode cX11_reduces 130 = .ok (.iload 5, 2) := by decide +kernel
theorem dX11_reduces_132 : decode cX11_reduces 132 = .ok (.invokestatic 117, 3) := by decide +kernel
theorem dX11_reduces_135 : decode cX11_reduces 135 = .ok (.invokestatic 159, 3) := by decide +kernel
theorem dX11_reduces_138 : decode cX11_reduces 138 = .ok (.putfield 304, 3) := by decide +kernel
theorem dX11_reduces_141 : decode cX11_reduces 141 = .ok (.aload_n 0, 1) := by decide +kernel
theorem dX11_reduces_142 : decode cX11_reduces 142 = .ok (.aload_n 0, 1) := by decide +kernel
theorem dX11_reduces_143 : decode cX11_reduces 143 = .ok (.getfield 304, 3) := by decide +kernel
theorem dX11_reduces_146 : decode cX11_reduces 146 = .ok (.iload_n 2, 1) := by decide +kernel
theorem dX11_reduces_147 : decode cX11_reduces 147 = .ok (.invokevirtual 260, 3) := by decide +kernel
theorem dX11_reduces_150 : decode cX11_reduces 150 = .ok (.aload_n 0, 1) := by decide +kernel
theorem dX11_reduces_151 : decode cX11_reduces 151 = .ok (.iload_n 3, 1) := by decide +kernel
theorem dX11_reduces_152 : decode cX11_reduces 152 = .ok (.iload 4, 2) := by decide +kernel
theorem dX11_reduces_154 : decode cX11_reduces 154 = .ok (.invokevirtual 269, 3) := by decide +kernel
theorem dX11_reduces_157 : decode cX11_reduces 157 = .ok (.ireturn, 1) := by decide +kernel
theorem dX11_countReductions_0 : decode cX11_countReductions 0 = .ok (.iconst 0, 1) := by decide +kernel
theorem dX11_countReductions_1 : decode cX11_countReductions 1 = .ok (.istore_n 2, 1) := by decide +kernel
theorem dX11_countReductions_2 : decode cX11_countReductions 2 = .ok (.iconst 0, 1) := by decide +kernel
theorem dX11_countReductions_3 : decode cX11_countReductions 3 = .ok (.istore_n 3, 1) := by decide +kernel
theorem dX11_countReductions_4 : decode cX11_countReductions 4 = .ok (.iload_n 3, 1) := by decide +kernel
theorem dX11_countReductions_5 : decode cX11_countReductions 5 = .ok (.bipush 100, 2) := by decide +kernel
theorem dX11_countReductions_7 : decode cX11_countReductions 7 = .ok (.aload_n 0, 1) := by decide +kernel
theorem dX11_countReductions_8 : decode cX11_countReductions 8 = .ok (.getfield 121, 3) := by decide +kernel
theorem dX11_countReductions_11 : decode cX11_countReductions 11 = .ok (.imul, 1) := by decide +kernel
theorem dX11_countReductions_12 : decode cX11_countReductions 12 = .ok (.if_icmp .ge 47, 3) := by decide +kernel
theorem dX11_countReductions_15 : decode cX11_countReductions 15 = .ok (.iload_n 2, 1) := by decide +kernel
theorem dX11_countReductions_16 : decode cX11_countReductions 16 = .ok (.iload_n 3, 1) := by decide +kernel
theorem dX11_countReductions_17 : decode cX11_countReductions 17 = .ok (.invokestatic 307, 3) := by decide +kernel
theorem dX11_countReductions_20 : decode cX11_countReductions 20 = .ok (.ifCond .eq 30, 3) := by decide +kernel
theorem dX11_countReductions_23 : decode cX11_countReductions 23 = .ok (.aload_n 0, 1) := by decide +kernel
theorem dX11_countReductions_24 : decode cX11_countReductions 24 = .ok (.iload_n 1, 1) := by decide +kernel
theorem dX11_countReductions_25 : decode cX11_countReductions 25 = .ok (.iload_n 3, 1) := by decide +kernel
theorem dX11_countReductions_26 : decode cX11_countReductions 26 = .ok (.bipush 100, 2) := by decide +kernel
theorem dX11_countReductions_28 : decode cX11_countReductions 28 = .ok (.idiv, 1) := by decide +kernel
theorem dX11_countReductions_29 : decode cX11_countReductions 29 = .ok (.iload_n 3, 1) := by decide +kernel
theorem dX11_countReductions_30 : decode cX11_countReductions 30 = .ok (.bipush 10, 2) := by decide +kernel
theorem dX11_countReductions_32 : decode cX11_countReductions 32 = .ok (.idiv, 1) := by decide +kernel
theorem dX11_countReductions_33 : decode cX11_countReductions 33 = .ok (.bipush 10, 2) := by decide +kernel
theorem dX11_countReductions_35 : decode cX11_countReductions 35 = .ok (.irem, 1) := by decide +kernel
theorem dX11_countReductions_36 : decode cX11_countReductions 36 = .ok (.iload_n 3, 1) := by decide +kernel
theorem dX11_countReductions_37 : decode cX11_countReductions 37 = .ok (.bipush 10, 2) := by decide +kernel
theorem dX11_countReductions_39 : decode cX11_countReductions 39 = .ok (.irem, 1) := by decide +kernel
theorem dX11_countReductions_40 : decode cX11_countReductions 40 = .ok (.invokevirtual 310, 3) := by decide +kernel
theorem dX11_countReductions_43 : decode cX11_countReductions 43 = .ok (.ifCond .eq 7, 3) := by decide +kernel
theorem dX11_countReductions_46 : decode cX11_countReductions 46 = .ok (.iconst 1, 1) := by decide +kernel
theorem dX11_countReductions_47 : decode cX11_countReductions 47 = .ok (.goto 4, 3) := by decide +kernel
theorem dX11_countReductions_50 : decode cX11_countReductions 50 = .ok (.iconst 0, 1) := by decide +kernel
theorem dX11_countReductions_51 : decode cX11_countReductions 51 = .ok (.iadd, 1) := by decide +kernel
theorem dX11_countReductions_52 : decode cX11_countReductions 52 = .ok (.istore_n 2, 1) := by decide +kernel
theorem dX11_countReductions_53 : decode cX11_countReductions 53 = .ok (.iinc 3 1, 3) := by decide +kernel
theorem dX11_countReductions_56 : decode cX11_countReductions 56 = .ok (.goto (-52), 3) := by decide +kernel
theorem dX11_countReductions_59 : decode cX11_countReductions 59 = .ok (.iload_n 2, 1) := by decide +kernel
theorem dX11_countReductions_60 : decode cX11_countReductions 60 = .ok (.ireturn, 1) := by decide +kernel
theorem dX11_isPlace_0 : decode cX11_isPlace 0 = .ok (.iload_n 0, 1) := by decide +kernel
theorem dX11_isPlace_1 : decode cX11_isPlace 1 = .ok (.bipush 10, 2) := by decide +kernel
theorem dX11_isPlace_3 : decode cX11_isPlace 3 = .ok (.idiv, 1) := by decide +kernel
theorem dX11_isPlace_4 : decode cX11_isPlace 4 = .ok (.bipush 10, 2) := by decide +kernel
theorem dX11_isPlace_6 : decode cX11_isPlace 6 = .ok (.irem, 1) := by decide +kernel
theorem dX11_isPlace_7 : decode cX11_isPlace 7 = .ok (.iload_n 0, 1) := by decide +kernel
theorem dX11_isPlace_8 : decode cX11_isPlace 8 = .ok (.bipush 10, 2) := by decide +kernel
theorem dX11_isPlace_10 : decode cX11_isPlace 10 = .ok (.irem, 1) := by decide +kernel
theorem dX11_isPlace_11 : decode cX11_isPlace 11 = .ok (.if_icmp .gt 7, 3) := by decide +kernel
theorem dX11_isPlace_14 : decode cX11_isPlace 14 = .ok (.iconst 1, 1) := by decide +kernel
theorem dX11_isPlace_15 : decode cX11_isPlace 15 = .ok (.goto 4, 3) := by decide +kernel
theorem dX11_isPlace_18 : decode cX11_isPlace 18 = .ok (.iconst 0, 1) := by decide +kernel
theorem dX11_isPlace_19 : decode cX11_isPlace 19 = .ok (.ireturn, 1) := by decide +kernel
theorem dX11_meet_0 : decode cX11_meet 0 = .ok (.iconst 0, 1) := by decide +kernel
theorem dX11_meet_1 : decode cX11_meet 1 = .ok (.istore_n 2, 1) := by decide +kernel
theorem dX11_meet_2 : decode cX11_meet 2 = .ok (.iload_n 2, 1) := by decide +kernel
theorem dX11_meet_3 : decode cX11_meet 3 = .ok (.sipush 29524, 3) := by decide +kernel
theorem dX11_meet_6 : decode cX11_meet 6 = .ok (.if_icmp .ge 32, 3) := by decide +kernel
theorem dX11_meet_9 : decode cX11_meet 9 = .ok (.aload_n 0, 1) := by decide +kernel
theorem dX11_meet_10 : decode cX11_meet 10 = .ok (.getfield 58, 3) := by decide +kernel
theorem dX11_meet_13 : decode cX11_meet 13 = .ok (.iload_n 2, 1) := by decide +kernel
theorem dX11_meet_14 : decode cX11_meet 14 = .ok (.iload_n 2, 1) := by decide +kernel
theorem dX11_meet_15 : decode cX11_meet 15 = .ok (.iload_n 1, 1) := by decide +kernel
theorem dX11_meet_16 : decode cX11_meet 16 = .ok (.if_icmp .ne 7, 3) := by decide +kernel
theorem dX11_meet_19 : decode cX11_meet 19 = .ok (.iconst 1, 1) := by decide +kernel
theorem dX11_meet_20 : decode cX11_meet 20 = .ok (.goto 4, 3) := by decide +kernel
theorem dX11_meet_23 : decode cX11_meet 23 = .ok (.iconst 0, 1) := by decide +kernel
theorem dX11_meet_24 : decode cX11_meet 24 = .ok (.bastore, 1) := by decide +kernel
theorem dX11_meet_25 : decode cX11_meet 25 = .ok (.aload_n 0, 1) := by decide +kernel
theorem dX11_meet_26 : decode cX11_meet 26 = .ok (.getfield 61, 3) := by decide +kernel
theorem dX11_meet_29 : decode cX11_meet 29 = .ok (.iload_n 2, 1) := by decide +kernel
theorem dX11_meet_30 : decode cX11_meet 30 = .ok (.iconst 0, 1) := by decide +kernel
theorem dX11_meet_31 : decode cX11_meet 31 = .ok (.iastore, 1) := by decide +kernel
theorem dX11_meet_32 : decode cX11_meet 32 = .ok (.iinc 2 1, 3) := by decide +kernel
theorem dX11_meet_35 : decode cX11_meet 35 = .ok (.goto (-33), 3) := by decide +kernel
theorem dX11_meet_38 : decode cX11_meet 38 = .ok (.iload_n 1, 1) := by decide +kernel
theorem dX11_meet_39 : decode cX11_meet 39 = .ok (.istore_n 2, 1) := by decide +kernel
theorem dX11_meet_40 : decode cX11_meet 40 = .ok (.iload_n 2, 1) := by decide +kernel
theorem dX11_meet_41 : decode cX11_meet 41 = .ok (.ifCond .lt 107, 3) := by decide +kernel
theorem dX11_meet_44 : decode cX11_meet 44 = .ok (.aload_n 0, 1) := by decide +kernel
theorem dX11_meet_45 : decode cX11_meet 45 = .ok (.getfield 58, 3) := by decide +kernel
theorem dX11_meet_48 : decode cX11_meet 48 = .ok (.iload_n 2, 1) := by decide +kernel
theorem dX11_meet_49 : decode cX11_meet 49 = .ok (.baload, 1) := by decide +kernel
theorem dX11_meet_50 : decode cX11_meet 50 = .ok (.istore_n 3, 1) := by decide +kernel
theorem dX11_meet_51 : decode cX11_meet 51 = .ok (.iconst 0, 1) := by decide +kernel
theorem dX11_meet_52 : decode cX11_meet 52 = .ok (.istore 4, 2) := by decide +kernel
theorem dX11_meet_54 : decode cX11_meet 54 = .ok (.iload 4, 2) := by decide +kernel
theorem dX11_meet_56 : decode cX11_meet 56 = .ok (.bipush 100, 2) := by decide +kernel
theorem dX11_meet_58 : decode cX11_meet 58 = .ok (.aload_n 0, 1) := by decide +kernel
theorem dX11_meet_59 : decode cX11_meet 59 = .ok (.getfield 121, 3) := by decide +kernel
theorem dX11_meet_62 : decode cX11_meet 62 = .ok (.imul, 1) := by decide +kernel
theorem dX11_meet_63 : decode cX11_meet 63 = .ok (.if_icmp .ge 64, 3) := by decide +kernel
theorem dX11_meet_66 : decode cX11_meet 66 = .ok (.aload_n 0, 1) := by decide +kernel
theorem dX11_meet_67 : decode cX11_meet 67 = .ok (.getfield 58, 3) := by decide +kernel
theorem dX11_meet_70 : decode cX11_meet 70 = .ok (.iload_n 2, 1) := by decide +kernel
theorem dX11_meet_71 : decode cX11_meet 71 = .ok (.baload, 1) := by decide +kernel
theorem dX11_meet_72 : decode cX11_meet 72 = .ok (.ifCond .eq 55, 3) := by decide +kernel
theorem dX11_meet_75 : decode cX11_meet 75 = .ok (.iload 4, 2) := by decide +kernel
theorem dX11_meet_77 : decode cX11_meet 77 = .ok (.invokestatic 307, 3) := by decide +kernel
theorem dX11_meet_80 : decode cX11_meet 80 = .ok (.ifCond .eq 41, 3) := by decide +kernel
theorem dX11_meet_83 : decode cX11_meet 83 = .ok (.aload_n 0, 1) := by decide +kernel
theorem dX11_meet_84 : decode cX11_meet 84 = .ok (.iload_n 2, 1) := by decide +kernel
theorem dX11_meet_85 : decode cX11_meet 85 = .ok (.iload 4, 2) := by decide +kernel
theorem dX11_meet_87 : decode cX11_meet 87 = .ok (.bipush 100, 2) := by decide +kernel
theorem dX11_meet_89 : decode cX11_meet 89 = .ok (.idiv, 1) := by decide +kernel
theorem dX11_meet_90 : decode cX11_meet 90 = .ok (.iload 4, 2) := by decide +kernel
theorem dX11_meet_92 : decode cX11_meet 92 = .ok (.bipush 10, 2) := by decide +kernel
theorem dX11_meet_94 : decode cX11_meet 94 = .ok (.idiv, 1) := by decide +kernel
theorem dX11_meet_95 : decode cX11_meet 95 = .ok (.bipush 10, 2) := by decide +kernel
theorem dX11_meet_97 : decode cX11_meet 97 = .ok (.irem, 1) := by decide +kernel
theorem dX11_meet_98 : decode cX11_meet 98 = .ok (.iload 4, 2) := by decide +kernel
theorem dX11_meet_100 : decode cX11_meet 100 = .ok (.bipush 10, 2) := by decide +kernel
theorem dX11_meet_102 : decode cX11_meet 102 = .ok (.irem, 1) := by decide +kernel
theorem dX11_meet_103 : decode cX11_meet 103 = .ok (.invokevirtual 310, 3) := by decide +kernel
theorem dX11_meet_106 : decode cX11_meet 106 = .ok (.ifCond .eq 15, 3) := by decide +kernel
theorem dX11_meet_109 : decode cX11_meet 109 = .ok (.aload_n 0, 1) := by decide +kernel
theorem dX11_meet_110 : decode cX11_meet 110 = .ok (.getfield 58, 3) := by decide +kernel
theorem dX11_meet_113 : decode cX11_meet 113 = .ok (.aload_n 0, 1) := by decide +kernel
theorem dX11_meet_114 : decode cX11_meet 114 = .ok (.getfield 304, 3) := by decide +kernel
theorem dX11_meet_117 : decode cX11_meet 117 = .ok (.iconst 1, 1) := by decide +kernel
theorem dX11_meet_118 : decode cX11_meet 118 = .ok (.bastore, 1) := by decide +kernel
theorem dX11_meet_119 : decode cX11_meet 119 = .ok (.iconst 0, 1) := by decide +kernel
theorem dX11_meet_120 : decode cX11_meet 120 = .ok (.istore_n 3, 1) := by decide +kernel
theorem dX11_meet_121 : decode cX11_meet 121 = .ok (.iinc 4 1, 3) := by decide +kernel
theorem dX11_meet_124 : decode cX11_meet 124 = .ok (.goto (-70), 3) := by decide +kernel
theorem dX11_meet_127 : decode cX11_meet 127 = .ok (.aload_n 0, 1) := by decide +kernel
theorem dX11_meet_128 : decode cX11_meet 128 = .ok (.getfield 61, 3) := by decide +kernel
theorem dX11_meet_131 : decode cX11_meet 131 = .ok (.iload_n 2, 1) := by decide +kernel
theorem dX11_meet_132 : decode cX11_meet 132 = .ok (.iload_n 3, 1) := by decide +kernel
theorem dX11_meet_133 : decode cX11_meet 133 = .ok (.ifCond .eq 7, 3) := by decide +kernel
theorem dX11_meet_136 : decode cX11_meet 136 = .ok (.iconst 1, 1) := by decide +kernel
theorem dX11_meet_137 : decode cX11_meet 137 = .ok (.goto 4, 3) := by decide +kernel
theorem dX11_meet_140 : decode cX11_meet 140 = .ok (.iconst 0, 1) := by decide +kernel
theorem dX11_meet_141 : decode cX11_meet 141 = .ok (.iastore, 1) := by decide +kernel
theorem dX11_meet_142 : decode cX11_meet 142 = .ok (.iinc 2 (-1), 3) := by decide +kernel
theorem dX11_meet_145 : decode cX11_meet 145 = .ok (.goto (-105), 3) := by decide +kernel
theorem dX11_meet_148 : decode cX11_meet 148 = .ok (.return_, 1) := by decide +kernel
theorem dX11_onlyForm_0 : decode cX11_onlyForm 0 = .ok (.aload_n 0, 1) := by decide +kernel
theorem dX11_onlyForm_1 : decode cX11_onlyForm 1 = .ok (.getfield 61, 3) := by decide +kernel
theorem dX11_onlyForm_4 : decode cX11_onlyForm 4 = .ok (.iload_n 1, 1) := by decide +kernel
theorem dX11_onlyForm_5 : decode cX11_onlyForm 5 = .ok (.iaload, 1) := by decide +kernel
theorem dX11_onlyForm_6 : decode cX11_onlyForm 6 = .ok (.iconst (-1), 1) := by decide +kernel
theorem dX11_onlyForm_7 : decode cX11_onlyForm 7 = .ok (.if_icmp .eq 10, 3) := by decide +kernel
theorem dX11_onlyForm_10 : decode cX11_onlyForm 10 = .ok (.aload_n 0, 1) := by decide +kernel
theorem dX11_onlyForm_11 : decode cX11_onlyForm 11 = .ok (.getfield 61, 3) := by decide +kernel
theorem dX11_onlyForm_14 : decode cX11_onlyForm 14 = .ok (.iload_n 1, 1) := by decide +kernel
theorem dX11_onlyForm_15 : decode cX11_onlyForm 15 = .ok (.iaload, 1) := by decide +kernel
theorem dX11_onlyForm_16 : decode cX11_onlyForm 16 = .ok (.ireturn, 1) := by decide +kernel
theorem dX11_onlyForm_17 : decode cX11_onlyForm 17 = .ok (.iconst (-1), 1) := by decide +kernel
theorem dX11_onlyForm_18 : decode cX11_onlyForm 18 = .ok (.istore_n 2, 1) := by decide +kernel
theorem dX11_onlyForm_19 : decode cX11_onlyForm 19 = .ok (.iconst 0, 1) := by decide +kernel
theorem dX11_onlyForm_20 : decode cX11_onlyForm 20 = .ok (.istore_n 3, 1) := by decide +kernel
theorem dX11_onlyForm_21 : decode cX11_onlyForm 21 = .ok (.iload_n 3, 1) := by decide +kernel
theorem dX11_onlyForm_22 : decode cX11_onlyForm 22 = .ok (.bipush 100, 2) := by decide +kernel
theorem dX11_onlyForm_24 : decode cX11_onlyForm 24 = .ok (.aload_n 0, 1) := by decide +kernel
theorem dX11_onlyForm_25 : decode cX11_onlyForm 25 = .ok (.getfield 121, 3) := by decide +kernel
theorem dX11_onlyForm_28 : decode cX11_onlyForm 28 = .ok (.imul, 1) := by decide +kernel
theorem dX11_onlyForm_29 : decode cX11_onlyForm 29 = .ok (.if_icmp .ge 74, 3) := by decide +kernel
theorem dX11_onlyForm_32 : decode cX11_onlyForm 32 = .ok (.iload_n 2, 1) := by decide +kernel
theorem dX11_onlyForm_33 : decode cX11_onlyForm 33 = .ok (.bipush (-2), 2) := by decide +kernel
theorem dX11_onlyForm_35 : decode cX11_onlyForm 35 = .ok (.if_icmp .eq 68, 3) := by decide +kernel
theorem dX11_onlyForm_38 : decode cX11_onlyForm 38 = .ok (.iload_n 3, 1) := by decide +kernel
theorem dX11_onlyForm_39 : decode cX11_onlyForm 39 = .ok (.invokestatic 307, 3) := by decide +kernel
theorem dX11_onlyForm_42 : decode cX11_onlyForm 42 = .ok (.ifCond .eq 55, 3) := by decide +kernel
theorem dX11_onlyForm_45 : decode cX11_onlyForm 45 = .ok (.aload_n 0, 1) := by decide +kernel
theorem dX11_onlyForm_46 : decode cX11_onlyForm 46 = .ok (.iload_n 1, 1) := by decide +kernel
theorem dX11_onlyForm_47 : decode cX11_onlyForm 47 = .ok (.iload_n 3, 1) := by decide +kernel
theorem dX11_onlyForm_48 : decode cX11_onlyForm 48 = .ok (.bipush 100, 2) := by decide +kernel
theorem dX11_onlyForm_50 : decode cX11_onlyForm 50 = .ok (.idiv, 1) := by decide +kernel
theorem dX11_onlyForm_51 : decode cX11_onlyForm 51 = .ok (.iload_n 3, 1) := by decide +kernel
theorem dX11_onlyForm_52 : decode cX11_onlyForm 52 = .ok (.bipush 10, 2) := by decide +kernel
theorem dX11_onlyForm_54 : decode cX11_onlyForm 54 = .ok (.idiv, 1) := by decide +kernel
theorem dX11_onlyForm_55 : decode cX11_onlyForm 55 = .ok (.bipush 10, 2) := by decide +kernel
theorem dX11_onlyForm_57 : decode cX11_onlyForm 57 = .ok (.irem, 1) := by decide +kernel
theorem dX11_onlyForm_58 : decode cX11_onlyForm 58 = .ok (.iload_n 3, 1) := by decide +kernel
theorem dX11_onlyForm_59 : decode cX11_onlyForm 59 = .ok (.bipush 10, 2) := by decide +kernel
theorem dX11_onlyForm_61 : decode cX11_onlyForm 61 = .ok (.irem, 1) := by decide +kernel
theorem dX11_onlyForm_62 : decode cX11_onlyForm 62 = .ok (.invokevirtual 310, 3) := by decide +kernel
theorem dX11_onlyForm_65 : decode cX11_onlyForm 65 = .ok (.ifCond .eq 32, 3) := by decide +kernel
theorem dX11_onlyForm_68 : decode cX11_onlyForm 68 = .ok (.aload_n 0, 1) := by decide +kernel
theorem dX11_onlyForm_69 : decode cX11_onlyForm 69 = .ok (.aload_n 0, 1) := by decide +kernel
theorem dX11_onlyForm_70 : decode cX11_onlyForm 70 = .ok (.getfield 304, 3) := by decide +kernel
theorem dX11_onlyForm_73 : decode cX11_onlyForm 73 = .ok (.invokevirtual 314, 3) := by decide +kernel
theorem dX11_onlyForm_76 : decode cX11_onlyForm 76 = .ok (.istore 4, 2) := by decide +kernel
theorem dX11_onlyForm_78 : decode cX11_onlyForm 78 = .ok (.iload_n 2, 1) := by decide +kernel
theorem dX11_onlyForm_79 : decode cX11_onlyForm 79 = .ok (.iconst (-1), 1) := by decide +kernel
theorem dX11_onlyForm_80 : decode cX11_onlyForm 80 = .ok (.if_icmp .eq 9, 3) := by decide +kernel
theorem dX11_onlyForm_83 : decode cX11_onlyForm 83 = .ok (.iload_n 2, 1) := by decide +kernel
theorem dX11_onlyForm_84 : decode cX11_onlyForm 84 = .ok (.iload 4, 2) := by decide +kernel
theorem dX11_onlyForm_86 : decode cX11_onlyForm 86 = .ok (.if_icmp .ne 8, 3) := by decide +kernel
theorem dX11_onlyForm_89 : decode cX11_onlyForm 89 = .ok (.iload 4, 2) := by decide +kernel
theorem dX11_onlyForm_91 : decode cX11_onlyForm 91 = .ok (.goto 5, 3) := by decide +kernel
theorem dX11_onlyForm_94 : decode cX11_onlyForm 94 = .ok (.bipush (-2), 2) := by decide +kernel
theorem dX11_onlyForm_96 : decode cX11_onlyForm 96 = .ok (.istore_n 2, 1) := by decide +kernel
theorem dX11_onlyForm_97 : decode cX11_onlyForm 97 = .ok (.iinc 3 1, 3) := by decide +kernel
theorem dX11_onlyForm_100 : decode cX11_onlyForm 100 = .ok (.goto (-79), 3) := by decide +kernel
theorem dX11_onlyForm_103 : decode cX11_onlyForm 103 = .ok (.aload_n 0, 1) := by decide +kernel
theorem dX11_onlyForm_104 : decode cX11_onlyForm 104 = .ok (.getfield 61, 3) := by decide +kernel
theorem dX11_onlyForm_107 : decode cX11_onlyForm 107 = .ok (.iload_n 1, 1) := by decide +kernel
theorem dX11_onlyForm_108 : decode cX11_onlyForm 108 = .ok (.iload_n 2, 1) := by decide +kernel
theorem dX11_onlyForm_109 : decode cX11_onlyForm 109 = .ok (.iconst (-1), 1) := by decide +kernel
theorem dX11_onlyForm_110 : decode cX11_onlyForm 110 = .ok (.if_icmp .ne 7, 3) := by decide +kernel
theorem dX11_onlyForm_113 : decode cX11_onlyForm 113 = .ok (.iload_n 1, 1) := by decide +kernel
theorem dX11_onlyForm_114 : decode cX11_onlyForm 114 = .ok (.goto 4, 3) := by decide +kernel
theorem dX11_onlyForm_117 : decode cX11_onlyForm 117 = .ok (.iload_n 2, 1) := by decide +kernel
theorem dX11_onlyForm_118 : decode cX11_onlyForm 118 = .ok (.iastore, 1) := by decide +kernel
theorem dX11_onlyForm_119 : decode cX11_onlyForm 119 = .ok (.aload_n 0, 1) := by decide +kernel
theorem dX11_onlyForm_120 : decode cX11_onlyForm 120 = .ok (.getfield 61, 3) := by decide +kernel
theorem dX11_onlyForm_123 : decode cX11_onlyForm 123 = .ok (.iload_n 1, 1) := by decide +kernel
theorem dX11_onlyForm_124 : decode cX11_onlyForm 124 = .ok (.iaload, 1) := by decide +kernel
theorem dX11_onlyForm_125 : decode cX11_onlyForm 125 = .ok (.ireturn, 1) := by decide +kernel
theorem dX11_isConfluent_0 : decode cX11_isConfluent 0 = .ok (.aload_n 0, 1) := by decide +kernel
theorem dX11_isConfluent_1 : decode cX11_isConfluent 1 = .ok (.iconst 0, 1) := by decide +kernel
theorem dX11_isConfluent_2 : decode cX11_isConfluent 2 = .ok (.putfield 104, 3) := by decide +kernel
theorem dX11_isConfluent_5 : decode cX11_isConfluent 5 = .ok (.aload_n 0, 1) := by decide +kernel
theorem dX11_isConfluent_6 : decode cX11_isConfluent 6 = .ok (.invokevirtual 278, 3) := by decide +kernel
theorem dX11_isConfluent_9 : decode cX11_isConfluent 9 = .ok (.ifCond .ne 17, 3) := by decide +kernel
theorem dX11_isConfluent_12 : decode cX11_isConfluent 12 = .ok (.aload_n 0, 1) := by decide +kernel
theorem dX11_isConfluent_13 : decode cX11_isConfluent 13 = .ok (.iconst 1, 1) := by decide +kernel
theorem dX11_isConfluent_14 : decode cX11_isConfluent 14 = .ok (.invokevirtual 134, 3) := by decide +kernel
theorem dX11_isConfluent_17 : decode cX11_isConfluent 17 = .ok (.ifCond .le 7, 3) := by decide +kernel
theorem dX11_isConfluent_20 : decode cX11_isConfluent 20 = .ok (.iconst 1, 1) := by decide +kernel
theorem dX11_isConfluent_21 : decode cX11_isConfluent 21 = .ok (.goto 4, 3) := by decide +kernel
theorem dX11_isConfluent_24 : decode cX11_isConfluent 24 = .ok (.iconst 0, 1) := by decide +kernel
theorem dX11_isConfluent_25 : decode cX11_isConfluent 25 = .ok (.ireturn, 1) := by decide +kernel
theorem dX11_isConfluent_26 : decode cX11_isConfluent 26 = .ok (.iconst 0, 1) := by decide +kernel
theorem dX11_isConfluent_27 : decode cX11_isConfluent 27 = .ok (.istore_n 1, 1) := by decide +kernel
theorem dX11_isConfluent_28 : decode cX11_isConfluent 28 = .ok (.iload_n 1, 1) := by decide +kernel
theorem dX11_isConfluent_29 : decode cX11_isConfluent 29 = .ok (.sipush 29524, 3) := by decide +kernel
theorem dX11_isConfluent_32 : decode cX11_isConfluent 32 = .ok (.if_icmp .ge 16, 3) := by decide +kernel
theorem dX11_isConfluent_35 : decode cX11_isConfluent 35 = .ok (.aload_n 0, 1) := by decide +kernel
theorem dX11_isConfluent_36 : decode cX11_isConfluent 36 = .ok (.getfield 61, 3) := by decide +kernel
theorem dX11_isConfluent_39 : decode cX11_isConfluent 39 = .ok (.iload_n 1, 1) := by decide +kernel
theorem dX11_isConfluent_40 : decode cX11_isConfluent 40 = .ok (.iconst (-1), 1) := by decide +kernel
theorem dX11_isConfluent_41 : decode cX11_isConfluent 41 = .ok (.iastore, 1) := by decide +kernel
theorem dX11_isConfluent_42 : decode cX11_isConfluent 42 = .ok (.iinc 1 1, 3) := by decide +kernel
theorem dX11_isConfluent_45 : decode cX11_isConfluent 45 = .ok (.goto (-17), 3) := by decide +kernel
theorem dX11_isConfluent_48 : decode cX11_isConfluent 48 = .ok (.iconst 0, 1) := by decide +kernel
theorem dX11_isConfluent_49 : decode cX11_isConfluent 49 = .ok (.istore_n 1, 1) := by decide +kernel
theorem dX11_isConfluent_50 : decode cX11_isConfluent 50 = .ok (.iload_n 1, 1) := by decide +kernel
theorem dX11_isConfluent_51 : decode cX11_isConfluent 51 = .ok (.sipush 29524, 3) := by decide +kernel
theorem dX11_isConfluent_54 : decode cX11_isConfluent 54 = .ok (.if_icmp .ge 30, 3) := by decide +kernel
theorem dX11_isConfluent_57 : decode cX11_isConfluent 57 = .ok (.aload_n 0, 1) := by decide +kernel
theorem dX11_isConfluent_58 : decode cX11_isConfluent 58 = .ok (.getfield 49, 3) := by decide +kernel
theorem dX11_isConfluent_61 : decode cX11_isConfluent 61 = .ok (.iload_n 1, 1) := by decide +kernel
theorem dX11_isConfluent_62 : decode cX11_isConfluent 62 = .ok (.baload, 1) := by decide +kernel
theorem dX11_isConfluent_63 : decode cX11_isConfluent 63 = .ok (.ifCond .eq 15, 3) := by decide +kernel
theorem dX11_isConfluent_66 : decode cX11_isConfluent 66 = .ok (.aload_n 0, 1) := by decide +kernel
theorem dX11_isConfluent_67 : decode cX11_isConfluent 67 = .ok (.iload_n 1, 1) := by decide +kernel
theorem dX11_isConfluent_68 : decode cX11_isConfluent 68 = .ok (.invokevirtual 314, 3) := by decide +kernel
theorem dX11_isConfluent_71 : decode cX11_isConfluent 71 = .ok (.bipush (-2), 2) := by decide +kernel
theorem dX11_isConfluent_73 : decode cX11_isConfluent 73 = .ok (.if_icmp .ne 5, 3) := by decide +kernel
theorem dX11_isConfluent_76 : decode cX11_isConfluent 76 = .ok (.iconst 0, 1) := by decide +kernel
theorem dX11_isConfluent_77 : decode cX11_isConfluent 77 = .ok (.ireturn, 1) := by decide +kernel
theorem dX11_isConfluent_78 : decode cX11_isConfluent 78 = .ok (.iinc 1 1, 3) := by decide +kernel
theorem dX11_isConfluent_81 : decode cX11_isConfluent 81 = .ok (.goto (-31), 3) := by decide +kernel
theorem dX11_isConfluent_84 : decode cX11_isConfluent 84 = .ok (.iconst 1, 1) := by decide +kernel
theorem dX11_isConfluent_85 : decode cX11_isConfluent 85 = .ok (.ireturn, 1) := by decide +kernel
theorem dX11_clearWord_0 : decode cX11_clearWord 0 = .ok (.aload_n 0, 1) := by decide +kernel
theorem dX11_clearWord_1 : decode cX11_clearWord 1 = .ok (.iconst 0, 1) := by decide +kernel
theorem dX11_clearWord_2 : decode cX11_clearWord 2 = .ok (.putfield 104, 3) := by decide +kernel
theorem dX11_clearWord_5 : decode cX11_clearWord 5 = .ok (.aload_n 0, 1) := by decide +kernel
theorem dX11_clearWord_6 : decode cX11_clearWord 6 = .ok (.iconst 0, 1) := by decide +kernel
theorem dX11_clearWord_7 : decode cX11_clearWord 7 = .ok (.putfield 317, 3) := by decide +kernel
theorem dX11_clearWord_10 : decode cX11_clearWord 10 = .ok (.return_, 1) := by decide +kernel
theorem dX11_addLetter_0 : decode cX11_addLetter 0 = .ok (.aload_n 0, 1) := by decide +kernel
theorem dX11_addLetter_1 : decode cX11_addLetter 1 = .ok (.iload_n 1, 1) := by decide +kernel
theorem dX11_addLetter_2 : decode cX11_addLetter 2 = .ok (.bipush 97, 2) := by decide +kernel
theorem dX11_addLetter_4 : decode cX11_addLetter 4 = .ok (.bipush 99, 2) := by decide +kernel
theorem dX11_addLetter_6 : decode cX11_addLetter 6 = .ok (.invokestatic 124, 3) := by decide +kernel
theorem dX11_addLetter_9 : decode cX11_addLetter 9 = .ok (.ifCond .ne 7, 3) := by decide +kernel
theorem dX11_addLetter_12 : decode cX11_addLetter 12 = .ok (.iconst 1, 1) := by decide +kernel
theorem dX11_addLetter_13 : decode cX11_addLetter 13 = .ok (.goto 20, 3) := by decide +kernel
theorem dX11_addLetter_16 : decode cX11_addLetter 16 = .ok (.aload_n 0, 1) := by decide +kernel
theorem dX11_addLetter_17 : decode cX11_addLetter 17 = .ok (.getfield 317, 3) := by decide +kernel
theorem dX11_addLetter_20 : decode cX11_addLetter 20 = .ok (.invokestatic 114, 3) := by decide +kernel
theorem dX11_addLetter_23 : decode cX11_addLetter 23 = .ok (.bipush 9, 2) := by decide +kernel
theorem dX11_addLetter_25 : decode cX11_addLetter 25 = .ok (.if_icmp .ne 7, 3) := by decide +kernel
theorem dX11_addLetter_28 : decode cX11_addLetter 28 = .ok (.iconst 2, 1) := by decide +kernel
theorem dX11_addLetter_29 : decode cX11_addLetter 29 = .ok (.goto 4, 3) := by decide +kernel
theorem dX11_addLetter_32 : decode cX11_addLetter 32 = .ok (.iconst 0, 1) := by decide +kernel
theorem dX11_addLetter_33 : decode cX11_addLetter 33 = .ok (.putfield 104, 3) := by decide +kernel
theorem dX11_addLetter_36 : decode cX11_addLetter 36 = .ok (.aload_n 0, 1) := by decide +kernel
theorem dX11_addLetter_37 : decode cX11_addLetter 37 = .ok (.aload_n 0, 1) := by decide +kernel
theorem dX11_addLetter_38 : decode cX11_addLetter 38 = .ok (.getfield 104, 3) := by decide +kernel
theorem dX11_addLetter_41 : decode cX11_addLetter 41 = .ok (.ifCond .ne 19, 3) := by decide +kernel
theorem dX11_addLetter_44 : decode cX11_addLetter 44 = .ok (.aload_n 0, 1) := by decide +kernel
theorem dX11_addLetter_45 : decode cX11_addLetter 45 = .ok (.getfield 317, 3) := by decide +kernel
theorem dX11_addLetter_48 : decode cX11_addLetter 48 = .ok (.iconst 1, 1) := by decide +kernel
theorem dX11_addLetter_49 : decode cX11_addLetter 49 = .ok (.iload_n 1, 1) := by decide +kernel
theorem dX11_addLetter_50 : decode cX11_addLetter 50 = .ok (.iadd, 1) := by decide +kernel
theorem dX11_addLetter_51 : decode cX11_addLetter 51 = .ok (.bipush 97, 2) := by decide +kernel
theorem dX11_addLetter_53 : decode cX11_addLetter 53 = .ok (.isub, 1) := by decide +kernel
theorem dX11_addLetter_54 : decode cX11_addLetter 54 = .ok (.invokestatic 159, 3) := by decide +kernel
theorem dX11_addLetter_57 : decode cX11_addLetter 57 = .ok (.goto 7, 3) := by decide +kernel
theorem dX11_addLetter_60 : decode cX11_addLetter 60 = .ok (.aload_n 0, 1) := by decide +kernel
theorem dX11_addLetter_61 : decode cX11_addLetter 61 = .ok (.getfield 317, 3) := by decide +kernel
theorem dX11_addLetter_64 : decode cX11_addLetter 64 = .ok (.putfield 317, 3) := by decide +kernel
theorem dX11_addLetter_67 : decode cX11_addLetter 67 = .ok (.return_, 1) := by decide +kernel
theorem dX11_takeAxiom_0 : decode cX11_takeAxiom 0 = .ok (.aload_n 0, 1) := by decide +kernel
theorem dX11_takeAxiom_1 : decode cX11_takeAxiom 1 = .ok (.iload_n 1, 1) := by decide +kernel
theorem dX11_takeAxiom_2 : decode cX11_takeAxiom 2 = .ok (.iconst 0, 1) := by decide +kernel
theorem dX11_takeAxiom_3 : decode cX11_takeAxiom 3 = .ok (.aload_n 0, 1) := by decide +kernel
theorem dX11_takeAxiom_4 : decode cX11_takeAxiom 4 = .ok (.getfield 128, 3) := by decide +kernel
theorem dX11_takeAxiom_7 : decode cX11_takeAxiom 7 = .ok (.iconst 1, 1) := by decide +kernel
theorem dX11_takeAxiom_8 : decode cX11_takeAxiom 8 = .ok (.isub, 1) := by decide +kernel
theorem dX11_takeAxiom_9 : decode cX11_takeAxiom 9 = .ok (.invokestatic 124, 3) := by decide +kernel
theorem dX11_takeAxiom_12 : decode cX11_takeAxiom 12 = .ok (.ifCond .eq 7, 3) := by decide +kernel
theorem dX11_takeAxiom_15 : decode cX11_takeAxiom 15 = .ok (.iconst 0, 1) := by decide +kernel
theorem dX11_takeAxiom_16 : decode cX11_takeAxiom 16 = .ok (.goto 4, 3) := by decide +kernel
theorem dX11_takeAxiom_19 : decode cX11_takeAxiom 19 = .ok (.iconst 1, 1) := by decide +kernel
theorem dX11_takeAxiom_20 : decode cX11_takeAxiom 20 = .ok (.putfield 104, 3) := by decide +kernel
theorem dX11_takeAxiom_23 : decode cX11_takeAxiom 23 = .ok (.aload_n 0, 1) := by decide +kernel
theorem dX11_takeAxiom_24 : decode cX11_takeAxiom 24 = .ok (.aload_n 0, 1) := by decide +kernel
theorem dX11_takeAxiom_25 : decode cX11_takeAxiom 25 = .ok (.getfield 104, 3) := by decide +kernel
theorem dX11_takeAxiom_28 : decode cX11_takeAxiom 28 = .ok (.ifCond .ne 12, 3) := by decide +kernel
theorem dX11_takeAxiom_31 : decode cX11_takeAxiom 31 = .ok (.aload_n 0, 1) := by decide +kernel
theorem dX11_takeAxiom_32 : decode cX11_takeAxiom 32 = .ok (.getfield 7, 3) := by decide +kernel
theorem dX11_takeAxiom_35 : decode cX11_takeAxiom 35 = .ok (.iload_n 1, 1) := by decide +kernel
theorem dX11_takeAxiom_36 : decode cX11_takeAxiom 36 = .ok (.iaload, 1) := by decide +kernel
theorem dX11_takeAxiom_37 : decode cX11_takeAxiom 37 = .ok (.goto 7, 3) := by decide +kernel
theorem dX11_takeAxiom_40 : decode cX11_takeAxiom 40 = .ok (.aload_n 0, 1) := by decide +kernel
theorem dX11_takeAxiom_41 : decode cX11_takeAxiom 41 = .ok (.getfield 317, 3) := by decide +kernel
theorem dX11_takeAxiom_44 : decode cX11_takeAxiom 44 = .ok (.putfield 317, 3) := by decide +kernel
theorem dX11_takeAxiom_47 : decode cX11_takeAxiom 47 = .ok (.return_, 1) := by decide +kernel
theorem dX11_takeWord_0 : decode cX11_takeWord 0 = .ok (.aload_n 0, 1) := by decide +kernel
theorem dX11_takeWord_1 : decode cX11_takeWord 1 = .ok (.iconst 0, 1) := by decide +kernel
theorem dX11_takeWord_2 : decode cX11_takeWord 2 = .ok (.putfield 104, 3) := by decide +kernel
theorem dX11_takeWord_5 : decode cX11_takeWord 5 = .ok (.aload_n 0, 1) := by decide +kernel
theorem dX11_takeWord_6 : decode cX11_takeWord 6 = .ok (.invokevirtual 278, 3) := by decide +kernel
theorem dX11_takeWord_9 : decode cX11_takeWord 9 = .ok (.ifCond .ne 9, 3) := by decide +kernel
theorem dX11_takeWord_12 : decode cX11_takeWord 12 = .ok (.aload_n 0, 1) := by decide +kernel
theorem dX11_takeWord_13 : decode cX11_takeWord 13 = .ok (.iconst 1, 1) := by decide +kernel
theorem dX11_takeWord_14 : decode cX11_takeWord 14 = .ok (.putfield 104, 3) := by decide +kernel
theorem dX11_takeWord_17 : decode cX11_takeWord 17 = .ok (.return_, 1) := by decide +kernel
theorem dX11_takeWord_18 : decode cX11_takeWord 18 = .ok (.iload_n 1, 1) := by decide +kernel
theorem dX11_takeWord_19 : decode cX11_takeWord 19 = .ok (.iconst 0, 1) := by decide +kernel
theorem dX11_takeWord_20 : decode cX11_takeWord 20 = .ok (.aload_n 0, 1) := by decide +kernel
theorem dX11_takeWord_21 : decode cX11_takeWord 21 = .ok (.getfield 250, 3) := by decide +kernel
theorem dX11_takeWord_24 : decode cX11_takeWord 24 = .ok (.iconst 1, 1) := by decide +kernel
theorem dX11_takeWord_25 : decode cX11_takeWord 25 = .ok (.isub, 1) := by decide +kernel
theorem dX11_takeWord_26 : decode cX11_takeWord 26 = .ok (.invokestatic 124, 3) := by decide +kernel
theorem dX11_takeWord_29 : decode cX11_takeWord 29 = .ok (.ifCond .ne 9, 3) := by decide +kernel
theorem dX11_takeWord_32 : decode cX11_takeWord 32 = .ok (.aload_n 0, 1) := by decide +kernel
theorem dX11_takeWord_33 : decode cX11_takeWord 33 = .ok (.iconst 2, 1) := by decide +kernel
theorem dX11_takeWord_34 : decode cX11_takeWord 34 = .ok (.putfield 104, 3) := by decide +kernel
theorem dX11_takeWord_37 : decode cX11_takeWord 37 = .ok (.return_, 1) := by decide +kernel
theorem dX11_takeWord_38 : decode cX11_takeWord 38 = .ok (.iload_n 1, 1) := by decide +kernel
theorem dX11_takeWord_39 : decode cX11_takeWord 39 = .ok (.istore_n 2, 1) := by decide +kernel
theorem dX11_takeWord_40 : decode cX11_takeWord 40 = .ok (.iconst 0, 1) := by decide +kernel
theorem dX11_takeWord_41 : decode cX11_takeWord 41 = .ok (.istore_n 3, 1) := by decide +kernel
theorem dX11_takeWord_42 : decode cX11_takeWord 42 = .ok (.iload_n 2, 1) := by decide +kernel
theorem dX11_takeWord_43 : decode cX11_takeWord 43 = .ok (.ifCond .gt 12, 3) := by decide +kernel
theorem dX11_takeWord_46 : decode cX11_takeWord 46 = .ok (.aload_n 0, 1) := by decide +kernel
theorem dX11_takeWord_47 : decode cX11_takeWord 47 = .ok (.getfield 49, 3) := by decide +kernel
theorem dX11_takeWord_50 : decode cX11_takeWord 50 = .ok (.iload_n 3, 1) := by decide +kernel
theorem dX11_takeWord_51 : decode cX11_takeWord 51 = .ok (.baload, 1) := by decide +kernel
theorem dX11_takeWord_52 : decode cX11_takeWord 52 = .ok (.ifCond .ne 26, 3) := by decide +kernel
theorem dX11_takeWord_55 : decode cX11_takeWord 55 = .ok (.iload_n 2, 1) := by decide +kernel
theorem dX11_takeWord_56 : decode cX11_takeWord 56 = .ok (.aload_n 0, 1) := by decide +kernel
theorem dX11_takeWord_57 : decode cX11_takeWord 57 = .ok (.getfield 49, 3) := by decide +kernel
theorem dX11_takeWord_60 : decode cX11_takeWord 60 = .ok (.iload_n 3, 1) := by decide +kernel
theorem dX11_takeWord_61 : decode cX11_takeWord 61 = .ok (.baload, 1) := by decide +kernel
theorem dX11_takeWord_62 : decode cX11_takeWord 62 = .ok (.ifCond .eq 7, 3) := by decide +kernel
theorem dX11_takeWord_65 : decode cX11_takeWord 65 = .ok (.iconst 1, 1) := by decide +kernel
theorem dX11_takeWord_66 : decode cX11_takeWord 66 = .ok (.goto 4, 3) := by decide +kernel
theorem dX11_takeWord_69 : decode cX11_takeWord 69 = .ok (.iconst 0, 1) := by decide +kernel
theorem dX11_takeWord_70 : decode cX11_takeWord 70 = .ok (.isub, 1) := by decide +kernel
theorem dX11_takeWord_71 : decode cX11_takeWord 71 = .ok (.istore_n 2, 1) := by decide +kernel
theorem dX11_takeWord_72 : decode cX11_takeWord 72 = .ok (.iinc 3 1, 3) := by decide +kernel
theorem dX11_takeWord_75 : decode cX11_takeWord 75 = .ok (.goto (-33), 3) := by decide +kernel
theorem dX11_takeWord_78 : decode cX11_takeWord 78 = .ok (.aload_n 0, 1) := by decide +kernel
theorem dX11_takeWord_79 : decode cX11_takeWord 79 = .ok (.iload_n 3, 1) := by decide +kernel
theorem dX11_takeWord_80 : decode cX11_takeWord 80 = .ok (.putfield 317, 3) := by decide +kernel
theorem dX11_takeWord_83 : decode cX11_takeWord 83 = .ok (.return_, 1) := by decide +kernel
theorem dX11_wordLength_0 : decode cX11_wordLength 0 = .ok (.aload_n 0, 1) := by decide +kernel
theorem dX11_wordLength_1 : decode cX11_wordLength 1 = .ok (.iconst 0, 1) := by decide +kernel
theorem dX11_wordLength_2 : decode cX11_wordLength 2 = .ok (.putfield 104, 3) := by decide +kernel
theorem dX11_wordLength_5 : decode cX11_wordLength 5 = .ok (.aload_n 0, 1) := by decide +kernel
theorem dX11_wordLength_6 : decode cX11_wordLength 6 = .ok (.getfield 317, 3) := by decide +kernel
theorem dX11_wordLength_9 : decode cX11_wordLength 9 = .ok (.invokestatic 114, 3) := by decide +kernel
theorem dX11_wordLength_12 : decode cX11_wordLength 12 = .ok (.ireturn, 1) := by decide +kernel
theorem dX11_letterAt_0 : decode cX11_letterAt 0 = .ok (.aload_n 0, 1) := by decide +kernel
theorem dX11_letterAt_1 : decode cX11_letterAt 1 = .ok (.iconst 0, 1) := by decide +kernel
theorem dX11_letterAt_2 : decode cX11_letterAt 2 = .ok (.putfield 104, 3) := by decide +kernel
theorem dX11_letterAt_5 : decode cX11_letterAt 5 = .ok (.aload_n 0, 1) := by decide +kernel
theorem dX11_letterAt_6 : decode cX11_letterAt 6 = .ok (.getfield 317, 3) := by decide +kernel
theorem dX11_letterAt_9 : decode cX11_letterAt 9 = .ok (.invokestatic 114, 3) := by decide +kernel
theorem dX11_letterAt_12 : decode cX11_letterAt 12 = .ok (.istore_n 2, 1) := by decide +kernel
theorem dX11_letterAt_13 : decode cX11_letterAt 13 = .ok (.iload_n 1, 1) := by decide +kernel
theorem dX11_letterAt_14 : decode cX11_letterAt 14 = .ok (.iconst 0, 1) := by decide +kernel
theorem dX11_letterAt_15 : decode cX11_letterAt 15 = .ok (.iload_n 2, 1) := by decide +kernel
theorem dX11_letterAt_16 : decode cX11_letterAt 16 = .ok (.iconst 1, 1) := by decide +kernel
theorem dX11_letterAt_17 : decode cX11_letterAt 17 = .ok (.isub, 1) := by decide +kernel
theorem dX11_letterAt_18 : decode cX11_letterAt 18 = .ok (.invokestatic 124, 3) := by decide +kernel
theorem dX11_letterAt_21 : decode cX11_letterAt 21 = .ok (.ifCond .eq 19, 3) := by decide +kernel
theorem dX11_letterAt_24 : decode cX11_letterAt 24 = .ok (.bipush 97, 2) := by decide +kernel
theorem dX11_letterAt_26 : decode cX11_letterAt 26 = .ok (.aload_n 0, 1) := by decide +kernel
theorem dX11_letterAt_27 : decode cX11_letterAt 27 = .ok (.getfield 317, 3) := by decide +kernel
theorem dX11_letterAt_30 : decode cX11_letterAt 30 = .ok (.iload_n 2, 1) := by decide +kernel
theorem dX11_letterAt_31 : decode cX11_letterAt 31 = .ok (.iload_n 1, 1) := by decide +kernel
theorem dX11_letterAt_32 : decode cX11_letterAt 32 = .ok (.invokestatic 230, 3) := by decide +kernel
theorem dX11_letterAt_35 : decode cX11_letterAt 35 = .ok (.iadd, 1) := by decide +kernel
theorem dX11_letterAt_36 : decode cX11_letterAt 36 = .ok (.i2c, 1) := by decide +kernel
theorem dX11_letterAt_37 : decode cX11_letterAt 37 = .ok (.goto 9, 3) := by decide +kernel
theorem dX11_letterAt_40 : decode cX11_letterAt 40 = .ok (.aload_n 0, 1) := by decide +kernel
theorem dX11_letterAt_41 : decode cX11_letterAt 41 = .ok (.iconst 1, 1) := by decide +kernel
theorem dX11_letterAt_42 : decode cX11_letterAt 42 = .ok (.invokevirtual 134, 3) := by decide +kernel
theorem dX11_letterAt_45 : decode cX11_letterAt 45 = .ok (.i2c, 1) := by decide +kernel
theorem dX11_letterAt_46 : decode cX11_letterAt 46 = .ok (.ireturn, 1) := by decide +kernel
theorem dX11_isGenerated_0 : decode cX11_isGenerated 0 = .ok (.aload_n 0, 1) := by decide +kernel
theorem dX11_isGenerated_1 : decode cX11_isGenerated 1 = .ok (.iconst 0, 1) := by decide +kernel
theorem dX11_isGenerated_2 : decode cX11_isGenerated 2 = .ok (.putfield 104, 3) := by decide +kernel
theorem dX11_isGenerated_5 : decode cX11_isGenerated 5 = .ok (.aload_n 0, 1) := by decide +kernel
theorem dX11_isGenerated_6 : decode cX11_isGenerated 6 = .ok (.invokevirtual 278, 3) := by decide +kernel
theorem dX11_isGenerated_9 : decode cX11_isGenerated 9 = .ok (.ifCond .eq 15, 3) := by decide +kernel
theorem dX11_isGenerated_12 : decode cX11_isGenerated 12 = .ok (.aload_n 0, 1) := by decide +kernel
theorem dX11_isGenerated_13 : decode cX11_isGenerated 13 = .ok (.getfield 49, 3) := by decide +kernel
theorem dX11_isGenerated_16 : decode cX11_isGenerated 16 = .ok (.aload_n 0, 1) := by decide +kernel
theorem dX11_isGenerated_17 : decode cX11_isGenerated 17 = .ok (.getfield 317, 3) := by decide +kernel
theorem dX11_isGenerated_20 : decode cX11_isGenerated 20 = .ok (.baload, 1) := by decide +kernel
theorem dX11_isGenerated_21 : decode cX11_isGenerated 21 = .ok (.goto 16, 3) := by decide +kernel
theorem dX11_isGenerated_24 : decode cX11_isGenerated 24 = .ok (.aload_n 0, 1) := by decide +kernel
theorem dX11_isGenerated_25 : decode cX11_isGenerated 25 = .ok (.iconst 1, 1) := by decide +kernel
theorem dX11_isGenerated_26 : decode cX11_isGenerated 26 = .ok (.invokevirtual 134, 3) := by decide +kernel
theorem dX11_isGenerated_29 : decode cX11_isGenerated 29 = .ok (.ifCond .le 7, 3) := by decide +kernel
theorem dX11_isGenerated_32 : decode cX11_isGenerated 32 = .ok (.iconst 1, 1) := by decide +kernel
theorem dX11_isGenerated_33 : decode cX11_isGenerated 33 = .ok (.goto 4, 3) := by decide +kernel
theorem dX11_isGenerated_36 : decode cX11_isGenerated 36 = .ok (.iconst 0, 1) := by decide +kernel
theorem dX11_isGenerated_37 : decode cX11_isGenerated 37 = .ok (.ireturn, 1) := by decide +kernel
theorem dX11_rank_0 : decode cX11_rank 0 = .ok (.aload_n 0, 1) := by decide +kernel
theorem dX11_rank_1 : decode cX11_rank 1 = .ok (.iconst 0, 1) := by decide +kernel
theorem dX11_rank_2 : decode cX11_rank 2 = .ok (.putfield 104, 3) := by decide +kernel
theorem dX11_rank_5 : decode cX11_rank 5 = .ok (.aload_n 0, 1) := by decide +kernel
theorem dX11_rank_6 : decode cX11_rank 6 = .ok (.invokevirtual 278, 3) := by decide +kernel
theorem dX11_rank_9 : decode cX11_rank 9 = .ok (.ifCond .ne 9, 3) := by decide +kernel
theorem dX11_rank_12 : decode cX11_rank 12 = .ok (.aload_n 0, 1) := by decide +kernel
theorem dX11_rank_13 : decode cX11_rank 13 = .ok (.iconst 1, 1) := by decide +kernel
theorem dX11_rank_14 : decode cX11_rank 14 = .ok (.invokevirtual 134, 3) := by decide +kernel
theorem dX11_rank_17 : decode cX11_rank 17 = .ok (.ireturn, 1) := by decide +kernel
theorem dX11_rank_18 : decode cX11_rank 18 = .ok (.aload_n 0, 1) := by decide +kernel
theorem dX11_rank_19 : decode cX11_rank 19 = .ok (.getfield 49, 3) := by decide +kernel
theorem dX11_rank_22 : decode cX11_rank 22 = .ok (.aload_n 0, 1) := by decide +kernel
theorem dX11_rank_23 : decode cX11_rank 23 = .ok (.getfield 317, 3) := by decide +kernel
theorem dX11_rank_26 : decode cX11_rank 26 = .ok (.baload, 1) := by decide +kernel
theorem dX11_rank_27 : decode cX11_rank 27 = .ok (.ifCond .ne 9, 3) := by decide +kernel
theorem dX11_rank_30 : decode cX11_rank 30 = .ok (.aload_n 0, 1) := by decide +kernel
theorem dX11_rank_31 : decode cX11_rank 31 = .ok (.iconst 2, 1) := by decide +kernel
theorem dX11_rank_32 : decode cX11_rank 32 = .ok (.invokevirtual 134, 3) := by decide +kernel
theorem dX11_rank_35 : decode cX11_rank 35 = .ok (.ireturn, 1) := by decide +kernel
theorem dX11_rank_36 : decode cX11_rank 36 = .ok (.iconst 0, 1) := by decide +kernel
theorem dX11_rank_37 : decode cX11_rank 37 = .ok (.istore_n 1, 1) := by decide +kernel
theorem dX11_rank_38 : decode cX11_rank 38 = .ok (.iconst 0, 1) := by decide +kernel
theorem dX11_rank_39 : decode cX11_rank 39 = .ok (.istore_n 2, 1) := by decide +kernel
theorem dX11_rank_40 : decode cX11_rank 40 = .ok (.iload_n 2, 1) := by decide +kernel
theorem dX11_rank_41 : decode cX11_rank 41 = .ok (.aload_n 0, 1) := by decide +kernel
theorem dX11_rank_42 : decode cX11_rank 42 = .ok (.getfield 317, 3) := by decide +kernel
theorem dX11_rank_45 : decode cX11_rank 45 = .ok (.if_icmp .ge 26, 3) := by decide +kernel
theorem dX11_rank_48 : decode cX11_rank 48 = .ok (.iload_n 1, 1) := by decide +kernel
theorem dX11_rank_49 : decode cX11_rank 49 = .ok (.aload_n 0, 1) := by decide +kernel
theorem dX11_rank_50 : decode cX11_rank 50 = .ok (.getfield 49, 3) := by decide +kernel
theorem dX11_rank_53 : decode cX11_rank 53 = .ok (.iload_n 2, 1) := by decide +kernel
theorem dX11_rank_54 : decode cX11_rank 54 = .ok (.baload, 1) := by decide +kernel
theorem dX11_rank_55 : decode cX11_rank 55 = .ok (.ifCond .eq 7, 3) := by decide +kernel
theorem dX11_rank_58 : decode cX11_rank 58 = .ok (.iconst 1, 1) := by decide +kernel
theorem dX11_rank_59 : decode cX11_rank 59 = .ok (.goto 4, 3) := by decide +kernel
theorem dX11_rank_62 : decode cX11_rank 62 = .ok (.iconst 0, 1) := by decide +kernel
theorem dX11_rank_63 : decode cX11_rank 63 = .ok (.iadd, 1) := by decide +kernel
theorem dX11_rank_64 : decode cX11_rank 64 = .ok (.istore_n 1, 1) := by decide +kernel
theorem dX11_rank_65 : decode cX11_rank 65 = .ok (.iinc 2 1, 3) := by decide +kernel
theorem dX11_rank_68 : decode cX11_rank 68 = .ok (.goto (-28), 3) := by decide +kernel
theorem dX11_rank_71 : decode cX11_rank 71 = .ok (.iload_n 1, 1) := by decide +kernel
theorem dX11_rank_72 : decode cX11_rank 72 = .ok (.ireturn, 1) := by decide +kernel
theorem dX11_findFar_0 : decode cX11_findFar 0 = .ok (.iconst 0, 1) := by decide +kernel
theorem dX11_findFar_1 : decode cX11_findFar 1 = .ok (.istore_n 1, 1) := by decide +kernel
theorem dX11_findFar_2 : decode cX11_findFar 2 = .ok (.iload_n 1, 1) := by decide +kernel
theorem dX11_findFar_3 : decode cX11_findFar 3 = .ok (.sipush 29524, 3) := by decide +kernel
theorem dX11_findFar_6 : decode cX11_findFar 6 = .ok (.if_icmp .ge 28, 3) := by decide +kernel
theorem dX11_findFar_9 : decode cX11_findFar 9 = .ok (.aload_n 0, 1) := by decide +kernel
theorem dX11_findFar_10 : decode cX11_findFar 10 = .ok (.getfield 64, 3) := by decide +kernel
theorem dX11_findFar_13 : decode cX11_findFar 13 = .ok (.iload_n 1, 1) := by decide +kernel
theorem dX11_findFar_14 : decode cX11_findFar 14 = .ok (.iload_n 1, 1) := by decide +kernel
theorem dX11_findFar_15 : decode cX11_findFar 15 = .ok (.aload_n 0, 1) := by decide +kernel
theorem dX11_findFar_16 : decode cX11_findFar 16 = .ok (.getfield 317, 3) := by decide +kernel
theorem dX11_findFar_19 : decode cX11_findFar 19 = .ok (.if_icmp .ne 7, 3) := by decide +kernel
theorem dX11_findFar_22 : decode cX11_findFar 22 = .ok (.iconst 0, 1) := by decide +kernel
theorem dX11_findFar_23 : decode cX11_findFar 23 = .ok (.goto 4, 3) := by decide +kernel
theorem dX11_findFar_26 : decode cX11_findFar 26 = .ok (.iconst (-1), 1) := by decide +kernel
theorem dX11_findFar_27 : decode cX11_findFar 27 = .ok (.iastore, 1) := by decide +kernel
theorem dX11_findFar_28 : decode cX11_findFar 28 = .ok (.iinc 1 1, 3) := by decide +kernel
theorem dX11_findFar_31 : decode cX11_findFar 31 = .ok (.goto (-29), 3) := by decide +kernel
theorem dX11_findFar_34 : decode cX11_findFar 34 = .ok (.aload_n 0, 1) := by decide +kernel
theorem dX11_findFar_35 : decode cX11_findFar 35 = .ok (.getfield 317, 3) := by decide +kernel
theorem dX11_findFar_38 : decode cX11_findFar 38 = .ok (.iconst 1, 1) := by decide +kernel
theorem dX11_findFar_39 : decode cX11_findFar 39 = .ok (.isub, 1) := by decide +kernel
theorem dX11_findFar_40 : decode cX11_findFar 40 = .ok (.istore_n 1, 1) := by decide +kernel
theorem dX11_findFar_41 : decode cX11_findFar 41 = .ok (.iload_n 1, 1) := by decide +kernel
theorem dX11_findFar_42 : decode cX11_findFar 42 = .ok (.ifCond .lt 153, 3) := by decide +kernel
theorem dX11_findFar_45 : decode cX11_findFar 45 = .ok (.iconst 0, 1) := by decide +kernel
theorem dX11_findFar_46 : decode cX11_findFar 46 = .ok (.istore_n 2, 1) := by decide +kernel
theorem dX11_findFar_47 : decode cX11_findFar 47 = .ok (.iload_n 2, 1) := by decide +kernel
theorem dX11_findFar_48 : decode cX11_findFar 48 = .ok (.aload_n 0, 1) := by decide +kernel
theorem dX11_findFar_49 : decode cX11_findFar 49 = .ok (.getfield 121, 3) := by decide +kernel
theorem dX11_findFar_52 : decode cX11_findFar 52 = .ok (.if_icmp .ge 137, 3) := by decide +kernel
theorem dX11_findFar_55 : decode cX11_findFar 55 = .ok (.aload_n 0, 1) := by decide +kernel
theorem dX11_findFar_56 : decode cX11_findFar 56 = .ok (.getfield 49, 3) := by decide +kernel
theorem dX11_findFar_59 : decode cX11_findFar 59 = .ok (.iload_n 1, 1) := by decide +kernel
theorem dX11_findFar_60 : decode cX11_findFar 60 = .ok (.baload, 1) := by decide +kernel
theorem dX11_findFar_61 : decode cX11_findFar 61 = .ok (.ifCond .eq 128, 3) := by decide +kernel
theorem dX11_findFar_64 : decode cX11_findFar 64 = .ok (.aload_n 0, 1) := by decide +kernel
theorem dX11_findFar_65 : decode cX11_findFar 65 = .ok (.iload_n 1, 1) := by decide +kernel
theorem dX11_findFar_66 : decode cX11_findFar 66 = .ok (.iload_n 2, 1) := by decide +kernel
theorem dX11_findFar_67 : decode cX11_findFar 67 = .ok (.invokevirtual 260, 3) := by decide +kernel
theorem dX11_findFar_70 : decode cX11_findFar 70 = .ok (.iconst 0, 1) := by decide +kernel
theorem dX11_findFar_71 : decode cX11_findFar 71 = .ok (.istore_n 3, 1) := by decide +kernel
theorem dX11_findFar_72 : decode cX11_findFar 72 = .ok (.iload_n 3, 1) := by decide +kernel
theorem dX11_findFar_73 : decode cX11_findFar 73 = .ok (.bipush 100, 2) := by decide +kernel
theorem dX11_findFar_75 : decode cX11_findFar 75 = .ok (.if_icmp .ge 108, 3) := by decide +kernel
theorem dX11_findFar_78 : decode cX11_findFar 78 = .ok (.aload_n 0, 1) := by decide +kernel
theorem dX11_findFar_79 : decode cX11_findFar 79 = .ok (.iload_n 2, 1) := by decide +kernel
theorem dX11_findFar_80 : decode cX11_findFar 80 = .ok (.invokevirtual 263, 3) := by decide +kernel
theorem dX11_findFar_83 : decode cX11_findFar 83 = .ok (.ifCond .eq 100, 3) := by decide +kernel
theorem dX11_findFar_86 : decode cX11_findFar 86 = .ok (.aload_n 0, 1) := by decide +kernel
theorem dX11_findFar_87 : decode cX11_findFar 87 = .ok (.iload_n 3, 1) := by decide +kernel
theorem dX11_findFar_88 : decode cX11_findFar 88 = .ok (.invokevirtual 266, 3) := by decide +kernel
theorem dX11_findFar_91 : decode cX11_findFar 91 = .ok (.ifCond .eq 86, 3) := by decide +kernel
theorem dX11_findFar_94 : decode cX11_findFar 94 = .ok (.aload_n 0, 1) := by decide +kernel
theorem dX11_findFar_95 : decode cX11_findFar 95 = .ok (.iload_n 3, 1) := by decide +kernel
theorem dX11_findFar_96 : decode cX11_findFar 96 = .ok (.bipush 10, 2) := by decide +kernel
theorem dX11_findFar_98 : decode cX11_findFar 98 = .ok (.idiv, 1) := by decide +kernel
theorem dX11_findFar_99 : decode cX11_findFar 99 = .ok (.iload_n 3, 1) := by decide +kernel
theorem dX11_findFar_100 : decode cX11_findFar 100 = .ok (.bipush 10, 2) := by decide +kernel
theorem dX11_findFar_102 : decode cX11_findFar 102 = .ok (.irem, 1) := by decide +kernel
theorem dX11_findFar_103 : decode cX11_findFar 103 = .ok (.invokevirtual 269, 3) := by decide +kernel
theorem dX11_findFar_106 : decode cX11_findFar 106 = .ok (.ifCond .eq 71, 3) := by decide +kernel
theorem dX11_findFar_109 : decode cX11_findFar 109 = .ok (.aload_n 0, 1) := by decide +kernel
theorem dX11_findFar_110 : decode cX11_findFar 110 = .ok (.getfield 64, 3) := by decide +kernel
theorem dX11_findFar_113 : decode cX11_findFar 113 = .ok (.aload_n 0, 1) := by decide +kernel
theorem dX11_findFar_114 : decode cX11_findFar 114 = .ok (.iload_n 2, 1) := by decide +kernel
theorem dX11_findFar_115 : decode cX11_findFar 115 = .ok (.iload_n 3, 1) := by decide +kernel
theorem dX11_findFar_116 : decode cX11_findFar 116 = .ok (.bipush 10, 2) := by decide +kernel
theorem dX11_findFar_118 : decode cX11_findFar 118 = .ok (.idiv, 1) := by decide +kernel
theorem dX11_findFar_119 : decode cX11_findFar 119 = .ok (.iload_n 3, 1) := by decide +kernel
theorem dX11_findFar_120 : decode cX11_findFar 120 = .ok (.bipush 10, 2) := by decide +kernel
theorem dX11_findFar_122 : decode cX11_findFar 122 = .ok (.irem, 1) := by decide +kernel
theorem dX11_findFar_123 : decode cX11_findFar 123 = .ok (.invokevirtual 272, 3) := by decide +kernel
theorem dX11_findFar_126 : decode cX11_findFar 126 = .ok (.iaload, 1) := by decide +kernel
theorem dX11_findFar_127 : decode cX11_findFar 127 = .ok (.istore 4, 2) := by decide +kernel
theorem dX11_findFar_129 : decode cX11_findFar 129 = .ok (.aload_n 0, 1) := by decide +kernel
theorem dX11_findFar_130 : decode cX11_findFar 130 = .ok (.getfield 64, 3) := by decide +kernel
theorem dX11_findFar_133 : decode cX11_findFar 133 = .ok (.iload_n 1, 1) := by decide +kernel
theorem dX11_findFar_134 : decode cX11_findFar 134 = .ok (.iload 4, 2) := by decide +kernel
theorem dX11_findFar_136 : decode cX11_findFar 136 = .ok (.iconst (-1), 1) := by decide +kernel
theorem dX11_findFar_137 : decode cX11_findFar 137 = .ok (.if_icmp .eq 33, 3) := by decide +kernel
theorem dX11_findFar_140 : decode cX11_findFar 140 = .ok (.aload_n 0, 1) := by decide +kernel
theorem dX11_findFar_141 : decode cX11_findFar 141 = .ok (.getfield 64, 3) := by decide +kernel
theorem dX11_findFar_144 : decode cX11_findFar 144 = .ok (.iload_n 1, 1) := by decide +kernel
theorem dX11_findFar_145 : decode cX11_findFar 145 = .ok (.iaload, 1) := by decide +kernel
theorem dX11_findFar_146 : decode cX11_findFar 146 = .ok (.iconst (-1), 1) := by decide +kernel
theorem dX11_findFar_147 : decode cX11_findFar 147 = .ok (.if_icmp .eq 16, 3) := by decide +kernel
theorem dX11_findFar_150 : decode cX11_findFar 150 = .ok (.iload 4, 2) := by decide +kernel
theorem dX11_findFar_152 : decode cX11_findFar 152 = .ok (.iconst 1, 1) := by decide +kernel
theorem dX11_findFar_153 : decode cX11_findFar 153 = .ok (.iadd, 1) := by decide +kernel
theorem dX11_findFar_154 : decode cX11_findFar 154 = .ok (.aload_n 0, 1) := by decide +kernel
theorem dX11_findFar_155 : decode cX11_findFar 155 = .ok (.getfield 64, 3) := by decide +kernel
theorem dX11_findFar_158 : decode cX11_findFar 158 = .ok (.iload_n 1, 1) := by decide +kernel
theorem dX11_findFar_159 : decode cX11_findFar 159 = .ok (.iaload, 1) := by decide +kernel
theorem dX11_findFar_160 : decode cX11_findFar 160 = .ok (.if_icmp .ge 10, 3) := by decide +kernel
theorem dX11_findFar_163 : decode cX11_findFar 163 = .ok (.iload 4, 2) := by decide +kernel
theorem dX11_findFar_165 : decode cX11_findFar 165 = .ok (.iconst 1, 1) := by decide +kernel
theorem dX11_findFar_166 : decode cX11_findFar 166 = .ok (.iadd, 1) := by decide +kernel
theorem dX11_findFar_167 : decode cX11_findFar 167 = .ok (.goto 9, 3) := by decide +kernel
theorem dX11_findFar_170 : decode cX11_findFar 170 = .ok (.aload_n 0, 1) := by decide +kernel
theorem dX11_findFar_171 : decode cX11_findFar 171 = .ok (.getfield 64, 3) := by decide +kernel
theorem dX11_findFar_174 : decode cX11_findFar 174 = .ok (.iload_n 1, 1) := by decide +kernel
theorem dX11_findFar_175 : decode cX11_findFar 175 = .ok (.iaload, 1) := by decide +kernel
theorem dX11_findFar_176 : decode cX11_findFar 176 = .ok (.iastore, 1) := by decide +kernel
theorem dX11_findFar_177 : decode cX11_findFar 177 = .ok (.iinc 3 1, 3) := by decide +kernel
theorem dX11_findFar_180 : decode cX11_findFar 180 = .ok (.goto (-108), 3) := by decide +kernel
theorem dX11_findFar_183 : decode cX11_findFar 183 = .ok (.iinc 2 1, 3) := by decide +kernel
theorem dX11_findFar_186 : decode cX11_findFar 186 = .ok (.goto (-139), 3) := by decide +kernel
theorem dX11_findFar_189 : decode cX11_findFar 189 = .ok (.iinc 1 (-1), 3) := by decide +kernel
theorem dX11_findFar_192 : decode cX11_findFar 192 = .ok (.goto (-151), 3) := by decide +kernel
theorem dX11_findFar_195 : decode cX11_findFar 195 = .ok (.return_, 1) := by decide +kernel
theorem dX11_isAxiom_0 : decode cX11_isAxiom 0 = .ok (.iconst 0, 1) := by decide +kernel
theorem dX11_isAxiom_1 : decode cX11_isAxiom 1 = .ok (.istore_n 2, 1) := by decide +kernel
theorem dX11_isAxiom_2 : decode cX11_isAxiom 2 = .ok (.iload_n 2, 1) := by decide +kernel
theorem dX11_isAxiom_3 : decode cX11_isAxiom 3 = .ok (.aload_n 0, 1) := by decide +kernel
theorem dX11_isAxiom_4 : decode cX11_isAxiom 4 = .ok (.getfield 128, 3) := by decide +kernel
theorem dX11_isAxiom_7 : decode cX11_isAxiom 7 = .ok (.if_icmp .ge 21, 3) := by decide +kernel
theorem dX11_isAxiom_10 : decode cX11_isAxiom 10 = .ok (.aload_n 0, 1) := by decide +kernel
theorem dX11_isAxiom_11 : decode cX11_isAxiom 11 = .ok (.getfield 7, 3) := by decide +kernel
theorem dX11_isAxiom_14 : decode cX11_isAxiom 14 = .ok (.iload_n 2, 1) := by decide +kernel
theorem dX11_isAxiom_15 : decode cX11_isAxiom 15 = .ok (.iaload, 1) := by decide +kernel
theorem dX11_isAxiom_16 : decode cX11_isAxiom 16 = .ok (.iload_n 1, 1) := by decide +kernel
theorem dX11_isAxiom_17 : decode cX11_isAxiom 17 = .ok (.if_icmp .ne 5, 3) := by decide +kernel
theorem dX11_isAxiom_20 : decode cX11_isAxiom 20 = .ok (.iconst 1, 1) := by decide +kernel
theorem dX11_isAxiom_21 : decode cX11_isAxiom 21 = .ok (.ireturn, 1) := by decide +kernel
theorem dX11_isAxiom_22 : decode cX11_isAxiom 22 = .ok (.iinc 2 1, 3) := by decide +kernel
theorem dX11_isAxiom_25 : decode cX11_isAxiom 25 = .ok (.goto (-23), 3) := by decide +kernel
theorem dX11_isAxiom_28 : decode cX11_isAxiom 28 = .ok (.iconst 0, 1) := by decide +kernel
theorem dX11_isAxiom_29 : decode cX11_isAxiom 29 = .ok (.ireturn, 1) := by decide +kernel
theorem dX11_bestAxiom_0 : decode cX11_bestAxiom 0 = .ok (.iconst (-1), 1) := by decide +kernel
theorem dX11_bestAxiom_1 : decode cX11_bestAxiom 1 = .ok (.istore_n 1, 1) := by decide +kernel
theorem dX11_bestAxiom_2 : decode cX11_bestAxiom 2 = .ok (.iconst 0, 1) := by decide +kernel
theorem dX11_bestAxiom_3 : decode cX11_bestAxiom 3 = .ok (.istore_n 2, 1) := by decide +kernel
theorem dX11_bestAxiom_4 : decode cX11_bestAxiom 4 = .ok (.iload_n 2, 1) := by decide +kernel
theorem dX11_bestAxiom_5 : decode cX11_bestAxiom 5 = .ok (.aload_n 0, 1) := by decide +kernel
theorem dX11_bestAxiom_6 : decode cX11_bestAxiom 6 = .ok (.getfield 317, 3) := by decide +kernel
theorem dX11_bestAxiom_9 : decode cX11_bestAxiom 9 = .ok (.if_icmp .gt 58, 3) := by decide +kernel
theorem dX11_bestAxiom_12 : decode cX11_bestAxiom 12 = .ok (.aload_n 0, 1) := by decide +kernel
theorem dX11_bestAxiom_13 : decode cX11_bestAxiom 13 = .ok (.getfield 49, 3) := by decide +kernel
theorem dX11_bestAxiom_16 : decode cX11_bestAxiom 16 = .ok (.iload_n 2, 1) := by decide +kernel
theorem dX11_bestAxiom_17 : decode cX11_bestAxiom 17 = .ok (.baload, 1) := by decide +kernel
theorem dX11_bestAxiom_18 : decode cX11_bestAxiom 18 = .ok (.ifCond .eq 43, 3) := by decide +kernel
theorem dX11_bestAxiom_21 : decode cX11_bestAxiom 21 = .ok (.aload_n 0, 1) := by decide +kernel
theorem dX11_bestAxiom_22 : decode cX11_bestAxiom 22 = .ok (.getfield 64, 3) := by decide +kernel
theorem dX11_bestAxiom_25 : decode cX11_bestAxiom 25 = .ok (.iload_n 2, 1) := by decide +kernel
theorem dX11_bestAxiom_26 : decode cX11_bestAxiom 26 = .ok (.iaload, 1) := by decide +kernel
theorem dX11_bestAxiom_27 : decode cX11_bestAxiom 27 = .ok (.iconst (-1), 1) := by decide +kernel
theorem dX11_bestAxiom_28 : decode cX11_bestAxiom 28 = .ok (.if_icmp .eq 33, 3) := by decide +kernel
theorem dX11_bestAxiom_31 : decode cX11_bestAxiom 31 = .ok (.aload_n 0, 1) := by decide +kernel
theorem dX11_bestAxiom_32 : decode cX11_bestAxiom 32 = .ok (.iload_n 2, 1) := by decide +kernel
theorem dX11_bestAxiom_33 : decode cX11_bestAxiom 33 = .ok (.invokevirtual 320, 3) := by decide +kernel
theorem dX11_bestAxiom_36 : decode cX11_bestAxiom 36 = .ok (.ifCond .eq 25, 3) := by decide +kernel
theorem dX11_bestAxiom_39 : decode cX11_bestAxiom 39 = .ok (.iload_n 1, 1) := by decide +kernel
theorem dX11_bestAxiom_40 : decode cX11_bestAxiom 40 = .ok (.iconst (-1), 1) := by decide +kernel
theorem dX11_bestAxiom_41 : decode cX11_bestAxiom 41 = .ok (.if_icmp .eq 18, 3) := by decide +kernel
theorem dX11_bestAxiom_44 : decode cX11_bestAxiom 44 = .ok (.aload_n 0, 1) := by decide +kernel
theorem dX11_bestAxiom_45 : decode cX11_bestAxiom 45 = .ok (.getfield 64, 3) := by decide +kernel
theorem dX11_bestAxiom_48 : decode cX11_bestAxiom 48 = .ok (.iload_n 2, 1) := by decide +kernel
theorem dX11_bestAxiom_49 : decode cX11_bestAxiom 49 = .ok (.iaload, 1) := by decide +kernel
theorem dX11_bestAxiom_50 : decode cX11_bestAxiom 50 = .ok (.aload_n 0, 1) := by decide +kernel
theorem dX11_bestAxiom_51 : decode cX11_bestAxiom 51 = .ok (.getfield 64, 3) := by decide +kernel
theorem dX11_bestAxiom_54 : decode cX11_bestAxiom 54 = .ok (.iload_n 1, 1) := by decide +kernel
theorem dX11_bestAxiom_55 : decode cX11_bestAxiom 55 = .ok (.iaload, 1) := by decide +kernel
theorem dX11_bestAxiom_56 : decode cX11_bestAxiom 56 = .ok (.if_icmp .ge 5, 3) := by decide +kernel
theorem dX11_bestAxiom_59 : decode cX11_bestAxiom 59 = .ok (.iload_n 2, 1) := by decide +kernel
theorem dX11_bestAxiom_60 : decode cX11_bestAxiom 60 = .ok (.istore_n 1, 1) := by decide +kernel
theorem dX11_bestAxiom_61 : decode cX11_bestAxiom 61 = .ok (.iinc 2 1, 3) := by decide +kernel
theorem dX11_bestAxiom_64 : decode cX11_bestAxiom 64 = .ok (.goto (-60), 3) := by decide +kernel
theorem dX11_bestAxiom_67 : decode cX11_bestAxiom 67 = .ok (.iload_n 1, 1) := by decide +kernel
theorem dX11_bestAxiom_68 : decode cX11_bestAxiom 68 = .ok (.ireturn, 1) := by decide +kernel
theorem dX11_derivationLength_0 : decode cX11_derivationLength 0 = .ok (.aload_n 0, 1) := by decide +kernel
theorem dX11_derivationLength_1 : decode cX11_derivationLength 1 = .ok (.iconst 0, 1) := by decide +kernel
theorem dX11_derivationLength_2 : decode cX11_derivationLength 2 = .ok (.putfield 104, 3) := by decide +kernel
theorem dX11_derivationLength_5 : decode cX11_derivationLength 5 = .ok (.aload_n 0, 1) := by decide +kernel
theorem dX11_derivationLength_6 : decode cX11_derivationLength 6 = .ok (.invokevirtual 278, 3) := by decide +kernel
theorem dX11_derivationLength_9 : decode cX11_derivationLength 9 = .ok (.ifCond .ne 9, 3) := by decide +kernel
theorem dX11_derivationLength_12 : decode cX11_derivationLength 12 = .ok (.aload_n 0, 1) := by decide +kernel
theorem dX11_derivationLength_13 : decode cX11_derivationLength 13 = .ok (.iconst 1, 1) := by decide +kernel
theorem dX11_derivationLength_14 : decode cX11_derivationLength 14 = .ok (.invokevirtual 134, 3) := by decide +kernel
theorem dX11_derivationLength_17 : decode cX11_derivationLength 17 = .ok (.ireturn, 1) := by decide +kernel
theorem dX11_derivationLength_18 : decode cX11_derivationLength 18 = .ok (.aload_n 0, 1) := by decide +kernel
theorem dX11_derivationLength_19 : decode cX11_derivationLength 19 = .ok (.getfield 49, 3) := by decide +kernel
theorem dX11_derivationLength_22 : decode cX11_derivationLength 22 = .ok (.aload_n 0, 1) := by decide +kernel
theorem dX11_derivationLength_23 : decode cX11_derivationLength 23 = .ok (.getfield 317, 3) := by decide +kernel
theorem dX11_derivationLength_26 : decode cX11_derivationLength 26 = .ok (.baload, 1) := by decide +kernel
theorem dX11_derivationLength_27 : decode cX11_derivationLength 27 = .ok (.ifCond .ne 9, 3) := by decide +kernel
theorem dX11_derivationLength_30 : decode cX11_derivationLength 30 = .ok (.aload_n 0, 1) := by decide +kernel
theorem dX11_derivationLength_31 : decode cX11_derivationLength 31 = .ok (.iconst 2, 1) := by decide +kernel
theorem dX11_derivationLength_32 : decode cX11_derivationLength 32 = .ok (.invokevirtual 134, 3) := by decide +kernel
theorem dX11_derivationLength_35 : decode cX11_derivationLength 35 = .ok (.ireturn, 1) := by decide +kernel
theorem dX11_derivationLength_36 : decode cX11_derivationLength 36 = .ok (.aload_n 0, 1) := by decide +kernel
theorem dX11_derivationLength_37 : decode cX11_derivationLength 37 = .ok (.invokevirtual 323, 3) := by decide +kernel
theorem dX11_derivationLength_40 : decode cX11_derivationLength 40 = .ok (.aload_n 0, 1) := by decide +kernel
theorem dX11_derivationLength_41 : decode cX11_derivationLength 41 = .ok (.getfield 64, 3) := by decide +kernel
theorem dX11_derivationLength_44 : decode cX11_derivationLength 44 = .ok (.aload_n 0, 1) := by decide +kernel
theorem dX11_derivationLength_45 : decode cX11_derivationLength 45 = .ok (.invokevirtual 326, 3) := by decide +kernel
theorem dX11_derivationLength_48 : decode cX11_derivationLength 48 = .ok (.iaload, 1) := by decide +kernel
theorem dX11_derivationLength_49 : decode cX11_derivationLength 49 = .ok (.ireturn, 1) := by decide +kernel
theorem dX11_nearer_0 : decode cX11_nearer 0 = .ok (.iconst 0, 1) := by decide +kernel
theorem dX11_nearer_1 : decode cX11_nearer 1 = .ok (.istore_n 2, 1) := by decide +kernel
theorem dX11_nearer_2 : decode cX11_nearer 2 = .ok (.iload_n 2, 1) := by decide +kernel
theorem dX11_nearer_3 : decode cX11_nearer 3 = .ok (.bipush 100, 2) := by decide +kernel
theorem dX11_nearer_5 : decode cX11_nearer 5 = .ok (.aload_n 0, 1) := by decide +kernel
theorem dX11_nearer_6 : decode cX11_nearer 6 = .ok (.getfield 121, 3) := by decide +kernel
theorem dX11_nearer_9 : decode cX11_nearer 9 = .ok (.imul, 1) := by decide +kernel
theorem dX11_nearer_10 : decode cX11_nearer 10 = .ok (.if_icmp .ge 95, 3) := by decide +kernel
theorem dX11_nearer_13 : decode cX11_nearer 13 = .ok (.iload_n 2, 1) := by decide +kernel
theorem dX11_nearer_14 : decode cX11_nearer 14 = .ok (.bipush 100, 2) := by decide +kernel
theorem dX11_nearer_16 : decode cX11_nearer 16 = .ok (.idiv, 1) := by decide +kernel
theorem dX11_nearer_17 : decode cX11_nearer 17 = .ok (.istore_n 3, 1) := by decide +kernel
theorem dX11_nearer_18 : decode cX11_nearer 18 = .ok (.aload_n 0, 1) := by decide +kernel
theorem dX11_nearer_19 : decode cX11_nearer 19 = .ok (.iload_n 1, 1) := by decide +kernel
theorem dX11_nearer_20 : decode cX11_nearer 20 = .ok (.iload_n 3, 1) := by decide +kernel
theorem dX11_nearer_21 : decode cX11_nearer 21 = .ok (.invokevirtual 260, 3) := by decide +kernel
theorem dX11_nearer_24 : decode cX11_nearer 24 = .ok (.aload_n 0, 1) := by decide +kernel
theorem dX11_nearer_25 : decode cX11_nearer 25 = .ok (.iload_n 3, 1) := by decide +kernel
theorem dX11_nearer_26 : decode cX11_nearer 26 = .ok (.invokevirtual 263, 3) := by decide +kernel
theorem dX11_nearer_29 : decode cX11_nearer 29 = .ok (.ifCond .eq 70, 3) := by decide +kernel
theorem dX11_nearer_32 : decode cX11_nearer 32 = .ok (.aload_n 0, 1) := by decide +kernel
theorem dX11_nearer_33 : decode cX11_nearer 33 = .ok (.iload_n 2, 1) := by decide +kernel
theorem dX11_nearer_34 : decode cX11_nearer 34 = .ok (.bipush 100, 2) := by decide +kernel
theorem dX11_nearer_36 : decode cX11_nearer 36 = .ok (.irem, 1) := by decide +kernel
theorem dX11_nearer_37 : decode cX11_nearer 37 = .ok (.invokevirtual 266, 3) := by decide +kernel
theorem dX11_nearer_40 : decode cX11_nearer 40 = .ok (.ifCond .eq 59, 3) := by decide +kernel
theorem dX11_nearer_43 : decode cX11_nearer 43 = .ok (.aload_n 0, 1) := by decide +kernel
theorem dX11_nearer_44 : decode cX11_nearer 44 = .ok (.iload_n 2, 1) := by decide +kernel
theorem dX11_nearer_45 : decode cX11_nearer 45 = .ok (.bipush 10, 2) := by decide +kernel
theorem dX11_nearer_47 : decode cX11_nearer 47 = .ok (.idiv, 1) := by decide +kernel
theorem dX11_nearer_48 : decode cX11_nearer 48 = .ok (.bipush 10, 2) := by decide +kernel
theorem dX11_nearer_50 : decode cX11_nearer 50 = .ok (.irem, 1) := by decide +kernel
theorem dX11_nearer_51 : decode cX11_nearer 51 = .ok (.iload_n 2, 1) := by decide +kernel
theorem dX11_nearer_52 : decode cX11_nearer 52 = .ok (.bipush 10, 2) := by decide +kernel
theorem dX11_nearer_54 : decode cX11_nearer 54 = .ok (.irem, 1) := by decide +kernel
theorem dX11_nearer_55 : decode cX11_nearer 55 = .ok (.invokevirtual 269, 3) := by decide +kernel
theorem dX11_nearer_58 : decode cX11_nearer 58 = .ok (.ifCond .eq 41, 3) := by decide +kernel
theorem dX11_nearer_61 : decode cX11_nearer 61 = .ok (.aload_n 0, 1) := by decide +kernel
theorem dX11_nearer_62 : decode cX11_nearer 62 = .ok (.iload_n 3, 1) := by decide +kernel
theorem dX11_nearer_63 : decode cX11_nearer 63 = .ok (.iload_n 2, 1) := by decide +kernel
theorem dX11_nearer_64 : decode cX11_nearer 64 = .ok (.bipush 10, 2) := by decide +kernel
theorem dX11_nearer_66 : decode cX11_nearer 66 = .ok (.idiv, 1) := by decide +kernel
theorem dX11_nearer_67 : decode cX11_nearer 67 = .ok (.bipush 10, 2) := by decide +kernel
theorem dX11_nearer_69 : decode cX11_nearer 69 = .ok (.irem, 1) := by decide +kernel
theorem dX11_nearer_70 : decode cX11_nearer 70 = .ok (.iload_n 2, 1) := by decide +kernel
theorem dX11_nearer_71 : decode cX11_nearer 71 = .ok (.bipush 10, 2) := by decide +kernel
theorem dX11_nearer_73 : decode cX11_nearer 73 = .ok (.irem, 1) := by decide +kernel
theorem dX11_nearer_74 : decode cX11_nearer 74 = .ok (.invokevirtual 272, 3) := by decide +kernel
theorem dX11_nearer_77 : decode cX11_nearer 77 = .ok (.istore 4, 2) := by decide +kernel
theorem dX11_nearer_79 : decode cX11_nearer 79 = .ok (.aload_n 0, 1) := by decide +kernel
theorem dX11_nearer_80 : decode cX11_nearer 80 = .ok (.getfield 64, 3) := by decide +kernel
theorem dX11_nearer_83 : decode cX11_nearer 83 = .ok (.iload 4, 2) := by decide +kernel
theorem dX11_nearer_85 : decode cX11_nearer 85 = .ok (.iaload, 1) := by decide +kernel
theorem dX11_nearer_86 : decode cX11_nearer 86 = .ok (.aload_n 0, 1) := by decide +kernel
theorem dX11_nearer_87 : decode cX11_nearer 87 = .ok (.getfield 64, 3) := by decide +kernel
theorem dX11_nearer_90 : decode cX11_nearer 90 = .ok (.iload_n 1, 1) := by decide +kernel
theorem dX11_nearer_91 : decode cX11_nearer 91 = .ok (.iaload, 1) := by decide +kernel
theorem dX11_nearer_92 : decode cX11_nearer 92 = .ok (.iconst 1, 1) := by decide +kernel
theorem dX11_nearer_93 : decode cX11_nearer 93 = .ok (.isub, 1) := by decide +kernel
theorem dX11_nearer_94 : decode cX11_nearer 94 = .ok (.if_icmp .ne 5, 3) := by decide +kernel
theorem dX11_nearer_97 : decode cX11_nearer 97 = .ok (.iload_n 2, 1) := by decide +kernel
theorem dX11_nearer_98 : decode cX11_nearer 98 = .ok (.ireturn, 1) := by decide +kernel
theorem dX11_nearer_99 : decode cX11_nearer 99 = .ok (.iinc 2 1, 3) := by decide +kernel
theorem dX11_nearer_102 : decode cX11_nearer 102 = .ok (.goto (-100), 3) := by decide +kernel
theorem dX11_nearer_105 : decode cX11_nearer 105 = .ok (.iconst (-1), 1) := by decide +kernel
theorem dX11_nearer_106 : decode cX11_nearer 106 = .ok (.ireturn, 1) := by decide +kernel
theorem dX11_derivationStep_0 : decode cX11_derivationStep 0 = .ok (.aload_n 0, 1) := by decide +kernel
theorem dX11_derivationStep_1 : decode cX11_derivationStep 1 = .ok (.iconst 0, 1) := by decide +kernel
theorem dX11_derivationStep_2 : decode cX11_derivationStep 2 = .ok (.putfield 104, 3) := by decide +kernel
theorem dX11_derivationStep_5 : decode cX11_derivationStep 5 = .ok (.iload_n 2, 1) := by decide +kernel
theorem dX11_derivationStep_6 : decode cX11_derivationStep 6 = .ok (.iconst 0, 1) := by decide +kernel
theorem dX11_derivationStep_7 : decode cX11_derivationStep 7 = .ok (.iconst 2, 1) := by decide +kernel
theorem dX11_derivationStep_8 : decode cX11_derivationStep 8 = .ok (.invokestatic 124, 3) := by decide +kernel
theorem dX11_derivationStep_11 : decode cX11_derivationStep 11 = .ok (.ifCond .ne 9, 3) := by decide +kernel
theorem dX11_derivationStep_14 : decode cX11_derivationStep 14 = .ok (.aload_n 0, 1) := by decide +kernel
theorem dX11_derivationStep_15 : decode cX11_derivationStep 15 = .ok (.iconst 1, 1) := by decide +kernel
theorem dX11_derivationStep_16 : decode cX11_derivationStep 16 = .ok (.invokevirtual 134, 3) := by decide +kernel
theorem dX11_derivationStep_19 : decode cX11_derivationStep 19 = .ok (.ireturn, 1) := by decide +kernel
theorem dX11_derivationStep_20 : decode cX11_derivationStep 20 = .ok (.aload_n 0, 1) := by decide +kernel
theorem dX11_derivationStep_21 : decode cX11_derivationStep 21 = .ok (.invokevirtual 278, 3) := by decide +kernel
theorem dX11_derivationStep_24 : decode cX11_derivationStep 24 = .ok (.ifCond .ne 9, 3) := by decide +kernel
theorem dX11_derivationStep_27 : decode cX11_derivationStep 27 = .ok (.aload_n 0, 1) := by decide +kernel
theorem dX11_derivationStep_28 : decode cX11_derivationStep 28 = .ok (.iconst 2, 1) := by decide +kernel
theorem dX11_derivationStep_29 : decode cX11_derivationStep 29 = .ok (.invokevirtual 134, 3) := by decide +kernel
theorem dX11_derivationStep_32 : decode cX11_derivationStep 32 = .ok (.ireturn, 1) := by decide +kernel
theorem dX11_derivationStep_33 : decode cX11_derivationStep 33 = .ok (.aload_n 0, 1) := by decide +kernel
theorem dX11_derivationStep_34 : decode cX11_derivationStep 34 = .ok (.getfield 49, 3) := by decide +kernel
theorem dX11_derivationStep_37 : decode cX11_derivationStep 37 = .ok (.aload_n 0, 1) := by decide +kernel
theorem dX11_derivationStep_38 : decode cX11_derivationStep 38 = .ok (.getfield 317, 3) := by decide +kernel
theorem dX11_derivationStep_41 : decode cX11_derivationStep 41 = .ok (.baload, 1) := by decide +kernel
theorem dX11_derivationStep_42 : decode cX11_derivationStep 42 = .ok (.ifCond .ne 9, 3) := by decide +kernel
theorem dX11_derivationStep_45 : decode cX11_derivationStep 45 = .ok (.aload_n 0, 1) := by decide +kernel
theorem dX11_derivationStep_46 : decode cX11_derivationStep 46 = .ok (.iconst 3, 1) := by decide +kernel
theorem dX11_derivationStep_47 : decode cX11_derivationStep 47 = .ok (.invokevirtual 134, 3) := by decide +kernel
theorem dX11_derivationStep_50 : decode cX11_derivationStep 50 = .ok (.ireturn, 1) := by decide +kernel
theorem dX11_derivationStep_51 : decode cX11_derivationStep 51 = .ok (.aload_n 0, 1) := by decide +kernel
theorem dX11_derivationStep_52 : decode cX11_derivationStep 52 = .ok (.invokevirtual 323, 3) := by decide +kernel
theorem dX11_derivationStep_55 : decode cX11_derivationStep 55 = .ok (.aload_n 0, 1) := by decide +kernel
theorem dX11_derivationStep_56 : decode cX11_derivationStep 56 = .ok (.invokevirtual 326, 3) := by decide +kernel
theorem dX11_derivationStep_59 : decode cX11_derivationStep 59 = .ok (.istore_n 3, 1) := by decide +kernel
theorem dX11_derivationStep_60 : decode cX11_derivationStep 60 = .ok (.iload_n 1, 1) := by decide +kernel
theorem dX11_derivationStep_61 : decode cX11_derivationStep 61 = .ok (.iconst 0, 1) := by decide +kernel
theorem dX11_derivationStep_62 : decode cX11_derivationStep 62 = .ok (.aload_n 0, 1) := by decide +kernel
theorem dX11_derivationStep_63 : decode cX11_derivationStep 63 = .ok (.getfield 64, 3) := by decide +kernel
theorem dX11_derivationStep_66 : decode cX11_derivationStep 66 = .ok (.iload_n 3, 1) := by decide +kernel
theorem dX11_derivationStep_67 : decode cX11_derivationStep 67 = .ok (.iaload, 1) := by decide +kernel
theorem dX11_derivationStep_68 : decode cX11_derivationStep 68 = .ok (.iconst 1, 1) := by decide +kernel
theorem dX11_derivationStep_69 : decode cX11_derivationStep 69 = .ok (.isub, 1) := by decide +kernel
theorem dX11_derivationStep_70 : decode cX11_derivationStep 70 = .ok (.invokestatic 124, 3) := by decide +kernel
theorem dX11_derivationStep_73 : decode cX11_derivationStep 73 = .ok (.ifCond .ne 9, 3) := by decide +kernel
theorem dX11_derivationStep_76 : decode cX11_derivationStep 76 = .ok (.aload_n 0, 1) := by decide +kernel
theorem dX11_derivationStep_77 : decode cX11_derivationStep 77 = .ok (.iconst 4, 1) := by decide +kernel
theorem dX11_derivationStep_78 : decode cX11_derivationStep 78 = .ok (.invokevirtual 134, 3) := by decide +kernel
theorem dX11_derivationStep_81 : decode cX11_derivationStep 81 = .ok (.ireturn, 1) := by decide +kernel
theorem dX11_derivationStep_82 : decode cX11_derivationStep 82 = .ok (.iconst (-1), 1) := by decide +kernel
theorem dX11_derivationStep_83 : decode cX11_derivationStep 83 = .ok (.istore 4, 2) := by decide +kernel
theorem dX11_derivationStep_85 : decode cX11_derivationStep 85 = .ok (.iconst 0, 1) := by decide +kernel
theorem dX11_derivationStep_86 : decode cX11_derivationStep 86 = .ok (.istore 5, 2) := by decide +kernel
theorem dX11_derivationStep_88 : decode cX11_derivationStep 88 = .ok (.iload 5, 2) := by decide +kernel
theorem dX11_derivationStep_90 : decode cX11_derivationStep 90 = .ok (.iload_n 1, 1) := by decide +kernel
theorem dX11_derivationStep_91 : decode cX11_derivationStep 91 = .ok (.if_icmp .gt 49, 3) := by decide +kernel
theorem dX11_derivationStep_94 : decode cX11_derivationStep 94 = .ok (.aload_n 0, 1) := by decide +kernel
theorem dX11_derivationStep_95 : decode cX11_derivationStep 95 = .ok (.iload_n 3, 1) := by decide +kernel
theorem dX11_derivationStep_96 : decode cX11_derivationStep 96 = .ok (.invokevirtual 329, 3) := by decide +kernel
theorem dX11_derivationStep_99 : decode cX11_derivationStep 99 = .ok (.istore 4, 2) := by decide +kernel
theorem dX11_derivationStep_101 : decode cX11_derivationStep 101 = .ok (.aload_n 0, 1) := by decide +kernel
theorem dX11_derivationStep_102 : decode cX11_derivationStep 102 = .ok (.iload_n 3, 1) := by decide +kernel
theorem dX11_derivationStep_103 : decode cX11_derivationStep 103 = .ok (.iload 4, 2) := by decide +kernel
theorem dX11_derivationStep_105 : decode cX11_derivationStep 105 = .ok (.bipush 100, 2) := by decide +kernel
theorem dX11_derivationStep_107 : decode cX11_derivationStep 107 = .ok (.idiv, 1) := by decide +kernel
theorem dX11_derivationStep_108 : decode cX11_derivationStep 108 = .ok (.invokevirtual 260, 3) := by decide +kernel
theorem dX11_derivationStep_111 : decode cX11_derivationStep 111 = .ok (.aload_n 0, 1) := by decide +kernel
theorem dX11_derivationStep_112 : decode cX11_derivationStep 112 = .ok (.iload 4, 2) := by decide +kernel
theorem dX11_derivationStep_114 : decode cX11_derivationStep 114 = .ok (.bipush 100, 2) := by decide +kernel
theorem dX11_derivationStep_116 : decode cX11_derivationStep 116 = .ok (.idiv, 1) := by decide +kernel
theorem dX11_derivationStep_117 : decode cX11_derivationStep 117 = .ok (.iload 4, 2) := by decide +kernel
theorem dX11_derivationStep_119 : decode cX11_derivationStep 119 = .ok (.bipush 10, 2) := by decide +kernel
theorem dX11_derivationStep_121 : decode cX11_derivationStep 121 = .ok (.idiv, 1) := by decide +kernel
theorem dX11_derivationStep_122 : decode cX11_derivationStep 122 = .ok (.bipush 10, 2) := by decide +kernel
theorem dX11_derivationStep_124 : decode cX11_derivationStep 124 = .ok (.irem, 1) := by decide +kernel
theorem dX11_derivationStep_125 : decode cX11_derivationStep 125 = .ok (.iload 4, 2) := by decide +kernel
theorem dX11_derivationStep_127 : decode cX11_derivationStep 127 = .ok (.bipush 10, 2) := by decide +kernel
theorem dX11_derivationStep_129 : decode cX11_derivationStep 129 = .ok (.irem, 1) := by decide +kernel
theorem dX11_derivationStep_130 : decode cX11_derivationStep 130 = .ok (.invokevirtual 272, 3) := by decide +kernel
theorem dX11_derivationStep_133 : decode cX11_derivationStep 133 = .ok (.istore_n 3, 1) := by decide +kernel
theorem dX11_derivationStep_134 : decode cX11_derivationStep 134 = .ok (.iinc 5 1, 3) := by decide +kernel
theorem dX11_derivationStep_137 : decode cX11_derivationStep 137 = .ok (.goto (-49), 3) := by decide +kernel
theorem dX11_derivationStep_140 : decode cX11_derivationStep 140 = .ok (.iload_n 2, 1) := by decide +kernel
theorem dX11_derivationStep_141 : decode cX11_derivationStep 141 = .ok (.ifCond .ne 11, 3) := by decide +kernel
theorem dX11_derivationStep_144 : decode cX11_derivationStep 144 = .ok (.iload 4, 2) := by decide +kernel
theorem dX11_derivationStep_146 : decode cX11_derivationStep 146 = .ok (.bipush 100, 2) := by decide +kernel
theorem dX11_derivationStep_148 : decode cX11_derivationStep 148 = .ok (.idiv, 1) := by decide +kernel
theorem dX11_derivationStep_149 : decode cX11_derivationStep 149 = .ok (.goto 24, 3) := by decide +kernel
theorem dX11_derivationStep_152 : decode cX11_derivationStep 152 = .ok (.iload_n 2, 1) := by decide +kernel
theorem dX11_derivationStep_153 : decode cX11_derivationStep 153 = .ok (.iconst 1, 1) := by decide +kernel
theorem dX11_derivationStep_154 : decode cX11_derivationStep 154 = .ok (.if_icmp .ne 14, 3) := by decide +kernel
theorem dX11_derivationStep_157 : decode cX11_derivationStep 157 = .ok (.iload 4, 2) := by decide +kernel
theorem dX11_derivationStep_159 : decode cX11_derivationStep 159 = .ok (.bipush 10, 2) := by decide +kernel
theorem dX11_derivationStep_161 : decode cX11_derivationStep 161 = .ok (.idiv, 1) := by decide +kernel
theorem dX11_derivationStep_162 : decode cX11_derivationStep 162 = .ok (.bipush 10, 2) := by decide +kernel
theorem dX11_derivationStep_164 : decode cX11_derivationStep 164 = .ok (.irem, 1) := by decide +kernel
theorem dX11_derivationStep_165 : decode cX11_derivationStep 165 = .ok (.goto 8, 3) := by decide +kernel
theorem dX11_derivationStep_168 : decode cX11_derivationStep 168 = .ok (.iload 4, 2) := by decide +kernel
theorem dX11_derivationStep_170 : decode cX11_derivationStep 170 = .ok (.bipush 10, 2) := by decide +kernel
theorem dX11_derivationStep_172 : decode cX11_derivationStep 172 = .ok (.irem, 1) := by decide +kernel
theorem dX11_derivationStep_173 : decode cX11_derivationStep 173 = .ok (.ireturn, 1) := by decide +kernel
theorem dX11_derivations_0 : decode cX11_derivations 0 = .ok (.aload_n 0, 1) := by decide +kernel
theorem dX11_derivations_1 : decode cX11_derivations 1 = .ok (.iconst 0, 1) := by decide +kernel
theorem dX11_derivations_2 : decode cX11_derivations 2 = .ok (.putfield 104, 3) := by decide +kernel
theorem dX11_derivations_5 : decode cX11_derivations 5 = .ok (.aload_n 0, 1) := by decide +kernel
theorem dX11_derivations_6 : decode cX11_derivations 6 = .ok (.invokevirtual 278, 3) := by decide +kernel
theorem dX11_derivations_9 : decode cX11_derivations 9 = .ok (.ifCond .ne 10, 3) := by decide +kernel
theorem dX11_derivations_12 : decode cX11_derivations 12 = .ok (.aload_n 0, 1) := by decide +kernel
theorem dX11_derivations_13 : decode cX11_derivations 13 = .ok (.iconst 1, 1) := by decide +kernel
theorem dX11_derivations_14 : decode cX11_derivations 14 = .ok (.invokevirtual 134, 3) := by decide +kernel
theorem dX11_derivations_17 : decode cX11_derivations 17 = .ok (.i2l, 1) := by decide +kernel
theorem dX11_derivations_18 : decode cX11_derivations 18 = .ok (.lreturn, 1) := by decide +kernel
theorem dX11_derivations_19 : decode cX11_derivations 19 = .ok (.iconst 0, 1) := by decide +kernel
theorem dX11_derivations_20 : decode cX11_derivations 20 = .ok (.istore_n 1, 1) := by decide +kernel
theorem dX11_derivations_21 : decode cX11_derivations 21 = .ok (.iload_n 1, 1) := by decide +kernel
theorem dX11_derivations_22 : decode cX11_derivations 22 = .ok (.sipush 29524, 3) := by decide +kernel
theorem dX11_derivations_25 : decode cX11_derivations 25 = .ok (.if_icmp .ge 37, 3) := by decide +kernel
theorem dX11_derivations_28 : decode cX11_derivations 28 = .ok (.aload_n 0, 1) := by decide +kernel
theorem dX11_derivations_29 : decode cX11_derivations 29 = .ok (.getfield 67, 3) := by decide +kernel
theorem dX11_derivations_32 : decode cX11_derivations 32 = .ok (.iload_n 1, 1) := by decide +kernel
theorem dX11_derivations_33 : decode cX11_derivations 33 = .ok (.aload_n 0, 1) := by decide +kernel
theorem dX11_derivations_34 : decode cX11_derivations 34 = .ok (.getfield 49, 3) := by decide +kernel
theorem dX11_derivations_37 : decode cX11_derivations 37 = .ok (.iload_n 1, 1) := by decide +kernel
theorem dX11_derivations_38 : decode cX11_derivations 38 = .ok (.baload, 1) := by decide +kernel
theorem dX11_derivations_39 : decode cX11_derivations 39 = .ok (.ifCond .eq 15, 3) := by decide +kernel
theorem dX11_derivations_42 : decode cX11_derivations 42 = .ok (.aload_n 0, 1) := by decide +kernel
theorem dX11_derivations_43 : decode cX11_derivations 43 = .ok (.iload_n 1, 1) := by decide +kernel
theorem dX11_derivations_44 : decode cX11_derivations 44 = .ok (.invokevirtual 320, 3) := by decide +kernel
theorem dX11_derivations_47 : decode cX11_derivations 47 = .ok (.ifCond .eq 7, 3) := by decide +kernel
theorem dX11_derivations_50 : decode cX11_derivations 50 = .ok (.lconst 1, 1) := by decide +kernel
theorem dX11_derivations_51 : decode cX11_derivations 51 = .ok (.goto 4, 3) := by decide +kernel
theorem dX11_derivations_54 : decode cX11_derivations 54 = .ok (.lconst 0, 1) := by decide +kernel
theorem dX11_derivations_55 : decode cX11_derivations 55 = .ok (.lastore, 1) := by decide +kernel
theorem dX11_derivations_56 : decode cX11_derivations 56 = .ok (.iinc 1 1, 3) := by decide +kernel
theorem dX11_derivations_59 : decode cX11_derivations 59 = .ok (.goto (-38), 3) := by decide +kernel
theorem dX11_derivations_62 : decode cX11_derivations 62 = .ok (.iconst 0, 1) := by decide +kernel
theorem dX11_derivations_63 : decode cX11_derivations 63 = .ok (.istore_n 1, 1) := by decide +kernel
theorem dX11_derivations_64 : decode cX11_derivations 64 = .ok (.iload_n 1, 1) := by decide +kernel
theorem dX11_derivations_65 : decode cX11_derivations 65 = .ok (.aload_n 0, 1) := by decide +kernel
theorem dX11_derivations_66 : decode cX11_derivations 66 = .ok (.getfield 317, 3) := by decide +kernel
theorem dX11_derivations_69 : decode cX11_derivations 69 = .ok (.if_icmp .ge 112, 3) := by decide +kernel
theorem dX11_derivations_72 : decode cX11_derivations 72 = .ok (.iconst 0, 1) := by decide +kernel
theorem dX11_derivations_73 : decode cX11_derivations 73 = .ok (.istore_n 2, 1) := by decide +kernel
theorem dX11_derivations_74 : decode cX11_derivations 74 = .ok (.iload_n 2, 1) := by decide +kernel
theorem dX11_derivations_75 : decode cX11_derivations 75 = .ok (.aload_n 0, 1) := by decide +kernel
theorem dX11_derivations_76 : decode cX11_derivations 76 = .ok (.getfield 121, 3) := by decide +kernel
theorem dX11_derivations_79 : decode cX11_derivations 79 = .ok (.if_icmp .ge 96, 3) := by decide +kernel
theorem dX11_derivations_82 : decode cX11_derivations 82 = .ok (.aload_n 0, 1) := by decide +kernel
theorem dX11_derivations_83 : decode cX11_derivations 83 = .ok (.getfield 49, 3) := by decide +kernel
theorem dX11_derivations_86 : decode cX11_derivations 86 = .ok (.iload_n 1, 1) := by decide +kernel
theorem dX11_derivations_87 : decode cX11_derivations 87 = .ok (.baload, 1) := by decide +kernel
theorem dX11_derivations_88 : decode cX11_derivations 88 = .ok (.ifCond .eq 87, 3) := by decide +kernel
theorem dX11_derivations_91 : decode cX11_derivations 91 = .ok (.aload_n 0, 1) := by decide +kernel
theorem dX11_derivations_92 : decode cX11_derivations 92 = .ok (.iload_n 1, 1) := by decide +kernel
theorem dX11_derivations_93 : decode cX11_derivations 93 = .ok (.iload_n 2, 1) := by decide +kernel
theorem dX11_derivations_94 : decode cX11_derivations 94 = .ok (.invokevirtual 260, 3) := by decide +kernel
theorem dX11_derivations_97 : decode cX11_derivations 97 = .ok (.iconst 0, 1) := by decide +kernel
theorem dX11_derivations_98 : decode cX11_derivations 98 = .ok (.istore_n 3, 1) := by decide +kernel
theorem dX11_derivations_99 : decode cX11_derivations 99 = .ok (.iload_n 3, 1) := by decide +kernel
theorem dX11_derivations_100 : decode cX11_derivations 100 = .ok (.bipush 100, 2) := by decide +kernel
theorem dX11_derivations_102 : decode cX11_derivations 102 = .ok (.if_icmp .ge 67, 3) := by decide +kernel
theorem dX11_derivations_105 : decode cX11_derivations 105 = .ok (.aload_n 0, 1) := by decide +kernel
theorem dX11_derivations_106 : decode cX11_derivations 106 = .ok (.iload_n 2, 1) := by decide +kernel
theorem dX11_derivations_107 : decode cX11_derivations 107 = .ok (.invokevirtual 263, 3) := by decide +kernel
theorem dX11_derivations_110 : decode cX11_derivations 110 = .ok (.ifCond .eq 59, 3) := by decide +kernel
theorem dX11_derivations_113 : decode cX11_derivations 113 = .ok (.aload_n 0, 1) := by decide +kernel
theorem dX11_derivations_114 : decode cX11_derivations 114 = .ok (.iload_n 3, 1) := by decide +kernel
theorem dX11_derivations_115 : decode cX11_derivations 115 = .ok (.invokevirtual 266, 3) := by decide +kernel
theorem dX11_derivations_118 : decode cX11_derivations 118 = .ok (.ifCond .eq 45, 3) := by decide +kernel
theorem dX11_derivations_121 : decode cX11_derivations 121 = .ok (.aload_n 0, 1) := by decide +kernel
theorem dX11_derivations_122 : decode cX11_derivations 122 = .ok (.iload_n 3, 1) := by decide +kernel
theorem dX11_derivations_123 : decode cX11_derivations 123 = .ok (.bipush 10, 2) := by decide +kernel
theorem dX11_derivations_125 : decode cX11_derivations 125 = .ok (.idiv, 1) := by decide +kernel
theorem dX11_derivations_126 : decode cX11_derivations 126 = .ok (.iload_n 3, 1) := by decide +kernel
theorem dX11_derivations_127 : decode cX11_derivations 127 = .ok (.bipush 10, 2) := by decide +kernel
theorem dX11_derivations_129 : decode cX11_derivations 129 = .ok (.irem, 1) := by decide +kernel
theorem dX11_derivations_130 : decode cX11_derivations 130 = .ok (.invokevirtual 269, 3) := by decide +kernel
theorem dX11_derivations_133 : decode cX11_derivations 133 = .ok (.ifCond .eq 30, 3) := by decide +kernel
theorem dX11_derivations_136 : decode cX11_derivations 136 = .ok (.aload_n 0, 1) := by decide +kernel
theorem dX11_derivations_137 : decode cX11_derivations 137 = .ok (.getfield 67, 3) := by decide +kernel
theorem dX11_derivations_140 : decode cX11_derivations 140 = .ok (.aload_n 0, 1) := by decide +kernel
theorem dX11_derivations_141 : decode cX11_derivations 141 = .ok (.iload_n 2, 1) := by decide +kernel
theorem dX11_derivations_142 : decode cX11_derivations 142 = .ok (.iload_n 3, 1) := by decide +kernel
theorem dX11_derivations_143 : decode cX11_derivations 143 = .ok (.bipush 10, 2) := by decide +kernel
theorem dX11_derivations_145 : decode cX11_derivations 145 = .ok (.idiv, 1) := by decide +kernel
theorem dX11_derivations_146 : decode cX11_derivations 146 = .ok (.iload_n 3, 1) := by decide +kernel
theorem dX11_derivations_147 : decode cX11_derivations 147 = .ok (.bipush 10, 2) := by decide +kernel
theorem dX11_derivations_149 : decode cX11_derivations 149 = .ok (.irem, 1) := by decide +kernel
theorem dX11_derivations_150 : decode cX11_derivations 150 = .ok (.invokevirtual 272, 3) := by decide +kernel
theorem dX11_derivations_153 : decode cX11_derivations 153 = .ok (.dup2, 1) := by decide +kernel
theorem dX11_derivations_154 : decode cX11_derivations 154 = .ok (.laload, 1) := by decide +kernel
theorem dX11_derivations_155 : decode cX11_derivations 155 = .ok (.aload_n 0, 1) := by decide +kernel
theorem dX11_derivations_156 : decode cX11_derivations 156 = .ok (.getfield 67, 3) := by decide +kernel
theorem dX11_derivations_159 : decode cX11_derivations 159 = .ok (.iload_n 1, 1) := by decide +kernel
theorem dX11_derivations_160 : decode cX11_derivations 160 = .ok (.laload, 1) := by decide +kernel
theorem dX11_derivations_161 : decode cX11_derivations 161 = .ok (.ladd, 1) := by decide +kernel
theorem dX11_derivations_162 : decode cX11_derivations 162 = .ok (.lastore, 1) := by decide +kernel
theorem dX11_derivations_163 : decode cX11_derivations 163 = .ok (.iinc 3 1, 3) := by decide +kernel
theorem dX11_derivations_166 : decode cX11_derivations 166 = .ok (.goto (-67), 3) := by decide +kernel
theorem dX11_derivations_169 : decode cX11_derivations 169 = .ok (.iinc 2 1, 3) := by decide +kernel
theorem dX11_derivations_172 : decode cX11_derivations 172 = .ok (.goto (-98), 3) := by decide +kernel
theorem dX11_derivations_175 : decode cX11_derivations 175 = .ok (.iinc 1 1, 3) := by decide +kernel
theorem dX11_derivations_178 : decode cX11_derivations 178 = .ok (.goto (-114), 3) := by decide +kernel
theorem dX11_derivations_181 : decode cX11_derivations 181 = .ok (.aload_n 0, 1) := by decide +kernel
theorem dX11_derivations_182 : decode cX11_derivations 182 = .ok (.getfield 67, 3) := by decide +kernel
theorem dX11_derivations_185 : decode cX11_derivations 185 = .ok (.aload_n 0, 1) := by decide +kernel
theorem dX11_derivations_186 : decode cX11_derivations 186 = .ok (.getfield 317, 3) := by decide +kernel
theorem dX11_derivations_189 : decode cX11_derivations 189 = .ok (.laload, 1) := by decide +kernel
theorem dX11_derivations_190 : decode cX11_derivations 190 = .ok (.lreturn, 1) := by decide +kernel
theorem dX11_findInsertion_0 : decode cX11_findInsertion 0 = .ok (.iconst 0, 1) := by decide +kernel
theorem dX11_findInsertion_1 : decode cX11_findInsertion 1 = .ok (.istore_n 2, 1) := by decide +kernel
theorem dX11_findInsertion_2 : decode cX11_findInsertion 2 = .ok (.iconst 0, 1) := by decide +kernel
theorem dX11_findInsertion_3 : decode cX11_findInsertion 3 = .ok (.istore_n 3, 1) := by decide +kernel
theorem dX11_findInsertion_4 : decode cX11_findInsertion 4 = .ok (.iload_n 3, 1) := by decide +kernel
theorem dX11_findInsertion_5 : decode cX11_findInsertion 5 = .ok (.bipush 100, 2) := by decide +kernel
theorem dX11_findInsertion_7 : decode cX11_findInsertion 7 = .ok (.aload_n 0, 1) := by decide +kernel
theorem dX11_findInsertion_8 : decode cX11_findInsertion 8 = .ok (.getfield 121, 3) := by decide +kernel
theorem dX11_findInsertion_11 : decode cX11_findInsertion 11 = .ok (.imul, 1) := by decide +kernel
theorem dX11_findInsertion_12 : decode cX11_findInsertion 12 = .ok (.if_icmp .ge 80, 3) := by decide +kernel
theorem dX11_findInsertion_15 : decode cX11_findInsertion 15 = .ok (.iload_n 3, 1) := by decide +kernel
theorem dX11_findInsertion_16 : decode cX11_findInsertion 16 = .ok (.bipush 100, 2) := by decide +kernel
theorem dX11_findInsertion_18 : decode cX11_findInsertion 18 = .ok (.idiv, 1) := by decide +kernel
theorem dX11_findInsertion_19 : decode cX11_findInsertion 19 = .ok (.istore 4, 2) := by decide +kernel
theorem dX11_findInsertion_21 : decode cX11_findInsertion 21 = .ok (.iload_n 3, 1) := by decide +kernel
theorem dX11_findInsertion_22 : decode cX11_findInsertion 22 = .ok (.bipush 100, 2) := by decide +kernel
theorem dX11_findInsertion_24 : decode cX11_findInsertion 24 = .ok (.irem, 1) := by decide +kernel
theorem dX11_findInsertion_25 : decode cX11_findInsertion 25 = .ok (.ifCond .ne 13, 3) := by decide +kernel
theorem dX11_findInsertion_28 : decode cX11_findInsertion 28 = .ok (.aload_n 0, 1) := by decide +kernel
theorem dX11_findInsertion_29 : decode cX11_findInsertion 29 = .ok (.aload_n 0, 1) := by decide +kernel
theorem dX11_findInsertion_30 : decode cX11_findInsertion 30 = .ok (.getfield 317, 3) := by decide +kernel
theorem dX11_findInsertion_33 : decode cX11_findInsertion 33 = .ok (.iload 4, 2) := by decide +kernel
theorem dX11_findInsertion_35 : decode cX11_findInsertion 35 = .ok (.invokevirtual 260, 3) := by decide +kernel
theorem dX11_findInsertion_38 : decode cX11_findInsertion 38 = .ok (.aload_n 0, 1) := by decide +kernel
theorem dX11_findInsertion_39 : decode cX11_findInsertion 39 = .ok (.iload 4, 2) := by decide +kernel
theorem dX11_findInsertion_41 : decode cX11_findInsertion 41 = .ok (.invokevirtual 263, 3) := by decide +kernel
theorem dX11_findInsertion_44 : decode cX11_findInsertion 44 = .ok (.ifCond .eq 42, 3) := by decide +kernel
theorem dX11_findInsertion_47 : decode cX11_findInsertion 47 = .ok (.aload_n 0, 1) := by decide +kernel
theorem dX11_findInsertion_48 : decode cX11_findInsertion 48 = .ok (.iload_n 3, 1) := by decide +kernel
theorem dX11_findInsertion_49 : decode cX11_findInsertion 49 = .ok (.bipush 100, 2) := by decide +kernel
theorem dX11_findInsertion_51 : decode cX11_findInsertion 51 = .ok (.irem, 1) := by decide +kernel
theorem dX11_findInsertion_52 : decode cX11_findInsertion 52 = .ok (.invokevirtual 266, 3) := by decide +kernel
theorem dX11_findInsertion_55 : decode cX11_findInsertion 55 = .ok (.ifCond .eq 31, 3) := by decide +kernel
theorem dX11_findInsertion_58 : decode cX11_findInsertion 58 = .ok (.aload_n 0, 1) := by decide +kernel
theorem dX11_findInsertion_59 : decode cX11_findInsertion 59 = .ok (.iload_n 3, 1) := by decide +kernel
theorem dX11_findInsertion_60 : decode cX11_findInsertion 60 = .ok (.bipush 10, 2) := by decide +kernel
theorem dX11_findInsertion_62 : decode cX11_findInsertion 62 = .ok (.idiv, 1) := by decide +kernel
theorem dX11_findInsertion_63 : decode cX11_findInsertion 63 = .ok (.bipush 10, 2) := by decide +kernel
theorem dX11_findInsertion_65 : decode cX11_findInsertion 65 = .ok (.irem, 1) := by decide +kernel
theorem dX11_findInsertion_66 : decode cX11_findInsertion 66 = .ok (.iload_n 3, 1) := by decide +kernel
theorem dX11_findInsertion_67 : decode cX11_findInsertion 67 = .ok (.bipush 10, 2) := by decide +kernel
theorem dX11_findInsertion_69 : decode cX11_findInsertion 69 = .ok (.irem, 1) := by decide +kernel
theorem dX11_findInsertion_70 : decode cX11_findInsertion 70 = .ok (.invokevirtual 269, 3) := by decide +kernel
theorem dX11_findInsertion_73 : decode cX11_findInsertion 73 = .ok (.ifCond .eq 13, 3) := by decide +kernel
theorem dX11_findInsertion_76 : decode cX11_findInsertion 76 = .ok (.iload_n 2, 1) := by decide +kernel
theorem dX11_findInsertion_77 : decode cX11_findInsertion 77 = .ok (.iload_n 1, 1) := by decide +kernel
theorem dX11_findInsertion_78 : decode cX11_findInsertion 78 = .ok (.if_icmp .ne 5, 3) := by decide +kernel
theorem dX11_findInsertion_81 : decode cX11_findInsertion 81 = .ok (.iload_n 3, 1) := by decide +kernel
theorem dX11_findInsertion_82 : decode cX11_findInsertion 82 = .ok (.ireturn, 1) := by decide +kernel
theorem dX11_findInsertion_83 : decode cX11_findInsertion 83 = .ok (.iinc 2 1, 3) := by decide +kernel
theorem dX11_findInsertion_86 : decode cX11_findInsertion 86 = .ok (.iinc 3 1, 3) := by decide +kernel
theorem dX11_findInsertion_89 : decode cX11_findInsertion 89 = .ok (.goto (-85), 3) := by decide +kernel
theorem dX11_findInsertion_92 : decode cX11_findInsertion 92 = .ok (.iload_n 2, 1) := by decide +kernel
theorem dX11_findInsertion_93 : decode cX11_findInsertion 93 = .ok (.sipush 1000, 3) := by decide +kernel
theorem dX11_findInsertion_96 : decode cX11_findInsertion 96 = .ok (.isub, 1) := by decide +kernel
theorem dX11_findInsertion_97 : decode cX11_findInsertion 97 = .ok (.ireturn, 1) := by decide +kernel
theorem dX11_insertions_0 : decode cX11_insertions 0 = .ok (.aload_n 0, 1) := by decide +kernel
theorem dX11_insertions_1 : decode cX11_insertions 1 = .ok (.iconst 0, 1) := by decide +kernel
theorem dX11_insertions_2 : decode cX11_insertions 2 = .ok (.putfield 104, 3) := by decide +kernel
theorem dX11_insertions_5 : decode cX11_insertions 5 = .ok (.aload_n 0, 1) := by decide +kernel
theorem dX11_insertions_6 : decode cX11_insertions 6 = .ok (.iconst (-1), 1) := by decide +kernel
theorem dX11_insertions_7 : decode cX11_insertions 7 = .ok (.invokevirtual 332, 3) := by decide +kernel
theorem dX11_insertions_10 : decode cX11_insertions 10 = .ok (.sipush 1000, 3) := by decide +kernel
theorem dX11_insertions_13 : decode cX11_insertions 13 = .ok (.iadd, 1) := by decide +kernel
theorem dX11_insertions_14 : decode cX11_insertions 14 = .ok (.ireturn, 1) := by decide +kernel
theorem dX11_insert_0 : decode cX11_insert 0 = .ok (.aload_n 0, 1) := by decide +kernel
theorem dX11_insert_1 : decode cX11_insert 1 = .ok (.iconst 0, 1) := by decide +kernel
theorem dX11_insert_2 : decode cX11_insert 2 = .ok (.putfield 104, 3) := by decide +kernel
theorem dX11_insert_5 : decode cX11_insert 5 = .ok (.aload_n 0, 1) := by decide +kernel
theorem dX11_insert_6 : decode cX11_insert 6 = .ok (.iload_n 1, 1) := by decide +kernel
theorem dX11_insert_7 : decode cX11_insert 7 = .ok (.invokevirtual 332, 3) := by decide +kernel
theorem dX11_insert_10 : decode cX11_insert 10 = .ok (.istore_n 2, 1) := by decide +kernel
theorem dX11_insert_11 : decode cX11_insert 11 = .ok (.iload_n 2, 1) := by decide +kernel
theorem dX11_insert_12 : decode cX11_insert 12 = .ok (.ifCond .ge 9, 3) := by decide +kernel
theorem dX11_insert_15 : decode cX11_insert 15 = .ok (.aload_n 0, 1) := by decide +kernel
theorem dX11_insert_16 : decode cX11_insert 16 = .ok (.iconst 1, 1) := by decide +kernel
theorem dX11_insert_17 : decode cX11_insert 17 = .ok (.invokevirtual 134, 3) := by decide +kernel
theorem dX11_insert_20 : decode cX11_insert 20 = .ok (.ireturn, 1) := by decide +kernel
theorem dX11_insert_21 : decode cX11_insert 21 = .ok (.aload_n 0, 1) := by decide +kernel
theorem dX11_insert_22 : decode cX11_insert 22 = .ok (.aload_n 0, 1) := by decide +kernel
theorem dX11_insert_23 : decode cX11_insert 23 = .ok (.getfield 317, 3) := by decide +kernel
theorem dX11_insert_26 : decode cX11_insert 26 = .ok (.iload_n 2, 1) := by decide +kernel
theorem dX11_insert_27 : decode cX11_insert 27 = .ok (.bipush 100, 2) := by decide +kernel
theorem dX11_insert_29 : decode cX11_insert 29 = .ok (.idiv, 1) := by decide +kernel
theorem dX11_insert_30 : decode cX11_insert 30 = .ok (.invokevirtual 260, 3) := by decide +kernel
theorem dX11_insert_33 : decode cX11_insert 33 = .ok (.aload_n 0, 1) := by decide +kernel
theorem dX11_insert_34 : decode cX11_insert 34 = .ok (.aload_n 0, 1) := by decide +kernel
theorem dX11_insert_35 : decode cX11_insert 35 = .ok (.iload_n 2, 1) := by decide +kernel
theorem dX11_insert_36 : decode cX11_insert 36 = .ok (.bipush 100, 2) := by decide +kernel
theorem dX11_insert_38 : decode cX11_insert 38 = .ok (.idiv, 1) := by decide +kernel
theorem dX11_insert_39 : decode cX11_insert 39 = .ok (.iload_n 2, 1) := by decide +kernel
theorem dX11_insert_40 : decode cX11_insert 40 = .ok (.bipush 10, 2) := by decide +kernel
theorem dX11_insert_42 : decode cX11_insert 42 = .ok (.idiv, 1) := by decide +kernel
theorem dX11_insert_43 : decode cX11_insert 43 = .ok (.bipush 10, 2) := by decide +kernel
theorem dX11_insert_45 : decode cX11_insert 45 = .ok (.irem, 1) := by decide +kernel
theorem dX11_insert_46 : decode cX11_insert 46 = .ok (.iload_n 2, 1) := by decide +kernel
theorem dX11_insert_47 : decode cX11_insert 47 = .ok (.bipush 10, 2) := by decide +kernel
theorem dX11_insert_49 : decode cX11_insert 49 = .ok (.irem, 1) := by decide +kernel
theorem dX11_insert_50 : decode cX11_insert 50 = .ok (.invokevirtual 272, 3) := by decide +kernel
theorem dX11_insert_53 : decode cX11_insert 53 = .ok (.putfield 317, 3) := by decide +kernel
theorem dX11_insert_56 : decode cX11_insert 56 = .ok (.iload_n 2, 1) := by decide +kernel
theorem dX11_insert_57 : decode cX11_insert 57 = .ok (.bipush 100, 2) := by decide +kernel
theorem dX11_insert_59 : decode cX11_insert 59 = .ok (.idiv, 1) := by decide +kernel
theorem dX11_insert_60 : decode cX11_insert 60 = .ok (.ireturn, 1) := by decide +kernel
theorem dX11_reductions_0 : decode cX11_reductions 0 = .ok (.aload_n 0, 1) := by decide +kernel
theorem dX11_reductions_1 : decode cX11_reductions 1 = .ok (.iconst 0, 1) := by decide +kernel
theorem dX11_reductions_2 : decode cX11_reductions 2 = .ok (.putfield 104, 3) := by decide +kernel
theorem dX11_reductions_5 : decode cX11_reductions 5 = .ok (.aload_n 0, 1) := by decide +kernel
theorem dX11_reductions_6 : decode cX11_reductions 6 = .ok (.aload_n 0, 1) := by decide +kernel
theorem dX11_reductions_7 : decode cX11_reductions 7 = .ok (.getfield 317, 3) := by decide +kernel
theorem dX11_reductions_10 : decode cX11_reductions 10 = .ok (.invokevirtual 335, 3) := by decide +kernel
theorem dX11_reductions_13 : decode cX11_reductions 13 = .ok (.ireturn, 1) := by decide +kernel
theorem dX11_reduce_0 : decode cX11_reduce 0 = .ok (.aload_n 0, 1) := by decide +kernel
theorem dX11_reduce_1 : decode cX11_reduce 1 = .ok (.iconst 0, 1) := by decide +kernel
theorem dX11_reduce_2 : decode cX11_reduce 2 = .ok (.putfield 104, 3) := by decide +kernel
theorem dX11_reduce_5 : decode cX11_reduce 5 = .ok (.iload_n 1, 1) := by decide +kernel
theorem dX11_reduce_6 : decode cX11_reduce 6 = .ok (.iconst 0, 1) := by decide +kernel
theorem dX11_reduce_7 : decode cX11_reduce 7 = .ok (.aload_n 0, 1) := by decide +kernel
theorem dX11_reduce_8 : decode cX11_reduce 8 = .ok (.aload_n 0, 1) := by decide +kernel
theorem dX11_reduce_9 : decode cX11_reduce 9 = .ok (.getfield 317, 3) := by decide +kernel
theorem dX11_reduce_12 : decode cX11_reduce 12 = .ok (.invokevirtual 335, 3) := by decide +kernel
theorem dX11_reduce_15 : decode cX11_reduce 15 = .ok (.iconst 1, 1) := by decide +kernel
theorem dX11_reduce_16 : decode cX11_reduce 16 = .ok (.isub, 1) := by decide +kernel
theorem dX11_reduce_17 : decode cX11_reduce 17 = .ok (.invokestatic 124, 3) := by decide +kernel
theorem dX11_reduce_20 : decode cX11_reduce 20 = .ok (.ifCond .ne 9, 3) := by decide +kernel
theorem dX11_reduce_23 : decode cX11_reduce 23 = .ok (.aload_n 0, 1) := by decide +kernel
theorem dX11_reduce_24 : decode cX11_reduce 24 = .ok (.iconst 1, 1) := by decide +kernel
theorem dX11_reduce_25 : decode cX11_reduce 25 = .ok (.invokevirtual 134, 3) := by decide +kernel
theorem dX11_reduce_28 : decode cX11_reduce 28 = .ok (.ireturn, 1) := by decide +kernel
theorem dX11_reduce_29 : decode cX11_reduce 29 = .ok (.iconst 0, 1) := by decide +kernel
theorem dX11_reduce_30 : decode cX11_reduce 30 = .ok (.istore_n 2, 1) := by decide +kernel
theorem dX11_reduce_31 : decode cX11_reduce 31 = .ok (.iconst 0, 1) := by decide +kernel
theorem dX11_reduce_32 : decode cX11_reduce 32 = .ok (.istore_n 3, 1) := by decide +kernel
theorem dX11_reduce_33 : decode cX11_reduce 33 = .ok (.iload_n 3, 1) := by decide +kernel
theorem dX11_reduce_34 : decode cX11_reduce 34 = .ok (.bipush 100, 2) := by decide +kernel
theorem dX11_reduce_36 : decode cX11_reduce 36 = .ok (.aload_n 0, 1) := by decide +kernel
theorem dX11_reduce_37 : decode cX11_reduce 37 = .ok (.getfield 121, 3) := by decide +kernel
theorem dX11_reduce_40 : decode cX11_reduce 40 = .ok (.imul, 1) := by decide +kernel
theorem dX11_reduce_41 : decode cX11_reduce 41 = .ok (.if_icmp .ge 62, 3) := by decide +kernel
theorem dX11_reduce_44 : decode cX11_reduce 44 = .ok (.iload_n 3, 1) := by decide +kernel
theorem dX11_reduce_45 : decode cX11_reduce 45 = .ok (.invokestatic 307, 3) := by decide +kernel
theorem dX11_reduce_48 : decode cX11_reduce 48 = .ok (.ifCond .eq 49, 3) := by decide +kernel
theorem dX11_reduce_51 : decode cX11_reduce 51 = .ok (.aload_n 0, 1) := by decide +kernel
theorem dX11_reduce_52 : decode cX11_reduce 52 = .ok (.aload_n 0, 1) := by decide +kernel
theorem dX11_reduce_53 : decode cX11_reduce 53 = .ok (.getfield 317, 3) := by decide +kernel
theorem dX11_reduce_56 : decode cX11_reduce 56 = .ok (.iload_n 3, 1) := by decide +kernel
theorem dX11_reduce_57 : decode cX11_reduce 57 = .ok (.bipush 100, 2) := by decide +kernel
theorem dX11_reduce_59 : decode cX11_reduce 59 = .ok (.idiv, 1) := by decide +kernel
theorem dX11_reduce_60 : decode cX11_reduce 60 = .ok (.iload_n 3, 1) := by decide +kernel
theorem dX11_reduce_61 : decode cX11_reduce 61 = .ok (.bipush 10, 2) := by decide +kernel
theorem dX11_reduce_63 : decode cX11_reduce 63 = .ok (.idiv, 1) := by decide +kernel
theorem dX11_reduce_64 : decode cX11_reduce 64 = .ok (.bipush 10, 2) := by decide +kernel
theorem dX11_reduce_66 : decode cX11_reduce 66 = .ok (.irem, 1) := by decide +kernel
theorem dX11_reduce_67 : decode cX11_reduce 67 = .ok (.iload_n 3, 1) := by decide +kernel
theorem dX11_reduce_68 : decode cX11_reduce 68 = .ok (.bipush 10, 2) := by decide +kernel
theorem dX11_reduce_70 : decode cX11_reduce 70 = .ok (.irem, 1) := by decide +kernel
theorem dX11_reduce_71 : decode cX11_reduce 71 = .ok (.invokevirtual 310, 3) := by decide +kernel
theorem dX11_reduce_74 : decode cX11_reduce 74 = .ok (.ifCond .eq 23, 3) := by decide +kernel
theorem dX11_reduce_77 : decode cX11_reduce 77 = .ok (.aload_n 0, 1) := by decide +kernel
theorem dX11_reduce_78 : decode cX11_reduce 78 = .ok (.getfield 71, 3) := by decide +kernel
theorem dX11_reduce_81 : decode cX11_reduce 81 = .ok (.iload_n 2, 1) := by decide +kernel
theorem dX11_reduce_82 : decode cX11_reduce 82 = .ok (.iload_n 3, 1) := by decide +kernel
theorem dX11_reduce_83 : decode cX11_reduce 83 = .ok (.iastore, 1) := by decide +kernel
theorem dX11_reduce_84 : decode cX11_reduce 84 = .ok (.aload_n 0, 1) := by decide +kernel
theorem dX11_reduce_85 : decode cX11_reduce 85 = .ok (.getfield 74, 3) := by decide +kernel
theorem dX11_reduce_88 : decode cX11_reduce 88 = .ok (.iload_n 2, 1) := by decide +kernel
theorem dX11_reduce_89 : decode cX11_reduce 89 = .ok (.aload_n 0, 1) := by decide +kernel
theorem dX11_reduce_90 : decode cX11_reduce 90 = .ok (.getfield 304, 3) := by decide +kernel
theorem dX11_reduce_93 : decode cX11_reduce 93 = .ok (.iastore, 1) := by decide +kernel
theorem dX11_reduce_94 : decode cX11_reduce 94 = .ok (.iinc 2 1, 3) := by decide +kernel
theorem dX11_reduce_97 : decode cX11_reduce 97 = .ok (.iinc 3 1, 3) := by decide +kernel
theorem dX11_reduce_100 : decode cX11_reduce 100 = .ok (.goto (-67), 3) := by decide +kernel
theorem dX11_reduce_103 : decode cX11_reduce 103 = .ok (.iconst 0, 1) := by decide +kernel
theorem dX11_reduce_104 : decode cX11_reduce 104 = .ok (.istore_n 3, 1) := by decide +kernel
theorem dX11_reduce_105 : decode cX11_reduce 105 = .ok (.aload_n 0, 1) := by decide +kernel
theorem dX11_reduce_106 : decode cX11_reduce 106 = .ok (.iload_n 3, 1) := by decide +kernel
theorem dX11_reduce_107 : decode cX11_reduce 107 = .ok (.iload_n 2, 1) := by decide +kernel
theorem dX11_reduce_108 : decode cX11_reduce 108 = .ok (.invokevirtual 338, 3) := by decide +kernel
theorem dX11_reduce_111 : decode cX11_reduce 111 = .ok (.iload_n 1, 1) := by decide +kernel
theorem dX11_reduce_112 : decode cX11_reduce 112 = .ok (.if_icmp .eq 9, 3) := by decide +kernel
theorem dX11_reduce_115 : decode cX11_reduce 115 = .ok (.iinc 3 1, 3) := by decide +kernel
theorem dX11_reduce_118 : decode cX11_reduce 118 = .ok (.goto (-13), 3) := by decide +kernel
theorem dX11_reduce_121 : decode cX11_reduce 121 = .ok (.aload_n 0, 1) := by decide +kernel
theorem dX11_reduce_122 : decode cX11_reduce 122 = .ok (.aload_n 0, 1) := by decide +kernel
theorem dX11_reduce_123 : decode cX11_reduce 123 = .ok (.getfield 74, 3) := by decide +kernel
theorem dX11_reduce_126 : decode cX11_reduce 126 = .ok (.iload_n 3, 1) := by decide +kernel
theorem dX11_reduce_127 : decode cX11_reduce 127 = .ok (.iaload, 1) := by decide +kernel
theorem dX11_reduce_128 : decode cX11_reduce 128 = .ok (.putfield 317, 3) := by decide +kernel
theorem dX11_reduce_131 : decode cX11_reduce 131 = .ok (.aload_n 0, 1) := by decide +kernel
theorem dX11_reduce_132 : decode cX11_reduce 132 = .ok (.getfield 71, 3) := by decide +kernel
theorem dX11_reduce_135 : decode cX11_reduce 135 = .ok (.iload_n 3, 1) := by decide +kernel
theorem dX11_reduce_136 : decode cX11_reduce 136 = .ok (.iaload, 1) := by decide +kernel
theorem dX11_reduce_137 : decode cX11_reduce 137 = .ok (.bipush 100, 2) := by decide +kernel
theorem dX11_reduce_139 : decode cX11_reduce 139 = .ok (.idiv, 1) := by decide +kernel
theorem dX11_reduce_140 : decode cX11_reduce 140 = .ok (.ireturn, 1) := by decide +kernel
theorem dX11_countAhead_0 : decode cX11_countAhead 0 = .ok (.iconst 0, 1) := by decide +kernel
theorem dX11_countAhead_1 : decode cX11_countAhead 1 = .ok (.istore_n 3, 1) := by decide +kernel
theorem dX11_countAhead_2 : decode cX11_countAhead 2 = .ok (.iconst 0, 1) := by decide +kernel
theorem dX11_countAhead_3 : decode cX11_countAhead 3 = .ok (.istore 4, 2) := by decide +kernel
theorem dX11_countAhead_5 : decode cX11_countAhead 5 = .ok (.iload 4, 2) := by decide +kernel
theorem dX11_countAhead_7 : decode cX11_countAhead 7 = .ok (.iload_n 2, 1) := by decide +kernel
theorem dX11_countAhead_8 : decode cX11_countAhead 8 = .ok (.if_icmp .ge 55, 3) := by decide +kernel
theorem dX11_countAhead_11 : decode cX11_countAhead 11 = .ok (.iload_n 3, 1) := by decide +kernel
theorem dX11_countAhead_12 : decode cX11_countAhead 12 = .ok (.aload_n 0, 1) := by decide +kernel
theorem dX11_countAhead_13 : decode cX11_countAhead 13 = .ok (.getfield 74, 3) := by decide +kernel
theorem dX11_countAhead_16 : decode cX11_countAhead 16 = .ok (.iload 4, 2) := by decide +kernel
theorem dX11_countAhead_18 : decode cX11_countAhead 18 = .ok (.iaload, 1) := by decide +kernel
theorem dX11_countAhead_19 : decode cX11_countAhead 19 = .ok (.aload_n 0, 1) := by decide +kernel
theorem dX11_countAhead_20 : decode cX11_countAhead 20 = .ok (.getfield 74, 3) := by decide +kernel
theorem dX11_countAhead_23 : decode cX11_countAhead 23 = .ok (.iload_n 1, 1) := by decide +kernel
theorem dX11_countAhead_24 : decode cX11_countAhead 24 = .ok (.iaload, 1) := by decide +kernel
theorem dX11_countAhead_25 : decode cX11_countAhead 25 = .ok (.if_icmp .lt 25, 3) := by decide +kernel
theorem dX11_countAhead_28 : decode cX11_countAhead 28 = .ok (.aload_n 0, 1) := by decide +kernel
theorem dX11_countAhead_29 : decode cX11_countAhead 29 = .ok (.getfield 74, 3) := by decide +kernel
theorem dX11_countAhead_32 : decode cX11_countAhead 32 = .ok (.iload 4, 2) := by decide +kernel
theorem dX11_countAhead_34 : decode cX11_countAhead 34 = .ok (.iaload, 1) := by decide +kernel
theorem dX11_countAhead_35 : decode cX11_countAhead 35 = .ok (.aload_n 0, 1) := by decide +kernel
theorem dX11_countAhead_36 : decode cX11_countAhead 36 = .ok (.getfield 74, 3) := by decide +kernel
theorem dX11_countAhead_39 : decode cX11_countAhead 39 = .ok (.iload_n 1, 1) := by decide +kernel
theorem dX11_countAhead_40 : decode cX11_countAhead 40 = .ok (.iaload, 1) := by decide +kernel
theorem dX11_countAhead_41 : decode cX11_countAhead 41 = .ok (.if_icmp .ne 13, 3) := by decide +kernel
theorem dX11_countAhead_44 : decode cX11_countAhead 44 = .ok (.iload 4, 2) := by decide +kernel
theorem dX11_countAhead_46 : decode cX11_countAhead 46 = .ok (.iload_n 1, 1) := by decide +kernel
theorem dX11_countAhead_47 : decode cX11_countAhead 47 = .ok (.if_icmp .ge 7, 3) := by decide +kernel
theorem dX11_countAhead_50 : decode cX11_countAhead 50 = .ok (.iconst 1, 1) := by decide +kernel
theorem dX11_countAhead_51 : decode cX11_countAhead 51 = .ok (.goto 4, 3) := by decide +kernel
theorem dX11_countAhead_54 : decode cX11_countAhead 54 = .ok (.iconst 0, 1) := by decide +kernel
theorem dX11_countAhead_55 : decode cX11_countAhead 55 = .ok (.iadd, 1) := by decide +kernel
theorem dX11_countAhead_56 : decode cX11_countAhead 56 = .ok (.istore_n 3, 1) := by decide +kernel
theorem dX11_countAhead_57 : decode cX11_countAhead 57 = .ok (.iinc 4 1, 3) := by decide +kernel
theorem dX11_countAhead_60 : decode cX11_countAhead 60 = .ok (.goto (-55), 3) := by decide +kernel
theorem dX11_countAhead_63 : decode cX11_countAhead 63 = .ok (.iload_n 3, 1) := by decide +kernel
theorem dX11_countAhead_64 : decode cX11_countAhead 64 = .ok (.ireturn, 1) := by decide +kernel
theorem dX11_countForms_0 : decode cX11_countForms 0 = .ok (.iconst 0, 1) := by decide +kernel
theorem dX11_countForms_1 : decode cX11_countForms 1 = .ok (.istore_n 1, 1) := by decide +kernel
theorem dX11_countForms_2 : decode cX11_countForms 2 = .ok (.iconst 0, 1) := by decide +kernel
theorem dX11_countForms_3 : decode cX11_countForms 3 = .ok (.istore_n 2, 1) := by decide +kernel
theorem dX11_countForms_4 : decode cX11_countForms 4 = .ok (.iload_n 2, 1) := by decide +kernel
theorem dX11_countForms_5 : decode cX11_countForms 5 = .ok (.aload_n 0, 1) := by decide +kernel
theorem dX11_countForms_6 : decode cX11_countForms 6 = .ok (.getfield 317, 3) := by decide +kernel
theorem dX11_countForms_9 : decode cX11_countForms 9 = .ok (.if_icmp .gt 18, 3) := by decide +kernel
theorem dX11_countForms_12 : decode cX11_countForms 12 = .ok (.iload_n 1, 1) := by decide +kernel
theorem dX11_countForms_13 : decode cX11_countForms 13 = .ok (.aload_n 0, 1) := by decide +kernel
theorem dX11_countForms_14 : decode cX11_countForms 14 = .ok (.getfield 61, 3) := by decide +kernel
theorem dX11_countForms_17 : decode cX11_countForms 17 = .ok (.iload_n 2, 1) := by decide +kernel
theorem dX11_countForms_18 : decode cX11_countForms 18 = .ok (.iaload, 1) := by decide +kernel
theorem dX11_countForms_19 : decode cX11_countForms 19 = .ok (.iadd, 1) := by decide +kernel
theorem dX11_countForms_20 : decode cX11_countForms 20 = .ok (.istore_n 1, 1) := by decide +kernel
theorem dX11_countForms_21 : decode cX11_countForms 21 = .ok (.iinc 2 1, 3) := by decide +kernel
theorem dX11_countForms_24 : decode cX11_countForms 24 = .ok (.goto (-20), 3) := by decide +kernel
theorem dX11_countForms_27 : decode cX11_countForms 27 = .ok (.iload_n 1, 1) := by decide +kernel
theorem dX11_countForms_28 : decode cX11_countForms 28 = .ok (.ireturn, 1) := by decide +kernel
theorem dX11_normalForms_0 : decode cX11_normalForms 0 = .ok (.aload_n 0, 1) := by decide +kernel
theorem dX11_normalForms_1 : decode cX11_normalForms 1 = .ok (.iconst 0, 1) := by decide +kernel
theorem dX11_normalForms_2 : decode cX11_normalForms 2 = .ok (.putfield 104, 3) := by decide +kernel
theorem dX11_normalForms_5 : decode cX11_normalForms 5 = .ok (.aload_n 0, 1) := by decide +kernel
theorem dX11_normalForms_6 : decode cX11_normalForms 6 = .ok (.aload_n 0, 1) := by decide +kernel
theorem dX11_normalForms_7 : decode cX11_normalForms 7 = .ok (.getfield 317, 3) := by decide +kernel
theorem dX11_normalForms_10 : decode cX11_normalForms 10 = .ok (.invokevirtual 341, 3) := by decide +kernel
theorem dX11_normalForms_13 : decode cX11_normalForms 13 = .ok (.aload_n 0, 1) := by decide +kernel
theorem dX11_normalForms_14 : decode cX11_normalForms 14 = .ok (.invokevirtual 344, 3) := by decide +kernel
theorem dX11_normalForms_17 : decode cX11_normalForms 17 = .ok (.ireturn, 1) := by decide +kernel
theorem dX11_normalize_0 : decode cX11_normalize 0 = .ok (.aload_n 0, 1) := by decide +kernel
theorem dX11_normalize_1 : decode cX11_normalize 1 = .ok (.iconst 0, 1) := by decide +kernel
theorem dX11_normalize_2 : decode cX11_normalize 2 = .ok (.putfield 104, 3) := by decide +kernel
theorem dX11_normalize_5 : decode cX11_normalize 5 = .ok (.aload_n 0, 1) := by decide +kernel
theorem dX11_normalize_6 : decode cX11_normalize 6 = .ok (.aload_n 0, 1) := by decide +kernel
theorem dX11_normalize_7 : decode cX11_normalize 7 = .ok (.getfield 317, 3) := by decide +kernel
theorem dX11_normalize_10 : decode cX11_normalize 10 = .ok (.invokevirtual 341, 3) := by decide +kernel
theorem dX11_normalize_13 : decode cX11_normalize 13 = .ok (.iload_n 1, 1) := by decide +kernel
theorem dX11_normalize_14 : decode cX11_normalize 14 = .ok (.iconst 0, 1) := by decide +kernel
theorem dX11_normalize_15 : decode cX11_normalize 15 = .ok (.aload_n 0, 1) := by decide +kernel
theorem dX11_normalize_16 : decode cX11_normalize 16 = .ok (.invokevirtual 344, 3) := by decide +kernel
theorem dX11_normalize_19 : decode cX11_normalize 19 = .ok (.iconst 1, 1) := by decide +kernel
theorem dX11_normalize_20 : decode cX11_normalize 20 = .ok (.isub, 1) := by decide +kernel
theorem dX11_normalize_21 : decode cX11_normalize 21 = .ok (.invokestatic 124, 3) := by decide +kernel
theorem dX11_normalize_24 : decode cX11_normalize 24 = .ok (.ifCond .ne 9, 3) := by decide +kernel
theorem dX11_normalize_27 : decode cX11_normalize 27 = .ok (.aload_n 0, 1) := by decide +kernel
theorem dX11_normalize_28 : decode cX11_normalize 28 = .ok (.iconst 1, 1) := by decide +kernel
theorem dX11_normalize_29 : decode cX11_normalize 29 = .ok (.putfield 104, 3) := by decide +kernel
theorem dX11_normalize_32 : decode cX11_normalize 32 = .ok (.return_, 1) := by decide +kernel
theorem dX11_normalize_33 : decode cX11_normalize 33 = .ok (.iload_n 1, 1) := by decide +kernel
theorem dX11_normalize_34 : decode cX11_normalize 34 = .ok (.istore_n 2, 1) := by decide +kernel
theorem dX11_normalize_35 : decode cX11_normalize 35 = .ok (.iconst 0, 1) := by decide +kernel
theorem dX11_normalize_36 : decode cX11_normalize 36 = .ok (.istore_n 3, 1) := by decide +kernel
theorem dX11_normalize_37 : decode cX11_normalize 37 = .ok (.iload_n 2, 1) := by decide +kernel
theorem dX11_normalize_38 : decode cX11_normalize 38 = .ok (.ifCond .gt 12, 3) := by decide +kernel
theorem dX11_normalize_41 : decode cX11_normalize 41 = .ok (.aload_n 0, 1) := by decide +kernel
theorem dX11_normalize_42 : decode cX11_normalize 42 = .ok (.getfield 61, 3) := by decide +kernel
theorem dX11_normalize_45 : decode cX11_normalize 45 = .ok (.iload_n 3, 1) := by decide +kernel
theorem dX11_normalize_46 : decode cX11_normalize 46 = .ok (.iaload, 1) := by decide +kernel
theorem dX11_normalize_47 : decode cX11_normalize 47 = .ok (.ifCond .ne 18, 3) := by decide +kernel
theorem dX11_normalize_50 : decode cX11_normalize 50 = .ok (.iload_n 2, 1) := by decide +kernel
theorem dX11_normalize_51 : decode cX11_normalize 51 = .ok (.aload_n 0, 1) := by decide +kernel
theorem dX11_normalize_52 : decode cX11_normalize 52 = .ok (.getfield 61, 3) := by decide +kernel
theorem dX11_normalize_55 : decode cX11_normalize 55 = .ok (.iload_n 3, 1) := by decide +kernel
theorem dX11_normalize_56 : decode cX11_normalize 56 = .ok (.iaload, 1) := by decide +kernel
theorem dX11_normalize_57 : decode cX11_normalize 57 = .ok (.isub, 1) := by decide +kernel
theorem dX11_normalize_58 : decode cX11_normalize 58 = .ok (.istore_n 2, 1) := by decide +kernel
theorem dX11_normalize_59 : decode cX11_normalize 59 = .ok (.iinc 3 1, 3) := by decide +kernel
theorem dX11_normalize_62 : decode cX11_normalize 62 = .ok (.goto (-25), 3) := by decide +kernel
theorem dX11_normalize_65 : decode cX11_normalize 65 = .ok (.aload_n 0, 1) := by decide +kernel
theorem dX11_normalize_66 : decode cX11_normalize 66 = .ok (.iload_n 3, 1) := by decide +kernel
theorem dX11_normalize_67 : decode cX11_normalize 67 = .ok (.putfield 317, 3) := by decide +kernel
theorem dX11_normalize_70 : decode cX11_normalize 70 = .ok (.return_, 1) := by decide +kernel
theorem dX11_isSlot_0 : decode cX11_isSlot 0 = .ok (.iload_n 0, 1) := by decide +kernel
theorem dX11_isSlot_1 : decode cX11_isSlot 1 = .ok (.iconst 0, 1) := by decide +kernel
theorem dX11_isSlot_2 : decode cX11_isSlot 2 = .ok (.iconst 2, 1) := by decide +kernel
theorem dX11_isSlot_3 : decode cX11_isSlot 3 = .ok (.invokestatic 124, 3) := by decide +kernel
theorem dX11_isSlot_6 : decode cX11_isSlot 6 = .ok (.ireturn, 1) := by decide +kernel
theorem dX11_allocate_0 : decode cX11_allocate 0 = .ok (.aload_n 0, 1) := by decide +kernel
theorem dX11_allocate_1 : decode cX11_allocate 1 = .ok (.iload_n 1, 1) := by decide +kernel
theorem dX11_allocate_2 : decode cX11_allocate 2 = .ok (.invokestatic 347, 3) := by decide +kernel
theorem dX11_allocate_5 : decode cX11_allocate 5 = .ok (.ifCond .ne 7, 3) := by decide +kernel
theorem dX11_allocate_8 : decode cX11_allocate 8 = .ok (.iconst 1, 1) := by decide +kernel
theorem dX11_allocate_9 : decode cX11_allocate 9 = .ok (.goto 27, 3) := by decide +kernel
theorem dX11_allocate_12 : decode cX11_allocate 12 = .ok (.iload_n 2, 1) := by decide +kernel
theorem dX11_allocate_13 : decode cX11_allocate 13 = .ok (.iconst 0, 1) := by decide +kernel
theorem dX11_allocate_14 : decode cX11_allocate 14 = .ok (.iconst 2, 1) := by decide +kernel
theorem dX11_allocate_15 : decode cX11_allocate 15 = .ok (.invokestatic 124, 3) := by decide +kernel
theorem dX11_allocate_18 : decode cX11_allocate 18 = .ok (.ifCond .eq 13, 3) := by decide +kernel
theorem dX11_allocate_21 : decode cX11_allocate 21 = .ok (.iload_n 3, 1) := by decide +kernel
theorem dX11_allocate_22 : decode cX11_allocate 22 = .ok (.iconst 0, 1) := by decide +kernel
theorem dX11_allocate_23 : decode cX11_allocate 23 = .ok (.bipush 20, 2) := by decide +kernel
theorem dX11_allocate_25 : decode cX11_allocate 25 = .ok (.invokestatic 124, 3) := by decide +kernel
theorem dX11_allocate_28 : decode cX11_allocate 28 = .ok (.ifCond .ne 7, 3) := by decide +kernel
theorem dX11_allocate_31 : decode cX11_allocate 31 = .ok (.iconst 2, 1) := by decide +kernel
theorem dX11_allocate_32 : decode cX11_allocate 32 = .ok (.goto 4, 3) := by decide +kernel
theorem dX11_allocate_35 : decode cX11_allocate 35 = .ok (.iconst 0, 1) := by decide +kernel
theorem dX11_allocate_36 : decode cX11_allocate 36 = .ok (.putfield 104, 3) := by decide +kernel
theorem dX11_allocate_39 : decode cX11_allocate 39 = .ok (.aload_n 0, 1) := by decide +kernel
theorem dX11_allocate_40 : decode cX11_allocate 40 = .ok (.getfield 104, 3) := by decide +kernel
theorem dX11_allocate_43 : decode cX11_allocate 43 = .ok (.ifCond .ne 46, 3) := by decide +kernel
theorem dX11_allocate_46 : decode cX11_allocate 46 = .ok (.aload_n 0, 1) := by decide +kernel
theorem dX11_allocate_47 : decode cX11_allocate 47 = .ok (.getfield 77, 3) := by decide +kernel
theorem dX11_allocate_50 : decode cX11_allocate 50 = .ok (.iload_n 1, 1) := by decide +kernel
theorem dX11_allocate_51 : decode cX11_allocate 51 = .ok (.iload_n 2, 1) := by decide +kernel
theorem dX11_allocate_52 : decode cX11_allocate 52 = .ok (.iastore, 1) := by decide +kernel
theorem dX11_allocate_53 : decode cX11_allocate 53 = .ok (.aload_n 0, 1) := by decide +kernel
theorem dX11_allocate_54 : decode cX11_allocate 54 = .ok (.getfield 80, 3) := by decide +kernel
theorem dX11_allocate_57 : decode cX11_allocate 57 = .ok (.iload_n 1, 1) := by decide +kernel
theorem dX11_allocate_58 : decode cX11_allocate 58 = .ok (.iload_n 3, 1) := by decide +kernel
theorem dX11_allocate_59 : decode cX11_allocate 59 = .ok (.iastore, 1) := by decide +kernel
theorem dX11_allocate_60 : decode cX11_allocate 60 = .ok (.iconst 0, 1) := by decide +kernel
theorem dX11_allocate_61 : decode cX11_allocate 61 = .ok (.istore 4, 2) := by decide +kernel
theorem dX11_allocate_63 : decode cX11_allocate 63 = .ok (.iload 4, 2) := by decide +kernel
theorem dX11_allocate_65 : decode cX11_allocate 65 = .ok (.bipush 20, 2) := by decide +kernel
theorem dX11_allocate_67 : decode cX11_allocate 67 = .ok (.if_icmp .ge 22, 3) := by decide +kernel
theorem dX11_allocate_70 : decode cX11_allocate 70 = .ok (.aload_n 0, 1) := by decide +kernel
theorem dX11_allocate_71 : decode cX11_allocate 71 = .ok (.getfield 83, 3) := by decide +kernel
theorem dX11_allocate_74 : decode cX11_allocate 74 = .ok (.bipush 20, 2) := by decide +kernel
theorem dX11_allocate_76 : decode cX11_allocate 76 = .ok (.iload_n 1, 1) := by decide +kernel
theorem dX11_allocate_77 : decode cX11_allocate 77 = .ok (.imul, 1) := by decide +kernel
theorem dX11_allocate_78 : decode cX11_allocate 78 = .ok (.iload 4, 2) := by decide +kernel
theorem dX11_allocate_80 : decode cX11_allocate 80 = .ok (.iadd, 1) := by decide +kernel
theorem dX11_allocate_81 : decode cX11_allocate 81 = .ok (.iconst 0, 1) := by decide +kernel
theorem dX11_allocate_82 : decode cX11_allocate 82 = .ok (.iastore, 1) := by decide +kernel
theorem dX11_allocate_83 : decode cX11_allocate 83 = .ok (.iinc 4 1, 3) := by decide +kernel
theorem dX11_allocate_86 : decode cX11_allocate 86 = .ok (.goto (-23), 3) := by decide +kernel
theorem dX11_allocate_89 : decode cX11_allocate 89 = .ok (.return_, 1) := by decide +kernel
theorem dX11_problem_0 : decode cX11_problem 0 = .ok (.iload_n 1, 1) := by decide +kernel
theorem dX11_problem_1 : decode cX11_problem 1 = .ok (.invokestatic 347, 3) := by decide +kernel
theorem dX11_problem_4 : decode cX11_problem 4 = .ok (.ifCond .ne 7, 3) := by decide +kernel
theorem dX11_problem_7 : decode cX11_problem 7 = .ok (.iconst 1, 1) := by decide +kernel
theorem dX11_problem_8 : decode cX11_problem 8 = .ok (.goto 37, 3) := by decide +kernel
theorem dX11_problem_11 : decode cX11_problem 11 = .ok (.aload_n 0, 1) := by decide +kernel
theorem dX11_problem_12 : decode cX11_problem 12 = .ok (.getfield 77, 3) := by decide +kernel
theorem dX11_problem_15 : decode cX11_problem 15 = .ok (.iload_n 1, 1) := by decide +kernel
theorem dX11_problem_16 : decode cX11_problem 16 = .ok (.iaload, 1) := by decide +kernel
theorem dX11_problem_17 : decode cX11_problem 17 = .ok (.ifCond .ge 7, 3) := by decide +kernel
theorem dX11_problem_20 : decode cX11_problem 20 = .ok (.iconst 2, 1) := by decide +kernel
theorem dX11_problem_21 : decode cX11_problem 21 = .ok (.goto 24, 3) := by decide +kernel
theorem dX11_problem_24 : decode cX11_problem 24 = .ok (.iload_n 2, 1) := by decide +kernel
theorem dX11_problem_25 : decode cX11_problem 25 = .ok (.iconst 0, 1) := by decide +kernel
theorem dX11_problem_26 : decode cX11_problem 26 = .ok (.aload_n 0, 1) := by decide +kernel
theorem dX11_problem_27 : decode cX11_problem 27 = .ok (.getfield 80, 3) := by decide +kernel
theorem dX11_problem_30 : decode cX11_problem 30 = .ok (.iload_n 1, 1) := by decide +kernel
theorem dX11_problem_31 : decode cX11_problem 31 = .ok (.iaload, 1) := by decide +kernel
theorem dX11_problem_32 : decode cX11_problem 32 = .ok (.iconst 1, 1) := by decide +kernel
theorem dX11_problem_33 : decode cX11_problem 33 = .ok (.isub, 1) := by decide +kernel
theorem dX11_problem_34 : decode cX11_problem 34 = .ok (.invokestatic 124, 3) := by decide +kernel
theorem dX11_problem_37 : decode cX11_problem 37 = .ok (.ifCond .ne 7, 3) := by decide +kernel
theorem dX11_problem_40 : decode cX11_problem 40 = .ok (.iconst 1, 1) := by decide +kernel
theorem dX11_problem_41 : decode cX11_problem 41 = .ok (.goto 4, 3) := by decide +kernel
theorem dX11_problem_44 : decode cX11_problem 44 = .ok (.iconst 0, 1) := by decide +kernel
theorem dX11_problem_45 : decode cX11_problem 45 = .ok (.ireturn, 1) := by decide +kernel
theorem dX11_store_0 : decode cX11_store 0 = .ok (.aload_n 0, 1) := by decide +kernel
theorem dX11_store_1 : decode cX11_store 1 = .ok (.aload_n 0, 1) := by decide +kernel
theorem dX11_store_2 : decode cX11_store 2 = .ok (.iload_n 1, 1) := by decide +kernel
theorem dX11_store_3 : decode cX11_store 3 = .ok (.iload_n 2, 1) := by decide +kernel
theorem dX11_store_4 : decode cX11_store 4 = .ok (.invokevirtual 350, 3) := by decide +kernel
theorem dX11_store_7 : decode cX11_store 7 = .ok (.putfield 104, 3) := by decide +kernel
theorem dX11_store_10 : decode cX11_store 10 = .ok (.aload_n 0, 1) := by decide +kernel
theorem dX11_store_11 : decode cX11_store 11 = .ok (.getfield 104, 3) := by decide +kernel
theorem dX11_store_14 : decode cX11_store 14 = .ok (.ifCond .ne 44, 3) := by decide +kernel
theorem dX11_store_17 : decode cX11_store 17 = .ok (.aload_n 0, 1) := by decide +kernel
theorem dX11_store_18 : decode cX11_store 18 = .ok (.getfield 83, 3) := by decide +kernel
theorem dX11_store_21 : decode cX11_store 21 = .ok (.bipush 20, 2) := by decide +kernel
theorem dX11_store_23 : decode cX11_store 23 = .ok (.iload_n 1, 1) := by decide +kernel
theorem dX11_store_24 : decode cX11_store 24 = .ok (.imul, 1) := by decide +kernel
theorem dX11_store_25 : decode cX11_store 25 = .ok (.iload_n 2, 1) := by decide +kernel
theorem dX11_store_26 : decode cX11_store 26 = .ok (.iadd, 1) := by decide +kernel
theorem dX11_store_27 : decode cX11_store 27 = .ok (.aload_n 0, 1) := by decide +kernel
theorem dX11_store_28 : decode cX11_store 28 = .ok (.getfield 77, 3) := by decide +kernel
theorem dX11_store_31 : decode cX11_store 31 = .ok (.iload_n 1, 1) := by decide +kernel
theorem dX11_store_32 : decode cX11_store 32 = .ok (.iaload, 1) := by decide +kernel
theorem dX11_store_33 : decode cX11_store 33 = .ok (.ifCond .ne 8, 3) := by decide +kernel
theorem dX11_store_36 : decode cX11_store 36 = .ok (.iload_n 3, 1) := by decide +kernel
theorem dX11_store_37 : decode cX11_store 37 = .ok (.i2b, 1) := by decide +kernel
theorem dX11_store_38 : decode cX11_store 38 = .ok (.goto 19, 3) := by decide +kernel
theorem dX11_store_41 : decode cX11_store 41 = .ok (.aload_n 0, 1) := by decide +kernel
theorem dX11_store_42 : decode cX11_store 42 = .ok (.getfield 77, 3) := by decide +kernel
theorem dX11_store_45 : decode cX11_store 45 = .ok (.iload_n 1, 1) := by decide +kernel
theorem dX11_store_46 : decode cX11_store 46 = .ok (.iaload, 1) := by decide +kernel
theorem dX11_store_47 : decode cX11_store 47 = .ok (.iconst 1, 1) := by decide +kernel
theorem dX11_store_48 : decode cX11_store 48 = .ok (.if_icmp .ne 8, 3) := by decide +kernel
theorem dX11_store_51 : decode cX11_store 51 = .ok (.iload_n 3, 1) := by decide +kernel
theorem dX11_store_52 : decode cX11_store 52 = .ok (.i2s, 1) := by decide +kernel
theorem dX11_store_53 : decode cX11_store 53 = .ok (.goto 4, 3) := by decide +kernel
theorem dX11_store_56 : decode cX11_store 56 = .ok (.iload_n 3, 1) := by decide +kernel
theorem dX11_store_57 : decode cX11_store 57 = .ok (.iastore, 1) := by decide +kernel
theorem dX11_store_58 : decode cX11_store 58 = .ok (.return_, 1) := by decide +kernel
theorem dX11_element_0 : decode cX11_element 0 = .ok (.aload_n 0, 1) := by decide +kernel
theorem dX11_element_1 : decode cX11_element 1 = .ok (.aload_n 0, 1) := by decide +kernel
theorem dX11_element_2 : decode cX11_element 2 = .ok (.iload_n 1, 1) := by decide +kernel
theorem dX11_element_3 : decode cX11_element 3 = .ok (.iload_n 2, 1) := by decide +kernel
theorem dX11_element_4 : decode cX11_element 4 = .ok (.invokevirtual 350, 3) := by decide +kernel
theorem dX11_element_7 : decode cX11_element 7 = .ok (.putfield 104, 3) := by decide +kernel
theorem dX11_element_10 : decode cX11_element 10 = .ok (.aload_n 0, 1) := by decide +kernel
theorem dX11_element_11 : decode cX11_element 11 = .ok (.getfield 104, 3) := by decide +kernel
theorem dX11_element_14 : decode cX11_element 14 = .ok (.ifCond .ne 17, 3) := by decide +kernel
theorem dX11_element_17 : decode cX11_element 17 = .ok (.aload_n 0, 1) := by decide +kernel
theorem dX11_element_18 : decode cX11_element 18 = .ok (.getfield 83, 3) := by decide +kernel
theorem dX11_element_21 : decode cX11_element 21 = .ok (.bipush 20, 2) := by decide +kernel
theorem dX11_element_23 : decode cX11_element 23 = .ok (.iload_n 1, 1) := by decide +kernel
theorem dX11_element_24 : decode cX11_element 24 = .ok (.imul, 1) := by decide +kernel
theorem dX11_element_25 : decode cX11_element 25 = .ok (.iload_n 2, 1) := by decide +kernel
theorem dX11_element_26 : decode cX11_element 26 = .ok (.iadd, 1) := by decide +kernel
theorem dX11_element_27 : decode cX11_element 27 = .ok (.iaload, 1) := by decide +kernel
theorem dX11_element_28 : decode cX11_element 28 = .ok (.goto 4, 3) := by decide +kernel
theorem dX11_element_31 : decode cX11_element 31 = .ok (.iconst 0, 1) := by decide +kernel
theorem dX11_element_32 : decode cX11_element 32 = .ok (.ireturn, 1) := by decide +kernel
theorem dX11_compareSizes_0 : decode cX11_compareSizes 0 = .ok (.aload_n 0, 1) := by decide +kernel
theorem dX11_compareSizes_1 : decode cX11_compareSizes 1 = .ok (.iconst 0, 1) := by decide +kernel
theorem dX11_compareSizes_2 : decode cX11_compareSizes 2 = .ok (.putfield 104, 3) := by decide +kernel
theorem dX11_compareSizes_5 : decode cX11_compareSizes 5 = .ok (.iload_n 1, 1) := by decide +kernel
theorem dX11_compareSizes_6 : decode cX11_compareSizes 6 = .ok (.invokestatic 347, 3) := by decide +kernel
theorem dX11_compareSizes_9 : decode cX11_compareSizes 9 = .ok (.ifCond .ne 9, 3) := by decide +kernel
theorem dX11_compareSizes_12 : decode cX11_compareSizes 12 = .ok (.aload_n 0, 1) := by decide +kernel
theorem dX11_compareSizes_13 : decode cX11_compareSizes 13 = .ok (.iconst 1, 1) := by decide +kernel
theorem dX11_compareSizes_14 : decode cX11_compareSizes 14 = .ok (.invokevirtual 134, 3) := by decide +kernel
theorem dX11_compareSizes_17 : decode cX11_compareSizes 17 = .ok (.ireturn, 1) := by decide +kernel
theorem dX11_compareSizes_18 : decode cX11_compareSizes 18 = .ok (.aload_n 0, 1) := by decide +kernel
theorem dX11_compareSizes_19 : decode cX11_compareSizes 19 = .ok (.invokevirtual 278, 3) := by decide +kernel
theorem dX11_compareSizes_22 : decode cX11_compareSizes 22 = .ok (.ifCond .ne 9, 3) := by decide +kernel
theorem dX11_compareSizes_25 : decode cX11_compareSizes 25 = .ok (.aload_n 0, 1) := by decide +kernel
theorem dX11_compareSizes_26 : decode cX11_compareSizes 26 = .ok (.iconst 2, 1) := by decide +kernel
theorem dX11_compareSizes_27 : decode cX11_compareSizes 27 = .ok (.invokevirtual 134, 3) := by decide +kernel
theorem dX11_compareSizes_30 : decode cX11_compareSizes 30 = .ok (.ireturn, 1) := by decide +kernel
theorem dX11_compareSizes_31 : decode cX11_compareSizes 31 = .ok (.aload_n 0, 1) := by decide +kernel
theorem dX11_compareSizes_32 : decode cX11_compareSizes 32 = .ok (.getfield 77, 3) := by decide +kernel
theorem dX11_compareSizes_35 : decode cX11_compareSizes 35 = .ok (.iload_n 1, 1) := by decide +kernel
theorem dX11_compareSizes_36 : decode cX11_compareSizes 36 = .ok (.iaload, 1) := by decide +kernel
theorem dX11_compareSizes_37 : decode cX11_compareSizes 37 = .ok (.iconst 2, 1) := by decide +kernel
theorem dX11_compareSizes_38 : decode cX11_compareSizes 38 = .ok (.if_icmp .eq 22, 3) := by decide +kernel
theorem dX11_compareSizes_41 : decode cX11_compareSizes 41 = .ok (.aload_n 0, 1) := by decide +kernel
theorem dX11_compareSizes_42 : decode cX11_compareSizes 42 = .ok (.aload_n 0, 1) := by decide +kernel
theorem dX11_compareSizes_43 : decode cX11_compareSizes 43 = .ok (.getfield 77, 3) := by decide +kernel
theorem dX11_compareSizes_46 : decode cX11_compareSizes 46 = .ok (.iload_n 1, 1) := by decide +kernel
theorem dX11_compareSizes_47 : decode cX11_compareSizes 47 = .ok (.iaload, 1) := by decide +kernel
theorem dX11_compareSizes_48 : decode cX11_compareSizes 48 = .ok (.ifCond .ge 7, 3) := by decide +kernel
theorem dX11_compareSizes_51 : decode cX11_compareSizes 51 = .ok (.iconst 3, 1) := by decide +kernel
theorem dX11_compareSizes_52 : decode cX11_compareSizes 52 = .ok (.goto 4, 3) := by decide +kernel
theorem dX11_compareSizes_55 : decode cX11_compareSizes 55 = .ok (.iconst 4, 1) := by decide +kernel
theorem dX11_compareSizes_56 : decode cX11_compareSizes 56 = .ok (.invokevirtual 134, 3) := by decide +kernel
theorem dX11_compareSizes_59 : decode cX11_compareSizes 59 = .ok (.ireturn, 1) := by decide +kernel
theorem dX11_compareSizes_60 : decode cX11_compareSizes 60 = .ok (.iconst 0, 1) := by decide +kernel
theorem dX11_compareSizes_61 : decode cX11_compareSizes 61 = .ok (.istore_n 2, 1) := by decide +kernel
theorem dX11_compareSizes_62 : decode cX11_compareSizes 62 = .ok (.iload_n 2, 1) := by decide +kernel
theorem dX11_compareSizes_63 : decode cX11_compareSizes 63 = .ok (.aload_n 0, 1) := by decide +kernel
theorem dX11_compareSizes_64 : decode cX11_compareSizes 64 = .ok (.getfield 29, 3) := by decide +kernel
theorem dX11_compareSizes_67 : decode cX11_compareSizes 67 = .ok (.if_icmp .gt 46, 3) := by decide +kernel
theorem dX11_compareSizes_70 : decode cX11_compareSizes 70 = .ok (.iload_n 2, 1) := by decide +kernel
theorem dX11_compareSizes_71 : decode cX11_compareSizes 71 = .ok (.aload_n 0, 1) := by decide +kernel
theorem dX11_compareSizes_72 : decode cX11_compareSizes 72 = .ok (.getfield 80, 3) := by decide +kernel
theorem dX11_compareSizes_75 : decode cX11_compareSizes 75 = .ok (.iload_n 1, 1) := by decide +kernel
theorem dX11_compareSizes_76 : decode cX11_compareSizes 76 = .ok (.iaload, 1) := by decide +kernel
theorem dX11_compareSizes_77 : decode cX11_compareSizes 77 = .ok (.if_icmp .lt 9, 3) := by decide +kernel
theorem dX11_compareSizes_80 : decode cX11_compareSizes 80 = .ok (.aload_n 0, 1) := by decide +kernel
theorem dX11_compareSizes_81 : decode cX11_compareSizes 81 = .ok (.iconst 1, 1) := by decide +kernel
theorem dX11_compareSizes_82 : decode cX11_compareSizes 82 = .ok (.invokevirtual 134, 3) := by decide +kernel
theorem dX11_compareSizes_85 : decode cX11_compareSizes 85 = .ok (.ireturn, 1) := by decide +kernel
theorem dX11_compareSizes_86 : decode cX11_compareSizes 86 = .ok (.aload_n 0, 1) := by decide +kernel
theorem dX11_compareSizes_87 : decode cX11_compareSizes 87 = .ok (.getfield 83, 3) := by decide +kernel
theorem dX11_compareSizes_90 : decode cX11_compareSizes 90 = .ok (.bipush 20, 2) := by decide +kernel
theorem dX11_compareSizes_92 : decode cX11_compareSizes 92 = .ok (.iload_n 1, 1) := by decide +kernel
theorem dX11_compareSizes_93 : decode cX11_compareSizes 93 = .ok (.imul, 1) := by decide +kernel
theorem dX11_compareSizes_94 : decode cX11_compareSizes 94 = .ok (.iload_n 2, 1) := by decide +kernel
theorem dX11_compareSizes_95 : decode cX11_compareSizes 95 = .ok (.iadd, 1) := by decide +kernel
theorem dX11_compareSizes_96 : decode cX11_compareSizes 96 = .ok (.iaload, 1) := by decide +kernel
theorem dX11_compareSizes_97 : decode cX11_compareSizes 97 = .ok (.aload_n 0, 1) := by decide +kernel
theorem dX11_compareSizes_98 : decode cX11_compareSizes 98 = .ok (.iload_n 2, 1) := by decide +kernel
theorem dX11_compareSizes_99 : decode cX11_compareSizes 99 = .ok (.invokevirtual 281, 3) := by decide +kernel
theorem dX11_compareSizes_102 : decode cX11_compareSizes 102 = .ok (.if_icmp .eq 5, 3) := by decide +kernel
theorem dX11_compareSizes_105 : decode cX11_compareSizes 105 = .ok (.iload_n 2, 1) := by decide +kernel
theorem dX11_compareSizes_106 : decode cX11_compareSizes 106 = .ok (.ireturn, 1) := by decide +kernel
theorem dX11_compareSizes_107 : decode cX11_compareSizes 107 = .ok (.iinc 2 1, 3) := by decide +kernel
theorem dX11_compareSizes_110 : decode cX11_compareSizes 110 = .ok (.goto (-48), 3) := by decide +kernel
theorem dX11_compareSizes_113 : decode cX11_compareSizes 113 = .ok (.iconst (-1), 1) := by decide +kernel
theorem dX11_compareSizes_114 : decode cX11_compareSizes 114 = .ok (.ireturn, 1) := by decide +kernel
theorem dX11_save_0 : decode cX11_save 0 = .ok (.aload_n 0, 1) := by decide +kernel
theorem dX11_save_1 : decode cX11_save 1 = .ok (.iconst 0, 1) := by decide +kernel
theorem dX11_save_2 : decode cX11_save 2 = .ok (.putfield 104, 3) := by decide +kernel
theorem dX11_save_5 : decode cX11_save 5 = .ok (.aload_n 0, 1) := by decide +kernel
theorem dX11_save_6 : decode cX11_save 6 = .ok (.iconst 1, 1) := by decide +kernel
theorem dX11_save_7 : decode cX11_save 7 = .ok (.putfield 353, 3) := by decide +kernel
theorem dX11_save_10 : decode cX11_save 10 = .ok (.iconst 0, 1) := by decide +kernel
theorem dX11_save_11 : decode cX11_save 11 = .ok (.istore_n 1, 1) := by decide +kernel
theorem dX11_save_12 : decode cX11_save 12 = .ok (.iload_n 1, 1) := by decide +kernel
theorem dX11_save_13 : decode cX11_save 13 = .ok (.sipush 300, 3) := by decide +kernel
theorem dX11_save_16 : decode cX11_save 16 = .ok (.if_icmp .ge 87, 3) := by decide +kernel
theorem dX11_save_19 : decode cX11_save 19 = .ok (.aload_n 0, 1) := by decide +kernel
theorem dX11_save_20 : decode cX11_save 20 = .ok (.getfield 95, 3) := by decide +kernel
theorem dX11_save_23 : decode cX11_save 23 = .ok (.iload_n 1, 1) := by decide +kernel
theorem dX11_save_24 : decode cX11_save 24 = .ok (.aload_n 0, 1) := by decide +kernel
theorem dX11_save_25 : decode cX11_save 25 = .ok (.getfield 19, 3) := by decide +kernel
theorem dX11_save_28 : decode cX11_save 28 = .ok (.iload_n 1, 1) := by decide +kernel
theorem dX11_save_29 : decode cX11_save 29 = .ok (.iaload, 1) := by decide +kernel
theorem dX11_save_30 : decode cX11_save 30 = .ok (.iastore, 1) := by decide +kernel
theorem dX11_save_31 : decode cX11_save 31 = .ok (.aload_n 0, 1) := by decide +kernel
theorem dX11_save_32 : decode cX11_save 32 = .ok (.getfield 86, 3) := by decide +kernel
theorem dX11_save_35 : decode cX11_save 35 = .ok (.iload_n 1, 1) := by decide +kernel
theorem dX11_save_36 : decode cX11_save 36 = .ok (.bipush 6, 2) := by decide +kernel
theorem dX11_save_38 : decode cX11_save 38 = .ok (.irem, 1) := by decide +kernel
theorem dX11_save_39 : decode cX11_save 39 = .ok (.aload_n 0, 1) := by decide +kernel
theorem dX11_save_40 : decode cX11_save 40 = .ok (.getfield 7, 3) := by decide +kernel
theorem dX11_save_43 : decode cX11_save 43 = .ok (.iload_n 1, 1) := by decide +kernel
theorem dX11_save_44 : decode cX11_save 44 = .ok (.bipush 6, 2) := by decide +kernel
theorem dX11_save_46 : decode cX11_save 46 = .ok (.irem, 1) := by decide +kernel
theorem dX11_save_47 : decode cX11_save 47 = .ok (.iaload, 1) := by decide +kernel
theorem dX11_save_48 : decode cX11_save 48 = .ok (.iastore, 1) := by decide +kernel
theorem dX11_save_49 : decode cX11_save 49 = .ok (.aload_n 0, 1) := by decide +kernel
theorem dX11_save_50 : decode cX11_save 50 = .ok (.getfield 89, 3) := by decide +kernel
theorem dX11_save_53 : decode cX11_save 53 = .ok (.iload_n 1, 1) := by decide +kernel
theorem dX11_save_54 : decode cX11_save 54 = .ok (.iconst 5, 1) := by decide +kernel
theorem dX11_save_55 : decode cX11_save 55 = .ok (.irem, 1) := by decide +kernel
theorem dX11_save_56 : decode cX11_save 56 = .ok (.aload_n 0, 1) := by decide +kernel
theorem dX11_save_57 : decode cX11_save 57 = .ok (.getfield 13, 3) := by decide +kernel
theorem dX11_save_60 : decode cX11_save 60 = .ok (.iload_n 1, 1) := by decide +kernel
theorem dX11_save_61 : decode cX11_save 61 = .ok (.iconst 5, 1) := by decide +kernel
theorem dX11_save_62 : decode cX11_save 62 = .ok (.irem, 1) := by decide +kernel
theorem dX11_save_63 : decode cX11_save 63 = .ok (.iaload, 1) := by decide +kernel
theorem dX11_save_64 : decode cX11_save 64 = .ok (.iastore, 1) := by decide +kernel
theorem dX11_save_65 : decode cX11_save 65 = .ok (.aload_n 0, 1) := by decide +kernel
theorem dX11_save_66 : decode cX11_save 66 = .ok (.getfield 92, 3) := by decide +kernel
theorem dX11_save_69 : decode cX11_save 69 = .ok (.iload_n 1, 1) := by decide +kernel
theorem dX11_save_70 : decode cX11_save 70 = .ok (.iconst 5, 1) := by decide +kernel
theorem dX11_save_71 : decode cX11_save 71 = .ok (.irem, 1) := by decide +kernel
theorem dX11_save_72 : decode cX11_save 72 = .ok (.aload_n 0, 1) := by decide +kernel
theorem dX11_save_73 : decode cX11_save 73 = .ok (.getfield 16, 3) := by decide +kernel
theorem dX11_save_76 : decode cX11_save 76 = .ok (.iload_n 1, 1) := by decide +kernel
theorem dX11_save_77 : decode cX11_save 77 = .ok (.iconst 5, 1) := by decide +kernel
theorem dX11_save_78 : decode cX11_save 78 = .ok (.irem, 1) := by decide +kernel
theorem dX11_save_79 : decode cX11_save 79 = .ok (.iaload, 1) := by decide +kernel
theorem dX11_save_80 : decode cX11_save 80 = .ok (.iastore, 1) := by decide +kernel
theorem dX11_save_81 : decode cX11_save 81 = .ok (.aload_n 0, 1) := by decide +kernel
theorem dX11_save_82 : decode cX11_save 82 = .ok (.getfield 98, 3) := by decide +kernel
theorem dX11_save_85 : decode cX11_save 85 = .ok (.iload_n 1, 1) := by decide +kernel
theorem dX11_save_86 : decode cX11_save 86 = .ok (.iconst 5, 1) := by decide +kernel
theorem dX11_save_87 : decode cX11_save 87 = .ok (.irem, 1) := by decide +kernel
theorem dX11_save_88 : decode cX11_save 88 = .ok (.aload_n 0, 1) := by decide +kernel
theorem dX11_save_89 : decode cX11_save 89 = .ok (.getfield 22, 3) := by decide +kernel
theorem dX11_save_92 : decode cX11_save 92 = .ok (.iload_n 1, 1) := by decide +kernel
theorem dX11_save_93 : decode cX11_save 93 = .ok (.iconst 5, 1) := by decide +kernel
theorem dX11_save_94 : decode cX11_save 94 = .ok (.irem, 1) := by decide +kernel
theorem dX11_save_95 : decode cX11_save 95 = .ok (.iaload, 1) := by decide +kernel
theorem dX11_save_96 : decode cX11_save 96 = .ok (.iastore, 1) := by decide +kernel
theorem dX11_save_97 : decode cX11_save 97 = .ok (.iinc 1 1, 3) := by decide +kernel
theorem dX11_save_100 : decode cX11_save 100 = .ok (.goto (-88), 3) := by decide +kernel
theorem dX11_save_103 : decode cX11_save 103 = .ok (.aload_n 0, 1) := by decide +kernel
theorem dX11_save_104 : decode cX11_save 104 = .ok (.getfield 101, 3) := by decide +kernel
theorem dX11_save_107 : decode cX11_save 107 = .ok (.iconst 0, 1) := by decide +kernel
theorem dX11_save_108 : decode cX11_save 108 = .ok (.aload_n 0, 1) := by decide +kernel
theorem dX11_save_109 : decode cX11_save 109 = .ok (.getfield 128, 3) := by decide +kernel
theorem dX11_save_112 : decode cX11_save 112 = .ok (.iastore, 1) := by decide +kernel
theorem dX11_save_113 : decode cX11_save 113 = .ok (.aload_n 0, 1) := by decide +kernel
theorem dX11_save_114 : decode cX11_save 114 = .ok (.getfield 101, 3) := by decide +kernel
theorem dX11_save_117 : decode cX11_save 117 = .ok (.iconst 1, 1) := by decide +kernel
theorem dX11_save_118 : decode cX11_save 118 = .ok (.aload_n 0, 1) := by decide +kernel
theorem dX11_save_119 : decode cX11_save 119 = .ok (.getfield 121, 3) := by decide +kernel
theorem dX11_save_122 : decode cX11_save 122 = .ok (.iastore, 1) := by decide +kernel
theorem dX11_save_123 : decode cX11_save 123 = .ok (.aload_n 0, 1) := by decide +kernel
theorem dX11_save_124 : decode cX11_save 124 = .ok (.getfield 101, 3) := by decide +kernel
theorem dX11_save_127 : decode cX11_save 127 = .ok (.iconst 2, 1) := by decide +kernel
theorem dX11_save_128 : decode cX11_save 128 = .ok (.aload_n 0, 1) := by decide +kernel
theorem dX11_save_129 : decode cX11_save 129 = .ok (.getfield 25, 3) := by decide +kernel
theorem dX11_save_132 : decode cX11_save 132 = .ok (.iastore, 1) := by decide +kernel
theorem dX11_save_133 : decode cX11_save 133 = .ok (.aload_n 0, 1) := by decide +kernel
theorem dX11_save_134 : decode cX11_save 134 = .ok (.getfield 101, 3) := by decide +kernel
theorem dX11_save_137 : decode cX11_save 137 = .ok (.iconst 3, 1) := by decide +kernel
theorem dX11_save_138 : decode cX11_save 138 = .ok (.aload_n 0, 1) := by decide +kernel
theorem dX11_save_139 : decode cX11_save 139 = .ok (.getfield 29, 3) := by decide +kernel
theorem dX11_save_142 : decode cX11_save 142 = .ok (.iastore, 1) := by decide +kernel
theorem dX11_save_143 : decode cX11_save 143 = .ok (.aload_n 0, 1) := by decide +kernel
theorem dX11_save_144 : decode cX11_save 144 = .ok (.getfield 101, 3) := by decide +kernel
theorem dX11_save_147 : decode cX11_save 147 = .ok (.iconst 4, 1) := by decide +kernel
theorem dX11_save_148 : decode cX11_save 148 = .ok (.aload_n 0, 1) := by decide +kernel
theorem dX11_save_149 : decode cX11_save 149 = .ok (.getfield 317, 3) := by decide +kernel
theorem dX11_save_152 : decode cX11_save 152 = .ok (.iastore, 1) := by decide +kernel
theorem dX11_save_153 : decode cX11_save 153 = .ok (.return_, 1) := by decide +kernel
theorem dX11_restore_0 : decode cX11_restore 0 = .ok (.aload_n 0, 1) := by decide +kernel
theorem dX11_restore_1 : decode cX11_restore 1 = .ok (.aload_n 0, 1) := by decide +kernel
theorem dX11_restore_2 : decode cX11_restore 2 = .ok (.getfield 353, 3) := by decide +kernel
theorem dX11_restore_5 : decode cX11_restore 5 = .ok (.ifCond .eq 7, 3) := by decide +kernel
theorem dX11_restore_8 : decode cX11_restore 8 = .ok (.iconst 0, 1) := by decide +kernel
theorem dX11_restore_9 : decode cX11_restore 9 = .ok (.goto 4, 3) := by decide +kernel
theorem dX11_restore_12 : decode cX11_restore 12 = .ok (.iconst 1, 1) := by decide +kernel
theorem dX11_restore_13 : decode cX11_restore 13 = .ok (.putfield 104, 3) := by decide +kernel
theorem dX11_restore_16 : decode cX11_restore 16 = .ok (.iconst 0, 1) := by decide +kernel
theorem dX11_restore_17 : decode cX11_restore 17 = .ok (.istore_n 1, 1) := by decide +kernel
theorem dX11_restore_18 : decode cX11_restore 18 = .ok (.iload_n 1, 1) := by decide +kernel
theorem dX11_restore_19 : decode cX11_restore 19 = .ok (.sipush 300, 3) := by decide +kernel
theorem dX11_restore_22 : decode cX11_restore 22 = .ok (.if_icmp .ge 94, 3) := by decide +kernel
theorem dX11_restore_25 : decode cX11_restore 25 = .ok (.aload_n 0, 1) := by decide +kernel
theorem dX11_restore_26 : decode cX11_restore 26 = .ok (.getfield 353, 3) := by decide +kernel
theorem dX11_restore_29 : decode cX11_restore 29 = .ok (.ifCond .eq 87, 3) := by decide +kernel
theorem dX11_restore_32 : decode cX11_restore 32 = .ok (.aload_n 0, 1) := by decide +kernel
theorem dX11_restore_33 : decode cX11_restore 33 = .ok (.getfield 19, 3) := by decide +kernel
theorem dX11_restore_36 : decode cX11_restore 36 = .ok (.iload_n 1, 1) := by decide +kernel
theorem dX11_restore_37 : decode cX11_restore 37 = .ok (.aload_n 0, 1) := by decide +kernel
theorem dX11_restore_38 : decode cX11_restore 38 = .ok (.getfield 95, 3) := by decide +kernel
theorem dX11_restore_41 : decode cX11_restore 41 = .ok (.iload_n 1, 1) := by decide +kernel
theorem dX11_restore_42 : decode cX11_restore 42 = .ok (.iaload, 1) := by decide +kernel
theorem dX11_restore_43 : decode cX11_restore 43 = .ok (.iastore, 1) := by decide +kernel
theorem dX11_restore_44 : decode cX11_restore 44 = .ok (.aload_n 0, 1) := by decide +kernel
theorem dX11_restore_45 : decode cX11_restore 45 = .ok (.getfield 7, 3) := by decide +kernel
theorem dX11_restore_48 : decode cX11_restore 48 = .ok (.iload_n 1, 1) := by decide +kernel
theorem dX11_restore_49 : decode cX11_restore 49 = .ok (.bipush 6, 2) := by decide +kernel
theorem dX11_restore_51 : decode cX11_restore 51 = .ok (.irem, 1) := by decide +kernel
theorem dX11_restore_52 : decode cX11_restore 52 = .ok (.aload_n 0, 1) := by decide +kernel
theorem dX11_restore_53 : decode cX11_restore 53 = .ok (.getfield 86, 3) := by decide +kernel
theorem dX11_restore_56 : decode cX11_restore 56 = .ok (.iload_n 1, 1) := by decide +kernel
theorem dX11_restore_57 : decode cX11_restore 57 = .ok (.bipush 6, 2) := by decide +kernel
theorem dX11_restore_59 : decode cX11_restore 59 = .ok (.irem, 1) := by decide +kernel
theorem dX11_restore_60 : decode cX11_restore 60 = .ok (.iaload, 1) := by decide +kernel
theorem dX11_restore_61 : decode cX11_restore 61 = .ok (.iastore, 1) := by decide +kernel
theorem dX11_restore_62 : decode cX11_restore 62 = .ok (.aload_n 0, 1) := by decide +kernel
theorem dX11_restore_63 : decode cX11_restore 63 = .ok (.getfield 13, 3) := by decide +kernel
theorem dX11_restore_66 : decode cX11_restore 66 = .ok (.iload_n 1, 1) := by decide +kernel
theorem dX11_restore_67 : decode cX11_restore 67 = .ok (.iconst 5, 1) := by decide +kernel
theorem dX11_restore_68 : decode cX11_restore 68 = .ok (.irem, 1) := by decide +kernel
theorem dX11_restore_69 : decode cX11_restore 69 = .ok (.aload_n 0, 1) := by decide +kernel
theorem dX11_restore_70 : decode cX11_restore 70 = .ok (.getfield 89, 3) := by decide +kernel
theorem dX11_restore_73 : decode cX11_restore 73 = .ok (.iload_n 1, 1) := by decide +kernel
theorem dX11_restore_74 : decode cX11_restore 74 = .ok (.iconst 5, 1) := by decide +kernel
theorem dX11_restore_75 : decode cX11_restore 75 = .ok (.irem, 1) := by decide +kernel
theorem dX11_restore_76 : decode cX11_restore 76 = .ok (.iaload, 1) := by decide +kernel
theorem dX11_restore_77 : decode cX11_restore 77 = .ok (.iastore, 1) := by decide +kernel
theorem dX11_restore_78 : decode cX11_restore 78 = .ok (.aload_n 0, 1) := by decide +kernel
theorem dX11_restore_79 : decode cX11_restore 79 = .ok (.getfield 16, 3) := by decide +kernel
theorem dX11_restore_82 : decode cX11_restore 82 = .ok (.iload_n 1, 1) := by decide +kernel
theorem dX11_restore_83 : decode cX11_restore 83 = .ok (.iconst 5, 1) := by decide +kernel
theorem dX11_restore_84 : decode cX11_restore 84 = .ok (.irem, 1) := by decide +kernel
theorem dX11_restore_85 : decode cX11_restore 85 = .ok (.aload_n 0, 1) := by decide +kernel
theorem dX11_restore_86 : decode cX11_restore 86 = .ok (.getfield 92, 3) := by decide +kernel
theorem dX11_restore_89 : decode cX11_restore 89 = .ok (.iload_n 1, 1) := by decide +kernel
theorem dX11_restore_90 : decode cX11_restore 90 = .ok (.iconst 5, 1) := by decide +kernel
theorem dX11_restore_91 : decode cX11_restore 91 = .ok (.irem, 1) := by decide +kernel
theorem dX11_restore_92 : decode cX11_restore 92 = .ok (.iaload, 1) := by decide +kernel
theorem dX11_restore_93 : decode cX11_restore 93 = .ok (.iastore, 1) := by decide +kernel
theorem dX11_restore_94 : decode cX11_restore 94 = .ok (.aload_n 0, 1) := by decide +kernel
theorem dX11_restore_95 : decode cX11_restore 95 = .ok (.getfield 22, 3) := by decide +kernel
theorem dX11_restore_98 : decode cX11_restore 98 = .ok (.iload_n 1, 1) := by decide +kernel
theorem dX11_restore_99 : decode cX11_restore 99 = .ok (.iconst 5, 1) := by decide +kernel
theorem dX11_restore_100 : decode cX11_restore 100 = .ok (.irem, 1) := by decide +kernel
theorem dX11_restore_101 : decode cX11_restore 101 = .ok (.aload_n 0, 1) := by decide +kernel
theorem dX11_restore_102 : decode cX11_restore 102 = .ok (.getfield 98, 3) := by decide +kernel
theorem dX11_restore_105 : decode cX11_restore 105 = .ok (.iload_n 1, 1) := by decide +kernel
theorem dX11_restore_106 : decode cX11_restore 106 = .ok (.iconst 5, 1) := by decide +kernel
theorem dX11_restore_107 : decode cX11_restore 107 = .ok (.irem, 1) := by decide +kernel
theorem dX11_restore_108 : decode cX11_restore 108 = .ok (.iaload, 1) := by decide +kernel
theorem dX11_restore_109 : decode cX11_restore 109 = .ok (.iastore, 1) := by decide +kernel
theorem dX11_restore_110 : decode cX11_restore 110 = .ok (.iinc 1 1, 3) := by decide +kernel
theorem dX11_restore_113 : decode cX11_restore 113 = .ok (.goto (-95), 3) := by decide +kernel
theorem dX11_restore_116 : decode cX11_restore 116 = .ok (.aload_n 0, 1) := by decide +kernel
theorem dX11_restore_117 : decode cX11_restore 117 = .ok (.getfield 353, 3) := by decide +kernel
theorem dX11_restore_120 : decode cX11_restore 120 = .ok (.ifCond .eq 53, 3) := by decide +kernel
theorem dX11_restore_123 : decode cX11_restore 123 = .ok (.aload_n 0, 1) := by decide +kernel
theorem dX11_restore_124 : decode cX11_restore 124 = .ok (.aload_n 0, 1) := by decide +kernel
theorem dX11_restore_125 : decode cX11_restore 125 = .ok (.getfield 101, 3) := by decide +kernel
theorem dX11_restore_128 : decode cX11_restore 128 = .ok (.iconst 0, 1) := by decide +kernel
theorem dX11_restore_129 : decode cX11_restore 129 = .ok (.iaload, 1) := by decide +kernel
theorem dX11_restore_130 : decode cX11_restore 130 = .ok (.putfield 128, 3) := by decide +kernel
theorem dX11_restore_133 : decode cX11_restore 133 = .ok (.aload_n 0, 1) := by decide +kernel
theorem dX11_restore_134 : decode cX11_restore 134 = .ok (.aload_n 0, 1) := by decide +kernel
theorem dX11_restore_135 : decode cX11_restore 135 = .ok (.getfield 101, 3) := by decide +kernel
theorem dX11_restore_138 : decode cX11_restore 138 = .ok (.iconst 1, 1) := by decide +kernel
theorem dX11_restore_139 : decode cX11_restore 139 = .ok (.iaload, 1) := by decide +kernel
theorem dX11_restore_140 : decode cX11_restore 140 = .ok (.putfield 121, 3) := by decide +kernel
theorem dX11_restore_143 : decode cX11_restore 143 = .ok (.aload_n 0, 1) := by decide +kernel
theorem dX11_restore_144 : decode cX11_restore 144 = .ok (.aload_n 0, 1) := by decide +kernel
theorem dX11_restore_145 : decode cX11_restore 145 = .ok (.getfield 101, 3) := by decide +kernel
theorem dX11_restore_148 : decode cX11_restore 148 = .ok (.iconst 2, 1) := by decide +kernel
theorem dX11_restore_149 : decode cX11_restore 149 = .ok (.iaload, 1) := by decide +kernel
theorem dX11_restore_150 : decode cX11_restore 150 = .ok (.putfield 25, 3) := by decide +kernel
theorem dX11_restore_153 : decode cX11_restore 153 = .ok (.aload_n 0, 1) := by decide +kernel
theorem dX11_restore_154 : decode cX11_restore 154 = .ok (.aload_n 0, 1) := by decide +kernel
theorem dX11_restore_155 : decode cX11_restore 155 = .ok (.getfield 101, 3) := by decide +kernel
theorem dX11_restore_158 : decode cX11_restore 158 = .ok (.iconst 3, 1) := by decide +kernel
theorem dX11_restore_159 : decode cX11_restore 159 = .ok (.iaload, 1) := by decide +kernel
theorem dX11_restore_160 : decode cX11_restore 160 = .ok (.putfield 29, 3) := by decide +kernel
theorem dX11_restore_163 : decode cX11_restore 163 = .ok (.aload_n 0, 1) := by decide +kernel
theorem dX11_restore_164 : decode cX11_restore 164 = .ok (.aload_n 0, 1) := by decide +kernel
theorem dX11_restore_165 : decode cX11_restore 165 = .ok (.getfield 101, 3) := by decide +kernel
theorem dX11_restore_168 : decode cX11_restore 168 = .ok (.iconst 4, 1) := by decide +kernel
theorem dX11_restore_169 : decode cX11_restore 169 = .ok (.iaload, 1) := by decide +kernel
theorem dX11_restore_170 : decode cX11_restore 170 = .ok (.putfield 317, 3) := by decide +kernel
theorem dX11_restore_173 : decode cX11_restore 173 = .ok (.return_, 1) := by decide +kernel
