/-! the law: its helpers and its cases, as functions; .2.2: the exceptions made -/
theorem d157_0 : decode (mCode 157) 0 = .ok (.aload_n 3, 1) := by decide +kernel
theorem d157_1 : decode (mCode 157) 1 = .ok (.iconst 0, 1) := by decide +kernel
theorem d157_2 : decode (mCode 157) 2 = .ok (.aload_n 0, 1) := by decide +kernel
theorem d157_3 : decode (mCode 157) 3 = .ok (.iload_n 1, 1) := by decide +kernel
theorem d157_4 : decode (mCode 157) 4 = .ok (.iload_n 2, 1) := by decide +kernel
theorem d157_5 : decode (mCode 157) 5 = .ok (.invokevirtual 7, 3) := by decide +kernel
theorem d157_8 : decode (mCode 157) 8 = .ok (.i2l, 1) := by decide +kernel
theorem d157_9 : decode (mCode 157) 9 = .ok (.lastore, 1) := by decide +kernel
theorem d157_10 : decode (mCode 157) 10 = .ok (.goto 11, 3) := by decide +kernel
theorem d157_13 : decode (mCode 157) 13 = .ok (.astore 4, 2) := by decide +kernel
theorem d157_15 : decode (mCode 157) 15 = .ok (.iconst 1, 1) := by decide +kernel
theorem d157_16 : decode (mCode 157) 16 = .ok (.ireturn, 1) := by decide +kernel
theorem d157_17 : decode (mCode 157) 17 = .ok (.astore 4, 2) := by decide +kernel
theorem d157_19 : decode (mCode 157) 19 = .ok (.iconst 2, 1) := by decide +kernel
theorem d157_20 : decode (mCode 157) 20 = .ok (.ireturn, 1) := by decide +kernel
theorem d157_21 : decode (mCode 157) 21 = .ok (.iconst 0, 1) := by decide +kernel
theorem d157_22 : decode (mCode 157) 22 = .ok (.ireturn, 1) := by decide +kernel
theorem d158_0 : decode (mCode 158) 0 = .ok (.aload_n 3, 1) := by decide +kernel
theorem d158_1 : decode (mCode 158) 1 = .ok (.iconst 0, 1) := by decide +kernel
theorem d158_2 : decode (mCode 158) 2 = .ok (.aload_n 0, 1) := by decide +kernel
theorem d158_3 : decode (mCode 158) 3 = .ok (.iload_n 1, 1) := by decide +kernel
theorem d158_4 : decode (mCode 158) 4 = .ok (.iload_n 2, 1) := by decide +kernel
theorem d158_5 : decode (mCode 158) 5 = .ok (.invokevirtual 17, 3) := by decide +kernel
theorem d158_8 : decode (mCode 158) 8 = .ok (.ifCond .eq 7, 3) := by decide +kernel
theorem d158_11 : decode (mCode 158) 11 = .ok (.lconst 1, 1) := by decide +kernel
theorem d158_12 : decode (mCode 158) 12 = .ok (.goto 4, 3) := by decide +kernel
theorem d158_15 : decode (mCode 158) 15 = .ok (.lconst 0, 1) := by decide +kernel
theorem d158_16 : decode (mCode 158) 16 = .ok (.lastore, 1) := by decide +kernel
theorem d158_17 : decode (mCode 158) 17 = .ok (.goto 7, 3) := by decide +kernel
theorem d158_20 : decode (mCode 158) 20 = .ok (.astore 4, 2) := by decide +kernel
theorem d158_22 : decode (mCode 158) 22 = .ok (.iconst 1, 1) := by decide +kernel
theorem d158_23 : decode (mCode 158) 23 = .ok (.ireturn, 1) := by decide +kernel
theorem d158_24 : decode (mCode 158) 24 = .ok (.iconst 0, 1) := by decide +kernel
theorem d158_25 : decode (mCode 158) 25 = .ok (.ireturn, 1) := by decide +kernel
theorem d159_0 : decode (mCode 159) 0 = .ok (.aload_n 3, 1) := by decide +kernel
theorem d159_1 : decode (mCode 159) 1 = .ok (.iconst 0, 1) := by decide +kernel
theorem d159_2 : decode (mCode 159) 2 = .ok (.aload_n 0, 1) := by decide +kernel
theorem d159_3 : decode (mCode 159) 3 = .ok (.iload_n 1, 1) := by decide +kernel
theorem d159_4 : decode (mCode 159) 4 = .ok (.iload_n 2, 1) := by decide +kernel
theorem d159_5 : decode (mCode 159) 5 = .ok (.invokevirtual 21, 3) := by decide +kernel
theorem d159_8 : decode (mCode 159) 8 = .ok (.ifCond .eq 7, 3) := by decide +kernel
theorem d159_11 : decode (mCode 159) 11 = .ok (.lconst 1, 1) := by decide +kernel
theorem d159_12 : decode (mCode 159) 12 = .ok (.goto 4, 3) := by decide +kernel
theorem d159_15 : decode (mCode 159) 15 = .ok (.lconst 0, 1) := by decide +kernel
theorem d159_16 : decode (mCode 159) 16 = .ok (.lastore, 1) := by decide +kernel
theorem d159_17 : decode (mCode 159) 17 = .ok (.goto 7, 3) := by decide +kernel
theorem d159_20 : decode (mCode 159) 20 = .ok (.astore 4, 2) := by decide +kernel
theorem d159_22 : decode (mCode 159) 22 = .ok (.iconst 1, 1) := by decide +kernel
theorem d159_23 : decode (mCode 159) 23 = .ok (.ireturn, 1) := by decide +kernel
theorem d159_24 : decode (mCode 159) 24 = .ok (.iconst 0, 1) := by decide +kernel
theorem d159_25 : decode (mCode 159) 25 = .ok (.ireturn, 1) := by decide +kernel
theorem d160_0 : decode (mCode 160) 0 = .ok (.aload_n 3, 1) := by decide +kernel
theorem d160_1 : decode (mCode 160) 1 = .ok (.iconst 0, 1) := by decide +kernel
theorem d160_2 : decode (mCode 160) 2 = .ok (.aload_n 0, 1) := by decide +kernel
theorem d160_3 : decode (mCode 160) 3 = .ok (.iload_n 1, 1) := by decide +kernel
theorem d160_4 : decode (mCode 160) 4 = .ok (.iload_n 2, 1) := by decide +kernel
theorem d160_5 : decode (mCode 160) 5 = .ok (.invokevirtual 24, 3) := by decide +kernel
theorem d160_8 : decode (mCode 160) 8 = .ok (.i2l, 1) := by decide +kernel
theorem d160_9 : decode (mCode 160) 9 = .ok (.lastore, 1) := by decide +kernel
theorem d160_10 : decode (mCode 160) 10 = .ok (.goto 7, 3) := by decide +kernel
theorem d160_13 : decode (mCode 160) 13 = .ok (.astore 4, 2) := by decide +kernel
theorem d160_15 : decode (mCode 160) 15 = .ok (.iconst 1, 1) := by decide +kernel
theorem d160_16 : decode (mCode 160) 16 = .ok (.ireturn, 1) := by decide +kernel
theorem d160_17 : decode (mCode 160) 17 = .ok (.iconst 0, 1) := by decide +kernel
theorem d160_18 : decode (mCode 160) 18 = .ok (.ireturn, 1) := by decide +kernel
theorem d161_0 : decode (mCode 161) 0 = .ok (.aload_n 3, 1) := by decide +kernel
theorem d161_1 : decode (mCode 161) 1 = .ok (.iconst 0, 1) := by decide +kernel
theorem d161_2 : decode (mCode 161) 2 = .ok (.aload_n 0, 1) := by decide +kernel
theorem d161_3 : decode (mCode 161) 3 = .ok (.iload_n 1, 1) := by decide +kernel
theorem d161_4 : decode (mCode 161) 4 = .ok (.iload_n 2, 1) := by decide +kernel
theorem d161_5 : decode (mCode 161) 5 = .ok (.invokevirtual 29, 3) := by decide +kernel
theorem d161_8 : decode (mCode 161) 8 = .ok (.i2l, 1) := by decide +kernel
theorem d161_9 : decode (mCode 161) 9 = .ok (.lastore, 1) := by decide +kernel
theorem d161_10 : decode (mCode 161) 10 = .ok (.goto 7, 3) := by decide +kernel
theorem d161_13 : decode (mCode 161) 13 = .ok (.astore 4, 2) := by decide +kernel
theorem d161_15 : decode (mCode 161) 15 = .ok (.iconst 1, 1) := by decide +kernel
theorem d161_16 : decode (mCode 161) 16 = .ok (.ireturn, 1) := by decide +kernel
theorem d161_17 : decode (mCode 161) 17 = .ok (.iconst 0, 1) := by decide +kernel
theorem d161_18 : decode (mCode 161) 18 = .ok (.ireturn, 1) := by decide +kernel
theorem d162_0 : decode (mCode 162) 0 = .ok (.aload_n 3, 1) := by decide +kernel
theorem d162_1 : decode (mCode 162) 1 = .ok (.iconst 0, 1) := by decide +kernel
theorem d162_2 : decode (mCode 162) 2 = .ok (.aload_n 0, 1) := by decide +kernel
theorem d162_3 : decode (mCode 162) 3 = .ok (.iload_n 1, 1) := by decide +kernel
theorem d162_4 : decode (mCode 162) 4 = .ok (.iload_n 2, 1) := by decide +kernel
theorem d162_5 : decode (mCode 162) 5 = .ok (.invokevirtual 32, 3) := by decide +kernel
theorem d162_8 : decode (mCode 162) 8 = .ok (.i2l, 1) := by decide +kernel
theorem d162_9 : decode (mCode 162) 9 = .ok (.lastore, 1) := by decide +kernel
theorem d162_10 : decode (mCode 162) 10 = .ok (.goto 7, 3) := by decide +kernel
theorem d162_13 : decode (mCode 162) 13 = .ok (.astore 4, 2) := by decide +kernel
theorem d162_15 : decode (mCode 162) 15 = .ok (.iconst 1, 1) := by decide +kernel
theorem d162_16 : decode (mCode 162) 16 = .ok (.ireturn, 1) := by decide +kernel
theorem d162_17 : decode (mCode 162) 17 = .ok (.iconst 0, 1) := by decide +kernel
theorem d162_18 : decode (mCode 162) 18 = .ok (.ireturn, 1) := by decide +kernel
theorem d163_0 : decode (mCode 163) 0 = .ok (.aload 4, 2) := by decide +kernel
theorem d163_2 : decode (mCode 163) 2 = .ok (.iconst 0, 1) := by decide +kernel
theorem d163_3 : decode (mCode 163) 3 = .ok (.aload_n 0, 1) := by decide +kernel
theorem d163_4 : decode (mCode 163) 4 = .ok (.iload_n 1, 1) := by decide +kernel
theorem d163_5 : decode (mCode 163) 5 = .ok (.iload_n 2, 1) := by decide +kernel
theorem d163_6 : decode (mCode 163) 6 = .ok (.iload_n 3, 1) := by decide +kernel
theorem d163_7 : decode (mCode 163) 7 = .ok (.invokevirtual 35, 3) := by decide +kernel
theorem d163_10 : decode (mCode 163) 10 = .ok (.i2l, 1) := by decide +kernel
theorem d163_11 : decode (mCode 163) 11 = .ok (.lastore, 1) := by decide +kernel
theorem d163_12 : decode (mCode 163) 12 = .ok (.goto 7, 3) := by decide +kernel
theorem d163_15 : decode (mCode 163) 15 = .ok (.astore 5, 2) := by decide +kernel
theorem d163_17 : decode (mCode 163) 17 = .ok (.iconst 1, 1) := by decide +kernel
theorem d163_18 : decode (mCode 163) 18 = .ok (.ireturn, 1) := by decide +kernel
theorem d163_19 : decode (mCode 163) 19 = .ok (.iconst 0, 1) := by decide +kernel
theorem d163_20 : decode (mCode 163) 20 = .ok (.ireturn, 1) := by decide +kernel
theorem d164_0 : decode (mCode 164) 0 = .ok (.aload 5, 2) := by decide +kernel
theorem d164_2 : decode (mCode 164) 2 = .ok (.iconst 0, 1) := by decide +kernel
theorem d164_3 : decode (mCode 164) 3 = .ok (.aload_n 0, 1) := by decide +kernel
theorem d164_4 : decode (mCode 164) 4 = .ok (.iload_n 1, 1) := by decide +kernel
theorem d164_5 : decode (mCode 164) 5 = .ok (.iload_n 2, 1) := by decide +kernel
theorem d164_6 : decode (mCode 164) 6 = .ok (.iload_n 3, 1) := by decide +kernel
theorem d164_7 : decode (mCode 164) 7 = .ok (.iload 4, 2) := by decide +kernel
theorem d164_9 : decode (mCode 164) 9 = .ok (.invokevirtual 39, 3) := by decide +kernel
theorem d164_12 : decode (mCode 164) 12 = .ok (.i2l, 1) := by decide +kernel
theorem d164_13 : decode (mCode 164) 13 = .ok (.lastore, 1) := by decide +kernel
theorem d164_14 : decode (mCode 164) 14 = .ok (.goto 7, 3) := by decide +kernel
theorem d164_17 : decode (mCode 164) 17 = .ok (.astore 6, 2) := by decide +kernel
theorem d164_19 : decode (mCode 164) 19 = .ok (.iconst 1, 1) := by decide +kernel
theorem d164_20 : decode (mCode 164) 20 = .ok (.ireturn, 1) := by decide +kernel
theorem d164_21 : decode (mCode 164) 21 = .ok (.iconst 0, 1) := by decide +kernel
theorem d164_22 : decode (mCode 164) 22 = .ok (.ireturn, 1) := by decide +kernel
theorem d165_0 : decode (mCode 165) 0 = .ok (.aload_n 3, 1) := by decide +kernel
theorem d165_1 : decode (mCode 165) 1 = .ok (.iconst 0, 1) := by decide +kernel
theorem d165_2 : decode (mCode 165) 2 = .ok (.aload_n 0, 1) := by decide +kernel
theorem d165_3 : decode (mCode 165) 3 = .ok (.iload_n 1, 1) := by decide +kernel
theorem d165_4 : decode (mCode 165) 4 = .ok (.iload_n 2, 1) := by decide +kernel
theorem d165_5 : decode (mCode 165) 5 = .ok (.invokevirtual 43, 3) := by decide +kernel
theorem d165_8 : decode (mCode 165) 8 = .ok (.i2l, 1) := by decide +kernel
theorem d165_9 : decode (mCode 165) 9 = .ok (.lastore, 1) := by decide +kernel
theorem d165_10 : decode (mCode 165) 10 = .ok (.goto 7, 3) := by decide +kernel
theorem d165_13 : decode (mCode 165) 13 = .ok (.astore 4, 2) := by decide +kernel
theorem d165_15 : decode (mCode 165) 15 = .ok (.iconst 1, 1) := by decide +kernel
theorem d165_16 : decode (mCode 165) 16 = .ok (.ireturn, 1) := by decide +kernel
theorem d165_17 : decode (mCode 165) 17 = .ok (.iconst 0, 1) := by decide +kernel
theorem d165_18 : decode (mCode 165) 18 = .ok (.ireturn, 1) := by decide +kernel
theorem d166_0 : decode (mCode 166) 0 = .ok (.aload 5, 2) := by decide +kernel
theorem d166_2 : decode (mCode 166) 2 = .ok (.iconst 0, 1) := by decide +kernel
theorem d166_3 : decode (mCode 166) 3 = .ok (.aload_n 0, 1) := by decide +kernel
theorem d166_4 : decode (mCode 166) 4 = .ok (.iload_n 1, 1) := by decide +kernel
theorem d166_5 : decode (mCode 166) 5 = .ok (.iload_n 2, 1) := by decide +kernel
theorem d166_6 : decode (mCode 166) 6 = .ok (.iload_n 3, 1) := by decide +kernel
theorem d166_7 : decode (mCode 166) 7 = .ok (.iload 4, 2) := by decide +kernel
theorem d166_9 : decode (mCode 166) 9 = .ok (.invokevirtual 46, 3) := by decide +kernel
theorem d166_12 : decode (mCode 166) 12 = .ok (.i2l, 1) := by decide +kernel
theorem d166_13 : decode (mCode 166) 13 = .ok (.lastore, 1) := by decide +kernel
theorem d166_14 : decode (mCode 166) 14 = .ok (.goto 7, 3) := by decide +kernel
theorem d166_17 : decode (mCode 166) 17 = .ok (.astore 6, 2) := by decide +kernel
theorem d166_19 : decode (mCode 166) 19 = .ok (.iconst 1, 1) := by decide +kernel
theorem d166_20 : decode (mCode 166) 20 = .ok (.ireturn, 1) := by decide +kernel
theorem d166_21 : decode (mCode 166) 21 = .ok (.iconst 0, 1) := by decide +kernel
theorem d166_22 : decode (mCode 166) 22 = .ok (.ireturn, 1) := by decide +kernel
theorem d171_108 : decode (mCode 171) 108 = .ok (.aload_n 1, 1) := by decide +kernel
theorem d171_109 : decode (mCode 171) 109 = .ok (.aload_n 0, 1) := by decide +kernel
theorem d171_110 : decode (mCode 171) 110 = .ok (.iload 4, 2) := by decide +kernel
theorem d171_112 : decode (mCode 171) 112 = .ok (.iconst 1, 1) := by decide +kernel
theorem d171_113 : decode (mCode 171) 113 = .ok (.iadd, 1) := by decide +kernel
theorem d171_114 : decode (mCode 171) 114 = .ok (.iaload, 1) := by decide +kernel
theorem d171_115 : decode (mCode 171) 115 = .ok (.aload_n 0, 1) := by decide +kernel
theorem d171_116 : decode (mCode 171) 116 = .ok (.iload 4, 2) := by decide +kernel
theorem d171_118 : decode (mCode 171) 118 = .ok (.iconst 2, 1) := by decide +kernel
theorem d171_119 : decode (mCode 171) 119 = .ok (.iadd, 1) := by decide +kernel
theorem d171_120 : decode (mCode 171) 120 = .ok (.iaload, 1) := by decide +kernel
theorem d171_121 : decode (mCode 171) 121 = .ok (.aload_n 3, 1) := by decide +kernel
theorem d171_122 : decode (mCode 171) 122 = .ok (.invokestatic 53, 3) := by decide +kernel
theorem d171_125 : decode (mCode 171) 125 = .ok (.istore 5, 2) := by decide +kernel
theorem d171_127 : decode (mCode 171) 127 = .ok (.aload_n 2, 1) := by decide +kernel
theorem d171_128 : decode (mCode 171) 128 = .ok (.aload_n 0, 1) := by decide +kernel
theorem d171_129 : decode (mCode 171) 129 = .ok (.iload 4, 2) := by decide +kernel
theorem d171_131 : decode (mCode 171) 131 = .ok (.iconst 1, 1) := by decide +kernel
theorem d171_132 : decode (mCode 171) 132 = .ok (.iadd, 1) := by decide +kernel
theorem d171_133 : decode (mCode 171) 133 = .ok (.iaload, 1) := by decide +kernel
theorem d171_134 : decode (mCode 171) 134 = .ok (.aload_n 0, 1) := by decide +kernel
theorem d171_135 : decode (mCode 171) 135 = .ok (.iload 4, 2) := by decide +kernel
theorem d171_137 : decode (mCode 171) 137 = .ok (.iconst 2, 1) := by decide +kernel
theorem d171_138 : decode (mCode 171) 138 = .ok (.iadd, 1) := by decide +kernel
theorem d171_139 : decode (mCode 171) 139 = .ok (.iaload, 1) := by decide +kernel
theorem d171_140 : decode (mCode 171) 140 = .ok (.invokevirtual 58, 3) := by decide +kernel
theorem d171_143 : decode (mCode 171) 143 = .ok (.istore 6, 2) := by decide +kernel
theorem d171_145 : decode (mCode 171) 145 = .ok (.aload_n 2, 1) := by decide +kernel
theorem d171_146 : decode (mCode 171) 146 = .ok (.invokevirtual 59, 3) := by decide +kernel
theorem d171_149 : decode (mCode 171) 149 = .ok (.iload 5, 2) := by decide +kernel
theorem d171_151 : decode (mCode 171) 151 = .ok (.if_icmp .eq 5, 3) := by decide +kernel
theorem d171_154 : decode (mCode 171) 154 = .ok (.iconst 0, 1) := by decide +kernel
theorem d171_155 : decode (mCode 171) 155 = .ok (.ireturn, 1) := by decide +kernel
theorem d171_156 : decode (mCode 171) 156 = .ok (.iload 5, 2) := by decide +kernel
theorem d171_158 : decode (mCode 171) 158 = .ok (.ifCond .ne 15, 3) := by decide +kernel
theorem d171_161 : decode (mCode 171) 161 = .ok (.aload_n 3, 1) := by decide +kernel
theorem d171_162 : decode (mCode 171) 162 = .ok (.iconst 0, 1) := by decide +kernel
theorem d171_163 : decode (mCode 171) 163 = .ok (.laload, 1) := by decide +kernel
theorem d171_164 : decode (mCode 171) 164 = .ok (.iload 6, 2) := by decide +kernel
theorem d171_166 : decode (mCode 171) 166 = .ok (.i2l, 1) := by decide +kernel
theorem d171_167 : decode (mCode 171) 167 = .ok (.lcmp, 1) := by decide +kernel
theorem d171_168 : decode (mCode 171) 168 = .ok (.ifCond .eq 5, 3) := by decide +kernel
theorem d171_171 : decode (mCode 171) 171 = .ok (.iconst 0, 1) := by decide +kernel
theorem d171_172 : decode (mCode 171) 172 = .ok (.ireturn, 1) := by decide +kernel
theorem d171_173 : decode (mCode 171) 173 = .ok (.goto 777, 3) := by decide +kernel
theorem d171_176 : decode (mCode 171) 176 = .ok (.aload_n 1, 1) := by decide +kernel
theorem d171_177 : decode (mCode 171) 177 = .ok (.aload_n 0, 1) := by decide +kernel
theorem d171_178 : decode (mCode 171) 178 = .ok (.iload 4, 2) := by decide +kernel
theorem d171_180 : decode (mCode 171) 180 = .ok (.iconst 1, 1) := by decide +kernel
theorem d171_181 : decode (mCode 171) 181 = .ok (.iadd, 1) := by decide +kernel
theorem d171_182 : decode (mCode 171) 182 = .ok (.iaload, 1) := by decide +kernel
theorem d171_183 : decode (mCode 171) 183 = .ok (.aload_n 0, 1) := by decide +kernel
theorem d171_184 : decode (mCode 171) 184 = .ok (.iload 4, 2) := by decide +kernel
theorem d171_186 : decode (mCode 171) 186 = .ok (.iconst 2, 1) := by decide +kernel
theorem d171_187 : decode (mCode 171) 187 = .ok (.iadd, 1) := by decide +kernel
theorem d171_188 : decode (mCode 171) 188 = .ok (.iaload, 1) := by decide +kernel
theorem d171_189 : decode (mCode 171) 189 = .ok (.aload_n 3, 1) := by decide +kernel
theorem d171_190 : decode (mCode 171) 190 = .ok (.invokestatic 63, 3) := by decide +kernel
theorem d171_193 : decode (mCode 171) 193 = .ok (.istore 5, 2) := by decide +kernel
theorem d171_195 : decode (mCode 171) 195 = .ok (.aload_n 2, 1) := by decide +kernel
theorem d171_196 : decode (mCode 171) 196 = .ok (.aload_n 0, 1) := by decide +kernel
theorem d171_197 : decode (mCode 171) 197 = .ok (.iload 4, 2) := by decide +kernel
theorem d171_199 : decode (mCode 171) 199 = .ok (.iconst 1, 1) := by decide +kernel
theorem d171_200 : decode (mCode 171) 200 = .ok (.iadd, 1) := by decide +kernel
theorem d171_201 : decode (mCode 171) 201 = .ok (.iaload, 1) := by decide +kernel
theorem d171_202 : decode (mCode 171) 202 = .ok (.aload_n 0, 1) := by decide +kernel
theorem d171_203 : decode (mCode 171) 203 = .ok (.iload 4, 2) := by decide +kernel
theorem d171_205 : decode (mCode 171) 205 = .ok (.iconst 2, 1) := by decide +kernel
theorem d171_206 : decode (mCode 171) 206 = .ok (.iadd, 1) := by decide +kernel
theorem d171_207 : decode (mCode 171) 207 = .ok (.iaload, 1) := by decide +kernel
theorem d171_208 : decode (mCode 171) 208 = .ok (.invokevirtual 65, 3) := by decide +kernel
theorem d171_211 : decode (mCode 171) 211 = .ok (.istore 6, 2) := by decide +kernel
theorem d171_213 : decode (mCode 171) 213 = .ok (.aload_n 2, 1) := by decide +kernel
theorem d171_214 : decode (mCode 171) 214 = .ok (.invokevirtual 59, 3) := by decide +kernel
theorem d171_217 : decode (mCode 171) 217 = .ok (.iload 5, 2) := by decide +kernel
theorem d171_219 : decode (mCode 171) 219 = .ok (.if_icmp .eq 5, 3) := by decide +kernel
theorem d171_222 : decode (mCode 171) 222 = .ok (.iconst 0, 1) := by decide +kernel
theorem d171_223 : decode (mCode 171) 223 = .ok (.ireturn, 1) := by decide +kernel
theorem d171_224 : decode (mCode 171) 224 = .ok (.iload 5, 2) := by decide +kernel
theorem d171_226 : decode (mCode 171) 226 = .ok (.ifCond .ne 22, 3) := by decide +kernel
theorem d171_229 : decode (mCode 171) 229 = .ok (.aload_n 3, 1) := by decide +kernel
theorem d171_230 : decode (mCode 171) 230 = .ok (.iconst 0, 1) := by decide +kernel
theorem d171_231 : decode (mCode 171) 231 = .ok (.laload, 1) := by decide +kernel
theorem d171_232 : decode (mCode 171) 232 = .ok (.iload 6, 2) := by decide +kernel
theorem d171_234 : decode (mCode 171) 234 = .ok (.ifCond .eq 7, 3) := by decide +kernel
theorem d171_237 : decode (mCode 171) 237 = .ok (.lconst 1, 1) := by decide +kernel
theorem d171_238 : decode (mCode 171) 238 = .ok (.goto 4, 3) := by decide +kernel
theorem d171_241 : decode (mCode 171) 241 = .ok (.lconst 0, 1) := by decide +kernel
theorem d171_242 : decode (mCode 171) 242 = .ok (.lcmp, 1) := by decide +kernel
theorem d171_243 : decode (mCode 171) 243 = .ok (.ifCond .eq 5, 3) := by decide +kernel
theorem d171_246 : decode (mCode 171) 246 = .ok (.iconst 0, 1) := by decide +kernel
theorem d171_247 : decode (mCode 171) 247 = .ok (.ireturn, 1) := by decide +kernel
theorem d171_248 : decode (mCode 171) 248 = .ok (.goto 702, 3) := by decide +kernel
theorem d171_251 : decode (mCode 171) 251 = .ok (.aload_n 1, 1) := by decide +kernel
theorem d171_252 : decode (mCode 171) 252 = .ok (.aload_n 0, 1) := by decide +kernel
theorem d171_253 : decode (mCode 171) 253 = .ok (.iload 4, 2) := by decide +kernel
theorem d171_255 : decode (mCode 171) 255 = .ok (.iconst 1, 1) := by decide +kernel
theorem d171_256 : decode (mCode 171) 256 = .ok (.iadd, 1) := by decide +kernel
theorem d171_257 : decode (mCode 171) 257 = .ok (.iaload, 1) := by decide +kernel
theorem d171_258 : decode (mCode 171) 258 = .ok (.aload_n 0, 1) := by decide +kernel
theorem d171_259 : decode (mCode 171) 259 = .ok (.iload 4, 2) := by decide +kernel
theorem d171_261 : decode (mCode 171) 261 = .ok (.iconst 2, 1) := by decide +kernel
theorem d171_262 : decode (mCode 171) 262 = .ok (.iadd, 1) := by decide +kernel
theorem d171_263 : decode (mCode 171) 263 = .ok (.iaload, 1) := by decide +kernel
theorem d171_264 : decode (mCode 171) 264 = .ok (.aload_n 3, 1) := by decide +kernel
theorem d171_265 : decode (mCode 171) 265 = .ok (.invokestatic 66, 3) := by decide +kernel
theorem d171_268 : decode (mCode 171) 268 = .ok (.istore 5, 2) := by decide +kernel
theorem d171_270 : decode (mCode 171) 270 = .ok (.aload_n 2, 1) := by decide +kernel
theorem d171_271 : decode (mCode 171) 271 = .ok (.aload_n 0, 1) := by decide +kernel
theorem d171_272 : decode (mCode 171) 272 = .ok (.iload 4, 2) := by decide +kernel
theorem d171_274 : decode (mCode 171) 274 = .ok (.iconst 1, 1) := by decide +kernel
theorem d171_275 : decode (mCode 171) 275 = .ok (.iadd, 1) := by decide +kernel
theorem d171_276 : decode (mCode 171) 276 = .ok (.iaload, 1) := by decide +kernel
theorem d171_277 : decode (mCode 171) 277 = .ok (.aload_n 0, 1) := by decide +kernel
theorem d171_278 : decode (mCode 171) 278 = .ok (.iload 4, 2) := by decide +kernel
theorem d171_280 : decode (mCode 171) 280 = .ok (.iconst 2, 1) := by decide +kernel
theorem d171_281 : decode (mCode 171) 281 = .ok (.iadd, 1) := by decide +kernel
theorem d171_282 : decode (mCode 171) 282 = .ok (.iaload, 1) := by decide +kernel
theorem d171_283 : decode (mCode 171) 283 = .ok (.invokevirtual 68, 3) := by decide +kernel
theorem d171_286 : decode (mCode 171) 286 = .ok (.istore 6, 2) := by decide +kernel
theorem d171_288 : decode (mCode 171) 288 = .ok (.aload_n 2, 1) := by decide +kernel
theorem d171_289 : decode (mCode 171) 289 = .ok (.invokevirtual 59, 3) := by decide +kernel
theorem d171_292 : decode (mCode 171) 292 = .ok (.iload 5, 2) := by decide +kernel
theorem d171_294 : decode (mCode 171) 294 = .ok (.if_icmp .eq 5, 3) := by decide +kernel
theorem d171_297 : decode (mCode 171) 297 = .ok (.iconst 0, 1) := by decide +kernel
theorem d171_298 : decode (mCode 171) 298 = .ok (.ireturn, 1) := by decide +kernel
theorem d171_299 : decode (mCode 171) 299 = .ok (.iload 5, 2) := by decide +kernel
theorem d171_301 : decode (mCode 171) 301 = .ok (.ifCond .ne 22, 3) := by decide +kernel
theorem d171_304 : decode (mCode 171) 304 = .ok (.aload_n 3, 1) := by decide +kernel
theorem d171_305 : decode (mCode 171) 305 = .ok (.iconst 0, 1) := by decide +kernel
theorem d171_306 : decode (mCode 171) 306 = .ok (.laload, 1) := by decide +kernel
theorem d171_307 : decode (mCode 171) 307 = .ok (.iload 6, 2) := by decide +kernel
theorem d171_309 : decode (mCode 171) 309 = .ok (.ifCond .eq 7, 3) := by decide +kernel
theorem d171_312 : decode (mCode 171) 312 = .ok (.lconst 1, 1) := by decide +kernel
theorem d171_313 : decode (mCode 171) 313 = .ok (.goto 4, 3) := by decide +kernel
theorem d171_316 : decode (mCode 171) 316 = .ok (.lconst 0, 1) := by decide +kernel
theorem d171_317 : decode (mCode 171) 317 = .ok (.lcmp, 1) := by decide +kernel
theorem d171_318 : decode (mCode 171) 318 = .ok (.ifCond .eq 5, 3) := by decide +kernel
theorem d171_321 : decode (mCode 171) 321 = .ok (.iconst 0, 1) := by decide +kernel
theorem d171_322 : decode (mCode 171) 322 = .ok (.ireturn, 1) := by decide +kernel
theorem d171_323 : decode (mCode 171) 323 = .ok (.goto 627, 3) := by decide +kernel
theorem d171_326 : decode (mCode 171) 326 = .ok (.aload_n 1, 1) := by decide +kernel
theorem d171_327 : decode (mCode 171) 327 = .ok (.invokevirtual 69, 3) := by decide +kernel
theorem d171_330 : decode (mCode 171) 330 = .ok (.aload_n 2, 1) := by decide +kernel
theorem d171_331 : decode (mCode 171) 331 = .ok (.invokevirtual 72, 3) := by decide +kernel
theorem d171_334 : decode (mCode 171) 334 = .ok (.if_icmp .eq 616, 3) := by decide +kernel
theorem d171_337 : decode (mCode 171) 337 = .ok (.iconst 0, 1) := by decide +kernel
theorem d171_338 : decode (mCode 171) 338 = .ok (.ireturn, 1) := by decide +kernel
theorem d171_339 : decode (mCode 171) 339 = .ok (.aload_n 1, 1) := by decide +kernel
theorem d171_340 : decode (mCode 171) 340 = .ok (.aload_n 0, 1) := by decide +kernel
theorem d171_341 : decode (mCode 171) 341 = .ok (.iload 4, 2) := by decide +kernel
theorem d171_343 : decode (mCode 171) 343 = .ok (.iconst 1, 1) := by decide +kernel
theorem d171_344 : decode (mCode 171) 344 = .ok (.iadd, 1) := by decide +kernel
theorem d171_345 : decode (mCode 171) 345 = .ok (.iaload, 1) := by decide +kernel
theorem d171_346 : decode (mCode 171) 346 = .ok (.invokevirtual 73, 3) := by decide +kernel
theorem d171_349 : decode (mCode 171) 349 = .ok (.aload_n 2, 1) := by decide +kernel
theorem d171_350 : decode (mCode 171) 350 = .ok (.aload_n 0, 1) := by decide +kernel
theorem d171_351 : decode (mCode 171) 351 = .ok (.iload 4, 2) := by decide +kernel
theorem d171_353 : decode (mCode 171) 353 = .ok (.iconst 1, 1) := by decide +kernel
theorem d171_354 : decode (mCode 171) 354 = .ok (.iadd, 1) := by decide +kernel
theorem d171_355 : decode (mCode 171) 355 = .ok (.iaload, 1) := by decide +kernel
theorem d171_356 : decode (mCode 171) 356 = .ok (.invokevirtual 77, 3) := by decide +kernel
theorem d171_359 : decode (mCode 171) 359 = .ok (.if_icmp .eq 591, 3) := by decide +kernel
theorem d171_362 : decode (mCode 171) 362 = .ok (.iconst 0, 1) := by decide +kernel
theorem d171_363 : decode (mCode 171) 363 = .ok (.ireturn, 1) := by decide +kernel
theorem d171_364 : decode (mCode 171) 364 = .ok (.aload_n 1, 1) := by decide +kernel
theorem d171_365 : decode (mCode 171) 365 = .ok (.aload_n 0, 1) := by decide +kernel
theorem d171_366 : decode (mCode 171) 366 = .ok (.iload 4, 2) := by decide +kernel
theorem d171_368 : decode (mCode 171) 368 = .ok (.iconst 1, 1) := by decide +kernel
theorem d171_369 : decode (mCode 171) 369 = .ok (.iadd, 1) := by decide +kernel
theorem d171_370 : decode (mCode 171) 370 = .ok (.iaload, 1) := by decide +kernel
theorem d171_371 : decode (mCode 171) 371 = .ok (.aload_n 0, 1) := by decide +kernel
theorem d171_372 : decode (mCode 171) 372 = .ok (.iload 4, 2) := by decide +kernel
theorem d171_374 : decode (mCode 171) 374 = .ok (.iconst 2, 1) := by decide +kernel
theorem d171_375 : decode (mCode 171) 375 = .ok (.iadd, 1) := by decide +kernel
theorem d171_376 : decode (mCode 171) 376 = .ok (.iaload, 1) := by decide +kernel
theorem d171_377 : decode (mCode 171) 377 = .ok (.aload_n 3, 1) := by decide +kernel
theorem d171_378 : decode (mCode 171) 378 = .ok (.invokestatic 78, 3) := by decide +kernel
theorem d171_381 : decode (mCode 171) 381 = .ok (.istore 5, 2) := by decide +kernel
theorem d171_383 : decode (mCode 171) 383 = .ok (.aload_n 2, 1) := by decide +kernel
theorem d171_384 : decode (mCode 171) 384 = .ok (.aload_n 0, 1) := by decide +kernel
theorem d171_385 : decode (mCode 171) 385 = .ok (.iload 4, 2) := by decide +kernel
theorem d171_387 : decode (mCode 171) 387 = .ok (.iconst 1, 1) := by decide +kernel
theorem d171_388 : decode (mCode 171) 388 = .ok (.iadd, 1) := by decide +kernel
theorem d171_389 : decode (mCode 171) 389 = .ok (.iaload, 1) := by decide +kernel
theorem d171_390 : decode (mCode 171) 390 = .ok (.aload_n 0, 1) := by decide +kernel
theorem d171_391 : decode (mCode 171) 391 = .ok (.iload 4, 2) := by decide +kernel
theorem d171_393 : decode (mCode 171) 393 = .ok (.iconst 2, 1) := by decide +kernel
theorem d171_394 : decode (mCode 171) 394 = .ok (.iadd, 1) := by decide +kernel
theorem d171_395 : decode (mCode 171) 395 = .ok (.iaload, 1) := by decide +kernel
theorem d171_396 : decode (mCode 171) 396 = .ok (.invokevirtual 80, 3) := by decide +kernel
theorem d171_399 : decode (mCode 171) 399 = .ok (.istore 6, 2) := by decide +kernel
theorem d171_401 : decode (mCode 171) 401 = .ok (.aload_n 2, 1) := by decide +kernel
theorem d171_402 : decode (mCode 171) 402 = .ok (.invokevirtual 59, 3) := by decide +kernel
theorem d171_405 : decode (mCode 171) 405 = .ok (.iload 5, 2) := by decide +kernel
theorem d171_407 : decode (mCode 171) 407 = .ok (.if_icmp .eq 5, 3) := by decide +kernel
theorem d171_410 : decode (mCode 171) 410 = .ok (.iconst 0, 1) := by decide +kernel
theorem d171_411 : decode (mCode 171) 411 = .ok (.ireturn, 1) := by decide +kernel
theorem d171_412 : decode (mCode 171) 412 = .ok (.iload 5, 2) := by decide +kernel
theorem d171_414 : decode (mCode 171) 414 = .ok (.ifCond .ne 15, 3) := by decide +kernel
theorem d171_417 : decode (mCode 171) 417 = .ok (.aload_n 3, 1) := by decide +kernel
theorem d171_418 : decode (mCode 171) 418 = .ok (.iconst 0, 1) := by decide +kernel
theorem d171_419 : decode (mCode 171) 419 = .ok (.laload, 1) := by decide +kernel
theorem d171_420 : decode (mCode 171) 420 = .ok (.iload 6, 2) := by decide +kernel
theorem d171_422 : decode (mCode 171) 422 = .ok (.i2l, 1) := by decide +kernel
theorem d171_423 : decode (mCode 171) 423 = .ok (.lcmp, 1) := by decide +kernel
theorem d171_424 : decode (mCode 171) 424 = .ok (.ifCond .eq 5, 3) := by decide +kernel
theorem d171_427 : decode (mCode 171) 427 = .ok (.iconst 0, 1) := by decide +kernel
theorem d171_428 : decode (mCode 171) 428 = .ok (.ireturn, 1) := by decide +kernel
theorem d171_429 : decode (mCode 171) 429 = .ok (.goto 521, 3) := by decide +kernel
theorem d171_432 : decode (mCode 171) 432 = .ok (.aload_n 1, 1) := by decide +kernel
theorem d171_433 : decode (mCode 171) 433 = .ok (.aload_n 0, 1) := by decide +kernel
theorem d171_434 : decode (mCode 171) 434 = .ok (.iload 4, 2) := by decide +kernel
theorem d171_436 : decode (mCode 171) 436 = .ok (.iconst 1, 1) := by decide +kernel
theorem d171_437 : decode (mCode 171) 437 = .ok (.iadd, 1) := by decide +kernel
theorem d171_438 : decode (mCode 171) 438 = .ok (.iaload, 1) := by decide +kernel
theorem d171_439 : decode (mCode 171) 439 = .ok (.aload_n 0, 1) := by decide +kernel
theorem d171_440 : decode (mCode 171) 440 = .ok (.iload 4, 2) := by decide +kernel
theorem d171_442 : decode (mCode 171) 442 = .ok (.iconst 2, 1) := by decide +kernel
theorem d171_443 : decode (mCode 171) 443 = .ok (.iadd, 1) := by decide +kernel
theorem d171_444 : decode (mCode 171) 444 = .ok (.iaload, 1) := by decide +kernel
theorem d171_445 : decode (mCode 171) 445 = .ok (.aload_n 3, 1) := by decide +kernel
theorem d171_446 : decode (mCode 171) 446 = .ok (.invokestatic 81, 3) := by decide +kernel
theorem d171_449 : decode (mCode 171) 449 = .ok (.istore 5, 2) := by decide +kernel
theorem d171_451 : decode (mCode 171) 451 = .ok (.aload_n 2, 1) := by decide +kernel
theorem d171_452 : decode (mCode 171) 452 = .ok (.aload_n 0, 1) := by decide +kernel
theorem d171_453 : decode (mCode 171) 453 = .ok (.iload 4, 2) := by decide +kernel
theorem d171_455 : decode (mCode 171) 455 = .ok (.iconst 1, 1) := by decide +kernel
theorem d171_456 : decode (mCode 171) 456 = .ok (.iadd, 1) := by decide +kernel
theorem d171_457 : decode (mCode 171) 457 = .ok (.iaload, 1) := by decide +kernel
theorem d171_458 : decode (mCode 171) 458 = .ok (.aload_n 0, 1) := by decide +kernel
theorem d171_459 : decode (mCode 171) 459 = .ok (.iload 4, 2) := by decide +kernel
theorem d171_461 : decode (mCode 171) 461 = .ok (.iconst 2, 1) := by decide +kernel
theorem d171_462 : decode (mCode 171) 462 = .ok (.iadd, 1) := by decide +kernel
theorem d171_463 : decode (mCode 171) 463 = .ok (.iaload, 1) := by decide +kernel
theorem d171_464 : decode (mCode 171) 464 = .ok (.invokevirtual 83, 3) := by decide +kernel
theorem d171_467 : decode (mCode 171) 467 = .ok (.istore 6, 2) := by decide +kernel
theorem d171_469 : decode (mCode 171) 469 = .ok (.aload_n 2, 1) := by decide +kernel
theorem d171_470 : decode (mCode 171) 470 = .ok (.invokevirtual 59, 3) := by decide +kernel
theorem d171_473 : decode (mCode 171) 473 = .ok (.iload 5, 2) := by decide +kernel
theorem d171_475 : decode (mCode 171) 475 = .ok (.if_icmp .eq 5, 3) := by decide +kernel
theorem d171_478 : decode (mCode 171) 478 = .ok (.iconst 0, 1) := by decide +kernel
theorem d171_479 : decode (mCode 171) 479 = .ok (.ireturn, 1) := by decide +kernel
theorem d171_480 : decode (mCode 171) 480 = .ok (.iload 5, 2) := by decide +kernel
theorem d171_482 : decode (mCode 171) 482 = .ok (.ifCond .ne 15, 3) := by decide +kernel
theorem d171_485 : decode (mCode 171) 485 = .ok (.aload_n 3, 1) := by decide +kernel
theorem d171_486 : decode (mCode 171) 486 = .ok (.iconst 0, 1) := by decide +kernel
theorem d171_487 : decode (mCode 171) 487 = .ok (.laload, 1) := by decide +kernel
theorem d171_488 : decode (mCode 171) 488 = .ok (.iload 6, 2) := by decide +kernel
theorem d171_490 : decode (mCode 171) 490 = .ok (.i2l, 1) := by decide +kernel
theorem d171_491 : decode (mCode 171) 491 = .ok (.lcmp, 1) := by decide +kernel
theorem d171_492 : decode (mCode 171) 492 = .ok (.ifCond .eq 5, 3) := by decide +kernel
theorem d171_495 : decode (mCode 171) 495 = .ok (.iconst 0, 1) := by decide +kernel
theorem d171_496 : decode (mCode 171) 496 = .ok (.ireturn, 1) := by decide +kernel
theorem d171_497 : decode (mCode 171) 497 = .ok (.goto 453, 3) := by decide +kernel
theorem d171_500 : decode (mCode 171) 500 = .ok (.aload_n 1, 1) := by decide +kernel
theorem d171_501 : decode (mCode 171) 501 = .ok (.aload_n 0, 1) := by decide +kernel
theorem d171_502 : decode (mCode 171) 502 = .ok (.iload 4, 2) := by decide +kernel
theorem d171_504 : decode (mCode 171) 504 = .ok (.iconst 1, 1) := by decide +kernel
theorem d171_505 : decode (mCode 171) 505 = .ok (.iadd, 1) := by decide +kernel
theorem d171_506 : decode (mCode 171) 506 = .ok (.iaload, 1) := by decide +kernel
theorem d171_507 : decode (mCode 171) 507 = .ok (.aload_n 0, 1) := by decide +kernel
theorem d171_508 : decode (mCode 171) 508 = .ok (.iload 4, 2) := by decide +kernel
theorem d171_510 : decode (mCode 171) 510 = .ok (.iconst 2, 1) := by decide +kernel
theorem d171_511 : decode (mCode 171) 511 = .ok (.iadd, 1) := by decide +kernel
theorem d171_512 : decode (mCode 171) 512 = .ok (.iaload, 1) := by decide +kernel
theorem d171_513 : decode (mCode 171) 513 = .ok (.aload_n 3, 1) := by decide +kernel
theorem d171_514 : decode (mCode 171) 514 = .ok (.invokestatic 84, 3) := by decide +kernel
theorem d171_517 : decode (mCode 171) 517 = .ok (.istore 5, 2) := by decide +kernel
theorem d171_519 : decode (mCode 171) 519 = .ok (.aload_n 2, 1) := by decide +kernel
theorem d171_520 : decode (mCode 171) 520 = .ok (.aload_n 0, 1) := by decide +kernel
theorem d171_521 : decode (mCode 171) 521 = .ok (.iload 4, 2) := by decide +kernel
theorem d171_523 : decode (mCode 171) 523 = .ok (.iconst 1, 1) := by decide +kernel
theorem d171_524 : decode (mCode 171) 524 = .ok (.iadd, 1) := by decide +kernel
theorem d171_525 : decode (mCode 171) 525 = .ok (.iaload, 1) := by decide +kernel
theorem d171_526 : decode (mCode 171) 526 = .ok (.aload_n 0, 1) := by decide +kernel
theorem d171_527 : decode (mCode 171) 527 = .ok (.iload 4, 2) := by decide +kernel
theorem d171_529 : decode (mCode 171) 529 = .ok (.iconst 2, 1) := by decide +kernel
theorem d171_530 : decode (mCode 171) 530 = .ok (.iadd, 1) := by decide +kernel
theorem d171_531 : decode (mCode 171) 531 = .ok (.iaload, 1) := by decide +kernel
theorem d171_532 : decode (mCode 171) 532 = .ok (.invokevirtual 86, 3) := by decide +kernel
theorem d171_535 : decode (mCode 171) 535 = .ok (.istore 6, 2) := by decide +kernel
theorem d171_537 : decode (mCode 171) 537 = .ok (.aload_n 2, 1) := by decide +kernel
theorem d171_538 : decode (mCode 171) 538 = .ok (.invokevirtual 59, 3) := by decide +kernel
theorem d171_541 : decode (mCode 171) 541 = .ok (.iload 5, 2) := by decide +kernel
theorem d171_543 : decode (mCode 171) 543 = .ok (.if_icmp .eq 5, 3) := by decide +kernel
theorem d171_546 : decode (mCode 171) 546 = .ok (.iconst 0, 1) := by decide +kernel
theorem d171_547 : decode (mCode 171) 547 = .ok (.ireturn, 1) := by decide +kernel
theorem d171_548 : decode (mCode 171) 548 = .ok (.iload 5, 2) := by decide +kernel
theorem d171_550 : decode (mCode 171) 550 = .ok (.ifCond .ne 15, 3) := by decide +kernel
theorem d171_553 : decode (mCode 171) 553 = .ok (.aload_n 3, 1) := by decide +kernel
theorem d171_554 : decode (mCode 171) 554 = .ok (.iconst 0, 1) := by decide +kernel
theorem d171_555 : decode (mCode 171) 555 = .ok (.laload, 1) := by decide +kernel
theorem d171_556 : decode (mCode 171) 556 = .ok (.iload 6, 2) := by decide +kernel
theorem d171_558 : decode (mCode 171) 558 = .ok (.i2l, 1) := by decide +kernel
theorem d171_559 : decode (mCode 171) 559 = .ok (.lcmp, 1) := by decide +kernel
theorem d171_560 : decode (mCode 171) 560 = .ok (.ifCond .eq 5, 3) := by decide +kernel
theorem d171_563 : decode (mCode 171) 563 = .ok (.iconst 0, 1) := by decide +kernel
theorem d171_564 : decode (mCode 171) 564 = .ok (.ireturn, 1) := by decide +kernel
theorem d171_565 : decode (mCode 171) 565 = .ok (.goto 385, 3) := by decide +kernel
theorem d171_568 : decode (mCode 171) 568 = .ok (.aload_n 1, 1) := by decide +kernel
theorem d171_569 : decode (mCode 171) 569 = .ok (.aload_n 0, 1) := by decide +kernel
theorem d171_570 : decode (mCode 171) 570 = .ok (.iload 4, 2) := by decide +kernel
theorem d171_572 : decode (mCode 171) 572 = .ok (.iconst 1, 1) := by decide +kernel
theorem d171_573 : decode (mCode 171) 573 = .ok (.iadd, 1) := by decide +kernel
theorem d171_574 : decode (mCode 171) 574 = .ok (.iaload, 1) := by decide +kernel
theorem d171_575 : decode (mCode 171) 575 = .ok (.aload_n 0, 1) := by decide +kernel
theorem d171_576 : decode (mCode 171) 576 = .ok (.iload 4, 2) := by decide +kernel
theorem d171_578 : decode (mCode 171) 578 = .ok (.iconst 2, 1) := by decide +kernel
theorem d171_579 : decode (mCode 171) 579 = .ok (.iadd, 1) := by decide +kernel
theorem d171_580 : decode (mCode 171) 580 = .ok (.iaload, 1) := by decide +kernel
theorem d171_581 : decode (mCode 171) 581 = .ok (.aload_n 0, 1) := by decide +kernel
theorem d171_582 : decode (mCode 171) 582 = .ok (.iload 4, 2) := by decide +kernel
theorem d171_584 : decode (mCode 171) 584 = .ok (.iconst 3, 1) := by decide +kernel
theorem d171_585 : decode (mCode 171) 585 = .ok (.iadd, 1) := by decide +kernel
theorem d171_586 : decode (mCode 171) 586 = .ok (.iaload, 1) := by decide +kernel
theorem d171_587 : decode (mCode 171) 587 = .ok (.aload_n 3, 1) := by decide +kernel
theorem d171_588 : decode (mCode 171) 588 = .ok (.invokestatic 87, 3) := by decide +kernel
theorem d171_591 : decode (mCode 171) 591 = .ok (.istore 5, 2) := by decide +kernel
theorem d171_593 : decode (mCode 171) 593 = .ok (.aload_n 2, 1) := by decide +kernel
theorem d171_594 : decode (mCode 171) 594 = .ok (.aload_n 0, 1) := by decide +kernel
theorem d171_595 : decode (mCode 171) 595 = .ok (.iload 4, 2) := by decide +kernel
theorem d171_597 : decode (mCode 171) 597 = .ok (.iconst 1, 1) := by decide +kernel
theorem d171_598 : decode (mCode 171) 598 = .ok (.iadd, 1) := by decide +kernel
theorem d171_599 : decode (mCode 171) 599 = .ok (.iaload, 1) := by decide +kernel
theorem d171_600 : decode (mCode 171) 600 = .ok (.aload_n 0, 1) := by decide +kernel
theorem d171_601 : decode (mCode 171) 601 = .ok (.iload 4, 2) := by decide +kernel
theorem d171_603 : decode (mCode 171) 603 = .ok (.iconst 2, 1) := by decide +kernel
theorem d171_604 : decode (mCode 171) 604 = .ok (.iadd, 1) := by decide +kernel
theorem d171_605 : decode (mCode 171) 605 = .ok (.iaload, 1) := by decide +kernel
theorem d171_606 : decode (mCode 171) 606 = .ok (.aload_n 0, 1) := by decide +kernel
theorem d171_607 : decode (mCode 171) 607 = .ok (.iload 4, 2) := by decide +kernel
theorem d171_609 : decode (mCode 171) 609 = .ok (.iconst 3, 1) := by decide +kernel
theorem d171_610 : decode (mCode 171) 610 = .ok (.iadd, 1) := by decide +kernel
theorem d171_611 : decode (mCode 171) 611 = .ok (.iaload, 1) := by decide +kernel
theorem d171_612 : decode (mCode 171) 612 = .ok (.invokevirtual 90, 3) := by decide +kernel
theorem d171_615 : decode (mCode 171) 615 = .ok (.istore 6, 2) := by decide +kernel
theorem d171_617 : decode (mCode 171) 617 = .ok (.aload_n 2, 1) := by decide +kernel
theorem d171_618 : decode (mCode 171) 618 = .ok (.invokevirtual 59, 3) := by decide +kernel
theorem d171_621 : decode (mCode 171) 621 = .ok (.iload 5, 2) := by decide +kernel
theorem d171_623 : decode (mCode 171) 623 = .ok (.if_icmp .eq 5, 3) := by decide +kernel
theorem d171_626 : decode (mCode 171) 626 = .ok (.iconst 0, 1) := by decide +kernel
theorem d171_627 : decode (mCode 171) 627 = .ok (.ireturn, 1) := by decide +kernel
theorem d171_628 : decode (mCode 171) 628 = .ok (.iload 5, 2) := by decide +kernel
theorem d171_630 : decode (mCode 171) 630 = .ok (.ifCond .ne 15, 3) := by decide +kernel
theorem d171_633 : decode (mCode 171) 633 = .ok (.aload_n 3, 1) := by decide +kernel
theorem d171_634 : decode (mCode 171) 634 = .ok (.iconst 0, 1) := by decide +kernel
theorem d171_635 : decode (mCode 171) 635 = .ok (.laload, 1) := by decide +kernel
theorem d171_636 : decode (mCode 171) 636 = .ok (.iload 6, 2) := by decide +kernel
theorem d171_638 : decode (mCode 171) 638 = .ok (.i2l, 1) := by decide +kernel
theorem d171_639 : decode (mCode 171) 639 = .ok (.lcmp, 1) := by decide +kernel
theorem d171_640 : decode (mCode 171) 640 = .ok (.ifCond .eq 5, 3) := by decide +kernel
theorem d171_643 : decode (mCode 171) 643 = .ok (.iconst 0, 1) := by decide +kernel
theorem d171_644 : decode (mCode 171) 644 = .ok (.ireturn, 1) := by decide +kernel
theorem d171_645 : decode (mCode 171) 645 = .ok (.goto 305, 3) := by decide +kernel
theorem d171_648 : decode (mCode 171) 648 = .ok (.aload_n 1, 1) := by decide +kernel
theorem d171_649 : decode (mCode 171) 649 = .ok (.aload_n 0, 1) := by decide +kernel
theorem d171_650 : decode (mCode 171) 650 = .ok (.iload 4, 2) := by decide +kernel
theorem d171_652 : decode (mCode 171) 652 = .ok (.iconst 1, 1) := by decide +kernel
theorem d171_653 : decode (mCode 171) 653 = .ok (.iadd, 1) := by decide +kernel
theorem d171_654 : decode (mCode 171) 654 = .ok (.iaload, 1) := by decide +kernel
theorem d171_655 : decode (mCode 171) 655 = .ok (.aload_n 0, 1) := by decide +kernel
theorem d171_656 : decode (mCode 171) 656 = .ok (.iload 4, 2) := by decide +kernel
theorem d171_658 : decode (mCode 171) 658 = .ok (.iconst 2, 1) := by decide +kernel
theorem d171_659 : decode (mCode 171) 659 = .ok (.iadd, 1) := by decide +kernel
theorem d171_660 : decode (mCode 171) 660 = .ok (.iaload, 1) := by decide +kernel
theorem d171_661 : decode (mCode 171) 661 = .ok (.aload_n 0, 1) := by decide +kernel
theorem d171_662 : decode (mCode 171) 662 = .ok (.iload 4, 2) := by decide +kernel
theorem d171_664 : decode (mCode 171) 664 = .ok (.iconst 3, 1) := by decide +kernel
theorem d171_665 : decode (mCode 171) 665 = .ok (.iadd, 1) := by decide +kernel
theorem d171_666 : decode (mCode 171) 666 = .ok (.iaload, 1) := by decide +kernel
theorem d171_667 : decode (mCode 171) 667 = .ok (.aload_n 0, 1) := by decide +kernel
theorem d171_668 : decode (mCode 171) 668 = .ok (.iload 4, 2) := by decide +kernel
theorem d171_670 : decode (mCode 171) 670 = .ok (.iconst 4, 1) := by decide +kernel
theorem d171_671 : decode (mCode 171) 671 = .ok (.iadd, 1) := by decide +kernel
theorem d171_672 : decode (mCode 171) 672 = .ok (.iaload, 1) := by decide +kernel
theorem d171_673 : decode (mCode 171) 673 = .ok (.aload_n 3, 1) := by decide +kernel
theorem d171_674 : decode (mCode 171) 674 = .ok (.invokestatic 91, 3) := by decide +kernel
theorem d171_677 : decode (mCode 171) 677 = .ok (.istore 5, 2) := by decide +kernel
theorem d171_679 : decode (mCode 171) 679 = .ok (.aload_n 2, 1) := by decide +kernel
theorem d171_680 : decode (mCode 171) 680 = .ok (.aload_n 0, 1) := by decide +kernel
theorem d171_681 : decode (mCode 171) 681 = .ok (.iload 4, 2) := by decide +kernel
theorem d171_683 : decode (mCode 171) 683 = .ok (.iconst 1, 1) := by decide +kernel
theorem d171_684 : decode (mCode 171) 684 = .ok (.iadd, 1) := by decide +kernel
theorem d171_685 : decode (mCode 171) 685 = .ok (.iaload, 1) := by decide +kernel
theorem d171_686 : decode (mCode 171) 686 = .ok (.aload_n 0, 1) := by decide +kernel
theorem d171_687 : decode (mCode 171) 687 = .ok (.iload 4, 2) := by decide +kernel
theorem d171_689 : decode (mCode 171) 689 = .ok (.iconst 2, 1) := by decide +kernel
theorem d171_690 : decode (mCode 171) 690 = .ok (.iadd, 1) := by decide +kernel
theorem d171_691 : decode (mCode 171) 691 = .ok (.iaload, 1) := by decide +kernel
theorem d171_692 : decode (mCode 171) 692 = .ok (.aload_n 0, 1) := by decide +kernel
theorem d171_693 : decode (mCode 171) 693 = .ok (.iload 4, 2) := by decide +kernel
theorem d171_695 : decode (mCode 171) 695 = .ok (.iconst 3, 1) := by decide +kernel
theorem d171_696 : decode (mCode 171) 696 = .ok (.iadd, 1) := by decide +kernel
theorem d171_697 : decode (mCode 171) 697 = .ok (.iaload, 1) := by decide +kernel
theorem d171_698 : decode (mCode 171) 698 = .ok (.aload_n 0, 1) := by decide +kernel
theorem d171_699 : decode (mCode 171) 699 = .ok (.iload 4, 2) := by decide +kernel
theorem d171_701 : decode (mCode 171) 701 = .ok (.iconst 4, 1) := by decide +kernel
theorem d171_702 : decode (mCode 171) 702 = .ok (.iadd, 1) := by decide +kernel
theorem d171_703 : decode (mCode 171) 703 = .ok (.iaload, 1) := by decide +kernel
theorem d171_704 : decode (mCode 171) 704 = .ok (.invokevirtual 94, 3) := by decide +kernel
theorem d171_707 : decode (mCode 171) 707 = .ok (.istore 6, 2) := by decide +kernel
theorem d171_709 : decode (mCode 171) 709 = .ok (.aload_n 2, 1) := by decide +kernel
theorem d171_710 : decode (mCode 171) 710 = .ok (.invokevirtual 59, 3) := by decide +kernel
theorem d171_713 : decode (mCode 171) 713 = .ok (.iload 5, 2) := by decide +kernel
theorem d171_715 : decode (mCode 171) 715 = .ok (.if_icmp .eq 5, 3) := by decide +kernel
theorem d171_718 : decode (mCode 171) 718 = .ok (.iconst 0, 1) := by decide +kernel
theorem d171_719 : decode (mCode 171) 719 = .ok (.ireturn, 1) := by decide +kernel
theorem d171_720 : decode (mCode 171) 720 = .ok (.iload 5, 2) := by decide +kernel
theorem d171_722 : decode (mCode 171) 722 = .ok (.ifCond .ne 15, 3) := by decide +kernel
theorem d171_725 : decode (mCode 171) 725 = .ok (.aload_n 3, 1) := by decide +kernel
theorem d171_726 : decode (mCode 171) 726 = .ok (.iconst 0, 1) := by decide +kernel
theorem d171_727 : decode (mCode 171) 727 = .ok (.laload, 1) := by decide +kernel
theorem d171_728 : decode (mCode 171) 728 = .ok (.iload 6, 2) := by decide +kernel
theorem d171_730 : decode (mCode 171) 730 = .ok (.i2l, 1) := by decide +kernel
theorem d171_731 : decode (mCode 171) 731 = .ok (.lcmp, 1) := by decide +kernel
theorem d171_732 : decode (mCode 171) 732 = .ok (.ifCond .eq 5, 3) := by decide +kernel
theorem d171_735 : decode (mCode 171) 735 = .ok (.iconst 0, 1) := by decide +kernel
theorem d171_736 : decode (mCode 171) 736 = .ok (.ireturn, 1) := by decide +kernel
theorem d171_737 : decode (mCode 171) 737 = .ok (.goto 213, 3) := by decide +kernel
theorem d171_740 : decode (mCode 171) 740 = .ok (.aload_n 1, 1) := by decide +kernel
theorem d171_741 : decode (mCode 171) 741 = .ok (.aload_n 0, 1) := by decide +kernel
theorem d171_742 : decode (mCode 171) 742 = .ok (.iload 4, 2) := by decide +kernel
theorem d171_744 : decode (mCode 171) 744 = .ok (.iconst 1, 1) := by decide +kernel
theorem d171_745 : decode (mCode 171) 745 = .ok (.iadd, 1) := by decide +kernel
theorem d171_746 : decode (mCode 171) 746 = .ok (.iaload, 1) := by decide +kernel
theorem d171_747 : decode (mCode 171) 747 = .ok (.aload_n 0, 1) := by decide +kernel
theorem d171_748 : decode (mCode 171) 748 = .ok (.iload 4, 2) := by decide +kernel
theorem d171_750 : decode (mCode 171) 750 = .ok (.iconst 2, 1) := by decide +kernel
theorem d171_751 : decode (mCode 171) 751 = .ok (.iadd, 1) := by decide +kernel
theorem d171_752 : decode (mCode 171) 752 = .ok (.iaload, 1) := by decide +kernel
theorem d171_753 : decode (mCode 171) 753 = .ok (.aload_n 3, 1) := by decide +kernel
theorem d171_754 : decode (mCode 171) 754 = .ok (.invokestatic 95, 3) := by decide +kernel
theorem d171_757 : decode (mCode 171) 757 = .ok (.istore 5, 2) := by decide +kernel
theorem d171_759 : decode (mCode 171) 759 = .ok (.aload_n 2, 1) := by decide +kernel
theorem d171_760 : decode (mCode 171) 760 = .ok (.aload_n 0, 1) := by decide +kernel
theorem d171_761 : decode (mCode 171) 761 = .ok (.iload 4, 2) := by decide +kernel
theorem d171_763 : decode (mCode 171) 763 = .ok (.iconst 1, 1) := by decide +kernel
theorem d171_764 : decode (mCode 171) 764 = .ok (.iadd, 1) := by decide +kernel
theorem d171_765 : decode (mCode 171) 765 = .ok (.iaload, 1) := by decide +kernel
theorem d171_766 : decode (mCode 171) 766 = .ok (.aload_n 0, 1) := by decide +kernel
theorem d171_767 : decode (mCode 171) 767 = .ok (.iload 4, 2) := by decide +kernel
theorem d171_769 : decode (mCode 171) 769 = .ok (.iconst 2, 1) := by decide +kernel
theorem d171_770 : decode (mCode 171) 770 = .ok (.iadd, 1) := by decide +kernel
theorem d171_771 : decode (mCode 171) 771 = .ok (.iaload, 1) := by decide +kernel
theorem d171_772 : decode (mCode 171) 772 = .ok (.invokevirtual 97, 3) := by decide +kernel
theorem d171_775 : decode (mCode 171) 775 = .ok (.istore 6, 2) := by decide +kernel
theorem d171_777 : decode (mCode 171) 777 = .ok (.aload_n 2, 1) := by decide +kernel
theorem d171_778 : decode (mCode 171) 778 = .ok (.invokevirtual 59, 3) := by decide +kernel
theorem d171_781 : decode (mCode 171) 781 = .ok (.iload 5, 2) := by decide +kernel
theorem d171_783 : decode (mCode 171) 783 = .ok (.if_icmp .eq 5, 3) := by decide +kernel
theorem d171_786 : decode (mCode 171) 786 = .ok (.iconst 0, 1) := by decide +kernel
theorem d171_787 : decode (mCode 171) 787 = .ok (.ireturn, 1) := by decide +kernel
theorem d171_788 : decode (mCode 171) 788 = .ok (.iload 5, 2) := by decide +kernel
theorem d171_790 : decode (mCode 171) 790 = .ok (.ifCond .ne 15, 3) := by decide +kernel
theorem d171_793 : decode (mCode 171) 793 = .ok (.aload_n 3, 1) := by decide +kernel
theorem d171_794 : decode (mCode 171) 794 = .ok (.iconst 0, 1) := by decide +kernel
theorem d171_795 : decode (mCode 171) 795 = .ok (.laload, 1) := by decide +kernel
theorem d171_796 : decode (mCode 171) 796 = .ok (.iload 6, 2) := by decide +kernel
theorem d171_798 : decode (mCode 171) 798 = .ok (.i2l, 1) := by decide +kernel
theorem d171_799 : decode (mCode 171) 799 = .ok (.lcmp, 1) := by decide +kernel
theorem d171_800 : decode (mCode 171) 800 = .ok (.ifCond .eq 5, 3) := by decide +kernel
theorem d171_803 : decode (mCode 171) 803 = .ok (.iconst 0, 1) := by decide +kernel
theorem d171_804 : decode (mCode 171) 804 = .ok (.ireturn, 1) := by decide +kernel
theorem d171_805 : decode (mCode 171) 805 = .ok (.goto 145, 3) := by decide +kernel
theorem d171_808 : decode (mCode 171) 808 = .ok (.aload_n 1, 1) := by decide +kernel
theorem d171_809 : decode (mCode 171) 809 = .ok (.aload_n 0, 1) := by decide +kernel
theorem d171_810 : decode (mCode 171) 810 = .ok (.iload 4, 2) := by decide +kernel
theorem d171_812 : decode (mCode 171) 812 = .ok (.iconst 1, 1) := by decide +kernel
theorem d171_813 : decode (mCode 171) 813 = .ok (.iadd, 1) := by decide +kernel
theorem d171_814 : decode (mCode 171) 814 = .ok (.iaload, 1) := by decide +kernel
theorem d171_815 : decode (mCode 171) 815 = .ok (.aload_n 0, 1) := by decide +kernel
theorem d171_816 : decode (mCode 171) 816 = .ok (.iload 4, 2) := by decide +kernel
theorem d171_818 : decode (mCode 171) 818 = .ok (.iconst 2, 1) := by decide +kernel
theorem d171_819 : decode (mCode 171) 819 = .ok (.iadd, 1) := by decide +kernel
theorem d171_820 : decode (mCode 171) 820 = .ok (.iaload, 1) := by decide +kernel
theorem d171_821 : decode (mCode 171) 821 = .ok (.aload_n 0, 1) := by decide +kernel
theorem d171_822 : decode (mCode 171) 822 = .ok (.iload 4, 2) := by decide +kernel
theorem d171_824 : decode (mCode 171) 824 = .ok (.iconst 3, 1) := by decide +kernel
theorem d171_825 : decode (mCode 171) 825 = .ok (.iadd, 1) := by decide +kernel
theorem d171_826 : decode (mCode 171) 826 = .ok (.iaload, 1) := by decide +kernel
theorem d171_827 : decode (mCode 171) 827 = .ok (.aload_n 0, 1) := by decide +kernel
theorem d171_828 : decode (mCode 171) 828 = .ok (.iload 4, 2) := by decide +kernel
theorem d171_830 : decode (mCode 171) 830 = .ok (.iconst 4, 1) := by decide +kernel
theorem d171_831 : decode (mCode 171) 831 = .ok (.iadd, 1) := by decide +kernel
theorem d171_832 : decode (mCode 171) 832 = .ok (.iaload, 1) := by decide +kernel
theorem d171_833 : decode (mCode 171) 833 = .ok (.aload_n 3, 1) := by decide +kernel
theorem d171_834 : decode (mCode 171) 834 = .ok (.invokestatic 98, 3) := by decide +kernel
theorem d171_837 : decode (mCode 171) 837 = .ok (.istore 5, 2) := by decide +kernel
theorem d171_839 : decode (mCode 171) 839 = .ok (.aload_n 2, 1) := by decide +kernel
theorem d171_840 : decode (mCode 171) 840 = .ok (.aload_n 0, 1) := by decide +kernel
theorem d171_841 : decode (mCode 171) 841 = .ok (.iload 4, 2) := by decide +kernel
theorem d171_843 : decode (mCode 171) 843 = .ok (.iconst 1, 1) := by decide +kernel
theorem d171_844 : decode (mCode 171) 844 = .ok (.iadd, 1) := by decide +kernel
theorem d171_845 : decode (mCode 171) 845 = .ok (.iaload, 1) := by decide +kernel
theorem d171_846 : decode (mCode 171) 846 = .ok (.aload_n 0, 1) := by decide +kernel
theorem d171_847 : decode (mCode 171) 847 = .ok (.iload 4, 2) := by decide +kernel
theorem d171_849 : decode (mCode 171) 849 = .ok (.iconst 2, 1) := by decide +kernel
theorem d171_850 : decode (mCode 171) 850 = .ok (.iadd, 1) := by decide +kernel
theorem d171_851 : decode (mCode 171) 851 = .ok (.iaload, 1) := by decide +kernel
theorem d171_852 : decode (mCode 171) 852 = .ok (.aload_n 0, 1) := by decide +kernel
theorem d171_853 : decode (mCode 171) 853 = .ok (.iload 4, 2) := by decide +kernel
theorem d171_855 : decode (mCode 171) 855 = .ok (.iconst 3, 1) := by decide +kernel
theorem d171_856 : decode (mCode 171) 856 = .ok (.iadd, 1) := by decide +kernel
theorem d171_857 : decode (mCode 171) 857 = .ok (.iaload, 1) := by decide +kernel
theorem d171_858 : decode (mCode 171) 858 = .ok (.aload_n 0, 1) := by decide +kernel
theorem d171_859 : decode (mCode 171) 859 = .ok (.iload 4, 2) := by decide +kernel
theorem d171_861 : decode (mCode 171) 861 = .ok (.iconst 4, 1) := by decide +kernel
theorem d171_862 : decode (mCode 171) 862 = .ok (.iadd, 1) := by decide +kernel
theorem d171_863 : decode (mCode 171) 863 = .ok (.iaload, 1) := by decide +kernel
theorem d171_864 : decode (mCode 171) 864 = .ok (.invokevirtual 100, 3) := by decide +kernel
theorem d171_867 : decode (mCode 171) 867 = .ok (.istore 6, 2) := by decide +kernel
theorem d171_869 : decode (mCode 171) 869 = .ok (.aload_n 2, 1) := by decide +kernel
theorem d171_870 : decode (mCode 171) 870 = .ok (.invokevirtual 59, 3) := by decide +kernel
theorem d171_873 : decode (mCode 171) 873 = .ok (.iload 5, 2) := by decide +kernel
theorem d171_875 : decode (mCode 171) 875 = .ok (.if_icmp .eq 5, 3) := by decide +kernel
theorem d171_878 : decode (mCode 171) 878 = .ok (.iconst 0, 1) := by decide +kernel
theorem d171_879 : decode (mCode 171) 879 = .ok (.ireturn, 1) := by decide +kernel
theorem d171_880 : decode (mCode 171) 880 = .ok (.iload 5, 2) := by decide +kernel
theorem d171_882 : decode (mCode 171) 882 = .ok (.ifCond .ne 15, 3) := by decide +kernel
theorem d171_885 : decode (mCode 171) 885 = .ok (.aload_n 3, 1) := by decide +kernel
theorem d171_886 : decode (mCode 171) 886 = .ok (.iconst 0, 1) := by decide +kernel
theorem d171_887 : decode (mCode 171) 887 = .ok (.laload, 1) := by decide +kernel
theorem d171_888 : decode (mCode 171) 888 = .ok (.iload 6, 2) := by decide +kernel
theorem d171_890 : decode (mCode 171) 890 = .ok (.i2l, 1) := by decide +kernel
theorem d171_891 : decode (mCode 171) 891 = .ok (.lcmp, 1) := by decide +kernel
theorem d171_892 : decode (mCode 171) 892 = .ok (.ifCond .eq 5, 3) := by decide +kernel
theorem d171_895 : decode (mCode 171) 895 = .ok (.iconst 0, 1) := by decide +kernel
theorem d171_896 : decode (mCode 171) 896 = .ok (.ireturn, 1) := by decide +kernel
theorem d171_897 : decode (mCode 171) 897 = .ok (.goto 53, 3) := by decide +kernel
theorem d171_900 : decode (mCode 171) 900 = .ok (.aload_n 1, 1) := by decide +kernel
theorem d171_901 : decode (mCode 171) 901 = .ok (.aload_n 0, 1) := by decide +kernel
theorem d171_902 : decode (mCode 171) 902 = .ok (.iload 4, 2) := by decide +kernel
theorem d171_904 : decode (mCode 171) 904 = .ok (.iconst 1, 1) := by decide +kernel
theorem d171_905 : decode (mCode 171) 905 = .ok (.iadd, 1) := by decide +kernel
theorem d171_906 : decode (mCode 171) 906 = .ok (.iaload, 1) := by decide +kernel
theorem d171_907 : decode (mCode 171) 907 = .ok (.invokevirtual 101, 3) := by decide +kernel
theorem d171_910 : decode (mCode 171) 910 = .ok (.aload_n 2, 1) := by decide +kernel
theorem d171_911 : decode (mCode 171) 911 = .ok (.aload_n 0, 1) := by decide +kernel
theorem d171_912 : decode (mCode 171) 912 = .ok (.iload 4, 2) := by decide +kernel
theorem d171_914 : decode (mCode 171) 914 = .ok (.iconst 1, 1) := by decide +kernel
theorem d171_915 : decode (mCode 171) 915 = .ok (.iadd, 1) := by decide +kernel
theorem d171_916 : decode (mCode 171) 916 = .ok (.iaload, 1) := by decide +kernel
theorem d171_917 : decode (mCode 171) 917 = .ok (.invokevirtual 104, 3) := by decide +kernel
theorem d171_920 : decode (mCode 171) 920 = .ok (.if_icmp .eq 30, 3) := by decide +kernel
theorem d171_923 : decode (mCode 171) 923 = .ok (.iconst 0, 1) := by decide +kernel
theorem d171_924 : decode (mCode 171) 924 = .ok (.ireturn, 1) := by decide +kernel
theorem d171_925 : decode (mCode 171) 925 = .ok (.aload_n 1, 1) := by decide +kernel
theorem d171_926 : decode (mCode 171) 926 = .ok (.aload_n 0, 1) := by decide +kernel
theorem d171_927 : decode (mCode 171) 927 = .ok (.iload 4, 2) := by decide +kernel
theorem d171_929 : decode (mCode 171) 929 = .ok (.iconst 1, 1) := by decide +kernel
theorem d171_930 : decode (mCode 171) 930 = .ok (.iadd, 1) := by decide +kernel
theorem d171_931 : decode (mCode 171) 931 = .ok (.iaload, 1) := by decide +kernel
theorem d171_932 : decode (mCode 171) 932 = .ok (.invokevirtual 105, 3) := by decide +kernel
theorem d171_935 : decode (mCode 171) 935 = .ok (.aload_n 2, 1) := by decide +kernel
theorem d171_936 : decode (mCode 171) 936 = .ok (.aload_n 0, 1) := by decide +kernel
theorem d171_937 : decode (mCode 171) 937 = .ok (.iload 4, 2) := by decide +kernel
theorem d171_939 : decode (mCode 171) 939 = .ok (.iconst 1, 1) := by decide +kernel
theorem d171_940 : decode (mCode 171) 940 = .ok (.iadd, 1) := by decide +kernel
theorem d171_941 : decode (mCode 171) 941 = .ok (.iaload, 1) := by decide +kernel
theorem d171_942 : decode (mCode 171) 942 = .ok (.invokevirtual 108, 3) := by decide +kernel
theorem d171_945 : decode (mCode 171) 945 = .ok (.if_icmp .eq 5, 3) := by decide +kernel
theorem d171_948 : decode (mCode 171) 948 = .ok (.iconst 0, 1) := by decide +kernel
theorem d171_949 : decode (mCode 171) 949 = .ok (.ireturn, 1) := by decide +kernel
def o157 (k : Nat) (v1 : Int32) (v2 : Int32) (s : mS) : Option (Int32 × mS × mHp) := match f96 k v1 v2 s with
  | some (.inl a) => some (0, uJ 53 (vp_updL (a.2.2.1 53) (Int32.toNatClampNeg 0) (Int32.toInt64 a.1)) a.2, [])
  | some (.inr 10) => some (1, s, [.inr (10, [])])
  | some (.inr 11) => some (2, s, [.inr (11, [])])
  | _ => none
theorem t_o157 {S : mE} {ex : mHp} {k : Nat} {v1 : Int32} {v2 : Int32} {s : mS} {r : Int32 × mS × mHp} (h : o157 k v1 v2 s = some r) : Run S 157 (0, [(0, .ref 16), (1, .int v1), (2, .int v2), (3, .ref 53)], [], hp s ex) (.inl (some (.int r.1)), hp r.2.1 (ex ++ r.2.2)) := by
  unfold o157 at h
  split at h
  · rename_i a e
    cases h
    rw [List.append_nil]
    refine R_p d157_0 rfl rfl ?_
    refine R_ic (v := 0) d157_1 (by decide) ?_
    refine R_p d157_2 rfl rfl ?_
    refine R_p d157_3 rfl rfl ?_
    refine R_p d157_4 rfl rfl ?_
    refine R_cm [.int v1, .int v2] d157_5 (List.mem_of_getElem? (i := 29) rfl) rfl ⟨by decide, by decide, Nat.le_of_ble_eq_true rfl, rfl, mcd96⟩ rfl rfl (Nat.le_of_ble_eq_true rfl) (hg16 _ _) rfl (t_f96_n e) ?_
    refine R_p d157_8 rfl rfl ?_
    refine R_lst d157_9 (hg53 _ _) (vp_ok (by decide)) ?_
    refine R_br 21 d157_10 rfl rfl ?_
    refine R_ic (v := 0) d157_21 (by decide) ?_
    exact R_iret d157_22 rfl rfl rfl
  · rename_i e
    cases h
    refine R_p d157_0 rfl rfl ?_
    refine R_ic (v := 0) d157_1 (by decide) ?_
    refine R_p d157_2 rfl rfl ?_
    refine R_p d157_3 rfl rfl ?_
    refine R_p d157_4 rfl rfl ?_
    refine R_tc [.int v1, .int v2] d157_5 (List.mem_of_getElem? (i := 29) rfl) ⟨by decide, by decide, Nat.le_of_ble_eq_true rfl, mcd96⟩ rfl rfl (Nat.le_of_ble_eq_true rfl) (hg16 _ _) rfl rfl (cx := 10) (hp := 13) (hgx _ _ _) (by decide) (by decide) (by decide) (t_f96_x e) ?_
    refine R_p (ls' := [(0, .ref 16), (1, .int v1), (2, .int v2), (3, .ref 53), (4, .ref (ex.length + 54))]) d157_13 rfl rfl ?_
    refine R_ic (v := 1) d157_15 (by decide) ?_
    exact R_iret d157_16 rfl rfl rfl
  · rename_i e
    cases h
    refine R_p d157_0 rfl rfl ?_
    refine R_ic (v := 0) d157_1 (by decide) ?_
    refine R_p d157_2 rfl rfl ?_
    refine R_p d157_3 rfl rfl ?_
    refine R_p d157_4 rfl rfl ?_
    refine R_tc [.int v1, .int v2] d157_5 (List.mem_of_getElem? (i := 29) rfl) ⟨by decide, by decide, Nat.le_of_ble_eq_true rfl, mcd96⟩ rfl rfl (Nat.le_of_ble_eq_true rfl) (hg16 _ _) rfl rfl (cx := 11) (hp := 17) (hgx _ _ _) (by decide) (by decide) (by decide) (t_f96_x e) ?_
    refine R_p (ls' := [(0, .ref 16), (1, .int v1), (2, .int v2), (3, .ref 53), (4, .ref (ex.length + 54))]) d157_17 rfl rfl ?_
    refine R_ic (v := 2) d157_19 (by decide) ?_
    exact R_iret d157_20 rfl rfl rfl
  · cases h
def o158 (k : Nat) (v1 : Int32) (v2 : Int32) (s : mS) : Option (Int32 × mS × mHp) := match f100 k v1 v2 s with
  | some (.inl a) => some (0, uJ 53 (vp_updL (a.2.2.1 53) (Int32.toNatClampNeg 0) (if a.1 = 0 then (0 : Int64) else 1)) a.2, [])
  | some (.inr 10) => some (1, s, [.inr (10, [])])
  | _ => none
theorem t_o158 {S : mE} {ex : mHp} {k : Nat} {v1 : Int32} {v2 : Int32} {s : mS} {r : Int32 × mS × mHp} (h : o158 k v1 v2 s = some r) : Run S 158 (0, [(0, .ref 16), (1, .int v1), (2, .int v2), (3, .ref 53)], [], hp s ex) (.inl (some (.int r.1)), hp r.2.1 (ex ++ r.2.2)) := by
  unfold o158 at h
  split at h
  · rename_i a e
    cases h
    rw [List.append_nil]
    refine R_p d158_0 rfl rfl ?_
    refine R_ic (v := 0) d158_1 (by decide) ?_
    refine R_p d158_2 rfl rfl ?_
    refine R_p d158_3 rfl rfl ?_
    refine R_p d158_4 rfl rfl ?_
    refine R_cm [.int v1, .int v2] d158_5 (List.mem_of_getElem? (i := 84) rfl) rfl ⟨by decide, by decide, Nat.le_of_ble_eq_true rfl, rfl, mcd100⟩ rfl rfl (Nat.le_of_ble_eq_true rfl) (hg16 _ _) rfl (t_f100_n e) ?_
    by_cases c : a.1 = 0
    · simp only [if_pos c]
      refine R_br 15 d158_8 (mb_t (b := (a.1 = 0)) c) rfl ?_
      refine R_lc (v := 0) d158_15 (by decide) ?_
      refine R_lst d158_16 (hg53 _ _) (vp_ok (by decide)) ?_
      refine R_br 24 d158_17 rfl rfl ?_
      refine R_ic (v := 0) d158_24 (by decide) ?_
      exact R_iret d158_25 rfl rfl rfl
    · simp only [if_neg c]
      refine R_nb d158_8 rfl (mb_f (b := (a.1 = 0)) c) ?_
      refine R_lc (v := 1) d158_11 (by decide) ?_
      refine R_br 16 d158_12 rfl rfl ?_
      refine R_lst d158_16 (hg53 _ _) (vp_ok (by decide)) ?_
      refine R_br 24 d158_17 rfl rfl ?_
      refine R_ic (v := 0) d158_24 (by decide) ?_
      exact R_iret d158_25 rfl rfl rfl
  · rename_i e
    cases h
    refine R_p d158_0 rfl rfl ?_
    refine R_ic (v := 0) d158_1 (by decide) ?_
    refine R_p d158_2 rfl rfl ?_
    refine R_p d158_3 rfl rfl ?_
    refine R_p d158_4 rfl rfl ?_
    refine R_tc [.int v1, .int v2] d158_5 (List.mem_of_getElem? (i := 84) rfl) ⟨by decide, by decide, Nat.le_of_ble_eq_true rfl, mcd100⟩ rfl rfl (Nat.le_of_ble_eq_true rfl) (hg16 _ _) rfl rfl (cx := 10) (hp := 20) (hgx _ _ _) (by decide) (by decide) (by decide) (t_f100_x e) ?_
    refine R_p (ls' := [(0, .ref 16), (1, .int v1), (2, .int v2), (3, .ref 53), (4, .ref (ex.length + 54))]) d158_20 rfl rfl ?_
    refine R_ic (v := 1) d158_22 (by decide) ?_
    exact R_iret d158_23 rfl rfl rfl
  · cases h
def o159 (k : Nat) (v1 : Int32) (v2 : Int32) (s : mS) : Option (Int32 × mS × mHp) := match f103 k v1 v2 s with
  | some (.inl a) => some (0, uJ 53 (vp_updL (a.2.2.1 53) (Int32.toNatClampNeg 0) (if a.1 = 0 then (0 : Int64) else 1)) a.2, [])
  | some (.inr 10) => some (1, s, [.inr (10, [])])
  | _ => none
theorem t_o159 {S : mE} {ex : mHp} {k : Nat} {v1 : Int32} {v2 : Int32} {s : mS} {r : Int32 × mS × mHp} (h : o159 k v1 v2 s = some r) : Run S 159 (0, [(0, .ref 16), (1, .int v1), (2, .int v2), (3, .ref 53)], [], hp s ex) (.inl (some (.int r.1)), hp r.2.1 (ex ++ r.2.2)) := by
  unfold o159 at h
  split at h
  · rename_i a e
    cases h
    rw [List.append_nil]
    refine R_p d159_0 rfl rfl ?_
    refine R_ic (v := 0) d159_1 (by decide) ?_
    refine R_p d159_2 rfl rfl ?_
    refine R_p d159_3 rfl rfl ?_
    refine R_p d159_4 rfl rfl ?_
    refine R_cm [.int v1, .int v2] d159_5 (List.mem_of_getElem? (i := 105) rfl) rfl ⟨by decide, by decide, Nat.le_of_ble_eq_true rfl, rfl, mcd103⟩ rfl rfl (Nat.le_of_ble_eq_true rfl) (hg16 _ _) rfl (t_f103_n e) ?_
    by_cases c : a.1 = 0
    · simp only [if_pos c]
      refine R_br 15 d159_8 (mb_t (b := (a.1 = 0)) c) rfl ?_
      refine R_lc (v := 0) d159_15 (by decide) ?_
      refine R_lst d159_16 (hg53 _ _) (vp_ok (by decide)) ?_
      refine R_br 24 d159_17 rfl rfl ?_
      refine R_ic (v := 0) d159_24 (by decide) ?_
      exact R_iret d159_25 rfl rfl rfl
    · simp only [if_neg c]
      refine R_nb d159_8 rfl (mb_f (b := (a.1 = 0)) c) ?_
      refine R_lc (v := 1) d159_11 (by decide) ?_
      refine R_br 16 d159_12 rfl rfl ?_
      refine R_lst d159_16 (hg53 _ _) (vp_ok (by decide)) ?_
      refine R_br 24 d159_17 rfl rfl ?_
      refine R_ic (v := 0) d159_24 (by decide) ?_
      exact R_iret d159_25 rfl rfl rfl
  · rename_i e
    cases h
    refine R_p d159_0 rfl rfl ?_
    refine R_ic (v := 0) d159_1 (by decide) ?_
    refine R_p d159_2 rfl rfl ?_
    refine R_p d159_3 rfl rfl ?_
    refine R_p d159_4 rfl rfl ?_
    refine R_tc [.int v1, .int v2] d159_5 (List.mem_of_getElem? (i := 105) rfl) ⟨by decide, by decide, Nat.le_of_ble_eq_true rfl, mcd103⟩ rfl rfl (Nat.le_of_ble_eq_true rfl) (hg16 _ _) rfl rfl (cx := 10) (hp := 20) (hgx _ _ _) (by decide) (by decide) (by decide) (t_f103_x e) ?_
    refine R_p (ls' := [(0, .ref 16), (1, .int v1), (2, .int v2), (3, .ref 53), (4, .ref (ex.length + 54))]) d159_20 rfl rfl ?_
    refine R_ic (v := 1) d159_22 (by decide) ?_
    exact R_iret d159_23 rfl rfl rfl
  · cases h
def o160 (v1 : Int32) (v2 : Int32) (s : mS) : Option (Int32 × mS × mHp) := match f104 v1 v2 s with
  | some (.inl a) => some (0, uJ 53 (vp_updL (s.2.1 53) (Int32.toNatClampNeg 0) (Int32.toInt64 a)) s, [])
  | some (.inr 12) => some (1, s, [.inr (12, [])])
  | _ => none
theorem t_o160 {S : mE} {ex : mHp} {v1 : Int32} {v2 : Int32} {s : mS} {r : Int32 × mS × mHp} (h : o160 v1 v2 s = some r) : Run S 160 (0, [(0, .ref 16), (1, .int v1), (2, .int v2), (3, .ref 53)], [], hp s ex) (.inl (some (.int r.1)), hp r.2.1 (ex ++ r.2.2)) := by
  unfold o160 at h
  split at h
  · rename_i a e
    cases h
    rw [List.append_nil]
    refine R_p d160_0 rfl rfl ?_
    refine R_ic (v := 0) d160_1 (by decide) ?_
    refine R_p d160_2 rfl rfl ?_
    refine R_p d160_3 rfl rfl ?_
    refine R_p d160_4 rfl rfl ?_
    refine R_cm [.int v1, .int v2] d160_5 (List.mem_of_getElem? (i := 109) rfl) rfl ⟨by decide, by decide, Nat.le_of_ble_eq_true rfl, rfl, mcd104⟩ rfl rfl (Nat.le_of_ble_eq_true rfl) (hg16 _ _) rfl (t_f104_n e) ?_
    refine R_p d160_8 rfl rfl ?_
    refine R_lst d160_9 (hg53 _ _) (vp_ok (by decide)) ?_
    refine R_br 17 d160_10 rfl rfl ?_
    refine R_ic (v := 0) d160_17 (by decide) ?_
    exact R_iret d160_18 rfl rfl rfl
  · rename_i e
    cases h
    refine R_p d160_0 rfl rfl ?_
    refine R_ic (v := 0) d160_1 (by decide) ?_
    refine R_p d160_2 rfl rfl ?_
    refine R_p d160_3 rfl rfl ?_
    refine R_p d160_4 rfl rfl ?_
    refine R_tc [.int v1, .int v2] d160_5 (List.mem_of_getElem? (i := 109) rfl) ⟨by decide, by decide, Nat.le_of_ble_eq_true rfl, mcd104⟩ rfl rfl (Nat.le_of_ble_eq_true rfl) (hg16 _ _) rfl rfl (cx := 12) (hp := 13) (hgx _ _ _) (by decide) (by decide) (by decide) (t_f104_x e) ?_
    refine R_p (ls' := [(0, .ref 16), (1, .int v1), (2, .int v2), (3, .ref 53), (4, .ref (ex.length + 54))]) d160_13 rfl rfl ?_
    refine R_ic (v := 1) d160_15 (by decide) ?_
    exact R_iret d160_16 rfl rfl rfl
  · cases h
def o161 (v1 : Int32) (v2 : Int32) (s : mS) : Option (Int32 × mS × mHp) := match f106 v1 v2 s with
  | some (.inl a) => some (0, uJ 53 (vp_updL (s.2.1 53) (Int32.toNatClampNeg 0) (Int32.toInt64 a)) s, [])
  | some (.inr 12) => some (1, s, [.inr (12, [])])
  | _ => none
theorem t_o161 {S : mE} {ex : mHp} {v1 : Int32} {v2 : Int32} {s : mS} {r : Int32 × mS × mHp} (h : o161 v1 v2 s = some r) : Run S 161 (0, [(0, .ref 16), (1, .int v1), (2, .int v2), (3, .ref 53)], [], hp s ex) (.inl (some (.int r.1)), hp r.2.1 (ex ++ r.2.2)) := by
  unfold o161 at h
  split at h
  · rename_i a e
    cases h
    rw [List.append_nil]
    refine R_p d161_0 rfl rfl ?_
    refine R_ic (v := 0) d161_1 (by decide) ?_
    refine R_p d161_2 rfl rfl ?_
    refine R_p d161_3 rfl rfl ?_
    refine R_p d161_4 rfl rfl ?_
    refine R_cm [.int v1, .int v2] d161_5 (List.mem_of_getElem? (i := 113) rfl) rfl ⟨by decide, by decide, Nat.le_of_ble_eq_true rfl, rfl, mcd106⟩ rfl rfl (Nat.le_of_ble_eq_true rfl) (hg16 _ _) rfl (t_f106_n e) ?_
    refine R_p d161_8 rfl rfl ?_
    refine R_lst d161_9 (hg53 _ _) (vp_ok (by decide)) ?_
    refine R_br 17 d161_10 rfl rfl ?_
    refine R_ic (v := 0) d161_17 (by decide) ?_
    exact R_iret d161_18 rfl rfl rfl
  · rename_i e
    cases h
    refine R_p d161_0 rfl rfl ?_
    refine R_ic (v := 0) d161_1 (by decide) ?_
    refine R_p d161_2 rfl rfl ?_
    refine R_p d161_3 rfl rfl ?_
    refine R_p d161_4 rfl rfl ?_
    refine R_tc [.int v1, .int v2] d161_5 (List.mem_of_getElem? (i := 113) rfl) ⟨by decide, by decide, Nat.le_of_ble_eq_true rfl, mcd106⟩ rfl rfl (Nat.le_of_ble_eq_true rfl) (hg16 _ _) rfl rfl (cx := 12) (hp := 13) (hgx _ _ _) (by decide) (by decide) (by decide) (t_f106_x e) ?_
    refine R_p (ls' := [(0, .ref 16), (1, .int v1), (2, .int v2), (3, .ref 53), (4, .ref (ex.length + 54))]) d161_13 rfl rfl ?_
    refine R_ic (v := 1) d161_15 (by decide) ?_
    exact R_iret d161_16 rfl rfl rfl
  · cases h
def o162 (v1 : Int32) (v2 : Int32) (s : mS) : Option (Int32 × mS × mHp) := match f107 v1 v2 s with
  | some (.inl a) => some (0, uJ 53 (vp_updL (s.2.1 53) (Int32.toNatClampNeg 0) (Int32.toInt64 a)) s, [])
  | some (.inr 10) => some (1, s, [.inr (10, [])])
  | _ => none
theorem t_o162 {S : mE} {ex : mHp} {v1 : Int32} {v2 : Int32} {s : mS} {r : Int32 × mS × mHp} (h : o162 v1 v2 s = some r) : Run S 162 (0, [(0, .ref 16), (1, .int v1), (2, .int v2), (3, .ref 53)], [], hp s ex) (.inl (some (.int r.1)), hp r.2.1 (ex ++ r.2.2)) := by
  unfold o162 at h
  split at h
  · rename_i a e
    cases h
    rw [List.append_nil]
    refine R_p d162_0 rfl rfl ?_
    refine R_ic (v := 0) d162_1 (by decide) ?_
    refine R_p d162_2 rfl rfl ?_
    refine R_p d162_3 rfl rfl ?_
    refine R_p d162_4 rfl rfl ?_
    refine R_cm [.int v1, .int v2] d162_5 (List.mem_of_getElem? (i := 116) rfl) rfl ⟨by decide, by decide, Nat.le_of_ble_eq_true rfl, rfl, mcd107⟩ rfl rfl (Nat.le_of_ble_eq_true rfl) (hg16 _ _) rfl (t_f107_n e) ?_
    refine R_p d162_8 rfl rfl ?_
    refine R_lst d162_9 (hg53 _ _) (vp_ok (by decide)) ?_
    refine R_br 17 d162_10 rfl rfl ?_
    refine R_ic (v := 0) d162_17 (by decide) ?_
    exact R_iret d162_18 rfl rfl rfl
  · rename_i e
    cases h
    refine R_p d162_0 rfl rfl ?_
    refine R_ic (v := 0) d162_1 (by decide) ?_
    refine R_p d162_2 rfl rfl ?_
    refine R_p d162_3 rfl rfl ?_
    refine R_p d162_4 rfl rfl ?_
    refine R_tc [.int v1, .int v2] d162_5 (List.mem_of_getElem? (i := 116) rfl) ⟨by decide, by decide, Nat.le_of_ble_eq_true rfl, mcd107⟩ rfl rfl (Nat.le_of_ble_eq_true rfl) (hg16 _ _) rfl rfl (cx := 10) (hp := 13) (hgx _ _ _) (by decide) (by decide) (by decide) (t_f107_x e) ?_
    refine R_p (ls' := [(0, .ref 16), (1, .int v1), (2, .int v2), (3, .ref 53), (4, .ref (ex.length + 54))]) d162_13 rfl rfl ?_
    refine R_ic (v := 1) d162_15 (by decide) ?_
    exact R_iret d162_16 rfl rfl rfl
  · cases h
def o163 (v1 : Int32) (v2 : Int32) (v3 : Int32) (s : mS) : Option (Int32 × mS × mHp) := match f108 v1 v2 v3 s with
  | some (.inl a) => some (0, uJ 53 (vp_updL (s.2.1 53) (Int32.toNatClampNeg 0) (Int32.toInt64 a)) s, [])
  | some (.inr 10) => some (1, s, [.inr (10, [])])
  | _ => none
theorem t_o163 {S : mE} {ex : mHp} {v1 : Int32} {v2 : Int32} {v3 : Int32} {s : mS} {r : Int32 × mS × mHp} (h : o163 v1 v2 v3 s = some r) : Run S 163 (0, [(0, .ref 16), (1, .int v1), (2, .int v2), (3, .int v3), (4, .ref 53)], [], hp s ex) (.inl (some (.int r.1)), hp r.2.1 (ex ++ r.2.2)) := by
  unfold o163 at h
  split at h
  · rename_i a e
    cases h
    rw [List.append_nil]
    refine R_p d163_0 rfl rfl ?_
    refine R_ic (v := 0) d163_2 (by decide) ?_
    refine R_p d163_3 rfl rfl ?_
    refine R_p d163_4 rfl rfl ?_
    refine R_p d163_5 rfl rfl ?_
    refine R_p d163_6 rfl rfl ?_
    refine R_cm [.int v1, .int v2, .int v3] d163_7 (List.mem_of_getElem? (i := 119) rfl) rfl ⟨by decide, by decide, Nat.le_of_ble_eq_true rfl, rfl, mcd108⟩ rfl rfl (Nat.le_of_ble_eq_true rfl) (hg16 _ _) rfl (t_f108_n e) ?_
    refine R_p d163_10 rfl rfl ?_
    refine R_lst d163_11 (hg53 _ _) (vp_ok (by decide)) ?_
    refine R_br 19 d163_12 rfl rfl ?_
    refine R_ic (v := 0) d163_19 (by decide) ?_
    exact R_iret d163_20 rfl rfl rfl
  · rename_i e
    cases h
    refine R_p d163_0 rfl rfl ?_
    refine R_ic (v := 0) d163_2 (by decide) ?_
    refine R_p d163_3 rfl rfl ?_
    refine R_p d163_4 rfl rfl ?_
    refine R_p d163_5 rfl rfl ?_
    refine R_p d163_6 rfl rfl ?_
    refine R_tc [.int v1, .int v2, .int v3] d163_7 (List.mem_of_getElem? (i := 119) rfl) ⟨by decide, by decide, Nat.le_of_ble_eq_true rfl, mcd108⟩ rfl rfl (Nat.le_of_ble_eq_true rfl) (hg16 _ _) rfl rfl (cx := 10) (hp := 15) (hgx _ _ _) (by decide) (by decide) (by decide) (t_f108_x e) ?_
    refine R_p (ls' := [(0, .ref 16), (1, .int v1), (2, .int v2), (3, .int v3), (4, .ref 53), (5, .ref (ex.length + 54))]) d163_15 rfl rfl ?_
    refine R_ic (v := 1) d163_17 (by decide) ?_
    exact R_iret d163_18 rfl rfl rfl
  · cases h
def o164 (v1 : Int32) (v2 : Int32) (v3 : Int32) (v4 : Int32) (s : mS) : Option (Int32 × mS × mHp) := match f109 v1 v2 v3 v4 s with
  | some (.inl a) => some (0, uJ 53 (vp_updL (a.2.2.1 53) (Int32.toNatClampNeg 0) (Int32.toInt64 a.1)) a.2, [])
  | some (.inr 10) => some (1, s, [.inr (10, [])])
  | _ => none
theorem t_o164 {S : mE} {ex : mHp} {v1 : Int32} {v2 : Int32} {v3 : Int32} {v4 : Int32} {s : mS} {r : Int32 × mS × mHp} (h : o164 v1 v2 v3 v4 s = some r) : Run S 164 (0, [(0, .ref 16), (1, .int v1), (2, .int v2), (3, .int v3), (4, .int v4), (5, .ref 53)], [], hp s ex) (.inl (some (.int r.1)), hp r.2.1 (ex ++ r.2.2)) := by
  unfold o164 at h
  split at h
  · rename_i a e
    cases h
    rw [List.append_nil]
    refine R_p d164_0 rfl rfl ?_
    refine R_ic (v := 0) d164_2 (by decide) ?_
    refine R_p d164_3 rfl rfl ?_
    refine R_p d164_4 rfl rfl ?_
    refine R_p d164_5 rfl rfl ?_
    refine R_p d164_6 rfl rfl ?_
    refine R_p d164_7 rfl rfl ?_
    refine R_cm [.int v1, .int v2, .int v3, .int v4] d164_9 (List.mem_of_getElem? (i := 122) rfl) rfl ⟨by decide, by decide, Nat.le_of_ble_eq_true rfl, rfl, mcd109⟩ rfl rfl (Nat.le_of_ble_eq_true rfl) (hg16 _ _) rfl (t_f109_n e) ?_
    refine R_p d164_12 rfl rfl ?_
    refine R_lst d164_13 (hg53 _ _) (vp_ok (by decide)) ?_
    refine R_br 21 d164_14 rfl rfl ?_
    refine R_ic (v := 0) d164_21 (by decide) ?_
    exact R_iret d164_22 rfl rfl rfl
  · rename_i e
    cases h
    refine R_p d164_0 rfl rfl ?_
    refine R_ic (v := 0) d164_2 (by decide) ?_
    refine R_p d164_3 rfl rfl ?_
    refine R_p d164_4 rfl rfl ?_
    refine R_p d164_5 rfl rfl ?_
    refine R_p d164_6 rfl rfl ?_
    refine R_p d164_7 rfl rfl ?_
    refine R_tc [.int v1, .int v2, .int v3, .int v4] d164_9 (List.mem_of_getElem? (i := 122) rfl) ⟨by decide, by decide, Nat.le_of_ble_eq_true rfl, mcd109⟩ rfl rfl (Nat.le_of_ble_eq_true rfl) (hg16 _ _) rfl rfl (cx := 10) (hp := 17) (hgx _ _ _) (by decide) (by decide) (by decide) (t_f109_x e) ?_
    refine R_p (ls' := [(0, .ref 16), (1, .int v1), (2, .int v2), (3, .int v3), (4, .int v4), (5, .ref 53), (6, .ref (ex.length + 54))]) d164_17 rfl rfl ?_
    refine R_ic (v := 1) d164_19 (by decide) ?_
    exact R_iret d164_20 rfl rfl rfl
  · cases h
def o165 (k : Nat) (v1 : Int32) (v2 : Int32) (s : mS) : Option (Int32 × mS × mHp) := match f110 k v1 v2 s with
  | some (.inl a) => some (0, uJ 53 (vp_updL (a.2.2.1 53) (Int32.toNatClampNeg 0) (Int32.toInt64 a.1)) a.2, [])
  | some (.inr 10) => some (1, s, [.inr (10, [])])
  | _ => none
theorem t_o165 {S : mE} {ex : mHp} {k : Nat} {v1 : Int32} {v2 : Int32} {s : mS} {r : Int32 × mS × mHp} (h : o165 k v1 v2 s = some r) : Run S 165 (0, [(0, .ref 16), (1, .int v1), (2, .int v2), (3, .ref 53)], [], hp s ex) (.inl (some (.int r.1)), hp r.2.1 (ex ++ r.2.2)) := by
  unfold o165 at h
  split at h
  · rename_i a e
    cases h
    rw [List.append_nil]
    refine R_p d165_0 rfl rfl ?_
    refine R_ic (v := 0) d165_1 (by decide) ?_
    refine R_p d165_2 rfl rfl ?_
    refine R_p d165_3 rfl rfl ?_
    refine R_p d165_4 rfl rfl ?_
    refine R_cm [.int v1, .int v2] d165_5 (List.mem_of_getElem? (i := 125) rfl) rfl ⟨by decide, by decide, Nat.le_of_ble_eq_true rfl, rfl, mcd110⟩ rfl rfl (Nat.le_of_ble_eq_true rfl) (hg16 _ _) rfl (t_f110_n e) ?_
    refine R_p d165_8 rfl rfl ?_
    refine R_lst d165_9 (hg53 _ _) (vp_ok (by decide)) ?_
    refine R_br 17 d165_10 rfl rfl ?_
    refine R_ic (v := 0) d165_17 (by decide) ?_
    exact R_iret d165_18 rfl rfl rfl
  · rename_i e
    cases h
    refine R_p d165_0 rfl rfl ?_
    refine R_ic (v := 0) d165_1 (by decide) ?_
    refine R_p d165_2 rfl rfl ?_
    refine R_p d165_3 rfl rfl ?_
    refine R_p d165_4 rfl rfl ?_
    refine R_tc [.int v1, .int v2] d165_5 (List.mem_of_getElem? (i := 125) rfl) ⟨by decide, by decide, Nat.le_of_ble_eq_true rfl, mcd110⟩ rfl rfl (Nat.le_of_ble_eq_true rfl) (hg16 _ _) rfl rfl (cx := 10) (hp := 13) (hgx _ _ _) (by decide) (by decide) (by decide) (t_f110_x e) ?_
    refine R_p (ls' := [(0, .ref 16), (1, .int v1), (2, .int v2), (3, .ref 53), (4, .ref (ex.length + 54))]) d165_13 rfl rfl ?_
    refine R_ic (v := 1) d165_15 (by decide) ?_
    exact R_iret d165_16 rfl rfl rfl
  · cases h
def o166 (k : Nat) (v1 : Int32) (v2 : Int32) (v3 : Int32) (v4 : Int32) (s : mS) : Option (Int32 × mS × mHp) := match f111 k v1 v2 v3 v4 s with
  | some (.inl a) => some (0, uJ 53 (vp_updL (a.2.2.1 53) (Int32.toNatClampNeg 0) (Int32.toInt64 a.1)) a.2, [])
  | some (.inr 10) => some (1, s, [.inr (10, [])])
  | _ => none
theorem t_o166 {S : mE} {ex : mHp} {k : Nat} {v1 : Int32} {v2 : Int32} {v3 : Int32} {v4 : Int32} {s : mS} {r : Int32 × mS × mHp} (h : o166 k v1 v2 v3 v4 s = some r) : Run S 166 (0, [(0, .ref 16), (1, .int v1), (2, .int v2), (3, .int v3), (4, .int v4), (5, .ref 53)], [], hp s ex) (.inl (some (.int r.1)), hp r.2.1 (ex ++ r.2.2)) := by
  unfold o166 at h
  split at h
  · rename_i a e
    cases h
    rw [List.append_nil]
    refine R_p d166_0 rfl rfl ?_
    refine R_ic (v := 0) d166_2 (by decide) ?_
    refine R_p d166_3 rfl rfl ?_
    refine R_p d166_4 rfl rfl ?_
    refine R_p d166_5 rfl rfl ?_
    refine R_p d166_6 rfl rfl ?_
    refine R_p d166_7 rfl rfl ?_
    refine R_cm [.int v1, .int v2, .int v3, .int v4] d166_9 (List.mem_of_getElem? (i := 128) rfl) rfl ⟨by decide, by decide, Nat.le_of_ble_eq_true rfl, rfl, mcd111⟩ rfl rfl (Nat.le_of_ble_eq_true rfl) (hg16 _ _) rfl (t_f111_n e) ?_
    refine R_p d166_12 rfl rfl ?_
    refine R_lst d166_13 (hg53 _ _) (vp_ok (by decide)) ?_
    refine R_br 21 d166_14 rfl rfl ?_
    refine R_ic (v := 0) d166_21 (by decide) ?_
    exact R_iret d166_22 rfl rfl rfl
  · rename_i e
    cases h
    refine R_p d166_0 rfl rfl ?_
    refine R_ic (v := 0) d166_2 (by decide) ?_
    refine R_p d166_3 rfl rfl ?_
    refine R_p d166_4 rfl rfl ?_
    refine R_p d166_5 rfl rfl ?_
    refine R_p d166_6 rfl rfl ?_
    refine R_p d166_7 rfl rfl ?_
    refine R_tc [.int v1, .int v2, .int v3, .int v4] d166_9 (List.mem_of_getElem? (i := 128) rfl) ⟨by decide, by decide, Nat.le_of_ble_eq_true rfl, mcd111⟩ rfl rfl (Nat.le_of_ble_eq_true rfl) (hg16 _ _) rfl rfl (cx := 10) (hp := 17) (hgx _ _ _) (by decide) (by decide) (by decide) (t_f111_x e) ?_
    refine R_p (ls' := [(0, .ref 16), (1, .int v1), (2, .int v2), (3, .int v3), (4, .int v4), (5, .ref 53), (6, .ref (ex.length + 54))]) d166_17 rfl rfl ?_
    refine R_ic (v := 1) d166_19 (by decide) ?_
    exact R_iret d166_20 rfl rfl rfl
  · cases h
theorem sl_at {N n : Nat} {i j : Int32} (hi : i = nI n) (hn : n + 5 ≤ N) (hN : N ≤ 2560) {m : Nat} (hj : j = nI m ∧ m < 5) : (i + j).toNatClampNeg = n + m := by
  rw [hi, hj.1, nI_add, nI_clamp (by omega)]
theorem sl_in {N n : Nat} {i j : Int32} (hi : i = nI n) (hn : n + 5 ≤ N) (hN : N ≤ 2560) {m : Nat} (hj : j = nI m ∧ m < 5) : vp_in (i + j) N := by
  rw [hi, hj.1, nI_add]
  exact vp_in_nI (by omega) (by omega)
def g0 (k : Nat) (x1 : Int32) (x2 : Int32) (s : mS) : Option (mS × mHp) :=
  (o157 k x1 x2 s).bind fun q1 => (f114 k x1 x2 q1.2.1).bind fun q3 => (f113 q3.2).bind fun q5 => (if (q5 = q1.1) then
    (if (¬ q1.1 = (0 : Int32)) then
      some (q3.2, q1.2.2)
    else
      (if ((q3.2.2.1 53 (Int32.toNatClampNeg 0)) = (Int32.toInt64 q3.1)) then
        some (q3.2, q1.2.2)
      else
        none))
  else
    none)
theorem t_g0 {N : Nat} {f : Nat → Int32} {ex : mHp} {r : mR} {i : Int32} {n : Nat} {k : Nat} {x1 : Int32} {x2 : Int32} {s : mS} {q : mS × mHp} (hi : i = nI n) (hn : n + 5 ≤ N) (hN : N ≤ 2560) (hx1 : f (n + 1) = x1) (hx2 : f (n + 2) = x2) (h : g0 k x1 x2 s = some q) (kk : Run (N, f) 171 (23, [(0, .ref 0), (1, .ref 16), (2, .ref 42), (3, .ref 53), (4, .int (i + Int32.ofInt 5))], [], hp q.1 (ex ++ q.2)) r) : Run (N, f) 171 (108, [(0, .ref 0), (1, .ref 16), (2, .ref 42), (3, .ref 53), (4, .int i)], [], hp s ex) r := by
  unfold g0 at h
  refine R_p d171_108 rfl rfl ?_
  refine R_p d171_109 rfl rfl ?_
  refine R_p d171_110 rfl rfl ?_
  refine R_ic (v := 1) d171_112 (by decide) ?_
  refine R_p d171_113 rfl rfl ?_
  refine R_sldk (n := n + 1) (x := x1) d171_114 (sl_in (m := 1) hi hn hN ⟨by decide, by decide⟩) (sl_at (m := 1) hi hn hN ⟨by decide, by decide⟩) hx1 ?_
  refine R_p d171_115 rfl rfl ?_
  refine R_p d171_116 rfl rfl ?_
  refine R_ic (v := 2) d171_118 (by decide) ?_
  refine R_p d171_119 rfl rfl ?_
  refine R_sldk (n := n + 2) (x := x2) d171_120 (sl_in (m := 2) hi hn hN ⟨by decide, by decide⟩) (sl_at (m := 2) hi hn hN ⟨by decide, by decide⟩) hx2 ?_
  refine R_p d171_121 rfl rfl ?_
  obtain ⟨q1, e2, h⟩ := bd_some h
  refine R_hs [.ref 16, .int x1, .int x2, .ref 53] d171_122 (List.mem_of_getElem? (i := 28) rfl) ⟨by decide, by decide, Nat.le_of_ble_eq_true rfl, mcd157⟩ rfl rfl (Nat.le_of_ble_eq_true rfl) (t_o157 e2) ?_
  refine R_p (ls' := [(0, .ref 0), (1, .ref 16), (2, .ref 42), (3, .ref 53), (4, .int i), (5, .int q1.1)]) d171_125 rfl rfl ?_
  refine R_p d171_127 rfl rfl ?_
  refine R_p d171_128 rfl rfl ?_
  refine R_p d171_129 rfl rfl ?_
  refine R_ic (v := 1) d171_131 (by decide) ?_
  refine R_p d171_132 rfl rfl ?_
  refine R_sldk (n := n + 1) (x := x1) d171_133 (sl_in (m := 1) hi hn hN ⟨by decide, by decide⟩) (sl_at (m := 1) hi hn hN ⟨by decide, by decide⟩) hx1 ?_
  refine R_p d171_134 rfl rfl ?_
  refine R_p d171_135 rfl rfl ?_
  refine R_ic (v := 2) d171_137 (by decide) ?_
  refine R_p d171_138 rfl rfl ?_
  refine R_sldk (n := n + 2) (x := x2) d171_139 (sl_in (m := 2) hi hn hN ⟨by decide, by decide⟩) (sl_at (m := 2) hi hn hN ⟨by decide, by decide⟩) hx2 ?_
  obtain ⟨q3, e4, h⟩ := bd_some h
  refine R_cm [.int x1, .int x2] d171_140 (List.mem_of_getElem? (i := 161) rfl) rfl ⟨by decide, by decide, Nat.le_of_ble_eq_true rfl, rfl, mcd114⟩ rfl rfl (Nat.le_of_ble_eq_true rfl) (hg42 _ _) rfl (t_f114 e4) ?_
  refine R_p (ls' := [(0, .ref 0), (1, .ref 16), (2, .ref 42), (3, .ref 53), (4, .int i), (5, .int q1.1), (6, .int q3.1)]) d171_143 rfl rfl ?_
  refine R_p d171_145 rfl rfl ?_
  obtain ⟨q5, e6, h⟩ := bd_some h
  refine R_cm [] d171_146 (List.mem_of_getElem? (i := 160) rfl) rfl ⟨by decide, by decide, Nat.le_of_ble_eq_true rfl, rfl, mcd113⟩ rfl rfl (Nat.le_of_ble_eq_true rfl) (hg42 _ _) rfl (t_f113 e6) ?_
  refine R_p d171_149 rfl rfl ?_
  rcases ite_some h with ⟨c7, h⟩ | ⟨c7, h⟩
  · skip
    refine R_br 156 d171_151 (mb_t (b := (q5 = q1.1)) c7) rfl ?_
    refine R_p d171_156 rfl rfl ?_
    rcases ite_some h with ⟨c8, h⟩ | ⟨c8, h⟩
    · skip
      refine R_br 173 d171_158 (mb_t (b := (¬ q1.1 = (0 : Int32))) c8) rfl ?_
      refine R_br 950 d171_173 rfl rfl ?_
      cases h
      refine R_p (ls' := [(0, .ref 0), (1, .ref 16), (2, .ref 42), (3, .ref 53), (4, .int (i + Int32.ofInt 5)), (5, .int q1.1), (6, .int q3.1)]) d171_950 rfl rfl ?_
      refine R_br 23 d171_953 rfl rfl ?_
      exact R_wk [(0, .ref 0), (1, .ref 16), (2, .ref 42), (3, .ref 53), (4, .int (i + Int32.ofInt 5))] (by simp) kk
    · skip
      refine R_nb d171_158 rfl (mb_f (b := (¬ q1.1 = (0 : Int32))) c8) ?_
      refine R_p d171_161 rfl rfl ?_
      refine R_ic (v := 0) d171_162 (by decide) ?_
      refine R_lld d171_163 (hg53 _ _) (vp_ok (by decide)) ?_
      refine R_p d171_164 rfl rfl ?_
      refine R_p d171_166 rfl rfl ?_
      refine R_p d171_167 rfl rfl ?_
      rcases ite_some h with ⟨c9, h⟩ | ⟨c9, h⟩
      · skip
        refine R_br 173 d171_168 (mb_t (b := ((lg_cmp (q3.2.2.1 53 (Int32.toNatClampNeg 0)) (Int32.toInt64 q3.1)) = (0 : Int32))) (lgc_eq.mpr c9)) rfl ?_
        refine R_br 950 d171_173 rfl rfl ?_
        cases h
        refine R_p (ls' := [(0, .ref 0), (1, .ref 16), (2, .ref 42), (3, .ref 53), (4, .int (i + Int32.ofInt 5)), (5, .int q1.1), (6, .int q3.1)]) d171_950 rfl rfl ?_
        refine R_br 23 d171_953 rfl rfl ?_
        exact R_wk [(0, .ref 0), (1, .ref 16), (2, .ref 42), (3, .ref 53), (4, .int (i + Int32.ofInt 5))] (by simp) kk
      · skip
        refine R_nb d171_168 rfl (mb_f (b := ((lg_cmp (q3.2.2.1 53 (Int32.toNatClampNeg 0)) (Int32.toInt64 q3.1)) = (0 : Int32))) (fun q => c9 (lgc_eq.mp q))) ?_
        refine R_ic (v := 0) d171_171 (by decide) ?_
        cases h
  · skip
    refine R_nb d171_151 rfl (mb_f (b := (q5 = q1.1)) c7) ?_
    refine R_ic (v := 0) d171_154 (by decide) ?_
    cases h
def g1 (k : Nat) (x1 : Int32) (x2 : Int32) (s : mS) : Option (mS × mHp) :=
  (o158 k x1 x2 s).bind fun q1 => (f120 k x1 x2 q1.2.1).bind fun q3 => (f113 q3.2).bind fun q5 => (if (q5 = q1.1) then
    (if (¬ q1.1 = (0 : Int32)) then
      some (q3.2, q1.2.2)
    else
      (if (q3.1 = (0 : Int32)) then
        (if ((q3.2.2.1 53 (Int32.toNatClampNeg 0)) = (0 : Int64)) then
          some (q3.2, q1.2.2)
        else
          none)
      else
        (if ((q3.2.2.1 53 (Int32.toNatClampNeg 0)) = (1 : Int64)) then
          some (q3.2, q1.2.2)
        else
          none)))
  else
    none)
theorem t_g1 {N : Nat} {f : Nat → Int32} {ex : mHp} {r : mR} {i : Int32} {n : Nat} {k : Nat} {x1 : Int32} {x2 : Int32} {s : mS} {q : mS × mHp} (hi : i = nI n) (hn : n + 5 ≤ N) (hN : N ≤ 2560) (hx1 : f (n + 1) = x1) (hx2 : f (n + 2) = x2) (h : g1 k x1 x2 s = some q) (kk : Run (N, f) 171 (23, [(0, .ref 0), (1, .ref 16), (2, .ref 42), (3, .ref 53), (4, .int (i + Int32.ofInt 5))], [], hp q.1 (ex ++ q.2)) r) : Run (N, f) 171 (176, [(0, .ref 0), (1, .ref 16), (2, .ref 42), (3, .ref 53), (4, .int i)], [], hp s ex) r := by
  unfold g1 at h
  refine R_p d171_176 rfl rfl ?_
  refine R_p d171_177 rfl rfl ?_
  refine R_p d171_178 rfl rfl ?_
  refine R_ic (v := 1) d171_180 (by decide) ?_
  refine R_p d171_181 rfl rfl ?_
  refine R_sldk (n := n + 1) (x := x1) d171_182 (sl_in (m := 1) hi hn hN ⟨by decide, by decide⟩) (sl_at (m := 1) hi hn hN ⟨by decide, by decide⟩) hx1 ?_
  refine R_p d171_183 rfl rfl ?_
  refine R_p d171_184 rfl rfl ?_
  refine R_ic (v := 2) d171_186 (by decide) ?_
  refine R_p d171_187 rfl rfl ?_
  refine R_sldk (n := n + 2) (x := x2) d171_188 (sl_in (m := 2) hi hn hN ⟨by decide, by decide⟩) (sl_at (m := 2) hi hn hN ⟨by decide, by decide⟩) hx2 ?_
  refine R_p d171_189 rfl rfl ?_
  obtain ⟨q1, e2, h⟩ := bd_some h
  refine R_hs [.ref 16, .int x1, .int x2, .ref 53] d171_190 (List.mem_of_getElem? (i := 83) rfl) ⟨by decide, by decide, Nat.le_of_ble_eq_true rfl, mcd158⟩ rfl rfl (Nat.le_of_ble_eq_true rfl) (t_o158 e2) ?_
  refine R_p (ls' := [(0, .ref 0), (1, .ref 16), (2, .ref 42), (3, .ref 53), (4, .int i), (5, .int q1.1)]) d171_193 rfl rfl ?_
  refine R_p d171_195 rfl rfl ?_
  refine R_p d171_196 rfl rfl ?_
  refine R_p d171_197 rfl rfl ?_
  refine R_ic (v := 1) d171_199 (by decide) ?_
  refine R_p d171_200 rfl rfl ?_
  refine R_sldk (n := n + 1) (x := x1) d171_201 (sl_in (m := 1) hi hn hN ⟨by decide, by decide⟩) (sl_at (m := 1) hi hn hN ⟨by decide, by decide⟩) hx1 ?_
  refine R_p d171_202 rfl rfl ?_
  refine R_p d171_203 rfl rfl ?_
  refine R_ic (v := 2) d171_205 (by decide) ?_
  refine R_p d171_206 rfl rfl ?_
  refine R_sldk (n := n + 2) (x := x2) d171_207 (sl_in (m := 2) hi hn hN ⟨by decide, by decide⟩) (sl_at (m := 2) hi hn hN ⟨by decide, by decide⟩) hx2 ?_
  obtain ⟨q3, e4, h⟩ := bd_some h
  refine R_cm [.int x1, .int x2] d171_208 (List.mem_of_getElem? (i := 167) rfl) rfl ⟨by decide, by decide, Nat.le_of_ble_eq_true rfl, rfl, mcd120⟩ rfl rfl (Nat.le_of_ble_eq_true rfl) (hg42 _ _) rfl (t_f120 e4) ?_
  refine R_p (ls' := [(0, .ref 0), (1, .ref 16), (2, .ref 42), (3, .ref 53), (4, .int i), (5, .int q1.1), (6, .int q3.1)]) d171_211 rfl rfl ?_
  refine R_p d171_213 rfl rfl ?_
  obtain ⟨q5, e6, h⟩ := bd_some h
  refine R_cm [] d171_214 (List.mem_of_getElem? (i := 160) rfl) rfl ⟨by decide, by decide, Nat.le_of_ble_eq_true rfl, rfl, mcd113⟩ rfl rfl (Nat.le_of_ble_eq_true rfl) (hg42 _ _) rfl (t_f113 e6) ?_
  refine R_p d171_217 rfl rfl ?_
  rcases ite_some h with ⟨c7, h⟩ | ⟨c7, h⟩
  · skip
    refine R_br 224 d171_219 (mb_t (b := (q5 = q1.1)) c7) rfl ?_
    refine R_p d171_224 rfl rfl ?_
    rcases ite_some h with ⟨c8, h⟩ | ⟨c8, h⟩
    · skip
      refine R_br 248 d171_226 (mb_t (b := (¬ q1.1 = (0 : Int32))) c8) rfl ?_
      refine R_br 950 d171_248 rfl rfl ?_
      cases h
      refine R_p (ls' := [(0, .ref 0), (1, .ref 16), (2, .ref 42), (3, .ref 53), (4, .int (i + Int32.ofInt 5)), (5, .int q1.1), (6, .int q3.1)]) d171_950 rfl rfl ?_
      refine R_br 23 d171_953 rfl rfl ?_
      exact R_wk [(0, .ref 0), (1, .ref 16), (2, .ref 42), (3, .ref 53), (4, .int (i + Int32.ofInt 5))] (by simp) kk
    · skip
      refine R_nb d171_226 rfl (mb_f (b := (¬ q1.1 = (0 : Int32))) c8) ?_
      refine R_p d171_229 rfl rfl ?_
      refine R_ic (v := 0) d171_230 (by decide) ?_
      refine R_lld d171_231 (hg53 _ _) (vp_ok (by decide)) ?_
      refine R_p d171_232 rfl rfl ?_
      rcases ite_some h with ⟨c9, h⟩ | ⟨c9, h⟩
      · skip
        refine R_br 241 d171_234 (mb_t (b := (q3.1 = (0 : Int32))) c9) rfl ?_
        refine R_lc (v := 0) d171_241 (by decide) ?_
        refine R_p d171_242 rfl rfl ?_
        rcases ite_some h with ⟨c10, h⟩ | ⟨c10, h⟩
        · skip
          refine R_br 248 d171_243 (mb_t (b := ((lg_cmp (q3.2.2.1 53 (Int32.toNatClampNeg 0)) 0) = (0 : Int32))) (lgc_eq.mpr c10)) rfl ?_
          refine R_br 950 d171_248 rfl rfl ?_
          cases h
          refine R_p (ls' := [(0, .ref 0), (1, .ref 16), (2, .ref 42), (3, .ref 53), (4, .int (i + Int32.ofInt 5)), (5, .int q1.1), (6, .int q3.1)]) d171_950 rfl rfl ?_
          refine R_br 23 d171_953 rfl rfl ?_
          exact R_wk [(0, .ref 0), (1, .ref 16), (2, .ref 42), (3, .ref 53), (4, .int (i + Int32.ofInt 5))] (by simp) kk
        · skip
          refine R_nb d171_243 rfl (mb_f (b := ((lg_cmp (q3.2.2.1 53 (Int32.toNatClampNeg 0)) 0) = (0 : Int32))) (fun q => c10 (lgc_eq.mp q))) ?_
          refine R_ic (v := 0) d171_246 (by decide) ?_
          cases h
      · skip
        refine R_nb d171_234 rfl (mb_f (b := (q3.1 = (0 : Int32))) c9) ?_
        refine R_lc (v := 1) d171_237 (by decide) ?_
        refine R_br 242 d171_238 rfl rfl ?_
        refine R_p d171_242 rfl rfl ?_
        rcases ite_some h with ⟨c11, h⟩ | ⟨c11, h⟩
        · skip
          refine R_br 248 d171_243 (mb_t (b := ((lg_cmp (q3.2.2.1 53 (Int32.toNatClampNeg 0)) 1) = (0 : Int32))) (lgc_eq.mpr c11)) rfl ?_
          refine R_br 950 d171_248 rfl rfl ?_
          cases h
          refine R_p (ls' := [(0, .ref 0), (1, .ref 16), (2, .ref 42), (3, .ref 53), (4, .int (i + Int32.ofInt 5)), (5, .int q1.1), (6, .int q3.1)]) d171_950 rfl rfl ?_
          refine R_br 23 d171_953 rfl rfl ?_
          exact R_wk [(0, .ref 0), (1, .ref 16), (2, .ref 42), (3, .ref 53), (4, .int (i + Int32.ofInt 5))] (by simp) kk
        · skip
          refine R_nb d171_243 rfl (mb_f (b := ((lg_cmp (q3.2.2.1 53 (Int32.toNatClampNeg 0)) 1) = (0 : Int32))) (fun q => c11 (lgc_eq.mp q))) ?_
          refine R_ic (v := 0) d171_246 (by decide) ?_
          cases h
  · skip
    refine R_nb d171_219 rfl (mb_f (b := (q5 = q1.1)) c7) ?_
    refine R_ic (v := 0) d171_222 (by decide) ?_
    cases h
def g2 (k : Nat) (x1 : Int32) (x2 : Int32) (s : mS) : Option (mS × mHp) :=
  (o159 k x1 x2 s).bind fun q1 => (f125 x1 x2 q1.2.1).bind fun q3 => (f113 q3.2).bind fun q5 => (if (q5 = q1.1) then
    (if (¬ q1.1 = (0 : Int32)) then
      some (q3.2, q1.2.2)
    else
      (if (q3.1 = (0 : Int32)) then
        (if ((q3.2.2.1 53 (Int32.toNatClampNeg 0)) = (0 : Int64)) then
          some (q3.2, q1.2.2)
        else
          none)
      else
        (if ((q3.2.2.1 53 (Int32.toNatClampNeg 0)) = (1 : Int64)) then
          some (q3.2, q1.2.2)
        else
          none)))
  else
    none)
theorem t_g2 {N : Nat} {f : Nat → Int32} {ex : mHp} {r : mR} {i : Int32} {n : Nat} {k : Nat} {x1 : Int32} {x2 : Int32} {s : mS} {q : mS × mHp} (hi : i = nI n) (hn : n + 5 ≤ N) (hN : N ≤ 2560) (hx1 : f (n + 1) = x1) (hx2 : f (n + 2) = x2) (h : g2 k x1 x2 s = some q) (kk : Run (N, f) 171 (23, [(0, .ref 0), (1, .ref 16), (2, .ref 42), (3, .ref 53), (4, .int (i + Int32.ofInt 5))], [], hp q.1 (ex ++ q.2)) r) : Run (N, f) 171 (251, [(0, .ref 0), (1, .ref 16), (2, .ref 42), (3, .ref 53), (4, .int i)], [], hp s ex) r := by
  unfold g2 at h
  refine R_p d171_251 rfl rfl ?_
  refine R_p d171_252 rfl rfl ?_
  refine R_p d171_253 rfl rfl ?_
  refine R_ic (v := 1) d171_255 (by decide) ?_
  refine R_p d171_256 rfl rfl ?_
  refine R_sldk (n := n + 1) (x := x1) d171_257 (sl_in (m := 1) hi hn hN ⟨by decide, by decide⟩) (sl_at (m := 1) hi hn hN ⟨by decide, by decide⟩) hx1 ?_
  refine R_p d171_258 rfl rfl ?_
  refine R_p d171_259 rfl rfl ?_
  refine R_ic (v := 2) d171_261 (by decide) ?_
  refine R_p d171_262 rfl rfl ?_
  refine R_sldk (n := n + 2) (x := x2) d171_263 (sl_in (m := 2) hi hn hN ⟨by decide, by decide⟩) (sl_at (m := 2) hi hn hN ⟨by decide, by decide⟩) hx2 ?_
  refine R_p d171_264 rfl rfl ?_
  obtain ⟨q1, e2, h⟩ := bd_some h
  refine R_hs [.ref 16, .int x1, .int x2, .ref 53] d171_265 (List.mem_of_getElem? (i := 104) rfl) ⟨by decide, by decide, Nat.le_of_ble_eq_true rfl, mcd159⟩ rfl rfl (Nat.le_of_ble_eq_true rfl) (t_o159 e2) ?_
  refine R_p (ls' := [(0, .ref 0), (1, .ref 16), (2, .ref 42), (3, .ref 53), (4, .int i), (5, .int q1.1)]) d171_268 rfl rfl ?_
  refine R_p d171_270 rfl rfl ?_
  refine R_p d171_271 rfl rfl ?_
  refine R_p d171_272 rfl rfl ?_
  refine R_ic (v := 1) d171_274 (by decide) ?_
  refine R_p d171_275 rfl rfl ?_
  refine R_sldk (n := n + 1) (x := x1) d171_276 (sl_in (m := 1) hi hn hN ⟨by decide, by decide⟩) (sl_at (m := 1) hi hn hN ⟨by decide, by decide⟩) hx1 ?_
  refine R_p d171_277 rfl rfl ?_
  refine R_p d171_278 rfl rfl ?_
  refine R_ic (v := 2) d171_280 (by decide) ?_
  refine R_p d171_281 rfl rfl ?_
  refine R_sldk (n := n + 2) (x := x2) d171_282 (sl_in (m := 2) hi hn hN ⟨by decide, by decide⟩) (sl_at (m := 2) hi hn hN ⟨by decide, by decide⟩) hx2 ?_
  obtain ⟨q3, e4, h⟩ := bd_some h
  refine R_cm [.int x1, .int x2] d171_283 (List.mem_of_getElem? (i := 172) rfl) rfl ⟨by decide, by decide, Nat.le_of_ble_eq_true rfl, rfl, mcd125⟩ rfl rfl (Nat.le_of_ble_eq_true rfl) (hg42 _ _) rfl (t_f125 e4) ?_
  refine R_p (ls' := [(0, .ref 0), (1, .ref 16), (2, .ref 42), (3, .ref 53), (4, .int i), (5, .int q1.1), (6, .int q3.1)]) d171_286 rfl rfl ?_
  refine R_p d171_288 rfl rfl ?_
  obtain ⟨q5, e6, h⟩ := bd_some h
  refine R_cm [] d171_289 (List.mem_of_getElem? (i := 160) rfl) rfl ⟨by decide, by decide, Nat.le_of_ble_eq_true rfl, rfl, mcd113⟩ rfl rfl (Nat.le_of_ble_eq_true rfl) (hg42 _ _) rfl (t_f113 e6) ?_
  refine R_p d171_292 rfl rfl ?_
  rcases ite_some h with ⟨c7, h⟩ | ⟨c7, h⟩
  · skip
    refine R_br 299 d171_294 (mb_t (b := (q5 = q1.1)) c7) rfl ?_
    refine R_p d171_299 rfl rfl ?_
    rcases ite_some h with ⟨c8, h⟩ | ⟨c8, h⟩
    · skip
      refine R_br 323 d171_301 (mb_t (b := (¬ q1.1 = (0 : Int32))) c8) rfl ?_
      refine R_br 950 d171_323 rfl rfl ?_
      cases h
      refine R_p (ls' := [(0, .ref 0), (1, .ref 16), (2, .ref 42), (3, .ref 53), (4, .int (i + Int32.ofInt 5)), (5, .int q1.1), (6, .int q3.1)]) d171_950 rfl rfl ?_
      refine R_br 23 d171_953 rfl rfl ?_
      exact R_wk [(0, .ref 0), (1, .ref 16), (2, .ref 42), (3, .ref 53), (4, .int (i + Int32.ofInt 5))] (by simp) kk
    · skip
      refine R_nb d171_301 rfl (mb_f (b := (¬ q1.1 = (0 : Int32))) c8) ?_
      refine R_p d171_304 rfl rfl ?_
      refine R_ic (v := 0) d171_305 (by decide) ?_
      refine R_lld d171_306 (hg53 _ _) (vp_ok (by decide)) ?_
      refine R_p d171_307 rfl rfl ?_
      rcases ite_some h with ⟨c9, h⟩ | ⟨c9, h⟩
      · skip
        refine R_br 316 d171_309 (mb_t (b := (q3.1 = (0 : Int32))) c9) rfl ?_
        refine R_lc (v := 0) d171_316 (by decide) ?_
        refine R_p d171_317 rfl rfl ?_
        rcases ite_some h with ⟨c10, h⟩ | ⟨c10, h⟩
        · skip
          refine R_br 323 d171_318 (mb_t (b := ((lg_cmp (q3.2.2.1 53 (Int32.toNatClampNeg 0)) 0) = (0 : Int32))) (lgc_eq.mpr c10)) rfl ?_
          refine R_br 950 d171_323 rfl rfl ?_
          cases h
          refine R_p (ls' := [(0, .ref 0), (1, .ref 16), (2, .ref 42), (3, .ref 53), (4, .int (i + Int32.ofInt 5)), (5, .int q1.1), (6, .int q3.1)]) d171_950 rfl rfl ?_
          refine R_br 23 d171_953 rfl rfl ?_
          exact R_wk [(0, .ref 0), (1, .ref 16), (2, .ref 42), (3, .ref 53), (4, .int (i + Int32.ofInt 5))] (by simp) kk
        · skip
          refine R_nb d171_318 rfl (mb_f (b := ((lg_cmp (q3.2.2.1 53 (Int32.toNatClampNeg 0)) 0) = (0 : Int32))) (fun q => c10 (lgc_eq.mp q))) ?_
          refine R_ic (v := 0) d171_321 (by decide) ?_
          cases h
      · skip
        refine R_nb d171_309 rfl (mb_f (b := (q3.1 = (0 : Int32))) c9) ?_
        refine R_lc (v := 1) d171_312 (by decide) ?_
        refine R_br 317 d171_313 rfl rfl ?_
        refine R_p d171_317 rfl rfl ?_
        rcases ite_some h with ⟨c11, h⟩ | ⟨c11, h⟩
        · skip
          refine R_br 323 d171_318 (mb_t (b := ((lg_cmp (q3.2.2.1 53 (Int32.toNatClampNeg 0)) 1) = (0 : Int32))) (lgc_eq.mpr c11)) rfl ?_
          refine R_br 950 d171_323 rfl rfl ?_
          cases h
          refine R_p (ls' := [(0, .ref 0), (1, .ref 16), (2, .ref 42), (3, .ref 53), (4, .int (i + Int32.ofInt 5)), (5, .int q1.1), (6, .int q3.1)]) d171_950 rfl rfl ?_
          refine R_br 23 d171_953 rfl rfl ?_
          exact R_wk [(0, .ref 0), (1, .ref 16), (2, .ref 42), (3, .ref 53), (4, .int (i + Int32.ofInt 5))] (by simp) kk
        · skip
          refine R_nb d171_318 rfl (mb_f (b := ((lg_cmp (q3.2.2.1 53 (Int32.toNatClampNeg 0)) 1) = (0 : Int32))) (fun q => c11 (lgc_eq.mp q))) ?_
          refine R_ic (v := 0) d171_321 (by decide) ?_
          cases h
  · skip
    refine R_nb d171_294 rfl (mb_f (b := (q5 = q1.1)) c7) ?_
    refine R_ic (v := 0) d171_297 (by decide) ?_
    cases h
def g3 (k : Nat)  (s : mS) : Option (mS × mHp) :=
  (f92 k s).bind fun q1 => (f126 k q1.2).bind fun q3 => (if (q1.1 = q3.1) then
    some (q3.2, [])
  else
    none)
theorem t_g3 {N : Nat} {f : Nat → Int32} {ex : mHp} {r : mR} {i : Int32} {n : Nat} {k : Nat} {s : mS} {q : mS × mHp} (hi : i = nI n) (hn : n + 5 ≤ N) (hN : N ≤ 2560)  (h : g3 k s = some q) (kk : Run (N, f) 171 (23, [(0, .ref 0), (1, .ref 16), (2, .ref 42), (3, .ref 53), (4, .int (i + Int32.ofInt 5))], [], hp q.1 (ex ++ q.2)) r) : Run (N, f) 171 (326, [(0, .ref 0), (1, .ref 16), (2, .ref 42), (3, .ref 53), (4, .int i)], [], hp s ex) r := by
  unfold g3 at h
  refine R_p d171_326 rfl rfl ?_
  obtain ⟨q1, e2, h⟩ := bd_some h
  refine R_cm [] d171_327 (List.mem_of_getElem? (i := 10) rfl) rfl ⟨by decide, by decide, Nat.le_of_ble_eq_true rfl, rfl, mcd92⟩ rfl rfl (Nat.le_of_ble_eq_true rfl) (hg16 _ _) rfl (t_f92 e2) ?_
  refine R_p d171_330 rfl rfl ?_
  obtain ⟨q3, e4, h⟩ := bd_some h
  refine R_cm [] d171_331 (List.mem_of_getElem? (i := 173) rfl) rfl ⟨by decide, by decide, Nat.le_of_ble_eq_true rfl, rfl, mcd126⟩ rfl rfl (Nat.le_of_ble_eq_true rfl) (hg42 _ _) rfl (t_f126 e4) ?_
  rcases ite_some h with ⟨c5, h⟩ | ⟨c5, h⟩
  · skip
    refine R_br 950 d171_334 (mb_t (b := (q1.1 = q3.1)) c5) rfl ?_
    cases h
    rw [List.append_nil] at kk
    refine R_p (ls' := [(0, .ref 0), (1, .ref 16), (2, .ref 42), (3, .ref 53), (4, .int (i + Int32.ofInt 5))]) d171_950 rfl rfl ?_
    refine R_br 23 d171_953 rfl rfl ?_
    exact kk
  · skip
    refine R_nb d171_334 rfl (mb_f (b := (q1.1 = q3.1)) c5) ?_
    refine R_ic (v := 0) d171_337 (by decide) ?_
    cases h
def g4 (k : Nat) (x1 : Int32) (s : mS) : Option (mS × mHp) :=
  (f93 x1 s).bind fun q1 => (f127 k x1 s).bind fun q3 => (if (q1 = q3.1) then
    some (q3.2, [])
  else
    none)
theorem t_g4 {N : Nat} {f : Nat → Int32} {ex : mHp} {r : mR} {i : Int32} {n : Nat} {k : Nat} {x1 : Int32} {s : mS} {q : mS × mHp} (hi : i = nI n) (hn : n + 5 ≤ N) (hN : N ≤ 2560) (hx1 : f (n + 1) = x1) (h : g4 k x1 s = some q) (kk : Run (N, f) 171 (23, [(0, .ref 0), (1, .ref 16), (2, .ref 42), (3, .ref 53), (4, .int (i + Int32.ofInt 5))], [], hp q.1 (ex ++ q.2)) r) : Run (N, f) 171 (339, [(0, .ref 0), (1, .ref 16), (2, .ref 42), (3, .ref 53), (4, .int i)], [], hp s ex) r := by
  unfold g4 at h
  refine R_p d171_339 rfl rfl ?_
  refine R_p d171_340 rfl rfl ?_
  refine R_p d171_341 rfl rfl ?_
  refine R_ic (v := 1) d171_343 (by decide) ?_
  refine R_p d171_344 rfl rfl ?_
  refine R_sldk (n := n + 1) (x := x1) d171_345 (sl_in (m := 1) hi hn hN ⟨by decide, by decide⟩) (sl_at (m := 1) hi hn hN ⟨by decide, by decide⟩) hx1 ?_
  obtain ⟨q1, e2, h⟩ := bd_some h
  refine R_cm [.int x1] d171_346 (List.mem_of_getElem? (i := 16) rfl) rfl ⟨by decide, by decide, Nat.le_of_ble_eq_true rfl, rfl, mcd93⟩ rfl rfl (Nat.le_of_ble_eq_true rfl) (hg16 _ _) rfl (t_f93 e2) ?_
  refine R_p d171_349 rfl rfl ?_
  refine R_p d171_350 rfl rfl ?_
  refine R_p d171_351 rfl rfl ?_
  refine R_ic (v := 1) d171_353 (by decide) ?_
  refine R_p d171_354 rfl rfl ?_
  refine R_sldk (n := n + 1) (x := x1) d171_355 (sl_in (m := 1) hi hn hN ⟨by decide, by decide⟩) (sl_at (m := 1) hi hn hN ⟨by decide, by decide⟩) hx1 ?_
  obtain ⟨q3, e4, h⟩ := bd_some h
  refine R_cm [.int x1] d171_356 (List.mem_of_getElem? (i := 174) rfl) rfl ⟨by decide, by decide, Nat.le_of_ble_eq_true rfl, rfl, mcd127⟩ rfl rfl (Nat.le_of_ble_eq_true rfl) (hg42 _ _) rfl (t_f127 e4) ?_
  rcases ite_some h with ⟨c5, h⟩ | ⟨c5, h⟩
  · skip
    refine R_br 950 d171_359 (mb_t (b := (q1 = q3.1)) c5) rfl ?_
    cases h
    rw [List.append_nil] at kk
    refine R_p (ls' := [(0, .ref 0), (1, .ref 16), (2, .ref 42), (3, .ref 53), (4, .int (i + Int32.ofInt 5))]) d171_950 rfl rfl ?_
    refine R_br 23 d171_953 rfl rfl ?_
    exact kk
  · skip
    refine R_nb d171_359 rfl (mb_f (b := (q1 = q3.1)) c5) ?_
    refine R_ic (v := 0) d171_362 (by decide) ?_
    cases h
def g5 (k : Nat) (x1 : Int32) (x2 : Int32) (s : mS) : Option (mS × mHp) :=
  (o160 x1 x2 s).bind fun q1 => (f139 k x1 x2 q1.2.1).bind fun q3 => (f113 q3.2).bind fun q5 => (if (q5 = q1.1) then
    (if (¬ q1.1 = (0 : Int32)) then
      some (q3.2, q1.2.2)
    else
      (if ((q3.2.2.1 53 (Int32.toNatClampNeg 0)) = (Int32.toInt64 q3.1)) then
        some (q3.2, q1.2.2)
      else
        none))
  else
    none)
theorem t_g5 {N : Nat} {f : Nat → Int32} {ex : mHp} {r : mR} {i : Int32} {n : Nat} {k : Nat} {x1 : Int32} {x2 : Int32} {s : mS} {q : mS × mHp} (hi : i = nI n) (hn : n + 5 ≤ N) (hN : N ≤ 2560) (hx1 : f (n + 1) = x1) (hx2 : f (n + 2) = x2) (h : g5 k x1 x2 s = some q) (kk : Run (N, f) 171 (23, [(0, .ref 0), (1, .ref 16), (2, .ref 42), (3, .ref 53), (4, .int (i + Int32.ofInt 5))], [], hp q.1 (ex ++ q.2)) r) : Run (N, f) 171 (364, [(0, .ref 0), (1, .ref 16), (2, .ref 42), (3, .ref 53), (4, .int i)], [], hp s ex) r := by
  unfold g5 at h
  refine R_p d171_364 rfl rfl ?_
  refine R_p d171_365 rfl rfl ?_
  refine R_p d171_366 rfl rfl ?_
  refine R_ic (v := 1) d171_368 (by decide) ?_
  refine R_p d171_369 rfl rfl ?_
  refine R_sldk (n := n + 1) (x := x1) d171_370 (sl_in (m := 1) hi hn hN ⟨by decide, by decide⟩) (sl_at (m := 1) hi hn hN ⟨by decide, by decide⟩) hx1 ?_
  refine R_p d171_371 rfl rfl ?_
  refine R_p d171_372 rfl rfl ?_
  refine R_ic (v := 2) d171_374 (by decide) ?_
  refine R_p d171_375 rfl rfl ?_
  refine R_sldk (n := n + 2) (x := x2) d171_376 (sl_in (m := 2) hi hn hN ⟨by decide, by decide⟩) (sl_at (m := 2) hi hn hN ⟨by decide, by decide⟩) hx2 ?_
  refine R_p d171_377 rfl rfl ?_
  obtain ⟨q1, e2, h⟩ := bd_some h
  refine R_hs [.ref 16, .int x1, .int x2, .ref 53] d171_378 (List.mem_of_getElem? (i := 108) rfl) ⟨by decide, by decide, Nat.le_of_ble_eq_true rfl, mcd160⟩ rfl rfl (Nat.le_of_ble_eq_true rfl) (t_o160 e2) ?_
  refine R_p (ls' := [(0, .ref 0), (1, .ref 16), (2, .ref 42), (3, .ref 53), (4, .int i), (5, .int q1.1)]) d171_381 rfl rfl ?_
  refine R_p d171_383 rfl rfl ?_
  refine R_p d171_384 rfl rfl ?_
  refine R_p d171_385 rfl rfl ?_
  refine R_ic (v := 1) d171_387 (by decide) ?_
  refine R_p d171_388 rfl rfl ?_
  refine R_sldk (n := n + 1) (x := x1) d171_389 (sl_in (m := 1) hi hn hN ⟨by decide, by decide⟩) (sl_at (m := 1) hi hn hN ⟨by decide, by decide⟩) hx1 ?_
  refine R_p d171_390 rfl rfl ?_
  refine R_p d171_391 rfl rfl ?_
  refine R_ic (v := 2) d171_393 (by decide) ?_
  refine R_p d171_394 rfl rfl ?_
  refine R_sldk (n := n + 2) (x := x2) d171_395 (sl_in (m := 2) hi hn hN ⟨by decide, by decide⟩) (sl_at (m := 2) hi hn hN ⟨by decide, by decide⟩) hx2 ?_
  obtain ⟨q3, e4, h⟩ := bd_some h
  refine R_cm [.int x1, .int x2] d171_396 (List.mem_of_getElem? (i := 186) rfl) rfl ⟨by decide, by decide, Nat.le_of_ble_eq_true rfl, rfl, mcd139⟩ rfl rfl (Nat.le_of_ble_eq_true rfl) (hg42 _ _) rfl (t_f139 e4) ?_
  refine R_p (ls' := [(0, .ref 0), (1, .ref 16), (2, .ref 42), (3, .ref 53), (4, .int i), (5, .int q1.1), (6, .int q3.1)]) d171_399 rfl rfl ?_
  refine R_p d171_401 rfl rfl ?_
  obtain ⟨q5, e6, h⟩ := bd_some h
  refine R_cm [] d171_402 (List.mem_of_getElem? (i := 160) rfl) rfl ⟨by decide, by decide, Nat.le_of_ble_eq_true rfl, rfl, mcd113⟩ rfl rfl (Nat.le_of_ble_eq_true rfl) (hg42 _ _) rfl (t_f113 e6) ?_
  refine R_p d171_405 rfl rfl ?_
  rcases ite_some h with ⟨c7, h⟩ | ⟨c7, h⟩
  · skip
    refine R_br 412 d171_407 (mb_t (b := (q5 = q1.1)) c7) rfl ?_
    refine R_p d171_412 rfl rfl ?_
    rcases ite_some h with ⟨c8, h⟩ | ⟨c8, h⟩
    · skip
      refine R_br 429 d171_414 (mb_t (b := (¬ q1.1 = (0 : Int32))) c8) rfl ?_
      refine R_br 950 d171_429 rfl rfl ?_
      cases h
      refine R_p (ls' := [(0, .ref 0), (1, .ref 16), (2, .ref 42), (3, .ref 53), (4, .int (i + Int32.ofInt 5)), (5, .int q1.1), (6, .int q3.1)]) d171_950 rfl rfl ?_
      refine R_br 23 d171_953 rfl rfl ?_
      exact R_wk [(0, .ref 0), (1, .ref 16), (2, .ref 42), (3, .ref 53), (4, .int (i + Int32.ofInt 5))] (by simp) kk
    · skip
      refine R_nb d171_414 rfl (mb_f (b := (¬ q1.1 = (0 : Int32))) c8) ?_
      refine R_p d171_417 rfl rfl ?_
      refine R_ic (v := 0) d171_418 (by decide) ?_
      refine R_lld d171_419 (hg53 _ _) (vp_ok (by decide)) ?_
      refine R_p d171_420 rfl rfl ?_
      refine R_p d171_422 rfl rfl ?_
      refine R_p d171_423 rfl rfl ?_
      rcases ite_some h with ⟨c9, h⟩ | ⟨c9, h⟩
      · skip
        refine R_br 429 d171_424 (mb_t (b := ((lg_cmp (q3.2.2.1 53 (Int32.toNatClampNeg 0)) (Int32.toInt64 q3.1)) = (0 : Int32))) (lgc_eq.mpr c9)) rfl ?_
        refine R_br 950 d171_429 rfl rfl ?_
        cases h
        refine R_p (ls' := [(0, .ref 0), (1, .ref 16), (2, .ref 42), (3, .ref 53), (4, .int (i + Int32.ofInt 5)), (5, .int q1.1), (6, .int q3.1)]) d171_950 rfl rfl ?_
        refine R_br 23 d171_953 rfl rfl ?_
        exact R_wk [(0, .ref 0), (1, .ref 16), (2, .ref 42), (3, .ref 53), (4, .int (i + Int32.ofInt 5))] (by simp) kk
      · skip
        refine R_nb d171_424 rfl (mb_f (b := ((lg_cmp (q3.2.2.1 53 (Int32.toNatClampNeg 0)) (Int32.toInt64 q3.1)) = (0 : Int32))) (fun q => c9 (lgc_eq.mp q))) ?_
        refine R_ic (v := 0) d171_427 (by decide) ?_
        cases h
  · skip
    refine R_nb d171_407 rfl (mb_f (b := (q5 = q1.1)) c7) ?_
    refine R_ic (v := 0) d171_410 (by decide) ?_
    cases h
def g6 (k : Nat) (x1 : Int32) (x2 : Int32) (s : mS) : Option (mS × mHp) :=
  (o161 x1 x2 s).bind fun q1 => (f141 k x1 x2 q1.2.1).bind fun q3 => (f113 q3.2).bind fun q5 => (if (q5 = q1.1) then
    (if (¬ q1.1 = (0 : Int32)) then
      some (q3.2, q1.2.2)
    else
      (if ((q3.2.2.1 53 (Int32.toNatClampNeg 0)) = (Int32.toInt64 q3.1)) then
        some (q3.2, q1.2.2)
      else
        none))
  else
    none)
theorem t_g6 {N : Nat} {f : Nat → Int32} {ex : mHp} {r : mR} {i : Int32} {n : Nat} {k : Nat} {x1 : Int32} {x2 : Int32} {s : mS} {q : mS × mHp} (hi : i = nI n) (hn : n + 5 ≤ N) (hN : N ≤ 2560) (hx1 : f (n + 1) = x1) (hx2 : f (n + 2) = x2) (h : g6 k x1 x2 s = some q) (kk : Run (N, f) 171 (23, [(0, .ref 0), (1, .ref 16), (2, .ref 42), (3, .ref 53), (4, .int (i + Int32.ofInt 5))], [], hp q.1 (ex ++ q.2)) r) : Run (N, f) 171 (432, [(0, .ref 0), (1, .ref 16), (2, .ref 42), (3, .ref 53), (4, .int i)], [], hp s ex) r := by
  unfold g6 at h
  refine R_p d171_432 rfl rfl ?_
  refine R_p d171_433 rfl rfl ?_
  refine R_p d171_434 rfl rfl ?_
  refine R_ic (v := 1) d171_436 (by decide) ?_
  refine R_p d171_437 rfl rfl ?_
  refine R_sldk (n := n + 1) (x := x1) d171_438 (sl_in (m := 1) hi hn hN ⟨by decide, by decide⟩) (sl_at (m := 1) hi hn hN ⟨by decide, by decide⟩) hx1 ?_
  refine R_p d171_439 rfl rfl ?_
  refine R_p d171_440 rfl rfl ?_
  refine R_ic (v := 2) d171_442 (by decide) ?_
  refine R_p d171_443 rfl rfl ?_
  refine R_sldk (n := n + 2) (x := x2) d171_444 (sl_in (m := 2) hi hn hN ⟨by decide, by decide⟩) (sl_at (m := 2) hi hn hN ⟨by decide, by decide⟩) hx2 ?_
  refine R_p d171_445 rfl rfl ?_
  obtain ⟨q1, e2, h⟩ := bd_some h
  refine R_hs [.ref 16, .int x1, .int x2, .ref 53] d171_446 (List.mem_of_getElem? (i := 112) rfl) ⟨by decide, by decide, Nat.le_of_ble_eq_true rfl, mcd161⟩ rfl rfl (Nat.le_of_ble_eq_true rfl) (t_o161 e2) ?_
  refine R_p (ls' := [(0, .ref 0), (1, .ref 16), (2, .ref 42), (3, .ref 53), (4, .int i), (5, .int q1.1)]) d171_449 rfl rfl ?_
  refine R_p d171_451 rfl rfl ?_
  refine R_p d171_452 rfl rfl ?_
  refine R_p d171_453 rfl rfl ?_
  refine R_ic (v := 1) d171_455 (by decide) ?_
  refine R_p d171_456 rfl rfl ?_
  refine R_sldk (n := n + 1) (x := x1) d171_457 (sl_in (m := 1) hi hn hN ⟨by decide, by decide⟩) (sl_at (m := 1) hi hn hN ⟨by decide, by decide⟩) hx1 ?_
  refine R_p d171_458 rfl rfl ?_
  refine R_p d171_459 rfl rfl ?_
  refine R_ic (v := 2) d171_461 (by decide) ?_
  refine R_p d171_462 rfl rfl ?_
  refine R_sldk (n := n + 2) (x := x2) d171_463 (sl_in (m := 2) hi hn hN ⟨by decide, by decide⟩) (sl_at (m := 2) hi hn hN ⟨by decide, by decide⟩) hx2 ?_
  obtain ⟨q3, e4, h⟩ := bd_some h
  refine R_cm [.int x1, .int x2] d171_464 (List.mem_of_getElem? (i := 188) rfl) rfl ⟨by decide, by decide, Nat.le_of_ble_eq_true rfl, rfl, mcd141⟩ rfl rfl (Nat.le_of_ble_eq_true rfl) (hg42 _ _) rfl (t_f141 e4) ?_
  refine R_p (ls' := [(0, .ref 0), (1, .ref 16), (2, .ref 42), (3, .ref 53), (4, .int i), (5, .int q1.1), (6, .int q3.1)]) d171_467 rfl rfl ?_
  refine R_p d171_469 rfl rfl ?_
  obtain ⟨q5, e6, h⟩ := bd_some h
  refine R_cm [] d171_470 (List.mem_of_getElem? (i := 160) rfl) rfl ⟨by decide, by decide, Nat.le_of_ble_eq_true rfl, rfl, mcd113⟩ rfl rfl (Nat.le_of_ble_eq_true rfl) (hg42 _ _) rfl (t_f113 e6) ?_
  refine R_p d171_473 rfl rfl ?_
  rcases ite_some h with ⟨c7, h⟩ | ⟨c7, h⟩
  · skip
    refine R_br 480 d171_475 (mb_t (b := (q5 = q1.1)) c7) rfl ?_
    refine R_p d171_480 rfl rfl ?_
    rcases ite_some h with ⟨c8, h⟩ | ⟨c8, h⟩
    · skip
      refine R_br 497 d171_482 (mb_t (b := (¬ q1.1 = (0 : Int32))) c8) rfl ?_
      refine R_br 950 d171_497 rfl rfl ?_
      cases h
      refine R_p (ls' := [(0, .ref 0), (1, .ref 16), (2, .ref 42), (3, .ref 53), (4, .int (i + Int32.ofInt 5)), (5, .int q1.1), (6, .int q3.1)]) d171_950 rfl rfl ?_
      refine R_br 23 d171_953 rfl rfl ?_
      exact R_wk [(0, .ref 0), (1, .ref 16), (2, .ref 42), (3, .ref 53), (4, .int (i + Int32.ofInt 5))] (by simp) kk
    · skip
      refine R_nb d171_482 rfl (mb_f (b := (¬ q1.1 = (0 : Int32))) c8) ?_
      refine R_p d171_485 rfl rfl ?_
      refine R_ic (v := 0) d171_486 (by decide) ?_
      refine R_lld d171_487 (hg53 _ _) (vp_ok (by decide)) ?_
      refine R_p d171_488 rfl rfl ?_
      refine R_p d171_490 rfl rfl ?_
      refine R_p d171_491 rfl rfl ?_
      rcases ite_some h with ⟨c9, h⟩ | ⟨c9, h⟩
      · skip
        refine R_br 497 d171_492 (mb_t (b := ((lg_cmp (q3.2.2.1 53 (Int32.toNatClampNeg 0)) (Int32.toInt64 q3.1)) = (0 : Int32))) (lgc_eq.mpr c9)) rfl ?_
        refine R_br 950 d171_497 rfl rfl ?_
        cases h
        refine R_p (ls' := [(0, .ref 0), (1, .ref 16), (2, .ref 42), (3, .ref 53), (4, .int (i + Int32.ofInt 5)), (5, .int q1.1), (6, .int q3.1)]) d171_950 rfl rfl ?_
        refine R_br 23 d171_953 rfl rfl ?_
        exact R_wk [(0, .ref 0), (1, .ref 16), (2, .ref 42), (3, .ref 53), (4, .int (i + Int32.ofInt 5))] (by simp) kk
      · skip
        refine R_nb d171_492 rfl (mb_f (b := ((lg_cmp (q3.2.2.1 53 (Int32.toNatClampNeg 0)) (Int32.toInt64 q3.1)) = (0 : Int32))) (fun q => c9 (lgc_eq.mp q))) ?_
        refine R_ic (v := 0) d171_495 (by decide) ?_
        cases h
  · skip
    refine R_nb d171_475 rfl (mb_f (b := (q5 = q1.1)) c7) ?_
    refine R_ic (v := 0) d171_478 (by decide) ?_
    cases h
def g7 (k : Nat) (x1 : Int32) (x2 : Int32) (s : mS) : Option (mS × mHp) :=
  (o162 x1 x2 s).bind fun q1 => (f142 k x1 x2 q1.2.1).bind fun q3 => (f113 q3.2).bind fun q5 => (if (q5 = q1.1) then
    (if (¬ q1.1 = (0 : Int32)) then
      some (q3.2, q1.2.2)
    else
      (if ((q3.2.2.1 53 (Int32.toNatClampNeg 0)) = (Int32.toInt64 q3.1)) then
        some (q3.2, q1.2.2)
      else
        none))
  else
    none)
theorem t_g7 {N : Nat} {f : Nat → Int32} {ex : mHp} {r : mR} {i : Int32} {n : Nat} {k : Nat} {x1 : Int32} {x2 : Int32} {s : mS} {q : mS × mHp} (hi : i = nI n) (hn : n + 5 ≤ N) (hN : N ≤ 2560) (hx1 : f (n + 1) = x1) (hx2 : f (n + 2) = x2) (h : g7 k x1 x2 s = some q) (kk : Run (N, f) 171 (23, [(0, .ref 0), (1, .ref 16), (2, .ref 42), (3, .ref 53), (4, .int (i + Int32.ofInt 5))], [], hp q.1 (ex ++ q.2)) r) : Run (N, f) 171 (500, [(0, .ref 0), (1, .ref 16), (2, .ref 42), (3, .ref 53), (4, .int i)], [], hp s ex) r := by
  unfold g7 at h
  refine R_p d171_500 rfl rfl ?_
  refine R_p d171_501 rfl rfl ?_
  refine R_p d171_502 rfl rfl ?_
  refine R_ic (v := 1) d171_504 (by decide) ?_
  refine R_p d171_505 rfl rfl ?_
  refine R_sldk (n := n + 1) (x := x1) d171_506 (sl_in (m := 1) hi hn hN ⟨by decide, by decide⟩) (sl_at (m := 1) hi hn hN ⟨by decide, by decide⟩) hx1 ?_
  refine R_p d171_507 rfl rfl ?_
  refine R_p d171_508 rfl rfl ?_
  refine R_ic (v := 2) d171_510 (by decide) ?_
  refine R_p d171_511 rfl rfl ?_
  refine R_sldk (n := n + 2) (x := x2) d171_512 (sl_in (m := 2) hi hn hN ⟨by decide, by decide⟩) (sl_at (m := 2) hi hn hN ⟨by decide, by decide⟩) hx2 ?_
  refine R_p d171_513 rfl rfl ?_
  obtain ⟨q1, e2, h⟩ := bd_some h
  refine R_hs [.ref 16, .int x1, .int x2, .ref 53] d171_514 (List.mem_of_getElem? (i := 115) rfl) ⟨by decide, by decide, Nat.le_of_ble_eq_true rfl, mcd162⟩ rfl rfl (Nat.le_of_ble_eq_true rfl) (t_o162 e2) ?_
  refine R_p (ls' := [(0, .ref 0), (1, .ref 16), (2, .ref 42), (3, .ref 53), (4, .int i), (5, .int q1.1)]) d171_517 rfl rfl ?_
  refine R_p d171_519 rfl rfl ?_
  refine R_p d171_520 rfl rfl ?_
  refine R_p d171_521 rfl rfl ?_
  refine R_ic (v := 1) d171_523 (by decide) ?_
  refine R_p d171_524 rfl rfl ?_
  refine R_sldk (n := n + 1) (x := x1) d171_525 (sl_in (m := 1) hi hn hN ⟨by decide, by decide⟩) (sl_at (m := 1) hi hn hN ⟨by decide, by decide⟩) hx1 ?_
  refine R_p d171_526 rfl rfl ?_
  refine R_p d171_527 rfl rfl ?_
  refine R_ic (v := 2) d171_529 (by decide) ?_
  refine R_p d171_530 rfl rfl ?_
  refine R_sldk (n := n + 2) (x := x2) d171_531 (sl_in (m := 2) hi hn hN ⟨by decide, by decide⟩) (sl_at (m := 2) hi hn hN ⟨by decide, by decide⟩) hx2 ?_
  obtain ⟨q3, e4, h⟩ := bd_some h
  refine R_cm [.int x1, .int x2] d171_532 (List.mem_of_getElem? (i := 189) rfl) rfl ⟨by decide, by decide, Nat.le_of_ble_eq_true rfl, rfl, mcd142⟩ rfl rfl (Nat.le_of_ble_eq_true rfl) (hg42 _ _) rfl (t_f142 e4) ?_
  refine R_p (ls' := [(0, .ref 0), (1, .ref 16), (2, .ref 42), (3, .ref 53), (4, .int i), (5, .int q1.1), (6, .int q3.1)]) d171_535 rfl rfl ?_
  refine R_p d171_537 rfl rfl ?_
  obtain ⟨q5, e6, h⟩ := bd_some h
  refine R_cm [] d171_538 (List.mem_of_getElem? (i := 160) rfl) rfl ⟨by decide, by decide, Nat.le_of_ble_eq_true rfl, rfl, mcd113⟩ rfl rfl (Nat.le_of_ble_eq_true rfl) (hg42 _ _) rfl (t_f113 e6) ?_
  refine R_p d171_541 rfl rfl ?_
  rcases ite_some h with ⟨c7, h⟩ | ⟨c7, h⟩
  · skip
    refine R_br 548 d171_543 (mb_t (b := (q5 = q1.1)) c7) rfl ?_
    refine R_p d171_548 rfl rfl ?_
    rcases ite_some h with ⟨c8, h⟩ | ⟨c8, h⟩
    · skip
      refine R_br 565 d171_550 (mb_t (b := (¬ q1.1 = (0 : Int32))) c8) rfl ?_
      refine R_br 950 d171_565 rfl rfl ?_
      cases h
      refine R_p (ls' := [(0, .ref 0), (1, .ref 16), (2, .ref 42), (3, .ref 53), (4, .int (i + Int32.ofInt 5)), (5, .int q1.1), (6, .int q3.1)]) d171_950 rfl rfl ?_
      refine R_br 23 d171_953 rfl rfl ?_
      exact R_wk [(0, .ref 0), (1, .ref 16), (2, .ref 42), (3, .ref 53), (4, .int (i + Int32.ofInt 5))] (by simp) kk
    · skip
      refine R_nb d171_550 rfl (mb_f (b := (¬ q1.1 = (0 : Int32))) c8) ?_
      refine R_p d171_553 rfl rfl ?_
      refine R_ic (v := 0) d171_554 (by decide) ?_
      refine R_lld d171_555 (hg53 _ _) (vp_ok (by decide)) ?_
      refine R_p d171_556 rfl rfl ?_
      refine R_p d171_558 rfl rfl ?_
      refine R_p d171_559 rfl rfl ?_
      rcases ite_some h with ⟨c9, h⟩ | ⟨c9, h⟩
      · skip
        refine R_br 565 d171_560 (mb_t (b := ((lg_cmp (q3.2.2.1 53 (Int32.toNatClampNeg 0)) (Int32.toInt64 q3.1)) = (0 : Int32))) (lgc_eq.mpr c9)) rfl ?_
        refine R_br 950 d171_565 rfl rfl ?_
        cases h
        refine R_p (ls' := [(0, .ref 0), (1, .ref 16), (2, .ref 42), (3, .ref 53), (4, .int (i + Int32.ofInt 5)), (5, .int q1.1), (6, .int q3.1)]) d171_950 rfl rfl ?_
        refine R_br 23 d171_953 rfl rfl ?_
        exact R_wk [(0, .ref 0), (1, .ref 16), (2, .ref 42), (3, .ref 53), (4, .int (i + Int32.ofInt 5))] (by simp) kk
      · skip
        refine R_nb d171_560 rfl (mb_f (b := ((lg_cmp (q3.2.2.1 53 (Int32.toNatClampNeg 0)) (Int32.toInt64 q3.1)) = (0 : Int32))) (fun q => c9 (lgc_eq.mp q))) ?_
        refine R_ic (v := 0) d171_563 (by decide) ?_
        cases h
  · skip
    refine R_nb d171_543 rfl (mb_f (b := (q5 = q1.1)) c7) ?_
    refine R_ic (v := 0) d171_546 (by decide) ?_
    cases h
def g8 (x1 : Int32) (x2 : Int32) (x3 : Int32) (s : mS) : Option (mS × mHp) :=
  (o163 x1 x2 x3 s).bind fun q1 => (f143 x1 x2 x3 q1.2.1).bind fun q3 => (f113 q3.2).bind fun q5 => (if (q5 = q1.1) then
    (if (¬ q1.1 = (0 : Int32)) then
      some (q3.2, q1.2.2)
    else
      (if ((q3.2.2.1 53 (Int32.toNatClampNeg 0)) = (Int32.toInt64 q3.1)) then
        some (q3.2, q1.2.2)
      else
        none))
  else
    none)
theorem t_g8 {N : Nat} {f : Nat → Int32} {ex : mHp} {r : mR} {i : Int32} {n : Nat} {x1 : Int32} {x2 : Int32} {x3 : Int32} {s : mS} {q : mS × mHp} (hi : i = nI n) (hn : n + 5 ≤ N) (hN : N ≤ 2560) (hx1 : f (n + 1) = x1) (hx2 : f (n + 2) = x2) (hx3 : f (n + 3) = x3) (h : g8 x1 x2 x3 s = some q) (kk : Run (N, f) 171 (23, [(0, .ref 0), (1, .ref 16), (2, .ref 42), (3, .ref 53), (4, .int (i + Int32.ofInt 5))], [], hp q.1 (ex ++ q.2)) r) : Run (N, f) 171 (568, [(0, .ref 0), (1, .ref 16), (2, .ref 42), (3, .ref 53), (4, .int i)], [], hp s ex) r := by
  unfold g8 at h
  refine R_p d171_568 rfl rfl ?_
  refine R_p d171_569 rfl rfl ?_
  refine R_p d171_570 rfl rfl ?_
  refine R_ic (v := 1) d171_572 (by decide) ?_
  refine R_p d171_573 rfl rfl ?_
  refine R_sldk (n := n + 1) (x := x1) d171_574 (sl_in (m := 1) hi hn hN ⟨by decide, by decide⟩) (sl_at (m := 1) hi hn hN ⟨by decide, by decide⟩) hx1 ?_
  refine R_p d171_575 rfl rfl ?_
  refine R_p d171_576 rfl rfl ?_
  refine R_ic (v := 2) d171_578 (by decide) ?_
  refine R_p d171_579 rfl rfl ?_
  refine R_sldk (n := n + 2) (x := x2) d171_580 (sl_in (m := 2) hi hn hN ⟨by decide, by decide⟩) (sl_at (m := 2) hi hn hN ⟨by decide, by decide⟩) hx2 ?_
  refine R_p d171_581 rfl rfl ?_
  refine R_p d171_582 rfl rfl ?_
  refine R_ic (v := 3) d171_584 (by decide) ?_
  refine R_p d171_585 rfl rfl ?_
  refine R_sldk (n := n + 3) (x := x3) d171_586 (sl_in (m := 3) hi hn hN ⟨by decide, by decide⟩) (sl_at (m := 3) hi hn hN ⟨by decide, by decide⟩) hx3 ?_
  refine R_p d171_587 rfl rfl ?_
  obtain ⟨q1, e2, h⟩ := bd_some h
  refine R_hs [.ref 16, .int x1, .int x2, .int x3, .ref 53] d171_588 (List.mem_of_getElem? (i := 118) rfl) ⟨by decide, by decide, Nat.le_of_ble_eq_true rfl, mcd163⟩ rfl rfl (Nat.le_of_ble_eq_true rfl) (t_o163 e2) ?_
  refine R_p (ls' := [(0, .ref 0), (1, .ref 16), (2, .ref 42), (3, .ref 53), (4, .int i), (5, .int q1.1)]) d171_591 rfl rfl ?_
  refine R_p d171_593 rfl rfl ?_
  refine R_p d171_594 rfl rfl ?_
  refine R_p d171_595 rfl rfl ?_
  refine R_ic (v := 1) d171_597 (by decide) ?_
  refine R_p d171_598 rfl rfl ?_
  refine R_sldk (n := n + 1) (x := x1) d171_599 (sl_in (m := 1) hi hn hN ⟨by decide, by decide⟩) (sl_at (m := 1) hi hn hN ⟨by decide, by decide⟩) hx1 ?_
  refine R_p d171_600 rfl rfl ?_
  refine R_p d171_601 rfl rfl ?_
  refine R_ic (v := 2) d171_603 (by decide) ?_
  refine R_p d171_604 rfl rfl ?_
  refine R_sldk (n := n + 2) (x := x2) d171_605 (sl_in (m := 2) hi hn hN ⟨by decide, by decide⟩) (sl_at (m := 2) hi hn hN ⟨by decide, by decide⟩) hx2 ?_
  refine R_p d171_606 rfl rfl ?_
  refine R_p d171_607 rfl rfl ?_
  refine R_ic (v := 3) d171_609 (by decide) ?_
  refine R_p d171_610 rfl rfl ?_
  refine R_sldk (n := n + 3) (x := x3) d171_611 (sl_in (m := 3) hi hn hN ⟨by decide, by decide⟩) (sl_at (m := 3) hi hn hN ⟨by decide, by decide⟩) hx3 ?_
  obtain ⟨q3, e4, h⟩ := bd_some h
  refine R_cm [.int x1, .int x2, .int x3] d171_612 (List.mem_of_getElem? (i := 190) rfl) rfl ⟨by decide, by decide, Nat.le_of_ble_eq_true rfl, rfl, mcd143⟩ rfl rfl (Nat.le_of_ble_eq_true rfl) (hg42 _ _) rfl (t_f143 e4) ?_
  refine R_p (ls' := [(0, .ref 0), (1, .ref 16), (2, .ref 42), (3, .ref 53), (4, .int i), (5, .int q1.1), (6, .int q3.1)]) d171_615 rfl rfl ?_
  refine R_p d171_617 rfl rfl ?_
  obtain ⟨q5, e6, h⟩ := bd_some h
  refine R_cm [] d171_618 (List.mem_of_getElem? (i := 160) rfl) rfl ⟨by decide, by decide, Nat.le_of_ble_eq_true rfl, rfl, mcd113⟩ rfl rfl (Nat.le_of_ble_eq_true rfl) (hg42 _ _) rfl (t_f113 e6) ?_
  refine R_p d171_621 rfl rfl ?_
  rcases ite_some h with ⟨c7, h⟩ | ⟨c7, h⟩
  · skip
    refine R_br 628 d171_623 (mb_t (b := (q5 = q1.1)) c7) rfl ?_
    refine R_p d171_628 rfl rfl ?_
    rcases ite_some h with ⟨c8, h⟩ | ⟨c8, h⟩
    · skip
      refine R_br 645 d171_630 (mb_t (b := (¬ q1.1 = (0 : Int32))) c8) rfl ?_
      refine R_br 950 d171_645 rfl rfl ?_
      cases h
      refine R_p (ls' := [(0, .ref 0), (1, .ref 16), (2, .ref 42), (3, .ref 53), (4, .int (i + Int32.ofInt 5)), (5, .int q1.1), (6, .int q3.1)]) d171_950 rfl rfl ?_
      refine R_br 23 d171_953 rfl rfl ?_
      exact R_wk [(0, .ref 0), (1, .ref 16), (2, .ref 42), (3, .ref 53), (4, .int (i + Int32.ofInt 5))] (by simp) kk
    · skip
      refine R_nb d171_630 rfl (mb_f (b := (¬ q1.1 = (0 : Int32))) c8) ?_
      refine R_p d171_633 rfl rfl ?_
      refine R_ic (v := 0) d171_634 (by decide) ?_
      refine R_lld d171_635 (hg53 _ _) (vp_ok (by decide)) ?_
      refine R_p d171_636 rfl rfl ?_
      refine R_p d171_638 rfl rfl ?_
      refine R_p d171_639 rfl rfl ?_
      rcases ite_some h with ⟨c9, h⟩ | ⟨c9, h⟩
      · skip
        refine R_br 645 d171_640 (mb_t (b := ((lg_cmp (q3.2.2.1 53 (Int32.toNatClampNeg 0)) (Int32.toInt64 q3.1)) = (0 : Int32))) (lgc_eq.mpr c9)) rfl ?_
        refine R_br 950 d171_645 rfl rfl ?_
        cases h
        refine R_p (ls' := [(0, .ref 0), (1, .ref 16), (2, .ref 42), (3, .ref 53), (4, .int (i + Int32.ofInt 5)), (5, .int q1.1), (6, .int q3.1)]) d171_950 rfl rfl ?_
        refine R_br 23 d171_953 rfl rfl ?_
        exact R_wk [(0, .ref 0), (1, .ref 16), (2, .ref 42), (3, .ref 53), (4, .int (i + Int32.ofInt 5))] (by simp) kk
      · skip
        refine R_nb d171_640 rfl (mb_f (b := ((lg_cmp (q3.2.2.1 53 (Int32.toNatClampNeg 0)) (Int32.toInt64 q3.1)) = (0 : Int32))) (fun q => c9 (lgc_eq.mp q))) ?_
        refine R_ic (v := 0) d171_643 (by decide) ?_
        cases h
  · skip
    refine R_nb d171_623 rfl (mb_f (b := (q5 = q1.1)) c7) ?_
    refine R_ic (v := 0) d171_626 (by decide) ?_
    cases h
def g9 (x1 : Int32) (x2 : Int32) (x3 : Int32) (x4 : Int32) (s : mS) : Option (mS × mHp) :=
  (o164 x1 x2 x3 x4 s).bind fun q1 => (f144 x1 x2 x3 x4 q1.2.1).bind fun q3 => (f113 q3.2).bind fun q5 => (if (q5 = q1.1) then
    (if (¬ q1.1 = (0 : Int32)) then
      some (q3.2, q1.2.2)
    else
      (if ((q3.2.2.1 53 (Int32.toNatClampNeg 0)) = (Int32.toInt64 q3.1)) then
        some (q3.2, q1.2.2)
      else
        none))
  else
    none)
theorem t_g9 {N : Nat} {f : Nat → Int32} {ex : mHp} {r : mR} {i : Int32} {n : Nat} {x1 : Int32} {x2 : Int32} {x3 : Int32} {x4 : Int32} {s : mS} {q : mS × mHp} (hi : i = nI n) (hn : n + 5 ≤ N) (hN : N ≤ 2560) (hx1 : f (n + 1) = x1) (hx2 : f (n + 2) = x2) (hx3 : f (n + 3) = x3) (hx4 : f (n + 4) = x4) (h : g9 x1 x2 x3 x4 s = some q) (kk : Run (N, f) 171 (23, [(0, .ref 0), (1, .ref 16), (2, .ref 42), (3, .ref 53), (4, .int (i + Int32.ofInt 5))], [], hp q.1 (ex ++ q.2)) r) : Run (N, f) 171 (648, [(0, .ref 0), (1, .ref 16), (2, .ref 42), (3, .ref 53), (4, .int i)], [], hp s ex) r := by
  unfold g9 at h
  refine R_p d171_648 rfl rfl ?_
  refine R_p d171_649 rfl rfl ?_
  refine R_p d171_650 rfl rfl ?_
  refine R_ic (v := 1) d171_652 (by decide) ?_
  refine R_p d171_653 rfl rfl ?_
  refine R_sldk (n := n + 1) (x := x1) d171_654 (sl_in (m := 1) hi hn hN ⟨by decide, by decide⟩) (sl_at (m := 1) hi hn hN ⟨by decide, by decide⟩) hx1 ?_
  refine R_p d171_655 rfl rfl ?_
  refine R_p d171_656 rfl rfl ?_
  refine R_ic (v := 2) d171_658 (by decide) ?_
  refine R_p d171_659 rfl rfl ?_
  refine R_sldk (n := n + 2) (x := x2) d171_660 (sl_in (m := 2) hi hn hN ⟨by decide, by decide⟩) (sl_at (m := 2) hi hn hN ⟨by decide, by decide⟩) hx2 ?_
  refine R_p d171_661 rfl rfl ?_
  refine R_p d171_662 rfl rfl ?_
  refine R_ic (v := 3) d171_664 (by decide) ?_
  refine R_p d171_665 rfl rfl ?_
  refine R_sldk (n := n + 3) (x := x3) d171_666 (sl_in (m := 3) hi hn hN ⟨by decide, by decide⟩) (sl_at (m := 3) hi hn hN ⟨by decide, by decide⟩) hx3 ?_
  refine R_p d171_667 rfl rfl ?_
  refine R_p d171_668 rfl rfl ?_
  refine R_ic (v := 4) d171_670 (by decide) ?_
  refine R_p d171_671 rfl rfl ?_
  refine R_sldk (n := n + 4) (x := x4) d171_672 (sl_in (m := 4) hi hn hN ⟨by decide, by decide⟩) (sl_at (m := 4) hi hn hN ⟨by decide, by decide⟩) hx4 ?_
  refine R_p d171_673 rfl rfl ?_
  obtain ⟨q1, e2, h⟩ := bd_some h
  refine R_hs [.ref 16, .int x1, .int x2, .int x3, .int x4, .ref 53] d171_674 (List.mem_of_getElem? (i := 121) rfl) ⟨by decide, by decide, Nat.le_of_ble_eq_true rfl, mcd164⟩ rfl rfl (Nat.le_of_ble_eq_true rfl) (t_o164 e2) ?_
  refine R_p (ls' := [(0, .ref 0), (1, .ref 16), (2, .ref 42), (3, .ref 53), (4, .int i), (5, .int q1.1)]) d171_677 rfl rfl ?_
  refine R_p d171_679 rfl rfl ?_
  refine R_p d171_680 rfl rfl ?_
  refine R_p d171_681 rfl rfl ?_
  refine R_ic (v := 1) d171_683 (by decide) ?_
  refine R_p d171_684 rfl rfl ?_
  refine R_sldk (n := n + 1) (x := x1) d171_685 (sl_in (m := 1) hi hn hN ⟨by decide, by decide⟩) (sl_at (m := 1) hi hn hN ⟨by decide, by decide⟩) hx1 ?_
  refine R_p d171_686 rfl rfl ?_
  refine R_p d171_687 rfl rfl ?_
  refine R_ic (v := 2) d171_689 (by decide) ?_
  refine R_p d171_690 rfl rfl ?_
  refine R_sldk (n := n + 2) (x := x2) d171_691 (sl_in (m := 2) hi hn hN ⟨by decide, by decide⟩) (sl_at (m := 2) hi hn hN ⟨by decide, by decide⟩) hx2 ?_
  refine R_p d171_692 rfl rfl ?_
  refine R_p d171_693 rfl rfl ?_
  refine R_ic (v := 3) d171_695 (by decide) ?_
  refine R_p d171_696 rfl rfl ?_
  refine R_sldk (n := n + 3) (x := x3) d171_697 (sl_in (m := 3) hi hn hN ⟨by decide, by decide⟩) (sl_at (m := 3) hi hn hN ⟨by decide, by decide⟩) hx3 ?_
  refine R_p d171_698 rfl rfl ?_
  refine R_p d171_699 rfl rfl ?_
  refine R_ic (v := 4) d171_701 (by decide) ?_
  refine R_p d171_702 rfl rfl ?_
  refine R_sldk (n := n + 4) (x := x4) d171_703 (sl_in (m := 4) hi hn hN ⟨by decide, by decide⟩) (sl_at (m := 4) hi hn hN ⟨by decide, by decide⟩) hx4 ?_
  obtain ⟨q3, e4, h⟩ := bd_some h
  refine R_cm [.int x1, .int x2, .int x3, .int x4] d171_704 (List.mem_of_getElem? (i := 191) rfl) rfl ⟨by decide, by decide, Nat.le_of_ble_eq_true rfl, rfl, mcd144⟩ rfl rfl (Nat.le_of_ble_eq_true rfl) (hg42 _ _) rfl (t_f144 e4) ?_
  refine R_p (ls' := [(0, .ref 0), (1, .ref 16), (2, .ref 42), (3, .ref 53), (4, .int i), (5, .int q1.1), (6, .int q3.1)]) d171_707 rfl rfl ?_
  refine R_p d171_709 rfl rfl ?_
  obtain ⟨q5, e6, h⟩ := bd_some h
  refine R_cm [] d171_710 (List.mem_of_getElem? (i := 160) rfl) rfl ⟨by decide, by decide, Nat.le_of_ble_eq_true rfl, rfl, mcd113⟩ rfl rfl (Nat.le_of_ble_eq_true rfl) (hg42 _ _) rfl (t_f113 e6) ?_
  refine R_p d171_713 rfl rfl ?_
  rcases ite_some h with ⟨c7, h⟩ | ⟨c7, h⟩
  · skip
    refine R_br 720 d171_715 (mb_t (b := (q5 = q1.1)) c7) rfl ?_
    refine R_p d171_720 rfl rfl ?_
    rcases ite_some h with ⟨c8, h⟩ | ⟨c8, h⟩
    · skip
      refine R_br 737 d171_722 (mb_t (b := (¬ q1.1 = (0 : Int32))) c8) rfl ?_
      refine R_br 950 d171_737 rfl rfl ?_
      cases h
      refine R_p (ls' := [(0, .ref 0), (1, .ref 16), (2, .ref 42), (3, .ref 53), (4, .int (i + Int32.ofInt 5)), (5, .int q1.1), (6, .int q3.1)]) d171_950 rfl rfl ?_
      refine R_br 23 d171_953 rfl rfl ?_
      exact R_wk [(0, .ref 0), (1, .ref 16), (2, .ref 42), (3, .ref 53), (4, .int (i + Int32.ofInt 5))] (by simp) kk
    · skip
      refine R_nb d171_722 rfl (mb_f (b := (¬ q1.1 = (0 : Int32))) c8) ?_
      refine R_p d171_725 rfl rfl ?_
      refine R_ic (v := 0) d171_726 (by decide) ?_
      refine R_lld d171_727 (hg53 _ _) (vp_ok (by decide)) ?_
      refine R_p d171_728 rfl rfl ?_
      refine R_p d171_730 rfl rfl ?_
      refine R_p d171_731 rfl rfl ?_
      rcases ite_some h with ⟨c9, h⟩ | ⟨c9, h⟩
      · skip
        refine R_br 737 d171_732 (mb_t (b := ((lg_cmp (q3.2.2.1 53 (Int32.toNatClampNeg 0)) (Int32.toInt64 q3.1)) = (0 : Int32))) (lgc_eq.mpr c9)) rfl ?_
        refine R_br 950 d171_737 rfl rfl ?_
        cases h
        refine R_p (ls' := [(0, .ref 0), (1, .ref 16), (2, .ref 42), (3, .ref 53), (4, .int (i + Int32.ofInt 5)), (5, .int q1.1), (6, .int q3.1)]) d171_950 rfl rfl ?_
        refine R_br 23 d171_953 rfl rfl ?_
        exact R_wk [(0, .ref 0), (1, .ref 16), (2, .ref 42), (3, .ref 53), (4, .int (i + Int32.ofInt 5))] (by simp) kk
      · skip
        refine R_nb d171_732 rfl (mb_f (b := ((lg_cmp (q3.2.2.1 53 (Int32.toNatClampNeg 0)) (Int32.toInt64 q3.1)) = (0 : Int32))) (fun q => c9 (lgc_eq.mp q))) ?_
        refine R_ic (v := 0) d171_735 (by decide) ?_
        cases h
  · skip
    refine R_nb d171_715 rfl (mb_f (b := (q5 = q1.1)) c7) ?_
    refine R_ic (v := 0) d171_718 (by decide) ?_
    cases h
def g10 (k : Nat) (x1 : Int32) (x2 : Int32) (s : mS) : Option (mS × mHp) :=
  (o165 k x1 x2 s).bind fun q1 => (f145 k x1 x2 q1.2.1).bind fun q3 => (f113 q3.2).bind fun q5 => (if (q5 = q1.1) then
    (if (¬ q1.1 = (0 : Int32)) then
      some (q3.2, q1.2.2)
    else
      (if ((q3.2.2.1 53 (Int32.toNatClampNeg 0)) = (Int32.toInt64 q3.1)) then
        some (q3.2, q1.2.2)
      else
        none))
  else
    none)
theorem t_g10 {N : Nat} {f : Nat → Int32} {ex : mHp} {r : mR} {i : Int32} {n : Nat} {k : Nat} {x1 : Int32} {x2 : Int32} {s : mS} {q : mS × mHp} (hi : i = nI n) (hn : n + 5 ≤ N) (hN : N ≤ 2560) (hx1 : f (n + 1) = x1) (hx2 : f (n + 2) = x2) (h : g10 k x1 x2 s = some q) (kk : Run (N, f) 171 (23, [(0, .ref 0), (1, .ref 16), (2, .ref 42), (3, .ref 53), (4, .int (i + Int32.ofInt 5))], [], hp q.1 (ex ++ q.2)) r) : Run (N, f) 171 (740, [(0, .ref 0), (1, .ref 16), (2, .ref 42), (3, .ref 53), (4, .int i)], [], hp s ex) r := by
  unfold g10 at h
  refine R_p d171_740 rfl rfl ?_
  refine R_p d171_741 rfl rfl ?_
  refine R_p d171_742 rfl rfl ?_
  refine R_ic (v := 1) d171_744 (by decide) ?_
  refine R_p d171_745 rfl rfl ?_
  refine R_sldk (n := n + 1) (x := x1) d171_746 (sl_in (m := 1) hi hn hN ⟨by decide, by decide⟩) (sl_at (m := 1) hi hn hN ⟨by decide, by decide⟩) hx1 ?_
  refine R_p d171_747 rfl rfl ?_
  refine R_p d171_748 rfl rfl ?_
  refine R_ic (v := 2) d171_750 (by decide) ?_
  refine R_p d171_751 rfl rfl ?_
  refine R_sldk (n := n + 2) (x := x2) d171_752 (sl_in (m := 2) hi hn hN ⟨by decide, by decide⟩) (sl_at (m := 2) hi hn hN ⟨by decide, by decide⟩) hx2 ?_
  refine R_p d171_753 rfl rfl ?_
  obtain ⟨q1, e2, h⟩ := bd_some h
  refine R_hs [.ref 16, .int x1, .int x2, .ref 53] d171_754 (List.mem_of_getElem? (i := 124) rfl) ⟨by decide, by decide, Nat.le_of_ble_eq_true rfl, mcd165⟩ rfl rfl (Nat.le_of_ble_eq_true rfl) (t_o165 e2) ?_
  refine R_p (ls' := [(0, .ref 0), (1, .ref 16), (2, .ref 42), (3, .ref 53), (4, .int i), (5, .int q1.1)]) d171_757 rfl rfl ?_
  refine R_p d171_759 rfl rfl ?_
  refine R_p d171_760 rfl rfl ?_
  refine R_p d171_761 rfl rfl ?_
  refine R_ic (v := 1) d171_763 (by decide) ?_
  refine R_p d171_764 rfl rfl ?_
  refine R_sldk (n := n + 1) (x := x1) d171_765 (sl_in (m := 1) hi hn hN ⟨by decide, by decide⟩) (sl_at (m := 1) hi hn hN ⟨by decide, by decide⟩) hx1 ?_
  refine R_p d171_766 rfl rfl ?_
  refine R_p d171_767 rfl rfl ?_
  refine R_ic (v := 2) d171_769 (by decide) ?_
  refine R_p d171_770 rfl rfl ?_
  refine R_sldk (n := n + 2) (x := x2) d171_771 (sl_in (m := 2) hi hn hN ⟨by decide, by decide⟩) (sl_at (m := 2) hi hn hN ⟨by decide, by decide⟩) hx2 ?_
  obtain ⟨q3, e4, h⟩ := bd_some h
  refine R_cm [.int x1, .int x2] d171_772 (List.mem_of_getElem? (i := 192) rfl) rfl ⟨by decide, by decide, Nat.le_of_ble_eq_true rfl, rfl, mcd145⟩ rfl rfl (Nat.le_of_ble_eq_true rfl) (hg42 _ _) rfl (t_f145 e4) ?_
  refine R_p (ls' := [(0, .ref 0), (1, .ref 16), (2, .ref 42), (3, .ref 53), (4, .int i), (5, .int q1.1), (6, .int q3.1)]) d171_775 rfl rfl ?_
  refine R_p d171_777 rfl rfl ?_
  obtain ⟨q5, e6, h⟩ := bd_some h
  refine R_cm [] d171_778 (List.mem_of_getElem? (i := 160) rfl) rfl ⟨by decide, by decide, Nat.le_of_ble_eq_true rfl, rfl, mcd113⟩ rfl rfl (Nat.le_of_ble_eq_true rfl) (hg42 _ _) rfl (t_f113 e6) ?_
  refine R_p d171_781 rfl rfl ?_
  rcases ite_some h with ⟨c7, h⟩ | ⟨c7, h⟩
  · skip
    refine R_br 788 d171_783 (mb_t (b := (q5 = q1.1)) c7) rfl ?_
    refine R_p d171_788 rfl rfl ?_
    rcases ite_some h with ⟨c8, h⟩ | ⟨c8, h⟩
    · skip
      refine R_br 805 d171_790 (mb_t (b := (¬ q1.1 = (0 : Int32))) c8) rfl ?_
      refine R_br 950 d171_805 rfl rfl ?_
      cases h
      refine R_p (ls' := [(0, .ref 0), (1, .ref 16), (2, .ref 42), (3, .ref 53), (4, .int (i + Int32.ofInt 5)), (5, .int q1.1), (6, .int q3.1)]) d171_950 rfl rfl ?_
      refine R_br 23 d171_953 rfl rfl ?_
      exact R_wk [(0, .ref 0), (1, .ref 16), (2, .ref 42), (3, .ref 53), (4, .int (i + Int32.ofInt 5))] (by simp) kk
    · skip
      refine R_nb d171_790 rfl (mb_f (b := (¬ q1.1 = (0 : Int32))) c8) ?_
      refine R_p d171_793 rfl rfl ?_
      refine R_ic (v := 0) d171_794 (by decide) ?_
      refine R_lld d171_795 (hg53 _ _) (vp_ok (by decide)) ?_
      refine R_p d171_796 rfl rfl ?_
      refine R_p d171_798 rfl rfl ?_
      refine R_p d171_799 rfl rfl ?_
      rcases ite_some h with ⟨c9, h⟩ | ⟨c9, h⟩
      · skip
        refine R_br 805 d171_800 (mb_t (b := ((lg_cmp (q3.2.2.1 53 (Int32.toNatClampNeg 0)) (Int32.toInt64 q3.1)) = (0 : Int32))) (lgc_eq.mpr c9)) rfl ?_
        refine R_br 950 d171_805 rfl rfl ?_
        cases h
        refine R_p (ls' := [(0, .ref 0), (1, .ref 16), (2, .ref 42), (3, .ref 53), (4, .int (i + Int32.ofInt 5)), (5, .int q1.1), (6, .int q3.1)]) d171_950 rfl rfl ?_
        refine R_br 23 d171_953 rfl rfl ?_
        exact R_wk [(0, .ref 0), (1, .ref 16), (2, .ref 42), (3, .ref 53), (4, .int (i + Int32.ofInt 5))] (by simp) kk
      · skip
        refine R_nb d171_800 rfl (mb_f (b := ((lg_cmp (q3.2.2.1 53 (Int32.toNatClampNeg 0)) (Int32.toInt64 q3.1)) = (0 : Int32))) (fun q => c9 (lgc_eq.mp q))) ?_
        refine R_ic (v := 0) d171_803 (by decide) ?_
        cases h
  · skip
    refine R_nb d171_783 rfl (mb_f (b := (q5 = q1.1)) c7) ?_
    refine R_ic (v := 0) d171_786 (by decide) ?_
    cases h
def g11 (k : Nat) (x1 : Int32) (x2 : Int32) (x3 : Int32) (x4 : Int32) (s : mS) : Option (mS × mHp) :=
  (o166 k x1 x2 x3 x4 s).bind fun q1 => (f147 k x1 x2 x3 x4 q1.2.1).bind fun q3 => (f113 q3.2).bind fun q5 => (if (q5 = q1.1) then
    (if (¬ q1.1 = (0 : Int32)) then
      some (q3.2, q1.2.2)
    else
      (if ((q3.2.2.1 53 (Int32.toNatClampNeg 0)) = (Int32.toInt64 q3.1)) then
        some (q3.2, q1.2.2)
      else
        none))
  else
    none)
theorem t_g11 {N : Nat} {f : Nat → Int32} {ex : mHp} {r : mR} {i : Int32} {n : Nat} {k : Nat} {x1 : Int32} {x2 : Int32} {x3 : Int32} {x4 : Int32} {s : mS} {q : mS × mHp} (hi : i = nI n) (hn : n + 5 ≤ N) (hN : N ≤ 2560) (hx1 : f (n + 1) = x1) (hx2 : f (n + 2) = x2) (hx3 : f (n + 3) = x3) (hx4 : f (n + 4) = x4) (h : g11 k x1 x2 x3 x4 s = some q) (kk : Run (N, f) 171 (23, [(0, .ref 0), (1, .ref 16), (2, .ref 42), (3, .ref 53), (4, .int (i + Int32.ofInt 5))], [], hp q.1 (ex ++ q.2)) r) : Run (N, f) 171 (808, [(0, .ref 0), (1, .ref 16), (2, .ref 42), (3, .ref 53), (4, .int i)], [], hp s ex) r := by
  unfold g11 at h
  refine R_p d171_808 rfl rfl ?_
  refine R_p d171_809 rfl rfl ?_
  refine R_p d171_810 rfl rfl ?_
  refine R_ic (v := 1) d171_812 (by decide) ?_
  refine R_p d171_813 rfl rfl ?_
  refine R_sldk (n := n + 1) (x := x1) d171_814 (sl_in (m := 1) hi hn hN ⟨by decide, by decide⟩) (sl_at (m := 1) hi hn hN ⟨by decide, by decide⟩) hx1 ?_
  refine R_p d171_815 rfl rfl ?_
  refine R_p d171_816 rfl rfl ?_
  refine R_ic (v := 2) d171_818 (by decide) ?_
  refine R_p d171_819 rfl rfl ?_
  refine R_sldk (n := n + 2) (x := x2) d171_820 (sl_in (m := 2) hi hn hN ⟨by decide, by decide⟩) (sl_at (m := 2) hi hn hN ⟨by decide, by decide⟩) hx2 ?_
  refine R_p d171_821 rfl rfl ?_
  refine R_p d171_822 rfl rfl ?_
  refine R_ic (v := 3) d171_824 (by decide) ?_
  refine R_p d171_825 rfl rfl ?_
  refine R_sldk (n := n + 3) (x := x3) d171_826 (sl_in (m := 3) hi hn hN ⟨by decide, by decide⟩) (sl_at (m := 3) hi hn hN ⟨by decide, by decide⟩) hx3 ?_
  refine R_p d171_827 rfl rfl ?_
  refine R_p d171_828 rfl rfl ?_
  refine R_ic (v := 4) d171_830 (by decide) ?_
  refine R_p d171_831 rfl rfl ?_
  refine R_sldk (n := n + 4) (x := x4) d171_832 (sl_in (m := 4) hi hn hN ⟨by decide, by decide⟩) (sl_at (m := 4) hi hn hN ⟨by decide, by decide⟩) hx4 ?_
  refine R_p d171_833 rfl rfl ?_
  obtain ⟨q1, e2, h⟩ := bd_some h
  refine R_hs [.ref 16, .int x1, .int x2, .int x3, .int x4, .ref 53] d171_834 (List.mem_of_getElem? (i := 127) rfl) ⟨by decide, by decide, Nat.le_of_ble_eq_true rfl, mcd166⟩ rfl rfl (Nat.le_of_ble_eq_true rfl) (t_o166 e2) ?_
  refine R_p (ls' := [(0, .ref 0), (1, .ref 16), (2, .ref 42), (3, .ref 53), (4, .int i), (5, .int q1.1)]) d171_837 rfl rfl ?_
  refine R_p d171_839 rfl rfl ?_
  refine R_p d171_840 rfl rfl ?_
  refine R_p d171_841 rfl rfl ?_
  refine R_ic (v := 1) d171_843 (by decide) ?_
  refine R_p d171_844 rfl rfl ?_
  refine R_sldk (n := n + 1) (x := x1) d171_845 (sl_in (m := 1) hi hn hN ⟨by decide, by decide⟩) (sl_at (m := 1) hi hn hN ⟨by decide, by decide⟩) hx1 ?_
  refine R_p d171_846 rfl rfl ?_
  refine R_p d171_847 rfl rfl ?_
  refine R_ic (v := 2) d171_849 (by decide) ?_
  refine R_p d171_850 rfl rfl ?_
  refine R_sldk (n := n + 2) (x := x2) d171_851 (sl_in (m := 2) hi hn hN ⟨by decide, by decide⟩) (sl_at (m := 2) hi hn hN ⟨by decide, by decide⟩) hx2 ?_
  refine R_p d171_852 rfl rfl ?_
  refine R_p d171_853 rfl rfl ?_
  refine R_ic (v := 3) d171_855 (by decide) ?_
  refine R_p d171_856 rfl rfl ?_
  refine R_sldk (n := n + 3) (x := x3) d171_857 (sl_in (m := 3) hi hn hN ⟨by decide, by decide⟩) (sl_at (m := 3) hi hn hN ⟨by decide, by decide⟩) hx3 ?_
  refine R_p d171_858 rfl rfl ?_
  refine R_p d171_859 rfl rfl ?_
  refine R_ic (v := 4) d171_861 (by decide) ?_
  refine R_p d171_862 rfl rfl ?_
  refine R_sldk (n := n + 4) (x := x4) d171_863 (sl_in (m := 4) hi hn hN ⟨by decide, by decide⟩) (sl_at (m := 4) hi hn hN ⟨by decide, by decide⟩) hx4 ?_
  obtain ⟨q3, e4, h⟩ := bd_some h
  refine R_cm [.int x1, .int x2, .int x3, .int x4] d171_864 (List.mem_of_getElem? (i := 194) rfl) rfl ⟨by decide, by decide, Nat.le_of_ble_eq_true rfl, rfl, mcd147⟩ rfl rfl (Nat.le_of_ble_eq_true rfl) (hg42 _ _) rfl (t_f147 e4) ?_
  refine R_p (ls' := [(0, .ref 0), (1, .ref 16), (2, .ref 42), (3, .ref 53), (4, .int i), (5, .int q1.1), (6, .int q3.1)]) d171_867 rfl rfl ?_
  refine R_p d171_869 rfl rfl ?_
  obtain ⟨q5, e6, h⟩ := bd_some h
  refine R_cm [] d171_870 (List.mem_of_getElem? (i := 160) rfl) rfl ⟨by decide, by decide, Nat.le_of_ble_eq_true rfl, rfl, mcd113⟩ rfl rfl (Nat.le_of_ble_eq_true rfl) (hg42 _ _) rfl (t_f113 e6) ?_
  refine R_p d171_873 rfl rfl ?_
  rcases ite_some h with ⟨c7, h⟩ | ⟨c7, h⟩
  · skip
    refine R_br 880 d171_875 (mb_t (b := (q5 = q1.1)) c7) rfl ?_
    refine R_p d171_880 rfl rfl ?_
    rcases ite_some h with ⟨c8, h⟩ | ⟨c8, h⟩
    · skip
      refine R_br 897 d171_882 (mb_t (b := (¬ q1.1 = (0 : Int32))) c8) rfl ?_
      refine R_br 950 d171_897 rfl rfl ?_
      cases h
      refine R_p (ls' := [(0, .ref 0), (1, .ref 16), (2, .ref 42), (3, .ref 53), (4, .int (i + Int32.ofInt 5)), (5, .int q1.1), (6, .int q3.1)]) d171_950 rfl rfl ?_
      refine R_br 23 d171_953 rfl rfl ?_
      exact R_wk [(0, .ref 0), (1, .ref 16), (2, .ref 42), (3, .ref 53), (4, .int (i + Int32.ofInt 5))] (by simp) kk
    · skip
      refine R_nb d171_882 rfl (mb_f (b := (¬ q1.1 = (0 : Int32))) c8) ?_
      refine R_p d171_885 rfl rfl ?_
      refine R_ic (v := 0) d171_886 (by decide) ?_
      refine R_lld d171_887 (hg53 _ _) (vp_ok (by decide)) ?_
      refine R_p d171_888 rfl rfl ?_
      refine R_p d171_890 rfl rfl ?_
      refine R_p d171_891 rfl rfl ?_
      rcases ite_some h with ⟨c9, h⟩ | ⟨c9, h⟩
      · skip
        refine R_br 897 d171_892 (mb_t (b := ((lg_cmp (q3.2.2.1 53 (Int32.toNatClampNeg 0)) (Int32.toInt64 q3.1)) = (0 : Int32))) (lgc_eq.mpr c9)) rfl ?_
        refine R_br 950 d171_897 rfl rfl ?_
        cases h
        refine R_p (ls' := [(0, .ref 0), (1, .ref 16), (2, .ref 42), (3, .ref 53), (4, .int (i + Int32.ofInt 5)), (5, .int q1.1), (6, .int q3.1)]) d171_950 rfl rfl ?_
        refine R_br 23 d171_953 rfl rfl ?_
        exact R_wk [(0, .ref 0), (1, .ref 16), (2, .ref 42), (3, .ref 53), (4, .int (i + Int32.ofInt 5))] (by simp) kk
      · skip
        refine R_nb d171_892 rfl (mb_f (b := ((lg_cmp (q3.2.2.1 53 (Int32.toNatClampNeg 0)) (Int32.toInt64 q3.1)) = (0 : Int32))) (fun q => c9 (lgc_eq.mp q))) ?_
        refine R_ic (v := 0) d171_895 (by decide) ?_
        cases h
  · skip
    refine R_nb d171_875 rfl (mb_f (b := (q5 = q1.1)) c7) ?_
    refine R_ic (v := 0) d171_878 (by decide) ?_
    cases h
def g12 (x1 : Int32) (s : mS) : Option (mS × mHp) :=
  (f94 x1 s).bind fun q1 => (f155 x1 s).bind fun q3 => (if (q1 = q3.1) then
    some (q3.2, [])
  else
    none)
theorem t_g12 {N : Nat} {f : Nat → Int32} {ex : mHp} {r : mR} {i : Int32} {n : Nat} {x1 : Int32} {s : mS} {q : mS × mHp} (hi : i = nI n) (hn : n + 5 ≤ N) (hN : N ≤ 2560) (hx1 : f (n + 1) = x1) (h : g12 x1 s = some q) (kk : Run (N, f) 171 (23, [(0, .ref 0), (1, .ref 16), (2, .ref 42), (3, .ref 53), (4, .int (i + Int32.ofInt 5))], [], hp q.1 (ex ++ q.2)) r) : Run (N, f) 171 (900, [(0, .ref 0), (1, .ref 16), (2, .ref 42), (3, .ref 53), (4, .int i)], [], hp s ex) r := by
  unfold g12 at h
  refine R_p d171_900 rfl rfl ?_
  refine R_p d171_901 rfl rfl ?_
  refine R_p d171_902 rfl rfl ?_
  refine R_ic (v := 1) d171_904 (by decide) ?_
  refine R_p d171_905 rfl rfl ?_
  refine R_sldk (n := n + 1) (x := x1) d171_906 (sl_in (m := 1) hi hn hN ⟨by decide, by decide⟩) (sl_at (m := 1) hi hn hN ⟨by decide, by decide⟩) hx1 ?_
  obtain ⟨q1, e2, h⟩ := bd_some h
  refine R_cm [.int x1] d171_907 (List.mem_of_getElem? (i := 23) rfl) rfl ⟨by decide, by decide, Nat.le_of_ble_eq_true rfl, rfl, mcd94⟩ rfl rfl (Nat.le_of_ble_eq_true rfl) (hg16 _ _) rfl (t_f94 e2) ?_
  refine R_p d171_910 rfl rfl ?_
  refine R_p d171_911 rfl rfl ?_
  refine R_p d171_912 rfl rfl ?_
  refine R_ic (v := 1) d171_914 (by decide) ?_
  refine R_p d171_915 rfl rfl ?_
  refine R_sldk (n := n + 1) (x := x1) d171_916 (sl_in (m := 1) hi hn hN ⟨by decide, by decide⟩) (sl_at (m := 1) hi hn hN ⟨by decide, by decide⟩) hx1 ?_
  obtain ⟨q3, e4, h⟩ := bd_some h
  refine R_cm [.int x1] d171_917 (List.mem_of_getElem? (i := 202) rfl) rfl ⟨by decide, by decide, Nat.le_of_ble_eq_true rfl, rfl, mcd155⟩ rfl rfl (Nat.le_of_ble_eq_true rfl) (hg42 _ _) rfl (t_f155 e4) ?_
  rcases ite_some h with ⟨c5, h⟩ | ⟨c5, h⟩
  · skip
    refine R_br 950 d171_920 (mb_t (b := (q1 = q3.1)) c5) rfl ?_
    cases h
    rw [List.append_nil] at kk
    refine R_p (ls' := [(0, .ref 0), (1, .ref 16), (2, .ref 42), (3, .ref 53), (4, .int (i + Int32.ofInt 5))]) d171_950 rfl rfl ?_
    refine R_br 23 d171_953 rfl rfl ?_
    exact kk
  · skip
    refine R_nb d171_920 rfl (mb_f (b := (q1 = q3.1)) c5) ?_
    refine R_ic (v := 0) d171_923 (by decide) ?_
    cases h
def g13 (x1 : Int32) (s : mS) : Option (mS × mHp) :=
  (f95 x1 s).bind fun q1 => (f156 x1 s).bind fun q3 => (if (q1 = q3.1) then
    some (q3.2, [])
  else
    none)
theorem t_g13 {N : Nat} {f : Nat → Int32} {ex : mHp} {r : mR} {i : Int32} {n : Nat} {x1 : Int32} {s : mS} {q : mS × mHp} (hi : i = nI n) (hn : n + 5 ≤ N) (hN : N ≤ 2560) (hx1 : f (n + 1) = x1) (h : g13 x1 s = some q) (kk : Run (N, f) 171 (23, [(0, .ref 0), (1, .ref 16), (2, .ref 42), (3, .ref 53), (4, .int (i + Int32.ofInt 5))], [], hp q.1 (ex ++ q.2)) r) : Run (N, f) 171 (925, [(0, .ref 0), (1, .ref 16), (2, .ref 42), (3, .ref 53), (4, .int i)], [], hp s ex) r := by
  unfold g13 at h
  refine R_p d171_925 rfl rfl ?_
  refine R_p d171_926 rfl rfl ?_
  refine R_p d171_927 rfl rfl ?_
  refine R_ic (v := 1) d171_929 (by decide) ?_
  refine R_p d171_930 rfl rfl ?_
  refine R_sldk (n := n + 1) (x := x1) d171_931 (sl_in (m := 1) hi hn hN ⟨by decide, by decide⟩) (sl_at (m := 1) hi hn hN ⟨by decide, by decide⟩) hx1 ?_
  obtain ⟨q1, e2, h⟩ := bd_some h
  refine R_cm [.int x1] d171_932 (List.mem_of_getElem? (i := 26) rfl) rfl ⟨by decide, by decide, Nat.le_of_ble_eq_true rfl, rfl, mcd95⟩ rfl rfl (Nat.le_of_ble_eq_true rfl) (hg16 _ _) rfl (t_f95 e2) ?_
  refine R_p d171_935 rfl rfl ?_
  refine R_p d171_936 rfl rfl ?_
  refine R_p d171_937 rfl rfl ?_
  refine R_ic (v := 1) d171_939 (by decide) ?_
  refine R_p d171_940 rfl rfl ?_
  refine R_sldk (n := n + 1) (x := x1) d171_941 (sl_in (m := 1) hi hn hN ⟨by decide, by decide⟩) (sl_at (m := 1) hi hn hN ⟨by decide, by decide⟩) hx1 ?_
  obtain ⟨q3, e4, h⟩ := bd_some h
  refine R_cm [.int x1] d171_942 (List.mem_of_getElem? (i := 203) rfl) rfl ⟨by decide, by decide, Nat.le_of_ble_eq_true rfl, rfl, mcd156⟩ rfl rfl (Nat.le_of_ble_eq_true rfl) (hg42 _ _) rfl (t_f156 e4) ?_
  rcases ite_some h with ⟨c5, h⟩ | ⟨c5, h⟩
  · skip
    refine R_br 950 d171_945 (mb_t (b := (q1 = q3.1)) c5) rfl ?_
    cases h
    rw [List.append_nil] at kk
    refine R_p (ls' := [(0, .ref 0), (1, .ref 16), (2, .ref 42), (3, .ref 53), (4, .int (i + Int32.ofInt 5))]) d171_950 rfl rfl ?_
    refine R_br 23 d171_953 rfl rfl ?_
    exact kk
  · skip
    refine R_nb d171_945 rfl (mb_f (b := (q1 = q3.1)) c5) ?_
    refine R_ic (v := 0) d171_948 (by decide) ?_
    cases h
def lawG (k : Nat) (x0 x1 x2 x3 x4 : Int32) (s : mS) : Option (mS × mHp) :=
  if x0 &&& 15 = 0 then g0 k x1 x2 s else
  if x0 &&& 15 = 1 then g1 k x1 x2 s else
  if x0 &&& 15 = 2 then g2 k x1 x2 s else
  if x0 &&& 15 = 3 then g3 k s else
  if x0 &&& 15 = 4 then g4 k x1 s else
  if x0 &&& 15 = 5 then g5 k x1 x2 s else
  if x0 &&& 15 = 6 then g6 k x1 x2 s else
  if x0 &&& 15 = 7 then g7 k x1 x2 s else
  if x0 &&& 15 = 8 then g8 x1 x2 x3 s else
  if x0 &&& 15 = 9 then g9 x1 x2 x3 x4 s else
  if x0 &&& 15 = 10 then g10 k x1 x2 s else
  if x0 &&& 15 = 11 then g11 k x1 x2 x3 x4 s else
  if x0 &&& 15 = 12 then g12 x1 s else
  if x0 &&& 15 = 13 then g13 x1 s else
  some (s, [])
theorem sw_out14 {x : Int32} (h0 : ¬ x = 0) (h1 : ¬ x = 1) (h2 : ¬ x = 2) (h3 : ¬ x = 3) (h4 : ¬ x = 4) (h5 : ¬ x = 5) (h6 : ¬ x = 6) (h7 : ¬ x = 7) (h8 : ¬ x = 8) (h9 : ¬ x = 9) (h10 : ¬ x = 10) (h11 : ¬ x = 11) (h12 : ¬ x = 12) (h13 : ¬ x = 13) : x.toInt < 0 ∨ 13 < x.toInt := by
  have a0 := sw_ne h0; rw [show (0 : Int32).toInt = 0 from by decide] at a0
  have a1 := sw_ne h1; rw [show (1 : Int32).toInt = 1 from by decide] at a1
  have a2 := sw_ne h2; rw [show (2 : Int32).toInt = 2 from by decide] at a2
  have a3 := sw_ne h3; rw [show (3 : Int32).toInt = 3 from by decide] at a3
  have a4 := sw_ne h4; rw [show (4 : Int32).toInt = 4 from by decide] at a4
  have a5 := sw_ne h5; rw [show (5 : Int32).toInt = 5 from by decide] at a5
  have a6 := sw_ne h6; rw [show (6 : Int32).toInt = 6 from by decide] at a6
  have a7 := sw_ne h7; rw [show (7 : Int32).toInt = 7 from by decide] at a7
  have a8 := sw_ne h8; rw [show (8 : Int32).toInt = 8 from by decide] at a8
  have a9 := sw_ne h9; rw [show (9 : Int32).toInt = 9 from by decide] at a9
  have a10 := sw_ne h10; rw [show (10 : Int32).toInt = 10 from by decide] at a10
  have a11 := sw_ne h11; rw [show (11 : Int32).toInt = 11 from by decide] at a11
  have a12 := sw_ne h12; rw [show (12 : Int32).toInt = 12 from by decide] at a12
  have a13 := sw_ne h13; rw [show (13 : Int32).toInt = 13 from by decide] at a13
  omega
theorem t_lawG {N : Nat} {f : Nat → Int32} {ex : mHp} {r : mR} {k n : Nat} {s : mS} {q : mS × mHp} (hn : n + 5 ≤ N) (hN : N ≤ 2560) (h : lawG k (f n) (f (n + 1)) (f (n + 2)) (f (n + 3)) (f (n + 4)) s = some q) (kk : Run (N, f) 171 (23, [(0, .ref 0), (1, .ref 16), (2, .ref 42), (3, .ref 53), (4, .int (nI (n + 5)))], [], hp q.1 (ex ++ q.2)) r) : Run (N, f) 171 (23, [(0, .ref 0), (1, .ref 16), (2, .ref 42), (3, .ref 53), (4, .int (nI n))], [], hp s ex) r := by
  have e5 : nI n + Int32.ofInt 5 = nI (n + 5) := by rw [show Int32.ofInt 5 = nI 5 from by decide, nI_add]
  rw [← e5] at kk
  refine law_in (n := n) (tl := []) ?_ (vp_in_nI (by omega) (by omega)) (nI_clamp (by omega)) ?_
  · rw [show Int32.ofNat N - 5 = nI (N - 5) from by
      have h1 : N = (N - 5) + 5 := by omega
      rw [show Int32.ofNat N = nI N from rfl]
      conv => lhs; rw [h1]
      rw [← nI_add, show (5 : Int32) = nI 5 from by decide]
      exact Int32.add_sub_cancel _ _, Int32.not_lt]
    exact nI_le (by omega) (by omega)
  unfold lawG at h
  rcases ite_some h with ⟨c0, h⟩ | ⟨c0, h⟩
  · exact R_nv (v' := 0) c0 (R_swi 108 d171_39 (by decide) (by decide) rfl rfl (t_g0 rfl hn hN rfl rfl h kk))
  rcases ite_some h with ⟨c1, h⟩ | ⟨c1, h⟩
  · exact R_nv (v' := 1) c1 (R_swi 176 d171_39 (by decide) (by decide) rfl rfl (t_g1 rfl hn hN rfl rfl h kk))
  rcases ite_some h with ⟨c2, h⟩ | ⟨c2, h⟩
  · exact R_nv (v' := 2) c2 (R_swi 251 d171_39 (by decide) (by decide) rfl rfl (t_g2 rfl hn hN rfl rfl h kk))
  rcases ite_some h with ⟨c3, h⟩ | ⟨c3, h⟩
  · exact R_nv (v' := 3) c3 (R_swi 326 d171_39 (by decide) (by decide) rfl rfl (t_g3 rfl hn hN  h kk))
  rcases ite_some h with ⟨c4, h⟩ | ⟨c4, h⟩
  · exact R_nv (v' := 4) c4 (R_swi 339 d171_39 (by decide) (by decide) rfl rfl (t_g4 rfl hn hN rfl h kk))
  rcases ite_some h with ⟨c5, h⟩ | ⟨c5, h⟩
  · exact R_nv (v' := 5) c5 (R_swi 364 d171_39 (by decide) (by decide) rfl rfl (t_g5 rfl hn hN rfl rfl h kk))
  rcases ite_some h with ⟨c6, h⟩ | ⟨c6, h⟩
  · exact R_nv (v' := 6) c6 (R_swi 432 d171_39 (by decide) (by decide) rfl rfl (t_g6 rfl hn hN rfl rfl h kk))
  rcases ite_some h with ⟨c7, h⟩ | ⟨c7, h⟩
  · exact R_nv (v' := 7) c7 (R_swi 500 d171_39 (by decide) (by decide) rfl rfl (t_g7 rfl hn hN rfl rfl h kk))
  rcases ite_some h with ⟨c8, h⟩ | ⟨c8, h⟩
  · exact R_nv (v' := 8) c8 (R_swi 568 d171_39 (by decide) (by decide) rfl rfl (t_g8 rfl hn hN rfl rfl rfl h kk))
  rcases ite_some h with ⟨c9, h⟩ | ⟨c9, h⟩
  · exact R_nv (v' := 9) c9 (R_swi 648 d171_39 (by decide) (by decide) rfl rfl (t_g9 rfl hn hN rfl rfl rfl rfl h kk))
  rcases ite_some h with ⟨c10, h⟩ | ⟨c10, h⟩
  · exact R_nv (v' := 10) c10 (R_swi 740 d171_39 (by decide) (by decide) rfl rfl (t_g10 rfl hn hN rfl rfl h kk))
  rcases ite_some h with ⟨c11, h⟩ | ⟨c11, h⟩
  · exact R_nv (v' := 11) c11 (R_swi 808 d171_39 (by decide) (by decide) rfl rfl (t_g11 rfl hn hN rfl rfl rfl rfl h kk))
  rcases ite_some h with ⟨c12, h⟩ | ⟨c12, h⟩
  · exact R_nv (v' := 12) c12 (R_swi 900 d171_39 (by decide) (by decide) rfl rfl (t_g12 rfl hn hN rfl h kk))
  rcases ite_some h with ⟨c13, h⟩ | ⟨c13, h⟩
  · exact R_nv (v' := 13) c13 (R_swi 925 d171_39 (by decide) (by decide) rfl rfl (t_g13 rfl hn hN rfl h kk))
  refine R_swo 950 d171_39 (sw_out14 c0 c1 c2 c3 c4 c5 c6 c7 c8 c9 c10 c11 c12 c13) rfl ?_
  cases h
  rw [List.append_nil] at kk
  refine R_p (ls' := [(0, .ref 0), (1, .ref 16), (2, .ref 42), (3, .ref 53), (4, .int (nI n + Int32.ofInt 5))]) d171_950 rfl rfl ?_
  refine R_br 23 d171_953 rfl rfl ?_
  exact kk
