/-! the reference, as functions (wip/gen/dec.py) -/
theorem d113_0 : decode (mCode 113) 0 = .ok (.aload_n 0, 1) := by decide +kernel
theorem d113_1 : decode (mCode 113) 1 = .ok (.getfield 42, 3) := by decide +kernel
theorem d113_4 : decode (mCode 113) 4 = .ok (.ireturn, 1) := by decide +kernel
theorem d114_0 : decode (mCode 114) 0 = .ok (.aload_n 0, 1) := by decide +kernel
theorem d114_1 : decode (mCode 114) 1 = .ok (.iload_n 1, 1) := by decide +kernel
theorem d114_2 : decode (mCode 114) 2 = .ok (.iload_n 2, 1) := by decide +kernel
theorem d114_3 : decode (mCode 114) 3 = .ok (.invokestatic 74, 3) := by decide +kernel
theorem d114_6 : decode (mCode 114) 6 = .ok (.ifCond .ne 7, 3) := by decide +kernel
theorem d114_9 : decode (mCode 114) 9 = .ok (.iconst 1, 1) := by decide +kernel
theorem d114_10 : decode (mCode 114) 10 = .ok (.goto 17, 3) := by decide +kernel
theorem d114_13 : decode (mCode 114) 13 = .ok (.aload_n 0, 1) := by decide +kernel
theorem d114_14 : decode (mCode 114) 14 = .ok (.getfield 52, 3) := by decide +kernel
theorem d114_17 : decode (mCode 114) 17 = .ok (.bipush 40, 2) := by decide +kernel
theorem d114_19 : decode (mCode 114) 19 = .ok (.if_icmp .ne 7, 3) := by decide +kernel
theorem d114_22 : decode (mCode 114) 22 = .ok (.iconst 2, 1) := by decide +kernel
theorem d114_23 : decode (mCode 114) 23 = .ok (.goto 4, 3) := by decide +kernel
theorem d114_26 : decode (mCode 114) 26 = .ok (.iconst 0, 1) := by decide +kernel
theorem d114_27 : decode (mCode 114) 27 = .ok (.invokevirtual 78, 3) := by decide +kernel
theorem d114_30 : decode (mCode 114) 30 = .ok (.ifCond .eq 5, 3) := by decide +kernel
theorem d114_33 : decode (mCode 114) 33 = .ok (.iconst 0, 1) := by decide +kernel
theorem d114_34 : decode (mCode 114) 34 = .ok (.ireturn, 1) := by decide +kernel
theorem d114_35 : decode (mCode 114) 35 = .ok (.aload_n 0, 1) := by decide +kernel
theorem d114_36 : decode (mCode 114) 36 = .ok (.getfield 7, 3) := by decide +kernel
theorem d114_39 : decode (mCode 114) 39 = .ok (.aload_n 0, 1) := by decide +kernel
theorem d114_40 : decode (mCode 114) 40 = .ok (.getfield 52, 3) := by decide +kernel
theorem d114_43 : decode (mCode 114) 43 = .ok (.iload_n 1, 1) := by decide +kernel
theorem d114_44 : decode (mCode 114) 44 = .ok (.i2l, 1) := by decide +kernel
theorem d114_45 : decode (mCode 114) 45 = .ok (.lastore, 1) := by decide +kernel
theorem d114_46 : decode (mCode 114) 46 = .ok (.aload_n 0, 1) := by decide +kernel
theorem d114_47 : decode (mCode 114) 47 = .ok (.getfield 13, 3) := by decide +kernel
theorem d114_50 : decode (mCode 114) 50 = .ok (.aload_n 0, 1) := by decide +kernel
theorem d114_51 : decode (mCode 114) 51 = .ok (.getfield 52, 3) := by decide +kernel
theorem d114_54 : decode (mCode 114) 54 = .ok (.iload_n 2, 1) := by decide +kernel
theorem d114_55 : decode (mCode 114) 55 = .ok (.i2l, 1) := by decide +kernel
theorem d114_56 : decode (mCode 114) 56 = .ok (.lastore, 1) := by decide +kernel
theorem d114_57 : decode (mCode 114) 57 = .ok (.iconst 1, 1) := by decide +kernel
theorem d114_58 : decode (mCode 114) 58 = .ok (.istore_n 3, 1) := by decide +kernel
theorem d114_59 : decode (mCode 114) 59 = .ok (.iconst 0, 1) := by decide +kernel
theorem d114_60 : decode (mCode 114) 60 = .ok (.istore 4, 2) := by decide +kernel
theorem d114_62 : decode (mCode 114) 62 = .ok (.iload 4, 2) := by decide +kernel
theorem d114_64 : decode (mCode 114) 64 = .ok (.aload_n 0, 1) := by decide +kernel
theorem d114_65 : decode (mCode 114) 65 = .ok (.getfield 52, 3) := by decide +kernel
theorem d114_68 : decode (mCode 114) 68 = .ok (.if_icmp .ge 102, 3) := by decide +kernel
theorem d114_71 : decode (mCode 114) 71 = .ok (.iload_n 3, 1) := by decide +kernel
theorem d114_72 : decode (mCode 114) 72 = .ok (.ifCond .eq 33, 3) := by decide +kernel
theorem d114_75 : decode (mCode 114) 75 = .ok (.aload_n 0, 1) := by decide +kernel
theorem d114_76 : decode (mCode 114) 76 = .ok (.getfield 7, 3) := by decide +kernel
theorem d114_79 : decode (mCode 114) 79 = .ok (.iload 4, 2) := by decide +kernel
theorem d114_81 : decode (mCode 114) 81 = .ok (.laload, 1) := by decide +kernel
theorem d114_82 : decode (mCode 114) 82 = .ok (.iload_n 1, 1) := by decide +kernel
theorem d114_83 : decode (mCode 114) 83 = .ok (.i2l, 1) := by decide +kernel
theorem d114_84 : decode (mCode 114) 84 = .ok (.lcmp, 1) := by decide +kernel
theorem d114_85 : decode (mCode 114) 85 = .ok (.ifCond .ne 16, 3) := by decide +kernel
theorem d114_88 : decode (mCode 114) 88 = .ok (.aload_n 0, 1) := by decide +kernel
theorem d114_89 : decode (mCode 114) 89 = .ok (.getfield 13, 3) := by decide +kernel
theorem d114_92 : decode (mCode 114) 92 = .ok (.iload 4, 2) := by decide +kernel
theorem d114_94 : decode (mCode 114) 94 = .ok (.laload, 1) := by decide +kernel
theorem d114_95 : decode (mCode 114) 95 = .ok (.iload_n 2, 1) := by decide +kernel
theorem d114_96 : decode (mCode 114) 96 = .ok (.i2l, 1) := by decide +kernel
theorem d114_97 : decode (mCode 114) 97 = .ok (.lcmp, 1) := by decide +kernel
theorem d114_98 : decode (mCode 114) 98 = .ok (.ifCond .eq 7, 3) := by decide +kernel
theorem d114_101 : decode (mCode 114) 101 = .ok (.iconst 1, 1) := by decide +kernel
theorem d114_102 : decode (mCode 114) 102 = .ok (.goto 4, 3) := by decide +kernel
theorem d114_105 : decode (mCode 114) 105 = .ok (.iconst 0, 1) := by decide +kernel
theorem d114_106 : decode (mCode 114) 106 = .ok (.istore_n 3, 1) := by decide +kernel
theorem d114_107 : decode (mCode 114) 107 = .ok (.iconst 0, 1) := by decide +kernel
theorem d114_108 : decode (mCode 114) 108 = .ok (.istore 5, 2) := by decide +kernel
theorem d114_110 : decode (mCode 114) 110 = .ok (.iload 5, 2) := by decide +kernel
theorem d114_112 : decode (mCode 114) 112 = .ok (.iload 4, 2) := by decide +kernel
theorem d114_114 : decode (mCode 114) 114 = .ok (.if_icmp .ge 50, 3) := by decide +kernel
theorem d114_117 : decode (mCode 114) 117 = .ok (.iload_n 3, 1) := by decide +kernel
theorem d114_118 : decode (mCode 114) 118 = .ok (.ifCond .eq 38, 3) := by decide +kernel
theorem d114_121 : decode (mCode 114) 121 = .ok (.aload_n 0, 1) := by decide +kernel
theorem d114_122 : decode (mCode 114) 122 = .ok (.getfield 16, 3) := by decide +kernel
theorem d114_125 : decode (mCode 114) 125 = .ok (.bipush 40, 2) := by decide +kernel
theorem d114_127 : decode (mCode 114) 127 = .ok (.iload 4, 2) := by decide +kernel
theorem d114_129 : decode (mCode 114) 129 = .ok (.imul, 1) := by decide +kernel
theorem d114_130 : decode (mCode 114) 130 = .ok (.iload 5, 2) := by decide +kernel
theorem d114_132 : decode (mCode 114) 132 = .ok (.iadd, 1) := by decide +kernel
theorem d114_133 : decode (mCode 114) 133 = .ok (.baload, 1) := by decide +kernel
theorem d114_134 : decode (mCode 114) 134 = .ok (.ifCond .eq 18, 3) := by decide +kernel
theorem d114_137 : decode (mCode 114) 137 = .ok (.aload_n 0, 1) := by decide +kernel
theorem d114_138 : decode (mCode 114) 138 = .ok (.iload 4, 2) := by decide +kernel
theorem d114_140 : decode (mCode 114) 140 = .ok (.iload 5, 2) := by decide +kernel
theorem d114_142 : decode (mCode 114) 142 = .ok (.aload_n 0, 1) := by decide +kernel
theorem d114_143 : decode (mCode 114) 143 = .ok (.getfield 52, 3) := by decide +kernel
theorem d114_146 : decode (mCode 114) 146 = .ok (.invokevirtual 82, 3) := by decide +kernel
theorem d114_149 : decode (mCode 114) 149 = .ok (.ifCond .ne 7, 3) := by decide +kernel
theorem d114_152 : decode (mCode 114) 152 = .ok (.iconst 1, 1) := by decide +kernel
theorem d114_153 : decode (mCode 114) 153 = .ok (.goto 4, 3) := by decide +kernel
theorem d114_156 : decode (mCode 114) 156 = .ok (.iconst 0, 1) := by decide +kernel
theorem d114_157 : decode (mCode 114) 157 = .ok (.istore_n 3, 1) := by decide +kernel
theorem d114_158 : decode (mCode 114) 158 = .ok (.iinc 5 1, 3) := by decide +kernel
theorem d114_161 : decode (mCode 114) 161 = .ok (.goto (-51), 3) := by decide +kernel
theorem d114_164 : decode (mCode 114) 164 = .ok (.iinc 4 1, 3) := by decide +kernel
theorem d114_167 : decode (mCode 114) 167 = .ok (.goto (-105), 3) := by decide +kernel
theorem d114_170 : decode (mCode 114) 170 = .ok (.iload_n 3, 1) := by decide +kernel
theorem d114_171 : decode (mCode 114) 171 = .ok (.ifCond .ne 5, 3) := by decide +kernel
theorem d114_174 : decode (mCode 114) 174 = .ok (.iconst (-1), 1) := by decide +kernel
theorem d114_175 : decode (mCode 114) 175 = .ok (.ireturn, 1) := by decide +kernel
theorem d114_176 : decode (mCode 114) 176 = .ok (.iconst 0, 1) := by decide +kernel
theorem d114_177 : decode (mCode 114) 177 = .ok (.istore 4, 2) := by decide +kernel
theorem d114_224 : decode (mCode 114) 224 = .ok (.aload_n 0, 1) := by decide +kernel
theorem d114_225 : decode (mCode 114) 225 = .ok (.dup, 1) := by decide +kernel
theorem d114_226 : decode (mCode 114) 226 = .ok (.getfield 52, 3) := by decide +kernel
theorem d114_229 : decode (mCode 114) 229 = .ok (.iconst 1, 1) := by decide +kernel
theorem d114_230 : decode (mCode 114) 230 = .ok (.iadd, 1) := by decide +kernel
theorem d114_231 : decode (mCode 114) 231 = .ok (.putfield 52, 3) := by decide +kernel
theorem d114_234 : decode (mCode 114) 234 = .ok (.aload_n 0, 1) := by decide +kernel
theorem d114_235 : decode (mCode 114) 235 = .ok (.iconst 0, 1) := by decide +kernel
theorem d114_236 : decode (mCode 114) 236 = .ok (.putfield 85, 3) := by decide +kernel
theorem d114_239 : decode (mCode 114) 239 = .ok (.aload_n 0, 1) := by decide +kernel
theorem d114_240 : decode (mCode 114) 240 = .ok (.getfield 52, 3) := by decide +kernel
theorem d114_243 : decode (mCode 114) 243 = .ok (.iconst 1, 1) := by decide +kernel
theorem d114_244 : decode (mCode 114) 244 = .ok (.isub, 1) := by decide +kernel
theorem d114_245 : decode (mCode 114) 245 = .ok (.ireturn, 1) := by decide +kernel
theorem d115_0 : decode (mCode 115) 0 = .ok (.iload_n 0, 1) := by decide +kernel
theorem d115_1 : decode (mCode 115) 1 = .ok (.ldc 46, 2) := by decide +kernel
theorem d115_3 : decode (mCode 115) 3 = .ok (.ldc 47, 2) := by decide +kernel
theorem d115_5 : decode (mCode 115) 5 = .ok (.invokestatic 48, 3) := by decide +kernel
theorem d115_8 : decode (mCode 115) 8 = .ok (.ifCond .eq 18, 3) := by decide +kernel
theorem d115_11 : decode (mCode 115) 11 = .ok (.iload_n 1, 1) := by decide +kernel
theorem d115_12 : decode (mCode 115) 12 = .ok (.ldc 46, 2) := by decide +kernel
theorem d115_14 : decode (mCode 115) 14 = .ok (.ldc 47, 2) := by decide +kernel
theorem d115_16 : decode (mCode 115) 16 = .ok (.invokestatic 48, 3) := by decide +kernel
theorem d115_19 : decode (mCode 115) 19 = .ok (.ifCond .eq 7, 3) := by decide +kernel
theorem d115_22 : decode (mCode 115) 22 = .ok (.iconst 1, 1) := by decide +kernel
theorem d115_23 : decode (mCode 115) 23 = .ok (.goto 4, 3) := by decide +kernel
theorem d115_26 : decode (mCode 115) 26 = .ok (.iconst 0, 1) := by decide +kernel
theorem d115_27 : decode (mCode 115) 27 = .ok (.ireturn, 1) := by decide +kernel
theorem d116_0 : decode (mCode 116) 0 = .ok (.iload_n 0, 1) := by decide +kernel
theorem d116_1 : decode (mCode 116) 1 = .ok (.iload_n 1, 1) := by decide +kernel
theorem d116_2 : decode (mCode 116) 2 = .ok (.if_icmp .lt 12, 3) := by decide +kernel
theorem d116_5 : decode (mCode 116) 5 = .ok (.iload_n 0, 1) := by decide +kernel
theorem d116_6 : decode (mCode 116) 6 = .ok (.iload_n 2, 1) := by decide +kernel
theorem d116_7 : decode (mCode 116) 7 = .ok (.if_icmp .gt 7, 3) := by decide +kernel
theorem d116_10 : decode (mCode 116) 10 = .ok (.iconst 1, 1) := by decide +kernel
theorem d116_11 : decode (mCode 116) 11 = .ok (.goto 4, 3) := by decide +kernel
theorem d116_14 : decode (mCode 116) 14 = .ok (.iconst 0, 1) := by decide +kernel
theorem d116_15 : decode (mCode 116) 15 = .ok (.ireturn, 1) := by decide +kernel
theorem d117_0 : decode (mCode 117) 0 = .ok (.aload_n 0, 1) := by decide +kernel
theorem d117_1 : decode (mCode 117) 1 = .ok (.iload_n 1, 1) := by decide +kernel
theorem d117_2 : decode (mCode 117) 2 = .ok (.putfield 42, 3) := by decide +kernel
theorem d117_5 : decode (mCode 117) 5 = .ok (.iload_n 1, 1) := by decide +kernel
theorem d117_6 : decode (mCode 117) 6 = .ok (.ifCond .le 7, 3) := by decide +kernel
theorem d117_9 : decode (mCode 117) 9 = .ok (.iconst 1, 1) := by decide +kernel
theorem d117_10 : decode (mCode 117) 10 = .ok (.goto 4, 3) := by decide +kernel
theorem d117_13 : decode (mCode 117) 13 = .ok (.iconst 0, 1) := by decide +kernel
theorem d117_14 : decode (mCode 117) 14 = .ok (.ireturn, 1) := by decide +kernel
theorem d118_0 : decode (mCode 118) 0 = .ok (.aload_n 0, 1) := by decide +kernel
theorem d118_1 : decode (mCode 118) 1 = .ok (.iload_n 1, 1) := by decide +kernel
theorem d118_2 : decode (mCode 118) 2 = .ok (.iload_n 2, 1) := by decide +kernel
theorem d118_3 : decode (mCode 118) 3 = .ok (.iload_n 3, 1) := by decide +kernel
theorem d118_4 : decode (mCode 118) 4 = .ok (.invokevirtual 70, 3) := by decide +kernel
theorem d118_7 : decode (mCode 118) 7 = .ok (.ifCond .eq 5, 3) := by decide +kernel
theorem d118_10 : decode (mCode 118) 10 = .ok (.iconst 0, 1) := by decide +kernel
theorem d118_11 : decode (mCode 118) 11 = .ok (.ireturn, 1) := by decide +kernel
theorem d118_12 : decode (mCode 118) 12 = .ok (.aload_n 0, 1) := by decide +kernel
theorem d118_13 : decode (mCode 118) 13 = .ok (.getfield 7, 3) := by decide +kernel
theorem d118_16 : decode (mCode 118) 16 = .ok (.iload_n 1, 1) := by decide +kernel
theorem d118_17 : decode (mCode 118) 17 = .ok (.laload, 1) := by decide +kernel
theorem d118_18 : decode (mCode 118) 18 = .ok (.aload_n 0, 1) := by decide +kernel
theorem d118_19 : decode (mCode 118) 19 = .ok (.getfield 7, 3) := by decide +kernel
theorem d118_22 : decode (mCode 118) 22 = .ok (.iload_n 2, 1) := by decide +kernel
theorem d118_23 : decode (mCode 118) 23 = .ok (.laload, 1) := by decide +kernel
theorem d118_24 : decode (mCode 118) 24 = .ok (.lcmp, 1) := by decide +kernel
theorem d118_25 : decode (mCode 118) 25 = .ok (.ifCond .ge 43, 3) := by decide +kernel
theorem d118_28 : decode (mCode 118) 28 = .ok (.aload_n 0, 1) := by decide +kernel
theorem d118_29 : decode (mCode 118) 29 = .ok (.getfield 7, 3) := by decide +kernel
theorem d118_32 : decode (mCode 118) 32 = .ok (.iload_n 3, 1) := by decide +kernel
theorem d118_33 : decode (mCode 118) 33 = .ok (.laload, 1) := by decide +kernel
theorem d118_34 : decode (mCode 118) 34 = .ok (.aload_n 0, 1) := by decide +kernel
theorem d118_35 : decode (mCode 118) 35 = .ok (.getfield 7, 3) := by decide +kernel
theorem d118_38 : decode (mCode 118) 38 = .ok (.iload_n 1, 1) := by decide +kernel
theorem d118_39 : decode (mCode 118) 39 = .ok (.laload, 1) := by decide +kernel
theorem d118_40 : decode (mCode 118) 40 = .ok (.lcmp, 1) := by decide +kernel
theorem d118_41 : decode (mCode 118) 41 = .ok (.ifCond .lt 23, 3) := by decide +kernel
theorem d118_44 : decode (mCode 118) 44 = .ok (.aload_n 0, 1) := by decide +kernel
theorem d118_45 : decode (mCode 118) 45 = .ok (.getfield 7, 3) := by decide +kernel
theorem d118_48 : decode (mCode 118) 48 = .ok (.iload_n 3, 1) := by decide +kernel
theorem d118_49 : decode (mCode 118) 49 = .ok (.laload, 1) := by decide +kernel
theorem d118_50 : decode (mCode 118) 50 = .ok (.aload_n 0, 1) := by decide +kernel
theorem d118_51 : decode (mCode 118) 51 = .ok (.getfield 7, 3) := by decide +kernel
theorem d118_54 : decode (mCode 118) 54 = .ok (.iload_n 2, 1) := by decide +kernel
theorem d118_55 : decode (mCode 118) 55 = .ok (.laload, 1) := by decide +kernel
theorem d118_56 : decode (mCode 118) 56 = .ok (.lcmp, 1) := by decide +kernel
theorem d118_57 : decode (mCode 118) 57 = .ok (.ifCond .gt 7, 3) := by decide +kernel
theorem d118_60 : decode (mCode 118) 60 = .ok (.iconst 1, 1) := by decide +kernel
theorem d118_61 : decode (mCode 118) 61 = .ok (.goto 44, 3) := by decide +kernel
theorem d118_64 : decode (mCode 118) 64 = .ok (.iconst 0, 1) := by decide +kernel
theorem d118_65 : decode (mCode 118) 65 = .ok (.goto 40, 3) := by decide +kernel
theorem d118_68 : decode (mCode 118) 68 = .ok (.aload_n 0, 1) := by decide +kernel
theorem d118_69 : decode (mCode 118) 69 = .ok (.getfield 7, 3) := by decide +kernel
theorem d118_72 : decode (mCode 118) 72 = .ok (.iload_n 3, 1) := by decide +kernel
theorem d118_73 : decode (mCode 118) 73 = .ok (.laload, 1) := by decide +kernel
theorem d118_74 : decode (mCode 118) 74 = .ok (.aload_n 0, 1) := by decide +kernel
theorem d118_75 : decode (mCode 118) 75 = .ok (.getfield 7, 3) := by decide +kernel
theorem d118_78 : decode (mCode 118) 78 = .ok (.iload_n 2, 1) := by decide +kernel
theorem d118_79 : decode (mCode 118) 79 = .ok (.laload, 1) := by decide +kernel
theorem d118_80 : decode (mCode 118) 80 = .ok (.lcmp, 1) := by decide +kernel
theorem d118_81 : decode (mCode 118) 81 = .ok (.ifCond .lt 23, 3) := by decide +kernel
theorem d118_84 : decode (mCode 118) 84 = .ok (.aload_n 0, 1) := by decide +kernel
theorem d118_85 : decode (mCode 118) 85 = .ok (.getfield 7, 3) := by decide +kernel
theorem d118_88 : decode (mCode 118) 88 = .ok (.iload_n 3, 1) := by decide +kernel
theorem d118_89 : decode (mCode 118) 89 = .ok (.laload, 1) := by decide +kernel
theorem d118_90 : decode (mCode 118) 90 = .ok (.aload_n 0, 1) := by decide +kernel
theorem d118_91 : decode (mCode 118) 91 = .ok (.getfield 7, 3) := by decide +kernel
theorem d118_94 : decode (mCode 118) 94 = .ok (.iload_n 1, 1) := by decide +kernel
theorem d118_95 : decode (mCode 118) 95 = .ok (.laload, 1) := by decide +kernel
theorem d118_96 : decode (mCode 118) 96 = .ok (.lcmp, 1) := by decide +kernel
theorem d118_97 : decode (mCode 118) 97 = .ok (.ifCond .gt 7, 3) := by decide +kernel
theorem d118_100 : decode (mCode 118) 100 = .ok (.iconst 1, 1) := by decide +kernel
theorem d118_101 : decode (mCode 118) 101 = .ok (.goto 4, 3) := by decide +kernel
theorem d118_104 : decode (mCode 118) 104 = .ok (.iconst 0, 1) := by decide +kernel
theorem d118_105 : decode (mCode 118) 105 = .ok (.istore 4, 2) := by decide +kernel
theorem d118_107 : decode (mCode 118) 107 = .ok (.aload_n 0, 1) := by decide +kernel
theorem d118_108 : decode (mCode 118) 108 = .ok (.getfield 13, 3) := by decide +kernel
theorem d118_111 : decode (mCode 118) 111 = .ok (.iload_n 1, 1) := by decide +kernel
theorem d118_112 : decode (mCode 118) 112 = .ok (.laload, 1) := by decide +kernel
theorem d118_113 : decode (mCode 118) 113 = .ok (.aload_n 0, 1) := by decide +kernel
theorem d118_114 : decode (mCode 118) 114 = .ok (.getfield 13, 3) := by decide +kernel
theorem d118_117 : decode (mCode 118) 117 = .ok (.iload_n 2, 1) := by decide +kernel
theorem d118_118 : decode (mCode 118) 118 = .ok (.laload, 1) := by decide +kernel
theorem d118_119 : decode (mCode 118) 119 = .ok (.lcmp, 1) := by decide +kernel
theorem d118_120 : decode (mCode 118) 120 = .ok (.ifCond .ge 43, 3) := by decide +kernel
theorem d118_123 : decode (mCode 118) 123 = .ok (.aload_n 0, 1) := by decide +kernel
theorem d118_124 : decode (mCode 118) 124 = .ok (.getfield 13, 3) := by decide +kernel
theorem d118_127 : decode (mCode 118) 127 = .ok (.iload_n 3, 1) := by decide +kernel
theorem d118_128 : decode (mCode 118) 128 = .ok (.laload, 1) := by decide +kernel
theorem d118_129 : decode (mCode 118) 129 = .ok (.aload_n 0, 1) := by decide +kernel
theorem d118_130 : decode (mCode 118) 130 = .ok (.getfield 13, 3) := by decide +kernel
theorem d118_133 : decode (mCode 118) 133 = .ok (.iload_n 1, 1) := by decide +kernel
theorem d118_134 : decode (mCode 118) 134 = .ok (.laload, 1) := by decide +kernel
theorem d118_135 : decode (mCode 118) 135 = .ok (.lcmp, 1) := by decide +kernel
theorem d118_136 : decode (mCode 118) 136 = .ok (.ifCond .lt 23, 3) := by decide +kernel
theorem d118_139 : decode (mCode 118) 139 = .ok (.aload_n 0, 1) := by decide +kernel
theorem d118_140 : decode (mCode 118) 140 = .ok (.getfield 13, 3) := by decide +kernel
theorem d118_143 : decode (mCode 118) 143 = .ok (.iload_n 3, 1) := by decide +kernel
theorem d118_144 : decode (mCode 118) 144 = .ok (.laload, 1) := by decide +kernel
theorem d118_145 : decode (mCode 118) 145 = .ok (.aload_n 0, 1) := by decide +kernel
theorem d118_146 : decode (mCode 118) 146 = .ok (.getfield 13, 3) := by decide +kernel
theorem d118_149 : decode (mCode 118) 149 = .ok (.iload_n 2, 1) := by decide +kernel
theorem d118_150 : decode (mCode 118) 150 = .ok (.laload, 1) := by decide +kernel
theorem d118_151 : decode (mCode 118) 151 = .ok (.lcmp, 1) := by decide +kernel
theorem d118_152 : decode (mCode 118) 152 = .ok (.ifCond .gt 7, 3) := by decide +kernel
theorem d118_155 : decode (mCode 118) 155 = .ok (.iconst 1, 1) := by decide +kernel
theorem d118_156 : decode (mCode 118) 156 = .ok (.goto 44, 3) := by decide +kernel
theorem d118_159 : decode (mCode 118) 159 = .ok (.iconst 0, 1) := by decide +kernel
theorem d118_160 : decode (mCode 118) 160 = .ok (.goto 40, 3) := by decide +kernel
theorem d118_163 : decode (mCode 118) 163 = .ok (.aload_n 0, 1) := by decide +kernel
theorem d118_164 : decode (mCode 118) 164 = .ok (.getfield 13, 3) := by decide +kernel
theorem d118_167 : decode (mCode 118) 167 = .ok (.iload_n 3, 1) := by decide +kernel
theorem d118_168 : decode (mCode 118) 168 = .ok (.laload, 1) := by decide +kernel
theorem d118_169 : decode (mCode 118) 169 = .ok (.aload_n 0, 1) := by decide +kernel
theorem d118_170 : decode (mCode 118) 170 = .ok (.getfield 13, 3) := by decide +kernel
theorem d118_173 : decode (mCode 118) 173 = .ok (.iload_n 2, 1) := by decide +kernel
theorem d118_174 : decode (mCode 118) 174 = .ok (.laload, 1) := by decide +kernel
theorem d118_175 : decode (mCode 118) 175 = .ok (.lcmp, 1) := by decide +kernel
theorem d118_176 : decode (mCode 118) 176 = .ok (.ifCond .lt 23, 3) := by decide +kernel
theorem d118_179 : decode (mCode 118) 179 = .ok (.aload_n 0, 1) := by decide +kernel
theorem d118_180 : decode (mCode 118) 180 = .ok (.getfield 13, 3) := by decide +kernel
theorem d118_183 : decode (mCode 118) 183 = .ok (.iload_n 3, 1) := by decide +kernel
theorem d118_184 : decode (mCode 118) 184 = .ok (.laload, 1) := by decide +kernel
theorem d118_185 : decode (mCode 118) 185 = .ok (.aload_n 0, 1) := by decide +kernel
theorem d118_186 : decode (mCode 118) 186 = .ok (.getfield 13, 3) := by decide +kernel
theorem d118_189 : decode (mCode 118) 189 = .ok (.iload_n 1, 1) := by decide +kernel
theorem d118_190 : decode (mCode 118) 190 = .ok (.laload, 1) := by decide +kernel
theorem d118_191 : decode (mCode 118) 191 = .ok (.lcmp, 1) := by decide +kernel
theorem d118_192 : decode (mCode 118) 192 = .ok (.ifCond .gt 7, 3) := by decide +kernel
theorem d118_195 : decode (mCode 118) 195 = .ok (.iconst 1, 1) := by decide +kernel
theorem d118_196 : decode (mCode 118) 196 = .ok (.goto 4, 3) := by decide +kernel
theorem d118_199 : decode (mCode 118) 199 = .ok (.iconst 0, 1) := by decide +kernel
theorem d118_200 : decode (mCode 118) 200 = .ok (.istore 5, 2) := by decide +kernel
theorem d118_202 : decode (mCode 118) 202 = .ok (.iload 4, 2) := by decide +kernel
theorem d118_204 : decode (mCode 118) 204 = .ok (.ifCond .eq 12, 3) := by decide +kernel
theorem d118_207 : decode (mCode 118) 207 = .ok (.iload 5, 2) := by decide +kernel
theorem d118_209 : decode (mCode 118) 209 = .ok (.ifCond .eq 7, 3) := by decide +kernel
theorem d118_212 : decode (mCode 118) 212 = .ok (.iconst 1, 1) := by decide +kernel
theorem d118_213 : decode (mCode 118) 213 = .ok (.goto 4, 3) := by decide +kernel
theorem d118_216 : decode (mCode 118) 216 = .ok (.iconst 0, 1) := by decide +kernel
theorem d118_217 : decode (mCode 118) 217 = .ok (.ireturn, 1) := by decide +kernel
theorem d119_0 : decode (mCode 119) 0 = .ok (.aload_n 0, 1) := by decide +kernel
theorem d119_1 : decode (mCode 119) 1 = .ok (.getfield 7, 3) := by decide +kernel
theorem d119_4 : decode (mCode 119) 4 = .ok (.iload_n 2, 1) := by decide +kernel
theorem d119_5 : decode (mCode 119) 5 = .ok (.laload, 1) := by decide +kernel
theorem d119_6 : decode (mCode 119) 6 = .ok (.aload_n 0, 1) := by decide +kernel
theorem d119_7 : decode (mCode 119) 7 = .ok (.getfield 7, 3) := by decide +kernel
theorem d119_10 : decode (mCode 119) 10 = .ok (.iload_n 1, 1) := by decide +kernel
theorem d119_11 : decode (mCode 119) 11 = .ok (.laload, 1) := by decide +kernel
theorem d119_12 : decode (mCode 119) 12 = .ok (.lsub, 1) := by decide +kernel
theorem d119_13 : decode (mCode 119) 13 = .ok (.aload_n 0, 1) := by decide +kernel
theorem d119_14 : decode (mCode 119) 14 = .ok (.getfield 13, 3) := by decide +kernel
theorem d119_17 : decode (mCode 119) 17 = .ok (.iload_n 3, 1) := by decide +kernel
theorem d119_18 : decode (mCode 119) 18 = .ok (.laload, 1) := by decide +kernel
theorem d119_19 : decode (mCode 119) 19 = .ok (.aload_n 0, 1) := by decide +kernel
theorem d119_20 : decode (mCode 119) 20 = .ok (.getfield 13, 3) := by decide +kernel
theorem d119_23 : decode (mCode 119) 23 = .ok (.iload_n 1, 1) := by decide +kernel
theorem d119_24 : decode (mCode 119) 24 = .ok (.laload, 1) := by decide +kernel
theorem d119_25 : decode (mCode 119) 25 = .ok (.lsub, 1) := by decide +kernel
theorem d119_26 : decode (mCode 119) 26 = .ok (.lmul, 1) := by decide +kernel
theorem d119_27 : decode (mCode 119) 27 = .ok (.aload_n 0, 1) := by decide +kernel
theorem d119_28 : decode (mCode 119) 28 = .ok (.getfield 13, 3) := by decide +kernel
theorem d119_31 : decode (mCode 119) 31 = .ok (.iload_n 2, 1) := by decide +kernel
theorem d119_32 : decode (mCode 119) 32 = .ok (.laload, 1) := by decide +kernel
theorem d119_33 : decode (mCode 119) 33 = .ok (.aload_n 0, 1) := by decide +kernel
theorem d119_34 : decode (mCode 119) 34 = .ok (.getfield 13, 3) := by decide +kernel
theorem d119_37 : decode (mCode 119) 37 = .ok (.iload_n 1, 1) := by decide +kernel
theorem d119_38 : decode (mCode 119) 38 = .ok (.laload, 1) := by decide +kernel
theorem d119_39 : decode (mCode 119) 39 = .ok (.lsub, 1) := by decide +kernel
theorem d119_40 : decode (mCode 119) 40 = .ok (.aload_n 0, 1) := by decide +kernel
theorem d119_41 : decode (mCode 119) 41 = .ok (.getfield 7, 3) := by decide +kernel
theorem d119_44 : decode (mCode 119) 44 = .ok (.iload_n 3, 1) := by decide +kernel
theorem d119_45 : decode (mCode 119) 45 = .ok (.laload, 1) := by decide +kernel
theorem d119_46 : decode (mCode 119) 46 = .ok (.aload_n 0, 1) := by decide +kernel
theorem d119_47 : decode (mCode 119) 47 = .ok (.getfield 7, 3) := by decide +kernel
theorem d119_50 : decode (mCode 119) 50 = .ok (.iload_n 1, 1) := by decide +kernel
theorem d119_51 : decode (mCode 119) 51 = .ok (.laload, 1) := by decide +kernel
theorem d119_52 : decode (mCode 119) 52 = .ok (.lsub, 1) := by decide +kernel
theorem d119_53 : decode (mCode 119) 53 = .ok (.lmul, 1) := by decide +kernel
theorem d119_54 : decode (mCode 119) 54 = .ok (.lsub, 1) := by decide +kernel
theorem d119_55 : decode (mCode 119) 55 = .ok (.lstore 4, 2) := by decide +kernel
theorem d119_57 : decode (mCode 119) 57 = .ok (.lload 4, 2) := by decide +kernel
theorem d119_59 : decode (mCode 119) 59 = .ok (.lconst 0, 1) := by decide +kernel
theorem d119_60 : decode (mCode 119) 60 = .ok (.lcmp, 1) := by decide +kernel
theorem d119_61 : decode (mCode 119) 61 = .ok (.ifCond .le 7, 3) := by decide +kernel
theorem d119_64 : decode (mCode 119) 64 = .ok (.iconst 1, 1) := by decide +kernel
theorem d119_65 : decode (mCode 119) 65 = .ok (.goto 15, 3) := by decide +kernel
theorem d119_68 : decode (mCode 119) 68 = .ok (.lload 4, 2) := by decide +kernel
theorem d119_70 : decode (mCode 119) 70 = .ok (.lconst 0, 1) := by decide +kernel
theorem d119_71 : decode (mCode 119) 71 = .ok (.lcmp, 1) := by decide +kernel
theorem d119_72 : decode (mCode 119) 72 = .ok (.ifCond .ge 7, 3) := by decide +kernel
theorem d119_75 : decode (mCode 119) 75 = .ok (.iconst (-1), 1) := by decide +kernel
theorem d119_76 : decode (mCode 119) 76 = .ok (.goto 4, 3) := by decide +kernel
theorem d119_79 : decode (mCode 119) 79 = .ok (.iconst 0, 1) := by decide +kernel
theorem d119_80 : decode (mCode 119) 80 = .ok (.ireturn, 1) := by decide +kernel
theorem d120_0 : decode (mCode 120) 0 = .ok (.aload_n 0, 1) := by decide +kernel
theorem d120_1 : decode (mCode 120) 1 = .ok (.aload_n 0, 1) := by decide +kernel
theorem d120_2 : decode (mCode 120) 2 = .ok (.iload_n 1, 1) := by decide +kernel
theorem d120_3 : decode (mCode 120) 3 = .ok (.iload_n 2, 1) := by decide +kernel
theorem d120_4 : decode (mCode 120) 4 = .ok (.invokevirtual 96, 3) := by decide +kernel
theorem d120_7 : decode (mCode 120) 7 = .ok (.ifCond .eq 7, 3) := by decide +kernel
theorem d120_10 : decode (mCode 120) 10 = .ok (.iconst 0, 1) := by decide +kernel
theorem d120_11 : decode (mCode 120) 11 = .ok (.goto 4, 3) := by decide +kernel
theorem d120_14 : decode (mCode 120) 14 = .ok (.iconst 1, 1) := by decide +kernel
theorem d120_15 : decode (mCode 120) 15 = .ok (.invokevirtual 78, 3) := by decide +kernel
theorem d120_18 : decode (mCode 120) 18 = .ok (.ifCond .eq 5, 3) := by decide +kernel
theorem d120_21 : decode (mCode 120) 21 = .ok (.iconst 0, 1) := by decide +kernel
theorem d120_22 : decode (mCode 120) 22 = .ok (.ireturn, 1) := by decide +kernel
theorem d120_23 : decode (mCode 120) 23 = .ok (.aload_n 0, 1) := by decide +kernel
theorem d120_24 : decode (mCode 120) 24 = .ok (.getfield 16, 3) := by decide +kernel
theorem d120_27 : decode (mCode 120) 27 = .ok (.bipush 40, 2) := by decide +kernel
theorem d120_29 : decode (mCode 120) 29 = .ok (.iload_n 1, 1) := by decide +kernel
theorem d120_30 : decode (mCode 120) 30 = .ok (.imul, 1) := by decide +kernel
theorem d120_31 : decode (mCode 120) 31 = .ok (.iload_n 2, 1) := by decide +kernel
theorem d120_32 : decode (mCode 120) 32 = .ok (.iadd, 1) := by decide +kernel
theorem d120_33 : decode (mCode 120) 33 = .ok (.baload, 1) := by decide +kernel
theorem d120_34 : decode (mCode 120) 34 = .ok (.ifCond .ne 18, 3) := by decide +kernel
theorem d120_37 : decode (mCode 120) 37 = .ok (.aload_n 0, 1) := by decide +kernel
theorem d120_38 : decode (mCode 120) 38 = .ok (.iload_n 1, 1) := by decide +kernel
theorem d120_39 : decode (mCode 120) 39 = .ok (.iload_n 2, 1) := by decide +kernel
theorem d120_40 : decode (mCode 120) 40 = .ok (.aload_n 0, 1) := by decide +kernel
theorem d120_41 : decode (mCode 120) 41 = .ok (.getfield 16, 3) := by decide +kernel
theorem d120_44 : decode (mCode 120) 44 = .ok (.invokevirtual 99, 3) := by decide +kernel
theorem d120_47 : decode (mCode 120) 47 = .ok (.ifCond .ne 5, 3) := by decide +kernel
theorem d120_50 : decode (mCode 120) 50 = .ok (.iconst 0, 1) := by decide +kernel
theorem d120_51 : decode (mCode 120) 51 = .ok (.ireturn, 1) := by decide +kernel
theorem d120_52 : decode (mCode 120) 52 = .ok (.aload_n 0, 1) := by decide +kernel
theorem d120_53 : decode (mCode 120) 53 = .ok (.getfield 16, 3) := by decide +kernel
theorem d120_56 : decode (mCode 120) 56 = .ok (.bipush 40, 2) := by decide +kernel
theorem d120_58 : decode (mCode 120) 58 = .ok (.iload_n 1, 1) := by decide +kernel
theorem d120_59 : decode (mCode 120) 59 = .ok (.imul, 1) := by decide +kernel
theorem d120_60 : decode (mCode 120) 60 = .ok (.iload_n 2, 1) := by decide +kernel
theorem d120_61 : decode (mCode 120) 61 = .ok (.iadd, 1) := by decide +kernel
theorem d120_62 : decode (mCode 120) 62 = .ok (.iconst 1, 1) := by decide +kernel
theorem d120_63 : decode (mCode 120) 63 = .ok (.bastore, 1) := by decide +kernel
theorem d120_64 : decode (mCode 120) 64 = .ok (.aload_n 0, 1) := by decide +kernel
theorem d120_65 : decode (mCode 120) 65 = .ok (.getfield 16, 3) := by decide +kernel
theorem d120_68 : decode (mCode 120) 68 = .ok (.bipush 40, 2) := by decide +kernel
theorem d120_70 : decode (mCode 120) 70 = .ok (.iload_n 2, 1) := by decide +kernel
theorem d120_71 : decode (mCode 120) 71 = .ok (.imul, 1) := by decide +kernel
theorem d120_72 : decode (mCode 120) 72 = .ok (.iload_n 1, 1) := by decide +kernel
theorem d120_73 : decode (mCode 120) 73 = .ok (.iadd, 1) := by decide +kernel
theorem d120_74 : decode (mCode 120) 74 = .ok (.iconst 1, 1) := by decide +kernel
theorem d120_75 : decode (mCode 120) 75 = .ok (.bastore, 1) := by decide +kernel
theorem d120_76 : decode (mCode 120) 76 = .ok (.aload_n 0, 1) := by decide +kernel
theorem d120_77 : decode (mCode 120) 77 = .ok (.iconst 0, 1) := by decide +kernel
theorem d120_78 : decode (mCode 120) 78 = .ok (.putfield 85, 3) := by decide +kernel
theorem d120_81 : decode (mCode 120) 81 = .ok (.iconst 1, 1) := by decide +kernel
theorem d120_82 : decode (mCode 120) 82 = .ok (.ireturn, 1) := by decide +kernel
theorem d121_0 : decode (mCode 121) 0 = .ok (.aload_n 0, 1) := by decide +kernel
theorem d121_1 : decode (mCode 121) 1 = .ok (.iload_n 1, 1) := by decide +kernel
theorem d121_2 : decode (mCode 121) 2 = .ok (.invokevirtual 89, 3) := by decide +kernel
theorem d121_5 : decode (mCode 121) 5 = .ok (.ifCond .eq 20, 3) := by decide +kernel
theorem d121_8 : decode (mCode 121) 8 = .ok (.aload_n 0, 1) := by decide +kernel
theorem d121_9 : decode (mCode 121) 9 = .ok (.iload_n 2, 1) := by decide +kernel
theorem d121_10 : decode (mCode 121) 10 = .ok (.invokevirtual 89, 3) := by decide +kernel
theorem d121_13 : decode (mCode 121) 13 = .ok (.ifCond .eq 12, 3) := by decide +kernel
theorem d121_16 : decode (mCode 121) 16 = .ok (.iload_n 1, 1) := by decide +kernel
theorem d121_17 : decode (mCode 121) 17 = .ok (.iload_n 2, 1) := by decide +kernel
theorem d121_18 : decode (mCode 121) 18 = .ok (.if_icmp .eq 7, 3) := by decide +kernel
theorem d121_21 : decode (mCode 121) 21 = .ok (.iconst 1, 1) := by decide +kernel
theorem d121_22 : decode (mCode 121) 22 = .ok (.goto 4, 3) := by decide +kernel
theorem d121_25 : decode (mCode 121) 25 = .ok (.iconst 0, 1) := by decide +kernel
theorem d121_26 : decode (mCode 121) 26 = .ok (.ireturn, 1) := by decide +kernel
theorem d122_0 : decode (mCode 122) 0 = .ok (.iload_n 1, 1) := by decide +kernel
theorem d122_1 : decode (mCode 122) 1 = .ok (.iconst 0, 1) := by decide +kernel
theorem d122_2 : decode (mCode 122) 2 = .ok (.aload_n 0, 1) := by decide +kernel
theorem d122_3 : decode (mCode 122) 3 = .ok (.getfield 52, 3) := by decide +kernel
theorem d122_6 : decode (mCode 122) 6 = .ok (.iconst 1, 1) := by decide +kernel
theorem d122_7 : decode (mCode 122) 7 = .ok (.isub, 1) := by decide +kernel
theorem d122_8 : decode (mCode 122) 8 = .ok (.invokestatic 48, 3) := by decide +kernel
theorem d122_11 : decode (mCode 122) 11 = .ok (.ireturn, 1) := by decide +kernel
theorem d123_0 : decode (mCode 123) 0 = .ok (.iconst 0, 1) := by decide +kernel
theorem d123_1 : decode (mCode 123) 1 = .ok (.istore 4, 2) := by decide +kernel
theorem d123_3 : decode (mCode 123) 3 = .ok (.iload 4, 2) := by decide +kernel
theorem d123_5 : decode (mCode 123) 5 = .ok (.aload_n 0, 1) := by decide +kernel
theorem d123_6 : decode (mCode 123) 6 = .ok (.getfield 52, 3) := by decide +kernel
theorem d123_9 : decode (mCode 123) 9 = .ok (.if_icmp .ge 78, 3) := by decide +kernel
theorem d123_12 : decode (mCode 123) 12 = .ok (.iload 4, 2) := by decide +kernel
theorem d123_14 : decode (mCode 123) 14 = .ok (.iload_n 1, 1) := by decide +kernel
theorem d123_15 : decode (mCode 123) 15 = .ok (.if_icmp .eq 22, 3) := by decide +kernel
theorem d123_18 : decode (mCode 123) 18 = .ok (.iload 4, 2) := by decide +kernel
theorem d123_20 : decode (mCode 123) 20 = .ok (.iload_n 2, 1) := by decide +kernel
theorem d123_21 : decode (mCode 123) 21 = .ok (.if_icmp .eq 16, 3) := by decide +kernel
theorem d123_24 : decode (mCode 123) 24 = .ok (.aload_n 0, 1) := by decide +kernel
theorem d123_25 : decode (mCode 123) 25 = .ok (.iload_n 1, 1) := by decide +kernel
theorem d123_26 : decode (mCode 123) 26 = .ok (.iload_n 2, 1) := by decide +kernel
theorem d123_27 : decode (mCode 123) 27 = .ok (.iload 4, 2) := by decide +kernel
theorem d123_29 : decode (mCode 123) 29 = .ok (.invokevirtual 82, 3) := by decide +kernel
theorem d123_32 : decode (mCode 123) 32 = .ok (.ifCond .eq 5, 3) := by decide +kernel
theorem d123_35 : decode (mCode 123) 35 = .ok (.iconst 0, 1) := by decide +kernel
theorem d123_36 : decode (mCode 123) 36 = .ok (.ireturn, 1) := by decide +kernel
theorem d123_37 : decode (mCode 123) 37 = .ok (.iconst 0, 1) := by decide +kernel
theorem d123_38 : decode (mCode 123) 38 = .ok (.istore 5, 2) := by decide +kernel
theorem d123_40 : decode (mCode 123) 40 = .ok (.iload 5, 2) := by decide +kernel
theorem d123_42 : decode (mCode 123) 42 = .ok (.iload 4, 2) := by decide +kernel
theorem d123_44 : decode (mCode 123) 44 = .ok (.if_icmp .ge 37, 3) := by decide +kernel
theorem d123_47 : decode (mCode 123) 47 = .ok (.aload_n 3, 1) := by decide +kernel
theorem d123_48 : decode (mCode 123) 48 = .ok (.bipush 40, 2) := by decide +kernel
theorem d123_50 : decode (mCode 123) 50 = .ok (.iload 4, 2) := by decide +kernel
theorem d123_52 : decode (mCode 123) 52 = .ok (.imul, 1) := by decide +kernel
theorem d123_53 : decode (mCode 123) 53 = .ok (.iload 5, 2) := by decide +kernel
theorem d123_55 : decode (mCode 123) 55 = .ok (.iadd, 1) := by decide +kernel
theorem d123_56 : decode (mCode 123) 56 = .ok (.baload, 1) := by decide +kernel
theorem d123_57 : decode (mCode 123) 57 = .ok (.ifCond .eq 18, 3) := by decide +kernel
theorem d123_60 : decode (mCode 123) 60 = .ok (.aload_n 0, 1) := by decide +kernel
theorem d123_61 : decode (mCode 123) 61 = .ok (.iload_n 1, 1) := by decide +kernel
theorem d123_62 : decode (mCode 123) 62 = .ok (.iload_n 2, 1) := by decide +kernel
theorem d123_63 : decode (mCode 123) 63 = .ok (.iload 4, 2) := by decide +kernel
theorem d123_65 : decode (mCode 123) 65 = .ok (.iload 5, 2) := by decide +kernel
theorem d123_67 : decode (mCode 123) 67 = .ok (.invokevirtual 92, 3) := by decide +kernel
theorem d123_70 : decode (mCode 123) 70 = .ok (.ifCond .eq 5, 3) := by decide +kernel
theorem d123_73 : decode (mCode 123) 73 = .ok (.iconst 0, 1) := by decide +kernel
theorem d123_74 : decode (mCode 123) 74 = .ok (.ireturn, 1) := by decide +kernel
theorem d123_75 : decode (mCode 123) 75 = .ok (.iinc 5 1, 3) := by decide +kernel
theorem d123_78 : decode (mCode 123) 78 = .ok (.goto (-38), 3) := by decide +kernel
theorem d123_81 : decode (mCode 123) 81 = .ok (.iinc 4 1, 3) := by decide +kernel
theorem d123_84 : decode (mCode 123) 84 = .ok (.goto (-81), 3) := by decide +kernel
theorem d123_87 : decode (mCode 123) 87 = .ok (.iconst 1, 1) := by decide +kernel
theorem d123_88 : decode (mCode 123) 88 = .ok (.ireturn, 1) := by decide +kernel
theorem d124_0 : decode (mCode 124) 0 = .ok (.aload_n 0, 1) := by decide +kernel
theorem d124_1 : decode (mCode 124) 1 = .ok (.iload_n 1, 1) := by decide +kernel
theorem d124_2 : decode (mCode 124) 2 = .ok (.iload_n 2, 1) := by decide +kernel
theorem d124_3 : decode (mCode 124) 3 = .ok (.iload_n 3, 1) := by decide +kernel
theorem d124_4 : decode (mCode 124) 4 = .ok (.invokevirtual 70, 3) := by decide +kernel
theorem d124_7 : decode (mCode 124) 7 = .ok (.aload_n 0, 1) := by decide +kernel
theorem d124_8 : decode (mCode 124) 8 = .ok (.iload_n 1, 1) := by decide +kernel
theorem d124_9 : decode (mCode 124) 9 = .ok (.iload_n 2, 1) := by decide +kernel
theorem d124_10 : decode (mCode 124) 10 = .ok (.iload 4, 2) := by decide +kernel
theorem d124_12 : decode (mCode 124) 12 = .ok (.invokevirtual 70, 3) := by decide +kernel
theorem d124_15 : decode (mCode 124) 15 = .ok (.imul, 1) := by decide +kernel
theorem d124_16 : decode (mCode 124) 16 = .ok (.ifCond .ge 27, 3) := by decide +kernel
theorem d124_19 : decode (mCode 124) 19 = .ok (.aload_n 0, 1) := by decide +kernel
theorem d124_20 : decode (mCode 124) 20 = .ok (.iload_n 3, 1) := by decide +kernel
theorem d124_21 : decode (mCode 124) 21 = .ok (.iload 4, 2) := by decide +kernel
theorem d124_23 : decode (mCode 124) 23 = .ok (.iload_n 1, 1) := by decide +kernel
theorem d124_24 : decode (mCode 124) 24 = .ok (.invokevirtual 70, 3) := by decide +kernel
theorem d124_27 : decode (mCode 124) 27 = .ok (.aload_n 0, 1) := by decide +kernel
theorem d124_28 : decode (mCode 124) 28 = .ok (.iload_n 3, 1) := by decide +kernel
theorem d124_29 : decode (mCode 124) 29 = .ok (.iload 4, 2) := by decide +kernel
theorem d124_31 : decode (mCode 124) 31 = .ok (.iload_n 2, 1) := by decide +kernel
theorem d124_32 : decode (mCode 124) 32 = .ok (.invokevirtual 70, 3) := by decide +kernel
theorem d124_35 : decode (mCode 124) 35 = .ok (.imul, 1) := by decide +kernel
theorem d124_36 : decode (mCode 124) 36 = .ok (.ifCond .ge 7, 3) := by decide +kernel
theorem d124_39 : decode (mCode 124) 39 = .ok (.iconst 1, 1) := by decide +kernel
theorem d124_40 : decode (mCode 124) 40 = .ok (.goto 4, 3) := by decide +kernel
theorem d124_43 : decode (mCode 124) 43 = .ok (.iconst 0, 1) := by decide +kernel
theorem d124_44 : decode (mCode 124) 44 = .ok (.ireturn, 1) := by decide +kernel
theorem d125_0 : decode (mCode 125) 0 = .ok (.aload_n 0, 1) := by decide +kernel
theorem d125_1 : decode (mCode 125) 1 = .ok (.aload_n 0, 1) := by decide +kernel
theorem d125_2 : decode (mCode 125) 2 = .ok (.iload_n 1, 1) := by decide +kernel
theorem d125_3 : decode (mCode 125) 3 = .ok (.iload_n 2, 1) := by decide +kernel
theorem d125_4 : decode (mCode 125) 4 = .ok (.invokevirtual 96, 3) := by decide +kernel
theorem d125_7 : decode (mCode 125) 7 = .ok (.ifCond .eq 7, 3) := by decide +kernel
theorem d125_10 : decode (mCode 125) 10 = .ok (.iconst 0, 1) := by decide +kernel
theorem d125_11 : decode (mCode 125) 11 = .ok (.goto 4, 3) := by decide +kernel
theorem d125_14 : decode (mCode 125) 14 = .ok (.iconst 1, 1) := by decide +kernel
theorem d125_15 : decode (mCode 125) 15 = .ok (.invokevirtual 78, 3) := by decide +kernel
theorem d125_18 : decode (mCode 125) 18 = .ok (.ifCond .eq 5, 3) := by decide +kernel
theorem d125_21 : decode (mCode 125) 21 = .ok (.iconst 0, 1) := by decide +kernel
theorem d125_22 : decode (mCode 125) 22 = .ok (.ireturn, 1) := by decide +kernel
theorem d125_23 : decode (mCode 125) 23 = .ok (.aload_n 0, 1) := by decide +kernel
theorem d125_24 : decode (mCode 125) 24 = .ok (.getfield 16, 3) := by decide +kernel
theorem d125_27 : decode (mCode 125) 27 = .ok (.bipush 40, 2) := by decide +kernel
theorem d125_29 : decode (mCode 125) 29 = .ok (.iload_n 1, 1) := by decide +kernel
theorem d125_30 : decode (mCode 125) 30 = .ok (.imul, 1) := by decide +kernel
theorem d125_31 : decode (mCode 125) 31 = .ok (.iload_n 2, 1) := by decide +kernel
theorem d125_32 : decode (mCode 125) 32 = .ok (.iadd, 1) := by decide +kernel
theorem d125_33 : decode (mCode 125) 33 = .ok (.baload, 1) := by decide +kernel
theorem d125_34 : decode (mCode 125) 34 = .ok (.istore_n 3, 1) := by decide +kernel
theorem d125_35 : decode (mCode 125) 35 = .ok (.aload_n 0, 1) := by decide +kernel
theorem d125_36 : decode (mCode 125) 36 = .ok (.getfield 16, 3) := by decide +kernel
theorem d125_39 : decode (mCode 125) 39 = .ok (.bipush 40, 2) := by decide +kernel
theorem d125_41 : decode (mCode 125) 41 = .ok (.iload_n 1, 1) := by decide +kernel
theorem d125_42 : decode (mCode 125) 42 = .ok (.imul, 1) := by decide +kernel
theorem d125_43 : decode (mCode 125) 43 = .ok (.iload_n 2, 1) := by decide +kernel
theorem d125_44 : decode (mCode 125) 44 = .ok (.iadd, 1) := by decide +kernel
theorem d125_45 : decode (mCode 125) 45 = .ok (.iconst 0, 1) := by decide +kernel
theorem d125_46 : decode (mCode 125) 46 = .ok (.bastore, 1) := by decide +kernel
theorem d125_47 : decode (mCode 125) 47 = .ok (.aload_n 0, 1) := by decide +kernel
theorem d125_48 : decode (mCode 125) 48 = .ok (.getfield 16, 3) := by decide +kernel
theorem d125_51 : decode (mCode 125) 51 = .ok (.bipush 40, 2) := by decide +kernel
theorem d125_53 : decode (mCode 125) 53 = .ok (.iload_n 2, 1) := by decide +kernel
theorem d125_54 : decode (mCode 125) 54 = .ok (.imul, 1) := by decide +kernel
theorem d125_55 : decode (mCode 125) 55 = .ok (.iload_n 1, 1) := by decide +kernel
theorem d125_56 : decode (mCode 125) 56 = .ok (.iadd, 1) := by decide +kernel
theorem d125_57 : decode (mCode 125) 57 = .ok (.iconst 0, 1) := by decide +kernel
theorem d125_58 : decode (mCode 125) 58 = .ok (.bastore, 1) := by decide +kernel
theorem d125_59 : decode (mCode 125) 59 = .ok (.aload_n 0, 1) := by decide +kernel
theorem d125_60 : decode (mCode 125) 60 = .ok (.iconst 0, 1) := by decide +kernel
theorem d125_61 : decode (mCode 125) 61 = .ok (.putfield 85, 3) := by decide +kernel
theorem d125_64 : decode (mCode 125) 64 = .ok (.iload_n 3, 1) := by decide +kernel
theorem d125_65 : decode (mCode 125) 65 = .ok (.ireturn, 1) := by decide +kernel
theorem d126_0 : decode (mCode 126) 0 = .ok (.aload_n 0, 1) := by decide +kernel
theorem d126_1 : decode (mCode 126) 1 = .ok (.iconst 0, 1) := by decide +kernel
theorem d126_2 : decode (mCode 126) 2 = .ok (.putfield 42, 3) := by decide +kernel
theorem d126_5 : decode (mCode 126) 5 = .ok (.aload_n 0, 1) := by decide +kernel
theorem d126_6 : decode (mCode 126) 6 = .ok (.getfield 52, 3) := by decide +kernel
theorem d126_9 : decode (mCode 126) 9 = .ok (.istore_n 1, 1) := by decide +kernel
theorem d126_10 : decode (mCode 126) 10 = .ok (.aload_n 0, 1) := by decide +kernel
theorem d126_11 : decode (mCode 126) 11 = .ok (.iconst 0, 1) := by decide +kernel
theorem d126_12 : decode (mCode 126) 12 = .ok (.putfield 52, 3) := by decide +kernel
theorem d126_15 : decode (mCode 126) 15 = .ok (.iconst 0, 1) := by decide +kernel
theorem d126_16 : decode (mCode 126) 16 = .ok (.istore_n 2, 1) := by decide +kernel
theorem d126_37 : decode (mCode 126) 37 = .ok (.aload_n 0, 1) := by decide +kernel
theorem d126_38 : decode (mCode 126) 38 = .ok (.iconst 0, 1) := by decide +kernel
theorem d126_39 : decode (mCode 126) 39 = .ok (.putfield 85, 3) := by decide +kernel
theorem d126_42 : decode (mCode 126) 42 = .ok (.iload_n 1, 1) := by decide +kernel
theorem d126_43 : decode (mCode 126) 43 = .ok (.ireturn, 1) := by decide +kernel
theorem d127_0 : decode (mCode 127) 0 = .ok (.aload_n 0, 1) := by decide +kernel
theorem d127_1 : decode (mCode 127) 1 = .ok (.iconst 0, 1) := by decide +kernel
theorem d127_2 : decode (mCode 127) 2 = .ok (.putfield 42, 3) := by decide +kernel
theorem d127_5 : decode (mCode 127) 5 = .ok (.aload_n 0, 1) := by decide +kernel
theorem d127_6 : decode (mCode 127) 6 = .ok (.invokevirtual 134, 3) := by decide +kernel
theorem d127_9 : decode (mCode 127) 9 = .ok (.iload_n 1, 1) := by decide +kernel
theorem d127_10 : decode (mCode 127) 10 = .ok (.ifCond .eq 8, 3) := by decide +kernel
theorem d127_13 : decode (mCode 127) 13 = .ok (.iload_n 1, 1) := by decide +kernel
theorem d127_14 : decode (mCode 127) 14 = .ok (.iconst 2, 1) := by decide +kernel
theorem d127_15 : decode (mCode 127) 15 = .ok (.if_icmp .ne 19, 3) := by decide +kernel
theorem d127_18 : decode (mCode 127) 18 = .ok (.iload_n 1, 1) := by decide +kernel
theorem d127_19 : decode (mCode 127) 19 = .ok (.ifCond .ne 10, 3) := by decide +kernel
theorem d127_22 : decode (mCode 127) 22 = .ok (.aload_n 0, 1) := by decide +kernel
theorem d127_23 : decode (mCode 127) 23 = .ok (.getfield 52, 3) := by decide +kernel
theorem d127_26 : decode (mCode 127) 26 = .ok (.goto 7, 3) := by decide +kernel
theorem d127_29 : decode (mCode 127) 29 = .ok (.aload_n 0, 1) := by decide +kernel
theorem d127_30 : decode (mCode 127) 30 = .ok (.getfield 124, 3) := by decide +kernel
theorem d127_33 : decode (mCode 127) 33 = .ok (.ireturn, 1) := by decide +kernel
theorem d127_34 : decode (mCode 127) 34 = .ok (.iconst 0, 1) := by decide +kernel
theorem d127_35 : decode (mCode 127) 35 = .ok (.istore_n 2, 1) := by decide +kernel
theorem d127_36 : decode (mCode 127) 36 = .ok (.iconst 0, 1) := by decide +kernel
theorem d127_37 : decode (mCode 127) 37 = .ok (.istore_n 3, 1) := by decide +kernel
theorem d127_38 : decode (mCode 127) 38 = .ok (.iload_n 3, 1) := by decide +kernel
theorem d127_39 : decode (mCode 127) 39 = .ok (.aload_n 0, 1) := by decide +kernel
theorem d127_40 : decode (mCode 127) 40 = .ok (.getfield 52, 3) := by decide +kernel
theorem d127_43 : decode (mCode 127) 43 = .ok (.if_icmp .ge 128, 3) := by decide +kernel
theorem d127_46 : decode (mCode 127) 46 = .ok (.iconst 0, 1) := by decide +kernel
theorem d127_47 : decode (mCode 127) 47 = .ok (.istore 4, 2) := by decide +kernel
theorem d127_49 : decode (mCode 127) 49 = .ok (.iload 4, 2) := by decide +kernel
theorem d127_51 : decode (mCode 127) 51 = .ok (.iload_n 3, 1) := by decide +kernel
theorem d127_52 : decode (mCode 127) 52 = .ok (.if_icmp .ge 113, 3) := by decide +kernel
theorem d127_55 : decode (mCode 127) 55 = .ok (.aload_n 0, 1) := by decide +kernel
theorem d127_56 : decode (mCode 127) 56 = .ok (.getfield 124, 3) := by decide +kernel
theorem d127_59 : decode (mCode 127) 59 = .ok (.ifCond .le 22, 3) := by decide +kernel
theorem d127_62 : decode (mCode 127) 62 = .ok (.aload_n 0, 1) := by decide +kernel
theorem d127_63 : decode (mCode 127) 63 = .ok (.getfield 20, 3) := by decide +kernel
theorem d127_66 : decode (mCode 127) 66 = .ok (.bipush 40, 2) := by decide +kernel
theorem d127_68 : decode (mCode 127) 68 = .ok (.iload_n 3, 1) := by decide +kernel
theorem d127_69 : decode (mCode 127) 69 = .ok (.imul, 1) := by decide +kernel
theorem d127_70 : decode (mCode 127) 70 = .ok (.iload 4, 2) := by decide +kernel
theorem d127_72 : decode (mCode 127) 72 = .ok (.iadd, 1) := by decide +kernel
theorem d127_73 : decode (mCode 127) 73 = .ok (.baload, 1) := by decide +kernel
theorem d127_74 : decode (mCode 127) 74 = .ok (.ifCond .eq 7, 3) := by decide +kernel
theorem d127_77 : decode (mCode 127) 77 = .ok (.iconst 1, 1) := by decide +kernel
theorem d127_78 : decode (mCode 127) 78 = .ok (.goto 4, 3) := by decide +kernel
theorem d127_81 : decode (mCode 127) 81 = .ok (.iconst 0, 1) := by decide +kernel
theorem d127_82 : decode (mCode 127) 82 = .ok (.istore 5, 2) := by decide +kernel
theorem d127_84 : decode (mCode 127) 84 = .ok (.iload_n 1, 1) := by decide +kernel
theorem d127_85 : decode (mCode 127) 85 = .ok (.iconst 1, 1) := by decide +kernel
theorem d127_86 : decode (mCode 127) 86 = .ok (.if_icmp .ne 18, 3) := by decide +kernel
theorem d127_89 : decode (mCode 127) 89 = .ok (.aload_n 0, 1) := by decide +kernel
theorem d127_90 : decode (mCode 127) 90 = .ok (.getfield 16, 3) := by decide +kernel
theorem d127_93 : decode (mCode 127) 93 = .ok (.bipush 40, 2) := by decide +kernel
theorem d127_95 : decode (mCode 127) 95 = .ok (.iload_n 3, 1) := by decide +kernel
theorem d127_96 : decode (mCode 127) 96 = .ok (.imul, 1) := by decide +kernel
theorem d127_97 : decode (mCode 127) 97 = .ok (.iload 4, 2) := by decide +kernel
theorem d127_99 : decode (mCode 127) 99 = .ok (.iadd, 1) := by decide +kernel
theorem d127_100 : decode (mCode 127) 100 = .ok (.baload, 1) := by decide +kernel
theorem d127_101 : decode (mCode 127) 101 = .ok (.goto 43, 3) := by decide +kernel
theorem d127_104 : decode (mCode 127) 104 = .ok (.iload_n 1, 1) := by decide +kernel
theorem d127_105 : decode (mCode 127) 105 = .ok (.iconst 3, 1) := by decide +kernel
theorem d127_106 : decode (mCode 127) 106 = .ok (.if_icmp .ne 8, 3) := by decide +kernel
theorem d127_109 : decode (mCode 127) 109 = .ok (.iload 5, 2) := by decide +kernel
theorem d127_111 : decode (mCode 127) 111 = .ok (.goto 33, 3) := by decide +kernel
theorem d127_114 : decode (mCode 127) 114 = .ok (.iload 5, 2) := by decide +kernel
theorem d127_116 : decode (mCode 127) 116 = .ok (.ifCond .eq 27, 3) := by decide +kernel
theorem d127_119 : decode (mCode 127) 119 = .ok (.aload_n 0, 1) := by decide +kernel
theorem d127_120 : decode (mCode 127) 120 = .ok (.iload_n 3, 1) := by decide +kernel
theorem d127_121 : decode (mCode 127) 121 = .ok (.iload 4, 2) := by decide +kernel
theorem d127_123 : decode (mCode 127) 123 = .ok (.invokevirtual 137, 3) := by decide +kernel
theorem d127_126 : decode (mCode 127) 126 = .ok (.ifCond .lt 13, 3) := by decide +kernel
theorem d127_129 : decode (mCode 127) 129 = .ok (.aload_n 0, 1) := by decide +kernel
theorem d127_130 : decode (mCode 127) 130 = .ok (.iload 4, 2) := by decide +kernel
theorem d127_132 : decode (mCode 127) 132 = .ok (.iload_n 3, 1) := by decide +kernel
theorem d127_133 : decode (mCode 127) 133 = .ok (.invokevirtual 137, 3) := by decide +kernel
theorem d127_136 : decode (mCode 127) 136 = .ok (.ifCond .ge 7, 3) := by decide +kernel
theorem d127_139 : decode (mCode 127) 139 = .ok (.iconst 1, 1) := by decide +kernel
theorem d127_140 : decode (mCode 127) 140 = .ok (.goto 4, 3) := by decide +kernel
theorem d127_143 : decode (mCode 127) 143 = .ok (.iconst 0, 1) := by decide +kernel
theorem d127_144 : decode (mCode 127) 144 = .ok (.istore 6, 2) := by decide +kernel
theorem d127_146 : decode (mCode 127) 146 = .ok (.iload 6, 2) := by decide +kernel
theorem d127_148 : decode (mCode 127) 148 = .ok (.ifCond .eq 9, 3) := by decide +kernel
theorem d127_151 : decode (mCode 127) 151 = .ok (.iload_n 2, 1) := by decide +kernel
theorem d127_152 : decode (mCode 127) 152 = .ok (.iconst 1, 1) := by decide +kernel
theorem d127_153 : decode (mCode 127) 153 = .ok (.iadd, 1) := by decide +kernel
theorem d127_154 : decode (mCode 127) 154 = .ok (.goto 4, 3) := by decide +kernel
theorem d127_157 : decode (mCode 127) 157 = .ok (.iload_n 2, 1) := by decide +kernel
theorem d127_158 : decode (mCode 127) 158 = .ok (.istore_n 2, 1) := by decide +kernel
theorem d127_159 : decode (mCode 127) 159 = .ok (.iinc 4 1, 3) := by decide +kernel
theorem d127_162 : decode (mCode 127) 162 = .ok (.goto (-113), 3) := by decide +kernel
theorem d127_165 : decode (mCode 127) 165 = .ok (.iinc 3 1, 3) := by decide +kernel
theorem d127_168 : decode (mCode 127) 168 = .ok (.goto (-130), 3) := by decide +kernel
theorem d127_171 : decode (mCode 127) 171 = .ok (.iload_n 1, 1) := by decide +kernel
theorem d127_172 : decode (mCode 127) 172 = .ok (.iconst 1, 1) := by decide +kernel
theorem d127_173 : decode (mCode 127) 173 = .ok (.if_icmp .eq 13, 3) := by decide +kernel
theorem d127_176 : decode (mCode 127) 176 = .ok (.iload_n 1, 1) := by decide +kernel
theorem d127_177 : decode (mCode 127) 177 = .ok (.iconst 3, 1) := by decide +kernel
theorem d127_178 : decode (mCode 127) 178 = .ok (.if_icmp .eq 8, 3) := by decide +kernel
theorem d127_181 : decode (mCode 127) 181 = .ok (.iload_n 1, 1) := by decide +kernel
theorem d127_182 : decode (mCode 127) 182 = .ok (.iconst 4, 1) := by decide +kernel
theorem d127_183 : decode (mCode 127) 183 = .ok (.if_icmp .ne 7, 3) := by decide +kernel
theorem d127_186 : decode (mCode 127) 186 = .ok (.iload_n 2, 1) := by decide +kernel
theorem d127_187 : decode (mCode 127) 187 = .ok (.goto 4, 3) := by decide +kernel
theorem d127_190 : decode (mCode 127) 190 = .ok (.iconst (-1), 1) := by decide +kernel
theorem d127_191 : decode (mCode 127) 191 = .ok (.ireturn, 1) := by decide +kernel
theorem d128_0 : decode (mCode 128) 0 = .ok (.aload_n 0, 1) := by decide +kernel
theorem d128_1 : decode (mCode 128) 1 = .ok (.getfield 85, 3) := by decide +kernel
theorem d128_4 : decode (mCode 128) 4 = .ok (.ifCond .eq 4, 3) := by decide +kernel
theorem d128_7 : decode (mCode 128) 7 = .ok (.return_, 1) := by decide +kernel
theorem d128_8 : decode (mCode 128) 8 = .ok (.aload_n 0, 1) := by decide +kernel
theorem d128_9 : decode (mCode 128) 9 = .ok (.iconst 1, 1) := by decide +kernel
theorem d128_10 : decode (mCode 128) 10 = .ok (.putfield 85, 3) := by decide +kernel
theorem d128_13 : decode (mCode 128) 13 = .ok (.aload_n 0, 1) := by decide +kernel
theorem d128_14 : decode (mCode 128) 14 = .ok (.iconst 0, 1) := by decide +kernel
theorem d128_15 : decode (mCode 128) 15 = .ok (.putfield 124, 3) := by decide +kernel
theorem d128_18 : decode (mCode 128) 18 = .ok (.iconst 0, 1) := by decide +kernel
theorem d128_19 : decode (mCode 128) 19 = .ok (.istore_n 1, 1) := by decide +kernel
theorem d128_45 : decode (mCode 128) 45 = .ok (.aload_n 0, 1) := by decide +kernel
theorem d128_46 : decode (mCode 128) 46 = .ok (.invokevirtual 127, 3) := by decide +kernel
theorem d128_49 : decode (mCode 128) 49 = .ok (.ifCond .eq 4, 3) := by decide +kernel
theorem d128_52 : decode (mCode 128) 52 = .ok (.return_, 1) := by decide +kernel
theorem d128_53 : decode (mCode 128) 53 = .ok (.iconst 0, 1) := by decide +kernel
theorem d128_54 : decode (mCode 128) 54 = .ok (.istore_n 1, 1) := by decide +kernel
theorem d128_55 : decode (mCode 128) 55 = .ok (.iload_n 1, 1) := by decide +kernel
theorem d128_56 : decode (mCode 128) 56 = .ok (.aload_n 0, 1) := by decide +kernel
theorem d128_57 : decode (mCode 128) 57 = .ok (.getfield 52, 3) := by decide +kernel
theorem d128_60 : decode (mCode 128) 60 = .ok (.if_icmp .ge 56, 3) := by decide +kernel
theorem d128_63 : decode (mCode 128) 63 = .ok (.iconst 0, 1) := by decide +kernel
theorem d128_64 : decode (mCode 128) 64 = .ok (.istore_n 2, 1) := by decide +kernel
theorem d128_65 : decode (mCode 128) 65 = .ok (.iload_n 2, 1) := by decide +kernel
theorem d128_66 : decode (mCode 128) 66 = .ok (.iload_n 1, 1) := by decide +kernel
theorem d128_67 : decode (mCode 128) 67 = .ok (.if_icmp .ge 43, 3) := by decide +kernel
theorem d128_70 : decode (mCode 128) 70 = .ok (.aload_n 0, 1) := by decide +kernel
theorem d128_71 : decode (mCode 128) 71 = .ok (.getfield 20, 3) := by decide +kernel
theorem d128_74 : decode (mCode 128) 74 = .ok (.bipush 40, 2) := by decide +kernel
theorem d128_76 : decode (mCode 128) 76 = .ok (.iload_n 1, 1) := by decide +kernel
theorem d128_77 : decode (mCode 128) 77 = .ok (.imul, 1) := by decide +kernel
theorem d128_78 : decode (mCode 128) 78 = .ok (.iload_n 2, 1) := by decide +kernel
theorem d128_79 : decode (mCode 128) 79 = .ok (.iadd, 1) := by decide +kernel
theorem d128_80 : decode (mCode 128) 80 = .ok (.baload, 1) := by decide +kernel
theorem d128_81 : decode (mCode 128) 81 = .ok (.ifCond .ne 23, 3) := by decide +kernel
theorem d128_84 : decode (mCode 128) 84 = .ok (.aload_n 0, 1) := by decide +kernel
theorem d128_85 : decode (mCode 128) 85 = .ok (.iload_n 1, 1) := by decide +kernel
theorem d128_86 : decode (mCode 128) 86 = .ok (.iload_n 2, 1) := by decide +kernel
theorem d128_87 : decode (mCode 128) 87 = .ok (.aload_n 0, 1) := by decide +kernel
theorem d128_88 : decode (mCode 128) 88 = .ok (.getfield 20, 3) := by decide +kernel
theorem d128_91 : decode (mCode 128) 91 = .ok (.invokevirtual 99, 3) := by decide +kernel
theorem d128_94 : decode (mCode 128) 94 = .ok (.ifCond .eq 10, 3) := by decide +kernel
theorem d128_97 : decode (mCode 128) 97 = .ok (.aload_n 0, 1) := by decide +kernel
theorem d128_98 : decode (mCode 128) 98 = .ok (.iload_n 1, 1) := by decide +kernel
theorem d128_99 : decode (mCode 128) 99 = .ok (.iload_n 2, 1) := by decide +kernel
theorem d128_100 : decode (mCode 128) 100 = .ok (.iconst 1, 1) := by decide +kernel
theorem d128_101 : decode (mCode 128) 101 = .ok (.invokevirtual 120, 3) := by decide +kernel
theorem d128_104 : decode (mCode 128) 104 = .ok (.iinc 2 1, 3) := by decide +kernel
theorem d128_107 : decode (mCode 128) 107 = .ok (.goto (-42), 3) := by decide +kernel
theorem d128_110 : decode (mCode 128) 110 = .ok (.iinc 1 1, 3) := by decide +kernel
theorem d128_113 : decode (mCode 128) 113 = .ok (.goto (-58), 3) := by decide +kernel
theorem d128_116 : decode (mCode 128) 116 = .ok (.iconst 1, 1) := by decide +kernel
theorem d128_117 : decode (mCode 128) 117 = .ok (.istore_n 1, 1) := by decide +kernel
theorem d128_118 : decode (mCode 128) 118 = .ok (.iload_n 1, 1) := by decide +kernel
theorem d128_119 : decode (mCode 128) 119 = .ok (.ifCond .eq 76, 3) := by decide +kernel
theorem d128_122 : decode (mCode 128) 122 = .ok (.iconst 0, 1) := by decide +kernel
theorem d128_123 : decode (mCode 128) 123 = .ok (.istore_n 1, 1) := by decide +kernel
theorem d128_124 : decode (mCode 128) 124 = .ok (.iconst 0, 1) := by decide +kernel
theorem d128_125 : decode (mCode 128) 125 = .ok (.istore_n 2, 1) := by decide +kernel
theorem d128_126 : decode (mCode 128) 126 = .ok (.iload_n 2, 1) := by decide +kernel
theorem d128_127 : decode (mCode 128) 127 = .ok (.aload_n 0, 1) := by decide +kernel
theorem d128_128 : decode (mCode 128) 128 = .ok (.getfield 52, 3) := by decide +kernel
theorem d128_131 : decode (mCode 128) 131 = .ok (.if_icmp .ge 61, 3) := by decide +kernel
theorem d128_134 : decode (mCode 128) 134 = .ok (.iconst 0, 1) := by decide +kernel
theorem d128_135 : decode (mCode 128) 135 = .ok (.istore_n 3, 1) := by decide +kernel
theorem d128_136 : decode (mCode 128) 136 = .ok (.iload_n 3, 1) := by decide +kernel
theorem d128_137 : decode (mCode 128) 137 = .ok (.iload_n 2, 1) := by decide +kernel
theorem d128_138 : decode (mCode 128) 138 = .ok (.if_icmp .ge 48, 3) := by decide +kernel
theorem d128_141 : decode (mCode 128) 141 = .ok (.aload_n 0, 1) := by decide +kernel
theorem d128_142 : decode (mCode 128) 142 = .ok (.getfield 20, 3) := by decide +kernel
theorem d128_145 : decode (mCode 128) 145 = .ok (.bipush 40, 2) := by decide +kernel
theorem d128_147 : decode (mCode 128) 147 = .ok (.iload_n 2, 1) := by decide +kernel
theorem d128_148 : decode (mCode 128) 148 = .ok (.imul, 1) := by decide +kernel
theorem d128_149 : decode (mCode 128) 149 = .ok (.iload_n 3, 1) := by decide +kernel
theorem d128_150 : decode (mCode 128) 150 = .ok (.iadd, 1) := by decide +kernel
theorem d128_151 : decode (mCode 128) 151 = .ok (.baload, 1) := by decide +kernel
theorem d128_152 : decode (mCode 128) 152 = .ok (.ifCond .eq 28, 3) := by decide +kernel
theorem d128_155 : decode (mCode 128) 155 = .ok (.aload_n 0, 1) := by decide +kernel
theorem d128_156 : decode (mCode 128) 156 = .ok (.getfield 16, 3) := by decide +kernel
theorem d128_159 : decode (mCode 128) 159 = .ok (.bipush 40, 2) := by decide +kernel
theorem d128_161 : decode (mCode 128) 161 = .ok (.iload_n 2, 1) := by decide +kernel
theorem d128_162 : decode (mCode 128) 162 = .ok (.imul, 1) := by decide +kernel
theorem d128_163 : decode (mCode 128) 163 = .ok (.iload_n 3, 1) := by decide +kernel
theorem d128_164 : decode (mCode 128) 164 = .ok (.iadd, 1) := by decide +kernel
theorem d128_165 : decode (mCode 128) 165 = .ok (.baload, 1) := by decide +kernel
theorem d128_166 : decode (mCode 128) 166 = .ok (.ifCond .ne 14, 3) := by decide +kernel
theorem d128_169 : decode (mCode 128) 169 = .ok (.aload_n 0, 1) := by decide +kernel
theorem d128_170 : decode (mCode 128) 170 = .ok (.iload_n 2, 1) := by decide +kernel
theorem d128_171 : decode (mCode 128) 171 = .ok (.iload_n 3, 1) := by decide +kernel
theorem d128_172 : decode (mCode 128) 172 = .ok (.invokevirtual 131, 3) := by decide +kernel
theorem d128_175 : decode (mCode 128) 175 = .ok (.ifCond .eq 5, 3) := by decide +kernel
theorem d128_178 : decode (mCode 128) 178 = .ok (.iconst 1, 1) := by decide +kernel
theorem d128_179 : decode (mCode 128) 179 = .ok (.istore_n 1, 1) := by decide +kernel
theorem d128_180 : decode (mCode 128) 180 = .ok (.iinc 3 1, 3) := by decide +kernel
theorem d128_183 : decode (mCode 128) 183 = .ok (.goto (-47), 3) := by decide +kernel
theorem d128_186 : decode (mCode 128) 186 = .ok (.iinc 2 1, 3) := by decide +kernel
theorem d128_189 : decode (mCode 128) 189 = .ok (.goto (-63), 3) := by decide +kernel
theorem d128_192 : decode (mCode 128) 192 = .ok (.goto (-74), 3) := by decide +kernel
theorem d128_195 : decode (mCode 128) 195 = .ok (.iconst 0, 1) := by decide +kernel
theorem d128_196 : decode (mCode 128) 196 = .ok (.istore_n 2, 1) := by decide +kernel
theorem d128_197 : decode (mCode 128) 197 = .ok (.iload_n 2, 1) := by decide +kernel
theorem d128_198 : decode (mCode 128) 198 = .ok (.aload_n 0, 1) := by decide +kernel
theorem d128_199 : decode (mCode 128) 199 = .ok (.getfield 52, 3) := by decide +kernel
theorem d128_202 : decode (mCode 128) 202 = .ok (.if_icmp .ge 109, 3) := by decide +kernel
theorem d128_205 : decode (mCode 128) 205 = .ok (.iload_n 2, 1) := by decide +kernel
theorem d128_206 : decode (mCode 128) 206 = .ok (.iconst 1, 1) := by decide +kernel
theorem d128_207 : decode (mCode 128) 207 = .ok (.iadd, 1) := by decide +kernel
theorem d128_208 : decode (mCode 128) 208 = .ok (.istore_n 3, 1) := by decide +kernel
theorem d128_209 : decode (mCode 128) 209 = .ok (.iload_n 3, 1) := by decide +kernel
theorem d128_210 : decode (mCode 128) 210 = .ok (.aload_n 0, 1) := by decide +kernel
theorem d128_211 : decode (mCode 128) 211 = .ok (.getfield 52, 3) := by decide +kernel
theorem d128_214 : decode (mCode 128) 214 = .ok (.if_icmp .ge 91, 3) := by decide +kernel
theorem d128_217 : decode (mCode 128) 217 = .ok (.iload_n 2, 1) := by decide +kernel
theorem d128_218 : decode (mCode 128) 218 = .ok (.iconst 1, 1) := by decide +kernel
theorem d128_219 : decode (mCode 128) 219 = .ok (.iadd, 1) := by decide +kernel
theorem d128_220 : decode (mCode 128) 220 = .ok (.istore 4, 2) := by decide +kernel
theorem d128_222 : decode (mCode 128) 222 = .ok (.iload 4, 2) := by decide +kernel
theorem d128_224 : decode (mCode 128) 224 = .ok (.aload_n 0, 1) := by decide +kernel
theorem d128_225 : decode (mCode 128) 225 = .ok (.getfield 52, 3) := by decide +kernel
theorem d128_228 : decode (mCode 128) 228 = .ok (.if_icmp .ge 71, 3) := by decide +kernel
theorem d128_231 : decode (mCode 128) 231 = .ok (.aload_n 0, 1) := by decide +kernel
theorem d128_232 : decode (mCode 128) 232 = .ok (.iload_n 2, 1) := by decide +kernel
theorem d128_233 : decode (mCode 128) 233 = .ok (.iload_n 3, 1) := by decide +kernel
theorem d128_234 : decode (mCode 128) 234 = .ok (.iload 4, 2) := by decide +kernel
theorem d128_236 : decode (mCode 128) 236 = .ok (.invokevirtual 106, 3) := by decide +kernel
theorem d128_239 : decode (mCode 128) 239 = .ok (.ifCond .eq 54, 3) := by decide +kernel
theorem d128_242 : decode (mCode 128) 242 = .ok (.aload_n 0, 1) := by decide +kernel
theorem d128_243 : decode (mCode 128) 243 = .ok (.getfield 23, 3) := by decide +kernel
theorem d128_246 : decode (mCode 128) 246 = .ok (.iconst 3, 1) := by decide +kernel
theorem d128_247 : decode (mCode 128) 247 = .ok (.aload_n 0, 1) := by decide +kernel
theorem d128_248 : decode (mCode 128) 248 = .ok (.getfield 124, 3) := by decide +kernel
theorem d128_251 : decode (mCode 128) 251 = .ok (.imul, 1) := by decide +kernel
theorem d128_252 : decode (mCode 128) 252 = .ok (.iload_n 2, 1) := by decide +kernel
theorem d128_253 : decode (mCode 128) 253 = .ok (.iastore, 1) := by decide +kernel
theorem d128_254 : decode (mCode 128) 254 = .ok (.aload_n 0, 1) := by decide +kernel
theorem d128_255 : decode (mCode 128) 255 = .ok (.getfield 23, 3) := by decide +kernel
theorem d128_258 : decode (mCode 128) 258 = .ok (.iconst 3, 1) := by decide +kernel
theorem d128_259 : decode (mCode 128) 259 = .ok (.aload_n 0, 1) := by decide +kernel
theorem d128_260 : decode (mCode 128) 260 = .ok (.getfield 124, 3) := by decide +kernel
theorem d128_263 : decode (mCode 128) 263 = .ok (.imul, 1) := by decide +kernel
theorem d128_264 : decode (mCode 128) 264 = .ok (.iconst 1, 1) := by decide +kernel
theorem d128_265 : decode (mCode 128) 265 = .ok (.iadd, 1) := by decide +kernel
theorem d128_266 : decode (mCode 128) 266 = .ok (.iload_n 3, 1) := by decide +kernel
theorem d128_267 : decode (mCode 128) 267 = .ok (.iastore, 1) := by decide +kernel
theorem d128_268 : decode (mCode 128) 268 = .ok (.aload_n 0, 1) := by decide +kernel
theorem d128_269 : decode (mCode 128) 269 = .ok (.getfield 23, 3) := by decide +kernel
theorem d128_272 : decode (mCode 128) 272 = .ok (.iconst 3, 1) := by decide +kernel
theorem d128_273 : decode (mCode 128) 273 = .ok (.aload_n 0, 1) := by decide +kernel
theorem d128_274 : decode (mCode 128) 274 = .ok (.getfield 124, 3) := by decide +kernel
theorem d128_277 : decode (mCode 128) 277 = .ok (.imul, 1) := by decide +kernel
theorem d128_278 : decode (mCode 128) 278 = .ok (.iconst 2, 1) := by decide +kernel
theorem d128_279 : decode (mCode 128) 279 = .ok (.iadd, 1) := by decide +kernel
theorem d128_280 : decode (mCode 128) 280 = .ok (.iload 4, 2) := by decide +kernel
theorem d128_282 : decode (mCode 128) 282 = .ok (.iastore, 1) := by decide +kernel
theorem d128_283 : decode (mCode 128) 283 = .ok (.aload_n 0, 1) := by decide +kernel
theorem d128_284 : decode (mCode 128) 284 = .ok (.dup, 1) := by decide +kernel
theorem d128_285 : decode (mCode 128) 285 = .ok (.getfield 124, 3) := by decide +kernel
theorem d128_288 : decode (mCode 128) 288 = .ok (.iconst 1, 1) := by decide +kernel
theorem d128_289 : decode (mCode 128) 289 = .ok (.iadd, 1) := by decide +kernel
theorem d128_290 : decode (mCode 128) 290 = .ok (.putfield 124, 3) := by decide +kernel
theorem d128_293 : decode (mCode 128) 293 = .ok (.iinc 4 1, 3) := by decide +kernel
theorem d128_296 : decode (mCode 128) 296 = .ok (.goto (-74), 3) := by decide +kernel
theorem d128_299 : decode (mCode 128) 299 = .ok (.iinc 3 1, 3) := by decide +kernel
theorem d128_302 : decode (mCode 128) 302 = .ok (.goto (-93), 3) := by decide +kernel
theorem d128_305 : decode (mCode 128) 305 = .ok (.iinc 2 1, 3) := by decide +kernel
theorem d128_308 : decode (mCode 128) 308 = .ok (.goto (-111), 3) := by decide +kernel
theorem d128_311 : decode (mCode 128) 311 = .ok (.return_, 1) := by decide +kernel
theorem d129_0 : decode (mCode 129) 0 = .ok (.iconst 1, 1) := by decide +kernel
theorem d129_1 : decode (mCode 129) 1 = .ok (.istore_n 1, 1) := by decide +kernel
theorem d129_2 : decode (mCode 129) 2 = .ok (.iconst 2, 1) := by decide +kernel
theorem d129_3 : decode (mCode 129) 3 = .ok (.istore_n 2, 1) := by decide +kernel
theorem d129_4 : decode (mCode 129) 4 = .ok (.iload_n 2, 1) := by decide +kernel
theorem d129_5 : decode (mCode 129) 5 = .ok (.aload_n 0, 1) := by decide +kernel
theorem d129_6 : decode (mCode 129) 6 = .ok (.getfield 52, 3) := by decide +kernel
theorem d129_9 : decode (mCode 129) 9 = .ok (.if_icmp .ge 29, 3) := by decide +kernel
theorem d129_12 : decode (mCode 129) 12 = .ok (.iload_n 1, 1) := by decide +kernel
theorem d129_13 : decode (mCode 129) 13 = .ok (.ifCond .eq 17, 3) := by decide +kernel
theorem d129_16 : decode (mCode 129) 16 = .ok (.aload_n 0, 1) := by decide +kernel
theorem d129_17 : decode (mCode 129) 17 = .ok (.iconst 0, 1) := by decide +kernel
theorem d129_18 : decode (mCode 129) 18 = .ok (.iconst 1, 1) := by decide +kernel
theorem d129_19 : decode (mCode 129) 19 = .ok (.iload_n 2, 1) := by decide +kernel
theorem d129_20 : decode (mCode 129) 20 = .ok (.invokevirtual 70, 3) := by decide +kernel
theorem d129_23 : decode (mCode 129) 23 = .ok (.ifCond .ne 7, 3) := by decide +kernel
theorem d129_26 : decode (mCode 129) 26 = .ok (.iconst 1, 1) := by decide +kernel
theorem d129_27 : decode (mCode 129) 27 = .ok (.goto 4, 3) := by decide +kernel
theorem d129_30 : decode (mCode 129) 30 = .ok (.iconst 0, 1) := by decide +kernel
theorem d129_31 : decode (mCode 129) 31 = .ok (.istore_n 1, 1) := by decide +kernel
theorem d129_32 : decode (mCode 129) 32 = .ok (.iinc 2 1, 3) := by decide +kernel
theorem d129_35 : decode (mCode 129) 35 = .ok (.goto (-31), 3) := by decide +kernel
theorem d129_38 : decode (mCode 129) 38 = .ok (.iload_n 1, 1) := by decide +kernel
theorem d129_39 : decode (mCode 129) 39 = .ok (.ireturn, 1) := by decide +kernel
theorem d130_0 : decode (mCode 130) 0 = .ok (.aload_n 0, 1) := by decide +kernel
theorem d130_1 : decode (mCode 130) 1 = .ok (.getfield 20, 3) := by decide +kernel
theorem d130_4 : decode (mCode 130) 4 = .ok (.bipush 40, 2) := by decide +kernel
theorem d130_6 : decode (mCode 130) 6 = .ok (.iload_n 1, 1) := by decide +kernel
theorem d130_7 : decode (mCode 130) 7 = .ok (.imul, 1) := by decide +kernel
theorem d130_8 : decode (mCode 130) 8 = .ok (.iload_n 2, 1) := by decide +kernel
theorem d130_9 : decode (mCode 130) 9 = .ok (.iadd, 1) := by decide +kernel
theorem d130_10 : decode (mCode 130) 10 = .ok (.iload_n 3, 1) := by decide +kernel
theorem d130_11 : decode (mCode 130) 11 = .ok (.bastore, 1) := by decide +kernel
theorem d130_12 : decode (mCode 130) 12 = .ok (.aload_n 0, 1) := by decide +kernel
theorem d130_13 : decode (mCode 130) 13 = .ok (.getfield 20, 3) := by decide +kernel
theorem d130_16 : decode (mCode 130) 16 = .ok (.bipush 40, 2) := by decide +kernel
theorem d130_18 : decode (mCode 130) 18 = .ok (.iload_n 2, 1) := by decide +kernel
theorem d130_19 : decode (mCode 130) 19 = .ok (.imul, 1) := by decide +kernel
theorem d130_20 : decode (mCode 130) 20 = .ok (.iload_n 1, 1) := by decide +kernel
theorem d130_21 : decode (mCode 130) 21 = .ok (.iadd, 1) := by decide +kernel
theorem d130_22 : decode (mCode 130) 22 = .ok (.iload_n 3, 1) := by decide +kernel
theorem d130_23 : decode (mCode 130) 23 = .ok (.bastore, 1) := by decide +kernel
theorem d130_24 : decode (mCode 130) 24 = .ok (.return_, 1) := by decide +kernel
theorem d131_0 : decode (mCode 131) 0 = .ok (.aload_n 0, 1) := by decide +kernel
theorem d131_1 : decode (mCode 131) 1 = .ok (.iload_n 1, 1) := by decide +kernel
theorem d131_2 : decode (mCode 131) 2 = .ok (.iload_n 2, 1) := by decide +kernel
theorem d131_3 : decode (mCode 131) 3 = .ok (.invokevirtual 109, 3) := by decide +kernel
theorem d131_6 : decode (mCode 131) 6 = .ok (.istore_n 3, 1) := by decide +kernel
theorem d131_7 : decode (mCode 131) 7 = .ok (.aload_n 0, 1) := by decide +kernel
theorem d131_8 : decode (mCode 131) 8 = .ok (.iload_n 2, 1) := by decide +kernel
theorem d131_9 : decode (mCode 131) 9 = .ok (.iload_n 1, 1) := by decide +kernel
theorem d131_10 : decode (mCode 131) 10 = .ok (.invokevirtual 109, 3) := by decide +kernel
theorem d131_13 : decode (mCode 131) 13 = .ok (.istore 4, 2) := by decide +kernel
theorem d131_15 : decode (mCode 131) 15 = .ok (.iload_n 3, 1) := by decide +kernel
theorem d131_16 : decode (mCode 131) 16 = .ok (.ifCond .lt 8, 3) := by decide +kernel
theorem d131_19 : decode (mCode 131) 19 = .ok (.iload 4, 2) := by decide +kernel
theorem d131_21 : decode (mCode 131) 21 = .ok (.ifCond .ge 5, 3) := by decide +kernel
theorem d131_24 : decode (mCode 131) 24 = .ok (.iconst 0, 1) := by decide +kernel
theorem d131_25 : decode (mCode 131) 25 = .ok (.ireturn, 1) := by decide +kernel
theorem d131_26 : decode (mCode 131) 26 = .ok (.aload_n 0, 1) := by decide +kernel
theorem d131_27 : decode (mCode 131) 27 = .ok (.iload_n 1, 1) := by decide +kernel
theorem d131_28 : decode (mCode 131) 28 = .ok (.iload_n 2, 1) := by decide +kernel
theorem d131_29 : decode (mCode 131) 29 = .ok (.iload_n 3, 1) := by decide +kernel
theorem d131_30 : decode (mCode 131) 30 = .ok (.iload 4, 2) := by decide +kernel
theorem d131_32 : decode (mCode 131) 32 = .ok (.invokevirtual 113, 3) := by decide +kernel
theorem d131_35 : decode (mCode 131) 35 = .ok (.istore 5, 2) := by decide +kernel
theorem d131_37 : decode (mCode 131) 37 = .ok (.iload_n 1, 1) := by decide +kernel
theorem d131_38 : decode (mCode 131) 38 = .ok (.iload_n 2, 1) := by decide +kernel
theorem d131_39 : decode (mCode 131) 39 = .ok (.invokestatic 117, 3) := by decide +kernel
theorem d131_42 : decode (mCode 131) 42 = .ok (.iload_n 3, 1) := by decide +kernel
theorem d131_43 : decode (mCode 131) 43 = .ok (.iload 4, 2) := by decide +kernel
theorem d131_45 : decode (mCode 131) 45 = .ok (.invokestatic 117, 3) := by decide +kernel
theorem d131_48 : decode (mCode 131) 48 = .ok (.invokestatic 117, 3) := by decide +kernel
theorem d131_51 : decode (mCode 131) 51 = .ok (.istore 6, 2) := by decide +kernel
theorem d131_53 : decode (mCode 131) 53 = .ok (.iload 5, 2) := by decide +kernel
theorem d131_55 : decode (mCode 131) 55 = .ok (.ifCond .lt 20, 3) := by decide +kernel
theorem d131_58 : decode (mCode 131) 58 = .ok (.iload 5, 2) := by decide +kernel
theorem d131_60 : decode (mCode 131) 60 = .ok (.ifCond .ne 17, 3) := by decide +kernel
theorem d131_63 : decode (mCode 131) 63 = .ok (.iload 6, 2) := by decide +kernel
theorem d131_65 : decode (mCode 131) 65 = .ok (.iload_n 1, 1) := by decide +kernel
theorem d131_66 : decode (mCode 131) 66 = .ok (.if_icmp .eq 9, 3) := by decide +kernel
theorem d131_69 : decode (mCode 131) 69 = .ok (.iload 6, 2) := by decide +kernel
theorem d131_71 : decode (mCode 131) 71 = .ok (.iload_n 2, 1) := by decide +kernel
theorem d131_72 : decode (mCode 131) 72 = .ok (.if_icmp .ne 5, 3) := by decide +kernel
theorem d131_75 : decode (mCode 131) 75 = .ok (.iconst 0, 1) := by decide +kernel
theorem d131_76 : decode (mCode 131) 76 = .ok (.ireturn, 1) := by decide +kernel
theorem d131_77 : decode (mCode 131) 77 = .ok (.aload_n 0, 1) := by decide +kernel
theorem d131_78 : decode (mCode 131) 78 = .ok (.iload_n 1, 1) := by decide +kernel
theorem d131_79 : decode (mCode 131) 79 = .ok (.iload_n 2, 1) := by decide +kernel
theorem d131_80 : decode (mCode 131) 80 = .ok (.iconst 0, 1) := by decide +kernel
theorem d131_81 : decode (mCode 131) 81 = .ok (.invokevirtual 120, 3) := by decide +kernel
theorem d131_84 : decode (mCode 131) 84 = .ok (.aload_n 0, 1) := by decide +kernel
theorem d131_85 : decode (mCode 131) 85 = .ok (.iload_n 3, 1) := by decide +kernel
theorem d131_86 : decode (mCode 131) 86 = .ok (.iload 4, 2) := by decide +kernel
theorem d131_88 : decode (mCode 131) 88 = .ok (.iconst 1, 1) := by decide +kernel
theorem d131_89 : decode (mCode 131) 89 = .ok (.invokevirtual 120, 3) := by decide +kernel
theorem d131_92 : decode (mCode 131) 92 = .ok (.iconst 1, 1) := by decide +kernel
theorem d131_93 : decode (mCode 131) 93 = .ok (.ireturn, 1) := by decide +kernel
theorem d132_0 : decode (mCode 132) 0 = .ok (.iconst (-1), 1) := by decide +kernel
theorem d132_1 : decode (mCode 132) 1 = .ok (.istore_n 3, 1) := by decide +kernel
theorem d132_2 : decode (mCode 132) 2 = .ok (.iconst 0, 1) := by decide +kernel
theorem d132_3 : decode (mCode 132) 3 = .ok (.istore 4, 2) := by decide +kernel
theorem d132_5 : decode (mCode 132) 5 = .ok (.iload 4, 2) := by decide +kernel
theorem d132_7 : decode (mCode 132) 7 = .ok (.aload_n 0, 1) := by decide +kernel
theorem d132_8 : decode (mCode 132) 8 = .ok (.getfield 52, 3) := by decide +kernel
theorem d132_11 : decode (mCode 132) 11 = .ok (.if_icmp .ge 31, 3) := by decide +kernel
theorem d132_14 : decode (mCode 132) 14 = .ok (.iload_n 3, 1) := by decide +kernel
theorem d132_15 : decode (mCode 132) 15 = .ok (.ifCond .ge 19, 3) := by decide +kernel
theorem d132_18 : decode (mCode 132) 18 = .ok (.aload_n 0, 1) := by decide +kernel
theorem d132_19 : decode (mCode 132) 19 = .ok (.iload_n 1, 1) := by decide +kernel
theorem d132_20 : decode (mCode 132) 20 = .ok (.iload_n 2, 1) := by decide +kernel
theorem d132_21 : decode (mCode 132) 21 = .ok (.iload 4, 2) := by decide +kernel
theorem d132_23 : decode (mCode 132) 23 = .ok (.invokevirtual 106, 3) := by decide +kernel
theorem d132_26 : decode (mCode 132) 26 = .ok (.ifCond .eq 8, 3) := by decide +kernel
theorem d132_29 : decode (mCode 132) 29 = .ok (.iload 4, 2) := by decide +kernel
theorem d132_31 : decode (mCode 132) 31 = .ok (.goto 4, 3) := by decide +kernel
theorem d132_34 : decode (mCode 132) 34 = .ok (.iload_n 3, 1) := by decide +kernel
theorem d132_35 : decode (mCode 132) 35 = .ok (.istore_n 3, 1) := by decide +kernel
theorem d132_36 : decode (mCode 132) 36 = .ok (.iinc 4 1, 3) := by decide +kernel
theorem d132_39 : decode (mCode 132) 39 = .ok (.goto (-34), 3) := by decide +kernel
theorem d132_42 : decode (mCode 132) 42 = .ok (.iload_n 3, 1) := by decide +kernel
theorem d132_43 : decode (mCode 132) 43 = .ok (.ireturn, 1) := by decide +kernel
theorem d133_0 : decode (mCode 133) 0 = .ok (.iload_n 1, 1) := by decide +kernel
theorem d133_1 : decode (mCode 133) 1 = .ok (.iload_n 2, 1) := by decide +kernel
theorem d133_2 : decode (mCode 133) 2 = .ok (.if_icmp .eq 79, 3) := by decide +kernel
theorem d133_5 : decode (mCode 133) 5 = .ok (.iload_n 2, 1) := by decide +kernel
theorem d133_6 : decode (mCode 133) 6 = .ok (.iload_n 3, 1) := by decide +kernel
theorem d133_7 : decode (mCode 133) 7 = .ok (.if_icmp .eq 74, 3) := by decide +kernel
theorem d133_10 : decode (mCode 133) 10 = .ok (.iload_n 3, 1) := by decide +kernel
theorem d133_11 : decode (mCode 133) 11 = .ok (.iload_n 1, 1) := by decide +kernel
theorem d133_12 : decode (mCode 133) 12 = .ok (.if_icmp .eq 69, 3) := by decide +kernel
theorem d133_15 : decode (mCode 133) 15 = .ok (.aload_n 0, 1) := by decide +kernel
theorem d133_16 : decode (mCode 133) 16 = .ok (.getfield 20, 3) := by decide +kernel
theorem d133_19 : decode (mCode 133) 19 = .ok (.bipush 40, 2) := by decide +kernel
theorem d133_21 : decode (mCode 133) 21 = .ok (.iload_n 1, 1) := by decide +kernel
theorem d133_22 : decode (mCode 133) 22 = .ok (.imul, 1) := by decide +kernel
theorem d133_23 : decode (mCode 133) 23 = .ok (.iload_n 2, 1) := by decide +kernel
theorem d133_24 : decode (mCode 133) 24 = .ok (.iadd, 1) := by decide +kernel
theorem d133_25 : decode (mCode 133) 25 = .ok (.baload, 1) := by decide +kernel
theorem d133_26 : decode (mCode 133) 26 = .ok (.ifCond .eq 55, 3) := by decide +kernel
theorem d133_29 : decode (mCode 133) 29 = .ok (.aload_n 0, 1) := by decide +kernel
theorem d133_30 : decode (mCode 133) 30 = .ok (.getfield 20, 3) := by decide +kernel
theorem d133_33 : decode (mCode 133) 33 = .ok (.bipush 40, 2) := by decide +kernel
theorem d133_35 : decode (mCode 133) 35 = .ok (.iload_n 2, 1) := by decide +kernel
theorem d133_36 : decode (mCode 133) 36 = .ok (.imul, 1) := by decide +kernel
theorem d133_37 : decode (mCode 133) 37 = .ok (.iload_n 3, 1) := by decide +kernel
theorem d133_38 : decode (mCode 133) 38 = .ok (.iadd, 1) := by decide +kernel
theorem d133_39 : decode (mCode 133) 39 = .ok (.baload, 1) := by decide +kernel
theorem d133_40 : decode (mCode 133) 40 = .ok (.ifCond .eq 41, 3) := by decide +kernel
theorem d133_43 : decode (mCode 133) 43 = .ok (.aload_n 0, 1) := by decide +kernel
theorem d133_44 : decode (mCode 133) 44 = .ok (.getfield 20, 3) := by decide +kernel
theorem d133_47 : decode (mCode 133) 47 = .ok (.bipush 40, 2) := by decide +kernel
theorem d133_49 : decode (mCode 133) 49 = .ok (.iload_n 3, 1) := by decide +kernel
theorem d133_50 : decode (mCode 133) 50 = .ok (.imul, 1) := by decide +kernel
theorem d133_51 : decode (mCode 133) 51 = .ok (.iload_n 1, 1) := by decide +kernel
theorem d133_52 : decode (mCode 133) 52 = .ok (.iadd, 1) := by decide +kernel
theorem d133_53 : decode (mCode 133) 53 = .ok (.baload, 1) := by decide +kernel
theorem d133_54 : decode (mCode 133) 54 = .ok (.ifCond .eq 27, 3) := by decide +kernel
theorem d133_57 : decode (mCode 133) 57 = .ok (.aload_n 0, 1) := by decide +kernel
theorem d133_58 : decode (mCode 133) 58 = .ok (.iload_n 1, 1) := by decide +kernel
theorem d133_59 : decode (mCode 133) 59 = .ok (.iload_n 2, 1) := by decide +kernel
theorem d133_60 : decode (mCode 133) 60 = .ok (.iload_n 3, 1) := by decide +kernel
theorem d133_61 : decode (mCode 133) 61 = .ok (.invokevirtual 70, 3) := by decide +kernel
theorem d133_64 : decode (mCode 133) 64 = .ok (.ifCond .le 17, 3) := by decide +kernel
theorem d133_67 : decode (mCode 133) 67 = .ok (.aload_n 0, 1) := by decide +kernel
theorem d133_68 : decode (mCode 133) 68 = .ok (.iload_n 1, 1) := by decide +kernel
theorem d133_69 : decode (mCode 133) 69 = .ok (.iload_n 2, 1) := by decide +kernel
theorem d133_70 : decode (mCode 133) 70 = .ok (.iload_n 3, 1) := by decide +kernel
theorem d133_71 : decode (mCode 133) 71 = .ok (.invokevirtual 103, 3) := by decide +kernel
theorem d133_74 : decode (mCode 133) 74 = .ok (.ifCond .eq 7, 3) := by decide +kernel
theorem d133_77 : decode (mCode 133) 77 = .ok (.iconst 1, 1) := by decide +kernel
theorem d133_78 : decode (mCode 133) 78 = .ok (.goto 4, 3) := by decide +kernel
theorem d133_81 : decode (mCode 133) 81 = .ok (.iconst 0, 1) := by decide +kernel
theorem d133_82 : decode (mCode 133) 82 = .ok (.ireturn, 1) := by decide +kernel
theorem d134_0 : decode (mCode 134) 0 = .ok (.iconst 0, 1) := by decide +kernel
theorem d134_1 : decode (mCode 134) 1 = .ok (.istore 4, 2) := by decide +kernel
theorem d134_3 : decode (mCode 134) 3 = .ok (.iload 4, 2) := by decide +kernel
theorem d134_5 : decode (mCode 134) 5 = .ok (.aload_n 0, 1) := by decide +kernel
theorem d134_6 : decode (mCode 134) 6 = .ok (.getfield 52, 3) := by decide +kernel
theorem d134_9 : decode (mCode 134) 9 = .ok (.if_icmp .ge 74, 3) := by decide +kernel
theorem d134_12 : decode (mCode 134) 12 = .ok (.iload 4, 2) := by decide +kernel
theorem d134_14 : decode (mCode 134) 14 = .ok (.iload_n 1, 1) := by decide +kernel
theorem d134_15 : decode (mCode 134) 15 = .ok (.if_icmp .eq 19, 3) := by decide +kernel
theorem d134_18 : decode (mCode 134) 18 = .ok (.iload 4, 2) := by decide +kernel
theorem d134_20 : decode (mCode 134) 20 = .ok (.iload_n 2, 1) := by decide +kernel
theorem d134_21 : decode (mCode 134) 21 = .ok (.if_icmp .eq 13, 3) := by decide +kernel
theorem d134_24 : decode (mCode 134) 24 = .ok (.iload 4, 2) := by decide +kernel
theorem d134_26 : decode (mCode 134) 26 = .ok (.iload_n 3, 1) := by decide +kernel
theorem d134_27 : decode (mCode 134) 27 = .ok (.if_icmp .eq 7, 3) := by decide +kernel
theorem d134_30 : decode (mCode 134) 30 = .ok (.iconst 1, 1) := by decide +kernel
theorem d134_31 : decode (mCode 134) 31 = .ok (.goto 4, 3) := by decide +kernel
theorem d134_34 : decode (mCode 134) 34 = .ok (.iconst 0, 1) := by decide +kernel
theorem d134_35 : decode (mCode 134) 35 = .ok (.istore 5, 2) := by decide +kernel
theorem d134_37 : decode (mCode 134) 37 = .ok (.iload 5, 2) := by decide +kernel
theorem d134_39 : decode (mCode 134) 39 = .ok (.ifCond .eq 38, 3) := by decide +kernel
theorem d134_42 : decode (mCode 134) 42 = .ok (.aload_n 0, 1) := by decide +kernel
theorem d134_43 : decode (mCode 134) 43 = .ok (.iload_n 1, 1) := by decide +kernel
theorem d134_44 : decode (mCode 134) 44 = .ok (.iload_n 2, 1) := by decide +kernel
theorem d134_45 : decode (mCode 134) 45 = .ok (.iload 4, 2) := by decide +kernel
theorem d134_47 : decode (mCode 134) 47 = .ok (.invokevirtual 70, 3) := by decide +kernel
theorem d134_50 : decode (mCode 134) 50 = .ok (.ifCond .lt 27, 3) := by decide +kernel
theorem d134_53 : decode (mCode 134) 53 = .ok (.aload_n 0, 1) := by decide +kernel
theorem d134_54 : decode (mCode 134) 54 = .ok (.iload_n 2, 1) := by decide +kernel
theorem d134_55 : decode (mCode 134) 55 = .ok (.iload_n 3, 1) := by decide +kernel
theorem d134_56 : decode (mCode 134) 56 = .ok (.iload 4, 2) := by decide +kernel
theorem d134_58 : decode (mCode 134) 58 = .ok (.invokevirtual 70, 3) := by decide +kernel
theorem d134_61 : decode (mCode 134) 61 = .ok (.ifCond .lt 16, 3) := by decide +kernel
theorem d134_64 : decode (mCode 134) 64 = .ok (.aload_n 0, 1) := by decide +kernel
theorem d134_65 : decode (mCode 134) 65 = .ok (.iload_n 3, 1) := by decide +kernel
theorem d134_66 : decode (mCode 134) 66 = .ok (.iload_n 1, 1) := by decide +kernel
theorem d134_67 : decode (mCode 134) 67 = .ok (.iload 4, 2) := by decide +kernel
theorem d134_69 : decode (mCode 134) 69 = .ok (.invokevirtual 70, 3) := by decide +kernel
theorem d134_72 : decode (mCode 134) 72 = .ok (.ifCond .lt 5, 3) := by decide +kernel
theorem d134_75 : decode (mCode 134) 75 = .ok (.iconst 0, 1) := by decide +kernel
theorem d134_76 : decode (mCode 134) 76 = .ok (.ireturn, 1) := by decide +kernel
theorem d134_77 : decode (mCode 134) 77 = .ok (.iinc 4 1, 3) := by decide +kernel
theorem d134_80 : decode (mCode 134) 80 = .ok (.goto (-77), 3) := by decide +kernel
theorem d134_83 : decode (mCode 134) 83 = .ok (.iconst 1, 1) := by decide +kernel
theorem d134_84 : decode (mCode 134) 84 = .ok (.ireturn, 1) := by decide +kernel
theorem d135_0 : decode (mCode 135) 0 = .ok (.aload_n 0, 1) := by decide +kernel
theorem d135_1 : decode (mCode 135) 1 = .ok (.getfield 7, 3) := by decide +kernel
theorem d135_4 : decode (mCode 135) 4 = .ok (.iload_n 1, 1) := by decide +kernel
theorem d135_5 : decode (mCode 135) 5 = .ok (.laload, 1) := by decide +kernel
theorem d135_6 : decode (mCode 135) 6 = .ok (.aload_n 0, 1) := by decide +kernel
theorem d135_7 : decode (mCode 135) 7 = .ok (.getfield 7, 3) := by decide +kernel
theorem d135_10 : decode (mCode 135) 10 = .ok (.iload 4, 2) := by decide +kernel
theorem d135_12 : decode (mCode 135) 12 = .ok (.laload, 1) := by decide +kernel
theorem d135_13 : decode (mCode 135) 13 = .ok (.lsub, 1) := by decide +kernel
theorem d135_14 : decode (mCode 135) 14 = .ok (.lstore 5, 2) := by decide +kernel
theorem d135_16 : decode (mCode 135) 16 = .ok (.aload_n 0, 1) := by decide +kernel
theorem d135_17 : decode (mCode 135) 17 = .ok (.getfield 13, 3) := by decide +kernel
theorem d135_20 : decode (mCode 135) 20 = .ok (.iload_n 1, 1) := by decide +kernel
theorem d135_21 : decode (mCode 135) 21 = .ok (.laload, 1) := by decide +kernel
theorem d135_22 : decode (mCode 135) 22 = .ok (.aload_n 0, 1) := by decide +kernel
theorem d135_23 : decode (mCode 135) 23 = .ok (.getfield 13, 3) := by decide +kernel
theorem d135_26 : decode (mCode 135) 26 = .ok (.iload 4, 2) := by decide +kernel
theorem d135_28 : decode (mCode 135) 28 = .ok (.laload, 1) := by decide +kernel
theorem d135_29 : decode (mCode 135) 29 = .ok (.lsub, 1) := by decide +kernel
theorem d135_30 : decode (mCode 135) 30 = .ok (.lstore 7, 2) := by decide +kernel
theorem d135_32 : decode (mCode 135) 32 = .ok (.aload_n 0, 1) := by decide +kernel
theorem d135_33 : decode (mCode 135) 33 = .ok (.getfield 7, 3) := by decide +kernel
theorem d135_36 : decode (mCode 135) 36 = .ok (.iload_n 2, 1) := by decide +kernel
theorem d135_37 : decode (mCode 135) 37 = .ok (.laload, 1) := by decide +kernel
theorem d135_38 : decode (mCode 135) 38 = .ok (.aload_n 0, 1) := by decide +kernel
theorem d135_39 : decode (mCode 135) 39 = .ok (.getfield 7, 3) := by decide +kernel
theorem d135_42 : decode (mCode 135) 42 = .ok (.iload 4, 2) := by decide +kernel
theorem d135_44 : decode (mCode 135) 44 = .ok (.laload, 1) := by decide +kernel
theorem d135_45 : decode (mCode 135) 45 = .ok (.lsub, 1) := by decide +kernel
theorem d135_46 : decode (mCode 135) 46 = .ok (.lstore 9, 2) := by decide +kernel
theorem d135_48 : decode (mCode 135) 48 = .ok (.aload_n 0, 1) := by decide +kernel
theorem d135_49 : decode (mCode 135) 49 = .ok (.getfield 13, 3) := by decide +kernel
theorem d135_52 : decode (mCode 135) 52 = .ok (.iload_n 2, 1) := by decide +kernel
theorem d135_53 : decode (mCode 135) 53 = .ok (.laload, 1) := by decide +kernel
theorem d135_54 : decode (mCode 135) 54 = .ok (.aload_n 0, 1) := by decide +kernel
theorem d135_55 : decode (mCode 135) 55 = .ok (.getfield 13, 3) := by decide +kernel
theorem d135_58 : decode (mCode 135) 58 = .ok (.iload 4, 2) := by decide +kernel
theorem d135_60 : decode (mCode 135) 60 = .ok (.laload, 1) := by decide +kernel
theorem d135_61 : decode (mCode 135) 61 = .ok (.lsub, 1) := by decide +kernel
theorem d135_62 : decode (mCode 135) 62 = .ok (.lstore 11, 2) := by decide +kernel
theorem d135_64 : decode (mCode 135) 64 = .ok (.aload_n 0, 1) := by decide +kernel
theorem d135_65 : decode (mCode 135) 65 = .ok (.getfield 7, 3) := by decide +kernel
theorem d135_68 : decode (mCode 135) 68 = .ok (.iload_n 3, 1) := by decide +kernel
theorem d135_69 : decode (mCode 135) 69 = .ok (.laload, 1) := by decide +kernel
theorem d135_70 : decode (mCode 135) 70 = .ok (.aload_n 0, 1) := by decide +kernel
theorem d135_71 : decode (mCode 135) 71 = .ok (.getfield 7, 3) := by decide +kernel
theorem d135_74 : decode (mCode 135) 74 = .ok (.iload 4, 2) := by decide +kernel
theorem d135_76 : decode (mCode 135) 76 = .ok (.laload, 1) := by decide +kernel
theorem d135_77 : decode (mCode 135) 77 = .ok (.lsub, 1) := by decide +kernel
theorem d135_78 : decode (mCode 135) 78 = .ok (.lstore 13, 2) := by decide +kernel
theorem d135_80 : decode (mCode 135) 80 = .ok (.aload_n 0, 1) := by decide +kernel
theorem d135_81 : decode (mCode 135) 81 = .ok (.getfield 13, 3) := by decide +kernel
theorem d135_84 : decode (mCode 135) 84 = .ok (.iload_n 3, 1) := by decide +kernel
theorem d135_85 : decode (mCode 135) 85 = .ok (.laload, 1) := by decide +kernel
theorem d135_86 : decode (mCode 135) 86 = .ok (.aload_n 0, 1) := by decide +kernel
theorem d135_87 : decode (mCode 135) 87 = .ok (.getfield 13, 3) := by decide +kernel
theorem d135_90 : decode (mCode 135) 90 = .ok (.iload 4, 2) := by decide +kernel
theorem d135_92 : decode (mCode 135) 92 = .ok (.laload, 1) := by decide +kernel
theorem d135_93 : decode (mCode 135) 93 = .ok (.lsub, 1) := by decide +kernel
theorem d135_94 : decode (mCode 135) 94 = .ok (.lstore 15, 2) := by decide +kernel
theorem d135_96 : decode (mCode 135) 96 = .ok (.aload_n 0, 1) := by decide +kernel
theorem d135_97 : decode (mCode 135) 97 = .ok (.lconst 0, 1) := by decide +kernel
theorem d135_98 : decode (mCode 135) 98 = .ok (.putfield 57, 3) := by decide +kernel
theorem d135_101 : decode (mCode 135) 101 = .ok (.aload_n 0, 1) := by decide +kernel
theorem d135_102 : decode (mCode 135) 102 = .ok (.lconst 0, 1) := by decide +kernel
theorem d135_103 : decode (mCode 135) 103 = .ok (.putfield 61, 3) := by decide +kernel
theorem d135_106 : decode (mCode 135) 106 = .ok (.aload_n 0, 1) := by decide +kernel
theorem d135_107 : decode (mCode 135) 107 = .ok (.lload 5, 2) := by decide +kernel
theorem d135_109 : decode (mCode 135) 109 = .ok (.lload 5, 2) := by decide +kernel
theorem d135_111 : decode (mCode 135) 111 = .ok (.lmul, 1) := by decide +kernel
theorem d135_112 : decode (mCode 135) 112 = .ok (.lload 7, 2) := by decide +kernel
theorem d135_114 : decode (mCode 135) 114 = .ok (.lload 7, 2) := by decide +kernel
theorem d135_116 : decode (mCode 135) 116 = .ok (.lmul, 1) := by decide +kernel
theorem d135_117 : decode (mCode 135) 117 = .ok (.ladd, 1) := by decide +kernel
theorem d135_118 : decode (mCode 135) 118 = .ok (.lload 9, 2) := by decide +kernel
theorem d135_120 : decode (mCode 135) 120 = .ok (.lload 15, 2) := by decide +kernel
theorem d135_122 : decode (mCode 135) 122 = .ok (.lmul, 1) := by decide +kernel
theorem d135_123 : decode (mCode 135) 123 = .ok (.lload 11, 2) := by decide +kernel
theorem d135_125 : decode (mCode 135) 125 = .ok (.lload 13, 2) := by decide +kernel
theorem d135_127 : decode (mCode 135) 127 = .ok (.lmul, 1) := by decide +kernel
theorem d135_128 : decode (mCode 135) 128 = .ok (.lsub, 1) := by decide +kernel
theorem d135_129 : decode (mCode 135) 129 = .ok (.invokevirtual 66, 3) := by decide +kernel
theorem d135_132 : decode (mCode 135) 132 = .ok (.aload_n 0, 1) := by decide +kernel
theorem d135_133 : decode (mCode 135) 133 = .ok (.lload 9, 2) := by decide +kernel
theorem d135_135 : decode (mCode 135) 135 = .ok (.lload 9, 2) := by decide +kernel
theorem d135_137 : decode (mCode 135) 137 = .ok (.lmul, 1) := by decide +kernel
theorem d135_138 : decode (mCode 135) 138 = .ok (.lload 11, 2) := by decide +kernel
theorem d135_140 : decode (mCode 135) 140 = .ok (.lload 11, 2) := by decide +kernel
theorem d135_142 : decode (mCode 135) 142 = .ok (.lmul, 1) := by decide +kernel
theorem d135_143 : decode (mCode 135) 143 = .ok (.ladd, 1) := by decide +kernel
theorem d135_144 : decode (mCode 135) 144 = .ok (.lload 13, 2) := by decide +kernel
theorem d135_146 : decode (mCode 135) 146 = .ok (.lload 7, 2) := by decide +kernel
theorem d135_148 : decode (mCode 135) 148 = .ok (.lmul, 1) := by decide +kernel
theorem d135_149 : decode (mCode 135) 149 = .ok (.lload 15, 2) := by decide +kernel
theorem d135_151 : decode (mCode 135) 151 = .ok (.lload 5, 2) := by decide +kernel
theorem d135_153 : decode (mCode 135) 153 = .ok (.lmul, 1) := by decide +kernel
theorem d135_154 : decode (mCode 135) 154 = .ok (.lsub, 1) := by decide +kernel
theorem d135_155 : decode (mCode 135) 155 = .ok (.invokevirtual 66, 3) := by decide +kernel
theorem d135_158 : decode (mCode 135) 158 = .ok (.aload_n 0, 1) := by decide +kernel
theorem d135_159 : decode (mCode 135) 159 = .ok (.lload 13, 2) := by decide +kernel
theorem d135_161 : decode (mCode 135) 161 = .ok (.lload 13, 2) := by decide +kernel
theorem d135_163 : decode (mCode 135) 163 = .ok (.lmul, 1) := by decide +kernel
theorem d135_164 : decode (mCode 135) 164 = .ok (.lload 15, 2) := by decide +kernel
theorem d135_166 : decode (mCode 135) 166 = .ok (.lload 15, 2) := by decide +kernel
theorem d135_168 : decode (mCode 135) 168 = .ok (.lmul, 1) := by decide +kernel
theorem d135_169 : decode (mCode 135) 169 = .ok (.ladd, 1) := by decide +kernel
theorem d135_170 : decode (mCode 135) 170 = .ok (.lload 5, 2) := by decide +kernel
theorem d135_172 : decode (mCode 135) 172 = .ok (.lload 11, 2) := by decide +kernel
theorem d135_174 : decode (mCode 135) 174 = .ok (.lmul, 1) := by decide +kernel
theorem d135_175 : decode (mCode 135) 175 = .ok (.lload 7, 2) := by decide +kernel
theorem d135_177 : decode (mCode 135) 177 = .ok (.lload 9, 2) := by decide +kernel
theorem d135_179 : decode (mCode 135) 179 = .ok (.lmul, 1) := by decide +kernel
theorem d135_180 : decode (mCode 135) 180 = .ok (.lsub, 1) := by decide +kernel
theorem d135_181 : decode (mCode 135) 181 = .ok (.invokevirtual 66, 3) := by decide +kernel
theorem d135_184 : decode (mCode 135) 184 = .ok (.aload_n 0, 1) := by decide +kernel
theorem d135_185 : decode (mCode 135) 185 = .ok (.getfield 57, 3) := by decide +kernel
theorem d135_188 : decode (mCode 135) 188 = .ok (.lconst 0, 1) := by decide +kernel
theorem d135_189 : decode (mCode 135) 189 = .ok (.lcmp, 1) := by decide +kernel
theorem d135_190 : decode (mCode 135) 190 = .ok (.ifCond .ge 7, 3) := by decide +kernel
theorem d135_193 : decode (mCode 135) 193 = .ok (.iconst (-1), 1) := by decide +kernel
theorem d135_194 : decode (mCode 135) 194 = .ok (.goto 26, 3) := by decide +kernel
theorem d135_197 : decode (mCode 135) 197 = .ok (.aload_n 0, 1) := by decide +kernel
theorem d135_198 : decode (mCode 135) 198 = .ok (.getfield 57, 3) := by decide +kernel
theorem d135_201 : decode (mCode 135) 201 = .ok (.lconst 0, 1) := by decide +kernel
theorem d135_202 : decode (mCode 135) 202 = .ok (.lcmp, 1) := by decide +kernel
theorem d135_203 : decode (mCode 135) 203 = .ok (.ifCond .ne 16, 3) := by decide +kernel
theorem d135_206 : decode (mCode 135) 206 = .ok (.aload_n 0, 1) := by decide +kernel
theorem d135_207 : decode (mCode 135) 207 = .ok (.getfield 61, 3) := by decide +kernel
theorem d135_210 : decode (mCode 135) 210 = .ok (.lconst 0, 1) := by decide +kernel
theorem d135_211 : decode (mCode 135) 211 = .ok (.lcmp, 1) := by decide +kernel
theorem d135_212 : decode (mCode 135) 212 = .ok (.ifCond .ne 7, 3) := by decide +kernel
theorem d135_215 : decode (mCode 135) 215 = .ok (.iconst 0, 1) := by decide +kernel
theorem d135_216 : decode (mCode 135) 216 = .ok (.goto 4, 3) := by decide +kernel
theorem d135_219 : decode (mCode 135) 219 = .ok (.iconst 1, 1) := by decide +kernel
theorem d135_220 : decode (mCode 135) 220 = .ok (.ireturn, 1) := by decide +kernel
theorem d136_0 : decode (mCode 136) 0 = .ok (.lload_n 1, 1) := by decide +kernel
theorem d136_1 : decode (mCode 136) 1 = .ok (.lload_n 3, 1) := by decide +kernel
theorem d136_2 : decode (mCode 136) 2 = .ok (.lmul, 1) := by decide +kernel
theorem d136_3 : decode (mCode 136) 3 = .ok (.lstore 5, 2) := by decide +kernel
theorem d136_5 : decode (mCode 136) 5 = .ok (.lload_n 1, 1) := by decide +kernel
theorem d136_6 : decode (mCode 136) 6 = .ok (.ldc2_w 55, 3) := by decide +kernel
theorem d136_9 : decode (mCode 136) 9 = .ok (.land, 1) := by decide +kernel
theorem d136_10 : decode (mCode 136) 10 = .ok (.lstore 7, 2) := by decide +kernel
theorem d136_12 : decode (mCode 136) 12 = .ok (.lload_n 3, 1) := by decide +kernel
theorem d136_13 : decode (mCode 136) 13 = .ok (.ldc2_w 55, 3) := by decide +kernel
theorem d136_16 : decode (mCode 136) 16 = .ok (.land, 1) := by decide +kernel
theorem d136_17 : decode (mCode 136) 17 = .ok (.lstore 9, 2) := by decide +kernel
theorem d136_19 : decode (mCode 136) 19 = .ok (.lload_n 1, 1) := by decide +kernel
theorem d136_20 : decode (mCode 136) 20 = .ok (.bipush 32, 2) := by decide +kernel
theorem d136_22 : decode (mCode 136) 22 = .ok (.lshr, 1) := by decide +kernel
theorem d136_23 : decode (mCode 136) 23 = .ok (.lload 9, 2) := by decide +kernel
theorem d136_25 : decode (mCode 136) 25 = .ok (.lmul, 1) := by decide +kernel
theorem d136_26 : decode (mCode 136) 26 = .ok (.lload 7, 2) := by decide +kernel
theorem d136_28 : decode (mCode 136) 28 = .ok (.lload 9, 2) := by decide +kernel
theorem d136_30 : decode (mCode 136) 30 = .ok (.lmul, 1) := by decide +kernel
theorem d136_31 : decode (mCode 136) 31 = .ok (.bipush 32, 2) := by decide +kernel
theorem d136_33 : decode (mCode 136) 33 = .ok (.lushr, 1) := by decide +kernel
theorem d136_34 : decode (mCode 136) 34 = .ok (.ladd, 1) := by decide +kernel
theorem d136_35 : decode (mCode 136) 35 = .ok (.lstore 11, 2) := by decide +kernel
theorem d136_37 : decode (mCode 136) 37 = .ok (.lload 11, 2) := by decide +kernel
theorem d136_39 : decode (mCode 136) 39 = .ok (.ldc2_w 55, 3) := by decide +kernel
theorem d136_42 : decode (mCode 136) 42 = .ok (.land, 1) := by decide +kernel
theorem d136_43 : decode (mCode 136) 43 = .ok (.lload 7, 2) := by decide +kernel
theorem d136_45 : decode (mCode 136) 45 = .ok (.lload_n 3, 1) := by decide +kernel
theorem d136_46 : decode (mCode 136) 46 = .ok (.bipush 32, 2) := by decide +kernel
theorem d136_48 : decode (mCode 136) 48 = .ok (.lshr, 1) := by decide +kernel
theorem d136_49 : decode (mCode 136) 49 = .ok (.lmul, 1) := by decide +kernel
theorem d136_50 : decode (mCode 136) 50 = .ok (.ladd, 1) := by decide +kernel
theorem d136_51 : decode (mCode 136) 51 = .ok (.lstore 13, 2) := by decide +kernel
theorem d136_53 : decode (mCode 136) 53 = .ok (.aload_n 0, 1) := by decide +kernel
theorem d136_54 : decode (mCode 136) 54 = .ok (.aload_n 0, 1) := by decide +kernel
theorem d136_55 : decode (mCode 136) 55 = .ok (.getfield 57, 3) := by decide +kernel
theorem d136_58 : decode (mCode 136) 58 = .ok (.lload_n 1, 1) := by decide +kernel
theorem d136_59 : decode (mCode 136) 59 = .ok (.bipush 32, 2) := by decide +kernel
theorem d136_61 : decode (mCode 136) 61 = .ok (.lshr, 1) := by decide +kernel
theorem d136_62 : decode (mCode 136) 62 = .ok (.lload_n 3, 1) := by decide +kernel
theorem d136_63 : decode (mCode 136) 63 = .ok (.bipush 32, 2) := by decide +kernel
theorem d136_65 : decode (mCode 136) 65 = .ok (.lshr, 1) := by decide +kernel
theorem d136_66 : decode (mCode 136) 66 = .ok (.lmul, 1) := by decide +kernel
theorem d136_67 : decode (mCode 136) 67 = .ok (.ladd, 1) := by decide +kernel
theorem d136_68 : decode (mCode 136) 68 = .ok (.lload 11, 2) := by decide +kernel
theorem d136_70 : decode (mCode 136) 70 = .ok (.bipush 32, 2) := by decide +kernel
theorem d136_72 : decode (mCode 136) 72 = .ok (.lshr, 1) := by decide +kernel
theorem d136_73 : decode (mCode 136) 73 = .ok (.ladd, 1) := by decide +kernel
theorem d136_74 : decode (mCode 136) 74 = .ok (.lload 13, 2) := by decide +kernel
theorem d136_76 : decode (mCode 136) 76 = .ok (.bipush 32, 2) := by decide +kernel
theorem d136_78 : decode (mCode 136) 78 = .ok (.lshr, 1) := by decide +kernel
theorem d136_79 : decode (mCode 136) 79 = .ok (.ladd, 1) := by decide +kernel
theorem d136_80 : decode (mCode 136) 80 = .ok (.putfield 57, 3) := by decide +kernel
theorem d136_83 : decode (mCode 136) 83 = .ok (.aload_n 0, 1) := by decide +kernel
theorem d136_84 : decode (mCode 136) 84 = .ok (.aload_n 0, 1) := by decide +kernel
theorem d136_85 : decode (mCode 136) 85 = .ok (.getfield 61, 3) := by decide +kernel
theorem d136_88 : decode (mCode 136) 88 = .ok (.lload 5, 2) := by decide +kernel
theorem d136_90 : decode (mCode 136) 90 = .ok (.ladd, 1) := by decide +kernel
theorem d136_91 : decode (mCode 136) 91 = .ok (.putfield 61, 3) := by decide +kernel
theorem d136_94 : decode (mCode 136) 94 = .ok (.aload_n 0, 1) := by decide +kernel
theorem d136_95 : decode (mCode 136) 95 = .ok (.aload_n 0, 1) := by decide +kernel
theorem d136_96 : decode (mCode 136) 96 = .ok (.getfield 61, 3) := by decide +kernel
theorem d136_99 : decode (mCode 136) 99 = .ok (.ldc2_w 64, 3) := by decide +kernel
theorem d136_102 : decode (mCode 136) 102 = .ok (.lxor, 1) := by decide +kernel
theorem d136_103 : decode (mCode 136) 103 = .ok (.lload 5, 2) := by decide +kernel
theorem d136_105 : decode (mCode 136) 105 = .ok (.ldc2_w 64, 3) := by decide +kernel
theorem d136_108 : decode (mCode 136) 108 = .ok (.lxor, 1) := by decide +kernel
theorem d136_109 : decode (mCode 136) 109 = .ok (.lcmp, 1) := by decide +kernel
theorem d136_110 : decode (mCode 136) 110 = .ok (.ifCond .ge 12, 3) := by decide +kernel
theorem d136_113 : decode (mCode 136) 113 = .ok (.aload_n 0, 1) := by decide +kernel
theorem d136_114 : decode (mCode 136) 114 = .ok (.getfield 57, 3) := by decide +kernel
theorem d136_117 : decode (mCode 136) 117 = .ok (.lconst 1, 1) := by decide +kernel
theorem d136_118 : decode (mCode 136) 118 = .ok (.ladd, 1) := by decide +kernel
theorem d136_119 : decode (mCode 136) 119 = .ok (.goto 7, 3) := by decide +kernel
theorem d136_122 : decode (mCode 136) 122 = .ok (.aload_n 0, 1) := by decide +kernel
theorem d136_123 : decode (mCode 136) 123 = .ok (.getfield 57, 3) := by decide +kernel
theorem d136_126 : decode (mCode 136) 126 = .ok (.putfield 57, 3) := by decide +kernel
theorem d136_129 : decode (mCode 136) 129 = .ok (.return_, 1) := by decide +kernel
theorem d137_0 : decode (mCode 137) 0 = .ok (.iload_n 0, 1) := by decide +kernel
theorem d137_1 : decode (mCode 137) 1 = .ok (.iload_n 1, 1) := by decide +kernel
theorem d137_2 : decode (mCode 137) 2 = .ok (.if_icmp .ge 7, 3) := by decide +kernel
theorem d137_5 : decode (mCode 137) 5 = .ok (.iload_n 0, 1) := by decide +kernel
theorem d137_6 : decode (mCode 137) 6 = .ok (.goto 4, 3) := by decide +kernel
theorem d137_9 : decode (mCode 137) 9 = .ok (.iload_n 1, 1) := by decide +kernel
theorem d137_10 : decode (mCode 137) 10 = .ok (.ireturn, 1) := by decide +kernel
theorem d138_0 : decode (mCode 138) 0 = .ok (.iconst (-1), 1) := by decide +kernel
theorem d138_1 : decode (mCode 138) 1 = .ok (.istore_n 3, 1) := by decide +kernel
theorem d138_2 : decode (mCode 138) 2 = .ok (.iconst 0, 1) := by decide +kernel
theorem d138_3 : decode (mCode 138) 3 = .ok (.istore 4, 2) := by decide +kernel
theorem d138_5 : decode (mCode 138) 5 = .ok (.iload 4, 2) := by decide +kernel
theorem d138_7 : decode (mCode 138) 7 = .ok (.aload_n 0, 1) := by decide +kernel
theorem d138_8 : decode (mCode 138) 8 = .ok (.getfield 124, 3) := by decide +kernel
theorem d138_11 : decode (mCode 138) 11 = .ok (.if_icmp .ge 67, 3) := by decide +kernel
theorem d138_14 : decode (mCode 138) 14 = .ok (.iconst 0, 1) := by decide +kernel
theorem d138_15 : decode (mCode 138) 15 = .ok (.istore 5, 2) := by decide +kernel
theorem d138_17 : decode (mCode 138) 17 = .ok (.iload 5, 2) := by decide +kernel
theorem d138_19 : decode (mCode 138) 19 = .ok (.iconst 3, 1) := by decide +kernel
theorem d138_20 : decode (mCode 138) 20 = .ok (.if_icmp .ge 52, 3) := by decide +kernel
theorem d138_23 : decode (mCode 138) 23 = .ok (.aload_n 0, 1) := by decide +kernel
theorem d138_24 : decode (mCode 138) 24 = .ok (.getfield 23, 3) := by decide +kernel
theorem d138_27 : decode (mCode 138) 27 = .ok (.iconst 3, 1) := by decide +kernel
theorem d138_28 : decode (mCode 138) 28 = .ok (.iload 4, 2) := by decide +kernel
theorem d138_30 : decode (mCode 138) 30 = .ok (.imul, 1) := by decide +kernel
theorem d138_31 : decode (mCode 138) 31 = .ok (.iload 5, 2) := by decide +kernel
theorem d138_33 : decode (mCode 138) 33 = .ok (.iadd, 1) := by decide +kernel
theorem d138_34 : decode (mCode 138) 34 = .ok (.iaload, 1) := by decide +kernel
theorem d138_35 : decode (mCode 138) 35 = .ok (.iload_n 1, 1) := by decide +kernel
theorem d138_36 : decode (mCode 138) 36 = .ok (.if_icmp .ne 28, 3) := by decide +kernel
theorem d138_39 : decode (mCode 138) 39 = .ok (.aload_n 0, 1) := by decide +kernel
theorem d138_40 : decode (mCode 138) 40 = .ok (.getfield 23, 3) := by decide +kernel
theorem d138_43 : decode (mCode 138) 43 = .ok (.iconst 3, 1) := by decide +kernel
theorem d138_44 : decode (mCode 138) 44 = .ok (.iload 4, 2) := by decide +kernel
theorem d138_46 : decode (mCode 138) 46 = .ok (.imul, 1) := by decide +kernel
theorem d138_47 : decode (mCode 138) 47 = .ok (.iload 5, 2) := by decide +kernel
theorem d138_49 : decode (mCode 138) 49 = .ok (.iconst 1, 1) := by decide +kernel
theorem d138_50 : decode (mCode 138) 50 = .ok (.iadd, 1) := by decide +kernel
theorem d138_51 : decode (mCode 138) 51 = .ok (.iconst 3, 1) := by decide +kernel
theorem d138_52 : decode (mCode 138) 52 = .ok (.irem, 1) := by decide +kernel
theorem d138_53 : decode (mCode 138) 53 = .ok (.iadd, 1) := by decide +kernel
theorem d138_54 : decode (mCode 138) 54 = .ok (.iaload, 1) := by decide +kernel
theorem d138_55 : decode (mCode 138) 55 = .ok (.iload_n 2, 1) := by decide +kernel
theorem d138_56 : decode (mCode 138) 56 = .ok (.if_icmp .ne 8, 3) := by decide +kernel
theorem d138_59 : decode (mCode 138) 59 = .ok (.iload 4, 2) := by decide +kernel
theorem d138_61 : decode (mCode 138) 61 = .ok (.goto 4, 3) := by decide +kernel
theorem d138_64 : decode (mCode 138) 64 = .ok (.iload_n 3, 1) := by decide +kernel
theorem d138_65 : decode (mCode 138) 65 = .ok (.istore_n 3, 1) := by decide +kernel
theorem d138_66 : decode (mCode 138) 66 = .ok (.iinc 5 1, 3) := by decide +kernel
theorem d138_69 : decode (mCode 138) 69 = .ok (.goto (-52), 3) := by decide +kernel
theorem d138_72 : decode (mCode 138) 72 = .ok (.iinc 4 1, 3) := by decide +kernel
theorem d138_75 : decode (mCode 138) 75 = .ok (.goto (-70), 3) := by decide +kernel
theorem d138_78 : decode (mCode 138) 78 = .ok (.iload_n 3, 1) := by decide +kernel
theorem d138_79 : decode (mCode 138) 79 = .ok (.ireturn, 1) := by decide +kernel
theorem d139_0 : decode (mCode 139) 0 = .ok (.aload_n 0, 1) := by decide +kernel
theorem d139_1 : decode (mCode 139) 1 = .ok (.aload_n 0, 1) := by decide +kernel
theorem d139_2 : decode (mCode 139) 2 = .ok (.iload_n 1, 1) := by decide +kernel
theorem d139_3 : decode (mCode 139) 3 = .ok (.iload_n 2, 1) := by decide +kernel
theorem d139_4 : decode (mCode 139) 4 = .ok (.invokevirtual 140, 3) := by decide +kernel
theorem d139_7 : decode (mCode 139) 7 = .ok (.ifCond .eq 7, 3) := by decide +kernel
theorem d139_10 : decode (mCode 139) 10 = .ok (.iconst 0, 1) := by decide +kernel
theorem d139_11 : decode (mCode 139) 11 = .ok (.goto 4, 3) := by decide +kernel
theorem d139_14 : decode (mCode 139) 14 = .ok (.iconst 1, 1) := by decide +kernel
theorem d139_15 : decode (mCode 139) 15 = .ok (.invokevirtual 78, 3) := by decide +kernel
theorem d139_18 : decode (mCode 139) 18 = .ok (.ifCond .eq 7, 3) := by decide +kernel
theorem d139_21 : decode (mCode 139) 21 = .ok (.iconst 0, 1) := by decide +kernel
theorem d139_22 : decode (mCode 139) 22 = .ok (.goto 13, 3) := by decide +kernel
theorem d139_25 : decode (mCode 139) 25 = .ok (.aload_n 0, 1) := by decide +kernel
theorem d139_26 : decode (mCode 139) 26 = .ok (.getfield 23, 3) := by decide +kernel
theorem d139_29 : decode (mCode 139) 29 = .ok (.iconst 3, 1) := by decide +kernel
theorem d139_30 : decode (mCode 139) 30 = .ok (.iload_n 1, 1) := by decide +kernel
theorem d139_31 : decode (mCode 139) 31 = .ok (.imul, 1) := by decide +kernel
theorem d139_32 : decode (mCode 139) 32 = .ok (.iload_n 2, 1) := by decide +kernel
theorem d139_33 : decode (mCode 139) 33 = .ok (.iadd, 1) := by decide +kernel
theorem d139_34 : decode (mCode 139) 34 = .ok (.iaload, 1) := by decide +kernel
theorem d139_35 : decode (mCode 139) 35 = .ok (.ireturn, 1) := by decide +kernel
theorem d140_0 : decode (mCode 140) 0 = .ok (.aload_n 0, 1) := by decide +kernel
theorem d140_1 : decode (mCode 140) 1 = .ok (.invokevirtual 134, 3) := by decide +kernel
theorem d140_4 : decode (mCode 140) 4 = .ok (.iload_n 1, 1) := by decide +kernel
theorem d140_5 : decode (mCode 140) 5 = .ok (.iconst 0, 1) := by decide +kernel
theorem d140_6 : decode (mCode 140) 6 = .ok (.aload_n 0, 1) := by decide +kernel
theorem d140_7 : decode (mCode 140) 7 = .ok (.getfield 124, 3) := by decide +kernel
theorem d140_10 : decode (mCode 140) 10 = .ok (.iconst 1, 1) := by decide +kernel
theorem d140_11 : decode (mCode 140) 11 = .ok (.isub, 1) := by decide +kernel
theorem d140_12 : decode (mCode 140) 12 = .ok (.invokestatic 48, 3) := by decide +kernel
theorem d140_15 : decode (mCode 140) 15 = .ok (.ifCond .eq 16, 3) := by decide +kernel
theorem d140_18 : decode (mCode 140) 18 = .ok (.iload_n 2, 1) := by decide +kernel
theorem d140_19 : decode (mCode 140) 19 = .ok (.iconst 0, 1) := by decide +kernel
theorem d140_20 : decode (mCode 140) 20 = .ok (.iconst 2, 1) := by decide +kernel
theorem d140_21 : decode (mCode 140) 21 = .ok (.invokestatic 48, 3) := by decide +kernel
theorem d140_24 : decode (mCode 140) 24 = .ok (.ifCond .eq 7, 3) := by decide +kernel
theorem d140_27 : decode (mCode 140) 27 = .ok (.iconst 1, 1) := by decide +kernel
theorem d140_28 : decode (mCode 140) 28 = .ok (.goto 4, 3) := by decide +kernel
theorem d140_31 : decode (mCode 140) 31 = .ok (.iconst 0, 1) := by decide +kernel
theorem d140_32 : decode (mCode 140) 32 = .ok (.ireturn, 1) := by decide +kernel
theorem d141_0 : decode (mCode 141) 0 = .ok (.aload_n 0, 1) := by decide +kernel
theorem d141_1 : decode (mCode 141) 1 = .ok (.aload_n 0, 1) := by decide +kernel
theorem d141_2 : decode (mCode 141) 2 = .ok (.iload_n 1, 1) := by decide +kernel
theorem d141_3 : decode (mCode 141) 3 = .ok (.iload_n 2, 1) := by decide +kernel
theorem d141_4 : decode (mCode 141) 4 = .ok (.invokevirtual 140, 3) := by decide +kernel
theorem d141_7 : decode (mCode 141) 7 = .ok (.ifCond .eq 7, 3) := by decide +kernel
theorem d141_10 : decode (mCode 141) 10 = .ok (.iconst 0, 1) := by decide +kernel
theorem d141_11 : decode (mCode 141) 11 = .ok (.goto 4, 3) := by decide +kernel
theorem d141_14 : decode (mCode 141) 14 = .ok (.iconst 1, 1) := by decide +kernel
theorem d141_15 : decode (mCode 141) 15 = .ok (.invokevirtual 78, 3) := by decide +kernel
theorem d141_18 : decode (mCode 141) 18 = .ok (.ifCond .eq 7, 3) := by decide +kernel
theorem d141_21 : decode (mCode 141) 21 = .ok (.iconst 0, 1) := by decide +kernel
theorem d141_22 : decode (mCode 141) 22 = .ok (.goto 31, 3) := by decide +kernel
theorem d141_25 : decode (mCode 141) 25 = .ok (.aload_n 0, 1) := by decide +kernel
theorem d141_26 : decode (mCode 141) 26 = .ok (.aload_n 0, 1) := by decide +kernel
theorem d141_27 : decode (mCode 141) 27 = .ok (.getfield 23, 3) := by decide +kernel
theorem d141_30 : decode (mCode 141) 30 = .ok (.iconst 3, 1) := by decide +kernel
theorem d141_31 : decode (mCode 141) 31 = .ok (.iload_n 1, 1) := by decide +kernel
theorem d141_32 : decode (mCode 141) 32 = .ok (.imul, 1) := by decide +kernel
theorem d141_33 : decode (mCode 141) 33 = .ok (.iload_n 2, 1) := by decide +kernel
theorem d141_34 : decode (mCode 141) 34 = .ok (.iconst 1, 1) := by decide +kernel
theorem d141_35 : decode (mCode 141) 35 = .ok (.iadd, 1) := by decide +kernel
theorem d141_36 : decode (mCode 141) 36 = .ok (.iconst 3, 1) := by decide +kernel
theorem d141_37 : decode (mCode 141) 37 = .ok (.irem, 1) := by decide +kernel
theorem d141_38 : decode (mCode 141) 38 = .ok (.iadd, 1) := by decide +kernel
theorem d141_39 : decode (mCode 141) 39 = .ok (.iaload, 1) := by decide +kernel
theorem d141_40 : decode (mCode 141) 40 = .ok (.aload_n 0, 1) := by decide +kernel
theorem d141_41 : decode (mCode 141) 41 = .ok (.getfield 23, 3) := by decide +kernel
theorem d141_44 : decode (mCode 141) 44 = .ok (.iconst 3, 1) := by decide +kernel
theorem d141_45 : decode (mCode 141) 45 = .ok (.iload_n 1, 1) := by decide +kernel
theorem d141_46 : decode (mCode 141) 46 = .ok (.imul, 1) := by decide +kernel
theorem d141_47 : decode (mCode 141) 47 = .ok (.iload_n 2, 1) := by decide +kernel
theorem d141_48 : decode (mCode 141) 48 = .ok (.iadd, 1) := by decide +kernel
theorem d141_49 : decode (mCode 141) 49 = .ok (.iaload, 1) := by decide +kernel
theorem d141_50 : decode (mCode 141) 50 = .ok (.invokevirtual 137, 3) := by decide +kernel
theorem d141_53 : decode (mCode 141) 53 = .ok (.ireturn, 1) := by decide +kernel
theorem d142_0 : decode (mCode 142) 0 = .ok (.aload_n 0, 1) := by decide +kernel
theorem d142_1 : decode (mCode 142) 1 = .ok (.aload_n 0, 1) := by decide +kernel
theorem d142_2 : decode (mCode 142) 2 = .ok (.iload_n 1, 1) := by decide +kernel
theorem d142_3 : decode (mCode 142) 3 = .ok (.iload_n 2, 1) := by decide +kernel
theorem d142_4 : decode (mCode 142) 4 = .ok (.invokevirtual 96, 3) := by decide +kernel
theorem d142_7 : decode (mCode 142) 7 = .ok (.ifCond .eq 7, 3) := by decide +kernel
theorem d142_10 : decode (mCode 142) 10 = .ok (.iconst 0, 1) := by decide +kernel
theorem d142_11 : decode (mCode 142) 11 = .ok (.goto 4, 3) := by decide +kernel
theorem d142_14 : decode (mCode 142) 14 = .ok (.iconst 1, 1) := by decide +kernel
theorem d142_15 : decode (mCode 142) 15 = .ok (.invokevirtual 78, 3) := by decide +kernel
theorem d142_18 : decode (mCode 142) 18 = .ok (.ifCond .eq 5, 3) := by decide +kernel
theorem d142_21 : decode (mCode 142) 21 = .ok (.iconst 0, 1) := by decide +kernel
theorem d142_22 : decode (mCode 142) 22 = .ok (.ireturn, 1) := by decide +kernel
theorem d142_23 : decode (mCode 142) 23 = .ok (.aload_n 0, 1) := by decide +kernel
theorem d142_24 : decode (mCode 142) 24 = .ok (.invokevirtual 134, 3) := by decide +kernel
theorem d142_27 : decode (mCode 142) 27 = .ok (.aload_n 0, 1) := by decide +kernel
theorem d142_28 : decode (mCode 142) 28 = .ok (.getfield 124, 3) := by decide +kernel
theorem d142_31 : decode (mCode 142) 31 = .ok (.ifCond .eq 17, 3) := by decide +kernel
theorem d142_34 : decode (mCode 142) 34 = .ok (.aload_n 0, 1) := by decide +kernel
theorem d142_35 : decode (mCode 142) 35 = .ok (.getfield 20, 3) := by decide +kernel
theorem d142_38 : decode (mCode 142) 38 = .ok (.bipush 40, 2) := by decide +kernel
theorem d142_40 : decode (mCode 142) 40 = .ok (.iload_n 1, 1) := by decide +kernel
theorem d142_41 : decode (mCode 142) 41 = .ok (.imul, 1) := by decide +kernel
theorem d142_42 : decode (mCode 142) 42 = .ok (.iload_n 2, 1) := by decide +kernel
theorem d142_43 : decode (mCode 142) 43 = .ok (.iadd, 1) := by decide +kernel
theorem d142_44 : decode (mCode 142) 44 = .ok (.baload, 1) := by decide +kernel
theorem d142_45 : decode (mCode 142) 45 = .ok (.ifCond .ne 7, 3) := by decide +kernel
theorem d142_48 : decode (mCode 142) 48 = .ok (.iconst 0, 1) := by decide +kernel
theorem d142_49 : decode (mCode 142) 49 = .ok (.goto 22, 3) := by decide +kernel
theorem d142_52 : decode (mCode 142) 52 = .ok (.aload_n 0, 1) := by decide +kernel
theorem d142_53 : decode (mCode 142) 53 = .ok (.getfield 16, 3) := by decide +kernel
theorem d142_56 : decode (mCode 142) 56 = .ok (.bipush 40, 2) := by decide +kernel
theorem d142_58 : decode (mCode 142) 58 = .ok (.iload_n 1, 1) := by decide +kernel
theorem d142_59 : decode (mCode 142) 59 = .ok (.imul, 1) := by decide +kernel
theorem d142_60 : decode (mCode 142) 60 = .ok (.iload_n 2, 1) := by decide +kernel
theorem d142_61 : decode (mCode 142) 61 = .ok (.iadd, 1) := by decide +kernel
theorem d142_62 : decode (mCode 142) 62 = .ok (.baload, 1) := by decide +kernel
theorem d142_63 : decode (mCode 142) 63 = .ok (.ifCond .eq 7, 3) := by decide +kernel
theorem d142_66 : decode (mCode 142) 66 = .ok (.iconst 2, 1) := by decide +kernel
theorem d142_67 : decode (mCode 142) 67 = .ok (.goto 4, 3) := by decide +kernel
theorem d142_70 : decode (mCode 142) 70 = .ok (.iconst 1, 1) := by decide +kernel
theorem d142_71 : decode (mCode 142) 71 = .ok (.ireturn, 1) := by decide +kernel
theorem d143_0 : decode (mCode 143) 0 = .ok (.aload_n 0, 1) := by decide +kernel
theorem d143_1 : decode (mCode 143) 1 = .ok (.aload_n 0, 1) := by decide +kernel
theorem d143_2 : decode (mCode 143) 2 = .ok (.iload_n 1, 1) := by decide +kernel
theorem d143_3 : decode (mCode 143) 3 = .ok (.invokevirtual 89, 3) := by decide +kernel
theorem d143_6 : decode (mCode 143) 6 = .ok (.ifCond .eq 23, 3) := by decide +kernel
theorem d143_9 : decode (mCode 143) 9 = .ok (.aload_n 0, 1) := by decide +kernel
theorem d143_10 : decode (mCode 143) 10 = .ok (.iload_n 2, 1) := by decide +kernel
theorem d143_11 : decode (mCode 143) 11 = .ok (.invokevirtual 89, 3) := by decide +kernel
theorem d143_14 : decode (mCode 143) 14 = .ok (.ifCond .eq 15, 3) := by decide +kernel
theorem d143_17 : decode (mCode 143) 17 = .ok (.aload_n 0, 1) := by decide +kernel
theorem d143_18 : decode (mCode 143) 18 = .ok (.iload_n 3, 1) := by decide +kernel
theorem d143_19 : decode (mCode 143) 19 = .ok (.invokevirtual 89, 3) := by decide +kernel
theorem d143_22 : decode (mCode 143) 22 = .ok (.ifCond .eq 7, 3) := by decide +kernel
theorem d143_25 : decode (mCode 143) 25 = .ok (.iconst 0, 1) := by decide +kernel
theorem d143_26 : decode (mCode 143) 26 = .ok (.goto 4, 3) := by decide +kernel
theorem d143_29 : decode (mCode 143) 29 = .ok (.iconst 1, 1) := by decide +kernel
theorem d143_30 : decode (mCode 143) 30 = .ok (.invokevirtual 78, 3) := by decide +kernel
theorem d143_33 : decode (mCode 143) 33 = .ok (.ifCond .eq 7, 3) := by decide +kernel
theorem d143_36 : decode (mCode 143) 36 = .ok (.iconst 0, 1) := by decide +kernel
theorem d143_37 : decode (mCode 143) 37 = .ok (.goto 10, 3) := by decide +kernel
theorem d143_40 : decode (mCode 143) 40 = .ok (.aload_n 0, 1) := by decide +kernel
theorem d143_41 : decode (mCode 143) 41 = .ok (.iload_n 1, 1) := by decide +kernel
theorem d143_42 : decode (mCode 143) 42 = .ok (.iload_n 2, 1) := by decide +kernel
theorem d143_43 : decode (mCode 143) 43 = .ok (.iload_n 3, 1) := by decide +kernel
theorem d143_44 : decode (mCode 143) 44 = .ok (.invokevirtual 70, 3) := by decide +kernel
theorem d143_47 : decode (mCode 143) 47 = .ok (.ireturn, 1) := by decide +kernel
theorem d144_0 : decode (mCode 144) 0 = .ok (.aload_n 0, 1) := by decide +kernel
theorem d144_1 : decode (mCode 144) 1 = .ok (.iload_n 1, 1) := by decide +kernel
theorem d144_2 : decode (mCode 144) 2 = .ok (.invokevirtual 89, 3) := by decide +kernel
theorem d144_5 : decode (mCode 144) 5 = .ok (.ifCond .eq 32, 3) := by decide +kernel
theorem d144_8 : decode (mCode 144) 8 = .ok (.aload_n 0, 1) := by decide +kernel
theorem d144_9 : decode (mCode 144) 9 = .ok (.iload_n 2, 1) := by decide +kernel
theorem d144_10 : decode (mCode 144) 10 = .ok (.invokevirtual 89, 3) := by decide +kernel
theorem d144_13 : decode (mCode 144) 13 = .ok (.ifCond .eq 24, 3) := by decide +kernel
theorem d144_16 : decode (mCode 144) 16 = .ok (.aload_n 0, 1) := by decide +kernel
theorem d144_17 : decode (mCode 144) 17 = .ok (.iload_n 3, 1) := by decide +kernel
theorem d144_18 : decode (mCode 144) 18 = .ok (.invokevirtual 89, 3) := by decide +kernel
theorem d144_21 : decode (mCode 144) 21 = .ok (.ifCond .eq 16, 3) := by decide +kernel
theorem d144_24 : decode (mCode 144) 24 = .ok (.aload_n 0, 1) := by decide +kernel
theorem d144_25 : decode (mCode 144) 25 = .ok (.iload 4, 2) := by decide +kernel
theorem d144_27 : decode (mCode 144) 27 = .ok (.invokevirtual 89, 3) := by decide +kernel
theorem d144_30 : decode (mCode 144) 30 = .ok (.ifCond .eq 7, 3) := by decide +kernel
theorem d144_33 : decode (mCode 144) 33 = .ok (.iconst 1, 1) := by decide +kernel
theorem d144_34 : decode (mCode 144) 34 = .ok (.goto 4, 3) := by decide +kernel
theorem d144_37 : decode (mCode 144) 37 = .ok (.iconst 0, 1) := by decide +kernel
theorem d144_38 : decode (mCode 144) 38 = .ok (.istore 5, 2) := by decide +kernel
theorem d144_40 : decode (mCode 144) 40 = .ok (.aload_n 0, 1) := by decide +kernel
theorem d144_41 : decode (mCode 144) 41 = .ok (.iload 5, 2) := by decide +kernel
theorem d144_43 : decode (mCode 144) 43 = .ok (.ifCond .eq 17, 3) := by decide +kernel
theorem d144_46 : decode (mCode 144) 46 = .ok (.aload_n 0, 1) := by decide +kernel
theorem d144_47 : decode (mCode 144) 47 = .ok (.iload_n 1, 1) := by decide +kernel
theorem d144_48 : decode (mCode 144) 48 = .ok (.iload_n 2, 1) := by decide +kernel
theorem d144_49 : decode (mCode 144) 49 = .ok (.iload_n 3, 1) := by decide +kernel
theorem d144_50 : decode (mCode 144) 50 = .ok (.invokevirtual 70, 3) := by decide +kernel
theorem d144_53 : decode (mCode 144) 53 = .ok (.ifCond .eq 7, 3) := by decide +kernel
theorem d144_56 : decode (mCode 144) 56 = .ok (.iconst 0, 1) := by decide +kernel
theorem d144_57 : decode (mCode 144) 57 = .ok (.goto 4, 3) := by decide +kernel
theorem d144_60 : decode (mCode 144) 60 = .ok (.iconst 1, 1) := by decide +kernel
theorem d144_61 : decode (mCode 144) 61 = .ok (.invokevirtual 78, 3) := by decide +kernel
theorem d144_64 : decode (mCode 144) 64 = .ok (.ifCond .eq 5, 3) := by decide +kernel
theorem d144_67 : decode (mCode 144) 67 = .ok (.iconst 0, 1) := by decide +kernel
theorem d144_68 : decode (mCode 144) 68 = .ok (.ireturn, 1) := by decide +kernel
theorem d144_69 : decode (mCode 144) 69 = .ok (.aload_n 0, 1) := by decide +kernel
theorem d144_70 : decode (mCode 144) 70 = .ok (.iload_n 1, 1) := by decide +kernel
theorem d144_71 : decode (mCode 144) 71 = .ok (.iload_n 2, 1) := by decide +kernel
theorem d144_72 : decode (mCode 144) 72 = .ok (.iload_n 3, 1) := by decide +kernel
theorem d144_73 : decode (mCode 144) 73 = .ok (.invokevirtual 70, 3) := by decide +kernel
theorem d144_76 : decode (mCode 144) 76 = .ok (.ifCond .le 15, 3) := by decide +kernel
theorem d144_79 : decode (mCode 144) 79 = .ok (.aload_n 0, 1) := by decide +kernel
theorem d144_80 : decode (mCode 144) 80 = .ok (.iload_n 1, 1) := by decide +kernel
theorem d144_81 : decode (mCode 144) 81 = .ok (.iload_n 2, 1) := by decide +kernel
theorem d144_82 : decode (mCode 144) 82 = .ok (.iload_n 3, 1) := by decide +kernel
theorem d144_83 : decode (mCode 144) 83 = .ok (.iload 4, 2) := by decide +kernel
theorem d144_85 : decode (mCode 144) 85 = .ok (.invokevirtual 113, 3) := by decide +kernel
theorem d144_88 : decode (mCode 144) 88 = .ok (.goto 12, 3) := by decide +kernel
theorem d144_91 : decode (mCode 144) 91 = .ok (.aload_n 0, 1) := by decide +kernel
theorem d144_92 : decode (mCode 144) 92 = .ok (.iload_n 1, 1) := by decide +kernel
theorem d144_93 : decode (mCode 144) 93 = .ok (.iload_n 3, 1) := by decide +kernel
theorem d144_94 : decode (mCode 144) 94 = .ok (.iload_n 2, 1) := by decide +kernel
theorem d144_95 : decode (mCode 144) 95 = .ok (.iload 4, 2) := by decide +kernel
theorem d144_97 : decode (mCode 144) 97 = .ok (.invokevirtual 113, 3) := by decide +kernel
theorem d144_100 : decode (mCode 144) 100 = .ok (.ireturn, 1) := by decide +kernel
theorem d145_0 : decode (mCode 145) 0 = .ok (.aload_n 0, 1) := by decide +kernel
theorem d145_1 : decode (mCode 145) 1 = .ok (.iload_n 1, 1) := by decide +kernel
theorem d145_2 : decode (mCode 145) 2 = .ok (.iload_n 2, 1) := by decide +kernel
theorem d145_3 : decode (mCode 145) 3 = .ok (.invokestatic 74, 3) := by decide +kernel
theorem d145_6 : decode (mCode 145) 6 = .ok (.ifCond .eq 7, 3) := by decide +kernel
theorem d145_9 : decode (mCode 145) 9 = .ok (.iconst 0, 1) := by decide +kernel
theorem d145_10 : decode (mCode 145) 10 = .ok (.goto 4, 3) := by decide +kernel
theorem d145_13 : decode (mCode 145) 13 = .ok (.iconst 1, 1) := by decide +kernel
theorem d145_14 : decode (mCode 145) 14 = .ok (.invokevirtual 78, 3) := by decide +kernel
theorem d145_17 : decode (mCode 145) 17 = .ok (.ifCond .eq 5, 3) := by decide +kernel
theorem d145_20 : decode (mCode 145) 20 = .ok (.iconst 0, 1) := by decide +kernel
theorem d145_21 : decode (mCode 145) 21 = .ok (.ireturn, 1) := by decide +kernel
theorem d145_22 : decode (mCode 145) 22 = .ok (.aload_n 0, 1) := by decide +kernel
theorem d145_23 : decode (mCode 145) 23 = .ok (.invokevirtual 134, 3) := by decide +kernel
theorem d145_26 : decode (mCode 145) 26 = .ok (.aload_n 0, 1) := by decide +kernel
theorem d145_27 : decode (mCode 145) 27 = .ok (.getfield 7, 3) := by decide +kernel
theorem d145_30 : decode (mCode 145) 30 = .ok (.bipush 40, 2) := by decide +kernel
theorem d145_32 : decode (mCode 145) 32 = .ok (.iload_n 1, 1) := by decide +kernel
theorem d145_33 : decode (mCode 145) 33 = .ok (.i2l, 1) := by decide +kernel
theorem d145_34 : decode (mCode 145) 34 = .ok (.lastore, 1) := by decide +kernel
theorem d145_35 : decode (mCode 145) 35 = .ok (.aload_n 0, 1) := by decide +kernel
theorem d145_36 : decode (mCode 145) 36 = .ok (.getfield 13, 3) := by decide +kernel
theorem d145_39 : decode (mCode 145) 39 = .ok (.bipush 40, 2) := by decide +kernel
theorem d145_41 : decode (mCode 145) 41 = .ok (.iload_n 2, 1) := by decide +kernel
theorem d145_42 : decode (mCode 145) 42 = .ok (.i2l, 1) := by decide +kernel
theorem d145_43 : decode (mCode 145) 43 = .ok (.lastore, 1) := by decide +kernel
theorem d145_44 : decode (mCode 145) 44 = .ok (.aload_n 0, 1) := by decide +kernel
theorem d145_45 : decode (mCode 145) 45 = .ok (.bipush 40, 2) := by decide +kernel
theorem d145_47 : decode (mCode 145) 47 = .ok (.invokevirtual 143, 3) := by decide +kernel
theorem d145_50 : decode (mCode 145) 50 = .ok (.ireturn, 1) := by decide +kernel
theorem d146_0 : decode (mCode 146) 0 = .ok (.iconst 0, 1) := by decide +kernel
theorem d146_1 : decode (mCode 146) 1 = .ok (.istore_n 2, 1) := by decide +kernel
theorem d146_2 : decode (mCode 146) 2 = .ok (.iload_n 2, 1) := by decide +kernel
theorem d146_3 : decode (mCode 146) 3 = .ok (.aload_n 0, 1) := by decide +kernel
theorem d146_4 : decode (mCode 146) 4 = .ok (.getfield 124, 3) := by decide +kernel
theorem d146_7 : decode (mCode 146) 7 = .ok (.if_icmp .ge 78, 3) := by decide +kernel
theorem d146_10 : decode (mCode 146) 10 = .ok (.aload_n 0, 1) := by decide +kernel
theorem d146_11 : decode (mCode 146) 11 = .ok (.getfield 23, 3) := by decide +kernel
theorem d146_14 : decode (mCode 146) 14 = .ok (.iconst 3, 1) := by decide +kernel
theorem d146_15 : decode (mCode 146) 15 = .ok (.iload_n 2, 1) := by decide +kernel
theorem d146_16 : decode (mCode 146) 16 = .ok (.imul, 1) := by decide +kernel
theorem d146_17 : decode (mCode 146) 17 = .ok (.iaload, 1) := by decide +kernel
theorem d146_18 : decode (mCode 146) 18 = .ok (.istore_n 3, 1) := by decide +kernel
theorem d146_19 : decode (mCode 146) 19 = .ok (.aload_n 0, 1) := by decide +kernel
theorem d146_20 : decode (mCode 146) 20 = .ok (.getfield 23, 3) := by decide +kernel
theorem d146_23 : decode (mCode 146) 23 = .ok (.iconst 3, 1) := by decide +kernel
theorem d146_24 : decode (mCode 146) 24 = .ok (.iload_n 2, 1) := by decide +kernel
theorem d146_25 : decode (mCode 146) 25 = .ok (.imul, 1) := by decide +kernel
theorem d146_26 : decode (mCode 146) 26 = .ok (.iconst 1, 1) := by decide +kernel
theorem d146_27 : decode (mCode 146) 27 = .ok (.iadd, 1) := by decide +kernel
theorem d146_28 : decode (mCode 146) 28 = .ok (.iaload, 1) := by decide +kernel
theorem d146_29 : decode (mCode 146) 29 = .ok (.istore 4, 2) := by decide +kernel
theorem d146_31 : decode (mCode 146) 31 = .ok (.aload_n 0, 1) := by decide +kernel
theorem d146_32 : decode (mCode 146) 32 = .ok (.getfield 23, 3) := by decide +kernel
theorem d146_35 : decode (mCode 146) 35 = .ok (.iconst 3, 1) := by decide +kernel
theorem d146_36 : decode (mCode 146) 36 = .ok (.iload_n 2, 1) := by decide +kernel
theorem d146_37 : decode (mCode 146) 37 = .ok (.imul, 1) := by decide +kernel
theorem d146_38 : decode (mCode 146) 38 = .ok (.iconst 2, 1) := by decide +kernel
theorem d146_39 : decode (mCode 146) 39 = .ok (.iadd, 1) := by decide +kernel
theorem d146_40 : decode (mCode 146) 40 = .ok (.iaload, 1) := by decide +kernel
theorem d146_41 : decode (mCode 146) 41 = .ok (.istore 5, 2) := by decide +kernel
theorem d146_43 : decode (mCode 146) 43 = .ok (.aload_n 0, 1) := by decide +kernel
theorem d146_44 : decode (mCode 146) 44 = .ok (.iload_n 3, 1) := by decide +kernel
theorem d146_45 : decode (mCode 146) 45 = .ok (.iload 4, 2) := by decide +kernel
theorem d146_47 : decode (mCode 146) 47 = .ok (.iload_n 1, 1) := by decide +kernel
theorem d146_48 : decode (mCode 146) 48 = .ok (.invokevirtual 70, 3) := by decide +kernel
theorem d146_51 : decode (mCode 146) 51 = .ok (.ifCond .lt 28, 3) := by decide +kernel
theorem d146_54 : decode (mCode 146) 54 = .ok (.aload_n 0, 1) := by decide +kernel
theorem d146_55 : decode (mCode 146) 55 = .ok (.iload 4, 2) := by decide +kernel
theorem d146_57 : decode (mCode 146) 57 = .ok (.iload 5, 2) := by decide +kernel
theorem d146_59 : decode (mCode 146) 59 = .ok (.iload_n 1, 1) := by decide +kernel
theorem d146_60 : decode (mCode 146) 60 = .ok (.invokevirtual 70, 3) := by decide +kernel
theorem d146_63 : decode (mCode 146) 63 = .ok (.ifCond .lt 16, 3) := by decide +kernel
theorem d146_66 : decode (mCode 146) 66 = .ok (.aload_n 0, 1) := by decide +kernel
theorem d146_67 : decode (mCode 146) 67 = .ok (.iload 5, 2) := by decide +kernel
theorem d146_69 : decode (mCode 146) 69 = .ok (.iload_n 3, 1) := by decide +kernel
theorem d146_70 : decode (mCode 146) 70 = .ok (.iload_n 1, 1) := by decide +kernel
theorem d146_71 : decode (mCode 146) 71 = .ok (.invokevirtual 70, 3) := by decide +kernel
theorem d146_74 : decode (mCode 146) 74 = .ok (.ifCond .lt 5, 3) := by decide +kernel
theorem d146_77 : decode (mCode 146) 77 = .ok (.iload_n 2, 1) := by decide +kernel
theorem d146_78 : decode (mCode 146) 78 = .ok (.ireturn, 1) := by decide +kernel
theorem d146_79 : decode (mCode 146) 79 = .ok (.iinc 2 1, 3) := by decide +kernel
theorem d146_82 : decode (mCode 146) 82 = .ok (.goto (-80), 3) := by decide +kernel
theorem d146_85 : decode (mCode 146) 85 = .ok (.iconst (-1), 1) := by decide +kernel
theorem d146_86 : decode (mCode 146) 86 = .ok (.ireturn, 1) := by decide +kernel
theorem d147_0 : decode (mCode 147) 0 = .ok (.aload_n 0, 1) := by decide +kernel
theorem d147_1 : decode (mCode 147) 1 = .ok (.iload_n 1, 1) := by decide +kernel
theorem d147_2 : decode (mCode 147) 2 = .ok (.iload_n 2, 1) := by decide +kernel
theorem d147_3 : decode (mCode 147) 3 = .ok (.invokestatic 74, 3) := by decide +kernel
theorem d147_6 : decode (mCode 147) 6 = .ok (.ifCond .eq 16, 3) := by decide +kernel
theorem d147_9 : decode (mCode 147) 9 = .ok (.iload_n 3, 1) := by decide +kernel
theorem d147_10 : decode (mCode 147) 10 = .ok (.iload 4, 2) := by decide +kernel
theorem d147_12 : decode (mCode 147) 12 = .ok (.invokestatic 74, 3) := by decide +kernel
theorem d147_15 : decode (mCode 147) 15 = .ok (.ifCond .eq 7, 3) := by decide +kernel
theorem d147_18 : decode (mCode 147) 18 = .ok (.iconst 0, 1) := by decide +kernel
theorem d147_19 : decode (mCode 147) 19 = .ok (.goto 4, 3) := by decide +kernel
theorem d147_22 : decode (mCode 147) 22 = .ok (.iconst 1, 1) := by decide +kernel
theorem d147_23 : decode (mCode 147) 23 = .ok (.invokevirtual 78, 3) := by decide +kernel
theorem d147_26 : decode (mCode 147) 26 = .ok (.ifCond .eq 5, 3) := by decide +kernel
theorem d147_29 : decode (mCode 147) 29 = .ok (.iconst 0, 1) := by decide +kernel
theorem d147_30 : decode (mCode 147) 30 = .ok (.ireturn, 1) := by decide +kernel
theorem d147_31 : decode (mCode 147) 31 = .ok (.aload_n 0, 1) := by decide +kernel
theorem d147_32 : decode (mCode 147) 32 = .ok (.invokevirtual 134, 3) := by decide +kernel
theorem d147_35 : decode (mCode 147) 35 = .ok (.aload_n 0, 1) := by decide +kernel
theorem d147_36 : decode (mCode 147) 36 = .ok (.getfield 7, 3) := by decide +kernel
theorem d147_39 : decode (mCode 147) 39 = .ok (.bipush 40, 2) := by decide +kernel
theorem d147_41 : decode (mCode 147) 41 = .ok (.iload_n 1, 1) := by decide +kernel
theorem d147_42 : decode (mCode 147) 42 = .ok (.i2l, 1) := by decide +kernel
theorem d147_43 : decode (mCode 147) 43 = .ok (.lastore, 1) := by decide +kernel
theorem d147_44 : decode (mCode 147) 44 = .ok (.aload_n 0, 1) := by decide +kernel
theorem d147_45 : decode (mCode 147) 45 = .ok (.getfield 13, 3) := by decide +kernel
theorem d147_48 : decode (mCode 147) 48 = .ok (.bipush 40, 2) := by decide +kernel
theorem d147_50 : decode (mCode 147) 50 = .ok (.iload_n 2, 1) := by decide +kernel
theorem d147_51 : decode (mCode 147) 51 = .ok (.i2l, 1) := by decide +kernel
theorem d147_52 : decode (mCode 147) 52 = .ok (.lastore, 1) := by decide +kernel
theorem d147_53 : decode (mCode 147) 53 = .ok (.aload_n 0, 1) := by decide +kernel
theorem d147_54 : decode (mCode 147) 54 = .ok (.getfield 7, 3) := by decide +kernel
theorem d147_57 : decode (mCode 147) 57 = .ok (.bipush 41, 2) := by decide +kernel
theorem d147_59 : decode (mCode 147) 59 = .ok (.iload_n 3, 1) := by decide +kernel
theorem d147_60 : decode (mCode 147) 60 = .ok (.i2l, 1) := by decide +kernel
theorem d147_61 : decode (mCode 147) 61 = .ok (.lastore, 1) := by decide +kernel
theorem d147_62 : decode (mCode 147) 62 = .ok (.aload_n 0, 1) := by decide +kernel
theorem d147_63 : decode (mCode 147) 63 = .ok (.getfield 13, 3) := by decide +kernel
theorem d147_66 : decode (mCode 147) 66 = .ok (.bipush 41, 2) := by decide +kernel
theorem d147_68 : decode (mCode 147) 68 = .ok (.iload 4, 2) := by decide +kernel
theorem d147_70 : decode (mCode 147) 70 = .ok (.i2l, 1) := by decide +kernel
theorem d147_71 : decode (mCode 147) 71 = .ok (.lastore, 1) := by decide +kernel
theorem d147_72 : decode (mCode 147) 72 = .ok (.aload_n 0, 1) := by decide +kernel
theorem d147_73 : decode (mCode 147) 73 = .ok (.bipush 40, 2) := by decide +kernel
theorem d147_75 : decode (mCode 147) 75 = .ok (.invokevirtual 143, 3) := by decide +kernel
theorem d147_78 : decode (mCode 147) 78 = .ok (.istore 5, 2) := by decide +kernel
theorem d147_80 : decode (mCode 147) 80 = .ok (.aload_n 0, 1) := by decide +kernel
theorem d147_81 : decode (mCode 147) 81 = .ok (.bipush 41, 2) := by decide +kernel
theorem d147_83 : decode (mCode 147) 83 = .ok (.invokevirtual 143, 3) := by decide +kernel
theorem d147_86 : decode (mCode 147) 86 = .ok (.istore 6, 2) := by decide +kernel
theorem d147_88 : decode (mCode 147) 88 = .ok (.iload 5, 2) := by decide +kernel
theorem d147_90 : decode (mCode 147) 90 = .ok (.ifCond .lt 8, 3) := by decide +kernel
theorem d147_93 : decode (mCode 147) 93 = .ok (.iload 6, 2) := by decide +kernel
theorem d147_95 : decode (mCode 147) 95 = .ok (.ifCond .ge 5, 3) := by decide +kernel
theorem d147_98 : decode (mCode 147) 98 = .ok (.iconst (-1), 1) := by decide +kernel
theorem d147_99 : decode (mCode 147) 99 = .ok (.ireturn, 1) := by decide +kernel
theorem d147_100 : decode (mCode 147) 100 = .ok (.aload_n 0, 1) := by decide +kernel
theorem d147_101 : decode (mCode 147) 101 = .ok (.iload 6, 2) := by decide +kernel
theorem d147_103 : decode (mCode 147) 103 = .ok (.invokevirtual 150, 3) := by decide +kernel
theorem d147_106 : decode (mCode 147) 106 = .ok (.aload_n 0, 1) := by decide +kernel
theorem d147_107 : decode (mCode 147) 107 = .ok (.getfield 33, 3) := by decide +kernel
theorem d147_110 : decode (mCode 147) 110 = .ok (.iload 5, 2) := by decide +kernel
theorem d147_112 : decode (mCode 147) 112 = .ok (.iaload, 1) := by decide +kernel
theorem d147_113 : decode (mCode 147) 113 = .ok (.sipush 1000, 3) := by decide +kernel
theorem d147_116 : decode (mCode 147) 116 = .ok (.if_icmp .ne 5, 3) := by decide +kernel
theorem d147_119 : decode (mCode 147) 119 = .ok (.iconst (-1), 1) := by decide +kernel
theorem d147_120 : decode (mCode 147) 120 = .ok (.ireturn, 1) := by decide +kernel
theorem d147_121 : decode (mCode 147) 121 = .ok (.aload_n 0, 1) := by decide +kernel
theorem d147_122 : decode (mCode 147) 122 = .ok (.iconst 1, 1) := by decide +kernel
theorem d147_123 : decode (mCode 147) 123 = .ok (.putfield 154, 3) := by decide +kernel
theorem d147_126 : decode (mCode 147) 126 = .ok (.aload_n 0, 1) := by decide +kernel
theorem d147_127 : decode (mCode 147) 127 = .ok (.getfield 27, 3) := by decide +kernel
theorem d147_130 : decode (mCode 147) 130 = .ok (.iconst 0, 1) := by decide +kernel
theorem d147_131 : decode (mCode 147) 131 = .ok (.iload 5, 2) := by decide +kernel
theorem d147_133 : decode (mCode 147) 133 = .ok (.iastore, 1) := by decide +kernel
theorem d147_134 : decode (mCode 147) 134 = .ok (.aload_n 0, 1) := by decide +kernel
theorem d147_135 : decode (mCode 147) 135 = .ok (.getfield 27, 3) := by decide +kernel
theorem d147_138 : decode (mCode 147) 138 = .ok (.aload_n 0, 1) := by decide +kernel
theorem d147_139 : decode (mCode 147) 139 = .ok (.getfield 154, 3) := by decide +kernel
theorem d147_142 : decode (mCode 147) 142 = .ok (.iconst 1, 1) := by decide +kernel
theorem d147_143 : decode (mCode 147) 143 = .ok (.isub, 1) := by decide +kernel
theorem d147_144 : decode (mCode 147) 144 = .ok (.iaload, 1) := by decide +kernel
theorem d147_145 : decode (mCode 147) 145 = .ok (.iload 6, 2) := by decide +kernel
theorem d147_147 : decode (mCode 147) 147 = .ok (.if_icmp .eq 21, 3) := by decide +kernel
theorem d147_150 : decode (mCode 147) 150 = .ok (.aload_n 0, 1) := by decide +kernel
theorem d147_151 : decode (mCode 147) 151 = .ok (.aload_n 0, 1) := by decide +kernel
theorem d147_152 : decode (mCode 147) 152 = .ok (.getfield 27, 3) := by decide +kernel
theorem d147_155 : decode (mCode 147) 155 = .ok (.aload_n 0, 1) := by decide +kernel
theorem d147_156 : decode (mCode 147) 156 = .ok (.getfield 154, 3) := by decide +kernel
theorem d147_159 : decode (mCode 147) 159 = .ok (.iconst 1, 1) := by decide +kernel
theorem d147_160 : decode (mCode 147) 160 = .ok (.isub, 1) := by decide +kernel
theorem d147_161 : decode (mCode 147) 161 = .ok (.iaload, 1) := by decide +kernel
theorem d147_162 : decode (mCode 147) 162 = .ok (.invokevirtual 157, 3) := by decide +kernel
theorem d147_165 : decode (mCode 147) 165 = .ok (.goto (-31), 3) := by decide +kernel
theorem d147_168 : decode (mCode 147) 168 = .ok (.aload_n 0, 1) := by decide +kernel
theorem d147_169 : decode (mCode 147) 169 = .ok (.invokevirtual 160, 3) := by decide +kernel
theorem d147_172 : decode (mCode 147) 172 = .ok (.aload_n 0, 1) := by decide +kernel
theorem d147_173 : decode (mCode 147) 173 = .ok (.invokevirtual 163, 3) := by decide +kernel
theorem d147_176 : decode (mCode 147) 176 = .ok (.aload_n 0, 1) := by decide +kernel
theorem d147_177 : decode (mCode 147) 177 = .ok (.getfield 166, 3) := by decide +kernel
theorem d147_180 : decode (mCode 147) 180 = .ok (.ireturn, 1) := by decide +kernel
theorem d148_0 : decode (mCode 148) 0 = .ok (.iconst 0, 1) := by decide +kernel
theorem d148_1 : decode (mCode 148) 1 = .ok (.istore_n 2, 1) := by decide +kernel
theorem d148_2 : decode (mCode 148) 2 = .ok (.iload_n 2, 1) := by decide +kernel
theorem d148_3 : decode (mCode 148) 3 = .ok (.aload_n 0, 1) := by decide +kernel
theorem d148_4 : decode (mCode 148) 4 = .ok (.getfield 124, 3) := by decide +kernel
theorem d148_7 : decode (mCode 148) 7 = .ok (.if_icmp .ge 27, 3) := by decide +kernel
theorem d148_10 : decode (mCode 148) 10 = .ok (.aload_n 0, 1) := by decide +kernel
theorem d148_11 : decode (mCode 148) 11 = .ok (.getfield 33, 3) := by decide +kernel
theorem d148_14 : decode (mCode 148) 14 = .ok (.iload_n 2, 1) := by decide +kernel
theorem d148_15 : decode (mCode 148) 15 = .ok (.iload_n 2, 1) := by decide +kernel
theorem d148_16 : decode (mCode 148) 16 = .ok (.iload_n 1, 1) := by decide +kernel
theorem d148_17 : decode (mCode 148) 17 = .ok (.if_icmp .ne 7, 3) := by decide +kernel
theorem d148_20 : decode (mCode 148) 20 = .ok (.iconst 0, 1) := by decide +kernel
theorem d148_21 : decode (mCode 148) 21 = .ok (.goto 6, 3) := by decide +kernel
theorem d148_24 : decode (mCode 148) 24 = .ok (.sipush 1000, 3) := by decide +kernel
theorem d148_27 : decode (mCode 148) 27 = .ok (.iastore, 1) := by decide +kernel
theorem d148_28 : decode (mCode 148) 28 = .ok (.iinc 2 1, 3) := by decide +kernel
theorem d148_31 : decode (mCode 148) 31 = .ok (.goto (-29), 3) := by decide +kernel
theorem d148_34 : decode (mCode 148) 34 = .ok (.iconst 1, 1) := by decide +kernel
theorem d148_35 : decode (mCode 148) 35 = .ok (.istore_n 2, 1) := by decide +kernel
theorem d148_36 : decode (mCode 148) 36 = .ok (.iload_n 2, 1) := by decide +kernel
theorem d148_37 : decode (mCode 148) 37 = .ok (.ifCond .eq 88, 3) := by decide +kernel
theorem d148_40 : decode (mCode 148) 40 = .ok (.iconst 0, 1) := by decide +kernel
theorem d148_41 : decode (mCode 148) 41 = .ok (.istore_n 2, 1) := by decide +kernel
theorem d148_42 : decode (mCode 148) 42 = .ok (.iconst 0, 1) := by decide +kernel
theorem d148_43 : decode (mCode 148) 43 = .ok (.istore_n 3, 1) := by decide +kernel
theorem d148_44 : decode (mCode 148) 44 = .ok (.iload_n 3, 1) := by decide +kernel
theorem d148_45 : decode (mCode 148) 45 = .ok (.aload_n 0, 1) := by decide +kernel
theorem d148_46 : decode (mCode 148) 46 = .ok (.getfield 124, 3) := by decide +kernel
theorem d148_49 : decode (mCode 148) 49 = .ok (.if_icmp .ge 73, 3) := by decide +kernel
theorem d148_52 : decode (mCode 148) 52 = .ok (.iconst 0, 1) := by decide +kernel
theorem d148_53 : decode (mCode 148) 53 = .ok (.istore 4, 2) := by decide +kernel
theorem d148_55 : decode (mCode 148) 55 = .ok (.iload 4, 2) := by decide +kernel
theorem d148_57 : decode (mCode 148) 57 = .ok (.iconst 3, 1) := by decide +kernel
theorem d148_58 : decode (mCode 148) 58 = .ok (.if_icmp .ge 58, 3) := by decide +kernel
theorem d148_61 : decode (mCode 148) 61 = .ok (.aload_n 0, 1) := by decide +kernel
theorem d148_62 : decode (mCode 148) 62 = .ok (.iload_n 3, 1) := by decide +kernel
theorem d148_63 : decode (mCode 148) 63 = .ok (.iload 4, 2) := by decide +kernel
theorem d148_65 : decode (mCode 148) 65 = .ok (.invokevirtual 147, 3) := by decide +kernel
theorem d148_68 : decode (mCode 148) 68 = .ok (.istore 5, 2) := by decide +kernel
theorem d148_70 : decode (mCode 148) 70 = .ok (.iload 5, 2) := by decide +kernel
theorem d148_72 : decode (mCode 148) 72 = .ok (.ifCond .lt 38, 3) := by decide +kernel
theorem d148_75 : decode (mCode 148) 75 = .ok (.aload_n 0, 1) := by decide +kernel
theorem d148_76 : decode (mCode 148) 76 = .ok (.getfield 33, 3) := by decide +kernel
theorem d148_79 : decode (mCode 148) 79 = .ok (.iload 5, 2) := by decide +kernel
theorem d148_81 : decode (mCode 148) 81 = .ok (.iaload, 1) := by decide +kernel
theorem d148_82 : decode (mCode 148) 82 = .ok (.iconst 1, 1) := by decide +kernel
theorem d148_83 : decode (mCode 148) 83 = .ok (.iadd, 1) := by decide +kernel
theorem d148_84 : decode (mCode 148) 84 = .ok (.aload_n 0, 1) := by decide +kernel
theorem d148_85 : decode (mCode 148) 85 = .ok (.getfield 33, 3) := by decide +kernel
theorem d148_88 : decode (mCode 148) 88 = .ok (.iload_n 3, 1) := by decide +kernel
theorem d148_89 : decode (mCode 148) 89 = .ok (.iaload, 1) := by decide +kernel
theorem d148_90 : decode (mCode 148) 90 = .ok (.if_icmp .ge 20, 3) := by decide +kernel
theorem d148_93 : decode (mCode 148) 93 = .ok (.aload_n 0, 1) := by decide +kernel
theorem d148_94 : decode (mCode 148) 94 = .ok (.getfield 33, 3) := by decide +kernel
theorem d148_97 : decode (mCode 148) 97 = .ok (.iload_n 3, 1) := by decide +kernel
theorem d148_98 : decode (mCode 148) 98 = .ok (.aload_n 0, 1) := by decide +kernel
theorem d148_99 : decode (mCode 148) 99 = .ok (.getfield 33, 3) := by decide +kernel
theorem d148_102 : decode (mCode 148) 102 = .ok (.iload 5, 2) := by decide +kernel
theorem d148_104 : decode (mCode 148) 104 = .ok (.iaload, 1) := by decide +kernel
theorem d148_105 : decode (mCode 148) 105 = .ok (.iconst 1, 1) := by decide +kernel
theorem d148_106 : decode (mCode 148) 106 = .ok (.iadd, 1) := by decide +kernel
theorem d148_107 : decode (mCode 148) 107 = .ok (.iastore, 1) := by decide +kernel
theorem d148_108 : decode (mCode 148) 108 = .ok (.iconst 1, 1) := by decide +kernel
theorem d148_109 : decode (mCode 148) 109 = .ok (.istore_n 2, 1) := by decide +kernel
theorem d148_110 : decode (mCode 148) 110 = .ok (.iinc 4 1, 3) := by decide +kernel
theorem d148_113 : decode (mCode 148) 113 = .ok (.goto (-58), 3) := by decide +kernel
theorem d148_116 : decode (mCode 148) 116 = .ok (.iinc 3 1, 3) := by decide +kernel
theorem d148_119 : decode (mCode 148) 119 = .ok (.goto (-75), 3) := by decide +kernel
theorem d148_122 : decode (mCode 148) 122 = .ok (.goto (-86), 3) := by decide +kernel
theorem d148_125 : decode (mCode 148) 125 = .ok (.return_, 1) := by decide +kernel
theorem d149_0 : decode (mCode 149) 0 = .ok (.aload_n 0, 1) := by decide +kernel
theorem d149_1 : decode (mCode 149) 1 = .ok (.getfield 23, 3) := by decide +kernel
theorem d149_4 : decode (mCode 149) 4 = .ok (.iconst 3, 1) := by decide +kernel
theorem d149_5 : decode (mCode 149) 5 = .ok (.iload_n 1, 1) := by decide +kernel
theorem d149_6 : decode (mCode 149) 6 = .ok (.imul, 1) := by decide +kernel
theorem d149_7 : decode (mCode 149) 7 = .ok (.iload_n 2, 1) := by decide +kernel
theorem d149_8 : decode (mCode 149) 8 = .ok (.iadd, 1) := by decide +kernel
theorem d149_9 : decode (mCode 149) 9 = .ok (.iaload, 1) := by decide +kernel
theorem d149_10 : decode (mCode 149) 10 = .ok (.istore_n 3, 1) := by decide +kernel
theorem d149_11 : decode (mCode 149) 11 = .ok (.aload_n 0, 1) := by decide +kernel
theorem d149_12 : decode (mCode 149) 12 = .ok (.getfield 23, 3) := by decide +kernel
theorem d149_15 : decode (mCode 149) 15 = .ok (.iconst 3, 1) := by decide +kernel
theorem d149_16 : decode (mCode 149) 16 = .ok (.iload_n 1, 1) := by decide +kernel
theorem d149_17 : decode (mCode 149) 17 = .ok (.imul, 1) := by decide +kernel
theorem d149_18 : decode (mCode 149) 18 = .ok (.iload_n 2, 1) := by decide +kernel
theorem d149_19 : decode (mCode 149) 19 = .ok (.iconst 1, 1) := by decide +kernel
theorem d149_20 : decode (mCode 149) 20 = .ok (.iadd, 1) := by decide +kernel
theorem d149_21 : decode (mCode 149) 21 = .ok (.iconst 3, 1) := by decide +kernel
theorem d149_22 : decode (mCode 149) 22 = .ok (.irem, 1) := by decide +kernel
theorem d149_23 : decode (mCode 149) 23 = .ok (.iadd, 1) := by decide +kernel
theorem d149_24 : decode (mCode 149) 24 = .ok (.iaload, 1) := by decide +kernel
theorem d149_25 : decode (mCode 149) 25 = .ok (.istore 4, 2) := by decide +kernel
theorem d149_27 : decode (mCode 149) 27 = .ok (.aload_n 0, 1) := by decide +kernel
theorem d149_28 : decode (mCode 149) 28 = .ok (.getfield 16, 3) := by decide +kernel
theorem d149_31 : decode (mCode 149) 31 = .ok (.bipush 40, 2) := by decide +kernel
theorem d149_33 : decode (mCode 149) 33 = .ok (.iload_n 3, 1) := by decide +kernel
theorem d149_34 : decode (mCode 149) 34 = .ok (.imul, 1) := by decide +kernel
theorem d149_35 : decode (mCode 149) 35 = .ok (.iload 4, 2) := by decide +kernel
theorem d149_37 : decode (mCode 149) 37 = .ok (.iadd, 1) := by decide +kernel
theorem d149_38 : decode (mCode 149) 38 = .ok (.baload, 1) := by decide +kernel
theorem d149_39 : decode (mCode 149) 39 = .ok (.ifCond .eq 7, 3) := by decide +kernel
theorem d149_42 : decode (mCode 149) 42 = .ok (.iconst (-1), 1) := by decide +kernel
theorem d149_43 : decode (mCode 149) 43 = .ok (.goto 10, 3) := by decide +kernel
theorem d149_46 : decode (mCode 149) 46 = .ok (.aload_n 0, 1) := by decide +kernel
theorem d149_47 : decode (mCode 149) 47 = .ok (.iload 4, 2) := by decide +kernel
theorem d149_49 : decode (mCode 149) 49 = .ok (.iload_n 3, 1) := by decide +kernel
theorem d149_50 : decode (mCode 149) 50 = .ok (.invokevirtual 137, 3) := by decide +kernel
theorem d149_53 : decode (mCode 149) 53 = .ok (.ireturn, 1) := by decide +kernel
theorem d150_0 : decode (mCode 150) 0 = .ok (.sipush 1000, 3) := by decide +kernel
theorem d150_3 : decode (mCode 150) 3 = .ok (.istore_n 2, 1) := by decide +kernel
theorem d150_4 : decode (mCode 150) 4 = .ok (.iconst 0, 1) := by decide +kernel
theorem d150_5 : decode (mCode 150) 5 = .ok (.istore_n 3, 1) := by decide +kernel
theorem d150_6 : decode (mCode 150) 6 = .ok (.iload_n 3, 1) := by decide +kernel
theorem d150_7 : decode (mCode 150) 7 = .ok (.iconst 3, 1) := by decide +kernel
theorem d150_8 : decode (mCode 150) 8 = .ok (.if_icmp .ge 95, 3) := by decide +kernel
theorem d150_11 : decode (mCode 150) 11 = .ok (.aload_n 0, 1) := by decide +kernel
theorem d150_12 : decode (mCode 150) 12 = .ok (.iload_n 1, 1) := by decide +kernel
theorem d150_13 : decode (mCode 150) 13 = .ok (.iload_n 3, 1) := by decide +kernel
theorem d150_14 : decode (mCode 150) 14 = .ok (.invokevirtual 147, 3) := by decide +kernel
theorem d150_17 : decode (mCode 150) 17 = .ok (.istore 4, 2) := by decide +kernel
theorem d150_19 : decode (mCode 150) 19 = .ok (.iload 4, 2) := by decide +kernel
theorem d150_21 : decode (mCode 150) 21 = .ok (.ifCond .lt 76, 3) := by decide +kernel
theorem d150_24 : decode (mCode 150) 24 = .ok (.aload_n 0, 1) := by decide +kernel
theorem d150_25 : decode (mCode 150) 25 = .ok (.getfield 33, 3) := by decide +kernel
theorem d150_28 : decode (mCode 150) 28 = .ok (.iload 4, 2) := by decide +kernel
theorem d150_30 : decode (mCode 150) 30 = .ok (.iaload, 1) := by decide +kernel
theorem d150_31 : decode (mCode 150) 31 = .ok (.aload_n 0, 1) := by decide +kernel
theorem d150_32 : decode (mCode 150) 32 = .ok (.getfield 33, 3) := by decide +kernel
theorem d150_35 : decode (mCode 150) 35 = .ok (.iload_n 1, 1) := by decide +kernel
theorem d150_36 : decode (mCode 150) 36 = .ok (.iaload, 1) := by decide +kernel
theorem d150_37 : decode (mCode 150) 37 = .ok (.iconst 1, 1) := by decide +kernel
theorem d150_38 : decode (mCode 150) 38 = .ok (.isub, 1) := by decide +kernel
theorem d150_39 : decode (mCode 150) 39 = .ok (.if_icmp .ne 58, 3) := by decide +kernel
theorem d150_42 : decode (mCode 150) 42 = .ok (.iload 4, 2) := by decide +kernel
theorem d150_44 : decode (mCode 150) 44 = .ok (.iload_n 2, 1) := by decide +kernel
theorem d150_45 : decode (mCode 150) 45 = .ok (.if_icmp .ge 52, 3) := by decide +kernel
theorem d150_48 : decode (mCode 150) 48 = .ok (.iload 4, 2) := by decide +kernel
theorem d150_50 : decode (mCode 150) 50 = .ok (.istore_n 2, 1) := by decide +kernel
theorem d150_51 : decode (mCode 150) 51 = .ok (.aload_n 0, 1) := by decide +kernel
theorem d150_52 : decode (mCode 150) 52 = .ok (.getfield 39, 3) := by decide +kernel
theorem d150_55 : decode (mCode 150) 55 = .ok (.aload_n 0, 1) := by decide +kernel
theorem d150_56 : decode (mCode 150) 56 = .ok (.getfield 154, 3) := by decide +kernel
theorem d150_59 : decode (mCode 150) 59 = .ok (.iconst 1, 1) := by decide +kernel
theorem d150_60 : decode (mCode 150) 60 = .ok (.isub, 1) := by decide +kernel
theorem d150_61 : decode (mCode 150) 61 = .ok (.aload_n 0, 1) := by decide +kernel
theorem d150_62 : decode (mCode 150) 62 = .ok (.getfield 23, 3) := by decide +kernel
theorem d150_65 : decode (mCode 150) 65 = .ok (.iconst 3, 1) := by decide +kernel
theorem d150_66 : decode (mCode 150) 66 = .ok (.iload_n 1, 1) := by decide +kernel
theorem d150_67 : decode (mCode 150) 67 = .ok (.imul, 1) := by decide +kernel
theorem d150_68 : decode (mCode 150) 68 = .ok (.iload_n 3, 1) := by decide +kernel
theorem d150_69 : decode (mCode 150) 69 = .ok (.iadd, 1) := by decide +kernel
theorem d150_70 : decode (mCode 150) 70 = .ok (.iaload, 1) := by decide +kernel
theorem d150_71 : decode (mCode 150) 71 = .ok (.iastore, 1) := by decide +kernel
theorem d150_72 : decode (mCode 150) 72 = .ok (.aload_n 0, 1) := by decide +kernel
theorem d150_73 : decode (mCode 150) 73 = .ok (.getfield 36, 3) := by decide +kernel
theorem d150_76 : decode (mCode 150) 76 = .ok (.aload_n 0, 1) := by decide +kernel
theorem d150_77 : decode (mCode 150) 77 = .ok (.getfield 154, 3) := by decide +kernel
theorem d150_80 : decode (mCode 150) 80 = .ok (.iconst 1, 1) := by decide +kernel
theorem d150_81 : decode (mCode 150) 81 = .ok (.isub, 1) := by decide +kernel
theorem d150_82 : decode (mCode 150) 82 = .ok (.aload_n 0, 1) := by decide +kernel
theorem d150_83 : decode (mCode 150) 83 = .ok (.getfield 23, 3) := by decide +kernel
theorem d150_86 : decode (mCode 150) 86 = .ok (.iconst 3, 1) := by decide +kernel
theorem d150_87 : decode (mCode 150) 87 = .ok (.iload_n 1, 1) := by decide +kernel
theorem d150_88 : decode (mCode 150) 88 = .ok (.imul, 1) := by decide +kernel
theorem d150_89 : decode (mCode 150) 89 = .ok (.iload_n 3, 1) := by decide +kernel
theorem d150_90 : decode (mCode 150) 90 = .ok (.iconst 1, 1) := by decide +kernel
theorem d150_91 : decode (mCode 150) 91 = .ok (.iadd, 1) := by decide +kernel
theorem d150_92 : decode (mCode 150) 92 = .ok (.iconst 3, 1) := by decide +kernel
theorem d150_93 : decode (mCode 150) 93 = .ok (.irem, 1) := by decide +kernel
theorem d150_94 : decode (mCode 150) 94 = .ok (.iadd, 1) := by decide +kernel
theorem d150_95 : decode (mCode 150) 95 = .ok (.iaload, 1) := by decide +kernel
theorem d150_96 : decode (mCode 150) 96 = .ok (.iastore, 1) := by decide +kernel
theorem d150_97 : decode (mCode 150) 97 = .ok (.iinc 3 1, 3) := by decide +kernel
theorem d150_100 : decode (mCode 150) 100 = .ok (.goto (-94), 3) := by decide +kernel
theorem d150_103 : decode (mCode 150) 103 = .ok (.aload_n 0, 1) := by decide +kernel
theorem d150_104 : decode (mCode 150) 104 = .ok (.getfield 27, 3) := by decide +kernel
theorem d150_107 : decode (mCode 150) 107 = .ok (.aload_n 0, 1) := by decide +kernel
theorem d150_108 : decode (mCode 150) 108 = .ok (.getfield 154, 3) := by decide +kernel
theorem d150_111 : decode (mCode 150) 111 = .ok (.iload_n 2, 1) := by decide +kernel
theorem d150_112 : decode (mCode 150) 112 = .ok (.iastore, 1) := by decide +kernel
theorem d150_113 : decode (mCode 150) 113 = .ok (.aload_n 0, 1) := by decide +kernel
theorem d150_114 : decode (mCode 150) 114 = .ok (.dup, 1) := by decide +kernel
theorem d150_115 : decode (mCode 150) 115 = .ok (.getfield 154, 3) := by decide +kernel
theorem d150_118 : decode (mCode 150) 118 = .ok (.iconst 1, 1) := by decide +kernel
theorem d150_119 : decode (mCode 150) 119 = .ok (.iadd, 1) := by decide +kernel
theorem d150_120 : decode (mCode 150) 120 = .ok (.putfield 154, 3) := by decide +kernel
theorem d150_123 : decode (mCode 150) 123 = .ok (.return_, 1) := by decide +kernel
theorem d151_0 : decode (mCode 151) 0 = .ok (.aload_n 0, 1) := by decide +kernel
theorem d151_1 : decode (mCode 151) 1 = .ok (.getfield 154, 3) := by decide +kernel
theorem d151_4 : decode (mCode 151) 4 = .ok (.iconst 1, 1) := by decide +kernel
theorem d151_5 : decode (mCode 151) 5 = .ok (.isub, 1) := by decide +kernel
theorem d151_6 : decode (mCode 151) 6 = .ok (.istore_n 1, 1) := by decide +kernel
theorem d151_7 : decode (mCode 151) 7 = .ok (.aload_n 0, 1) := by decide +kernel
theorem d151_8 : decode (mCode 151) 8 = .ok (.getfield 36, 3) := by decide +kernel
theorem d151_11 : decode (mCode 151) 11 = .ok (.iload_n 1, 1) := by decide +kernel
theorem d151_12 : decode (mCode 151) 12 = .ok (.bipush 41, 2) := by decide +kernel
theorem d151_14 : decode (mCode 151) 14 = .ok (.iastore, 1) := by decide +kernel
theorem d151_15 : decode (mCode 151) 15 = .ok (.aload_n 0, 1) := by decide +kernel
theorem d151_16 : decode (mCode 151) 16 = .ok (.getfield 39, 3) := by decide +kernel
theorem d151_19 : decode (mCode 151) 19 = .ok (.iload_n 1, 1) := by decide +kernel
theorem d151_20 : decode (mCode 151) 20 = .ok (.bipush 41, 2) := by decide +kernel
theorem d151_22 : decode (mCode 151) 22 = .ok (.iastore, 1) := by decide +kernel
theorem d151_23 : decode (mCode 151) 23 = .ok (.aload_n 0, 1) := by decide +kernel
theorem d151_24 : decode (mCode 151) 24 = .ok (.iconst 0, 1) := by decide +kernel
theorem d151_25 : decode (mCode 151) 25 = .ok (.putfield 166, 3) := by decide +kernel
theorem d151_28 : decode (mCode 151) 28 = .ok (.bipush 40, 2) := by decide +kernel
theorem d151_30 : decode (mCode 151) 30 = .ok (.istore_n 2, 1) := by decide +kernel
theorem d151_31 : decode (mCode 151) 31 = .ok (.iconst 0, 1) := by decide +kernel
theorem d151_32 : decode (mCode 151) 32 = .ok (.istore_n 3, 1) := by decide +kernel
theorem d151_33 : decode (mCode 151) 33 = .ok (.iconst 1, 1) := by decide +kernel
theorem d151_34 : decode (mCode 151) 34 = .ok (.istore 4, 2) := by decide +kernel
theorem d151_36 : decode (mCode 151) 36 = .ok (.iload 4, 2) := by decide +kernel
theorem d151_38 : decode (mCode 151) 38 = .ok (.ifCond .eq 235, 3) := by decide +kernel
theorem d151_41 : decode (mCode 151) 41 = .ok (.iload_n 3, 1) := by decide +kernel
theorem d151_42 : decode (mCode 151) 42 = .ok (.istore 5, 2) := by decide +kernel
theorem d151_44 : decode (mCode 151) 44 = .ok (.iload 5, 2) := by decide +kernel
theorem d151_46 : decode (mCode 151) 46 = .ok (.iload_n 1, 1) := by decide +kernel
theorem d151_47 : decode (mCode 151) 47 = .ok (.if_icmp .ge 31, 3) := by decide +kernel
theorem d151_50 : decode (mCode 151) 50 = .ok (.aload_n 0, 1) := by decide +kernel
theorem d151_51 : decode (mCode 151) 51 = .ok (.aload_n 0, 1) := by decide +kernel
theorem d151_52 : decode (mCode 151) 52 = .ok (.getfield 36, 3) := by decide +kernel
theorem d151_55 : decode (mCode 151) 55 = .ok (.iload 5, 2) := by decide +kernel
theorem d151_57 : decode (mCode 151) 57 = .ok (.iaload, 1) := by decide +kernel
theorem d151_58 : decode (mCode 151) 58 = .ok (.aload_n 0, 1) := by decide +kernel
theorem d151_59 : decode (mCode 151) 59 = .ok (.getfield 39, 3) := by decide +kernel
theorem d151_62 : decode (mCode 151) 62 = .ok (.iload 5, 2) := by decide +kernel
theorem d151_64 : decode (mCode 151) 64 = .ok (.iaload, 1) := by decide +kernel
theorem d151_65 : decode (mCode 151) 65 = .ok (.iload_n 2, 1) := by decide +kernel
theorem d151_66 : decode (mCode 151) 66 = .ok (.invokevirtual 82, 3) := by decide +kernel
theorem d151_69 : decode (mCode 151) 69 = .ok (.ifCond .eq 9, 3) := by decide +kernel
theorem d151_72 : decode (mCode 151) 72 = .ok (.iinc 5 1, 3) := by decide +kernel
theorem d151_75 : decode (mCode 151) 75 = .ok (.goto (-31), 3) := by decide +kernel
theorem d151_78 : decode (mCode 151) 78 = .ok (.aload_n 0, 1) := by decide +kernel
theorem d151_79 : decode (mCode 151) 79 = .ok (.getfield 36, 3) := by decide +kernel
theorem d151_82 : decode (mCode 151) 82 = .ok (.iload 5, 2) := by decide +kernel
theorem d151_84 : decode (mCode 151) 84 = .ok (.iaload, 1) := by decide +kernel
theorem d151_85 : decode (mCode 151) 85 = .ok (.istore 6, 2) := by decide +kernel
theorem d151_87 : decode (mCode 151) 87 = .ok (.aload_n 0, 1) := by decide +kernel
theorem d151_88 : decode (mCode 151) 88 = .ok (.getfield 39, 3) := by decide +kernel
theorem d151_91 : decode (mCode 151) 91 = .ok (.iload 5, 2) := by decide +kernel
theorem d151_93 : decode (mCode 151) 93 = .ok (.iaload, 1) := by decide +kernel
theorem d151_94 : decode (mCode 151) 94 = .ok (.istore 7, 2) := by decide +kernel
theorem d151_96 : decode (mCode 151) 96 = .ok (.iload 5, 2) := by decide +kernel
theorem d151_98 : decode (mCode 151) 98 = .ok (.istore 8, 2) := by decide +kernel
theorem d151_100 : decode (mCode 151) 100 = .ok (.iload 5, 2) := by decide +kernel
theorem d151_102 : decode (mCode 151) 102 = .ok (.istore 9, 2) := by decide +kernel
theorem d151_104 : decode (mCode 151) 104 = .ok (.iconst (-1), 1) := by decide +kernel
theorem d151_105 : decode (mCode 151) 105 = .ok (.istore 10, 2) := by decide +kernel
theorem d151_107 : decode (mCode 151) 107 = .ok (.iinc 5 1, 3) := by decide +kernel
theorem d151_110 : decode (mCode 151) 110 = .ok (.iload 5, 2) := by decide +kernel
theorem d151_112 : decode (mCode 151) 112 = .ok (.iload_n 1, 1) := by decide +kernel
theorem d151_113 : decode (mCode 151) 113 = .ok (.if_icmp .gt 116, 3) := by decide +kernel
theorem d151_116 : decode (mCode 151) 116 = .ok (.iload 10, 2) := by decide +kernel
theorem d151_118 : decode (mCode 151) 118 = .ok (.ifCond .ge 111, 3) := by decide +kernel
theorem d151_121 : decode (mCode 151) 121 = .ok (.aload_n 0, 1) := by decide +kernel
theorem d151_122 : decode (mCode 151) 122 = .ok (.getfield 36, 3) := by decide +kernel
theorem d151_125 : decode (mCode 151) 125 = .ok (.iload 5, 2) := by decide +kernel
theorem d151_127 : decode (mCode 151) 127 = .ok (.iaload, 1) := by decide +kernel
theorem d151_128 : decode (mCode 151) 128 = .ok (.istore 11, 2) := by decide +kernel
theorem d151_130 : decode (mCode 151) 130 = .ok (.aload_n 0, 1) := by decide +kernel
theorem d151_131 : decode (mCode 151) 131 = .ok (.getfield 39, 3) := by decide +kernel
theorem d151_134 : decode (mCode 151) 134 = .ok (.iload 5, 2) := by decide +kernel
theorem d151_136 : decode (mCode 151) 136 = .ok (.iaload, 1) := by decide +kernel
theorem d151_137 : decode (mCode 151) 137 = .ok (.istore 12, 2) := by decide +kernel
theorem d151_139 : decode (mCode 151) 139 = .ok (.aload_n 0, 1) := by decide +kernel
theorem d151_140 : decode (mCode 151) 140 = .ok (.iload_n 2, 1) := by decide +kernel
theorem d151_141 : decode (mCode 151) 141 = .ok (.iload 7, 2) := by decide +kernel
theorem d151_143 : decode (mCode 151) 143 = .ok (.iload 11, 2) := by decide +kernel
theorem d151_145 : decode (mCode 151) 145 = .ok (.invokevirtual 70, 3) := by decide +kernel
theorem d151_148 : decode (mCode 151) 148 = .ok (.ifCond .ge 13, 3) := by decide +kernel
theorem d151_151 : decode (mCode 151) 151 = .ok (.iload 7, 2) := by decide +kernel
theorem d151_153 : decode (mCode 151) 153 = .ok (.istore 10, 2) := by decide +kernel
theorem d151_155 : decode (mCode 151) 155 = .ok (.iload 9, 2) := by decide +kernel
theorem d151_157 : decode (mCode 151) 157 = .ok (.istore_n 3, 1) := by decide +kernel
theorem d151_158 : decode (mCode 151) 158 = .ok (.goto 65, 3) := by decide +kernel
theorem d151_161 : decode (mCode 151) 161 = .ok (.aload_n 0, 1) := by decide +kernel
theorem d151_162 : decode (mCode 151) 162 = .ok (.iload_n 2, 1) := by decide +kernel
theorem d151_163 : decode (mCode 151) 163 = .ok (.iload 6, 2) := by decide +kernel
theorem d151_165 : decode (mCode 151) 165 = .ok (.iload 12, 2) := by decide +kernel
theorem d151_167 : decode (mCode 151) 167 = .ok (.invokevirtual 70, 3) := by decide +kernel
theorem d151_170 : decode (mCode 151) 170 = .ok (.ifCond .le 13, 3) := by decide +kernel
theorem d151_173 : decode (mCode 151) 173 = .ok (.iload 6, 2) := by decide +kernel
theorem d151_175 : decode (mCode 151) 175 = .ok (.istore 10, 2) := by decide +kernel
theorem d151_177 : decode (mCode 151) 177 = .ok (.iload 8, 2) := by decide +kernel
theorem d151_179 : decode (mCode 151) 179 = .ok (.istore_n 3, 1) := by decide +kernel
theorem d151_180 : decode (mCode 151) 180 = .ok (.goto 43, 3) := by decide +kernel
theorem d151_183 : decode (mCode 151) 183 = .ok (.aload_n 0, 1) := by decide +kernel
theorem d151_184 : decode (mCode 151) 184 = .ok (.iload_n 2, 1) := by decide +kernel
theorem d151_185 : decode (mCode 151) 185 = .ok (.iload 6, 2) := by decide +kernel
theorem d151_187 : decode (mCode 151) 187 = .ok (.iload 11, 2) := by decide +kernel
theorem d151_189 : decode (mCode 151) 189 = .ok (.invokevirtual 70, 3) := by decide +kernel
theorem d151_192 : decode (mCode 151) 192 = .ok (.ifCond .gt 11, 3) := by decide +kernel
theorem d151_195 : decode (mCode 151) 195 = .ok (.iload 11, 2) := by decide +kernel
theorem d151_197 : decode (mCode 151) 197 = .ok (.istore 6, 2) := by decide +kernel
theorem d151_199 : decode (mCode 151) 199 = .ok (.iload 5, 2) := by decide +kernel
theorem d151_201 : decode (mCode 151) 201 = .ok (.istore 8, 2) := by decide +kernel
theorem d151_203 : decode (mCode 151) 203 = .ok (.aload_n 0, 1) := by decide +kernel
theorem d151_204 : decode (mCode 151) 204 = .ok (.iload_n 2, 1) := by decide +kernel
theorem d151_205 : decode (mCode 151) 205 = .ok (.iload 7, 2) := by decide +kernel
theorem d151_207 : decode (mCode 151) 207 = .ok (.iload 12, 2) := by decide +kernel
theorem d151_209 : decode (mCode 151) 209 = .ok (.invokevirtual 70, 3) := by decide +kernel
theorem d151_212 : decode (mCode 151) 212 = .ok (.ifCond .lt 11, 3) := by decide +kernel
theorem d151_215 : decode (mCode 151) 215 = .ok (.iload 12, 2) := by decide +kernel
theorem d151_217 : decode (mCode 151) 217 = .ok (.istore 7, 2) := by decide +kernel
theorem d151_219 : decode (mCode 151) 219 = .ok (.iload 5, 2) := by decide +kernel
theorem d151_221 : decode (mCode 151) 221 = .ok (.istore 9, 2) := by decide +kernel
theorem d151_223 : decode (mCode 151) 223 = .ok (.iinc 5 1, 3) := by decide +kernel
theorem d151_226 : decode (mCode 151) 226 = .ok (.goto (-116), 3) := by decide +kernel
theorem d151_229 : decode (mCode 151) 229 = .ok (.iload 10, 2) := by decide +kernel
theorem d151_231 : decode (mCode 151) 231 = .ok (.ifCond .lt 7, 3) := by decide +kernel
theorem d151_234 : decode (mCode 151) 234 = .ok (.iconst 1, 1) := by decide +kernel
theorem d151_235 : decode (mCode 151) 235 = .ok (.goto 4, 3) := by decide +kernel
theorem d151_238 : decode (mCode 151) 238 = .ok (.iconst 0, 1) := by decide +kernel
theorem d151_239 : decode (mCode 151) 239 = .ok (.istore 4, 2) := by decide +kernel
theorem d151_241 : decode (mCode 151) 241 = .ok (.iload 4, 2) := by decide +kernel
theorem d151_243 : decode (mCode 151) 243 = .ok (.ifCond .eq 27, 3) := by decide +kernel
theorem d151_246 : decode (mCode 151) 246 = .ok (.aload_n 0, 1) := by decide +kernel
theorem d151_247 : decode (mCode 151) 247 = .ok (.getfield 30, 3) := by decide +kernel
theorem d151_250 : decode (mCode 151) 250 = .ok (.aload_n 0, 1) := by decide +kernel
theorem d151_251 : decode (mCode 151) 251 = .ok (.getfield 166, 3) := by decide +kernel
theorem d151_254 : decode (mCode 151) 254 = .ok (.iload 10, 2) := by decide +kernel
theorem d151_256 : decode (mCode 151) 256 = .ok (.iastore, 1) := by decide +kernel
theorem d151_257 : decode (mCode 151) 257 = .ok (.aload_n 0, 1) := by decide +kernel
theorem d151_258 : decode (mCode 151) 258 = .ok (.dup, 1) := by decide +kernel
theorem d151_259 : decode (mCode 151) 259 = .ok (.getfield 166, 3) := by decide +kernel
theorem d151_262 : decode (mCode 151) 262 = .ok (.iconst 1, 1) := by decide +kernel
theorem d151_263 : decode (mCode 151) 263 = .ok (.iadd, 1) := by decide +kernel
theorem d151_264 : decode (mCode 151) 264 = .ok (.putfield 166, 3) := by decide +kernel
theorem d151_267 : decode (mCode 151) 267 = .ok (.iload 10, 2) := by decide +kernel
theorem d151_269 : decode (mCode 151) 269 = .ok (.istore_n 2, 1) := by decide +kernel
theorem d151_270 : decode (mCode 151) 270 = .ok (.goto (-234), 3) := by decide +kernel
theorem d151_273 : decode (mCode 151) 273 = .ok (.return_, 1) := by decide +kernel
theorem d152_0 : decode (mCode 152) 0 = .ok (.iconst 0, 1) := by decide +kernel
theorem d152_1 : decode (mCode 152) 1 = .ok (.istore_n 1, 1) := by decide +kernel
theorem d152_2 : decode (mCode 152) 2 = .ok (.iload_n 1, 1) := by decide +kernel
theorem d152_3 : decode (mCode 152) 3 = .ok (.aload_n 0, 1) := by decide +kernel
theorem d152_4 : decode (mCode 152) 4 = .ok (.getfield 166, 3) := by decide +kernel
theorem d152_7 : decode (mCode 152) 7 = .ok (.if_icmp .ge 64, 3) := by decide +kernel
theorem d152_10 : decode (mCode 152) 10 = .ok (.aload_n 0, 1) := by decide +kernel
theorem d152_11 : decode (mCode 152) 11 = .ok (.iload_n 1, 1) := by decide +kernel
theorem d152_12 : decode (mCode 152) 12 = .ok (.invokevirtual 172, 3) := by decide +kernel
theorem d152_15 : decode (mCode 152) 15 = .ok (.ifCond .eq 9, 3) := by decide +kernel
theorem d152_18 : decode (mCode 152) 18 = .ok (.iinc 1 1, 3) := by decide +kernel
theorem d152_21 : decode (mCode 152) 21 = .ok (.goto (-19), 3) := by decide +kernel
theorem d152_24 : decode (mCode 152) 24 = .ok (.iload_n 1, 1) := by decide +kernel
theorem d152_25 : decode (mCode 152) 25 = .ok (.istore_n 2, 1) := by decide +kernel
theorem d152_26 : decode (mCode 152) 26 = .ok (.iload_n 2, 1) := by decide +kernel
theorem d152_27 : decode (mCode 152) 27 = .ok (.iconst 1, 1) := by decide +kernel
theorem d152_28 : decode (mCode 152) 28 = .ok (.iadd, 1) := by decide +kernel
theorem d152_29 : decode (mCode 152) 29 = .ok (.aload_n 0, 1) := by decide +kernel
theorem d152_30 : decode (mCode 152) 30 = .ok (.getfield 166, 3) := by decide +kernel
theorem d152_33 : decode (mCode 152) 33 = .ok (.if_icmp .ge 23, 3) := by decide +kernel
theorem d152_36 : decode (mCode 152) 36 = .ok (.aload_n 0, 1) := by decide +kernel
theorem d152_37 : decode (mCode 152) 37 = .ok (.getfield 30, 3) := by decide +kernel
theorem d152_40 : decode (mCode 152) 40 = .ok (.iload_n 2, 1) := by decide +kernel
theorem d152_41 : decode (mCode 152) 41 = .ok (.aload_n 0, 1) := by decide +kernel
theorem d152_42 : decode (mCode 152) 42 = .ok (.getfield 30, 3) := by decide +kernel
theorem d152_45 : decode (mCode 152) 45 = .ok (.iload_n 2, 1) := by decide +kernel
theorem d152_46 : decode (mCode 152) 46 = .ok (.iconst 1, 1) := by decide +kernel
theorem d152_47 : decode (mCode 152) 47 = .ok (.iadd, 1) := by decide +kernel
theorem d152_48 : decode (mCode 152) 48 = .ok (.iaload, 1) := by decide +kernel
theorem d152_49 : decode (mCode 152) 49 = .ok (.iastore, 1) := by decide +kernel
theorem d152_50 : decode (mCode 152) 50 = .ok (.iinc 2 1, 3) := by decide +kernel
theorem d152_53 : decode (mCode 152) 53 = .ok (.goto (-27), 3) := by decide +kernel
theorem d152_56 : decode (mCode 152) 56 = .ok (.aload_n 0, 1) := by decide +kernel
theorem d152_57 : decode (mCode 152) 57 = .ok (.dup, 1) := by decide +kernel
theorem d152_58 : decode (mCode 152) 58 = .ok (.getfield 166, 3) := by decide +kernel
theorem d152_61 : decode (mCode 152) 61 = .ok (.iconst 1, 1) := by decide +kernel
theorem d152_62 : decode (mCode 152) 62 = .ok (.isub, 1) := by decide +kernel
theorem d152_63 : decode (mCode 152) 63 = .ok (.putfield 166, 3) := by decide +kernel
theorem d152_66 : decode (mCode 152) 66 = .ok (.iconst 0, 1) := by decide +kernel
theorem d152_67 : decode (mCode 152) 67 = .ok (.istore_n 1, 1) := by decide +kernel
theorem d152_68 : decode (mCode 152) 68 = .ok (.goto (-66), 3) := by decide +kernel
theorem d152_71 : decode (mCode 152) 71 = .ok (.return_, 1) := by decide +kernel
theorem d153_0 : decode (mCode 153) 0 = .ok (.aload_n 0, 1) := by decide +kernel
theorem d153_1 : decode (mCode 153) 1 = .ok (.iload_n 1, 1) := by decide +kernel
theorem d153_2 : decode (mCode 153) 2 = .ok (.iconst 1, 1) := by decide +kernel
theorem d153_3 : decode (mCode 153) 3 = .ok (.isub, 1) := by decide +kernel
theorem d153_4 : decode (mCode 153) 4 = .ok (.invokevirtual 169, 3) := by decide +kernel
theorem d153_7 : decode (mCode 153) 7 = .ok (.istore_n 2, 1) := by decide +kernel
theorem d153_8 : decode (mCode 153) 8 = .ok (.aload_n 0, 1) := by decide +kernel
theorem d153_9 : decode (mCode 153) 9 = .ok (.getfield 30, 3) := by decide +kernel
theorem d153_12 : decode (mCode 153) 12 = .ok (.iload_n 1, 1) := by decide +kernel
theorem d153_13 : decode (mCode 153) 13 = .ok (.iaload, 1) := by decide +kernel
theorem d153_14 : decode (mCode 153) 14 = .ok (.istore_n 3, 1) := by decide +kernel
theorem d153_15 : decode (mCode 153) 15 = .ok (.aload_n 0, 1) := by decide +kernel
theorem d153_16 : decode (mCode 153) 16 = .ok (.iload_n 1, 1) := by decide +kernel
theorem d153_17 : decode (mCode 153) 17 = .ok (.iconst 1, 1) := by decide +kernel
theorem d153_18 : decode (mCode 153) 18 = .ok (.iadd, 1) := by decide +kernel
theorem d153_19 : decode (mCode 153) 19 = .ok (.invokevirtual 169, 3) := by decide +kernel
theorem d153_22 : decode (mCode 153) 22 = .ok (.istore 4, 2) := by decide +kernel
theorem d153_24 : decode (mCode 153) 24 = .ok (.aload_n 0, 1) := by decide +kernel
theorem d153_25 : decode (mCode 153) 25 = .ok (.getfield 7, 3) := by decide +kernel
theorem d153_28 : decode (mCode 153) 28 = .ok (.iload_n 3, 1) := by decide +kernel
theorem d153_29 : decode (mCode 153) 29 = .ok (.laload, 1) := by decide +kernel
theorem d153_30 : decode (mCode 153) 30 = .ok (.aload_n 0, 1) := by decide +kernel
theorem d153_31 : decode (mCode 153) 31 = .ok (.getfield 7, 3) := by decide +kernel
theorem d153_34 : decode (mCode 153) 34 = .ok (.iload_n 2, 1) := by decide +kernel
theorem d153_35 : decode (mCode 153) 35 = .ok (.laload, 1) := by decide +kernel
theorem d153_36 : decode (mCode 153) 36 = .ok (.lsub, 1) := by decide +kernel
theorem d153_37 : decode (mCode 153) 37 = .ok (.lstore 5, 2) := by decide +kernel
theorem d153_39 : decode (mCode 153) 39 = .ok (.aload_n 0, 1) := by decide +kernel
theorem d153_40 : decode (mCode 153) 40 = .ok (.getfield 13, 3) := by decide +kernel
theorem d153_43 : decode (mCode 153) 43 = .ok (.iload_n 3, 1) := by decide +kernel
theorem d153_44 : decode (mCode 153) 44 = .ok (.laload, 1) := by decide +kernel
theorem d153_45 : decode (mCode 153) 45 = .ok (.aload_n 0, 1) := by decide +kernel
theorem d153_46 : decode (mCode 153) 46 = .ok (.getfield 13, 3) := by decide +kernel
theorem d153_49 : decode (mCode 153) 49 = .ok (.iload_n 2, 1) := by decide +kernel
theorem d153_50 : decode (mCode 153) 50 = .ok (.laload, 1) := by decide +kernel
theorem d153_51 : decode (mCode 153) 51 = .ok (.lsub, 1) := by decide +kernel
theorem d153_52 : decode (mCode 153) 52 = .ok (.lstore 7, 2) := by decide +kernel
theorem d153_54 : decode (mCode 153) 54 = .ok (.aload_n 0, 1) := by decide +kernel
theorem d153_55 : decode (mCode 153) 55 = .ok (.getfield 7, 3) := by decide +kernel
theorem d153_58 : decode (mCode 153) 58 = .ok (.iload 4, 2) := by decide +kernel
theorem d153_60 : decode (mCode 153) 60 = .ok (.laload, 1) := by decide +kernel
theorem d153_61 : decode (mCode 153) 61 = .ok (.aload_n 0, 1) := by decide +kernel
theorem d153_62 : decode (mCode 153) 62 = .ok (.getfield 7, 3) := by decide +kernel
theorem d153_65 : decode (mCode 153) 65 = .ok (.iload_n 3, 1) := by decide +kernel
theorem d153_66 : decode (mCode 153) 66 = .ok (.laload, 1) := by decide +kernel
theorem d153_67 : decode (mCode 153) 67 = .ok (.lsub, 1) := by decide +kernel
theorem d153_68 : decode (mCode 153) 68 = .ok (.lstore 9, 2) := by decide +kernel
theorem d153_70 : decode (mCode 153) 70 = .ok (.aload_n 0, 1) := by decide +kernel
theorem d153_71 : decode (mCode 153) 71 = .ok (.getfield 13, 3) := by decide +kernel
theorem d153_74 : decode (mCode 153) 74 = .ok (.iload 4, 2) := by decide +kernel
theorem d153_76 : decode (mCode 153) 76 = .ok (.laload, 1) := by decide +kernel
theorem d153_77 : decode (mCode 153) 77 = .ok (.aload_n 0, 1) := by decide +kernel
theorem d153_78 : decode (mCode 153) 78 = .ok (.getfield 13, 3) := by decide +kernel
theorem d153_81 : decode (mCode 153) 81 = .ok (.iload_n 3, 1) := by decide +kernel
theorem d153_82 : decode (mCode 153) 82 = .ok (.laload, 1) := by decide +kernel
theorem d153_83 : decode (mCode 153) 83 = .ok (.lsub, 1) := by decide +kernel
theorem d153_84 : decode (mCode 153) 84 = .ok (.lstore 11, 2) := by decide +kernel
theorem d153_86 : decode (mCode 153) 86 = .ok (.lload 5, 2) := by decide +kernel
theorem d153_88 : decode (mCode 153) 88 = .ok (.lconst 0, 1) := by decide +kernel
theorem d153_89 : decode (mCode 153) 89 = .ok (.lcmp, 1) := by decide +kernel
theorem d153_90 : decode (mCode 153) 90 = .ok (.ifCond .ne 10, 3) := by decide +kernel
theorem d153_93 : decode (mCode 153) 93 = .ok (.lload 7, 2) := by decide +kernel
theorem d153_95 : decode (mCode 153) 95 = .ok (.lconst 0, 1) := by decide +kernel
theorem d153_96 : decode (mCode 153) 96 = .ok (.lcmp, 1) := by decide +kernel
theorem d153_97 : decode (mCode 153) 97 = .ok (.ifCond .eq 17, 3) := by decide +kernel
theorem d153_100 : decode (mCode 153) 100 = .ok (.lload 9, 2) := by decide +kernel
theorem d153_102 : decode (mCode 153) 102 = .ok (.lconst 0, 1) := by decide +kernel
theorem d153_103 : decode (mCode 153) 103 = .ok (.lcmp, 1) := by decide +kernel
theorem d153_104 : decode (mCode 153) 104 = .ok (.ifCond .ne 14, 3) := by decide +kernel
theorem d153_107 : decode (mCode 153) 107 = .ok (.lload 11, 2) := by decide +kernel
theorem d153_109 : decode (mCode 153) 109 = .ok (.lconst 0, 1) := by decide +kernel
theorem d153_110 : decode (mCode 153) 110 = .ok (.lcmp, 1) := by decide +kernel
theorem d153_111 : decode (mCode 153) 111 = .ok (.ifCond .ne 7, 3) := by decide +kernel
theorem d153_114 : decode (mCode 153) 114 = .ok (.iconst 1, 1) := by decide +kernel
theorem d153_115 : decode (mCode 153) 115 = .ok (.goto 4, 3) := by decide +kernel
theorem d153_118 : decode (mCode 153) 118 = .ok (.iconst 0, 1) := by decide +kernel
theorem d153_119 : decode (mCode 153) 119 = .ok (.istore 13, 2) := by decide +kernel
theorem d153_121 : decode (mCode 153) 121 = .ok (.iload 13, 2) := by decide +kernel
theorem d153_123 : decode (mCode 153) 123 = .ok (.ifCond .ne 34, 3) := by decide +kernel
theorem d153_126 : decode (mCode 153) 126 = .ok (.aload_n 0, 1) := by decide +kernel
theorem d153_127 : decode (mCode 153) 127 = .ok (.iload_n 2, 1) := by decide +kernel
theorem d153_128 : decode (mCode 153) 128 = .ok (.iload_n 3, 1) := by decide +kernel
theorem d153_129 : decode (mCode 153) 129 = .ok (.iload 4, 2) := by decide +kernel
theorem d153_131 : decode (mCode 153) 131 = .ok (.invokevirtual 70, 3) := by decide +kernel
theorem d153_134 : decode (mCode 153) 134 = .ok (.ifCond .ne 19, 3) := by decide +kernel
theorem d153_137 : decode (mCode 153) 137 = .ok (.lload 5, 2) := by decide +kernel
theorem d153_139 : decode (mCode 153) 139 = .ok (.lload 9, 2) := by decide +kernel
theorem d153_141 : decode (mCode 153) 141 = .ok (.lmul, 1) := by decide +kernel
theorem d153_142 : decode (mCode 153) 142 = .ok (.lload 7, 2) := by decide +kernel
theorem d153_144 : decode (mCode 153) 144 = .ok (.lload 11, 2) := by decide +kernel
theorem d153_146 : decode (mCode 153) 146 = .ok (.lmul, 1) := by decide +kernel
theorem d153_147 : decode (mCode 153) 147 = .ok (.ladd, 1) := by decide +kernel
theorem d153_148 : decode (mCode 153) 148 = .ok (.lconst 0, 1) := by decide +kernel
theorem d153_149 : decode (mCode 153) 149 = .ok (.lcmp, 1) := by decide +kernel
theorem d153_150 : decode (mCode 153) 150 = .ok (.ifCond .ge 7, 3) := by decide +kernel
theorem d153_153 : decode (mCode 153) 153 = .ok (.iconst 1, 1) := by decide +kernel
theorem d153_154 : decode (mCode 153) 154 = .ok (.goto 4, 3) := by decide +kernel
theorem d153_157 : decode (mCode 153) 157 = .ok (.iconst 0, 1) := by decide +kernel
theorem d153_158 : decode (mCode 153) 158 = .ok (.ireturn, 1) := by decide +kernel
theorem d154_0 : decode (mCode 154) 0 = .ok (.iload_n 1, 1) := by decide +kernel
theorem d154_1 : decode (mCode 154) 1 = .ok (.ifCond .ge 8, 3) := by decide +kernel
theorem d154_4 : decode (mCode 154) 4 = .ok (.bipush 40, 2) := by decide +kernel
theorem d154_6 : decode (mCode 154) 6 = .ok (.goto 22, 3) := by decide +kernel
theorem d154_9 : decode (mCode 154) 9 = .ok (.iload_n 1, 1) := by decide +kernel
theorem d154_10 : decode (mCode 154) 10 = .ok (.aload_n 0, 1) := by decide +kernel
theorem d154_11 : decode (mCode 154) 11 = .ok (.getfield 166, 3) := by decide +kernel
theorem d154_14 : decode (mCode 154) 14 = .ok (.if_icmp .lt 8, 3) := by decide +kernel
theorem d154_17 : decode (mCode 154) 17 = .ok (.bipush 41, 2) := by decide +kernel
theorem d154_19 : decode (mCode 154) 19 = .ok (.goto 9, 3) := by decide +kernel
theorem d154_22 : decode (mCode 154) 22 = .ok (.aload_n 0, 1) := by decide +kernel
theorem d154_23 : decode (mCode 154) 23 = .ok (.getfield 30, 3) := by decide +kernel
theorem d154_26 : decode (mCode 154) 26 = .ok (.iload_n 1, 1) := by decide +kernel
theorem d154_27 : decode (mCode 154) 27 = .ok (.iaload, 1) := by decide +kernel
theorem d154_28 : decode (mCode 154) 28 = .ok (.ireturn, 1) := by decide +kernel
theorem d155_0 : decode (mCode 155) 0 = .ok (.aload_n 0, 1) := by decide +kernel
theorem d155_1 : decode (mCode 155) 1 = .ok (.iconst 0, 1) := by decide +kernel
theorem d155_2 : decode (mCode 155) 2 = .ok (.putfield 42, 3) := by decide +kernel
theorem d155_5 : decode (mCode 155) 5 = .ok (.iload_n 1, 1) := by decide +kernel
theorem d155_6 : decode (mCode 155) 6 = .ok (.iconst 0, 1) := by decide +kernel
theorem d155_7 : decode (mCode 155) 7 = .ok (.aload_n 0, 1) := by decide +kernel
theorem d155_8 : decode (mCode 155) 8 = .ok (.getfield 166, 3) := by decide +kernel
theorem d155_11 : decode (mCode 155) 11 = .ok (.iconst 1, 1) := by decide +kernel
theorem d155_12 : decode (mCode 155) 12 = .ok (.isub, 1) := by decide +kernel
theorem d155_13 : decode (mCode 155) 13 = .ok (.invokestatic 48, 3) := by decide +kernel
theorem d155_16 : decode (mCode 155) 16 = .ok (.ifCond .eq 12, 3) := by decide +kernel
theorem d155_19 : decode (mCode 155) 19 = .ok (.aload_n 0, 1) := by decide +kernel
theorem d155_20 : decode (mCode 155) 20 = .ok (.getfield 30, 3) := by decide +kernel
theorem d155_23 : decode (mCode 155) 23 = .ok (.iload_n 1, 1) := by decide +kernel
theorem d155_24 : decode (mCode 155) 24 = .ok (.iaload, 1) := by decide +kernel
theorem d155_25 : decode (mCode 155) 25 = .ok (.goto 4, 3) := by decide +kernel
theorem d155_28 : decode (mCode 155) 28 = .ok (.iconst (-1), 1) := by decide +kernel
theorem d155_29 : decode (mCode 155) 29 = .ok (.ireturn, 1) := by decide +kernel
theorem d156_0 : decode (mCode 156) 0 = .ok (.aload_n 0, 1) := by decide +kernel
theorem d156_1 : decode (mCode 156) 1 = .ok (.iconst 0, 1) := by decide +kernel
theorem d156_2 : decode (mCode 156) 2 = .ok (.putfield 42, 3) := by decide +kernel
theorem d156_5 : decode (mCode 156) 5 = .ok (.iload_n 1, 1) := by decide +kernel
theorem d156_6 : decode (mCode 156) 6 = .ok (.iconst 0, 1) := by decide +kernel
theorem d156_7 : decode (mCode 156) 7 = .ok (.aload_n 0, 1) := by decide +kernel
theorem d156_8 : decode (mCode 156) 8 = .ok (.getfield 154, 3) := by decide +kernel
theorem d156_11 : decode (mCode 156) 11 = .ok (.iconst 1, 1) := by decide +kernel
theorem d156_12 : decode (mCode 156) 12 = .ok (.isub, 1) := by decide +kernel
theorem d156_13 : decode (mCode 156) 13 = .ok (.invokestatic 48, 3) := by decide +kernel
theorem d156_16 : decode (mCode 156) 16 = .ok (.ifCond .eq 12, 3) := by decide +kernel
theorem d156_19 : decode (mCode 156) 19 = .ok (.aload_n 0, 1) := by decide +kernel
theorem d156_20 : decode (mCode 156) 20 = .ok (.getfield 27, 3) := by decide +kernel
theorem d156_23 : decode (mCode 156) 23 = .ok (.iload_n 1, 1) := by decide +kernel
theorem d156_24 : decode (mCode 156) 24 = .ok (.iaload, 1) := by decide +kernel
theorem d156_25 : decode (mCode 156) 25 = .ok (.goto 4, 3) := by decide +kernel
theorem d156_28 : decode (mCode 156) 28 = .ok (.iconst (-1), 1) := by decide +kernel
theorem d156_29 : decode (mCode 156) 29 = .ok (.ireturn, 1) := by decide +kernel
def f113  (s : mS) : Option (Int32) :=
  some (s.2.2.1 14)
theorem t_f113 {S : mE} {ex : mHp}  {s : mS} {r : Int32} (h : f113 s = some r) : Run S 113 (0, [(0, .ref 42)], [], hp s ex) (.inl (some (.int r)), hp s ex) := by
  unfold f113 at h
  refine R_p d113_0 rfl rfl ?_
  refine R_get d113_1 (Or.inl (List.mem_of_getElem? (i := 48) rfl)) (hg42 _ _) rfl ?_
  cases h
  exact R_iret d113_4 rfl rfl rfl
def f116 (v0 : Int32) (v1 : Int32) (v2 : Int32) (s : mS) : Option (Int32) :=
  (if (v0 < v1) then
    some (0 : Int32)
  else
    (if (v2 < v0) then
      some (0 : Int32)
    else
      some (1 : Int32)))
theorem t_f116 {S : mE} {ex : mHp} {v0 : Int32} {v1 : Int32} {v2 : Int32} {s : mS} {r : Int32} (h : f116 v0 v1 v2 s = some r) : Run S 116 (0, [(0, .int v0), (1, .int v1), (2, .int v2)], [], hp s ex) (.inl (some (.int r)), hp s ex) := by
  unfold f116 at h
  refine R_p d116_0 rfl rfl ?_
  refine R_p d116_1 rfl rfl ?_
  rcases ite_some h with ⟨c1, h⟩ | ⟨c1, h⟩
  · refine R_br 14 d116_2 (mb_t (b := (v0 < v1)) c1) rfl ?_
    refine R_ic (v := 0) d116_14 (by decide) ?_
    cases h
    exact R_iret d116_15 rfl rfl rfl
  · refine R_nb d116_2 rfl (mb_f (b := (v0 < v1)) c1) ?_
    refine R_p d116_5 rfl rfl ?_
    refine R_p d116_6 rfl rfl ?_
    rcases ite_some h with ⟨c2, h⟩ | ⟨c2, h⟩
    · refine R_br 14 d116_7 (mb_t (b := (v2 < v0)) c2) rfl ?_
      refine R_ic (v := 0) d116_14 (by decide) ?_
      cases h
      exact R_iret d116_15 rfl rfl rfl
    · refine R_nb d116_7 rfl (mb_f (b := (v2 < v0)) c2) ?_
      refine R_ic (v := 1) d116_10 (by decide) ?_
      refine R_br 15 d116_11 rfl rfl ?_
      cases h
      exact R_iret d116_15 rfl rfl rfl
def f115 (v0 : Int32) (v1 : Int32) (s : mS) : Option (Int32) :=
  (f116 v0 (-536870911 : Int32) (536870911 : Int32) s).bind fun q1 => (if (q1 = (0 : Int32)) then
    some (0 : Int32)
  else
    (f116 v1 (-536870911 : Int32) (536870911 : Int32) s).bind fun q4 => (if (q4 = (0 : Int32)) then
      some (0 : Int32)
    else
      some (1 : Int32)))
theorem t_f115 {S : mE} {ex : mHp} {v0 : Int32} {v1 : Int32} {s : mS} {r : Int32} (h : f115 v0 v1 s = some r) : Run S 115 (0, [(0, .int v0), (1, .int v1)], [], hp s ex) (.inl (some (.int r)), hp s ex) := by
  unfold f115 at h
  refine R_p d115_0 rfl rfl ?_
  refine R_ci (v := (-536870911)) 959 d115_1 (List.mem_of_getElem? (i := 4) rfl) ?_
  refine R_ci (v := 536870911) 960 d115_3 (List.mem_of_getElem? (i := 5) rfl) ?_
  obtain ⟨q1, e2, h⟩ := bd_some h
  refine R_cs [.int v0, .int (-536870911), .int 536870911] d115_5 (List.mem_of_getElem? (i := 163) rfl) rfl ⟨by decide, by decide, Nat.le_of_ble_eq_true rfl, rfl, mcd116⟩ rfl rfl (Nat.le_of_ble_eq_true rfl) (t_f116 e2) ?_
  rcases ite_some h with ⟨c3, h⟩ | ⟨c3, h⟩
  · refine R_br 26 d115_8 (mb_t (b := (q1 = (0 : Int32))) c3) rfl ?_
    refine R_ic (v := 0) d115_26 (by decide) ?_
    cases h
    exact R_iret d115_27 rfl rfl rfl
  · refine R_nb d115_8 rfl (mb_f (b := (q1 = (0 : Int32))) c3) ?_
    refine R_p d115_11 rfl rfl ?_
    refine R_ci (v := (-536870911)) 959 d115_12 (List.mem_of_getElem? (i := 4) rfl) ?_
    refine R_ci (v := 536870911) 960 d115_14 (List.mem_of_getElem? (i := 5) rfl) ?_
    obtain ⟨q4, e5, h⟩ := bd_some h
    refine R_cs [.int v1, .int (-536870911), .int 536870911] d115_16 (List.mem_of_getElem? (i := 163) rfl) rfl ⟨by decide, by decide, Nat.le_of_ble_eq_true rfl, rfl, mcd116⟩ rfl rfl (Nat.le_of_ble_eq_true rfl) (t_f116 e5) ?_
    rcases ite_some h with ⟨c6, h⟩ | ⟨c6, h⟩
    · refine R_br 26 d115_19 (mb_t (b := (q4 = (0 : Int32))) c6) rfl ?_
      refine R_ic (v := 0) d115_26 (by decide) ?_
      cases h
      exact R_iret d115_27 rfl rfl rfl
    · refine R_nb d115_19 rfl (mb_f (b := (q4 = (0 : Int32))) c6) ?_
      refine R_ic (v := 1) d115_22 (by decide) ?_
      refine R_br 27 d115_23 rfl rfl ?_
      cases h
      exact R_iret d115_27 rfl rfl rfl
def f117 (v1 : Int32) (s : mS) : Option (Int32 × mS) :=
  pt (uF 14 v1 s) fun s1 => (if (v1 ≤ (0 : Int32)) then
    some ((0 : Int32), s1)
  else
    some ((1 : Int32), s1))
theorem t_f117 {S : mE} {ex : mHp} {v1 : Int32} {s : mS} {r : Int32 × mS} (h : f117 v1 s = some r) : Run S 117 (0, [(0, .ref 42), (1, .int v1)], [], hp s ex) (.inl (some (.int r.1)), hp r.2 ex) := by
  unfold f117 at h
  refine R_p d117_0 rfl rfl ?_
  refine R_p d117_1 rfl rfl ?_
  obtain ⟨s1, e2, h⟩ := pt_some h
  refine R_put d117_2 (List.mem_of_getElem? (i := 48) rfl) (hg42 _ _) (Nat.le_of_ble_eq_true rfl) rfl rfl (Or.inl rfl) ?_
  refine R_h (hp s1 ex) (by rw [e2]; exact hF14 _ _ _) ?_
  refine R_p d117_5 rfl rfl ?_
  rcases ite_some h with ⟨c3, h⟩ | ⟨c3, h⟩
  · refine R_br 13 d117_6 (mb_t (b := (v1 ≤ (0 : Int32))) c3) rfl ?_
    refine R_ic (v := 0) d117_13 (by decide) ?_
    cases h
    exact R_iret d117_14 rfl rfl rfl
  · refine R_nb d117_6 rfl (mb_f (b := (v1 ≤ (0 : Int32))) c3) ?_
    refine R_ic (v := 1) d117_9 (by decide) ?_
    refine R_br 14 d117_10 rfl rfl ?_
    cases h
    exact R_iret d117_14 rfl rfl rfl
def f119 (v1 : Int32) (v2 : Int32) (v3 : Int32) (s : mS) : Option (Int32) :=
  rdI 42 v2 (rdI 42 v1 (rdI 42 v3 (rdI 42 v1 (rdI 42 v2 (rdI 42 v1 (rdI 42 v3 (rdI 42 v1 ((if (((((s.2.1 43 (Int32.toNatClampNeg v2)) - (s.2.1 43 (Int32.toNatClampNeg v1))) * ((s.2.1 44 (Int32.toNatClampNeg v3)) - (s.2.1 44 (Int32.toNatClampNeg v1)))) - (((s.2.1 44 (Int32.toNatClampNeg v2)) - (s.2.1 44 (Int32.toNatClampNeg v1))) * ((s.2.1 43 (Int32.toNatClampNeg v3)) - (s.2.1 43 (Int32.toNatClampNeg v1))))) ≤ (0 : Int64)) then
    (if ((0 : Int64) ≤ ((((s.2.1 43 (Int32.toNatClampNeg v2)) - (s.2.1 43 (Int32.toNatClampNeg v1))) * ((s.2.1 44 (Int32.toNatClampNeg v3)) - (s.2.1 44 (Int32.toNatClampNeg v1)))) - (((s.2.1 44 (Int32.toNatClampNeg v2)) - (s.2.1 44 (Int32.toNatClampNeg v1))) * ((s.2.1 43 (Int32.toNatClampNeg v3)) - (s.2.1 43 (Int32.toNatClampNeg v1)))))) then
      some (0 : Int32)
    else
      some (-1 : Int32))
  else
    some (1 : Int32))))))))))
theorem t_f119 {S : mE} {ex : mHp} {v1 : Int32} {v2 : Int32} {v3 : Int32} {s : mS} {r : Int32} (h : f119 v1 v2 v3 s = some r) : Run S 119 (0, [(0, .ref 42), (1, .int v1), (2, .int v2), (3, .int v3)], [], hp s ex) (.inl (some (.int r)), hp s ex) := by
  unfold f119 at h
  refine R_p d119_0 rfl rfl ?_
  refine R_get d119_1 (Or.inl (List.mem_of_getElem? (i := 50) rfl)) (hg42 _ _) rfl ?_
  refine R_p d119_4 rfl rfl ?_
  obtain ⟨c1, h⟩ := rdI_some h
  refine R_lld d119_5 (hg43 _ _) c1 ?_
  refine R_p d119_6 rfl rfl ?_
  refine R_get d119_7 (Or.inl (List.mem_of_getElem? (i := 50) rfl)) (hg42 _ _) rfl ?_
  refine R_p d119_10 rfl rfl ?_
  obtain ⟨c2, h⟩ := rdI_some h
  refine R_lld d119_11 (hg43 _ _) c2 ?_
  refine R_p d119_12 rfl rfl ?_
  refine R_p d119_13 rfl rfl ?_
  refine R_get d119_14 (Or.inl (List.mem_of_getElem? (i := 51) rfl)) (hg42 _ _) rfl ?_
  refine R_p d119_17 rfl rfl ?_
  obtain ⟨c3, h⟩ := rdI_some h
  refine R_lld d119_18 (hg44 _ _) c3 ?_
  refine R_p d119_19 rfl rfl ?_
  refine R_get d119_20 (Or.inl (List.mem_of_getElem? (i := 51) rfl)) (hg42 _ _) rfl ?_
  refine R_p d119_23 rfl rfl ?_
  obtain ⟨c4, h⟩ := rdI_some h
  refine R_lld d119_24 (hg44 _ _) c4 ?_
  refine R_p d119_25 rfl rfl ?_
  refine R_p d119_26 rfl rfl ?_
  refine R_p d119_27 rfl rfl ?_
  refine R_get d119_28 (Or.inl (List.mem_of_getElem? (i := 51) rfl)) (hg42 _ _) rfl ?_
  refine R_p d119_31 rfl rfl ?_
  obtain ⟨c5, h⟩ := rdI_some h
  refine R_lld d119_32 (hg44 _ _) c5 ?_
  refine R_p d119_33 rfl rfl ?_
  refine R_get d119_34 (Or.inl (List.mem_of_getElem? (i := 51) rfl)) (hg42 _ _) rfl ?_
  refine R_p d119_37 rfl rfl ?_
  obtain ⟨c6, h⟩ := rdI_some h
  refine R_lld d119_38 (hg44 _ _) c6 ?_
  refine R_p d119_39 rfl rfl ?_
  refine R_p d119_40 rfl rfl ?_
  refine R_get d119_41 (Or.inl (List.mem_of_getElem? (i := 50) rfl)) (hg42 _ _) rfl ?_
  refine R_p d119_44 rfl rfl ?_
  obtain ⟨c7, h⟩ := rdI_some h
  refine R_lld d119_45 (hg43 _ _) c7 ?_
  refine R_p d119_46 rfl rfl ?_
  refine R_get d119_47 (Or.inl (List.mem_of_getElem? (i := 50) rfl)) (hg42 _ _) rfl ?_
  refine R_p d119_50 rfl rfl ?_
  obtain ⟨c8, h⟩ := rdI_some h
  refine R_lld d119_51 (hg43 _ _) c8 ?_
  refine R_p d119_52 rfl rfl ?_
  refine R_p d119_53 rfl rfl ?_
  refine R_p d119_54 rfl rfl ?_
  refine R_p (ls' := [(0, .ref 42), (1, .int v1), (2, .int v2), (3, .int v3), (4, .long ((((s.2.1 43 (Int32.toNatClampNeg v2)) - (s.2.1 43 (Int32.toNatClampNeg v1))) * ((s.2.1 44 (Int32.toNatClampNeg v3)) - (s.2.1 44 (Int32.toNatClampNeg v1)))) - (((s.2.1 44 (Int32.toNatClampNeg v2)) - (s.2.1 44 (Int32.toNatClampNeg v1))) * ((s.2.1 43 (Int32.toNatClampNeg v3)) - (s.2.1 43 (Int32.toNatClampNeg v1))))))]) d119_55 rfl rfl ?_
  refine R_p d119_57 rfl rfl ?_
  refine R_lc (v := 0) d119_59 (by decide) ?_
  refine R_p d119_60 rfl rfl ?_
  rcases ite_some h with ⟨c9, h⟩ | ⟨c9, h⟩
  · refine R_br 68 d119_61 (mb_t (b := ((lg_cmp ((((s.2.1 43 (Int32.toNatClampNeg v2)) - (s.2.1 43 (Int32.toNatClampNeg v1))) * ((s.2.1 44 (Int32.toNatClampNeg v3)) - (s.2.1 44 (Int32.toNatClampNeg v1)))) - (((s.2.1 44 (Int32.toNatClampNeg v2)) - (s.2.1 44 (Int32.toNatClampNeg v1))) * ((s.2.1 43 (Int32.toNatClampNeg v3)) - (s.2.1 43 (Int32.toNatClampNeg v1))))) 0) ≤ (0 : Int32))) (lgc_le.mpr c9)) rfl ?_
    refine R_p d119_68 rfl rfl ?_
    refine R_lc (v := 0) d119_70 (by decide) ?_
    refine R_p d119_71 rfl rfl ?_
    rcases ite_some h with ⟨c10, h⟩ | ⟨c10, h⟩
    · refine R_br 79 d119_72 (mb_t (b := ((0 : Int32) ≤ (lg_cmp ((((s.2.1 43 (Int32.toNatClampNeg v2)) - (s.2.1 43 (Int32.toNatClampNeg v1))) * ((s.2.1 44 (Int32.toNatClampNeg v3)) - (s.2.1 44 (Int32.toNatClampNeg v1)))) - (((s.2.1 44 (Int32.toNatClampNeg v2)) - (s.2.1 44 (Int32.toNatClampNeg v1))) * ((s.2.1 43 (Int32.toNatClampNeg v3)) - (s.2.1 43 (Int32.toNatClampNeg v1))))) 0))) (lgc_ge.mpr c10)) rfl ?_
      refine R_ic (v := 0) d119_79 (by decide) ?_
      cases h
      exact R_iret d119_80 rfl rfl rfl
    · refine R_nb d119_72 rfl (mb_f (b := ((0 : Int32) ≤ (lg_cmp ((((s.2.1 43 (Int32.toNatClampNeg v2)) - (s.2.1 43 (Int32.toNatClampNeg v1))) * ((s.2.1 44 (Int32.toNatClampNeg v3)) - (s.2.1 44 (Int32.toNatClampNeg v1)))) - (((s.2.1 44 (Int32.toNatClampNeg v2)) - (s.2.1 44 (Int32.toNatClampNeg v1))) * ((s.2.1 43 (Int32.toNatClampNeg v3)) - (s.2.1 43 (Int32.toNatClampNeg v1))))) 0))) (fun q => c10 (lgc_ge.mp q))) ?_
      refine R_ic (v := (-1)) d119_75 (by decide) ?_
      refine R_br 80 d119_76 rfl rfl ?_
      cases h
      exact R_iret d119_80 rfl rfl rfl
  · refine R_nb d119_61 rfl (mb_f (b := ((lg_cmp ((((s.2.1 43 (Int32.toNatClampNeg v2)) - (s.2.1 43 (Int32.toNatClampNeg v1))) * ((s.2.1 44 (Int32.toNatClampNeg v3)) - (s.2.1 44 (Int32.toNatClampNeg v1)))) - (((s.2.1 44 (Int32.toNatClampNeg v2)) - (s.2.1 44 (Int32.toNatClampNeg v1))) * ((s.2.1 43 (Int32.toNatClampNeg v3)) - (s.2.1 43 (Int32.toNatClampNeg v1))))) 0) ≤ (0 : Int32))) (fun q => c9 (lgc_le.mp q))) ?_
    refine R_ic (v := 1) d119_64 (by decide) ?_
    refine R_br 80 d119_65 rfl rfl ?_
    cases h
    exact R_iret d119_80 rfl rfl rfl
def j118_202 (v1 : Int32) (v2 : Int32) (v3 : Int32) (v4 : Int32) (v5 : Int32) (s : mS) : Option (Int32) :=
  (if (v4 = (0 : Int32)) then
    some (0 : Int32)
  else
    (if (v5 = (0 : Int32)) then
      some (0 : Int32)
    else
      some (1 : Int32)))
theorem t_j118_202 {S : mE} {ex : mHp} (v1 : Int32) (v2 : Int32) (v3 : Int32) (v4 : Int32) (v5 : Int32) (s : mS) (r : Int32) (h : j118_202 v1 v2 v3 v4 v5 s = some r) : Run S 118 (202, [(0, .ref 42), (1, .int v1), (2, .int v2), (3, .int v3), (4, .int v4), (5, .int v5)], [], hp s ex) (.inl (some (.int r)), hp s ex) := by
  unfold j118_202 at h
  refine R_p d118_202 rfl rfl ?_
  rcases ite_some h with ⟨c1, h⟩ | ⟨c1, h⟩
  · refine R_br 216 d118_204 (mb_t (b := (v4 = (0 : Int32))) c1) rfl ?_
    refine R_ic (v := 0) d118_216 (by decide) ?_
    cases h
    exact R_iret d118_217 rfl rfl rfl
  · refine R_nb d118_204 rfl (mb_f (b := (v4 = (0 : Int32))) c1) ?_
    refine R_p d118_207 rfl rfl ?_
    rcases ite_some h with ⟨c2, h⟩ | ⟨c2, h⟩
    · refine R_br 216 d118_209 (mb_t (b := (v5 = (0 : Int32))) c2) rfl ?_
      refine R_ic (v := 0) d118_216 (by decide) ?_
      cases h
      exact R_iret d118_217 rfl rfl rfl
    · refine R_nb d118_209 rfl (mb_f (b := (v5 = (0 : Int32))) c2) ?_
      refine R_ic (v := 1) d118_212 (by decide) ?_
      refine R_br 217 d118_213 rfl rfl ?_
      cases h
      exact R_iret d118_217 rfl rfl rfl
def j118_107 (v1 : Int32) (v2 : Int32) (v3 : Int32) (v4 : Int32) (s : mS) : Option (Int32) :=
  rdI 42 v1 (rdI 42 v2 ((if ((s.2.1 44 (Int32.toNatClampNeg v2)) ≤ (s.2.1 44 (Int32.toNatClampNeg v1))) then
    rdI 42 v3 (rdI 42 v2 ((if ((s.2.1 44 (Int32.toNatClampNeg v3)) < (s.2.1 44 (Int32.toNatClampNeg v2))) then
      j118_202 v1 v2 v3 v4 0 s
    else
      rdI 42 v3 (rdI 42 v1 ((if ((s.2.1 44 (Int32.toNatClampNeg v1)) < (s.2.1 44 (Int32.toNatClampNeg v3))) then
        j118_202 v1 v2 v3 v4 0 s
      else
        j118_202 v1 v2 v3 v4 1 s))))))
  else
    rdI 42 v3 (rdI 42 v1 ((if ((s.2.1 44 (Int32.toNatClampNeg v3)) < (s.2.1 44 (Int32.toNatClampNeg v1))) then
      j118_202 v1 v2 v3 v4 0 s
    else
      rdI 42 v3 (rdI 42 v2 ((if ((s.2.1 44 (Int32.toNatClampNeg v2)) < (s.2.1 44 (Int32.toNatClampNeg v3))) then
        j118_202 v1 v2 v3 v4 0 s
      else
        j118_202 v1 v2 v3 v4 1 s)))))))))
theorem t_j118_107 {S : mE} {ex : mHp} (v1 : Int32) (v2 : Int32) (v3 : Int32) (v4 : Int32) (s : mS) (r : Int32) (h : j118_107 v1 v2 v3 v4 s = some r) : Run S 118 (107, [(0, .ref 42), (1, .int v1), (2, .int v2), (3, .int v3), (4, .int v4)], [], hp s ex) (.inl (some (.int r)), hp s ex) := by
  unfold j118_107 at h
  refine R_p d118_107 rfl rfl ?_
  refine R_get d118_108 (Or.inl (List.mem_of_getElem? (i := 51) rfl)) (hg42 _ _) rfl ?_
  refine R_p d118_111 rfl rfl ?_
  obtain ⟨c1, h⟩ := rdI_some h
  refine R_lld d118_112 (hg44 _ _) c1 ?_
  refine R_p d118_113 rfl rfl ?_
  refine R_get d118_114 (Or.inl (List.mem_of_getElem? (i := 51) rfl)) (hg42 _ _) rfl ?_
  refine R_p d118_117 rfl rfl ?_
  obtain ⟨c2, h⟩ := rdI_some h
  refine R_lld d118_118 (hg44 _ _) c2 ?_
  refine R_p d118_119 rfl rfl ?_
  rcases ite_some h with ⟨c3, h⟩ | ⟨c3, h⟩
  · refine R_br 163 d118_120 (mb_t (b := ((0 : Int32) ≤ (lg_cmp (s.2.1 44 (Int32.toNatClampNeg v1)) (s.2.1 44 (Int32.toNatClampNeg v2))))) (lgc_ge.mpr c3)) rfl ?_
    refine R_p d118_163 rfl rfl ?_
    refine R_get d118_164 (Or.inl (List.mem_of_getElem? (i := 51) rfl)) (hg42 _ _) rfl ?_
    refine R_p d118_167 rfl rfl ?_
    obtain ⟨c4, h⟩ := rdI_some h
    refine R_lld d118_168 (hg44 _ _) c4 ?_
    refine R_p d118_169 rfl rfl ?_
    refine R_get d118_170 (Or.inl (List.mem_of_getElem? (i := 51) rfl)) (hg42 _ _) rfl ?_
    refine R_p d118_173 rfl rfl ?_
    obtain ⟨c5, h⟩ := rdI_some h
    refine R_lld d118_174 (hg44 _ _) c5 ?_
    refine R_p d118_175 rfl rfl ?_
    rcases ite_some h with ⟨c6, h⟩ | ⟨c6, h⟩
    · refine R_br 199 d118_176 (mb_t (b := ((lg_cmp (s.2.1 44 (Int32.toNatClampNeg v3)) (s.2.1 44 (Int32.toNatClampNeg v2))) < (0 : Int32))) (lgc_lt.mpr c6)) rfl ?_
      refine R_ic (v := 0) d118_199 (by decide) ?_
      refine R_p (ls' := [(0, .ref 42), (1, .int v1), (2, .int v2), (3, .int v3), (4, .int v4), (5, .int 0)]) d118_200 rfl rfl ?_
      exact t_j118_202 (S := S) (ex := ex) v1 v2 v3 v4 0 s _ h
    · refine R_nb d118_176 rfl (mb_f (b := ((lg_cmp (s.2.1 44 (Int32.toNatClampNeg v3)) (s.2.1 44 (Int32.toNatClampNeg v2))) < (0 : Int32))) (fun q => c6 (lgc_lt.mp q))) ?_
      refine R_p d118_179 rfl rfl ?_
      refine R_get d118_180 (Or.inl (List.mem_of_getElem? (i := 51) rfl)) (hg42 _ _) rfl ?_
      refine R_p d118_183 rfl rfl ?_
      obtain ⟨c7, h⟩ := rdI_some h
      refine R_lld d118_184 (hg44 _ _) c7 ?_
      refine R_p d118_185 rfl rfl ?_
      refine R_get d118_186 (Or.inl (List.mem_of_getElem? (i := 51) rfl)) (hg42 _ _) rfl ?_
      refine R_p d118_189 rfl rfl ?_
      obtain ⟨c8, h⟩ := rdI_some h
      refine R_lld d118_190 (hg44 _ _) c8 ?_
      refine R_p d118_191 rfl rfl ?_
      rcases ite_some h with ⟨c9, h⟩ | ⟨c9, h⟩
      · refine R_br 199 d118_192 (mb_t (b := ((0 : Int32) < (lg_cmp (s.2.1 44 (Int32.toNatClampNeg v3)) (s.2.1 44 (Int32.toNatClampNeg v1))))) (lgc_gt.mpr c9)) rfl ?_
        refine R_ic (v := 0) d118_199 (by decide) ?_
        refine R_p (ls' := [(0, .ref 42), (1, .int v1), (2, .int v2), (3, .int v3), (4, .int v4), (5, .int 0)]) d118_200 rfl rfl ?_
        exact t_j118_202 (S := S) (ex := ex) v1 v2 v3 v4 0 s _ h
      · refine R_nb d118_192 rfl (mb_f (b := ((0 : Int32) < (lg_cmp (s.2.1 44 (Int32.toNatClampNeg v3)) (s.2.1 44 (Int32.toNatClampNeg v1))))) (fun q => c9 (lgc_gt.mp q))) ?_
        refine R_ic (v := 1) d118_195 (by decide) ?_
        refine R_br 200 d118_196 rfl rfl ?_
        refine R_p (ls' := [(0, .ref 42), (1, .int v1), (2, .int v2), (3, .int v3), (4, .int v4), (5, .int 1)]) d118_200 rfl rfl ?_
        exact t_j118_202 (S := S) (ex := ex) v1 v2 v3 v4 1 s _ h
  · refine R_nb d118_120 rfl (mb_f (b := ((0 : Int32) ≤ (lg_cmp (s.2.1 44 (Int32.toNatClampNeg v1)) (s.2.1 44 (Int32.toNatClampNeg v2))))) (fun q => c3 (lgc_ge.mp q))) ?_
    refine R_p d118_123 rfl rfl ?_
    refine R_get d118_124 (Or.inl (List.mem_of_getElem? (i := 51) rfl)) (hg42 _ _) rfl ?_
    refine R_p d118_127 rfl rfl ?_
    obtain ⟨c10, h⟩ := rdI_some h
    refine R_lld d118_128 (hg44 _ _) c10 ?_
    refine R_p d118_129 rfl rfl ?_
    refine R_get d118_130 (Or.inl (List.mem_of_getElem? (i := 51) rfl)) (hg42 _ _) rfl ?_
    refine R_p d118_133 rfl rfl ?_
    obtain ⟨c11, h⟩ := rdI_some h
    refine R_lld d118_134 (hg44 _ _) c11 ?_
    refine R_p d118_135 rfl rfl ?_
    rcases ite_some h with ⟨c12, h⟩ | ⟨c12, h⟩
    · refine R_br 159 d118_136 (mb_t (b := ((lg_cmp (s.2.1 44 (Int32.toNatClampNeg v3)) (s.2.1 44 (Int32.toNatClampNeg v1))) < (0 : Int32))) (lgc_lt.mpr c12)) rfl ?_
      refine R_ic (v := 0) d118_159 (by decide) ?_
      refine R_br 200 d118_160 rfl rfl ?_
      refine R_p (ls' := [(0, .ref 42), (1, .int v1), (2, .int v2), (3, .int v3), (4, .int v4), (5, .int 0)]) d118_200 rfl rfl ?_
      exact t_j118_202 (S := S) (ex := ex) v1 v2 v3 v4 0 s _ h
    · refine R_nb d118_136 rfl (mb_f (b := ((lg_cmp (s.2.1 44 (Int32.toNatClampNeg v3)) (s.2.1 44 (Int32.toNatClampNeg v1))) < (0 : Int32))) (fun q => c12 (lgc_lt.mp q))) ?_
      refine R_p d118_139 rfl rfl ?_
      refine R_get d118_140 (Or.inl (List.mem_of_getElem? (i := 51) rfl)) (hg42 _ _) rfl ?_
      refine R_p d118_143 rfl rfl ?_
      obtain ⟨c13, h⟩ := rdI_some h
      refine R_lld d118_144 (hg44 _ _) c13 ?_
      refine R_p d118_145 rfl rfl ?_
      refine R_get d118_146 (Or.inl (List.mem_of_getElem? (i := 51) rfl)) (hg42 _ _) rfl ?_
      refine R_p d118_149 rfl rfl ?_
      obtain ⟨c14, h⟩ := rdI_some h
      refine R_lld d118_150 (hg44 _ _) c14 ?_
      refine R_p d118_151 rfl rfl ?_
      rcases ite_some h with ⟨c15, h⟩ | ⟨c15, h⟩
      · refine R_br 159 d118_152 (mb_t (b := ((0 : Int32) < (lg_cmp (s.2.1 44 (Int32.toNatClampNeg v3)) (s.2.1 44 (Int32.toNatClampNeg v2))))) (lgc_gt.mpr c15)) rfl ?_
        refine R_ic (v := 0) d118_159 (by decide) ?_
        refine R_br 200 d118_160 rfl rfl ?_
        refine R_p (ls' := [(0, .ref 42), (1, .int v1), (2, .int v2), (3, .int v3), (4, .int v4), (5, .int 0)]) d118_200 rfl rfl ?_
        exact t_j118_202 (S := S) (ex := ex) v1 v2 v3 v4 0 s _ h
      · refine R_nb d118_152 rfl (mb_f (b := ((0 : Int32) < (lg_cmp (s.2.1 44 (Int32.toNatClampNeg v3)) (s.2.1 44 (Int32.toNatClampNeg v2))))) (fun q => c15 (lgc_gt.mp q))) ?_
        refine R_ic (v := 1) d118_155 (by decide) ?_
        refine R_br 200 d118_156 rfl rfl ?_
        refine R_p (ls' := [(0, .ref 42), (1, .int v1), (2, .int v2), (3, .int v3), (4, .int v4), (5, .int 1)]) d118_200 rfl rfl ?_
        exact t_j118_202 (S := S) (ex := ex) v1 v2 v3 v4 1 s _ h
def f118 (v1 : Int32) (v2 : Int32) (v3 : Int32) (s : mS) : Option (Int32) :=
  (f119 v1 v2 v3 s).bind fun q1 => (if (q1 = (0 : Int32)) then
    rdI 42 v1 (rdI 42 v2 ((if ((s.2.1 43 (Int32.toNatClampNeg v2)) ≤ (s.2.1 43 (Int32.toNatClampNeg v1))) then
      rdI 42 v3 (rdI 42 v2 ((if ((s.2.1 43 (Int32.toNatClampNeg v3)) < (s.2.1 43 (Int32.toNatClampNeg v2))) then
        j118_107 v1 v2 v3 0 s
      else
        rdI 42 v3 (rdI 42 v1 ((if ((s.2.1 43 (Int32.toNatClampNeg v1)) < (s.2.1 43 (Int32.toNatClampNeg v3))) then
          j118_107 v1 v2 v3 0 s
        else
          j118_107 v1 v2 v3 1 s))))))
    else
      rdI 42 v3 (rdI 42 v1 ((if ((s.2.1 43 (Int32.toNatClampNeg v3)) < (s.2.1 43 (Int32.toNatClampNeg v1))) then
        j118_107 v1 v2 v3 0 s
      else
        rdI 42 v3 (rdI 42 v2 ((if ((s.2.1 43 (Int32.toNatClampNeg v2)) < (s.2.1 43 (Int32.toNatClampNeg v3))) then
          j118_107 v1 v2 v3 0 s
        else
          j118_107 v1 v2 v3 1 s)))))))))
  else
    some (0 : Int32))
theorem t_f118 {S : mE} {ex : mHp} {v1 : Int32} {v2 : Int32} {v3 : Int32} {s : mS} {r : Int32} (h : f118 v1 v2 v3 s = some r) : Run S 118 (0, [(0, .ref 42), (1, .int v1), (2, .int v2), (3, .int v3)], [], hp s ex) (.inl (some (.int r)), hp s ex) := by
  unfold f118 at h
  refine R_p d118_0 rfl rfl ?_
  refine R_p d118_1 rfl rfl ?_
  refine R_p d118_2 rfl rfl ?_
  refine R_p d118_3 rfl rfl ?_
  obtain ⟨q1, e2, h⟩ := bd_some h
  refine R_cm [.int v1, .int v2, .int v3] d118_4 (List.mem_of_getElem? (i := 166) rfl) rfl ⟨by decide, by decide, Nat.le_of_ble_eq_true rfl, rfl, mcd119⟩ rfl rfl (Nat.le_of_ble_eq_true rfl) (hg42 _ _) rfl (t_f119 e2) ?_
  rcases ite_some h with ⟨c3, h⟩ | ⟨c3, h⟩
  · refine R_br 12 d118_7 (mb_t (b := (q1 = (0 : Int32))) c3) rfl ?_
    refine R_p d118_12 rfl rfl ?_
    refine R_get d118_13 (Or.inl (List.mem_of_getElem? (i := 50) rfl)) (hg42 _ _) rfl ?_
    refine R_p d118_16 rfl rfl ?_
    obtain ⟨c4, h⟩ := rdI_some h
    refine R_lld d118_17 (hg43 _ _) c4 ?_
    refine R_p d118_18 rfl rfl ?_
    refine R_get d118_19 (Or.inl (List.mem_of_getElem? (i := 50) rfl)) (hg42 _ _) rfl ?_
    refine R_p d118_22 rfl rfl ?_
    obtain ⟨c5, h⟩ := rdI_some h
    refine R_lld d118_23 (hg43 _ _) c5 ?_
    refine R_p d118_24 rfl rfl ?_
    rcases ite_some h with ⟨c6, h⟩ | ⟨c6, h⟩
    · refine R_br 68 d118_25 (mb_t (b := ((0 : Int32) ≤ (lg_cmp (s.2.1 43 (Int32.toNatClampNeg v1)) (s.2.1 43 (Int32.toNatClampNeg v2))))) (lgc_ge.mpr c6)) rfl ?_
      refine R_p d118_68 rfl rfl ?_
      refine R_get d118_69 (Or.inl (List.mem_of_getElem? (i := 50) rfl)) (hg42 _ _) rfl ?_
      refine R_p d118_72 rfl rfl ?_
      obtain ⟨c7, h⟩ := rdI_some h
      refine R_lld d118_73 (hg43 _ _) c7 ?_
      refine R_p d118_74 rfl rfl ?_
      refine R_get d118_75 (Or.inl (List.mem_of_getElem? (i := 50) rfl)) (hg42 _ _) rfl ?_
      refine R_p d118_78 rfl rfl ?_
      obtain ⟨c8, h⟩ := rdI_some h
      refine R_lld d118_79 (hg43 _ _) c8 ?_
      refine R_p d118_80 rfl rfl ?_
      rcases ite_some h with ⟨c9, h⟩ | ⟨c9, h⟩
      · refine R_br 104 d118_81 (mb_t (b := ((lg_cmp (s.2.1 43 (Int32.toNatClampNeg v3)) (s.2.1 43 (Int32.toNatClampNeg v2))) < (0 : Int32))) (lgc_lt.mpr c9)) rfl ?_
        refine R_ic (v := 0) d118_104 (by decide) ?_
        refine R_p (ls' := [(0, .ref 42), (1, .int v1), (2, .int v2), (3, .int v3), (4, .int 0)]) d118_105 rfl rfl ?_
        exact t_j118_107 (S := S) (ex := ex) v1 v2 v3 0 s _ h
      · refine R_nb d118_81 rfl (mb_f (b := ((lg_cmp (s.2.1 43 (Int32.toNatClampNeg v3)) (s.2.1 43 (Int32.toNatClampNeg v2))) < (0 : Int32))) (fun q => c9 (lgc_lt.mp q))) ?_
        refine R_p d118_84 rfl rfl ?_
        refine R_get d118_85 (Or.inl (List.mem_of_getElem? (i := 50) rfl)) (hg42 _ _) rfl ?_
        refine R_p d118_88 rfl rfl ?_
        obtain ⟨c10, h⟩ := rdI_some h
        refine R_lld d118_89 (hg43 _ _) c10 ?_
        refine R_p d118_90 rfl rfl ?_
        refine R_get d118_91 (Or.inl (List.mem_of_getElem? (i := 50) rfl)) (hg42 _ _) rfl ?_
        refine R_p d118_94 rfl rfl ?_
        obtain ⟨c11, h⟩ := rdI_some h
        refine R_lld d118_95 (hg43 _ _) c11 ?_
        refine R_p d118_96 rfl rfl ?_
        rcases ite_some h with ⟨c12, h⟩ | ⟨c12, h⟩
        · refine R_br 104 d118_97 (mb_t (b := ((0 : Int32) < (lg_cmp (s.2.1 43 (Int32.toNatClampNeg v3)) (s.2.1 43 (Int32.toNatClampNeg v1))))) (lgc_gt.mpr c12)) rfl ?_
          refine R_ic (v := 0) d118_104 (by decide) ?_
          refine R_p (ls' := [(0, .ref 42), (1, .int v1), (2, .int v2), (3, .int v3), (4, .int 0)]) d118_105 rfl rfl ?_
          exact t_j118_107 (S := S) (ex := ex) v1 v2 v3 0 s _ h
        · refine R_nb d118_97 rfl (mb_f (b := ((0 : Int32) < (lg_cmp (s.2.1 43 (Int32.toNatClampNeg v3)) (s.2.1 43 (Int32.toNatClampNeg v1))))) (fun q => c12 (lgc_gt.mp q))) ?_
          refine R_ic (v := 1) d118_100 (by decide) ?_
          refine R_br 105 d118_101 rfl rfl ?_
          refine R_p (ls' := [(0, .ref 42), (1, .int v1), (2, .int v2), (3, .int v3), (4, .int 1)]) d118_105 rfl rfl ?_
          exact t_j118_107 (S := S) (ex := ex) v1 v2 v3 1 s _ h
    · refine R_nb d118_25 rfl (mb_f (b := ((0 : Int32) ≤ (lg_cmp (s.2.1 43 (Int32.toNatClampNeg v1)) (s.2.1 43 (Int32.toNatClampNeg v2))))) (fun q => c6 (lgc_ge.mp q))) ?_
      refine R_p d118_28 rfl rfl ?_
      refine R_get d118_29 (Or.inl (List.mem_of_getElem? (i := 50) rfl)) (hg42 _ _) rfl ?_
      refine R_p d118_32 rfl rfl ?_
      obtain ⟨c13, h⟩ := rdI_some h
      refine R_lld d118_33 (hg43 _ _) c13 ?_
      refine R_p d118_34 rfl rfl ?_
      refine R_get d118_35 (Or.inl (List.mem_of_getElem? (i := 50) rfl)) (hg42 _ _) rfl ?_
      refine R_p d118_38 rfl rfl ?_
      obtain ⟨c14, h⟩ := rdI_some h
      refine R_lld d118_39 (hg43 _ _) c14 ?_
      refine R_p d118_40 rfl rfl ?_
      rcases ite_some h with ⟨c15, h⟩ | ⟨c15, h⟩
      · refine R_br 64 d118_41 (mb_t (b := ((lg_cmp (s.2.1 43 (Int32.toNatClampNeg v3)) (s.2.1 43 (Int32.toNatClampNeg v1))) < (0 : Int32))) (lgc_lt.mpr c15)) rfl ?_
        refine R_ic (v := 0) d118_64 (by decide) ?_
        refine R_br 105 d118_65 rfl rfl ?_
        refine R_p (ls' := [(0, .ref 42), (1, .int v1), (2, .int v2), (3, .int v3), (4, .int 0)]) d118_105 rfl rfl ?_
        exact t_j118_107 (S := S) (ex := ex) v1 v2 v3 0 s _ h
      · refine R_nb d118_41 rfl (mb_f (b := ((lg_cmp (s.2.1 43 (Int32.toNatClampNeg v3)) (s.2.1 43 (Int32.toNatClampNeg v1))) < (0 : Int32))) (fun q => c15 (lgc_lt.mp q))) ?_
        refine R_p d118_44 rfl rfl ?_
        refine R_get d118_45 (Or.inl (List.mem_of_getElem? (i := 50) rfl)) (hg42 _ _) rfl ?_
        refine R_p d118_48 rfl rfl ?_
        obtain ⟨c16, h⟩ := rdI_some h
        refine R_lld d118_49 (hg43 _ _) c16 ?_
        refine R_p d118_50 rfl rfl ?_
        refine R_get d118_51 (Or.inl (List.mem_of_getElem? (i := 50) rfl)) (hg42 _ _) rfl ?_
        refine R_p d118_54 rfl rfl ?_
        obtain ⟨c17, h⟩ := rdI_some h
        refine R_lld d118_55 (hg43 _ _) c17 ?_
        refine R_p d118_56 rfl rfl ?_
        rcases ite_some h with ⟨c18, h⟩ | ⟨c18, h⟩
        · refine R_br 64 d118_57 (mb_t (b := ((0 : Int32) < (lg_cmp (s.2.1 43 (Int32.toNatClampNeg v3)) (s.2.1 43 (Int32.toNatClampNeg v2))))) (lgc_gt.mpr c18)) rfl ?_
          refine R_ic (v := 0) d118_64 (by decide) ?_
          refine R_br 105 d118_65 rfl rfl ?_
          refine R_p (ls' := [(0, .ref 42), (1, .int v1), (2, .int v2), (3, .int v3), (4, .int 0)]) d118_105 rfl rfl ?_
          exact t_j118_107 (S := S) (ex := ex) v1 v2 v3 0 s _ h
        · refine R_nb d118_57 rfl (mb_f (b := ((0 : Int32) < (lg_cmp (s.2.1 43 (Int32.toNatClampNeg v3)) (s.2.1 43 (Int32.toNatClampNeg v2))))) (fun q => c18 (lgc_gt.mp q))) ?_
          refine R_ic (v := 1) d118_60 (by decide) ?_
          refine R_br 105 d118_61 rfl rfl ?_
          refine R_p (ls' := [(0, .ref 42), (1, .int v1), (2, .int v2), (3, .int v3), (4, .int 1)]) d118_105 rfl rfl ?_
          exact t_j118_107 (S := S) (ex := ex) v1 v2 v3 1 s _ h
  · refine R_nb d118_7 rfl (mb_f (b := (q1 = (0 : Int32))) c3) ?_
    refine R_ic (v := 0) d118_10 (by decide) ?_
    cases h
    exact R_iret d118_11 rfl rfl rfl
def r114 : Nat → Nat → Int32 → Int32 → Int32 → Int32 → Int32 → mS → Option (Int32 × mS)
  | 0, _, _, _, _, _, _, _ => none
  | k + 1, hd, v1, v2, v3, v4, v5, s =>
    if hd = 0 then (if ((s.2.2.1 15) ≤ v4) then
        (if (¬ v3 = (0 : Int32)) then
          r114 k 2 v1 v2 v3 0 0 s
        else
          some ((-1 : Int32), s))
      else
        (if (v3 = (0 : Int32)) then
          r114 k 1 v1 v2 0 v4 0 s
        else
          rdI 42 v4 ((if (¬ (s.2.1 43 (Int32.toNatClampNeg v4)) = (Int32.toInt64 v1)) then
            r114 k 1 v1 v2 1 v4 0 s
          else
            rdI 42 v4 ((if ((s.2.1 44 (Int32.toNatClampNeg v4)) = (Int32.toInt64 v2)) then
              r114 k 1 v1 v2 0 v4 0 s
            else
              r114 k 1 v1 v2 1 v4 0 s)))))) else
    if hd = 1 then (if (v4 ≤ v5) then
        r114 k 0 v1 v2 v3 (v4 + Int32.ofInt 1) 0 s
      else
        (if (v3 = (0 : Int32)) then
          r114 k 1 v1 v2 0 v4 (v5 + Int32.ofInt 1) s
        else
          rdI 1600 (((40 : Int32) * v4) + v5) ((if ((s.1 45 (Int32.toNatClampNeg (((40 : Int32) * v4) + v5))) = (0 : Int32)) then
            r114 k 1 v1 v2 1 v4 (v5 + Int32.ofInt 1) s
          else
            (f118 v4 v5 (s.2.2.1 15) s).bind fun q5 => (if (¬ q5 = (0 : Int32)) then
              r114 k 1 v1 v2 0 v4 (v5 + Int32.ofInt 1) s
            else
              r114 k 1 v1 v2 1 v4 (v5 + Int32.ofInt 1) s))))) else
    (if ((40 : Int32) ≤ v4) then
        pt (uF 15 ((s.2.2.1 15) + (1 : Int32)) s) fun s2 => pt (uF 16 (0 : Int32) s2) fun s4 => some (((s4.2.2.1 15) - (1 : Int32)), s4)
      else
        rdI 1600 (((40 : Int32) * (s.2.2.1 15)) + v4) (pt (uA 45 (upd (s.1 45) (Int32.toNatClampNeg (((40 : Int32) * (s.2.2.1 15)) + v4)) (vp_nar .boolean 0)) s) fun s7 => rdI 1600 (((40 : Int32) * v4) + (s7.2.2.1 15)) (pt (uA 45 (upd (s7.1 45) (Int32.toNatClampNeg (((40 : Int32) * v4) + (s7.2.2.1 15))) (vp_nar .boolean 0)) s7) fun s10 => r114 k 2 v1 v2 v3 (v4 + Int32.ofInt 1) 0 s10)))
theorem s114 {S : mE} {ex : mHp} (k : Nat) : (∀ (v1 : Int32) (v2 : Int32) (v3 : Int32) (v4 : Int32) (v5 : Int32) (s : mS) (r : Int32 × mS), r114 k 0 v1 v2 v3 v4 v5 s = some r → Run S 114 (62, [(0, .ref 42), (1, .int v1), (2, .int v2), (3, .int v3), (4, .int v4)], [], hp s ex) (.inl (some (.int r.1)), hp r.2 ex)) ∧ (∀ (v1 : Int32) (v2 : Int32) (v3 : Int32) (v4 : Int32) (v5 : Int32) (s : mS) (r : Int32 × mS), r114 k 1 v1 v2 v3 v4 v5 s = some r → Run S 114 (110, [(0, .ref 42), (1, .int v1), (2, .int v2), (3, .int v3), (4, .int v4), (5, .int v5)], [], hp s ex) (.inl (some (.int r.1)), hp r.2 ex)) ∧ (∀ (v1 : Int32) (v2 : Int32) (v3 : Int32) (v4 : Int32) (v5 : Int32) (s : mS) (r : Int32 × mS), r114 k 2 v1 v2 v3 v4 v5 s = some r → Run S 114 (179, [(0, .ref 42), (1, .int v1), (2, .int v2), (3, .int v3), (4, .int v4)], [], hp s ex) (.inl (some (.int r.1)), hp r.2 ex)) := by
  induction k with
  | zero => refine ⟨?_, ?_, ?_⟩ <;> (intro v1 v2 v3 v4 v5 s r h; cases h)
  | succ k ih =>
    refine ⟨?_, ?_, ?_⟩
    · intro v1 v2 v3 v4 v5 s r h
      rw [r114, if_pos rfl] at h
      refine R_p d114_62 rfl rfl ?_
      refine R_p d114_64 rfl rfl ?_
      refine R_get d114_65 (Or.inl (List.mem_of_getElem? (i := 49) rfl)) (hg42 _ _) rfl ?_
      rcases ite_some h with ⟨c1, h⟩ | ⟨c1, h⟩
      · refine R_br 170 d114_68 (mb_t (b := ((s.2.2.1 15) ≤ v4)) c1) rfl ?_
        refine R_p d114_170 rfl rfl ?_
        rcases ite_some h with ⟨c2, h⟩ | ⟨c2, h⟩
        · refine R_br 176 d114_171 (mb_t (b := (¬ v3 = (0 : Int32))) c2) rfl ?_
          refine R_ic (v := 0) d114_176 (by decide) ?_
          refine R_p (ls' := [(0, .ref 42), (1, .int v1), (2, .int v2), (3, .int v3), (4, .int 0)]) d114_177 rfl rfl ?_
          exact ih.2.2 v1 v2 v3 0 0 s _ h
        · refine R_nb d114_171 rfl (mb_f (b := (¬ v3 = (0 : Int32))) c2) ?_
          refine R_ic (v := (-1)) d114_174 (by decide) ?_
          cases h
          exact R_iret d114_175 rfl rfl rfl
      · refine R_nb d114_68 rfl (mb_f (b := ((s.2.2.1 15) ≤ v4)) c1) ?_
        refine R_p d114_71 rfl rfl ?_
        rcases ite_some h with ⟨c3, h⟩ | ⟨c3, h⟩
        · refine R_br 105 d114_72 (mb_t (b := (v3 = (0 : Int32))) c3) rfl ?_
          refine R_ic (v := 0) d114_105 (by decide) ?_
          refine R_p (ls' := [(0, .ref 42), (1, .int v1), (2, .int v2), (3, .int 0), (4, .int v4)]) d114_106 rfl rfl ?_
          refine R_ic (v := 0) d114_107 (by decide) ?_
          refine R_p (ls' := [(0, .ref 42), (1, .int v1), (2, .int v2), (3, .int 0), (4, .int v4), (5, .int 0)]) d114_108 rfl rfl ?_
          exact ih.2.1 v1 v2 0 v4 0 s _ h
        · refine R_nb d114_72 rfl (mb_f (b := (v3 = (0 : Int32))) c3) ?_
          refine R_p d114_75 rfl rfl ?_
          refine R_get d114_76 (Or.inl (List.mem_of_getElem? (i := 50) rfl)) (hg42 _ _) rfl ?_
          refine R_p d114_79 rfl rfl ?_
          obtain ⟨c4, h⟩ := rdI_some h
          refine R_lld d114_81 (hg43 _ _) c4 ?_
          refine R_p d114_82 rfl rfl ?_
          refine R_p d114_83 rfl rfl ?_
          refine R_p d114_84 rfl rfl ?_
          rcases ite_some h with ⟨c5, h⟩ | ⟨c5, h⟩
          · refine R_br 101 d114_85 (mb_t (b := (¬ (lg_cmp (s.2.1 43 (Int32.toNatClampNeg v4)) (Int32.toInt64 v1)) = (0 : Int32))) (lgc_ne.mpr c5)) rfl ?_
            refine R_ic (v := 1) d114_101 (by decide) ?_
            refine R_br 106 d114_102 rfl rfl ?_
            refine R_p (ls' := [(0, .ref 42), (1, .int v1), (2, .int v2), (3, .int 1), (4, .int v4)]) d114_106 rfl rfl ?_
            refine R_ic (v := 0) d114_107 (by decide) ?_
            refine R_p (ls' := [(0, .ref 42), (1, .int v1), (2, .int v2), (3, .int 1), (4, .int v4), (5, .int 0)]) d114_108 rfl rfl ?_
            exact ih.2.1 v1 v2 1 v4 0 s _ h
          · refine R_nb d114_85 rfl (mb_f (b := (¬ (lg_cmp (s.2.1 43 (Int32.toNatClampNeg v4)) (Int32.toInt64 v1)) = (0 : Int32))) (fun q => c5 (lgc_ne.mp q))) ?_
            refine R_p d114_88 rfl rfl ?_
            refine R_get d114_89 (Or.inl (List.mem_of_getElem? (i := 51) rfl)) (hg42 _ _) rfl ?_
            refine R_p d114_92 rfl rfl ?_
            obtain ⟨c6, h⟩ := rdI_some h
            refine R_lld d114_94 (hg44 _ _) c6 ?_
            refine R_p d114_95 rfl rfl ?_
            refine R_p d114_96 rfl rfl ?_
            refine R_p d114_97 rfl rfl ?_
            rcases ite_some h with ⟨c7, h⟩ | ⟨c7, h⟩
            · refine R_br 105 d114_98 (mb_t (b := ((lg_cmp (s.2.1 44 (Int32.toNatClampNeg v4)) (Int32.toInt64 v2)) = (0 : Int32))) (lgc_eq.mpr c7)) rfl ?_
              refine R_ic (v := 0) d114_105 (by decide) ?_
              refine R_p (ls' := [(0, .ref 42), (1, .int v1), (2, .int v2), (3, .int 0), (4, .int v4)]) d114_106 rfl rfl ?_
              refine R_ic (v := 0) d114_107 (by decide) ?_
              refine R_p (ls' := [(0, .ref 42), (1, .int v1), (2, .int v2), (3, .int 0), (4, .int v4), (5, .int 0)]) d114_108 rfl rfl ?_
              exact ih.2.1 v1 v2 0 v4 0 s _ h
            · refine R_nb d114_98 rfl (mb_f (b := ((lg_cmp (s.2.1 44 (Int32.toNatClampNeg v4)) (Int32.toInt64 v2)) = (0 : Int32))) (fun q => c7 (lgc_eq.mp q))) ?_
              refine R_ic (v := 1) d114_101 (by decide) ?_
              refine R_br 106 d114_102 rfl rfl ?_
              refine R_p (ls' := [(0, .ref 42), (1, .int v1), (2, .int v2), (3, .int 1), (4, .int v4)]) d114_106 rfl rfl ?_
              refine R_ic (v := 0) d114_107 (by decide) ?_
              refine R_p (ls' := [(0, .ref 42), (1, .int v1), (2, .int v2), (3, .int 1), (4, .int v4), (5, .int 0)]) d114_108 rfl rfl ?_
              exact ih.2.1 v1 v2 1 v4 0 s _ h
    · intro v1 v2 v3 v4 v5 s r h
      rw [r114, if_neg (by decide), if_pos rfl] at h
      refine R_p d114_110 rfl rfl ?_
      refine R_p d114_112 rfl rfl ?_
      rcases ite_some h with ⟨c1, h⟩ | ⟨c1, h⟩
      · refine R_br 164 d114_114 (mb_t (b := (v4 ≤ v5)) c1) rfl ?_
        refine R_p (ls' := [(0, .ref 42), (1, .int v1), (2, .int v2), (3, .int v3), (4, .int (v4 + Int32.ofInt 1)), (5, .int v5)]) d114_164 rfl rfl ?_
        refine R_br 62 d114_167 rfl rfl ?_
        exact R_wk [(0, .ref 42), (1, .int v1), (2, .int v2), (3, .int v3), (4, .int (v4 + Int32.ofInt 1))] (by simp) (ih.1 v1 v2 v3 (v4 + Int32.ofInt 1) 0 s _ h)
      · refine R_nb d114_114 rfl (mb_f (b := (v4 ≤ v5)) c1) ?_
        refine R_p d114_117 rfl rfl ?_
        rcases ite_some h with ⟨c2, h⟩ | ⟨c2, h⟩
        · refine R_br 156 d114_118 (mb_t (b := (v3 = (0 : Int32))) c2) rfl ?_
          refine R_ic (v := 0) d114_156 (by decide) ?_
          refine R_p (ls' := [(0, .ref 42), (1, .int v1), (2, .int v2), (3, .int 0), (4, .int v4), (5, .int v5)]) d114_157 rfl rfl ?_
          refine R_p (ls' := [(0, .ref 42), (1, .int v1), (2, .int v2), (3, .int 0), (4, .int v4), (5, .int (v5 + Int32.ofInt 1))]) d114_158 rfl rfl ?_
          refine R_br 110 d114_161 rfl rfl ?_
          exact ih.2.1 v1 v2 0 v4 (v5 + Int32.ofInt 1) s _ h
        · refine R_nb d114_118 rfl (mb_f (b := (v3 = (0 : Int32))) c2) ?_
          refine R_p d114_121 rfl rfl ?_
          refine R_get d114_122 (Or.inl (List.mem_of_getElem? (i := 52) rfl)) (hg42 _ _) rfl ?_
          refine R_bi (v := 40) d114_125 (by decide) ?_
          refine R_p d114_127 rfl rfl ?_
          refine R_p d114_129 rfl rfl ?_
          refine R_p d114_130 rfl rfl ?_
          refine R_p d114_132 rfl rfl ?_
          obtain ⟨c3, h⟩ := rdI_some h
          refine R_zld d114_133 (hg45 _ _) c3 ?_
          rcases ite_some h with ⟨c4, h⟩ | ⟨c4, h⟩
          · refine R_br 152 d114_134 (mb_t (b := ((s.1 45 (Int32.toNatClampNeg (((40 : Int32) * v4) + v5))) = (0 : Int32))) c4) rfl ?_
            refine R_ic (v := 1) d114_152 (by decide) ?_
            refine R_br 157 d114_153 rfl rfl ?_
            refine R_p (ls' := [(0, .ref 42), (1, .int v1), (2, .int v2), (3, .int 1), (4, .int v4), (5, .int v5)]) d114_157 rfl rfl ?_
            refine R_p (ls' := [(0, .ref 42), (1, .int v1), (2, .int v2), (3, .int 1), (4, .int v4), (5, .int (v5 + Int32.ofInt 1))]) d114_158 rfl rfl ?_
            refine R_br 110 d114_161 rfl rfl ?_
            exact ih.2.1 v1 v2 1 v4 (v5 + Int32.ofInt 1) s _ h
          · refine R_nb d114_134 rfl (mb_f (b := ((s.1 45 (Int32.toNatClampNeg (((40 : Int32) * v4) + v5))) = (0 : Int32))) c4) ?_
            refine R_p d114_137 rfl rfl ?_
            refine R_p d114_138 rfl rfl ?_
            refine R_p d114_140 rfl rfl ?_
            refine R_p d114_142 rfl rfl ?_
            refine R_get d114_143 (Or.inl (List.mem_of_getElem? (i := 49) rfl)) (hg42 _ _) rfl ?_
            obtain ⟨q5, e6, h⟩ := bd_some h
            refine R_cm [.int v4, .int v5, .int (s.2.2.1 15)] d114_146 (List.mem_of_getElem? (i := 165) rfl) rfl ⟨by decide, by decide, Nat.le_of_ble_eq_true rfl, rfl, mcd118⟩ rfl rfl (Nat.le_of_ble_eq_true rfl) (hg42 _ _) rfl (t_f118 e6) ?_
            rcases ite_some h with ⟨c7, h⟩ | ⟨c7, h⟩
            · refine R_br 156 d114_149 (mb_t (b := (¬ q5 = (0 : Int32))) c7) rfl ?_
              refine R_ic (v := 0) d114_156 (by decide) ?_
              refine R_p (ls' := [(0, .ref 42), (1, .int v1), (2, .int v2), (3, .int 0), (4, .int v4), (5, .int v5)]) d114_157 rfl rfl ?_
              refine R_p (ls' := [(0, .ref 42), (1, .int v1), (2, .int v2), (3, .int 0), (4, .int v4), (5, .int (v5 + Int32.ofInt 1))]) d114_158 rfl rfl ?_
              refine R_br 110 d114_161 rfl rfl ?_
              exact ih.2.1 v1 v2 0 v4 (v5 + Int32.ofInt 1) s _ h
            · refine R_nb d114_149 rfl (mb_f (b := (¬ q5 = (0 : Int32))) c7) ?_
              refine R_ic (v := 1) d114_152 (by decide) ?_
              refine R_br 157 d114_153 rfl rfl ?_
              refine R_p (ls' := [(0, .ref 42), (1, .int v1), (2, .int v2), (3, .int 1), (4, .int v4), (5, .int v5)]) d114_157 rfl rfl ?_
              refine R_p (ls' := [(0, .ref 42), (1, .int v1), (2, .int v2), (3, .int 1), (4, .int v4), (5, .int (v5 + Int32.ofInt 1))]) d114_158 rfl rfl ?_
              refine R_br 110 d114_161 rfl rfl ?_
              exact ih.2.1 v1 v2 1 v4 (v5 + Int32.ofInt 1) s _ h
    · intro v1 v2 v3 v4 v5 s r h
      rw [r114, if_neg (by decide), if_neg (by decide)] at h
      refine R_p d114_179 rfl rfl ?_
      refine R_bi (v := 40) d114_181 (by decide) ?_
      rcases ite_some h with ⟨c1, h⟩ | ⟨c1, h⟩
      · refine R_br 224 d114_183 (mb_t (b := ((40 : Int32) ≤ v4)) c1) rfl ?_
        refine R_p d114_224 rfl rfl ?_
        refine R_p d114_225 rfl rfl ?_
        refine R_get d114_226 (Or.inl (List.mem_of_getElem? (i := 49) rfl)) (hg42 _ _) rfl ?_
        refine R_ic (v := 1) d114_229 (by decide) ?_
        refine R_p d114_230 rfl rfl ?_
        obtain ⟨s2, e3, h⟩ := pt_some h
        refine R_put d114_231 (List.mem_of_getElem? (i := 49) rfl) (hg42 _ _) (Nat.le_of_ble_eq_true rfl) rfl rfl (Or.inl rfl) ?_
        refine R_h (hp s2 ex) (by rw [e3]; exact hF15 _ _ _) ?_
        refine R_p d114_234 rfl rfl ?_
        refine R_ic (v := 0) d114_235 (by decide) ?_
        obtain ⟨s4, e5, h⟩ := pt_some h
        refine R_put d114_236 (List.mem_of_getElem? (i := 54) rfl) (hg42 _ _) (Nat.le_of_ble_eq_true rfl) (by decide) (by decide) (Or.inl rfl) ?_
        refine R_h (hp s4 ex) (by rw [e5]; exact hF16 _ _ _) ?_
        refine R_p d114_239 rfl rfl ?_
        refine R_get d114_240 (Or.inl (List.mem_of_getElem? (i := 49) rfl)) (hg42 _ _) rfl ?_
        refine R_ic (v := 1) d114_243 (by decide) ?_
        refine R_p d114_244 rfl rfl ?_
        cases h
        exact R_iret d114_245 rfl rfl rfl
      · refine R_nb d114_183 rfl (mb_f (b := ((40 : Int32) ≤ v4)) c1) ?_
        refine R_p d114_186 rfl rfl ?_
        refine R_get d114_187 (Or.inl (List.mem_of_getElem? (i := 52) rfl)) (hg42 _ _) rfl ?_
        refine R_bi (v := 40) d114_190 (by decide) ?_
        refine R_p d114_192 rfl rfl ?_
        refine R_get d114_193 (Or.inl (List.mem_of_getElem? (i := 49) rfl)) (hg42 _ _) rfl ?_
        refine R_p d114_196 rfl rfl ?_
        refine R_p d114_197 rfl rfl ?_
        refine R_p d114_199 rfl rfl ?_
        refine R_ic (v := 0) d114_200 (by decide) ?_
        obtain ⟨c6, h⟩ := rdI_some h
        obtain ⟨s7, e8, h⟩ := pt_some h
        refine R_zst d114_201 (hg45 _ _) c6 ?_
        refine R_h (hp s7 ex) (by rw [e8]; exact hA45 _ _ _) ?_
        refine R_p d114_202 rfl rfl ?_
        refine R_get d114_203 (Or.inl (List.mem_of_getElem? (i := 52) rfl)) (hg42 _ _) rfl ?_
        refine R_bi (v := 40) d114_206 (by decide) ?_
        refine R_p d114_208 rfl rfl ?_
        refine R_p d114_210 rfl rfl ?_
        refine R_p d114_211 rfl rfl ?_
        refine R_get d114_212 (Or.inl (List.mem_of_getElem? (i := 49) rfl)) (hg42 _ _) rfl ?_
        refine R_p d114_215 rfl rfl ?_
        refine R_ic (v := 0) d114_216 (by decide) ?_
        obtain ⟨c9, h⟩ := rdI_some h
        obtain ⟨s10, e11, h⟩ := pt_some h
        refine R_zst d114_217 (hg45 _ _) c9 ?_
        refine R_h (hp s10 ex) (by rw [e11]; exact hA45 _ _ _) ?_
        refine R_p (ls' := [(0, .ref 42), (1, .int v1), (2, .int v2), (3, .int v3), (4, .int (v4 + Int32.ofInt 1))]) d114_218 rfl rfl ?_
        refine R_br 179 d114_221 rfl rfl ?_
        exact ih.2.2 v1 v2 v3 (v4 + Int32.ofInt 1) 0 s10 _ h
def f114 (k : Nat) (v1 : Int32) (v2 : Int32) (s : mS) : Option (Int32 × mS) :=
  (f115 v1 v2 s).bind fun q1 => (if (¬ q1 = (0 : Int32)) then
    (if (¬ (s.2.2.1 15) = (40 : Int32)) then
      (f117 (0 : Int32) s).bind fun q5 => (if (q5.1 = (0 : Int32)) then
        rdI 42 (q5.2.2.2.1 15) (pt (uJ 43 (vp_updL (q5.2.2.1 43) (Int32.toNatClampNeg (q5.2.2.2.1 15)) (Int32.toInt64 v1)) q5.2) fun s9 => rdI 42 (s9.2.2.1 15) (pt (uJ 44 (vp_updL (s9.2.1 44) (Int32.toNatClampNeg (s9.2.2.1 15)) (Int32.toInt64 v2)) s9) fun s12 => r114 k 0 v1 v2 1 0 0 s12))
      else
        some ((0 : Int32), q5.2))
    else
      (f117 (2 : Int32) s).bind fun q14 => (if (q14.1 = (0 : Int32)) then
        rdI 42 (q14.2.2.2.1 15) (pt (uJ 43 (vp_updL (q14.2.2.1 43) (Int32.toNatClampNeg (q14.2.2.2.1 15)) (Int32.toInt64 v1)) q14.2) fun s18 => rdI 42 (s18.2.2.1 15) (pt (uJ 44 (vp_updL (s18.2.1 44) (Int32.toNatClampNeg (s18.2.2.1 15)) (Int32.toInt64 v2)) s18) fun s21 => r114 k 0 v1 v2 1 0 0 s21))
      else
        some ((0 : Int32), q14.2)))
  else
    (f117 (1 : Int32) s).bind fun q23 => (if (q23.1 = (0 : Int32)) then
      rdI 42 (q23.2.2.2.1 15) (pt (uJ 43 (vp_updL (q23.2.2.1 43) (Int32.toNatClampNeg (q23.2.2.2.1 15)) (Int32.toInt64 v1)) q23.2) fun s27 => rdI 42 (s27.2.2.1 15) (pt (uJ 44 (vp_updL (s27.2.1 44) (Int32.toNatClampNeg (s27.2.2.1 15)) (Int32.toInt64 v2)) s27) fun s30 => r114 k 0 v1 v2 1 0 0 s30))
    else
      some ((0 : Int32), q23.2)))
theorem t_f114 {S : mE} {ex : mHp} {k : Nat} {v1 : Int32} {v2 : Int32} {s : mS} {r : Int32 × mS} (h : f114 k v1 v2 s = some r) : Run S 114 (0, [(0, .ref 42), (1, .int v1), (2, .int v2)], [], hp s ex) (.inl (some (.int r.1)), hp r.2 ex) := by
  unfold f114 at h
  refine R_p d114_0 rfl rfl ?_
  refine R_p d114_1 rfl rfl ?_
  refine R_p d114_2 rfl rfl ?_
  obtain ⟨q1, e2, h⟩ := bd_some h
  refine R_cs [.int v1, .int v2] d114_3 (List.mem_of_getElem? (i := 162) rfl) rfl ⟨by decide, by decide, Nat.le_of_ble_eq_true rfl, rfl, mcd115⟩ rfl rfl (Nat.le_of_ble_eq_true rfl) (t_f115 e2) ?_
  rcases ite_some h with ⟨c3, h⟩ | ⟨c3, h⟩
  · refine R_br 13 d114_6 (mb_t (b := (¬ q1 = (0 : Int32))) c3) rfl ?_
    refine R_p d114_13 rfl rfl ?_
    refine R_get d114_14 (Or.inl (List.mem_of_getElem? (i := 49) rfl)) (hg42 _ _) rfl ?_
    refine R_bi (v := 40) d114_17 (by decide) ?_
    rcases ite_some h with ⟨c4, h⟩ | ⟨c4, h⟩
    · refine R_br 26 d114_19 (mb_t (b := (¬ (s.2.2.1 15) = (40 : Int32))) c4) rfl ?_
      refine R_ic (v := 0) d114_26 (by decide) ?_
      obtain ⟨q5, e6, h⟩ := bd_some h
      refine R_cm [.int 0] d114_27 (List.mem_of_getElem? (i := 164) rfl) rfl ⟨by decide, by decide, Nat.le_of_ble_eq_true rfl, rfl, mcd117⟩ rfl rfl (Nat.le_of_ble_eq_true rfl) (hg42 _ _) rfl (t_f117 e6) ?_
      rcases ite_some h with ⟨c7, h⟩ | ⟨c7, h⟩
      · refine R_br 35 d114_30 (mb_t (b := (q5.1 = (0 : Int32))) c7) rfl ?_
        refine R_p d114_35 rfl rfl ?_
        refine R_get d114_36 (Or.inl (List.mem_of_getElem? (i := 50) rfl)) (hg42 _ _) rfl ?_
        refine R_p d114_39 rfl rfl ?_
        refine R_get d114_40 (Or.inl (List.mem_of_getElem? (i := 49) rfl)) (hg42 _ _) rfl ?_
        refine R_p d114_43 rfl rfl ?_
        refine R_p d114_44 rfl rfl ?_
        obtain ⟨c8, h⟩ := rdI_some h
        obtain ⟨s9, e10, h⟩ := pt_some h
        refine R_lst d114_45 (hg43 _ _) c8 ?_
        refine R_h (hp s9 ex) (by rw [e10]; exact hA43 _ _ _) ?_
        refine R_p d114_46 rfl rfl ?_
        refine R_get d114_47 (Or.inl (List.mem_of_getElem? (i := 51) rfl)) (hg42 _ _) rfl ?_
        refine R_p d114_50 rfl rfl ?_
        refine R_get d114_51 (Or.inl (List.mem_of_getElem? (i := 49) rfl)) (hg42 _ _) rfl ?_
        refine R_p d114_54 rfl rfl ?_
        refine R_p d114_55 rfl rfl ?_
        obtain ⟨c11, h⟩ := rdI_some h
        obtain ⟨s12, e13, h⟩ := pt_some h
        refine R_lst d114_56 (hg44 _ _) c11 ?_
        refine R_h (hp s12 ex) (by rw [e13]; exact hA44 _ _ _) ?_
        refine R_ic (v := 1) d114_57 (by decide) ?_
        refine R_p (ls' := [(0, .ref 42), (1, .int v1), (2, .int v2), (3, .int 1)]) d114_58 rfl rfl ?_
        refine R_ic (v := 0) d114_59 (by decide) ?_
        refine R_p (ls' := [(0, .ref 42), (1, .int v1), (2, .int v2), (3, .int 1), (4, .int 0)]) d114_60 rfl rfl ?_
        exact (s114 (S := S) (ex := ex) k).1 v1 v2 1 0 0 s12 _ h
      · refine R_nb d114_30 rfl (mb_f (b := (q5.1 = (0 : Int32))) c7) ?_
        refine R_ic (v := 0) d114_33 (by decide) ?_
        cases h
        exact R_iret d114_34 rfl rfl rfl
    · refine R_nb d114_19 rfl (mb_f (b := (¬ (s.2.2.1 15) = (40 : Int32))) c4) ?_
      refine R_ic (v := 2) d114_22 (by decide) ?_
      refine R_br 27 d114_23 rfl rfl ?_
      obtain ⟨q14, e15, h⟩ := bd_some h
      refine R_cm [.int 2] d114_27 (List.mem_of_getElem? (i := 164) rfl) rfl ⟨by decide, by decide, Nat.le_of_ble_eq_true rfl, rfl, mcd117⟩ rfl rfl (Nat.le_of_ble_eq_true rfl) (hg42 _ _) rfl (t_f117 e15) ?_
      rcases ite_some h with ⟨c16, h⟩ | ⟨c16, h⟩
      · refine R_br 35 d114_30 (mb_t (b := (q14.1 = (0 : Int32))) c16) rfl ?_
        refine R_p d114_35 rfl rfl ?_
        refine R_get d114_36 (Or.inl (List.mem_of_getElem? (i := 50) rfl)) (hg42 _ _) rfl ?_
        refine R_p d114_39 rfl rfl ?_
        refine R_get d114_40 (Or.inl (List.mem_of_getElem? (i := 49) rfl)) (hg42 _ _) rfl ?_
        refine R_p d114_43 rfl rfl ?_
        refine R_p d114_44 rfl rfl ?_
        obtain ⟨c17, h⟩ := rdI_some h
        obtain ⟨s18, e19, h⟩ := pt_some h
        refine R_lst d114_45 (hg43 _ _) c17 ?_
        refine R_h (hp s18 ex) (by rw [e19]; exact hA43 _ _ _) ?_
        refine R_p d114_46 rfl rfl ?_
        refine R_get d114_47 (Or.inl (List.mem_of_getElem? (i := 51) rfl)) (hg42 _ _) rfl ?_
        refine R_p d114_50 rfl rfl ?_
        refine R_get d114_51 (Or.inl (List.mem_of_getElem? (i := 49) rfl)) (hg42 _ _) rfl ?_
        refine R_p d114_54 rfl rfl ?_
        refine R_p d114_55 rfl rfl ?_
        obtain ⟨c20, h⟩ := rdI_some h
        obtain ⟨s21, e22, h⟩ := pt_some h
        refine R_lst d114_56 (hg44 _ _) c20 ?_
        refine R_h (hp s21 ex) (by rw [e22]; exact hA44 _ _ _) ?_
        refine R_ic (v := 1) d114_57 (by decide) ?_
        refine R_p (ls' := [(0, .ref 42), (1, .int v1), (2, .int v2), (3, .int 1)]) d114_58 rfl rfl ?_
        refine R_ic (v := 0) d114_59 (by decide) ?_
        refine R_p (ls' := [(0, .ref 42), (1, .int v1), (2, .int v2), (3, .int 1), (4, .int 0)]) d114_60 rfl rfl ?_
        exact (s114 (S := S) (ex := ex) k).1 v1 v2 1 0 0 s21 _ h
      · refine R_nb d114_30 rfl (mb_f (b := (q14.1 = (0 : Int32))) c16) ?_
        refine R_ic (v := 0) d114_33 (by decide) ?_
        cases h
        exact R_iret d114_34 rfl rfl rfl
  · refine R_nb d114_6 rfl (mb_f (b := (¬ q1 = (0 : Int32))) c3) ?_
    refine R_ic (v := 1) d114_9 (by decide) ?_
    refine R_br 27 d114_10 rfl rfl ?_
    obtain ⟨q23, e24, h⟩ := bd_some h
    refine R_cm [.int 1] d114_27 (List.mem_of_getElem? (i := 164) rfl) rfl ⟨by decide, by decide, Nat.le_of_ble_eq_true rfl, rfl, mcd117⟩ rfl rfl (Nat.le_of_ble_eq_true rfl) (hg42 _ _) rfl (t_f117 e24) ?_
    rcases ite_some h with ⟨c25, h⟩ | ⟨c25, h⟩
    · refine R_br 35 d114_30 (mb_t (b := (q23.1 = (0 : Int32))) c25) rfl ?_
      refine R_p d114_35 rfl rfl ?_
      refine R_get d114_36 (Or.inl (List.mem_of_getElem? (i := 50) rfl)) (hg42 _ _) rfl ?_
      refine R_p d114_39 rfl rfl ?_
      refine R_get d114_40 (Or.inl (List.mem_of_getElem? (i := 49) rfl)) (hg42 _ _) rfl ?_
      refine R_p d114_43 rfl rfl ?_
      refine R_p d114_44 rfl rfl ?_
      obtain ⟨c26, h⟩ := rdI_some h
      obtain ⟨s27, e28, h⟩ := pt_some h
      refine R_lst d114_45 (hg43 _ _) c26 ?_
      refine R_h (hp s27 ex) (by rw [e28]; exact hA43 _ _ _) ?_
      refine R_p d114_46 rfl rfl ?_
      refine R_get d114_47 (Or.inl (List.mem_of_getElem? (i := 51) rfl)) (hg42 _ _) rfl ?_
      refine R_p d114_50 rfl rfl ?_
      refine R_get d114_51 (Or.inl (List.mem_of_getElem? (i := 49) rfl)) (hg42 _ _) rfl ?_
      refine R_p d114_54 rfl rfl ?_
      refine R_p d114_55 rfl rfl ?_
      obtain ⟨c29, h⟩ := rdI_some h
      obtain ⟨s30, e31, h⟩ := pt_some h
      refine R_lst d114_56 (hg44 _ _) c29 ?_
      refine R_h (hp s30 ex) (by rw [e31]; exact hA44 _ _ _) ?_
      refine R_ic (v := 1) d114_57 (by decide) ?_
      refine R_p (ls' := [(0, .ref 42), (1, .int v1), (2, .int v2), (3, .int 1)]) d114_58 rfl rfl ?_
      refine R_ic (v := 0) d114_59 (by decide) ?_
      refine R_p (ls' := [(0, .ref 42), (1, .int v1), (2, .int v2), (3, .int 1), (4, .int 0)]) d114_60 rfl rfl ?_
      exact (s114 (S := S) (ex := ex) k).1 v1 v2 1 0 0 s30 _ h
    · refine R_nb d114_30 rfl (mb_f (b := (q23.1 = (0 : Int32))) c25) ?_
      refine R_ic (v := 0) d114_33 (by decide) ?_
      cases h
      exact R_iret d114_34 rfl rfl rfl
def f122 (v1 : Int32) (s : mS) : Option (Int32) :=
  (f116 v1 (0 : Int32) ((s.2.2.1 15) - (1 : Int32)) s).bind fun q1 => rdB q1 (some q1)
theorem t_f122 {S : mE} {ex : mHp} {v1 : Int32} {s : mS} {r : Int32} (h : f122 v1 s = some r) : Run S 122 (0, [(0, .ref 42), (1, .int v1)], [], hp s ex) (.inl (some (.int r)), hp s ex) := by
  unfold f122 at h
  refine R_p d122_0 rfl rfl ?_
  refine R_ic (v := 0) d122_1 (by decide) ?_
  refine R_p d122_2 rfl rfl ?_
  refine R_get d122_3 (Or.inl (List.mem_of_getElem? (i := 49) rfl)) (hg42 _ _) rfl ?_
  refine R_ic (v := 1) d122_6 (by decide) ?_
  refine R_p d122_7 rfl rfl ?_
  obtain ⟨q1, e2, h⟩ := bd_some h
  refine R_cs [.int v1, .int 0, .int ((s.2.2.1 15) - (1 : Int32))] d122_8 (List.mem_of_getElem? (i := 163) rfl) rfl ⟨by decide, by decide, Nat.le_of_ble_eq_true rfl, rfl, mcd116⟩ rfl rfl (Nat.le_of_ble_eq_true rfl) (t_f116 e2) ?_
  obtain ⟨c3, h⟩ := rdB_some h
  cases h
  exact R_iret d122_11 rfl (nar_B c3) rfl
def f121 (v1 : Int32) (v2 : Int32) (s : mS) : Option (Int32) :=
  (f122 v1 s).bind fun q1 => (if (q1 = (0 : Int32)) then
    some (0 : Int32)
  else
    (f122 v2 s).bind fun q4 => (if (q4 = (0 : Int32)) then
      some (0 : Int32)
    else
      (if (v1 = v2) then
        some (0 : Int32)
      else
        some (1 : Int32))))
theorem t_f121 {S : mE} {ex : mHp} {v1 : Int32} {v2 : Int32} {s : mS} {r : Int32} (h : f121 v1 v2 s = some r) : Run S 121 (0, [(0, .ref 42), (1, .int v1), (2, .int v2)], [], hp s ex) (.inl (some (.int r)), hp s ex) := by
  unfold f121 at h
  refine R_p d121_0 rfl rfl ?_
  refine R_p d121_1 rfl rfl ?_
  obtain ⟨q1, e2, h⟩ := bd_some h
  refine R_cm [.int v1] d121_2 (List.mem_of_getElem? (i := 169) rfl) rfl ⟨by decide, by decide, Nat.le_of_ble_eq_true rfl, rfl, mcd122⟩ rfl rfl (Nat.le_of_ble_eq_true rfl) (hg42 _ _) rfl (t_f122 e2) ?_
  rcases ite_some h with ⟨c3, h⟩ | ⟨c3, h⟩
  · refine R_br 25 d121_5 (mb_t (b := (q1 = (0 : Int32))) c3) rfl ?_
    refine R_ic (v := 0) d121_25 (by decide) ?_
    cases h
    exact R_iret d121_26 rfl rfl rfl
  · refine R_nb d121_5 rfl (mb_f (b := (q1 = (0 : Int32))) c3) ?_
    refine R_p d121_8 rfl rfl ?_
    refine R_p d121_9 rfl rfl ?_
    obtain ⟨q4, e5, h⟩ := bd_some h
    refine R_cm [.int v2] d121_10 (List.mem_of_getElem? (i := 169) rfl) rfl ⟨by decide, by decide, Nat.le_of_ble_eq_true rfl, rfl, mcd122⟩ rfl rfl (Nat.le_of_ble_eq_true rfl) (hg42 _ _) rfl (t_f122 e5) ?_
    rcases ite_some h with ⟨c6, h⟩ | ⟨c6, h⟩
    · refine R_br 25 d121_13 (mb_t (b := (q4 = (0 : Int32))) c6) rfl ?_
      refine R_ic (v := 0) d121_25 (by decide) ?_
      cases h
      exact R_iret d121_26 rfl rfl rfl
    · refine R_nb d121_13 rfl (mb_f (b := (q4 = (0 : Int32))) c6) ?_
      refine R_p d121_16 rfl rfl ?_
      refine R_p d121_17 rfl rfl ?_
      rcases ite_some h with ⟨c7, h⟩ | ⟨c7, h⟩
      · refine R_br 25 d121_18 (mb_t (b := (v1 = v2)) c7) rfl ?_
        refine R_ic (v := 0) d121_25 (by decide) ?_
        cases h
        exact R_iret d121_26 rfl rfl rfl
      · refine R_nb d121_18 rfl (mb_f (b := (v1 = v2)) c7) ?_
        refine R_ic (v := 1) d121_21 (by decide) ?_
        refine R_br 26 d121_22 rfl rfl ?_
        cases h
        exact R_iret d121_26 rfl rfl rfl
def f124 (v1 : Int32) (v2 : Int32) (v3 : Int32) (v4 : Int32) (s : mS) : Option (Int32) :=
  (f119 v1 v2 v3 s).bind fun q1 => (f119 v1 v2 v4 s).bind fun q3 => (if ((0 : Int32) ≤ (q1 * q3)) then
    some (0 : Int32)
  else
    (f119 v3 v4 v1 s).bind fun q6 => (f119 v3 v4 v2 s).bind fun q8 => (if ((0 : Int32) ≤ (q6 * q8)) then
      some (0 : Int32)
    else
      some (1 : Int32)))
theorem t_f124 {S : mE} {ex : mHp} {v1 : Int32} {v2 : Int32} {v3 : Int32} {v4 : Int32} {s : mS} {r : Int32} (h : f124 v1 v2 v3 v4 s = some r) : Run S 124 (0, [(0, .ref 42), (1, .int v1), (2, .int v2), (3, .int v3), (4, .int v4)], [], hp s ex) (.inl (some (.int r)), hp s ex) := by
  unfold f124 at h
  refine R_p d124_0 rfl rfl ?_
  refine R_p d124_1 rfl rfl ?_
  refine R_p d124_2 rfl rfl ?_
  refine R_p d124_3 rfl rfl ?_
  obtain ⟨q1, e2, h⟩ := bd_some h
  refine R_cm [.int v1, .int v2, .int v3] d124_4 (List.mem_of_getElem? (i := 166) rfl) rfl ⟨by decide, by decide, Nat.le_of_ble_eq_true rfl, rfl, mcd119⟩ rfl rfl (Nat.le_of_ble_eq_true rfl) (hg42 _ _) rfl (t_f119 e2) ?_
  refine R_p d124_7 rfl rfl ?_
  refine R_p d124_8 rfl rfl ?_
  refine R_p d124_9 rfl rfl ?_
  refine R_p d124_10 rfl rfl ?_
  obtain ⟨q3, e4, h⟩ := bd_some h
  refine R_cm [.int v1, .int v2, .int v4] d124_12 (List.mem_of_getElem? (i := 166) rfl) rfl ⟨by decide, by decide, Nat.le_of_ble_eq_true rfl, rfl, mcd119⟩ rfl rfl (Nat.le_of_ble_eq_true rfl) (hg42 _ _) rfl (t_f119 e4) ?_
  refine R_p d124_15 rfl rfl ?_
  rcases ite_some h with ⟨c5, h⟩ | ⟨c5, h⟩
  · refine R_br 43 d124_16 (mb_t (b := ((0 : Int32) ≤ (q1 * q3))) c5) rfl ?_
    refine R_ic (v := 0) d124_43 (by decide) ?_
    cases h
    exact R_iret d124_44 rfl rfl rfl
  · refine R_nb d124_16 rfl (mb_f (b := ((0 : Int32) ≤ (q1 * q3))) c5) ?_
    refine R_p d124_19 rfl rfl ?_
    refine R_p d124_20 rfl rfl ?_
    refine R_p d124_21 rfl rfl ?_
    refine R_p d124_23 rfl rfl ?_
    obtain ⟨q6, e7, h⟩ := bd_some h
    refine R_cm [.int v3, .int v4, .int v1] d124_24 (List.mem_of_getElem? (i := 166) rfl) rfl ⟨by decide, by decide, Nat.le_of_ble_eq_true rfl, rfl, mcd119⟩ rfl rfl (Nat.le_of_ble_eq_true rfl) (hg42 _ _) rfl (t_f119 e7) ?_
    refine R_p d124_27 rfl rfl ?_
    refine R_p d124_28 rfl rfl ?_
    refine R_p d124_29 rfl rfl ?_
    refine R_p d124_31 rfl rfl ?_
    obtain ⟨q8, e9, h⟩ := bd_some h
    refine R_cm [.int v3, .int v4, .int v2] d124_32 (List.mem_of_getElem? (i := 166) rfl) rfl ⟨by decide, by decide, Nat.le_of_ble_eq_true rfl, rfl, mcd119⟩ rfl rfl (Nat.le_of_ble_eq_true rfl) (hg42 _ _) rfl (t_f119 e9) ?_
    refine R_p d124_35 rfl rfl ?_
    rcases ite_some h with ⟨c10, h⟩ | ⟨c10, h⟩
    · refine R_br 43 d124_36 (mb_t (b := ((0 : Int32) ≤ (q6 * q8))) c10) rfl ?_
      refine R_ic (v := 0) d124_43 (by decide) ?_
      cases h
      exact R_iret d124_44 rfl rfl rfl
    · refine R_nb d124_36 rfl (mb_f (b := ((0 : Int32) ≤ (q6 * q8))) c10) ?_
      refine R_ic (v := 1) d124_39 (by decide) ?_
      refine R_br 44 d124_40 rfl rfl ?_
      cases h
      exact R_iret d124_44 rfl rfl rfl
def r123_42_45 : Nat → Nat → Int32 → Int32 → Int32 → Int32 → mS → Option (Int32)
  | 0, _, _, _, _, _, _ => none
  | k + 1, hd, v1, v2, v4, v5, s =>
    if hd = 0 then (if ((s.2.2.1 15) ≤ v4) then
        some (1 : Int32)
      else
        (if (v4 = v1) then
          r123_42_45 k 1 v1 v2 v4 0 s
        else
          (if (v4 = v2) then
            r123_42_45 k 1 v1 v2 v4 0 s
          else
            (f118 v1 v2 v4 s).bind fun q4 => (if (q4 = (0 : Int32)) then
              r123_42_45 k 1 v1 v2 v4 0 s
            else
              some (0 : Int32))))) else
    (if (v4 ≤ v5) then
        r123_42_45 k 0 v1 v2 (v4 + Int32.ofInt 1) 0 s
      else
        rdI 1600 (((40 : Int32) * v4) + v5) ((if ((s.1 45 (Int32.toNatClampNeg (((40 : Int32) * v4) + v5))) = (0 : Int32)) then
          r123_42_45 k 1 v1 v2 v4 (v5 + Int32.ofInt 1) s
        else
          (f124 v1 v2 v4 v5 s).bind fun q4 => (if (q4 = (0 : Int32)) then
            r123_42_45 k 1 v1 v2 v4 (v5 + Int32.ofInt 1) s
          else
            some (0 : Int32)))))
theorem s123_42_45 {S : mE} {ex : mHp} (k : Nat) : (∀ (v1 : Int32) (v2 : Int32) (v4 : Int32) (v5 : Int32) (s : mS) (r : Int32), r123_42_45 k 0 v1 v2 v4 v5 s = some r → Run S 123 (3, [(0, .ref 42), (1, .int v1), (2, .int v2), (3, .ref 45), (4, .int v4)], [], hp s ex) (.inl (some (.int r)), hp s ex)) ∧ (∀ (v1 : Int32) (v2 : Int32) (v4 : Int32) (v5 : Int32) (s : mS) (r : Int32), r123_42_45 k 1 v1 v2 v4 v5 s = some r → Run S 123 (40, [(0, .ref 42), (1, .int v1), (2, .int v2), (3, .ref 45), (4, .int v4), (5, .int v5)], [], hp s ex) (.inl (some (.int r)), hp s ex)) := by
  induction k with
  | zero => refine ⟨?_, ?_⟩ <;> (intro v1 v2 v4 v5 s r h; cases h)
  | succ k ih =>
    refine ⟨?_, ?_⟩
    · intro v1 v2 v4 v5 s r h
      rw [r123_42_45, if_pos rfl] at h
      refine R_p d123_3 rfl rfl ?_
      refine R_p d123_5 rfl rfl ?_
      refine R_get d123_6 (Or.inl (List.mem_of_getElem? (i := 49) rfl)) (hg42 _ _) rfl ?_
      rcases ite_some h with ⟨c1, h⟩ | ⟨c1, h⟩
      · refine R_br 87 d123_9 (mb_t (b := ((s.2.2.1 15) ≤ v4)) c1) rfl ?_
        refine R_ic (v := 1) d123_87 (by decide) ?_
        cases h
        exact R_iret d123_88 rfl rfl rfl
      · refine R_nb d123_9 rfl (mb_f (b := ((s.2.2.1 15) ≤ v4)) c1) ?_
        refine R_p d123_12 rfl rfl ?_
        refine R_p d123_14 rfl rfl ?_
        rcases ite_some h with ⟨c2, h⟩ | ⟨c2, h⟩
        · refine R_br 37 d123_15 (mb_t (b := (v4 = v1)) c2) rfl ?_
          refine R_ic (v := 0) d123_37 (by decide) ?_
          refine R_p (ls' := [(0, .ref 42), (1, .int v1), (2, .int v2), (3, .ref 45), (4, .int v4), (5, .int 0)]) d123_38 rfl rfl ?_
          exact ih.2 v1 v2 v4 0 s _ h
        · refine R_nb d123_15 rfl (mb_f (b := (v4 = v1)) c2) ?_
          refine R_p d123_18 rfl rfl ?_
          refine R_p d123_20 rfl rfl ?_
          rcases ite_some h with ⟨c3, h⟩ | ⟨c3, h⟩
          · refine R_br 37 d123_21 (mb_t (b := (v4 = v2)) c3) rfl ?_
            refine R_ic (v := 0) d123_37 (by decide) ?_
            refine R_p (ls' := [(0, .ref 42), (1, .int v1), (2, .int v2), (3, .ref 45), (4, .int v4), (5, .int 0)]) d123_38 rfl rfl ?_
            exact ih.2 v1 v2 v4 0 s _ h
          · refine R_nb d123_21 rfl (mb_f (b := (v4 = v2)) c3) ?_
            refine R_p d123_24 rfl rfl ?_
            refine R_p d123_25 rfl rfl ?_
            refine R_p d123_26 rfl rfl ?_
            refine R_p d123_27 rfl rfl ?_
            obtain ⟨q4, e5, h⟩ := bd_some h
            refine R_cm [.int v1, .int v2, .int v4] d123_29 (List.mem_of_getElem? (i := 165) rfl) rfl ⟨by decide, by decide, Nat.le_of_ble_eq_true rfl, rfl, mcd118⟩ rfl rfl (Nat.le_of_ble_eq_true rfl) (hg42 _ _) rfl (t_f118 e5) ?_
            rcases ite_some h with ⟨c6, h⟩ | ⟨c6, h⟩
            · refine R_br 37 d123_32 (mb_t (b := (q4 = (0 : Int32))) c6) rfl ?_
              refine R_ic (v := 0) d123_37 (by decide) ?_
              refine R_p (ls' := [(0, .ref 42), (1, .int v1), (2, .int v2), (3, .ref 45), (4, .int v4), (5, .int 0)]) d123_38 rfl rfl ?_
              exact ih.2 v1 v2 v4 0 s _ h
            · refine R_nb d123_32 rfl (mb_f (b := (q4 = (0 : Int32))) c6) ?_
              refine R_ic (v := 0) d123_35 (by decide) ?_
              cases h
              exact R_iret d123_36 rfl rfl rfl
    · intro v1 v2 v4 v5 s r h
      rw [r123_42_45, if_neg (by decide)] at h
      refine R_p d123_40 rfl rfl ?_
      refine R_p d123_42 rfl rfl ?_
      rcases ite_some h with ⟨c1, h⟩ | ⟨c1, h⟩
      · refine R_br 81 d123_44 (mb_t (b := (v4 ≤ v5)) c1) rfl ?_
        refine R_p (ls' := [(0, .ref 42), (1, .int v1), (2, .int v2), (3, .ref 45), (4, .int (v4 + Int32.ofInt 1)), (5, .int v5)]) d123_81 rfl rfl ?_
        refine R_br 3 d123_84 rfl rfl ?_
        exact R_wk [(0, .ref 42), (1, .int v1), (2, .int v2), (3, .ref 45), (4, .int (v4 + Int32.ofInt 1))] (by simp) (ih.1 v1 v2 (v4 + Int32.ofInt 1) 0 s _ h)
      · refine R_nb d123_44 rfl (mb_f (b := (v4 ≤ v5)) c1) ?_
        refine R_p d123_47 rfl rfl ?_
        refine R_bi (v := 40) d123_48 (by decide) ?_
        refine R_p d123_50 rfl rfl ?_
        refine R_p d123_52 rfl rfl ?_
        refine R_p d123_53 rfl rfl ?_
        refine R_p d123_55 rfl rfl ?_
        obtain ⟨c2, h⟩ := rdI_some h
        refine R_zld d123_56 (hg45 _ _) c2 ?_
        rcases ite_some h with ⟨c3, h⟩ | ⟨c3, h⟩
        · refine R_br 75 d123_57 (mb_t (b := ((s.1 45 (Int32.toNatClampNeg (((40 : Int32) * v4) + v5))) = (0 : Int32))) c3) rfl ?_
          refine R_p (ls' := [(0, .ref 42), (1, .int v1), (2, .int v2), (3, .ref 45), (4, .int v4), (5, .int (v5 + Int32.ofInt 1))]) d123_75 rfl rfl ?_
          refine R_br 40 d123_78 rfl rfl ?_
          exact ih.2 v1 v2 v4 (v5 + Int32.ofInt 1) s _ h
        · refine R_nb d123_57 rfl (mb_f (b := ((s.1 45 (Int32.toNatClampNeg (((40 : Int32) * v4) + v5))) = (0 : Int32))) c3) ?_
          refine R_p d123_60 rfl rfl ?_
          refine R_p d123_61 rfl rfl ?_
          refine R_p d123_62 rfl rfl ?_
          refine R_p d123_63 rfl rfl ?_
          refine R_p d123_65 rfl rfl ?_
          obtain ⟨q4, e5, h⟩ := bd_some h
          refine R_cm [.int v1, .int v2, .int v4, .int v5] d123_67 (List.mem_of_getElem? (i := 171) rfl) rfl ⟨by decide, by decide, Nat.le_of_ble_eq_true rfl, rfl, mcd124⟩ rfl rfl (Nat.le_of_ble_eq_true rfl) (hg42 _ _) rfl (t_f124 e5) ?_
          rcases ite_some h with ⟨c6, h⟩ | ⟨c6, h⟩
          · refine R_br 75 d123_70 (mb_t (b := (q4 = (0 : Int32))) c6) rfl ?_
            refine R_p (ls' := [(0, .ref 42), (1, .int v1), (2, .int v2), (3, .ref 45), (4, .int v4), (5, .int (v5 + Int32.ofInt 1))]) d123_75 rfl rfl ?_
            refine R_br 40 d123_78 rfl rfl ?_
            exact ih.2 v1 v2 v4 (v5 + Int32.ofInt 1) s _ h
          · refine R_nb d123_70 rfl (mb_f (b := (q4 = (0 : Int32))) c6) ?_
            refine R_ic (v := 0) d123_73 (by decide) ?_
            cases h
            exact R_iret d123_74 rfl rfl rfl
def f123_42_45 (k : Nat) (v1 : Int32) (v2 : Int32) (s : mS) : Option (Int32) :=
  r123_42_45 k 0 v1 v2 0 0 s
theorem t_f123_42_45 {S : mE} {ex : mHp} {k : Nat} {v1 : Int32} {v2 : Int32} {s : mS} {r : Int32} (h : f123_42_45 k v1 v2 s = some r) : Run S 123 (0, [(0, .ref 42), (1, .int v1), (2, .int v2), (3, .ref 45)], [], hp s ex) (.inl (some (.int r)), hp s ex) := by
  unfold f123_42_45 at h
  refine R_ic (v := 0) d123_0 (by decide) ?_
  refine R_p (ls' := [(0, .ref 42), (1, .int v1), (2, .int v2), (3, .ref 45), (4, .int 0)]) d123_1 rfl rfl ?_
  exact (s123_42_45 (S := S) (ex := ex) k).1 v1 v2 0 0 s _ h
def f120 (k : Nat) (v1 : Int32) (v2 : Int32) (s : mS) : Option (Int32 × mS) :=
  (f121 v1 v2 s).bind fun q1 => (if (q1 = (0 : Int32)) then
    (f117 (1 : Int32) s).bind fun q4 => (if (q4.1 = (0 : Int32)) then
      rdI 1600 (((40 : Int32) * v1) + v2) ((if (¬ (q4.2.1 45 (Int32.toNatClampNeg (((40 : Int32) * v1) + v2))) = (0 : Int32)) then
        rdI 1600 (((40 : Int32) * v1) + v2) (pt (uA 45 (upd (q4.2.1 45) (Int32.toNatClampNeg (((40 : Int32) * v1) + v2)) (vp_nar .boolean 1)) q4.2) fun s10 => rdI 1600 (((40 : Int32) * v2) + v1) (pt (uA 45 (upd (s10.1 45) (Int32.toNatClampNeg (((40 : Int32) * v2) + v1)) (vp_nar .boolean 1)) s10) fun s13 => pt (uF 16 (0 : Int32) s13) fun s15 => some ((1 : Int32), s15)))
      else
        (f123_42_45 k v1 v2 q4.2).bind fun q17 => (if (¬ q17 = (0 : Int32)) then
          rdI 1600 (((40 : Int32) * v1) + v2) (pt (uA 45 (upd (q4.2.1 45) (Int32.toNatClampNeg (((40 : Int32) * v1) + v2)) (vp_nar .boolean 1)) q4.2) fun s21 => rdI 1600 (((40 : Int32) * v2) + v1) (pt (uA 45 (upd (s21.1 45) (Int32.toNatClampNeg (((40 : Int32) * v2) + v1)) (vp_nar .boolean 1)) s21) fun s24 => pt (uF 16 (0 : Int32) s24) fun s26 => some ((1 : Int32), s26)))
        else
          some ((0 : Int32), q4.2))))
    else
      some ((0 : Int32), q4.2))
  else
    (f117 (0 : Int32) s).bind fun q28 => (if (q28.1 = (0 : Int32)) then
      rdI 1600 (((40 : Int32) * v1) + v2) ((if (¬ (q28.2.1 45 (Int32.toNatClampNeg (((40 : Int32) * v1) + v2))) = (0 : Int32)) then
        rdI 1600 (((40 : Int32) * v1) + v2) (pt (uA 45 (upd (q28.2.1 45) (Int32.toNatClampNeg (((40 : Int32) * v1) + v2)) (vp_nar .boolean 1)) q28.2) fun s34 => rdI 1600 (((40 : Int32) * v2) + v1) (pt (uA 45 (upd (s34.1 45) (Int32.toNatClampNeg (((40 : Int32) * v2) + v1)) (vp_nar .boolean 1)) s34) fun s37 => pt (uF 16 (0 : Int32) s37) fun s39 => some ((1 : Int32), s39)))
      else
        (f123_42_45 k v1 v2 q28.2).bind fun q41 => (if (¬ q41 = (0 : Int32)) then
          rdI 1600 (((40 : Int32) * v1) + v2) (pt (uA 45 (upd (q28.2.1 45) (Int32.toNatClampNeg (((40 : Int32) * v1) + v2)) (vp_nar .boolean 1)) q28.2) fun s45 => rdI 1600 (((40 : Int32) * v2) + v1) (pt (uA 45 (upd (s45.1 45) (Int32.toNatClampNeg (((40 : Int32) * v2) + v1)) (vp_nar .boolean 1)) s45) fun s48 => pt (uF 16 (0 : Int32) s48) fun s50 => some ((1 : Int32), s50)))
        else
          some ((0 : Int32), q28.2))))
    else
      some ((0 : Int32), q28.2)))
theorem t_f120 {S : mE} {ex : mHp} {k : Nat} {v1 : Int32} {v2 : Int32} {s : mS} {r : Int32 × mS} (h : f120 k v1 v2 s = some r) : Run S 120 (0, [(0, .ref 42), (1, .int v1), (2, .int v2)], [], hp s ex) (.inl (some (.int r.1)), hp r.2 ex) := by
  unfold f120 at h
  refine R_p d120_0 rfl rfl ?_
  refine R_p d120_1 rfl rfl ?_
  refine R_p d120_2 rfl rfl ?_
  refine R_p d120_3 rfl rfl ?_
  obtain ⟨q1, e2, h⟩ := bd_some h
  refine R_cm [.int v1, .int v2] d120_4 (List.mem_of_getElem? (i := 168) rfl) rfl ⟨by decide, by decide, Nat.le_of_ble_eq_true rfl, rfl, mcd121⟩ rfl rfl (Nat.le_of_ble_eq_true rfl) (hg42 _ _) rfl (t_f121 e2) ?_
  rcases ite_some h with ⟨c3, h⟩ | ⟨c3, h⟩
  · refine R_br 14 d120_7 (mb_t (b := (q1 = (0 : Int32))) c3) rfl ?_
    refine R_ic (v := 1) d120_14 (by decide) ?_
    obtain ⟨q4, e5, h⟩ := bd_some h
    refine R_cm [.int 1] d120_15 (List.mem_of_getElem? (i := 164) rfl) rfl ⟨by decide, by decide, Nat.le_of_ble_eq_true rfl, rfl, mcd117⟩ rfl rfl (Nat.le_of_ble_eq_true rfl) (hg42 _ _) rfl (t_f117 e5) ?_
    rcases ite_some h with ⟨c6, h⟩ | ⟨c6, h⟩
    · refine R_br 23 d120_18 (mb_t (b := (q4.1 = (0 : Int32))) c6) rfl ?_
      refine R_p d120_23 rfl rfl ?_
      refine R_get d120_24 (Or.inl (List.mem_of_getElem? (i := 52) rfl)) (hg42 _ _) rfl ?_
      refine R_bi (v := 40) d120_27 (by decide) ?_
      refine R_p d120_29 rfl rfl ?_
      refine R_p d120_30 rfl rfl ?_
      refine R_p d120_31 rfl rfl ?_
      refine R_p d120_32 rfl rfl ?_
      obtain ⟨c7, h⟩ := rdI_some h
      refine R_zld d120_33 (hg45 _ _) c7 ?_
      rcases ite_some h with ⟨c8, h⟩ | ⟨c8, h⟩
      · refine R_br 52 d120_34 (mb_t (b := (¬ (q4.2.1 45 (Int32.toNatClampNeg (((40 : Int32) * v1) + v2))) = (0 : Int32))) c8) rfl ?_
        refine R_p d120_52 rfl rfl ?_
        refine R_get d120_53 (Or.inl (List.mem_of_getElem? (i := 52) rfl)) (hg42 _ _) rfl ?_
        refine R_bi (v := 40) d120_56 (by decide) ?_
        refine R_p d120_58 rfl rfl ?_
        refine R_p d120_59 rfl rfl ?_
        refine R_p d120_60 rfl rfl ?_
        refine R_p d120_61 rfl rfl ?_
        refine R_ic (v := 1) d120_62 (by decide) ?_
        obtain ⟨c9, h⟩ := rdI_some h
        obtain ⟨s10, e11, h⟩ := pt_some h
        refine R_zst d120_63 (hg45 _ _) c9 ?_
        refine R_h (hp s10 ex) (by rw [e11]; exact hA45 _ _ _) ?_
        refine R_p d120_64 rfl rfl ?_
        refine R_get d120_65 (Or.inl (List.mem_of_getElem? (i := 52) rfl)) (hg42 _ _) rfl ?_
        refine R_bi (v := 40) d120_68 (by decide) ?_
        refine R_p d120_70 rfl rfl ?_
        refine R_p d120_71 rfl rfl ?_
        refine R_p d120_72 rfl rfl ?_
        refine R_p d120_73 rfl rfl ?_
        refine R_ic (v := 1) d120_74 (by decide) ?_
        obtain ⟨c12, h⟩ := rdI_some h
        obtain ⟨s13, e14, h⟩ := pt_some h
        refine R_zst d120_75 (hg45 _ _) c12 ?_
        refine R_h (hp s13 ex) (by rw [e14]; exact hA45 _ _ _) ?_
        refine R_p d120_76 rfl rfl ?_
        refine R_ic (v := 0) d120_77 (by decide) ?_
        obtain ⟨s15, e16, h⟩ := pt_some h
        refine R_put d120_78 (List.mem_of_getElem? (i := 54) rfl) (hg42 _ _) (Nat.le_of_ble_eq_true rfl) (by decide) (by decide) (Or.inl rfl) ?_
        refine R_h (hp s15 ex) (by rw [e16]; exact hF16 _ _ _) ?_
        refine R_ic (v := 1) d120_81 (by decide) ?_
        cases h
        exact R_iret d120_82 rfl rfl rfl
      · refine R_nb d120_34 rfl (mb_f (b := (¬ (q4.2.1 45 (Int32.toNatClampNeg (((40 : Int32) * v1) + v2))) = (0 : Int32))) c8) ?_
        refine R_p d120_37 rfl rfl ?_
        refine R_p d120_38 rfl rfl ?_
        refine R_p d120_39 rfl rfl ?_
        refine R_p d120_40 rfl rfl ?_
        refine R_get d120_41 (Or.inl (List.mem_of_getElem? (i := 52) rfl)) (hg42 _ _) rfl ?_
        obtain ⟨q17, e18, h⟩ := bd_some h
        refine R_cm [.int v1, .int v2, .ref 45] d120_44 (List.mem_of_getElem? (i := 170) rfl) rfl ⟨by decide, by decide, Nat.le_of_ble_eq_true rfl, rfl, mcd123⟩ rfl rfl (Nat.le_of_ble_eq_true rfl) (hg42 _ _) rfl (t_f123_42_45 e18) ?_
        rcases ite_some h with ⟨c19, h⟩ | ⟨c19, h⟩
        · refine R_br 52 d120_47 (mb_t (b := (¬ q17 = (0 : Int32))) c19) rfl ?_
          refine R_p d120_52 rfl rfl ?_
          refine R_get d120_53 (Or.inl (List.mem_of_getElem? (i := 52) rfl)) (hg42 _ _) rfl ?_
          refine R_bi (v := 40) d120_56 (by decide) ?_
          refine R_p d120_58 rfl rfl ?_
          refine R_p d120_59 rfl rfl ?_
          refine R_p d120_60 rfl rfl ?_
          refine R_p d120_61 rfl rfl ?_
          refine R_ic (v := 1) d120_62 (by decide) ?_
          obtain ⟨c20, h⟩ := rdI_some h
          obtain ⟨s21, e22, h⟩ := pt_some h
          refine R_zst d120_63 (hg45 _ _) c20 ?_
          refine R_h (hp s21 ex) (by rw [e22]; exact hA45 _ _ _) ?_
          refine R_p d120_64 rfl rfl ?_
          refine R_get d120_65 (Or.inl (List.mem_of_getElem? (i := 52) rfl)) (hg42 _ _) rfl ?_
          refine R_bi (v := 40) d120_68 (by decide) ?_
          refine R_p d120_70 rfl rfl ?_
          refine R_p d120_71 rfl rfl ?_
          refine R_p d120_72 rfl rfl ?_
          refine R_p d120_73 rfl rfl ?_
          refine R_ic (v := 1) d120_74 (by decide) ?_
          obtain ⟨c23, h⟩ := rdI_some h
          obtain ⟨s24, e25, h⟩ := pt_some h
          refine R_zst d120_75 (hg45 _ _) c23 ?_
          refine R_h (hp s24 ex) (by rw [e25]; exact hA45 _ _ _) ?_
          refine R_p d120_76 rfl rfl ?_
          refine R_ic (v := 0) d120_77 (by decide) ?_
          obtain ⟨s26, e27, h⟩ := pt_some h
          refine R_put d120_78 (List.mem_of_getElem? (i := 54) rfl) (hg42 _ _) (Nat.le_of_ble_eq_true rfl) (by decide) (by decide) (Or.inl rfl) ?_
          refine R_h (hp s26 ex) (by rw [e27]; exact hF16 _ _ _) ?_
          refine R_ic (v := 1) d120_81 (by decide) ?_
          cases h
          exact R_iret d120_82 rfl rfl rfl
        · refine R_nb d120_47 rfl (mb_f (b := (¬ q17 = (0 : Int32))) c19) ?_
          refine R_ic (v := 0) d120_50 (by decide) ?_
          cases h
          exact R_iret d120_51 rfl rfl rfl
    · refine R_nb d120_18 rfl (mb_f (b := (q4.1 = (0 : Int32))) c6) ?_
      refine R_ic (v := 0) d120_21 (by decide) ?_
      cases h
      exact R_iret d120_22 rfl rfl rfl
  · refine R_nb d120_7 rfl (mb_f (b := (q1 = (0 : Int32))) c3) ?_
    refine R_ic (v := 0) d120_10 (by decide) ?_
    refine R_br 15 d120_11 rfl rfl ?_
    obtain ⟨q28, e29, h⟩ := bd_some h
    refine R_cm [.int 0] d120_15 (List.mem_of_getElem? (i := 164) rfl) rfl ⟨by decide, by decide, Nat.le_of_ble_eq_true rfl, rfl, mcd117⟩ rfl rfl (Nat.le_of_ble_eq_true rfl) (hg42 _ _) rfl (t_f117 e29) ?_
    rcases ite_some h with ⟨c30, h⟩ | ⟨c30, h⟩
    · refine R_br 23 d120_18 (mb_t (b := (q28.1 = (0 : Int32))) c30) rfl ?_
      refine R_p d120_23 rfl rfl ?_
      refine R_get d120_24 (Or.inl (List.mem_of_getElem? (i := 52) rfl)) (hg42 _ _) rfl ?_
      refine R_bi (v := 40) d120_27 (by decide) ?_
      refine R_p d120_29 rfl rfl ?_
      refine R_p d120_30 rfl rfl ?_
      refine R_p d120_31 rfl rfl ?_
      refine R_p d120_32 rfl rfl ?_
      obtain ⟨c31, h⟩ := rdI_some h
      refine R_zld d120_33 (hg45 _ _) c31 ?_
      rcases ite_some h with ⟨c32, h⟩ | ⟨c32, h⟩
      · refine R_br 52 d120_34 (mb_t (b := (¬ (q28.2.1 45 (Int32.toNatClampNeg (((40 : Int32) * v1) + v2))) = (0 : Int32))) c32) rfl ?_
        refine R_p d120_52 rfl rfl ?_
        refine R_get d120_53 (Or.inl (List.mem_of_getElem? (i := 52) rfl)) (hg42 _ _) rfl ?_
        refine R_bi (v := 40) d120_56 (by decide) ?_
        refine R_p d120_58 rfl rfl ?_
        refine R_p d120_59 rfl rfl ?_
        refine R_p d120_60 rfl rfl ?_
        refine R_p d120_61 rfl rfl ?_
        refine R_ic (v := 1) d120_62 (by decide) ?_
        obtain ⟨c33, h⟩ := rdI_some h
        obtain ⟨s34, e35, h⟩ := pt_some h
        refine R_zst d120_63 (hg45 _ _) c33 ?_
        refine R_h (hp s34 ex) (by rw [e35]; exact hA45 _ _ _) ?_
        refine R_p d120_64 rfl rfl ?_
        refine R_get d120_65 (Or.inl (List.mem_of_getElem? (i := 52) rfl)) (hg42 _ _) rfl ?_
        refine R_bi (v := 40) d120_68 (by decide) ?_
        refine R_p d120_70 rfl rfl ?_
        refine R_p d120_71 rfl rfl ?_
        refine R_p d120_72 rfl rfl ?_
        refine R_p d120_73 rfl rfl ?_
        refine R_ic (v := 1) d120_74 (by decide) ?_
        obtain ⟨c36, h⟩ := rdI_some h
        obtain ⟨s37, e38, h⟩ := pt_some h
        refine R_zst d120_75 (hg45 _ _) c36 ?_
        refine R_h (hp s37 ex) (by rw [e38]; exact hA45 _ _ _) ?_
        refine R_p d120_76 rfl rfl ?_
        refine R_ic (v := 0) d120_77 (by decide) ?_
        obtain ⟨s39, e40, h⟩ := pt_some h
        refine R_put d120_78 (List.mem_of_getElem? (i := 54) rfl) (hg42 _ _) (Nat.le_of_ble_eq_true rfl) (by decide) (by decide) (Or.inl rfl) ?_
        refine R_h (hp s39 ex) (by rw [e40]; exact hF16 _ _ _) ?_
        refine R_ic (v := 1) d120_81 (by decide) ?_
        cases h
        exact R_iret d120_82 rfl rfl rfl
      · refine R_nb d120_34 rfl (mb_f (b := (¬ (q28.2.1 45 (Int32.toNatClampNeg (((40 : Int32) * v1) + v2))) = (0 : Int32))) c32) ?_
        refine R_p d120_37 rfl rfl ?_
        refine R_p d120_38 rfl rfl ?_
        refine R_p d120_39 rfl rfl ?_
        refine R_p d120_40 rfl rfl ?_
        refine R_get d120_41 (Or.inl (List.mem_of_getElem? (i := 52) rfl)) (hg42 _ _) rfl ?_
        obtain ⟨q41, e42, h⟩ := bd_some h
        refine R_cm [.int v1, .int v2, .ref 45] d120_44 (List.mem_of_getElem? (i := 170) rfl) rfl ⟨by decide, by decide, Nat.le_of_ble_eq_true rfl, rfl, mcd123⟩ rfl rfl (Nat.le_of_ble_eq_true rfl) (hg42 _ _) rfl (t_f123_42_45 e42) ?_
        rcases ite_some h with ⟨c43, h⟩ | ⟨c43, h⟩
        · refine R_br 52 d120_47 (mb_t (b := (¬ q41 = (0 : Int32))) c43) rfl ?_
          refine R_p d120_52 rfl rfl ?_
          refine R_get d120_53 (Or.inl (List.mem_of_getElem? (i := 52) rfl)) (hg42 _ _) rfl ?_
          refine R_bi (v := 40) d120_56 (by decide) ?_
          refine R_p d120_58 rfl rfl ?_
          refine R_p d120_59 rfl rfl ?_
          refine R_p d120_60 rfl rfl ?_
          refine R_p d120_61 rfl rfl ?_
          refine R_ic (v := 1) d120_62 (by decide) ?_
          obtain ⟨c44, h⟩ := rdI_some h
          obtain ⟨s45, e46, h⟩ := pt_some h
          refine R_zst d120_63 (hg45 _ _) c44 ?_
          refine R_h (hp s45 ex) (by rw [e46]; exact hA45 _ _ _) ?_
          refine R_p d120_64 rfl rfl ?_
          refine R_get d120_65 (Or.inl (List.mem_of_getElem? (i := 52) rfl)) (hg42 _ _) rfl ?_
          refine R_bi (v := 40) d120_68 (by decide) ?_
          refine R_p d120_70 rfl rfl ?_
          refine R_p d120_71 rfl rfl ?_
          refine R_p d120_72 rfl rfl ?_
          refine R_p d120_73 rfl rfl ?_
          refine R_ic (v := 1) d120_74 (by decide) ?_
          obtain ⟨c47, h⟩ := rdI_some h
          obtain ⟨s48, e49, h⟩ := pt_some h
          refine R_zst d120_75 (hg45 _ _) c47 ?_
          refine R_h (hp s48 ex) (by rw [e49]; exact hA45 _ _ _) ?_
          refine R_p d120_76 rfl rfl ?_
          refine R_ic (v := 0) d120_77 (by decide) ?_
          obtain ⟨s50, e51, h⟩ := pt_some h
          refine R_put d120_78 (List.mem_of_getElem? (i := 54) rfl) (hg42 _ _) (Nat.le_of_ble_eq_true rfl) (by decide) (by decide) (Or.inl rfl) ?_
          refine R_h (hp s50 ex) (by rw [e51]; exact hF16 _ _ _) ?_
          refine R_ic (v := 1) d120_81 (by decide) ?_
          cases h
          exact R_iret d120_82 rfl rfl rfl
        · refine R_nb d120_47 rfl (mb_f (b := (¬ q41 = (0 : Int32))) c43) ?_
          refine R_ic (v := 0) d120_50 (by decide) ?_
          cases h
          exact R_iret d120_51 rfl rfl rfl
    · refine R_nb d120_18 rfl (mb_f (b := (q28.1 = (0 : Int32))) c30) ?_
      refine R_ic (v := 0) d120_21 (by decide) ?_
      cases h
      exact R_iret d120_22 rfl rfl rfl
def f125 (v1 : Int32) (v2 : Int32) (s : mS) : Option (Int32 × mS) :=
  (f121 v1 v2 s).bind fun q1 => (if (q1 = (0 : Int32)) then
    (f117 (1 : Int32) s).bind fun q4 => (if (q4.1 = (0 : Int32)) then
      rdI 1600 (((40 : Int32) * v1) + v2) (rdI 1600 (((40 : Int32) * v1) + v2) (pt (uA 45 (upd (q4.2.1 45) (Int32.toNatClampNeg (((40 : Int32) * v1) + v2)) (vp_nar .boolean 0)) q4.2) fun s9 => rdI 1600 (((40 : Int32) * v2) + v1) (pt (uA 45 (upd (s9.1 45) (Int32.toNatClampNeg (((40 : Int32) * v2) + v1)) (vp_nar .boolean 0)) s9) fun s12 => pt (uF 16 (0 : Int32) s12) fun s14 => rdB (q4.2.1 45 (Int32.toNatClampNeg (((40 : Int32) * v1) + v2))) (some ((q4.2.1 45 (Int32.toNatClampNeg (((40 : Int32) * v1) + v2))), s14)))))
    else
      some ((0 : Int32), q4.2))
  else
    (f117 (0 : Int32) s).bind fun q17 => (if (q17.1 = (0 : Int32)) then
      rdI 1600 (((40 : Int32) * v1) + v2) (rdI 1600 (((40 : Int32) * v1) + v2) (pt (uA 45 (upd (q17.2.1 45) (Int32.toNatClampNeg (((40 : Int32) * v1) + v2)) (vp_nar .boolean 0)) q17.2) fun s22 => rdI 1600 (((40 : Int32) * v2) + v1) (pt (uA 45 (upd (s22.1 45) (Int32.toNatClampNeg (((40 : Int32) * v2) + v1)) (vp_nar .boolean 0)) s22) fun s25 => pt (uF 16 (0 : Int32) s25) fun s27 => rdB (q17.2.1 45 (Int32.toNatClampNeg (((40 : Int32) * v1) + v2))) (some ((q17.2.1 45 (Int32.toNatClampNeg (((40 : Int32) * v1) + v2))), s27)))))
    else
      some ((0 : Int32), q17.2)))
theorem t_f125 {S : mE} {ex : mHp} {v1 : Int32} {v2 : Int32} {s : mS} {r : Int32 × mS} (h : f125 v1 v2 s = some r) : Run S 125 (0, [(0, .ref 42), (1, .int v1), (2, .int v2)], [], hp s ex) (.inl (some (.int r.1)), hp r.2 ex) := by
  unfold f125 at h
  refine R_p d125_0 rfl rfl ?_
  refine R_p d125_1 rfl rfl ?_
  refine R_p d125_2 rfl rfl ?_
  refine R_p d125_3 rfl rfl ?_
  obtain ⟨q1, e2, h⟩ := bd_some h
  refine R_cm [.int v1, .int v2] d125_4 (List.mem_of_getElem? (i := 168) rfl) rfl ⟨by decide, by decide, Nat.le_of_ble_eq_true rfl, rfl, mcd121⟩ rfl rfl (Nat.le_of_ble_eq_true rfl) (hg42 _ _) rfl (t_f121 e2) ?_
  rcases ite_some h with ⟨c3, h⟩ | ⟨c3, h⟩
  · refine R_br 14 d125_7 (mb_t (b := (q1 = (0 : Int32))) c3) rfl ?_
    refine R_ic (v := 1) d125_14 (by decide) ?_
    obtain ⟨q4, e5, h⟩ := bd_some h
    refine R_cm [.int 1] d125_15 (List.mem_of_getElem? (i := 164) rfl) rfl ⟨by decide, by decide, Nat.le_of_ble_eq_true rfl, rfl, mcd117⟩ rfl rfl (Nat.le_of_ble_eq_true rfl) (hg42 _ _) rfl (t_f117 e5) ?_
    rcases ite_some h with ⟨c6, h⟩ | ⟨c6, h⟩
    · refine R_br 23 d125_18 (mb_t (b := (q4.1 = (0 : Int32))) c6) rfl ?_
      refine R_p d125_23 rfl rfl ?_
      refine R_get d125_24 (Or.inl (List.mem_of_getElem? (i := 52) rfl)) (hg42 _ _) rfl ?_
      refine R_bi (v := 40) d125_27 (by decide) ?_
      refine R_p d125_29 rfl rfl ?_
      refine R_p d125_30 rfl rfl ?_
      refine R_p d125_31 rfl rfl ?_
      refine R_p d125_32 rfl rfl ?_
      obtain ⟨c7, h⟩ := rdI_some h
      refine R_zld d125_33 (hg45 _ _) c7 ?_
      refine R_p (ls' := [(0, .ref 42), (1, .int v1), (2, .int v2), (3, .int (q4.2.1 45 (Int32.toNatClampNeg (((40 : Int32) * v1) + v2))))]) d125_34 rfl rfl ?_
      refine R_p d125_35 rfl rfl ?_
      refine R_get d125_36 (Or.inl (List.mem_of_getElem? (i := 52) rfl)) (hg42 _ _) rfl ?_
      refine R_bi (v := 40) d125_39 (by decide) ?_
      refine R_p d125_41 rfl rfl ?_
      refine R_p d125_42 rfl rfl ?_
      refine R_p d125_43 rfl rfl ?_
      refine R_p d125_44 rfl rfl ?_
      refine R_ic (v := 0) d125_45 (by decide) ?_
      obtain ⟨c8, h⟩ := rdI_some h
      obtain ⟨s9, e10, h⟩ := pt_some h
      refine R_zst d125_46 (hg45 _ _) c8 ?_
      refine R_h (hp s9 ex) (by rw [e10]; exact hA45 _ _ _) ?_
      refine R_p d125_47 rfl rfl ?_
      refine R_get d125_48 (Or.inl (List.mem_of_getElem? (i := 52) rfl)) (hg42 _ _) rfl ?_
      refine R_bi (v := 40) d125_51 (by decide) ?_
      refine R_p d125_53 rfl rfl ?_
      refine R_p d125_54 rfl rfl ?_
      refine R_p d125_55 rfl rfl ?_
      refine R_p d125_56 rfl rfl ?_
      refine R_ic (v := 0) d125_57 (by decide) ?_
      obtain ⟨c11, h⟩ := rdI_some h
      obtain ⟨s12, e13, h⟩ := pt_some h
      refine R_zst d125_58 (hg45 _ _) c11 ?_
      refine R_h (hp s12 ex) (by rw [e13]; exact hA45 _ _ _) ?_
      refine R_p d125_59 rfl rfl ?_
      refine R_ic (v := 0) d125_60 (by decide) ?_
      obtain ⟨s14, e15, h⟩ := pt_some h
      refine R_put d125_61 (List.mem_of_getElem? (i := 54) rfl) (hg42 _ _) (Nat.le_of_ble_eq_true rfl) (by decide) (by decide) (Or.inl rfl) ?_
      refine R_h (hp s14 ex) (by rw [e15]; exact hF16 _ _ _) ?_
      refine R_p d125_64 rfl rfl ?_
      obtain ⟨c16, h⟩ := rdB_some h
      cases h
      exact R_iret d125_65 rfl (nar_B c16) rfl
    · refine R_nb d125_18 rfl (mb_f (b := (q4.1 = (0 : Int32))) c6) ?_
      refine R_ic (v := 0) d125_21 (by decide) ?_
      cases h
      exact R_iret d125_22 rfl rfl rfl
  · refine R_nb d125_7 rfl (mb_f (b := (q1 = (0 : Int32))) c3) ?_
    refine R_ic (v := 0) d125_10 (by decide) ?_
    refine R_br 15 d125_11 rfl rfl ?_
    obtain ⟨q17, e18, h⟩ := bd_some h
    refine R_cm [.int 0] d125_15 (List.mem_of_getElem? (i := 164) rfl) rfl ⟨by decide, by decide, Nat.le_of_ble_eq_true rfl, rfl, mcd117⟩ rfl rfl (Nat.le_of_ble_eq_true rfl) (hg42 _ _) rfl (t_f117 e18) ?_
    rcases ite_some h with ⟨c19, h⟩ | ⟨c19, h⟩
    · refine R_br 23 d125_18 (mb_t (b := (q17.1 = (0 : Int32))) c19) rfl ?_
      refine R_p d125_23 rfl rfl ?_
      refine R_get d125_24 (Or.inl (List.mem_of_getElem? (i := 52) rfl)) (hg42 _ _) rfl ?_
      refine R_bi (v := 40) d125_27 (by decide) ?_
      refine R_p d125_29 rfl rfl ?_
      refine R_p d125_30 rfl rfl ?_
      refine R_p d125_31 rfl rfl ?_
      refine R_p d125_32 rfl rfl ?_
      obtain ⟨c20, h⟩ := rdI_some h
      refine R_zld d125_33 (hg45 _ _) c20 ?_
      refine R_p (ls' := [(0, .ref 42), (1, .int v1), (2, .int v2), (3, .int (q17.2.1 45 (Int32.toNatClampNeg (((40 : Int32) * v1) + v2))))]) d125_34 rfl rfl ?_
      refine R_p d125_35 rfl rfl ?_
      refine R_get d125_36 (Or.inl (List.mem_of_getElem? (i := 52) rfl)) (hg42 _ _) rfl ?_
      refine R_bi (v := 40) d125_39 (by decide) ?_
      refine R_p d125_41 rfl rfl ?_
      refine R_p d125_42 rfl rfl ?_
      refine R_p d125_43 rfl rfl ?_
      refine R_p d125_44 rfl rfl ?_
      refine R_ic (v := 0) d125_45 (by decide) ?_
      obtain ⟨c21, h⟩ := rdI_some h
      obtain ⟨s22, e23, h⟩ := pt_some h
      refine R_zst d125_46 (hg45 _ _) c21 ?_
      refine R_h (hp s22 ex) (by rw [e23]; exact hA45 _ _ _) ?_
      refine R_p d125_47 rfl rfl ?_
      refine R_get d125_48 (Or.inl (List.mem_of_getElem? (i := 52) rfl)) (hg42 _ _) rfl ?_
      refine R_bi (v := 40) d125_51 (by decide) ?_
      refine R_p d125_53 rfl rfl ?_
      refine R_p d125_54 rfl rfl ?_
      refine R_p d125_55 rfl rfl ?_
      refine R_p d125_56 rfl rfl ?_
      refine R_ic (v := 0) d125_57 (by decide) ?_
      obtain ⟨c24, h⟩ := rdI_some h
      obtain ⟨s25, e26, h⟩ := pt_some h
      refine R_zst d125_58 (hg45 _ _) c24 ?_
      refine R_h (hp s25 ex) (by rw [e26]; exact hA45 _ _ _) ?_
      refine R_p d125_59 rfl rfl ?_
      refine R_ic (v := 0) d125_60 (by decide) ?_
      obtain ⟨s27, e28, h⟩ := pt_some h
      refine R_put d125_61 (List.mem_of_getElem? (i := 54) rfl) (hg42 _ _) (Nat.le_of_ble_eq_true rfl) (by decide) (by decide) (Or.inl rfl) ?_
      refine R_h (hp s27 ex) (by rw [e28]; exact hF16 _ _ _) ?_
      refine R_p d125_64 rfl rfl ?_
      obtain ⟨c29, h⟩ := rdB_some h
      cases h
      exact R_iret d125_65 rfl (nar_B c29) rfl
    · refine R_nb d125_18 rfl (mb_f (b := (q17.1 = (0 : Int32))) c19) ?_
      refine R_ic (v := 0) d125_21 (by decide) ?_
      cases h
      exact R_iret d125_22 rfl rfl rfl
def r126 : Nat → Int32 → Int32 → mS → Option (Int32 × mS)
  | 0, _, _, _ => none
  | k + 1, v1, v2, s =>
    (if ((1600 : Int32) ≤ v2) then
        pt (uF 16 (0 : Int32) s) fun s2 => some (v1, s2)
      else
        rdI 1600 v2 (pt (uA 45 (upd (s.1 45) (Int32.toNatClampNeg v2) (vp_nar .boolean 0)) s) fun s5 => r126 k v1 (v2 + Int32.ofInt 1) s5))
theorem s126 {S : mE} {ex : mHp} (k : Nat) : (∀ (v1 : Int32) (v2 : Int32) (s : mS) (r : Int32 × mS), r126 k v1 v2 s = some r → Run S 126 (17, [(0, .ref 42), (1, .int v1), (2, .int v2)], [], hp s ex) (.inl (some (.int r.1)), hp r.2 ex)) := by
  induction k with
  | zero => intro v1 v2 s r h; cases h
  | succ k ih =>
    intro v1 v2 s r h
    rw [r126] at h
    refine R_p d126_17 rfl rfl ?_
    refine R_si (v := 1600) d126_18 (by decide) ?_
    rcases ite_some h with ⟨c1, h⟩ | ⟨c1, h⟩
    · refine R_br 37 d126_21 (mb_t (b := ((1600 : Int32) ≤ v2)) c1) rfl ?_
      refine R_p d126_37 rfl rfl ?_
      refine R_ic (v := 0) d126_38 (by decide) ?_
      obtain ⟨s2, e3, h⟩ := pt_some h
      refine R_put d126_39 (List.mem_of_getElem? (i := 54) rfl) (hg42 _ _) (Nat.le_of_ble_eq_true rfl) (by decide) (by decide) (Or.inl rfl) ?_
      refine R_h (hp s2 ex) (by rw [e3]; exact hF16 _ _ _) ?_
      refine R_p d126_42 rfl rfl ?_
      cases h
      exact R_iret d126_43 rfl rfl rfl
    · refine R_nb d126_21 rfl (mb_f (b := ((1600 : Int32) ≤ v2)) c1) ?_
      refine R_p d126_24 rfl rfl ?_
      refine R_get d126_25 (Or.inl (List.mem_of_getElem? (i := 52) rfl)) (hg42 _ _) rfl ?_
      refine R_p d126_28 rfl rfl ?_
      refine R_ic (v := 0) d126_29 (by decide) ?_
      obtain ⟨c4, h⟩ := rdI_some h
      obtain ⟨s5, e6, h⟩ := pt_some h
      refine R_zst d126_30 (hg45 _ _) c4 ?_
      refine R_h (hp s5 ex) (by rw [e6]; exact hA45 _ _ _) ?_
      refine R_p (ls' := [(0, .ref 42), (1, .int v1), (2, .int (v2 + Int32.ofInt 1))]) d126_31 rfl rfl ?_
      refine R_br 17 d126_34 rfl rfl ?_
      exact ih v1 (v2 + Int32.ofInt 1) s5 _ h
def f126 (k : Nat) (s : mS) : Option (Int32 × mS) :=
  pt (uF 14 (0 : Int32) s) fun s1 => pt (uF 15 (0 : Int32) s1) fun s3 => r126 k (s1.2.2.1 15) 0 s3
theorem t_f126 {S : mE} {ex : mHp} {k : Nat} {s : mS} {r : Int32 × mS} (h : f126 k s = some r) : Run S 126 (0, [(0, .ref 42)], [], hp s ex) (.inl (some (.int r.1)), hp r.2 ex) := by
  unfold f126 at h
  refine R_p d126_0 rfl rfl ?_
  refine R_ic (v := 0) d126_1 (by decide) ?_
  obtain ⟨s1, e2, h⟩ := pt_some h
  refine R_put d126_2 (List.mem_of_getElem? (i := 48) rfl) (hg42 _ _) (Nat.le_of_ble_eq_true rfl) rfl rfl (Or.inl rfl) ?_
  refine R_h (hp s1 ex) (by rw [e2]; exact hF14 _ _ _) ?_
  refine R_p d126_5 rfl rfl ?_
  refine R_get d126_6 (Or.inl (List.mem_of_getElem? (i := 49) rfl)) (hg42 _ _) rfl ?_
  refine R_p (ls' := [(0, .ref 42), (1, .int (s1.2.2.1 15))]) d126_9 rfl rfl ?_
  refine R_p d126_10 rfl rfl ?_
  refine R_ic (v := 0) d126_11 (by decide) ?_
  obtain ⟨s3, e4, h⟩ := pt_some h
  refine R_put d126_12 (List.mem_of_getElem? (i := 49) rfl) (hg42 _ _) (Nat.le_of_ble_eq_true rfl) rfl rfl (Or.inl rfl) ?_
  refine R_h (hp s3 ex) (by rw [e4]; exact hF15 _ _ _) ?_
  refine R_ic (v := 0) d126_15 (by decide) ?_
  refine R_p (ls' := [(0, .ref 42), (1, .int (s1.2.2.1 15)), (2, .int 0)]) d126_16 rfl rfl ?_
  exact s126 (S := S) (ex := ex) k (s1.2.2.1 15) 0 s3 _ h
def r123_42_46 : Nat → Nat → Int32 → Int32 → Int32 → Int32 → mS → Option (Int32)
  | 0, _, _, _, _, _, _ => none
  | k + 1, hd, v1, v2, v4, v5, s =>
    if hd = 0 then (if ((s.2.2.1 15) ≤ v4) then
        some (1 : Int32)
      else
        (if (v4 = v1) then
          r123_42_46 k 1 v1 v2 v4 0 s
        else
          (if (v4 = v2) then
            r123_42_46 k 1 v1 v2 v4 0 s
          else
            (f118 v1 v2 v4 s).bind fun q4 => (if (q4 = (0 : Int32)) then
              r123_42_46 k 1 v1 v2 v4 0 s
            else
              some (0 : Int32))))) else
    (if (v4 ≤ v5) then
        r123_42_46 k 0 v1 v2 (v4 + Int32.ofInt 1) 0 s
      else
        rdI 1600 (((40 : Int32) * v4) + v5) ((if ((s.1 46 (Int32.toNatClampNeg (((40 : Int32) * v4) + v5))) = (0 : Int32)) then
          r123_42_46 k 1 v1 v2 v4 (v5 + Int32.ofInt 1) s
        else
          (f124 v1 v2 v4 v5 s).bind fun q4 => (if (q4 = (0 : Int32)) then
            r123_42_46 k 1 v1 v2 v4 (v5 + Int32.ofInt 1) s
          else
            some (0 : Int32)))))
theorem s123_42_46 {S : mE} {ex : mHp} (k : Nat) : (∀ (v1 : Int32) (v2 : Int32) (v4 : Int32) (v5 : Int32) (s : mS) (r : Int32), r123_42_46 k 0 v1 v2 v4 v5 s = some r → Run S 123 (3, [(0, .ref 42), (1, .int v1), (2, .int v2), (3, .ref 46), (4, .int v4)], [], hp s ex) (.inl (some (.int r)), hp s ex)) ∧ (∀ (v1 : Int32) (v2 : Int32) (v4 : Int32) (v5 : Int32) (s : mS) (r : Int32), r123_42_46 k 1 v1 v2 v4 v5 s = some r → Run S 123 (40, [(0, .ref 42), (1, .int v1), (2, .int v2), (3, .ref 46), (4, .int v4), (5, .int v5)], [], hp s ex) (.inl (some (.int r)), hp s ex)) := by
  induction k with
  | zero => refine ⟨?_, ?_⟩ <;> (intro v1 v2 v4 v5 s r h; cases h)
  | succ k ih =>
    refine ⟨?_, ?_⟩
    · intro v1 v2 v4 v5 s r h
      rw [r123_42_46, if_pos rfl] at h
      refine R_p d123_3 rfl rfl ?_
      refine R_p d123_5 rfl rfl ?_
      refine R_get d123_6 (Or.inl (List.mem_of_getElem? (i := 49) rfl)) (hg42 _ _) rfl ?_
      rcases ite_some h with ⟨c1, h⟩ | ⟨c1, h⟩
      · refine R_br 87 d123_9 (mb_t (b := ((s.2.2.1 15) ≤ v4)) c1) rfl ?_
        refine R_ic (v := 1) d123_87 (by decide) ?_
        cases h
        exact R_iret d123_88 rfl rfl rfl
      · refine R_nb d123_9 rfl (mb_f (b := ((s.2.2.1 15) ≤ v4)) c1) ?_
        refine R_p d123_12 rfl rfl ?_
        refine R_p d123_14 rfl rfl ?_
        rcases ite_some h with ⟨c2, h⟩ | ⟨c2, h⟩
        · refine R_br 37 d123_15 (mb_t (b := (v4 = v1)) c2) rfl ?_
          refine R_ic (v := 0) d123_37 (by decide) ?_
          refine R_p (ls' := [(0, .ref 42), (1, .int v1), (2, .int v2), (3, .ref 46), (4, .int v4), (5, .int 0)]) d123_38 rfl rfl ?_
          exact ih.2 v1 v2 v4 0 s _ h
        · refine R_nb d123_15 rfl (mb_f (b := (v4 = v1)) c2) ?_
          refine R_p d123_18 rfl rfl ?_
          refine R_p d123_20 rfl rfl ?_
          rcases ite_some h with ⟨c3, h⟩ | ⟨c3, h⟩
          · refine R_br 37 d123_21 (mb_t (b := (v4 = v2)) c3) rfl ?_
            refine R_ic (v := 0) d123_37 (by decide) ?_
            refine R_p (ls' := [(0, .ref 42), (1, .int v1), (2, .int v2), (3, .ref 46), (4, .int v4), (5, .int 0)]) d123_38 rfl rfl ?_
            exact ih.2 v1 v2 v4 0 s _ h
          · refine R_nb d123_21 rfl (mb_f (b := (v4 = v2)) c3) ?_
            refine R_p d123_24 rfl rfl ?_
            refine R_p d123_25 rfl rfl ?_
            refine R_p d123_26 rfl rfl ?_
            refine R_p d123_27 rfl rfl ?_
            obtain ⟨q4, e5, h⟩ := bd_some h
            refine R_cm [.int v1, .int v2, .int v4] d123_29 (List.mem_of_getElem? (i := 165) rfl) rfl ⟨by decide, by decide, Nat.le_of_ble_eq_true rfl, rfl, mcd118⟩ rfl rfl (Nat.le_of_ble_eq_true rfl) (hg42 _ _) rfl (t_f118 e5) ?_
            rcases ite_some h with ⟨c6, h⟩ | ⟨c6, h⟩
            · refine R_br 37 d123_32 (mb_t (b := (q4 = (0 : Int32))) c6) rfl ?_
              refine R_ic (v := 0) d123_37 (by decide) ?_
              refine R_p (ls' := [(0, .ref 42), (1, .int v1), (2, .int v2), (3, .ref 46), (4, .int v4), (5, .int 0)]) d123_38 rfl rfl ?_
              exact ih.2 v1 v2 v4 0 s _ h
            · refine R_nb d123_32 rfl (mb_f (b := (q4 = (0 : Int32))) c6) ?_
              refine R_ic (v := 0) d123_35 (by decide) ?_
              cases h
              exact R_iret d123_36 rfl rfl rfl
    · intro v1 v2 v4 v5 s r h
      rw [r123_42_46, if_neg (by decide)] at h
      refine R_p d123_40 rfl rfl ?_
      refine R_p d123_42 rfl rfl ?_
      rcases ite_some h with ⟨c1, h⟩ | ⟨c1, h⟩
      · refine R_br 81 d123_44 (mb_t (b := (v4 ≤ v5)) c1) rfl ?_
        refine R_p (ls' := [(0, .ref 42), (1, .int v1), (2, .int v2), (3, .ref 46), (4, .int (v4 + Int32.ofInt 1)), (5, .int v5)]) d123_81 rfl rfl ?_
        refine R_br 3 d123_84 rfl rfl ?_
        exact R_wk [(0, .ref 42), (1, .int v1), (2, .int v2), (3, .ref 46), (4, .int (v4 + Int32.ofInt 1))] (by simp) (ih.1 v1 v2 (v4 + Int32.ofInt 1) 0 s _ h)
      · refine R_nb d123_44 rfl (mb_f (b := (v4 ≤ v5)) c1) ?_
        refine R_p d123_47 rfl rfl ?_
        refine R_bi (v := 40) d123_48 (by decide) ?_
        refine R_p d123_50 rfl rfl ?_
        refine R_p d123_52 rfl rfl ?_
        refine R_p d123_53 rfl rfl ?_
        refine R_p d123_55 rfl rfl ?_
        obtain ⟨c2, h⟩ := rdI_some h
        refine R_zld d123_56 (hg46 _ _) c2 ?_
        rcases ite_some h with ⟨c3, h⟩ | ⟨c3, h⟩
        · refine R_br 75 d123_57 (mb_t (b := ((s.1 46 (Int32.toNatClampNeg (((40 : Int32) * v4) + v5))) = (0 : Int32))) c3) rfl ?_
          refine R_p (ls' := [(0, .ref 42), (1, .int v1), (2, .int v2), (3, .ref 46), (4, .int v4), (5, .int (v5 + Int32.ofInt 1))]) d123_75 rfl rfl ?_
          refine R_br 40 d123_78 rfl rfl ?_
          exact ih.2 v1 v2 v4 (v5 + Int32.ofInt 1) s _ h
        · refine R_nb d123_57 rfl (mb_f (b := ((s.1 46 (Int32.toNatClampNeg (((40 : Int32) * v4) + v5))) = (0 : Int32))) c3) ?_
          refine R_p d123_60 rfl rfl ?_
          refine R_p d123_61 rfl rfl ?_
          refine R_p d123_62 rfl rfl ?_
          refine R_p d123_63 rfl rfl ?_
          refine R_p d123_65 rfl rfl ?_
          obtain ⟨q4, e5, h⟩ := bd_some h
          refine R_cm [.int v1, .int v2, .int v4, .int v5] d123_67 (List.mem_of_getElem? (i := 171) rfl) rfl ⟨by decide, by decide, Nat.le_of_ble_eq_true rfl, rfl, mcd124⟩ rfl rfl (Nat.le_of_ble_eq_true rfl) (hg42 _ _) rfl (t_f124 e5) ?_
          rcases ite_some h with ⟨c6, h⟩ | ⟨c6, h⟩
          · refine R_br 75 d123_70 (mb_t (b := (q4 = (0 : Int32))) c6) rfl ?_
            refine R_p (ls' := [(0, .ref 42), (1, .int v1), (2, .int v2), (3, .ref 46), (4, .int v4), (5, .int (v5 + Int32.ofInt 1))]) d123_75 rfl rfl ?_
            refine R_br 40 d123_78 rfl rfl ?_
            exact ih.2 v1 v2 v4 (v5 + Int32.ofInt 1) s _ h
          · refine R_nb d123_70 rfl (mb_f (b := (q4 = (0 : Int32))) c6) ?_
            refine R_ic (v := 0) d123_73 (by decide) ?_
            cases h
            exact R_iret d123_74 rfl rfl rfl
def f123_42_46 (k : Nat) (v1 : Int32) (v2 : Int32) (s : mS) : Option (Int32) :=
  r123_42_46 k 0 v1 v2 0 0 s
theorem t_f123_42_46 {S : mE} {ex : mHp} {k : Nat} {v1 : Int32} {v2 : Int32} {s : mS} {r : Int32} (h : f123_42_46 k v1 v2 s = some r) : Run S 123 (0, [(0, .ref 42), (1, .int v1), (2, .int v2), (3, .ref 46)], [], hp s ex) (.inl (some (.int r)), hp s ex) := by
  unfold f123_42_46 at h
  refine R_ic (v := 0) d123_0 (by decide) ?_
  refine R_p (ls' := [(0, .ref 42), (1, .int v1), (2, .int v2), (3, .ref 46), (4, .int 0)]) d123_1 rfl rfl ?_
  exact (s123_42_46 (S := S) (ex := ex) k).1 v1 v2 0 0 s _ h
def r129 : Nat → Int32 → Int32 → mS → Option (Int32)
  | 0, _, _, _ => none
  | k + 1, v1, v2, s =>
    (if ((s.2.2.1 15) ≤ v2) then
        rdB v1 (some v1)
      else
        (if (v1 = (0 : Int32)) then
          r129 k 0 (v2 + Int32.ofInt 1) s
        else
          (f119 (0 : Int32) (1 : Int32) v2 s).bind fun q4 => (if (¬ q4 = (0 : Int32)) then
            r129 k 0 (v2 + Int32.ofInt 1) s
          else
            r129 k 1 (v2 + Int32.ofInt 1) s)))
theorem s129 {S : mE} {ex : mHp} (k : Nat) : (∀ (v1 : Int32) (v2 : Int32) (s : mS) (r : Int32), r129 k v1 v2 s = some r → Run S 129 (4, [(0, .ref 42), (1, .int v1), (2, .int v2)], [], hp s ex) (.inl (some (.int r)), hp s ex)) := by
  induction k with
  | zero => intro v1 v2 s r h; cases h
  | succ k ih =>
    intro v1 v2 s r h
    rw [r129] at h
    refine R_p d129_4 rfl rfl ?_
    refine R_p d129_5 rfl rfl ?_
    refine R_get d129_6 (Or.inl (List.mem_of_getElem? (i := 49) rfl)) (hg42 _ _) rfl ?_
    rcases ite_some h with ⟨c1, h⟩ | ⟨c1, h⟩
    · refine R_br 38 d129_9 (mb_t (b := ((s.2.2.1 15) ≤ v2)) c1) rfl ?_
      refine R_p d129_38 rfl rfl ?_
      obtain ⟨c2, h⟩ := rdB_some h
      cases h
      exact R_iret d129_39 rfl (nar_B c2) rfl
    · refine R_nb d129_9 rfl (mb_f (b := ((s.2.2.1 15) ≤ v2)) c1) ?_
      refine R_p d129_12 rfl rfl ?_
      rcases ite_some h with ⟨c3, h⟩ | ⟨c3, h⟩
      · refine R_br 30 d129_13 (mb_t (b := (v1 = (0 : Int32))) c3) rfl ?_
        refine R_ic (v := 0) d129_30 (by decide) ?_
        refine R_p (ls' := [(0, .ref 42), (1, .int 0), (2, .int v2)]) d129_31 rfl rfl ?_
        refine R_p (ls' := [(0, .ref 42), (1, .int 0), (2, .int (v2 + Int32.ofInt 1))]) d129_32 rfl rfl ?_
        refine R_br 4 d129_35 rfl rfl ?_
        exact ih 0 (v2 + Int32.ofInt 1) s _ h
      · refine R_nb d129_13 rfl (mb_f (b := (v1 = (0 : Int32))) c3) ?_
        refine R_p d129_16 rfl rfl ?_
        refine R_ic (v := 0) d129_17 (by decide) ?_
        refine R_ic (v := 1) d129_18 (by decide) ?_
        refine R_p d129_19 rfl rfl ?_
        obtain ⟨q4, e5, h⟩ := bd_some h
        refine R_cm [.int 0, .int 1, .int v2] d129_20 (List.mem_of_getElem? (i := 166) rfl) rfl ⟨by decide, by decide, Nat.le_of_ble_eq_true rfl, rfl, mcd119⟩ rfl rfl (Nat.le_of_ble_eq_true rfl) (hg42 _ _) rfl (t_f119 e5) ?_
        rcases ite_some h with ⟨c6, h⟩ | ⟨c6, h⟩
        · refine R_br 30 d129_23 (mb_t (b := (¬ q4 = (0 : Int32))) c6) rfl ?_
          refine R_ic (v := 0) d129_30 (by decide) ?_
          refine R_p (ls' := [(0, .ref 42), (1, .int 0), (2, .int v2)]) d129_31 rfl rfl ?_
          refine R_p (ls' := [(0, .ref 42), (1, .int 0), (2, .int (v2 + Int32.ofInt 1))]) d129_32 rfl rfl ?_
          refine R_br 4 d129_35 rfl rfl ?_
          exact ih 0 (v2 + Int32.ofInt 1) s _ h
        · refine R_nb d129_23 rfl (mb_f (b := (¬ q4 = (0 : Int32))) c6) ?_
          refine R_ic (v := 1) d129_26 (by decide) ?_
          refine R_br 31 d129_27 rfl rfl ?_
          refine R_p (ls' := [(0, .ref 42), (1, .int 1), (2, .int v2)]) d129_31 rfl rfl ?_
          refine R_p (ls' := [(0, .ref 42), (1, .int 1), (2, .int (v2 + Int32.ofInt 1))]) d129_32 rfl rfl ?_
          refine R_br 4 d129_35 rfl rfl ?_
          exact ih 1 (v2 + Int32.ofInt 1) s _ h
def f129 (k : Nat) (s : mS) : Option (Int32) :=
  r129 k 1 2 s
theorem t_f129 {S : mE} {ex : mHp} {k : Nat} {s : mS} {r : Int32} (h : f129 k s = some r) : Run S 129 (0, [(0, .ref 42)], [], hp s ex) (.inl (some (.int r)), hp s ex) := by
  unfold f129 at h
  refine R_ic (v := 1) d129_0 (by decide) ?_
  refine R_p (ls' := [(0, .ref 42), (1, .int 1)]) d129_1 rfl rfl ?_
  refine R_ic (v := 2) d129_2 (by decide) ?_
  refine R_p (ls' := [(0, .ref 42), (1, .int 1), (2, .int 2)]) d129_3 rfl rfl ?_
  exact s129 (S := S) (ex := ex) k 1 2 s _ h
def f130 (v1 : Int32) (v2 : Int32) (v3 : Int32) (s : mS) : Option (mS) :=
  rdI 1600 (((40 : Int32) * v1) + v2) (pt (uA 46 (upd (s.1 46) (Int32.toNatClampNeg (((40 : Int32) * v1) + v2)) (vp_nar .boolean v3)) s) fun s2 => rdI 1600 (((40 : Int32) * v2) + v1) (pt (uA 46 (upd (s2.1 46) (Int32.toNatClampNeg (((40 : Int32) * v2) + v1)) (vp_nar .boolean v3)) s2) fun s5 => some s5))
theorem t_f130 {S : mE} {ex : mHp} {v1 : Int32} {v2 : Int32} {v3 : Int32} {s : mS} {r : mS} (h : f130 v1 v2 v3 s = some r) : Run S 130 (0, [(0, .ref 42), (1, .int v1), (2, .int v2), (3, .int v3)], [], hp s ex) (.inl none, hp r ex) := by
  unfold f130 at h
  refine R_p d130_0 rfl rfl ?_
  refine R_get d130_1 (Or.inl (List.mem_of_getElem? (i := 53) rfl)) (hg42 _ _) rfl ?_
  refine R_bi (v := 40) d130_4 (by decide) ?_
  refine R_p d130_6 rfl rfl ?_
  refine R_p d130_7 rfl rfl ?_
  refine R_p d130_8 rfl rfl ?_
  refine R_p d130_9 rfl rfl ?_
  refine R_p d130_10 rfl rfl ?_
  obtain ⟨c1, h⟩ := rdI_some h
  obtain ⟨s2, e3, h⟩ := pt_some h
  refine R_zst d130_11 (hg46 _ _) c1 ?_
  refine R_h (hp s2 ex) (by rw [e3]; exact hA46 _ _ _) ?_
  refine R_p d130_12 rfl rfl ?_
  refine R_get d130_13 (Or.inl (List.mem_of_getElem? (i := 53) rfl)) (hg42 _ _) rfl ?_
  refine R_bi (v := 40) d130_16 (by decide) ?_
  refine R_p d130_18 rfl rfl ?_
  refine R_p d130_19 rfl rfl ?_
  refine R_p d130_20 rfl rfl ?_
  refine R_p d130_21 rfl rfl ?_
  refine R_p d130_22 rfl rfl ?_
  obtain ⟨c4, h⟩ := rdI_some h
  obtain ⟨s5, e6, h⟩ := pt_some h
  refine R_zst d130_23 (hg46 _ _) c4 ?_
  refine R_h (hp s5 ex) (by rw [e6]; exact hA46 _ _ _) ?_
  cases h
  exact R_vret d130_24 rfl rfl
def r134 : Nat → Int32 → Int32 → Int32 → Int32 → mS → Option (Int32)
  | 0, _, _, _, _, _ => none
  | k + 1, v1, v2, v3, v4, s =>
    (if ((s.2.2.1 15) ≤ v4) then
        some (1 : Int32)
      else
        (if (v4 = v1) then
          r134 k v1 v2 v3 (v4 + Int32.ofInt 1) s
        else
          (if (v4 = v2) then
            r134 k v1 v2 v3 (v4 + Int32.ofInt 1) s
          else
            (if (v4 = v3) then
              r134 k v1 v2 v3 (v4 + Int32.ofInt 1) s
            else
              (f119 v1 v2 v4 s).bind fun q5 => (if (q5 < (0 : Int32)) then
                r134 k v1 v2 v3 (v4 + Int32.ofInt 1) s
              else
                (f119 v2 v3 v4 s).bind fun q8 => (if (q8 < (0 : Int32)) then
                  r134 k v1 v2 v3 (v4 + Int32.ofInt 1) s
                else
                  (f119 v3 v1 v4 s).bind fun q11 => (if (q11 < (0 : Int32)) then
                    r134 k v1 v2 v3 (v4 + Int32.ofInt 1) s
                  else
                    some (0 : Int32))))))))
theorem s134 {S : mE} {ex : mHp} (k : Nat) : (∀ (v1 : Int32) (v2 : Int32) (v3 : Int32) (v4 : Int32) (s : mS) (r : Int32), r134 k v1 v2 v3 v4 s = some r → Run S 134 (3, [(0, .ref 42), (1, .int v1), (2, .int v2), (3, .int v3), (4, .int v4)], [], hp s ex) (.inl (some (.int r)), hp s ex)) := by
  induction k with
  | zero => intro v1 v2 v3 v4 s r h; cases h
  | succ k ih =>
    intro v1 v2 v3 v4 s r h
    rw [r134] at h
    refine R_p d134_3 rfl rfl ?_
    refine R_p d134_5 rfl rfl ?_
    refine R_get d134_6 (Or.inl (List.mem_of_getElem? (i := 49) rfl)) (hg42 _ _) rfl ?_
    rcases ite_some h with ⟨c1, h⟩ | ⟨c1, h⟩
    · refine R_br 83 d134_9 (mb_t (b := ((s.2.2.1 15) ≤ v4)) c1) rfl ?_
      refine R_ic (v := 1) d134_83 (by decide) ?_
      cases h
      exact R_iret d134_84 rfl rfl rfl
    · refine R_nb d134_9 rfl (mb_f (b := ((s.2.2.1 15) ≤ v4)) c1) ?_
      refine R_p d134_12 rfl rfl ?_
      refine R_p d134_14 rfl rfl ?_
      rcases ite_some h with ⟨c2, h⟩ | ⟨c2, h⟩
      · refine R_br 34 d134_15 (mb_t (b := (v4 = v1)) c2) rfl ?_
        refine R_ic (v := 0) d134_34 (by decide) ?_
        refine R_p (ls' := [(0, .ref 42), (1, .int v1), (2, .int v2), (3, .int v3), (4, .int v4), (5, .int 0)]) d134_35 rfl rfl ?_
        refine R_p d134_37 rfl rfl ?_
        refine R_br 77 d134_39 (mb_t (b := ((0 : Int32) = (0 : Int32))) (by decide)) rfl ?_
        refine R_p (ls' := [(0, .ref 42), (1, .int v1), (2, .int v2), (3, .int v3), (4, .int (v4 + Int32.ofInt 1)), (5, .int 0)]) d134_77 rfl rfl ?_
        refine R_br 3 d134_80 rfl rfl ?_
        exact R_wk [(0, .ref 42), (1, .int v1), (2, .int v2), (3, .int v3), (4, .int (v4 + Int32.ofInt 1))] (by simp) (ih v1 v2 v3 (v4 + Int32.ofInt 1) s _ h)
      · refine R_nb d134_15 rfl (mb_f (b := (v4 = v1)) c2) ?_
        refine R_p d134_18 rfl rfl ?_
        refine R_p d134_20 rfl rfl ?_
        rcases ite_some h with ⟨c3, h⟩ | ⟨c3, h⟩
        · refine R_br 34 d134_21 (mb_t (b := (v4 = v2)) c3) rfl ?_
          refine R_ic (v := 0) d134_34 (by decide) ?_
          refine R_p (ls' := [(0, .ref 42), (1, .int v1), (2, .int v2), (3, .int v3), (4, .int v4), (5, .int 0)]) d134_35 rfl rfl ?_
          refine R_p d134_37 rfl rfl ?_
          refine R_br 77 d134_39 (mb_t (b := ((0 : Int32) = (0 : Int32))) (by decide)) rfl ?_
          refine R_p (ls' := [(0, .ref 42), (1, .int v1), (2, .int v2), (3, .int v3), (4, .int (v4 + Int32.ofInt 1)), (5, .int 0)]) d134_77 rfl rfl ?_
          refine R_br 3 d134_80 rfl rfl ?_
          exact R_wk [(0, .ref 42), (1, .int v1), (2, .int v2), (3, .int v3), (4, .int (v4 + Int32.ofInt 1))] (by simp) (ih v1 v2 v3 (v4 + Int32.ofInt 1) s _ h)
        · refine R_nb d134_21 rfl (mb_f (b := (v4 = v2)) c3) ?_
          refine R_p d134_24 rfl rfl ?_
          refine R_p d134_26 rfl rfl ?_
          rcases ite_some h with ⟨c4, h⟩ | ⟨c4, h⟩
          · refine R_br 34 d134_27 (mb_t (b := (v4 = v3)) c4) rfl ?_
            refine R_ic (v := 0) d134_34 (by decide) ?_
            refine R_p (ls' := [(0, .ref 42), (1, .int v1), (2, .int v2), (3, .int v3), (4, .int v4), (5, .int 0)]) d134_35 rfl rfl ?_
            refine R_p d134_37 rfl rfl ?_
            refine R_br 77 d134_39 (mb_t (b := ((0 : Int32) = (0 : Int32))) (by decide)) rfl ?_
            refine R_p (ls' := [(0, .ref 42), (1, .int v1), (2, .int v2), (3, .int v3), (4, .int (v4 + Int32.ofInt 1)), (5, .int 0)]) d134_77 rfl rfl ?_
            refine R_br 3 d134_80 rfl rfl ?_
            exact R_wk [(0, .ref 42), (1, .int v1), (2, .int v2), (3, .int v3), (4, .int (v4 + Int32.ofInt 1))] (by simp) (ih v1 v2 v3 (v4 + Int32.ofInt 1) s _ h)
          · refine R_nb d134_27 rfl (mb_f (b := (v4 = v3)) c4) ?_
            refine R_ic (v := 1) d134_30 (by decide) ?_
            refine R_br 35 d134_31 rfl rfl ?_
            refine R_p (ls' := [(0, .ref 42), (1, .int v1), (2, .int v2), (3, .int v3), (4, .int v4), (5, .int 1)]) d134_35 rfl rfl ?_
            refine R_p d134_37 rfl rfl ?_
            refine R_nb d134_39 rfl (mb_f (b := ((1 : Int32) = (0 : Int32))) (by decide)) ?_
            refine R_p d134_42 rfl rfl ?_
            refine R_p d134_43 rfl rfl ?_
            refine R_p d134_44 rfl rfl ?_
            refine R_p d134_45 rfl rfl ?_
            obtain ⟨q5, e6, h⟩ := bd_some h
            refine R_cm [.int v1, .int v2, .int v4] d134_47 (List.mem_of_getElem? (i := 166) rfl) rfl ⟨by decide, by decide, Nat.le_of_ble_eq_true rfl, rfl, mcd119⟩ rfl rfl (Nat.le_of_ble_eq_true rfl) (hg42 _ _) rfl (t_f119 e6) ?_
            rcases ite_some h with ⟨c7, h⟩ | ⟨c7, h⟩
            · refine R_br 77 d134_50 (mb_t (b := (q5 < (0 : Int32))) c7) rfl ?_
              refine R_p (ls' := [(0, .ref 42), (1, .int v1), (2, .int v2), (3, .int v3), (4, .int (v4 + Int32.ofInt 1)), (5, .int 1)]) d134_77 rfl rfl ?_
              refine R_br 3 d134_80 rfl rfl ?_
              exact R_wk [(0, .ref 42), (1, .int v1), (2, .int v2), (3, .int v3), (4, .int (v4 + Int32.ofInt 1))] (by simp) (ih v1 v2 v3 (v4 + Int32.ofInt 1) s _ h)
            · refine R_nb d134_50 rfl (mb_f (b := (q5 < (0 : Int32))) c7) ?_
              refine R_p d134_53 rfl rfl ?_
              refine R_p d134_54 rfl rfl ?_
              refine R_p d134_55 rfl rfl ?_
              refine R_p d134_56 rfl rfl ?_
              obtain ⟨q8, e9, h⟩ := bd_some h
              refine R_cm [.int v2, .int v3, .int v4] d134_58 (List.mem_of_getElem? (i := 166) rfl) rfl ⟨by decide, by decide, Nat.le_of_ble_eq_true rfl, rfl, mcd119⟩ rfl rfl (Nat.le_of_ble_eq_true rfl) (hg42 _ _) rfl (t_f119 e9) ?_
              rcases ite_some h with ⟨c10, h⟩ | ⟨c10, h⟩
              · refine R_br 77 d134_61 (mb_t (b := (q8 < (0 : Int32))) c10) rfl ?_
                refine R_p (ls' := [(0, .ref 42), (1, .int v1), (2, .int v2), (3, .int v3), (4, .int (v4 + Int32.ofInt 1)), (5, .int 1)]) d134_77 rfl rfl ?_
                refine R_br 3 d134_80 rfl rfl ?_
                exact R_wk [(0, .ref 42), (1, .int v1), (2, .int v2), (3, .int v3), (4, .int (v4 + Int32.ofInt 1))] (by simp) (ih v1 v2 v3 (v4 + Int32.ofInt 1) s _ h)
              · refine R_nb d134_61 rfl (mb_f (b := (q8 < (0 : Int32))) c10) ?_
                refine R_p d134_64 rfl rfl ?_
                refine R_p d134_65 rfl rfl ?_
                refine R_p d134_66 rfl rfl ?_
                refine R_p d134_67 rfl rfl ?_
                obtain ⟨q11, e12, h⟩ := bd_some h
                refine R_cm [.int v3, .int v1, .int v4] d134_69 (List.mem_of_getElem? (i := 166) rfl) rfl ⟨by decide, by decide, Nat.le_of_ble_eq_true rfl, rfl, mcd119⟩ rfl rfl (Nat.le_of_ble_eq_true rfl) (hg42 _ _) rfl (t_f119 e12) ?_
                rcases ite_some h with ⟨c13, h⟩ | ⟨c13, h⟩
                · refine R_br 77 d134_72 (mb_t (b := (q11 < (0 : Int32))) c13) rfl ?_
                  refine R_p (ls' := [(0, .ref 42), (1, .int v1), (2, .int v2), (3, .int v3), (4, .int (v4 + Int32.ofInt 1)), (5, .int 1)]) d134_77 rfl rfl ?_
                  refine R_br 3 d134_80 rfl rfl ?_
                  exact R_wk [(0, .ref 42), (1, .int v1), (2, .int v2), (3, .int v3), (4, .int (v4 + Int32.ofInt 1))] (by simp) (ih v1 v2 v3 (v4 + Int32.ofInt 1) s _ h)
                · refine R_nb d134_72 rfl (mb_f (b := (q11 < (0 : Int32))) c13) ?_
                  refine R_ic (v := 0) d134_75 (by decide) ?_
                  cases h
                  exact R_iret d134_76 rfl rfl rfl
def f134 (k : Nat) (v1 : Int32) (v2 : Int32) (v3 : Int32) (s : mS) : Option (Int32) :=
  r134 k v1 v2 v3 0 s
theorem t_f134 {S : mE} {ex : mHp} {k : Nat} {v1 : Int32} {v2 : Int32} {v3 : Int32} {s : mS} {r : Int32} (h : f134 k v1 v2 v3 s = some r) : Run S 134 (0, [(0, .ref 42), (1, .int v1), (2, .int v2), (3, .int v3)], [], hp s ex) (.inl (some (.int r)), hp s ex) := by
  unfold f134 at h
  refine R_ic (v := 0) d134_0 (by decide) ?_
  refine R_p (ls' := [(0, .ref 42), (1, .int v1), (2, .int v2), (3, .int v3), (4, .int 0)]) d134_1 rfl rfl ?_
  exact s134 (S := S) (ex := ex) k v1 v2 v3 0 s _ h
def f133 (k : Nat) (v1 : Int32) (v2 : Int32) (v3 : Int32) (s : mS) : Option (Int32) :=
  (if (v1 = v2) then
    some (0 : Int32)
  else
    (if (v2 = v3) then
      some (0 : Int32)
    else
      (if (v3 = v1) then
        some (0 : Int32)
      else
        rdI 1600 (((40 : Int32) * v1) + v2) ((if ((s.1 46 (Int32.toNatClampNeg (((40 : Int32) * v1) + v2))) = (0 : Int32)) then
          some (0 : Int32)
        else
          rdI 1600 (((40 : Int32) * v2) + v3) ((if ((s.1 46 (Int32.toNatClampNeg (((40 : Int32) * v2) + v3))) = (0 : Int32)) then
            some (0 : Int32)
          else
            rdI 1600 (((40 : Int32) * v3) + v1) ((if ((s.1 46 (Int32.toNatClampNeg (((40 : Int32) * v3) + v1))) = (0 : Int32)) then
              some (0 : Int32)
            else
              (f119 v1 v2 v3 s).bind fun q10 => (if (q10 ≤ (0 : Int32)) then
                some (0 : Int32)
              else
                (f134 k v1 v2 v3 s).bind fun q13 => (if (q13 = (0 : Int32)) then
                  some (0 : Int32)
                else
                  some (1 : Int32))))))))))))
theorem t_f133 {S : mE} {ex : mHp} {k : Nat} {v1 : Int32} {v2 : Int32} {v3 : Int32} {s : mS} {r : Int32} (h : f133 k v1 v2 v3 s = some r) : Run S 133 (0, [(0, .ref 42), (1, .int v1), (2, .int v2), (3, .int v3)], [], hp s ex) (.inl (some (.int r)), hp s ex) := by
  unfold f133 at h
  refine R_p d133_0 rfl rfl ?_
  refine R_p d133_1 rfl rfl ?_
  rcases ite_some h with ⟨c1, h⟩ | ⟨c1, h⟩
  · refine R_br 81 d133_2 (mb_t (b := (v1 = v2)) c1) rfl ?_
    refine R_ic (v := 0) d133_81 (by decide) ?_
    cases h
    exact R_iret d133_82 rfl rfl rfl
  · refine R_nb d133_2 rfl (mb_f (b := (v1 = v2)) c1) ?_
    refine R_p d133_5 rfl rfl ?_
    refine R_p d133_6 rfl rfl ?_
    rcases ite_some h with ⟨c2, h⟩ | ⟨c2, h⟩
    · refine R_br 81 d133_7 (mb_t (b := (v2 = v3)) c2) rfl ?_
      refine R_ic (v := 0) d133_81 (by decide) ?_
      cases h
      exact R_iret d133_82 rfl rfl rfl
    · refine R_nb d133_7 rfl (mb_f (b := (v2 = v3)) c2) ?_
      refine R_p d133_10 rfl rfl ?_
      refine R_p d133_11 rfl rfl ?_
      rcases ite_some h with ⟨c3, h⟩ | ⟨c3, h⟩
      · refine R_br 81 d133_12 (mb_t (b := (v3 = v1)) c3) rfl ?_
        refine R_ic (v := 0) d133_81 (by decide) ?_
        cases h
        exact R_iret d133_82 rfl rfl rfl
      · refine R_nb d133_12 rfl (mb_f (b := (v3 = v1)) c3) ?_
        refine R_p d133_15 rfl rfl ?_
        refine R_get d133_16 (Or.inl (List.mem_of_getElem? (i := 53) rfl)) (hg42 _ _) rfl ?_
        refine R_bi (v := 40) d133_19 (by decide) ?_
        refine R_p d133_21 rfl rfl ?_
        refine R_p d133_22 rfl rfl ?_
        refine R_p d133_23 rfl rfl ?_
        refine R_p d133_24 rfl rfl ?_
        obtain ⟨c4, h⟩ := rdI_some h
        refine R_zld d133_25 (hg46 _ _) c4 ?_
        rcases ite_some h with ⟨c5, h⟩ | ⟨c5, h⟩
        · refine R_br 81 d133_26 (mb_t (b := ((s.1 46 (Int32.toNatClampNeg (((40 : Int32) * v1) + v2))) = (0 : Int32))) c5) rfl ?_
          refine R_ic (v := 0) d133_81 (by decide) ?_
          cases h
          exact R_iret d133_82 rfl rfl rfl
        · refine R_nb d133_26 rfl (mb_f (b := ((s.1 46 (Int32.toNatClampNeg (((40 : Int32) * v1) + v2))) = (0 : Int32))) c5) ?_
          refine R_p d133_29 rfl rfl ?_
          refine R_get d133_30 (Or.inl (List.mem_of_getElem? (i := 53) rfl)) (hg42 _ _) rfl ?_
          refine R_bi (v := 40) d133_33 (by decide) ?_
          refine R_p d133_35 rfl rfl ?_
          refine R_p d133_36 rfl rfl ?_
          refine R_p d133_37 rfl rfl ?_
          refine R_p d133_38 rfl rfl ?_
          obtain ⟨c6, h⟩ := rdI_some h
          refine R_zld d133_39 (hg46 _ _) c6 ?_
          rcases ite_some h with ⟨c7, h⟩ | ⟨c7, h⟩
          · refine R_br 81 d133_40 (mb_t (b := ((s.1 46 (Int32.toNatClampNeg (((40 : Int32) * v2) + v3))) = (0 : Int32))) c7) rfl ?_
            refine R_ic (v := 0) d133_81 (by decide) ?_
            cases h
            exact R_iret d133_82 rfl rfl rfl
          · refine R_nb d133_40 rfl (mb_f (b := ((s.1 46 (Int32.toNatClampNeg (((40 : Int32) * v2) + v3))) = (0 : Int32))) c7) ?_
            refine R_p d133_43 rfl rfl ?_
            refine R_get d133_44 (Or.inl (List.mem_of_getElem? (i := 53) rfl)) (hg42 _ _) rfl ?_
            refine R_bi (v := 40) d133_47 (by decide) ?_
            refine R_p d133_49 rfl rfl ?_
            refine R_p d133_50 rfl rfl ?_
            refine R_p d133_51 rfl rfl ?_
            refine R_p d133_52 rfl rfl ?_
            obtain ⟨c8, h⟩ := rdI_some h
            refine R_zld d133_53 (hg46 _ _) c8 ?_
            rcases ite_some h with ⟨c9, h⟩ | ⟨c9, h⟩
            · refine R_br 81 d133_54 (mb_t (b := ((s.1 46 (Int32.toNatClampNeg (((40 : Int32) * v3) + v1))) = (0 : Int32))) c9) rfl ?_
              refine R_ic (v := 0) d133_81 (by decide) ?_
              cases h
              exact R_iret d133_82 rfl rfl rfl
            · refine R_nb d133_54 rfl (mb_f (b := ((s.1 46 (Int32.toNatClampNeg (((40 : Int32) * v3) + v1))) = (0 : Int32))) c9) ?_
              refine R_p d133_57 rfl rfl ?_
              refine R_p d133_58 rfl rfl ?_
              refine R_p d133_59 rfl rfl ?_
              refine R_p d133_60 rfl rfl ?_
              obtain ⟨q10, e11, h⟩ := bd_some h
              refine R_cm [.int v1, .int v2, .int v3] d133_61 (List.mem_of_getElem? (i := 166) rfl) rfl ⟨by decide, by decide, Nat.le_of_ble_eq_true rfl, rfl, mcd119⟩ rfl rfl (Nat.le_of_ble_eq_true rfl) (hg42 _ _) rfl (t_f119 e11) ?_
              rcases ite_some h with ⟨c12, h⟩ | ⟨c12, h⟩
              · refine R_br 81 d133_64 (mb_t (b := (q10 ≤ (0 : Int32))) c12) rfl ?_
                refine R_ic (v := 0) d133_81 (by decide) ?_
                cases h
                exact R_iret d133_82 rfl rfl rfl
              · refine R_nb d133_64 rfl (mb_f (b := (q10 ≤ (0 : Int32))) c12) ?_
                refine R_p d133_67 rfl rfl ?_
                refine R_p d133_68 rfl rfl ?_
                refine R_p d133_69 rfl rfl ?_
                refine R_p d133_70 rfl rfl ?_
                obtain ⟨q13, e14, h⟩ := bd_some h
                refine R_cm [.int v1, .int v2, .int v3] d133_71 (List.mem_of_getElem? (i := 181) rfl) rfl ⟨by decide, by decide, Nat.le_of_ble_eq_true rfl, rfl, mcd134⟩ rfl rfl (Nat.le_of_ble_eq_true rfl) (hg42 _ _) rfl (t_f134 e14) ?_
                rcases ite_some h with ⟨c15, h⟩ | ⟨c15, h⟩
                · refine R_br 81 d133_74 (mb_t (b := (q13 = (0 : Int32))) c15) rfl ?_
                  refine R_ic (v := 0) d133_81 (by decide) ?_
                  cases h
                  exact R_iret d133_82 rfl rfl rfl
                · refine R_nb d133_74 rfl (mb_f (b := (q13 = (0 : Int32))) c15) ?_
                  refine R_ic (v := 1) d133_77 (by decide) ?_
                  refine R_br 82 d133_78 rfl rfl ?_
                  cases h
                  exact R_iret d133_82 rfl rfl rfl
def r132 : Nat → Int32 → Int32 → Int32 → Int32 → mS → Option (Int32)
  | 0, _, _, _, _, _ => none
  | k + 1, v1, v2, v3, v4, s =>
    (if ((s.2.2.1 15) ≤ v4) then
        some v3
      else
        (if ((0 : Int32) ≤ v3) then
          r132 k v1 v2 v3 (v4 + Int32.ofInt 1) s
        else
          (f133 k v1 v2 v4 s).bind fun q3 => (if (q3 = (0 : Int32)) then
            r132 k v1 v2 v3 (v4 + Int32.ofInt 1) s
          else
            r132 k v1 v2 v4 (v4 + Int32.ofInt 1) s)))
theorem s132 {S : mE} {ex : mHp} (k : Nat) : (∀ (v1 : Int32) (v2 : Int32) (v3 : Int32) (v4 : Int32) (s : mS) (r : Int32), r132 k v1 v2 v3 v4 s = some r → Run S 132 (5, [(0, .ref 42), (1, .int v1), (2, .int v2), (3, .int v3), (4, .int v4)], [], hp s ex) (.inl (some (.int r)), hp s ex)) := by
  induction k with
  | zero => intro v1 v2 v3 v4 s r h; cases h
  | succ k ih =>
    intro v1 v2 v3 v4 s r h
    rw [r132] at h
    refine R_p d132_5 rfl rfl ?_
    refine R_p d132_7 rfl rfl ?_
    refine R_get d132_8 (Or.inl (List.mem_of_getElem? (i := 49) rfl)) (hg42 _ _) rfl ?_
    rcases ite_some h with ⟨c1, h⟩ | ⟨c1, h⟩
    · refine R_br 42 d132_11 (mb_t (b := ((s.2.2.1 15) ≤ v4)) c1) rfl ?_
      refine R_p d132_42 rfl rfl ?_
      cases h
      exact R_iret d132_43 rfl rfl rfl
    · refine R_nb d132_11 rfl (mb_f (b := ((s.2.2.1 15) ≤ v4)) c1) ?_
      refine R_p d132_14 rfl rfl ?_
      rcases ite_some h with ⟨c2, h⟩ | ⟨c2, h⟩
      · refine R_br 34 d132_15 (mb_t (b := ((0 : Int32) ≤ v3)) c2) rfl ?_
        refine R_p d132_34 rfl rfl ?_
        refine R_p (ls' := [(0, .ref 42), (1, .int v1), (2, .int v2), (3, .int v3), (4, .int v4)]) d132_35 rfl rfl ?_
        refine R_p (ls' := [(0, .ref 42), (1, .int v1), (2, .int v2), (3, .int v3), (4, .int (v4 + Int32.ofInt 1))]) d132_36 rfl rfl ?_
        refine R_br 5 d132_39 rfl rfl ?_
        exact ih v1 v2 v3 (v4 + Int32.ofInt 1) s _ h
      · refine R_nb d132_15 rfl (mb_f (b := ((0 : Int32) ≤ v3)) c2) ?_
        refine R_p d132_18 rfl rfl ?_
        refine R_p d132_19 rfl rfl ?_
        refine R_p d132_20 rfl rfl ?_
        refine R_p d132_21 rfl rfl ?_
        obtain ⟨q3, e4, h⟩ := bd_some h
        refine R_cm [.int v1, .int v2, .int v4] d132_23 (List.mem_of_getElem? (i := 180) rfl) rfl ⟨by decide, by decide, Nat.le_of_ble_eq_true rfl, rfl, mcd133⟩ rfl rfl (Nat.le_of_ble_eq_true rfl) (hg42 _ _) rfl (t_f133 e4) ?_
        rcases ite_some h with ⟨c5, h⟩ | ⟨c5, h⟩
        · refine R_br 34 d132_26 (mb_t (b := (q3 = (0 : Int32))) c5) rfl ?_
          refine R_p d132_34 rfl rfl ?_
          refine R_p (ls' := [(0, .ref 42), (1, .int v1), (2, .int v2), (3, .int v3), (4, .int v4)]) d132_35 rfl rfl ?_
          refine R_p (ls' := [(0, .ref 42), (1, .int v1), (2, .int v2), (3, .int v3), (4, .int (v4 + Int32.ofInt 1))]) d132_36 rfl rfl ?_
          refine R_br 5 d132_39 rfl rfl ?_
          exact ih v1 v2 v3 (v4 + Int32.ofInt 1) s _ h
        · refine R_nb d132_26 rfl (mb_f (b := (q3 = (0 : Int32))) c5) ?_
          refine R_p d132_29 rfl rfl ?_
          refine R_br 35 d132_31 rfl rfl ?_
          refine R_p (ls' := [(0, .ref 42), (1, .int v1), (2, .int v2), (3, .int v4), (4, .int v4)]) d132_35 rfl rfl ?_
          refine R_p (ls' := [(0, .ref 42), (1, .int v1), (2, .int v2), (3, .int v4), (4, .int (v4 + Int32.ofInt 1))]) d132_36 rfl rfl ?_
          refine R_br 5 d132_39 rfl rfl ?_
          exact ih v1 v2 v4 (v4 + Int32.ofInt 1) s _ h
def f132 (k : Nat) (v1 : Int32) (v2 : Int32) (s : mS) : Option (Int32) :=
  r132 k v1 v2 (-1) 0 s
theorem t_f132 {S : mE} {ex : mHp} {k : Nat} {v1 : Int32} {v2 : Int32} {s : mS} {r : Int32} (h : f132 k v1 v2 s = some r) : Run S 132 (0, [(0, .ref 42), (1, .int v1), (2, .int v2)], [], hp s ex) (.inl (some (.int r)), hp s ex) := by
  unfold f132 at h
  refine R_ic (v := (-1)) d132_0 (by decide) ?_
  refine R_p (ls' := [(0, .ref 42), (1, .int v1), (2, .int v2), (3, .int (-1))]) d132_1 rfl rfl ?_
  refine R_ic (v := 0) d132_2 (by decide) ?_
  refine R_p (ls' := [(0, .ref 42), (1, .int v1), (2, .int v2), (3, .int (-1)), (4, .int 0)]) d132_3 rfl rfl ?_
  exact s132 (S := S) (ex := ex) k v1 v2 (-1) 0 s _ h
def f136 (v1 : Int64) (v3 : Int64) (s : mS) : Option (mS) :=
  pt (uG 3 ((((s.2.2.2 3) + ((v1 >>> (Int32.toInt64 32 &&& 63)) * (v3 >>> (Int32.toInt64 32 &&& 63)))) + ((((v1 >>> (Int32.toInt64 32 &&& 63)) * (v3 &&& (4294967295 : Int64))) + (Int64.toUInt64 ((v1 &&& (4294967295 : Int64)) * (v3 &&& (4294967295 : Int64))) >>> (Int64.toUInt64 (Int32.toInt64 32) &&& Int64.toUInt64 63)).toInt64) >>> (Int32.toInt64 32 &&& 63))) + ((((((v1 >>> (Int32.toInt64 32 &&& 63)) * (v3 &&& (4294967295 : Int64))) + (Int64.toUInt64 ((v1 &&& (4294967295 : Int64)) * (v3 &&& (4294967295 : Int64))) >>> (Int64.toUInt64 (Int32.toInt64 32) &&& Int64.toUInt64 63)).toInt64) &&& (4294967295 : Int64)) + ((v1 &&& (4294967295 : Int64)) * (v3 >>> (Int32.toInt64 32 &&& 63)))) >>> (Int32.toInt64 32 &&& 63))) s) fun s1 => pt (uG 4 ((s1.2.2.2 4) + (v1 * v3)) s1) fun s3 => (if (((v1 * v3) ^^^ (-9223372036854775808 : Int64)) ≤ ((s3.2.2.2 4) ^^^ (-9223372036854775808 : Int64))) then
    pt (uG 3 (s3.2.2.2 3) s3) fun s6 => some s6
  else
    pt (uG 3 ((s3.2.2.2 3) + (1 : Int64)) s3) fun s8 => some s8)
theorem t_f136 {S : mE} {ex : mHp} {v1 : Int64} {v3 : Int64} {s : mS} {r : mS} (h : f136 v1 v3 s = some r) : Run S 136 (0, [(0, .ref 42), (1, .long v1), (3, .long v3)], [], hp s ex) (.inl none, hp r ex) := by
  unfold f136 at h
  refine R_p d136_0 rfl rfl ?_
  refine R_p d136_1 rfl rfl ?_
  refine R_p d136_2 rfl rfl ?_
  refine R_p (ls' := [(0, .ref 42), (1, .long v1), (3, .long v3), (5, .long (v1 * v3))]) d136_3 rfl rfl ?_
  refine R_p d136_5 rfl rfl ?_
  refine R_cl (v := 4294967295) 1044 d136_6 (List.mem_of_getElem? (i := 3) rfl) ?_
  refine R_p d136_9 rfl rfl ?_
  refine R_p (ls' := [(0, .ref 42), (1, .long v1), (3, .long v3), (5, .long (v1 * v3)), (7, .long (v1 &&& (4294967295 : Int64)))]) d136_10 rfl rfl ?_
  refine R_p d136_12 rfl rfl ?_
  refine R_cl (v := 4294967295) 1044 d136_13 (List.mem_of_getElem? (i := 3) rfl) ?_
  refine R_p d136_16 rfl rfl ?_
  refine R_p (ls' := [(0, .ref 42), (1, .long v1), (3, .long v3), (5, .long (v1 * v3)), (7, .long (v1 &&& (4294967295 : Int64))), (9, .long (v3 &&& (4294967295 : Int64)))]) d136_17 rfl rfl ?_
  refine R_p d136_19 rfl rfl ?_
  refine R_bi (v := 32) d136_20 (by decide) ?_
  refine R_p d136_22 rfl rfl ?_
  refine R_p d136_23 rfl rfl ?_
  refine R_p d136_25 rfl rfl ?_
  refine R_p d136_26 rfl rfl ?_
  refine R_p d136_28 rfl rfl ?_
  refine R_p d136_30 rfl rfl ?_
  refine R_bi (v := 32) d136_31 (by decide) ?_
  refine R_p d136_33 rfl rfl ?_
  refine R_p d136_34 rfl rfl ?_
  refine R_p (ls' := [(0, .ref 42), (1, .long v1), (3, .long v3), (5, .long (v1 * v3)), (7, .long (v1 &&& (4294967295 : Int64))), (9, .long (v3 &&& (4294967295 : Int64))), (11, .long (((v1 >>> (Int32.toInt64 32 &&& 63)) * (v3 &&& (4294967295 : Int64))) + (Int64.toUInt64 ((v1 &&& (4294967295 : Int64)) * (v3 &&& (4294967295 : Int64))) >>> (Int64.toUInt64 (Int32.toInt64 32) &&& Int64.toUInt64 63)).toInt64))]) d136_35 rfl rfl ?_
  refine R_p d136_37 rfl rfl ?_
  refine R_cl (v := 4294967295) 1044 d136_39 (List.mem_of_getElem? (i := 3) rfl) ?_
  refine R_p d136_42 rfl rfl ?_
  refine R_p d136_43 rfl rfl ?_
  refine R_p d136_45 rfl rfl ?_
  refine R_bi (v := 32) d136_46 (by decide) ?_
  refine R_p d136_48 rfl rfl ?_
  refine R_p d136_49 rfl rfl ?_
  refine R_p d136_50 rfl rfl ?_
  refine R_p (ls' := [(0, .ref 42), (1, .long v1), (3, .long v3), (5, .long (v1 * v3)), (7, .long (v1 &&& (4294967295 : Int64))), (9, .long (v3 &&& (4294967295 : Int64))), (11, .long (((v1 >>> (Int32.toInt64 32 &&& 63)) * (v3 &&& (4294967295 : Int64))) + (Int64.toUInt64 ((v1 &&& (4294967295 : Int64)) * (v3 &&& (4294967295 : Int64))) >>> (Int64.toUInt64 (Int32.toInt64 32) &&& Int64.toUInt64 63)).toInt64)), (13, .long (((((v1 >>> (Int32.toInt64 32 &&& 63)) * (v3 &&& (4294967295 : Int64))) + (Int64.toUInt64 ((v1 &&& (4294967295 : Int64)) * (v3 &&& (4294967295 : Int64))) >>> (Int64.toUInt64 (Int32.toInt64 32) &&& Int64.toUInt64 63)).toInt64) &&& (4294967295 : Int64)) + ((v1 &&& (4294967295 : Int64)) * (v3 >>> (Int32.toInt64 32 &&& 63)))))]) d136_51 rfl rfl ?_
  refine R_p d136_53 rfl rfl ?_
  refine R_p d136_54 rfl rfl ?_
  refine R_get d136_55 (Or.inl (List.mem_of_getElem? (i := 64) rfl)) (hg42 _ _) rfl ?_
  refine R_p d136_58 rfl rfl ?_
  refine R_bi (v := 32) d136_59 (by decide) ?_
  refine R_p d136_61 rfl rfl ?_
  refine R_p d136_62 rfl rfl ?_
  refine R_bi (v := 32) d136_63 (by decide) ?_
  refine R_p d136_65 rfl rfl ?_
  refine R_p d136_66 rfl rfl ?_
  refine R_p d136_67 rfl rfl ?_
  refine R_p d136_68 rfl rfl ?_
  refine R_bi (v := 32) d136_70 (by decide) ?_
  refine R_p d136_72 rfl rfl ?_
  refine R_p d136_73 rfl rfl ?_
  refine R_p d136_74 rfl rfl ?_
  refine R_bi (v := 32) d136_76 (by decide) ?_
  refine R_p d136_78 rfl rfl ?_
  refine R_p d136_79 rfl rfl ?_
  obtain ⟨s1, e2, h⟩ := pt_some h
  refine R_put d136_80 (List.mem_of_getElem? (i := 64) rfl) (hg42 _ _) (Nat.le_of_ble_eq_true rfl) rfl rfl (Or.inl rfl) ?_
  refine R_h (hp s1 ex) (by rw [e2]; exact hG3 _ _ _) ?_
  refine R_p d136_83 rfl rfl ?_
  refine R_p d136_84 rfl rfl ?_
  refine R_get d136_85 (Or.inl (List.mem_of_getElem? (i := 65) rfl)) (hg42 _ _) rfl ?_
  refine R_p d136_88 rfl rfl ?_
  refine R_p d136_90 rfl rfl ?_
  obtain ⟨s3, e4, h⟩ := pt_some h
  refine R_put d136_91 (List.mem_of_getElem? (i := 65) rfl) (hg42 _ _) (Nat.le_of_ble_eq_true rfl) rfl rfl (Or.inl rfl) ?_
  refine R_h (hp s3 ex) (by rw [e4]; exact hG4 _ _ _) ?_
  refine R_p d136_94 rfl rfl ?_
  refine R_p d136_95 rfl rfl ?_
  refine R_get d136_96 (Or.inl (List.mem_of_getElem? (i := 65) rfl)) (hg42 _ _) rfl ?_
  refine R_cl (v := (-9223372036854775808)) 1045 d136_99 (List.mem_of_getElem? (i := 4) rfl) ?_
  refine R_p d136_102 rfl rfl ?_
  refine R_p d136_103 rfl rfl ?_
  refine R_cl (v := (-9223372036854775808)) 1045 d136_105 (List.mem_of_getElem? (i := 4) rfl) ?_
  refine R_p d136_108 rfl rfl ?_
  refine R_p d136_109 rfl rfl ?_
  rcases ite_some h with ⟨c5, h⟩ | ⟨c5, h⟩
  · refine R_br 122 d136_110 (mb_t (b := ((0 : Int32) ≤ (lg_cmp ((s3.2.2.2 4) ^^^ (-9223372036854775808 : Int64)) ((v1 * v3) ^^^ (-9223372036854775808 : Int64))))) (lgc_ge.mpr c5)) rfl ?_
    refine R_p d136_122 rfl rfl ?_
    refine R_get d136_123 (Or.inl (List.mem_of_getElem? (i := 64) rfl)) (hg42 _ _) rfl ?_
    obtain ⟨s6, e7, h⟩ := pt_some h
    refine R_put d136_126 (List.mem_of_getElem? (i := 64) rfl) (hg42 _ _) (Nat.le_of_ble_eq_true rfl) rfl rfl (Or.inl rfl) ?_
    refine R_h (hp s6 ex) (by rw [e7]; exact hG3 _ _ _) ?_
    cases h
    exact R_vret d136_129 rfl rfl
  · refine R_nb d136_110 rfl (mb_f (b := ((0 : Int32) ≤ (lg_cmp ((s3.2.2.2 4) ^^^ (-9223372036854775808 : Int64)) ((v1 * v3) ^^^ (-9223372036854775808 : Int64))))) (fun q => c5 (lgc_ge.mp q))) ?_
    refine R_p d136_113 rfl rfl ?_
    refine R_get d136_114 (Or.inl (List.mem_of_getElem? (i := 64) rfl)) (hg42 _ _) rfl ?_
    refine R_lc (v := 1) d136_117 (by decide) ?_
    refine R_p d136_118 rfl rfl ?_
    refine R_br 126 d136_119 rfl rfl ?_
    obtain ⟨s8, e9, h⟩ := pt_some h
    refine R_put d136_126 (List.mem_of_getElem? (i := 64) rfl) (hg42 _ _) (Nat.le_of_ble_eq_true rfl) rfl rfl (Or.inl rfl) ?_
    refine R_h (hp s8 ex) (by rw [e9]; exact hG3 _ _ _) ?_
    cases h
    exact R_vret d136_129 rfl rfl
def f135 (v1 : Int32) (v2 : Int32) (v3 : Int32) (v4 : Int32) (s : mS) : Option (Int32 × mS) :=
  rdI 42 v1 (rdI 42 v4 (rdI 42 v1 (rdI 42 v4 (rdI 42 v2 (rdI 42 v4 (rdI 42 v2 (rdI 42 v4 (rdI 42 v3 (rdI 42 v4 (rdI 42 v3 (rdI 42 v4 (pt (uG 3 (0 : Int64) s) fun s13 => pt (uG 4 (0 : Int64) s13) fun s15 => (f136 ((((s.2.1 43 (Int32.toNatClampNeg v1)) - (s.2.1 43 (Int32.toNatClampNeg v4))) * ((s.2.1 43 (Int32.toNatClampNeg v1)) - (s.2.1 43 (Int32.toNatClampNeg v4)))) + (((s.2.1 44 (Int32.toNatClampNeg v1)) - (s.2.1 44 (Int32.toNatClampNeg v4))) * ((s.2.1 44 (Int32.toNatClampNeg v1)) - (s.2.1 44 (Int32.toNatClampNeg v4))))) ((((s.2.1 43 (Int32.toNatClampNeg v2)) - (s.2.1 43 (Int32.toNatClampNeg v4))) * ((s.2.1 44 (Int32.toNatClampNeg v3)) - (s.2.1 44 (Int32.toNatClampNeg v4)))) - (((s.2.1 44 (Int32.toNatClampNeg v2)) - (s.2.1 44 (Int32.toNatClampNeg v4))) * ((s.2.1 43 (Int32.toNatClampNeg v3)) - (s.2.1 43 (Int32.toNatClampNeg v4))))) s15).bind fun q17 => (f136 ((((s.2.1 43 (Int32.toNatClampNeg v2)) - (s.2.1 43 (Int32.toNatClampNeg v4))) * ((s.2.1 43 (Int32.toNatClampNeg v2)) - (s.2.1 43 (Int32.toNatClampNeg v4)))) + (((s.2.1 44 (Int32.toNatClampNeg v2)) - (s.2.1 44 (Int32.toNatClampNeg v4))) * ((s.2.1 44 (Int32.toNatClampNeg v2)) - (s.2.1 44 (Int32.toNatClampNeg v4))))) ((((s.2.1 43 (Int32.toNatClampNeg v3)) - (s.2.1 43 (Int32.toNatClampNeg v4))) * ((s.2.1 44 (Int32.toNatClampNeg v1)) - (s.2.1 44 (Int32.toNatClampNeg v4)))) - (((s.2.1 44 (Int32.toNatClampNeg v3)) - (s.2.1 44 (Int32.toNatClampNeg v4))) * ((s.2.1 43 (Int32.toNatClampNeg v1)) - (s.2.1 43 (Int32.toNatClampNeg v4))))) q17).bind fun q19 => (f136 ((((s.2.1 43 (Int32.toNatClampNeg v3)) - (s.2.1 43 (Int32.toNatClampNeg v4))) * ((s.2.1 43 (Int32.toNatClampNeg v3)) - (s.2.1 43 (Int32.toNatClampNeg v4)))) + (((s.2.1 44 (Int32.toNatClampNeg v3)) - (s.2.1 44 (Int32.toNatClampNeg v4))) * ((s.2.1 44 (Int32.toNatClampNeg v3)) - (s.2.1 44 (Int32.toNatClampNeg v4))))) ((((s.2.1 43 (Int32.toNatClampNeg v1)) - (s.2.1 43 (Int32.toNatClampNeg v4))) * ((s.2.1 44 (Int32.toNatClampNeg v2)) - (s.2.1 44 (Int32.toNatClampNeg v4)))) - (((s.2.1 44 (Int32.toNatClampNeg v1)) - (s.2.1 44 (Int32.toNatClampNeg v4))) * ((s.2.1 43 (Int32.toNatClampNeg v2)) - (s.2.1 43 (Int32.toNatClampNeg v4))))) q19).bind fun q21 => (if ((0 : Int64) ≤ (q21.2.2.2 3)) then
    (if (¬ (q21.2.2.2 3) = (0 : Int64)) then
      some ((1 : Int32), q21)
    else
      (if (¬ (q21.2.2.2 4) = (0 : Int64)) then
        some ((1 : Int32), q21)
      else
        some ((0 : Int32), q21)))
  else
    some ((-1 : Int32), q21))))))))))))))
theorem t_f135 {S : mE} {ex : mHp} {v1 : Int32} {v2 : Int32} {v3 : Int32} {v4 : Int32} {s : mS} {r : Int32 × mS} (h : f135 v1 v2 v3 v4 s = some r) : Run S 135 (0, [(0, .ref 42), (1, .int v1), (2, .int v2), (3, .int v3), (4, .int v4)], [], hp s ex) (.inl (some (.int r.1)), hp r.2 ex) := by
  unfold f135 at h
  refine R_p d135_0 rfl rfl ?_
  refine R_get d135_1 (Or.inl (List.mem_of_getElem? (i := 50) rfl)) (hg42 _ _) rfl ?_
  refine R_p d135_4 rfl rfl ?_
  obtain ⟨c1, h⟩ := rdI_some h
  refine R_lld d135_5 (hg43 _ _) c1 ?_
  refine R_p d135_6 rfl rfl ?_
  refine R_get d135_7 (Or.inl (List.mem_of_getElem? (i := 50) rfl)) (hg42 _ _) rfl ?_
  refine R_p d135_10 rfl rfl ?_
  obtain ⟨c2, h⟩ := rdI_some h
  refine R_lld d135_12 (hg43 _ _) c2 ?_
  refine R_p d135_13 rfl rfl ?_
  refine R_p (ls' := [(0, .ref 42), (1, .int v1), (2, .int v2), (3, .int v3), (4, .int v4), (5, .long ((s.2.1 43 (Int32.toNatClampNeg v1)) - (s.2.1 43 (Int32.toNatClampNeg v4))))]) d135_14 rfl rfl ?_
  refine R_p d135_16 rfl rfl ?_
  refine R_get d135_17 (Or.inl (List.mem_of_getElem? (i := 51) rfl)) (hg42 _ _) rfl ?_
  refine R_p d135_20 rfl rfl ?_
  obtain ⟨c3, h⟩ := rdI_some h
  refine R_lld d135_21 (hg44 _ _) c3 ?_
  refine R_p d135_22 rfl rfl ?_
  refine R_get d135_23 (Or.inl (List.mem_of_getElem? (i := 51) rfl)) (hg42 _ _) rfl ?_
  refine R_p d135_26 rfl rfl ?_
  obtain ⟨c4, h⟩ := rdI_some h
  refine R_lld d135_28 (hg44 _ _) c4 ?_
  refine R_p d135_29 rfl rfl ?_
  refine R_p (ls' := [(0, .ref 42), (1, .int v1), (2, .int v2), (3, .int v3), (4, .int v4), (5, .long ((s.2.1 43 (Int32.toNatClampNeg v1)) - (s.2.1 43 (Int32.toNatClampNeg v4)))), (7, .long ((s.2.1 44 (Int32.toNatClampNeg v1)) - (s.2.1 44 (Int32.toNatClampNeg v4))))]) d135_30 rfl rfl ?_
  refine R_p d135_32 rfl rfl ?_
  refine R_get d135_33 (Or.inl (List.mem_of_getElem? (i := 50) rfl)) (hg42 _ _) rfl ?_
  refine R_p d135_36 rfl rfl ?_
  obtain ⟨c5, h⟩ := rdI_some h
  refine R_lld d135_37 (hg43 _ _) c5 ?_
  refine R_p d135_38 rfl rfl ?_
  refine R_get d135_39 (Or.inl (List.mem_of_getElem? (i := 50) rfl)) (hg42 _ _) rfl ?_
  refine R_p d135_42 rfl rfl ?_
  obtain ⟨c6, h⟩ := rdI_some h
  refine R_lld d135_44 (hg43 _ _) c6 ?_
  refine R_p d135_45 rfl rfl ?_
  refine R_p (ls' := [(0, .ref 42), (1, .int v1), (2, .int v2), (3, .int v3), (4, .int v4), (5, .long ((s.2.1 43 (Int32.toNatClampNeg v1)) - (s.2.1 43 (Int32.toNatClampNeg v4)))), (7, .long ((s.2.1 44 (Int32.toNatClampNeg v1)) - (s.2.1 44 (Int32.toNatClampNeg v4)))), (9, .long ((s.2.1 43 (Int32.toNatClampNeg v2)) - (s.2.1 43 (Int32.toNatClampNeg v4))))]) d135_46 rfl rfl ?_
  refine R_p d135_48 rfl rfl ?_
  refine R_get d135_49 (Or.inl (List.mem_of_getElem? (i := 51) rfl)) (hg42 _ _) rfl ?_
  refine R_p d135_52 rfl rfl ?_
  obtain ⟨c7, h⟩ := rdI_some h
  refine R_lld d135_53 (hg44 _ _) c7 ?_
  refine R_p d135_54 rfl rfl ?_
  refine R_get d135_55 (Or.inl (List.mem_of_getElem? (i := 51) rfl)) (hg42 _ _) rfl ?_
  refine R_p d135_58 rfl rfl ?_
  obtain ⟨c8, h⟩ := rdI_some h
  refine R_lld d135_60 (hg44 _ _) c8 ?_
  refine R_p d135_61 rfl rfl ?_
  refine R_p (ls' := [(0, .ref 42), (1, .int v1), (2, .int v2), (3, .int v3), (4, .int v4), (5, .long ((s.2.1 43 (Int32.toNatClampNeg v1)) - (s.2.1 43 (Int32.toNatClampNeg v4)))), (7, .long ((s.2.1 44 (Int32.toNatClampNeg v1)) - (s.2.1 44 (Int32.toNatClampNeg v4)))), (9, .long ((s.2.1 43 (Int32.toNatClampNeg v2)) - (s.2.1 43 (Int32.toNatClampNeg v4)))), (11, .long ((s.2.1 44 (Int32.toNatClampNeg v2)) - (s.2.1 44 (Int32.toNatClampNeg v4))))]) d135_62 rfl rfl ?_
  refine R_p d135_64 rfl rfl ?_
  refine R_get d135_65 (Or.inl (List.mem_of_getElem? (i := 50) rfl)) (hg42 _ _) rfl ?_
  refine R_p d135_68 rfl rfl ?_
  obtain ⟨c9, h⟩ := rdI_some h
  refine R_lld d135_69 (hg43 _ _) c9 ?_
  refine R_p d135_70 rfl rfl ?_
  refine R_get d135_71 (Or.inl (List.mem_of_getElem? (i := 50) rfl)) (hg42 _ _) rfl ?_
  refine R_p d135_74 rfl rfl ?_
  obtain ⟨c10, h⟩ := rdI_some h
  refine R_lld d135_76 (hg43 _ _) c10 ?_
  refine R_p d135_77 rfl rfl ?_
  refine R_p (ls' := [(0, .ref 42), (1, .int v1), (2, .int v2), (3, .int v3), (4, .int v4), (5, .long ((s.2.1 43 (Int32.toNatClampNeg v1)) - (s.2.1 43 (Int32.toNatClampNeg v4)))), (7, .long ((s.2.1 44 (Int32.toNatClampNeg v1)) - (s.2.1 44 (Int32.toNatClampNeg v4)))), (9, .long ((s.2.1 43 (Int32.toNatClampNeg v2)) - (s.2.1 43 (Int32.toNatClampNeg v4)))), (11, .long ((s.2.1 44 (Int32.toNatClampNeg v2)) - (s.2.1 44 (Int32.toNatClampNeg v4)))), (13, .long ((s.2.1 43 (Int32.toNatClampNeg v3)) - (s.2.1 43 (Int32.toNatClampNeg v4))))]) d135_78 rfl rfl ?_
  refine R_p d135_80 rfl rfl ?_
  refine R_get d135_81 (Or.inl (List.mem_of_getElem? (i := 51) rfl)) (hg42 _ _) rfl ?_
  refine R_p d135_84 rfl rfl ?_
  obtain ⟨c11, h⟩ := rdI_some h
  refine R_lld d135_85 (hg44 _ _) c11 ?_
  refine R_p d135_86 rfl rfl ?_
  refine R_get d135_87 (Or.inl (List.mem_of_getElem? (i := 51) rfl)) (hg42 _ _) rfl ?_
  refine R_p d135_90 rfl rfl ?_
  obtain ⟨c12, h⟩ := rdI_some h
  refine R_lld d135_92 (hg44 _ _) c12 ?_
  refine R_p d135_93 rfl rfl ?_
  refine R_p (ls' := [(0, .ref 42), (1, .int v1), (2, .int v2), (3, .int v3), (4, .int v4), (5, .long ((s.2.1 43 (Int32.toNatClampNeg v1)) - (s.2.1 43 (Int32.toNatClampNeg v4)))), (7, .long ((s.2.1 44 (Int32.toNatClampNeg v1)) - (s.2.1 44 (Int32.toNatClampNeg v4)))), (9, .long ((s.2.1 43 (Int32.toNatClampNeg v2)) - (s.2.1 43 (Int32.toNatClampNeg v4)))), (11, .long ((s.2.1 44 (Int32.toNatClampNeg v2)) - (s.2.1 44 (Int32.toNatClampNeg v4)))), (13, .long ((s.2.1 43 (Int32.toNatClampNeg v3)) - (s.2.1 43 (Int32.toNatClampNeg v4)))), (15, .long ((s.2.1 44 (Int32.toNatClampNeg v3)) - (s.2.1 44 (Int32.toNatClampNeg v4))))]) d135_94 rfl rfl ?_
  refine R_p d135_96 rfl rfl ?_
  refine R_lc (v := 0) d135_97 (by decide) ?_
  obtain ⟨s13, e14, h⟩ := pt_some h
  refine R_put d135_98 (List.mem_of_getElem? (i := 64) rfl) (hg42 _ _) (Nat.le_of_ble_eq_true rfl) rfl rfl (Or.inl rfl) ?_
  refine R_h (hp s13 ex) (by rw [e14]; exact hG3 _ _ _) ?_
  refine R_p d135_101 rfl rfl ?_
  refine R_lc (v := 0) d135_102 (by decide) ?_
  obtain ⟨s15, e16, h⟩ := pt_some h
  refine R_put d135_103 (List.mem_of_getElem? (i := 65) rfl) (hg42 _ _) (Nat.le_of_ble_eq_true rfl) rfl rfl (Or.inl rfl) ?_
  refine R_h (hp s15 ex) (by rw [e16]; exact hG4 _ _ _) ?_
  refine R_p d135_106 rfl rfl ?_
  refine R_p d135_107 rfl rfl ?_
  refine R_p d135_109 rfl rfl ?_
  refine R_p d135_111 rfl rfl ?_
  refine R_p d135_112 rfl rfl ?_
  refine R_p d135_114 rfl rfl ?_
  refine R_p d135_116 rfl rfl ?_
  refine R_p d135_117 rfl rfl ?_
  refine R_p d135_118 rfl rfl ?_
  refine R_p d135_120 rfl rfl ?_
  refine R_p d135_122 rfl rfl ?_
  refine R_p d135_123 rfl rfl ?_
  refine R_p d135_125 rfl rfl ?_
  refine R_p d135_127 rfl rfl ?_
  refine R_p d135_128 rfl rfl ?_
  obtain ⟨q17, e18, h⟩ := bd_some h
  refine R_cm [.long ((((s.2.1 43 (Int32.toNatClampNeg v1)) - (s.2.1 43 (Int32.toNatClampNeg v4))) * ((s.2.1 43 (Int32.toNatClampNeg v1)) - (s.2.1 43 (Int32.toNatClampNeg v4)))) + (((s.2.1 44 (Int32.toNatClampNeg v1)) - (s.2.1 44 (Int32.toNatClampNeg v4))) * ((s.2.1 44 (Int32.toNatClampNeg v1)) - (s.2.1 44 (Int32.toNatClampNeg v4))))), .long ((((s.2.1 43 (Int32.toNatClampNeg v2)) - (s.2.1 43 (Int32.toNatClampNeg v4))) * ((s.2.1 44 (Int32.toNatClampNeg v3)) - (s.2.1 44 (Int32.toNatClampNeg v4)))) - (((s.2.1 44 (Int32.toNatClampNeg v2)) - (s.2.1 44 (Int32.toNatClampNeg v4))) * ((s.2.1 43 (Int32.toNatClampNeg v3)) - (s.2.1 43 (Int32.toNatClampNeg v4)))))] d135_129 (List.mem_of_getElem? (i := 183) rfl) rfl ⟨by decide, by decide, Nat.le_of_ble_eq_true rfl, rfl, mcd136⟩ rfl rfl (Nat.le_of_ble_eq_true rfl) (hg42 _ _) rfl (t_f136 e18) ?_
  refine R_p d135_132 rfl rfl ?_
  refine R_p d135_133 rfl rfl ?_
  refine R_p d135_135 rfl rfl ?_
  refine R_p d135_137 rfl rfl ?_
  refine R_p d135_138 rfl rfl ?_
  refine R_p d135_140 rfl rfl ?_
  refine R_p d135_142 rfl rfl ?_
  refine R_p d135_143 rfl rfl ?_
  refine R_p d135_144 rfl rfl ?_
  refine R_p d135_146 rfl rfl ?_
  refine R_p d135_148 rfl rfl ?_
  refine R_p d135_149 rfl rfl ?_
  refine R_p d135_151 rfl rfl ?_
  refine R_p d135_153 rfl rfl ?_
  refine R_p d135_154 rfl rfl ?_
  obtain ⟨q19, e20, h⟩ := bd_some h
  refine R_cm [.long ((((s.2.1 43 (Int32.toNatClampNeg v2)) - (s.2.1 43 (Int32.toNatClampNeg v4))) * ((s.2.1 43 (Int32.toNatClampNeg v2)) - (s.2.1 43 (Int32.toNatClampNeg v4)))) + (((s.2.1 44 (Int32.toNatClampNeg v2)) - (s.2.1 44 (Int32.toNatClampNeg v4))) * ((s.2.1 44 (Int32.toNatClampNeg v2)) - (s.2.1 44 (Int32.toNatClampNeg v4))))), .long ((((s.2.1 43 (Int32.toNatClampNeg v3)) - (s.2.1 43 (Int32.toNatClampNeg v4))) * ((s.2.1 44 (Int32.toNatClampNeg v1)) - (s.2.1 44 (Int32.toNatClampNeg v4)))) - (((s.2.1 44 (Int32.toNatClampNeg v3)) - (s.2.1 44 (Int32.toNatClampNeg v4))) * ((s.2.1 43 (Int32.toNatClampNeg v1)) - (s.2.1 43 (Int32.toNatClampNeg v4)))))] d135_155 (List.mem_of_getElem? (i := 183) rfl) rfl ⟨by decide, by decide, Nat.le_of_ble_eq_true rfl, rfl, mcd136⟩ rfl rfl (Nat.le_of_ble_eq_true rfl) (hg42 _ _) rfl (t_f136 e20) ?_
  refine R_p d135_158 rfl rfl ?_
  refine R_p d135_159 rfl rfl ?_
  refine R_p d135_161 rfl rfl ?_
  refine R_p d135_163 rfl rfl ?_
  refine R_p d135_164 rfl rfl ?_
  refine R_p d135_166 rfl rfl ?_
  refine R_p d135_168 rfl rfl ?_
  refine R_p d135_169 rfl rfl ?_
  refine R_p d135_170 rfl rfl ?_
  refine R_p d135_172 rfl rfl ?_
  refine R_p d135_174 rfl rfl ?_
  refine R_p d135_175 rfl rfl ?_
  refine R_p d135_177 rfl rfl ?_
  refine R_p d135_179 rfl rfl ?_
  refine R_p d135_180 rfl rfl ?_
  obtain ⟨q21, e22, h⟩ := bd_some h
  refine R_cm [.long ((((s.2.1 43 (Int32.toNatClampNeg v3)) - (s.2.1 43 (Int32.toNatClampNeg v4))) * ((s.2.1 43 (Int32.toNatClampNeg v3)) - (s.2.1 43 (Int32.toNatClampNeg v4)))) + (((s.2.1 44 (Int32.toNatClampNeg v3)) - (s.2.1 44 (Int32.toNatClampNeg v4))) * ((s.2.1 44 (Int32.toNatClampNeg v3)) - (s.2.1 44 (Int32.toNatClampNeg v4))))), .long ((((s.2.1 43 (Int32.toNatClampNeg v1)) - (s.2.1 43 (Int32.toNatClampNeg v4))) * ((s.2.1 44 (Int32.toNatClampNeg v2)) - (s.2.1 44 (Int32.toNatClampNeg v4)))) - (((s.2.1 44 (Int32.toNatClampNeg v1)) - (s.2.1 44 (Int32.toNatClampNeg v4))) * ((s.2.1 43 (Int32.toNatClampNeg v2)) - (s.2.1 43 (Int32.toNatClampNeg v4)))))] d135_181 (List.mem_of_getElem? (i := 183) rfl) rfl ⟨by decide, by decide, Nat.le_of_ble_eq_true rfl, rfl, mcd136⟩ rfl rfl (Nat.le_of_ble_eq_true rfl) (hg42 _ _) rfl (t_f136 e22) ?_
  refine R_p d135_184 rfl rfl ?_
  refine R_get d135_185 (Or.inl (List.mem_of_getElem? (i := 64) rfl)) (hg42 _ _) rfl ?_
  refine R_lc (v := 0) d135_188 (by decide) ?_
  refine R_p d135_189 rfl rfl ?_
  rcases ite_some h with ⟨c23, h⟩ | ⟨c23, h⟩
  · refine R_br 197 d135_190 (mb_t (b := ((0 : Int32) ≤ (lg_cmp (q21.2.2.2 3) 0))) (lgc_ge.mpr c23)) rfl ?_
    refine R_p d135_197 rfl rfl ?_
    refine R_get d135_198 (Or.inl (List.mem_of_getElem? (i := 64) rfl)) (hg42 _ _) rfl ?_
    refine R_lc (v := 0) d135_201 (by decide) ?_
    refine R_p d135_202 rfl rfl ?_
    rcases ite_some h with ⟨c24, h⟩ | ⟨c24, h⟩
    · refine R_br 219 d135_203 (mb_t (b := (¬ (lg_cmp (q21.2.2.2 3) 0) = (0 : Int32))) (lgc_ne.mpr c24)) rfl ?_
      refine R_ic (v := 1) d135_219 (by decide) ?_
      cases h
      exact R_iret d135_220 rfl rfl rfl
    · refine R_nb d135_203 rfl (mb_f (b := (¬ (lg_cmp (q21.2.2.2 3) 0) = (0 : Int32))) (fun q => c24 (lgc_ne.mp q))) ?_
      refine R_p d135_206 rfl rfl ?_
      refine R_get d135_207 (Or.inl (List.mem_of_getElem? (i := 65) rfl)) (hg42 _ _) rfl ?_
      refine R_lc (v := 0) d135_210 (by decide) ?_
      refine R_p d135_211 rfl rfl ?_
      rcases ite_some h with ⟨c25, h⟩ | ⟨c25, h⟩
      · refine R_br 219 d135_212 (mb_t (b := (¬ (lg_cmp (q21.2.2.2 4) 0) = (0 : Int32))) (lgc_ne.mpr c25)) rfl ?_
        refine R_ic (v := 1) d135_219 (by decide) ?_
        cases h
        exact R_iret d135_220 rfl rfl rfl
      · refine R_nb d135_212 rfl (mb_f (b := (¬ (lg_cmp (q21.2.2.2 4) 0) = (0 : Int32))) (fun q => c25 (lgc_ne.mp q))) ?_
        refine R_ic (v := 0) d135_215 (by decide) ?_
        refine R_br 220 d135_216 rfl rfl ?_
        cases h
        exact R_iret d135_220 rfl rfl rfl
  · refine R_nb d135_190 rfl (mb_f (b := ((0 : Int32) ≤ (lg_cmp (q21.2.2.2 3) 0))) (fun q => c23 (lgc_ge.mp q))) ?_
    refine R_ic (v := (-1)) d135_193 (by decide) ?_
    refine R_br 220 d135_194 rfl rfl ?_
    cases h
    exact R_iret d135_220 rfl rfl rfl
def f137 (v0 : Int32) (v1 : Int32) (s : mS) : Option (Int32) :=
  (if (v1 ≤ v0) then
    some v1
  else
    some v0)
theorem t_f137 {S : mE} {ex : mHp} {v0 : Int32} {v1 : Int32} {s : mS} {r : Int32} (h : f137 v0 v1 s = some r) : Run S 137 (0, [(0, .int v0), (1, .int v1)], [], hp s ex) (.inl (some (.int r)), hp s ex) := by
  unfold f137 at h
  refine R_p d137_0 rfl rfl ?_
  refine R_p d137_1 rfl rfl ?_
  rcases ite_some h with ⟨c1, h⟩ | ⟨c1, h⟩
  · refine R_br 9 d137_2 (mb_t (b := (v1 ≤ v0)) c1) rfl ?_
    refine R_p d137_9 rfl rfl ?_
    cases h
    exact R_iret d137_10 rfl rfl rfl
  · refine R_nb d137_2 rfl (mb_f (b := (v1 ≤ v0)) c1) ?_
    refine R_p d137_5 rfl rfl ?_
    refine R_br 10 d137_6 rfl rfl ?_
    cases h
    exact R_iret d137_10 rfl rfl rfl
def f131 (k : Nat) (v1 : Int32) (v2 : Int32) (s : mS) : Option (Int32 × mS) :=
  (f132 k v1 v2 s).bind fun q1 => (f132 k v2 v1 s).bind fun q3 => (if (q1 < (0 : Int32)) then
    some ((0 : Int32), s)
  else
    (if ((0 : Int32) ≤ q3) then
      (f135 v1 v2 q1 q3 s).bind fun q7 => (f137 v1 v2 q7.2).bind fun q9 => (f137 q1 q3 q7.2).bind fun q11 => (f137 q9 q11 q7.2).bind fun q13 => (if (q7.1 < (0 : Int32)) then
        some ((0 : Int32), q7.2)
      else
        (if (¬ q7.1 = (0 : Int32)) then
          (f130 v1 v2 (0 : Int32) q7.2).bind fun q17 => (f130 q1 q3 (1 : Int32) q17).bind fun q19 => some ((1 : Int32), q19)
        else
          (if (q13 = v1) then
            some ((0 : Int32), q7.2)
          else
            (if (¬ q13 = v2) then
              (f130 v1 v2 (0 : Int32) q7.2).bind fun q23 => (f130 q1 q3 (1 : Int32) q23).bind fun q25 => some ((1 : Int32), q25)
            else
              some ((0 : Int32), q7.2)))))
    else
      some ((0 : Int32), s)))
theorem t_f131 {S : mE} {ex : mHp} {k : Nat} {v1 : Int32} {v2 : Int32} {s : mS} {r : Int32 × mS} (h : f131 k v1 v2 s = some r) : Run S 131 (0, [(0, .ref 42), (1, .int v1), (2, .int v2)], [], hp s ex) (.inl (some (.int r.1)), hp r.2 ex) := by
  unfold f131 at h
  refine R_p d131_0 rfl rfl ?_
  refine R_p d131_1 rfl rfl ?_
  refine R_p d131_2 rfl rfl ?_
  obtain ⟨q1, e2, h⟩ := bd_some h
  refine R_cm [.int v1, .int v2] d131_3 (List.mem_of_getElem? (i := 179) rfl) rfl ⟨by decide, by decide, Nat.le_of_ble_eq_true rfl, rfl, mcd132⟩ rfl rfl (Nat.le_of_ble_eq_true rfl) (hg42 _ _) rfl (t_f132 e2) ?_
  refine R_p (ls' := [(0, .ref 42), (1, .int v1), (2, .int v2), (3, .int q1)]) d131_6 rfl rfl ?_
  refine R_p d131_7 rfl rfl ?_
  refine R_p d131_8 rfl rfl ?_
  refine R_p d131_9 rfl rfl ?_
  obtain ⟨q3, e4, h⟩ := bd_some h
  refine R_cm [.int v2, .int v1] d131_10 (List.mem_of_getElem? (i := 179) rfl) rfl ⟨by decide, by decide, Nat.le_of_ble_eq_true rfl, rfl, mcd132⟩ rfl rfl (Nat.le_of_ble_eq_true rfl) (hg42 _ _) rfl (t_f132 e4) ?_
  refine R_p (ls' := [(0, .ref 42), (1, .int v1), (2, .int v2), (3, .int q1), (4, .int q3)]) d131_13 rfl rfl ?_
  refine R_p d131_15 rfl rfl ?_
  rcases ite_some h with ⟨c5, h⟩ | ⟨c5, h⟩
  · refine R_br 24 d131_16 (mb_t (b := (q1 < (0 : Int32))) c5) rfl ?_
    refine R_ic (v := 0) d131_24 (by decide) ?_
    cases h
    exact R_iret d131_25 rfl rfl rfl
  · refine R_nb d131_16 rfl (mb_f (b := (q1 < (0 : Int32))) c5) ?_
    refine R_p d131_19 rfl rfl ?_
    rcases ite_some h with ⟨c6, h⟩ | ⟨c6, h⟩
    · refine R_br 26 d131_21 (mb_t (b := ((0 : Int32) ≤ q3)) c6) rfl ?_
      refine R_p d131_26 rfl rfl ?_
      refine R_p d131_27 rfl rfl ?_
      refine R_p d131_28 rfl rfl ?_
      refine R_p d131_29 rfl rfl ?_
      refine R_p d131_30 rfl rfl ?_
      obtain ⟨q7, e8, h⟩ := bd_some h
      refine R_cm [.int v1, .int v2, .int q1, .int q3] d131_32 (List.mem_of_getElem? (i := 182) rfl) rfl ⟨by decide, by decide, Nat.le_of_ble_eq_true rfl, rfl, mcd135⟩ rfl rfl (Nat.le_of_ble_eq_true rfl) (hg42 _ _) rfl (t_f135 e8) ?_
      refine R_p (ls' := [(0, .ref 42), (1, .int v1), (2, .int v2), (3, .int q1), (4, .int q3), (5, .int q7.1)]) d131_35 rfl rfl ?_
      refine R_p d131_37 rfl rfl ?_
      refine R_p d131_38 rfl rfl ?_
      obtain ⟨q9, e10, h⟩ := bd_some h
      refine R_cs [.int v1, .int v2] d131_39 (List.mem_of_getElem? (i := 184) rfl) rfl ⟨by decide, by decide, Nat.le_of_ble_eq_true rfl, rfl, mcd137⟩ rfl rfl (Nat.le_of_ble_eq_true rfl) (t_f137 e10) ?_
      refine R_p d131_42 rfl rfl ?_
      refine R_p d131_43 rfl rfl ?_
      obtain ⟨q11, e12, h⟩ := bd_some h
      refine R_cs [.int q1, .int q3] d131_45 (List.mem_of_getElem? (i := 184) rfl) rfl ⟨by decide, by decide, Nat.le_of_ble_eq_true rfl, rfl, mcd137⟩ rfl rfl (Nat.le_of_ble_eq_true rfl) (t_f137 e12) ?_
      obtain ⟨q13, e14, h⟩ := bd_some h
      refine R_cs [.int q9, .int q11] d131_48 (List.mem_of_getElem? (i := 184) rfl) rfl ⟨by decide, by decide, Nat.le_of_ble_eq_true rfl, rfl, mcd137⟩ rfl rfl (Nat.le_of_ble_eq_true rfl) (t_f137 e14) ?_
      refine R_p (ls' := [(0, .ref 42), (1, .int v1), (2, .int v2), (3, .int q1), (4, .int q3), (5, .int q7.1), (6, .int q13)]) d131_51 rfl rfl ?_
      refine R_p d131_53 rfl rfl ?_
      rcases ite_some h with ⟨c15, h⟩ | ⟨c15, h⟩
      · refine R_br 75 d131_55 (mb_t (b := (q7.1 < (0 : Int32))) c15) rfl ?_
        refine R_ic (v := 0) d131_75 (by decide) ?_
        cases h
        exact R_iret d131_76 rfl rfl rfl
      · refine R_nb d131_55 rfl (mb_f (b := (q7.1 < (0 : Int32))) c15) ?_
        refine R_p d131_58 rfl rfl ?_
        rcases ite_some h with ⟨c16, h⟩ | ⟨c16, h⟩
        · refine R_br 77 d131_60 (mb_t (b := (¬ q7.1 = (0 : Int32))) c16) rfl ?_
          refine R_p d131_77 rfl rfl ?_
          refine R_p d131_78 rfl rfl ?_
          refine R_p d131_79 rfl rfl ?_
          refine R_ic (v := 0) d131_80 (by decide) ?_
          obtain ⟨q17, e18, h⟩ := bd_some h
          refine R_cm [.int v1, .int v2, .int 0] d131_81 (List.mem_of_getElem? (i := 177) rfl) rfl ⟨by decide, by decide, Nat.le_of_ble_eq_true rfl, rfl, mcd130⟩ rfl rfl (Nat.le_of_ble_eq_true rfl) (hg42 _ _) rfl (t_f130 e18) ?_
          refine R_p d131_84 rfl rfl ?_
          refine R_p d131_85 rfl rfl ?_
          refine R_p d131_86 rfl rfl ?_
          refine R_ic (v := 1) d131_88 (by decide) ?_
          obtain ⟨q19, e20, h⟩ := bd_some h
          refine R_cm [.int q1, .int q3, .int 1] d131_89 (List.mem_of_getElem? (i := 177) rfl) rfl ⟨by decide, by decide, Nat.le_of_ble_eq_true rfl, rfl, mcd130⟩ rfl rfl (Nat.le_of_ble_eq_true rfl) (hg42 _ _) rfl (t_f130 e20) ?_
          refine R_ic (v := 1) d131_92 (by decide) ?_
          cases h
          exact R_iret d131_93 rfl rfl rfl
        · refine R_nb d131_60 rfl (mb_f (b := (¬ q7.1 = (0 : Int32))) c16) ?_
          refine R_p d131_63 rfl rfl ?_
          refine R_p d131_65 rfl rfl ?_
          rcases ite_some h with ⟨c21, h⟩ | ⟨c21, h⟩
          · refine R_br 75 d131_66 (mb_t (b := (q13 = v1)) c21) rfl ?_
            refine R_ic (v := 0) d131_75 (by decide) ?_
            cases h
            exact R_iret d131_76 rfl rfl rfl
          · refine R_nb d131_66 rfl (mb_f (b := (q13 = v1)) c21) ?_
            refine R_p d131_69 rfl rfl ?_
            refine R_p d131_71 rfl rfl ?_
            rcases ite_some h with ⟨c22, h⟩ | ⟨c22, h⟩
            · refine R_br 77 d131_72 (mb_t (b := (¬ q13 = v2)) c22) rfl ?_
              refine R_p d131_77 rfl rfl ?_
              refine R_p d131_78 rfl rfl ?_
              refine R_p d131_79 rfl rfl ?_
              refine R_ic (v := 0) d131_80 (by decide) ?_
              obtain ⟨q23, e24, h⟩ := bd_some h
              refine R_cm [.int v1, .int v2, .int 0] d131_81 (List.mem_of_getElem? (i := 177) rfl) rfl ⟨by decide, by decide, Nat.le_of_ble_eq_true rfl, rfl, mcd130⟩ rfl rfl (Nat.le_of_ble_eq_true rfl) (hg42 _ _) rfl (t_f130 e24) ?_
              refine R_p d131_84 rfl rfl ?_
              refine R_p d131_85 rfl rfl ?_
              refine R_p d131_86 rfl rfl ?_
              refine R_ic (v := 1) d131_88 (by decide) ?_
              obtain ⟨q25, e26, h⟩ := bd_some h
              refine R_cm [.int q1, .int q3, .int 1] d131_89 (List.mem_of_getElem? (i := 177) rfl) rfl ⟨by decide, by decide, Nat.le_of_ble_eq_true rfl, rfl, mcd130⟩ rfl rfl (Nat.le_of_ble_eq_true rfl) (hg42 _ _) rfl (t_f130 e26) ?_
              refine R_ic (v := 1) d131_92 (by decide) ?_
              cases h
              exact R_iret d131_93 rfl rfl rfl
            · refine R_nb d131_72 rfl (mb_f (b := (¬ q13 = v2)) c22) ?_
              refine R_ic (v := 0) d131_75 (by decide) ?_
              cases h
              exact R_iret d131_76 rfl rfl rfl
    · refine R_nb d131_21 rfl (mb_f (b := ((0 : Int32) ≤ q3)) c6) ?_
      refine R_ic (v := 0) d131_24 (by decide) ?_
      cases h
      exact R_iret d131_25 rfl rfl rfl
def r128 : Nat → Nat → Int32 → Int32 → Int32 → Int32 → mS → Option (mS)
  | 0, _, _, _, _, _, _ => none
  | k + 1, hd, v1, v2, v3, v4, s =>
    if hd = 0 then (if ((1600 : Int32) ≤ v1) then
        (f129 k s).bind fun q2 => (if (q2 = (0 : Int32)) then
          r128 k 1 0 0 0 0 s
        else
          some s)
      else
        rdI 1600 v1 (rdI 1600 v1 (pt (uA 46 (upd (s.1 46) (Int32.toNatClampNeg v1) (vp_nar .boolean (s.1 45 (Int32.toNatClampNeg v1)))) s) fun s7 => r128 k 0 (v1 + Int32.ofInt 1) 0 0 0 s7))) else
    if hd = 1 then (if ((s.2.2.1 15) ≤ v1) then
        r128 k 3 1 0 0 0 s
      else
        r128 k 2 v1 0 0 0 s) else
    if hd = 2 then (if (v1 ≤ v2) then
        r128 k 1 (v1 + Int32.ofInt 1) 0 0 0 s
      else
        rdI 1600 (((40 : Int32) * v1) + v2) ((if (¬ (s.1 46 (Int32.toNatClampNeg (((40 : Int32) * v1) + v2))) = (0 : Int32)) then
          r128 k 2 v1 (v2 + Int32.ofInt 1) 0 0 s
        else
          (f123_42_46 k v1 v2 s).bind fun q4 => (if (q4 = (0 : Int32)) then
            r128 k 2 v1 (v2 + Int32.ofInt 1) 0 0 s
          else
            (f130 v1 v2 (1 : Int32) s).bind fun q7 => r128 k 2 v1 (v2 + Int32.ofInt 1) 0 0 q7)))) else
    if hd = 3 then (if (v1 = (0 : Int32)) then
        r128 k 6 v1 0 0 0 s
      else
        r128 k 4 0 0 0 0 s) else
    if hd = 4 then (if ((s.2.2.1 15) ≤ v2) then
        r128 k 3 v1 0 0 0 s
      else
        r128 k 5 v1 v2 0 0 s) else
    if hd = 5 then (if (v2 ≤ v3) then
        r128 k 4 v1 (v2 + Int32.ofInt 1) 0 0 s
      else
        rdI 1600 (((40 : Int32) * v2) + v3) ((if ((s.1 46 (Int32.toNatClampNeg (((40 : Int32) * v2) + v3))) = (0 : Int32)) then
          r128 k 5 v1 v2 (v3 + Int32.ofInt 1) 0 s
        else
          rdI 1600 (((40 : Int32) * v2) + v3) ((if (¬ (s.1 45 (Int32.toNatClampNeg (((40 : Int32) * v2) + v3))) = (0 : Int32)) then
            r128 k 5 v1 v2 (v3 + Int32.ofInt 1) 0 s
          else
            (f131 k v2 v3 s).bind fun q6 => (if (q6.1 = (0 : Int32)) then
              r128 k 5 v1 v2 (v3 + Int32.ofInt 1) 0 q6.2
            else
              r128 k 5 1 v2 (v3 + Int32.ofInt 1) 0 q6.2)))))) else
    if hd = 6 then (if ((s.2.2.1 15) ≤ v2) then
        some s
      else
        r128 k 7 v1 v2 (v2 + (1 : Int32)) 0 s) else
    if hd = 7 then (if ((s.2.2.1 15) ≤ v3) then
        r128 k 6 v1 (v2 + Int32.ofInt 1) 0 0 s
      else
        r128 k 8 v1 v2 v3 (v2 + (1 : Int32)) s) else
    (if ((s.2.2.1 15) ≤ v4) then
        r128 k 7 v1 v2 (v3 + Int32.ofInt 1) 0 s
      else
        (f133 k v2 v3 v4 s).bind fun q2 => (if (q2 = (0 : Int32)) then
          r128 k 8 v1 v2 v3 (v4 + Int32.ofInt 1) s
        else
          rdI 300 ((3 : Int32) * (s.2.2.1 17)) (pt (uA 47 (upd (s.1 47) (Int32.toNatClampNeg ((3 : Int32) * (s.2.2.1 17))) v2) s) fun s6 => rdI 300 (((3 : Int32) * (s6.2.2.1 17)) + (1 : Int32)) (pt (uA 47 (upd (s6.1 47) (Int32.toNatClampNeg (((3 : Int32) * (s6.2.2.1 17)) + (1 : Int32))) v3) s6) fun s9 => rdI 300 (((3 : Int32) * (s9.2.2.1 17)) + (2 : Int32)) (pt (uA 47 (upd (s9.1 47) (Int32.toNatClampNeg (((3 : Int32) * (s9.2.2.1 17)) + (2 : Int32))) v4) s9) fun s12 => pt (uF 17 ((s12.2.2.1 17) + (1 : Int32)) s12) fun s14 => r128 k 8 v1 v2 v3 (v4 + Int32.ofInt 1) s14)))))
theorem s128 {S : mE} {ex : mHp} (k : Nat) : (∀ (v1 : Int32) (v2 : Int32) (v3 : Int32) (v4 : Int32) (s : mS) (r : mS), r128 k 0 v1 v2 v3 v4 s = some r → Run S 128 (20, [(0, .ref 42), (1, .int v1)], [], hp s ex) (.inl none, hp r ex)) ∧ (∀ (v1 : Int32) (v2 : Int32) (v3 : Int32) (v4 : Int32) (s : mS) (r : mS), r128 k 1 v1 v2 v3 v4 s = some r → Run S 128 (55, [(0, .ref 42), (1, .int v1)], [], hp s ex) (.inl none, hp r ex)) ∧ (∀ (v1 : Int32) (v2 : Int32) (v3 : Int32) (v4 : Int32) (s : mS) (r : mS), r128 k 2 v1 v2 v3 v4 s = some r → Run S 128 (65, [(0, .ref 42), (1, .int v1), (2, .int v2)], [], hp s ex) (.inl none, hp r ex)) ∧ (∀ (v1 : Int32) (v2 : Int32) (v3 : Int32) (v4 : Int32) (s : mS) (r : mS), r128 k 3 v1 v2 v3 v4 s = some r → Run S 128 (118, [(0, .ref 42), (1, .int v1)], [], hp s ex) (.inl none, hp r ex)) ∧ (∀ (v1 : Int32) (v2 : Int32) (v3 : Int32) (v4 : Int32) (s : mS) (r : mS), r128 k 4 v1 v2 v3 v4 s = some r → Run S 128 (126, [(0, .ref 42), (1, .int v1), (2, .int v2)], [], hp s ex) (.inl none, hp r ex)) ∧ (∀ (v1 : Int32) (v2 : Int32) (v3 : Int32) (v4 : Int32) (s : mS) (r : mS), r128 k 5 v1 v2 v3 v4 s = some r → Run S 128 (136, [(0, .ref 42), (1, .int v1), (2, .int v2), (3, .int v3)], [], hp s ex) (.inl none, hp r ex)) ∧ (∀ (v1 : Int32) (v2 : Int32) (v3 : Int32) (v4 : Int32) (s : mS) (r : mS), r128 k 6 v1 v2 v3 v4 s = some r → Run S 128 (197, [(0, .ref 42), (1, .int v1), (2, .int v2)], [], hp s ex) (.inl none, hp r ex)) ∧ (∀ (v1 : Int32) (v2 : Int32) (v3 : Int32) (v4 : Int32) (s : mS) (r : mS), r128 k 7 v1 v2 v3 v4 s = some r → Run S 128 (209, [(0, .ref 42), (1, .int v1), (2, .int v2), (3, .int v3)], [], hp s ex) (.inl none, hp r ex)) ∧ (∀ (v1 : Int32) (v2 : Int32) (v3 : Int32) (v4 : Int32) (s : mS) (r : mS), r128 k 8 v1 v2 v3 v4 s = some r → Run S 128 (222, [(0, .ref 42), (1, .int v1), (2, .int v2), (3, .int v3), (4, .int v4)], [], hp s ex) (.inl none, hp r ex)) := by
  induction k with
  | zero => refine ⟨?_, ?_, ?_, ?_, ?_, ?_, ?_, ?_, ?_⟩ <;> (intro v1 v2 v3 v4 s r h; cases h)
  | succ k ih =>
    refine ⟨?_, ?_, ?_, ?_, ?_, ?_, ?_, ?_, ?_⟩
    · intro v1 v2 v3 v4 s r h
      rw [r128, if_pos rfl] at h
      refine R_p d128_20 rfl rfl ?_
      refine R_si (v := 1600) d128_21 (by decide) ?_
      rcases ite_some h with ⟨c1, h⟩ | ⟨c1, h⟩
      · refine R_br 45 d128_24 (mb_t (b := ((1600 : Int32) ≤ v1)) c1) rfl ?_
        refine R_p d128_45 rfl rfl ?_
        obtain ⟨q2, e3, h⟩ := bd_some h
        refine R_cm [] d128_46 (List.mem_of_getElem? (i := 176) rfl) rfl ⟨by decide, by decide, Nat.le_of_ble_eq_true rfl, rfl, mcd129⟩ rfl rfl (Nat.le_of_ble_eq_true rfl) (hg42 _ _) rfl (t_f129 e3) ?_
        rcases ite_some h with ⟨c4, h⟩ | ⟨c4, h⟩
        · refine R_br 53 d128_49 (mb_t (b := (q2 = (0 : Int32))) c4) rfl ?_
          refine R_ic (v := 0) d128_53 (by decide) ?_
          refine R_p (ls' := [(0, .ref 42), (1, .int 0)]) d128_54 rfl rfl ?_
          exact ih.2.1 0 0 0 0 s _ h
        · refine R_nb d128_49 rfl (mb_f (b := (q2 = (0 : Int32))) c4) ?_
          cases h
          exact R_vret d128_52 rfl rfl
      · refine R_nb d128_24 rfl (mb_f (b := ((1600 : Int32) ≤ v1)) c1) ?_
        refine R_p d128_27 rfl rfl ?_
        refine R_get d128_28 (Or.inl (List.mem_of_getElem? (i := 53) rfl)) (hg42 _ _) rfl ?_
        refine R_p d128_31 rfl rfl ?_
        refine R_p d128_32 rfl rfl ?_
        refine R_get d128_33 (Or.inl (List.mem_of_getElem? (i := 52) rfl)) (hg42 _ _) rfl ?_
        refine R_p d128_36 rfl rfl ?_
        obtain ⟨c5, h⟩ := rdI_some h
        refine R_zld d128_37 (hg45 _ _) c5 ?_
        obtain ⟨c6, h⟩ := rdI_some h
        obtain ⟨s7, e8, h⟩ := pt_some h
        refine R_zst d128_38 (hg46 _ _) c6 ?_
        refine R_h (hp s7 ex) (by rw [e8]; exact hA46 _ _ _) ?_
        refine R_p (ls' := [(0, .ref 42), (1, .int (v1 + Int32.ofInt 1))]) d128_39 rfl rfl ?_
        refine R_br 20 d128_42 rfl rfl ?_
        exact ih.1 (v1 + Int32.ofInt 1) 0 0 0 s7 _ h
    · intro v1 v2 v3 v4 s r h
      rw [r128, if_neg (by decide), if_pos rfl] at h
      refine R_p d128_55 rfl rfl ?_
      refine R_p d128_56 rfl rfl ?_
      refine R_get d128_57 (Or.inl (List.mem_of_getElem? (i := 49) rfl)) (hg42 _ _) rfl ?_
      rcases ite_some h with ⟨c1, h⟩ | ⟨c1, h⟩
      · refine R_br 116 d128_60 (mb_t (b := ((s.2.2.1 15) ≤ v1)) c1) rfl ?_
        refine R_ic (v := 1) d128_116 (by decide) ?_
        refine R_p (ls' := [(0, .ref 42), (1, .int 1)]) d128_117 rfl rfl ?_
        exact ih.2.2.2.1 1 0 0 0 s _ h
      · refine R_nb d128_60 rfl (mb_f (b := ((s.2.2.1 15) ≤ v1)) c1) ?_
        refine R_ic (v := 0) d128_63 (by decide) ?_
        refine R_p (ls' := [(0, .ref 42), (1, .int v1), (2, .int 0)]) d128_64 rfl rfl ?_
        exact ih.2.2.1 v1 0 0 0 s _ h
    · intro v1 v2 v3 v4 s r h
      rw [r128, if_neg (by decide), if_neg (by decide), if_pos rfl] at h
      refine R_p d128_65 rfl rfl ?_
      refine R_p d128_66 rfl rfl ?_
      rcases ite_some h with ⟨c1, h⟩ | ⟨c1, h⟩
      · refine R_br 110 d128_67 (mb_t (b := (v1 ≤ v2)) c1) rfl ?_
        refine R_p (ls' := [(0, .ref 42), (1, .int (v1 + Int32.ofInt 1)), (2, .int v2)]) d128_110 rfl rfl ?_
        refine R_br 55 d128_113 rfl rfl ?_
        exact R_wk [(0, .ref 42), (1, .int (v1 + Int32.ofInt 1))] (by simp) (ih.2.1 (v1 + Int32.ofInt 1) 0 0 0 s _ h)
      · refine R_nb d128_67 rfl (mb_f (b := (v1 ≤ v2)) c1) ?_
        refine R_p d128_70 rfl rfl ?_
        refine R_get d128_71 (Or.inl (List.mem_of_getElem? (i := 53) rfl)) (hg42 _ _) rfl ?_
        refine R_bi (v := 40) d128_74 (by decide) ?_
        refine R_p d128_76 rfl rfl ?_
        refine R_p d128_77 rfl rfl ?_
        refine R_p d128_78 rfl rfl ?_
        refine R_p d128_79 rfl rfl ?_
        obtain ⟨c2, h⟩ := rdI_some h
        refine R_zld d128_80 (hg46 _ _) c2 ?_
        rcases ite_some h with ⟨c3, h⟩ | ⟨c3, h⟩
        · refine R_br 104 d128_81 (mb_t (b := (¬ (s.1 46 (Int32.toNatClampNeg (((40 : Int32) * v1) + v2))) = (0 : Int32))) c3) rfl ?_
          refine R_p (ls' := [(0, .ref 42), (1, .int v1), (2, .int (v2 + Int32.ofInt 1))]) d128_104 rfl rfl ?_
          refine R_br 65 d128_107 rfl rfl ?_
          exact ih.2.2.1 v1 (v2 + Int32.ofInt 1) 0 0 s _ h
        · refine R_nb d128_81 rfl (mb_f (b := (¬ (s.1 46 (Int32.toNatClampNeg (((40 : Int32) * v1) + v2))) = (0 : Int32))) c3) ?_
          refine R_p d128_84 rfl rfl ?_
          refine R_p d128_85 rfl rfl ?_
          refine R_p d128_86 rfl rfl ?_
          refine R_p d128_87 rfl rfl ?_
          refine R_get d128_88 (Or.inl (List.mem_of_getElem? (i := 53) rfl)) (hg42 _ _) rfl ?_
          obtain ⟨q4, e5, h⟩ := bd_some h
          refine R_cm [.int v1, .int v2, .ref 46] d128_91 (List.mem_of_getElem? (i := 170) rfl) rfl ⟨by decide, by decide, Nat.le_of_ble_eq_true rfl, rfl, mcd123⟩ rfl rfl (Nat.le_of_ble_eq_true rfl) (hg42 _ _) rfl (t_f123_42_46 e5) ?_
          rcases ite_some h with ⟨c6, h⟩ | ⟨c6, h⟩
          · refine R_br 104 d128_94 (mb_t (b := (q4 = (0 : Int32))) c6) rfl ?_
            refine R_p (ls' := [(0, .ref 42), (1, .int v1), (2, .int (v2 + Int32.ofInt 1))]) d128_104 rfl rfl ?_
            refine R_br 65 d128_107 rfl rfl ?_
            exact ih.2.2.1 v1 (v2 + Int32.ofInt 1) 0 0 s _ h
          · refine R_nb d128_94 rfl (mb_f (b := (q4 = (0 : Int32))) c6) ?_
            refine R_p d128_97 rfl rfl ?_
            refine R_p d128_98 rfl rfl ?_
            refine R_p d128_99 rfl rfl ?_
            refine R_ic (v := 1) d128_100 (by decide) ?_
            obtain ⟨q7, e8, h⟩ := bd_some h
            refine R_cm [.int v1, .int v2, .int 1] d128_101 (List.mem_of_getElem? (i := 177) rfl) rfl ⟨by decide, by decide, Nat.le_of_ble_eq_true rfl, rfl, mcd130⟩ rfl rfl (Nat.le_of_ble_eq_true rfl) (hg42 _ _) rfl (t_f130 e8) ?_
            refine R_p (ls' := [(0, .ref 42), (1, .int v1), (2, .int (v2 + Int32.ofInt 1))]) d128_104 rfl rfl ?_
            refine R_br 65 d128_107 rfl rfl ?_
            exact ih.2.2.1 v1 (v2 + Int32.ofInt 1) 0 0 q7 _ h
    · intro v1 v2 v3 v4 s r h
      rw [r128, if_neg (by decide), if_neg (by decide), if_neg (by decide), if_pos rfl] at h
      refine R_p d128_118 rfl rfl ?_
      rcases ite_some h with ⟨c1, h⟩ | ⟨c1, h⟩
      · refine R_br 195 d128_119 (mb_t (b := (v1 = (0 : Int32))) c1) rfl ?_
        refine R_ic (v := 0) d128_195 (by decide) ?_
        refine R_p (ls' := [(0, .ref 42), (1, .int v1), (2, .int 0)]) d128_196 rfl rfl ?_
        exact ih.2.2.2.2.2.2.1 v1 0 0 0 s _ h
      · refine R_nb d128_119 rfl (mb_f (b := (v1 = (0 : Int32))) c1) ?_
        refine R_ic (v := 0) d128_122 (by decide) ?_
        refine R_p (ls' := [(0, .ref 42), (1, .int 0)]) d128_123 rfl rfl ?_
        refine R_ic (v := 0) d128_124 (by decide) ?_
        refine R_p (ls' := [(0, .ref 42), (1, .int 0), (2, .int 0)]) d128_125 rfl rfl ?_
        exact ih.2.2.2.2.1 0 0 0 0 s _ h
    · intro v1 v2 v3 v4 s r h
      rw [r128, if_neg (by decide), if_neg (by decide), if_neg (by decide), if_neg (by decide), if_pos rfl] at h
      refine R_p d128_126 rfl rfl ?_
      refine R_p d128_127 rfl rfl ?_
      refine R_get d128_128 (Or.inl (List.mem_of_getElem? (i := 49) rfl)) (hg42 _ _) rfl ?_
      rcases ite_some h with ⟨c1, h⟩ | ⟨c1, h⟩
      · refine R_br 192 d128_131 (mb_t (b := ((s.2.2.1 15) ≤ v2)) c1) rfl ?_
        refine R_br 118 d128_192 rfl rfl ?_
        exact R_wk [(0, .ref 42), (1, .int v1)] (by simp) (ih.2.2.2.1 v1 0 0 0 s _ h)
      · refine R_nb d128_131 rfl (mb_f (b := ((s.2.2.1 15) ≤ v2)) c1) ?_
        refine R_ic (v := 0) d128_134 (by decide) ?_
        refine R_p (ls' := [(0, .ref 42), (1, .int v1), (2, .int v2), (3, .int 0)]) d128_135 rfl rfl ?_
        exact ih.2.2.2.2.2.1 v1 v2 0 0 s _ h
    · intro v1 v2 v3 v4 s r h
      rw [r128, if_neg (by decide), if_neg (by decide), if_neg (by decide), if_neg (by decide), if_neg (by decide), if_pos rfl] at h
      refine R_p d128_136 rfl rfl ?_
      refine R_p d128_137 rfl rfl ?_
      rcases ite_some h with ⟨c1, h⟩ | ⟨c1, h⟩
      · refine R_br 186 d128_138 (mb_t (b := (v2 ≤ v3)) c1) rfl ?_
        refine R_p (ls' := [(0, .ref 42), (1, .int v1), (2, .int (v2 + Int32.ofInt 1)), (3, .int v3)]) d128_186 rfl rfl ?_
        refine R_br 126 d128_189 rfl rfl ?_
        exact R_wk [(0, .ref 42), (1, .int v1), (2, .int (v2 + Int32.ofInt 1))] (by simp) (ih.2.2.2.2.1 v1 (v2 + Int32.ofInt 1) 0 0 s _ h)
      · refine R_nb d128_138 rfl (mb_f (b := (v2 ≤ v3)) c1) ?_
        refine R_p d128_141 rfl rfl ?_
        refine R_get d128_142 (Or.inl (List.mem_of_getElem? (i := 53) rfl)) (hg42 _ _) rfl ?_
        refine R_bi (v := 40) d128_145 (by decide) ?_
        refine R_p d128_147 rfl rfl ?_
        refine R_p d128_148 rfl rfl ?_
        refine R_p d128_149 rfl rfl ?_
        refine R_p d128_150 rfl rfl ?_
        obtain ⟨c2, h⟩ := rdI_some h
        refine R_zld d128_151 (hg46 _ _) c2 ?_
        rcases ite_some h with ⟨c3, h⟩ | ⟨c3, h⟩
        · refine R_br 180 d128_152 (mb_t (b := ((s.1 46 (Int32.toNatClampNeg (((40 : Int32) * v2) + v3))) = (0 : Int32))) c3) rfl ?_
          refine R_p (ls' := [(0, .ref 42), (1, .int v1), (2, .int v2), (3, .int (v3 + Int32.ofInt 1))]) d128_180 rfl rfl ?_
          refine R_br 136 d128_183 rfl rfl ?_
          exact ih.2.2.2.2.2.1 v1 v2 (v3 + Int32.ofInt 1) 0 s _ h
        · refine R_nb d128_152 rfl (mb_f (b := ((s.1 46 (Int32.toNatClampNeg (((40 : Int32) * v2) + v3))) = (0 : Int32))) c3) ?_
          refine R_p d128_155 rfl rfl ?_
          refine R_get d128_156 (Or.inl (List.mem_of_getElem? (i := 52) rfl)) (hg42 _ _) rfl ?_
          refine R_bi (v := 40) d128_159 (by decide) ?_
          refine R_p d128_161 rfl rfl ?_
          refine R_p d128_162 rfl rfl ?_
          refine R_p d128_163 rfl rfl ?_
          refine R_p d128_164 rfl rfl ?_
          obtain ⟨c4, h⟩ := rdI_some h
          refine R_zld d128_165 (hg45 _ _) c4 ?_
          rcases ite_some h with ⟨c5, h⟩ | ⟨c5, h⟩
          · refine R_br 180 d128_166 (mb_t (b := (¬ (s.1 45 (Int32.toNatClampNeg (((40 : Int32) * v2) + v3))) = (0 : Int32))) c5) rfl ?_
            refine R_p (ls' := [(0, .ref 42), (1, .int v1), (2, .int v2), (3, .int (v3 + Int32.ofInt 1))]) d128_180 rfl rfl ?_
            refine R_br 136 d128_183 rfl rfl ?_
            exact ih.2.2.2.2.2.1 v1 v2 (v3 + Int32.ofInt 1) 0 s _ h
          · refine R_nb d128_166 rfl (mb_f (b := (¬ (s.1 45 (Int32.toNatClampNeg (((40 : Int32) * v2) + v3))) = (0 : Int32))) c5) ?_
            refine R_p d128_169 rfl rfl ?_
            refine R_p d128_170 rfl rfl ?_
            refine R_p d128_171 rfl rfl ?_
            obtain ⟨q6, e7, h⟩ := bd_some h
            refine R_cm [.int v2, .int v3] d128_172 (List.mem_of_getElem? (i := 178) rfl) rfl ⟨by decide, by decide, Nat.le_of_ble_eq_true rfl, rfl, mcd131⟩ rfl rfl (Nat.le_of_ble_eq_true rfl) (hg42 _ _) rfl (t_f131 e7) ?_
            rcases ite_some h with ⟨c8, h⟩ | ⟨c8, h⟩
            · refine R_br 180 d128_175 (mb_t (b := (q6.1 = (0 : Int32))) c8) rfl ?_
              refine R_p (ls' := [(0, .ref 42), (1, .int v1), (2, .int v2), (3, .int (v3 + Int32.ofInt 1))]) d128_180 rfl rfl ?_
              refine R_br 136 d128_183 rfl rfl ?_
              exact ih.2.2.2.2.2.1 v1 v2 (v3 + Int32.ofInt 1) 0 q6.2 _ h
            · refine R_nb d128_175 rfl (mb_f (b := (q6.1 = (0 : Int32))) c8) ?_
              refine R_ic (v := 1) d128_178 (by decide) ?_
              refine R_p (ls' := [(0, .ref 42), (1, .int 1), (2, .int v2), (3, .int v3)]) d128_179 rfl rfl ?_
              refine R_p (ls' := [(0, .ref 42), (1, .int 1), (2, .int v2), (3, .int (v3 + Int32.ofInt 1))]) d128_180 rfl rfl ?_
              refine R_br 136 d128_183 rfl rfl ?_
              exact ih.2.2.2.2.2.1 1 v2 (v3 + Int32.ofInt 1) 0 q6.2 _ h
    · intro v1 v2 v3 v4 s r h
      rw [r128, if_neg (by decide), if_neg (by decide), if_neg (by decide), if_neg (by decide), if_neg (by decide), if_neg (by decide), if_pos rfl] at h
      refine R_p d128_197 rfl rfl ?_
      refine R_p d128_198 rfl rfl ?_
      refine R_get d128_199 (Or.inl (List.mem_of_getElem? (i := 49) rfl)) (hg42 _ _) rfl ?_
      rcases ite_some h with ⟨c1, h⟩ | ⟨c1, h⟩
      · refine R_br 311 d128_202 (mb_t (b := ((s.2.2.1 15) ≤ v2)) c1) rfl ?_
        cases h
        exact R_vret d128_311 rfl rfl
      · refine R_nb d128_202 rfl (mb_f (b := ((s.2.2.1 15) ≤ v2)) c1) ?_
        refine R_p d128_205 rfl rfl ?_
        refine R_ic (v := 1) d128_206 (by decide) ?_
        refine R_p d128_207 rfl rfl ?_
        refine R_p (ls' := [(0, .ref 42), (1, .int v1), (2, .int v2), (3, .int (v2 + (1 : Int32)))]) d128_208 rfl rfl ?_
        exact ih.2.2.2.2.2.2.2.1 v1 v2 (v2 + (1 : Int32)) 0 s _ h
    · intro v1 v2 v3 v4 s r h
      rw [r128, if_neg (by decide), if_neg (by decide), if_neg (by decide), if_neg (by decide), if_neg (by decide), if_neg (by decide), if_neg (by decide), if_pos rfl] at h
      refine R_p d128_209 rfl rfl ?_
      refine R_p d128_210 rfl rfl ?_
      refine R_get d128_211 (Or.inl (List.mem_of_getElem? (i := 49) rfl)) (hg42 _ _) rfl ?_
      rcases ite_some h with ⟨c1, h⟩ | ⟨c1, h⟩
      · refine R_br 305 d128_214 (mb_t (b := ((s.2.2.1 15) ≤ v3)) c1) rfl ?_
        refine R_p (ls' := [(0, .ref 42), (1, .int v1), (2, .int (v2 + Int32.ofInt 1)), (3, .int v3)]) d128_305 rfl rfl ?_
        refine R_br 197 d128_308 rfl rfl ?_
        exact R_wk [(0, .ref 42), (1, .int v1), (2, .int (v2 + Int32.ofInt 1))] (by simp) (ih.2.2.2.2.2.2.1 v1 (v2 + Int32.ofInt 1) 0 0 s _ h)
      · refine R_nb d128_214 rfl (mb_f (b := ((s.2.2.1 15) ≤ v3)) c1) ?_
        refine R_p d128_217 rfl rfl ?_
        refine R_ic (v := 1) d128_218 (by decide) ?_
        refine R_p d128_219 rfl rfl ?_
        refine R_p (ls' := [(0, .ref 42), (1, .int v1), (2, .int v2), (3, .int v3), (4, .int (v2 + (1 : Int32)))]) d128_220 rfl rfl ?_
        exact ih.2.2.2.2.2.2.2.2 v1 v2 v3 (v2 + (1 : Int32)) s _ h
    · intro v1 v2 v3 v4 s r h
      rw [r128, if_neg (by decide), if_neg (by decide), if_neg (by decide), if_neg (by decide), if_neg (by decide), if_neg (by decide), if_neg (by decide), if_neg (by decide)] at h
      refine R_p d128_222 rfl rfl ?_
      refine R_p d128_224 rfl rfl ?_
      refine R_get d128_225 (Or.inl (List.mem_of_getElem? (i := 49) rfl)) (hg42 _ _) rfl ?_
      rcases ite_some h with ⟨c1, h⟩ | ⟨c1, h⟩
      · refine R_br 299 d128_228 (mb_t (b := ((s.2.2.1 15) ≤ v4)) c1) rfl ?_
        refine R_p (ls' := [(0, .ref 42), (1, .int v1), (2, .int v2), (3, .int (v3 + Int32.ofInt 1)), (4, .int v4)]) d128_299 rfl rfl ?_
        refine R_br 209 d128_302 rfl rfl ?_
        exact R_wk [(0, .ref 42), (1, .int v1), (2, .int v2), (3, .int (v3 + Int32.ofInt 1))] (by simp) (ih.2.2.2.2.2.2.2.1 v1 v2 (v3 + Int32.ofInt 1) 0 s _ h)
      · refine R_nb d128_228 rfl (mb_f (b := ((s.2.2.1 15) ≤ v4)) c1) ?_
        refine R_p d128_231 rfl rfl ?_
        refine R_p d128_232 rfl rfl ?_
        refine R_p d128_233 rfl rfl ?_
        refine R_p d128_234 rfl rfl ?_
        obtain ⟨q2, e3, h⟩ := bd_some h
        refine R_cm [.int v2, .int v3, .int v4] d128_236 (List.mem_of_getElem? (i := 180) rfl) rfl ⟨by decide, by decide, Nat.le_of_ble_eq_true rfl, rfl, mcd133⟩ rfl rfl (Nat.le_of_ble_eq_true rfl) (hg42 _ _) rfl (t_f133 e3) ?_
        rcases ite_some h with ⟨c4, h⟩ | ⟨c4, h⟩
        · refine R_br 293 d128_239 (mb_t (b := (q2 = (0 : Int32))) c4) rfl ?_
          refine R_p (ls' := [(0, .ref 42), (1, .int v1), (2, .int v2), (3, .int v3), (4, .int (v4 + Int32.ofInt 1))]) d128_293 rfl rfl ?_
          refine R_br 222 d128_296 rfl rfl ?_
          exact ih.2.2.2.2.2.2.2.2 v1 v2 v3 (v4 + Int32.ofInt 1) s _ h
        · refine R_nb d128_239 rfl (mb_f (b := (q2 = (0 : Int32))) c4) ?_
          refine R_p d128_242 rfl rfl ?_
          refine R_get d128_243 (Or.inl (List.mem_of_getElem? (i := 56) rfl)) (hg42 _ _) rfl ?_
          refine R_ic (v := 3) d128_246 (by decide) ?_
          refine R_p d128_247 rfl rfl ?_
          refine R_get d128_248 (Or.inl (List.mem_of_getElem? (i := 55) rfl)) (hg42 _ _) rfl ?_
          refine R_p d128_251 rfl rfl ?_
          refine R_p d128_252 rfl rfl ?_
          obtain ⟨c5, h⟩ := rdI_some h
          obtain ⟨s6, e7, h⟩ := pt_some h
          refine R_ist d128_253 (hg47 _ _) c5 ?_
          refine R_h (hp s6 ex) (by rw [e7]; exact hA47 _ _ _) ?_
          refine R_p d128_254 rfl rfl ?_
          refine R_get d128_255 (Or.inl (List.mem_of_getElem? (i := 56) rfl)) (hg42 _ _) rfl ?_
          refine R_ic (v := 3) d128_258 (by decide) ?_
          refine R_p d128_259 rfl rfl ?_
          refine R_get d128_260 (Or.inl (List.mem_of_getElem? (i := 55) rfl)) (hg42 _ _) rfl ?_
          refine R_p d128_263 rfl rfl ?_
          refine R_ic (v := 1) d128_264 (by decide) ?_
          refine R_p d128_265 rfl rfl ?_
          refine R_p d128_266 rfl rfl ?_
          obtain ⟨c8, h⟩ := rdI_some h
          obtain ⟨s9, e10, h⟩ := pt_some h
          refine R_ist d128_267 (hg47 _ _) c8 ?_
          refine R_h (hp s9 ex) (by rw [e10]; exact hA47 _ _ _) ?_
          refine R_p d128_268 rfl rfl ?_
          refine R_get d128_269 (Or.inl (List.mem_of_getElem? (i := 56) rfl)) (hg42 _ _) rfl ?_
          refine R_ic (v := 3) d128_272 (by decide) ?_
          refine R_p d128_273 rfl rfl ?_
          refine R_get d128_274 (Or.inl (List.mem_of_getElem? (i := 55) rfl)) (hg42 _ _) rfl ?_
          refine R_p d128_277 rfl rfl ?_
          refine R_ic (v := 2) d128_278 (by decide) ?_
          refine R_p d128_279 rfl rfl ?_
          refine R_p d128_280 rfl rfl ?_
          obtain ⟨c11, h⟩ := rdI_some h
          obtain ⟨s12, e13, h⟩ := pt_some h
          refine R_ist d128_282 (hg47 _ _) c11 ?_
          refine R_h (hp s12 ex) (by rw [e13]; exact hA47 _ _ _) ?_
          refine R_p d128_283 rfl rfl ?_
          refine R_p d128_284 rfl rfl ?_
          refine R_get d128_285 (Or.inl (List.mem_of_getElem? (i := 55) rfl)) (hg42 _ _) rfl ?_
          refine R_ic (v := 1) d128_288 (by decide) ?_
          refine R_p d128_289 rfl rfl ?_
          obtain ⟨s14, e15, h⟩ := pt_some h
          refine R_put d128_290 (List.mem_of_getElem? (i := 55) rfl) (hg42 _ _) (Nat.le_of_ble_eq_true rfl) rfl rfl (Or.inl rfl) ?_
          refine R_h (hp s14 ex) (by rw [e15]; exact hF17 _ _ _) ?_
          refine R_p (ls' := [(0, .ref 42), (1, .int v1), (2, .int v2), (3, .int v3), (4, .int (v4 + Int32.ofInt 1))]) d128_293 rfl rfl ?_
          refine R_br 222 d128_296 rfl rfl ?_
          exact ih.2.2.2.2.2.2.2.2 v1 v2 v3 (v4 + Int32.ofInt 1) s14 _ h
def f128 (k : Nat) (s : mS) : Option (mS) :=
  (if ((s.2.2.1 16) = (0 : Int32)) then
    pt (uF 16 (1 : Int32) s) fun s2 => pt (uF 17 (0 : Int32) s2) fun s4 => r128 k 0 0 0 0 0 s4
  else
    some s)
theorem t_f128 {S : mE} {ex : mHp} {k : Nat} {s : mS} {r : mS} (h : f128 k s = some r) : Run S 128 (0, [(0, .ref 42)], [], hp s ex) (.inl none, hp r ex) := by
  unfold f128 at h
  refine R_p d128_0 rfl rfl ?_
  refine R_get d128_1 (Or.inl (List.mem_of_getElem? (i := 54) rfl)) (hg42 _ _) rfl ?_
  rcases ite_some h with ⟨c1, h⟩ | ⟨c1, h⟩
  · refine R_br 8 d128_4 (mb_t (b := ((s.2.2.1 16) = (0 : Int32))) c1) rfl ?_
    refine R_p d128_8 rfl rfl ?_
    refine R_ic (v := 1) d128_9 (by decide) ?_
    obtain ⟨s2, e3, h⟩ := pt_some h
    refine R_put d128_10 (List.mem_of_getElem? (i := 54) rfl) (hg42 _ _) (Nat.le_of_ble_eq_true rfl) (by decide) (by decide) (Or.inl rfl) ?_
    refine R_h (hp s2 ex) (by rw [e3]; exact hF16 _ _ _) ?_
    refine R_p d128_13 rfl rfl ?_
    refine R_ic (v := 0) d128_14 (by decide) ?_
    obtain ⟨s4, e5, h⟩ := pt_some h
    refine R_put d128_15 (List.mem_of_getElem? (i := 55) rfl) (hg42 _ _) (Nat.le_of_ble_eq_true rfl) rfl rfl (Or.inl rfl) ?_
    refine R_h (hp s4 ex) (by rw [e5]; exact hF17 _ _ _) ?_
    refine R_ic (v := 0) d128_18 (by decide) ?_
    refine R_p (ls' := [(0, .ref 42), (1, .int 0)]) d128_19 rfl rfl ?_
    exact (s128 (S := S) (ex := ex) k).1 0 0 0 0 s4 _ h
  · refine R_nb d128_4 rfl (mb_f (b := ((s.2.2.1 16) = (0 : Int32))) c1) ?_
    cases h
    exact R_vret d128_7 rfl rfl
def r138 : Nat → Nat → Int32 → Int32 → Int32 → Int32 → Int32 → mS → Option (Int32)
  | 0, _, _, _, _, _, _, _ => none
  | k + 1, hd, v1, v2, v3, v4, v5, s =>
    if hd = 0 then (if ((s.2.2.1 17) ≤ v4) then
        some v3
      else
        r138 k 1 v1 v2 v3 v4 0 s) else
    (if ((3 : Int32) ≤ v5) then
        r138 k 0 v1 v2 v3 (v4 + Int32.ofInt 1) 0 s
      else
        rdI 300 (((3 : Int32) * v4) + v5) ((if (¬ (s.1 47 (Int32.toNatClampNeg (((3 : Int32) * v4) + v5))) = v1) then
          r138 k 1 v1 v2 v3 v4 (v5 + Int32.ofInt 1) s
        else
          rdI 300 (((3 : Int32) * v4) + ((v5 + (1 : Int32)) - (v5 + (1 : Int32)) / (3 : Int32) * (3 : Int32))) ((if (¬ (s.1 47 (Int32.toNatClampNeg (((3 : Int32) * v4) + ((v5 + (1 : Int32)) - (v5 + (1 : Int32)) / (3 : Int32) * (3 : Int32))))) = v2) then
            r138 k 1 v1 v2 v3 v4 (v5 + Int32.ofInt 1) s
          else
            r138 k 1 v1 v2 v4 v4 (v5 + Int32.ofInt 1) s)))))
theorem s138 {S : mE} {ex : mHp} (k : Nat) : (∀ (v1 : Int32) (v2 : Int32) (v3 : Int32) (v4 : Int32) (v5 : Int32) (s : mS) (r : Int32), r138 k 0 v1 v2 v3 v4 v5 s = some r → Run S 138 (5, [(0, .ref 42), (1, .int v1), (2, .int v2), (3, .int v3), (4, .int v4)], [], hp s ex) (.inl (some (.int r)), hp s ex)) ∧ (∀ (v1 : Int32) (v2 : Int32) (v3 : Int32) (v4 : Int32) (v5 : Int32) (s : mS) (r : Int32), r138 k 1 v1 v2 v3 v4 v5 s = some r → Run S 138 (17, [(0, .ref 42), (1, .int v1), (2, .int v2), (3, .int v3), (4, .int v4), (5, .int v5)], [], hp s ex) (.inl (some (.int r)), hp s ex)) := by
  induction k with
  | zero => refine ⟨?_, ?_⟩ <;> (intro v1 v2 v3 v4 v5 s r h; cases h)
  | succ k ih =>
    refine ⟨?_, ?_⟩
    · intro v1 v2 v3 v4 v5 s r h
      rw [r138, if_pos rfl] at h
      refine R_p d138_5 rfl rfl ?_
      refine R_p d138_7 rfl rfl ?_
      refine R_get d138_8 (Or.inl (List.mem_of_getElem? (i := 55) rfl)) (hg42 _ _) rfl ?_
      rcases ite_some h with ⟨c1, h⟩ | ⟨c1, h⟩
      · refine R_br 78 d138_11 (mb_t (b := ((s.2.2.1 17) ≤ v4)) c1) rfl ?_
        refine R_p d138_78 rfl rfl ?_
        cases h
        exact R_iret d138_79 rfl rfl rfl
      · refine R_nb d138_11 rfl (mb_f (b := ((s.2.2.1 17) ≤ v4)) c1) ?_
        refine R_ic (v := 0) d138_14 (by decide) ?_
        refine R_p (ls' := [(0, .ref 42), (1, .int v1), (2, .int v2), (3, .int v3), (4, .int v4), (5, .int 0)]) d138_15 rfl rfl ?_
        exact ih.2 v1 v2 v3 v4 0 s _ h
    · intro v1 v2 v3 v4 v5 s r h
      rw [r138, if_neg (by decide)] at h
      refine R_p d138_17 rfl rfl ?_
      refine R_ic (v := 3) d138_19 (by decide) ?_
      rcases ite_some h with ⟨c1, h⟩ | ⟨c1, h⟩
      · refine R_br 72 d138_20 (mb_t (b := ((3 : Int32) ≤ v5)) c1) rfl ?_
        refine R_p (ls' := [(0, .ref 42), (1, .int v1), (2, .int v2), (3, .int v3), (4, .int (v4 + Int32.ofInt 1)), (5, .int v5)]) d138_72 rfl rfl ?_
        refine R_br 5 d138_75 rfl rfl ?_
        exact R_wk [(0, .ref 42), (1, .int v1), (2, .int v2), (3, .int v3), (4, .int (v4 + Int32.ofInt 1))] (by simp) (ih.1 v1 v2 v3 (v4 + Int32.ofInt 1) 0 s _ h)
      · refine R_nb d138_20 rfl (mb_f (b := ((3 : Int32) ≤ v5)) c1) ?_
        refine R_p d138_23 rfl rfl ?_
        refine R_get d138_24 (Or.inl (List.mem_of_getElem? (i := 56) rfl)) (hg42 _ _) rfl ?_
        refine R_ic (v := 3) d138_27 (by decide) ?_
        refine R_p d138_28 rfl rfl ?_
        refine R_p d138_30 rfl rfl ?_
        refine R_p d138_31 rfl rfl ?_
        refine R_p d138_33 rfl rfl ?_
        obtain ⟨c2, h⟩ := rdI_some h
        refine R_ild d138_34 (hg47 _ _) c2 ?_
        refine R_p d138_35 rfl rfl ?_
        rcases ite_some h with ⟨c3, h⟩ | ⟨c3, h⟩
        · refine R_br 64 d138_36 (mb_t (b := (¬ (s.1 47 (Int32.toNatClampNeg (((3 : Int32) * v4) + v5))) = v1)) c3) rfl ?_
          refine R_p d138_64 rfl rfl ?_
          refine R_p (ls' := [(0, .ref 42), (1, .int v1), (2, .int v2), (3, .int v3), (4, .int v4), (5, .int v5)]) d138_65 rfl rfl ?_
          refine R_p (ls' := [(0, .ref 42), (1, .int v1), (2, .int v2), (3, .int v3), (4, .int v4), (5, .int (v5 + Int32.ofInt 1))]) d138_66 rfl rfl ?_
          refine R_br 17 d138_69 rfl rfl ?_
          exact ih.2 v1 v2 v3 v4 (v5 + Int32.ofInt 1) s _ h
        · refine R_nb d138_36 rfl (mb_f (b := (¬ (s.1 47 (Int32.toNatClampNeg (((3 : Int32) * v4) + v5))) = v1)) c3) ?_
          refine R_p d138_39 rfl rfl ?_
          refine R_get d138_40 (Or.inl (List.mem_of_getElem? (i := 56) rfl)) (hg42 _ _) rfl ?_
          refine R_ic (v := 3) d138_43 (by decide) ?_
          refine R_p d138_44 rfl rfl ?_
          refine R_p d138_46 rfl rfl ?_
          refine R_p d138_47 rfl rfl ?_
          refine R_ic (v := 1) d138_49 (by decide) ?_
          refine R_p d138_50 rfl rfl ?_
          refine R_ic (v := 3) d138_51 (by decide) ?_
          refine R_p d138_52 rfl rfl ?_
          refine R_p d138_53 rfl rfl ?_
          obtain ⟨c4, h⟩ := rdI_some h
          refine R_ild d138_54 (hg47 _ _) c4 ?_
          refine R_p d138_55 rfl rfl ?_
          rcases ite_some h with ⟨c5, h⟩ | ⟨c5, h⟩
          · refine R_br 64 d138_56 (mb_t (b := (¬ (s.1 47 (Int32.toNatClampNeg (((3 : Int32) * v4) + ((v5 + (1 : Int32)) - (v5 + (1 : Int32)) / (3 : Int32) * (3 : Int32))))) = v2)) c5) rfl ?_
            refine R_p d138_64 rfl rfl ?_
            refine R_p (ls' := [(0, .ref 42), (1, .int v1), (2, .int v2), (3, .int v3), (4, .int v4), (5, .int v5)]) d138_65 rfl rfl ?_
            refine R_p (ls' := [(0, .ref 42), (1, .int v1), (2, .int v2), (3, .int v3), (4, .int v4), (5, .int (v5 + Int32.ofInt 1))]) d138_66 rfl rfl ?_
            refine R_br 17 d138_69 rfl rfl ?_
            exact ih.2 v1 v2 v3 v4 (v5 + Int32.ofInt 1) s _ h
          · refine R_nb d138_56 rfl (mb_f (b := (¬ (s.1 47 (Int32.toNatClampNeg (((3 : Int32) * v4) + ((v5 + (1 : Int32)) - (v5 + (1 : Int32)) / (3 : Int32) * (3 : Int32))))) = v2)) c5) ?_
            refine R_p d138_59 rfl rfl ?_
            refine R_br 65 d138_61 rfl rfl ?_
            refine R_p (ls' := [(0, .ref 42), (1, .int v1), (2, .int v2), (3, .int v4), (4, .int v4), (5, .int v5)]) d138_65 rfl rfl ?_
            refine R_p (ls' := [(0, .ref 42), (1, .int v1), (2, .int v2), (3, .int v4), (4, .int v4), (5, .int (v5 + Int32.ofInt 1))]) d138_66 rfl rfl ?_
            refine R_br 17 d138_69 rfl rfl ?_
            exact ih.2 v1 v2 v4 v4 (v5 + Int32.ofInt 1) s _ h
def f138 (k : Nat) (v1 : Int32) (v2 : Int32) (s : mS) : Option (Int32) :=
  r138 k 0 v1 v2 (-1) 0 0 s
theorem t_f138 {S : mE} {ex : mHp} {k : Nat} {v1 : Int32} {v2 : Int32} {s : mS} {r : Int32} (h : f138 k v1 v2 s = some r) : Run S 138 (0, [(0, .ref 42), (1, .int v1), (2, .int v2)], [], hp s ex) (.inl (some (.int r)), hp s ex) := by
  unfold f138 at h
  refine R_ic (v := (-1)) d138_0 (by decide) ?_
  refine R_p (ls' := [(0, .ref 42), (1, .int v1), (2, .int v2), (3, .int (-1))]) d138_1 rfl rfl ?_
  refine R_ic (v := 0) d138_2 (by decide) ?_
  refine R_p (ls' := [(0, .ref 42), (1, .int v1), (2, .int v2), (3, .int (-1)), (4, .int 0)]) d138_3 rfl rfl ?_
  exact (s138 (S := S) (ex := ex) k).1 v1 v2 (-1) 0 0 s _ h
def r127 : Nat → Nat → Int32 → Int32 → Int32 → Int32 → mS → Option (Int32 × mS)
  | 0, _, _, _, _, _, _ => none
  | k + 1, hd, v1, v2, v3, v4, s =>
    if hd = 0 then (if ((s.2.2.1 15) ≤ v3) then
        (if (v1 = (1 : Int32)) then
          some (v2, s)
        else
          (if (v1 = (3 : Int32)) then
            some (v2, s)
          else
            (if (¬ v1 = (4 : Int32)) then
              some ((-1 : Int32), s)
            else
              some (v2, s))))
      else
        r127 k 1 v1 v2 v3 0 s) else
    (if (v3 ≤ v4) then
        r127 k 0 v1 v2 (v3 + Int32.ofInt 1) 0 s
      else
        (if ((s.2.2.1 17) ≤ (0 : Int32)) then
          (if (¬ v1 = (1 : Int32)) then
            (if (¬ v1 = (3 : Int32)) then
              r127 k 1 v1 v2 v3 (v4 + Int32.ofInt 1) s
            else
              r127 k 1 v1 v2 v3 (v4 + Int32.ofInt 1) s)
          else
            rdI 1600 (((40 : Int32) * v3) + v4) ((if ((s.1 45 (Int32.toNatClampNeg (((40 : Int32) * v3) + v4))) = (0 : Int32)) then
              r127 k 1 v1 v2 v3 (v4 + Int32.ofInt 1) s
            else
              r127 k 1 v1 (v2 + (1 : Int32)) v3 (v4 + Int32.ofInt 1) s)))
        else
          rdI 1600 (((40 : Int32) * v3) + v4) ((if ((s.1 46 (Int32.toNatClampNeg (((40 : Int32) * v3) + v4))) = (0 : Int32)) then
            (if (¬ v1 = (1 : Int32)) then
              (if (¬ v1 = (3 : Int32)) then
                r127 k 1 v1 v2 v3 (v4 + Int32.ofInt 1) s
              else
                r127 k 1 v1 v2 v3 (v4 + Int32.ofInt 1) s)
            else
              rdI 1600 (((40 : Int32) * v3) + v4) ((if ((s.1 45 (Int32.toNatClampNeg (((40 : Int32) * v3) + v4))) = (0 : Int32)) then
                r127 k 1 v1 v2 v3 (v4 + Int32.ofInt 1) s
              else
                r127 k 1 v1 (v2 + (1 : Int32)) v3 (v4 + Int32.ofInt 1) s)))
          else
            (if (¬ v1 = (1 : Int32)) then
              (if (¬ v1 = (3 : Int32)) then
                (f138 k v3 v4 s).bind fun q15 => (if (q15 < (0 : Int32)) then
                  r127 k 1 v1 (v2 + (1 : Int32)) v3 (v4 + Int32.ofInt 1) s
                else
                  (f138 k v4 v3 s).bind fun q18 => (if ((0 : Int32) ≤ q18) then
                    r127 k 1 v1 v2 v3 (v4 + Int32.ofInt 1) s
                  else
                    r127 k 1 v1 (v2 + (1 : Int32)) v3 (v4 + Int32.ofInt 1) s))
              else
                r127 k 1 v1 (v2 + (1 : Int32)) v3 (v4 + Int32.ofInt 1) s)
            else
              rdI 1600 (((40 : Int32) * v3) + v4) ((if ((s.1 45 (Int32.toNatClampNeg (((40 : Int32) * v3) + v4))) = (0 : Int32)) then
                r127 k 1 v1 v2 v3 (v4 + Int32.ofInt 1) s
              else
                r127 k 1 v1 (v2 + (1 : Int32)) v3 (v4 + Int32.ofInt 1) s)))))))
theorem s127 {S : mE} {ex : mHp} (k : Nat) : (∀ (v1 : Int32) (v2 : Int32) (v3 : Int32) (v4 : Int32) (s : mS) (r : Int32 × mS), r127 k 0 v1 v2 v3 v4 s = some r → Run S 127 (38, [(0, .ref 42), (1, .int v1), (2, .int v2), (3, .int v3)], [], hp s ex) (.inl (some (.int r.1)), hp r.2 ex)) ∧ (∀ (v1 : Int32) (v2 : Int32) (v3 : Int32) (v4 : Int32) (s : mS) (r : Int32 × mS), r127 k 1 v1 v2 v3 v4 s = some r → Run S 127 (49, [(0, .ref 42), (1, .int v1), (2, .int v2), (3, .int v3), (4, .int v4)], [], hp s ex) (.inl (some (.int r.1)), hp r.2 ex)) := by
  induction k with
  | zero => refine ⟨?_, ?_⟩ <;> (intro v1 v2 v3 v4 s r h; cases h)
  | succ k ih =>
    refine ⟨?_, ?_⟩
    · intro v1 v2 v3 v4 s r h
      rw [r127, if_pos rfl] at h
      refine R_p d127_38 rfl rfl ?_
      refine R_p d127_39 rfl rfl ?_
      refine R_get d127_40 (Or.inl (List.mem_of_getElem? (i := 49) rfl)) (hg42 _ _) rfl ?_
      rcases ite_some h with ⟨c1, h⟩ | ⟨c1, h⟩
      · refine R_br 171 d127_43 (mb_t (b := ((s.2.2.1 15) ≤ v3)) c1) rfl ?_
        refine R_p d127_171 rfl rfl ?_
        refine R_ic (v := 1) d127_172 (by decide) ?_
        rcases ite_some h with ⟨c2, h⟩ | ⟨c2, h⟩
        · refine R_br 186 d127_173 (mb_t (b := (v1 = (1 : Int32))) c2) rfl ?_
          refine R_p d127_186 rfl rfl ?_
          refine R_br 191 d127_187 rfl rfl ?_
          cases h
          exact R_iret d127_191 rfl rfl rfl
        · refine R_nb d127_173 rfl (mb_f (b := (v1 = (1 : Int32))) c2) ?_
          refine R_p d127_176 rfl rfl ?_
          refine R_ic (v := 3) d127_177 (by decide) ?_
          rcases ite_some h with ⟨c3, h⟩ | ⟨c3, h⟩
          · refine R_br 186 d127_178 (mb_t (b := (v1 = (3 : Int32))) c3) rfl ?_
            refine R_p d127_186 rfl rfl ?_
            refine R_br 191 d127_187 rfl rfl ?_
            cases h
            exact R_iret d127_191 rfl rfl rfl
          · refine R_nb d127_178 rfl (mb_f (b := (v1 = (3 : Int32))) c3) ?_
            refine R_p d127_181 rfl rfl ?_
            refine R_ic (v := 4) d127_182 (by decide) ?_
            rcases ite_some h with ⟨c4, h⟩ | ⟨c4, h⟩
            · refine R_br 190 d127_183 (mb_t (b := (¬ v1 = (4 : Int32))) c4) rfl ?_
              refine R_ic (v := (-1)) d127_190 (by decide) ?_
              cases h
              exact R_iret d127_191 rfl rfl rfl
            · refine R_nb d127_183 rfl (mb_f (b := (¬ v1 = (4 : Int32))) c4) ?_
              refine R_p d127_186 rfl rfl ?_
              refine R_br 191 d127_187 rfl rfl ?_
              cases h
              exact R_iret d127_191 rfl rfl rfl
      · refine R_nb d127_43 rfl (mb_f (b := ((s.2.2.1 15) ≤ v3)) c1) ?_
        refine R_ic (v := 0) d127_46 (by decide) ?_
        refine R_p (ls' := [(0, .ref 42), (1, .int v1), (2, .int v2), (3, .int v3), (4, .int 0)]) d127_47 rfl rfl ?_
        exact ih.2 v1 v2 v3 0 s _ h
    · intro v1 v2 v3 v4 s r h
      rw [r127, if_neg (by decide)] at h
      refine R_p d127_49 rfl rfl ?_
      refine R_p d127_51 rfl rfl ?_
      rcases ite_some h with ⟨c1, h⟩ | ⟨c1, h⟩
      · refine R_br 165 d127_52 (mb_t (b := (v3 ≤ v4)) c1) rfl ?_
        refine R_p (ls' := [(0, .ref 42), (1, .int v1), (2, .int v2), (3, .int (v3 + Int32.ofInt 1)), (4, .int v4)]) d127_165 rfl rfl ?_
        refine R_br 38 d127_168 rfl rfl ?_
        exact R_wk [(0, .ref 42), (1, .int v1), (2, .int v2), (3, .int (v3 + Int32.ofInt 1))] (by simp) (ih.1 v1 v2 (v3 + Int32.ofInt 1) 0 s _ h)
      · refine R_nb d127_52 rfl (mb_f (b := (v3 ≤ v4)) c1) ?_
        refine R_p d127_55 rfl rfl ?_
        refine R_get d127_56 (Or.inl (List.mem_of_getElem? (i := 55) rfl)) (hg42 _ _) rfl ?_
        rcases ite_some h with ⟨c2, h⟩ | ⟨c2, h⟩
        · refine R_br 81 d127_59 (mb_t (b := ((s.2.2.1 17) ≤ (0 : Int32))) c2) rfl ?_
          refine R_ic (v := 0) d127_81 (by decide) ?_
          refine R_p (ls' := [(0, .ref 42), (1, .int v1), (2, .int v2), (3, .int v3), (4, .int v4), (5, .int 0)]) d127_82 rfl rfl ?_
          refine R_p d127_84 rfl rfl ?_
          refine R_ic (v := 1) d127_85 (by decide) ?_
          rcases ite_some h with ⟨c3, h⟩ | ⟨c3, h⟩
          · refine R_br 104 d127_86 (mb_t (b := (¬ v1 = (1 : Int32))) c3) rfl ?_
            refine R_p d127_104 rfl rfl ?_
            refine R_ic (v := 3) d127_105 (by decide) ?_
            rcases ite_some h with ⟨c4, h⟩ | ⟨c4, h⟩
            · refine R_br 114 d127_106 (mb_t (b := (¬ v1 = (3 : Int32))) c4) rfl ?_
              refine R_p d127_114 rfl rfl ?_
              refine R_br 143 d127_116 (mb_t (b := ((0 : Int32) = (0 : Int32))) (by decide)) rfl ?_
              refine R_ic (v := 0) d127_143 (by decide) ?_
              refine R_p (ls' := [(0, .ref 42), (1, .int v1), (2, .int v2), (3, .int v3), (4, .int v4), (5, .int 0), (6, .int 0)]) d127_144 rfl rfl ?_
              refine R_p d127_146 rfl rfl ?_
              refine R_br 157 d127_148 (mb_t (b := ((0 : Int32) = (0 : Int32))) (by decide)) rfl ?_
              refine R_p d127_157 rfl rfl ?_
              refine R_p (ls' := [(0, .ref 42), (1, .int v1), (2, .int v2), (3, .int v3), (4, .int v4), (5, .int 0), (6, .int 0)]) d127_158 rfl rfl ?_
              refine R_p (ls' := [(0, .ref 42), (1, .int v1), (2, .int v2), (3, .int v3), (4, .int (v4 + Int32.ofInt 1)), (5, .int 0), (6, .int 0)]) d127_159 rfl rfl ?_
              refine R_br 49 d127_162 rfl rfl ?_
              exact R_wk [(0, .ref 42), (1, .int v1), (2, .int v2), (3, .int v3), (4, .int (v4 + Int32.ofInt 1))] (by simp) (ih.2 v1 v2 v3 (v4 + Int32.ofInt 1) s _ h)
            · refine R_nb d127_106 rfl (mb_f (b := (¬ v1 = (3 : Int32))) c4) ?_
              refine R_p d127_109 rfl rfl ?_
              refine R_br 144 d127_111 rfl rfl ?_
              refine R_p (ls' := [(0, .ref 42), (1, .int v1), (2, .int v2), (3, .int v3), (4, .int v4), (5, .int 0), (6, .int 0)]) d127_144 rfl rfl ?_
              refine R_p d127_146 rfl rfl ?_
              refine R_br 157 d127_148 (mb_t (b := ((0 : Int32) = (0 : Int32))) (by decide)) rfl ?_
              refine R_p d127_157 rfl rfl ?_
              refine R_p (ls' := [(0, .ref 42), (1, .int v1), (2, .int v2), (3, .int v3), (4, .int v4), (5, .int 0), (6, .int 0)]) d127_158 rfl rfl ?_
              refine R_p (ls' := [(0, .ref 42), (1, .int v1), (2, .int v2), (3, .int v3), (4, .int (v4 + Int32.ofInt 1)), (5, .int 0), (6, .int 0)]) d127_159 rfl rfl ?_
              refine R_br 49 d127_162 rfl rfl ?_
              exact R_wk [(0, .ref 42), (1, .int v1), (2, .int v2), (3, .int v3), (4, .int (v4 + Int32.ofInt 1))] (by simp) (ih.2 v1 v2 v3 (v4 + Int32.ofInt 1) s _ h)
          · refine R_nb d127_86 rfl (mb_f (b := (¬ v1 = (1 : Int32))) c3) ?_
            refine R_p d127_89 rfl rfl ?_
            refine R_get d127_90 (Or.inl (List.mem_of_getElem? (i := 52) rfl)) (hg42 _ _) rfl ?_
            refine R_bi (v := 40) d127_93 (by decide) ?_
            refine R_p d127_95 rfl rfl ?_
            refine R_p d127_96 rfl rfl ?_
            refine R_p d127_97 rfl rfl ?_
            refine R_p d127_99 rfl rfl ?_
            obtain ⟨c5, h⟩ := rdI_some h
            refine R_zld d127_100 (hg45 _ _) c5 ?_
            refine R_br 144 d127_101 rfl rfl ?_
            refine R_p (ls' := [(0, .ref 42), (1, .int v1), (2, .int v2), (3, .int v3), (4, .int v4), (5, .int 0), (6, .int (s.1 45 (Int32.toNatClampNeg (((40 : Int32) * v3) + v4))))]) d127_144 rfl rfl ?_
            refine R_p d127_146 rfl rfl ?_
            rcases ite_some h with ⟨c6, h⟩ | ⟨c6, h⟩
            · refine R_br 157 d127_148 (mb_t (b := ((s.1 45 (Int32.toNatClampNeg (((40 : Int32) * v3) + v4))) = (0 : Int32))) c6) rfl ?_
              refine R_p d127_157 rfl rfl ?_
              refine R_p (ls' := [(0, .ref 42), (1, .int v1), (2, .int v2), (3, .int v3), (4, .int v4), (5, .int 0), (6, .int (s.1 45 (Int32.toNatClampNeg (((40 : Int32) * v3) + v4))))]) d127_158 rfl rfl ?_
              refine R_p (ls' := [(0, .ref 42), (1, .int v1), (2, .int v2), (3, .int v3), (4, .int (v4 + Int32.ofInt 1)), (5, .int 0), (6, .int (s.1 45 (Int32.toNatClampNeg (((40 : Int32) * v3) + v4))))]) d127_159 rfl rfl ?_
              refine R_br 49 d127_162 rfl rfl ?_
              exact R_wk [(0, .ref 42), (1, .int v1), (2, .int v2), (3, .int v3), (4, .int (v4 + Int32.ofInt 1))] (by simp) (ih.2 v1 v2 v3 (v4 + Int32.ofInt 1) s _ h)
            · refine R_nb d127_148 rfl (mb_f (b := ((s.1 45 (Int32.toNatClampNeg (((40 : Int32) * v3) + v4))) = (0 : Int32))) c6) ?_
              refine R_p d127_151 rfl rfl ?_
              refine R_ic (v := 1) d127_152 (by decide) ?_
              refine R_p d127_153 rfl rfl ?_
              refine R_br 158 d127_154 rfl rfl ?_
              refine R_p (ls' := [(0, .ref 42), (1, .int v1), (2, .int (v2 + (1 : Int32))), (3, .int v3), (4, .int v4), (5, .int 0), (6, .int (s.1 45 (Int32.toNatClampNeg (((40 : Int32) * v3) + v4))))]) d127_158 rfl rfl ?_
              refine R_p (ls' := [(0, .ref 42), (1, .int v1), (2, .int (v2 + (1 : Int32))), (3, .int v3), (4, .int (v4 + Int32.ofInt 1)), (5, .int 0), (6, .int (s.1 45 (Int32.toNatClampNeg (((40 : Int32) * v3) + v4))))]) d127_159 rfl rfl ?_
              refine R_br 49 d127_162 rfl rfl ?_
              exact R_wk [(0, .ref 42), (1, .int v1), (2, .int (v2 + (1 : Int32))), (3, .int v3), (4, .int (v4 + Int32.ofInt 1))] (by simp) (ih.2 v1 (v2 + (1 : Int32)) v3 (v4 + Int32.ofInt 1) s _ h)
        · refine R_nb d127_59 rfl (mb_f (b := ((s.2.2.1 17) ≤ (0 : Int32))) c2) ?_
          refine R_p d127_62 rfl rfl ?_
          refine R_get d127_63 (Or.inl (List.mem_of_getElem? (i := 53) rfl)) (hg42 _ _) rfl ?_
          refine R_bi (v := 40) d127_66 (by decide) ?_
          refine R_p d127_68 rfl rfl ?_
          refine R_p d127_69 rfl rfl ?_
          refine R_p d127_70 rfl rfl ?_
          refine R_p d127_72 rfl rfl ?_
          obtain ⟨c7, h⟩ := rdI_some h
          refine R_zld d127_73 (hg46 _ _) c7 ?_
          rcases ite_some h with ⟨c8, h⟩ | ⟨c8, h⟩
          · refine R_br 81 d127_74 (mb_t (b := ((s.1 46 (Int32.toNatClampNeg (((40 : Int32) * v3) + v4))) = (0 : Int32))) c8) rfl ?_
            refine R_ic (v := 0) d127_81 (by decide) ?_
            refine R_p (ls' := [(0, .ref 42), (1, .int v1), (2, .int v2), (3, .int v3), (4, .int v4), (5, .int 0)]) d127_82 rfl rfl ?_
            refine R_p d127_84 rfl rfl ?_
            refine R_ic (v := 1) d127_85 (by decide) ?_
            rcases ite_some h with ⟨c9, h⟩ | ⟨c9, h⟩
            · refine R_br 104 d127_86 (mb_t (b := (¬ v1 = (1 : Int32))) c9) rfl ?_
              refine R_p d127_104 rfl rfl ?_
              refine R_ic (v := 3) d127_105 (by decide) ?_
              rcases ite_some h with ⟨c10, h⟩ | ⟨c10, h⟩
              · refine R_br 114 d127_106 (mb_t (b := (¬ v1 = (3 : Int32))) c10) rfl ?_
                refine R_p d127_114 rfl rfl ?_
                refine R_br 143 d127_116 (mb_t (b := ((0 : Int32) = (0 : Int32))) (by decide)) rfl ?_
                refine R_ic (v := 0) d127_143 (by decide) ?_
                refine R_p (ls' := [(0, .ref 42), (1, .int v1), (2, .int v2), (3, .int v3), (4, .int v4), (5, .int 0), (6, .int 0)]) d127_144 rfl rfl ?_
                refine R_p d127_146 rfl rfl ?_
                refine R_br 157 d127_148 (mb_t (b := ((0 : Int32) = (0 : Int32))) (by decide)) rfl ?_
                refine R_p d127_157 rfl rfl ?_
                refine R_p (ls' := [(0, .ref 42), (1, .int v1), (2, .int v2), (3, .int v3), (4, .int v4), (5, .int 0), (6, .int 0)]) d127_158 rfl rfl ?_
                refine R_p (ls' := [(0, .ref 42), (1, .int v1), (2, .int v2), (3, .int v3), (4, .int (v4 + Int32.ofInt 1)), (5, .int 0), (6, .int 0)]) d127_159 rfl rfl ?_
                refine R_br 49 d127_162 rfl rfl ?_
                exact R_wk [(0, .ref 42), (1, .int v1), (2, .int v2), (3, .int v3), (4, .int (v4 + Int32.ofInt 1))] (by simp) (ih.2 v1 v2 v3 (v4 + Int32.ofInt 1) s _ h)
              · refine R_nb d127_106 rfl (mb_f (b := (¬ v1 = (3 : Int32))) c10) ?_
                refine R_p d127_109 rfl rfl ?_
                refine R_br 144 d127_111 rfl rfl ?_
                refine R_p (ls' := [(0, .ref 42), (1, .int v1), (2, .int v2), (3, .int v3), (4, .int v4), (5, .int 0), (6, .int 0)]) d127_144 rfl rfl ?_
                refine R_p d127_146 rfl rfl ?_
                refine R_br 157 d127_148 (mb_t (b := ((0 : Int32) = (0 : Int32))) (by decide)) rfl ?_
                refine R_p d127_157 rfl rfl ?_
                refine R_p (ls' := [(0, .ref 42), (1, .int v1), (2, .int v2), (3, .int v3), (4, .int v4), (5, .int 0), (6, .int 0)]) d127_158 rfl rfl ?_
                refine R_p (ls' := [(0, .ref 42), (1, .int v1), (2, .int v2), (3, .int v3), (4, .int (v4 + Int32.ofInt 1)), (5, .int 0), (6, .int 0)]) d127_159 rfl rfl ?_
                refine R_br 49 d127_162 rfl rfl ?_
                exact R_wk [(0, .ref 42), (1, .int v1), (2, .int v2), (3, .int v3), (4, .int (v4 + Int32.ofInt 1))] (by simp) (ih.2 v1 v2 v3 (v4 + Int32.ofInt 1) s _ h)
            · refine R_nb d127_86 rfl (mb_f (b := (¬ v1 = (1 : Int32))) c9) ?_
              refine R_p d127_89 rfl rfl ?_
              refine R_get d127_90 (Or.inl (List.mem_of_getElem? (i := 52) rfl)) (hg42 _ _) rfl ?_
              refine R_bi (v := 40) d127_93 (by decide) ?_
              refine R_p d127_95 rfl rfl ?_
              refine R_p d127_96 rfl rfl ?_
              refine R_p d127_97 rfl rfl ?_
              refine R_p d127_99 rfl rfl ?_
              obtain ⟨c11, h⟩ := rdI_some h
              refine R_zld d127_100 (hg45 _ _) c11 ?_
              refine R_br 144 d127_101 rfl rfl ?_
              refine R_p (ls' := [(0, .ref 42), (1, .int v1), (2, .int v2), (3, .int v3), (4, .int v4), (5, .int 0), (6, .int (s.1 45 (Int32.toNatClampNeg (((40 : Int32) * v3) + v4))))]) d127_144 rfl rfl ?_
              refine R_p d127_146 rfl rfl ?_
              rcases ite_some h with ⟨c12, h⟩ | ⟨c12, h⟩
              · refine R_br 157 d127_148 (mb_t (b := ((s.1 45 (Int32.toNatClampNeg (((40 : Int32) * v3) + v4))) = (0 : Int32))) c12) rfl ?_
                refine R_p d127_157 rfl rfl ?_
                refine R_p (ls' := [(0, .ref 42), (1, .int v1), (2, .int v2), (3, .int v3), (4, .int v4), (5, .int 0), (6, .int (s.1 45 (Int32.toNatClampNeg (((40 : Int32) * v3) + v4))))]) d127_158 rfl rfl ?_
                refine R_p (ls' := [(0, .ref 42), (1, .int v1), (2, .int v2), (3, .int v3), (4, .int (v4 + Int32.ofInt 1)), (5, .int 0), (6, .int (s.1 45 (Int32.toNatClampNeg (((40 : Int32) * v3) + v4))))]) d127_159 rfl rfl ?_
                refine R_br 49 d127_162 rfl rfl ?_
                exact R_wk [(0, .ref 42), (1, .int v1), (2, .int v2), (3, .int v3), (4, .int (v4 + Int32.ofInt 1))] (by simp) (ih.2 v1 v2 v3 (v4 + Int32.ofInt 1) s _ h)
              · refine R_nb d127_148 rfl (mb_f (b := ((s.1 45 (Int32.toNatClampNeg (((40 : Int32) * v3) + v4))) = (0 : Int32))) c12) ?_
                refine R_p d127_151 rfl rfl ?_
                refine R_ic (v := 1) d127_152 (by decide) ?_
                refine R_p d127_153 rfl rfl ?_
                refine R_br 158 d127_154 rfl rfl ?_
                refine R_p (ls' := [(0, .ref 42), (1, .int v1), (2, .int (v2 + (1 : Int32))), (3, .int v3), (4, .int v4), (5, .int 0), (6, .int (s.1 45 (Int32.toNatClampNeg (((40 : Int32) * v3) + v4))))]) d127_158 rfl rfl ?_
                refine R_p (ls' := [(0, .ref 42), (1, .int v1), (2, .int (v2 + (1 : Int32))), (3, .int v3), (4, .int (v4 + Int32.ofInt 1)), (5, .int 0), (6, .int (s.1 45 (Int32.toNatClampNeg (((40 : Int32) * v3) + v4))))]) d127_159 rfl rfl ?_
                refine R_br 49 d127_162 rfl rfl ?_
                exact R_wk [(0, .ref 42), (1, .int v1), (2, .int (v2 + (1 : Int32))), (3, .int v3), (4, .int (v4 + Int32.ofInt 1))] (by simp) (ih.2 v1 (v2 + (1 : Int32)) v3 (v4 + Int32.ofInt 1) s _ h)
          · refine R_nb d127_74 rfl (mb_f (b := ((s.1 46 (Int32.toNatClampNeg (((40 : Int32) * v3) + v4))) = (0 : Int32))) c8) ?_
            refine R_ic (v := 1) d127_77 (by decide) ?_
            refine R_br 82 d127_78 rfl rfl ?_
            refine R_p (ls' := [(0, .ref 42), (1, .int v1), (2, .int v2), (3, .int v3), (4, .int v4), (5, .int 1)]) d127_82 rfl rfl ?_
            refine R_p d127_84 rfl rfl ?_
            refine R_ic (v := 1) d127_85 (by decide) ?_
            rcases ite_some h with ⟨c13, h⟩ | ⟨c13, h⟩
            · refine R_br 104 d127_86 (mb_t (b := (¬ v1 = (1 : Int32))) c13) rfl ?_
              refine R_p d127_104 rfl rfl ?_
              refine R_ic (v := 3) d127_105 (by decide) ?_
              rcases ite_some h with ⟨c14, h⟩ | ⟨c14, h⟩
              · refine R_br 114 d127_106 (mb_t (b := (¬ v1 = (3 : Int32))) c14) rfl ?_
                refine R_p d127_114 rfl rfl ?_
                refine R_nb d127_116 rfl (mb_f (b := ((1 : Int32) = (0 : Int32))) (by decide)) ?_
                refine R_p d127_119 rfl rfl ?_
                refine R_p d127_120 rfl rfl ?_
                refine R_p d127_121 rfl rfl ?_
                obtain ⟨q15, e16, h⟩ := bd_some h
                refine R_cm [.int v3, .int v4] d127_123 (List.mem_of_getElem? (i := 185) rfl) rfl ⟨by decide, by decide, Nat.le_of_ble_eq_true rfl, rfl, mcd138⟩ rfl rfl (Nat.le_of_ble_eq_true rfl) (hg42 _ _) rfl (t_f138 e16) ?_
                rcases ite_some h with ⟨c17, h⟩ | ⟨c17, h⟩
                · refine R_br 139 d127_126 (mb_t (b := (q15 < (0 : Int32))) c17) rfl ?_
                  refine R_ic (v := 1) d127_139 (by decide) ?_
                  refine R_br 144 d127_140 rfl rfl ?_
                  refine R_p (ls' := [(0, .ref 42), (1, .int v1), (2, .int v2), (3, .int v3), (4, .int v4), (5, .int 1), (6, .int 1)]) d127_144 rfl rfl ?_
                  refine R_p d127_146 rfl rfl ?_
                  refine R_nb d127_148 rfl (mb_f (b := ((1 : Int32) = (0 : Int32))) (by decide)) ?_
                  refine R_p d127_151 rfl rfl ?_
                  refine R_ic (v := 1) d127_152 (by decide) ?_
                  refine R_p d127_153 rfl rfl ?_
                  refine R_br 158 d127_154 rfl rfl ?_
                  refine R_p (ls' := [(0, .ref 42), (1, .int v1), (2, .int (v2 + (1 : Int32))), (3, .int v3), (4, .int v4), (5, .int 1), (6, .int 1)]) d127_158 rfl rfl ?_
                  refine R_p (ls' := [(0, .ref 42), (1, .int v1), (2, .int (v2 + (1 : Int32))), (3, .int v3), (4, .int (v4 + Int32.ofInt 1)), (5, .int 1), (6, .int 1)]) d127_159 rfl rfl ?_
                  refine R_br 49 d127_162 rfl rfl ?_
                  exact R_wk [(0, .ref 42), (1, .int v1), (2, .int (v2 + (1 : Int32))), (3, .int v3), (4, .int (v4 + Int32.ofInt 1))] (by simp) (ih.2 v1 (v2 + (1 : Int32)) v3 (v4 + Int32.ofInt 1) s _ h)
                · refine R_nb d127_126 rfl (mb_f (b := (q15 < (0 : Int32))) c17) ?_
                  refine R_p d127_129 rfl rfl ?_
                  refine R_p d127_130 rfl rfl ?_
                  refine R_p d127_132 rfl rfl ?_
                  obtain ⟨q18, e19, h⟩ := bd_some h
                  refine R_cm [.int v4, .int v3] d127_133 (List.mem_of_getElem? (i := 185) rfl) rfl ⟨by decide, by decide, Nat.le_of_ble_eq_true rfl, rfl, mcd138⟩ rfl rfl (Nat.le_of_ble_eq_true rfl) (hg42 _ _) rfl (t_f138 e19) ?_
                  rcases ite_some h with ⟨c20, h⟩ | ⟨c20, h⟩
                  · refine R_br 143 d127_136 (mb_t (b := ((0 : Int32) ≤ q18)) c20) rfl ?_
                    refine R_ic (v := 0) d127_143 (by decide) ?_
                    refine R_p (ls' := [(0, .ref 42), (1, .int v1), (2, .int v2), (3, .int v3), (4, .int v4), (5, .int 1), (6, .int 0)]) d127_144 rfl rfl ?_
                    refine R_p d127_146 rfl rfl ?_
                    refine R_br 157 d127_148 (mb_t (b := ((0 : Int32) = (0 : Int32))) (by decide)) rfl ?_
                    refine R_p d127_157 rfl rfl ?_
                    refine R_p (ls' := [(0, .ref 42), (1, .int v1), (2, .int v2), (3, .int v3), (4, .int v4), (5, .int 1), (6, .int 0)]) d127_158 rfl rfl ?_
                    refine R_p (ls' := [(0, .ref 42), (1, .int v1), (2, .int v2), (3, .int v3), (4, .int (v4 + Int32.ofInt 1)), (5, .int 1), (6, .int 0)]) d127_159 rfl rfl ?_
                    refine R_br 49 d127_162 rfl rfl ?_
                    exact R_wk [(0, .ref 42), (1, .int v1), (2, .int v2), (3, .int v3), (4, .int (v4 + Int32.ofInt 1))] (by simp) (ih.2 v1 v2 v3 (v4 + Int32.ofInt 1) s _ h)
                  · refine R_nb d127_136 rfl (mb_f (b := ((0 : Int32) ≤ q18)) c20) ?_
                    refine R_ic (v := 1) d127_139 (by decide) ?_
                    refine R_br 144 d127_140 rfl rfl ?_
                    refine R_p (ls' := [(0, .ref 42), (1, .int v1), (2, .int v2), (3, .int v3), (4, .int v4), (5, .int 1), (6, .int 1)]) d127_144 rfl rfl ?_
                    refine R_p d127_146 rfl rfl ?_
                    refine R_nb d127_148 rfl (mb_f (b := ((1 : Int32) = (0 : Int32))) (by decide)) ?_
                    refine R_p d127_151 rfl rfl ?_
                    refine R_ic (v := 1) d127_152 (by decide) ?_
                    refine R_p d127_153 rfl rfl ?_
                    refine R_br 158 d127_154 rfl rfl ?_
                    refine R_p (ls' := [(0, .ref 42), (1, .int v1), (2, .int (v2 + (1 : Int32))), (3, .int v3), (4, .int v4), (5, .int 1), (6, .int 1)]) d127_158 rfl rfl ?_
                    refine R_p (ls' := [(0, .ref 42), (1, .int v1), (2, .int (v2 + (1 : Int32))), (3, .int v3), (4, .int (v4 + Int32.ofInt 1)), (5, .int 1), (6, .int 1)]) d127_159 rfl rfl ?_
                    refine R_br 49 d127_162 rfl rfl ?_
                    exact R_wk [(0, .ref 42), (1, .int v1), (2, .int (v2 + (1 : Int32))), (3, .int v3), (4, .int (v4 + Int32.ofInt 1))] (by simp) (ih.2 v1 (v2 + (1 : Int32)) v3 (v4 + Int32.ofInt 1) s _ h)
              · refine R_nb d127_106 rfl (mb_f (b := (¬ v1 = (3 : Int32))) c14) ?_
                refine R_p d127_109 rfl rfl ?_
                refine R_br 144 d127_111 rfl rfl ?_
                refine R_p (ls' := [(0, .ref 42), (1, .int v1), (2, .int v2), (3, .int v3), (4, .int v4), (5, .int 1), (6, .int 1)]) d127_144 rfl rfl ?_
                refine R_p d127_146 rfl rfl ?_
                refine R_nb d127_148 rfl (mb_f (b := ((1 : Int32) = (0 : Int32))) (by decide)) ?_
                refine R_p d127_151 rfl rfl ?_
                refine R_ic (v := 1) d127_152 (by decide) ?_
                refine R_p d127_153 rfl rfl ?_
                refine R_br 158 d127_154 rfl rfl ?_
                refine R_p (ls' := [(0, .ref 42), (1, .int v1), (2, .int (v2 + (1 : Int32))), (3, .int v3), (4, .int v4), (5, .int 1), (6, .int 1)]) d127_158 rfl rfl ?_
                refine R_p (ls' := [(0, .ref 42), (1, .int v1), (2, .int (v2 + (1 : Int32))), (3, .int v3), (4, .int (v4 + Int32.ofInt 1)), (5, .int 1), (6, .int 1)]) d127_159 rfl rfl ?_
                refine R_br 49 d127_162 rfl rfl ?_
                exact R_wk [(0, .ref 42), (1, .int v1), (2, .int (v2 + (1 : Int32))), (3, .int v3), (4, .int (v4 + Int32.ofInt 1))] (by simp) (ih.2 v1 (v2 + (1 : Int32)) v3 (v4 + Int32.ofInt 1) s _ h)
            · refine R_nb d127_86 rfl (mb_f (b := (¬ v1 = (1 : Int32))) c13) ?_
              refine R_p d127_89 rfl rfl ?_
              refine R_get d127_90 (Or.inl (List.mem_of_getElem? (i := 52) rfl)) (hg42 _ _) rfl ?_
              refine R_bi (v := 40) d127_93 (by decide) ?_
              refine R_p d127_95 rfl rfl ?_
              refine R_p d127_96 rfl rfl ?_
              refine R_p d127_97 rfl rfl ?_
              refine R_p d127_99 rfl rfl ?_
              obtain ⟨c21, h⟩ := rdI_some h
              refine R_zld d127_100 (hg45 _ _) c21 ?_
              refine R_br 144 d127_101 rfl rfl ?_
              refine R_p (ls' := [(0, .ref 42), (1, .int v1), (2, .int v2), (3, .int v3), (4, .int v4), (5, .int 1), (6, .int (s.1 45 (Int32.toNatClampNeg (((40 : Int32) * v3) + v4))))]) d127_144 rfl rfl ?_
              refine R_p d127_146 rfl rfl ?_
              rcases ite_some h with ⟨c22, h⟩ | ⟨c22, h⟩
              · refine R_br 157 d127_148 (mb_t (b := ((s.1 45 (Int32.toNatClampNeg (((40 : Int32) * v3) + v4))) = (0 : Int32))) c22) rfl ?_
                refine R_p d127_157 rfl rfl ?_
                refine R_p (ls' := [(0, .ref 42), (1, .int v1), (2, .int v2), (3, .int v3), (4, .int v4), (5, .int 1), (6, .int (s.1 45 (Int32.toNatClampNeg (((40 : Int32) * v3) + v4))))]) d127_158 rfl rfl ?_
                refine R_p (ls' := [(0, .ref 42), (1, .int v1), (2, .int v2), (3, .int v3), (4, .int (v4 + Int32.ofInt 1)), (5, .int 1), (6, .int (s.1 45 (Int32.toNatClampNeg (((40 : Int32) * v3) + v4))))]) d127_159 rfl rfl ?_
                refine R_br 49 d127_162 rfl rfl ?_
                exact R_wk [(0, .ref 42), (1, .int v1), (2, .int v2), (3, .int v3), (4, .int (v4 + Int32.ofInt 1))] (by simp) (ih.2 v1 v2 v3 (v4 + Int32.ofInt 1) s _ h)
              · refine R_nb d127_148 rfl (mb_f (b := ((s.1 45 (Int32.toNatClampNeg (((40 : Int32) * v3) + v4))) = (0 : Int32))) c22) ?_
                refine R_p d127_151 rfl rfl ?_
                refine R_ic (v := 1) d127_152 (by decide) ?_
                refine R_p d127_153 rfl rfl ?_
                refine R_br 158 d127_154 rfl rfl ?_
                refine R_p (ls' := [(0, .ref 42), (1, .int v1), (2, .int (v2 + (1 : Int32))), (3, .int v3), (4, .int v4), (5, .int 1), (6, .int (s.1 45 (Int32.toNatClampNeg (((40 : Int32) * v3) + v4))))]) d127_158 rfl rfl ?_
                refine R_p (ls' := [(0, .ref 42), (1, .int v1), (2, .int (v2 + (1 : Int32))), (3, .int v3), (4, .int (v4 + Int32.ofInt 1)), (5, .int 1), (6, .int (s.1 45 (Int32.toNatClampNeg (((40 : Int32) * v3) + v4))))]) d127_159 rfl rfl ?_
                refine R_br 49 d127_162 rfl rfl ?_
                exact R_wk [(0, .ref 42), (1, .int v1), (2, .int (v2 + (1 : Int32))), (3, .int v3), (4, .int (v4 + Int32.ofInt 1))] (by simp) (ih.2 v1 (v2 + (1 : Int32)) v3 (v4 + Int32.ofInt 1) s _ h)
def f127 (k : Nat) (v1 : Int32) (s : mS) : Option (Int32 × mS) :=
  pt (uF 14 (0 : Int32) s) fun s1 => (f128 k s1).bind fun q3 => (if (v1 = (0 : Int32)) then
    (if (¬ v1 = (0 : Int32)) then
      some ((q3.2.2.1 17), q3)
    else
      some ((q3.2.2.1 15), q3))
  else
    (if (¬ v1 = (2 : Int32)) then
      r127 k 0 v1 0 0 0 q3
    else
      (if (¬ v1 = (0 : Int32)) then
        some ((q3.2.2.1 17), q3)
      else
        some ((q3.2.2.1 15), q3))))
theorem t_f127 {S : mE} {ex : mHp} {k : Nat} {v1 : Int32} {s : mS} {r : Int32 × mS} (h : f127 k v1 s = some r) : Run S 127 (0, [(0, .ref 42), (1, .int v1)], [], hp s ex) (.inl (some (.int r.1)), hp r.2 ex) := by
  unfold f127 at h
  refine R_p d127_0 rfl rfl ?_
  refine R_ic (v := 0) d127_1 (by decide) ?_
  obtain ⟨s1, e2, h⟩ := pt_some h
  refine R_put d127_2 (List.mem_of_getElem? (i := 48) rfl) (hg42 _ _) (Nat.le_of_ble_eq_true rfl) rfl rfl (Or.inl rfl) ?_
  refine R_h (hp s1 ex) (by rw [e2]; exact hF14 _ _ _) ?_
  refine R_p d127_5 rfl rfl ?_
  obtain ⟨q3, e4, h⟩ := bd_some h
  refine R_cm [] d127_6 (List.mem_of_getElem? (i := 175) rfl) rfl ⟨by decide, by decide, Nat.le_of_ble_eq_true rfl, rfl, mcd128⟩ rfl rfl (Nat.le_of_ble_eq_true rfl) (hg42 _ _) rfl (t_f128 e4) ?_
  refine R_p d127_9 rfl rfl ?_
  rcases ite_some h with ⟨c5, h⟩ | ⟨c5, h⟩
  · refine R_br 18 d127_10 (mb_t (b := (v1 = (0 : Int32))) c5) rfl ?_
    refine R_p d127_18 rfl rfl ?_
    rcases ite_some h with ⟨c6, h⟩ | ⟨c6, h⟩
    · refine R_br 29 d127_19 (mb_t (b := (¬ v1 = (0 : Int32))) c6) rfl ?_
      refine R_p d127_29 rfl rfl ?_
      refine R_get d127_30 (Or.inl (List.mem_of_getElem? (i := 55) rfl)) (hg42 _ _) rfl ?_
      cases h
      exact R_iret d127_33 rfl rfl rfl
    · refine R_nb d127_19 rfl (mb_f (b := (¬ v1 = (0 : Int32))) c6) ?_
      refine R_p d127_22 rfl rfl ?_
      refine R_get d127_23 (Or.inl (List.mem_of_getElem? (i := 49) rfl)) (hg42 _ _) rfl ?_
      refine R_br 33 d127_26 rfl rfl ?_
      cases h
      exact R_iret d127_33 rfl rfl rfl
  · refine R_nb d127_10 rfl (mb_f (b := (v1 = (0 : Int32))) c5) ?_
    refine R_p d127_13 rfl rfl ?_
    refine R_ic (v := 2) d127_14 (by decide) ?_
    rcases ite_some h with ⟨c7, h⟩ | ⟨c7, h⟩
    · refine R_br 34 d127_15 (mb_t (b := (¬ v1 = (2 : Int32))) c7) rfl ?_
      refine R_ic (v := 0) d127_34 (by decide) ?_
      refine R_p (ls' := [(0, .ref 42), (1, .int v1), (2, .int 0)]) d127_35 rfl rfl ?_
      refine R_ic (v := 0) d127_36 (by decide) ?_
      refine R_p (ls' := [(0, .ref 42), (1, .int v1), (2, .int 0), (3, .int 0)]) d127_37 rfl rfl ?_
      exact (s127 (S := S) (ex := ex) k).1 v1 0 0 0 q3 _ h
    · refine R_nb d127_15 rfl (mb_f (b := (¬ v1 = (2 : Int32))) c7) ?_
      refine R_p d127_18 rfl rfl ?_
      rcases ite_some h with ⟨c8, h⟩ | ⟨c8, h⟩
      · refine R_br 29 d127_19 (mb_t (b := (¬ v1 = (0 : Int32))) c8) rfl ?_
        refine R_p d127_29 rfl rfl ?_
        refine R_get d127_30 (Or.inl (List.mem_of_getElem? (i := 55) rfl)) (hg42 _ _) rfl ?_
        cases h
        exact R_iret d127_33 rfl rfl rfl
      · refine R_nb d127_19 rfl (mb_f (b := (¬ v1 = (0 : Int32))) c8) ?_
        refine R_p d127_22 rfl rfl ?_
        refine R_get d127_23 (Or.inl (List.mem_of_getElem? (i := 49) rfl)) (hg42 _ _) rfl ?_
        refine R_br 33 d127_26 rfl rfl ?_
        cases h
        exact R_iret d127_33 rfl rfl rfl
def f140 (k : Nat) (v1 : Int32) (v2 : Int32) (s : mS) : Option (Int32 × mS) :=
  (f128 k s).bind fun q1 => (f116 v1 (0 : Int32) ((q1.2.2.1 17) - (1 : Int32)) q1).bind fun q3 => (if (q3 = (0 : Int32)) then
    some ((0 : Int32), q1)
  else
    (f116 v2 (0 : Int32) (2 : Int32) q1).bind fun q6 => (if (q6 = (0 : Int32)) then
      some ((0 : Int32), q1)
    else
      some ((1 : Int32), q1)))
theorem t_f140 {S : mE} {ex : mHp} {k : Nat} {v1 : Int32} {v2 : Int32} {s : mS} {r : Int32 × mS} (h : f140 k v1 v2 s = some r) : Run S 140 (0, [(0, .ref 42), (1, .int v1), (2, .int v2)], [], hp s ex) (.inl (some (.int r.1)), hp r.2 ex) := by
  unfold f140 at h
  refine R_p d140_0 rfl rfl ?_
  obtain ⟨q1, e2, h⟩ := bd_some h
  refine R_cm [] d140_1 (List.mem_of_getElem? (i := 175) rfl) rfl ⟨by decide, by decide, Nat.le_of_ble_eq_true rfl, rfl, mcd128⟩ rfl rfl (Nat.le_of_ble_eq_true rfl) (hg42 _ _) rfl (t_f128 e2) ?_
  refine R_p d140_4 rfl rfl ?_
  refine R_ic (v := 0) d140_5 (by decide) ?_
  refine R_p d140_6 rfl rfl ?_
  refine R_get d140_7 (Or.inl (List.mem_of_getElem? (i := 55) rfl)) (hg42 _ _) rfl ?_
  refine R_ic (v := 1) d140_10 (by decide) ?_
  refine R_p d140_11 rfl rfl ?_
  obtain ⟨q3, e4, h⟩ := bd_some h
  refine R_cs [.int v1, .int 0, .int ((q1.2.2.1 17) - (1 : Int32))] d140_12 (List.mem_of_getElem? (i := 163) rfl) rfl ⟨by decide, by decide, Nat.le_of_ble_eq_true rfl, rfl, mcd116⟩ rfl rfl (Nat.le_of_ble_eq_true rfl) (t_f116 e4) ?_
  rcases ite_some h with ⟨c5, h⟩ | ⟨c5, h⟩
  · refine R_br 31 d140_15 (mb_t (b := (q3 = (0 : Int32))) c5) rfl ?_
    refine R_ic (v := 0) d140_31 (by decide) ?_
    cases h
    exact R_iret d140_32 rfl rfl rfl
  · refine R_nb d140_15 rfl (mb_f (b := (q3 = (0 : Int32))) c5) ?_
    refine R_p d140_18 rfl rfl ?_
    refine R_ic (v := 0) d140_19 (by decide) ?_
    refine R_ic (v := 2) d140_20 (by decide) ?_
    obtain ⟨q6, e7, h⟩ := bd_some h
    refine R_cs [.int v2, .int 0, .int 2] d140_21 (List.mem_of_getElem? (i := 163) rfl) rfl ⟨by decide, by decide, Nat.le_of_ble_eq_true rfl, rfl, mcd116⟩ rfl rfl (Nat.le_of_ble_eq_true rfl) (t_f116 e7) ?_
    rcases ite_some h with ⟨c8, h⟩ | ⟨c8, h⟩
    · refine R_br 31 d140_24 (mb_t (b := (q6 = (0 : Int32))) c8) rfl ?_
      refine R_ic (v := 0) d140_31 (by decide) ?_
      cases h
      exact R_iret d140_32 rfl rfl rfl
    · refine R_nb d140_24 rfl (mb_f (b := (q6 = (0 : Int32))) c8) ?_
      refine R_ic (v := 1) d140_27 (by decide) ?_
      refine R_br 32 d140_28 rfl rfl ?_
      cases h
      exact R_iret d140_32 rfl rfl rfl
def f139 (k : Nat) (v1 : Int32) (v2 : Int32) (s : mS) : Option (Int32 × mS) :=
  (f140 k v1 v2 s).bind fun q1 => (if (q1.1 = (0 : Int32)) then
    (f117 (1 : Int32) q1.2).bind fun q4 => (if (q4.1 = (0 : Int32)) then
      rdI 300 (((3 : Int32) * v1) + v2) (some ((q4.2.1 47 (Int32.toNatClampNeg (((3 : Int32) * v1) + v2))), q4.2))
    else
      some ((0 : Int32), q4.2))
  else
    (f117 (0 : Int32) q1.2).bind fun q8 => (if (q8.1 = (0 : Int32)) then
      rdI 300 (((3 : Int32) * v1) + v2) (some ((q8.2.1 47 (Int32.toNatClampNeg (((3 : Int32) * v1) + v2))), q8.2))
    else
      some ((0 : Int32), q8.2)))
theorem t_f139 {S : mE} {ex : mHp} {k : Nat} {v1 : Int32} {v2 : Int32} {s : mS} {r : Int32 × mS} (h : f139 k v1 v2 s = some r) : Run S 139 (0, [(0, .ref 42), (1, .int v1), (2, .int v2)], [], hp s ex) (.inl (some (.int r.1)), hp r.2 ex) := by
  unfold f139 at h
  refine R_p d139_0 rfl rfl ?_
  refine R_p d139_1 rfl rfl ?_
  refine R_p d139_2 rfl rfl ?_
  refine R_p d139_3 rfl rfl ?_
  obtain ⟨q1, e2, h⟩ := bd_some h
  refine R_cm [.int v1, .int v2] d139_4 (List.mem_of_getElem? (i := 187) rfl) rfl ⟨by decide, by decide, Nat.le_of_ble_eq_true rfl, rfl, mcd140⟩ rfl rfl (Nat.le_of_ble_eq_true rfl) (hg42 _ _) rfl (t_f140 e2) ?_
  rcases ite_some h with ⟨c3, h⟩ | ⟨c3, h⟩
  · refine R_br 14 d139_7 (mb_t (b := (q1.1 = (0 : Int32))) c3) rfl ?_
    refine R_ic (v := 1) d139_14 (by decide) ?_
    obtain ⟨q4, e5, h⟩ := bd_some h
    refine R_cm [.int 1] d139_15 (List.mem_of_getElem? (i := 164) rfl) rfl ⟨by decide, by decide, Nat.le_of_ble_eq_true rfl, rfl, mcd117⟩ rfl rfl (Nat.le_of_ble_eq_true rfl) (hg42 _ _) rfl (t_f117 e5) ?_
    rcases ite_some h with ⟨c6, h⟩ | ⟨c6, h⟩
    · refine R_br 25 d139_18 (mb_t (b := (q4.1 = (0 : Int32))) c6) rfl ?_
      refine R_p d139_25 rfl rfl ?_
      refine R_get d139_26 (Or.inl (List.mem_of_getElem? (i := 56) rfl)) (hg42 _ _) rfl ?_
      refine R_ic (v := 3) d139_29 (by decide) ?_
      refine R_p d139_30 rfl rfl ?_
      refine R_p d139_31 rfl rfl ?_
      refine R_p d139_32 rfl rfl ?_
      refine R_p d139_33 rfl rfl ?_
      obtain ⟨c7, h⟩ := rdI_some h
      refine R_ild d139_34 (hg47 _ _) c7 ?_
      cases h
      exact R_iret d139_35 rfl rfl rfl
    · refine R_nb d139_18 rfl (mb_f (b := (q4.1 = (0 : Int32))) c6) ?_
      refine R_ic (v := 0) d139_21 (by decide) ?_
      refine R_br 35 d139_22 rfl rfl ?_
      cases h
      exact R_iret d139_35 rfl rfl rfl
  · refine R_nb d139_7 rfl (mb_f (b := (q1.1 = (0 : Int32))) c3) ?_
    refine R_ic (v := 0) d139_10 (by decide) ?_
    refine R_br 15 d139_11 rfl rfl ?_
    obtain ⟨q8, e9, h⟩ := bd_some h
    refine R_cm [.int 0] d139_15 (List.mem_of_getElem? (i := 164) rfl) rfl ⟨by decide, by decide, Nat.le_of_ble_eq_true rfl, rfl, mcd117⟩ rfl rfl (Nat.le_of_ble_eq_true rfl) (hg42 _ _) rfl (t_f117 e9) ?_
    rcases ite_some h with ⟨c10, h⟩ | ⟨c10, h⟩
    · refine R_br 25 d139_18 (mb_t (b := (q8.1 = (0 : Int32))) c10) rfl ?_
      refine R_p d139_25 rfl rfl ?_
      refine R_get d139_26 (Or.inl (List.mem_of_getElem? (i := 56) rfl)) (hg42 _ _) rfl ?_
      refine R_ic (v := 3) d139_29 (by decide) ?_
      refine R_p d139_30 rfl rfl ?_
      refine R_p d139_31 rfl rfl ?_
      refine R_p d139_32 rfl rfl ?_
      refine R_p d139_33 rfl rfl ?_
      obtain ⟨c11, h⟩ := rdI_some h
      refine R_ild d139_34 (hg47 _ _) c11 ?_
      cases h
      exact R_iret d139_35 rfl rfl rfl
    · refine R_nb d139_18 rfl (mb_f (b := (q8.1 = (0 : Int32))) c10) ?_
      refine R_ic (v := 0) d139_21 (by decide) ?_
      refine R_br 35 d139_22 rfl rfl ?_
      cases h
      exact R_iret d139_35 rfl rfl rfl
def f141 (k : Nat) (v1 : Int32) (v2 : Int32) (s : mS) : Option (Int32 × mS) :=
  (f140 k v1 v2 s).bind fun q1 => (if (q1.1 = (0 : Int32)) then
    (f117 (1 : Int32) q1.2).bind fun q4 => (if (q4.1 = (0 : Int32)) then
      rdI 300 (((3 : Int32) * v1) + ((v2 + (1 : Int32)) - (v2 + (1 : Int32)) / (3 : Int32) * (3 : Int32))) (rdI 300 (((3 : Int32) * v1) + v2) ((f138 k (q4.2.1 47 (Int32.toNatClampNeg (((3 : Int32) * v1) + ((v2 + (1 : Int32)) - (v2 + (1 : Int32)) / (3 : Int32) * (3 : Int32))))) (q4.2.1 47 (Int32.toNatClampNeg (((3 : Int32) * v1) + v2))) q4.2).bind fun q9 => some (q9, q4.2)))
    else
      some ((0 : Int32), q4.2))
  else
    (f117 (0 : Int32) q1.2).bind fun q11 => (if (q11.1 = (0 : Int32)) then
      rdI 300 (((3 : Int32) * v1) + ((v2 + (1 : Int32)) - (v2 + (1 : Int32)) / (3 : Int32) * (3 : Int32))) (rdI 300 (((3 : Int32) * v1) + v2) ((f138 k (q11.2.1 47 (Int32.toNatClampNeg (((3 : Int32) * v1) + ((v2 + (1 : Int32)) - (v2 + (1 : Int32)) / (3 : Int32) * (3 : Int32))))) (q11.2.1 47 (Int32.toNatClampNeg (((3 : Int32) * v1) + v2))) q11.2).bind fun q16 => some (q16, q11.2)))
    else
      some ((0 : Int32), q11.2)))
theorem t_f141 {S : mE} {ex : mHp} {k : Nat} {v1 : Int32} {v2 : Int32} {s : mS} {r : Int32 × mS} (h : f141 k v1 v2 s = some r) : Run S 141 (0, [(0, .ref 42), (1, .int v1), (2, .int v2)], [], hp s ex) (.inl (some (.int r.1)), hp r.2 ex) := by
  unfold f141 at h
  refine R_p d141_0 rfl rfl ?_
  refine R_p d141_1 rfl rfl ?_
  refine R_p d141_2 rfl rfl ?_
  refine R_p d141_3 rfl rfl ?_
  obtain ⟨q1, e2, h⟩ := bd_some h
  refine R_cm [.int v1, .int v2] d141_4 (List.mem_of_getElem? (i := 187) rfl) rfl ⟨by decide, by decide, Nat.le_of_ble_eq_true rfl, rfl, mcd140⟩ rfl rfl (Nat.le_of_ble_eq_true rfl) (hg42 _ _) rfl (t_f140 e2) ?_
  rcases ite_some h with ⟨c3, h⟩ | ⟨c3, h⟩
  · refine R_br 14 d141_7 (mb_t (b := (q1.1 = (0 : Int32))) c3) rfl ?_
    refine R_ic (v := 1) d141_14 (by decide) ?_
    obtain ⟨q4, e5, h⟩ := bd_some h
    refine R_cm [.int 1] d141_15 (List.mem_of_getElem? (i := 164) rfl) rfl ⟨by decide, by decide, Nat.le_of_ble_eq_true rfl, rfl, mcd117⟩ rfl rfl (Nat.le_of_ble_eq_true rfl) (hg42 _ _) rfl (t_f117 e5) ?_
    rcases ite_some h with ⟨c6, h⟩ | ⟨c6, h⟩
    · refine R_br 25 d141_18 (mb_t (b := (q4.1 = (0 : Int32))) c6) rfl ?_
      refine R_p d141_25 rfl rfl ?_
      refine R_p d141_26 rfl rfl ?_
      refine R_get d141_27 (Or.inl (List.mem_of_getElem? (i := 56) rfl)) (hg42 _ _) rfl ?_
      refine R_ic (v := 3) d141_30 (by decide) ?_
      refine R_p d141_31 rfl rfl ?_
      refine R_p d141_32 rfl rfl ?_
      refine R_p d141_33 rfl rfl ?_
      refine R_ic (v := 1) d141_34 (by decide) ?_
      refine R_p d141_35 rfl rfl ?_
      refine R_ic (v := 3) d141_36 (by decide) ?_
      refine R_p d141_37 rfl rfl ?_
      refine R_p d141_38 rfl rfl ?_
      obtain ⟨c7, h⟩ := rdI_some h
      refine R_ild d141_39 (hg47 _ _) c7 ?_
      refine R_p d141_40 rfl rfl ?_
      refine R_get d141_41 (Or.inl (List.mem_of_getElem? (i := 56) rfl)) (hg42 _ _) rfl ?_
      refine R_ic (v := 3) d141_44 (by decide) ?_
      refine R_p d141_45 rfl rfl ?_
      refine R_p d141_46 rfl rfl ?_
      refine R_p d141_47 rfl rfl ?_
      refine R_p d141_48 rfl rfl ?_
      obtain ⟨c8, h⟩ := rdI_some h
      refine R_ild d141_49 (hg47 _ _) c8 ?_
      obtain ⟨q9, e10, h⟩ := bd_some h
      refine R_cm [.int (q4.2.1 47 (Int32.toNatClampNeg (((3 : Int32) * v1) + ((v2 + (1 : Int32)) - (v2 + (1 : Int32)) / (3 : Int32) * (3 : Int32))))), .int (q4.2.1 47 (Int32.toNatClampNeg (((3 : Int32) * v1) + v2)))] d141_50 (List.mem_of_getElem? (i := 185) rfl) rfl ⟨by decide, by decide, Nat.le_of_ble_eq_true rfl, rfl, mcd138⟩ rfl rfl (Nat.le_of_ble_eq_true rfl) (hg42 _ _) rfl (t_f138 e10) ?_
      cases h
      exact R_iret d141_53 rfl rfl rfl
    · refine R_nb d141_18 rfl (mb_f (b := (q4.1 = (0 : Int32))) c6) ?_
      refine R_ic (v := 0) d141_21 (by decide) ?_
      refine R_br 53 d141_22 rfl rfl ?_
      cases h
      exact R_iret d141_53 rfl rfl rfl
  · refine R_nb d141_7 rfl (mb_f (b := (q1.1 = (0 : Int32))) c3) ?_
    refine R_ic (v := 0) d141_10 (by decide) ?_
    refine R_br 15 d141_11 rfl rfl ?_
    obtain ⟨q11, e12, h⟩ := bd_some h
    refine R_cm [.int 0] d141_15 (List.mem_of_getElem? (i := 164) rfl) rfl ⟨by decide, by decide, Nat.le_of_ble_eq_true rfl, rfl, mcd117⟩ rfl rfl (Nat.le_of_ble_eq_true rfl) (hg42 _ _) rfl (t_f117 e12) ?_
    rcases ite_some h with ⟨c13, h⟩ | ⟨c13, h⟩
    · refine R_br 25 d141_18 (mb_t (b := (q11.1 = (0 : Int32))) c13) rfl ?_
      refine R_p d141_25 rfl rfl ?_
      refine R_p d141_26 rfl rfl ?_
      refine R_get d141_27 (Or.inl (List.mem_of_getElem? (i := 56) rfl)) (hg42 _ _) rfl ?_
      refine R_ic (v := 3) d141_30 (by decide) ?_
      refine R_p d141_31 rfl rfl ?_
      refine R_p d141_32 rfl rfl ?_
      refine R_p d141_33 rfl rfl ?_
      refine R_ic (v := 1) d141_34 (by decide) ?_
      refine R_p d141_35 rfl rfl ?_
      refine R_ic (v := 3) d141_36 (by decide) ?_
      refine R_p d141_37 rfl rfl ?_
      refine R_p d141_38 rfl rfl ?_
      obtain ⟨c14, h⟩ := rdI_some h
      refine R_ild d141_39 (hg47 _ _) c14 ?_
      refine R_p d141_40 rfl rfl ?_
      refine R_get d141_41 (Or.inl (List.mem_of_getElem? (i := 56) rfl)) (hg42 _ _) rfl ?_
      refine R_ic (v := 3) d141_44 (by decide) ?_
      refine R_p d141_45 rfl rfl ?_
      refine R_p d141_46 rfl rfl ?_
      refine R_p d141_47 rfl rfl ?_
      refine R_p d141_48 rfl rfl ?_
      obtain ⟨c15, h⟩ := rdI_some h
      refine R_ild d141_49 (hg47 _ _) c15 ?_
      obtain ⟨q16, e17, h⟩ := bd_some h
      refine R_cm [.int (q11.2.1 47 (Int32.toNatClampNeg (((3 : Int32) * v1) + ((v2 + (1 : Int32)) - (v2 + (1 : Int32)) / (3 : Int32) * (3 : Int32))))), .int (q11.2.1 47 (Int32.toNatClampNeg (((3 : Int32) * v1) + v2)))] d141_50 (List.mem_of_getElem? (i := 185) rfl) rfl ⟨by decide, by decide, Nat.le_of_ble_eq_true rfl, rfl, mcd138⟩ rfl rfl (Nat.le_of_ble_eq_true rfl) (hg42 _ _) rfl (t_f138 e17) ?_
      cases h
      exact R_iret d141_53 rfl rfl rfl
    · refine R_nb d141_18 rfl (mb_f (b := (q11.1 = (0 : Int32))) c13) ?_
      refine R_ic (v := 0) d141_21 (by decide) ?_
      refine R_br 53 d141_22 rfl rfl ?_
      cases h
      exact R_iret d141_53 rfl rfl rfl
def f142 (k : Nat) (v1 : Int32) (v2 : Int32) (s : mS) : Option (Int32 × mS) :=
  (f121 v1 v2 s).bind fun q1 => (if (q1 = (0 : Int32)) then
    (f117 (1 : Int32) s).bind fun q4 => (if (q4.1 = (0 : Int32)) then
      (f128 k q4.2).bind fun q7 => (if ((q7.2.2.1 17) = (0 : Int32)) then
        some ((0 : Int32), q7)
      else
        rdI 1600 (((40 : Int32) * v1) + v2) ((if (¬ (q7.1 46 (Int32.toNatClampNeg (((40 : Int32) * v1) + v2))) = (0 : Int32)) then
          rdI 1600 (((40 : Int32) * v1) + v2) ((if ((q7.1 45 (Int32.toNatClampNeg (((40 : Int32) * v1) + v2))) = (0 : Int32)) then
            some ((1 : Int32), q7)
          else
            some ((2 : Int32), q7)))
        else
          some ((0 : Int32), q7))))
    else
      some ((0 : Int32), q4.2))
  else
    (f117 (0 : Int32) s).bind fun q14 => (if (q14.1 = (0 : Int32)) then
      (f128 k q14.2).bind fun q17 => (if ((q17.2.2.1 17) = (0 : Int32)) then
        some ((0 : Int32), q17)
      else
        rdI 1600 (((40 : Int32) * v1) + v2) ((if (¬ (q17.1 46 (Int32.toNatClampNeg (((40 : Int32) * v1) + v2))) = (0 : Int32)) then
          rdI 1600 (((40 : Int32) * v1) + v2) ((if ((q17.1 45 (Int32.toNatClampNeg (((40 : Int32) * v1) + v2))) = (0 : Int32)) then
            some ((1 : Int32), q17)
          else
            some ((2 : Int32), q17)))
        else
          some ((0 : Int32), q17))))
    else
      some ((0 : Int32), q14.2)))
theorem t_f142 {S : mE} {ex : mHp} {k : Nat} {v1 : Int32} {v2 : Int32} {s : mS} {r : Int32 × mS} (h : f142 k v1 v2 s = some r) : Run S 142 (0, [(0, .ref 42), (1, .int v1), (2, .int v2)], [], hp s ex) (.inl (some (.int r.1)), hp r.2 ex) := by
  unfold f142 at h
  refine R_p d142_0 rfl rfl ?_
  refine R_p d142_1 rfl rfl ?_
  refine R_p d142_2 rfl rfl ?_
  refine R_p d142_3 rfl rfl ?_
  obtain ⟨q1, e2, h⟩ := bd_some h
  refine R_cm [.int v1, .int v2] d142_4 (List.mem_of_getElem? (i := 168) rfl) rfl ⟨by decide, by decide, Nat.le_of_ble_eq_true rfl, rfl, mcd121⟩ rfl rfl (Nat.le_of_ble_eq_true rfl) (hg42 _ _) rfl (t_f121 e2) ?_
  rcases ite_some h with ⟨c3, h⟩ | ⟨c3, h⟩
  · refine R_br 14 d142_7 (mb_t (b := (q1 = (0 : Int32))) c3) rfl ?_
    refine R_ic (v := 1) d142_14 (by decide) ?_
    obtain ⟨q4, e5, h⟩ := bd_some h
    refine R_cm [.int 1] d142_15 (List.mem_of_getElem? (i := 164) rfl) rfl ⟨by decide, by decide, Nat.le_of_ble_eq_true rfl, rfl, mcd117⟩ rfl rfl (Nat.le_of_ble_eq_true rfl) (hg42 _ _) rfl (t_f117 e5) ?_
    rcases ite_some h with ⟨c6, h⟩ | ⟨c6, h⟩
    · refine R_br 23 d142_18 (mb_t (b := (q4.1 = (0 : Int32))) c6) rfl ?_
      refine R_p d142_23 rfl rfl ?_
      obtain ⟨q7, e8, h⟩ := bd_some h
      refine R_cm [] d142_24 (List.mem_of_getElem? (i := 175) rfl) rfl ⟨by decide, by decide, Nat.le_of_ble_eq_true rfl, rfl, mcd128⟩ rfl rfl (Nat.le_of_ble_eq_true rfl) (hg42 _ _) rfl (t_f128 e8) ?_
      refine R_p d142_27 rfl rfl ?_
      refine R_get d142_28 (Or.inl (List.mem_of_getElem? (i := 55) rfl)) (hg42 _ _) rfl ?_
      rcases ite_some h with ⟨c9, h⟩ | ⟨c9, h⟩
      · refine R_br 48 d142_31 (mb_t (b := ((q7.2.2.1 17) = (0 : Int32))) c9) rfl ?_
        refine R_ic (v := 0) d142_48 (by decide) ?_
        refine R_br 71 d142_49 rfl rfl ?_
        cases h
        exact R_iret d142_71 rfl rfl rfl
      · refine R_nb d142_31 rfl (mb_f (b := ((q7.2.2.1 17) = (0 : Int32))) c9) ?_
        refine R_p d142_34 rfl rfl ?_
        refine R_get d142_35 (Or.inl (List.mem_of_getElem? (i := 53) rfl)) (hg42 _ _) rfl ?_
        refine R_bi (v := 40) d142_38 (by decide) ?_
        refine R_p d142_40 rfl rfl ?_
        refine R_p d142_41 rfl rfl ?_
        refine R_p d142_42 rfl rfl ?_
        refine R_p d142_43 rfl rfl ?_
        obtain ⟨c10, h⟩ := rdI_some h
        refine R_zld d142_44 (hg46 _ _) c10 ?_
        rcases ite_some h with ⟨c11, h⟩ | ⟨c11, h⟩
        · refine R_br 52 d142_45 (mb_t (b := (¬ (q7.1 46 (Int32.toNatClampNeg (((40 : Int32) * v1) + v2))) = (0 : Int32))) c11) rfl ?_
          refine R_p d142_52 rfl rfl ?_
          refine R_get d142_53 (Or.inl (List.mem_of_getElem? (i := 52) rfl)) (hg42 _ _) rfl ?_
          refine R_bi (v := 40) d142_56 (by decide) ?_
          refine R_p d142_58 rfl rfl ?_
          refine R_p d142_59 rfl rfl ?_
          refine R_p d142_60 rfl rfl ?_
          refine R_p d142_61 rfl rfl ?_
          obtain ⟨c12, h⟩ := rdI_some h
          refine R_zld d142_62 (hg45 _ _) c12 ?_
          rcases ite_some h with ⟨c13, h⟩ | ⟨c13, h⟩
          · refine R_br 70 d142_63 (mb_t (b := ((q7.1 45 (Int32.toNatClampNeg (((40 : Int32) * v1) + v2))) = (0 : Int32))) c13) rfl ?_
            refine R_ic (v := 1) d142_70 (by decide) ?_
            cases h
            exact R_iret d142_71 rfl rfl rfl
          · refine R_nb d142_63 rfl (mb_f (b := ((q7.1 45 (Int32.toNatClampNeg (((40 : Int32) * v1) + v2))) = (0 : Int32))) c13) ?_
            refine R_ic (v := 2) d142_66 (by decide) ?_
            refine R_br 71 d142_67 rfl rfl ?_
            cases h
            exact R_iret d142_71 rfl rfl rfl
        · refine R_nb d142_45 rfl (mb_f (b := (¬ (q7.1 46 (Int32.toNatClampNeg (((40 : Int32) * v1) + v2))) = (0 : Int32))) c11) ?_
          refine R_ic (v := 0) d142_48 (by decide) ?_
          refine R_br 71 d142_49 rfl rfl ?_
          cases h
          exact R_iret d142_71 rfl rfl rfl
    · refine R_nb d142_18 rfl (mb_f (b := (q4.1 = (0 : Int32))) c6) ?_
      refine R_ic (v := 0) d142_21 (by decide) ?_
      cases h
      exact R_iret d142_22 rfl rfl rfl
  · refine R_nb d142_7 rfl (mb_f (b := (q1 = (0 : Int32))) c3) ?_
    refine R_ic (v := 0) d142_10 (by decide) ?_
    refine R_br 15 d142_11 rfl rfl ?_
    obtain ⟨q14, e15, h⟩ := bd_some h
    refine R_cm [.int 0] d142_15 (List.mem_of_getElem? (i := 164) rfl) rfl ⟨by decide, by decide, Nat.le_of_ble_eq_true rfl, rfl, mcd117⟩ rfl rfl (Nat.le_of_ble_eq_true rfl) (hg42 _ _) rfl (t_f117 e15) ?_
    rcases ite_some h with ⟨c16, h⟩ | ⟨c16, h⟩
    · refine R_br 23 d142_18 (mb_t (b := (q14.1 = (0 : Int32))) c16) rfl ?_
      refine R_p d142_23 rfl rfl ?_
      obtain ⟨q17, e18, h⟩ := bd_some h
      refine R_cm [] d142_24 (List.mem_of_getElem? (i := 175) rfl) rfl ⟨by decide, by decide, Nat.le_of_ble_eq_true rfl, rfl, mcd128⟩ rfl rfl (Nat.le_of_ble_eq_true rfl) (hg42 _ _) rfl (t_f128 e18) ?_
      refine R_p d142_27 rfl rfl ?_
      refine R_get d142_28 (Or.inl (List.mem_of_getElem? (i := 55) rfl)) (hg42 _ _) rfl ?_
      rcases ite_some h with ⟨c19, h⟩ | ⟨c19, h⟩
      · refine R_br 48 d142_31 (mb_t (b := ((q17.2.2.1 17) = (0 : Int32))) c19) rfl ?_
        refine R_ic (v := 0) d142_48 (by decide) ?_
        refine R_br 71 d142_49 rfl rfl ?_
        cases h
        exact R_iret d142_71 rfl rfl rfl
      · refine R_nb d142_31 rfl (mb_f (b := ((q17.2.2.1 17) = (0 : Int32))) c19) ?_
        refine R_p d142_34 rfl rfl ?_
        refine R_get d142_35 (Or.inl (List.mem_of_getElem? (i := 53) rfl)) (hg42 _ _) rfl ?_
        refine R_bi (v := 40) d142_38 (by decide) ?_
        refine R_p d142_40 rfl rfl ?_
        refine R_p d142_41 rfl rfl ?_
        refine R_p d142_42 rfl rfl ?_
        refine R_p d142_43 rfl rfl ?_
        obtain ⟨c20, h⟩ := rdI_some h
        refine R_zld d142_44 (hg46 _ _) c20 ?_
        rcases ite_some h with ⟨c21, h⟩ | ⟨c21, h⟩
        · refine R_br 52 d142_45 (mb_t (b := (¬ (q17.1 46 (Int32.toNatClampNeg (((40 : Int32) * v1) + v2))) = (0 : Int32))) c21) rfl ?_
          refine R_p d142_52 rfl rfl ?_
          refine R_get d142_53 (Or.inl (List.mem_of_getElem? (i := 52) rfl)) (hg42 _ _) rfl ?_
          refine R_bi (v := 40) d142_56 (by decide) ?_
          refine R_p d142_58 rfl rfl ?_
          refine R_p d142_59 rfl rfl ?_
          refine R_p d142_60 rfl rfl ?_
          refine R_p d142_61 rfl rfl ?_
          obtain ⟨c22, h⟩ := rdI_some h
          refine R_zld d142_62 (hg45 _ _) c22 ?_
          rcases ite_some h with ⟨c23, h⟩ | ⟨c23, h⟩
          · refine R_br 70 d142_63 (mb_t (b := ((q17.1 45 (Int32.toNatClampNeg (((40 : Int32) * v1) + v2))) = (0 : Int32))) c23) rfl ?_
            refine R_ic (v := 1) d142_70 (by decide) ?_
            cases h
            exact R_iret d142_71 rfl rfl rfl
          · refine R_nb d142_63 rfl (mb_f (b := ((q17.1 45 (Int32.toNatClampNeg (((40 : Int32) * v1) + v2))) = (0 : Int32))) c23) ?_
            refine R_ic (v := 2) d142_66 (by decide) ?_
            refine R_br 71 d142_67 rfl rfl ?_
            cases h
            exact R_iret d142_71 rfl rfl rfl
        · refine R_nb d142_45 rfl (mb_f (b := (¬ (q17.1 46 (Int32.toNatClampNeg (((40 : Int32) * v1) + v2))) = (0 : Int32))) c21) ?_
          refine R_ic (v := 0) d142_48 (by decide) ?_
          refine R_br 71 d142_49 rfl rfl ?_
          cases h
          exact R_iret d142_71 rfl rfl rfl
    · refine R_nb d142_18 rfl (mb_f (b := (q14.1 = (0 : Int32))) c16) ?_
      refine R_ic (v := 0) d142_21 (by decide) ?_
      cases h
      exact R_iret d142_22 rfl rfl rfl
def f143 (v1 : Int32) (v2 : Int32) (v3 : Int32) (s : mS) : Option (Int32 × mS) :=
  (f122 v1 s).bind fun q1 => (if (q1 = (0 : Int32)) then
    (f117 (1 : Int32) s).bind fun q4 => (if (q4.1 = (0 : Int32)) then
      (f119 v1 v2 v3 q4.2).bind fun q7 => some (q7, q4.2)
    else
      some ((0 : Int32), q4.2))
  else
    (f122 v2 s).bind fun q9 => (if (q9 = (0 : Int32)) then
      (f117 (1 : Int32) s).bind fun q12 => (if (q12.1 = (0 : Int32)) then
        (f119 v1 v2 v3 q12.2).bind fun q15 => some (q15, q12.2)
      else
        some ((0 : Int32), q12.2))
    else
      (f122 v3 s).bind fun q17 => (if (q17 = (0 : Int32)) then
        (f117 (1 : Int32) s).bind fun q20 => (if (q20.1 = (0 : Int32)) then
          (f119 v1 v2 v3 q20.2).bind fun q23 => some (q23, q20.2)
        else
          some ((0 : Int32), q20.2))
      else
        (f117 (0 : Int32) s).bind fun q25 => (if (q25.1 = (0 : Int32)) then
          (f119 v1 v2 v3 q25.2).bind fun q28 => some (q28, q25.2)
        else
          some ((0 : Int32), q25.2)))))
theorem t_f143 {S : mE} {ex : mHp} {v1 : Int32} {v2 : Int32} {v3 : Int32} {s : mS} {r : Int32 × mS} (h : f143 v1 v2 v3 s = some r) : Run S 143 (0, [(0, .ref 42), (1, .int v1), (2, .int v2), (3, .int v3)], [], hp s ex) (.inl (some (.int r.1)), hp r.2 ex) := by
  unfold f143 at h
  refine R_p d143_0 rfl rfl ?_
  refine R_p d143_1 rfl rfl ?_
  refine R_p d143_2 rfl rfl ?_
  obtain ⟨q1, e2, h⟩ := bd_some h
  refine R_cm [.int v1] d143_3 (List.mem_of_getElem? (i := 169) rfl) rfl ⟨by decide, by decide, Nat.le_of_ble_eq_true rfl, rfl, mcd122⟩ rfl rfl (Nat.le_of_ble_eq_true rfl) (hg42 _ _) rfl (t_f122 e2) ?_
  rcases ite_some h with ⟨c3, h⟩ | ⟨c3, h⟩
  · refine R_br 29 d143_6 (mb_t (b := (q1 = (0 : Int32))) c3) rfl ?_
    refine R_ic (v := 1) d143_29 (by decide) ?_
    obtain ⟨q4, e5, h⟩ := bd_some h
    refine R_cm [.int 1] d143_30 (List.mem_of_getElem? (i := 164) rfl) rfl ⟨by decide, by decide, Nat.le_of_ble_eq_true rfl, rfl, mcd117⟩ rfl rfl (Nat.le_of_ble_eq_true rfl) (hg42 _ _) rfl (t_f117 e5) ?_
    rcases ite_some h with ⟨c6, h⟩ | ⟨c6, h⟩
    · refine R_br 40 d143_33 (mb_t (b := (q4.1 = (0 : Int32))) c6) rfl ?_
      refine R_p d143_40 rfl rfl ?_
      refine R_p d143_41 rfl rfl ?_
      refine R_p d143_42 rfl rfl ?_
      refine R_p d143_43 rfl rfl ?_
      obtain ⟨q7, e8, h⟩ := bd_some h
      refine R_cm [.int v1, .int v2, .int v3] d143_44 (List.mem_of_getElem? (i := 166) rfl) rfl ⟨by decide, by decide, Nat.le_of_ble_eq_true rfl, rfl, mcd119⟩ rfl rfl (Nat.le_of_ble_eq_true rfl) (hg42 _ _) rfl (t_f119 e8) ?_
      cases h
      exact R_iret d143_47 rfl rfl rfl
    · refine R_nb d143_33 rfl (mb_f (b := (q4.1 = (0 : Int32))) c6) ?_
      refine R_ic (v := 0) d143_36 (by decide) ?_
      refine R_br 47 d143_37 rfl rfl ?_
      cases h
      exact R_iret d143_47 rfl rfl rfl
  · refine R_nb d143_6 rfl (mb_f (b := (q1 = (0 : Int32))) c3) ?_
    refine R_p d143_9 rfl rfl ?_
    refine R_p d143_10 rfl rfl ?_
    obtain ⟨q9, e10, h⟩ := bd_some h
    refine R_cm [.int v2] d143_11 (List.mem_of_getElem? (i := 169) rfl) rfl ⟨by decide, by decide, Nat.le_of_ble_eq_true rfl, rfl, mcd122⟩ rfl rfl (Nat.le_of_ble_eq_true rfl) (hg42 _ _) rfl (t_f122 e10) ?_
    rcases ite_some h with ⟨c11, h⟩ | ⟨c11, h⟩
    · refine R_br 29 d143_14 (mb_t (b := (q9 = (0 : Int32))) c11) rfl ?_
      refine R_ic (v := 1) d143_29 (by decide) ?_
      obtain ⟨q12, e13, h⟩ := bd_some h
      refine R_cm [.int 1] d143_30 (List.mem_of_getElem? (i := 164) rfl) rfl ⟨by decide, by decide, Nat.le_of_ble_eq_true rfl, rfl, mcd117⟩ rfl rfl (Nat.le_of_ble_eq_true rfl) (hg42 _ _) rfl (t_f117 e13) ?_
      rcases ite_some h with ⟨c14, h⟩ | ⟨c14, h⟩
      · refine R_br 40 d143_33 (mb_t (b := (q12.1 = (0 : Int32))) c14) rfl ?_
        refine R_p d143_40 rfl rfl ?_
        refine R_p d143_41 rfl rfl ?_
        refine R_p d143_42 rfl rfl ?_
        refine R_p d143_43 rfl rfl ?_
        obtain ⟨q15, e16, h⟩ := bd_some h
        refine R_cm [.int v1, .int v2, .int v3] d143_44 (List.mem_of_getElem? (i := 166) rfl) rfl ⟨by decide, by decide, Nat.le_of_ble_eq_true rfl, rfl, mcd119⟩ rfl rfl (Nat.le_of_ble_eq_true rfl) (hg42 _ _) rfl (t_f119 e16) ?_
        cases h
        exact R_iret d143_47 rfl rfl rfl
      · refine R_nb d143_33 rfl (mb_f (b := (q12.1 = (0 : Int32))) c14) ?_
        refine R_ic (v := 0) d143_36 (by decide) ?_
        refine R_br 47 d143_37 rfl rfl ?_
        cases h
        exact R_iret d143_47 rfl rfl rfl
    · refine R_nb d143_14 rfl (mb_f (b := (q9 = (0 : Int32))) c11) ?_
      refine R_p d143_17 rfl rfl ?_
      refine R_p d143_18 rfl rfl ?_
      obtain ⟨q17, e18, h⟩ := bd_some h
      refine R_cm [.int v3] d143_19 (List.mem_of_getElem? (i := 169) rfl) rfl ⟨by decide, by decide, Nat.le_of_ble_eq_true rfl, rfl, mcd122⟩ rfl rfl (Nat.le_of_ble_eq_true rfl) (hg42 _ _) rfl (t_f122 e18) ?_
      rcases ite_some h with ⟨c19, h⟩ | ⟨c19, h⟩
      · refine R_br 29 d143_22 (mb_t (b := (q17 = (0 : Int32))) c19) rfl ?_
        refine R_ic (v := 1) d143_29 (by decide) ?_
        obtain ⟨q20, e21, h⟩ := bd_some h
        refine R_cm [.int 1] d143_30 (List.mem_of_getElem? (i := 164) rfl) rfl ⟨by decide, by decide, Nat.le_of_ble_eq_true rfl, rfl, mcd117⟩ rfl rfl (Nat.le_of_ble_eq_true rfl) (hg42 _ _) rfl (t_f117 e21) ?_
        rcases ite_some h with ⟨c22, h⟩ | ⟨c22, h⟩
        · refine R_br 40 d143_33 (mb_t (b := (q20.1 = (0 : Int32))) c22) rfl ?_
          refine R_p d143_40 rfl rfl ?_
          refine R_p d143_41 rfl rfl ?_
          refine R_p d143_42 rfl rfl ?_
          refine R_p d143_43 rfl rfl ?_
          obtain ⟨q23, e24, h⟩ := bd_some h
          refine R_cm [.int v1, .int v2, .int v3] d143_44 (List.mem_of_getElem? (i := 166) rfl) rfl ⟨by decide, by decide, Nat.le_of_ble_eq_true rfl, rfl, mcd119⟩ rfl rfl (Nat.le_of_ble_eq_true rfl) (hg42 _ _) rfl (t_f119 e24) ?_
          cases h
          exact R_iret d143_47 rfl rfl rfl
        · refine R_nb d143_33 rfl (mb_f (b := (q20.1 = (0 : Int32))) c22) ?_
          refine R_ic (v := 0) d143_36 (by decide) ?_
          refine R_br 47 d143_37 rfl rfl ?_
          cases h
          exact R_iret d143_47 rfl rfl rfl
      · refine R_nb d143_22 rfl (mb_f (b := (q17 = (0 : Int32))) c19) ?_
        refine R_ic (v := 0) d143_25 (by decide) ?_
        refine R_br 30 d143_26 rfl rfl ?_
        obtain ⟨q25, e26, h⟩ := bd_some h
        refine R_cm [.int 0] d143_30 (List.mem_of_getElem? (i := 164) rfl) rfl ⟨by decide, by decide, Nat.le_of_ble_eq_true rfl, rfl, mcd117⟩ rfl rfl (Nat.le_of_ble_eq_true rfl) (hg42 _ _) rfl (t_f117 e26) ?_
        rcases ite_some h with ⟨c27, h⟩ | ⟨c27, h⟩
        · refine R_br 40 d143_33 (mb_t (b := (q25.1 = (0 : Int32))) c27) rfl ?_
          refine R_p d143_40 rfl rfl ?_
          refine R_p d143_41 rfl rfl ?_
          refine R_p d143_42 rfl rfl ?_
          refine R_p d143_43 rfl rfl ?_
          obtain ⟨q28, e29, h⟩ := bd_some h
          refine R_cm [.int v1, .int v2, .int v3] d143_44 (List.mem_of_getElem? (i := 166) rfl) rfl ⟨by decide, by decide, Nat.le_of_ble_eq_true rfl, rfl, mcd119⟩ rfl rfl (Nat.le_of_ble_eq_true rfl) (hg42 _ _) rfl (t_f119 e29) ?_
          cases h
          exact R_iret d143_47 rfl rfl rfl
        · refine R_nb d143_33 rfl (mb_f (b := (q25.1 = (0 : Int32))) c27) ?_
          refine R_ic (v := 0) d143_36 (by decide) ?_
          refine R_br 47 d143_37 rfl rfl ?_
          cases h
          exact R_iret d143_47 rfl rfl rfl
def j144_69 (v1 : Int32) (v2 : Int32) (v3 : Int32) (v4 : Int32) (v5 : Int32) (s : mS) : Option (Int32 × mS) :=
  (f119 v1 v2 v3 s).bind fun q1 => (if (q1 ≤ (0 : Int32)) then
    (f135 v1 v3 v2 v4 s).bind fun q4 => some (q4.1, q4.2)
  else
    (f135 v1 v2 v3 v4 s).bind fun q6 => some (q6.1, q6.2))
theorem t_j144_69 {S : mE} {ex : mHp} (v1 : Int32) (v2 : Int32) (v3 : Int32) (v4 : Int32) (v5 : Int32) (s : mS) (r : Int32 × mS) (h : j144_69 v1 v2 v3 v4 v5 s = some r) : Run S 144 (69, [(0, .ref 42), (1, .int v1), (2, .int v2), (3, .int v3), (4, .int v4), (5, .int v5)], [], hp s ex) (.inl (some (.int r.1)), hp r.2 ex) := by
  unfold j144_69 at h
  refine R_p d144_69 rfl rfl ?_
  refine R_p d144_70 rfl rfl ?_
  refine R_p d144_71 rfl rfl ?_
  refine R_p d144_72 rfl rfl ?_
  obtain ⟨q1, e2, h⟩ := bd_some h
  refine R_cm [.int v1, .int v2, .int v3] d144_73 (List.mem_of_getElem? (i := 166) rfl) rfl ⟨by decide, by decide, Nat.le_of_ble_eq_true rfl, rfl, mcd119⟩ rfl rfl (Nat.le_of_ble_eq_true rfl) (hg42 _ _) rfl (t_f119 e2) ?_
  rcases ite_some h with ⟨c3, h⟩ | ⟨c3, h⟩
  · refine R_br 91 d144_76 (mb_t (b := (q1 ≤ (0 : Int32))) c3) rfl ?_
    refine R_p d144_91 rfl rfl ?_
    refine R_p d144_92 rfl rfl ?_
    refine R_p d144_93 rfl rfl ?_
    refine R_p d144_94 rfl rfl ?_
    refine R_p d144_95 rfl rfl ?_
    obtain ⟨q4, e5, h⟩ := bd_some h
    refine R_cm [.int v1, .int v3, .int v2, .int v4] d144_97 (List.mem_of_getElem? (i := 182) rfl) rfl ⟨by decide, by decide, Nat.le_of_ble_eq_true rfl, rfl, mcd135⟩ rfl rfl (Nat.le_of_ble_eq_true rfl) (hg42 _ _) rfl (t_f135 e5) ?_
    cases h
    exact R_iret d144_100 rfl rfl rfl
  · refine R_nb d144_76 rfl (mb_f (b := (q1 ≤ (0 : Int32))) c3) ?_
    refine R_p d144_79 rfl rfl ?_
    refine R_p d144_80 rfl rfl ?_
    refine R_p d144_81 rfl rfl ?_
    refine R_p d144_82 rfl rfl ?_
    refine R_p d144_83 rfl rfl ?_
    obtain ⟨q6, e7, h⟩ := bd_some h
    refine R_cm [.int v1, .int v2, .int v3, .int v4] d144_85 (List.mem_of_getElem? (i := 182) rfl) rfl ⟨by decide, by decide, Nat.le_of_ble_eq_true rfl, rfl, mcd135⟩ rfl rfl (Nat.le_of_ble_eq_true rfl) (hg42 _ _) rfl (t_f135 e7) ?_
    refine R_br 100 d144_88 rfl rfl ?_
    cases h
    exact R_iret d144_100 rfl rfl rfl
def j144_40 (v1 : Int32) (v2 : Int32) (v3 : Int32) (v4 : Int32) (v5 : Int32) (s : mS) : Option (Int32 × mS) :=
  (if (v5 = (0 : Int32)) then
    (f117 (1 : Int32) s).bind fun q2 => (if (q2.1 = (0 : Int32)) then
      j144_69 v1 v2 v3 v4 v5 q2.2
    else
      some ((0 : Int32), q2.2))
  else
    (f119 v1 v2 v3 s).bind fun q5 => (if (q5 = (0 : Int32)) then
      (f117 (1 : Int32) s).bind fun q8 => (if (q8.1 = (0 : Int32)) then
        j144_69 v1 v2 v3 v4 v5 q8.2
      else
        some ((0 : Int32), q8.2))
    else
      (f117 (0 : Int32) s).bind fun q11 => (if (q11.1 = (0 : Int32)) then
        j144_69 v1 v2 v3 v4 v5 q11.2
      else
        some ((0 : Int32), q11.2))))
theorem t_j144_40 {S : mE} {ex : mHp} (v1 : Int32) (v2 : Int32) (v3 : Int32) (v4 : Int32) (v5 : Int32) (s : mS) (r : Int32 × mS) (h : j144_40 v1 v2 v3 v4 v5 s = some r) : Run S 144 (40, [(0, .ref 42), (1, .int v1), (2, .int v2), (3, .int v3), (4, .int v4), (5, .int v5)], [], hp s ex) (.inl (some (.int r.1)), hp r.2 ex) := by
  unfold j144_40 at h
  refine R_p d144_40 rfl rfl ?_
  refine R_p d144_41 rfl rfl ?_
  rcases ite_some h with ⟨c1, h⟩ | ⟨c1, h⟩
  · refine R_br 60 d144_43 (mb_t (b := (v5 = (0 : Int32))) c1) rfl ?_
    refine R_ic (v := 1) d144_60 (by decide) ?_
    obtain ⟨q2, e3, h⟩ := bd_some h
    refine R_cm [.int 1] d144_61 (List.mem_of_getElem? (i := 164) rfl) rfl ⟨by decide, by decide, Nat.le_of_ble_eq_true rfl, rfl, mcd117⟩ rfl rfl (Nat.le_of_ble_eq_true rfl) (hg42 _ _) rfl (t_f117 e3) ?_
    rcases ite_some h with ⟨c4, h⟩ | ⟨c4, h⟩
    · refine R_br 69 d144_64 (mb_t (b := (q2.1 = (0 : Int32))) c4) rfl ?_
      exact t_j144_69 (S := S) (ex := ex) v1 v2 v3 v4 v5 q2.2 _ h
    · refine R_nb d144_64 rfl (mb_f (b := (q2.1 = (0 : Int32))) c4) ?_
      refine R_ic (v := 0) d144_67 (by decide) ?_
      cases h
      exact R_iret d144_68 rfl rfl rfl
  · refine R_nb d144_43 rfl (mb_f (b := (v5 = (0 : Int32))) c1) ?_
    refine R_p d144_46 rfl rfl ?_
    refine R_p d144_47 rfl rfl ?_
    refine R_p d144_48 rfl rfl ?_
    refine R_p d144_49 rfl rfl ?_
    obtain ⟨q5, e6, h⟩ := bd_some h
    refine R_cm [.int v1, .int v2, .int v3] d144_50 (List.mem_of_getElem? (i := 166) rfl) rfl ⟨by decide, by decide, Nat.le_of_ble_eq_true rfl, rfl, mcd119⟩ rfl rfl (Nat.le_of_ble_eq_true rfl) (hg42 _ _) rfl (t_f119 e6) ?_
    rcases ite_some h with ⟨c7, h⟩ | ⟨c7, h⟩
    · refine R_br 60 d144_53 (mb_t (b := (q5 = (0 : Int32))) c7) rfl ?_
      refine R_ic (v := 1) d144_60 (by decide) ?_
      obtain ⟨q8, e9, h⟩ := bd_some h
      refine R_cm [.int 1] d144_61 (List.mem_of_getElem? (i := 164) rfl) rfl ⟨by decide, by decide, Nat.le_of_ble_eq_true rfl, rfl, mcd117⟩ rfl rfl (Nat.le_of_ble_eq_true rfl) (hg42 _ _) rfl (t_f117 e9) ?_
      rcases ite_some h with ⟨c10, h⟩ | ⟨c10, h⟩
      · refine R_br 69 d144_64 (mb_t (b := (q8.1 = (0 : Int32))) c10) rfl ?_
        exact t_j144_69 (S := S) (ex := ex) v1 v2 v3 v4 v5 q8.2 _ h
      · refine R_nb d144_64 rfl (mb_f (b := (q8.1 = (0 : Int32))) c10) ?_
        refine R_ic (v := 0) d144_67 (by decide) ?_
        cases h
        exact R_iret d144_68 rfl rfl rfl
    · refine R_nb d144_53 rfl (mb_f (b := (q5 = (0 : Int32))) c7) ?_
      refine R_ic (v := 0) d144_56 (by decide) ?_
      refine R_br 61 d144_57 rfl rfl ?_
      obtain ⟨q11, e12, h⟩ := bd_some h
      refine R_cm [.int 0] d144_61 (List.mem_of_getElem? (i := 164) rfl) rfl ⟨by decide, by decide, Nat.le_of_ble_eq_true rfl, rfl, mcd117⟩ rfl rfl (Nat.le_of_ble_eq_true rfl) (hg42 _ _) rfl (t_f117 e12) ?_
      rcases ite_some h with ⟨c13, h⟩ | ⟨c13, h⟩
      · refine R_br 69 d144_64 (mb_t (b := (q11.1 = (0 : Int32))) c13) rfl ?_
        exact t_j144_69 (S := S) (ex := ex) v1 v2 v3 v4 v5 q11.2 _ h
      · refine R_nb d144_64 rfl (mb_f (b := (q11.1 = (0 : Int32))) c13) ?_
        refine R_ic (v := 0) d144_67 (by decide) ?_
        cases h
        exact R_iret d144_68 rfl rfl rfl
def f144 (v1 : Int32) (v2 : Int32) (v3 : Int32) (v4 : Int32) (s : mS) : Option (Int32 × mS) :=
  (f122 v1 s).bind fun q1 => (if (q1 = (0 : Int32)) then
    j144_40 v1 v2 v3 v4 0 s
  else
    (f122 v2 s).bind fun q4 => (if (q4 = (0 : Int32)) then
      j144_40 v1 v2 v3 v4 0 s
    else
      (f122 v3 s).bind fun q7 => (if (q7 = (0 : Int32)) then
        j144_40 v1 v2 v3 v4 0 s
      else
        (f122 v4 s).bind fun q10 => (if (q10 = (0 : Int32)) then
          j144_40 v1 v2 v3 v4 0 s
        else
          j144_40 v1 v2 v3 v4 1 s))))
theorem t_f144 {S : mE} {ex : mHp} {v1 : Int32} {v2 : Int32} {v3 : Int32} {v4 : Int32} {s : mS} {r : Int32 × mS} (h : f144 v1 v2 v3 v4 s = some r) : Run S 144 (0, [(0, .ref 42), (1, .int v1), (2, .int v2), (3, .int v3), (4, .int v4)], [], hp s ex) (.inl (some (.int r.1)), hp r.2 ex) := by
  unfold f144 at h
  refine R_p d144_0 rfl rfl ?_
  refine R_p d144_1 rfl rfl ?_
  obtain ⟨q1, e2, h⟩ := bd_some h
  refine R_cm [.int v1] d144_2 (List.mem_of_getElem? (i := 169) rfl) rfl ⟨by decide, by decide, Nat.le_of_ble_eq_true rfl, rfl, mcd122⟩ rfl rfl (Nat.le_of_ble_eq_true rfl) (hg42 _ _) rfl (t_f122 e2) ?_
  rcases ite_some h with ⟨c3, h⟩ | ⟨c3, h⟩
  · refine R_br 37 d144_5 (mb_t (b := (q1 = (0 : Int32))) c3) rfl ?_
    refine R_ic (v := 0) d144_37 (by decide) ?_
    refine R_p (ls' := [(0, .ref 42), (1, .int v1), (2, .int v2), (3, .int v3), (4, .int v4), (5, .int 0)]) d144_38 rfl rfl ?_
    exact t_j144_40 (S := S) (ex := ex) v1 v2 v3 v4 0 s _ h
  · refine R_nb d144_5 rfl (mb_f (b := (q1 = (0 : Int32))) c3) ?_
    refine R_p d144_8 rfl rfl ?_
    refine R_p d144_9 rfl rfl ?_
    obtain ⟨q4, e5, h⟩ := bd_some h
    refine R_cm [.int v2] d144_10 (List.mem_of_getElem? (i := 169) rfl) rfl ⟨by decide, by decide, Nat.le_of_ble_eq_true rfl, rfl, mcd122⟩ rfl rfl (Nat.le_of_ble_eq_true rfl) (hg42 _ _) rfl (t_f122 e5) ?_
    rcases ite_some h with ⟨c6, h⟩ | ⟨c6, h⟩
    · refine R_br 37 d144_13 (mb_t (b := (q4 = (0 : Int32))) c6) rfl ?_
      refine R_ic (v := 0) d144_37 (by decide) ?_
      refine R_p (ls' := [(0, .ref 42), (1, .int v1), (2, .int v2), (3, .int v3), (4, .int v4), (5, .int 0)]) d144_38 rfl rfl ?_
      exact t_j144_40 (S := S) (ex := ex) v1 v2 v3 v4 0 s _ h
    · refine R_nb d144_13 rfl (mb_f (b := (q4 = (0 : Int32))) c6) ?_
      refine R_p d144_16 rfl rfl ?_
      refine R_p d144_17 rfl rfl ?_
      obtain ⟨q7, e8, h⟩ := bd_some h
      refine R_cm [.int v3] d144_18 (List.mem_of_getElem? (i := 169) rfl) rfl ⟨by decide, by decide, Nat.le_of_ble_eq_true rfl, rfl, mcd122⟩ rfl rfl (Nat.le_of_ble_eq_true rfl) (hg42 _ _) rfl (t_f122 e8) ?_
      rcases ite_some h with ⟨c9, h⟩ | ⟨c9, h⟩
      · refine R_br 37 d144_21 (mb_t (b := (q7 = (0 : Int32))) c9) rfl ?_
        refine R_ic (v := 0) d144_37 (by decide) ?_
        refine R_p (ls' := [(0, .ref 42), (1, .int v1), (2, .int v2), (3, .int v3), (4, .int v4), (5, .int 0)]) d144_38 rfl rfl ?_
        exact t_j144_40 (S := S) (ex := ex) v1 v2 v3 v4 0 s _ h
      · refine R_nb d144_21 rfl (mb_f (b := (q7 = (0 : Int32))) c9) ?_
        refine R_p d144_24 rfl rfl ?_
        refine R_p d144_25 rfl rfl ?_
        obtain ⟨q10, e11, h⟩ := bd_some h
        refine R_cm [.int v4] d144_27 (List.mem_of_getElem? (i := 169) rfl) rfl ⟨by decide, by decide, Nat.le_of_ble_eq_true rfl, rfl, mcd122⟩ rfl rfl (Nat.le_of_ble_eq_true rfl) (hg42 _ _) rfl (t_f122 e11) ?_
        rcases ite_some h with ⟨c12, h⟩ | ⟨c12, h⟩
        · refine R_br 37 d144_30 (mb_t (b := (q10 = (0 : Int32))) c12) rfl ?_
          refine R_ic (v := 0) d144_37 (by decide) ?_
          refine R_p (ls' := [(0, .ref 42), (1, .int v1), (2, .int v2), (3, .int v3), (4, .int v4), (5, .int 0)]) d144_38 rfl rfl ?_
          exact t_j144_40 (S := S) (ex := ex) v1 v2 v3 v4 0 s _ h
        · refine R_nb d144_30 rfl (mb_f (b := (q10 = (0 : Int32))) c12) ?_
          refine R_ic (v := 1) d144_33 (by decide) ?_
          refine R_br 38 d144_34 rfl rfl ?_
          refine R_p (ls' := [(0, .ref 42), (1, .int v1), (2, .int v2), (3, .int v3), (4, .int v4), (5, .int 1)]) d144_38 rfl rfl ?_
          exact t_j144_40 (S := S) (ex := ex) v1 v2 v3 v4 1 s _ h
def r146 : Nat → Int32 → Int32 → mS → Option (Int32)
  | 0, _, _, _ => none
  | k + 1, v1, v2, s =>
    (if ((s.2.2.1 17) ≤ v2) then
        some (-1 : Int32)
      else
        rdI 300 ((3 : Int32) * v2) (rdI 300 (((3 : Int32) * v2) + (1 : Int32)) (rdI 300 (((3 : Int32) * v2) + (2 : Int32)) ((f119 (s.1 47 (Int32.toNatClampNeg ((3 : Int32) * v2))) (s.1 47 (Int32.toNatClampNeg (((3 : Int32) * v2) + (1 : Int32)))) v1 s).bind fun q5 => (if (q5 < (0 : Int32)) then
          r146 k v1 (v2 + Int32.ofInt 1) s
        else
          (f119 (s.1 47 (Int32.toNatClampNeg (((3 : Int32) * v2) + (1 : Int32)))) (s.1 47 (Int32.toNatClampNeg (((3 : Int32) * v2) + (2 : Int32)))) v1 s).bind fun q8 => (if (q8 < (0 : Int32)) then
            r146 k v1 (v2 + Int32.ofInt 1) s
          else
            (f119 (s.1 47 (Int32.toNatClampNeg (((3 : Int32) * v2) + (2 : Int32)))) (s.1 47 (Int32.toNatClampNeg ((3 : Int32) * v2))) v1 s).bind fun q11 => (if (q11 < (0 : Int32)) then
              r146 k v1 (v2 + Int32.ofInt 1) s
            else
              some v2)))))))
theorem s146 {S : mE} {ex : mHp} (k : Nat) : (∀ (v1 : Int32) (v2 : Int32) (s : mS) (r : Int32), r146 k v1 v2 s = some r → Run S 146 (2, [(0, .ref 42), (1, .int v1), (2, .int v2)], [], hp s ex) (.inl (some (.int r)), hp s ex)) := by
  induction k with
  | zero => intro v1 v2 s r h; cases h
  | succ k ih =>
    intro v1 v2 s r h
    rw [r146] at h
    refine R_p d146_2 rfl rfl ?_
    refine R_p d146_3 rfl rfl ?_
    refine R_get d146_4 (Or.inl (List.mem_of_getElem? (i := 55) rfl)) (hg42 _ _) rfl ?_
    rcases ite_some h with ⟨c1, h⟩ | ⟨c1, h⟩
    · refine R_br 85 d146_7 (mb_t (b := ((s.2.2.1 17) ≤ v2)) c1) rfl ?_
      refine R_ic (v := (-1)) d146_85 (by decide) ?_
      cases h
      exact R_iret d146_86 rfl rfl rfl
    · refine R_nb d146_7 rfl (mb_f (b := ((s.2.2.1 17) ≤ v2)) c1) ?_
      refine R_p d146_10 rfl rfl ?_
      refine R_get d146_11 (Or.inl (List.mem_of_getElem? (i := 56) rfl)) (hg42 _ _) rfl ?_
      refine R_ic (v := 3) d146_14 (by decide) ?_
      refine R_p d146_15 rfl rfl ?_
      refine R_p d146_16 rfl rfl ?_
      obtain ⟨c2, h⟩ := rdI_some h
      refine R_ild d146_17 (hg47 _ _) c2 ?_
      refine R_p (ls' := [(0, .ref 42), (1, .int v1), (2, .int v2), (3, .int (s.1 47 (Int32.toNatClampNeg ((3 : Int32) * v2))))]) d146_18 rfl rfl ?_
      refine R_p d146_19 rfl rfl ?_
      refine R_get d146_20 (Or.inl (List.mem_of_getElem? (i := 56) rfl)) (hg42 _ _) rfl ?_
      refine R_ic (v := 3) d146_23 (by decide) ?_
      refine R_p d146_24 rfl rfl ?_
      refine R_p d146_25 rfl rfl ?_
      refine R_ic (v := 1) d146_26 (by decide) ?_
      refine R_p d146_27 rfl rfl ?_
      obtain ⟨c3, h⟩ := rdI_some h
      refine R_ild d146_28 (hg47 _ _) c3 ?_
      refine R_p (ls' := [(0, .ref 42), (1, .int v1), (2, .int v2), (3, .int (s.1 47 (Int32.toNatClampNeg ((3 : Int32) * v2)))), (4, .int (s.1 47 (Int32.toNatClampNeg (((3 : Int32) * v2) + (1 : Int32)))))]) d146_29 rfl rfl ?_
      refine R_p d146_31 rfl rfl ?_
      refine R_get d146_32 (Or.inl (List.mem_of_getElem? (i := 56) rfl)) (hg42 _ _) rfl ?_
      refine R_ic (v := 3) d146_35 (by decide) ?_
      refine R_p d146_36 rfl rfl ?_
      refine R_p d146_37 rfl rfl ?_
      refine R_ic (v := 2) d146_38 (by decide) ?_
      refine R_p d146_39 rfl rfl ?_
      obtain ⟨c4, h⟩ := rdI_some h
      refine R_ild d146_40 (hg47 _ _) c4 ?_
      refine R_p (ls' := [(0, .ref 42), (1, .int v1), (2, .int v2), (3, .int (s.1 47 (Int32.toNatClampNeg ((3 : Int32) * v2)))), (4, .int (s.1 47 (Int32.toNatClampNeg (((3 : Int32) * v2) + (1 : Int32))))), (5, .int (s.1 47 (Int32.toNatClampNeg (((3 : Int32) * v2) + (2 : Int32)))))]) d146_41 rfl rfl ?_
      refine R_p d146_43 rfl rfl ?_
      refine R_p d146_44 rfl rfl ?_
      refine R_p d146_45 rfl rfl ?_
      refine R_p d146_47 rfl rfl ?_
      obtain ⟨q5, e6, h⟩ := bd_some h
      refine R_cm [.int (s.1 47 (Int32.toNatClampNeg ((3 : Int32) * v2))), .int (s.1 47 (Int32.toNatClampNeg (((3 : Int32) * v2) + (1 : Int32)))), .int v1] d146_48 (List.mem_of_getElem? (i := 166) rfl) rfl ⟨by decide, by decide, Nat.le_of_ble_eq_true rfl, rfl, mcd119⟩ rfl rfl (Nat.le_of_ble_eq_true rfl) (hg42 _ _) rfl (t_f119 e6) ?_
      rcases ite_some h with ⟨c7, h⟩ | ⟨c7, h⟩
      · refine R_br 79 d146_51 (mb_t (b := (q5 < (0 : Int32))) c7) rfl ?_
        refine R_p (ls' := [(0, .ref 42), (1, .int v1), (2, .int (v2 + Int32.ofInt 1)), (3, .int (s.1 47 (Int32.toNatClampNeg ((3 : Int32) * v2)))), (4, .int (s.1 47 (Int32.toNatClampNeg (((3 : Int32) * v2) + (1 : Int32))))), (5, .int (s.1 47 (Int32.toNatClampNeg (((3 : Int32) * v2) + (2 : Int32)))))]) d146_79 rfl rfl ?_
        refine R_br 2 d146_82 rfl rfl ?_
        exact R_wk [(0, .ref 42), (1, .int v1), (2, .int (v2 + Int32.ofInt 1))] (by simp) (ih v1 (v2 + Int32.ofInt 1) s _ h)
      · refine R_nb d146_51 rfl (mb_f (b := (q5 < (0 : Int32))) c7) ?_
        refine R_p d146_54 rfl rfl ?_
        refine R_p d146_55 rfl rfl ?_
        refine R_p d146_57 rfl rfl ?_
        refine R_p d146_59 rfl rfl ?_
        obtain ⟨q8, e9, h⟩ := bd_some h
        refine R_cm [.int (s.1 47 (Int32.toNatClampNeg (((3 : Int32) * v2) + (1 : Int32)))), .int (s.1 47 (Int32.toNatClampNeg (((3 : Int32) * v2) + (2 : Int32)))), .int v1] d146_60 (List.mem_of_getElem? (i := 166) rfl) rfl ⟨by decide, by decide, Nat.le_of_ble_eq_true rfl, rfl, mcd119⟩ rfl rfl (Nat.le_of_ble_eq_true rfl) (hg42 _ _) rfl (t_f119 e9) ?_
        rcases ite_some h with ⟨c10, h⟩ | ⟨c10, h⟩
        · refine R_br 79 d146_63 (mb_t (b := (q8 < (0 : Int32))) c10) rfl ?_
          refine R_p (ls' := [(0, .ref 42), (1, .int v1), (2, .int (v2 + Int32.ofInt 1)), (3, .int (s.1 47 (Int32.toNatClampNeg ((3 : Int32) * v2)))), (4, .int (s.1 47 (Int32.toNatClampNeg (((3 : Int32) * v2) + (1 : Int32))))), (5, .int (s.1 47 (Int32.toNatClampNeg (((3 : Int32) * v2) + (2 : Int32)))))]) d146_79 rfl rfl ?_
          refine R_br 2 d146_82 rfl rfl ?_
          exact R_wk [(0, .ref 42), (1, .int v1), (2, .int (v2 + Int32.ofInt 1))] (by simp) (ih v1 (v2 + Int32.ofInt 1) s _ h)
        · refine R_nb d146_63 rfl (mb_f (b := (q8 < (0 : Int32))) c10) ?_
          refine R_p d146_66 rfl rfl ?_
          refine R_p d146_67 rfl rfl ?_
          refine R_p d146_69 rfl rfl ?_
          refine R_p d146_70 rfl rfl ?_
          obtain ⟨q11, e12, h⟩ := bd_some h
          refine R_cm [.int (s.1 47 (Int32.toNatClampNeg (((3 : Int32) * v2) + (2 : Int32)))), .int (s.1 47 (Int32.toNatClampNeg ((3 : Int32) * v2))), .int v1] d146_71 (List.mem_of_getElem? (i := 166) rfl) rfl ⟨by decide, by decide, Nat.le_of_ble_eq_true rfl, rfl, mcd119⟩ rfl rfl (Nat.le_of_ble_eq_true rfl) (hg42 _ _) rfl (t_f119 e12) ?_
          rcases ite_some h with ⟨c13, h⟩ | ⟨c13, h⟩
          · refine R_br 79 d146_74 (mb_t (b := (q11 < (0 : Int32))) c13) rfl ?_
            refine R_p (ls' := [(0, .ref 42), (1, .int v1), (2, .int (v2 + Int32.ofInt 1)), (3, .int (s.1 47 (Int32.toNatClampNeg ((3 : Int32) * v2)))), (4, .int (s.1 47 (Int32.toNatClampNeg (((3 : Int32) * v2) + (1 : Int32))))), (5, .int (s.1 47 (Int32.toNatClampNeg (((3 : Int32) * v2) + (2 : Int32)))))]) d146_79 rfl rfl ?_
            refine R_br 2 d146_82 rfl rfl ?_
            exact R_wk [(0, .ref 42), (1, .int v1), (2, .int (v2 + Int32.ofInt 1))] (by simp) (ih v1 (v2 + Int32.ofInt 1) s _ h)
          · refine R_nb d146_74 rfl (mb_f (b := (q11 < (0 : Int32))) c13) ?_
            refine R_p d146_77 rfl rfl ?_
            cases h
            exact R_iret d146_78 rfl rfl rfl
def f146 (k : Nat) (v1 : Int32) (s : mS) : Option (Int32) :=
  r146 k v1 0 s
theorem t_f146 {S : mE} {ex : mHp} {k : Nat} {v1 : Int32} {s : mS} {r : Int32} (h : f146 k v1 s = some r) : Run S 146 (0, [(0, .ref 42), (1, .int v1)], [], hp s ex) (.inl (some (.int r)), hp s ex) := by
  unfold f146 at h
  refine R_ic (v := 0) d146_0 (by decide) ?_
  refine R_p (ls' := [(0, .ref 42), (1, .int v1), (2, .int 0)]) d146_1 rfl rfl ?_
  exact s146 (S := S) (ex := ex) k v1 0 s _ h
def f145 (k : Nat) (v1 : Int32) (v2 : Int32) (s : mS) : Option (Int32 × mS) :=
  (f115 v1 v2 s).bind fun q1 => (if (q1 = (0 : Int32)) then
    (f117 (1 : Int32) s).bind fun q4 => (if (q4.1 = (0 : Int32)) then
      (f128 k q4.2).bind fun q7 => rdI 42 (40 : Int32) (pt (uJ 43 (vp_updL (q7.2.1 43) (Int32.toNatClampNeg 40) (Int32.toInt64 v1)) q7) fun s10 => rdI 42 (40 : Int32) (pt (uJ 44 (vp_updL (s10.2.1 44) (Int32.toNatClampNeg 40) (Int32.toInt64 v2)) s10) fun s13 => (f146 k (40 : Int32) s13).bind fun q15 => some (q15, s13)))
    else
      some ((0 : Int32), q4.2))
  else
    (f117 (0 : Int32) s).bind fun q17 => (if (q17.1 = (0 : Int32)) then
      (f128 k q17.2).bind fun q20 => rdI 42 (40 : Int32) (pt (uJ 43 (vp_updL (q20.2.1 43) (Int32.toNatClampNeg 40) (Int32.toInt64 v1)) q20) fun s23 => rdI 42 (40 : Int32) (pt (uJ 44 (vp_updL (s23.2.1 44) (Int32.toNatClampNeg 40) (Int32.toInt64 v2)) s23) fun s26 => (f146 k (40 : Int32) s26).bind fun q28 => some (q28, s26)))
    else
      some ((0 : Int32), q17.2)))
theorem t_f145 {S : mE} {ex : mHp} {k : Nat} {v1 : Int32} {v2 : Int32} {s : mS} {r : Int32 × mS} (h : f145 k v1 v2 s = some r) : Run S 145 (0, [(0, .ref 42), (1, .int v1), (2, .int v2)], [], hp s ex) (.inl (some (.int r.1)), hp r.2 ex) := by
  unfold f145 at h
  refine R_p d145_0 rfl rfl ?_
  refine R_p d145_1 rfl rfl ?_
  refine R_p d145_2 rfl rfl ?_
  obtain ⟨q1, e2, h⟩ := bd_some h
  refine R_cs [.int v1, .int v2] d145_3 (List.mem_of_getElem? (i := 162) rfl) rfl ⟨by decide, by decide, Nat.le_of_ble_eq_true rfl, rfl, mcd115⟩ rfl rfl (Nat.le_of_ble_eq_true rfl) (t_f115 e2) ?_
  rcases ite_some h with ⟨c3, h⟩ | ⟨c3, h⟩
  · refine R_br 13 d145_6 (mb_t (b := (q1 = (0 : Int32))) c3) rfl ?_
    refine R_ic (v := 1) d145_13 (by decide) ?_
    obtain ⟨q4, e5, h⟩ := bd_some h
    refine R_cm [.int 1] d145_14 (List.mem_of_getElem? (i := 164) rfl) rfl ⟨by decide, by decide, Nat.le_of_ble_eq_true rfl, rfl, mcd117⟩ rfl rfl (Nat.le_of_ble_eq_true rfl) (hg42 _ _) rfl (t_f117 e5) ?_
    rcases ite_some h with ⟨c6, h⟩ | ⟨c6, h⟩
    · refine R_br 22 d145_17 (mb_t (b := (q4.1 = (0 : Int32))) c6) rfl ?_
      refine R_p d145_22 rfl rfl ?_
      obtain ⟨q7, e8, h⟩ := bd_some h
      refine R_cm [] d145_23 (List.mem_of_getElem? (i := 175) rfl) rfl ⟨by decide, by decide, Nat.le_of_ble_eq_true rfl, rfl, mcd128⟩ rfl rfl (Nat.le_of_ble_eq_true rfl) (hg42 _ _) rfl (t_f128 e8) ?_
      refine R_p d145_26 rfl rfl ?_
      refine R_get d145_27 (Or.inl (List.mem_of_getElem? (i := 50) rfl)) (hg42 _ _) rfl ?_
      refine R_bi (v := 40) d145_30 (by decide) ?_
      refine R_p d145_32 rfl rfl ?_
      refine R_p d145_33 rfl rfl ?_
      obtain ⟨c9, h⟩ := rdI_some h
      obtain ⟨s10, e11, h⟩ := pt_some h
      refine R_lst d145_34 (hg43 _ _) c9 ?_
      refine R_h (hp s10 ex) (by rw [e11]; exact hA43 _ _ _) ?_
      refine R_p d145_35 rfl rfl ?_
      refine R_get d145_36 (Or.inl (List.mem_of_getElem? (i := 51) rfl)) (hg42 _ _) rfl ?_
      refine R_bi (v := 40) d145_39 (by decide) ?_
      refine R_p d145_41 rfl rfl ?_
      refine R_p d145_42 rfl rfl ?_
      obtain ⟨c12, h⟩ := rdI_some h
      obtain ⟨s13, e14, h⟩ := pt_some h
      refine R_lst d145_43 (hg44 _ _) c12 ?_
      refine R_h (hp s13 ex) (by rw [e14]; exact hA44 _ _ _) ?_
      refine R_p d145_44 rfl rfl ?_
      refine R_bi (v := 40) d145_45 (by decide) ?_
      obtain ⟨q15, e16, h⟩ := bd_some h
      refine R_cm [.int 40] d145_47 (List.mem_of_getElem? (i := 193) rfl) rfl ⟨by decide, by decide, Nat.le_of_ble_eq_true rfl, rfl, mcd146⟩ rfl rfl (Nat.le_of_ble_eq_true rfl) (hg42 _ _) rfl (t_f146 e16) ?_
      cases h
      exact R_iret d145_50 rfl rfl rfl
    · refine R_nb d145_17 rfl (mb_f (b := (q4.1 = (0 : Int32))) c6) ?_
      refine R_ic (v := 0) d145_20 (by decide) ?_
      cases h
      exact R_iret d145_21 rfl rfl rfl
  · refine R_nb d145_6 rfl (mb_f (b := (q1 = (0 : Int32))) c3) ?_
    refine R_ic (v := 0) d145_9 (by decide) ?_
    refine R_br 14 d145_10 rfl rfl ?_
    obtain ⟨q17, e18, h⟩ := bd_some h
    refine R_cm [.int 0] d145_14 (List.mem_of_getElem? (i := 164) rfl) rfl ⟨by decide, by decide, Nat.le_of_ble_eq_true rfl, rfl, mcd117⟩ rfl rfl (Nat.le_of_ble_eq_true rfl) (hg42 _ _) rfl (t_f117 e18) ?_
    rcases ite_some h with ⟨c19, h⟩ | ⟨c19, h⟩
    · refine R_br 22 d145_17 (mb_t (b := (q17.1 = (0 : Int32))) c19) rfl ?_
      refine R_p d145_22 rfl rfl ?_
      obtain ⟨q20, e21, h⟩ := bd_some h
      refine R_cm [] d145_23 (List.mem_of_getElem? (i := 175) rfl) rfl ⟨by decide, by decide, Nat.le_of_ble_eq_true rfl, rfl, mcd128⟩ rfl rfl (Nat.le_of_ble_eq_true rfl) (hg42 _ _) rfl (t_f128 e21) ?_
      refine R_p d145_26 rfl rfl ?_
      refine R_get d145_27 (Or.inl (List.mem_of_getElem? (i := 50) rfl)) (hg42 _ _) rfl ?_
      refine R_bi (v := 40) d145_30 (by decide) ?_
      refine R_p d145_32 rfl rfl ?_
      refine R_p d145_33 rfl rfl ?_
      obtain ⟨c22, h⟩ := rdI_some h
      obtain ⟨s23, e24, h⟩ := pt_some h
      refine R_lst d145_34 (hg43 _ _) c22 ?_
      refine R_h (hp s23 ex) (by rw [e24]; exact hA43 _ _ _) ?_
      refine R_p d145_35 rfl rfl ?_
      refine R_get d145_36 (Or.inl (List.mem_of_getElem? (i := 51) rfl)) (hg42 _ _) rfl ?_
      refine R_bi (v := 40) d145_39 (by decide) ?_
      refine R_p d145_41 rfl rfl ?_
      refine R_p d145_42 rfl rfl ?_
      obtain ⟨c25, h⟩ := rdI_some h
      obtain ⟨s26, e27, h⟩ := pt_some h
      refine R_lst d145_43 (hg44 _ _) c25 ?_
      refine R_h (hp s26 ex) (by rw [e27]; exact hA44 _ _ _) ?_
      refine R_p d145_44 rfl rfl ?_
      refine R_bi (v := 40) d145_45 (by decide) ?_
      obtain ⟨q28, e29, h⟩ := bd_some h
      refine R_cm [.int 40] d145_47 (List.mem_of_getElem? (i := 193) rfl) rfl ⟨by decide, by decide, Nat.le_of_ble_eq_true rfl, rfl, mcd146⟩ rfl rfl (Nat.le_of_ble_eq_true rfl) (hg42 _ _) rfl (t_f146 e29) ?_
      cases h
      exact R_iret d145_50 rfl rfl rfl
    · refine R_nb d145_17 rfl (mb_f (b := (q17.1 = (0 : Int32))) c19) ?_
      refine R_ic (v := 0) d145_20 (by decide) ?_
      cases h
      exact R_iret d145_21 rfl rfl rfl
def f149 (k : Nat) (v1 : Int32) (v2 : Int32) (s : mS) : Option (Int32) :=
  rdI 300 (((3 : Int32) * v1) + v2) (rdI 300 (((3 : Int32) * v1) + ((v2 + (1 : Int32)) - (v2 + (1 : Int32)) / (3 : Int32) * (3 : Int32))) (rdI 1600 (((40 : Int32) * (s.1 47 (Int32.toNatClampNeg (((3 : Int32) * v1) + v2)))) + (s.1 47 (Int32.toNatClampNeg (((3 : Int32) * v1) + ((v2 + (1 : Int32)) - (v2 + (1 : Int32)) / (3 : Int32) * (3 : Int32)))))) ((if ((s.1 45 (Int32.toNatClampNeg (((40 : Int32) * (s.1 47 (Int32.toNatClampNeg (((3 : Int32) * v1) + v2)))) + (s.1 47 (Int32.toNatClampNeg (((3 : Int32) * v1) + ((v2 + (1 : Int32)) - (v2 + (1 : Int32)) / (3 : Int32) * (3 : Int32)))))))) = (0 : Int32)) then
    (f138 k (s.1 47 (Int32.toNatClampNeg (((3 : Int32) * v1) + ((v2 + (1 : Int32)) - (v2 + (1 : Int32)) / (3 : Int32) * (3 : Int32))))) (s.1 47 (Int32.toNatClampNeg (((3 : Int32) * v1) + v2))) s).bind fun q5 => some q5
  else
    some (-1 : Int32)))))
theorem t_f149 {S : mE} {ex : mHp} {k : Nat} {v1 : Int32} {v2 : Int32} {s : mS} {r : Int32} (h : f149 k v1 v2 s = some r) : Run S 149 (0, [(0, .ref 42), (1, .int v1), (2, .int v2)], [], hp s ex) (.inl (some (.int r)), hp s ex) := by
  unfold f149 at h
  refine R_p d149_0 rfl rfl ?_
  refine R_get d149_1 (Or.inl (List.mem_of_getElem? (i := 56) rfl)) (hg42 _ _) rfl ?_
  refine R_ic (v := 3) d149_4 (by decide) ?_
  refine R_p d149_5 rfl rfl ?_
  refine R_p d149_6 rfl rfl ?_
  refine R_p d149_7 rfl rfl ?_
  refine R_p d149_8 rfl rfl ?_
  obtain ⟨c1, h⟩ := rdI_some h
  refine R_ild d149_9 (hg47 _ _) c1 ?_
  refine R_p (ls' := [(0, .ref 42), (1, .int v1), (2, .int v2), (3, .int (s.1 47 (Int32.toNatClampNeg (((3 : Int32) * v1) + v2))))]) d149_10 rfl rfl ?_
  refine R_p d149_11 rfl rfl ?_
  refine R_get d149_12 (Or.inl (List.mem_of_getElem? (i := 56) rfl)) (hg42 _ _) rfl ?_
  refine R_ic (v := 3) d149_15 (by decide) ?_
  refine R_p d149_16 rfl rfl ?_
  refine R_p d149_17 rfl rfl ?_
  refine R_p d149_18 rfl rfl ?_
  refine R_ic (v := 1) d149_19 (by decide) ?_
  refine R_p d149_20 rfl rfl ?_
  refine R_ic (v := 3) d149_21 (by decide) ?_
  refine R_p d149_22 rfl rfl ?_
  refine R_p d149_23 rfl rfl ?_
  obtain ⟨c2, h⟩ := rdI_some h
  refine R_ild d149_24 (hg47 _ _) c2 ?_
  refine R_p (ls' := [(0, .ref 42), (1, .int v1), (2, .int v2), (3, .int (s.1 47 (Int32.toNatClampNeg (((3 : Int32) * v1) + v2)))), (4, .int (s.1 47 (Int32.toNatClampNeg (((3 : Int32) * v1) + ((v2 + (1 : Int32)) - (v2 + (1 : Int32)) / (3 : Int32) * (3 : Int32))))))]) d149_25 rfl rfl ?_
  refine R_p d149_27 rfl rfl ?_
  refine R_get d149_28 (Or.inl (List.mem_of_getElem? (i := 52) rfl)) (hg42 _ _) rfl ?_
  refine R_bi (v := 40) d149_31 (by decide) ?_
  refine R_p d149_33 rfl rfl ?_
  refine R_p d149_34 rfl rfl ?_
  refine R_p d149_35 rfl rfl ?_
  refine R_p d149_37 rfl rfl ?_
  obtain ⟨c3, h⟩ := rdI_some h
  refine R_zld d149_38 (hg45 _ _) c3 ?_
  rcases ite_some h with ⟨c4, h⟩ | ⟨c4, h⟩
  · refine R_br 46 d149_39 (mb_t (b := ((s.1 45 (Int32.toNatClampNeg (((40 : Int32) * (s.1 47 (Int32.toNatClampNeg (((3 : Int32) * v1) + v2)))) + (s.1 47 (Int32.toNatClampNeg (((3 : Int32) * v1) + ((v2 + (1 : Int32)) - (v2 + (1 : Int32)) / (3 : Int32) * (3 : Int32)))))))) = (0 : Int32))) c4) rfl ?_
    refine R_p d149_46 rfl rfl ?_
    refine R_p d149_47 rfl rfl ?_
    refine R_p d149_49 rfl rfl ?_
    obtain ⟨q5, e6, h⟩ := bd_some h
    refine R_cm [.int (s.1 47 (Int32.toNatClampNeg (((3 : Int32) * v1) + ((v2 + (1 : Int32)) - (v2 + (1 : Int32)) / (3 : Int32) * (3 : Int32))))), .int (s.1 47 (Int32.toNatClampNeg (((3 : Int32) * v1) + v2)))] d149_50 (List.mem_of_getElem? (i := 185) rfl) rfl ⟨by decide, by decide, Nat.le_of_ble_eq_true rfl, rfl, mcd138⟩ rfl rfl (Nat.le_of_ble_eq_true rfl) (hg42 _ _) rfl (t_f138 e6) ?_
    cases h
    exact R_iret d149_53 rfl rfl rfl
  · refine R_nb d149_39 rfl (mb_f (b := ((s.1 45 (Int32.toNatClampNeg (((40 : Int32) * (s.1 47 (Int32.toNatClampNeg (((3 : Int32) * v1) + v2)))) + (s.1 47 (Int32.toNatClampNeg (((3 : Int32) * v1) + ((v2 + (1 : Int32)) - (v2 + (1 : Int32)) / (3 : Int32) * (3 : Int32)))))))) = (0 : Int32))) c4) ?_
    refine R_ic (v := (-1)) d149_42 (by decide) ?_
    refine R_br 53 d149_43 rfl rfl ?_
    cases h
    exact R_iret d149_53 rfl rfl rfl
def r148 : Nat → Nat → Int32 → Int32 → Int32 → Int32 → mS → Option (mS)
  | 0, _, _, _, _, _, _ => none
  | k + 1, hd, v1, v2, v3, v4, s =>
    if hd = 0 then (if ((s.2.2.1 17) ≤ v2) then
        r148 k 1 v1 1 0 0 s
      else
        (if (¬ v2 = v1) then
          rdI 100 v2 (pt (uA 50 (upd (s.1 50) (Int32.toNatClampNeg v2) 1000) s) fun s4 => r148 k 0 v1 (v2 + Int32.ofInt 1) 0 0 s4)
        else
          rdI 100 v2 (pt (uA 50 (upd (s.1 50) (Int32.toNatClampNeg v2) 0) s) fun s7 => r148 k 0 v1 (v2 + Int32.ofInt 1) 0 0 s7))) else
    if hd = 1 then (if (v2 = (0 : Int32)) then
        some s
      else
        r148 k 2 v1 0 0 0 s) else
    if hd = 2 then (if ((s.2.2.1 17) ≤ v3) then
        r148 k 1 v1 v2 0 0 s
      else
        r148 k 3 v1 v2 v3 0 s) else
    (if ((3 : Int32) ≤ v4) then
        r148 k 2 v1 v2 (v3 + Int32.ofInt 1) 0 s
      else
        (f149 k v3 v4 s).bind fun q2 => (if (q2 < (0 : Int32)) then
          r148 k 3 v1 v2 v3 (v4 + Int32.ofInt 1) s
        else
          rdI 100 q2 (rdI 100 v3 ((if ((s.1 50 (Int32.toNatClampNeg v3)) ≤ ((s.1 50 (Int32.toNatClampNeg q2)) + (1 : Int32))) then
            r148 k 3 v1 v2 v3 (v4 + Int32.ofInt 1) s
          else
            rdI 100 q2 (rdI 100 v3 (pt (uA 50 (upd (s.1 50) (Int32.toNatClampNeg v3) ((s.1 50 (Int32.toNatClampNeg q2)) + (1 : Int32))) s) fun s10 => r148 k 3 v1 1 v3 (v4 + Int32.ofInt 1) s10)))))))
theorem s148 {S : mE} {ex : mHp} (k : Nat) : (∀ (v1 : Int32) (v2 : Int32) (v3 : Int32) (v4 : Int32) (s : mS) (r : mS), r148 k 0 v1 v2 v3 v4 s = some r → Run S 148 (2, [(0, .ref 42), (1, .int v1), (2, .int v2)], [], hp s ex) (.inl none, hp r ex)) ∧ (∀ (v1 : Int32) (v2 : Int32) (v3 : Int32) (v4 : Int32) (s : mS) (r : mS), r148 k 1 v1 v2 v3 v4 s = some r → Run S 148 (36, [(0, .ref 42), (1, .int v1), (2, .int v2)], [], hp s ex) (.inl none, hp r ex)) ∧ (∀ (v1 : Int32) (v2 : Int32) (v3 : Int32) (v4 : Int32) (s : mS) (r : mS), r148 k 2 v1 v2 v3 v4 s = some r → Run S 148 (44, [(0, .ref 42), (1, .int v1), (2, .int v2), (3, .int v3)], [], hp s ex) (.inl none, hp r ex)) ∧ (∀ (v1 : Int32) (v2 : Int32) (v3 : Int32) (v4 : Int32) (s : mS) (r : mS), r148 k 3 v1 v2 v3 v4 s = some r → Run S 148 (55, [(0, .ref 42), (1, .int v1), (2, .int v2), (3, .int v3), (4, .int v4)], [], hp s ex) (.inl none, hp r ex)) := by
  induction k with
  | zero => refine ⟨?_, ?_, ?_, ?_⟩ <;> (intro v1 v2 v3 v4 s r h; cases h)
  | succ k ih =>
    refine ⟨?_, ?_, ?_, ?_⟩
    · intro v1 v2 v3 v4 s r h
      rw [r148, if_pos rfl] at h
      refine R_p d148_2 rfl rfl ?_
      refine R_p d148_3 rfl rfl ?_
      refine R_get d148_4 (Or.inl (List.mem_of_getElem? (i := 55) rfl)) (hg42 _ _) rfl ?_
      rcases ite_some h with ⟨c1, h⟩ | ⟨c1, h⟩
      · refine R_br 34 d148_7 (mb_t (b := ((s.2.2.1 17) ≤ v2)) c1) rfl ?_
        refine R_ic (v := 1) d148_34 (by decide) ?_
        refine R_p (ls' := [(0, .ref 42), (1, .int v1), (2, .int 1)]) d148_35 rfl rfl ?_
        exact ih.2.1 v1 1 0 0 s _ h
      · refine R_nb d148_7 rfl (mb_f (b := ((s.2.2.1 17) ≤ v2)) c1) ?_
        refine R_p d148_10 rfl rfl ?_
        refine R_get d148_11 (Or.inl (List.mem_of_getElem? (i := 61) rfl)) (hg42 _ _) rfl ?_
        refine R_p d148_14 rfl rfl ?_
        refine R_p d148_15 rfl rfl ?_
        refine R_p d148_16 rfl rfl ?_
        rcases ite_some h with ⟨c2, h⟩ | ⟨c2, h⟩
        · refine R_br 24 d148_17 (mb_t (b := (¬ v2 = v1)) c2) rfl ?_
          refine R_si (v := 1000) d148_24 (by decide) ?_
          obtain ⟨c3, h⟩ := rdI_some h
          obtain ⟨s4, e5, h⟩ := pt_some h
          refine R_ist d148_27 (hg50 _ _) c3 ?_
          refine R_h (hp s4 ex) (by rw [e5]; exact hA50 _ _ _) ?_
          refine R_p (ls' := [(0, .ref 42), (1, .int v1), (2, .int (v2 + Int32.ofInt 1))]) d148_28 rfl rfl ?_
          refine R_br 2 d148_31 rfl rfl ?_
          exact ih.1 v1 (v2 + Int32.ofInt 1) 0 0 s4 _ h
        · refine R_nb d148_17 rfl (mb_f (b := (¬ v2 = v1)) c2) ?_
          refine R_ic (v := 0) d148_20 (by decide) ?_
          refine R_br 27 d148_21 rfl rfl ?_
          obtain ⟨c6, h⟩ := rdI_some h
          obtain ⟨s7, e8, h⟩ := pt_some h
          refine R_ist d148_27 (hg50 _ _) c6 ?_
          refine R_h (hp s7 ex) (by rw [e8]; exact hA50 _ _ _) ?_
          refine R_p (ls' := [(0, .ref 42), (1, .int v1), (2, .int (v2 + Int32.ofInt 1))]) d148_28 rfl rfl ?_
          refine R_br 2 d148_31 rfl rfl ?_
          exact ih.1 v1 (v2 + Int32.ofInt 1) 0 0 s7 _ h
    · intro v1 v2 v3 v4 s r h
      rw [r148, if_neg (by decide), if_pos rfl] at h
      refine R_p d148_36 rfl rfl ?_
      rcases ite_some h with ⟨c1, h⟩ | ⟨c1, h⟩
      · refine R_br 125 d148_37 (mb_t (b := (v2 = (0 : Int32))) c1) rfl ?_
        cases h
        exact R_vret d148_125 rfl rfl
      · refine R_nb d148_37 rfl (mb_f (b := (v2 = (0 : Int32))) c1) ?_
        refine R_ic (v := 0) d148_40 (by decide) ?_
        refine R_p (ls' := [(0, .ref 42), (1, .int v1), (2, .int 0)]) d148_41 rfl rfl ?_
        refine R_ic (v := 0) d148_42 (by decide) ?_
        refine R_p (ls' := [(0, .ref 42), (1, .int v1), (2, .int 0), (3, .int 0)]) d148_43 rfl rfl ?_
        exact ih.2.2.1 v1 0 0 0 s _ h
    · intro v1 v2 v3 v4 s r h
      rw [r148, if_neg (by decide), if_neg (by decide), if_pos rfl] at h
      refine R_p d148_44 rfl rfl ?_
      refine R_p d148_45 rfl rfl ?_
      refine R_get d148_46 (Or.inl (List.mem_of_getElem? (i := 55) rfl)) (hg42 _ _) rfl ?_
      rcases ite_some h with ⟨c1, h⟩ | ⟨c1, h⟩
      · refine R_br 122 d148_49 (mb_t (b := ((s.2.2.1 17) ≤ v3)) c1) rfl ?_
        refine R_br 36 d148_122 rfl rfl ?_
        exact R_wk [(0, .ref 42), (1, .int v1), (2, .int v2)] (by simp) (ih.2.1 v1 v2 0 0 s _ h)
      · refine R_nb d148_49 rfl (mb_f (b := ((s.2.2.1 17) ≤ v3)) c1) ?_
        refine R_ic (v := 0) d148_52 (by decide) ?_
        refine R_p (ls' := [(0, .ref 42), (1, .int v1), (2, .int v2), (3, .int v3), (4, .int 0)]) d148_53 rfl rfl ?_
        exact ih.2.2.2 v1 v2 v3 0 s _ h
    · intro v1 v2 v3 v4 s r h
      rw [r148, if_neg (by decide), if_neg (by decide), if_neg (by decide)] at h
      refine R_p d148_55 rfl rfl ?_
      refine R_ic (v := 3) d148_57 (by decide) ?_
      rcases ite_some h with ⟨c1, h⟩ | ⟨c1, h⟩
      · refine R_br 116 d148_58 (mb_t (b := ((3 : Int32) ≤ v4)) c1) rfl ?_
        refine R_p (ls' := [(0, .ref 42), (1, .int v1), (2, .int v2), (3, .int (v3 + Int32.ofInt 1)), (4, .int v4)]) d148_116 rfl rfl ?_
        refine R_br 44 d148_119 rfl rfl ?_
        exact R_wk [(0, .ref 42), (1, .int v1), (2, .int v2), (3, .int (v3 + Int32.ofInt 1))] (by simp) (ih.2.2.1 v1 v2 (v3 + Int32.ofInt 1) 0 s _ h)
      · refine R_nb d148_58 rfl (mb_f (b := ((3 : Int32) ≤ v4)) c1) ?_
        refine R_p d148_61 rfl rfl ?_
        refine R_p d148_62 rfl rfl ?_
        refine R_p d148_63 rfl rfl ?_
        obtain ⟨q2, e3, h⟩ := bd_some h
        refine R_cm [.int v3, .int v4] d148_65 (List.mem_of_getElem? (i := 196) rfl) rfl ⟨by decide, by decide, Nat.le_of_ble_eq_true rfl, rfl, mcd149⟩ rfl rfl (Nat.le_of_ble_eq_true rfl) (hg42 _ _) rfl (t_f149 e3) ?_
        refine R_p (ls' := [(0, .ref 42), (1, .int v1), (2, .int v2), (3, .int v3), (4, .int v4), (5, .int q2)]) d148_68 rfl rfl ?_
        refine R_p d148_70 rfl rfl ?_
        rcases ite_some h with ⟨c4, h⟩ | ⟨c4, h⟩
        · refine R_br 110 d148_72 (mb_t (b := (q2 < (0 : Int32))) c4) rfl ?_
          refine R_p (ls' := [(0, .ref 42), (1, .int v1), (2, .int v2), (3, .int v3), (4, .int (v4 + Int32.ofInt 1)), (5, .int q2)]) d148_110 rfl rfl ?_
          refine R_br 55 d148_113 rfl rfl ?_
          exact R_wk [(0, .ref 42), (1, .int v1), (2, .int v2), (3, .int v3), (4, .int (v4 + Int32.ofInt 1))] (by simp) (ih.2.2.2 v1 v2 v3 (v4 + Int32.ofInt 1) s _ h)
        · refine R_nb d148_72 rfl (mb_f (b := (q2 < (0 : Int32))) c4) ?_
          refine R_p d148_75 rfl rfl ?_
          refine R_get d148_76 (Or.inl (List.mem_of_getElem? (i := 61) rfl)) (hg42 _ _) rfl ?_
          refine R_p d148_79 rfl rfl ?_
          obtain ⟨c5, h⟩ := rdI_some h
          refine R_ild d148_81 (hg50 _ _) c5 ?_
          refine R_ic (v := 1) d148_82 (by decide) ?_
          refine R_p d148_83 rfl rfl ?_
          refine R_p d148_84 rfl rfl ?_
          refine R_get d148_85 (Or.inl (List.mem_of_getElem? (i := 61) rfl)) (hg42 _ _) rfl ?_
          refine R_p d148_88 rfl rfl ?_
          obtain ⟨c6, h⟩ := rdI_some h
          refine R_ild d148_89 (hg50 _ _) c6 ?_
          rcases ite_some h with ⟨c7, h⟩ | ⟨c7, h⟩
          · refine R_br 110 d148_90 (mb_t (b := ((s.1 50 (Int32.toNatClampNeg v3)) ≤ ((s.1 50 (Int32.toNatClampNeg q2)) + (1 : Int32)))) c7) rfl ?_
            refine R_p (ls' := [(0, .ref 42), (1, .int v1), (2, .int v2), (3, .int v3), (4, .int (v4 + Int32.ofInt 1)), (5, .int q2)]) d148_110 rfl rfl ?_
            refine R_br 55 d148_113 rfl rfl ?_
            exact R_wk [(0, .ref 42), (1, .int v1), (2, .int v2), (3, .int v3), (4, .int (v4 + Int32.ofInt 1))] (by simp) (ih.2.2.2 v1 v2 v3 (v4 + Int32.ofInt 1) s _ h)
          · refine R_nb d148_90 rfl (mb_f (b := ((s.1 50 (Int32.toNatClampNeg v3)) ≤ ((s.1 50 (Int32.toNatClampNeg q2)) + (1 : Int32)))) c7) ?_
            refine R_p d148_93 rfl rfl ?_
            refine R_get d148_94 (Or.inl (List.mem_of_getElem? (i := 61) rfl)) (hg42 _ _) rfl ?_
            refine R_p d148_97 rfl rfl ?_
            refine R_p d148_98 rfl rfl ?_
            refine R_get d148_99 (Or.inl (List.mem_of_getElem? (i := 61) rfl)) (hg42 _ _) rfl ?_
            refine R_p d148_102 rfl rfl ?_
            obtain ⟨c8, h⟩ := rdI_some h
            refine R_ild d148_104 (hg50 _ _) c8 ?_
            refine R_ic (v := 1) d148_105 (by decide) ?_
            refine R_p d148_106 rfl rfl ?_
            obtain ⟨c9, h⟩ := rdI_some h
            obtain ⟨s10, e11, h⟩ := pt_some h
            refine R_ist d148_107 (hg50 _ _) c9 ?_
            refine R_h (hp s10 ex) (by rw [e11]; exact hA50 _ _ _) ?_
            refine R_ic (v := 1) d148_108 (by decide) ?_
            refine R_p (ls' := [(0, .ref 42), (1, .int v1), (2, .int 1), (3, .int v3), (4, .int v4), (5, .int q2)]) d148_109 rfl rfl ?_
            refine R_p (ls' := [(0, .ref 42), (1, .int v1), (2, .int 1), (3, .int v3), (4, .int (v4 + Int32.ofInt 1)), (5, .int q2)]) d148_110 rfl rfl ?_
            refine R_br 55 d148_113 rfl rfl ?_
            exact R_wk [(0, .ref 42), (1, .int v1), (2, .int 1), (3, .int v3), (4, .int (v4 + Int32.ofInt 1))] (by simp) (ih.2.2.2 v1 1 v3 (v4 + Int32.ofInt 1) s10 _ h)
def f148 (k : Nat) (v1 : Int32) (s : mS) : Option (mS) :=
  r148 k 0 v1 0 0 0 s
theorem t_f148 {S : mE} {ex : mHp} {k : Nat} {v1 : Int32} {s : mS} {r : mS} (h : f148 k v1 s = some r) : Run S 148 (0, [(0, .ref 42), (1, .int v1)], [], hp s ex) (.inl none, hp r ex) := by
  unfold f148 at h
  refine R_ic (v := 0) d148_0 (by decide) ?_
  refine R_p (ls' := [(0, .ref 42), (1, .int v1), (2, .int 0)]) d148_1 rfl rfl ?_
  exact (s148 (S := S) (ex := ex) k).1 v1 0 0 0 s _ h
def r150 : Nat → Int32 → Int32 → Int32 → mS → Option (mS)
  | 0, _, _, _, _ => none
  | k + 1, v1, v2, v3, s =>
    (if ((3 : Int32) ≤ v3) then
        rdI 100 (s.2.2.1 18) (pt (uA 48 (upd (s.1 48) (Int32.toNatClampNeg (s.2.2.1 18)) v2) s) fun s3 => pt (uF 18 ((s3.2.2.1 18) + (1 : Int32)) s3) fun s5 => some s5)
      else
        (f149 k v1 v3 s).bind fun q7 => (if (q7 < (0 : Int32)) then
          r150 k v1 v2 (v3 + Int32.ofInt 1) s
        else
          rdI 100 q7 (rdI 100 v1 ((if (¬ (s.1 50 (Int32.toNatClampNeg q7)) = ((s.1 50 (Int32.toNatClampNeg v1)) - (1 : Int32))) then
            r150 k v1 v2 (v3 + Int32.ofInt 1) s
          else
            (if (v2 ≤ q7) then
              r150 k v1 v2 (v3 + Int32.ofInt 1) s
            else
              rdI 300 (((3 : Int32) * v1) + v3) (rdI 100 ((s.2.2.1 18) - (1 : Int32)) (pt (uA 52 (upd (s.1 52) (Int32.toNatClampNeg ((s.2.2.1 18) - (1 : Int32))) (s.1 47 (Int32.toNatClampNeg (((3 : Int32) * v1) + v3)))) s) fun s16 => rdI 300 (((3 : Int32) * v1) + ((v3 + (1 : Int32)) - (v3 + (1 : Int32)) / (3 : Int32) * (3 : Int32))) (rdI 100 ((s16.2.2.1 18) - (1 : Int32)) (pt (uA 51 (upd (s16.1 51) (Int32.toNatClampNeg ((s16.2.2.1 18) - (1 : Int32))) (s16.1 47 (Int32.toNatClampNeg (((3 : Int32) * v1) + ((v3 + (1 : Int32)) - (v3 + (1 : Int32)) / (3 : Int32) * (3 : Int32)))))) s16) fun s20 => r150 k v1 q7 (v3 + Int32.ofInt 1) s20))))))))))
theorem s150 {S : mE} {ex : mHp} (k : Nat) : (∀ (v1 : Int32) (v2 : Int32) (v3 : Int32) (s : mS) (r : mS), r150 k v1 v2 v3 s = some r → Run S 150 (6, [(0, .ref 42), (1, .int v1), (2, .int v2), (3, .int v3)], [], hp s ex) (.inl none, hp r ex)) := by
  induction k with
  | zero => intro v1 v2 v3 s r h; cases h
  | succ k ih =>
    intro v1 v2 v3 s r h
    rw [r150] at h
    refine R_p d150_6 rfl rfl ?_
    refine R_ic (v := 3) d150_7 (by decide) ?_
    rcases ite_some h with ⟨c1, h⟩ | ⟨c1, h⟩
    · refine R_br 103 d150_8 (mb_t (b := ((3 : Int32) ≤ v3)) c1) rfl ?_
      refine R_p d150_103 rfl rfl ?_
      refine R_get d150_104 (Or.inl (List.mem_of_getElem? (i := 58) rfl)) (hg42 _ _) rfl ?_
      refine R_p d150_107 rfl rfl ?_
      refine R_get d150_108 (Or.inl (List.mem_of_getElem? (i := 57) rfl)) (hg42 _ _) rfl ?_
      refine R_p d150_111 rfl rfl ?_
      obtain ⟨c2, h⟩ := rdI_some h
      obtain ⟨s3, e4, h⟩ := pt_some h
      refine R_ist d150_112 (hg48 _ _) c2 ?_
      refine R_h (hp s3 ex) (by rw [e4]; exact hA48 _ _ _) ?_
      refine R_p d150_113 rfl rfl ?_
      refine R_p d150_114 rfl rfl ?_
      refine R_get d150_115 (Or.inl (List.mem_of_getElem? (i := 57) rfl)) (hg42 _ _) rfl ?_
      refine R_ic (v := 1) d150_118 (by decide) ?_
      refine R_p d150_119 rfl rfl ?_
      obtain ⟨s5, e6, h⟩ := pt_some h
      refine R_put d150_120 (List.mem_of_getElem? (i := 57) rfl) (hg42 _ _) (Nat.le_of_ble_eq_true rfl) rfl rfl (Or.inl rfl) ?_
      refine R_h (hp s5 ex) (by rw [e6]; exact hF18 _ _ _) ?_
      cases h
      exact R_vret d150_123 rfl rfl
    · refine R_nb d150_8 rfl (mb_f (b := ((3 : Int32) ≤ v3)) c1) ?_
      refine R_p d150_11 rfl rfl ?_
      refine R_p d150_12 rfl rfl ?_
      refine R_p d150_13 rfl rfl ?_
      obtain ⟨q7, e8, h⟩ := bd_some h
      refine R_cm [.int v1, .int v3] d150_14 (List.mem_of_getElem? (i := 196) rfl) rfl ⟨by decide, by decide, Nat.le_of_ble_eq_true rfl, rfl, mcd149⟩ rfl rfl (Nat.le_of_ble_eq_true rfl) (hg42 _ _) rfl (t_f149 e8) ?_
      refine R_p (ls' := [(0, .ref 42), (1, .int v1), (2, .int v2), (3, .int v3), (4, .int q7)]) d150_17 rfl rfl ?_
      refine R_p d150_19 rfl rfl ?_
      rcases ite_some h with ⟨c9, h⟩ | ⟨c9, h⟩
      · refine R_br 97 d150_21 (mb_t (b := (q7 < (0 : Int32))) c9) rfl ?_
        refine R_p (ls' := [(0, .ref 42), (1, .int v1), (2, .int v2), (3, .int (v3 + Int32.ofInt 1)), (4, .int q7)]) d150_97 rfl rfl ?_
        refine R_br 6 d150_100 rfl rfl ?_
        exact R_wk [(0, .ref 42), (1, .int v1), (2, .int v2), (3, .int (v3 + Int32.ofInt 1))] (by simp) (ih v1 v2 (v3 + Int32.ofInt 1) s _ h)
      · refine R_nb d150_21 rfl (mb_f (b := (q7 < (0 : Int32))) c9) ?_
        refine R_p d150_24 rfl rfl ?_
        refine R_get d150_25 (Or.inl (List.mem_of_getElem? (i := 61) rfl)) (hg42 _ _) rfl ?_
        refine R_p d150_28 rfl rfl ?_
        obtain ⟨c10, h⟩ := rdI_some h
        refine R_ild d150_30 (hg50 _ _) c10 ?_
        refine R_p d150_31 rfl rfl ?_
        refine R_get d150_32 (Or.inl (List.mem_of_getElem? (i := 61) rfl)) (hg42 _ _) rfl ?_
        refine R_p d150_35 rfl rfl ?_
        obtain ⟨c11, h⟩ := rdI_some h
        refine R_ild d150_36 (hg50 _ _) c11 ?_
        refine R_ic (v := 1) d150_37 (by decide) ?_
        refine R_p d150_38 rfl rfl ?_
        rcases ite_some h with ⟨c12, h⟩ | ⟨c12, h⟩
        · refine R_br 97 d150_39 (mb_t (b := (¬ (s.1 50 (Int32.toNatClampNeg q7)) = ((s.1 50 (Int32.toNatClampNeg v1)) - (1 : Int32)))) c12) rfl ?_
          refine R_p (ls' := [(0, .ref 42), (1, .int v1), (2, .int v2), (3, .int (v3 + Int32.ofInt 1)), (4, .int q7)]) d150_97 rfl rfl ?_
          refine R_br 6 d150_100 rfl rfl ?_
          exact R_wk [(0, .ref 42), (1, .int v1), (2, .int v2), (3, .int (v3 + Int32.ofInt 1))] (by simp) (ih v1 v2 (v3 + Int32.ofInt 1) s _ h)
        · refine R_nb d150_39 rfl (mb_f (b := (¬ (s.1 50 (Int32.toNatClampNeg q7)) = ((s.1 50 (Int32.toNatClampNeg v1)) - (1 : Int32)))) c12) ?_
          refine R_p d150_42 rfl rfl ?_
          refine R_p d150_44 rfl rfl ?_
          rcases ite_some h with ⟨c13, h⟩ | ⟨c13, h⟩
          · refine R_br 97 d150_45 (mb_t (b := (v2 ≤ q7)) c13) rfl ?_
            refine R_p (ls' := [(0, .ref 42), (1, .int v1), (2, .int v2), (3, .int (v3 + Int32.ofInt 1)), (4, .int q7)]) d150_97 rfl rfl ?_
            refine R_br 6 d150_100 rfl rfl ?_
            exact R_wk [(0, .ref 42), (1, .int v1), (2, .int v2), (3, .int (v3 + Int32.ofInt 1))] (by simp) (ih v1 v2 (v3 + Int32.ofInt 1) s _ h)
          · refine R_nb d150_45 rfl (mb_f (b := (v2 ≤ q7)) c13) ?_
            refine R_p d150_48 rfl rfl ?_
            refine R_p (ls' := [(0, .ref 42), (1, .int v1), (2, .int q7), (3, .int v3), (4, .int q7)]) d150_50 rfl rfl ?_
            refine R_p d150_51 rfl rfl ?_
            refine R_get d150_52 (Or.inl (List.mem_of_getElem? (i := 63) rfl)) (hg42 _ _) rfl ?_
            refine R_p d150_55 rfl rfl ?_
            refine R_get d150_56 (Or.inl (List.mem_of_getElem? (i := 57) rfl)) (hg42 _ _) rfl ?_
            refine R_ic (v := 1) d150_59 (by decide) ?_
            refine R_p d150_60 rfl rfl ?_
            refine R_p d150_61 rfl rfl ?_
            refine R_get d150_62 (Or.inl (List.mem_of_getElem? (i := 56) rfl)) (hg42 _ _) rfl ?_
            refine R_ic (v := 3) d150_65 (by decide) ?_
            refine R_p d150_66 rfl rfl ?_
            refine R_p d150_67 rfl rfl ?_
            refine R_p d150_68 rfl rfl ?_
            refine R_p d150_69 rfl rfl ?_
            obtain ⟨c14, h⟩ := rdI_some h
            refine R_ild d150_70 (hg47 _ _) c14 ?_
            obtain ⟨c15, h⟩ := rdI_some h
            obtain ⟨s16, e17, h⟩ := pt_some h
            refine R_ist d150_71 (hg52 _ _) c15 ?_
            refine R_h (hp s16 ex) (by rw [e17]; exact hA52 _ _ _) ?_
            refine R_p d150_72 rfl rfl ?_
            refine R_get d150_73 (Or.inl (List.mem_of_getElem? (i := 62) rfl)) (hg42 _ _) rfl ?_
            refine R_p d150_76 rfl rfl ?_
            refine R_get d150_77 (Or.inl (List.mem_of_getElem? (i := 57) rfl)) (hg42 _ _) rfl ?_
            refine R_ic (v := 1) d150_80 (by decide) ?_
            refine R_p d150_81 rfl rfl ?_
            refine R_p d150_82 rfl rfl ?_
            refine R_get d150_83 (Or.inl (List.mem_of_getElem? (i := 56) rfl)) (hg42 _ _) rfl ?_
            refine R_ic (v := 3) d150_86 (by decide) ?_
            refine R_p d150_87 rfl rfl ?_
            refine R_p d150_88 rfl rfl ?_
            refine R_p d150_89 rfl rfl ?_
            refine R_ic (v := 1) d150_90 (by decide) ?_
            refine R_p d150_91 rfl rfl ?_
            refine R_ic (v := 3) d150_92 (by decide) ?_
            refine R_p d150_93 rfl rfl ?_
            refine R_p d150_94 rfl rfl ?_
            obtain ⟨c18, h⟩ := rdI_some h
            refine R_ild d150_95 (hg47 _ _) c18 ?_
            obtain ⟨c19, h⟩ := rdI_some h
            obtain ⟨s20, e21, h⟩ := pt_some h
            refine R_ist d150_96 (hg51 _ _) c19 ?_
            refine R_h (hp s20 ex) (by rw [e21]; exact hA51 _ _ _) ?_
            refine R_p (ls' := [(0, .ref 42), (1, .int v1), (2, .int q7), (3, .int (v3 + Int32.ofInt 1)), (4, .int q7)]) d150_97 rfl rfl ?_
            refine R_br 6 d150_100 rfl rfl ?_
            exact R_wk [(0, .ref 42), (1, .int v1), (2, .int q7), (3, .int (v3 + Int32.ofInt 1))] (by simp) (ih v1 q7 (v3 + Int32.ofInt 1) s20 _ h)
def f150 (k : Nat) (v1 : Int32) (s : mS) : Option (mS) :=
  r150 k v1 1000 0 s
theorem t_f150 {S : mE} {ex : mHp} {k : Nat} {v1 : Int32} {s : mS} {r : mS} (h : f150 k v1 s = some r) : Run S 150 (0, [(0, .ref 42), (1, .int v1)], [], hp s ex) (.inl none, hp r ex) := by
  unfold f150 at h
  refine R_si (v := 1000) d150_0 (by decide) ?_
  refine R_p (ls' := [(0, .ref 42), (1, .int v1), (2, .int 1000)]) d150_3 rfl rfl ?_
  refine R_ic (v := 0) d150_4 (by decide) ?_
  refine R_p (ls' := [(0, .ref 42), (1, .int v1), (2, .int 1000), (3, .int 0)]) d150_5 rfl rfl ?_
  exact s150 (S := S) (ex := ex) k v1 1000 0 s _ h
def r151 : Nat → Nat → Int32 → Int32 → Int32 → Int32 → Int32 → Int32 → Int32 → Int32 → Int32 → Int32 → mS → Option (mS)
  | 0, _, _, _, _, _, _, _, _, _, _, _, _ => none
  | k + 1, hd, v1, v2, v3, v4, v5, v6, v7, v8, v9, v10, s =>
    if hd = 0 then (if (v4 = (0 : Int32)) then
        some s
      else
        r151 k 1 v1 v2 v3 v4 v3 0 0 0 0 0 s) else
    if hd = 1 then (if (v1 ≤ v5) then
        rdI 100 v5 (rdI 100 v5 (r151 k 2 v1 v2 v3 v4 (v5 + Int32.ofInt 1) (s.1 51 (Int32.toNatClampNeg v5)) (s.1 52 (Int32.toNatClampNeg v5)) v5 v5 (-1) s))
      else
        rdI 100 v5 (rdI 100 v5 ((f118 (s.1 51 (Int32.toNatClampNeg v5)) (s.1 52 (Int32.toNatClampNeg v5)) v2 s).bind fun q6 => (if (q6 = (0 : Int32)) then
          rdI 100 v5 (rdI 100 v5 (r151 k 2 v1 v2 v3 v4 (v5 + Int32.ofInt 1) (s.1 51 (Int32.toNatClampNeg v5)) (s.1 52 (Int32.toNatClampNeg v5)) v5 v5 (-1) s))
        else
          r151 k 1 v1 v2 v3 v4 (v5 + Int32.ofInt 1) 0 0 0 0 0 s)))) else
    (if (v1 < v5) then
        (if (v10 < (0 : Int32)) then
          r151 k 0 v1 v2 v3 0 0 0 0 0 0 0 s
        else
          rdI 100 (s.2.2.1 19) (pt (uA 49 (upd (s.1 49) (Int32.toNatClampNeg (s.2.2.1 19)) v10) s) fun s4 => pt (uF 19 ((s4.2.2.1 19) + (1 : Int32)) s4) fun s6 => r151 k 0 v1 v10 v3 1 0 0 0 0 0 0 s6))
      else
        (if ((0 : Int32) ≤ v10) then
          (if (v10 < (0 : Int32)) then
            r151 k 0 v1 v2 v3 0 0 0 0 0 0 0 s
          else
            rdI 100 (s.2.2.1 19) (pt (uA 49 (upd (s.1 49) (Int32.toNatClampNeg (s.2.2.1 19)) v10) s) fun s11 => pt (uF 19 ((s11.2.2.1 19) + (1 : Int32)) s11) fun s13 => r151 k 0 v1 v10 v3 1 0 0 0 0 0 0 s13))
        else
          rdI 100 v5 (rdI 100 v5 ((f119 v2 v7 (s.1 51 (Int32.toNatClampNeg v5)) s).bind fun q17 => (if ((0 : Int32) ≤ q17) then
            (f119 v2 v6 (s.1 52 (Int32.toNatClampNeg v5)) s).bind fun q20 => (if (q20 ≤ (0 : Int32)) then
              (f119 v2 v6 (s.1 51 (Int32.toNatClampNeg v5)) s).bind fun q23 => (if ((0 : Int32) < q23) then
                (f119 v2 v7 (s.1 52 (Int32.toNatClampNeg v5)) s).bind fun q26 => (if (q26 < (0 : Int32)) then
                  r151 k 2 v1 v2 v3 v4 (v5 + Int32.ofInt 1) v6 v7 v8 v9 v10 s
                else
                  r151 k 2 v1 v2 v3 v4 (v5 + Int32.ofInt 1) v6 (s.1 52 (Int32.toNatClampNeg v5)) v8 v5 v10 s)
              else
                (f119 v2 v7 (s.1 52 (Int32.toNatClampNeg v5)) s).bind fun q29 => (if (q29 < (0 : Int32)) then
                  r151 k 2 v1 v2 v3 v4 (v5 + Int32.ofInt 1) (s.1 51 (Int32.toNatClampNeg v5)) v7 v5 v9 v10 s
                else
                  r151 k 2 v1 v2 v3 v4 (v5 + Int32.ofInt 1) (s.1 51 (Int32.toNatClampNeg v5)) (s.1 52 (Int32.toNatClampNeg v5)) v5 v5 v10 s))
            else
              r151 k 2 v1 v2 v8 v4 (v5 + Int32.ofInt 1) v6 v7 v8 v9 v6 s)
          else
            r151 k 2 v1 v2 v9 v4 (v5 + Int32.ofInt 1) v6 v7 v8 v9 v7 s)))))
theorem s151 {S : mE} {ex : mHp} (k : Nat) : (∀ (v1 : Int32) (v2 : Int32) (v3 : Int32) (v4 : Int32) (v5 : Int32) (v6 : Int32) (v7 : Int32) (v8 : Int32) (v9 : Int32) (v10 : Int32) (s : mS) (r : mS), r151 k 0 v1 v2 v3 v4 v5 v6 v7 v8 v9 v10 s = some r → Run S 151 (36, [(0, .ref 42), (1, .int v1), (2, .int v2), (3, .int v3), (4, .int v4)], [], hp s ex) (.inl none, hp r ex)) ∧ (∀ (v1 : Int32) (v2 : Int32) (v3 : Int32) (v4 : Int32) (v5 : Int32) (v6 : Int32) (v7 : Int32) (v8 : Int32) (v9 : Int32) (v10 : Int32) (s : mS) (r : mS), r151 k 1 v1 v2 v3 v4 v5 v6 v7 v8 v9 v10 s = some r → Run S 151 (44, [(0, .ref 42), (1, .int v1), (2, .int v2), (3, .int v3), (4, .int v4), (5, .int v5)], [], hp s ex) (.inl none, hp r ex)) ∧ (∀ (v1 : Int32) (v2 : Int32) (v3 : Int32) (v4 : Int32) (v5 : Int32) (v6 : Int32) (v7 : Int32) (v8 : Int32) (v9 : Int32) (v10 : Int32) (s : mS) (r : mS), r151 k 2 v1 v2 v3 v4 v5 v6 v7 v8 v9 v10 s = some r → Run S 151 (110, [(0, .ref 42), (1, .int v1), (2, .int v2), (3, .int v3), (4, .int v4), (5, .int v5), (6, .int v6), (7, .int v7), (8, .int v8), (9, .int v9), (10, .int v10)], [], hp s ex) (.inl none, hp r ex)) := by
  induction k with
  | zero => refine ⟨?_, ?_, ?_⟩ <;> (intro v1 v2 v3 v4 v5 v6 v7 v8 v9 v10 s r h; cases h)
  | succ k ih =>
    refine ⟨?_, ?_, ?_⟩
    · intro v1 v2 v3 v4 v5 v6 v7 v8 v9 v10 s r h
      rw [r151, if_pos rfl] at h
      refine R_p d151_36 rfl rfl ?_
      rcases ite_some h with ⟨c1, h⟩ | ⟨c1, h⟩
      · refine R_br 273 d151_38 (mb_t (b := (v4 = (0 : Int32))) c1) rfl ?_
        cases h
        exact R_vret d151_273 rfl rfl
      · refine R_nb d151_38 rfl (mb_f (b := (v4 = (0 : Int32))) c1) ?_
        refine R_p d151_41 rfl rfl ?_
        refine R_p (ls' := [(0, .ref 42), (1, .int v1), (2, .int v2), (3, .int v3), (4, .int v4), (5, .int v3)]) d151_42 rfl rfl ?_
        exact ih.2.1 v1 v2 v3 v4 v3 0 0 0 0 0 s _ h
    · intro v1 v2 v3 v4 v5 v6 v7 v8 v9 v10 s r h
      rw [r151, if_neg (by decide), if_pos rfl] at h
      refine R_p d151_44 rfl rfl ?_
      refine R_p d151_46 rfl rfl ?_
      rcases ite_some h with ⟨c1, h⟩ | ⟨c1, h⟩
      · refine R_br 78 d151_47 (mb_t (b := (v1 ≤ v5)) c1) rfl ?_
        refine R_p d151_78 rfl rfl ?_
        refine R_get d151_79 (Or.inl (List.mem_of_getElem? (i := 62) rfl)) (hg42 _ _) rfl ?_
        refine R_p d151_82 rfl rfl ?_
        obtain ⟨c2, h⟩ := rdI_some h
        refine R_ild d151_84 (hg51 _ _) c2 ?_
        refine R_p (ls' := [(0, .ref 42), (1, .int v1), (2, .int v2), (3, .int v3), (4, .int v4), (5, .int v5), (6, .int (s.1 51 (Int32.toNatClampNeg v5)))]) d151_85 rfl rfl ?_
        refine R_p d151_87 rfl rfl ?_
        refine R_get d151_88 (Or.inl (List.mem_of_getElem? (i := 63) rfl)) (hg42 _ _) rfl ?_
        refine R_p d151_91 rfl rfl ?_
        obtain ⟨c3, h⟩ := rdI_some h
        refine R_ild d151_93 (hg52 _ _) c3 ?_
        refine R_p (ls' := [(0, .ref 42), (1, .int v1), (2, .int v2), (3, .int v3), (4, .int v4), (5, .int v5), (6, .int (s.1 51 (Int32.toNatClampNeg v5))), (7, .int (s.1 52 (Int32.toNatClampNeg v5)))]) d151_94 rfl rfl ?_
        refine R_p d151_96 rfl rfl ?_
        refine R_p (ls' := [(0, .ref 42), (1, .int v1), (2, .int v2), (3, .int v3), (4, .int v4), (5, .int v5), (6, .int (s.1 51 (Int32.toNatClampNeg v5))), (7, .int (s.1 52 (Int32.toNatClampNeg v5))), (8, .int v5)]) d151_98 rfl rfl ?_
        refine R_p d151_100 rfl rfl ?_
        refine R_p (ls' := [(0, .ref 42), (1, .int v1), (2, .int v2), (3, .int v3), (4, .int v4), (5, .int v5), (6, .int (s.1 51 (Int32.toNatClampNeg v5))), (7, .int (s.1 52 (Int32.toNatClampNeg v5))), (8, .int v5), (9, .int v5)]) d151_102 rfl rfl ?_
        refine R_ic (v := (-1)) d151_104 (by decide) ?_
        refine R_p (ls' := [(0, .ref 42), (1, .int v1), (2, .int v2), (3, .int v3), (4, .int v4), (5, .int v5), (6, .int (s.1 51 (Int32.toNatClampNeg v5))), (7, .int (s.1 52 (Int32.toNatClampNeg v5))), (8, .int v5), (9, .int v5), (10, .int (-1))]) d151_105 rfl rfl ?_
        refine R_p (ls' := [(0, .ref 42), (1, .int v1), (2, .int v2), (3, .int v3), (4, .int v4), (5, .int (v5 + Int32.ofInt 1)), (6, .int (s.1 51 (Int32.toNatClampNeg v5))), (7, .int (s.1 52 (Int32.toNatClampNeg v5))), (8, .int v5), (9, .int v5), (10, .int (-1))]) d151_107 rfl rfl ?_
        exact ih.2.2 v1 v2 v3 v4 (v5 + Int32.ofInt 1) (s.1 51 (Int32.toNatClampNeg v5)) (s.1 52 (Int32.toNatClampNeg v5)) v5 v5 (-1) s _ h
      · refine R_nb d151_47 rfl (mb_f (b := (v1 ≤ v5)) c1) ?_
        refine R_p d151_50 rfl rfl ?_
        refine R_p d151_51 rfl rfl ?_
        refine R_get d151_52 (Or.inl (List.mem_of_getElem? (i := 62) rfl)) (hg42 _ _) rfl ?_
        refine R_p d151_55 rfl rfl ?_
        obtain ⟨c4, h⟩ := rdI_some h
        refine R_ild d151_57 (hg51 _ _) c4 ?_
        refine R_p d151_58 rfl rfl ?_
        refine R_get d151_59 (Or.inl (List.mem_of_getElem? (i := 63) rfl)) (hg42 _ _) rfl ?_
        refine R_p d151_62 rfl rfl ?_
        obtain ⟨c5, h⟩ := rdI_some h
        refine R_ild d151_64 (hg52 _ _) c5 ?_
        refine R_p d151_65 rfl rfl ?_
        obtain ⟨q6, e7, h⟩ := bd_some h
        refine R_cm [.int (s.1 51 (Int32.toNatClampNeg v5)), .int (s.1 52 (Int32.toNatClampNeg v5)), .int v2] d151_66 (List.mem_of_getElem? (i := 165) rfl) rfl ⟨by decide, by decide, Nat.le_of_ble_eq_true rfl, rfl, mcd118⟩ rfl rfl (Nat.le_of_ble_eq_true rfl) (hg42 _ _) rfl (t_f118 e7) ?_
        rcases ite_some h with ⟨c8, h⟩ | ⟨c8, h⟩
        · refine R_br 78 d151_69 (mb_t (b := (q6 = (0 : Int32))) c8) rfl ?_
          refine R_p d151_78 rfl rfl ?_
          refine R_get d151_79 (Or.inl (List.mem_of_getElem? (i := 62) rfl)) (hg42 _ _) rfl ?_
          refine R_p d151_82 rfl rfl ?_
          obtain ⟨c9, h⟩ := rdI_some h
          refine R_ild d151_84 (hg51 _ _) c9 ?_
          refine R_p (ls' := [(0, .ref 42), (1, .int v1), (2, .int v2), (3, .int v3), (4, .int v4), (5, .int v5), (6, .int (s.1 51 (Int32.toNatClampNeg v5)))]) d151_85 rfl rfl ?_
          refine R_p d151_87 rfl rfl ?_
          refine R_get d151_88 (Or.inl (List.mem_of_getElem? (i := 63) rfl)) (hg42 _ _) rfl ?_
          refine R_p d151_91 rfl rfl ?_
          obtain ⟨c10, h⟩ := rdI_some h
          refine R_ild d151_93 (hg52 _ _) c10 ?_
          refine R_p (ls' := [(0, .ref 42), (1, .int v1), (2, .int v2), (3, .int v3), (4, .int v4), (5, .int v5), (6, .int (s.1 51 (Int32.toNatClampNeg v5))), (7, .int (s.1 52 (Int32.toNatClampNeg v5)))]) d151_94 rfl rfl ?_
          refine R_p d151_96 rfl rfl ?_
          refine R_p (ls' := [(0, .ref 42), (1, .int v1), (2, .int v2), (3, .int v3), (4, .int v4), (5, .int v5), (6, .int (s.1 51 (Int32.toNatClampNeg v5))), (7, .int (s.1 52 (Int32.toNatClampNeg v5))), (8, .int v5)]) d151_98 rfl rfl ?_
          refine R_p d151_100 rfl rfl ?_
          refine R_p (ls' := [(0, .ref 42), (1, .int v1), (2, .int v2), (3, .int v3), (4, .int v4), (5, .int v5), (6, .int (s.1 51 (Int32.toNatClampNeg v5))), (7, .int (s.1 52 (Int32.toNatClampNeg v5))), (8, .int v5), (9, .int v5)]) d151_102 rfl rfl ?_
          refine R_ic (v := (-1)) d151_104 (by decide) ?_
          refine R_p (ls' := [(0, .ref 42), (1, .int v1), (2, .int v2), (3, .int v3), (4, .int v4), (5, .int v5), (6, .int (s.1 51 (Int32.toNatClampNeg v5))), (7, .int (s.1 52 (Int32.toNatClampNeg v5))), (8, .int v5), (9, .int v5), (10, .int (-1))]) d151_105 rfl rfl ?_
          refine R_p (ls' := [(0, .ref 42), (1, .int v1), (2, .int v2), (3, .int v3), (4, .int v4), (5, .int (v5 + Int32.ofInt 1)), (6, .int (s.1 51 (Int32.toNatClampNeg v5))), (7, .int (s.1 52 (Int32.toNatClampNeg v5))), (8, .int v5), (9, .int v5), (10, .int (-1))]) d151_107 rfl rfl ?_
          exact ih.2.2 v1 v2 v3 v4 (v5 + Int32.ofInt 1) (s.1 51 (Int32.toNatClampNeg v5)) (s.1 52 (Int32.toNatClampNeg v5)) v5 v5 (-1) s _ h
        · refine R_nb d151_69 rfl (mb_f (b := (q6 = (0 : Int32))) c8) ?_
          refine R_p (ls' := [(0, .ref 42), (1, .int v1), (2, .int v2), (3, .int v3), (4, .int v4), (5, .int (v5 + Int32.ofInt 1))]) d151_72 rfl rfl ?_
          refine R_br 44 d151_75 rfl rfl ?_
          exact ih.2.1 v1 v2 v3 v4 (v5 + Int32.ofInt 1) 0 0 0 0 0 s _ h
    · intro v1 v2 v3 v4 v5 v6 v7 v8 v9 v10 s r h
      rw [r151, if_neg (by decide), if_neg (by decide)] at h
      refine R_p d151_110 rfl rfl ?_
      refine R_p d151_112 rfl rfl ?_
      rcases ite_some h with ⟨c1, h⟩ | ⟨c1, h⟩
      · refine R_br 229 d151_113 (mb_t (b := (v1 < v5)) c1) rfl ?_
        refine R_p d151_229 rfl rfl ?_
        rcases ite_some h with ⟨c2, h⟩ | ⟨c2, h⟩
        · refine R_br 238 d151_231 (mb_t (b := (v10 < (0 : Int32))) c2) rfl ?_
          refine R_ic (v := 0) d151_238 (by decide) ?_
          refine R_p (ls' := [(0, .ref 42), (1, .int v1), (2, .int v2), (3, .int v3), (4, .int 0), (5, .int v5), (6, .int v6), (7, .int v7), (8, .int v8), (9, .int v9), (10, .int v10)]) d151_239 rfl rfl ?_
          refine R_p d151_241 rfl rfl ?_
          refine R_br 270 d151_243 (mb_t (b := ((0 : Int32) = (0 : Int32))) (by decide)) rfl ?_
          refine R_br 36 d151_270 rfl rfl ?_
          exact R_wk [(0, .ref 42), (1, .int v1), (2, .int v2), (3, .int v3), (4, .int 0)] (by simp) (ih.1 v1 v2 v3 0 0 0 0 0 0 0 s _ h)
        · refine R_nb d151_231 rfl (mb_f (b := (v10 < (0 : Int32))) c2) ?_
          refine R_ic (v := 1) d151_234 (by decide) ?_
          refine R_br 239 d151_235 rfl rfl ?_
          refine R_p (ls' := [(0, .ref 42), (1, .int v1), (2, .int v2), (3, .int v3), (4, .int 1), (5, .int v5), (6, .int v6), (7, .int v7), (8, .int v8), (9, .int v9), (10, .int v10)]) d151_239 rfl rfl ?_
          refine R_p d151_241 rfl rfl ?_
          refine R_nb d151_243 rfl (mb_f (b := ((1 : Int32) = (0 : Int32))) (by decide)) ?_
          refine R_p d151_246 rfl rfl ?_
          refine R_get d151_247 (Or.inl (List.mem_of_getElem? (i := 60) rfl)) (hg42 _ _) rfl ?_
          refine R_p d151_250 rfl rfl ?_
          refine R_get d151_251 (Or.inl (List.mem_of_getElem? (i := 59) rfl)) (hg42 _ _) rfl ?_
          refine R_p d151_254 rfl rfl ?_
          obtain ⟨c3, h⟩ := rdI_some h
          obtain ⟨s4, e5, h⟩ := pt_some h
          refine R_ist d151_256 (hg49 _ _) c3 ?_
          refine R_h (hp s4 ex) (by rw [e5]; exact hA49 _ _ _) ?_
          refine R_p d151_257 rfl rfl ?_
          refine R_p d151_258 rfl rfl ?_
          refine R_get d151_259 (Or.inl (List.mem_of_getElem? (i := 59) rfl)) (hg42 _ _) rfl ?_
          refine R_ic (v := 1) d151_262 (by decide) ?_
          refine R_p d151_263 rfl rfl ?_
          obtain ⟨s6, e7, h⟩ := pt_some h
          refine R_put d151_264 (List.mem_of_getElem? (i := 59) rfl) (hg42 _ _) (Nat.le_of_ble_eq_true rfl) rfl rfl (Or.inl rfl) ?_
          refine R_h (hp s6 ex) (by rw [e7]; exact hF19 _ _ _) ?_
          refine R_p d151_267 rfl rfl ?_
          refine R_p (ls' := [(0, .ref 42), (1, .int v1), (2, .int v10), (3, .int v3), (4, .int 1), (5, .int v5), (6, .int v6), (7, .int v7), (8, .int v8), (9, .int v9), (10, .int v10)]) d151_269 rfl rfl ?_
          refine R_br 36 d151_270 rfl rfl ?_
          exact R_wk [(0, .ref 42), (1, .int v1), (2, .int v10), (3, .int v3), (4, .int 1)] (by simp) (ih.1 v1 v10 v3 1 0 0 0 0 0 0 s6 _ h)
      · refine R_nb d151_113 rfl (mb_f (b := (v1 < v5)) c1) ?_
        refine R_p d151_116 rfl rfl ?_
        rcases ite_some h with ⟨c8, h⟩ | ⟨c8, h⟩
        · refine R_br 229 d151_118 (mb_t (b := ((0 : Int32) ≤ v10)) c8) rfl ?_
          refine R_p d151_229 rfl rfl ?_
          rcases ite_some h with ⟨c9, h⟩ | ⟨c9, h⟩
          · refine R_br 238 d151_231 (mb_t (b := (v10 < (0 : Int32))) c9) rfl ?_
            refine R_ic (v := 0) d151_238 (by decide) ?_
            refine R_p (ls' := [(0, .ref 42), (1, .int v1), (2, .int v2), (3, .int v3), (4, .int 0), (5, .int v5), (6, .int v6), (7, .int v7), (8, .int v8), (9, .int v9), (10, .int v10)]) d151_239 rfl rfl ?_
            refine R_p d151_241 rfl rfl ?_
            refine R_br 270 d151_243 (mb_t (b := ((0 : Int32) = (0 : Int32))) (by decide)) rfl ?_
            refine R_br 36 d151_270 rfl rfl ?_
            exact R_wk [(0, .ref 42), (1, .int v1), (2, .int v2), (3, .int v3), (4, .int 0)] (by simp) (ih.1 v1 v2 v3 0 0 0 0 0 0 0 s _ h)
          · refine R_nb d151_231 rfl (mb_f (b := (v10 < (0 : Int32))) c9) ?_
            refine R_ic (v := 1) d151_234 (by decide) ?_
            refine R_br 239 d151_235 rfl rfl ?_
            refine R_p (ls' := [(0, .ref 42), (1, .int v1), (2, .int v2), (3, .int v3), (4, .int 1), (5, .int v5), (6, .int v6), (7, .int v7), (8, .int v8), (9, .int v9), (10, .int v10)]) d151_239 rfl rfl ?_
            refine R_p d151_241 rfl rfl ?_
            refine R_nb d151_243 rfl (mb_f (b := ((1 : Int32) = (0 : Int32))) (by decide)) ?_
            refine R_p d151_246 rfl rfl ?_
            refine R_get d151_247 (Or.inl (List.mem_of_getElem? (i := 60) rfl)) (hg42 _ _) rfl ?_
            refine R_p d151_250 rfl rfl ?_
            refine R_get d151_251 (Or.inl (List.mem_of_getElem? (i := 59) rfl)) (hg42 _ _) rfl ?_
            refine R_p d151_254 rfl rfl ?_
            obtain ⟨c10, h⟩ := rdI_some h
            obtain ⟨s11, e12, h⟩ := pt_some h
            refine R_ist d151_256 (hg49 _ _) c10 ?_
            refine R_h (hp s11 ex) (by rw [e12]; exact hA49 _ _ _) ?_
            refine R_p d151_257 rfl rfl ?_
            refine R_p d151_258 rfl rfl ?_
            refine R_get d151_259 (Or.inl (List.mem_of_getElem? (i := 59) rfl)) (hg42 _ _) rfl ?_
            refine R_ic (v := 1) d151_262 (by decide) ?_
            refine R_p d151_263 rfl rfl ?_
            obtain ⟨s13, e14, h⟩ := pt_some h
            refine R_put d151_264 (List.mem_of_getElem? (i := 59) rfl) (hg42 _ _) (Nat.le_of_ble_eq_true rfl) rfl rfl (Or.inl rfl) ?_
            refine R_h (hp s13 ex) (by rw [e14]; exact hF19 _ _ _) ?_
            refine R_p d151_267 rfl rfl ?_
            refine R_p (ls' := [(0, .ref 42), (1, .int v1), (2, .int v10), (3, .int v3), (4, .int 1), (5, .int v5), (6, .int v6), (7, .int v7), (8, .int v8), (9, .int v9), (10, .int v10)]) d151_269 rfl rfl ?_
            refine R_br 36 d151_270 rfl rfl ?_
            exact R_wk [(0, .ref 42), (1, .int v1), (2, .int v10), (3, .int v3), (4, .int 1)] (by simp) (ih.1 v1 v10 v3 1 0 0 0 0 0 0 s13 _ h)
        · refine R_nb d151_118 rfl (mb_f (b := ((0 : Int32) ≤ v10)) c8) ?_
          refine R_p d151_121 rfl rfl ?_
          refine R_get d151_122 (Or.inl (List.mem_of_getElem? (i := 62) rfl)) (hg42 _ _) rfl ?_
          refine R_p d151_125 rfl rfl ?_
          obtain ⟨c15, h⟩ := rdI_some h
          refine R_ild d151_127 (hg51 _ _) c15 ?_
          refine R_p (ls' := [(0, .ref 42), (1, .int v1), (2, .int v2), (3, .int v3), (4, .int v4), (5, .int v5), (6, .int v6), (7, .int v7), (8, .int v8), (9, .int v9), (10, .int v10), (11, .int (s.1 51 (Int32.toNatClampNeg v5)))]) d151_128 rfl rfl ?_
          refine R_p d151_130 rfl rfl ?_
          refine R_get d151_131 (Or.inl (List.mem_of_getElem? (i := 63) rfl)) (hg42 _ _) rfl ?_
          refine R_p d151_134 rfl rfl ?_
          obtain ⟨c16, h⟩ := rdI_some h
          refine R_ild d151_136 (hg52 _ _) c16 ?_
          refine R_p (ls' := [(0, .ref 42), (1, .int v1), (2, .int v2), (3, .int v3), (4, .int v4), (5, .int v5), (6, .int v6), (7, .int v7), (8, .int v8), (9, .int v9), (10, .int v10), (11, .int (s.1 51 (Int32.toNatClampNeg v5))), (12, .int (s.1 52 (Int32.toNatClampNeg v5)))]) d151_137 rfl rfl ?_
          refine R_p d151_139 rfl rfl ?_
          refine R_p d151_140 rfl rfl ?_
          refine R_p d151_141 rfl rfl ?_
          refine R_p d151_143 rfl rfl ?_
          obtain ⟨q17, e18, h⟩ := bd_some h
          refine R_cm [.int v2, .int v7, .int (s.1 51 (Int32.toNatClampNeg v5))] d151_145 (List.mem_of_getElem? (i := 166) rfl) rfl ⟨by decide, by decide, Nat.le_of_ble_eq_true rfl, rfl, mcd119⟩ rfl rfl (Nat.le_of_ble_eq_true rfl) (hg42 _ _) rfl (t_f119 e18) ?_
          rcases ite_some h with ⟨c19, h⟩ | ⟨c19, h⟩
          · refine R_br 161 d151_148 (mb_t (b := ((0 : Int32) ≤ q17)) c19) rfl ?_
            refine R_p d151_161 rfl rfl ?_
            refine R_p d151_162 rfl rfl ?_
            refine R_p d151_163 rfl rfl ?_
            refine R_p d151_165 rfl rfl ?_
            obtain ⟨q20, e21, h⟩ := bd_some h
            refine R_cm [.int v2, .int v6, .int (s.1 52 (Int32.toNatClampNeg v5))] d151_167 (List.mem_of_getElem? (i := 166) rfl) rfl ⟨by decide, by decide, Nat.le_of_ble_eq_true rfl, rfl, mcd119⟩ rfl rfl (Nat.le_of_ble_eq_true rfl) (hg42 _ _) rfl (t_f119 e21) ?_
            rcases ite_some h with ⟨c22, h⟩ | ⟨c22, h⟩
            · refine R_br 183 d151_170 (mb_t (b := (q20 ≤ (0 : Int32))) c22) rfl ?_
              refine R_p d151_183 rfl rfl ?_
              refine R_p d151_184 rfl rfl ?_
              refine R_p d151_185 rfl rfl ?_
              refine R_p d151_187 rfl rfl ?_
              obtain ⟨q23, e24, h⟩ := bd_some h
              refine R_cm [.int v2, .int v6, .int (s.1 51 (Int32.toNatClampNeg v5))] d151_189 (List.mem_of_getElem? (i := 166) rfl) rfl ⟨by decide, by decide, Nat.le_of_ble_eq_true rfl, rfl, mcd119⟩ rfl rfl (Nat.le_of_ble_eq_true rfl) (hg42 _ _) rfl (t_f119 e24) ?_
              rcases ite_some h with ⟨c25, h⟩ | ⟨c25, h⟩
              · refine R_br 203 d151_192 (mb_t (b := ((0 : Int32) < q23)) c25) rfl ?_
                refine R_p d151_203 rfl rfl ?_
                refine R_p d151_204 rfl rfl ?_
                refine R_p d151_205 rfl rfl ?_
                refine R_p d151_207 rfl rfl ?_
                obtain ⟨q26, e27, h⟩ := bd_some h
                refine R_cm [.int v2, .int v7, .int (s.1 52 (Int32.toNatClampNeg v5))] d151_209 (List.mem_of_getElem? (i := 166) rfl) rfl ⟨by decide, by decide, Nat.le_of_ble_eq_true rfl, rfl, mcd119⟩ rfl rfl (Nat.le_of_ble_eq_true rfl) (hg42 _ _) rfl (t_f119 e27) ?_
                rcases ite_some h with ⟨c28, h⟩ | ⟨c28, h⟩
                · refine R_br 223 d151_212 (mb_t (b := (q26 < (0 : Int32))) c28) rfl ?_
                  refine R_p (ls' := [(0, .ref 42), (1, .int v1), (2, .int v2), (3, .int v3), (4, .int v4), (5, .int (v5 + Int32.ofInt 1)), (6, .int v6), (7, .int v7), (8, .int v8), (9, .int v9), (10, .int v10), (11, .int (s.1 51 (Int32.toNatClampNeg v5))), (12, .int (s.1 52 (Int32.toNatClampNeg v5)))]) d151_223 rfl rfl ?_
                  refine R_br 110 d151_226 rfl rfl ?_
                  exact R_wk [(0, .ref 42), (1, .int v1), (2, .int v2), (3, .int v3), (4, .int v4), (5, .int (v5 + Int32.ofInt 1)), (6, .int v6), (7, .int v7), (8, .int v8), (9, .int v9), (10, .int v10)] (by simp) (ih.2.2 v1 v2 v3 v4 (v5 + Int32.ofInt 1) v6 v7 v8 v9 v10 s _ h)
                · refine R_nb d151_212 rfl (mb_f (b := (q26 < (0 : Int32))) c28) ?_
                  refine R_p d151_215 rfl rfl ?_
                  refine R_p (ls' := [(0, .ref 42), (1, .int v1), (2, .int v2), (3, .int v3), (4, .int v4), (5, .int v5), (6, .int v6), (7, .int (s.1 52 (Int32.toNatClampNeg v5))), (8, .int v8), (9, .int v9), (10, .int v10), (11, .int (s.1 51 (Int32.toNatClampNeg v5))), (12, .int (s.1 52 (Int32.toNatClampNeg v5)))]) d151_217 rfl rfl ?_
                  refine R_p d151_219 rfl rfl ?_
                  refine R_p (ls' := [(0, .ref 42), (1, .int v1), (2, .int v2), (3, .int v3), (4, .int v4), (5, .int v5), (6, .int v6), (7, .int (s.1 52 (Int32.toNatClampNeg v5))), (8, .int v8), (9, .int v5), (10, .int v10), (11, .int (s.1 51 (Int32.toNatClampNeg v5))), (12, .int (s.1 52 (Int32.toNatClampNeg v5)))]) d151_221 rfl rfl ?_
                  refine R_p (ls' := [(0, .ref 42), (1, .int v1), (2, .int v2), (3, .int v3), (4, .int v4), (5, .int (v5 + Int32.ofInt 1)), (6, .int v6), (7, .int (s.1 52 (Int32.toNatClampNeg v5))), (8, .int v8), (9, .int v5), (10, .int v10), (11, .int (s.1 51 (Int32.toNatClampNeg v5))), (12, .int (s.1 52 (Int32.toNatClampNeg v5)))]) d151_223 rfl rfl ?_
                  refine R_br 110 d151_226 rfl rfl ?_
                  exact R_wk [(0, .ref 42), (1, .int v1), (2, .int v2), (3, .int v3), (4, .int v4), (5, .int (v5 + Int32.ofInt 1)), (6, .int v6), (7, .int (s.1 52 (Int32.toNatClampNeg v5))), (8, .int v8), (9, .int v5), (10, .int v10)] (by simp) (ih.2.2 v1 v2 v3 v4 (v5 + Int32.ofInt 1) v6 (s.1 52 (Int32.toNatClampNeg v5)) v8 v5 v10 s _ h)
              · refine R_nb d151_192 rfl (mb_f (b := ((0 : Int32) < q23)) c25) ?_
                refine R_p d151_195 rfl rfl ?_
                refine R_p (ls' := [(0, .ref 42), (1, .int v1), (2, .int v2), (3, .int v3), (4, .int v4), (5, .int v5), (6, .int (s.1 51 (Int32.toNatClampNeg v5))), (7, .int v7), (8, .int v8), (9, .int v9), (10, .int v10), (11, .int (s.1 51 (Int32.toNatClampNeg v5))), (12, .int (s.1 52 (Int32.toNatClampNeg v5)))]) d151_197 rfl rfl ?_
                refine R_p d151_199 rfl rfl ?_
                refine R_p (ls' := [(0, .ref 42), (1, .int v1), (2, .int v2), (3, .int v3), (4, .int v4), (5, .int v5), (6, .int (s.1 51 (Int32.toNatClampNeg v5))), (7, .int v7), (8, .int v5), (9, .int v9), (10, .int v10), (11, .int (s.1 51 (Int32.toNatClampNeg v5))), (12, .int (s.1 52 (Int32.toNatClampNeg v5)))]) d151_201 rfl rfl ?_
                refine R_p d151_203 rfl rfl ?_
                refine R_p d151_204 rfl rfl ?_
                refine R_p d151_205 rfl rfl ?_
                refine R_p d151_207 rfl rfl ?_
                obtain ⟨q29, e30, h⟩ := bd_some h
                refine R_cm [.int v2, .int v7, .int (s.1 52 (Int32.toNatClampNeg v5))] d151_209 (List.mem_of_getElem? (i := 166) rfl) rfl ⟨by decide, by decide, Nat.le_of_ble_eq_true rfl, rfl, mcd119⟩ rfl rfl (Nat.le_of_ble_eq_true rfl) (hg42 _ _) rfl (t_f119 e30) ?_
                rcases ite_some h with ⟨c31, h⟩ | ⟨c31, h⟩
                · refine R_br 223 d151_212 (mb_t (b := (q29 < (0 : Int32))) c31) rfl ?_
                  refine R_p (ls' := [(0, .ref 42), (1, .int v1), (2, .int v2), (3, .int v3), (4, .int v4), (5, .int (v5 + Int32.ofInt 1)), (6, .int (s.1 51 (Int32.toNatClampNeg v5))), (7, .int v7), (8, .int v5), (9, .int v9), (10, .int v10), (11, .int (s.1 51 (Int32.toNatClampNeg v5))), (12, .int (s.1 52 (Int32.toNatClampNeg v5)))]) d151_223 rfl rfl ?_
                  refine R_br 110 d151_226 rfl rfl ?_
                  exact R_wk [(0, .ref 42), (1, .int v1), (2, .int v2), (3, .int v3), (4, .int v4), (5, .int (v5 + Int32.ofInt 1)), (6, .int (s.1 51 (Int32.toNatClampNeg v5))), (7, .int v7), (8, .int v5), (9, .int v9), (10, .int v10)] (by simp) (ih.2.2 v1 v2 v3 v4 (v5 + Int32.ofInt 1) (s.1 51 (Int32.toNatClampNeg v5)) v7 v5 v9 v10 s _ h)
                · refine R_nb d151_212 rfl (mb_f (b := (q29 < (0 : Int32))) c31) ?_
                  refine R_p d151_215 rfl rfl ?_
                  refine R_p (ls' := [(0, .ref 42), (1, .int v1), (2, .int v2), (3, .int v3), (4, .int v4), (5, .int v5), (6, .int (s.1 51 (Int32.toNatClampNeg v5))), (7, .int (s.1 52 (Int32.toNatClampNeg v5))), (8, .int v5), (9, .int v9), (10, .int v10), (11, .int (s.1 51 (Int32.toNatClampNeg v5))), (12, .int (s.1 52 (Int32.toNatClampNeg v5)))]) d151_217 rfl rfl ?_
                  refine R_p d151_219 rfl rfl ?_
                  refine R_p (ls' := [(0, .ref 42), (1, .int v1), (2, .int v2), (3, .int v3), (4, .int v4), (5, .int v5), (6, .int (s.1 51 (Int32.toNatClampNeg v5))), (7, .int (s.1 52 (Int32.toNatClampNeg v5))), (8, .int v5), (9, .int v5), (10, .int v10), (11, .int (s.1 51 (Int32.toNatClampNeg v5))), (12, .int (s.1 52 (Int32.toNatClampNeg v5)))]) d151_221 rfl rfl ?_
                  refine R_p (ls' := [(0, .ref 42), (1, .int v1), (2, .int v2), (3, .int v3), (4, .int v4), (5, .int (v5 + Int32.ofInt 1)), (6, .int (s.1 51 (Int32.toNatClampNeg v5))), (7, .int (s.1 52 (Int32.toNatClampNeg v5))), (8, .int v5), (9, .int v5), (10, .int v10), (11, .int (s.1 51 (Int32.toNatClampNeg v5))), (12, .int (s.1 52 (Int32.toNatClampNeg v5)))]) d151_223 rfl rfl ?_
                  refine R_br 110 d151_226 rfl rfl ?_
                  exact R_wk [(0, .ref 42), (1, .int v1), (2, .int v2), (3, .int v3), (4, .int v4), (5, .int (v5 + Int32.ofInt 1)), (6, .int (s.1 51 (Int32.toNatClampNeg v5))), (7, .int (s.1 52 (Int32.toNatClampNeg v5))), (8, .int v5), (9, .int v5), (10, .int v10)] (by simp) (ih.2.2 v1 v2 v3 v4 (v5 + Int32.ofInt 1) (s.1 51 (Int32.toNatClampNeg v5)) (s.1 52 (Int32.toNatClampNeg v5)) v5 v5 v10 s _ h)
            · refine R_nb d151_170 rfl (mb_f (b := (q20 ≤ (0 : Int32))) c22) ?_
              refine R_p d151_173 rfl rfl ?_
              refine R_p (ls' := [(0, .ref 42), (1, .int v1), (2, .int v2), (3, .int v3), (4, .int v4), (5, .int v5), (6, .int v6), (7, .int v7), (8, .int v8), (9, .int v9), (10, .int v6), (11, .int (s.1 51 (Int32.toNatClampNeg v5))), (12, .int (s.1 52 (Int32.toNatClampNeg v5)))]) d151_175 rfl rfl ?_
              refine R_p d151_177 rfl rfl ?_
              refine R_p (ls' := [(0, .ref 42), (1, .int v1), (2, .int v2), (3, .int v8), (4, .int v4), (5, .int v5), (6, .int v6), (7, .int v7), (8, .int v8), (9, .int v9), (10, .int v6), (11, .int (s.1 51 (Int32.toNatClampNeg v5))), (12, .int (s.1 52 (Int32.toNatClampNeg v5)))]) d151_179 rfl rfl ?_
              refine R_br 223 d151_180 rfl rfl ?_
              refine R_p (ls' := [(0, .ref 42), (1, .int v1), (2, .int v2), (3, .int v8), (4, .int v4), (5, .int (v5 + Int32.ofInt 1)), (6, .int v6), (7, .int v7), (8, .int v8), (9, .int v9), (10, .int v6), (11, .int (s.1 51 (Int32.toNatClampNeg v5))), (12, .int (s.1 52 (Int32.toNatClampNeg v5)))]) d151_223 rfl rfl ?_
              refine R_br 110 d151_226 rfl rfl ?_
              exact R_wk [(0, .ref 42), (1, .int v1), (2, .int v2), (3, .int v8), (4, .int v4), (5, .int (v5 + Int32.ofInt 1)), (6, .int v6), (7, .int v7), (8, .int v8), (9, .int v9), (10, .int v6)] (by simp) (ih.2.2 v1 v2 v8 v4 (v5 + Int32.ofInt 1) v6 v7 v8 v9 v6 s _ h)
          · refine R_nb d151_148 rfl (mb_f (b := ((0 : Int32) ≤ q17)) c19) ?_
            refine R_p d151_151 rfl rfl ?_
            refine R_p (ls' := [(0, .ref 42), (1, .int v1), (2, .int v2), (3, .int v3), (4, .int v4), (5, .int v5), (6, .int v6), (7, .int v7), (8, .int v8), (9, .int v9), (10, .int v7), (11, .int (s.1 51 (Int32.toNatClampNeg v5))), (12, .int (s.1 52 (Int32.toNatClampNeg v5)))]) d151_153 rfl rfl ?_
            refine R_p d151_155 rfl rfl ?_
            refine R_p (ls' := [(0, .ref 42), (1, .int v1), (2, .int v2), (3, .int v9), (4, .int v4), (5, .int v5), (6, .int v6), (7, .int v7), (8, .int v8), (9, .int v9), (10, .int v7), (11, .int (s.1 51 (Int32.toNatClampNeg v5))), (12, .int (s.1 52 (Int32.toNatClampNeg v5)))]) d151_157 rfl rfl ?_
            refine R_br 223 d151_158 rfl rfl ?_
            refine R_p (ls' := [(0, .ref 42), (1, .int v1), (2, .int v2), (3, .int v9), (4, .int v4), (5, .int (v5 + Int32.ofInt 1)), (6, .int v6), (7, .int v7), (8, .int v8), (9, .int v9), (10, .int v7), (11, .int (s.1 51 (Int32.toNatClampNeg v5))), (12, .int (s.1 52 (Int32.toNatClampNeg v5)))]) d151_223 rfl rfl ?_
            refine R_br 110 d151_226 rfl rfl ?_
            exact R_wk [(0, .ref 42), (1, .int v1), (2, .int v2), (3, .int v9), (4, .int v4), (5, .int (v5 + Int32.ofInt 1)), (6, .int v6), (7, .int v7), (8, .int v8), (9, .int v9), (10, .int v7)] (by simp) (ih.2.2 v1 v2 v9 v4 (v5 + Int32.ofInt 1) v6 v7 v8 v9 v7 s _ h)
def f151 (k : Nat) (s : mS) : Option (mS) :=
  rdI 100 ((s.2.2.1 18) - (1 : Int32)) (pt (uA 51 (upd (s.1 51) (Int32.toNatClampNeg ((s.2.2.1 18) - (1 : Int32))) 41) s) fun s2 => rdI 100 ((s.2.2.1 18) - (1 : Int32)) (pt (uA 52 (upd (s2.1 52) (Int32.toNatClampNeg ((s.2.2.1 18) - (1 : Int32))) 41) s2) fun s5 => pt (uF 19 (0 : Int32) s5) fun s7 => r151 k 0 ((s.2.2.1 18) - (1 : Int32)) 40 0 1 0 0 0 0 0 0 s7))
theorem t_f151 {S : mE} {ex : mHp} {k : Nat} {s : mS} {r : mS} (h : f151 k s = some r) : Run S 151 (0, [(0, .ref 42)], [], hp s ex) (.inl none, hp r ex) := by
  unfold f151 at h
  refine R_p d151_0 rfl rfl ?_
  refine R_get d151_1 (Or.inl (List.mem_of_getElem? (i := 57) rfl)) (hg42 _ _) rfl ?_
  refine R_ic (v := 1) d151_4 (by decide) ?_
  refine R_p d151_5 rfl rfl ?_
  refine R_p (ls' := [(0, .ref 42), (1, .int ((s.2.2.1 18) - (1 : Int32)))]) d151_6 rfl rfl ?_
  refine R_p d151_7 rfl rfl ?_
  refine R_get d151_8 (Or.inl (List.mem_of_getElem? (i := 62) rfl)) (hg42 _ _) rfl ?_
  refine R_p d151_11 rfl rfl ?_
  refine R_bi (v := 41) d151_12 (by decide) ?_
  obtain ⟨c1, h⟩ := rdI_some h
  obtain ⟨s2, e3, h⟩ := pt_some h
  refine R_ist d151_14 (hg51 _ _) c1 ?_
  refine R_h (hp s2 ex) (by rw [e3]; exact hA51 _ _ _) ?_
  refine R_p d151_15 rfl rfl ?_
  refine R_get d151_16 (Or.inl (List.mem_of_getElem? (i := 63) rfl)) (hg42 _ _) rfl ?_
  refine R_p d151_19 rfl rfl ?_
  refine R_bi (v := 41) d151_20 (by decide) ?_
  obtain ⟨c4, h⟩ := rdI_some h
  obtain ⟨s5, e6, h⟩ := pt_some h
  refine R_ist d151_22 (hg52 _ _) c4 ?_
  refine R_h (hp s5 ex) (by rw [e6]; exact hA52 _ _ _) ?_
  refine R_p d151_23 rfl rfl ?_
  refine R_ic (v := 0) d151_24 (by decide) ?_
  obtain ⟨s7, e8, h⟩ := pt_some h
  refine R_put d151_25 (List.mem_of_getElem? (i := 59) rfl) (hg42 _ _) (Nat.le_of_ble_eq_true rfl) rfl rfl (Or.inl rfl) ?_
  refine R_h (hp s7 ex) (by rw [e8]; exact hF19 _ _ _) ?_
  refine R_bi (v := 40) d151_28 (by decide) ?_
  refine R_p (ls' := [(0, .ref 42), (1, .int ((s.2.2.1 18) - (1 : Int32))), (2, .int 40)]) d151_30 rfl rfl ?_
  refine R_ic (v := 0) d151_31 (by decide) ?_
  refine R_p (ls' := [(0, .ref 42), (1, .int ((s.2.2.1 18) - (1 : Int32))), (2, .int 40), (3, .int 0)]) d151_32 rfl rfl ?_
  refine R_ic (v := 1) d151_33 (by decide) ?_
  refine R_p (ls' := [(0, .ref 42), (1, .int ((s.2.2.1 18) - (1 : Int32))), (2, .int 40), (3, .int 0), (4, .int 1)]) d151_34 rfl rfl ?_
  exact (s151 (S := S) (ex := ex) k).1 ((s.2.2.1 18) - (1 : Int32)) 40 0 1 0 0 0 0 0 0 s7 _ h
def f154 (v1 : Int32) (s : mS) : Option (Int32) :=
  (if ((0 : Int32) ≤ v1) then
    (if (v1 < (s.2.2.1 19)) then
      rdI 100 v1 (some (s.1 49 (Int32.toNatClampNeg v1)))
    else
      some (41 : Int32))
  else
    some (40 : Int32))
theorem t_f154 {S : mE} {ex : mHp} {v1 : Int32} {s : mS} {r : Int32} (h : f154 v1 s = some r) : Run S 154 (0, [(0, .ref 42), (1, .int v1)], [], hp s ex) (.inl (some (.int r)), hp s ex) := by
  unfold f154 at h
  refine R_p d154_0 rfl rfl ?_
  rcases ite_some h with ⟨c1, h⟩ | ⟨c1, h⟩
  · refine R_br 9 d154_1 (mb_t (b := ((0 : Int32) ≤ v1)) c1) rfl ?_
    refine R_p d154_9 rfl rfl ?_
    refine R_p d154_10 rfl rfl ?_
    refine R_get d154_11 (Or.inl (List.mem_of_getElem? (i := 59) rfl)) (hg42 _ _) rfl ?_
    rcases ite_some h with ⟨c2, h⟩ | ⟨c2, h⟩
    · refine R_br 22 d154_14 (mb_t (b := (v1 < (s.2.2.1 19))) c2) rfl ?_
      refine R_p d154_22 rfl rfl ?_
      refine R_get d154_23 (Or.inl (List.mem_of_getElem? (i := 60) rfl)) (hg42 _ _) rfl ?_
      refine R_p d154_26 rfl rfl ?_
      obtain ⟨c3, h⟩ := rdI_some h
      refine R_ild d154_27 (hg49 _ _) c3 ?_
      cases h
      exact R_iret d154_28 rfl rfl rfl
    · refine R_nb d154_14 rfl (mb_f (b := (v1 < (s.2.2.1 19))) c2) ?_
      refine R_bi (v := 41) d154_17 (by decide) ?_
      refine R_br 28 d154_19 rfl rfl ?_
      cases h
      exact R_iret d154_28 rfl rfl rfl
  · refine R_nb d154_1 rfl (mb_f (b := ((0 : Int32) ≤ v1)) c1) ?_
    refine R_bi (v := 40) d154_4 (by decide) ?_
    refine R_br 28 d154_6 rfl rfl ?_
    cases h
    exact R_iret d154_28 rfl rfl rfl
def j153_121 (v1 : Int32) (v2 : Int32) (v3 : Int32) (v4 : Int32) (v5 : Int64) (v7 : Int64) (v9 : Int64) (v11 : Int64) (v13 : Int32) (s : mS) : Option (Int32) :=
  (if (¬ v13 = (0 : Int32)) then
    some (0 : Int32)
  else
    (f119 v2 v3 v4 s).bind fun q2 => (if (¬ q2 = (0 : Int32)) then
      some (1 : Int32)
    else
      (if ((0 : Int64) ≤ ((v5 * v9) + (v7 * v11))) then
        some (0 : Int32)
      else
        some (1 : Int32))))
theorem t_j153_121 {S : mE} {ex : mHp} (v1 : Int32) (v2 : Int32) (v3 : Int32) (v4 : Int32) (v5 : Int64) (v7 : Int64) (v9 : Int64) (v11 : Int64) (v13 : Int32) (s : mS) (r : Int32) (h : j153_121 v1 v2 v3 v4 v5 v7 v9 v11 v13 s = some r) : Run S 153 (121, [(0, .ref 42), (1, .int v1), (2, .int v2), (3, .int v3), (4, .int v4), (5, .long v5), (7, .long v7), (9, .long v9), (11, .long v11), (13, .int v13)], [], hp s ex) (.inl (some (.int r)), hp s ex) := by
  unfold j153_121 at h
  refine R_p d153_121 rfl rfl ?_
  rcases ite_some h with ⟨c1, h⟩ | ⟨c1, h⟩
  · refine R_br 157 d153_123 (mb_t (b := (¬ v13 = (0 : Int32))) c1) rfl ?_
    refine R_ic (v := 0) d153_157 (by decide) ?_
    cases h
    exact R_iret d153_158 rfl rfl rfl
  · refine R_nb d153_123 rfl (mb_f (b := (¬ v13 = (0 : Int32))) c1) ?_
    refine R_p d153_126 rfl rfl ?_
    refine R_p d153_127 rfl rfl ?_
    refine R_p d153_128 rfl rfl ?_
    refine R_p d153_129 rfl rfl ?_
    obtain ⟨q2, e3, h⟩ := bd_some h
    refine R_cm [.int v2, .int v3, .int v4] d153_131 (List.mem_of_getElem? (i := 166) rfl) rfl ⟨by decide, by decide, Nat.le_of_ble_eq_true rfl, rfl, mcd119⟩ rfl rfl (Nat.le_of_ble_eq_true rfl) (hg42 _ _) rfl (t_f119 e3) ?_
    rcases ite_some h with ⟨c4, h⟩ | ⟨c4, h⟩
    · refine R_br 153 d153_134 (mb_t (b := (¬ q2 = (0 : Int32))) c4) rfl ?_
      refine R_ic (v := 1) d153_153 (by decide) ?_
      refine R_br 158 d153_154 rfl rfl ?_
      cases h
      exact R_iret d153_158 rfl rfl rfl
    · refine R_nb d153_134 rfl (mb_f (b := (¬ q2 = (0 : Int32))) c4) ?_
      refine R_p d153_137 rfl rfl ?_
      refine R_p d153_139 rfl rfl ?_
      refine R_p d153_141 rfl rfl ?_
      refine R_p d153_142 rfl rfl ?_
      refine R_p d153_144 rfl rfl ?_
      refine R_p d153_146 rfl rfl ?_
      refine R_p d153_147 rfl rfl ?_
      refine R_lc (v := 0) d153_148 (by decide) ?_
      refine R_p d153_149 rfl rfl ?_
      rcases ite_some h with ⟨c5, h⟩ | ⟨c5, h⟩
      · refine R_br 157 d153_150 (mb_t (b := ((0 : Int32) ≤ (lg_cmp ((v5 * v9) + (v7 * v11)) 0))) (lgc_ge.mpr c5)) rfl ?_
        refine R_ic (v := 0) d153_157 (by decide) ?_
        cases h
        exact R_iret d153_158 rfl rfl rfl
      · refine R_nb d153_150 rfl (mb_f (b := ((0 : Int32) ≤ (lg_cmp ((v5 * v9) + (v7 * v11)) 0))) (fun q => c5 (lgc_ge.mp q))) ?_
        refine R_ic (v := 1) d153_153 (by decide) ?_
        refine R_br 158 d153_154 rfl rfl ?_
        cases h
        exact R_iret d153_158 rfl rfl rfl
def f153 (v1 : Int32) (s : mS) : Option (Int32) :=
  (f154 (v1 - (1 : Int32)) s).bind fun q1 => rdI 100 v1 ((f154 (v1 + (1 : Int32)) s).bind fun q4 => rdI 42 (s.1 49 (Int32.toNatClampNeg v1)) (rdI 42 q1 (rdI 42 (s.1 49 (Int32.toNatClampNeg v1)) (rdI 42 q1 (rdI 42 q4 (rdI 42 (s.1 49 (Int32.toNatClampNeg v1)) (rdI 42 q4 (rdI 42 (s.1 49 (Int32.toNatClampNeg v1)) ((if (¬ ((s.2.1 43 (Int32.toNatClampNeg (s.1 49 (Int32.toNatClampNeg v1)))) - (s.2.1 43 (Int32.toNatClampNeg q1))) = (0 : Int64)) then
    (if (¬ ((s.2.1 43 (Int32.toNatClampNeg q4)) - (s.2.1 43 (Int32.toNatClampNeg (s.1 49 (Int32.toNatClampNeg v1))))) = (0 : Int64)) then
      j153_121 v1 q1 (s.1 49 (Int32.toNatClampNeg v1)) q4 ((s.2.1 43 (Int32.toNatClampNeg (s.1 49 (Int32.toNatClampNeg v1)))) - (s.2.1 43 (Int32.toNatClampNeg q1))) ((s.2.1 44 (Int32.toNatClampNeg (s.1 49 (Int32.toNatClampNeg v1)))) - (s.2.1 44 (Int32.toNatClampNeg q1))) ((s.2.1 43 (Int32.toNatClampNeg q4)) - (s.2.1 43 (Int32.toNatClampNeg (s.1 49 (Int32.toNatClampNeg v1))))) ((s.2.1 44 (Int32.toNatClampNeg q4)) - (s.2.1 44 (Int32.toNatClampNeg (s.1 49 (Int32.toNatClampNeg v1))))) 0 s
    else
      (if (¬ ((s.2.1 44 (Int32.toNatClampNeg q4)) - (s.2.1 44 (Int32.toNatClampNeg (s.1 49 (Int32.toNatClampNeg v1))))) = (0 : Int64)) then
        j153_121 v1 q1 (s.1 49 (Int32.toNatClampNeg v1)) q4 ((s.2.1 43 (Int32.toNatClampNeg (s.1 49 (Int32.toNatClampNeg v1)))) - (s.2.1 43 (Int32.toNatClampNeg q1))) ((s.2.1 44 (Int32.toNatClampNeg (s.1 49 (Int32.toNatClampNeg v1)))) - (s.2.1 44 (Int32.toNatClampNeg q1))) ((s.2.1 43 (Int32.toNatClampNeg q4)) - (s.2.1 43 (Int32.toNatClampNeg (s.1 49 (Int32.toNatClampNeg v1))))) ((s.2.1 44 (Int32.toNatClampNeg q4)) - (s.2.1 44 (Int32.toNatClampNeg (s.1 49 (Int32.toNatClampNeg v1))))) 0 s
      else
        j153_121 v1 q1 (s.1 49 (Int32.toNatClampNeg v1)) q4 ((s.2.1 43 (Int32.toNatClampNeg (s.1 49 (Int32.toNatClampNeg v1)))) - (s.2.1 43 (Int32.toNatClampNeg q1))) ((s.2.1 44 (Int32.toNatClampNeg (s.1 49 (Int32.toNatClampNeg v1)))) - (s.2.1 44 (Int32.toNatClampNeg q1))) ((s.2.1 43 (Int32.toNatClampNeg q4)) - (s.2.1 43 (Int32.toNatClampNeg (s.1 49 (Int32.toNatClampNeg v1))))) ((s.2.1 44 (Int32.toNatClampNeg q4)) - (s.2.1 44 (Int32.toNatClampNeg (s.1 49 (Int32.toNatClampNeg v1))))) 1 s))
  else
    (if (((s.2.1 44 (Int32.toNatClampNeg (s.1 49 (Int32.toNatClampNeg v1)))) - (s.2.1 44 (Int32.toNatClampNeg q1))) = (0 : Int64)) then
      j153_121 v1 q1 (s.1 49 (Int32.toNatClampNeg v1)) q4 ((s.2.1 43 (Int32.toNatClampNeg (s.1 49 (Int32.toNatClampNeg v1)))) - (s.2.1 43 (Int32.toNatClampNeg q1))) ((s.2.1 44 (Int32.toNatClampNeg (s.1 49 (Int32.toNatClampNeg v1)))) - (s.2.1 44 (Int32.toNatClampNeg q1))) ((s.2.1 43 (Int32.toNatClampNeg q4)) - (s.2.1 43 (Int32.toNatClampNeg (s.1 49 (Int32.toNatClampNeg v1))))) ((s.2.1 44 (Int32.toNatClampNeg q4)) - (s.2.1 44 (Int32.toNatClampNeg (s.1 49 (Int32.toNatClampNeg v1))))) 1 s
    else
      (if (¬ ((s.2.1 43 (Int32.toNatClampNeg q4)) - (s.2.1 43 (Int32.toNatClampNeg (s.1 49 (Int32.toNatClampNeg v1))))) = (0 : Int64)) then
        j153_121 v1 q1 (s.1 49 (Int32.toNatClampNeg v1)) q4 ((s.2.1 43 (Int32.toNatClampNeg (s.1 49 (Int32.toNatClampNeg v1)))) - (s.2.1 43 (Int32.toNatClampNeg q1))) ((s.2.1 44 (Int32.toNatClampNeg (s.1 49 (Int32.toNatClampNeg v1)))) - (s.2.1 44 (Int32.toNatClampNeg q1))) ((s.2.1 43 (Int32.toNatClampNeg q4)) - (s.2.1 43 (Int32.toNatClampNeg (s.1 49 (Int32.toNatClampNeg v1))))) ((s.2.1 44 (Int32.toNatClampNeg q4)) - (s.2.1 44 (Int32.toNatClampNeg (s.1 49 (Int32.toNatClampNeg v1))))) 0 s
      else
        (if (¬ ((s.2.1 44 (Int32.toNatClampNeg q4)) - (s.2.1 44 (Int32.toNatClampNeg (s.1 49 (Int32.toNatClampNeg v1))))) = (0 : Int64)) then
          j153_121 v1 q1 (s.1 49 (Int32.toNatClampNeg v1)) q4 ((s.2.1 43 (Int32.toNatClampNeg (s.1 49 (Int32.toNatClampNeg v1)))) - (s.2.1 43 (Int32.toNatClampNeg q1))) ((s.2.1 44 (Int32.toNatClampNeg (s.1 49 (Int32.toNatClampNeg v1)))) - (s.2.1 44 (Int32.toNatClampNeg q1))) ((s.2.1 43 (Int32.toNatClampNeg q4)) - (s.2.1 43 (Int32.toNatClampNeg (s.1 49 (Int32.toNatClampNeg v1))))) ((s.2.1 44 (Int32.toNatClampNeg q4)) - (s.2.1 44 (Int32.toNatClampNeg (s.1 49 (Int32.toNatClampNeg v1))))) 0 s
        else
          j153_121 v1 q1 (s.1 49 (Int32.toNatClampNeg v1)) q4 ((s.2.1 43 (Int32.toNatClampNeg (s.1 49 (Int32.toNatClampNeg v1)))) - (s.2.1 43 (Int32.toNatClampNeg q1))) ((s.2.1 44 (Int32.toNatClampNeg (s.1 49 (Int32.toNatClampNeg v1)))) - (s.2.1 44 (Int32.toNatClampNeg q1))) ((s.2.1 43 (Int32.toNatClampNeg q4)) - (s.2.1 43 (Int32.toNatClampNeg (s.1 49 (Int32.toNatClampNeg v1))))) ((s.2.1 44 (Int32.toNatClampNeg q4)) - (s.2.1 44 (Int32.toNatClampNeg (s.1 49 (Int32.toNatClampNeg v1))))) 1 s)))))))))))))
theorem t_f153 {S : mE} {ex : mHp} {v1 : Int32} {s : mS} {r : Int32} (h : f153 v1 s = some r) : Run S 153 (0, [(0, .ref 42), (1, .int v1)], [], hp s ex) (.inl (some (.int r)), hp s ex) := by
  unfold f153 at h
  refine R_p d153_0 rfl rfl ?_
  refine R_p d153_1 rfl rfl ?_
  refine R_ic (v := 1) d153_2 (by decide) ?_
  refine R_p d153_3 rfl rfl ?_
  obtain ⟨q1, e2, h⟩ := bd_some h
  refine R_cm [.int (v1 - (1 : Int32))] d153_4 (List.mem_of_getElem? (i := 201) rfl) rfl ⟨by decide, by decide, Nat.le_of_ble_eq_true rfl, rfl, mcd154⟩ rfl rfl (Nat.le_of_ble_eq_true rfl) (hg42 _ _) rfl (t_f154 e2) ?_
  refine R_p (ls' := [(0, .ref 42), (1, .int v1), (2, .int q1)]) d153_7 rfl rfl ?_
  refine R_p d153_8 rfl rfl ?_
  refine R_get d153_9 (Or.inl (List.mem_of_getElem? (i := 60) rfl)) (hg42 _ _) rfl ?_
  refine R_p d153_12 rfl rfl ?_
  obtain ⟨c3, h⟩ := rdI_some h
  refine R_ild d153_13 (hg49 _ _) c3 ?_
  refine R_p (ls' := [(0, .ref 42), (1, .int v1), (2, .int q1), (3, .int (s.1 49 (Int32.toNatClampNeg v1)))]) d153_14 rfl rfl ?_
  refine R_p d153_15 rfl rfl ?_
  refine R_p d153_16 rfl rfl ?_
  refine R_ic (v := 1) d153_17 (by decide) ?_
  refine R_p d153_18 rfl rfl ?_
  obtain ⟨q4, e5, h⟩ := bd_some h
  refine R_cm [.int (v1 + (1 : Int32))] d153_19 (List.mem_of_getElem? (i := 201) rfl) rfl ⟨by decide, by decide, Nat.le_of_ble_eq_true rfl, rfl, mcd154⟩ rfl rfl (Nat.le_of_ble_eq_true rfl) (hg42 _ _) rfl (t_f154 e5) ?_
  refine R_p (ls' := [(0, .ref 42), (1, .int v1), (2, .int q1), (3, .int (s.1 49 (Int32.toNatClampNeg v1))), (4, .int q4)]) d153_22 rfl rfl ?_
  refine R_p d153_24 rfl rfl ?_
  refine R_get d153_25 (Or.inl (List.mem_of_getElem? (i := 50) rfl)) (hg42 _ _) rfl ?_
  refine R_p d153_28 rfl rfl ?_
  obtain ⟨c6, h⟩ := rdI_some h
  refine R_lld d153_29 (hg43 _ _) c6 ?_
  refine R_p d153_30 rfl rfl ?_
  refine R_get d153_31 (Or.inl (List.mem_of_getElem? (i := 50) rfl)) (hg42 _ _) rfl ?_
  refine R_p d153_34 rfl rfl ?_
  obtain ⟨c7, h⟩ := rdI_some h
  refine R_lld d153_35 (hg43 _ _) c7 ?_
  refine R_p d153_36 rfl rfl ?_
  refine R_p (ls' := [(0, .ref 42), (1, .int v1), (2, .int q1), (3, .int (s.1 49 (Int32.toNatClampNeg v1))), (4, .int q4), (5, .long ((s.2.1 43 (Int32.toNatClampNeg (s.1 49 (Int32.toNatClampNeg v1)))) - (s.2.1 43 (Int32.toNatClampNeg q1))))]) d153_37 rfl rfl ?_
  refine R_p d153_39 rfl rfl ?_
  refine R_get d153_40 (Or.inl (List.mem_of_getElem? (i := 51) rfl)) (hg42 _ _) rfl ?_
  refine R_p d153_43 rfl rfl ?_
  obtain ⟨c8, h⟩ := rdI_some h
  refine R_lld d153_44 (hg44 _ _) c8 ?_
  refine R_p d153_45 rfl rfl ?_
  refine R_get d153_46 (Or.inl (List.mem_of_getElem? (i := 51) rfl)) (hg42 _ _) rfl ?_
  refine R_p d153_49 rfl rfl ?_
  obtain ⟨c9, h⟩ := rdI_some h
  refine R_lld d153_50 (hg44 _ _) c9 ?_
  refine R_p d153_51 rfl rfl ?_
  refine R_p (ls' := [(0, .ref 42), (1, .int v1), (2, .int q1), (3, .int (s.1 49 (Int32.toNatClampNeg v1))), (4, .int q4), (5, .long ((s.2.1 43 (Int32.toNatClampNeg (s.1 49 (Int32.toNatClampNeg v1)))) - (s.2.1 43 (Int32.toNatClampNeg q1)))), (7, .long ((s.2.1 44 (Int32.toNatClampNeg (s.1 49 (Int32.toNatClampNeg v1)))) - (s.2.1 44 (Int32.toNatClampNeg q1))))]) d153_52 rfl rfl ?_
  refine R_p d153_54 rfl rfl ?_
  refine R_get d153_55 (Or.inl (List.mem_of_getElem? (i := 50) rfl)) (hg42 _ _) rfl ?_
  refine R_p d153_58 rfl rfl ?_
  obtain ⟨c10, h⟩ := rdI_some h
  refine R_lld d153_60 (hg43 _ _) c10 ?_
  refine R_p d153_61 rfl rfl ?_
  refine R_get d153_62 (Or.inl (List.mem_of_getElem? (i := 50) rfl)) (hg42 _ _) rfl ?_
  refine R_p d153_65 rfl rfl ?_
  obtain ⟨c11, h⟩ := rdI_some h
  refine R_lld d153_66 (hg43 _ _) c11 ?_
  refine R_p d153_67 rfl rfl ?_
  refine R_p (ls' := [(0, .ref 42), (1, .int v1), (2, .int q1), (3, .int (s.1 49 (Int32.toNatClampNeg v1))), (4, .int q4), (5, .long ((s.2.1 43 (Int32.toNatClampNeg (s.1 49 (Int32.toNatClampNeg v1)))) - (s.2.1 43 (Int32.toNatClampNeg q1)))), (7, .long ((s.2.1 44 (Int32.toNatClampNeg (s.1 49 (Int32.toNatClampNeg v1)))) - (s.2.1 44 (Int32.toNatClampNeg q1)))), (9, .long ((s.2.1 43 (Int32.toNatClampNeg q4)) - (s.2.1 43 (Int32.toNatClampNeg (s.1 49 (Int32.toNatClampNeg v1))))))]) d153_68 rfl rfl ?_
  refine R_p d153_70 rfl rfl ?_
  refine R_get d153_71 (Or.inl (List.mem_of_getElem? (i := 51) rfl)) (hg42 _ _) rfl ?_
  refine R_p d153_74 rfl rfl ?_
  obtain ⟨c12, h⟩ := rdI_some h
  refine R_lld d153_76 (hg44 _ _) c12 ?_
  refine R_p d153_77 rfl rfl ?_
  refine R_get d153_78 (Or.inl (List.mem_of_getElem? (i := 51) rfl)) (hg42 _ _) rfl ?_
  refine R_p d153_81 rfl rfl ?_
  obtain ⟨c13, h⟩ := rdI_some h
  refine R_lld d153_82 (hg44 _ _) c13 ?_
  refine R_p d153_83 rfl rfl ?_
  refine R_p (ls' := [(0, .ref 42), (1, .int v1), (2, .int q1), (3, .int (s.1 49 (Int32.toNatClampNeg v1))), (4, .int q4), (5, .long ((s.2.1 43 (Int32.toNatClampNeg (s.1 49 (Int32.toNatClampNeg v1)))) - (s.2.1 43 (Int32.toNatClampNeg q1)))), (7, .long ((s.2.1 44 (Int32.toNatClampNeg (s.1 49 (Int32.toNatClampNeg v1)))) - (s.2.1 44 (Int32.toNatClampNeg q1)))), (9, .long ((s.2.1 43 (Int32.toNatClampNeg q4)) - (s.2.1 43 (Int32.toNatClampNeg (s.1 49 (Int32.toNatClampNeg v1)))))), (11, .long ((s.2.1 44 (Int32.toNatClampNeg q4)) - (s.2.1 44 (Int32.toNatClampNeg (s.1 49 (Int32.toNatClampNeg v1))))))]) d153_84 rfl rfl ?_
  refine R_p d153_86 rfl rfl ?_
  refine R_lc (v := 0) d153_88 (by decide) ?_
  refine R_p d153_89 rfl rfl ?_
  rcases ite_some h with ⟨c14, h⟩ | ⟨c14, h⟩
  · refine R_br 100 d153_90 (mb_t (b := (¬ (lg_cmp ((s.2.1 43 (Int32.toNatClampNeg (s.1 49 (Int32.toNatClampNeg v1)))) - (s.2.1 43 (Int32.toNatClampNeg q1))) 0) = (0 : Int32))) (lgc_ne.mpr c14)) rfl ?_
    refine R_p d153_100 rfl rfl ?_
    refine R_lc (v := 0) d153_102 (by decide) ?_
    refine R_p d153_103 rfl rfl ?_
    rcases ite_some h with ⟨c15, h⟩ | ⟨c15, h⟩
    · refine R_br 118 d153_104 (mb_t (b := (¬ (lg_cmp ((s.2.1 43 (Int32.toNatClampNeg q4)) - (s.2.1 43 (Int32.toNatClampNeg (s.1 49 (Int32.toNatClampNeg v1))))) 0) = (0 : Int32))) (lgc_ne.mpr c15)) rfl ?_
      refine R_ic (v := 0) d153_118 (by decide) ?_
      refine R_p (ls' := [(0, .ref 42), (1, .int v1), (2, .int q1), (3, .int (s.1 49 (Int32.toNatClampNeg v1))), (4, .int q4), (5, .long ((s.2.1 43 (Int32.toNatClampNeg (s.1 49 (Int32.toNatClampNeg v1)))) - (s.2.1 43 (Int32.toNatClampNeg q1)))), (7, .long ((s.2.1 44 (Int32.toNatClampNeg (s.1 49 (Int32.toNatClampNeg v1)))) - (s.2.1 44 (Int32.toNatClampNeg q1)))), (9, .long ((s.2.1 43 (Int32.toNatClampNeg q4)) - (s.2.1 43 (Int32.toNatClampNeg (s.1 49 (Int32.toNatClampNeg v1)))))), (11, .long ((s.2.1 44 (Int32.toNatClampNeg q4)) - (s.2.1 44 (Int32.toNatClampNeg (s.1 49 (Int32.toNatClampNeg v1)))))), (13, .int 0)]) d153_119 rfl rfl ?_
      exact t_j153_121 (S := S) (ex := ex) v1 q1 (s.1 49 (Int32.toNatClampNeg v1)) q4 ((s.2.1 43 (Int32.toNatClampNeg (s.1 49 (Int32.toNatClampNeg v1)))) - (s.2.1 43 (Int32.toNatClampNeg q1))) ((s.2.1 44 (Int32.toNatClampNeg (s.1 49 (Int32.toNatClampNeg v1)))) - (s.2.1 44 (Int32.toNatClampNeg q1))) ((s.2.1 43 (Int32.toNatClampNeg q4)) - (s.2.1 43 (Int32.toNatClampNeg (s.1 49 (Int32.toNatClampNeg v1))))) ((s.2.1 44 (Int32.toNatClampNeg q4)) - (s.2.1 44 (Int32.toNatClampNeg (s.1 49 (Int32.toNatClampNeg v1))))) 0 s _ h
    · refine R_nb d153_104 rfl (mb_f (b := (¬ (lg_cmp ((s.2.1 43 (Int32.toNatClampNeg q4)) - (s.2.1 43 (Int32.toNatClampNeg (s.1 49 (Int32.toNatClampNeg v1))))) 0) = (0 : Int32))) (fun q => c15 (lgc_ne.mp q))) ?_
      refine R_p d153_107 rfl rfl ?_
      refine R_lc (v := 0) d153_109 (by decide) ?_
      refine R_p d153_110 rfl rfl ?_
      rcases ite_some h with ⟨c16, h⟩ | ⟨c16, h⟩
      · refine R_br 118 d153_111 (mb_t (b := (¬ (lg_cmp ((s.2.1 44 (Int32.toNatClampNeg q4)) - (s.2.1 44 (Int32.toNatClampNeg (s.1 49 (Int32.toNatClampNeg v1))))) 0) = (0 : Int32))) (lgc_ne.mpr c16)) rfl ?_
        refine R_ic (v := 0) d153_118 (by decide) ?_
        refine R_p (ls' := [(0, .ref 42), (1, .int v1), (2, .int q1), (3, .int (s.1 49 (Int32.toNatClampNeg v1))), (4, .int q4), (5, .long ((s.2.1 43 (Int32.toNatClampNeg (s.1 49 (Int32.toNatClampNeg v1)))) - (s.2.1 43 (Int32.toNatClampNeg q1)))), (7, .long ((s.2.1 44 (Int32.toNatClampNeg (s.1 49 (Int32.toNatClampNeg v1)))) - (s.2.1 44 (Int32.toNatClampNeg q1)))), (9, .long ((s.2.1 43 (Int32.toNatClampNeg q4)) - (s.2.1 43 (Int32.toNatClampNeg (s.1 49 (Int32.toNatClampNeg v1)))))), (11, .long ((s.2.1 44 (Int32.toNatClampNeg q4)) - (s.2.1 44 (Int32.toNatClampNeg (s.1 49 (Int32.toNatClampNeg v1)))))), (13, .int 0)]) d153_119 rfl rfl ?_
        exact t_j153_121 (S := S) (ex := ex) v1 q1 (s.1 49 (Int32.toNatClampNeg v1)) q4 ((s.2.1 43 (Int32.toNatClampNeg (s.1 49 (Int32.toNatClampNeg v1)))) - (s.2.1 43 (Int32.toNatClampNeg q1))) ((s.2.1 44 (Int32.toNatClampNeg (s.1 49 (Int32.toNatClampNeg v1)))) - (s.2.1 44 (Int32.toNatClampNeg q1))) ((s.2.1 43 (Int32.toNatClampNeg q4)) - (s.2.1 43 (Int32.toNatClampNeg (s.1 49 (Int32.toNatClampNeg v1))))) ((s.2.1 44 (Int32.toNatClampNeg q4)) - (s.2.1 44 (Int32.toNatClampNeg (s.1 49 (Int32.toNatClampNeg v1))))) 0 s _ h
      · refine R_nb d153_111 rfl (mb_f (b := (¬ (lg_cmp ((s.2.1 44 (Int32.toNatClampNeg q4)) - (s.2.1 44 (Int32.toNatClampNeg (s.1 49 (Int32.toNatClampNeg v1))))) 0) = (0 : Int32))) (fun q => c16 (lgc_ne.mp q))) ?_
        refine R_ic (v := 1) d153_114 (by decide) ?_
        refine R_br 119 d153_115 rfl rfl ?_
        refine R_p (ls' := [(0, .ref 42), (1, .int v1), (2, .int q1), (3, .int (s.1 49 (Int32.toNatClampNeg v1))), (4, .int q4), (5, .long ((s.2.1 43 (Int32.toNatClampNeg (s.1 49 (Int32.toNatClampNeg v1)))) - (s.2.1 43 (Int32.toNatClampNeg q1)))), (7, .long ((s.2.1 44 (Int32.toNatClampNeg (s.1 49 (Int32.toNatClampNeg v1)))) - (s.2.1 44 (Int32.toNatClampNeg q1)))), (9, .long ((s.2.1 43 (Int32.toNatClampNeg q4)) - (s.2.1 43 (Int32.toNatClampNeg (s.1 49 (Int32.toNatClampNeg v1)))))), (11, .long ((s.2.1 44 (Int32.toNatClampNeg q4)) - (s.2.1 44 (Int32.toNatClampNeg (s.1 49 (Int32.toNatClampNeg v1)))))), (13, .int 1)]) d153_119 rfl rfl ?_
        exact t_j153_121 (S := S) (ex := ex) v1 q1 (s.1 49 (Int32.toNatClampNeg v1)) q4 ((s.2.1 43 (Int32.toNatClampNeg (s.1 49 (Int32.toNatClampNeg v1)))) - (s.2.1 43 (Int32.toNatClampNeg q1))) ((s.2.1 44 (Int32.toNatClampNeg (s.1 49 (Int32.toNatClampNeg v1)))) - (s.2.1 44 (Int32.toNatClampNeg q1))) ((s.2.1 43 (Int32.toNatClampNeg q4)) - (s.2.1 43 (Int32.toNatClampNeg (s.1 49 (Int32.toNatClampNeg v1))))) ((s.2.1 44 (Int32.toNatClampNeg q4)) - (s.2.1 44 (Int32.toNatClampNeg (s.1 49 (Int32.toNatClampNeg v1))))) 1 s _ h
  · refine R_nb d153_90 rfl (mb_f (b := (¬ (lg_cmp ((s.2.1 43 (Int32.toNatClampNeg (s.1 49 (Int32.toNatClampNeg v1)))) - (s.2.1 43 (Int32.toNatClampNeg q1))) 0) = (0 : Int32))) (fun q => c14 (lgc_ne.mp q))) ?_
    refine R_p d153_93 rfl rfl ?_
    refine R_lc (v := 0) d153_95 (by decide) ?_
    refine R_p d153_96 rfl rfl ?_
    rcases ite_some h with ⟨c17, h⟩ | ⟨c17, h⟩
    · refine R_br 114 d153_97 (mb_t (b := ((lg_cmp ((s.2.1 44 (Int32.toNatClampNeg (s.1 49 (Int32.toNatClampNeg v1)))) - (s.2.1 44 (Int32.toNatClampNeg q1))) 0) = (0 : Int32))) (lgc_eq.mpr c17)) rfl ?_
      refine R_ic (v := 1) d153_114 (by decide) ?_
      refine R_br 119 d153_115 rfl rfl ?_
      refine R_p (ls' := [(0, .ref 42), (1, .int v1), (2, .int q1), (3, .int (s.1 49 (Int32.toNatClampNeg v1))), (4, .int q4), (5, .long ((s.2.1 43 (Int32.toNatClampNeg (s.1 49 (Int32.toNatClampNeg v1)))) - (s.2.1 43 (Int32.toNatClampNeg q1)))), (7, .long ((s.2.1 44 (Int32.toNatClampNeg (s.1 49 (Int32.toNatClampNeg v1)))) - (s.2.1 44 (Int32.toNatClampNeg q1)))), (9, .long ((s.2.1 43 (Int32.toNatClampNeg q4)) - (s.2.1 43 (Int32.toNatClampNeg (s.1 49 (Int32.toNatClampNeg v1)))))), (11, .long ((s.2.1 44 (Int32.toNatClampNeg q4)) - (s.2.1 44 (Int32.toNatClampNeg (s.1 49 (Int32.toNatClampNeg v1)))))), (13, .int 1)]) d153_119 rfl rfl ?_
      exact t_j153_121 (S := S) (ex := ex) v1 q1 (s.1 49 (Int32.toNatClampNeg v1)) q4 ((s.2.1 43 (Int32.toNatClampNeg (s.1 49 (Int32.toNatClampNeg v1)))) - (s.2.1 43 (Int32.toNatClampNeg q1))) ((s.2.1 44 (Int32.toNatClampNeg (s.1 49 (Int32.toNatClampNeg v1)))) - (s.2.1 44 (Int32.toNatClampNeg q1))) ((s.2.1 43 (Int32.toNatClampNeg q4)) - (s.2.1 43 (Int32.toNatClampNeg (s.1 49 (Int32.toNatClampNeg v1))))) ((s.2.1 44 (Int32.toNatClampNeg q4)) - (s.2.1 44 (Int32.toNatClampNeg (s.1 49 (Int32.toNatClampNeg v1))))) 1 s _ h
    · refine R_nb d153_97 rfl (mb_f (b := ((lg_cmp ((s.2.1 44 (Int32.toNatClampNeg (s.1 49 (Int32.toNatClampNeg v1)))) - (s.2.1 44 (Int32.toNatClampNeg q1))) 0) = (0 : Int32))) (fun q => c17 (lgc_eq.mp q))) ?_
      refine R_p d153_100 rfl rfl ?_
      refine R_lc (v := 0) d153_102 (by decide) ?_
      refine R_p d153_103 rfl rfl ?_
      rcases ite_some h with ⟨c18, h⟩ | ⟨c18, h⟩
      · refine R_br 118 d153_104 (mb_t (b := (¬ (lg_cmp ((s.2.1 43 (Int32.toNatClampNeg q4)) - (s.2.1 43 (Int32.toNatClampNeg (s.1 49 (Int32.toNatClampNeg v1))))) 0) = (0 : Int32))) (lgc_ne.mpr c18)) rfl ?_
        refine R_ic (v := 0) d153_118 (by decide) ?_
        refine R_p (ls' := [(0, .ref 42), (1, .int v1), (2, .int q1), (3, .int (s.1 49 (Int32.toNatClampNeg v1))), (4, .int q4), (5, .long ((s.2.1 43 (Int32.toNatClampNeg (s.1 49 (Int32.toNatClampNeg v1)))) - (s.2.1 43 (Int32.toNatClampNeg q1)))), (7, .long ((s.2.1 44 (Int32.toNatClampNeg (s.1 49 (Int32.toNatClampNeg v1)))) - (s.2.1 44 (Int32.toNatClampNeg q1)))), (9, .long ((s.2.1 43 (Int32.toNatClampNeg q4)) - (s.2.1 43 (Int32.toNatClampNeg (s.1 49 (Int32.toNatClampNeg v1)))))), (11, .long ((s.2.1 44 (Int32.toNatClampNeg q4)) - (s.2.1 44 (Int32.toNatClampNeg (s.1 49 (Int32.toNatClampNeg v1)))))), (13, .int 0)]) d153_119 rfl rfl ?_
        exact t_j153_121 (S := S) (ex := ex) v1 q1 (s.1 49 (Int32.toNatClampNeg v1)) q4 ((s.2.1 43 (Int32.toNatClampNeg (s.1 49 (Int32.toNatClampNeg v1)))) - (s.2.1 43 (Int32.toNatClampNeg q1))) ((s.2.1 44 (Int32.toNatClampNeg (s.1 49 (Int32.toNatClampNeg v1)))) - (s.2.1 44 (Int32.toNatClampNeg q1))) ((s.2.1 43 (Int32.toNatClampNeg q4)) - (s.2.1 43 (Int32.toNatClampNeg (s.1 49 (Int32.toNatClampNeg v1))))) ((s.2.1 44 (Int32.toNatClampNeg q4)) - (s.2.1 44 (Int32.toNatClampNeg (s.1 49 (Int32.toNatClampNeg v1))))) 0 s _ h
      · refine R_nb d153_104 rfl (mb_f (b := (¬ (lg_cmp ((s.2.1 43 (Int32.toNatClampNeg q4)) - (s.2.1 43 (Int32.toNatClampNeg (s.1 49 (Int32.toNatClampNeg v1))))) 0) = (0 : Int32))) (fun q => c18 (lgc_ne.mp q))) ?_
        refine R_p d153_107 rfl rfl ?_
        refine R_lc (v := 0) d153_109 (by decide) ?_
        refine R_p d153_110 rfl rfl ?_
        rcases ite_some h with ⟨c19, h⟩ | ⟨c19, h⟩
        · refine R_br 118 d153_111 (mb_t (b := (¬ (lg_cmp ((s.2.1 44 (Int32.toNatClampNeg q4)) - (s.2.1 44 (Int32.toNatClampNeg (s.1 49 (Int32.toNatClampNeg v1))))) 0) = (0 : Int32))) (lgc_ne.mpr c19)) rfl ?_
          refine R_ic (v := 0) d153_118 (by decide) ?_
          refine R_p (ls' := [(0, .ref 42), (1, .int v1), (2, .int q1), (3, .int (s.1 49 (Int32.toNatClampNeg v1))), (4, .int q4), (5, .long ((s.2.1 43 (Int32.toNatClampNeg (s.1 49 (Int32.toNatClampNeg v1)))) - (s.2.1 43 (Int32.toNatClampNeg q1)))), (7, .long ((s.2.1 44 (Int32.toNatClampNeg (s.1 49 (Int32.toNatClampNeg v1)))) - (s.2.1 44 (Int32.toNatClampNeg q1)))), (9, .long ((s.2.1 43 (Int32.toNatClampNeg q4)) - (s.2.1 43 (Int32.toNatClampNeg (s.1 49 (Int32.toNatClampNeg v1)))))), (11, .long ((s.2.1 44 (Int32.toNatClampNeg q4)) - (s.2.1 44 (Int32.toNatClampNeg (s.1 49 (Int32.toNatClampNeg v1)))))), (13, .int 0)]) d153_119 rfl rfl ?_
          exact t_j153_121 (S := S) (ex := ex) v1 q1 (s.1 49 (Int32.toNatClampNeg v1)) q4 ((s.2.1 43 (Int32.toNatClampNeg (s.1 49 (Int32.toNatClampNeg v1)))) - (s.2.1 43 (Int32.toNatClampNeg q1))) ((s.2.1 44 (Int32.toNatClampNeg (s.1 49 (Int32.toNatClampNeg v1)))) - (s.2.1 44 (Int32.toNatClampNeg q1))) ((s.2.1 43 (Int32.toNatClampNeg q4)) - (s.2.1 43 (Int32.toNatClampNeg (s.1 49 (Int32.toNatClampNeg v1))))) ((s.2.1 44 (Int32.toNatClampNeg q4)) - (s.2.1 44 (Int32.toNatClampNeg (s.1 49 (Int32.toNatClampNeg v1))))) 0 s _ h
        · refine R_nb d153_111 rfl (mb_f (b := (¬ (lg_cmp ((s.2.1 44 (Int32.toNatClampNeg q4)) - (s.2.1 44 (Int32.toNatClampNeg (s.1 49 (Int32.toNatClampNeg v1))))) 0) = (0 : Int32))) (fun q => c19 (lgc_ne.mp q))) ?_
          refine R_ic (v := 1) d153_114 (by decide) ?_
          refine R_br 119 d153_115 rfl rfl ?_
          refine R_p (ls' := [(0, .ref 42), (1, .int v1), (2, .int q1), (3, .int (s.1 49 (Int32.toNatClampNeg v1))), (4, .int q4), (5, .long ((s.2.1 43 (Int32.toNatClampNeg (s.1 49 (Int32.toNatClampNeg v1)))) - (s.2.1 43 (Int32.toNatClampNeg q1)))), (7, .long ((s.2.1 44 (Int32.toNatClampNeg (s.1 49 (Int32.toNatClampNeg v1)))) - (s.2.1 44 (Int32.toNatClampNeg q1)))), (9, .long ((s.2.1 43 (Int32.toNatClampNeg q4)) - (s.2.1 43 (Int32.toNatClampNeg (s.1 49 (Int32.toNatClampNeg v1)))))), (11, .long ((s.2.1 44 (Int32.toNatClampNeg q4)) - (s.2.1 44 (Int32.toNatClampNeg (s.1 49 (Int32.toNatClampNeg v1)))))), (13, .int 1)]) d153_119 rfl rfl ?_
          exact t_j153_121 (S := S) (ex := ex) v1 q1 (s.1 49 (Int32.toNatClampNeg v1)) q4 ((s.2.1 43 (Int32.toNatClampNeg (s.1 49 (Int32.toNatClampNeg v1)))) - (s.2.1 43 (Int32.toNatClampNeg q1))) ((s.2.1 44 (Int32.toNatClampNeg (s.1 49 (Int32.toNatClampNeg v1)))) - (s.2.1 44 (Int32.toNatClampNeg q1))) ((s.2.1 43 (Int32.toNatClampNeg q4)) - (s.2.1 43 (Int32.toNatClampNeg (s.1 49 (Int32.toNatClampNeg v1))))) ((s.2.1 44 (Int32.toNatClampNeg q4)) - (s.2.1 44 (Int32.toNatClampNeg (s.1 49 (Int32.toNatClampNeg v1))))) 1 s _ h
def r152 : Nat → Nat → Int32 → Int32 → mS → Option (mS)
  | 0, _, _, _, _ => none
  | k + 1, hd, v1, v2, s =>
    if hd = 0 then (if ((s.2.2.1 19) ≤ v1) then
        some s
      else
        (f153 v1 s).bind fun q2 => (if (q2 = (0 : Int32)) then
          r152 k 1 v1 v1 s
        else
          r152 k 0 (v1 + Int32.ofInt 1) 0 s)) else
    (if ((s.2.2.1 19) ≤ (v2 + (1 : Int32))) then
        pt (uF 19 ((s.2.2.1 19) - (1 : Int32)) s) fun s2 => r152 k 0 0 0 s2
      else
        rdI 100 (v2 + (1 : Int32)) (rdI 100 v2 (pt (uA 49 (upd (s.1 49) (Int32.toNatClampNeg v2) (s.1 49 (Int32.toNatClampNeg (v2 + (1 : Int32))))) s) fun s6 => r152 k 1 v1 (v2 + Int32.ofInt 1) s6)))
theorem s152 {S : mE} {ex : mHp} (k : Nat) : (∀ (v1 : Int32) (v2 : Int32) (s : mS) (r : mS), r152 k 0 v1 v2 s = some r → Run S 152 (2, [(0, .ref 42), (1, .int v1)], [], hp s ex) (.inl none, hp r ex)) ∧ (∀ (v1 : Int32) (v2 : Int32) (s : mS) (r : mS), r152 k 1 v1 v2 s = some r → Run S 152 (26, [(0, .ref 42), (1, .int v1), (2, .int v2)], [], hp s ex) (.inl none, hp r ex)) := by
  induction k with
  | zero => refine ⟨?_, ?_⟩ <;> (intro v1 v2 s r h; cases h)
  | succ k ih =>
    refine ⟨?_, ?_⟩
    · intro v1 v2 s r h
      rw [r152, if_pos rfl] at h
      refine R_p d152_2 rfl rfl ?_
      refine R_p d152_3 rfl rfl ?_
      refine R_get d152_4 (Or.inl (List.mem_of_getElem? (i := 59) rfl)) (hg42 _ _) rfl ?_
      rcases ite_some h with ⟨c1, h⟩ | ⟨c1, h⟩
      · refine R_br 71 d152_7 (mb_t (b := ((s.2.2.1 19) ≤ v1)) c1) rfl ?_
        cases h
        exact R_vret d152_71 rfl rfl
      · refine R_nb d152_7 rfl (mb_f (b := ((s.2.2.1 19) ≤ v1)) c1) ?_
        refine R_p d152_10 rfl rfl ?_
        refine R_p d152_11 rfl rfl ?_
        obtain ⟨q2, e3, h⟩ := bd_some h
        refine R_cm [.int v1] d152_12 (List.mem_of_getElem? (i := 200) rfl) rfl ⟨by decide, by decide, Nat.le_of_ble_eq_true rfl, rfl, mcd153⟩ rfl rfl (Nat.le_of_ble_eq_true rfl) (hg42 _ _) rfl (t_f153 e3) ?_
        rcases ite_some h with ⟨c4, h⟩ | ⟨c4, h⟩
        · refine R_br 24 d152_15 (mb_t (b := (q2 = (0 : Int32))) c4) rfl ?_
          refine R_p d152_24 rfl rfl ?_
          refine R_p (ls' := [(0, .ref 42), (1, .int v1), (2, .int v1)]) d152_25 rfl rfl ?_
          exact ih.2 v1 v1 s _ h
        · refine R_nb d152_15 rfl (mb_f (b := (q2 = (0 : Int32))) c4) ?_
          refine R_p (ls' := [(0, .ref 42), (1, .int (v1 + Int32.ofInt 1))]) d152_18 rfl rfl ?_
          refine R_br 2 d152_21 rfl rfl ?_
          exact ih.1 (v1 + Int32.ofInt 1) 0 s _ h
    · intro v1 v2 s r h
      rw [r152, if_neg (by decide)] at h
      refine R_p d152_26 rfl rfl ?_
      refine R_ic (v := 1) d152_27 (by decide) ?_
      refine R_p d152_28 rfl rfl ?_
      refine R_p d152_29 rfl rfl ?_
      refine R_get d152_30 (Or.inl (List.mem_of_getElem? (i := 59) rfl)) (hg42 _ _) rfl ?_
      rcases ite_some h with ⟨c1, h⟩ | ⟨c1, h⟩
      · refine R_br 56 d152_33 (mb_t (b := ((s.2.2.1 19) ≤ (v2 + (1 : Int32)))) c1) rfl ?_
        refine R_p d152_56 rfl rfl ?_
        refine R_p d152_57 rfl rfl ?_
        refine R_get d152_58 (Or.inl (List.mem_of_getElem? (i := 59) rfl)) (hg42 _ _) rfl ?_
        refine R_ic (v := 1) d152_61 (by decide) ?_
        refine R_p d152_62 rfl rfl ?_
        obtain ⟨s2, e3, h⟩ := pt_some h
        refine R_put d152_63 (List.mem_of_getElem? (i := 59) rfl) (hg42 _ _) (Nat.le_of_ble_eq_true rfl) rfl rfl (Or.inl rfl) ?_
        refine R_h (hp s2 ex) (by rw [e3]; exact hF19 _ _ _) ?_
        refine R_ic (v := 0) d152_66 (by decide) ?_
        refine R_p (ls' := [(0, .ref 42), (1, .int 0), (2, .int v2)]) d152_67 rfl rfl ?_
        refine R_br 2 d152_68 rfl rfl ?_
        exact R_wk [(0, .ref 42), (1, .int 0)] (by simp) (ih.1 0 0 s2 _ h)
      · refine R_nb d152_33 rfl (mb_f (b := ((s.2.2.1 19) ≤ (v2 + (1 : Int32)))) c1) ?_
        refine R_p d152_36 rfl rfl ?_
        refine R_get d152_37 (Or.inl (List.mem_of_getElem? (i := 60) rfl)) (hg42 _ _) rfl ?_
        refine R_p d152_40 rfl rfl ?_
        refine R_p d152_41 rfl rfl ?_
        refine R_get d152_42 (Or.inl (List.mem_of_getElem? (i := 60) rfl)) (hg42 _ _) rfl ?_
        refine R_p d152_45 rfl rfl ?_
        refine R_ic (v := 1) d152_46 (by decide) ?_
        refine R_p d152_47 rfl rfl ?_
        obtain ⟨c4, h⟩ := rdI_some h
        refine R_ild d152_48 (hg49 _ _) c4 ?_
        obtain ⟨c5, h⟩ := rdI_some h
        obtain ⟨s6, e7, h⟩ := pt_some h
        refine R_ist d152_49 (hg49 _ _) c5 ?_
        refine R_h (hp s6 ex) (by rw [e7]; exact hA49 _ _ _) ?_
        refine R_p (ls' := [(0, .ref 42), (1, .int v1), (2, .int (v2 + Int32.ofInt 1))]) d152_50 rfl rfl ?_
        refine R_br 26 d152_53 rfl rfl ?_
        exact ih.2 v1 (v2 + Int32.ofInt 1) s6 _ h
def f152 (k : Nat) (s : mS) : Option (mS) :=
  r152 k 0 0 0 s
theorem t_f152 {S : mE} {ex : mHp} {k : Nat} {s : mS} {r : mS} (h : f152 k s = some r) : Run S 152 (0, [(0, .ref 42)], [], hp s ex) (.inl none, hp r ex) := by
  unfold f152 at h
  refine R_ic (v := 0) d152_0 (by decide) ?_
  refine R_p (ls' := [(0, .ref 42), (1, .int 0)]) d152_1 rfl rfl ?_
  exact (s152 (S := S) (ex := ex) k).1 0 0 s _ h
def r147 : Nat → Int32 → Int32 → Int32 → Int32 → Int32 → Int32 → mS → Option (Int32 × mS)
  | 0, _, _, _, _, _, _, _ => none
  | k + 1, v1, v2, v3, v4, v5, v6, s =>
    rdI 100 ((s.2.2.1 18) - (1 : Int32)) ((if ((s.1 48 (Int32.toNatClampNeg ((s.2.2.1 18) - (1 : Int32)))) = v6) then
        (f151 k s).bind fun q3 => (f152 k q3).bind fun q5 => some ((q5.2.2.1 19), q5)
      else
        rdI 100 ((s.2.2.1 18) - (1 : Int32)) ((f150 k (s.1 48 (Int32.toNatClampNeg ((s.2.2.1 18) - (1 : Int32)))) s).bind fun q8 => r147 k v1 v2 v3 v4 v5 v6 q8)))
theorem s147 {S : mE} {ex : mHp} (k : Nat) : (∀ (v1 : Int32) (v2 : Int32) (v3 : Int32) (v4 : Int32) (v5 : Int32) (v6 : Int32) (s : mS) (r : Int32 × mS), r147 k v1 v2 v3 v4 v5 v6 s = some r → Run S 147 (134, [(0, .ref 42), (1, .int v1), (2, .int v2), (3, .int v3), (4, .int v4), (5, .int v5), (6, .int v6)], [], hp s ex) (.inl (some (.int r.1)), hp r.2 ex)) := by
  induction k with
  | zero => intro v1 v2 v3 v4 v5 v6 s r h; cases h
  | succ k ih =>
    intro v1 v2 v3 v4 v5 v6 s r h
    rw [r147] at h
    refine R_p d147_134 rfl rfl ?_
    refine R_get d147_135 (Or.inl (List.mem_of_getElem? (i := 58) rfl)) (hg42 _ _) rfl ?_
    refine R_p d147_138 rfl rfl ?_
    refine R_get d147_139 (Or.inl (List.mem_of_getElem? (i := 57) rfl)) (hg42 _ _) rfl ?_
    refine R_ic (v := 1) d147_142 (by decide) ?_
    refine R_p d147_143 rfl rfl ?_
    obtain ⟨c1, h⟩ := rdI_some h
    refine R_ild d147_144 (hg48 _ _) c1 ?_
    refine R_p d147_145 rfl rfl ?_
    rcases ite_some h with ⟨c2, h⟩ | ⟨c2, h⟩
    · refine R_br 168 d147_147 (mb_t (b := ((s.1 48 (Int32.toNatClampNeg ((s.2.2.1 18) - (1 : Int32)))) = v6)) c2) rfl ?_
      refine R_p d147_168 rfl rfl ?_
      obtain ⟨q3, e4, h⟩ := bd_some h
      refine R_cm [] d147_169 (List.mem_of_getElem? (i := 198) rfl) rfl ⟨by decide, by decide, Nat.le_of_ble_eq_true rfl, rfl, mcd151⟩ rfl rfl (Nat.le_of_ble_eq_true rfl) (hg42 _ _) rfl (t_f151 e4) ?_
      refine R_p d147_172 rfl rfl ?_
      obtain ⟨q5, e6, h⟩ := bd_some h
      refine R_cm [] d147_173 (List.mem_of_getElem? (i := 199) rfl) rfl ⟨by decide, by decide, Nat.le_of_ble_eq_true rfl, rfl, mcd152⟩ rfl rfl (Nat.le_of_ble_eq_true rfl) (hg42 _ _) rfl (t_f152 e6) ?_
      refine R_p d147_176 rfl rfl ?_
      refine R_get d147_177 (Or.inl (List.mem_of_getElem? (i := 59) rfl)) (hg42 _ _) rfl ?_
      cases h
      exact R_iret d147_180 rfl rfl rfl
    · refine R_nb d147_147 rfl (mb_f (b := ((s.1 48 (Int32.toNatClampNeg ((s.2.2.1 18) - (1 : Int32)))) = v6)) c2) ?_
      refine R_p d147_150 rfl rfl ?_
      refine R_p d147_151 rfl rfl ?_
      refine R_get d147_152 (Or.inl (List.mem_of_getElem? (i := 58) rfl)) (hg42 _ _) rfl ?_
      refine R_p d147_155 rfl rfl ?_
      refine R_get d147_156 (Or.inl (List.mem_of_getElem? (i := 57) rfl)) (hg42 _ _) rfl ?_
      refine R_ic (v := 1) d147_159 (by decide) ?_
      refine R_p d147_160 rfl rfl ?_
      obtain ⟨c7, h⟩ := rdI_some h
      refine R_ild d147_161 (hg48 _ _) c7 ?_
      obtain ⟨q8, e9, h⟩ := bd_some h
      refine R_cm [.int (s.1 48 (Int32.toNatClampNeg ((s.2.2.1 18) - (1 : Int32))))] d147_162 (List.mem_of_getElem? (i := 197) rfl) rfl ⟨by decide, by decide, Nat.le_of_ble_eq_true rfl, rfl, mcd150⟩ rfl rfl (Nat.le_of_ble_eq_true rfl) (hg42 _ _) rfl (t_f150 e9) ?_
      refine R_br 134 d147_165 rfl rfl ?_
      exact ih v1 v2 v3 v4 v5 v6 q8 _ h
def j147_31 (k : Nat) (v1 : Int32) (v2 : Int32) (v3 : Int32) (v4 : Int32) (s : mS) : Option (Int32 × mS) :=
  (f128 k s).bind fun q1 => rdI 42 (40 : Int32) (pt (uJ 43 (vp_updL (q1.2.1 43) (Int32.toNatClampNeg 40) (Int32.toInt64 v1)) q1) fun s4 => rdI 42 (40 : Int32) (pt (uJ 44 (vp_updL (s4.2.1 44) (Int32.toNatClampNeg 40) (Int32.toInt64 v2)) s4) fun s7 => rdI 42 (41 : Int32) (pt (uJ 43 (vp_updL (s7.2.1 43) (Int32.toNatClampNeg 41) (Int32.toInt64 v3)) s7) fun s10 => rdI 42 (41 : Int32) (pt (uJ 44 (vp_updL (s10.2.1 44) (Int32.toNatClampNeg 41) (Int32.toInt64 v4)) s10) fun s13 => (f146 k (40 : Int32) s13).bind fun q15 => (f146 k (41 : Int32) s13).bind fun q17 => (if (q15 < (0 : Int32)) then
    some ((-1 : Int32), s13)
  else
    (if ((0 : Int32) ≤ q17) then
      (f148 k q17 s13).bind fun q21 => rdI 100 q15 ((if (¬ (q21.1 50 (Int32.toNatClampNeg q15)) = (1000 : Int32)) then
        pt (uF 18 (1 : Int32) q21) fun s25 => rdI 100 (0 : Int32) (pt (uA 48 (upd (s25.1 48) (Int32.toNatClampNeg 0) q15) s25) fun s28 => r147 k v1 v2 v3 v4 q15 q17 s28)
      else
        some ((-1 : Int32), q21)))
    else
      some ((-1 : Int32), s13)))))))
theorem t_j147_31 {S : mE} {ex : mHp} (k : Nat) (v1 : Int32) (v2 : Int32) (v3 : Int32) (v4 : Int32) (s : mS) (r : Int32 × mS) (h : j147_31 k v1 v2 v3 v4 s = some r) : Run S 147 (31, [(0, .ref 42), (1, .int v1), (2, .int v2), (3, .int v3), (4, .int v4)], [], hp s ex) (.inl (some (.int r.1)), hp r.2 ex) := by
  unfold j147_31 at h
  refine R_p d147_31 rfl rfl ?_
  obtain ⟨q1, e2, h⟩ := bd_some h
  refine R_cm [] d147_32 (List.mem_of_getElem? (i := 175) rfl) rfl ⟨by decide, by decide, Nat.le_of_ble_eq_true rfl, rfl, mcd128⟩ rfl rfl (Nat.le_of_ble_eq_true rfl) (hg42 _ _) rfl (t_f128 e2) ?_
  refine R_p d147_35 rfl rfl ?_
  refine R_get d147_36 (Or.inl (List.mem_of_getElem? (i := 50) rfl)) (hg42 _ _) rfl ?_
  refine R_bi (v := 40) d147_39 (by decide) ?_
  refine R_p d147_41 rfl rfl ?_
  refine R_p d147_42 rfl rfl ?_
  obtain ⟨c3, h⟩ := rdI_some h
  obtain ⟨s4, e5, h⟩ := pt_some h
  refine R_lst d147_43 (hg43 _ _) c3 ?_
  refine R_h (hp s4 ex) (by rw [e5]; exact hA43 _ _ _) ?_
  refine R_p d147_44 rfl rfl ?_
  refine R_get d147_45 (Or.inl (List.mem_of_getElem? (i := 51) rfl)) (hg42 _ _) rfl ?_
  refine R_bi (v := 40) d147_48 (by decide) ?_
  refine R_p d147_50 rfl rfl ?_
  refine R_p d147_51 rfl rfl ?_
  obtain ⟨c6, h⟩ := rdI_some h
  obtain ⟨s7, e8, h⟩ := pt_some h
  refine R_lst d147_52 (hg44 _ _) c6 ?_
  refine R_h (hp s7 ex) (by rw [e8]; exact hA44 _ _ _) ?_
  refine R_p d147_53 rfl rfl ?_
  refine R_get d147_54 (Or.inl (List.mem_of_getElem? (i := 50) rfl)) (hg42 _ _) rfl ?_
  refine R_bi (v := 41) d147_57 (by decide) ?_
  refine R_p d147_59 rfl rfl ?_
  refine R_p d147_60 rfl rfl ?_
  obtain ⟨c9, h⟩ := rdI_some h
  obtain ⟨s10, e11, h⟩ := pt_some h
  refine R_lst d147_61 (hg43 _ _) c9 ?_
  refine R_h (hp s10 ex) (by rw [e11]; exact hA43 _ _ _) ?_
  refine R_p d147_62 rfl rfl ?_
  refine R_get d147_63 (Or.inl (List.mem_of_getElem? (i := 51) rfl)) (hg42 _ _) rfl ?_
  refine R_bi (v := 41) d147_66 (by decide) ?_
  refine R_p d147_68 rfl rfl ?_
  refine R_p d147_70 rfl rfl ?_
  obtain ⟨c12, h⟩ := rdI_some h
  obtain ⟨s13, e14, h⟩ := pt_some h
  refine R_lst d147_71 (hg44 _ _) c12 ?_
  refine R_h (hp s13 ex) (by rw [e14]; exact hA44 _ _ _) ?_
  refine R_p d147_72 rfl rfl ?_
  refine R_bi (v := 40) d147_73 (by decide) ?_
  obtain ⟨q15, e16, h⟩ := bd_some h
  refine R_cm [.int 40] d147_75 (List.mem_of_getElem? (i := 193) rfl) rfl ⟨by decide, by decide, Nat.le_of_ble_eq_true rfl, rfl, mcd146⟩ rfl rfl (Nat.le_of_ble_eq_true rfl) (hg42 _ _) rfl (t_f146 e16) ?_
  refine R_p (ls' := [(0, .ref 42), (1, .int v1), (2, .int v2), (3, .int v3), (4, .int v4), (5, .int q15)]) d147_78 rfl rfl ?_
  refine R_p d147_80 rfl rfl ?_
  refine R_bi (v := 41) d147_81 (by decide) ?_
  obtain ⟨q17, e18, h⟩ := bd_some h
  refine R_cm [.int 41] d147_83 (List.mem_of_getElem? (i := 193) rfl) rfl ⟨by decide, by decide, Nat.le_of_ble_eq_true rfl, rfl, mcd146⟩ rfl rfl (Nat.le_of_ble_eq_true rfl) (hg42 _ _) rfl (t_f146 e18) ?_
  refine R_p (ls' := [(0, .ref 42), (1, .int v1), (2, .int v2), (3, .int v3), (4, .int v4), (5, .int q15), (6, .int q17)]) d147_86 rfl rfl ?_
  refine R_p d147_88 rfl rfl ?_
  rcases ite_some h with ⟨c19, h⟩ | ⟨c19, h⟩
  · refine R_br 98 d147_90 (mb_t (b := (q15 < (0 : Int32))) c19) rfl ?_
    refine R_ic (v := (-1)) d147_98 (by decide) ?_
    cases h
    exact R_iret d147_99 rfl rfl rfl
  · refine R_nb d147_90 rfl (mb_f (b := (q15 < (0 : Int32))) c19) ?_
    refine R_p d147_93 rfl rfl ?_
    rcases ite_some h with ⟨c20, h⟩ | ⟨c20, h⟩
    · refine R_br 100 d147_95 (mb_t (b := ((0 : Int32) ≤ q17)) c20) rfl ?_
      refine R_p d147_100 rfl rfl ?_
      refine R_p d147_101 rfl rfl ?_
      obtain ⟨q21, e22, h⟩ := bd_some h
      refine R_cm [.int q17] d147_103 (List.mem_of_getElem? (i := 195) rfl) rfl ⟨by decide, by decide, Nat.le_of_ble_eq_true rfl, rfl, mcd148⟩ rfl rfl (Nat.le_of_ble_eq_true rfl) (hg42 _ _) rfl (t_f148 e22) ?_
      refine R_p d147_106 rfl rfl ?_
      refine R_get d147_107 (Or.inl (List.mem_of_getElem? (i := 61) rfl)) (hg42 _ _) rfl ?_
      refine R_p d147_110 rfl rfl ?_
      obtain ⟨c23, h⟩ := rdI_some h
      refine R_ild d147_112 (hg50 _ _) c23 ?_
      refine R_si (v := 1000) d147_113 (by decide) ?_
      rcases ite_some h with ⟨c24, h⟩ | ⟨c24, h⟩
      · refine R_br 121 d147_116 (mb_t (b := (¬ (q21.1 50 (Int32.toNatClampNeg q15)) = (1000 : Int32))) c24) rfl ?_
        refine R_p d147_121 rfl rfl ?_
        refine R_ic (v := 1) d147_122 (by decide) ?_
        obtain ⟨s25, e26, h⟩ := pt_some h
        refine R_put d147_123 (List.mem_of_getElem? (i := 57) rfl) (hg42 _ _) (Nat.le_of_ble_eq_true rfl) rfl rfl (Or.inl rfl) ?_
        refine R_h (hp s25 ex) (by rw [e26]; exact hF18 _ _ _) ?_
        refine R_p d147_126 rfl rfl ?_
        refine R_get d147_127 (Or.inl (List.mem_of_getElem? (i := 58) rfl)) (hg42 _ _) rfl ?_
        refine R_ic (v := 0) d147_130 (by decide) ?_
        refine R_p d147_131 rfl rfl ?_
        obtain ⟨c27, h⟩ := rdI_some h
        obtain ⟨s28, e29, h⟩ := pt_some h
        refine R_ist d147_133 (hg48 _ _) c27 ?_
        refine R_h (hp s28 ex) (by rw [e29]; exact hA48 _ _ _) ?_
        exact s147 (S := S) (ex := ex) k v1 v2 v3 v4 q15 q17 s28 _ h
      · refine R_nb d147_116 rfl (mb_f (b := (¬ (q21.1 50 (Int32.toNatClampNeg q15)) = (1000 : Int32))) c24) ?_
        refine R_ic (v := (-1)) d147_119 (by decide) ?_
        cases h
        exact R_iret d147_120 rfl rfl rfl
    · refine R_nb d147_95 rfl (mb_f (b := ((0 : Int32) ≤ q17)) c20) ?_
      refine R_ic (v := (-1)) d147_98 (by decide) ?_
      cases h
      exact R_iret d147_99 rfl rfl rfl
def f147 (k : Nat) (v1 : Int32) (v2 : Int32) (v3 : Int32) (v4 : Int32) (s : mS) : Option (Int32 × mS) :=
  (f115 v1 v2 s).bind fun q1 => (if (q1 = (0 : Int32)) then
    (f117 (1 : Int32) s).bind fun q4 => (if (q4.1 = (0 : Int32)) then
      j147_31 k v1 v2 v3 v4 q4.2
    else
      some ((0 : Int32), q4.2))
  else
    (f115 v3 v4 s).bind fun q7 => (if (q7 = (0 : Int32)) then
      (f117 (1 : Int32) s).bind fun q10 => (if (q10.1 = (0 : Int32)) then
        j147_31 k v1 v2 v3 v4 q10.2
      else
        some ((0 : Int32), q10.2))
    else
      (f117 (0 : Int32) s).bind fun q13 => (if (q13.1 = (0 : Int32)) then
        j147_31 k v1 v2 v3 v4 q13.2
      else
        some ((0 : Int32), q13.2))))
theorem t_f147 {S : mE} {ex : mHp} {k : Nat} {v1 : Int32} {v2 : Int32} {v3 : Int32} {v4 : Int32} {s : mS} {r : Int32 × mS} (h : f147 k v1 v2 v3 v4 s = some r) : Run S 147 (0, [(0, .ref 42), (1, .int v1), (2, .int v2), (3, .int v3), (4, .int v4)], [], hp s ex) (.inl (some (.int r.1)), hp r.2 ex) := by
  unfold f147 at h
  refine R_p d147_0 rfl rfl ?_
  refine R_p d147_1 rfl rfl ?_
  refine R_p d147_2 rfl rfl ?_
  obtain ⟨q1, e2, h⟩ := bd_some h
  refine R_cs [.int v1, .int v2] d147_3 (List.mem_of_getElem? (i := 162) rfl) rfl ⟨by decide, by decide, Nat.le_of_ble_eq_true rfl, rfl, mcd115⟩ rfl rfl (Nat.le_of_ble_eq_true rfl) (t_f115 e2) ?_
  rcases ite_some h with ⟨c3, h⟩ | ⟨c3, h⟩
  · refine R_br 22 d147_6 (mb_t (b := (q1 = (0 : Int32))) c3) rfl ?_
    refine R_ic (v := 1) d147_22 (by decide) ?_
    obtain ⟨q4, e5, h⟩ := bd_some h
    refine R_cm [.int 1] d147_23 (List.mem_of_getElem? (i := 164) rfl) rfl ⟨by decide, by decide, Nat.le_of_ble_eq_true rfl, rfl, mcd117⟩ rfl rfl (Nat.le_of_ble_eq_true rfl) (hg42 _ _) rfl (t_f117 e5) ?_
    rcases ite_some h with ⟨c6, h⟩ | ⟨c6, h⟩
    · refine R_br 31 d147_26 (mb_t (b := (q4.1 = (0 : Int32))) c6) rfl ?_
      exact t_j147_31 (S := S) (ex := ex) k v1 v2 v3 v4 q4.2 _ h
    · refine R_nb d147_26 rfl (mb_f (b := (q4.1 = (0 : Int32))) c6) ?_
      refine R_ic (v := 0) d147_29 (by decide) ?_
      cases h
      exact R_iret d147_30 rfl rfl rfl
  · refine R_nb d147_6 rfl (mb_f (b := (q1 = (0 : Int32))) c3) ?_
    refine R_p d147_9 rfl rfl ?_
    refine R_p d147_10 rfl rfl ?_
    obtain ⟨q7, e8, h⟩ := bd_some h
    refine R_cs [.int v3, .int v4] d147_12 (List.mem_of_getElem? (i := 162) rfl) rfl ⟨by decide, by decide, Nat.le_of_ble_eq_true rfl, rfl, mcd115⟩ rfl rfl (Nat.le_of_ble_eq_true rfl) (t_f115 e8) ?_
    rcases ite_some h with ⟨c9, h⟩ | ⟨c9, h⟩
    · refine R_br 22 d147_15 (mb_t (b := (q7 = (0 : Int32))) c9) rfl ?_
      refine R_ic (v := 1) d147_22 (by decide) ?_
      obtain ⟨q10, e11, h⟩ := bd_some h
      refine R_cm [.int 1] d147_23 (List.mem_of_getElem? (i := 164) rfl) rfl ⟨by decide, by decide, Nat.le_of_ble_eq_true rfl, rfl, mcd117⟩ rfl rfl (Nat.le_of_ble_eq_true rfl) (hg42 _ _) rfl (t_f117 e11) ?_
      rcases ite_some h with ⟨c12, h⟩ | ⟨c12, h⟩
      · refine R_br 31 d147_26 (mb_t (b := (q10.1 = (0 : Int32))) c12) rfl ?_
        exact t_j147_31 (S := S) (ex := ex) k v1 v2 v3 v4 q10.2 _ h
      · refine R_nb d147_26 rfl (mb_f (b := (q10.1 = (0 : Int32))) c12) ?_
        refine R_ic (v := 0) d147_29 (by decide) ?_
        cases h
        exact R_iret d147_30 rfl rfl rfl
    · refine R_nb d147_15 rfl (mb_f (b := (q7 = (0 : Int32))) c9) ?_
      refine R_ic (v := 0) d147_18 (by decide) ?_
      refine R_br 23 d147_19 rfl rfl ?_
      obtain ⟨q13, e14, h⟩ := bd_some h
      refine R_cm [.int 0] d147_23 (List.mem_of_getElem? (i := 164) rfl) rfl ⟨by decide, by decide, Nat.le_of_ble_eq_true rfl, rfl, mcd117⟩ rfl rfl (Nat.le_of_ble_eq_true rfl) (hg42 _ _) rfl (t_f117 e14) ?_
      rcases ite_some h with ⟨c15, h⟩ | ⟨c15, h⟩
      · refine R_br 31 d147_26 (mb_t (b := (q13.1 = (0 : Int32))) c15) rfl ?_
        exact t_j147_31 (S := S) (ex := ex) k v1 v2 v3 v4 q13.2 _ h
      · refine R_nb d147_26 rfl (mb_f (b := (q13.1 = (0 : Int32))) c15) ?_
        refine R_ic (v := 0) d147_29 (by decide) ?_
        cases h
        exact R_iret d147_30 rfl rfl rfl
def f155 (v1 : Int32) (s : mS) : Option (Int32 × mS) :=
  pt (uF 14 (0 : Int32) s) fun s1 => (f116 v1 (0 : Int32) ((s1.2.2.1 19) - (1 : Int32)) s1).bind fun q3 => (if (q3 = (0 : Int32)) then
    some ((-1 : Int32), s1)
  else
    rdI 100 v1 (some ((s1.1 49 (Int32.toNatClampNeg v1)), s1)))
theorem t_f155 {S : mE} {ex : mHp} {v1 : Int32} {s : mS} {r : Int32 × mS} (h : f155 v1 s = some r) : Run S 155 (0, [(0, .ref 42), (1, .int v1)], [], hp s ex) (.inl (some (.int r.1)), hp r.2 ex) := by
  unfold f155 at h
  refine R_p d155_0 rfl rfl ?_
  refine R_ic (v := 0) d155_1 (by decide) ?_
  obtain ⟨s1, e2, h⟩ := pt_some h
  refine R_put d155_2 (List.mem_of_getElem? (i := 48) rfl) (hg42 _ _) (Nat.le_of_ble_eq_true rfl) rfl rfl (Or.inl rfl) ?_
  refine R_h (hp s1 ex) (by rw [e2]; exact hF14 _ _ _) ?_
  refine R_p d155_5 rfl rfl ?_
  refine R_ic (v := 0) d155_6 (by decide) ?_
  refine R_p d155_7 rfl rfl ?_
  refine R_get d155_8 (Or.inl (List.mem_of_getElem? (i := 59) rfl)) (hg42 _ _) rfl ?_
  refine R_ic (v := 1) d155_11 (by decide) ?_
  refine R_p d155_12 rfl rfl ?_
  obtain ⟨q3, e4, h⟩ := bd_some h
  refine R_cs [.int v1, .int 0, .int ((s1.2.2.1 19) - (1 : Int32))] d155_13 (List.mem_of_getElem? (i := 163) rfl) rfl ⟨by decide, by decide, Nat.le_of_ble_eq_true rfl, rfl, mcd116⟩ rfl rfl (Nat.le_of_ble_eq_true rfl) (t_f116 e4) ?_
  rcases ite_some h with ⟨c5, h⟩ | ⟨c5, h⟩
  · refine R_br 28 d155_16 (mb_t (b := (q3 = (0 : Int32))) c5) rfl ?_
    refine R_ic (v := (-1)) d155_28 (by decide) ?_
    cases h
    exact R_iret d155_29 rfl rfl rfl
  · refine R_nb d155_16 rfl (mb_f (b := (q3 = (0 : Int32))) c5) ?_
    refine R_p d155_19 rfl rfl ?_
    refine R_get d155_20 (Or.inl (List.mem_of_getElem? (i := 60) rfl)) (hg42 _ _) rfl ?_
    refine R_p d155_23 rfl rfl ?_
    obtain ⟨c6, h⟩ := rdI_some h
    refine R_ild d155_24 (hg49 _ _) c6 ?_
    refine R_br 29 d155_25 rfl rfl ?_
    cases h
    exact R_iret d155_29 rfl rfl rfl
def f156 (v1 : Int32) (s : mS) : Option (Int32 × mS) :=
  pt (uF 14 (0 : Int32) s) fun s1 => (f116 v1 (0 : Int32) ((s1.2.2.1 18) - (1 : Int32)) s1).bind fun q3 => (if (q3 = (0 : Int32)) then
    some ((-1 : Int32), s1)
  else
    rdI 100 v1 (some ((s1.1 48 (Int32.toNatClampNeg v1)), s1)))
theorem t_f156 {S : mE} {ex : mHp} {v1 : Int32} {s : mS} {r : Int32 × mS} (h : f156 v1 s = some r) : Run S 156 (0, [(0, .ref 42), (1, .int v1)], [], hp s ex) (.inl (some (.int r.1)), hp r.2 ex) := by
  unfold f156 at h
  refine R_p d156_0 rfl rfl ?_
  refine R_ic (v := 0) d156_1 (by decide) ?_
  obtain ⟨s1, e2, h⟩ := pt_some h
  refine R_put d156_2 (List.mem_of_getElem? (i := 48) rfl) (hg42 _ _) (Nat.le_of_ble_eq_true rfl) rfl rfl (Or.inl rfl) ?_
  refine R_h (hp s1 ex) (by rw [e2]; exact hF14 _ _ _) ?_
  refine R_p d156_5 rfl rfl ?_
  refine R_ic (v := 0) d156_6 (by decide) ?_
  refine R_p d156_7 rfl rfl ?_
  refine R_get d156_8 (Or.inl (List.mem_of_getElem? (i := 57) rfl)) (hg42 _ _) rfl ?_
  refine R_ic (v := 1) d156_11 (by decide) ?_
  refine R_p d156_12 rfl rfl ?_
  obtain ⟨q3, e4, h⟩ := bd_some h
  refine R_cs [.int v1, .int 0, .int ((s1.2.2.1 18) - (1 : Int32))] d156_13 (List.mem_of_getElem? (i := 163) rfl) rfl ⟨by decide, by decide, Nat.le_of_ble_eq_true rfl, rfl, mcd116⟩ rfl rfl (Nat.le_of_ble_eq_true rfl) (t_f116 e4) ?_
  rcases ite_some h with ⟨c5, h⟩ | ⟨c5, h⟩
  · refine R_br 28 d156_16 (mb_t (b := (q3 = (0 : Int32))) c5) rfl ?_
    refine R_ic (v := (-1)) d156_28 (by decide) ?_
    cases h
    exact R_iret d156_29 rfl rfl rfl
  · refine R_nb d156_16 rfl (mb_f (b := (q3 = (0 : Int32))) c5) ?_
    refine R_p d156_19 rfl rfl ?_
    refine R_get d156_20 (Or.inl (List.mem_of_getElem? (i := 58) rfl)) (hg42 _ _) rfl ?_
    refine R_p d156_23 rfl rfl ?_
    obtain ⟨c6, h⟩ := rdI_some h
    refine R_ild d156_24 (hg48 _ _) c6 ?_
    refine R_br 29 d156_25 rfl rfl ?_
    cases h
    exact R_iret d156_29 rfl rfl rfl
