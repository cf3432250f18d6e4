/-! the class: its walk and its funnel, as functions (wip/gen/dec.py) -/
theorem d1_0 : decode (mCode 1) 0 = .ok (.aload_n 0, 1) := by decide +kernel
theorem d1_1 : decode (mCode 1) 1 = .ok (.iconst 0, 1) := by decide +kernel
theorem d1_2 : decode (mCode 1) 2 = .ok (.putfield 19, 3) := by decide +kernel
theorem d1_5 : decode (mCode 1) 5 = .ok (.aload_n 0, 1) := by decide +kernel
theorem d1_6 : decode (mCode 1) 6 = .ok (.iconst 0, 1) := by decide +kernel
theorem d1_7 : decode (mCode 1) 7 = .ok (.putfield 22, 3) := by decide +kernel
theorem d1_10 : decode (mCode 1) 10 = .ok (.return_, 1) := by decide +kernel
theorem d2_0 : decode (mCode 2) 0 = .ok (.aload_n 0, 1) := by decide +kernel
theorem d2_1 : decode (mCode 2) 1 = .ok (.getfield 22, 3) := by decide +kernel
theorem d2_4 : decode (mCode 2) 4 = .ok (.aload_n 0, 1) := by decide +kernel
theorem d2_5 : decode (mCode 2) 5 = .ok (.getfield 19, 3) := by decide +kernel
theorem d2_8 : decode (mCode 2) 8 = .ok (.isub, 1) := by decide +kernel
theorem d2_9 : decode (mCode 2) 9 = .ok (.ireturn, 1) := by decide +kernel
theorem d3_0 : decode (mCode 3) 0 = .ok (.aload_n 0, 1) := by decide +kernel
theorem d3_1 : decode (mCode 3) 1 = .ok (.getfield 22, 3) := by decide +kernel
theorem d3_4 : decode (mCode 3) 4 = .ok (.aload_n 0, 1) := by decide +kernel
theorem d3_5 : decode (mCode 3) 5 = .ok (.getfield 19, 3) := by decide +kernel
theorem d3_8 : decode (mCode 3) 8 = .ok (.isub, 1) := by decide +kernel
theorem d3_9 : decode (mCode 3) 9 = .ok (.iconst 1, 1) := by decide +kernel
theorem d3_10 : decode (mCode 3) 10 = .ok (.if_icmp .le 17, 3) := by decide +kernel
theorem d3_13 : decode (mCode 3) 13 = .ok (.aload_n 0, 1) := by decide +kernel
theorem d3_14 : decode (mCode 3) 14 = .ok (.getfield 9, 3) := by decide +kernel
theorem d3_17 : decode (mCode 3) 17 = .ok (.aload_n 0, 1) := by decide +kernel
theorem d3_18 : decode (mCode 3) 18 = .ok (.getfield 22, 3) := by decide +kernel
theorem d3_21 : decode (mCode 3) 21 = .ok (.iconst 2, 1) := by decide +kernel
theorem d3_22 : decode (mCode 3) 22 = .ok (.isub, 1) := by decide +kernel
theorem d3_23 : decode (mCode 3) 23 = .ok (.iaload, 1) := by decide +kernel
theorem d3_24 : decode (mCode 3) 24 = .ok (.goto 4, 3) := by decide +kernel
theorem d3_27 : decode (mCode 3) 27 = .ok (.iload_n 1, 1) := by decide +kernel
theorem d3_28 : decode (mCode 3) 28 = .ok (.ireturn, 1) := by decide +kernel
theorem d4_0 : decode (mCode 4) 0 = .ok (.aload_n 0, 1) := by decide +kernel
theorem d4_1 : decode (mCode 4) 1 = .ok (.getfield 9, 3) := by decide +kernel
theorem d4_4 : decode (mCode 4) 4 = .ok (.aload_n 0, 1) := by decide +kernel
theorem d4_5 : decode (mCode 4) 5 = .ok (.getfield 22, 3) := by decide +kernel
theorem d4_8 : decode (mCode 4) 8 = .ok (.iconst 1, 1) := by decide +kernel
theorem d4_9 : decode (mCode 4) 9 = .ok (.isub, 1) := by decide +kernel
theorem d4_10 : decode (mCode 4) 10 = .ok (.iaload, 1) := by decide +kernel
theorem d4_11 : decode (mCode 4) 11 = .ok (.ireturn, 1) := by decide +kernel
theorem d5_0 : decode (mCode 5) 0 = .ok (.aload_n 0, 1) := by decide +kernel
theorem d5_1 : decode (mCode 5) 1 = .ok (.dup, 1) := by decide +kernel
theorem d5_2 : decode (mCode 5) 2 = .ok (.getfield 22, 3) := by decide +kernel
theorem d5_5 : decode (mCode 5) 5 = .ok (.iconst 1, 1) := by decide +kernel
theorem d5_6 : decode (mCode 5) 6 = .ok (.isub, 1) := by decide +kernel
theorem d5_7 : decode (mCode 5) 7 = .ok (.putfield 22, 3) := by decide +kernel
theorem d5_10 : decode (mCode 5) 10 = .ok (.return_, 1) := by decide +kernel
theorem d6_0 : decode (mCode 6) 0 = .ok (.aload_n 0, 1) := by decide +kernel
theorem d6_1 : decode (mCode 6) 1 = .ok (.getfield 9, 3) := by decide +kernel
theorem d6_4 : decode (mCode 6) 4 = .ok (.aload_n 0, 1) := by decide +kernel
theorem d6_5 : decode (mCode 6) 5 = .ok (.getfield 19, 3) := by decide +kernel
theorem d6_8 : decode (mCode 6) 8 = .ok (.iaload, 1) := by decide +kernel
theorem d6_9 : decode (mCode 6) 9 = .ok (.ireturn, 1) := by decide +kernel
theorem d7_0 : decode (mCode 7) 0 = .ok (.aload_n 0, 1) := by decide +kernel
theorem d7_1 : decode (mCode 7) 1 = .ok (.dup, 1) := by decide +kernel
theorem d7_2 : decode (mCode 7) 2 = .ok (.getfield 19, 3) := by decide +kernel
theorem d7_5 : decode (mCode 7) 5 = .ok (.iconst 1, 1) := by decide +kernel
theorem d7_6 : decode (mCode 7) 6 = .ok (.iadd, 1) := by decide +kernel
theorem d7_7 : decode (mCode 7) 7 = .ok (.putfield 19, 3) := by decide +kernel
theorem d7_10 : decode (mCode 7) 10 = .ok (.return_, 1) := by decide +kernel
theorem d8_0 : decode (mCode 8) 0 = .ok (.aload_n 0, 1) := by decide +kernel
theorem d8_1 : decode (mCode 8) 1 = .ok (.getfield 9, 3) := by decide +kernel
theorem d8_4 : decode (mCode 8) 4 = .ok (.aload_n 0, 1) := by decide +kernel
theorem d8_5 : decode (mCode 8) 5 = .ok (.getfield 22, 3) := by decide +kernel
theorem d8_8 : decode (mCode 8) 8 = .ok (.iload_n 1, 1) := by decide +kernel
theorem d8_9 : decode (mCode 8) 9 = .ok (.iastore, 1) := by decide +kernel
theorem d8_10 : decode (mCode 8) 10 = .ok (.aload_n 0, 1) := by decide +kernel
theorem d8_11 : decode (mCode 8) 11 = .ok (.dup, 1) := by decide +kernel
theorem d8_12 : decode (mCode 8) 12 = .ok (.getfield 22, 3) := by decide +kernel
theorem d8_15 : decode (mCode 8) 15 = .ok (.iconst 1, 1) := by decide +kernel
theorem d8_16 : decode (mCode 8) 16 = .ok (.iadd, 1) := by decide +kernel
theorem d8_17 : decode (mCode 8) 17 = .ok (.putfield 22, 3) := by decide +kernel
theorem d8_20 : decode (mCode 8) 20 = .ok (.return_, 1) := by decide +kernel
theorem d10_0 : decode (mCode 10) 0 = .ok (.iload_n 1, 1) := by decide +kernel
theorem d10_1 : decode (mCode 10) 1 = .ok (.ifCond .lt 11, 3) := by decide +kernel
theorem d10_4 : decode (mCode 10) 4 = .ok (.iload_n 1, 1) := by decide +kernel
theorem d10_5 : decode (mCode 10) 5 = .ok (.aload_n 0, 1) := by decide +kernel
theorem d10_6 : decode (mCode 10) 6 = .ok (.getfield 31, 3) := by decide +kernel
theorem d10_9 : decode (mCode 10) 9 = .ok (.if_icmp .lt 7, 3) := by decide +kernel
theorem d10_12 : decode (mCode 10) 12 = .ok (.iconst (-1), 1) := by decide +kernel
theorem d10_13 : decode (mCode 10) 13 = .ok (.goto 9, 3) := by decide +kernel
theorem d10_16 : decode (mCode 10) 16 = .ok (.aload_n 0, 1) := by decide +kernel
theorem d10_17 : decode (mCode 10) 17 = .ok (.getfield 23, 3) := by decide +kernel
theorem d10_20 : decode (mCode 10) 20 = .ok (.iload_n 1, 1) := by decide +kernel
theorem d10_21 : decode (mCode 10) 21 = .ok (.iaload, 1) := by decide +kernel
theorem d10_22 : decode (mCode 10) 22 = .ok (.ireturn, 1) := by decide +kernel
theorem d11_0 : decode (mCode 11) 0 = .ok (.aload_n 0, 1) := by decide +kernel
theorem d11_1 : decode (mCode 11) 1 = .ok (.iconst 0, 1) := by decide +kernel
theorem d11_2 : decode (mCode 11) 2 = .ok (.putfield 31, 3) := by decide +kernel
theorem d11_5 : decode (mCode 11) 5 = .ok (.aload_n 0, 1) := by decide +kernel
theorem d11_6 : decode (mCode 11) 6 = .ok (.getfield 14, 3) := by decide +kernel
theorem d11_9 : decode (mCode 11) 9 = .ok (.invokevirtual 35, 3) := by decide +kernel
theorem d11_12 : decode (mCode 11) 12 = .ok (.aload_n 0, 1) := by decide +kernel
theorem d11_13 : decode (mCode 11) 13 = .ok (.getfield 20, 3) := by decide +kernel
theorem d11_16 : decode (mCode 11) 16 = .ok (.invokevirtual 35, 3) := by decide +kernel
theorem d11_19 : decode (mCode 11) 19 = .ok (.aload_n 0, 1) := by decide +kernel
theorem d11_20 : decode (mCode 11) 20 = .ok (.iload_n 1, 1) := by decide +kernel
theorem d11_21 : decode (mCode 11) 21 = .ok (.putfield 38, 3) := by decide +kernel
theorem d11_24 : decode (mCode 11) 24 = .ok (.aload_n 0, 1) := by decide +kernel
theorem d11_25 : decode (mCode 11) 25 = .ok (.iload_n 1, 1) := by decide +kernel
theorem d11_26 : decode (mCode 11) 26 = .ok (.putfield 41, 3) := by decide +kernel
theorem d11_29 : decode (mCode 11) 29 = .ok (.aload_n 0, 1) := by decide +kernel
theorem d11_30 : decode (mCode 11) 30 = .ok (.iload_n 1, 1) := by decide +kernel
theorem d11_31 : decode (mCode 11) 31 = .ok (.putfield 44, 3) := by decide +kernel
theorem d11_34 : decode (mCode 11) 34 = .ok (.return_, 1) := by decide +kernel
theorem d12_0 : decode (mCode 12) 0 = .ok (.iload_n 1, 1) := by decide +kernel
theorem d12_1 : decode (mCode 12) 1 = .ok (.aload_n 0, 1) := by decide +kernel
theorem d12_2 : decode (mCode 12) 2 = .ok (.getfield 41, 3) := by decide +kernel
theorem d12_5 : decode (mCode 12) 5 = .ok (.if_icmp .eq 21, 3) := by decide +kernel
theorem d12_8 : decode (mCode 12) 8 = .ok (.aload_n 0, 1) := by decide +kernel
theorem d12_9 : decode (mCode 12) 9 = .ok (.aload_n 0, 1) := by decide +kernel
theorem d12_10 : decode (mCode 12) 10 = .ok (.getfield 14, 3) := by decide +kernel
theorem d12_13 : decode (mCode 12) 13 = .ok (.aload_n 0, 1) := by decide +kernel
theorem d12_14 : decode (mCode 12) 14 = .ok (.getfield 20, 3) := by decide +kernel
theorem d12_17 : decode (mCode 12) 17 = .ok (.iload_n 1, 1) := by decide +kernel
theorem d12_18 : decode (mCode 12) 18 = .ok (.invokevirtual 47, 3) := by decide +kernel
theorem d12_21 : decode (mCode 12) 21 = .ok (.aload_n 0, 1) := by decide +kernel
theorem d12_22 : decode (mCode 12) 22 = .ok (.iload_n 1, 1) := by decide +kernel
theorem d12_23 : decode (mCode 12) 23 = .ok (.putfield 41, 3) := by decide +kernel
theorem d12_26 : decode (mCode 12) 26 = .ok (.iload_n 2, 1) := by decide +kernel
theorem d12_27 : decode (mCode 12) 27 = .ok (.aload_n 0, 1) := by decide +kernel
theorem d12_28 : decode (mCode 12) 28 = .ok (.getfield 44, 3) := by decide +kernel
theorem d12_31 : decode (mCode 12) 31 = .ok (.if_icmp .eq 21, 3) := by decide +kernel
theorem d12_34 : decode (mCode 12) 34 = .ok (.aload_n 0, 1) := by decide +kernel
theorem d12_35 : decode (mCode 12) 35 = .ok (.aload_n 0, 1) := by decide +kernel
theorem d12_36 : decode (mCode 12) 36 = .ok (.getfield 20, 3) := by decide +kernel
theorem d12_39 : decode (mCode 12) 39 = .ok (.aload_n 0, 1) := by decide +kernel
theorem d12_40 : decode (mCode 12) 40 = .ok (.getfield 14, 3) := by decide +kernel
theorem d12_43 : decode (mCode 12) 43 = .ok (.iload_n 2, 1) := by decide +kernel
theorem d12_44 : decode (mCode 12) 44 = .ok (.invokevirtual 47, 3) := by decide +kernel
theorem d12_47 : decode (mCode 12) 47 = .ok (.aload_n 0, 1) := by decide +kernel
theorem d12_48 : decode (mCode 12) 48 = .ok (.iload_n 2, 1) := by decide +kernel
theorem d12_49 : decode (mCode 12) 49 = .ok (.putfield 44, 3) := by decide +kernel
theorem d12_52 : decode (mCode 12) 52 = .ok (.return_, 1) := by decide +kernel
theorem d13_0 : decode (mCode 13) 0 = .ok (.aload_n 1, 1) := by decide +kernel
theorem d13_1 : decode (mCode 13) 1 = .ok (.invokevirtual 51, 3) := by decide +kernel
theorem d13_4 : decode (mCode 13) 4 = .ok (.istore 4, 2) := by decide +kernel
theorem d13_6 : decode (mCode 13) 6 = .ok (.iload 4, 2) := by decide +kernel
theorem d13_8 : decode (mCode 13) 8 = .ok (.ifCond .le 22, 3) := by decide +kernel
theorem d13_11 : decode (mCode 13) 11 = .ok (.aload_n 0, 1) := by decide +kernel
theorem d13_12 : decode (mCode 13) 12 = .ok (.aload_n 1, 1) := by decide +kernel
theorem d13_13 : decode (mCode 13) 13 = .ok (.iload_n 3, 1) := by decide +kernel
theorem d13_14 : decode (mCode 13) 14 = .ok (.invokevirtual 63, 3) := by decide +kernel
theorem d13_17 : decode (mCode 13) 17 = .ok (.ifCond .ne 13, 3) := by decide +kernel
theorem d13_20 : decode (mCode 13) 20 = .ok (.aload_n 1, 1) := by decide +kernel
theorem d13_21 : decode (mCode 13) 21 = .ok (.invokevirtual 67, 3) := by decide +kernel
theorem d13_24 : decode (mCode 13) 24 = .ok (.iinc 4 (-1), 3) := by decide +kernel
theorem d13_27 : decode (mCode 13) 27 = .ok (.goto (-21), 3) := by decide +kernel
theorem d13_30 : decode (mCode 13) 30 = .ok (.aload_n 1, 1) := by decide +kernel
theorem d13_31 : decode (mCode 13) 31 = .ok (.invokevirtual 51, 3) := by decide +kernel
theorem d13_34 : decode (mCode 13) 34 = .ok (.ifCond .ne 49, 3) := by decide +kernel
theorem d13_37 : decode (mCode 13) 37 = .ok (.aload_n 2, 1) := by decide +kernel
theorem d13_38 : decode (mCode 13) 38 = .ok (.invokevirtual 51, 3) := by decide +kernel
theorem d13_41 : decode (mCode 13) 41 = .ok (.istore 4, 2) := by decide +kernel
theorem d13_43 : decode (mCode 13) 43 = .ok (.iload 4, 2) := by decide +kernel
theorem d13_45 : decode (mCode 13) 45 = .ok (.ifCond .le 38, 3) := by decide +kernel
theorem d13_48 : decode (mCode 13) 48 = .ok (.aload_n 0, 1) := by decide +kernel
theorem d13_49 : decode (mCode 13) 49 = .ok (.aload_n 2, 1) := by decide +kernel
theorem d13_50 : decode (mCode 13) 50 = .ok (.iload_n 3, 1) := by decide +kernel
theorem d13_51 : decode (mCode 13) 51 = .ok (.invokevirtual 70, 3) := by decide +kernel
theorem d13_54 : decode (mCode 13) 54 = .ok (.ifCond .eq 29, 3) := by decide +kernel
theorem d13_57 : decode (mCode 13) 57 = .ok (.aload_n 0, 1) := by decide +kernel
theorem d13_58 : decode (mCode 13) 58 = .ok (.aload_n 2, 1) := by decide +kernel
theorem d13_59 : decode (mCode 13) 59 = .ok (.invokevirtual 54, 3) := by decide +kernel
theorem d13_62 : decode (mCode 13) 62 = .ok (.putfield 38, 3) := by decide +kernel
theorem d13_65 : decode (mCode 13) 65 = .ok (.aload_n 0, 1) := by decide +kernel
theorem d13_66 : decode (mCode 13) 66 = .ok (.aload_n 0, 1) := by decide +kernel
theorem d13_67 : decode (mCode 13) 67 = .ok (.getfield 38, 3) := by decide +kernel
theorem d13_70 : decode (mCode 13) 70 = .ok (.invokevirtual 57, 3) := by decide +kernel
theorem d13_73 : decode (mCode 13) 73 = .ok (.aload_n 2, 1) := by decide +kernel
theorem d13_74 : decode (mCode 13) 74 = .ok (.invokevirtual 60, 3) := by decide +kernel
theorem d13_77 : decode (mCode 13) 77 = .ok (.iinc 4 (-1), 3) := by decide +kernel
theorem d13_80 : decode (mCode 13) 80 = .ok (.goto (-37), 3) := by decide +kernel
theorem d13_83 : decode (mCode 13) 83 = .ok (.aload_n 1, 1) := by decide +kernel
theorem d13_84 : decode (mCode 13) 84 = .ok (.iload_n 3, 1) := by decide +kernel
theorem d13_85 : decode (mCode 13) 85 = .ok (.invokevirtual 73, 3) := by decide +kernel
theorem d13_88 : decode (mCode 13) 88 = .ok (.return_, 1) := by decide +kernel
theorem d14_0 : decode (mCode 14) 0 = .ok (.aload_n 1, 1) := by decide +kernel
theorem d14_1 : decode (mCode 14) 1 = .ok (.getfield 76, 3) := by decide +kernel
theorem d14_4 : decode (mCode 14) 4 = .ok (.i2l, 1) := by decide +kernel
theorem d14_5 : decode (mCode 14) 5 = .ok (.aload_n 0, 1) := by decide +kernel
theorem d14_6 : decode (mCode 14) 6 = .ok (.getfield 27, 3) := by decide +kernel
theorem d14_9 : decode (mCode 14) 9 = .ok (.aload_n 1, 1) := by decide +kernel
theorem d14_10 : decode (mCode 14) 10 = .ok (.aload_n 0, 1) := by decide +kernel
theorem d14_11 : decode (mCode 14) 11 = .ok (.getfield 38, 3) := by decide +kernel
theorem d14_14 : decode (mCode 14) 14 = .ok (.invokevirtual 79, 3) := by decide +kernel
theorem d14_17 : decode (mCode 14) 17 = .ok (.aload_n 1, 1) := by decide +kernel
theorem d14_18 : decode (mCode 14) 18 = .ok (.invokevirtual 83, 3) := by decide +kernel
theorem d14_21 : decode (mCode 14) 21 = .ok (.iload_n 2, 1) := by decide +kernel
theorem d14_22 : decode (mCode 14) 22 = .ok (.invokevirtual 86, 3) := by decide +kernel
theorem d14_25 : decode (mCode 14) 25 = .ok (.lmul, 1) := by decide +kernel
theorem d14_26 : decode (mCode 14) 26 = .ok (.lconst 0, 1) := by decide +kernel
theorem d14_27 : decode (mCode 14) 27 = .ok (.lcmp, 1) := by decide +kernel
theorem d14_28 : decode (mCode 14) 28 = .ok (.ifCond .le 7, 3) := by decide +kernel
theorem d14_31 : decode (mCode 14) 31 = .ok (.iconst 1, 1) := by decide +kernel
theorem d14_32 : decode (mCode 14) 32 = .ok (.goto 4, 3) := by decide +kernel
theorem d14_35 : decode (mCode 14) 35 = .ok (.iconst 0, 1) := by decide +kernel
theorem d14_36 : decode (mCode 14) 36 = .ok (.ireturn, 1) := by decide +kernel
theorem d15_0 : decode (mCode 15) 0 = .ok (.aload_n 1, 1) := by decide +kernel
theorem d15_1 : decode (mCode 15) 1 = .ok (.getfield 76, 3) := by decide +kernel
theorem d15_4 : decode (mCode 15) 4 = .ok (.i2l, 1) := by decide +kernel
theorem d15_5 : decode (mCode 15) 5 = .ok (.aload_n 0, 1) := by decide +kernel
theorem d15_6 : decode (mCode 15) 6 = .ok (.getfield 27, 3) := by decide +kernel
theorem d15_9 : decode (mCode 15) 9 = .ok (.aload_n 0, 1) := by decide +kernel
theorem d15_10 : decode (mCode 15) 10 = .ok (.getfield 38, 3) := by decide +kernel
theorem d15_13 : decode (mCode 15) 13 = .ok (.aload_n 1, 1) := by decide +kernel
theorem d15_14 : decode (mCode 15) 14 = .ok (.invokevirtual 54, 3) := by decide +kernel
theorem d15_17 : decode (mCode 15) 17 = .ok (.iload_n 2, 1) := by decide +kernel
theorem d15_18 : decode (mCode 15) 18 = .ok (.invokevirtual 86, 3) := by decide +kernel
theorem d15_21 : decode (mCode 15) 21 = .ok (.lmul, 1) := by decide +kernel
theorem d15_22 : decode (mCode 15) 22 = .ok (.lconst 0, 1) := by decide +kernel
theorem d15_23 : decode (mCode 15) 23 = .ok (.lcmp, 1) := by decide +kernel
theorem d15_24 : decode (mCode 15) 24 = .ok (.ifCond .le 7, 3) := by decide +kernel
theorem d15_27 : decode (mCode 15) 27 = .ok (.iconst 1, 1) := by decide +kernel
theorem d15_28 : decode (mCode 15) 28 = .ok (.goto 4, 3) := by decide +kernel
theorem d15_31 : decode (mCode 15) 31 = .ok (.iconst 0, 1) := by decide +kernel
theorem d15_32 : decode (mCode 15) 32 = .ok (.ireturn, 1) := by decide +kernel
theorem d16_0 : decode (mCode 16) 0 = .ok (.aload_n 0, 1) := by decide +kernel
theorem d16_1 : decode (mCode 16) 1 = .ok (.getfield 23, 3) := by decide +kernel
theorem d16_4 : decode (mCode 16) 4 = .ok (.aload_n 0, 1) := by decide +kernel
theorem d16_5 : decode (mCode 16) 5 = .ok (.getfield 31, 3) := by decide +kernel
theorem d16_8 : decode (mCode 16) 8 = .ok (.iload_n 1, 1) := by decide +kernel
theorem d16_9 : decode (mCode 16) 9 = .ok (.iastore, 1) := by decide +kernel
theorem d16_10 : decode (mCode 16) 10 = .ok (.aload_n 0, 1) := by decide +kernel
theorem d16_11 : decode (mCode 16) 11 = .ok (.dup, 1) := by decide +kernel
theorem d16_12 : decode (mCode 16) 12 = .ok (.getfield 31, 3) := by decide +kernel
theorem d16_15 : decode (mCode 16) 15 = .ok (.iconst 1, 1) := by decide +kernel
theorem d16_16 : decode (mCode 16) 16 = .ok (.iadd, 1) := by decide +kernel
theorem d16_17 : decode (mCode 16) 17 = .ok (.putfield 31, 3) := by decide +kernel
theorem d16_20 : decode (mCode 16) 20 = .ok (.return_, 1) := by decide +kernel
theorem d17_0 : decode (mCode 17) 0 = .ok (.aload_n 0, 1) := by decide +kernel
theorem d17_1 : decode (mCode 17) 1 = .ok (.aload_n 0, 1) := by decide +kernel
theorem d17_2 : decode (mCode 17) 2 = .ok (.getfield 14, 3) := by decide +kernel
theorem d17_5 : decode (mCode 17) 5 = .ok (.aload_n 0, 1) := by decide +kernel
theorem d17_6 : decode (mCode 17) 6 = .ok (.getfield 20, 3) := by decide +kernel
theorem d17_9 : decode (mCode 17) 9 = .ok (.iload_n 1, 1) := by decide +kernel
theorem d17_10 : decode (mCode 17) 10 = .ok (.invokevirtual 47, 3) := by decide +kernel
theorem d17_13 : decode (mCode 17) 13 = .ok (.aload_n 0, 1) := by decide +kernel
theorem d17_14 : decode (mCode 17) 14 = .ok (.getfield 14, 3) := by decide +kernel
theorem d17_17 : decode (mCode 17) 17 = .ok (.invokevirtual 51, 3) := by decide +kernel
theorem d17_20 : decode (mCode 17) 20 = .ok (.istore_n 2, 1) := by decide +kernel
theorem d17_21 : decode (mCode 17) 21 = .ok (.iload_n 2, 1) := by decide +kernel
theorem d17_22 : decode (mCode 17) 22 = .ok (.iconst 1, 1) := by decide +kernel
theorem d17_23 : decode (mCode 17) 23 = .ok (.if_icmp .le 27, 3) := by decide +kernel
theorem d17_26 : decode (mCode 17) 26 = .ok (.aload_n 0, 1) := by decide +kernel
theorem d17_27 : decode (mCode 17) 27 = .ok (.aload_n 0, 1) := by decide +kernel
theorem d17_28 : decode (mCode 17) 28 = .ok (.getfield 14, 3) := by decide +kernel
theorem d17_31 : decode (mCode 17) 31 = .ok (.invokevirtual 54, 3) := by decide +kernel
theorem d17_34 : decode (mCode 17) 34 = .ok (.invokevirtual 57, 3) := by decide +kernel
theorem d17_37 : decode (mCode 17) 37 = .ok (.aload_n 0, 1) := by decide +kernel
theorem d17_38 : decode (mCode 17) 38 = .ok (.getfield 14, 3) := by decide +kernel
theorem d17_41 : decode (mCode 17) 41 = .ok (.invokevirtual 60, 3) := by decide +kernel
theorem d17_44 : decode (mCode 17) 44 = .ok (.iinc 2 (-1), 3) := by decide +kernel
theorem d17_47 : decode (mCode 17) 47 = .ok (.goto (-26), 3) := by decide +kernel
theorem d17_50 : decode (mCode 17) 50 = .ok (.aload_n 0, 1) := by decide +kernel
theorem d17_51 : decode (mCode 17) 51 = .ok (.getfield 31, 3) := by decide +kernel
theorem d17_54 : decode (mCode 17) 54 = .ok (.ifCond .le 28, 3) := by decide +kernel
theorem d17_57 : decode (mCode 17) 57 = .ok (.aload_n 0, 1) := by decide +kernel
theorem d17_58 : decode (mCode 17) 58 = .ok (.getfield 23, 3) := by decide +kernel
theorem d17_61 : decode (mCode 17) 61 = .ok (.aload_n 0, 1) := by decide +kernel
theorem d17_62 : decode (mCode 17) 62 = .ok (.getfield 31, 3) := by decide +kernel
theorem d17_65 : decode (mCode 17) 65 = .ok (.iconst 1, 1) := by decide +kernel
theorem d17_66 : decode (mCode 17) 66 = .ok (.isub, 1) := by decide +kernel
theorem d17_67 : decode (mCode 17) 67 = .ok (.iaload, 1) := by decide +kernel
theorem d17_68 : decode (mCode 17) 68 = .ok (.iload_n 1, 1) := by decide +kernel
theorem d17_69 : decode (mCode 17) 69 = .ok (.if_icmp .ne 13, 3) := by decide +kernel
theorem d17_72 : decode (mCode 17) 72 = .ok (.aload_n 0, 1) := by decide +kernel
theorem d17_73 : decode (mCode 17) 73 = .ok (.dup, 1) := by decide +kernel
theorem d17_74 : decode (mCode 17) 74 = .ok (.getfield 31, 3) := by decide +kernel
theorem d17_77 : decode (mCode 17) 77 = .ok (.iconst 1, 1) := by decide +kernel
theorem d17_78 : decode (mCode 17) 78 = .ok (.isub, 1) := by decide +kernel
theorem d17_79 : decode (mCode 17) 79 = .ok (.putfield 31, 3) := by decide +kernel
theorem d17_82 : decode (mCode 17) 82 = .ok (.return_, 1) := by decide +kernel
theorem d18_0 : decode (mCode 18) 0 = .ok (.aload_n 0, 1) := by decide +kernel
theorem d18_1 : decode (mCode 18) 1 = .ok (.getfield 31, 3) := by decide +kernel
theorem d18_4 : decode (mCode 18) 4 = .ok (.ireturn, 1) := by decide +kernel
theorem d79_0 : decode (mCode 79) 0 = .ok (.aload_n 0, 1) := by decide +kernel
theorem d79_1 : decode (mCode 79) 1 = .ok (.getfield 34, 3) := by decide +kernel
theorem d79_4 : decode (mCode 79) 4 = .ok (.iload_n 1, 1) := by decide +kernel
theorem d79_5 : decode (mCode 79) 5 = .ok (.invokevirtual 42, 3) := by decide +kernel
theorem d79_8 : decode (mCode 79) 8 = .ok (.ireturn, 1) := by decide +kernel
theorem d80_0 : decode (mCode 80) 0 = .ok (.iload_n 1, 1) := by decide +kernel
theorem d80_1 : decode (mCode 80) 1 = .ok (.ifCond .lt 11, 3) := by decide +kernel
theorem d80_4 : decode (mCode 80) 4 = .ok (.iload_n 1, 1) := by decide +kernel
theorem d80_5 : decode (mCode 80) 5 = .ok (.aload_n 0, 1) := by decide +kernel
theorem d80_6 : decode (mCode 80) 6 = .ok (.getfield 38, 3) := by decide +kernel
theorem d80_9 : decode (mCode 80) 9 = .ok (.if_icmp .lt 7, 3) := by decide +kernel
theorem d80_12 : decode (mCode 80) 12 = .ok (.iconst (-1), 1) := by decide +kernel
theorem d80_13 : decode (mCode 80) 13 = .ok (.goto 9, 3) := by decide +kernel
theorem d80_16 : decode (mCode 80) 16 = .ok (.aload_n 0, 1) := by decide +kernel
theorem d80_17 : decode (mCode 80) 17 = .ok (.getfield 9, 3) := by decide +kernel
theorem d80_20 : decode (mCode 80) 20 = .ok (.iload_n 1, 1) := by decide +kernel
theorem d80_21 : decode (mCode 80) 21 = .ok (.iaload, 1) := by decide +kernel
theorem d80_22 : decode (mCode 80) 22 = .ok (.ireturn, 1) := by decide +kernel
theorem d81_0 : decode (mCode 81) 0 = .ok (.aload_n 0, 1) := by decide +kernel
theorem d81_1 : decode (mCode 81) 1 = .ok (.iload_n 2, 1) := by decide +kernel
theorem d81_2 : decode (mCode 81) 2 = .ok (.invokevirtual 46, 3) := by decide +kernel
theorem d81_5 : decode (mCode 81) 5 = .ok (.aload_n 0, 1) := by decide +kernel
theorem d81_6 : decode (mCode 81) 6 = .ok (.getfield 15, 3) := by decide +kernel
theorem d81_9 : decode (mCode 81) 9 = .ok (.iload_n 1, 1) := by decide +kernel
theorem d81_10 : decode (mCode 81) 10 = .ok (.iaload, 1) := by decide +kernel
theorem d81_11 : decode (mCode 81) 11 = .ok (.iconst (-1), 1) := by decide +kernel
theorem d81_12 : decode (mCode 81) 12 = .ok (.if_icmp .ne 5, 3) := by decide +kernel
theorem d81_15 : decode (mCode 81) 15 = .ok (.iconst 0, 1) := by decide +kernel
theorem d81_16 : decode (mCode 81) 16 = .ok (.ireturn, 1) := by decide +kernel
theorem d81_17 : decode (mCode 81) 17 = .ok (.aload_n 0, 1) := by decide +kernel
theorem d81_18 : decode (mCode 81) 18 = .ok (.aload_n 0, 1) := by decide +kernel
theorem d81_19 : decode (mCode 81) 19 = .ok (.getfield 15, 3) := by decide +kernel
theorem d81_22 : decode (mCode 81) 22 = .ok (.iload_n 1, 1) := by decide +kernel
theorem d81_23 : decode (mCode 81) 23 = .ok (.iaload, 1) := by decide +kernel
theorem d81_24 : decode (mCode 81) 24 = .ok (.iconst 1, 1) := by decide +kernel
theorem d81_25 : decode (mCode 81) 25 = .ok (.iadd, 1) := by decide +kernel
theorem d81_26 : decode (mCode 81) 26 = .ok (.putfield 38, 3) := by decide +kernel
theorem d81_29 : decode (mCode 81) 29 = .ok (.aload_n 0, 1) := by decide +kernel
theorem d81_30 : decode (mCode 81) 30 = .ok (.getfield 9, 3) := by decide +kernel
theorem d81_33 : decode (mCode 81) 33 = .ok (.iconst 0, 1) := by decide +kernel
theorem d81_34 : decode (mCode 81) 34 = .ok (.iload_n 1, 1) := by decide +kernel
theorem d81_35 : decode (mCode 81) 35 = .ok (.iastore, 1) := by decide +kernel
theorem d81_36 : decode (mCode 81) 36 = .ok (.iconst 1, 1) := by decide +kernel
theorem d81_37 : decode (mCode 81) 37 = .ok (.istore_n 3, 1) := by decide +kernel
theorem d81_38 : decode (mCode 81) 38 = .ok (.iload_n 3, 1) := by decide +kernel
theorem d81_39 : decode (mCode 81) 39 = .ok (.aload_n 0, 1) := by decide +kernel
theorem d81_40 : decode (mCode 81) 40 = .ok (.getfield 38, 3) := by decide +kernel
theorem d81_43 : decode (mCode 81) 43 = .ok (.if_icmp .ge 27, 3) := by decide +kernel
theorem d81_46 : decode (mCode 81) 46 = .ok (.aload_n 0, 1) := by decide +kernel
theorem d81_47 : decode (mCode 81) 47 = .ok (.getfield 9, 3) := by decide +kernel
theorem d81_50 : decode (mCode 81) 50 = .ok (.iload_n 3, 1) := by decide +kernel
theorem d81_51 : decode (mCode 81) 51 = .ok (.aload_n 0, 1) := by decide +kernel
theorem d81_52 : decode (mCode 81) 52 = .ok (.aload_n 0, 1) := by decide +kernel
theorem d81_53 : decode (mCode 81) 53 = .ok (.getfield 9, 3) := by decide +kernel
theorem d81_56 : decode (mCode 81) 56 = .ok (.iload_n 3, 1) := by decide +kernel
theorem d81_57 : decode (mCode 81) 57 = .ok (.iconst 1, 1) := by decide +kernel
theorem d81_58 : decode (mCode 81) 58 = .ok (.isub, 1) := by decide +kernel
theorem d81_59 : decode (mCode 81) 59 = .ok (.iaload, 1) := by decide +kernel
theorem d81_60 : decode (mCode 81) 60 = .ok (.invokevirtual 50, 3) := by decide +kernel
theorem d81_63 : decode (mCode 81) 63 = .ok (.iastore, 1) := by decide +kernel
theorem d81_64 : decode (mCode 81) 64 = .ok (.iinc 3 1, 3) := by decide +kernel
theorem d81_67 : decode (mCode 81) 67 = .ok (.goto (-29), 3) := by decide +kernel
theorem d81_70 : decode (mCode 81) 70 = .ok (.iconst 1, 1) := by decide +kernel
theorem d81_71 : decode (mCode 81) 71 = .ok (.ireturn, 1) := by decide +kernel
theorem d82_0 : decode (mCode 82) 0 = .ok (.aload_n 0, 1) := by decide +kernel
theorem d82_1 : decode (mCode 82) 1 = .ok (.getfield 15, 3) := by decide +kernel
theorem d82_4 : decode (mCode 82) 4 = .ok (.iconst (-1), 1) := by decide +kernel
theorem d82_5 : decode (mCode 82) 5 = .ok (.invokestatic 53, 3) := by decide +kernel
theorem d82_8 : decode (mCode 82) 8 = .ok (.aload_n 0, 1) := by decide +kernel
theorem d82_9 : decode (mCode 82) 9 = .ok (.getfield 15, 3) := by decide +kernel
theorem d82_12 : decode (mCode 82) 12 = .ok (.iload_n 1, 1) := by decide +kernel
theorem d82_13 : decode (mCode 82) 13 = .ok (.iconst 0, 1) := by decide +kernel
theorem d82_14 : decode (mCode 82) 14 = .ok (.iastore, 1) := by decide +kernel
theorem d82_15 : decode (mCode 82) 15 = .ok (.aload_n 0, 1) := by decide +kernel
theorem d82_16 : decode (mCode 82) 16 = .ok (.getfield 18, 3) := by decide +kernel
theorem d82_19 : decode (mCode 82) 19 = .ok (.iconst 0, 1) := by decide +kernel
theorem d82_20 : decode (mCode 82) 20 = .ok (.iload_n 1, 1) := by decide +kernel
theorem d82_21 : decode (mCode 82) 21 = .ok (.iastore, 1) := by decide +kernel
theorem d82_22 : decode (mCode 82) 22 = .ok (.iconst 1, 1) := by decide +kernel
theorem d82_23 : decode (mCode 82) 23 = .ok (.istore_n 2, 1) := by decide +kernel
theorem d82_24 : decode (mCode 82) 24 = .ok (.iconst 0, 1) := by decide +kernel
theorem d82_25 : decode (mCode 82) 25 = .ok (.istore_n 3, 1) := by decide +kernel
theorem d82_26 : decode (mCode 82) 26 = .ok (.iload_n 3, 1) := by decide +kernel
theorem d82_27 : decode (mCode 82) 27 = .ok (.iload_n 2, 1) := by decide +kernel
theorem d82_28 : decode (mCode 82) 28 = .ok (.if_icmp .ge 100, 3) := by decide +kernel
theorem d82_31 : decode (mCode 82) 31 = .ok (.iload_n 3, 1) := by decide +kernel
theorem d82_32 : decode (mCode 82) 32 = .ok (.aload_n 0, 1) := by decide +kernel
theorem d82_33 : decode (mCode 82) 33 = .ok (.getfield 25, 3) := by decide +kernel
theorem d82_36 : decode (mCode 82) 36 = .ok (.invokevirtual 59, 3) := by decide +kernel
theorem d82_39 : decode (mCode 82) 39 = .ok (.if_icmp .ge 89, 3) := by decide +kernel
theorem d82_42 : decode (mCode 82) 42 = .ok (.aload_n 0, 1) := by decide +kernel
theorem d82_43 : decode (mCode 82) 43 = .ok (.getfield 18, 3) := by decide +kernel
theorem d82_46 : decode (mCode 82) 46 = .ok (.iload_n 3, 1) := by decide +kernel
theorem d82_47 : decode (mCode 82) 47 = .ok (.iaload, 1) := by decide +kernel
theorem d82_48 : decode (mCode 82) 48 = .ok (.istore 4, 2) := by decide +kernel
theorem d82_50 : decode (mCode 82) 50 = .ok (.iconst 0, 1) := by decide +kernel
theorem d82_51 : decode (mCode 82) 51 = .ok (.istore 5, 2) := by decide +kernel
theorem d82_53 : decode (mCode 82) 53 = .ok (.iload 5, 2) := by decide +kernel
theorem d82_55 : decode (mCode 82) 55 = .ok (.iconst 3, 1) := by decide +kernel
theorem d82_56 : decode (mCode 82) 56 = .ok (.if_icmp .ge 66, 3) := by decide +kernel
theorem d82_59 : decode (mCode 82) 59 = .ok (.aload_n 0, 1) := by decide +kernel
theorem d82_60 : decode (mCode 82) 60 = .ok (.getfield 25, 3) := by decide +kernel
theorem d82_63 : decode (mCode 82) 63 = .ok (.iload 4, 2) := by decide +kernel
theorem d82_65 : decode (mCode 82) 65 = .ok (.iload 5, 2) := by decide +kernel
theorem d82_67 : decode (mCode 82) 67 = .ok (.invokevirtual 65, 3) := by decide +kernel
theorem d82_70 : decode (mCode 82) 70 = .ok (.istore 6, 2) := by decide +kernel
theorem d82_72 : decode (mCode 82) 72 = .ok (.iload 6, 2) := by decide +kernel
theorem d82_74 : decode (mCode 82) 74 = .ok (.iconst (-1), 1) := by decide +kernel
theorem d82_75 : decode (mCode 82) 75 = .ok (.if_icmp .eq 41, 3) := by decide +kernel
theorem d82_78 : decode (mCode 82) 78 = .ok (.aload_n 0, 1) := by decide +kernel
theorem d82_79 : decode (mCode 82) 79 = .ok (.getfield 15, 3) := by decide +kernel
theorem d82_82 : decode (mCode 82) 82 = .ok (.iload 6, 2) := by decide +kernel
theorem d82_84 : decode (mCode 82) 84 = .ok (.iaload, 1) := by decide +kernel
theorem d82_85 : decode (mCode 82) 85 = .ok (.iconst (-1), 1) := by decide +kernel
theorem d82_86 : decode (mCode 82) 86 = .ok (.if_icmp .ne 30, 3) := by decide +kernel
theorem d82_89 : decode (mCode 82) 89 = .ok (.aload_n 0, 1) := by decide +kernel
theorem d82_90 : decode (mCode 82) 90 = .ok (.getfield 15, 3) := by decide +kernel
theorem d82_93 : decode (mCode 82) 93 = .ok (.iload 6, 2) := by decide +kernel
theorem d82_95 : decode (mCode 82) 95 = .ok (.aload_n 0, 1) := by decide +kernel
theorem d82_96 : decode (mCode 82) 96 = .ok (.getfield 15, 3) := by decide +kernel
theorem d82_99 : decode (mCode 82) 99 = .ok (.iload 4, 2) := by decide +kernel
theorem d82_101 : decode (mCode 82) 101 = .ok (.iaload, 1) := by decide +kernel
theorem d82_102 : decode (mCode 82) 102 = .ok (.iconst 1, 1) := by decide +kernel
theorem d82_103 : decode (mCode 82) 103 = .ok (.iadd, 1) := by decide +kernel
theorem d82_104 : decode (mCode 82) 104 = .ok (.iastore, 1) := by decide +kernel
theorem d82_105 : decode (mCode 82) 105 = .ok (.aload_n 0, 1) := by decide +kernel
theorem d82_106 : decode (mCode 82) 106 = .ok (.getfield 18, 3) := by decide +kernel
theorem d82_109 : decode (mCode 82) 109 = .ok (.iload_n 2, 1) := by decide +kernel
theorem d82_110 : decode (mCode 82) 110 = .ok (.iload 6, 2) := by decide +kernel
theorem d82_112 : decode (mCode 82) 112 = .ok (.iastore, 1) := by decide +kernel
theorem d82_113 : decode (mCode 82) 113 = .ok (.iinc 2 1, 3) := by decide +kernel
theorem d82_116 : decode (mCode 82) 116 = .ok (.iinc 5 1, 3) := by decide +kernel
theorem d82_119 : decode (mCode 82) 119 = .ok (.goto (-66), 3) := by decide +kernel
theorem d82_122 : decode (mCode 82) 122 = .ok (.iinc 3 1, 3) := by decide +kernel
theorem d82_125 : decode (mCode 82) 125 = .ok (.goto (-99), 3) := by decide +kernel
theorem d82_128 : decode (mCode 82) 128 = .ok (.return_, 1) := by decide +kernel
theorem d83_0 : decode (mCode 83) 0 = .ok (.iconst (-1), 1) := by decide +kernel
theorem d83_1 : decode (mCode 83) 1 = .ok (.istore_n 2, 1) := by decide +kernel
theorem d83_2 : decode (mCode 83) 2 = .ok (.iconst 0, 1) := by decide +kernel
theorem d83_3 : decode (mCode 83) 3 = .ok (.istore_n 3, 1) := by decide +kernel
theorem d83_4 : decode (mCode 83) 4 = .ok (.iload_n 3, 1) := by decide +kernel
theorem d83_5 : decode (mCode 83) 5 = .ok (.iconst 3, 1) := by decide +kernel
theorem d83_6 : decode (mCode 83) 6 = .ok (.if_icmp .ge 70, 3) := by decide +kernel
theorem d83_9 : decode (mCode 83) 9 = .ok (.aload_n 0, 1) := by decide +kernel
theorem d83_10 : decode (mCode 83) 10 = .ok (.getfield 25, 3) := by decide +kernel
theorem d83_13 : decode (mCode 83) 13 = .ok (.iload_n 1, 1) := by decide +kernel
theorem d83_14 : decode (mCode 83) 14 = .ok (.iload_n 3, 1) := by decide +kernel
theorem d83_15 : decode (mCode 83) 15 = .ok (.invokevirtual 65, 3) := by decide +kernel
theorem d83_18 : decode (mCode 83) 18 = .ok (.istore 4, 2) := by decide +kernel
theorem d83_20 : decode (mCode 83) 20 = .ok (.iload 4, 2) := by decide +kernel
theorem d83_22 : decode (mCode 83) 22 = .ok (.iconst (-1), 1) := by decide +kernel
theorem d83_23 : decode (mCode 83) 23 = .ok (.if_icmp .eq 25, 3) := by decide +kernel
theorem d83_26 : decode (mCode 83) 26 = .ok (.aload_n 0, 1) := by decide +kernel
theorem d83_27 : decode (mCode 83) 27 = .ok (.getfield 15, 3) := by decide +kernel
theorem d83_30 : decode (mCode 83) 30 = .ok (.iload 4, 2) := by decide +kernel
theorem d83_32 : decode (mCode 83) 32 = .ok (.iaload, 1) := by decide +kernel
theorem d83_33 : decode (mCode 83) 33 = .ok (.aload_n 0, 1) := by decide +kernel
theorem d83_34 : decode (mCode 83) 34 = .ok (.getfield 15, 3) := by decide +kernel
theorem d83_37 : decode (mCode 83) 37 = .ok (.iload_n 1, 1) := by decide +kernel
theorem d83_38 : decode (mCode 83) 38 = .ok (.iaload, 1) := by decide +kernel
theorem d83_39 : decode (mCode 83) 39 = .ok (.iconst 1, 1) := by decide +kernel
theorem d83_40 : decode (mCode 83) 40 = .ok (.isub, 1) := by decide +kernel
theorem d83_41 : decode (mCode 83) 41 = .ok (.if_icmp .ne 7, 3) := by decide +kernel
theorem d83_44 : decode (mCode 83) 44 = .ok (.iconst 1, 1) := by decide +kernel
theorem d83_45 : decode (mCode 83) 45 = .ok (.goto 4, 3) := by decide +kernel
theorem d83_48 : decode (mCode 83) 48 = .ok (.iconst 0, 1) := by decide +kernel
theorem d83_49 : decode (mCode 83) 49 = .ok (.istore 5, 2) := by decide +kernel
theorem d83_51 : decode (mCode 83) 51 = .ok (.iload 5, 2) := by decide +kernel
theorem d83_53 : decode (mCode 83) 53 = .ok (.ifCond .eq 17, 3) := by decide +kernel
theorem d83_56 : decode (mCode 83) 56 = .ok (.iload_n 2, 1) := by decide +kernel
theorem d83_57 : decode (mCode 83) 57 = .ok (.iconst (-1), 1) := by decide +kernel
theorem d83_58 : decode (mCode 83) 58 = .ok (.if_icmp .eq 9, 3) := by decide +kernel
theorem d83_61 : decode (mCode 83) 61 = .ok (.iload 4, 2) := by decide +kernel
theorem d83_63 : decode (mCode 83) 63 = .ok (.iload_n 2, 1) := by decide +kernel
theorem d83_64 : decode (mCode 83) 64 = .ok (.if_icmp .ge 6, 3) := by decide +kernel
theorem d83_67 : decode (mCode 83) 67 = .ok (.iload 4, 2) := by decide +kernel
theorem d83_69 : decode (mCode 83) 69 = .ok (.istore_n 2, 1) := by decide +kernel
theorem d83_70 : decode (mCode 83) 70 = .ok (.iinc 3 1, 3) := by decide +kernel
theorem d83_73 : decode (mCode 83) 73 = .ok (.goto (-69), 3) := by decide +kernel
theorem d83_76 : decode (mCode 83) 76 = .ok (.iload_n 2, 1) := by decide +kernel
theorem d83_77 : decode (mCode 83) 77 = .ok (.ireturn, 1) := by decide +kernel
theorem d84_0 : decode (mCode 84) 0 = .ok (.aload_n 0, 1) := by decide +kernel
theorem d84_1 : decode (mCode 84) 1 = .ok (.getfield 34, 3) := by decide +kernel
theorem d84_4 : decode (mCode 84) 4 = .ok (.aload_n 0, 1) := by decide +kernel
theorem d84_5 : decode (mCode 84) 5 = .ok (.bipush 40, 2) := by decide +kernel
theorem d84_7 : decode (mCode 84) 7 = .ok (.invokevirtual 69, 3) := by decide +kernel
theorem d84_10 : decode (mCode 84) 10 = .ok (.invokevirtual 72, 3) := by decide +kernel
theorem d84_13 : decode (mCode 84) 13 = .ok (.iconst 1, 1) := by decide +kernel
theorem d84_14 : decode (mCode 84) 14 = .ok (.istore_n 1, 1) := by decide +kernel
theorem d84_15 : decode (mCode 84) 15 = .ok (.iload_n 1, 1) := by decide +kernel
theorem d84_16 : decode (mCode 84) 16 = .ok (.aload_n 0, 1) := by decide +kernel
theorem d84_17 : decode (mCode 84) 17 = .ok (.getfield 38, 3) := by decide +kernel
theorem d84_20 : decode (mCode 84) 20 = .ok (.if_icmp .ge 27, 3) := by decide +kernel
theorem d84_23 : decode (mCode 84) 23 = .ok (.aload_n 0, 1) := by decide +kernel
theorem d84_24 : decode (mCode 84) 24 = .ok (.aload_n 0, 1) := by decide +kernel
theorem d84_25 : decode (mCode 84) 25 = .ok (.getfield 9, 3) := by decide +kernel
theorem d84_28 : decode (mCode 84) 28 = .ok (.iload_n 1, 1) := by decide +kernel
theorem d84_29 : decode (mCode 84) 29 = .ok (.iconst 1, 1) := by decide +kernel
theorem d84_30 : decode (mCode 84) 30 = .ok (.isub, 1) := by decide +kernel
theorem d84_31 : decode (mCode 84) 31 = .ok (.iaload, 1) := by decide +kernel
theorem d84_32 : decode (mCode 84) 32 = .ok (.aload_n 0, 1) := by decide +kernel
theorem d84_33 : decode (mCode 84) 33 = .ok (.getfield 9, 3) := by decide +kernel
theorem d84_36 : decode (mCode 84) 36 = .ok (.iload_n 1, 1) := by decide +kernel
theorem d84_37 : decode (mCode 84) 37 = .ok (.iaload, 1) := by decide +kernel
theorem d84_38 : decode (mCode 84) 38 = .ok (.invokevirtual 75, 3) := by decide +kernel
theorem d84_41 : decode (mCode 84) 41 = .ok (.iinc 1 1, 3) := by decide +kernel
theorem d84_44 : decode (mCode 84) 44 = .ok (.goto (-29), 3) := by decide +kernel
theorem d84_47 : decode (mCode 84) 47 = .ok (.aload_n 0, 1) := by decide +kernel
theorem d84_48 : decode (mCode 84) 48 = .ok (.getfield 34, 3) := by decide +kernel
theorem d84_51 : decode (mCode 84) 51 = .ok (.aload_n 0, 1) := by decide +kernel
theorem d84_52 : decode (mCode 84) 52 = .ok (.bipush 41, 2) := by decide +kernel
theorem d84_54 : decode (mCode 84) 54 = .ok (.invokevirtual 69, 3) := by decide +kernel
theorem d84_57 : decode (mCode 84) 57 = .ok (.invokevirtual 79, 3) := by decide +kernel
theorem d84_60 : decode (mCode 84) 60 = .ok (.aload_n 0, 1) := by decide +kernel
theorem d84_61 : decode (mCode 84) 61 = .ok (.getfield 34, 3) := by decide +kernel
theorem d84_64 : decode (mCode 84) 64 = .ok (.invokevirtual 82, 3) := by decide +kernel
theorem d84_67 : decode (mCode 84) 67 = .ok (.ireturn, 1) := by decide +kernel
theorem d85_0 : decode (mCode 85) 0 = .ok (.aload_n 0, 1) := by decide +kernel
theorem d85_1 : decode (mCode 85) 1 = .ok (.getfield 21, 3) := by decide +kernel
theorem d85_4 : decode (mCode 85) 4 = .ok (.iload_n 1, 1) := by decide +kernel
theorem d85_5 : decode (mCode 85) 5 = .ok (.invokevirtual 83, 3) := by decide +kernel
theorem d85_8 : decode (mCode 85) 8 = .ok (.istore_n 2, 1) := by decide +kernel
theorem d85_9 : decode (mCode 85) 9 = .ok (.iload_n 2, 1) := by decide +kernel
theorem d85_10 : decode (mCode 85) 10 = .ok (.iconst (-1), 1) := by decide +kernel
theorem d85_11 : decode (mCode 85) 11 = .ok (.if_icmp .ne 7, 3) := by decide +kernel
theorem d85_14 : decode (mCode 85) 14 = .ok (.iload_n 1, 1) := by decide +kernel
theorem d85_15 : decode (mCode 85) 15 = .ok (.goto 4, 3) := by decide +kernel
theorem d85_18 : decode (mCode 85) 18 = .ok (.iload_n 2, 1) := by decide +kernel
theorem d85_19 : decode (mCode 85) 19 = .ok (.ireturn, 1) := by decide +kernel
theorem d86_0 : decode (mCode 86) 0 = .ok (.iconst 0, 1) := by decide +kernel
theorem d86_1 : decode (mCode 86) 1 = .ok (.istore_n 3, 1) := by decide +kernel
theorem d86_2 : decode (mCode 86) 2 = .ok (.iload_n 3, 1) := by decide +kernel
theorem d86_3 : decode (mCode 86) 3 = .ok (.iconst 3, 1) := by decide +kernel
theorem d86_4 : decode (mCode 86) 4 = .ok (.if_icmp .ge 48, 3) := by decide +kernel
theorem d86_7 : decode (mCode 86) 7 = .ok (.aload_n 0, 1) := by decide +kernel
theorem d86_8 : decode (mCode 86) 8 = .ok (.getfield 25, 3) := by decide +kernel
theorem d86_11 : decode (mCode 86) 11 = .ok (.iload_n 1, 1) := by decide +kernel
theorem d86_12 : decode (mCode 86) 12 = .ok (.iload_n 3, 1) := by decide +kernel
theorem d86_13 : decode (mCode 86) 13 = .ok (.invokevirtual 65, 3) := by decide +kernel
theorem d86_16 : decode (mCode 86) 16 = .ok (.iload_n 2, 1) := by decide +kernel
theorem d86_17 : decode (mCode 86) 17 = .ok (.if_icmp .ne 29, 3) := by decide +kernel
theorem d86_20 : decode (mCode 86) 20 = .ok (.aload_n 0, 1) := by decide +kernel
theorem d86_21 : decode (mCode 86) 21 = .ok (.getfield 34, 3) := by decide +kernel
theorem d86_24 : decode (mCode 86) 24 = .ok (.aload_n 0, 1) := by decide +kernel
theorem d86_25 : decode (mCode 86) 25 = .ok (.getfield 25, 3) := by decide +kernel
theorem d86_28 : decode (mCode 86) 28 = .ok (.iload_n 1, 1) := by decide +kernel
theorem d86_29 : decode (mCode 86) 29 = .ok (.iload_n 3, 1) := by decide +kernel
theorem d86_30 : decode (mCode 86) 30 = .ok (.invokevirtual 88, 3) := by decide +kernel
theorem d86_33 : decode (mCode 86) 33 = .ok (.aload_n 0, 1) := by decide +kernel
theorem d86_34 : decode (mCode 86) 34 = .ok (.getfield 25, 3) := by decide +kernel
theorem d86_37 : decode (mCode 86) 37 = .ok (.iload_n 1, 1) := by decide +kernel
theorem d86_38 : decode (mCode 86) 38 = .ok (.iload_n 3, 1) := by decide +kernel
theorem d86_39 : decode (mCode 86) 39 = .ok (.invokevirtual 91, 3) := by decide +kernel
theorem d86_42 : decode (mCode 86) 42 = .ok (.invokevirtual 94, 3) := by decide +kernel
theorem d86_45 : decode (mCode 86) 45 = .ok (.return_, 1) := by decide +kernel
theorem d86_46 : decode (mCode 86) 46 = .ok (.iinc 3 1, 3) := by decide +kernel
theorem d86_49 : decode (mCode 86) 49 = .ok (.goto (-47), 3) := by decide +kernel
theorem d86_52 : decode (mCode 86) 52 = .ok (.return_, 1) := by decide +kernel
theorem d94_0 : decode (mCode 94) 0 = .ok (.aload_n 0, 1) := by decide +kernel
theorem d94_1 : decode (mCode 94) 1 = .ok (.getfield 46, 3) := by decide +kernel
theorem d94_4 : decode (mCode 94) 4 = .ok (.iload_n 1, 1) := by decide +kernel
theorem d94_5 : decode (mCode 94) 5 = .ok (.invokevirtual 160, 3) := by decide +kernel
theorem d94_8 : decode (mCode 94) 8 = .ok (.ireturn, 1) := by decide +kernel
theorem d95_0 : decode (mCode 95) 0 = .ok (.aload_n 0, 1) := by decide +kernel
theorem d95_1 : decode (mCode 95) 1 = .ok (.getfield 46, 3) := by decide +kernel
theorem d95_4 : decode (mCode 95) 4 = .ok (.iload_n 1, 1) := by decide +kernel
theorem d95_5 : decode (mCode 95) 5 = .ok (.invokevirtual 163, 3) := by decide +kernel
theorem d95_8 : decode (mCode 95) 8 = .ok (.ireturn, 1) := by decide +kernel
def r167_34 : Nat → Int32 → Int32 → Int32 → mS → Option (mS)
  | 0, _, _, _, _ => none
  | k + 1, v1, v2, v3, s =>
    (if (v3 ≤ v2) then
        some s
      else
        rdI 75 v2 (pt (uA 34 (upd (s.1 34) (Int32.toNatClampNeg v2) v1) s) fun s3 => r167_34 k v1 (v2 + Int32.ofInt 1) v3 s3))
theorem s167_34 {S : mE} {ex : mHp} (k : Nat) : (∀ (v1 : Int32) (v2 : Int32) (v3 : Int32) (s : mS) (r : mS), r167_34 k v1 v2 v3 s = some r → Run S 167 (5, [(0, .ref 34), (1, .int v1), (2, .int v2), (3, .int v3)], [], hp s ex) (.inl none, hp r ex)) := by
  induction k with
  | zero => intro v1 v2 v3 s r h; cases h
  | succ k ih =>
    intro v1 v2 v3 s r h
    rw [r167_34] at h
    refine R_p d167_5 rfl rfl ?_
    refine R_p d167_6 rfl rfl ?_
    rcases ite_some h with ⟨c1, h⟩ | ⟨c1, h⟩
    · refine R_br 20 d167_7 (mb_t (b := (v3 ≤ v2)) c1) rfl ?_
      cases h
      exact R_vret d167_20 rfl rfl
    · refine R_nb d167_7 rfl (mb_f (b := (v3 ≤ v2)) c1) ?_
      refine R_p d167_10 rfl rfl ?_
      refine R_p d167_11 rfl rfl ?_
      refine R_p d167_12 rfl rfl ?_
      obtain ⟨c2, h⟩ := rdI_some h
      obtain ⟨s3, e4, h⟩ := pt_some h
      refine R_ist d167_13 (hg34 _ _) c2 ?_
      refine R_h (hp s3 ex) (by rw [e4]; exact hA34 _ _ _) ?_
      refine R_p (ls' := [(0, .ref 34), (1, .int v1), (2, .int (v2 + Int32.ofInt 1)), (3, .int v3)]) d167_14 rfl rfl ?_
      refine R_br 5 d167_17 rfl rfl ?_
      exact ih v1 (v2 + Int32.ofInt 1) v3 s3 _ h
def f167_34 (k : Nat) (v1 : Int32) (s : mS) : Option (mS) :=
  r167_34 k v1 0 (Int32.ofNat 75) s
theorem t_f167_34 {S : mE} {ex : mHp} {k : Nat} {v1 : Int32} {s : mS} {r : mS} (h : f167_34 k v1 s = some r) : Run S 167 (0, [(0, .ref 34), (1, .int v1)], [], hp s ex) (.inl none, hp r ex) := by
  unfold f167_34 at h
  refine R_ic (v := 0) d167_0 (by decide) ?_
  refine R_p (ls' := [(0, .ref 34), (1, .int v1), (2, .int 0)]) d167_1 rfl rfl ?_
  refine R_p d167_2 rfl rfl ?_
  refine R_len d167_3 (hg34 _ _) rfl ?_
  refine R_p (ls' := [(0, .ref 34), (1, .int v1), (2, .int 0), (3, .int (Int32.ofNat 75))]) d167_4 rfl rfl ?_
  exact s167_34 (S := S) (ex := ex) k v1 0 (Int32.ofNat 75) s _ h
def r82 : Nat → Nat → Int32 → Int32 → Int32 → Int32 → Int32 → mS → Option (mS)
  | 0, _, _, _, _, _, _, _ => none
  | k + 1, hd, v1, v2, v3, v4, v5, s =>
    if hd = 0 then (if (v2 ≤ v3) then
        some s
      else
        (f46 s).bind fun q2 => (if (q2 ≤ v3) then
          some s
        else
          rdI 75 v3 (r82 k 1 v1 v2 v3 (s.1 35 (Int32.toNatClampNeg v3)) 0 s))) else
    (if ((3 : Int32) ≤ v5) then
        r82 k 0 v1 v2 (v3 + Int32.ofInt 1) 0 0 s
      else
        (f64 v4 v5 s).bind fun q2 => (if (q2 = (-1 : Int32)) then
          r82 k 1 v1 v2 v3 v4 (v5 + Int32.ofInt 1) s
        else
          rdI 75 q2 ((if (¬ (s.1 34 (Int32.toNatClampNeg q2)) = (-1 : Int32)) then
            r82 k 1 v1 v2 v3 v4 (v5 + Int32.ofInt 1) s
          else
            rdI 75 v4 (rdI 75 q2 (pt (uA 34 (upd (s.1 34) (Int32.toNatClampNeg q2) ((s.1 34 (Int32.toNatClampNeg v4)) + (1 : Int32))) s) fun s9 => rdI 75 v2 (pt (uA 35 (upd (s9.1 35) (Int32.toNatClampNeg v2) q2) s9) fun s12 => r82 k 1 v1 (v2 + Int32.ofInt 1) v3 v4 (v5 + Int32.ofInt 1) s12)))))))
theorem s82 {S : mE} {ex : mHp} (k : Nat) : (∀ (v1 : Int32) (v2 : Int32) (v3 : Int32) (v4 : Int32) (v5 : Int32) (s : mS) (r : mS), r82 k 0 v1 v2 v3 v4 v5 s = some r → Run S 82 (26, [(0, .ref 32), (1, .int v1), (2, .int v2), (3, .int v3)], [], hp s ex) (.inl none, hp r ex)) ∧ (∀ (v1 : Int32) (v2 : Int32) (v3 : Int32) (v4 : Int32) (v5 : Int32) (s : mS) (r : mS), r82 k 1 v1 v2 v3 v4 v5 s = some r → Run S 82 (53, [(0, .ref 32), (1, .int v1), (2, .int v2), (3, .int v3), (4, .int v4), (5, .int v5)], [], hp s ex) (.inl none, hp r ex)) := by
  induction k with
  | zero => refine ⟨?_, ?_⟩ <;> (intro v1 v2 v3 v4 v5 s r h; cases h)
  | succ k ih =>
    refine ⟨?_, ?_⟩
    · intro v1 v2 v3 v4 v5 s r h
      rw [r82, if_pos rfl] at h
      refine R_p d82_26 rfl rfl ?_
      refine R_p d82_27 rfl rfl ?_
      rcases ite_some h with ⟨c1, h⟩ | ⟨c1, h⟩
      · refine R_br 128 d82_28 (mb_t (b := (v2 ≤ v3)) c1) rfl ?_
        cases h
        exact R_vret d82_128 rfl rfl
      · refine R_nb d82_28 rfl (mb_f (b := (v2 ≤ v3)) c1) ?_
        refine R_p d82_31 rfl rfl ?_
        refine R_p d82_32 rfl rfl ?_
        refine R_get d82_33 (Or.inl (List.mem_of_getElem? (i := 37) rfl)) (hg32 _ _) rfl ?_
        obtain ⟨q2, e3, h⟩ := bd_some h
        refine R_cm [] d82_36 (List.mem_of_getElem? (i := 132) rfl) rfl ⟨by decide, by decide, Nat.le_of_ble_eq_true rfl, rfl, mcd46⟩ rfl rfl (Nat.le_of_ble_eq_true rfl) (hg23 _ _) rfl (t_f46 e3) ?_
        rcases ite_some h with ⟨c4, h⟩ | ⟨c4, h⟩
        · refine R_br 128 d82_39 (mb_t (b := (q2 ≤ v3)) c4) rfl ?_
          cases h
          exact R_vret d82_128 rfl rfl
        · refine R_nb d82_39 rfl (mb_f (b := (q2 ≤ v3)) c4) ?_
          refine R_p d82_42 rfl rfl ?_
          refine R_get d82_43 (Or.inl (List.mem_of_getElem? (i := 42) rfl)) (hg32 _ _) rfl ?_
          refine R_p d82_46 rfl rfl ?_
          obtain ⟨c5, h⟩ := rdI_some h
          refine R_ild d82_47 (hg35 _ _) c5 ?_
          refine R_p (ls' := [(0, .ref 32), (1, .int v1), (2, .int v2), (3, .int v3), (4, .int (s.1 35 (Int32.toNatClampNeg v3)))]) d82_48 rfl rfl ?_
          refine R_ic (v := 0) d82_50 (by decide) ?_
          refine R_p (ls' := [(0, .ref 32), (1, .int v1), (2, .int v2), (3, .int v3), (4, .int (s.1 35 (Int32.toNatClampNeg v3))), (5, .int 0)]) d82_51 rfl rfl ?_
          exact ih.2 v1 v2 v3 (s.1 35 (Int32.toNatClampNeg v3)) 0 s _ h
    · intro v1 v2 v3 v4 v5 s r h
      rw [r82, if_neg (by decide)] at h
      refine R_p d82_53 rfl rfl ?_
      refine R_ic (v := 3) d82_55 (by decide) ?_
      rcases ite_some h with ⟨c1, h⟩ | ⟨c1, h⟩
      · refine R_br 122 d82_56 (mb_t (b := ((3 : Int32) ≤ v5)) c1) rfl ?_
        refine R_p (ls' := [(0, .ref 32), (1, .int v1), (2, .int v2), (3, .int (v3 + Int32.ofInt 1)), (4, .int v4), (5, .int v5)]) d82_122 rfl rfl ?_
        refine R_br 26 d82_125 rfl rfl ?_
        exact R_wk [(0, .ref 32), (1, .int v1), (2, .int v2), (3, .int (v3 + Int32.ofInt 1))] (by simp) (ih.1 v1 v2 (v3 + Int32.ofInt 1) 0 0 s _ h)
      · refine R_nb d82_56 rfl (mb_f (b := ((3 : Int32) ≤ v5)) c1) ?_
        refine R_p d82_59 rfl rfl ?_
        refine R_get d82_60 (Or.inl (List.mem_of_getElem? (i := 37) rfl)) (hg32 _ _) rfl ?_
        refine R_p d82_63 rfl rfl ?_
        refine R_p d82_65 rfl rfl ?_
        obtain ⟨q2, e3, h⟩ := bd_some h
        refine R_cm [.int v4, .int v5] d82_67 (List.mem_of_getElem? (i := 133) rfl) rfl ⟨by decide, by decide, Nat.le_of_ble_eq_true rfl, rfl, mcd64⟩ rfl rfl (Nat.le_of_ble_eq_true rfl) (hg23 _ _) rfl (t_f64 e3) ?_
        refine R_p (ls' := [(0, .ref 32), (1, .int v1), (2, .int v2), (3, .int v3), (4, .int v4), (5, .int v5), (6, .int q2)]) d82_70 rfl rfl ?_
        refine R_p d82_72 rfl rfl ?_
        refine R_ic (v := (-1)) d82_74 (by decide) ?_
        rcases ite_some h with ⟨c4, h⟩ | ⟨c4, h⟩
        · refine R_br 116 d82_75 (mb_t (b := (q2 = (-1 : Int32))) c4) rfl ?_
          refine R_p (ls' := [(0, .ref 32), (1, .int v1), (2, .int v2), (3, .int v3), (4, .int v4), (5, .int (v5 + Int32.ofInt 1)), (6, .int q2)]) d82_116 rfl rfl ?_
          refine R_br 53 d82_119 rfl rfl ?_
          exact R_wk [(0, .ref 32), (1, .int v1), (2, .int v2), (3, .int v3), (4, .int v4), (5, .int (v5 + Int32.ofInt 1))] (by simp) (ih.2 v1 v2 v3 v4 (v5 + Int32.ofInt 1) s _ h)
        · refine R_nb d82_75 rfl (mb_f (b := (q2 = (-1 : Int32))) c4) ?_
          refine R_p d82_78 rfl rfl ?_
          refine R_get d82_79 (Or.inl (List.mem_of_getElem? (i := 41) rfl)) (hg32 _ _) rfl ?_
          refine R_p d82_82 rfl rfl ?_
          obtain ⟨c5, h⟩ := rdI_some h
          refine R_ild d82_84 (hg34 _ _) c5 ?_
          refine R_ic (v := (-1)) d82_85 (by decide) ?_
          rcases ite_some h with ⟨c6, h⟩ | ⟨c6, h⟩
          · refine R_br 116 d82_86 (mb_t (b := (¬ (s.1 34 (Int32.toNatClampNeg q2)) = (-1 : Int32))) c6) rfl ?_
            refine R_p (ls' := [(0, .ref 32), (1, .int v1), (2, .int v2), (3, .int v3), (4, .int v4), (5, .int (v5 + Int32.ofInt 1)), (6, .int q2)]) d82_116 rfl rfl ?_
            refine R_br 53 d82_119 rfl rfl ?_
            exact R_wk [(0, .ref 32), (1, .int v1), (2, .int v2), (3, .int v3), (4, .int v4), (5, .int (v5 + Int32.ofInt 1))] (by simp) (ih.2 v1 v2 v3 v4 (v5 + Int32.ofInt 1) s _ h)
          · refine R_nb d82_86 rfl (mb_f (b := (¬ (s.1 34 (Int32.toNatClampNeg q2)) = (-1 : Int32))) c6) ?_
            refine R_p d82_89 rfl rfl ?_
            refine R_get d82_90 (Or.inl (List.mem_of_getElem? (i := 41) rfl)) (hg32 _ _) rfl ?_
            refine R_p d82_93 rfl rfl ?_
            refine R_p d82_95 rfl rfl ?_
            refine R_get d82_96 (Or.inl (List.mem_of_getElem? (i := 41) rfl)) (hg32 _ _) rfl ?_
            refine R_p d82_99 rfl rfl ?_
            obtain ⟨c7, h⟩ := rdI_some h
            refine R_ild d82_101 (hg34 _ _) c7 ?_
            refine R_ic (v := 1) d82_102 (by decide) ?_
            refine R_p d82_103 rfl rfl ?_
            obtain ⟨c8, h⟩ := rdI_some h
            obtain ⟨s9, e10, h⟩ := pt_some h
            refine R_ist d82_104 (hg34 _ _) c8 ?_
            refine R_h (hp s9 ex) (by rw [e10]; exact hA34 _ _ _) ?_
            refine R_p d82_105 rfl rfl ?_
            refine R_get d82_106 (Or.inl (List.mem_of_getElem? (i := 42) rfl)) (hg32 _ _) rfl ?_
            refine R_p d82_109 rfl rfl ?_
            refine R_p d82_110 rfl rfl ?_
            obtain ⟨c11, h⟩ := rdI_some h
            obtain ⟨s12, e13, h⟩ := pt_some h
            refine R_ist d82_112 (hg35 _ _) c11 ?_
            refine R_h (hp s12 ex) (by rw [e13]; exact hA35 _ _ _) ?_
            refine R_p (ls' := [(0, .ref 32), (1, .int v1), (2, .int (v2 + Int32.ofInt 1)), (3, .int v3), (4, .int v4), (5, .int v5), (6, .int q2)]) d82_113 rfl rfl ?_
            refine R_p (ls' := [(0, .ref 32), (1, .int v1), (2, .int (v2 + Int32.ofInt 1)), (3, .int v3), (4, .int v4), (5, .int (v5 + Int32.ofInt 1)), (6, .int q2)]) d82_116 rfl rfl ?_
            refine R_br 53 d82_119 rfl rfl ?_
            exact R_wk [(0, .ref 32), (1, .int v1), (2, .int (v2 + Int32.ofInt 1)), (3, .int v3), (4, .int v4), (5, .int (v5 + Int32.ofInt 1))] (by simp) (ih.2 v1 (v2 + Int32.ofInt 1) v3 v4 (v5 + Int32.ofInt 1) s12 _ h)
def f82 (k : Nat) (v1 : Int32) (s : mS) : Option (mS) :=
  (f167_34 k (-1 : Int32) s).bind fun q1 => rdI 75 v1 (pt (uA 34 (upd (q1.1 34) (Int32.toNatClampNeg v1) 0) q1) fun s4 => rdI 75 (0 : Int32) (pt (uA 35 (upd (s4.1 35) (Int32.toNatClampNeg 0) v1) s4) fun s7 => r82 k 0 v1 1 0 0 0 s7))
theorem t_f82 {S : mE} {ex : mHp} {k : Nat} {v1 : Int32} {s : mS} {r : mS} (h : f82 k v1 s = some r) : Run S 82 (0, [(0, .ref 32), (1, .int v1)], [], hp s ex) (.inl none, hp r ex) := by
  unfold f82 at h
  refine R_p d82_0 rfl rfl ?_
  refine R_get d82_1 (Or.inl (List.mem_of_getElem? (i := 41) rfl)) (hg32 _ _) rfl ?_
  refine R_ic (v := (-1)) d82_4 (by decide) ?_
  obtain ⟨q1, e2, h⟩ := bd_some h
  refine R_cs [.ref 34, .int (-1)] d82_5 (List.mem_of_getElem? (i := 131) rfl) rfl ⟨by decide, by decide, Nat.le_of_ble_eq_true rfl, rfl, mcd167⟩ rfl rfl (Nat.le_of_ble_eq_true rfl) (t_f167_34 e2) ?_
  refine R_p d82_8 rfl rfl ?_
  refine R_get d82_9 (Or.inl (List.mem_of_getElem? (i := 41) rfl)) (hg32 _ _) rfl ?_
  refine R_p d82_12 rfl rfl ?_
  refine R_ic (v := 0) d82_13 (by decide) ?_
  obtain ⟨c3, h⟩ := rdI_some h
  obtain ⟨s4, e5, h⟩ := pt_some h
  refine R_ist d82_14 (hg34 _ _) c3 ?_
  refine R_h (hp s4 ex) (by rw [e5]; exact hA34 _ _ _) ?_
  refine R_p d82_15 rfl rfl ?_
  refine R_get d82_16 (Or.inl (List.mem_of_getElem? (i := 42) rfl)) (hg32 _ _) rfl ?_
  refine R_ic (v := 0) d82_19 (by decide) ?_
  refine R_p d82_20 rfl rfl ?_
  obtain ⟨c6, h⟩ := rdI_some h
  obtain ⟨s7, e8, h⟩ := pt_some h
  refine R_ist d82_21 (hg35 _ _) c6 ?_
  refine R_h (hp s7 ex) (by rw [e8]; exact hA35 _ _ _) ?_
  refine R_ic (v := 1) d82_22 (by decide) ?_
  refine R_p (ls' := [(0, .ref 32), (1, .int v1), (2, .int 1)]) d82_23 rfl rfl ?_
  refine R_ic (v := 0) d82_24 (by decide) ?_
  refine R_p (ls' := [(0, .ref 32), (1, .int v1), (2, .int 1), (3, .int 0)]) d82_25 rfl rfl ?_
  exact (s82 (S := S) (ex := ex) k).1 v1 1 0 0 0 s7 _ h
def r83 : Nat → Int32 → Int32 → Int32 → mS → Option (Int32)
  | 0, _, _, _, _ => none
  | k + 1, v1, v2, v3, s =>
    (if ((3 : Int32) ≤ v3) then
        some v2
      else
        (f64 v1 v3 s).bind fun q2 => (if (q2 = (-1 : Int32)) then
          r83 k v1 v2 (v3 + Int32.ofInt 1) s
        else
          rdI 75 q2 (rdI 75 v1 ((if (¬ (s.1 34 (Int32.toNatClampNeg q2)) = ((s.1 34 (Int32.toNatClampNeg v1)) - (1 : Int32))) then
            r83 k v1 v2 (v3 + Int32.ofInt 1) s
          else
            (if (v2 = (-1 : Int32)) then
              r83 k v1 q2 (v3 + Int32.ofInt 1) s
            else
              (if (v2 ≤ q2) then
                r83 k v1 v2 (v3 + Int32.ofInt 1) s
              else
                r83 k v1 q2 (v3 + Int32.ofInt 1) s)))))))
theorem s83 {S : mE} {ex : mHp} (k : Nat) : (∀ (v1 : Int32) (v2 : Int32) (v3 : Int32) (s : mS) (r : Int32), r83 k v1 v2 v3 s = some r → Run S 83 (4, [(0, .ref 32), (1, .int v1), (2, .int v2), (3, .int v3)], [], hp s ex) (.inl (some (.int r)), hp s ex)) := by
  induction k with
  | zero => intro v1 v2 v3 s r h; cases h
  | succ k ih =>
    intro v1 v2 v3 s r h
    rw [r83] at h
    refine R_p d83_4 rfl rfl ?_
    refine R_ic (v := 3) d83_5 (by decide) ?_
    rcases ite_some h with ⟨c1, h⟩ | ⟨c1, h⟩
    · refine R_br 76 d83_6 (mb_t (b := ((3 : Int32) ≤ v3)) c1) rfl ?_
      refine R_p d83_76 rfl rfl ?_
      cases h
      exact R_iret d83_77 rfl rfl rfl
    · refine R_nb d83_6 rfl (mb_f (b := ((3 : Int32) ≤ v3)) c1) ?_
      refine R_p d83_9 rfl rfl ?_
      refine R_get d83_10 (Or.inl (List.mem_of_getElem? (i := 37) rfl)) (hg32 _ _) rfl ?_
      refine R_p d83_13 rfl rfl ?_
      refine R_p d83_14 rfl rfl ?_
      obtain ⟨q2, e3, h⟩ := bd_some h
      refine R_cm [.int v1, .int v3] d83_15 (List.mem_of_getElem? (i := 133) rfl) rfl ⟨by decide, by decide, Nat.le_of_ble_eq_true rfl, rfl, mcd64⟩ rfl rfl (Nat.le_of_ble_eq_true rfl) (hg23 _ _) rfl (t_f64 e3) ?_
      refine R_p (ls' := [(0, .ref 32), (1, .int v1), (2, .int v2), (3, .int v3), (4, .int q2)]) d83_18 rfl rfl ?_
      refine R_p d83_20 rfl rfl ?_
      refine R_ic (v := (-1)) d83_22 (by decide) ?_
      rcases ite_some h with ⟨c4, h⟩ | ⟨c4, h⟩
      · refine R_br 48 d83_23 (mb_t (b := (q2 = (-1 : Int32))) c4) rfl ?_
        refine R_ic (v := 0) d83_48 (by decide) ?_
        refine R_p (ls' := [(0, .ref 32), (1, .int v1), (2, .int v2), (3, .int v3), (4, .int q2), (5, .int 0)]) d83_49 rfl rfl ?_
        refine R_p d83_51 rfl rfl ?_
        refine R_br 70 d83_53 (mb_t (b := ((0 : Int32) = (0 : Int32))) (by decide)) rfl ?_
        refine R_p (ls' := [(0, .ref 32), (1, .int v1), (2, .int v2), (3, .int (v3 + Int32.ofInt 1)), (4, .int q2), (5, .int 0)]) d83_70 rfl rfl ?_
        refine R_br 4 d83_73 rfl rfl ?_
        exact R_wk [(0, .ref 32), (1, .int v1), (2, .int v2), (3, .int (v3 + Int32.ofInt 1))] (by simp) (ih v1 v2 (v3 + Int32.ofInt 1) s _ h)
      · refine R_nb d83_23 rfl (mb_f (b := (q2 = (-1 : Int32))) c4) ?_
        refine R_p d83_26 rfl rfl ?_
        refine R_get d83_27 (Or.inl (List.mem_of_getElem? (i := 41) rfl)) (hg32 _ _) rfl ?_
        refine R_p d83_30 rfl rfl ?_
        obtain ⟨c5, h⟩ := rdI_some h
        refine R_ild d83_32 (hg34 _ _) c5 ?_
        refine R_p d83_33 rfl rfl ?_
        refine R_get d83_34 (Or.inl (List.mem_of_getElem? (i := 41) rfl)) (hg32 _ _) rfl ?_
        refine R_p d83_37 rfl rfl ?_
        obtain ⟨c6, h⟩ := rdI_some h
        refine R_ild d83_38 (hg34 _ _) c6 ?_
        refine R_ic (v := 1) d83_39 (by decide) ?_
        refine R_p d83_40 rfl rfl ?_
        rcases ite_some h with ⟨c7, h⟩ | ⟨c7, h⟩
        · refine R_br 48 d83_41 (mb_t (b := (¬ (s.1 34 (Int32.toNatClampNeg q2)) = ((s.1 34 (Int32.toNatClampNeg v1)) - (1 : Int32)))) c7) rfl ?_
          refine R_ic (v := 0) d83_48 (by decide) ?_
          refine R_p (ls' := [(0, .ref 32), (1, .int v1), (2, .int v2), (3, .int v3), (4, .int q2), (5, .int 0)]) d83_49 rfl rfl ?_
          refine R_p d83_51 rfl rfl ?_
          refine R_br 70 d83_53 (mb_t (b := ((0 : Int32) = (0 : Int32))) (by decide)) rfl ?_
          refine R_p (ls' := [(0, .ref 32), (1, .int v1), (2, .int v2), (3, .int (v3 + Int32.ofInt 1)), (4, .int q2), (5, .int 0)]) d83_70 rfl rfl ?_
          refine R_br 4 d83_73 rfl rfl ?_
          exact R_wk [(0, .ref 32), (1, .int v1), (2, .int v2), (3, .int (v3 + Int32.ofInt 1))] (by simp) (ih v1 v2 (v3 + Int32.ofInt 1) s _ h)
        · refine R_nb d83_41 rfl (mb_f (b := (¬ (s.1 34 (Int32.toNatClampNeg q2)) = ((s.1 34 (Int32.toNatClampNeg v1)) - (1 : Int32)))) c7) ?_
          refine R_ic (v := 1) d83_44 (by decide) ?_
          refine R_br 49 d83_45 rfl rfl ?_
          refine R_p (ls' := [(0, .ref 32), (1, .int v1), (2, .int v2), (3, .int v3), (4, .int q2), (5, .int 1)]) d83_49 rfl rfl ?_
          refine R_p d83_51 rfl rfl ?_
          refine R_nb d83_53 rfl (mb_f (b := ((1 : Int32) = (0 : Int32))) (by decide)) ?_
          refine R_p d83_56 rfl rfl ?_
          refine R_ic (v := (-1)) d83_57 (by decide) ?_
          rcases ite_some h with ⟨c8, h⟩ | ⟨c8, h⟩
          · refine R_br 67 d83_58 (mb_t (b := (v2 = (-1 : Int32))) c8) rfl ?_
            refine R_p d83_67 rfl rfl ?_
            refine R_p (ls' := [(0, .ref 32), (1, .int v1), (2, .int q2), (3, .int v3), (4, .int q2), (5, .int 1)]) d83_69 rfl rfl ?_
            refine R_p (ls' := [(0, .ref 32), (1, .int v1), (2, .int q2), (3, .int (v3 + Int32.ofInt 1)), (4, .int q2), (5, .int 1)]) d83_70 rfl rfl ?_
            refine R_br 4 d83_73 rfl rfl ?_
            exact R_wk [(0, .ref 32), (1, .int v1), (2, .int q2), (3, .int (v3 + Int32.ofInt 1))] (by simp) (ih v1 q2 (v3 + Int32.ofInt 1) s _ h)
          · refine R_nb d83_58 rfl (mb_f (b := (v2 = (-1 : Int32))) c8) ?_
            refine R_p d83_61 rfl rfl ?_
            refine R_p d83_63 rfl rfl ?_
            rcases ite_some h with ⟨c9, h⟩ | ⟨c9, h⟩
            · refine R_br 70 d83_64 (mb_t (b := (v2 ≤ q2)) c9) rfl ?_
              refine R_p (ls' := [(0, .ref 32), (1, .int v1), (2, .int v2), (3, .int (v3 + Int32.ofInt 1)), (4, .int q2), (5, .int 1)]) d83_70 rfl rfl ?_
              refine R_br 4 d83_73 rfl rfl ?_
              exact R_wk [(0, .ref 32), (1, .int v1), (2, .int v2), (3, .int (v3 + Int32.ofInt 1))] (by simp) (ih v1 v2 (v3 + Int32.ofInt 1) s _ h)
            · refine R_nb d83_64 rfl (mb_f (b := (v2 ≤ q2)) c9) ?_
              refine R_p d83_67 rfl rfl ?_
              refine R_p (ls' := [(0, .ref 32), (1, .int v1), (2, .int q2), (3, .int v3), (4, .int q2), (5, .int 1)]) d83_69 rfl rfl ?_
              refine R_p (ls' := [(0, .ref 32), (1, .int v1), (2, .int q2), (3, .int (v3 + Int32.ofInt 1)), (4, .int q2), (5, .int 1)]) d83_70 rfl rfl ?_
              refine R_br 4 d83_73 rfl rfl ?_
              exact R_wk [(0, .ref 32), (1, .int v1), (2, .int q2), (3, .int (v3 + Int32.ofInt 1))] (by simp) (ih v1 q2 (v3 + Int32.ofInt 1) s _ h)
def f83 (k : Nat) (v1 : Int32) (s : mS) : Option (Int32) :=
  r83 k v1 (-1) 0 s
theorem t_f83 {S : mE} {ex : mHp} {k : Nat} {v1 : Int32} {s : mS} {r : Int32} (h : f83 k v1 s = some r) : Run S 83 (0, [(0, .ref 32), (1, .int v1)], [], hp s ex) (.inl (some (.int r)), hp s ex) := by
  unfold f83 at h
  refine R_ic (v := (-1)) d83_0 (by decide) ?_
  refine R_p (ls' := [(0, .ref 32), (1, .int v1), (2, .int (-1))]) d83_1 rfl rfl ?_
  refine R_ic (v := 0) d83_2 (by decide) ?_
  refine R_p (ls' := [(0, .ref 32), (1, .int v1), (2, .int (-1)), (3, .int 0)]) d83_3 rfl rfl ?_
  exact s83 (S := S) (ex := ex) k v1 (-1) 0 s _ h
def r81 : Nat → Int32 → Int32 → Int32 → mS → Option (Int32 × mS)
  | 0, _, _, _, _ => none
  | k + 1, v1, v2, v3, s =>
    (if ((s.2.2.1 5) ≤ v3) then
        some ((1 : Int32), s)
      else
        rdI 75 (v3 - (1 : Int32)) ((f83 k (s.1 33 (Int32.toNatClampNeg (v3 - (1 : Int32)))) s).bind fun q3 => rdI 75 v3 (pt (uA 33 (upd (s.1 33) (Int32.toNatClampNeg v3) q3) s) fun s6 => r81 k v1 v2 (v3 + Int32.ofInt 1) s6)))
theorem s81 {S : mE} {ex : mHp} (k : Nat) : (∀ (v1 : Int32) (v2 : Int32) (v3 : Int32) (s : mS) (r : Int32 × mS), r81 k v1 v2 v3 s = some r → Run S 81 (38, [(0, .ref 32), (1, .int v1), (2, .int v2), (3, .int v3)], [], hp s ex) (.inl (some (.int r.1)), hp r.2 ex)) := by
  induction k with
  | zero => intro v1 v2 v3 s r h; cases h
  | succ k ih =>
    intro v1 v2 v3 s r h
    rw [r81] at h
    refine R_p d81_38 rfl rfl ?_
    refine R_p d81_39 rfl rfl ?_
    refine R_get d81_40 (Or.inl (List.mem_of_getElem? (i := 40) rfl)) (hg32 _ _) rfl ?_
    rcases ite_some h with ⟨c1, h⟩ | ⟨c1, h⟩
    · refine R_br 70 d81_43 (mb_t (b := ((s.2.2.1 5) ≤ v3)) c1) rfl ?_
      refine R_ic (v := 1) d81_70 (by decide) ?_
      cases h
      exact R_iret d81_71 rfl rfl rfl
    · refine R_nb d81_43 rfl (mb_f (b := ((s.2.2.1 5) ≤ v3)) c1) ?_
      refine R_p d81_46 rfl rfl ?_
      refine R_get d81_47 (Or.inl (List.mem_of_getElem? (i := 39) rfl)) (hg32 _ _) rfl ?_
      refine R_p d81_50 rfl rfl ?_
      refine R_p d81_51 rfl rfl ?_
      refine R_p d81_52 rfl rfl ?_
      refine R_get d81_53 (Or.inl (List.mem_of_getElem? (i := 39) rfl)) (hg32 _ _) rfl ?_
      refine R_p d81_56 rfl rfl ?_
      refine R_ic (v := 1) d81_57 (by decide) ?_
      refine R_p d81_58 rfl rfl ?_
      obtain ⟨c2, h⟩ := rdI_some h
      refine R_ild d81_59 (hg33 _ _) c2 ?_
      obtain ⟨q3, e4, h⟩ := bd_some h
      refine R_cm [.int (s.1 33 (Int32.toNatClampNeg (v3 - (1 : Int32))))] d81_60 (List.mem_of_getElem? (i := 135) rfl) rfl ⟨by decide, by decide, Nat.le_of_ble_eq_true rfl, rfl, mcd83⟩ rfl rfl (Nat.le_of_ble_eq_true rfl) (hg32 _ _) rfl (t_f83 e4) ?_
      obtain ⟨c5, h⟩ := rdI_some h
      obtain ⟨s6, e7, h⟩ := pt_some h
      refine R_ist d81_63 (hg33 _ _) c5 ?_
      refine R_h (hp s6 ex) (by rw [e7]; exact hA33 _ _ _) ?_
      refine R_p (ls' := [(0, .ref 32), (1, .int v1), (2, .int v2), (3, .int (v3 + Int32.ofInt 1))]) d81_64 rfl rfl ?_
      refine R_br 38 d81_67 rfl rfl ?_
      exact ih v1 v2 (v3 + Int32.ofInt 1) s6 _ h
def f81 (k : Nat) (v1 : Int32) (v2 : Int32) (s : mS) : Option (Int32 × mS) :=
  (f82 k v2 s).bind fun q1 => rdI 75 v1 ((if (¬ (q1.1 34 (Int32.toNatClampNeg v1)) = (-1 : Int32)) then
    rdI 75 v1 (pt (uF 5 ((q1.1 34 (Int32.toNatClampNeg v1)) + (1 : Int32)) q1) fun s6 => rdI 75 (0 : Int32) (pt (uA 33 (upd (s6.1 33) (Int32.toNatClampNeg 0) v1) s6) fun s9 => r81 k v1 v2 1 s9))
  else
    some ((0 : Int32), q1)))
theorem t_f81 {S : mE} {ex : mHp} {k : Nat} {v1 : Int32} {v2 : Int32} {s : mS} {r : Int32 × mS} (h : f81 k v1 v2 s = some r) : Run S 81 (0, [(0, .ref 32), (1, .int v1), (2, .int v2)], [], hp s ex) (.inl (some (.int r.1)), hp r.2 ex) := by
  unfold f81 at h
  refine R_p d81_0 rfl rfl ?_
  refine R_p d81_1 rfl rfl ?_
  obtain ⟨q1, e2, h⟩ := bd_some h
  refine R_cm [.int v2] d81_2 (List.mem_of_getElem? (i := 130) rfl) rfl ⟨by decide, by decide, Nat.le_of_ble_eq_true rfl, rfl, mcd82⟩ rfl rfl (Nat.le_of_ble_eq_true rfl) (hg32 _ _) rfl (t_f82 e2) ?_
  refine R_p d81_5 rfl rfl ?_
  refine R_get d81_6 (Or.inl (List.mem_of_getElem? (i := 41) rfl)) (hg32 _ _) rfl ?_
  refine R_p d81_9 rfl rfl ?_
  obtain ⟨c3, h⟩ := rdI_some h
  refine R_ild d81_10 (hg34 _ _) c3 ?_
  refine R_ic (v := (-1)) d81_11 (by decide) ?_
  rcases ite_some h with ⟨c4, h⟩ | ⟨c4, h⟩
  · refine R_br 17 d81_12 (mb_t (b := (¬ (q1.1 34 (Int32.toNatClampNeg v1)) = (-1 : Int32))) c4) rfl ?_
    refine R_p d81_17 rfl rfl ?_
    refine R_p d81_18 rfl rfl ?_
    refine R_get d81_19 (Or.inl (List.mem_of_getElem? (i := 41) rfl)) (hg32 _ _) rfl ?_
    refine R_p d81_22 rfl rfl ?_
    obtain ⟨c5, h⟩ := rdI_some h
    refine R_ild d81_23 (hg34 _ _) c5 ?_
    refine R_ic (v := 1) d81_24 (by decide) ?_
    refine R_p d81_25 rfl rfl ?_
    obtain ⟨s6, e7, h⟩ := pt_some h
    refine R_put d81_26 (List.mem_of_getElem? (i := 40) rfl) (hg32 _ _) (Nat.le_of_ble_eq_true rfl) rfl rfl (Or.inl rfl) ?_
    refine R_h (hp s6 ex) (by rw [e7]; exact hF5 _ _ _) ?_
    refine R_p d81_29 rfl rfl ?_
    refine R_get d81_30 (Or.inl (List.mem_of_getElem? (i := 39) rfl)) (hg32 _ _) rfl ?_
    refine R_ic (v := 0) d81_33 (by decide) ?_
    refine R_p d81_34 rfl rfl ?_
    obtain ⟨c8, h⟩ := rdI_some h
    obtain ⟨s9, e10, h⟩ := pt_some h
    refine R_ist d81_35 (hg33 _ _) c8 ?_
    refine R_h (hp s9 ex) (by rw [e10]; exact hA33 _ _ _) ?_
    refine R_ic (v := 1) d81_36 (by decide) ?_
    refine R_p (ls' := [(0, .ref 32), (1, .int v1), (2, .int v2), (3, .int 1)]) d81_37 rfl rfl ?_
    exact s81 (S := S) (ex := ex) k v1 v2 1 s9 _ h
  · refine R_nb d81_12 rfl (mb_f (b := (¬ (q1.1 34 (Int32.toNatClampNeg v1)) = (-1 : Int32))) c4) ?_
    refine R_ic (v := 0) d81_15 (by decide) ?_
    cases h
    exact R_iret d81_16 rfl rfl rfl
def f1_37  (s : mS) : Option (mS) :=
  pt (uF 10 (0 : Int32) s) fun s1 => pt (uF 11 (0 : Int32) s1) fun s3 => some s3
theorem t_f1_37 {S : mE} {ex : mHp}  {s : mS} {r : mS} (h : f1_37 s = some r) : Run S 1 (0, [(0, .ref 37)], [], hp s ex) (.inl none, hp r ex) := by
  unfold f1_37 at h
  refine R_p d1_0 rfl rfl ?_
  refine R_ic (v := 0) d1_1 (by decide) ?_
  obtain ⟨s1, e2, h⟩ := pt_some h
  refine R_put d1_2 (List.mem_of_getElem? (i := 26) rfl) (hg37 _ _) (Nat.le_of_ble_eq_true rfl) rfl rfl (Or.inl rfl) ?_
  refine R_h (hp s1 ex) (by rw [e2]; exact hF10 _ _ _) ?_
  refine R_p d1_5 rfl rfl ?_
  refine R_ic (v := 0) d1_6 (by decide) ?_
  obtain ⟨s3, e4, h⟩ := pt_some h
  refine R_put d1_7 (List.mem_of_getElem? (i := 27) rfl) (hg37 _ _) (Nat.le_of_ble_eq_true rfl) rfl rfl (Or.inl rfl) ?_
  refine R_h (hp s3 ex) (by rw [e4]; exact hF11 _ _ _) ?_
  cases h
  exact R_vret d1_10 rfl rfl
def f1_39  (s : mS) : Option (mS) :=
  pt (uF 12 (0 : Int32) s) fun s1 => pt (uF 13 (0 : Int32) s1) fun s3 => some s3
theorem t_f1_39 {S : mE} {ex : mHp}  {s : mS} {r : mS} (h : f1_39 s = some r) : Run S 1 (0, [(0, .ref 39)], [], hp s ex) (.inl none, hp r ex) := by
  unfold f1_39 at h
  refine R_p d1_0 rfl rfl ?_
  refine R_ic (v := 0) d1_1 (by decide) ?_
  obtain ⟨s1, e2, h⟩ := pt_some h
  refine R_put d1_2 (List.mem_of_getElem? (i := 26) rfl) (hg39 _ _) (Nat.le_of_ble_eq_true rfl) rfl rfl (Or.inl rfl) ?_
  refine R_h (hp s1 ex) (by rw [e2]; exact hF12 _ _ _) ?_
  refine R_p d1_5 rfl rfl ?_
  refine R_ic (v := 0) d1_6 (by decide) ?_
  obtain ⟨s3, e4, h⟩ := pt_some h
  refine R_put d1_7 (List.mem_of_getElem? (i := 27) rfl) (hg39 _ _) (Nat.le_of_ble_eq_true rfl) rfl rfl (Or.inl rfl) ?_
  refine R_h (hp s3 ex) (by rw [e4]; exact hF13 _ _ _) ?_
  cases h
  exact R_vret d1_10 rfl rfl
def f11 (v1 : Int32) (s : mS) : Option (mS) :=
  pt (uF 9 (0 : Int32) s) fun s1 => (f1_37 s1).bind fun q3 => (f1_39 q3).bind fun q5 => pt (uF 6 v1 q5) fun s7 => pt (uF 7 v1 s7) fun s9 => pt (uF 8 v1 s9) fun s11 => some s11
theorem t_f11 {S : mE} {ex : mHp} {v1 : Int32} {s : mS} {r : mS} (h : f11 v1 s = some r) : Run S 11 (0, [(0, .ref 36), (1, .int v1)], [], hp s ex) (.inl none, hp r ex) := by
  unfold f11 at h
  refine R_p d11_0 rfl rfl ?_
  refine R_ic (v := 0) d11_1 (by decide) ?_
  obtain ⟨s1, e2, h⟩ := pt_some h
  refine R_put d11_2 (List.mem_of_getElem? (i := 35) rfl) (hg36 _ _) (Nat.le_of_ble_eq_true rfl) rfl rfl (Or.inl rfl) ?_
  refine R_h (hp s1 ex) (by rw [e2]; exact hF9 _ _ _) ?_
  refine R_p d11_5 rfl rfl ?_
  refine R_get d11_6 (Or.inl (List.mem_of_getElem? (i := 29) rfl)) (hg36 _ _) rfl ?_
  obtain ⟨q3, e4, h⟩ := bd_some h
  refine R_cm [] d11_9 (List.mem_of_getElem? (i := 140) rfl) rfl ⟨by decide, by decide, Nat.le_of_ble_eq_true rfl, rfl, mcd1⟩ rfl rfl (Nat.le_of_ble_eq_true rfl) (hg37 _ _) rfl (t_f1_37 e4) ?_
  refine R_p d11_12 rfl rfl ?_
  refine R_get d11_13 (Or.inl (List.mem_of_getElem? (i := 30) rfl)) (hg36 _ _) rfl ?_
  obtain ⟨q5, e6, h⟩ := bd_some h
  refine R_cm [] d11_16 (List.mem_of_getElem? (i := 140) rfl) rfl ⟨by decide, by decide, Nat.le_of_ble_eq_true rfl, rfl, mcd1⟩ rfl rfl (Nat.le_of_ble_eq_true rfl) (hg39 _ _) rfl (t_f1_39 e6) ?_
  refine R_p d11_19 rfl rfl ?_
  refine R_p d11_20 rfl rfl ?_
  obtain ⟨s7, e8, h⟩ := pt_some h
  refine R_put d11_21 (List.mem_of_getElem? (i := 31) rfl) (hg36 _ _) (Nat.le_of_ble_eq_true rfl) rfl rfl (Or.inl rfl) ?_
  refine R_h (hp s7 ex) (by rw [e8]; exact hF6 _ _ _) ?_
  refine R_p d11_24 rfl rfl ?_
  refine R_p d11_25 rfl rfl ?_
  obtain ⟨s9, e10, h⟩ := pt_some h
  refine R_put d11_26 (List.mem_of_getElem? (i := 32) rfl) (hg36 _ _) (Nat.le_of_ble_eq_true rfl) rfl rfl (Or.inl rfl) ?_
  refine R_h (hp s9 ex) (by rw [e10]; exact hF7 _ _ _) ?_
  refine R_p d11_29 rfl rfl ?_
  refine R_p d11_30 rfl rfl ?_
  obtain ⟨s11, e12, h⟩ := pt_some h
  refine R_put d11_31 (List.mem_of_getElem? (i := 33) rfl) (hg36 _ _) (Nat.le_of_ble_eq_true rfl) rfl rfl (Or.inl rfl) ?_
  refine R_h (hp s11 ex) (by rw [e12]; exact hF8 _ _ _) ?_
  cases h
  exact R_vret d11_34 rfl rfl
def f2_37  (s : mS) : Option (Int32) :=
  some ((s.2.2.1 11) - (s.2.2.1 10))
theorem t_f2_37 {S : mE} {ex : mHp}  {s : mS} {r : Int32} (h : f2_37 s = some r) : Run S 2 (0, [(0, .ref 37)], [], hp s ex) (.inl (some (.int r)), hp s ex) := by
  unfold f2_37 at h
  refine R_p d2_0 rfl rfl ?_
  refine R_get d2_1 (Or.inl (List.mem_of_getElem? (i := 27) rfl)) (hg37 _ _) rfl ?_
  refine R_p d2_4 rfl rfl ?_
  refine R_get d2_5 (Or.inl (List.mem_of_getElem? (i := 26) rfl)) (hg37 _ _) rfl ?_
  refine R_p d2_8 rfl rfl ?_
  cases h
  exact R_iret d2_9 rfl rfl rfl
def f6_37  (s : mS) : Option (Int32) :=
  rdI 77 (s.2.2.1 10) (some (s.1 38 (Int32.toNatClampNeg (s.2.2.1 10))))
theorem t_f6_37 {S : mE} {ex : mHp}  {s : mS} {r : Int32} (h : f6_37 s = some r) : Run S 6 (0, [(0, .ref 37)], [], hp s ex) (.inl (some (.int r)), hp s ex) := by
  unfold f6_37 at h
  refine R_p d6_0 rfl rfl ?_
  refine R_get d6_1 (Or.inl (List.mem_of_getElem? (i := 25) rfl)) (hg37 _ _) rfl ?_
  refine R_p d6_4 rfl rfl ?_
  refine R_get d6_5 (Or.inl (List.mem_of_getElem? (i := 26) rfl)) (hg37 _ _) rfl ?_
  obtain ⟨c1, h⟩ := rdI_some h
  refine R_ild d6_8 (hg38 _ _) c1 ?_
  cases h
  exact R_iret d6_9 rfl rfl rfl
def f7_37  (s : mS) : Option (mS) :=
  pt (uF 10 ((s.2.2.1 10) + (1 : Int32)) s) fun s1 => some s1
theorem t_f7_37 {S : mE} {ex : mHp}  {s : mS} {r : mS} (h : f7_37 s = some r) : Run S 7 (0, [(0, .ref 37)], [], hp s ex) (.inl none, hp r ex) := by
  unfold f7_37 at h
  refine R_p d7_0 rfl rfl ?_
  refine R_p d7_1 rfl rfl ?_
  refine R_get d7_2 (Or.inl (List.mem_of_getElem? (i := 26) rfl)) (hg37 _ _) rfl ?_
  refine R_ic (v := 1) d7_5 (by decide) ?_
  refine R_p d7_6 rfl rfl ?_
  obtain ⟨s1, e2, h⟩ := pt_some h
  refine R_put d7_7 (List.mem_of_getElem? (i := 26) rfl) (hg37 _ _) (Nat.le_of_ble_eq_true rfl) rfl rfl (Or.inl rfl) ?_
  refine R_h (hp s1 ex) (by rw [e2]; exact hF10 _ _ _) ?_
  cases h
  exact R_vret d7_10 rfl rfl
def f2_39  (s : mS) : Option (Int32) :=
  some ((s.2.2.1 13) - (s.2.2.1 12))
theorem t_f2_39 {S : mE} {ex : mHp}  {s : mS} {r : Int32} (h : f2_39 s = some r) : Run S 2 (0, [(0, .ref 39)], [], hp s ex) (.inl (some (.int r)), hp s ex) := by
  unfold f2_39 at h
  refine R_p d2_0 rfl rfl ?_
  refine R_get d2_1 (Or.inl (List.mem_of_getElem? (i := 27) rfl)) (hg39 _ _) rfl ?_
  refine R_p d2_4 rfl rfl ?_
  refine R_get d2_5 (Or.inl (List.mem_of_getElem? (i := 26) rfl)) (hg39 _ _) rfl ?_
  refine R_p d2_8 rfl rfl ?_
  cases h
  exact R_iret d2_9 rfl rfl rfl
def f5_37  (s : mS) : Option (mS) :=
  pt (uF 11 ((s.2.2.1 11) - (1 : Int32)) s) fun s1 => some s1
theorem t_f5_37 {S : mE} {ex : mHp}  {s : mS} {r : mS} (h : f5_37 s = some r) : Run S 5 (0, [(0, .ref 37)], [], hp s ex) (.inl none, hp r ex) := by
  unfold f5_37 at h
  refine R_p d5_0 rfl rfl ?_
  refine R_p d5_1 rfl rfl ?_
  refine R_get d5_2 (Or.inl (List.mem_of_getElem? (i := 27) rfl)) (hg37 _ _) rfl ?_
  refine R_ic (v := 1) d5_5 (by decide) ?_
  refine R_p d5_6 rfl rfl ?_
  obtain ⟨s1, e2, h⟩ := pt_some h
  refine R_put d5_7 (List.mem_of_getElem? (i := 27) rfl) (hg37 _ _) (Nat.le_of_ble_eq_true rfl) rfl rfl (Or.inl rfl) ?_
  refine R_h (hp s1 ex) (by rw [e2]; exact hF11 _ _ _) ?_
  cases h
  exact R_vret d5_10 rfl rfl
def f6_39  (s : mS) : Option (Int32) :=
  rdI 77 (s.2.2.1 12) (some (s.1 40 (Int32.toNatClampNeg (s.2.2.1 12))))
theorem t_f6_39 {S : mE} {ex : mHp}  {s : mS} {r : Int32} (h : f6_39 s = some r) : Run S 6 (0, [(0, .ref 39)], [], hp s ex) (.inl (some (.int r)), hp s ex) := by
  unfold f6_39 at h
  refine R_p d6_0 rfl rfl ?_
  refine R_get d6_1 (Or.inl (List.mem_of_getElem? (i := 25) rfl)) (hg39 _ _) rfl ?_
  refine R_p d6_4 rfl rfl ?_
  refine R_get d6_5 (Or.inl (List.mem_of_getElem? (i := 26) rfl)) (hg39 _ _) rfl ?_
  obtain ⟨c1, h⟩ := rdI_some h
  refine R_ild d6_8 (hg40 _ _) c1 ?_
  cases h
  exact R_iret d6_9 rfl rfl rfl
def f7_39  (s : mS) : Option (mS) :=
  pt (uF 12 ((s.2.2.1 12) + (1 : Int32)) s) fun s1 => some s1
theorem t_f7_39 {S : mE} {ex : mHp}  {s : mS} {r : mS} (h : f7_39 s = some r) : Run S 7 (0, [(0, .ref 39)], [], hp s ex) (.inl none, hp r ex) := by
  unfold f7_39 at h
  refine R_p d7_0 rfl rfl ?_
  refine R_p d7_1 rfl rfl ?_
  refine R_get d7_2 (Or.inl (List.mem_of_getElem? (i := 26) rfl)) (hg39 _ _) rfl ?_
  refine R_ic (v := 1) d7_5 (by decide) ?_
  refine R_p d7_6 rfl rfl ?_
  obtain ⟨s1, e2, h⟩ := pt_some h
  refine R_put d7_7 (List.mem_of_getElem? (i := 26) rfl) (hg39 _ _) (Nat.le_of_ble_eq_true rfl) rfl rfl (Or.inl rfl) ?_
  refine R_h (hp s1 ex) (by rw [e2]; exact hF12 _ _ _) ?_
  cases h
  exact R_vret d7_10 rfl rfl
def f8_37 (v1 : Int32) (s : mS) : Option (mS) :=
  rdI 77 (s.2.2.1 11) (pt (uA 38 (upd (s.1 38) (Int32.toNatClampNeg (s.2.2.1 11)) v1) s) fun s2 => pt (uF 11 ((s2.2.2.1 11) + (1 : Int32)) s2) fun s4 => some s4)
theorem t_f8_37 {S : mE} {ex : mHp} {v1 : Int32} {s : mS} {r : mS} (h : f8_37 v1 s = some r) : Run S 8 (0, [(0, .ref 37), (1, .int v1)], [], hp s ex) (.inl none, hp r ex) := by
  unfold f8_37 at h
  refine R_p d8_0 rfl rfl ?_
  refine R_get d8_1 (Or.inl (List.mem_of_getElem? (i := 25) rfl)) (hg37 _ _) rfl ?_
  refine R_p d8_4 rfl rfl ?_
  refine R_get d8_5 (Or.inl (List.mem_of_getElem? (i := 27) rfl)) (hg37 _ _) rfl ?_
  refine R_p d8_8 rfl rfl ?_
  obtain ⟨c1, h⟩ := rdI_some h
  obtain ⟨s2, e3, h⟩ := pt_some h
  refine R_ist d8_9 (hg38 _ _) c1 ?_
  refine R_h (hp s2 ex) (by rw [e3]; exact hA38 _ _ _) ?_
  refine R_p d8_10 rfl rfl ?_
  refine R_p d8_11 rfl rfl ?_
  refine R_get d8_12 (Or.inl (List.mem_of_getElem? (i := 27) rfl)) (hg37 _ _) rfl ?_
  refine R_ic (v := 1) d8_15 (by decide) ?_
  refine R_p d8_16 rfl rfl ?_
  obtain ⟨s4, e5, h⟩ := pt_some h
  refine R_put d8_17 (List.mem_of_getElem? (i := 27) rfl) (hg37 _ _) (Nat.le_of_ble_eq_true rfl) rfl rfl (Or.inl rfl) ?_
  refine R_h (hp s4 ex) (by rw [e5]; exact hF11 _ _ _) ?_
  cases h
  exact R_vret d8_20 rfl rfl
def f3_37 (v1 : Int32) (s : mS) : Option (Int32) :=
  (if (((s.2.2.1 11) - (s.2.2.1 10)) ≤ (1 : Int32)) then
    some v1
  else
    rdI 77 ((s.2.2.1 11) - (2 : Int32)) (some (s.1 38 (Int32.toNatClampNeg ((s.2.2.1 11) - (2 : Int32))))))
theorem t_f3_37 {S : mE} {ex : mHp} {v1 : Int32} {s : mS} {r : Int32} (h : f3_37 v1 s = some r) : Run S 3 (0, [(0, .ref 37), (1, .int v1)], [], hp s ex) (.inl (some (.int r)), hp s ex) := by
  unfold f3_37 at h
  refine R_p d3_0 rfl rfl ?_
  refine R_get d3_1 (Or.inl (List.mem_of_getElem? (i := 27) rfl)) (hg37 _ _) rfl ?_
  refine R_p d3_4 rfl rfl ?_
  refine R_get d3_5 (Or.inl (List.mem_of_getElem? (i := 26) rfl)) (hg37 _ _) rfl ?_
  refine R_p d3_8 rfl rfl ?_
  refine R_ic (v := 1) d3_9 (by decide) ?_
  rcases ite_some h with ⟨c1, h⟩ | ⟨c1, h⟩
  · refine R_br 27 d3_10 (mb_t (b := (((s.2.2.1 11) - (s.2.2.1 10)) ≤ (1 : Int32))) c1) rfl ?_
    refine R_p d3_27 rfl rfl ?_
    cases h
    exact R_iret d3_28 rfl rfl rfl
  · refine R_nb d3_10 rfl (mb_f (b := (((s.2.2.1 11) - (s.2.2.1 10)) ≤ (1 : Int32))) c1) ?_
    refine R_p d3_13 rfl rfl ?_
    refine R_get d3_14 (Or.inl (List.mem_of_getElem? (i := 25) rfl)) (hg37 _ _) rfl ?_
    refine R_p d3_17 rfl rfl ?_
    refine R_get d3_18 (Or.inl (List.mem_of_getElem? (i := 27) rfl)) (hg37 _ _) rfl ?_
    refine R_ic (v := 2) d3_21 (by decide) ?_
    refine R_p d3_22 rfl rfl ?_
    obtain ⟨c2, h⟩ := rdI_some h
    refine R_ild d3_23 (hg38 _ _) c2 ?_
    refine R_br 28 d3_24 rfl rfl ?_
    cases h
    exact R_iret d3_28 rfl rfl rfl
def f4_37  (s : mS) : Option (Int32) :=
  rdI 77 ((s.2.2.1 11) - (1 : Int32)) (some (s.1 38 (Int32.toNatClampNeg ((s.2.2.1 11) - (1 : Int32)))))
theorem t_f4_37 {S : mE} {ex : mHp}  {s : mS} {r : Int32} (h : f4_37 s = some r) : Run S 4 (0, [(0, .ref 37)], [], hp s ex) (.inl (some (.int r)), hp s ex) := by
  unfold f4_37 at h
  refine R_p d4_0 rfl rfl ?_
  refine R_get d4_1 (Or.inl (List.mem_of_getElem? (i := 25) rfl)) (hg37 _ _) rfl ?_
  refine R_p d4_4 rfl rfl ?_
  refine R_get d4_5 (Or.inl (List.mem_of_getElem? (i := 27) rfl)) (hg37 _ _) rfl ?_
  refine R_ic (v := 1) d4_8 (by decide) ?_
  refine R_p d4_9 rfl rfl ?_
  obtain ⟨c1, h⟩ := rdI_some h
  refine R_ild d4_10 (hg38 _ _) c1 ?_
  cases h
  exact R_iret d4_11 rfl rfl rfl
def f14_36_37 (v2 : Int32) (s : mS) : Option (Int32) :=
  (f3_37 (s.2.2.1 6) s).bind fun q1 => (f4_37 s).bind fun q3 => (f71 q1 q3 v2 s).bind fun q5 => (if (((Int32.toInt64 1) * q5) ≤ (0 : Int64)) then
    some (0 : Int32)
  else
    some (1 : Int32))
theorem t_f14_36_37 {S : mE} {ex : mHp} {v2 : Int32} {s : mS} {r : Int32} (h : f14_36_37 v2 s = some r) : Run S 14 (0, [(0, .ref 36), (1, .ref 37), (2, .int v2)], [], hp s ex) (.inl (some (.int r)), hp s ex) := by
  unfold f14_36_37 at h
  refine R_p d14_0 rfl rfl ?_
  refine R_get d14_1 (Or.inr (List.mem_of_getElem? (i := 0) rfl)) (hg37 _ _) rfl ?_
  refine R_p d14_4 rfl rfl ?_
  refine R_p d14_5 rfl rfl ?_
  refine R_get d14_6 (Or.inl (List.mem_of_getElem? (i := 28) rfl)) (hg36 _ _) rfl ?_
  refine R_p d14_9 rfl rfl ?_
  refine R_p d14_10 rfl rfl ?_
  refine R_get d14_11 (Or.inl (List.mem_of_getElem? (i := 31) rfl)) (hg36 _ _) rfl ?_
  obtain ⟨q1, e2, h⟩ := bd_some h
  refine R_cm [.int (s.2.2.1 6)] d14_14 (List.mem_of_getElem? (i := 148) rfl) rfl ⟨by decide, by decide, Nat.le_of_ble_eq_true rfl, rfl, mcd3⟩ rfl rfl (Nat.le_of_ble_eq_true rfl) (hg37 _ _) rfl (t_f3_37 e2) ?_
  refine R_p d14_17 rfl rfl ?_
  obtain ⟨q3, e4, h⟩ := bd_some h
  refine R_cm [] d14_18 (List.mem_of_getElem? (i := 149) rfl) rfl ⟨by decide, by decide, Nat.le_of_ble_eq_true rfl, rfl, mcd4⟩ rfl rfl (Nat.le_of_ble_eq_true rfl) (hg37 _ _) rfl (t_f4_37 e4) ?_
  refine R_p d14_21 rfl rfl ?_
  obtain ⟨q5, e6, h⟩ := bd_some h
  refine R_cm [.int q1, .int q3, .int v2] d14_22 (List.mem_of_getElem? (i := 150) rfl) rfl ⟨by decide, by decide, Nat.le_of_ble_eq_true rfl, rfl, mcd71⟩ rfl rfl (Nat.le_of_ble_eq_true rfl) (hg17 _ _) rfl (t_f71 e6) ?_
  refine R_p d14_25 rfl rfl ?_
  refine R_lc (v := 0) d14_26 (by decide) ?_
  refine R_p d14_27 rfl rfl ?_
  rcases ite_some h with ⟨c7, h⟩ | ⟨c7, h⟩
  · refine R_br 35 d14_28 (mb_t (b := ((lg_cmp ((Int32.toInt64 1) * q5) 0) ≤ (0 : Int32))) (lgc_le.mpr c7)) rfl ?_
    refine R_ic (v := 0) d14_35 (by decide) ?_
    cases h
    exact R_iret d14_36 rfl rfl rfl
  · refine R_nb d14_28 rfl (mb_f (b := ((lg_cmp ((Int32.toInt64 1) * q5) 0) ≤ (0 : Int32))) (fun q => c7 (lgc_le.mp q))) ?_
    refine R_ic (v := 1) d14_31 (by decide) ?_
    refine R_br 36 d14_32 rfl rfl ?_
    cases h
    exact R_iret d14_36 rfl rfl rfl
def f15_36_39 (v2 : Int32) (s : mS) : Option (Int32) :=
  (f6_39 s).bind fun q1 => (f71 (s.2.2.1 6) q1 v2 s).bind fun q3 => (if (((Int32.toInt64 (-1)) * q3) ≤ (0 : Int64)) then
    some (0 : Int32)
  else
    some (1 : Int32))
theorem t_f15_36_39 {S : mE} {ex : mHp} {v2 : Int32} {s : mS} {r : Int32} (h : f15_36_39 v2 s = some r) : Run S 15 (0, [(0, .ref 36), (1, .ref 39), (2, .int v2)], [], hp s ex) (.inl (some (.int r)), hp s ex) := by
  unfold f15_36_39 at h
  refine R_p d15_0 rfl rfl ?_
  refine R_get d15_1 (Or.inr (List.mem_of_getElem? (i := 0) rfl)) (hg39 _ _) rfl ?_
  refine R_p d15_4 rfl rfl ?_
  refine R_p d15_5 rfl rfl ?_
  refine R_get d15_6 (Or.inl (List.mem_of_getElem? (i := 28) rfl)) (hg36 _ _) rfl ?_
  refine R_p d15_9 rfl rfl ?_
  refine R_get d15_10 (Or.inl (List.mem_of_getElem? (i := 31) rfl)) (hg36 _ _) rfl ?_
  refine R_p d15_13 rfl rfl ?_
  obtain ⟨q1, e2, h⟩ := bd_some h
  refine R_cm [] d15_14 (List.mem_of_getElem? (i := 153) rfl) rfl ⟨by decide, by decide, Nat.le_of_ble_eq_true rfl, rfl, mcd6⟩ rfl rfl (Nat.le_of_ble_eq_true rfl) (hg39 _ _) rfl (t_f6_39 e2) ?_
  refine R_p d15_17 rfl rfl ?_
  obtain ⟨q3, e4, h⟩ := bd_some h
  refine R_cm [.int (s.2.2.1 6), .int q1, .int v2] d15_18 (List.mem_of_getElem? (i := 150) rfl) rfl ⟨by decide, by decide, Nat.le_of_ble_eq_true rfl, rfl, mcd71⟩ rfl rfl (Nat.le_of_ble_eq_true rfl) (hg17 _ _) rfl (t_f71 e4) ?_
  refine R_p d15_21 rfl rfl ?_
  refine R_lc (v := 0) d15_22 (by decide) ?_
  refine R_p d15_23 rfl rfl ?_
  rcases ite_some h with ⟨c5, h⟩ | ⟨c5, h⟩
  · refine R_br 31 d15_24 (mb_t (b := ((lg_cmp ((Int32.toInt64 (-1)) * q3) 0) ≤ (0 : Int32))) (lgc_le.mpr c5)) rfl ?_
    refine R_ic (v := 0) d15_31 (by decide) ?_
    cases h
    exact R_iret d15_32 rfl rfl rfl
  · refine R_nb d15_24 rfl (mb_f (b := ((lg_cmp ((Int32.toInt64 (-1)) * q3) 0) ≤ (0 : Int32))) (fun q => c5 (lgc_le.mp q))) ?_
    refine R_ic (v := 1) d15_27 (by decide) ?_
    refine R_br 32 d15_28 rfl rfl ?_
    cases h
    exact R_iret d15_32 rfl rfl rfl
def f16 (v1 : Int32) (s : mS) : Option (mS) :=
  rdI 77 (s.2.2.1 9) (pt (uA 41 (upd (s.1 41) (Int32.toNatClampNeg (s.2.2.1 9)) v1) s) fun s2 => pt (uF 9 ((s2.2.2.1 9) + (1 : Int32)) s2) fun s4 => some s4)
theorem t_f16 {S : mE} {ex : mHp} {v1 : Int32} {s : mS} {r : mS} (h : f16 v1 s = some r) : Run S 16 (0, [(0, .ref 36), (1, .int v1)], [], hp s ex) (.inl none, hp r ex) := by
  unfold f16 at h
  refine R_p d16_0 rfl rfl ?_
  refine R_get d16_1 (Or.inl (List.mem_of_getElem? (i := 34) rfl)) (hg36 _ _) rfl ?_
  refine R_p d16_4 rfl rfl ?_
  refine R_get d16_5 (Or.inl (List.mem_of_getElem? (i := 35) rfl)) (hg36 _ _) rfl ?_
  refine R_p d16_8 rfl rfl ?_
  obtain ⟨c1, h⟩ := rdI_some h
  obtain ⟨s2, e3, h⟩ := pt_some h
  refine R_ist d16_9 (hg41 _ _) c1 ?_
  refine R_h (hp s2 ex) (by rw [e3]; exact hA41 _ _ _) ?_
  refine R_p d16_10 rfl rfl ?_
  refine R_p d16_11 rfl rfl ?_
  refine R_get d16_12 (Or.inl (List.mem_of_getElem? (i := 35) rfl)) (hg36 _ _) rfl ?_
  refine R_ic (v := 1) d16_15 (by decide) ?_
  refine R_p d16_16 rfl rfl ?_
  obtain ⟨s4, e5, h⟩ := pt_some h
  refine R_put d16_17 (List.mem_of_getElem? (i := 35) rfl) (hg36 _ _) (Nat.le_of_ble_eq_true rfl) rfl rfl (Or.inl rfl) ?_
  refine R_h (hp s4 ex) (by rw [e5]; exact hF9 _ _ _) ?_
  cases h
  exact R_vret d16_20 rfl rfl
def r13_36_37_39 : Nat → Nat → Int32 → Int32 → mS → Option (mS)
  | 0, _, _, _, _ => none
  | k + 1, hd, v3, v4, s =>
    if hd = 0 then (if (v4 ≤ (0 : Int32)) then
        (f2_37 s).bind fun q2 => (if (¬ q2 = (0 : Int32)) then
          (f8_37 v3 s).bind fun q5 => some q5
        else
          (f2_39 s).bind fun q7 => r13_36_37_39 k 1 v3 q7 s)
      else
        (f14_36_37 v3 s).bind fun q9 => (if (¬ q9 = (0 : Int32)) then
          (f2_37 s).bind fun q12 => (if (¬ q12 = (0 : Int32)) then
            (f8_37 v3 s).bind fun q15 => some q15
          else
            (f2_39 s).bind fun q17 => r13_36_37_39 k 1 v3 q17 s)
        else
          (f5_37 s).bind fun q19 => r13_36_37_39 k 0 v3 (v4 + Int32.ofInt (-1)) q19)) else
    (if (v4 ≤ (0 : Int32)) then
        (f8_37 v3 s).bind fun q2 => some q2
      else
        (f15_36_39 v3 s).bind fun q4 => (if (q4 = (0 : Int32)) then
          (f8_37 v3 s).bind fun q7 => some q7
        else
          (f6_39 s).bind fun q9 => pt (uF 6 q9 s) fun s11 => (f16 (s11.2.2.1 6) s11).bind fun q13 => (f7_39 q13).bind fun q15 => r13_36_37_39 k 1 v3 (v4 + Int32.ofInt (-1)) q15))
theorem s13_36_37_39 {S : mE} {ex : mHp} (k : Nat) : (∀ (v3 : Int32) (v4 : Int32) (s : mS) (r : mS), r13_36_37_39 k 0 v3 v4 s = some r → Run S 13 (6, [(0, .ref 36), (1, .ref 37), (2, .ref 39), (3, .int v3), (4, .int v4)], [], hp s ex) (.inl none, hp r ex)) ∧ (∀ (v3 : Int32) (v4 : Int32) (s : mS) (r : mS), r13_36_37_39 k 1 v3 v4 s = some r → Run S 13 (43, [(0, .ref 36), (1, .ref 37), (2, .ref 39), (3, .int v3), (4, .int v4)], [], hp s ex) (.inl none, hp r ex)) := by
  induction k with
  | zero => refine ⟨?_, ?_⟩ <;> (intro v3 v4 s r h; cases h)
  | succ k ih =>
    refine ⟨?_, ?_⟩
    · intro v3 v4 s r h
      rw [r13_36_37_39, if_pos rfl] at h
      refine R_p d13_6 rfl rfl ?_
      rcases ite_some h with ⟨c1, h⟩ | ⟨c1, h⟩
      · refine R_br 30 d13_8 (mb_t (b := (v4 ≤ (0 : Int32))) c1) rfl ?_
        refine R_p d13_30 rfl rfl ?_
        obtain ⟨q2, e3, h⟩ := bd_some h
        refine R_cm [] d13_31 (List.mem_of_getElem? (i := 146) rfl) rfl ⟨by decide, by decide, Nat.le_of_ble_eq_true rfl, rfl, mcd2⟩ rfl rfl (Nat.le_of_ble_eq_true rfl) (hg37 _ _) rfl (t_f2_37 e3) ?_
        rcases ite_some h with ⟨c4, h⟩ | ⟨c4, h⟩
        · refine R_br 83 d13_34 (mb_t (b := (¬ q2 = (0 : Int32))) c4) rfl ?_
          refine R_p d13_83 rfl rfl ?_
          refine R_p d13_84 rfl rfl ?_
          obtain ⟨q5, e6, h⟩ := bd_some h
          refine R_cm [.int v3] d13_85 (List.mem_of_getElem? (i := 156) rfl) rfl ⟨by decide, by decide, Nat.le_of_ble_eq_true rfl, rfl, mcd8⟩ rfl rfl (Nat.le_of_ble_eq_true rfl) (hg37 _ _) rfl (t_f8_37 e6) ?_
          cases h
          exact R_vret d13_88 rfl rfl
        · refine R_nb d13_34 rfl (mb_f (b := (¬ q2 = (0 : Int32))) c4) ?_
          refine R_p d13_37 rfl rfl ?_
          obtain ⟨q7, e8, h⟩ := bd_some h
          refine R_cm [] d13_38 (List.mem_of_getElem? (i := 146) rfl) rfl ⟨by decide, by decide, Nat.le_of_ble_eq_true rfl, rfl, mcd2⟩ rfl rfl (Nat.le_of_ble_eq_true rfl) (hg39 _ _) rfl (t_f2_39 e8) ?_
          refine R_p (ls' := [(0, .ref 36), (1, .ref 37), (2, .ref 39), (3, .int v3), (4, .int q7)]) d13_41 rfl rfl ?_
          exact ih.2 v3 q7 s _ h
      · refine R_nb d13_8 rfl (mb_f (b := (v4 ≤ (0 : Int32))) c1) ?_
        refine R_p d13_11 rfl rfl ?_
        refine R_p d13_12 rfl rfl ?_
        refine R_p d13_13 rfl rfl ?_
        obtain ⟨q9, e10, h⟩ := bd_some h
        refine R_cm [.ref 37, .int v3] d13_14 (List.mem_of_getElem? (i := 147) rfl) rfl ⟨by decide, by decide, Nat.le_of_ble_eq_true rfl, rfl, mcd14⟩ rfl rfl (Nat.le_of_ble_eq_true rfl) (hg36 _ _) rfl (t_f14_36_37 e10) ?_
        rcases ite_some h with ⟨c11, h⟩ | ⟨c11, h⟩
        · refine R_br 30 d13_17 (mb_t (b := (¬ q9 = (0 : Int32))) c11) rfl ?_
          refine R_p d13_30 rfl rfl ?_
          obtain ⟨q12, e13, h⟩ := bd_some h
          refine R_cm [] d13_31 (List.mem_of_getElem? (i := 146) rfl) rfl ⟨by decide, by decide, Nat.le_of_ble_eq_true rfl, rfl, mcd2⟩ rfl rfl (Nat.le_of_ble_eq_true rfl) (hg37 _ _) rfl (t_f2_37 e13) ?_
          rcases ite_some h with ⟨c14, h⟩ | ⟨c14, h⟩
          · refine R_br 83 d13_34 (mb_t (b := (¬ q12 = (0 : Int32))) c14) rfl ?_
            refine R_p d13_83 rfl rfl ?_
            refine R_p d13_84 rfl rfl ?_
            obtain ⟨q15, e16, h⟩ := bd_some h
            refine R_cm [.int v3] d13_85 (List.mem_of_getElem? (i := 156) rfl) rfl ⟨by decide, by decide, Nat.le_of_ble_eq_true rfl, rfl, mcd8⟩ rfl rfl (Nat.le_of_ble_eq_true rfl) (hg37 _ _) rfl (t_f8_37 e16) ?_
            cases h
            exact R_vret d13_88 rfl rfl
          · refine R_nb d13_34 rfl (mb_f (b := (¬ q12 = (0 : Int32))) c14) ?_
            refine R_p d13_37 rfl rfl ?_
            obtain ⟨q17, e18, h⟩ := bd_some h
            refine R_cm [] d13_38 (List.mem_of_getElem? (i := 146) rfl) rfl ⟨by decide, by decide, Nat.le_of_ble_eq_true rfl, rfl, mcd2⟩ rfl rfl (Nat.le_of_ble_eq_true rfl) (hg39 _ _) rfl (t_f2_39 e18) ?_
            refine R_p (ls' := [(0, .ref 36), (1, .ref 37), (2, .ref 39), (3, .int v3), (4, .int q17)]) d13_41 rfl rfl ?_
            exact ih.2 v3 q17 s _ h
        · refine R_nb d13_17 rfl (mb_f (b := (¬ q9 = (0 : Int32))) c11) ?_
          refine R_p d13_20 rfl rfl ?_
          obtain ⟨q19, e20, h⟩ := bd_some h
          refine R_cm [] d13_21 (List.mem_of_getElem? (i := 151) rfl) rfl ⟨by decide, by decide, Nat.le_of_ble_eq_true rfl, rfl, mcd5⟩ rfl rfl (Nat.le_of_ble_eq_true rfl) (hg37 _ _) rfl (t_f5_37 e20) ?_
          refine R_p (ls' := [(0, .ref 36), (1, .ref 37), (2, .ref 39), (3, .int v3), (4, .int (v4 + Int32.ofInt (-1)))]) d13_24 rfl rfl ?_
          refine R_br 6 d13_27 rfl rfl ?_
          exact ih.1 v3 (v4 + Int32.ofInt (-1)) q19 _ h
    · intro v3 v4 s r h
      rw [r13_36_37_39, if_neg (by decide)] at h
      refine R_p d13_43 rfl rfl ?_
      rcases ite_some h with ⟨c1, h⟩ | ⟨c1, h⟩
      · refine R_br 83 d13_45 (mb_t (b := (v4 ≤ (0 : Int32))) c1) rfl ?_
        refine R_p d13_83 rfl rfl ?_
        refine R_p d13_84 rfl rfl ?_
        obtain ⟨q2, e3, h⟩ := bd_some h
        refine R_cm [.int v3] d13_85 (List.mem_of_getElem? (i := 156) rfl) rfl ⟨by decide, by decide, Nat.le_of_ble_eq_true rfl, rfl, mcd8⟩ rfl rfl (Nat.le_of_ble_eq_true rfl) (hg37 _ _) rfl (t_f8_37 e3) ?_
        cases h
        exact R_vret d13_88 rfl rfl
      · refine R_nb d13_45 rfl (mb_f (b := (v4 ≤ (0 : Int32))) c1) ?_
        refine R_p d13_48 rfl rfl ?_
        refine R_p d13_49 rfl rfl ?_
        refine R_p d13_50 rfl rfl ?_
        obtain ⟨q4, e5, h⟩ := bd_some h
        refine R_cm [.ref 39, .int v3] d13_51 (List.mem_of_getElem? (i := 152) rfl) rfl ⟨by decide, by decide, Nat.le_of_ble_eq_true rfl, rfl, mcd15⟩ rfl rfl (Nat.le_of_ble_eq_true rfl) (hg36 _ _) rfl (t_f15_36_39 e5) ?_
        rcases ite_some h with ⟨c6, h⟩ | ⟨c6, h⟩
        · refine R_br 83 d13_54 (mb_t (b := (q4 = (0 : Int32))) c6) rfl ?_
          refine R_p d13_83 rfl rfl ?_
          refine R_p d13_84 rfl rfl ?_
          obtain ⟨q7, e8, h⟩ := bd_some h
          refine R_cm [.int v3] d13_85 (List.mem_of_getElem? (i := 156) rfl) rfl ⟨by decide, by decide, Nat.le_of_ble_eq_true rfl, rfl, mcd8⟩ rfl rfl (Nat.le_of_ble_eq_true rfl) (hg37 _ _) rfl (t_f8_37 e8) ?_
          cases h
          exact R_vret d13_88 rfl rfl
        · refine R_nb d13_54 rfl (mb_f (b := (q4 = (0 : Int32))) c6) ?_
          refine R_p d13_57 rfl rfl ?_
          refine R_p d13_58 rfl rfl ?_
          obtain ⟨q9, e10, h⟩ := bd_some h
          refine R_cm [] d13_59 (List.mem_of_getElem? (i := 153) rfl) rfl ⟨by decide, by decide, Nat.le_of_ble_eq_true rfl, rfl, mcd6⟩ rfl rfl (Nat.le_of_ble_eq_true rfl) (hg39 _ _) rfl (t_f6_39 e10) ?_
          obtain ⟨s11, e12, h⟩ := pt_some h
          refine R_put d13_62 (List.mem_of_getElem? (i := 31) rfl) (hg36 _ _) (Nat.le_of_ble_eq_true rfl) rfl rfl (Or.inl rfl) ?_
          refine R_h (hp s11 ex) (by rw [e12]; exact hF6 _ _ _) ?_
          refine R_p d13_65 rfl rfl ?_
          refine R_p d13_66 rfl rfl ?_
          refine R_get d13_67 (Or.inl (List.mem_of_getElem? (i := 31) rfl)) (hg36 _ _) rfl ?_
          obtain ⟨q13, e14, h⟩ := bd_some h
          refine R_cm [.int (s11.2.2.1 6)] d13_70 (List.mem_of_getElem? (i := 154) rfl) rfl ⟨by decide, by decide, Nat.le_of_ble_eq_true rfl, rfl, mcd16⟩ rfl rfl (Nat.le_of_ble_eq_true rfl) (hg36 _ _) rfl (t_f16 e14) ?_
          refine R_p d13_73 rfl rfl ?_
          obtain ⟨q15, e16, h⟩ := bd_some h
          refine R_cm [] d13_74 (List.mem_of_getElem? (i := 155) rfl) rfl ⟨by decide, by decide, Nat.le_of_ble_eq_true rfl, rfl, mcd7⟩ rfl rfl (Nat.le_of_ble_eq_true rfl) (hg39 _ _) rfl (t_f7_39 e16) ?_
          refine R_p (ls' := [(0, .ref 36), (1, .ref 37), (2, .ref 39), (3, .int v3), (4, .int (v4 + Int32.ofInt (-1)))]) d13_77 rfl rfl ?_
          refine R_br 43 d13_80 rfl rfl ?_
          exact ih.2 v3 (v4 + Int32.ofInt (-1)) q15 _ h
def f13_36_37_39 (k : Nat) (v3 : Int32) (s : mS) : Option (mS) :=
  (f2_37 s).bind fun q1 => r13_36_37_39 k 0 v3 q1 s
theorem t_f13_36_37_39 {S : mE} {ex : mHp} {k : Nat} {v3 : Int32} {s : mS} {r : mS} (h : f13_36_37_39 k v3 s = some r) : Run S 13 (0, [(0, .ref 36), (1, .ref 37), (2, .ref 39), (3, .int v3)], [], hp s ex) (.inl none, hp r ex) := by
  unfold f13_36_37_39 at h
  refine R_p d13_0 rfl rfl ?_
  obtain ⟨q1, e2, h⟩ := bd_some h
  refine R_cm [] d13_1 (List.mem_of_getElem? (i := 146) rfl) rfl ⟨by decide, by decide, Nat.le_of_ble_eq_true rfl, rfl, mcd2⟩ rfl rfl (Nat.le_of_ble_eq_true rfl) (hg37 _ _) rfl (t_f2_37 e2) ?_
  refine R_p (ls' := [(0, .ref 36), (1, .ref 37), (2, .ref 39), (3, .int v3), (4, .int q1)]) d13_4 rfl rfl ?_
  exact (s13_36_37_39 (S := S) (ex := ex) k).1 v3 q1 s _ h
def r17 : Nat → Int32 → Int32 → mS → Option (mS)
  | 0, _, _, _ => none
  | k + 1, v1, v2, s =>
    (if (v2 ≤ (1 : Int32)) then
        (if ((s.2.2.1 9) ≤ (0 : Int32)) then
          some s
        else
          rdI 77 ((s.2.2.1 9) - (1 : Int32)) ((if (¬ (s.1 41 (Int32.toNatClampNeg ((s.2.2.1 9) - (1 : Int32)))) = v1) then
            some s
          else
            pt (uF 9 ((s.2.2.1 9) - (1 : Int32)) s) fun s5 => some s5)))
      else
        (f6_37 s).bind fun q7 => (f16 q7 s).bind fun q9 => (f7_37 q9).bind fun q11 => r17 k v1 (v2 + Int32.ofInt (-1)) q11)
theorem s17 {S : mE} {ex : mHp} (k : Nat) : (∀ (v1 : Int32) (v2 : Int32) (s : mS) (r : mS), r17 k v1 v2 s = some r → Run S 17 (21, [(0, .ref 36), (1, .int v1), (2, .int v2)], [], hp s ex) (.inl none, hp r ex)) := by
  induction k with
  | zero => intro v1 v2 s r h; cases h
  | succ k ih =>
    intro v1 v2 s r h
    rw [r17] at h
    refine R_p d17_21 rfl rfl ?_
    refine R_ic (v := 1) d17_22 (by decide) ?_
    rcases ite_some h with ⟨c1, h⟩ | ⟨c1, h⟩
    · refine R_br 50 d17_23 (mb_t (b := (v2 ≤ (1 : Int32))) c1) rfl ?_
      refine R_p d17_50 rfl rfl ?_
      refine R_get d17_51 (Or.inl (List.mem_of_getElem? (i := 35) rfl)) (hg36 _ _) rfl ?_
      rcases ite_some h with ⟨c2, h⟩ | ⟨c2, h⟩
      · refine R_br 82 d17_54 (mb_t (b := ((s.2.2.1 9) ≤ (0 : Int32))) c2) rfl ?_
        cases h
        exact R_vret d17_82 rfl rfl
      · refine R_nb d17_54 rfl (mb_f (b := ((s.2.2.1 9) ≤ (0 : Int32))) c2) ?_
        refine R_p d17_57 rfl rfl ?_
        refine R_get d17_58 (Or.inl (List.mem_of_getElem? (i := 34) rfl)) (hg36 _ _) rfl ?_
        refine R_p d17_61 rfl rfl ?_
        refine R_get d17_62 (Or.inl (List.mem_of_getElem? (i := 35) rfl)) (hg36 _ _) rfl ?_
        refine R_ic (v := 1) d17_65 (by decide) ?_
        refine R_p d17_66 rfl rfl ?_
        obtain ⟨c3, h⟩ := rdI_some h
        refine R_ild d17_67 (hg41 _ _) c3 ?_
        refine R_p d17_68 rfl rfl ?_
        rcases ite_some h with ⟨c4, h⟩ | ⟨c4, h⟩
        · refine R_br 82 d17_69 (mb_t (b := (¬ (s.1 41 (Int32.toNatClampNeg ((s.2.2.1 9) - (1 : Int32)))) = v1)) c4) rfl ?_
          cases h
          exact R_vret d17_82 rfl rfl
        · refine R_nb d17_69 rfl (mb_f (b := (¬ (s.1 41 (Int32.toNatClampNeg ((s.2.2.1 9) - (1 : Int32)))) = v1)) c4) ?_
          refine R_p d17_72 rfl rfl ?_
          refine R_p d17_73 rfl rfl ?_
          refine R_get d17_74 (Or.inl (List.mem_of_getElem? (i := 35) rfl)) (hg36 _ _) rfl ?_
          refine R_ic (v := 1) d17_77 (by decide) ?_
          refine R_p d17_78 rfl rfl ?_
          obtain ⟨s5, e6, h⟩ := pt_some h
          refine R_put d17_79 (List.mem_of_getElem? (i := 35) rfl) (hg36 _ _) (Nat.le_of_ble_eq_true rfl) rfl rfl (Or.inl rfl) ?_
          refine R_h (hp s5 ex) (by rw [e6]; exact hF9 _ _ _) ?_
          cases h
          exact R_vret d17_82 rfl rfl
    · refine R_nb d17_23 rfl (mb_f (b := (v2 ≤ (1 : Int32))) c1) ?_
      refine R_p d17_26 rfl rfl ?_
      refine R_p d17_27 rfl rfl ?_
      refine R_get d17_28 (Or.inl (List.mem_of_getElem? (i := 29) rfl)) (hg36 _ _) rfl ?_
      obtain ⟨q7, e8, h⟩ := bd_some h
      refine R_cm [] d17_31 (List.mem_of_getElem? (i := 153) rfl) rfl ⟨by decide, by decide, Nat.le_of_ble_eq_true rfl, rfl, mcd6⟩ rfl rfl (Nat.le_of_ble_eq_true rfl) (hg37 _ _) rfl (t_f6_37 e8) ?_
      obtain ⟨q9, e10, h⟩ := bd_some h
      refine R_cm [.int q7] d17_34 (List.mem_of_getElem? (i := 154) rfl) rfl ⟨by decide, by decide, Nat.le_of_ble_eq_true rfl, rfl, mcd16⟩ rfl rfl (Nat.le_of_ble_eq_true rfl) (hg36 _ _) rfl (t_f16 e10) ?_
      refine R_p d17_37 rfl rfl ?_
      refine R_get d17_38 (Or.inl (List.mem_of_getElem? (i := 29) rfl)) (hg36 _ _) rfl ?_
      obtain ⟨q11, e12, h⟩ := bd_some h
      refine R_cm [] d17_41 (List.mem_of_getElem? (i := 155) rfl) rfl ⟨by decide, by decide, Nat.le_of_ble_eq_true rfl, rfl, mcd7⟩ rfl rfl (Nat.le_of_ble_eq_true rfl) (hg37 _ _) rfl (t_f7_37 e12) ?_
      refine R_p (ls' := [(0, .ref 36), (1, .int v1), (2, .int (v2 + Int32.ofInt (-1)))]) d17_44 rfl rfl ?_
      refine R_br 21 d17_47 rfl rfl ?_
      exact ih v1 (v2 + Int32.ofInt (-1)) q11 _ h
def f17 (k : Nat) (v1 : Int32) (s : mS) : Option (mS) :=
  (f13_36_37_39 k v1 s).bind fun q1 => (f2_37 q1).bind fun q3 => r17 k v1 q3 q1
theorem t_f17 {S : mE} {ex : mHp} {k : Nat} {v1 : Int32} {s : mS} {r : mS} (h : f17 k v1 s = some r) : Run S 17 (0, [(0, .ref 36), (1, .int v1)], [], hp s ex) (.inl none, hp r ex) := by
  unfold f17 at h
  refine R_p d17_0 rfl rfl ?_
  refine R_p d17_1 rfl rfl ?_
  refine R_get d17_2 (Or.inl (List.mem_of_getElem? (i := 29) rfl)) (hg36 _ _) rfl ?_
  refine R_p d17_5 rfl rfl ?_
  refine R_get d17_6 (Or.inl (List.mem_of_getElem? (i := 30) rfl)) (hg36 _ _) rfl ?_
  refine R_p d17_9 rfl rfl ?_
  obtain ⟨q1, e2, h⟩ := bd_some h
  refine R_cm [.ref 37, .ref 39, .int v1] d17_10 (List.mem_of_getElem? (i := 145) rfl) rfl ⟨by decide, by decide, Nat.le_of_ble_eq_true rfl, rfl, mcd13⟩ rfl rfl (Nat.le_of_ble_eq_true rfl) (hg36 _ _) rfl (t_f13_36_37_39 e2) ?_
  refine R_p d17_13 rfl rfl ?_
  refine R_get d17_14 (Or.inl (List.mem_of_getElem? (i := 29) rfl)) (hg36 _ _) rfl ?_
  obtain ⟨q3, e4, h⟩ := bd_some h
  refine R_cm [] d17_17 (List.mem_of_getElem? (i := 146) rfl) rfl ⟨by decide, by decide, Nat.le_of_ble_eq_true rfl, rfl, mcd2⟩ rfl rfl (Nat.le_of_ble_eq_true rfl) (hg37 _ _) rfl (t_f2_37 e4) ?_
  refine R_p (ls' := [(0, .ref 36), (1, .int v1), (2, .int q3)]) d17_20 rfl rfl ?_
  exact s17 (S := S) (ex := ex) k v1 q3 q1 _ h
def f18  (s : mS) : Option (Int32) :=
  some (s.2.2.1 9)
theorem t_f18 {S : mE} {ex : mHp}  {s : mS} {r : Int32} (h : f18 s = some r) : Run S 18 (0, [(0, .ref 36)], [], hp s ex) (.inl (some (.int r)), hp s ex) := by
  unfold f18 at h
  refine R_p d18_0 rfl rfl ?_
  refine R_get d18_1 (Or.inl (List.mem_of_getElem? (i := 35) rfl)) (hg36 _ _) rfl ?_
  cases h
  exact R_iret d18_4 rfl rfl rfl
def f85 (k : Nat) (v1 : Int32) (s : mS) : Option (Int32) :=
  (f69 k v1 s).bind fun q1 => (if (¬ q1 = (-1 : Int32)) then
    some q1
  else
    some v1)
theorem t_f85 {S : mE} {ex : mHp} {k : Nat} {v1 : Int32} {s : mS} {r : Int32} (h : f85 k v1 s = some r) : Run S 85 (0, [(0, .ref 32), (1, .int v1)], [], hp s ex) (.inl (some (.int r)), hp s ex) := by
  unfold f85 at h
  refine R_p d85_0 rfl rfl ?_
  refine R_get d85_1 (Or.inl (List.mem_of_getElem? (i := 36) rfl)) (hg32 _ _) rfl ?_
  refine R_p d85_4 rfl rfl ?_
  obtain ⟨q1, e2, h⟩ := bd_some h
  refine R_cm [.int v1] d85_5 (List.mem_of_getElem? (i := 138) rfl) rfl ⟨by decide, by decide, Nat.le_of_ble_eq_true rfl, rfl, mcd69⟩ rfl rfl (Nat.le_of_ble_eq_true rfl) (hg17 _ _) rfl (t_f69 e2) ?_
  refine R_p (ls' := [(0, .ref 32), (1, .int v1), (2, .int q1)]) d85_8 rfl rfl ?_
  refine R_p d85_9 rfl rfl ?_
  refine R_ic (v := (-1)) d85_10 (by decide) ?_
  rcases ite_some h with ⟨c3, h⟩ | ⟨c3, h⟩
  · refine R_br 18 d85_11 (mb_t (b := (¬ q1 = (-1 : Int32))) c3) rfl ?_
    refine R_p d85_18 rfl rfl ?_
    cases h
    exact R_iret d85_19 rfl rfl rfl
  · refine R_nb d85_11 rfl (mb_f (b := (¬ q1 = (-1 : Int32))) c3) ?_
    refine R_p d85_14 rfl rfl ?_
    refine R_br 19 d85_15 rfl rfl ?_
    cases h
    exact R_iret d85_19 rfl rfl rfl
def f5_39  (s : mS) : Option (mS) :=
  pt (uF 13 ((s.2.2.1 13) - (1 : Int32)) s) fun s1 => some s1
theorem t_f5_39 {S : mE} {ex : mHp}  {s : mS} {r : mS} (h : f5_39 s = some r) : Run S 5 (0, [(0, .ref 39)], [], hp s ex) (.inl none, hp r ex) := by
  unfold f5_39 at h
  refine R_p d5_0 rfl rfl ?_
  refine R_p d5_1 rfl rfl ?_
  refine R_get d5_2 (Or.inl (List.mem_of_getElem? (i := 27) rfl)) (hg39 _ _) rfl ?_
  refine R_ic (v := 1) d5_5 (by decide) ?_
  refine R_p d5_6 rfl rfl ?_
  obtain ⟨s1, e2, h⟩ := pt_some h
  refine R_put d5_7 (List.mem_of_getElem? (i := 27) rfl) (hg39 _ _) (Nat.le_of_ble_eq_true rfl) rfl rfl (Or.inl rfl) ?_
  refine R_h (hp s1 ex) (by rw [e2]; exact hF13 _ _ _) ?_
  cases h
  exact R_vret d5_10 rfl rfl
def f8_39 (v1 : Int32) (s : mS) : Option (mS) :=
  rdI 77 (s.2.2.1 13) (pt (uA 40 (upd (s.1 40) (Int32.toNatClampNeg (s.2.2.1 13)) v1) s) fun s2 => pt (uF 13 ((s2.2.2.1 13) + (1 : Int32)) s2) fun s4 => some s4)
theorem t_f8_39 {S : mE} {ex : mHp} {v1 : Int32} {s : mS} {r : mS} (h : f8_39 v1 s = some r) : Run S 8 (0, [(0, .ref 39), (1, .int v1)], [], hp s ex) (.inl none, hp r ex) := by
  unfold f8_39 at h
  refine R_p d8_0 rfl rfl ?_
  refine R_get d8_1 (Or.inl (List.mem_of_getElem? (i := 25) rfl)) (hg39 _ _) rfl ?_
  refine R_p d8_4 rfl rfl ?_
  refine R_get d8_5 (Or.inl (List.mem_of_getElem? (i := 27) rfl)) (hg39 _ _) rfl ?_
  refine R_p d8_8 rfl rfl ?_
  obtain ⟨c1, h⟩ := rdI_some h
  obtain ⟨s2, e3, h⟩ := pt_some h
  refine R_ist d8_9 (hg40 _ _) c1 ?_
  refine R_h (hp s2 ex) (by rw [e3]; exact hA40 _ _ _) ?_
  refine R_p d8_10 rfl rfl ?_
  refine R_p d8_11 rfl rfl ?_
  refine R_get d8_12 (Or.inl (List.mem_of_getElem? (i := 27) rfl)) (hg39 _ _) rfl ?_
  refine R_ic (v := 1) d8_15 (by decide) ?_
  refine R_p d8_16 rfl rfl ?_
  obtain ⟨s4, e5, h⟩ := pt_some h
  refine R_put d8_17 (List.mem_of_getElem? (i := 27) rfl) (hg39 _ _) (Nat.le_of_ble_eq_true rfl) rfl rfl (Or.inl rfl) ?_
  refine R_h (hp s4 ex) (by rw [e5]; exact hF13 _ _ _) ?_
  cases h
  exact R_vret d8_20 rfl rfl
def f3_39 (v1 : Int32) (s : mS) : Option (Int32) :=
  (if (((s.2.2.1 13) - (s.2.2.1 12)) ≤ (1 : Int32)) then
    some v1
  else
    rdI 77 ((s.2.2.1 13) - (2 : Int32)) (some (s.1 40 (Int32.toNatClampNeg ((s.2.2.1 13) - (2 : Int32))))))
theorem t_f3_39 {S : mE} {ex : mHp} {v1 : Int32} {s : mS} {r : Int32} (h : f3_39 v1 s = some r) : Run S 3 (0, [(0, .ref 39), (1, .int v1)], [], hp s ex) (.inl (some (.int r)), hp s ex) := by
  unfold f3_39 at h
  refine R_p d3_0 rfl rfl ?_
  refine R_get d3_1 (Or.inl (List.mem_of_getElem? (i := 27) rfl)) (hg39 _ _) rfl ?_
  refine R_p d3_4 rfl rfl ?_
  refine R_get d3_5 (Or.inl (List.mem_of_getElem? (i := 26) rfl)) (hg39 _ _) rfl ?_
  refine R_p d3_8 rfl rfl ?_
  refine R_ic (v := 1) d3_9 (by decide) ?_
  rcases ite_some h with ⟨c1, h⟩ | ⟨c1, h⟩
  · refine R_br 27 d3_10 (mb_t (b := (((s.2.2.1 13) - (s.2.2.1 12)) ≤ (1 : Int32))) c1) rfl ?_
    refine R_p d3_27 rfl rfl ?_
    cases h
    exact R_iret d3_28 rfl rfl rfl
  · refine R_nb d3_10 rfl (mb_f (b := (((s.2.2.1 13) - (s.2.2.1 12)) ≤ (1 : Int32))) c1) ?_
    refine R_p d3_13 rfl rfl ?_
    refine R_get d3_14 (Or.inl (List.mem_of_getElem? (i := 25) rfl)) (hg39 _ _) rfl ?_
    refine R_p d3_17 rfl rfl ?_
    refine R_get d3_18 (Or.inl (List.mem_of_getElem? (i := 27) rfl)) (hg39 _ _) rfl ?_
    refine R_ic (v := 2) d3_21 (by decide) ?_
    refine R_p d3_22 rfl rfl ?_
    obtain ⟨c2, h⟩ := rdI_some h
    refine R_ild d3_23 (hg40 _ _) c2 ?_
    refine R_br 28 d3_24 rfl rfl ?_
    cases h
    exact R_iret d3_28 rfl rfl rfl
def f4_39  (s : mS) : Option (Int32) :=
  rdI 77 ((s.2.2.1 13) - (1 : Int32)) (some (s.1 40 (Int32.toNatClampNeg ((s.2.2.1 13) - (1 : Int32)))))
theorem t_f4_39 {S : mE} {ex : mHp}  {s : mS} {r : Int32} (h : f4_39 s = some r) : Run S 4 (0, [(0, .ref 39)], [], hp s ex) (.inl (some (.int r)), hp s ex) := by
  unfold f4_39 at h
  refine R_p d4_0 rfl rfl ?_
  refine R_get d4_1 (Or.inl (List.mem_of_getElem? (i := 25) rfl)) (hg39 _ _) rfl ?_
  refine R_p d4_4 rfl rfl ?_
  refine R_get d4_5 (Or.inl (List.mem_of_getElem? (i := 27) rfl)) (hg39 _ _) rfl ?_
  refine R_ic (v := 1) d4_8 (by decide) ?_
  refine R_p d4_9 rfl rfl ?_
  obtain ⟨c1, h⟩ := rdI_some h
  refine R_ild d4_10 (hg40 _ _) c1 ?_
  cases h
  exact R_iret d4_11 rfl rfl rfl
def f14_36_39 (v2 : Int32) (s : mS) : Option (Int32) :=
  (f3_39 (s.2.2.1 6) s).bind fun q1 => (f4_39 s).bind fun q3 => (f71 q1 q3 v2 s).bind fun q5 => (if (((Int32.toInt64 (-1)) * q5) ≤ (0 : Int64)) then
    some (0 : Int32)
  else
    some (1 : Int32))
theorem t_f14_36_39 {S : mE} {ex : mHp} {v2 : Int32} {s : mS} {r : Int32} (h : f14_36_39 v2 s = some r) : Run S 14 (0, [(0, .ref 36), (1, .ref 39), (2, .int v2)], [], hp s ex) (.inl (some (.int r)), hp s ex) := by
  unfold f14_36_39 at h
  refine R_p d14_0 rfl rfl ?_
  refine R_get d14_1 (Or.inr (List.mem_of_getElem? (i := 0) rfl)) (hg39 _ _) rfl ?_
  refine R_p d14_4 rfl rfl ?_
  refine R_p d14_5 rfl rfl ?_
  refine R_get d14_6 (Or.inl (List.mem_of_getElem? (i := 28) rfl)) (hg36 _ _) rfl ?_
  refine R_p d14_9 rfl rfl ?_
  refine R_p d14_10 rfl rfl ?_
  refine R_get d14_11 (Or.inl (List.mem_of_getElem? (i := 31) rfl)) (hg36 _ _) rfl ?_
  obtain ⟨q1, e2, h⟩ := bd_some h
  refine R_cm [.int (s.2.2.1 6)] d14_14 (List.mem_of_getElem? (i := 148) rfl) rfl ⟨by decide, by decide, Nat.le_of_ble_eq_true rfl, rfl, mcd3⟩ rfl rfl (Nat.le_of_ble_eq_true rfl) (hg39 _ _) rfl (t_f3_39 e2) ?_
  refine R_p d14_17 rfl rfl ?_
  obtain ⟨q3, e4, h⟩ := bd_some h
  refine R_cm [] d14_18 (List.mem_of_getElem? (i := 149) rfl) rfl ⟨by decide, by decide, Nat.le_of_ble_eq_true rfl, rfl, mcd4⟩ rfl rfl (Nat.le_of_ble_eq_true rfl) (hg39 _ _) rfl (t_f4_39 e4) ?_
  refine R_p d14_21 rfl rfl ?_
  obtain ⟨q5, e6, h⟩ := bd_some h
  refine R_cm [.int q1, .int q3, .int v2] d14_22 (List.mem_of_getElem? (i := 150) rfl) rfl ⟨by decide, by decide, Nat.le_of_ble_eq_true rfl, rfl, mcd71⟩ rfl rfl (Nat.le_of_ble_eq_true rfl) (hg17 _ _) rfl (t_f71 e6) ?_
  refine R_p d14_25 rfl rfl ?_
  refine R_lc (v := 0) d14_26 (by decide) ?_
  refine R_p d14_27 rfl rfl ?_
  rcases ite_some h with ⟨c7, h⟩ | ⟨c7, h⟩
  · refine R_br 35 d14_28 (mb_t (b := ((lg_cmp ((Int32.toInt64 (-1)) * q5) 0) ≤ (0 : Int32))) (lgc_le.mpr c7)) rfl ?_
    refine R_ic (v := 0) d14_35 (by decide) ?_
    cases h
    exact R_iret d14_36 rfl rfl rfl
  · refine R_nb d14_28 rfl (mb_f (b := ((lg_cmp ((Int32.toInt64 (-1)) * q5) 0) ≤ (0 : Int32))) (fun q => c7 (lgc_le.mp q))) ?_
    refine R_ic (v := 1) d14_31 (by decide) ?_
    refine R_br 36 d14_32 rfl rfl ?_
    cases h
    exact R_iret d14_36 rfl rfl rfl
def f15_36_37 (v2 : Int32) (s : mS) : Option (Int32) :=
  (f6_37 s).bind fun q1 => (f71 (s.2.2.1 6) q1 v2 s).bind fun q3 => (if (((Int32.toInt64 1) * q3) ≤ (0 : Int64)) then
    some (0 : Int32)
  else
    some (1 : Int32))
theorem t_f15_36_37 {S : mE} {ex : mHp} {v2 : Int32} {s : mS} {r : Int32} (h : f15_36_37 v2 s = some r) : Run S 15 (0, [(0, .ref 36), (1, .ref 37), (2, .int v2)], [], hp s ex) (.inl (some (.int r)), hp s ex) := by
  unfold f15_36_37 at h
  refine R_p d15_0 rfl rfl ?_
  refine R_get d15_1 (Or.inr (List.mem_of_getElem? (i := 0) rfl)) (hg37 _ _) rfl ?_
  refine R_p d15_4 rfl rfl ?_
  refine R_p d15_5 rfl rfl ?_
  refine R_get d15_6 (Or.inl (List.mem_of_getElem? (i := 28) rfl)) (hg36 _ _) rfl ?_
  refine R_p d15_9 rfl rfl ?_
  refine R_get d15_10 (Or.inl (List.mem_of_getElem? (i := 31) rfl)) (hg36 _ _) rfl ?_
  refine R_p d15_13 rfl rfl ?_
  obtain ⟨q1, e2, h⟩ := bd_some h
  refine R_cm [] d15_14 (List.mem_of_getElem? (i := 153) rfl) rfl ⟨by decide, by decide, Nat.le_of_ble_eq_true rfl, rfl, mcd6⟩ rfl rfl (Nat.le_of_ble_eq_true rfl) (hg37 _ _) rfl (t_f6_37 e2) ?_
  refine R_p d15_17 rfl rfl ?_
  obtain ⟨q3, e4, h⟩ := bd_some h
  refine R_cm [.int (s.2.2.1 6), .int q1, .int v2] d15_18 (List.mem_of_getElem? (i := 150) rfl) rfl ⟨by decide, by decide, Nat.le_of_ble_eq_true rfl, rfl, mcd71⟩ rfl rfl (Nat.le_of_ble_eq_true rfl) (hg17 _ _) rfl (t_f71 e4) ?_
  refine R_p d15_21 rfl rfl ?_
  refine R_lc (v := 0) d15_22 (by decide) ?_
  refine R_p d15_23 rfl rfl ?_
  rcases ite_some h with ⟨c5, h⟩ | ⟨c5, h⟩
  · refine R_br 31 d15_24 (mb_t (b := ((lg_cmp ((Int32.toInt64 1) * q3) 0) ≤ (0 : Int32))) (lgc_le.mpr c5)) rfl ?_
    refine R_ic (v := 0) d15_31 (by decide) ?_
    cases h
    exact R_iret d15_32 rfl rfl rfl
  · refine R_nb d15_24 rfl (mb_f (b := ((lg_cmp ((Int32.toInt64 1) * q3) 0) ≤ (0 : Int32))) (fun q => c5 (lgc_le.mp q))) ?_
    refine R_ic (v := 1) d15_27 (by decide) ?_
    refine R_br 32 d15_28 rfl rfl ?_
    cases h
    exact R_iret d15_32 rfl rfl rfl
def r13_36_39_37 : Nat → Nat → Int32 → Int32 → mS → Option (mS)
  | 0, _, _, _, _ => none
  | k + 1, hd, v3, v4, s =>
    if hd = 0 then (if (v4 ≤ (0 : Int32)) then
        (f2_39 s).bind fun q2 => (if (¬ q2 = (0 : Int32)) then
          (f8_39 v3 s).bind fun q5 => some q5
        else
          (f2_37 s).bind fun q7 => r13_36_39_37 k 1 v3 q7 s)
      else
        (f14_36_39 v3 s).bind fun q9 => (if (¬ q9 = (0 : Int32)) then
          (f2_39 s).bind fun q12 => (if (¬ q12 = (0 : Int32)) then
            (f8_39 v3 s).bind fun q15 => some q15
          else
            (f2_37 s).bind fun q17 => r13_36_39_37 k 1 v3 q17 s)
        else
          (f5_39 s).bind fun q19 => r13_36_39_37 k 0 v3 (v4 + Int32.ofInt (-1)) q19)) else
    (if (v4 ≤ (0 : Int32)) then
        (f8_39 v3 s).bind fun q2 => some q2
      else
        (f15_36_37 v3 s).bind fun q4 => (if (q4 = (0 : Int32)) then
          (f8_39 v3 s).bind fun q7 => some q7
        else
          (f6_37 s).bind fun q9 => pt (uF 6 q9 s) fun s11 => (f16 (s11.2.2.1 6) s11).bind fun q13 => (f7_37 q13).bind fun q15 => r13_36_39_37 k 1 v3 (v4 + Int32.ofInt (-1)) q15))
theorem s13_36_39_37 {S : mE} {ex : mHp} (k : Nat) : (∀ (v3 : Int32) (v4 : Int32) (s : mS) (r : mS), r13_36_39_37 k 0 v3 v4 s = some r → Run S 13 (6, [(0, .ref 36), (1, .ref 39), (2, .ref 37), (3, .int v3), (4, .int v4)], [], hp s ex) (.inl none, hp r ex)) ∧ (∀ (v3 : Int32) (v4 : Int32) (s : mS) (r : mS), r13_36_39_37 k 1 v3 v4 s = some r → Run S 13 (43, [(0, .ref 36), (1, .ref 39), (2, .ref 37), (3, .int v3), (4, .int v4)], [], hp s ex) (.inl none, hp r ex)) := by
  induction k with
  | zero => refine ⟨?_, ?_⟩ <;> (intro v3 v4 s r h; cases h)
  | succ k ih =>
    refine ⟨?_, ?_⟩
    · intro v3 v4 s r h
      rw [r13_36_39_37, if_pos rfl] at h
      refine R_p d13_6 rfl rfl ?_
      rcases ite_some h with ⟨c1, h⟩ | ⟨c1, h⟩
      · refine R_br 30 d13_8 (mb_t (b := (v4 ≤ (0 : Int32))) c1) rfl ?_
        refine R_p d13_30 rfl rfl ?_
        obtain ⟨q2, e3, h⟩ := bd_some h
        refine R_cm [] d13_31 (List.mem_of_getElem? (i := 146) rfl) rfl ⟨by decide, by decide, Nat.le_of_ble_eq_true rfl, rfl, mcd2⟩ rfl rfl (Nat.le_of_ble_eq_true rfl) (hg39 _ _) rfl (t_f2_39 e3) ?_
        rcases ite_some h with ⟨c4, h⟩ | ⟨c4, h⟩
        · refine R_br 83 d13_34 (mb_t (b := (¬ q2 = (0 : Int32))) c4) rfl ?_
          refine R_p d13_83 rfl rfl ?_
          refine R_p d13_84 rfl rfl ?_
          obtain ⟨q5, e6, h⟩ := bd_some h
          refine R_cm [.int v3] d13_85 (List.mem_of_getElem? (i := 156) rfl) rfl ⟨by decide, by decide, Nat.le_of_ble_eq_true rfl, rfl, mcd8⟩ rfl rfl (Nat.le_of_ble_eq_true rfl) (hg39 _ _) rfl (t_f8_39 e6) ?_
          cases h
          exact R_vret d13_88 rfl rfl
        · refine R_nb d13_34 rfl (mb_f (b := (¬ q2 = (0 : Int32))) c4) ?_
          refine R_p d13_37 rfl rfl ?_
          obtain ⟨q7, e8, h⟩ := bd_some h
          refine R_cm [] d13_38 (List.mem_of_getElem? (i := 146) rfl) rfl ⟨by decide, by decide, Nat.le_of_ble_eq_true rfl, rfl, mcd2⟩ rfl rfl (Nat.le_of_ble_eq_true rfl) (hg37 _ _) rfl (t_f2_37 e8) ?_
          refine R_p (ls' := [(0, .ref 36), (1, .ref 39), (2, .ref 37), (3, .int v3), (4, .int q7)]) d13_41 rfl rfl ?_
          exact ih.2 v3 q7 s _ h
      · refine R_nb d13_8 rfl (mb_f (b := (v4 ≤ (0 : Int32))) c1) ?_
        refine R_p d13_11 rfl rfl ?_
        refine R_p d13_12 rfl rfl ?_
        refine R_p d13_13 rfl rfl ?_
        obtain ⟨q9, e10, h⟩ := bd_some h
        refine R_cm [.ref 39, .int v3] d13_14 (List.mem_of_getElem? (i := 147) rfl) rfl ⟨by decide, by decide, Nat.le_of_ble_eq_true rfl, rfl, mcd14⟩ rfl rfl (Nat.le_of_ble_eq_true rfl) (hg36 _ _) rfl (t_f14_36_39 e10) ?_
        rcases ite_some h with ⟨c11, h⟩ | ⟨c11, h⟩
        · refine R_br 30 d13_17 (mb_t (b := (¬ q9 = (0 : Int32))) c11) rfl ?_
          refine R_p d13_30 rfl rfl ?_
          obtain ⟨q12, e13, h⟩ := bd_some h
          refine R_cm [] d13_31 (List.mem_of_getElem? (i := 146) rfl) rfl ⟨by decide, by decide, Nat.le_of_ble_eq_true rfl, rfl, mcd2⟩ rfl rfl (Nat.le_of_ble_eq_true rfl) (hg39 _ _) rfl (t_f2_39 e13) ?_
          rcases ite_some h with ⟨c14, h⟩ | ⟨c14, h⟩
          · refine R_br 83 d13_34 (mb_t (b := (¬ q12 = (0 : Int32))) c14) rfl ?_
            refine R_p d13_83 rfl rfl ?_
            refine R_p d13_84 rfl rfl ?_
            obtain ⟨q15, e16, h⟩ := bd_some h
            refine R_cm [.int v3] d13_85 (List.mem_of_getElem? (i := 156) rfl) rfl ⟨by decide, by decide, Nat.le_of_ble_eq_true rfl, rfl, mcd8⟩ rfl rfl (Nat.le_of_ble_eq_true rfl) (hg39 _ _) rfl (t_f8_39 e16) ?_
            cases h
            exact R_vret d13_88 rfl rfl
          · refine R_nb d13_34 rfl (mb_f (b := (¬ q12 = (0 : Int32))) c14) ?_
            refine R_p d13_37 rfl rfl ?_
            obtain ⟨q17, e18, h⟩ := bd_some h
            refine R_cm [] d13_38 (List.mem_of_getElem? (i := 146) rfl) rfl ⟨by decide, by decide, Nat.le_of_ble_eq_true rfl, rfl, mcd2⟩ rfl rfl (Nat.le_of_ble_eq_true rfl) (hg37 _ _) rfl (t_f2_37 e18) ?_
            refine R_p (ls' := [(0, .ref 36), (1, .ref 39), (2, .ref 37), (3, .int v3), (4, .int q17)]) d13_41 rfl rfl ?_
            exact ih.2 v3 q17 s _ h
        · refine R_nb d13_17 rfl (mb_f (b := (¬ q9 = (0 : Int32))) c11) ?_
          refine R_p d13_20 rfl rfl ?_
          obtain ⟨q19, e20, h⟩ := bd_some h
          refine R_cm [] d13_21 (List.mem_of_getElem? (i := 151) rfl) rfl ⟨by decide, by decide, Nat.le_of_ble_eq_true rfl, rfl, mcd5⟩ rfl rfl (Nat.le_of_ble_eq_true rfl) (hg39 _ _) rfl (t_f5_39 e20) ?_
          refine R_p (ls' := [(0, .ref 36), (1, .ref 39), (2, .ref 37), (3, .int v3), (4, .int (v4 + Int32.ofInt (-1)))]) d13_24 rfl rfl ?_
          refine R_br 6 d13_27 rfl rfl ?_
          exact ih.1 v3 (v4 + Int32.ofInt (-1)) q19 _ h
    · intro v3 v4 s r h
      rw [r13_36_39_37, if_neg (by decide)] at h
      refine R_p d13_43 rfl rfl ?_
      rcases ite_some h with ⟨c1, h⟩ | ⟨c1, h⟩
      · refine R_br 83 d13_45 (mb_t (b := (v4 ≤ (0 : Int32))) c1) rfl ?_
        refine R_p d13_83 rfl rfl ?_
        refine R_p d13_84 rfl rfl ?_
        obtain ⟨q2, e3, h⟩ := bd_some h
        refine R_cm [.int v3] d13_85 (List.mem_of_getElem? (i := 156) rfl) rfl ⟨by decide, by decide, Nat.le_of_ble_eq_true rfl, rfl, mcd8⟩ rfl rfl (Nat.le_of_ble_eq_true rfl) (hg39 _ _) rfl (t_f8_39 e3) ?_
        cases h
        exact R_vret d13_88 rfl rfl
      · refine R_nb d13_45 rfl (mb_f (b := (v4 ≤ (0 : Int32))) c1) ?_
        refine R_p d13_48 rfl rfl ?_
        refine R_p d13_49 rfl rfl ?_
        refine R_p d13_50 rfl rfl ?_
        obtain ⟨q4, e5, h⟩ := bd_some h
        refine R_cm [.ref 37, .int v3] d13_51 (List.mem_of_getElem? (i := 152) rfl) rfl ⟨by decide, by decide, Nat.le_of_ble_eq_true rfl, rfl, mcd15⟩ rfl rfl (Nat.le_of_ble_eq_true rfl) (hg36 _ _) rfl (t_f15_36_37 e5) ?_
        rcases ite_some h with ⟨c6, h⟩ | ⟨c6, h⟩
        · refine R_br 83 d13_54 (mb_t (b := (q4 = (0 : Int32))) c6) rfl ?_
          refine R_p d13_83 rfl rfl ?_
          refine R_p d13_84 rfl rfl ?_
          obtain ⟨q7, e8, h⟩ := bd_some h
          refine R_cm [.int v3] d13_85 (List.mem_of_getElem? (i := 156) rfl) rfl ⟨by decide, by decide, Nat.le_of_ble_eq_true rfl, rfl, mcd8⟩ rfl rfl (Nat.le_of_ble_eq_true rfl) (hg39 _ _) rfl (t_f8_39 e8) ?_
          cases h
          exact R_vret d13_88 rfl rfl
        · refine R_nb d13_54 rfl (mb_f (b := (q4 = (0 : Int32))) c6) ?_
          refine R_p d13_57 rfl rfl ?_
          refine R_p d13_58 rfl rfl ?_
          obtain ⟨q9, e10, h⟩ := bd_some h
          refine R_cm [] d13_59 (List.mem_of_getElem? (i := 153) rfl) rfl ⟨by decide, by decide, Nat.le_of_ble_eq_true rfl, rfl, mcd6⟩ rfl rfl (Nat.le_of_ble_eq_true rfl) (hg37 _ _) rfl (t_f6_37 e10) ?_
          obtain ⟨s11, e12, h⟩ := pt_some h
          refine R_put d13_62 (List.mem_of_getElem? (i := 31) rfl) (hg36 _ _) (Nat.le_of_ble_eq_true rfl) rfl rfl (Or.inl rfl) ?_
          refine R_h (hp s11 ex) (by rw [e12]; exact hF6 _ _ _) ?_
          refine R_p d13_65 rfl rfl ?_
          refine R_p d13_66 rfl rfl ?_
          refine R_get d13_67 (Or.inl (List.mem_of_getElem? (i := 31) rfl)) (hg36 _ _) rfl ?_
          obtain ⟨q13, e14, h⟩ := bd_some h
          refine R_cm [.int (s11.2.2.1 6)] d13_70 (List.mem_of_getElem? (i := 154) rfl) rfl ⟨by decide, by decide, Nat.le_of_ble_eq_true rfl, rfl, mcd16⟩ rfl rfl (Nat.le_of_ble_eq_true rfl) (hg36 _ _) rfl (t_f16 e14) ?_
          refine R_p d13_73 rfl rfl ?_
          obtain ⟨q15, e16, h⟩ := bd_some h
          refine R_cm [] d13_74 (List.mem_of_getElem? (i := 155) rfl) rfl ⟨by decide, by decide, Nat.le_of_ble_eq_true rfl, rfl, mcd7⟩ rfl rfl (Nat.le_of_ble_eq_true rfl) (hg37 _ _) rfl (t_f7_37 e16) ?_
          refine R_p (ls' := [(0, .ref 36), (1, .ref 39), (2, .ref 37), (3, .int v3), (4, .int (v4 + Int32.ofInt (-1)))]) d13_77 rfl rfl ?_
          refine R_br 43 d13_80 rfl rfl ?_
          exact ih.2 v3 (v4 + Int32.ofInt (-1)) q15 _ h
def f13_36_39_37 (k : Nat) (v3 : Int32) (s : mS) : Option (mS) :=
  (f2_39 s).bind fun q1 => r13_36_39_37 k 0 v3 q1 s
theorem t_f13_36_39_37 {S : mE} {ex : mHp} {k : Nat} {v3 : Int32} {s : mS} {r : mS} (h : f13_36_39_37 k v3 s = some r) : Run S 13 (0, [(0, .ref 36), (1, .ref 39), (2, .ref 37), (3, .int v3)], [], hp s ex) (.inl none, hp r ex) := by
  unfold f13_36_39_37 at h
  refine R_p d13_0 rfl rfl ?_
  obtain ⟨q1, e2, h⟩ := bd_some h
  refine R_cm [] d13_1 (List.mem_of_getElem? (i := 146) rfl) rfl ⟨by decide, by decide, Nat.le_of_ble_eq_true rfl, rfl, mcd2⟩ rfl rfl (Nat.le_of_ble_eq_true rfl) (hg39 _ _) rfl (t_f2_39 e2) ?_
  refine R_p (ls' := [(0, .ref 36), (1, .ref 39), (2, .ref 37), (3, .int v3), (4, .int q1)]) d13_4 rfl rfl ?_
  exact (s13_36_39_37 (S := S) (ex := ex) k).1 v3 q1 s _ h
def f12 (k : Nat) (v1 : Int32) (v2 : Int32) (s : mS) : Option (mS) :=
  (if (v1 = (s.2.2.1 7)) then
    (if (v2 = (s.2.2.1 8)) then
      some s
    else
      (f13_36_39_37 k v2 s).bind fun q3 => pt (uF 8 v2 q3) fun s5 => some s5)
  else
    (f13_36_37_39 k v1 s).bind fun q7 => pt (uF 7 v1 q7) fun s9 => (if (v2 = (s9.2.2.1 8)) then
      some s9
    else
      (f13_36_39_37 k v2 s9).bind fun q12 => pt (uF 8 v2 q12) fun s14 => some s14))
theorem t_f12 {S : mE} {ex : mHp} {k : Nat} {v1 : Int32} {v2 : Int32} {s : mS} {r : mS} (h : f12 k v1 v2 s = some r) : Run S 12 (0, [(0, .ref 36), (1, .int v1), (2, .int v2)], [], hp s ex) (.inl none, hp r ex) := by
  unfold f12 at h
  refine R_p d12_0 rfl rfl ?_
  refine R_p d12_1 rfl rfl ?_
  refine R_get d12_2 (Or.inl (List.mem_of_getElem? (i := 32) rfl)) (hg36 _ _) rfl ?_
  rcases ite_some h with ⟨c1, h⟩ | ⟨c1, h⟩
  · refine R_br 26 d12_5 (mb_t (b := (v1 = (s.2.2.1 7))) c1) rfl ?_
    refine R_p d12_26 rfl rfl ?_
    refine R_p d12_27 rfl rfl ?_
    refine R_get d12_28 (Or.inl (List.mem_of_getElem? (i := 33) rfl)) (hg36 _ _) rfl ?_
    rcases ite_some h with ⟨c2, h⟩ | ⟨c2, h⟩
    · refine R_br 52 d12_31 (mb_t (b := (v2 = (s.2.2.1 8))) c2) rfl ?_
      cases h
      exact R_vret d12_52 rfl rfl
    · refine R_nb d12_31 rfl (mb_f (b := (v2 = (s.2.2.1 8))) c2) ?_
      refine R_p d12_34 rfl rfl ?_
      refine R_p d12_35 rfl rfl ?_
      refine R_get d12_36 (Or.inl (List.mem_of_getElem? (i := 30) rfl)) (hg36 _ _) rfl ?_
      refine R_p d12_39 rfl rfl ?_
      refine R_get d12_40 (Or.inl (List.mem_of_getElem? (i := 29) rfl)) (hg36 _ _) rfl ?_
      refine R_p d12_43 rfl rfl ?_
      obtain ⟨q3, e4, h⟩ := bd_some h
      refine R_cm [.ref 39, .ref 37, .int v2] d12_44 (List.mem_of_getElem? (i := 145) rfl) rfl ⟨by decide, by decide, Nat.le_of_ble_eq_true rfl, rfl, mcd13⟩ rfl rfl (Nat.le_of_ble_eq_true rfl) (hg36 _ _) rfl (t_f13_36_39_37 e4) ?_
      refine R_p d12_47 rfl rfl ?_
      refine R_p d12_48 rfl rfl ?_
      obtain ⟨s5, e6, h⟩ := pt_some h
      refine R_put d12_49 (List.mem_of_getElem? (i := 33) rfl) (hg36 _ _) (Nat.le_of_ble_eq_true rfl) rfl rfl (Or.inl rfl) ?_
      refine R_h (hp s5 ex) (by rw [e6]; exact hF8 _ _ _) ?_
      cases h
      exact R_vret d12_52 rfl rfl
  · refine R_nb d12_5 rfl (mb_f (b := (v1 = (s.2.2.1 7))) c1) ?_
    refine R_p d12_8 rfl rfl ?_
    refine R_p d12_9 rfl rfl ?_
    refine R_get d12_10 (Or.inl (List.mem_of_getElem? (i := 29) rfl)) (hg36 _ _) rfl ?_
    refine R_p d12_13 rfl rfl ?_
    refine R_get d12_14 (Or.inl (List.mem_of_getElem? (i := 30) rfl)) (hg36 _ _) rfl ?_
    refine R_p d12_17 rfl rfl ?_
    obtain ⟨q7, e8, h⟩ := bd_some h
    refine R_cm [.ref 37, .ref 39, .int v1] d12_18 (List.mem_of_getElem? (i := 145) rfl) rfl ⟨by decide, by decide, Nat.le_of_ble_eq_true rfl, rfl, mcd13⟩ rfl rfl (Nat.le_of_ble_eq_true rfl) (hg36 _ _) rfl (t_f13_36_37_39 e8) ?_
    refine R_p d12_21 rfl rfl ?_
    refine R_p d12_22 rfl rfl ?_
    obtain ⟨s9, e10, h⟩ := pt_some h
    refine R_put d12_23 (List.mem_of_getElem? (i := 32) rfl) (hg36 _ _) (Nat.le_of_ble_eq_true rfl) rfl rfl (Or.inl rfl) ?_
    refine R_h (hp s9 ex) (by rw [e10]; exact hF7 _ _ _) ?_
    refine R_p d12_26 rfl rfl ?_
    refine R_p d12_27 rfl rfl ?_
    refine R_get d12_28 (Or.inl (List.mem_of_getElem? (i := 33) rfl)) (hg36 _ _) rfl ?_
    rcases ite_some h with ⟨c11, h⟩ | ⟨c11, h⟩
    · refine R_br 52 d12_31 (mb_t (b := (v2 = (s9.2.2.1 8))) c11) rfl ?_
      cases h
      exact R_vret d12_52 rfl rfl
    · refine R_nb d12_31 rfl (mb_f (b := (v2 = (s9.2.2.1 8))) c11) ?_
      refine R_p d12_34 rfl rfl ?_
      refine R_p d12_35 rfl rfl ?_
      refine R_get d12_36 (Or.inl (List.mem_of_getElem? (i := 30) rfl)) (hg36 _ _) rfl ?_
      refine R_p d12_39 rfl rfl ?_
      refine R_get d12_40 (Or.inl (List.mem_of_getElem? (i := 29) rfl)) (hg36 _ _) rfl ?_
      refine R_p d12_43 rfl rfl ?_
      obtain ⟨q12, e13, h⟩ := bd_some h
      refine R_cm [.ref 39, .ref 37, .int v2] d12_44 (List.mem_of_getElem? (i := 145) rfl) rfl ⟨by decide, by decide, Nat.le_of_ble_eq_true rfl, rfl, mcd13⟩ rfl rfl (Nat.le_of_ble_eq_true rfl) (hg36 _ _) rfl (t_f13_36_39_37 e13) ?_
      refine R_p d12_47 rfl rfl ?_
      refine R_p d12_48 rfl rfl ?_
      obtain ⟨s14, e15, h⟩ := pt_some h
      refine R_put d12_49 (List.mem_of_getElem? (i := 33) rfl) (hg36 _ _) (Nat.le_of_ble_eq_true rfl) rfl rfl (Or.inl rfl) ?_
      refine R_h (hp s14 ex) (by rw [e15]; exact hF8 _ _ _) ?_
      cases h
      exact R_vret d12_52 rfl rfl
def r86 : Nat → Int32 → Int32 → Int32 → mS → Option (mS)
  | 0, _, _, _, _ => none
  | k + 1, v1, v2, v3, s =>
    (if ((3 : Int32) ≤ v3) then
        some s
      else
        (f64 v1 v3 s).bind fun q2 => (if (¬ q2 = v2) then
          r86 k v1 v2 (v3 + Int32.ofInt 1) s
        else
          (f53 v1 v3 s).bind fun q5 => (f52 v1 v3 s).bind fun q7 => (f12 k q5 q7 s).bind fun q9 => some q9))
theorem s86 {S : mE} {ex : mHp} (k : Nat) : (∀ (v1 : Int32) (v2 : Int32) (v3 : Int32) (s : mS) (r : mS), r86 k v1 v2 v3 s = some r → Run S 86 (2, [(0, .ref 32), (1, .int v1), (2, .int v2), (3, .int v3)], [], hp s ex) (.inl none, hp r ex)) := by
  induction k with
  | zero => intro v1 v2 v3 s r h; cases h
  | succ k ih =>
    intro v1 v2 v3 s r h
    rw [r86] at h
    refine R_p d86_2 rfl rfl ?_
    refine R_ic (v := 3) d86_3 (by decide) ?_
    rcases ite_some h with ⟨c1, h⟩ | ⟨c1, h⟩
    · refine R_br 52 d86_4 (mb_t (b := ((3 : Int32) ≤ v3)) c1) rfl ?_
      cases h
      exact R_vret d86_52 rfl rfl
    · refine R_nb d86_4 rfl (mb_f (b := ((3 : Int32) ≤ v3)) c1) ?_
      refine R_p d86_7 rfl rfl ?_
      refine R_get d86_8 (Or.inl (List.mem_of_getElem? (i := 37) rfl)) (hg32 _ _) rfl ?_
      refine R_p d86_11 rfl rfl ?_
      refine R_p d86_12 rfl rfl ?_
      obtain ⟨q2, e3, h⟩ := bd_some h
      refine R_cm [.int v1, .int v3] d86_13 (List.mem_of_getElem? (i := 133) rfl) rfl ⟨by decide, by decide, Nat.le_of_ble_eq_true rfl, rfl, mcd64⟩ rfl rfl (Nat.le_of_ble_eq_true rfl) (hg23 _ _) rfl (t_f64 e3) ?_
      refine R_p d86_16 rfl rfl ?_
      rcases ite_some h with ⟨c4, h⟩ | ⟨c4, h⟩
      · refine R_br 46 d86_17 (mb_t (b := (¬ q2 = v2)) c4) rfl ?_
        refine R_p (ls' := [(0, .ref 32), (1, .int v1), (2, .int v2), (3, .int (v3 + Int32.ofInt 1))]) d86_46 rfl rfl ?_
        refine R_br 2 d86_49 rfl rfl ?_
        exact ih v1 v2 (v3 + Int32.ofInt 1) s _ h
      · refine R_nb d86_17 rfl (mb_f (b := (¬ q2 = v2)) c4) ?_
        refine R_p d86_20 rfl rfl ?_
        refine R_get d86_21 (Or.inl (List.mem_of_getElem? (i := 38) rfl)) (hg32 _ _) rfl ?_
        refine R_p d86_24 rfl rfl ?_
        refine R_get d86_25 (Or.inl (List.mem_of_getElem? (i := 37) rfl)) (hg32 _ _) rfl ?_
        refine R_p d86_28 rfl rfl ?_
        refine R_p d86_29 rfl rfl ?_
        obtain ⟨q5, e6, h⟩ := bd_some h
        refine R_cm [.int v1, .int v3] d86_30 (List.mem_of_getElem? (i := 142) rfl) rfl ⟨by decide, by decide, Nat.le_of_ble_eq_true rfl, rfl, mcd53⟩ rfl rfl (Nat.le_of_ble_eq_true rfl) (hg23 _ _) rfl (t_f53 e6) ?_
        refine R_p d86_33 rfl rfl ?_
        refine R_get d86_34 (Or.inl (List.mem_of_getElem? (i := 37) rfl)) (hg32 _ _) rfl ?_
        refine R_p d86_37 rfl rfl ?_
        refine R_p d86_38 rfl rfl ?_
        obtain ⟨q7, e8, h⟩ := bd_some h
        refine R_cm [.int v1, .int v3] d86_39 (List.mem_of_getElem? (i := 143) rfl) rfl ⟨by decide, by decide, Nat.le_of_ble_eq_true rfl, rfl, mcd52⟩ rfl rfl (Nat.le_of_ble_eq_true rfl) (hg23 _ _) rfl (t_f52 e8) ?_
        obtain ⟨q9, e10, h⟩ := bd_some h
        refine R_cm [.int q5, .int q7] d86_42 (List.mem_of_getElem? (i := 144) rfl) rfl ⟨by decide, by decide, Nat.le_of_ble_eq_true rfl, rfl, mcd12⟩ rfl rfl (Nat.le_of_ble_eq_true rfl) (hg36 _ _) rfl (t_f12 e10) ?_
        cases h
        exact R_vret d86_45 rfl rfl
def f86 (k : Nat) (v1 : Int32) (v2 : Int32) (s : mS) : Option (mS) :=
  r86 k v1 v2 0 s
theorem t_f86 {S : mE} {ex : mHp} {k : Nat} {v1 : Int32} {v2 : Int32} {s : mS} {r : mS} (h : f86 k v1 v2 s = some r) : Run S 86 (0, [(0, .ref 32), (1, .int v1), (2, .int v2)], [], hp s ex) (.inl none, hp r ex) := by
  unfold f86 at h
  refine R_ic (v := 0) d86_0 (by decide) ?_
  refine R_p (ls' := [(0, .ref 32), (1, .int v1), (2, .int v2), (3, .int 0)]) d86_1 rfl rfl ?_
  exact s86 (S := S) (ex := ex) k v1 v2 0 s _ h
def r84 : Nat → Int32 → mS → Option (Int32 × mS)
  | 0, _, _ => none
  | k + 1, v1, s =>
    (if ((s.2.2.1 5) ≤ v1) then
        (f85 k (41 : Int32) s).bind fun q2 => (f17 k q2 s).bind fun q4 => (f18 q4).bind fun q6 => some (q6, q4)
      else
        rdI 75 (v1 - (1 : Int32)) (rdI 75 v1 ((f86 k (s.1 33 (Int32.toNatClampNeg (v1 - (1 : Int32)))) (s.1 33 (Int32.toNatClampNeg v1)) s).bind fun q10 => r84 k (v1 + Int32.ofInt 1) q10)))
theorem s84 {S : mE} {ex : mHp} (k : Nat) : (∀ (v1 : Int32) (s : mS) (r : Int32 × mS), r84 k v1 s = some r → Run S 84 (15, [(0, .ref 32), (1, .int v1)], [], hp s ex) (.inl (some (.int r.1)), hp r.2 ex)) := by
  induction k with
  | zero => intro v1 s r h; cases h
  | succ k ih =>
    intro v1 s r h
    rw [r84] at h
    refine R_p d84_15 rfl rfl ?_
    refine R_p d84_16 rfl rfl ?_
    refine R_get d84_17 (Or.inl (List.mem_of_getElem? (i := 40) rfl)) (hg32 _ _) rfl ?_
    rcases ite_some h with ⟨c1, h⟩ | ⟨c1, h⟩
    · refine R_br 47 d84_20 (mb_t (b := ((s.2.2.1 5) ≤ v1)) c1) rfl ?_
      refine R_p d84_47 rfl rfl ?_
      refine R_get d84_48 (Or.inl (List.mem_of_getElem? (i := 38) rfl)) (hg32 _ _) rfl ?_
      refine R_p d84_51 rfl rfl ?_
      refine R_bi (v := 41) d84_52 (by decide) ?_
      obtain ⟨q2, e3, h⟩ := bd_some h
      refine R_cm [.int 41] d84_54 (List.mem_of_getElem? (i := 137) rfl) rfl ⟨by decide, by decide, Nat.le_of_ble_eq_true rfl, rfl, mcd85⟩ rfl rfl (Nat.le_of_ble_eq_true rfl) (hg32 _ _) rfl (t_f85 e3) ?_
      obtain ⟨q4, e5, h⟩ := bd_some h
      refine R_cm [.int q2] d84_57 (List.mem_of_getElem? (i := 157) rfl) rfl ⟨by decide, by decide, Nat.le_of_ble_eq_true rfl, rfl, mcd17⟩ rfl rfl (Nat.le_of_ble_eq_true rfl) (hg36 _ _) rfl (t_f17 e5) ?_
      refine R_p d84_60 rfl rfl ?_
      refine R_get d84_61 (Or.inl (List.mem_of_getElem? (i := 38) rfl)) (hg32 _ _) rfl ?_
      obtain ⟨q6, e7, h⟩ := bd_some h
      refine R_cm [] d84_64 (List.mem_of_getElem? (i := 158) rfl) rfl ⟨by decide, by decide, Nat.le_of_ble_eq_true rfl, rfl, mcd18⟩ rfl rfl (Nat.le_of_ble_eq_true rfl) (hg36 _ _) rfl (t_f18 e7) ?_
      cases h
      exact R_iret d84_67 rfl rfl rfl
    · refine R_nb d84_20 rfl (mb_f (b := ((s.2.2.1 5) ≤ v1)) c1) ?_
      refine R_p d84_23 rfl rfl ?_
      refine R_p d84_24 rfl rfl ?_
      refine R_get d84_25 (Or.inl (List.mem_of_getElem? (i := 39) rfl)) (hg32 _ _) rfl ?_
      refine R_p d84_28 rfl rfl ?_
      refine R_ic (v := 1) d84_29 (by decide) ?_
      refine R_p d84_30 rfl rfl ?_
      obtain ⟨c8, h⟩ := rdI_some h
      refine R_ild d84_31 (hg33 _ _) c8 ?_
      refine R_p d84_32 rfl rfl ?_
      refine R_get d84_33 (Or.inl (List.mem_of_getElem? (i := 39) rfl)) (hg32 _ _) rfl ?_
      refine R_p d84_36 rfl rfl ?_
      obtain ⟨c9, h⟩ := rdI_some h
      refine R_ild d84_37 (hg33 _ _) c9 ?_
      obtain ⟨q10, e11, h⟩ := bd_some h
      refine R_cm [.int (s.1 33 (Int32.toNatClampNeg (v1 - (1 : Int32)))), .int (s.1 33 (Int32.toNatClampNeg v1))] d84_38 (List.mem_of_getElem? (i := 141) rfl) rfl ⟨by decide, by decide, Nat.le_of_ble_eq_true rfl, rfl, mcd86⟩ rfl rfl (Nat.le_of_ble_eq_true rfl) (hg32 _ _) rfl (t_f86 e11) ?_
      refine R_p (ls' := [(0, .ref 32), (1, .int (v1 + Int32.ofInt 1))]) d84_41 rfl rfl ?_
      refine R_br 15 d84_44 rfl rfl ?_
      exact ih (v1 + Int32.ofInt 1) q10 _ h
def f84 (k : Nat) (s : mS) : Option (Int32 × mS) :=
  (f85 k (40 : Int32) s).bind fun q1 => (f11 q1 s).bind fun q3 => r84 k 1 q3
theorem t_f84 {S : mE} {ex : mHp} {k : Nat} {s : mS} {r : Int32 × mS} (h : f84 k s = some r) : Run S 84 (0, [(0, .ref 32)], [], hp s ex) (.inl (some (.int r.1)), hp r.2 ex) := by
  unfold f84 at h
  refine R_p d84_0 rfl rfl ?_
  refine R_get d84_1 (Or.inl (List.mem_of_getElem? (i := 38) rfl)) (hg32 _ _) rfl ?_
  refine R_p d84_4 rfl rfl ?_
  refine R_bi (v := 40) d84_5 (by decide) ?_
  obtain ⟨q1, e2, h⟩ := bd_some h
  refine R_cm [.int 40] d84_7 (List.mem_of_getElem? (i := 137) rfl) rfl ⟨by decide, by decide, Nat.le_of_ble_eq_true rfl, rfl, mcd85⟩ rfl rfl (Nat.le_of_ble_eq_true rfl) (hg32 _ _) rfl (t_f85 e2) ?_
  obtain ⟨q3, e4, h⟩ := bd_some h
  refine R_cm [.int q1] d84_10 (List.mem_of_getElem? (i := 139) rfl) rfl ⟨by decide, by decide, Nat.le_of_ble_eq_true rfl, rfl, mcd11⟩ rfl rfl (Nat.le_of_ble_eq_true rfl) (hg36 _ _) rfl (t_f11 e4) ?_
  refine R_ic (v := 1) d84_13 (by decide) ?_
  refine R_p (ls' := [(0, .ref 32), (1, .int 1)]) d84_14 rfl rfl ?_
  exact s84 (S := S) (ex := ex) k 1 q3 _ h
def f10 (v1 : Int32) (s : mS) : Option (Int32) :=
  (if (v1 < (0 : Int32)) then
    some (-1 : Int32)
  else
    (if (v1 < (s.2.2.1 9)) then
      rdI 77 v1 (some (s.1 41 (Int32.toNatClampNeg v1)))
    else
      some (-1 : Int32)))
theorem t_f10 {S : mE} {ex : mHp} {v1 : Int32} {s : mS} {r : Int32} (h : f10 v1 s = some r) : Run S 10 (0, [(0, .ref 36), (1, .int v1)], [], hp s ex) (.inl (some (.int r)), hp s ex) := by
  unfold f10 at h
  refine R_p d10_0 rfl rfl ?_
  rcases ite_some h with ⟨c1, h⟩ | ⟨c1, h⟩
  · refine R_br 12 d10_1 (mb_t (b := (v1 < (0 : Int32))) c1) rfl ?_
    refine R_ic (v := (-1)) d10_12 (by decide) ?_
    refine R_br 22 d10_13 rfl rfl ?_
    cases h
    exact R_iret d10_22 rfl rfl rfl
  · refine R_nb d10_1 rfl (mb_f (b := (v1 < (0 : Int32))) c1) ?_
    refine R_p d10_4 rfl rfl ?_
    refine R_p d10_5 rfl rfl ?_
    refine R_get d10_6 (Or.inl (List.mem_of_getElem? (i := 35) rfl)) (hg36 _ _) rfl ?_
    rcases ite_some h with ⟨c2, h⟩ | ⟨c2, h⟩
    · refine R_br 16 d10_9 (mb_t (b := (v1 < (s.2.2.1 9))) c2) rfl ?_
      refine R_p d10_16 rfl rfl ?_
      refine R_get d10_17 (Or.inl (List.mem_of_getElem? (i := 34) rfl)) (hg36 _ _) rfl ?_
      refine R_p d10_20 rfl rfl ?_
      obtain ⟨c3, h⟩ := rdI_some h
      refine R_ild d10_21 (hg41 _ _) c3 ?_
      cases h
      exact R_iret d10_22 rfl rfl rfl
    · refine R_nb d10_9 rfl (mb_f (b := (v1 < (s.2.2.1 9))) c2) ?_
      refine R_ic (v := (-1)) d10_12 (by decide) ?_
      refine R_br 22 d10_13 rfl rfl ?_
      cases h
      exact R_iret d10_22 rfl rfl rfl
def f79 (v1 : Int32) (s : mS) : Option (Int32) :=
  (f10 v1 s).bind fun q1 => some q1
theorem t_f79 {S : mE} {ex : mHp} {v1 : Int32} {s : mS} {r : Int32} (h : f79 v1 s = some r) : Run S 79 (0, [(0, .ref 32), (1, .int v1)], [], hp s ex) (.inl (some (.int r)), hp s ex) := by
  unfold f79 at h
  refine R_p d79_0 rfl rfl ?_
  refine R_get d79_1 (Or.inl (List.mem_of_getElem? (i := 38) rfl)) (hg32 _ _) rfl ?_
  refine R_p d79_4 rfl rfl ?_
  obtain ⟨q1, e2, h⟩ := bd_some h
  refine R_cm [.int v1] d79_5 (List.mem_of_getElem? (i := 25) rfl) rfl ⟨by decide, by decide, Nat.le_of_ble_eq_true rfl, rfl, mcd10⟩ rfl rfl (Nat.le_of_ble_eq_true rfl) (hg36 _ _) rfl (t_f10 e2) ?_
  cases h
  exact R_iret d79_8 rfl rfl rfl
def f94 (v1 : Int32) (s : mS) : Option (Int32) :=
  (f79 v1 s).bind fun q1 => some q1
theorem t_f94 {S : mE} {ex : mHp} {v1 : Int32} {s : mS} {r : Int32} (h : f94 v1 s = some r) : Run S 94 (0, [(0, .ref 16), (1, .int v1)], [], hp s ex) (.inl (some (.int r)), hp s ex) := by
  unfold f94 at h
  refine R_p d94_0 rfl rfl ?_
  refine R_get d94_1 (Or.inl (List.mem_of_getElem? (i := 47) rfl)) (hg16 _ _) rfl ?_
  refine R_p d94_4 rfl rfl ?_
  obtain ⟨q1, e2, h⟩ := bd_some h
  refine R_cm [.int v1] d94_5 (List.mem_of_getElem? (i := 24) rfl) rfl ⟨by decide, by decide, Nat.le_of_ble_eq_true rfl, rfl, mcd79⟩ rfl rfl (Nat.le_of_ble_eq_true rfl) (hg32 _ _) rfl (t_f79 e2) ?_
  cases h
  exact R_iret d94_8 rfl rfl rfl
def f80 (v1 : Int32) (s : mS) : Option (Int32) :=
  (if (v1 < (0 : Int32)) then
    some (-1 : Int32)
  else
    (if (v1 < (s.2.2.1 5)) then
      rdI 75 v1 (some (s.1 33 (Int32.toNatClampNeg v1)))
    else
      some (-1 : Int32)))
theorem t_f80 {S : mE} {ex : mHp} {v1 : Int32} {s : mS} {r : Int32} (h : f80 v1 s = some r) : Run S 80 (0, [(0, .ref 32), (1, .int v1)], [], hp s ex) (.inl (some (.int r)), hp s ex) := by
  unfold f80 at h
  refine R_p d80_0 rfl rfl ?_
  rcases ite_some h with ⟨c1, h⟩ | ⟨c1, h⟩
  · refine R_br 12 d80_1 (mb_t (b := (v1 < (0 : Int32))) c1) rfl ?_
    refine R_ic (v := (-1)) d80_12 (by decide) ?_
    refine R_br 22 d80_13 rfl rfl ?_
    cases h
    exact R_iret d80_22 rfl rfl rfl
  · refine R_nb d80_1 rfl (mb_f (b := (v1 < (0 : Int32))) c1) ?_
    refine R_p d80_4 rfl rfl ?_
    refine R_p d80_5 rfl rfl ?_
    refine R_get d80_6 (Or.inl (List.mem_of_getElem? (i := 40) rfl)) (hg32 _ _) rfl ?_
    rcases ite_some h with ⟨c2, h⟩ | ⟨c2, h⟩
    · refine R_br 16 d80_9 (mb_t (b := (v1 < (s.2.2.1 5))) c2) rfl ?_
      refine R_p d80_16 rfl rfl ?_
      refine R_get d80_17 (Or.inl (List.mem_of_getElem? (i := 39) rfl)) (hg32 _ _) rfl ?_
      refine R_p d80_20 rfl rfl ?_
      obtain ⟨c3, h⟩ := rdI_some h
      refine R_ild d80_21 (hg33 _ _) c3 ?_
      cases h
      exact R_iret d80_22 rfl rfl rfl
    · refine R_nb d80_9 rfl (mb_f (b := (v1 < (s.2.2.1 5))) c2) ?_
      refine R_ic (v := (-1)) d80_12 (by decide) ?_
      refine R_br 22 d80_13 rfl rfl ?_
      cases h
      exact R_iret d80_22 rfl rfl rfl
def f95 (v1 : Int32) (s : mS) : Option (Int32) :=
  (f80 v1 s).bind fun q1 => some q1
theorem t_f95 {S : mE} {ex : mHp} {v1 : Int32} {s : mS} {r : Int32} (h : f95 v1 s = some r) : Run S 95 (0, [(0, .ref 16), (1, .int v1)], [], hp s ex) (.inl (some (.int r)), hp s ex) := by
  unfold f95 at h
  refine R_p d95_0 rfl rfl ?_
  refine R_get d95_1 (Or.inl (List.mem_of_getElem? (i := 47) rfl)) (hg16 _ _) rfl ?_
  refine R_p d95_4 rfl rfl ?_
  obtain ⟨q1, e2, h⟩ := bd_some h
  refine R_cm [.int v1] d95_5 (List.mem_of_getElem? (i := 27) rfl) rfl ⟨by decide, by decide, Nat.le_of_ble_eq_true rfl, rfl, mcd80⟩ rfl rfl (Nat.le_of_ble_eq_true rfl) (hg32 _ _) rfl (t_f80 e2) ?_
  cases h
  exact R_iret d95_8 rfl rfl rfl
