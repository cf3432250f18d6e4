/-! the class: its mesh and what grows it, as functions (wip/gen/dec.py) -/
theorem d20_0 : decode (mCode 20) 0 = .ok (.aload_n 0, 1) := by decide +kernel
theorem d20_1 : decode (mCode 20) 1 = .ok (.getfield 22, 3) := by decide +kernel
theorem d20_4 : decode (mCode 20) 4 = .ok (.invokevirtual 26, 3) := by decide +kernel
theorem d20_7 : decode (mCode 20) 7 = .ok (.ifCond .ne 11, 3) := by decide +kernel
theorem d20_10 : decode (mCode 20) 10 = .ok (.aload_n 0, 1) := by decide +kernel
theorem d20_11 : decode (mCode 20) 11 = .ok (.iload_n 1, 1) := by decide +kernel
theorem d20_12 : decode (mCode 20) 12 = .ok (.invokevirtual 32, 3) := by decide +kernel
theorem d20_15 : decode (mCode 20) 15 = .ok (.goto 31, 3) := by decide +kernel
theorem d20_18 : decode (mCode 20) 18 = .ok (.aload_n 0, 1) := by decide +kernel
theorem d20_19 : decode (mCode 20) 19 = .ok (.getfield 22, 3) := by decide +kernel
theorem d20_22 : decode (mCode 20) 22 = .ok (.iload_n 1, 1) := by decide +kernel
theorem d20_23 : decode (mCode 20) 23 = .ok (.invokevirtual 36, 3) := by decide +kernel
theorem d20_26 : decode (mCode 20) 26 = .ok (.istore_n 2, 1) := by decide +kernel
theorem d20_27 : decode (mCode 20) 27 = .ok (.iload_n 2, 1) := by decide +kernel
theorem d20_28 : decode (mCode 20) 28 = .ok (.iconst (-1), 1) := by decide +kernel
theorem d20_29 : decode (mCode 20) 29 = .ok (.if_icmp .ne 11, 3) := by decide +kernel
theorem d20_32 : decode (mCode 20) 32 = .ok (.aload_n 0, 1) := by decide +kernel
theorem d20_33 : decode (mCode 20) 33 = .ok (.iload_n 1, 1) := by decide +kernel
theorem d20_34 : decode (mCode 20) 34 = .ok (.invokevirtual 40, 3) := by decide +kernel
theorem d20_37 : decode (mCode 20) 37 = .ok (.goto 9, 3) := by decide +kernel
theorem d20_40 : decode (mCode 20) 40 = .ok (.aload_n 0, 1) := by decide +kernel
theorem d20_41 : decode (mCode 20) 41 = .ok (.iload_n 2, 1) := by decide +kernel
theorem d20_42 : decode (mCode 20) 42 = .ok (.iload_n 1, 1) := by decide +kernel
theorem d20_43 : decode (mCode 20) 43 = .ok (.invokevirtual 43, 3) := by decide +kernel
theorem d20_46 : decode (mCode 20) 46 = .ok (.aload_n 0, 1) := by decide +kernel
theorem d20_47 : decode (mCode 20) 47 = .ok (.getfield 22, 3) := by decide +kernel
theorem d20_50 : decode (mCode 20) 50 = .ok (.invokevirtual 47, 3) := by decide +kernel
theorem d20_53 : decode (mCode 20) 53 = .ok (.return_, 1) := by decide +kernel
theorem d21_0 : decode (mCode 21) 0 = .ok (.iload_n 1, 1) := by decide +kernel
theorem d21_1 : decode (mCode 21) 1 = .ok (.iconst 2, 1) := by decide +kernel
theorem d21_2 : decode (mCode 21) 2 = .ok (.if_icmp .lt 16, 3) := by decide +kernel
theorem d21_5 : decode (mCode 21) 5 = .ok (.aload_n 0, 1) := by decide +kernel
theorem d21_6 : decode (mCode 21) 6 = .ok (.getfield 18, 3) := by decide +kernel
theorem d21_9 : decode (mCode 21) 9 = .ok (.iconst 0, 1) := by decide +kernel
theorem d21_10 : decode (mCode 21) 10 = .ok (.iconst 1, 1) := by decide +kernel
theorem d21_11 : decode (mCode 21) 11 = .ok (.iload_n 1, 1) := by decide +kernel
theorem d21_12 : decode (mCode 21) 12 = .ok (.invokevirtual 50, 3) := by decide +kernel
theorem d21_15 : decode (mCode 21) 15 = .ok (.ifCond .ne 4, 3) := by decide +kernel
theorem d21_18 : decode (mCode 21) 18 = .ok (.return_, 1) := by decide +kernel
theorem d21_19 : decode (mCode 21) 19 = .ok (.iconst 0, 1) := by decide +kernel
theorem d21_20 : decode (mCode 21) 20 = .ok (.istore_n 2, 1) := by decide +kernel
theorem d21_21 : decode (mCode 21) 21 = .ok (.iload_n 2, 1) := by decide +kernel
theorem d21_22 : decode (mCode 21) 22 = .ok (.iload_n 1, 1) := by decide +kernel
theorem d21_23 : decode (mCode 21) 23 = .ok (.if_icmp .ge 28, 3) := by decide +kernel
theorem d21_26 : decode (mCode 21) 26 = .ok (.aload_n 0, 1) := by decide +kernel
theorem d21_27 : decode (mCode 21) 27 = .ok (.iload_n 2, 1) := by decide +kernel
theorem d21_28 : decode (mCode 21) 28 = .ok (.iload_n 1, 1) := by decide +kernel
theorem d21_29 : decode (mCode 21) 29 = .ok (.invokevirtual 56, 3) := by decide +kernel
theorem d21_32 : decode (mCode 21) 32 = .ok (.istore_n 3, 1) := by decide +kernel
theorem d21_33 : decode (mCode 21) 33 = .ok (.iload_n 3, 1) := by decide +kernel
theorem d21_34 : decode (mCode 21) 34 = .ok (.iconst (-1), 1) := by decide +kernel
theorem d21_35 : decode (mCode 21) 35 = .ok (.if_icmp .eq 10, 3) := by decide +kernel
theorem d21_38 : decode (mCode 21) 38 = .ok (.aload_n 0, 1) := by decide +kernel
theorem d21_39 : decode (mCode 21) 39 = .ok (.iload_n 2, 1) := by decide +kernel
theorem d21_40 : decode (mCode 21) 40 = .ok (.iload_n 3, 1) := by decide +kernel
theorem d21_41 : decode (mCode 21) 41 = .ok (.iload_n 1, 1) := by decide +kernel
theorem d21_42 : decode (mCode 21) 42 = .ok (.invokevirtual 60, 3) := by decide +kernel
theorem d21_45 : decode (mCode 21) 45 = .ok (.iinc 2 1, 3) := by decide +kernel
theorem d21_48 : decode (mCode 21) 48 = .ok (.goto (-27), 3) := by decide +kernel
theorem d21_51 : decode (mCode 21) 51 = .ok (.return_, 1) := by decide +kernel
theorem d22_0 : decode (mCode 22) 0 = .ok (.iconst (-1), 1) := by decide +kernel
theorem d22_1 : decode (mCode 22) 1 = .ok (.istore_n 3, 1) := by decide +kernel
theorem d22_2 : decode (mCode 22) 2 = .ok (.iconst 0, 1) := by decide +kernel
theorem d22_3 : decode (mCode 22) 3 = .ok (.istore 4, 2) := by decide +kernel
theorem d22_5 : decode (mCode 22) 5 = .ok (.iload 4, 2) := by decide +kernel
theorem d22_7 : decode (mCode 22) 7 = .ok (.iload_n 2, 1) := by decide +kernel
theorem d22_8 : decode (mCode 22) 8 = .ok (.if_icmp .ge 43, 3) := by decide +kernel
theorem d22_11 : decode (mCode 22) 11 = .ok (.aload_n 0, 1) := by decide +kernel
theorem d22_12 : decode (mCode 22) 12 = .ok (.getfield 18, 3) := by decide +kernel
theorem d22_15 : decode (mCode 22) 15 = .ok (.iload_n 1, 1) := by decide +kernel
theorem d22_16 : decode (mCode 22) 16 = .ok (.iload 4, 2) := by decide +kernel
theorem d22_18 : decode (mCode 22) 18 = .ok (.invokevirtual 64, 3) := by decide +kernel
theorem d22_21 : decode (mCode 22) 21 = .ok (.ifCond .eq 24, 3) := by decide +kernel
theorem d22_24 : decode (mCode 22) 24 = .ok (.iload_n 3, 1) := by decide +kernel
theorem d22_25 : decode (mCode 22) 25 = .ok (.iconst (-1), 1) := by decide +kernel
theorem d22_26 : decode (mCode 22) 26 = .ok (.if_icmp .eq 16, 3) := by decide +kernel
theorem d22_29 : decode (mCode 22) 29 = .ok (.aload_n 0, 1) := by decide +kernel
theorem d22_30 : decode (mCode 22) 30 = .ok (.getfield 18, 3) := by decide +kernel
theorem d22_33 : decode (mCode 22) 33 = .ok (.iload 4, 2) := by decide +kernel
theorem d22_35 : decode (mCode 22) 35 = .ok (.iload_n 3, 1) := by decide +kernel
theorem d22_36 : decode (mCode 22) 36 = .ok (.invokevirtual 64, 3) := by decide +kernel
theorem d22_39 : decode (mCode 22) 39 = .ok (.ifCond .eq 6, 3) := by decide +kernel
theorem d22_42 : decode (mCode 22) 42 = .ok (.iload 4, 2) := by decide +kernel
theorem d22_44 : decode (mCode 22) 44 = .ok (.istore_n 3, 1) := by decide +kernel
theorem d22_45 : decode (mCode 22) 45 = .ok (.iinc 4 1, 3) := by decide +kernel
theorem d22_48 : decode (mCode 22) 48 = .ok (.goto (-43), 3) := by decide +kernel
theorem d22_51 : decode (mCode 22) 51 = .ok (.iload_n 3, 1) := by decide +kernel
theorem d22_52 : decode (mCode 22) 52 = .ok (.ireturn, 1) := by decide +kernel
theorem d23_0 : decode (mCode 23) 0 = .ok (.aload_n 0, 1) := by decide +kernel
theorem d23_1 : decode (mCode 23) 1 = .ok (.getfield 18, 3) := by decide +kernel
theorem d23_4 : decode (mCode 23) 4 = .ok (.iload_n 1, 1) := by decide +kernel
theorem d23_5 : decode (mCode 23) 5 = .ok (.iload_n 2, 1) := by decide +kernel
theorem d23_6 : decode (mCode 23) 6 = .ok (.iload_n 3, 1) := by decide +kernel
theorem d23_7 : decode (mCode 23) 7 = .ok (.invokevirtual 50, 3) := by decide +kernel
theorem d23_10 : decode (mCode 23) 10 = .ok (.ifCond .le 16, 3) := by decide +kernel
theorem d23_13 : decode (mCode 23) 13 = .ok (.aload_n 0, 1) := by decide +kernel
theorem d23_14 : decode (mCode 23) 14 = .ok (.getfield 22, 3) := by decide +kernel
theorem d23_17 : decode (mCode 23) 17 = .ok (.iload_n 1, 1) := by decide +kernel
theorem d23_18 : decode (mCode 23) 18 = .ok (.iload_n 2, 1) := by decide +kernel
theorem d23_19 : decode (mCode 23) 19 = .ok (.iload_n 3, 1) := by decide +kernel
theorem d23_20 : decode (mCode 23) 20 = .ok (.invokevirtual 68, 3) := by decide +kernel
theorem d23_23 : decode (mCode 23) 23 = .ok (.goto 13, 3) := by decide +kernel
theorem d23_26 : decode (mCode 23) 26 = .ok (.aload_n 0, 1) := by decide +kernel
theorem d23_27 : decode (mCode 23) 27 = .ok (.getfield 22, 3) := by decide +kernel
theorem d23_30 : decode (mCode 23) 30 = .ok (.iload_n 2, 1) := by decide +kernel
theorem d23_31 : decode (mCode 23) 31 = .ok (.iload_n 1, 1) := by decide +kernel
theorem d23_32 : decode (mCode 23) 32 = .ok (.iload_n 3, 1) := by decide +kernel
theorem d23_33 : decode (mCode 23) 33 = .ok (.invokevirtual 68, 3) := by decide +kernel
theorem d23_36 : decode (mCode 23) 36 = .ok (.return_, 1) := by decide +kernel
theorem d24_0 : decode (mCode 24) 0 = .ok (.iconst 0, 1) := by decide +kernel
theorem d24_1 : decode (mCode 24) 1 = .ok (.istore_n 2, 1) := by decide +kernel
theorem d24_2 : decode (mCode 24) 2 = .ok (.iload_n 2, 1) := by decide +kernel
theorem d24_3 : decode (mCode 24) 3 = .ok (.aload_n 0, 1) := by decide +kernel
theorem d24_4 : decode (mCode 24) 4 = .ok (.getfield 22, 3) := by decide +kernel
theorem d24_7 : decode (mCode 24) 7 = .ok (.invokevirtual 26, 3) := by decide +kernel
theorem d24_10 : decode (mCode 24) 10 = .ok (.if_icmp .ge 97, 3) := by decide +kernel
theorem d24_13 : decode (mCode 24) 13 = .ok (.iconst 0, 1) := by decide +kernel
theorem d24_14 : decode (mCode 24) 14 = .ok (.istore_n 3, 1) := by decide +kernel
theorem d24_15 : decode (mCode 24) 15 = .ok (.iload_n 3, 1) := by decide +kernel
theorem d24_16 : decode (mCode 24) 16 = .ok (.iconst 3, 1) := by decide +kernel
theorem d24_17 : decode (mCode 24) 17 = .ok (.if_icmp .ge 84, 3) := by decide +kernel
theorem d24_20 : decode (mCode 24) 20 = .ok (.aload_n 0, 1) := by decide +kernel
theorem d24_21 : decode (mCode 24) 21 = .ok (.getfield 22, 3) := by decide +kernel
theorem d24_24 : decode (mCode 24) 24 = .ok (.iload_n 2, 1) := by decide +kernel
theorem d24_25 : decode (mCode 24) 25 = .ok (.iload_n 3, 1) := by decide +kernel
theorem d24_26 : decode (mCode 24) 26 = .ok (.invokevirtual 71, 3) := by decide +kernel
theorem d24_29 : decode (mCode 24) 29 = .ok (.istore 4, 2) := by decide +kernel
theorem d24_31 : decode (mCode 24) 31 = .ok (.aload_n 0, 1) := by decide +kernel
theorem d24_32 : decode (mCode 24) 32 = .ok (.getfield 22, 3) := by decide +kernel
theorem d24_35 : decode (mCode 24) 35 = .ok (.iload_n 2, 1) := by decide +kernel
theorem d24_36 : decode (mCode 24) 36 = .ok (.iload_n 3, 1) := by decide +kernel
theorem d24_37 : decode (mCode 24) 37 = .ok (.invokevirtual 74, 3) := by decide +kernel
theorem d24_40 : decode (mCode 24) 40 = .ok (.istore 5, 2) := by decide +kernel
theorem d24_42 : decode (mCode 24) 42 = .ok (.aload_n 0, 1) := by decide +kernel
theorem d24_43 : decode (mCode 24) 43 = .ok (.getfield 22, 3) := by decide +kernel
theorem d24_46 : decode (mCode 24) 46 = .ok (.iload 5, 2) := by decide +kernel
theorem d24_48 : decode (mCode 24) 48 = .ok (.iload 4, 2) := by decide +kernel
theorem d24_50 : decode (mCode 24) 50 = .ok (.invokevirtual 77, 3) := by decide +kernel
theorem d24_53 : decode (mCode 24) 53 = .ok (.iconst (-1), 1) := by decide +kernel
theorem d24_54 : decode (mCode 24) 54 = .ok (.if_icmp .ne 41, 3) := by decide +kernel
theorem d24_57 : decode (mCode 24) 57 = .ok (.aload_n 0, 1) := by decide +kernel
theorem d24_58 : decode (mCode 24) 58 = .ok (.getfield 18, 3) := by decide +kernel
theorem d24_61 : decode (mCode 24) 61 = .ok (.iload 4, 2) := by decide +kernel
theorem d24_63 : decode (mCode 24) 63 = .ok (.iload 5, 2) := by decide +kernel
theorem d24_65 : decode (mCode 24) 65 = .ok (.iload_n 1, 1) := by decide +kernel
theorem d24_66 : decode (mCode 24) 66 = .ok (.invokevirtual 50, 3) := by decide +kernel
theorem d24_69 : decode (mCode 24) 69 = .ok (.ifCond .ge 26, 3) := by decide +kernel
theorem d24_72 : decode (mCode 24) 72 = .ok (.aload_n 0, 1) := by decide +kernel
theorem d24_73 : decode (mCode 24) 73 = .ok (.getfield 22, 3) := by decide +kernel
theorem d24_76 : decode (mCode 24) 76 = .ok (.iload 5, 2) := by decide +kernel
theorem d24_78 : decode (mCode 24) 78 = .ok (.iload 4, 2) := by decide +kernel
theorem d24_80 : decode (mCode 24) 80 = .ok (.iload_n 1, 1) := by decide +kernel
theorem d24_81 : decode (mCode 24) 81 = .ok (.invokevirtual 68, 3) := by decide +kernel
theorem d24_84 : decode (mCode 24) 84 = .ok (.aload_n 0, 1) := by decide +kernel
theorem d24_85 : decode (mCode 24) 85 = .ok (.getfield 22, 3) := by decide +kernel
theorem d24_88 : decode (mCode 24) 88 = .ok (.iload 4, 2) := by decide +kernel
theorem d24_90 : decode (mCode 24) 90 = .ok (.iload 5, 2) := by decide +kernel
theorem d24_92 : decode (mCode 24) 92 = .ok (.invokevirtual 80, 3) := by decide +kernel
theorem d24_95 : decode (mCode 24) 95 = .ok (.iinc 3 1, 3) := by decide +kernel
theorem d24_98 : decode (mCode 24) 98 = .ok (.goto (-83), 3) := by decide +kernel
theorem d24_101 : decode (mCode 24) 101 = .ok (.iinc 2 1, 3) := by decide +kernel
theorem d24_104 : decode (mCode 24) 104 = .ok (.goto (-102), 3) := by decide +kernel
theorem d24_107 : decode (mCode 24) 107 = .ok (.return_, 1) := by decide +kernel
theorem d25_0 : decode (mCode 25) 0 = .ok (.aload_n 0, 1) := by decide +kernel
theorem d25_1 : decode (mCode 25) 1 = .ok (.getfield 22, 3) := by decide +kernel
theorem d25_4 : decode (mCode 25) 4 = .ok (.iload_n 1, 1) := by decide +kernel
theorem d25_5 : decode (mCode 25) 5 = .ok (.iconst 0, 1) := by decide +kernel
theorem d25_6 : decode (mCode 25) 6 = .ok (.invokevirtual 71, 3) := by decide +kernel
theorem d25_9 : decode (mCode 25) 9 = .ok (.istore_n 3, 1) := by decide +kernel
theorem d25_10 : decode (mCode 25) 10 = .ok (.aload_n 0, 1) := by decide +kernel
theorem d25_11 : decode (mCode 25) 11 = .ok (.getfield 22, 3) := by decide +kernel
theorem d25_14 : decode (mCode 25) 14 = .ok (.iload_n 1, 1) := by decide +kernel
theorem d25_15 : decode (mCode 25) 15 = .ok (.iconst 1, 1) := by decide +kernel
theorem d25_16 : decode (mCode 25) 16 = .ok (.invokevirtual 71, 3) := by decide +kernel
theorem d25_19 : decode (mCode 25) 19 = .ok (.istore 4, 2) := by decide +kernel
theorem d25_21 : decode (mCode 25) 21 = .ok (.aload_n 0, 1) := by decide +kernel
theorem d25_22 : decode (mCode 25) 22 = .ok (.getfield 22, 3) := by decide +kernel
theorem d25_25 : decode (mCode 25) 25 = .ok (.iload_n 1, 1) := by decide +kernel
theorem d25_26 : decode (mCode 25) 26 = .ok (.iconst 2, 1) := by decide +kernel
theorem d25_27 : decode (mCode 25) 27 = .ok (.invokevirtual 71, 3) := by decide +kernel
theorem d25_30 : decode (mCode 25) 30 = .ok (.istore 5, 2) := by decide +kernel
theorem d25_32 : decode (mCode 25) 32 = .ok (.aload_n 0, 1) := by decide +kernel
theorem d25_33 : decode (mCode 25) 33 = .ok (.getfield 22, 3) := by decide +kernel
theorem d25_36 : decode (mCode 25) 36 = .ok (.iload_n 3, 1) := by decide +kernel
theorem d25_37 : decode (mCode 25) 37 = .ok (.iload 4, 2) := by decide +kernel
theorem d25_39 : decode (mCode 25) 39 = .ok (.iload 5, 2) := by decide +kernel
theorem d25_41 : decode (mCode 25) 41 = .ok (.invokevirtual 83, 3) := by decide +kernel
theorem d25_44 : decode (mCode 25) 44 = .ok (.aload_n 0, 1) := by decide +kernel
theorem d25_45 : decode (mCode 25) 45 = .ok (.iload_n 3, 1) := by decide +kernel
theorem d25_46 : decode (mCode 25) 46 = .ok (.iload 4, 2) := by decide +kernel
theorem d25_48 : decode (mCode 25) 48 = .ok (.iload_n 2, 1) := by decide +kernel
theorem d25_49 : decode (mCode 25) 49 = .ok (.invokevirtual 86, 3) := by decide +kernel
theorem d25_52 : decode (mCode 25) 52 = .ok (.aload_n 0, 1) := by decide +kernel
theorem d25_53 : decode (mCode 25) 53 = .ok (.iload 4, 2) := by decide +kernel
theorem d25_55 : decode (mCode 25) 55 = .ok (.iload 5, 2) := by decide +kernel
theorem d25_57 : decode (mCode 25) 57 = .ok (.iload_n 2, 1) := by decide +kernel
theorem d25_58 : decode (mCode 25) 58 = .ok (.invokevirtual 86, 3) := by decide +kernel
theorem d25_61 : decode (mCode 25) 61 = .ok (.aload_n 0, 1) := by decide +kernel
theorem d25_62 : decode (mCode 25) 62 = .ok (.iload 5, 2) := by decide +kernel
theorem d25_64 : decode (mCode 25) 64 = .ok (.iload_n 3, 1) := by decide +kernel
theorem d25_65 : decode (mCode 25) 65 = .ok (.iload_n 2, 1) := by decide +kernel
theorem d25_66 : decode (mCode 25) 66 = .ok (.invokevirtual 86, 3) := by decide +kernel
theorem d25_69 : decode (mCode 25) 69 = .ok (.return_, 1) := by decide +kernel
theorem d26_0 : decode (mCode 26) 0 = .ok (.aload_n 0, 1) := by decide +kernel
theorem d26_1 : decode (mCode 26) 1 = .ok (.getfield 18, 3) := by decide +kernel
theorem d26_4 : decode (mCode 26) 4 = .ok (.iload_n 1, 1) := by decide +kernel
theorem d26_5 : decode (mCode 26) 5 = .ok (.iload_n 2, 1) := by decide +kernel
theorem d26_6 : decode (mCode 26) 6 = .ok (.iload_n 3, 1) := by decide +kernel
theorem d26_7 : decode (mCode 26) 7 = .ok (.invokevirtual 50, 3) := by decide +kernel
theorem d26_10 : decode (mCode 26) 10 = .ok (.ifCond .le 25, 3) := by decide +kernel
theorem d26_13 : decode (mCode 26) 13 = .ok (.aload_n 0, 1) := by decide +kernel
theorem d26_14 : decode (mCode 26) 14 = .ok (.getfield 22, 3) := by decide +kernel
theorem d26_17 : decode (mCode 26) 17 = .ok (.iload_n 1, 1) := by decide +kernel
theorem d26_18 : decode (mCode 26) 18 = .ok (.iload_n 2, 1) := by decide +kernel
theorem d26_19 : decode (mCode 26) 19 = .ok (.iload_n 3, 1) := by decide +kernel
theorem d26_20 : decode (mCode 26) 20 = .ok (.invokevirtual 68, 3) := by decide +kernel
theorem d26_23 : decode (mCode 26) 23 = .ok (.aload_n 0, 1) := by decide +kernel
theorem d26_24 : decode (mCode 26) 24 = .ok (.getfield 22, 3) := by decide +kernel
theorem d26_27 : decode (mCode 26) 27 = .ok (.iload_n 1, 1) := by decide +kernel
theorem d26_28 : decode (mCode 26) 28 = .ok (.iload_n 2, 1) := by decide +kernel
theorem d26_29 : decode (mCode 26) 29 = .ok (.invokevirtual 80, 3) := by decide +kernel
theorem d26_32 : decode (mCode 26) 32 = .ok (.goto 10, 3) := by decide +kernel
theorem d26_35 : decode (mCode 26) 35 = .ok (.aload_n 0, 1) := by decide +kernel
theorem d26_36 : decode (mCode 26) 36 = .ok (.iload_n 1, 1) := by decide +kernel
theorem d26_37 : decode (mCode 26) 37 = .ok (.iload_n 2, 1) := by decide +kernel
theorem d26_38 : decode (mCode 26) 38 = .ok (.iload_n 3, 1) := by decide +kernel
theorem d26_39 : decode (mCode 26) 39 = .ok (.invokevirtual 89, 3) := by decide +kernel
theorem d26_42 : decode (mCode 26) 42 = .ok (.return_, 1) := by decide +kernel
theorem d27_0 : decode (mCode 27) 0 = .ok (.aload_n 0, 1) := by decide +kernel
theorem d27_1 : decode (mCode 27) 1 = .ok (.getfield 22, 3) := by decide +kernel
theorem d27_4 : decode (mCode 27) 4 = .ok (.iload_n 2, 1) := by decide +kernel
theorem d27_5 : decode (mCode 27) 5 = .ok (.iload_n 1, 1) := by decide +kernel
theorem d27_6 : decode (mCode 27) 6 = .ok (.invokevirtual 77, 3) := by decide +kernel
theorem d27_9 : decode (mCode 27) 9 = .ok (.istore 4, 2) := by decide +kernel
theorem d27_11 : decode (mCode 27) 11 = .ok (.iload 4, 2) := by decide +kernel
theorem d27_13 : decode (mCode 27) 13 = .ok (.iconst (-1), 1) := by decide +kernel
theorem d27_14 : decode (mCode 27) 14 = .ok (.if_icmp .eq 56, 3) := by decide +kernel
theorem d27_17 : decode (mCode 27) 17 = .ok (.aload_n 0, 1) := by decide +kernel
theorem d27_18 : decode (mCode 27) 18 = .ok (.getfield 22, 3) := by decide +kernel
theorem d27_21 : decode (mCode 27) 21 = .ok (.iload_n 2, 1) := by decide +kernel
theorem d27_22 : decode (mCode 27) 22 = .ok (.iload_n 1, 1) := by decide +kernel
theorem d27_23 : decode (mCode 27) 23 = .ok (.iload 4, 2) := by decide +kernel
theorem d27_25 : decode (mCode 27) 25 = .ok (.invokevirtual 83, 3) := by decide +kernel
theorem d27_28 : decode (mCode 27) 28 = .ok (.aload_n 0, 1) := by decide +kernel
theorem d27_29 : decode (mCode 27) 29 = .ok (.getfield 22, 3) := by decide +kernel
theorem d27_32 : decode (mCode 27) 32 = .ok (.iload_n 1, 1) := by decide +kernel
theorem d27_33 : decode (mCode 27) 33 = .ok (.iload 4, 2) := by decide +kernel
theorem d27_35 : decode (mCode 27) 35 = .ok (.iload_n 3, 1) := by decide +kernel
theorem d27_36 : decode (mCode 27) 36 = .ok (.invokevirtual 68, 3) := by decide +kernel
theorem d27_39 : decode (mCode 27) 39 = .ok (.aload_n 0, 1) := by decide +kernel
theorem d27_40 : decode (mCode 27) 40 = .ok (.getfield 22, 3) := by decide +kernel
theorem d27_43 : decode (mCode 27) 43 = .ok (.iload 4, 2) := by decide +kernel
theorem d27_45 : decode (mCode 27) 45 = .ok (.iload_n 2, 1) := by decide +kernel
theorem d27_46 : decode (mCode 27) 46 = .ok (.iload_n 3, 1) := by decide +kernel
theorem d27_47 : decode (mCode 27) 47 = .ok (.invokevirtual 68, 3) := by decide +kernel
theorem d27_50 : decode (mCode 27) 50 = .ok (.aload_n 0, 1) := by decide +kernel
theorem d27_51 : decode (mCode 27) 51 = .ok (.getfield 22, 3) := by decide +kernel
theorem d27_54 : decode (mCode 27) 54 = .ok (.iload_n 1, 1) := by decide +kernel
theorem d27_55 : decode (mCode 27) 55 = .ok (.iload 4, 2) := by decide +kernel
theorem d27_57 : decode (mCode 27) 57 = .ok (.invokevirtual 80, 3) := by decide +kernel
theorem d27_60 : decode (mCode 27) 60 = .ok (.aload_n 0, 1) := by decide +kernel
theorem d27_61 : decode (mCode 27) 61 = .ok (.getfield 22, 3) := by decide +kernel
theorem d27_64 : decode (mCode 27) 64 = .ok (.iload 4, 2) := by decide +kernel
theorem d27_66 : decode (mCode 27) 66 = .ok (.iload_n 2, 1) := by decide +kernel
theorem d27_67 : decode (mCode 27) 67 = .ok (.invokevirtual 80, 3) := by decide +kernel
theorem d27_70 : decode (mCode 27) 70 = .ok (.return_, 1) := by decide +kernel
theorem d28_0 : decode (mCode 28) 0 = .ok (.aload_n 0, 1) := by decide +kernel
theorem d28_1 : decode (mCode 28) 1 = .ok (.getfield 22, 3) := by decide +kernel
theorem d28_4 : decode (mCode 28) 4 = .ok (.invokevirtual 26, 3) := by decide +kernel
theorem d28_7 : decode (mCode 28) 7 = .ok (.ifCond .ne 4, 3) := by decide +kernel
theorem d28_10 : decode (mCode 28) 10 = .ok (.return_, 1) := by decide +kernel
theorem d28_11 : decode (mCode 28) 11 = .ok (.iconst 0, 1) := by decide +kernel
theorem d28_12 : decode (mCode 28) 12 = .ok (.istore_n 3, 1) := by decide +kernel
theorem d28_13 : decode (mCode 28) 13 = .ok (.iload_n 3, 1) := by decide +kernel
theorem d28_14 : decode (mCode 28) 14 = .ok (.ldc 92, 2) := by decide +kernel
theorem d28_16 : decode (mCode 28) 16 = .ok (.if_icmp .ge 33, 3) := by decide +kernel
theorem d28_19 : decode (mCode 28) 19 = .ok (.aload_n 0, 1) := by decide +kernel
theorem d28_20 : decode (mCode 28) 20 = .ok (.getfield 22, 3) := by decide +kernel
theorem d28_23 : decode (mCode 28) 23 = .ok (.iload_n 1, 1) := by decide +kernel
theorem d28_24 : decode (mCode 28) 24 = .ok (.iload_n 2, 1) := by decide +kernel
theorem d28_25 : decode (mCode 28) 25 = .ok (.invokevirtual 93, 3) := by decide +kernel
theorem d28_28 : decode (mCode 28) 28 = .ok (.ifCond .ne 21, 3) := by decide +kernel
theorem d28_31 : decode (mCode 28) 31 = .ok (.aload_n 0, 1) := by decide +kernel
theorem d28_32 : decode (mCode 28) 32 = .ok (.iload_n 1, 1) := by decide +kernel
theorem d28_33 : decode (mCode 28) 33 = .ok (.iload_n 2, 1) := by decide +kernel
theorem d28_34 : decode (mCode 28) 34 = .ok (.invokevirtual 96, 3) := by decide +kernel
theorem d28_37 : decode (mCode 28) 37 = .ok (.aload_n 0, 1) := by decide +kernel
theorem d28_38 : decode (mCode 28) 38 = .ok (.iload_n 1, 1) := by decide +kernel
theorem d28_39 : decode (mCode 28) 39 = .ok (.iload_n 2, 1) := by decide +kernel
theorem d28_40 : decode (mCode 28) 40 = .ok (.invokevirtual 99, 3) := by decide +kernel
theorem d28_43 : decode (mCode 28) 43 = .ok (.iinc 3 1, 3) := by decide +kernel
theorem d28_46 : decode (mCode 28) 46 = .ok (.goto (-33), 3) := by decide +kernel
theorem d28_49 : decode (mCode 28) 49 = .ok (.aload_n 0, 1) := by decide +kernel
theorem d28_50 : decode (mCode 28) 50 = .ok (.getfield 22, 3) := by decide +kernel
theorem d28_53 : decode (mCode 28) 53 = .ok (.invokevirtual 47, 3) := by decide +kernel
theorem d28_56 : decode (mCode 28) 56 = .ok (.return_, 1) := by decide +kernel
theorem d29_0 : decode (mCode 29) 0 = .ok (.aload_n 0, 1) := by decide +kernel
theorem d29_1 : decode (mCode 29) 1 = .ok (.iload_n 1, 1) := by decide +kernel
theorem d29_2 : decode (mCode 29) 2 = .ok (.iload_n 2, 1) := by decide +kernel
theorem d29_3 : decode (mCode 29) 3 = .ok (.invokevirtual 102, 3) := by decide +kernel
theorem d29_6 : decode (mCode 29) 6 = .ok (.istore_n 3, 1) := by decide +kernel
theorem d29_7 : decode (mCode 29) 7 = .ok (.iload_n 3, 1) := by decide +kernel
theorem d29_8 : decode (mCode 29) 8 = .ok (.iconst (-1), 1) := by decide +kernel
theorem d29_9 : decode (mCode 29) 9 = .ok (.if_icmp .ne 7, 3) := by decide +kernel
theorem d29_12 : decode (mCode 29) 12 = .ok (.iconst (-1), 1) := by decide +kernel
theorem d29_13 : decode (mCode 29) 13 = .ok (.goto 12, 3) := by decide +kernel
theorem d29_16 : decode (mCode 29) 16 = .ok (.aload_n 0, 1) := by decide +kernel
theorem d29_17 : decode (mCode 29) 17 = .ok (.getfield 22, 3) := by decide +kernel
theorem d29_20 : decode (mCode 29) 20 = .ok (.iload_n 1, 1) := by decide +kernel
theorem d29_21 : decode (mCode 29) 21 = .ok (.iload_n 3, 1) := by decide +kernel
theorem d29_22 : decode (mCode 29) 22 = .ok (.invokevirtual 77, 3) := by decide +kernel
theorem d29_25 : decode (mCode 29) 25 = .ok (.istore 4, 2) := by decide +kernel
theorem d29_27 : decode (mCode 29) 27 = .ok (.iload 4, 2) := by decide +kernel
theorem d29_29 : decode (mCode 29) 29 = .ok (.istore 5, 2) := by decide +kernel
theorem d29_31 : decode (mCode 29) 31 = .ok (.aload_n 0, 1) := by decide +kernel
theorem d29_32 : decode (mCode 29) 32 = .ok (.iconst 0, 1) := by decide +kernel
theorem d29_33 : decode (mCode 29) 33 = .ok (.putfield 105, 3) := by decide +kernel
theorem d29_36 : decode (mCode 29) 36 = .ok (.aload_n 0, 1) := by decide +kernel
theorem d29_37 : decode (mCode 29) 37 = .ok (.getfield 105, 3) := by decide +kernel
theorem d29_40 : decode (mCode 29) 40 = .ok (.bipush 75, 2) := by decide +kernel
theorem d29_42 : decode (mCode 29) 42 = .ok (.if_icmp .ge 91, 3) := by decide +kernel
theorem d29_45 : decode (mCode 29) 45 = .ok (.iload 5, 2) := by decide +kernel
theorem d29_47 : decode (mCode 29) 47 = .ok (.iconst (-1), 1) := by decide +kernel
theorem d29_48 : decode (mCode 29) 48 = .ok (.if_icmp .eq 85, 3) := by decide +kernel
theorem d29_51 : decode (mCode 29) 51 = .ok (.iload 5, 2) := by decide +kernel
theorem d29_53 : decode (mCode 29) 53 = .ok (.iload_n 2, 1) := by decide +kernel
theorem d29_54 : decode (mCode 29) 54 = .ok (.if_icmp .eq 79, 3) := by decide +kernel
theorem d29_57 : decode (mCode 29) 57 = .ok (.aload_n 0, 1) := by decide +kernel
theorem d29_58 : decode (mCode 29) 58 = .ok (.getfield 9, 3) := by decide +kernel
theorem d29_61 : decode (mCode 29) 61 = .ok (.aload_n 0, 1) := by decide +kernel
theorem d29_62 : decode (mCode 29) 62 = .ok (.getfield 105, 3) := by decide +kernel
theorem d29_65 : decode (mCode 29) 65 = .ok (.iload 4, 2) := by decide +kernel
theorem d29_67 : decode (mCode 29) 67 = .ok (.iastore, 1) := by decide +kernel
theorem d29_68 : decode (mCode 29) 68 = .ok (.aload_n 0, 1) := by decide +kernel
theorem d29_69 : decode (mCode 29) 69 = .ok (.getfield 15, 3) := by decide +kernel
theorem d29_72 : decode (mCode 29) 72 = .ok (.aload_n 0, 1) := by decide +kernel
theorem d29_73 : decode (mCode 29) 73 = .ok (.getfield 105, 3) := by decide +kernel
theorem d29_76 : decode (mCode 29) 76 = .ok (.iload_n 3, 1) := by decide +kernel
theorem d29_77 : decode (mCode 29) 77 = .ok (.iastore, 1) := by decide +kernel
theorem d29_78 : decode (mCode 29) 78 = .ok (.aload_n 0, 1) := by decide +kernel
theorem d29_79 : decode (mCode 29) 79 = .ok (.getfield 22, 3) := by decide +kernel
theorem d29_82 : decode (mCode 29) 82 = .ok (.iload 4, 2) := by decide +kernel
theorem d29_84 : decode (mCode 29) 84 = .ok (.iload_n 3, 1) := by decide +kernel
theorem d29_85 : decode (mCode 29) 85 = .ok (.invokevirtual 77, 3) := by decide +kernel
theorem d29_88 : decode (mCode 29) 88 = .ok (.istore 5, 2) := by decide +kernel
theorem d29_90 : decode (mCode 29) 90 = .ok (.iload 5, 2) := by decide +kernel
theorem d29_92 : decode (mCode 29) 92 = .ok (.iconst (-1), 1) := by decide +kernel
theorem d29_93 : decode (mCode 29) 93 = .ok (.if_icmp .eq 24, 3) := by decide +kernel
theorem d29_96 : decode (mCode 29) 96 = .ok (.aload_n 0, 1) := by decide +kernel
theorem d29_97 : decode (mCode 29) 97 = .ok (.getfield 18, 3) := by decide +kernel
theorem d29_100 : decode (mCode 29) 100 = .ok (.iload_n 1, 1) := by decide +kernel
theorem d29_101 : decode (mCode 29) 101 = .ok (.iload_n 2, 1) := by decide +kernel
theorem d29_102 : decode (mCode 29) 102 = .ok (.iload 5, 2) := by decide +kernel
theorem d29_104 : decode (mCode 29) 104 = .ok (.invokevirtual 50, 3) := by decide +kernel
theorem d29_107 : decode (mCode 29) 107 = .ok (.ifCond .le 10, 3) := by decide +kernel
theorem d29_110 : decode (mCode 29) 110 = .ok (.iload 5, 2) := by decide +kernel
theorem d29_112 : decode (mCode 29) 112 = .ok (.istore 4, 2) := by decide +kernel
theorem d29_114 : decode (mCode 29) 114 = .ok (.goto 6, 3) := by decide +kernel
theorem d29_117 : decode (mCode 29) 117 = .ok (.iload 5, 2) := by decide +kernel
theorem d29_119 : decode (mCode 29) 119 = .ok (.istore_n 3, 1) := by decide +kernel
theorem d29_120 : decode (mCode 29) 120 = .ok (.aload_n 0, 1) := by decide +kernel
theorem d29_121 : decode (mCode 29) 121 = .ok (.dup, 1) := by decide +kernel
theorem d29_122 : decode (mCode 29) 122 = .ok (.getfield 105, 3) := by decide +kernel
theorem d29_125 : decode (mCode 29) 125 = .ok (.iconst 1, 1) := by decide +kernel
theorem d29_126 : decode (mCode 29) 126 = .ok (.iadd, 1) := by decide +kernel
theorem d29_127 : decode (mCode 29) 127 = .ok (.putfield 105, 3) := by decide +kernel
theorem d29_130 : decode (mCode 29) 130 = .ok (.goto (-94), 3) := by decide +kernel
theorem d29_133 : decode (mCode 29) 133 = .ok (.return_, 1) := by decide +kernel
theorem d30_0 : decode (mCode 30) 0 = .ok (.iconst 0, 1) := by decide +kernel
theorem d30_1 : decode (mCode 30) 1 = .ok (.istore_n 3, 1) := by decide +kernel
theorem d30_2 : decode (mCode 30) 2 = .ok (.iload_n 3, 1) := by decide +kernel
theorem d30_3 : decode (mCode 30) 3 = .ok (.aload_n 0, 1) := by decide +kernel
theorem d30_4 : decode (mCode 30) 4 = .ok (.getfield 18, 3) := by decide +kernel
theorem d30_7 : decode (mCode 30) 7 = .ok (.invokevirtual 109, 3) := by decide +kernel
theorem d30_10 : decode (mCode 30) 10 = .ok (.if_icmp .ge 55, 3) := by decide +kernel
theorem d30_13 : decode (mCode 30) 13 = .ok (.aload_n 0, 1) := by decide +kernel
theorem d30_14 : decode (mCode 30) 14 = .ok (.getfield 22, 3) := by decide +kernel
theorem d30_17 : decode (mCode 30) 17 = .ok (.iload_n 1, 1) := by decide +kernel
theorem d30_18 : decode (mCode 30) 18 = .ok (.iload_n 3, 1) := by decide +kernel
theorem d30_19 : decode (mCode 30) 19 = .ok (.invokevirtual 77, 3) := by decide +kernel
theorem d30_22 : decode (mCode 30) 22 = .ok (.istore 4, 2) := by decide +kernel
theorem d30_24 : decode (mCode 30) 24 = .ok (.iload 4, 2) := by decide +kernel
theorem d30_26 : decode (mCode 30) 26 = .ok (.iconst (-1), 1) := by decide +kernel
theorem d30_27 : decode (mCode 30) 27 = .ok (.if_icmp .eq 32, 3) := by decide +kernel
theorem d30_30 : decode (mCode 30) 30 = .ok (.aload_n 0, 1) := by decide +kernel
theorem d30_31 : decode (mCode 30) 31 = .ok (.getfield 18, 3) := by decide +kernel
theorem d30_34 : decode (mCode 30) 34 = .ok (.iload_n 1, 1) := by decide +kernel
theorem d30_35 : decode (mCode 30) 35 = .ok (.iload_n 2, 1) := by decide +kernel
theorem d30_36 : decode (mCode 30) 36 = .ok (.iload_n 3, 1) := by decide +kernel
theorem d30_37 : decode (mCode 30) 37 = .ok (.invokevirtual 50, 3) := by decide +kernel
theorem d30_40 : decode (mCode 30) 40 = .ok (.ifCond .ge 19, 3) := by decide +kernel
theorem d30_43 : decode (mCode 30) 43 = .ok (.aload_n 0, 1) := by decide +kernel
theorem d30_44 : decode (mCode 30) 44 = .ok (.getfield 18, 3) := by decide +kernel
theorem d30_47 : decode (mCode 30) 47 = .ok (.iload_n 1, 1) := by decide +kernel
theorem d30_48 : decode (mCode 30) 48 = .ok (.iload_n 2, 1) := by decide +kernel
theorem d30_49 : decode (mCode 30) 49 = .ok (.iload 4, 2) := by decide +kernel
theorem d30_51 : decode (mCode 30) 51 = .ok (.invokevirtual 50, 3) := by decide +kernel
theorem d30_54 : decode (mCode 30) 54 = .ok (.ifCond .le 5, 3) := by decide +kernel
theorem d30_57 : decode (mCode 30) 57 = .ok (.iload_n 3, 1) := by decide +kernel
theorem d30_58 : decode (mCode 30) 58 = .ok (.ireturn, 1) := by decide +kernel
theorem d30_59 : decode (mCode 30) 59 = .ok (.iinc 3 1, 3) := by decide +kernel
theorem d30_62 : decode (mCode 30) 62 = .ok (.goto (-60), 3) := by decide +kernel
theorem d30_65 : decode (mCode 30) 65 = .ok (.iconst (-1), 1) := by decide +kernel
theorem d30_66 : decode (mCode 30) 66 = .ok (.ireturn, 1) := by decide +kernel
theorem d31_0 : decode (mCode 31) 0 = .ok (.aload_n 0, 1) := by decide +kernel
theorem d31_1 : decode (mCode 31) 1 = .ok (.iload_n 1, 1) := by decide +kernel
theorem d31_2 : decode (mCode 31) 2 = .ok (.iload_n 2, 1) := by decide +kernel
theorem d31_3 : decode (mCode 31) 3 = .ok (.invokevirtual 110, 3) := by decide +kernel
theorem d31_6 : decode (mCode 31) 6 = .ok (.istore_n 3, 1) := by decide +kernel
theorem d31_7 : decode (mCode 31) 7 = .ok (.iconst 0, 1) := by decide +kernel
theorem d31_8 : decode (mCode 31) 8 = .ok (.istore 4, 2) := by decide +kernel
theorem d31_10 : decode (mCode 31) 10 = .ok (.iload 4, 2) := by decide +kernel
theorem d31_12 : decode (mCode 31) 12 = .ok (.aload_n 0, 1) := by decide +kernel
theorem d31_13 : decode (mCode 31) 13 = .ok (.getfield 105, 3) := by decide +kernel
theorem d31_16 : decode (mCode 31) 16 = .ok (.if_icmp .ge 96, 3) := by decide +kernel
theorem d31_19 : decode (mCode 31) 19 = .ok (.aload_n 0, 1) := by decide +kernel
theorem d31_20 : decode (mCode 31) 20 = .ok (.getfield 9, 3) := by decide +kernel
theorem d31_23 : decode (mCode 31) 23 = .ok (.iload 4, 2) := by decide +kernel
theorem d31_25 : decode (mCode 31) 25 = .ok (.iaload, 1) := by decide +kernel
theorem d31_26 : decode (mCode 31) 26 = .ok (.iload_n 3, 1) := by decide +kernel
theorem d31_27 : decode (mCode 31) 27 = .ok (.if_icmp .ne 79, 3) := by decide +kernel
theorem d31_30 : decode (mCode 31) 30 = .ok (.aload_n 0, 1) := by decide +kernel
theorem d31_31 : decode (mCode 31) 31 = .ok (.iload_n 3, 1) := by decide +kernel
theorem d31_32 : decode (mCode 31) 32 = .ok (.aload_n 0, 1) := by decide +kernel
theorem d31_33 : decode (mCode 31) 33 = .ok (.getfield 15, 3) := by decide +kernel
theorem d31_36 : decode (mCode 31) 36 = .ok (.iload 4, 2) := by decide +kernel
theorem d31_38 : decode (mCode 31) 38 = .ok (.iaload, 1) := by decide +kernel
theorem d31_39 : decode (mCode 31) 39 = .ok (.invokevirtual 113, 3) := by decide +kernel
theorem d31_42 : decode (mCode 31) 42 = .ok (.ifCond .eq 64, 3) := by decide +kernel
theorem d31_45 : decode (mCode 31) 45 = .ok (.aload_n 0, 1) := by decide +kernel
theorem d31_46 : decode (mCode 31) 46 = .ok (.getfield 22, 3) := by decide +kernel
theorem d31_49 : decode (mCode 31) 49 = .ok (.aload_n 0, 1) := by decide +kernel
theorem d31_50 : decode (mCode 31) 50 = .ok (.getfield 15, 3) := by decide +kernel
theorem d31_53 : decode (mCode 31) 53 = .ok (.iload 4, 2) := by decide +kernel
theorem d31_55 : decode (mCode 31) 55 = .ok (.iaload, 1) := by decide +kernel
theorem d31_56 : decode (mCode 31) 56 = .ok (.iload_n 3, 1) := by decide +kernel
theorem d31_57 : decode (mCode 31) 57 = .ok (.invokevirtual 77, 3) := by decide +kernel
theorem d31_60 : decode (mCode 31) 60 = .ok (.istore 5, 2) := by decide +kernel
theorem d31_62 : decode (mCode 31) 62 = .ok (.aload_n 0, 1) := by decide +kernel
theorem d31_63 : decode (mCode 31) 63 = .ok (.getfield 22, 3) := by decide +kernel
theorem d31_66 : decode (mCode 31) 66 = .ok (.iload_n 3, 1) := by decide +kernel
theorem d31_67 : decode (mCode 31) 67 = .ok (.aload_n 0, 1) := by decide +kernel
theorem d31_68 : decode (mCode 31) 68 = .ok (.getfield 15, 3) := by decide +kernel
theorem d31_71 : decode (mCode 31) 71 = .ok (.iload 4, 2) := by decide +kernel
theorem d31_73 : decode (mCode 31) 73 = .ok (.iaload, 1) := by decide +kernel
theorem d31_74 : decode (mCode 31) 74 = .ok (.invokevirtual 77, 3) := by decide +kernel
theorem d31_77 : decode (mCode 31) 77 = .ok (.istore 6, 2) := by decide +kernel
theorem d31_79 : decode (mCode 31) 79 = .ok (.aload_n 0, 1) := by decide +kernel
theorem d31_80 : decode (mCode 31) 80 = .ok (.getfield 22, 3) := by decide +kernel
theorem d31_83 : decode (mCode 31) 83 = .ok (.iload_n 3, 1) := by decide +kernel
theorem d31_84 : decode (mCode 31) 84 = .ok (.aload_n 0, 1) := by decide +kernel
theorem d31_85 : decode (mCode 31) 85 = .ok (.getfield 15, 3) := by decide +kernel
theorem d31_88 : decode (mCode 31) 88 = .ok (.iload 4, 2) := by decide +kernel
theorem d31_90 : decode (mCode 31) 90 = .ok (.iaload, 1) := by decide +kernel
theorem d31_91 : decode (mCode 31) 91 = .ok (.invokevirtual 116, 3) := by decide +kernel
theorem d31_94 : decode (mCode 31) 94 = .ok (.aload_n 0, 1) := by decide +kernel
theorem d31_95 : decode (mCode 31) 95 = .ok (.getfield 22, 3) := by decide +kernel
theorem d31_98 : decode (mCode 31) 98 = .ok (.iload 5, 2) := by decide +kernel
theorem d31_100 : decode (mCode 31) 100 = .ok (.iload 6, 2) := by decide +kernel
theorem d31_102 : decode (mCode 31) 102 = .ok (.invokevirtual 80, 3) := by decide +kernel
theorem d31_105 : decode (mCode 31) 105 = .ok (.return_, 1) := by decide +kernel
theorem d31_106 : decode (mCode 31) 106 = .ok (.iinc 4 1, 3) := by decide +kernel
theorem d31_109 : decode (mCode 31) 109 = .ok (.goto (-99), 3) := by decide +kernel
theorem d31_112 : decode (mCode 31) 112 = .ok (.return_, 1) := by decide +kernel
theorem d32_0 : decode (mCode 32) 0 = .ok (.iconst (-1), 1) := by decide +kernel
theorem d32_1 : decode (mCode 32) 1 = .ok (.istore_n 3, 1) := by decide +kernel
theorem d32_2 : decode (mCode 32) 2 = .ok (.lconst 0, 1) := by decide +kernel
theorem d32_3 : decode (mCode 32) 3 = .ok (.lstore 4, 2) := by decide +kernel
theorem d32_5 : decode (mCode 32) 5 = .ok (.iconst 0, 1) := by decide +kernel
theorem d32_6 : decode (mCode 32) 6 = .ok (.istore 6, 2) := by decide +kernel
theorem d32_8 : decode (mCode 32) 8 = .ok (.iload 6, 2) := by decide +kernel
theorem d32_10 : decode (mCode 32) 10 = .ok (.aload_n 0, 1) := by decide +kernel
theorem d32_11 : decode (mCode 32) 11 = .ok (.getfield 105, 3) := by decide +kernel
theorem d32_14 : decode (mCode 32) 14 = .ok (.if_icmp .ge 47, 3) := by decide +kernel
theorem d32_17 : decode (mCode 32) 17 = .ok (.aload_n 0, 1) := by decide +kernel
theorem d32_18 : decode (mCode 32) 18 = .ok (.getfield 18, 3) := by decide +kernel
theorem d32_21 : decode (mCode 32) 21 = .ok (.iload_n 1, 1) := by decide +kernel
theorem d32_22 : decode (mCode 32) 22 = .ok (.iload_n 2, 1) := by decide +kernel
theorem d32_23 : decode (mCode 32) 23 = .ok (.aload_n 0, 1) := by decide +kernel
theorem d32_24 : decode (mCode 32) 24 = .ok (.getfield 9, 3) := by decide +kernel
theorem d32_27 : decode (mCode 32) 27 = .ok (.iload 6, 2) := by decide +kernel
theorem d32_29 : decode (mCode 32) 29 = .ok (.iaload, 1) := by decide +kernel
theorem d32_30 : decode (mCode 32) 30 = .ok (.invokevirtual 119, 3) := by decide +kernel
theorem d32_33 : decode (mCode 32) 33 = .ok (.lstore 7, 2) := by decide +kernel
theorem d32_35 : decode (mCode 32) 35 = .ok (.lload 7, 2) := by decide +kernel
theorem d32_37 : decode (mCode 32) 37 = .ok (.lload 4, 2) := by decide +kernel
theorem d32_39 : decode (mCode 32) 39 = .ok (.lcmp, 1) := by decide +kernel
theorem d32_40 : decode (mCode 32) 40 = .ok (.ifCond .le 15, 3) := by decide +kernel
theorem d32_43 : decode (mCode 32) 43 = .ok (.lload 7, 2) := by decide +kernel
theorem d32_45 : decode (mCode 32) 45 = .ok (.lstore 4, 2) := by decide +kernel
theorem d32_47 : decode (mCode 32) 47 = .ok (.aload_n 0, 1) := by decide +kernel
theorem d32_48 : decode (mCode 32) 48 = .ok (.getfield 9, 3) := by decide +kernel
theorem d32_51 : decode (mCode 32) 51 = .ok (.iload 6, 2) := by decide +kernel
theorem d32_53 : decode (mCode 32) 53 = .ok (.iaload, 1) := by decide +kernel
theorem d32_54 : decode (mCode 32) 54 = .ok (.istore_n 3, 1) := by decide +kernel
theorem d32_55 : decode (mCode 32) 55 = .ok (.iinc 6 1, 3) := by decide +kernel
theorem d32_58 : decode (mCode 32) 58 = .ok (.goto (-50), 3) := by decide +kernel
theorem d32_61 : decode (mCode 32) 61 = .ok (.iload_n 3, 1) := by decide +kernel
theorem d32_62 : decode (mCode 32) 62 = .ok (.ireturn, 1) := by decide +kernel
theorem d33_0 : decode (mCode 33) 0 = .ok (.aload_n 0, 1) := by decide +kernel
theorem d33_1 : decode (mCode 33) 1 = .ok (.getfield 22, 3) := by decide +kernel
theorem d33_4 : decode (mCode 33) 4 = .ok (.iload_n 2, 1) := by decide +kernel
theorem d33_5 : decode (mCode 33) 5 = .ok (.iload_n 1, 1) := by decide +kernel
theorem d33_6 : decode (mCode 33) 6 = .ok (.invokevirtual 77, 3) := by decide +kernel
theorem d33_9 : decode (mCode 33) 9 = .ok (.istore_n 3, 1) := by decide +kernel
theorem d33_10 : decode (mCode 33) 10 = .ok (.aload_n 0, 1) := by decide +kernel
theorem d33_11 : decode (mCode 33) 11 = .ok (.getfield 22, 3) := by decide +kernel
theorem d33_14 : decode (mCode 33) 14 = .ok (.iload_n 1, 1) := by decide +kernel
theorem d33_15 : decode (mCode 33) 15 = .ok (.iload_n 2, 1) := by decide +kernel
theorem d33_16 : decode (mCode 33) 16 = .ok (.invokevirtual 77, 3) := by decide +kernel
theorem d33_19 : decode (mCode 33) 19 = .ok (.istore 4, 2) := by decide +kernel
theorem d33_21 : decode (mCode 33) 21 = .ok (.iload_n 3, 1) := by decide +kernel
theorem d33_22 : decode (mCode 33) 22 = .ok (.iconst (-1), 1) := by decide +kernel
theorem d33_23 : decode (mCode 33) 23 = .ok (.if_icmp .eq 41, 3) := by decide +kernel
theorem d33_26 : decode (mCode 33) 26 = .ok (.iload 4, 2) := by decide +kernel
theorem d33_28 : decode (mCode 33) 28 = .ok (.iconst (-1), 1) := by decide +kernel
theorem d33_29 : decode (mCode 33) 29 = .ok (.if_icmp .eq 35, 3) := by decide +kernel
theorem d33_32 : decode (mCode 33) 32 = .ok (.aload_n 0, 1) := by decide +kernel
theorem d33_33 : decode (mCode 33) 33 = .ok (.getfield 18, 3) := by decide +kernel
theorem d33_36 : decode (mCode 33) 36 = .ok (.iload_n 3, 1) := by decide +kernel
theorem d33_37 : decode (mCode 33) 37 = .ok (.iload_n 2, 1) := by decide +kernel
theorem d33_38 : decode (mCode 33) 38 = .ok (.iload 4, 2) := by decide +kernel
theorem d33_40 : decode (mCode 33) 40 = .ok (.invokevirtual 50, 3) := by decide +kernel
theorem d33_43 : decode (mCode 33) 43 = .ok (.ifCond .le 21, 3) := by decide +kernel
theorem d33_46 : decode (mCode 33) 46 = .ok (.aload_n 0, 1) := by decide +kernel
theorem d33_47 : decode (mCode 33) 47 = .ok (.getfield 18, 3) := by decide +kernel
theorem d33_50 : decode (mCode 33) 50 = .ok (.iload 4, 2) := by decide +kernel
theorem d33_52 : decode (mCode 33) 52 = .ok (.iload_n 1, 1) := by decide +kernel
theorem d33_53 : decode (mCode 33) 53 = .ok (.iload_n 3, 1) := by decide +kernel
theorem d33_54 : decode (mCode 33) 54 = .ok (.invokevirtual 50, 3) := by decide +kernel
theorem d33_57 : decode (mCode 33) 57 = .ok (.ifCond .le 7, 3) := by decide +kernel
theorem d33_60 : decode (mCode 33) 60 = .ok (.iconst 1, 1) := by decide +kernel
theorem d33_61 : decode (mCode 33) 61 = .ok (.goto 4, 3) := by decide +kernel
theorem d33_64 : decode (mCode 33) 64 = .ok (.iconst 0, 1) := by decide +kernel
theorem d33_65 : decode (mCode 33) 65 = .ok (.ireturn, 1) := by decide +kernel
theorem d34_0 : decode (mCode 34) 0 = .ok (.aload_n 0, 1) := by decide +kernel
theorem d34_1 : decode (mCode 34) 1 = .ok (.getfield 22, 3) := by decide +kernel
theorem d34_4 : decode (mCode 34) 4 = .ok (.invokevirtual 26, 3) := by decide +kernel
theorem d34_7 : decode (mCode 34) 7 = .ok (.ifCond .le 19, 3) := by decide +kernel
theorem d34_10 : decode (mCode 34) 10 = .ok (.aload_n 0, 1) := by decide +kernel
theorem d34_11 : decode (mCode 34) 11 = .ok (.getfield 22, 3) := by decide +kernel
theorem d34_14 : decode (mCode 34) 14 = .ok (.iload_n 1, 1) := by decide +kernel
theorem d34_15 : decode (mCode 34) 15 = .ok (.iload_n 2, 1) := by decide +kernel
theorem d34_16 : decode (mCode 34) 16 = .ok (.invokevirtual 80, 3) := by decide +kernel
theorem d34_19 : decode (mCode 34) 19 = .ok (.aload_n 0, 1) := by decide +kernel
theorem d34_20 : decode (mCode 34) 20 = .ok (.getfield 22, 3) := by decide +kernel
theorem d34_23 : decode (mCode 34) 23 = .ok (.invokevirtual 47, 3) := by decide +kernel
theorem d34_26 : decode (mCode 34) 26 = .ok (.return_, 1) := by decide +kernel
theorem d36_0 : decode (mCode 36) 0 = .ok (.aload_n 0, 1) := by decide +kernel
theorem d36_1 : decode (mCode 36) 1 = .ok (.getfield 9, 3) := by decide +kernel
theorem d36_4 : decode (mCode 36) 4 = .ok (.lconst 0, 1) := by decide +kernel
theorem d36_5 : decode (mCode 36) 5 = .ok (.invokestatic 25, 3) := by decide +kernel
theorem d36_8 : decode (mCode 36) 8 = .ok (.aload_n 0, 1) := by decide +kernel
theorem d36_9 : decode (mCode 36) 9 = .ok (.iconst 0, 1) := by decide +kernel
theorem d36_10 : decode (mCode 36) 10 = .ok (.putfield 19, 3) := by decide +kernel
theorem d36_13 : decode (mCode 36) 13 = .ok (.return_, 1) := by decide +kernel
theorem d37_0 : decode (mCode 37) 0 = .ok (.aload_n 0, 1) := by decide +kernel
theorem d37_1 : decode (mCode 37) 1 = .ok (.getfield 19, 3) := by decide +kernel
theorem d37_4 : decode (mCode 37) 4 = .ok (.ireturn, 1) := by decide +kernel
theorem d42_0 : decode (mCode 42) 0 = .ok (.aload_n 0, 1) := by decide +kernel
theorem d42_1 : decode (mCode 42) 1 = .ok (.getfield 9, 3) := by decide +kernel
theorem d42_4 : decode (mCode 42) 4 = .ok (.iload_n 1, 1) := by decide +kernel
theorem d42_5 : decode (mCode 42) 5 = .ok (.dup2, 1) := by decide +kernel
theorem d42_6 : decode (mCode 42) 6 = .ok (.laload, 1) := by decide +kernel
theorem d42_7 : decode (mCode 42) 7 = .ok (.lconst 1, 1) := by decide +kernel
theorem d42_8 : decode (mCode 42) 8 = .ok (.iload_n 2, 1) := by decide +kernel
theorem d42_9 : decode (mCode 42) 9 = .ok (.lshl, 1) := by decide +kernel
theorem d42_10 : decode (mCode 42) 10 = .ok (.lor, 1) := by decide +kernel
theorem d42_11 : decode (mCode 42) 11 = .ok (.lastore, 1) := by decide +kernel
theorem d42_12 : decode (mCode 42) 12 = .ok (.aload_n 0, 1) := by decide +kernel
theorem d42_13 : decode (mCode 42) 13 = .ok (.getfield 9, 3) := by decide +kernel
theorem d42_16 : decode (mCode 42) 16 = .ok (.iload_n 2, 1) := by decide +kernel
theorem d42_17 : decode (mCode 42) 17 = .ok (.dup2, 1) := by decide +kernel
theorem d42_18 : decode (mCode 42) 18 = .ok (.laload, 1) := by decide +kernel
theorem d42_19 : decode (mCode 42) 19 = .ok (.lconst 1, 1) := by decide +kernel
theorem d42_20 : decode (mCode 42) 20 = .ok (.iload_n 1, 1) := by decide +kernel
theorem d42_21 : decode (mCode 42) 21 = .ok (.lshl, 1) := by decide +kernel
theorem d42_22 : decode (mCode 42) 22 = .ok (.lor, 1) := by decide +kernel
theorem d42_23 : decode (mCode 42) 23 = .ok (.lastore, 1) := by decide +kernel
theorem d42_24 : decode (mCode 42) 24 = .ok (.aload_n 0, 1) := by decide +kernel
theorem d42_25 : decode (mCode 42) 25 = .ok (.dup, 1) := by decide +kernel
theorem d42_26 : decode (mCode 42) 26 = .ok (.getfield 19, 3) := by decide +kernel
theorem d42_29 : decode (mCode 42) 29 = .ok (.iconst 1, 1) := by decide +kernel
theorem d42_30 : decode (mCode 42) 30 = .ok (.iadd, 1) := by decide +kernel
theorem d42_31 : decode (mCode 42) 31 = .ok (.putfield 19, 3) := by decide +kernel
theorem d42_34 : decode (mCode 42) 34 = .ok (.return_, 1) := by decide +kernel
theorem d43_0 : decode (mCode 43) 0 = .ok (.aload_n 0, 1) := by decide +kernel
theorem d43_1 : decode (mCode 43) 1 = .ok (.getfield 9, 3) := by decide +kernel
theorem d43_4 : decode (mCode 43) 4 = .ok (.iload_n 1, 1) := by decide +kernel
theorem d43_5 : decode (mCode 43) 5 = .ok (.dup2, 1) := by decide +kernel
theorem d43_6 : decode (mCode 43) 6 = .ok (.laload, 1) := by decide +kernel
theorem d43_7 : decode (mCode 43) 7 = .ok (.lconst 1, 1) := by decide +kernel
theorem d43_8 : decode (mCode 43) 8 = .ok (.iload_n 2, 1) := by decide +kernel
theorem d43_9 : decode (mCode 43) 9 = .ok (.lshl, 1) := by decide +kernel
theorem d43_10 : decode (mCode 43) 10 = .ok (.ldc2_w 23, 3) := by decide +kernel
theorem d43_13 : decode (mCode 43) 13 = .ok (.lxor, 1) := by decide +kernel
theorem d43_14 : decode (mCode 43) 14 = .ok (.land, 1) := by decide +kernel
theorem d43_15 : decode (mCode 43) 15 = .ok (.lastore, 1) := by decide +kernel
theorem d43_16 : decode (mCode 43) 16 = .ok (.aload_n 0, 1) := by decide +kernel
theorem d43_17 : decode (mCode 43) 17 = .ok (.getfield 9, 3) := by decide +kernel
theorem d43_20 : decode (mCode 43) 20 = .ok (.iload_n 2, 1) := by decide +kernel
theorem d43_21 : decode (mCode 43) 21 = .ok (.dup2, 1) := by decide +kernel
theorem d43_22 : decode (mCode 43) 22 = .ok (.laload, 1) := by decide +kernel
theorem d43_23 : decode (mCode 43) 23 = .ok (.lconst 1, 1) := by decide +kernel
theorem d43_24 : decode (mCode 43) 24 = .ok (.iload_n 1, 1) := by decide +kernel
theorem d43_25 : decode (mCode 43) 25 = .ok (.lshl, 1) := by decide +kernel
theorem d43_26 : decode (mCode 43) 26 = .ok (.ldc2_w 23, 3) := by decide +kernel
theorem d43_29 : decode (mCode 43) 29 = .ok (.lxor, 1) := by decide +kernel
theorem d43_30 : decode (mCode 43) 30 = .ok (.land, 1) := by decide +kernel
theorem d43_31 : decode (mCode 43) 31 = .ok (.lastore, 1) := by decide +kernel
theorem d43_32 : decode (mCode 43) 32 = .ok (.aload_n 0, 1) := by decide +kernel
theorem d43_33 : decode (mCode 43) 33 = .ok (.dup, 1) := by decide +kernel
theorem d43_34 : decode (mCode 43) 34 = .ok (.getfield 19, 3) := by decide +kernel
theorem d43_37 : decode (mCode 43) 37 = .ok (.iconst 1, 1) := by decide +kernel
theorem d43_38 : decode (mCode 43) 38 = .ok (.isub, 1) := by decide +kernel
theorem d43_39 : decode (mCode 43) 39 = .ok (.putfield 19, 3) := by decide +kernel
theorem d43_42 : decode (mCode 43) 42 = .ok (.return_, 1) := by decide +kernel
theorem d45_0 : decode (mCode 45) 0 = .ok (.aload_n 0, 1) := by decide +kernel
theorem d45_1 : decode (mCode 45) 1 = .ok (.getfield 9, 3) := by decide +kernel
theorem d45_4 : decode (mCode 45) 4 = .ok (.iconst (-1), 1) := by decide +kernel
theorem d45_5 : decode (mCode 45) 5 = .ok (.invokestatic 36, 3) := by decide +kernel
theorem d45_8 : decode (mCode 45) 8 = .ok (.aload_n 0, 1) := by decide +kernel
theorem d45_9 : decode (mCode 45) 9 = .ok (.iconst 0, 1) := by decide +kernel
theorem d45_10 : decode (mCode 45) 10 = .ok (.putfield 42, 3) := by decide +kernel
theorem d45_13 : decode (mCode 45) 13 = .ok (.return_, 1) := by decide +kernel
theorem d46_0 : decode (mCode 46) 0 = .ok (.aload_n 0, 1) := by decide +kernel
theorem d46_1 : decode (mCode 46) 1 = .ok (.getfield 42, 3) := by decide +kernel
theorem d46_4 : decode (mCode 46) 4 = .ok (.ireturn, 1) := by decide +kernel
theorem d47_0 : decode (mCode 47) 0 = .ok (.aload_n 0, 1) := by decide +kernel
theorem d47_1 : decode (mCode 47) 1 = .ok (.getfield 42, 3) := by decide +kernel
theorem d47_4 : decode (mCode 47) 4 = .ok (.ifCond .ne 7, 3) := by decide +kernel
theorem d47_7 : decode (mCode 47) 7 = .ok (.iconst 0, 1) := by decide +kernel
theorem d47_8 : decode (mCode 47) 8 = .ok (.goto 17, 3) := by decide +kernel
theorem d47_11 : decode (mCode 47) 11 = .ok (.aload_n 0, 1) := by decide +kernel
theorem d47_12 : decode (mCode 47) 12 = .ok (.getfield 28, 3) := by decide +kernel
theorem d47_15 : decode (mCode 47) 15 = .ok (.invokevirtual 46, 3) := by decide +kernel
theorem d47_18 : decode (mCode 47) 18 = .ok (.aload_n 0, 1) := by decide +kernel
theorem d47_19 : decode (mCode 47) 19 = .ok (.getfield 42, 3) := by decide +kernel
theorem d47_22 : decode (mCode 47) 22 = .ok (.iadd, 1) := by decide +kernel
theorem d47_23 : decode (mCode 47) 23 = .ok (.iconst 1, 1) := by decide +kernel
theorem d47_24 : decode (mCode 47) 24 = .ok (.isub, 1) := by decide +kernel
theorem d47_25 : decode (mCode 47) 25 = .ok (.ireturn, 1) := by decide +kernel
theorem d48_0 : decode (mCode 48) 0 = .ok (.iconst 2, 1) := by decide +kernel
theorem d48_1 : decode (mCode 48) 1 = .ok (.aload_n 0, 1) := by decide +kernel
theorem d48_2 : decode (mCode 48) 2 = .ok (.invokevirtual 51, 3) := by decide +kernel
theorem d48_5 : decode (mCode 48) 5 = .ok (.imul, 1) := by decide +kernel
theorem d48_6 : decode (mCode 48) 6 = .ok (.iconst 3, 1) := by decide +kernel
theorem d48_7 : decode (mCode 48) 7 = .ok (.aload_n 0, 1) := by decide +kernel
theorem d48_8 : decode (mCode 48) 8 = .ok (.getfield 42, 3) := by decide +kernel
theorem d48_11 : decode (mCode 48) 11 = .ok (.imul, 1) := by decide +kernel
theorem d48_12 : decode (mCode 48) 12 = .ok (.isub, 1) := by decide +kernel
theorem d48_13 : decode (mCode 48) 13 = .ok (.ireturn, 1) := by decide +kernel
theorem d49_0 : decode (mCode 49) 0 = .ok (.aload_n 0, 1) := by decide +kernel
theorem d49_1 : decode (mCode 49) 1 = .ok (.getfield 9, 3) := by decide +kernel
theorem d49_4 : decode (mCode 49) 4 = .ok (.iload_n 1, 1) := by decide +kernel
theorem d49_5 : decode (mCode 49) 5 = .ok (.iload_n 2, 1) := by decide +kernel
theorem d49_6 : decode (mCode 49) 6 = .ok (.invokestatic 54, 3) := by decide +kernel
theorem d49_9 : decode (mCode 49) 9 = .ok (.iload_n 3, 1) := by decide +kernel
theorem d49_10 : decode (mCode 49) 10 = .ok (.iastore, 1) := by decide +kernel
theorem d49_11 : decode (mCode 49) 11 = .ok (.aload_n 0, 1) := by decide +kernel
theorem d49_12 : decode (mCode 49) 12 = .ok (.getfield 9, 3) := by decide +kernel
theorem d49_15 : decode (mCode 49) 15 = .ok (.iload_n 2, 1) := by decide +kernel
theorem d49_16 : decode (mCode 49) 16 = .ok (.iload_n 3, 1) := by decide +kernel
theorem d49_17 : decode (mCode 49) 17 = .ok (.invokestatic 54, 3) := by decide +kernel
theorem d49_20 : decode (mCode 49) 20 = .ok (.iload_n 1, 1) := by decide +kernel
theorem d49_21 : decode (mCode 49) 21 = .ok (.iastore, 1) := by decide +kernel
theorem d49_22 : decode (mCode 49) 22 = .ok (.aload_n 0, 1) := by decide +kernel
theorem d49_23 : decode (mCode 49) 23 = .ok (.getfield 9, 3) := by decide +kernel
theorem d49_26 : decode (mCode 49) 26 = .ok (.iload_n 3, 1) := by decide +kernel
theorem d49_27 : decode (mCode 49) 27 = .ok (.iload_n 1, 1) := by decide +kernel
theorem d49_28 : decode (mCode 49) 28 = .ok (.invokestatic 54, 3) := by decide +kernel
theorem d49_31 : decode (mCode 49) 31 = .ok (.iload_n 2, 1) := by decide +kernel
theorem d49_32 : decode (mCode 49) 32 = .ok (.iastore, 1) := by decide +kernel
theorem d49_33 : decode (mCode 49) 33 = .ok (.return_, 1) := by decide +kernel
theorem d50_0 : decode (mCode 50) 0 = .ok (.iconst 0, 1) := by decide +kernel
theorem d50_1 : decode (mCode 50) 1 = .ok (.istore_n 2, 1) := by decide +kernel
theorem d50_2 : decode (mCode 50) 2 = .ok (.iload_n 2, 1) := by decide +kernel
theorem d50_3 : decode (mCode 50) 3 = .ok (.aload_n 0, 1) := by decide +kernel
theorem d50_4 : decode (mCode 50) 4 = .ok (.getfield 42, 3) := by decide +kernel
theorem d50_7 : decode (mCode 50) 7 = .ok (.if_icmp .ge 20, 3) := by decide +kernel
theorem d50_10 : decode (mCode 50) 10 = .ok (.aload_n 0, 1) := by decide +kernel
theorem d50_11 : decode (mCode 50) 11 = .ok (.iload_n 2, 1) := by decide +kernel
theorem d50_12 : decode (mCode 50) 12 = .ok (.iload_n 1, 1) := by decide +kernel
theorem d50_13 : decode (mCode 50) 13 = .ok (.invokevirtual 76, 3) := by decide +kernel
theorem d50_16 : decode (mCode 50) 16 = .ok (.ifCond .eq 5, 3) := by decide +kernel
theorem d50_19 : decode (mCode 50) 19 = .ok (.iload_n 2, 1) := by decide +kernel
theorem d50_20 : decode (mCode 50) 20 = .ok (.ireturn, 1) := by decide +kernel
theorem d50_21 : decode (mCode 50) 21 = .ok (.iinc 2 1, 3) := by decide +kernel
theorem d50_24 : decode (mCode 50) 24 = .ok (.goto (-22), 3) := by decide +kernel
theorem d50_27 : decode (mCode 50) 27 = .ok (.iconst (-1), 1) := by decide +kernel
theorem d50_28 : decode (mCode 50) 28 = .ok (.ireturn, 1) := by decide +kernel
theorem d51_0 : decode (mCode 51) 0 = .ok (.iconst 0, 1) := by decide +kernel
theorem d51_1 : decode (mCode 51) 1 = .ok (.istore_n 3, 1) := by decide +kernel
theorem d51_2 : decode (mCode 51) 2 = .ok (.iload_n 3, 1) := by decide +kernel
theorem d51_3 : decode (mCode 51) 3 = .ok (.iconst 3, 1) := by decide +kernel
theorem d51_4 : decode (mCode 51) 4 = .ok (.if_icmp .ge 36, 3) := by decide +kernel
theorem d51_7 : decode (mCode 51) 7 = .ok (.aload_n 0, 1) := by decide +kernel
theorem d51_8 : decode (mCode 51) 8 = .ok (.getfield 28, 3) := by decide +kernel
theorem d51_11 : decode (mCode 51) 11 = .ok (.aload_n 0, 1) := by decide +kernel
theorem d51_12 : decode (mCode 51) 12 = .ok (.iload_n 1, 1) := by decide +kernel
theorem d51_13 : decode (mCode 51) 13 = .ok (.iload_n 3, 1) := by decide +kernel
theorem d51_14 : decode (mCode 51) 14 = .ok (.invokevirtual 61, 3) := by decide +kernel
theorem d51_17 : decode (mCode 51) 17 = .ok (.aload_n 0, 1) := by decide +kernel
theorem d51_18 : decode (mCode 51) 18 = .ok (.iload_n 1, 1) := by decide +kernel
theorem d51_19 : decode (mCode 51) 19 = .ok (.iload_n 3, 1) := by decide +kernel
theorem d51_20 : decode (mCode 51) 20 = .ok (.invokevirtual 64, 3) := by decide +kernel
theorem d51_23 : decode (mCode 51) 23 = .ok (.iload_n 2, 1) := by decide +kernel
theorem d51_24 : decode (mCode 51) 24 = .ok (.invokevirtual 79, 3) := by decide +kernel
theorem d51_27 : decode (mCode 51) 27 = .ok (.lconst 0, 1) := by decide +kernel
theorem d51_28 : decode (mCode 51) 28 = .ok (.lcmp, 1) := by decide +kernel
theorem d51_29 : decode (mCode 51) 29 = .ok (.ifCond .ge 5, 3) := by decide +kernel
theorem d51_32 : decode (mCode 51) 32 = .ok (.iconst 0, 1) := by decide +kernel
theorem d51_33 : decode (mCode 51) 33 = .ok (.ireturn, 1) := by decide +kernel
theorem d51_34 : decode (mCode 51) 34 = .ok (.iinc 3 1, 3) := by decide +kernel
theorem d51_37 : decode (mCode 51) 37 = .ok (.goto (-35), 3) := by decide +kernel
theorem d51_40 : decode (mCode 51) 40 = .ok (.iconst 1, 1) := by decide +kernel
theorem d51_41 : decode (mCode 51) 41 = .ok (.ireturn, 1) := by decide +kernel
theorem d52_0 : decode (mCode 52) 0 = .ok (.aload_n 0, 1) := by decide +kernel
theorem d52_1 : decode (mCode 52) 1 = .ok (.getfield 18, 3) := by decide +kernel
theorem d52_4 : decode (mCode 52) 4 = .ok (.iconst 3, 1) := by decide +kernel
theorem d52_5 : decode (mCode 52) 5 = .ok (.iload_n 1, 1) := by decide +kernel
theorem d52_6 : decode (mCode 52) 6 = .ok (.imul, 1) := by decide +kernel
theorem d52_7 : decode (mCode 52) 7 = .ok (.iload_n 2, 1) := by decide +kernel
theorem d52_8 : decode (mCode 52) 8 = .ok (.iadd, 1) := by decide +kernel
theorem d52_9 : decode (mCode 52) 9 = .ok (.iaload, 1) := by decide +kernel
theorem d52_10 : decode (mCode 52) 10 = .ok (.ireturn, 1) := by decide +kernel
theorem d53_0 : decode (mCode 53) 0 = .ok (.aload_n 0, 1) := by decide +kernel
theorem d53_1 : decode (mCode 53) 1 = .ok (.getfield 18, 3) := by decide +kernel
theorem d53_4 : decode (mCode 53) 4 = .ok (.iconst 3, 1) := by decide +kernel
theorem d53_5 : decode (mCode 53) 5 = .ok (.iload_n 1, 1) := by decide +kernel
theorem d53_6 : decode (mCode 53) 6 = .ok (.imul, 1) := by decide +kernel
theorem d53_7 : decode (mCode 53) 7 = .ok (.iload_n 2, 1) := by decide +kernel
theorem d53_8 : decode (mCode 53) 8 = .ok (.iconst 2, 1) := by decide +kernel
theorem d53_9 : decode (mCode 53) 9 = .ok (.if_icmp .ne 7, 3) := by decide +kernel
theorem d53_12 : decode (mCode 53) 12 = .ok (.iconst 0, 1) := by decide +kernel
theorem d53_13 : decode (mCode 53) 13 = .ok (.goto 6, 3) := by decide +kernel
theorem d53_16 : decode (mCode 53) 16 = .ok (.iload_n 2, 1) := by decide +kernel
theorem d53_17 : decode (mCode 53) 17 = .ok (.iconst 1, 1) := by decide +kernel
theorem d53_18 : decode (mCode 53) 18 = .ok (.iadd, 1) := by decide +kernel
theorem d53_19 : decode (mCode 53) 19 = .ok (.iadd, 1) := by decide +kernel
theorem d53_20 : decode (mCode 53) 20 = .ok (.iaload, 1) := by decide +kernel
theorem d53_21 : decode (mCode 53) 21 = .ok (.ireturn, 1) := by decide +kernel
theorem d54_0 : decode (mCode 54) 0 = .ok (.aload_n 0, 1) := by decide +kernel
theorem d54_1 : decode (mCode 54) 1 = .ok (.getfield 9, 3) := by decide +kernel
theorem d54_4 : decode (mCode 54) 4 = .ok (.iload_n 1, 1) := by decide +kernel
theorem d54_5 : decode (mCode 54) 5 = .ok (.iload_n 2, 1) := by decide +kernel
theorem d54_6 : decode (mCode 54) 6 = .ok (.invokestatic 54, 3) := by decide +kernel
theorem d54_9 : decode (mCode 54) 9 = .ok (.iaload, 1) := by decide +kernel
theorem d54_10 : decode (mCode 54) 10 = .ok (.ireturn, 1) := by decide +kernel
theorem d55_0 : decode (mCode 55) 0 = .ok (.iload_n 1, 1) := by decide +kernel
theorem d55_1 : decode (mCode 55) 1 = .ok (.iload_n 2, 1) := by decide +kernel
theorem d55_2 : decode (mCode 55) 2 = .ok (.invokestatic 94, 3) := by decide +kernel
theorem d55_5 : decode (mCode 55) 5 = .ok (.istore_n 3, 1) := by decide +kernel
theorem d55_6 : decode (mCode 55) 6 = .ok (.iload_n 1, 1) := by decide +kernel
theorem d55_7 : decode (mCode 55) 7 = .ok (.iload_n 2, 1) := by decide +kernel
theorem d55_8 : decode (mCode 55) 8 = .ok (.invokestatic 99, 3) := by decide +kernel
theorem d55_11 : decode (mCode 55) 11 = .ok (.istore 4, 2) := by decide +kernel
theorem d55_13 : decode (mCode 55) 13 = .ok (.aload_n 0, 1) := by decide +kernel
theorem d55_14 : decode (mCode 55) 14 = .ok (.getfield 24, 3) := by decide +kernel
theorem d55_17 : decode (mCode 55) 17 = .ok (.iload_n 3, 1) := by decide +kernel
theorem d55_18 : decode (mCode 55) 18 = .ok (.laload, 1) := by decide +kernel
theorem d55_19 : decode (mCode 55) 19 = .ok (.iload 4, 2) := by decide +kernel
theorem d55_21 : decode (mCode 55) 21 = .ok (.lshr, 1) := by decide +kernel
theorem d55_22 : decode (mCode 55) 22 = .ok (.lconst 1, 1) := by decide +kernel
theorem d55_23 : decode (mCode 55) 23 = .ok (.land, 1) := by decide +kernel
theorem d55_24 : decode (mCode 55) 24 = .ok (.lconst 0, 1) := by decide +kernel
theorem d55_25 : decode (mCode 55) 25 = .ok (.lcmp, 1) := by decide +kernel
theorem d55_26 : decode (mCode 55) 26 = .ok (.ifCond .ne 41, 3) := by decide +kernel
theorem d55_29 : decode (mCode 55) 29 = .ok (.aload_n 0, 1) := by decide +kernel
theorem d55_30 : decode (mCode 55) 30 = .ok (.getfield 24, 3) := by decide +kernel
theorem d55_33 : decode (mCode 55) 33 = .ok (.iload_n 3, 1) := by decide +kernel
theorem d55_34 : decode (mCode 55) 34 = .ok (.dup2, 1) := by decide +kernel
theorem d55_35 : decode (mCode 55) 35 = .ok (.laload, 1) := by decide +kernel
theorem d55_36 : decode (mCode 55) 36 = .ok (.lconst 1, 1) := by decide +kernel
theorem d55_37 : decode (mCode 55) 37 = .ok (.iload 4, 2) := by decide +kernel
theorem d55_39 : decode (mCode 55) 39 = .ok (.lshl, 1) := by decide +kernel
theorem d55_40 : decode (mCode 55) 40 = .ok (.lor, 1) := by decide +kernel
theorem d55_41 : decode (mCode 55) 41 = .ok (.lastore, 1) := by decide +kernel
theorem d55_42 : decode (mCode 55) 42 = .ok (.aload_n 0, 1) := by decide +kernel
theorem d55_43 : decode (mCode 55) 43 = .ok (.getfield 21, 3) := by decide +kernel
theorem d55_46 : decode (mCode 55) 46 = .ok (.aload_n 0, 1) := by decide +kernel
theorem d55_47 : decode (mCode 55) 47 = .ok (.getfield 102, 3) := by decide +kernel
theorem d55_50 : decode (mCode 55) 50 = .ok (.iload_n 3, 1) := by decide +kernel
theorem d55_51 : decode (mCode 55) 51 = .ok (.iload 4, 2) := by decide +kernel
theorem d55_53 : decode (mCode 55) 53 = .ok (.invokestatic 54, 3) := by decide +kernel
theorem d55_56 : decode (mCode 55) 56 = .ok (.iastore, 1) := by decide +kernel
theorem d55_57 : decode (mCode 55) 57 = .ok (.aload_n 0, 1) := by decide +kernel
theorem d55_58 : decode (mCode 55) 58 = .ok (.dup, 1) := by decide +kernel
theorem d55_59 : decode (mCode 55) 59 = .ok (.getfield 102, 3) := by decide +kernel
theorem d55_62 : decode (mCode 55) 62 = .ok (.iconst 1, 1) := by decide +kernel
theorem d55_63 : decode (mCode 55) 63 = .ok (.iadd, 1) := by decide +kernel
theorem d55_64 : decode (mCode 55) 64 = .ok (.putfield 102, 3) := by decide +kernel
theorem d55_67 : decode (mCode 55) 67 = .ok (.return_, 1) := by decide +kernel
theorem d56_0 : decode (mCode 56) 0 = .ok (.aload_n 0, 1) := by decide +kernel
theorem d56_1 : decode (mCode 56) 1 = .ok (.getfield 9, 3) := by decide +kernel
theorem d56_4 : decode (mCode 56) 4 = .ok (.iload_n 1, 1) := by decide +kernel
theorem d56_5 : decode (mCode 56) 5 = .ok (.iload_n 2, 1) := by decide +kernel
theorem d56_6 : decode (mCode 56) 6 = .ok (.invokestatic 54, 3) := by decide +kernel
theorem d56_9 : decode (mCode 56) 9 = .ok (.iconst (-1), 1) := by decide +kernel
theorem d56_10 : decode (mCode 56) 10 = .ok (.iastore, 1) := by decide +kernel
theorem d56_11 : decode (mCode 56) 11 = .ok (.aload_n 0, 1) := by decide +kernel
theorem d56_12 : decode (mCode 56) 12 = .ok (.getfield 9, 3) := by decide +kernel
theorem d56_15 : decode (mCode 56) 15 = .ok (.iload_n 2, 1) := by decide +kernel
theorem d56_16 : decode (mCode 56) 16 = .ok (.iload_n 3, 1) := by decide +kernel
theorem d56_17 : decode (mCode 56) 17 = .ok (.invokestatic 54, 3) := by decide +kernel
theorem d56_20 : decode (mCode 56) 20 = .ok (.iconst (-1), 1) := by decide +kernel
theorem d56_21 : decode (mCode 56) 21 = .ok (.iastore, 1) := by decide +kernel
theorem d56_22 : decode (mCode 56) 22 = .ok (.aload_n 0, 1) := by decide +kernel
theorem d56_23 : decode (mCode 56) 23 = .ok (.getfield 9, 3) := by decide +kernel
theorem d56_26 : decode (mCode 56) 26 = .ok (.iload_n 3, 1) := by decide +kernel
theorem d56_27 : decode (mCode 56) 27 = .ok (.iload_n 1, 1) := by decide +kernel
theorem d56_28 : decode (mCode 56) 28 = .ok (.invokestatic 54, 3) := by decide +kernel
theorem d56_31 : decode (mCode 56) 31 = .ok (.iconst (-1), 1) := by decide +kernel
theorem d56_32 : decode (mCode 56) 32 = .ok (.iastore, 1) := by decide +kernel
theorem d56_33 : decode (mCode 56) 33 = .ok (.return_, 1) := by decide +kernel
theorem d57_0 : decode (mCode 57) 0 = .ok (.iconst 0, 1) := by decide +kernel
theorem d57_1 : decode (mCode 57) 1 = .ok (.istore_n 1, 1) := by decide +kernel
theorem d57_2 : decode (mCode 57) 2 = .ok (.iload_n 1, 1) := by decide +kernel
theorem d57_3 : decode (mCode 57) 3 = .ok (.ldc 105, 2) := by decide +kernel
theorem d57_5 : decode (mCode 57) 5 = .ok (.if_icmp .ge 95, 3) := by decide +kernel
theorem d57_8 : decode (mCode 57) 8 = .ok (.aload_n 0, 1) := by decide +kernel
theorem d57_9 : decode (mCode 57) 9 = .ok (.getfield 102, 3) := by decide +kernel
theorem d57_12 : decode (mCode 57) 12 = .ok (.ifCond .le 88, 3) := by decide +kernel
theorem d57_15 : decode (mCode 57) 15 = .ok (.aload_n 0, 1) := by decide +kernel
theorem d57_16 : decode (mCode 57) 16 = .ok (.dup, 1) := by decide +kernel
theorem d57_17 : decode (mCode 57) 17 = .ok (.getfield 102, 3) := by decide +kernel
theorem d57_20 : decode (mCode 57) 20 = .ok (.iconst 1, 1) := by decide +kernel
theorem d57_21 : decode (mCode 57) 21 = .ok (.isub, 1) := by decide +kernel
theorem d57_22 : decode (mCode 57) 22 = .ok (.putfield 102, 3) := by decide +kernel
theorem d57_25 : decode (mCode 57) 25 = .ok (.aload_n 0, 1) := by decide +kernel
theorem d57_26 : decode (mCode 57) 26 = .ok (.getfield 21, 3) := by decide +kernel
theorem d57_29 : decode (mCode 57) 29 = .ok (.aload_n 0, 1) := by decide +kernel
theorem d57_30 : decode (mCode 57) 30 = .ok (.getfield 102, 3) := by decide +kernel
theorem d57_33 : decode (mCode 57) 33 = .ok (.iaload, 1) := by decide +kernel
theorem d57_34 : decode (mCode 57) 34 = .ok (.bipush 40, 2) := by decide +kernel
theorem d57_36 : decode (mCode 57) 36 = .ok (.idiv, 1) := by decide +kernel
theorem d57_37 : decode (mCode 57) 37 = .ok (.istore_n 2, 1) := by decide +kernel
theorem d57_38 : decode (mCode 57) 38 = .ok (.aload_n 0, 1) := by decide +kernel
theorem d57_39 : decode (mCode 57) 39 = .ok (.getfield 21, 3) := by decide +kernel
theorem d57_42 : decode (mCode 57) 42 = .ok (.aload_n 0, 1) := by decide +kernel
theorem d57_43 : decode (mCode 57) 43 = .ok (.getfield 102, 3) := by decide +kernel
theorem d57_46 : decode (mCode 57) 46 = .ok (.iaload, 1) := by decide +kernel
theorem d57_47 : decode (mCode 57) 47 = .ok (.bipush 40, 2) := by decide +kernel
theorem d57_49 : decode (mCode 57) 49 = .ok (.irem, 1) := by decide +kernel
theorem d57_50 : decode (mCode 57) 50 = .ok (.istore_n 3, 1) := by decide +kernel
theorem d57_51 : decode (mCode 57) 51 = .ok (.aload_n 0, 1) := by decide +kernel
theorem d57_52 : decode (mCode 57) 52 = .ok (.getfield 24, 3) := by decide +kernel
theorem d57_55 : decode (mCode 57) 55 = .ok (.iload_n 2, 1) := by decide +kernel
theorem d57_56 : decode (mCode 57) 56 = .ok (.dup2, 1) := by decide +kernel
theorem d57_57 : decode (mCode 57) 57 = .ok (.laload, 1) := by decide +kernel
theorem d57_58 : decode (mCode 57) 58 = .ok (.lconst 1, 1) := by decide +kernel
theorem d57_59 : decode (mCode 57) 59 = .ok (.iload_n 3, 1) := by decide +kernel
theorem d57_60 : decode (mCode 57) 60 = .ok (.lshl, 1) := by decide +kernel
theorem d57_61 : decode (mCode 57) 61 = .ok (.ldc2_w 106, 3) := by decide +kernel
theorem d57_64 : decode (mCode 57) 64 = .ok (.lxor, 1) := by decide +kernel
theorem d57_65 : decode (mCode 57) 65 = .ok (.land, 1) := by decide +kernel
theorem d57_66 : decode (mCode 57) 66 = .ok (.lastore, 1) := by decide +kernel
theorem d57_67 : decode (mCode 57) 67 = .ok (.aload_n 0, 1) := by decide +kernel
theorem d57_68 : decode (mCode 57) 68 = .ok (.getfield 32, 3) := by decide +kernel
theorem d57_71 : decode (mCode 57) 71 = .ok (.iload_n 2, 1) := by decide +kernel
theorem d57_72 : decode (mCode 57) 72 = .ok (.iload_n 3, 1) := by decide +kernel
theorem d57_73 : decode (mCode 57) 73 = .ok (.invokevirtual 67, 3) := by decide +kernel
theorem d57_76 : decode (mCode 57) 76 = .ok (.ifCond .ne 18, 3) := by decide +kernel
theorem d57_79 : decode (mCode 57) 79 = .ok (.aload_n 0, 1) := by decide +kernel
theorem d57_80 : decode (mCode 57) 80 = .ok (.iload_n 2, 1) := by decide +kernel
theorem d57_81 : decode (mCode 57) 81 = .ok (.iload_n 3, 1) := by decide +kernel
theorem d57_82 : decode (mCode 57) 82 = .ok (.invokevirtual 108, 3) := by decide +kernel
theorem d57_85 : decode (mCode 57) 85 = .ok (.ifCond .ne 9, 3) := by decide +kernel
theorem d57_88 : decode (mCode 57) 88 = .ok (.aload_n 0, 1) := by decide +kernel
theorem d57_89 : decode (mCode 57) 89 = .ok (.iload_n 2, 1) := by decide +kernel
theorem d57_90 : decode (mCode 57) 90 = .ok (.iload_n 3, 1) := by decide +kernel
theorem d57_91 : decode (mCode 57) 91 = .ok (.invokevirtual 111, 3) := by decide +kernel
theorem d57_94 : decode (mCode 57) 94 = .ok (.iinc 1 1, 3) := by decide +kernel
theorem d57_97 : decode (mCode 57) 97 = .ok (.goto (-95), 3) := by decide +kernel
theorem d57_100 : decode (mCode 57) 100 = .ok (.aload_n 0, 1) := by decide +kernel
theorem d57_101 : decode (mCode 57) 101 = .ok (.invokevirtual 114, 3) := by decide +kernel
theorem d57_104 : decode (mCode 57) 104 = .ok (.return_, 1) := by decide +kernel
theorem d58_0 : decode (mCode 58) 0 = .ok (.aload_n 0, 1) := by decide +kernel
theorem d58_1 : decode (mCode 58) 1 = .ok (.iload_n 1, 1) := by decide +kernel
theorem d58_2 : decode (mCode 58) 2 = .ok (.iload_n 2, 1) := by decide +kernel
theorem d58_3 : decode (mCode 58) 3 = .ok (.invokevirtual 58, 3) := by decide +kernel
theorem d58_6 : decode (mCode 58) 6 = .ok (.istore_n 3, 1) := by decide +kernel
theorem d58_7 : decode (mCode 58) 7 = .ok (.aload_n 0, 1) := by decide +kernel
theorem d58_8 : decode (mCode 58) 8 = .ok (.iload_n 2, 1) := by decide +kernel
theorem d58_9 : decode (mCode 58) 9 = .ok (.iload_n 1, 1) := by decide +kernel
theorem d58_10 : decode (mCode 58) 10 = .ok (.invokevirtual 58, 3) := by decide +kernel
theorem d58_13 : decode (mCode 58) 13 = .ok (.istore 4, 2) := by decide +kernel
theorem d58_15 : decode (mCode 58) 15 = .ok (.iload_n 3, 1) := by decide +kernel
theorem d58_16 : decode (mCode 58) 16 = .ok (.iconst (-1), 1) := by decide +kernel
theorem d58_17 : decode (mCode 58) 17 = .ok (.if_icmp .eq 9, 3) := by decide +kernel
theorem d58_20 : decode (mCode 58) 20 = .ok (.iload 4, 2) := by decide +kernel
theorem d58_22 : decode (mCode 58) 22 = .ok (.iconst (-1), 1) := by decide +kernel
theorem d58_23 : decode (mCode 58) 23 = .ok (.if_icmp .ne 5, 3) := by decide +kernel
theorem d58_26 : decode (mCode 58) 26 = .ok (.iconst 1, 1) := by decide +kernel
theorem d58_27 : decode (mCode 58) 27 = .ok (.ireturn, 1) := by decide +kernel
theorem d58_28 : decode (mCode 58) 28 = .ok (.aload_n 0, 1) := by decide +kernel
theorem d58_29 : decode (mCode 58) 29 = .ok (.getfield 28, 3) := by decide +kernel
theorem d58_32 : decode (mCode 58) 32 = .ok (.iload_n 1, 1) := by decide +kernel
theorem d58_33 : decode (mCode 58) 33 = .ok (.iload_n 2, 1) := by decide +kernel
theorem d58_34 : decode (mCode 58) 34 = .ok (.iload_n 3, 1) := by decide +kernel
theorem d58_35 : decode (mCode 58) 35 = .ok (.iload 4, 2) := by decide +kernel
theorem d58_37 : decode (mCode 58) 37 = .ok (.invokevirtual 117, 3) := by decide +kernel
theorem d58_40 : decode (mCode 58) 40 = .ok (.istore 5, 2) := by decide +kernel
theorem d58_42 : decode (mCode 58) 42 = .ok (.iload 5, 2) := by decide +kernel
theorem d58_44 : decode (mCode 58) 44 = .ok (.ifCond .lt 22, 3) := by decide +kernel
theorem d58_47 : decode (mCode 58) 47 = .ok (.iload 5, 2) := by decide +kernel
theorem d58_49 : decode (mCode 58) 49 = .ok (.ifCond .ne 21, 3) := by decide +kernel
theorem d58_52 : decode (mCode 58) 52 = .ok (.iload_n 1, 1) := by decide +kernel
theorem d58_53 : decode (mCode 58) 53 = .ok (.iload_n 2, 1) := by decide +kernel
theorem d58_54 : decode (mCode 58) 54 = .ok (.invokestatic 94, 3) := by decide +kernel
theorem d58_57 : decode (mCode 58) 57 = .ok (.iload_n 3, 1) := by decide +kernel
theorem d58_58 : decode (mCode 58) 58 = .ok (.iload 4, 2) := by decide +kernel
theorem d58_60 : decode (mCode 58) 60 = .ok (.invokestatic 94, 3) := by decide +kernel
theorem d58_63 : decode (mCode 58) 63 = .ok (.if_icmp .ge 7, 3) := by decide +kernel
theorem d58_66 : decode (mCode 58) 66 = .ok (.iconst 1, 1) := by decide +kernel
theorem d58_67 : decode (mCode 58) 67 = .ok (.goto 4, 3) := by decide +kernel
theorem d58_70 : decode (mCode 58) 70 = .ok (.iconst 0, 1) := by decide +kernel
theorem d58_71 : decode (mCode 58) 71 = .ok (.ireturn, 1) := by decide +kernel
theorem d59_0 : decode (mCode 59) 0 = .ok (.aload_n 0, 1) := by decide +kernel
theorem d59_1 : decode (mCode 59) 1 = .ok (.iload_n 1, 1) := by decide +kernel
theorem d59_2 : decode (mCode 59) 2 = .ok (.iload_n 2, 1) := by decide +kernel
theorem d59_3 : decode (mCode 59) 3 = .ok (.invokevirtual 58, 3) := by decide +kernel
theorem d59_6 : decode (mCode 59) 6 = .ok (.istore_n 3, 1) := by decide +kernel
theorem d59_7 : decode (mCode 59) 7 = .ok (.aload_n 0, 1) := by decide +kernel
theorem d59_8 : decode (mCode 59) 8 = .ok (.iload_n 2, 1) := by decide +kernel
theorem d59_9 : decode (mCode 59) 9 = .ok (.iload_n 1, 1) := by decide +kernel
theorem d59_10 : decode (mCode 59) 10 = .ok (.invokevirtual 58, 3) := by decide +kernel
theorem d59_13 : decode (mCode 59) 13 = .ok (.istore 4, 2) := by decide +kernel
theorem d59_15 : decode (mCode 59) 15 = .ok (.aload_n 0, 1) := by decide +kernel
theorem d59_16 : decode (mCode 59) 16 = .ok (.iload_n 1, 1) := by decide +kernel
theorem d59_17 : decode (mCode 59) 17 = .ok (.iload_n 2, 1) := by decide +kernel
theorem d59_18 : decode (mCode 59) 18 = .ok (.iload_n 3, 1) := by decide +kernel
theorem d59_19 : decode (mCode 59) 19 = .ok (.invokevirtual 83, 3) := by decide +kernel
theorem d59_22 : decode (mCode 59) 22 = .ok (.aload_n 0, 1) := by decide +kernel
theorem d59_23 : decode (mCode 59) 23 = .ok (.iload_n 2, 1) := by decide +kernel
theorem d59_24 : decode (mCode 59) 24 = .ok (.iload_n 1, 1) := by decide +kernel
theorem d59_25 : decode (mCode 59) 25 = .ok (.iload 4, 2) := by decide +kernel
theorem d59_27 : decode (mCode 59) 27 = .ok (.invokevirtual 83, 3) := by decide +kernel
theorem d59_30 : decode (mCode 59) 30 = .ok (.aload_n 0, 1) := by decide +kernel
theorem d59_31 : decode (mCode 59) 31 = .ok (.iload_n 1, 1) := by decide +kernel
theorem d59_32 : decode (mCode 59) 32 = .ok (.iload 4, 2) := by decide +kernel
theorem d59_34 : decode (mCode 59) 34 = .ok (.iload_n 3, 1) := by decide +kernel
theorem d59_35 : decode (mCode 59) 35 = .ok (.invokevirtual 87, 3) := by decide +kernel
theorem d59_38 : decode (mCode 59) 38 = .ok (.aload_n 0, 1) := by decide +kernel
theorem d59_39 : decode (mCode 59) 39 = .ok (.iload 4, 2) := by decide +kernel
theorem d59_41 : decode (mCode 59) 41 = .ok (.iload_n 2, 1) := by decide +kernel
theorem d59_42 : decode (mCode 59) 42 = .ok (.iload_n 3, 1) := by decide +kernel
theorem d59_43 : decode (mCode 59) 43 = .ok (.invokevirtual 87, 3) := by decide +kernel
theorem d59_46 : decode (mCode 59) 46 = .ok (.aload_n 0, 1) := by decide +kernel
theorem d59_47 : decode (mCode 59) 47 = .ok (.iload_n 1, 1) := by decide +kernel
theorem d59_48 : decode (mCode 59) 48 = .ok (.iload 4, 2) := by decide +kernel
theorem d59_50 : decode (mCode 59) 50 = .ok (.invokevirtual 90, 3) := by decide +kernel
theorem d59_53 : decode (mCode 59) 53 = .ok (.aload_n 0, 1) := by decide +kernel
theorem d59_54 : decode (mCode 59) 54 = .ok (.iload 4, 2) := by decide +kernel
theorem d59_56 : decode (mCode 59) 56 = .ok (.iload_n 2, 1) := by decide +kernel
theorem d59_57 : decode (mCode 59) 57 = .ok (.invokevirtual 90, 3) := by decide +kernel
theorem d59_60 : decode (mCode 59) 60 = .ok (.aload_n 0, 1) := by decide +kernel
theorem d59_61 : decode (mCode 59) 61 = .ok (.iload_n 2, 1) := by decide +kernel
theorem d59_62 : decode (mCode 59) 62 = .ok (.iload_n 3, 1) := by decide +kernel
theorem d59_63 : decode (mCode 59) 63 = .ok (.invokevirtual 90, 3) := by decide +kernel
theorem d59_66 : decode (mCode 59) 66 = .ok (.aload_n 0, 1) := by decide +kernel
theorem d59_67 : decode (mCode 59) 67 = .ok (.iload_n 3, 1) := by decide +kernel
theorem d59_68 : decode (mCode 59) 68 = .ok (.iload_n 1, 1) := by decide +kernel
theorem d59_69 : decode (mCode 59) 69 = .ok (.invokevirtual 90, 3) := by decide +kernel
theorem d59_72 : decode (mCode 59) 72 = .ok (.return_, 1) := by decide +kernel
theorem d60_0 : decode (mCode 60) 0 = .ok (.aload_n 0, 1) := by decide +kernel
theorem d60_1 : decode (mCode 60) 1 = .ok (.iconst 0, 1) := by decide +kernel
theorem d60_2 : decode (mCode 60) 2 = .ok (.putfield 42, 3) := by decide +kernel
theorem d60_5 : decode (mCode 60) 5 = .ok (.iconst 0, 1) := by decide +kernel
theorem d60_6 : decode (mCode 60) 6 = .ok (.istore_n 1, 1) := by decide +kernel
theorem d60_7 : decode (mCode 60) 7 = .ok (.iload_n 1, 1) := by decide +kernel
theorem d60_8 : decode (mCode 60) 8 = .ok (.aload_n 0, 1) := by decide +kernel
theorem d60_9 : decode (mCode 60) 9 = .ok (.getfield 28, 3) := by decide +kernel
theorem d60_12 : decode (mCode 60) 12 = .ok (.invokevirtual 46, 3) := by decide +kernel
theorem d60_15 : decode (mCode 60) 15 = .ok (.if_icmp .ge 52, 3) := by decide +kernel
theorem d60_18 : decode (mCode 60) 18 = .ok (.iload_n 1, 1) := by decide +kernel
theorem d60_19 : decode (mCode 60) 19 = .ok (.iconst 1, 1) := by decide +kernel
theorem d60_20 : decode (mCode 60) 20 = .ok (.iadd, 1) := by decide +kernel
theorem d60_21 : decode (mCode 60) 21 = .ok (.istore_n 2, 1) := by decide +kernel
theorem d60_22 : decode (mCode 60) 22 = .ok (.iload_n 2, 1) := by decide +kernel
theorem d60_23 : decode (mCode 60) 23 = .ok (.aload_n 0, 1) := by decide +kernel
theorem d60_24 : decode (mCode 60) 24 = .ok (.getfield 28, 3) := by decide +kernel
theorem d60_27 : decode (mCode 60) 27 = .ok (.invokevirtual 46, 3) := by decide +kernel
theorem d60_30 : decode (mCode 60) 30 = .ok (.if_icmp .ge 31, 3) := by decide +kernel
theorem d60_33 : decode (mCode 60) 33 = .ok (.aload_n 0, 1) := by decide +kernel
theorem d60_34 : decode (mCode 60) 34 = .ok (.iload_n 1, 1) := by decide +kernel
theorem d60_35 : decode (mCode 60) 35 = .ok (.iload_n 2, 1) := by decide +kernel
theorem d60_36 : decode (mCode 60) 36 = .ok (.invokevirtual 58, 3) := by decide +kernel
theorem d60_39 : decode (mCode 60) 39 = .ok (.iload_n 1, 1) := by decide +kernel
theorem d60_40 : decode (mCode 60) 40 = .ok (.if_icmp .le 15, 3) := by decide +kernel
theorem d60_43 : decode (mCode 60) 43 = .ok (.aload_n 0, 1) := by decide +kernel
theorem d60_44 : decode (mCode 60) 44 = .ok (.iload_n 1, 1) := by decide +kernel
theorem d60_45 : decode (mCode 60) 45 = .ok (.iload_n 2, 1) := by decide +kernel
theorem d60_46 : decode (mCode 60) 46 = .ok (.aload_n 0, 1) := by decide +kernel
theorem d60_47 : decode (mCode 60) 47 = .ok (.iload_n 1, 1) := by decide +kernel
theorem d60_48 : decode (mCode 60) 48 = .ok (.iload_n 2, 1) := by decide +kernel
theorem d60_49 : decode (mCode 60) 49 = .ok (.invokevirtual 58, 3) := by decide +kernel
theorem d60_52 : decode (mCode 60) 52 = .ok (.invokevirtual 121, 3) := by decide +kernel
theorem d60_55 : decode (mCode 60) 55 = .ok (.iinc 2 1, 3) := by decide +kernel
theorem d60_58 : decode (mCode 60) 58 = .ok (.goto (-36), 3) := by decide +kernel
theorem d60_61 : decode (mCode 60) 61 = .ok (.iinc 1 1, 3) := by decide +kernel
theorem d60_64 : decode (mCode 60) 64 = .ok (.goto (-57), 3) := by decide +kernel
theorem d60_67 : decode (mCode 60) 67 = .ok (.return_, 1) := by decide +kernel
theorem d61_0 : decode (mCode 61) 0 = .ok (.aload_n 0, 1) := by decide +kernel
theorem d61_1 : decode (mCode 61) 1 = .ok (.getfield 15, 3) := by decide +kernel
theorem d61_4 : decode (mCode 61) 4 = .ok (.iload_n 1, 1) := by decide +kernel
theorem d61_5 : decode (mCode 61) 5 = .ok (.iload_n 2, 1) := by decide +kernel
theorem d61_6 : decode (mCode 61) 6 = .ok (.invokestatic 54, 3) := by decide +kernel
theorem d61_9 : decode (mCode 61) 9 = .ok (.aload_n 0, 1) := by decide +kernel
theorem d61_10 : decode (mCode 61) 10 = .ok (.getfield 42, 3) := by decide +kernel
theorem d61_13 : decode (mCode 61) 13 = .ok (.iastore, 1) := by decide +kernel
theorem d61_14 : decode (mCode 61) 14 = .ok (.aload_n 0, 1) := by decide +kernel
theorem d61_15 : decode (mCode 61) 15 = .ok (.getfield 15, 3) := by decide +kernel
theorem d61_18 : decode (mCode 61) 18 = .ok (.iload_n 2, 1) := by decide +kernel
theorem d61_19 : decode (mCode 61) 19 = .ok (.iload_n 3, 1) := by decide +kernel
theorem d61_20 : decode (mCode 61) 20 = .ok (.invokestatic 54, 3) := by decide +kernel
theorem d61_23 : decode (mCode 61) 23 = .ok (.aload_n 0, 1) := by decide +kernel
theorem d61_24 : decode (mCode 61) 24 = .ok (.getfield 42, 3) := by decide +kernel
theorem d61_27 : decode (mCode 61) 27 = .ok (.iastore, 1) := by decide +kernel
theorem d61_28 : decode (mCode 61) 28 = .ok (.aload_n 0, 1) := by decide +kernel
theorem d61_29 : decode (mCode 61) 29 = .ok (.getfield 15, 3) := by decide +kernel
theorem d61_32 : decode (mCode 61) 32 = .ok (.iload_n 3, 1) := by decide +kernel
theorem d61_33 : decode (mCode 61) 33 = .ok (.iload_n 1, 1) := by decide +kernel
theorem d61_34 : decode (mCode 61) 34 = .ok (.invokestatic 54, 3) := by decide +kernel
theorem d61_37 : decode (mCode 61) 37 = .ok (.aload_n 0, 1) := by decide +kernel
theorem d61_38 : decode (mCode 61) 38 = .ok (.getfield 42, 3) := by decide +kernel
theorem d61_41 : decode (mCode 61) 41 = .ok (.iastore, 1) := by decide +kernel
theorem d61_42 : decode (mCode 61) 42 = .ok (.aload_n 0, 1) := by decide +kernel
theorem d61_43 : decode (mCode 61) 43 = .ok (.getfield 18, 3) := by decide +kernel
theorem d61_46 : decode (mCode 61) 46 = .ok (.iconst 3, 1) := by decide +kernel
theorem d61_47 : decode (mCode 61) 47 = .ok (.aload_n 0, 1) := by decide +kernel
theorem d61_48 : decode (mCode 61) 48 = .ok (.getfield 42, 3) := by decide +kernel
theorem d61_51 : decode (mCode 61) 51 = .ok (.imul, 1) := by decide +kernel
theorem d61_52 : decode (mCode 61) 52 = .ok (.iload_n 1, 1) := by decide +kernel
theorem d61_53 : decode (mCode 61) 53 = .ok (.iastore, 1) := by decide +kernel
theorem d61_54 : decode (mCode 61) 54 = .ok (.aload_n 0, 1) := by decide +kernel
theorem d61_55 : decode (mCode 61) 55 = .ok (.getfield 18, 3) := by decide +kernel
theorem d61_58 : decode (mCode 61) 58 = .ok (.iconst 3, 1) := by decide +kernel
theorem d61_59 : decode (mCode 61) 59 = .ok (.aload_n 0, 1) := by decide +kernel
theorem d61_60 : decode (mCode 61) 60 = .ok (.getfield 42, 3) := by decide +kernel
theorem d61_63 : decode (mCode 61) 63 = .ok (.imul, 1) := by decide +kernel
theorem d61_64 : decode (mCode 61) 64 = .ok (.iconst 1, 1) := by decide +kernel
theorem d61_65 : decode (mCode 61) 65 = .ok (.iadd, 1) := by decide +kernel
theorem d61_66 : decode (mCode 61) 66 = .ok (.iload_n 2, 1) := by decide +kernel
theorem d61_67 : decode (mCode 61) 67 = .ok (.iastore, 1) := by decide +kernel
theorem d61_68 : decode (mCode 61) 68 = .ok (.aload_n 0, 1) := by decide +kernel
theorem d61_69 : decode (mCode 61) 69 = .ok (.getfield 18, 3) := by decide +kernel
theorem d61_72 : decode (mCode 61) 72 = .ok (.iconst 3, 1) := by decide +kernel
theorem d61_73 : decode (mCode 61) 73 = .ok (.aload_n 0, 1) := by decide +kernel
theorem d61_74 : decode (mCode 61) 74 = .ok (.getfield 42, 3) := by decide +kernel
theorem d61_77 : decode (mCode 61) 77 = .ok (.imul, 1) := by decide +kernel
theorem d61_78 : decode (mCode 61) 78 = .ok (.iconst 2, 1) := by decide +kernel
theorem d61_79 : decode (mCode 61) 79 = .ok (.iadd, 1) := by decide +kernel
theorem d61_80 : decode (mCode 61) 80 = .ok (.iload_n 3, 1) := by decide +kernel
theorem d61_81 : decode (mCode 61) 81 = .ok (.iastore, 1) := by decide +kernel
theorem d61_82 : decode (mCode 61) 82 = .ok (.aload_n 0, 1) := by decide +kernel
theorem d61_83 : decode (mCode 61) 83 = .ok (.dup, 1) := by decide +kernel
theorem d61_84 : decode (mCode 61) 84 = .ok (.getfield 42, 3) := by decide +kernel
theorem d61_87 : decode (mCode 61) 87 = .ok (.iconst 1, 1) := by decide +kernel
theorem d61_88 : decode (mCode 61) 88 = .ok (.iadd, 1) := by decide +kernel
theorem d61_89 : decode (mCode 61) 89 = .ok (.putfield 42, 3) := by decide +kernel
theorem d61_92 : decode (mCode 61) 92 = .ok (.return_, 1) := by decide +kernel
theorem d62_0 : decode (mCode 62) 0 = .ok (.aload_n 0, 1) := by decide +kernel
theorem d62_1 : decode (mCode 62) 1 = .ok (.iload_n 1, 1) := by decide +kernel
theorem d62_2 : decode (mCode 62) 2 = .ok (.iload_n 2, 1) := by decide +kernel
theorem d62_3 : decode (mCode 62) 3 = .ok (.invokevirtual 58, 3) := by decide +kernel
theorem d62_6 : decode (mCode 62) 6 = .ok (.iconst (-1), 1) := by decide +kernel
theorem d62_7 : decode (mCode 62) 7 = .ok (.if_icmp .ne 13, 3) := by decide +kernel
theorem d62_10 : decode (mCode 62) 10 = .ok (.aload_n 0, 1) := by decide +kernel
theorem d62_11 : decode (mCode 62) 11 = .ok (.iload_n 2, 1) := by decide +kernel
theorem d62_12 : decode (mCode 62) 12 = .ok (.iload_n 1, 1) := by decide +kernel
theorem d62_13 : decode (mCode 62) 13 = .ok (.invokevirtual 58, 3) := by decide +kernel
theorem d62_16 : decode (mCode 62) 16 = .ok (.iconst (-1), 1) := by decide +kernel
theorem d62_17 : decode (mCode 62) 17 = .ok (.if_icmp .eq 7, 3) := by decide +kernel
theorem d62_20 : decode (mCode 62) 20 = .ok (.iconst 1, 1) := by decide +kernel
theorem d62_21 : decode (mCode 62) 21 = .ok (.goto 4, 3) := by decide +kernel
theorem d62_24 : decode (mCode 62) 24 = .ok (.iconst 0, 1) := by decide +kernel
theorem d62_25 : decode (mCode 62) 25 = .ok (.ireturn, 1) := by decide +kernel
theorem d63_0 : decode (mCode 63) 0 = .ok (.aload_n 0, 1) := by decide +kernel
theorem d63_1 : decode (mCode 63) 1 = .ok (.iload_n 1, 1) := by decide +kernel
theorem d63_2 : decode (mCode 63) 2 = .ok (.iload_n 2, 1) := by decide +kernel
theorem d63_3 : decode (mCode 63) 3 = .ok (.invokevirtual 61, 3) := by decide +kernel
theorem d63_6 : decode (mCode 63) 6 = .ok (.istore_n 3, 1) := by decide +kernel
theorem d63_7 : decode (mCode 63) 7 = .ok (.aload_n 0, 1) := by decide +kernel
theorem d63_8 : decode (mCode 63) 8 = .ok (.iload_n 1, 1) := by decide +kernel
theorem d63_9 : decode (mCode 63) 9 = .ok (.iload_n 2, 1) := by decide +kernel
theorem d63_10 : decode (mCode 63) 10 = .ok (.invokevirtual 64, 3) := by decide +kernel
theorem d63_13 : decode (mCode 63) 13 = .ok (.istore 4, 2) := by decide +kernel
theorem d63_15 : decode (mCode 63) 15 = .ok (.aload_n 0, 1) := by decide +kernel
theorem d63_16 : decode (mCode 63) 16 = .ok (.iload 4, 2) := by decide +kernel
theorem d63_18 : decode (mCode 63) 18 = .ok (.iload_n 3, 1) := by decide +kernel
theorem d63_19 : decode (mCode 63) 19 = .ok (.invokevirtual 58, 3) := by decide +kernel
theorem d63_22 : decode (mCode 63) 22 = .ok (.iconst (-1), 1) := by decide +kernel
theorem d63_23 : decode (mCode 63) 23 = .ok (.if_icmp .ne 7, 3) := by decide +kernel
theorem d63_26 : decode (mCode 63) 26 = .ok (.iconst (-1), 1) := by decide +kernel
theorem d63_27 : decode (mCode 63) 27 = .ok (.goto 14, 3) := by decide +kernel
theorem d63_30 : decode (mCode 63) 30 = .ok (.aload_n 0, 1) := by decide +kernel
theorem d63_31 : decode (mCode 63) 31 = .ok (.getfield 15, 3) := by decide +kernel
theorem d63_34 : decode (mCode 63) 34 = .ok (.iload 4, 2) := by decide +kernel
theorem d63_36 : decode (mCode 63) 36 = .ok (.iload_n 3, 1) := by decide +kernel
theorem d63_37 : decode (mCode 63) 37 = .ok (.invokestatic 54, 3) := by decide +kernel
theorem d63_40 : decode (mCode 63) 40 = .ok (.iaload, 1) := by decide +kernel
theorem d63_41 : decode (mCode 63) 41 = .ok (.ireturn, 1) := by decide +kernel
theorem d64_0 : decode (mCode 64) 0 = .ok (.aload_n 0, 1) := by decide +kernel
theorem d64_1 : decode (mCode 64) 1 = .ok (.getfield 32, 3) := by decide +kernel
theorem d64_4 : decode (mCode 64) 4 = .ok (.aload_n 0, 1) := by decide +kernel
theorem d64_5 : decode (mCode 64) 5 = .ok (.iload_n 1, 1) := by decide +kernel
theorem d64_6 : decode (mCode 64) 6 = .ok (.iload_n 2, 1) := by decide +kernel
theorem d64_7 : decode (mCode 64) 7 = .ok (.invokevirtual 61, 3) := by decide +kernel
theorem d64_10 : decode (mCode 64) 10 = .ok (.aload_n 0, 1) := by decide +kernel
theorem d64_11 : decode (mCode 64) 11 = .ok (.iload_n 1, 1) := by decide +kernel
theorem d64_12 : decode (mCode 64) 12 = .ok (.iload_n 2, 1) := by decide +kernel
theorem d64_13 : decode (mCode 64) 13 = .ok (.invokevirtual 64, 3) := by decide +kernel
theorem d64_16 : decode (mCode 64) 16 = .ok (.invokevirtual 67, 3) := by decide +kernel
theorem d64_19 : decode (mCode 64) 19 = .ok (.istore_n 3, 1) := by decide +kernel
theorem d64_20 : decode (mCode 64) 20 = .ok (.iload_n 3, 1) := by decide +kernel
theorem d64_21 : decode (mCode 64) 21 = .ok (.ifCond .eq 7, 3) := by decide +kernel
theorem d64_24 : decode (mCode 64) 24 = .ok (.iconst (-1), 1) := by decide +kernel
theorem d64_25 : decode (mCode 64) 25 = .ok (.goto 9, 3) := by decide +kernel
theorem d64_28 : decode (mCode 64) 28 = .ok (.aload_n 0, 1) := by decide +kernel
theorem d64_29 : decode (mCode 64) 29 = .ok (.iload_n 1, 1) := by decide +kernel
theorem d64_30 : decode (mCode 64) 30 = .ok (.iload_n 2, 1) := by decide +kernel
theorem d64_31 : decode (mCode 64) 31 = .ok (.invokevirtual 73, 3) := by decide +kernel
theorem d64_34 : decode (mCode 64) 34 = .ok (.ireturn, 1) := by decide +kernel
theorem d67_0 : decode (mCode 67) 0 = .ok (.aload_n 0, 1) := by decide +kernel
theorem d67_1 : decode (mCode 67) 1 = .ok (.iconst 0, 1) := by decide +kernel
theorem d67_2 : decode (mCode 67) 2 = .ok (.putfield 25, 3) := by decide +kernel
theorem d67_5 : decode (mCode 67) 5 = .ok (.return_, 1) := by decide +kernel
theorem d68_0 : decode (mCode 68) 0 = .ok (.aload_n 0, 1) := by decide +kernel
theorem d68_1 : decode (mCode 68) 1 = .ok (.getfield 9, 3) := by decide +kernel
theorem d68_4 : decode (mCode 68) 4 = .ok (.iload_n 1, 1) := by decide +kernel
theorem d68_5 : decode (mCode 68) 5 = .ok (.iload_n 2, 1) := by decide +kernel
theorem d68_6 : decode (mCode 68) 6 = .ok (.iastore, 1) := by decide +kernel
theorem d68_7 : decode (mCode 68) 7 = .ok (.aload_n 0, 1) := by decide +kernel
theorem d68_8 : decode (mCode 68) 8 = .ok (.getfield 15, 3) := by decide +kernel
theorem d68_11 : decode (mCode 68) 11 = .ok (.iload_n 1, 1) := by decide +kernel
theorem d68_12 : decode (mCode 68) 12 = .ok (.iload_n 3, 1) := by decide +kernel
theorem d68_13 : decode (mCode 68) 13 = .ok (.iastore, 1) := by decide +kernel
theorem d68_14 : decode (mCode 68) 14 = .ok (.return_, 1) := by decide +kernel
theorem d72_0 : decode (mCode 72) 0 = .ok (.aload_n 0, 1) := by decide +kernel
theorem d72_1 : decode (mCode 72) 1 = .ok (.dup, 1) := by decide +kernel
theorem d72_2 : decode (mCode 72) 2 = .ok (.getfield 25, 3) := by decide +kernel
theorem d72_5 : decode (mCode 72) 5 = .ok (.iconst 1, 1) := by decide +kernel
theorem d72_6 : decode (mCode 72) 6 = .ok (.iadd, 1) := by decide +kernel
theorem d72_7 : decode (mCode 72) 7 = .ok (.putfield 25, 3) := by decide +kernel
theorem d72_10 : decode (mCode 72) 10 = .ok (.return_, 1) := by decide +kernel
theorem d92_0 : decode (mCode 92) 0 = .ok (.aload_n 0, 1) := by decide +kernel
theorem d92_1 : decode (mCode 92) 1 = .ok (.getfield 22, 3) := by decide +kernel
theorem d92_4 : decode (mCode 92) 4 = .ok (.invokevirtual 54, 3) := by decide +kernel
theorem d92_7 : decode (mCode 92) 7 = .ok (.istore_n 1, 1) := by decide +kernel
theorem d92_8 : decode (mCode 92) 8 = .ok (.aload_n 0, 1) := by decide +kernel
theorem d92_9 : decode (mCode 92) 9 = .ok (.getfield 22, 3) := by decide +kernel
theorem d92_12 : decode (mCode 92) 12 = .ok (.invokevirtual 109, 3) := by decide +kernel
theorem d92_15 : decode (mCode 92) 15 = .ok (.aload_n 0, 1) := by decide +kernel
theorem d92_16 : decode (mCode 92) 16 = .ok (.getfield 26, 3) := by decide +kernel
theorem d92_19 : decode (mCode 92) 19 = .ok (.invokevirtual 112, 3) := by decide +kernel
theorem d92_22 : decode (mCode 92) 22 = .ok (.aload_n 0, 1) := by decide +kernel
theorem d92_23 : decode (mCode 92) 23 = .ok (.getfield 30, 3) := by decide +kernel
theorem d92_26 : decode (mCode 92) 26 = .ok (.invokevirtual 113, 3) := by decide +kernel
theorem d92_29 : decode (mCode 92) 29 = .ok (.iload_n 1, 1) := by decide +kernel
theorem d92_30 : decode (mCode 92) 30 = .ok (.ireturn, 1) := by decide +kernel
theorem d93_0 : decode (mCode 93) 0 = .ok (.iload_n 1, 1) := by decide +kernel
theorem d93_1 : decode (mCode 93) 1 = .ok (.tableswitch 75 0 4 #[35, 43, 51, 59, 67], 35) := by decide +kernel
theorem d93_36 : decode (mCode 93) 36 = .ok (.aload_n 0, 1) := by decide +kernel
theorem d93_37 : decode (mCode 93) 37 = .ok (.getfield 22, 3) := by decide +kernel
theorem d93_40 : decode (mCode 93) 40 = .ok (.invokevirtual 54, 3) := by decide +kernel
theorem d93_43 : decode (mCode 93) 43 = .ok (.ireturn, 1) := by decide +kernel
theorem d93_44 : decode (mCode 93) 44 = .ok (.aload_n 0, 1) := by decide +kernel
theorem d93_45 : decode (mCode 93) 45 = .ok (.getfield 26, 3) := by decide +kernel
theorem d93_48 : decode (mCode 93) 48 = .ok (.invokevirtual 114, 3) := by decide +kernel
theorem d93_51 : decode (mCode 93) 51 = .ok (.ireturn, 1) := by decide +kernel
theorem d93_52 : decode (mCode 93) 52 = .ok (.aload_n 0, 1) := by decide +kernel
theorem d93_53 : decode (mCode 93) 53 = .ok (.getfield 30, 3) := by decide +kernel
theorem d93_56 : decode (mCode 93) 56 = .ok (.invokevirtual 115, 3) := by decide +kernel
theorem d93_59 : decode (mCode 93) 59 = .ok (.ireturn, 1) := by decide +kernel
theorem d93_60 : decode (mCode 93) 60 = .ok (.aload_n 0, 1) := by decide +kernel
theorem d93_61 : decode (mCode 93) 61 = .ok (.getfield 30, 3) := by decide +kernel
theorem d93_64 : decode (mCode 93) 64 = .ok (.invokevirtual 116, 3) := by decide +kernel
theorem d93_67 : decode (mCode 93) 67 = .ok (.ireturn, 1) := by decide +kernel
theorem d93_68 : decode (mCode 93) 68 = .ok (.aload_n 0, 1) := by decide +kernel
theorem d93_69 : decode (mCode 93) 69 = .ok (.getfield 30, 3) := by decide +kernel
theorem d93_72 : decode (mCode 93) 72 = .ok (.invokevirtual 119, 3) := by decide +kernel
theorem d93_75 : decode (mCode 93) 75 = .ok (.ireturn, 1) := by decide +kernel
theorem d93_76 : decode (mCode 93) 76 = .ok (.iconst (-1), 1) := by decide +kernel
theorem d93_77 : decode (mCode 93) 77 = .ok (.ireturn, 1) := by decide +kernel
theorem d99_0 : decode (mCode 99) 0 = .ok (.iload_n 0, 1) := by decide +kernel
theorem d99_1 : decode (mCode 99) 1 = .ok (.bipush 40, 2) := by decide +kernel
theorem d99_3 : decode (mCode 99) 3 = .ok (.imul, 1) := by decide +kernel
theorem d99_4 : decode (mCode 99) 4 = .ok (.iload_n 1, 1) := by decide +kernel
theorem d99_5 : decode (mCode 99) 5 = .ok (.iadd, 1) := by decide +kernel
theorem d99_6 : decode (mCode 99) 6 = .ok (.ireturn, 1) := by decide +kernel
def f68 (v1 : Int32) (v2 : Int32) (v3 : Int32) (s : mS) : Option (mS) :=
  rdI 42 v1 (pt (uA 18 (upd (s.1 18) (Int32.toNatClampNeg v1) v2) s) fun s2 => rdI 42 v1 (pt (uA 19 (upd (s2.1 19) (Int32.toNatClampNeg v1) v3) s2) fun s5 => some s5))
theorem t_f68 {S : mE} {ex : mHp} {v1 : Int32} {v2 : Int32} {v3 : Int32} {s : mS} {r : mS} (h : f68 v1 v2 v3 s = some r) : Run S 68 (0, [(0, .ref 17), (1, .int v1), (2, .int v2), (3, .int v3)], [], hp s ex) (.inl none, hp r ex) := by
  unfold f68 at h
  refine R_p d68_0 rfl rfl ?_
  refine R_get d68_1 (Or.inl (List.mem_of_getElem? (i := 3) rfl)) (hg17 _ _) rfl ?_
  refine R_p d68_4 rfl rfl ?_
  refine R_p d68_5 rfl rfl ?_
  obtain ⟨c1, h⟩ := rdI_some h
  obtain ⟨s2, e3, h⟩ := pt_some h
  refine R_ist d68_6 (hg18 _ _) c1 ?_
  refine R_h (hp s2 ex) (by rw [e3]; exact hA18 _ _ _) ?_
  refine R_p d68_7 rfl rfl ?_
  refine R_get d68_8 (Or.inl (List.mem_of_getElem? (i := 4) rfl)) (hg17 _ _) rfl ?_
  refine R_p d68_11 rfl rfl ?_
  refine R_p d68_12 rfl rfl ?_
  obtain ⟨c4, h⟩ := rdI_some h
  obtain ⟨s5, e6, h⟩ := pt_some h
  refine R_ist d68_13 (hg19 _ _) c4 ?_
  refine R_h (hp s5 ex) (by rw [e6]; exact hA19 _ _ _) ?_
  cases h
  exact R_vret d68_14 rfl rfl
def f72  (s : mS) : Option (mS) :=
  pt (uF 0 ((s.2.2.1 0) + (1 : Int32)) s) fun s1 => some s1
theorem t_f72 {S : mE} {ex : mHp}  {s : mS} {r : mS} (h : f72 s = some r) : Run S 72 (0, [(0, .ref 17)], [], hp s ex) (.inl none, hp r ex) := by
  unfold f72 at h
  refine R_p d72_0 rfl rfl ?_
  refine R_p d72_1 rfl rfl ?_
  refine R_get d72_2 (Or.inl (List.mem_of_getElem? (i := 6) rfl)) (hg17 _ _) rfl ?_
  refine R_ic (v := 1) d72_5 (by decide) ?_
  refine R_p d72_6 rfl rfl ?_
  obtain ⟨s1, e2, h⟩ := pt_some h
  refine R_put d72_7 (List.mem_of_getElem? (i := 6) rfl) (hg17 _ _) (Nat.le_of_ble_eq_true rfl) rfl rfl (Or.inl rfl) ?_
  refine R_h (hp s1 ex) (by rw [e2]; exact hF0 _ _ _) ?_
  cases h
  exact R_vret d72_10 rfl rfl
def f67  (s : mS) : Option (mS) :=
  pt (uF 0 (0 : Int32) s) fun s1 => some s1
theorem t_f67 {S : mE} {ex : mHp}  {s : mS} {r : mS} (h : f67 s = some r) : Run S 67 (0, [(0, .ref 17)], [], hp s ex) (.inl none, hp r ex) := by
  unfold f67 at h
  refine R_p d67_0 rfl rfl ?_
  refine R_ic (v := 0) d67_1 (by decide) ?_
  obtain ⟨s1, e2, h⟩ := pt_some h
  refine R_put d67_2 (List.mem_of_getElem? (i := 6) rfl) (hg17 _ _) (Nat.le_of_ble_eq_true rfl) rfl rfl (Or.inl rfl) ?_
  refine R_h (hp s1 ex) (by rw [e2]; exact hF0 _ _ _) ?_
  cases h
  exact R_vret d67_5 rfl rfl
def f37  (s : mS) : Option (Int32) :=
  some (s.2.2.1 1)
theorem t_f37 {S : mE} {ex : mHp}  {s : mS} {r : Int32} (h : f37 s = some r) : Run S 37 (0, [(0, .ref 21)], [], hp s ex) (.inl (some (.int r)), hp s ex) := by
  unfold f37 at h
  refine R_p d37_0 rfl rfl ?_
  refine R_get d37_1 (Or.inl (List.mem_of_getElem? (i := 9) rfl)) (hg21 _ _) rfl ?_
  cases h
  exact R_iret d37_4 rfl rfl rfl
def f42 (v1 : Int32) (v2 : Int32) (s : mS) : Option (mS) :=
  rdI 40 v1 (rdI 40 v1 (pt (uJ 22 (vp_updL (s.2.1 22) (Int32.toNatClampNeg v1) ((s.2.1 22 (Int32.toNatClampNeg v1)) ||| ((1 : Int64) <<< (Int32.toInt64 v2 &&& 63)))) s) fun s3 => rdI 40 v2 (rdI 40 v2 (pt (uJ 22 (vp_updL (s3.2.1 22) (Int32.toNatClampNeg v2) ((s3.2.1 22 (Int32.toNatClampNeg v2)) ||| ((1 : Int64) <<< (Int32.toInt64 v1 &&& 63)))) s3) fun s7 => pt (uF 1 ((s7.2.2.1 1) + (1 : Int32)) s7) fun s9 => some s9))))
theorem t_f42 {S : mE} {ex : mHp} {v1 : Int32} {v2 : Int32} {s : mS} {r : mS} (h : f42 v1 v2 s = some r) : Run S 42 (0, [(0, .ref 21), (1, .int v1), (2, .int v2)], [], hp s ex) (.inl none, hp r ex) := by
  unfold f42 at h
  refine R_p d42_0 rfl rfl ?_
  refine R_get d42_1 (Or.inl (List.mem_of_getElem? (i := 8) rfl)) (hg21 _ _) rfl ?_
  refine R_p d42_4 rfl rfl ?_
  refine R_p d42_5 rfl rfl ?_
  obtain ⟨c1, h⟩ := rdI_some h
  refine R_lld d42_6 (hg22 _ _) c1 ?_
  refine R_lc (v := 1) d42_7 (by decide) ?_
  refine R_p d42_8 rfl rfl ?_
  refine R_p d42_9 rfl rfl ?_
  refine R_p d42_10 rfl rfl ?_
  obtain ⟨c2, h⟩ := rdI_some h
  obtain ⟨s3, e4, h⟩ := pt_some h
  refine R_lst d42_11 (hg22 _ _) c2 ?_
  refine R_h (hp s3 ex) (by rw [e4]; exact hA22 _ _ _) ?_
  refine R_p d42_12 rfl rfl ?_
  refine R_get d42_13 (Or.inl (List.mem_of_getElem? (i := 8) rfl)) (hg21 _ _) rfl ?_
  refine R_p d42_16 rfl rfl ?_
  refine R_p d42_17 rfl rfl ?_
  obtain ⟨c5, h⟩ := rdI_some h
  refine R_lld d42_18 (hg22 _ _) c5 ?_
  refine R_lc (v := 1) d42_19 (by decide) ?_
  refine R_p d42_20 rfl rfl ?_
  refine R_p d42_21 rfl rfl ?_
  refine R_p d42_22 rfl rfl ?_
  obtain ⟨c6, h⟩ := rdI_some h
  obtain ⟨s7, e8, h⟩ := pt_some h
  refine R_lst d42_23 (hg22 _ _) c6 ?_
  refine R_h (hp s7 ex) (by rw [e8]; exact hA22 _ _ _) ?_
  refine R_p d42_24 rfl rfl ?_
  refine R_p d42_25 rfl rfl ?_
  refine R_get d42_26 (Or.inl (List.mem_of_getElem? (i := 9) rfl)) (hg21 _ _) rfl ?_
  refine R_ic (v := 1) d42_29 (by decide) ?_
  refine R_p d42_30 rfl rfl ?_
  obtain ⟨s9, e10, h⟩ := pt_some h
  refine R_put d42_31 (List.mem_of_getElem? (i := 9) rfl) (hg21 _ _) (Nat.le_of_ble_eq_true rfl) rfl rfl (Or.inl rfl) ?_
  refine R_h (hp s9 ex) (by rw [e10]; exact hF1 _ _ _) ?_
  cases h
  exact R_vret d42_34 rfl rfl
def f43 (v1 : Int32) (v2 : Int32) (s : mS) : Option (mS) :=
  rdI 40 v1 (rdI 40 v1 (pt (uJ 22 (vp_updL (s.2.1 22) (Int32.toNatClampNeg v1) ((s.2.1 22 (Int32.toNatClampNeg v1)) &&& (((1 : Int64) <<< (Int32.toInt64 v2 &&& 63)) ^^^ (-1 : Int64)))) s) fun s3 => rdI 40 v2 (rdI 40 v2 (pt (uJ 22 (vp_updL (s3.2.1 22) (Int32.toNatClampNeg v2) ((s3.2.1 22 (Int32.toNatClampNeg v2)) &&& (((1 : Int64) <<< (Int32.toInt64 v1 &&& 63)) ^^^ (-1 : Int64)))) s3) fun s7 => pt (uF 1 ((s7.2.2.1 1) - (1 : Int32)) s7) fun s9 => some s9))))
theorem t_f43 {S : mE} {ex : mHp} {v1 : Int32} {v2 : Int32} {s : mS} {r : mS} (h : f43 v1 v2 s = some r) : Run S 43 (0, [(0, .ref 21), (1, .int v1), (2, .int v2)], [], hp s ex) (.inl none, hp r ex) := by
  unfold f43 at h
  refine R_p d43_0 rfl rfl ?_
  refine R_get d43_1 (Or.inl (List.mem_of_getElem? (i := 8) rfl)) (hg21 _ _) rfl ?_
  refine R_p d43_4 rfl rfl ?_
  refine R_p d43_5 rfl rfl ?_
  obtain ⟨c1, h⟩ := rdI_some h
  refine R_lld d43_6 (hg22 _ _) c1 ?_
  refine R_lc (v := 1) d43_7 (by decide) ?_
  refine R_p d43_8 rfl rfl ?_
  refine R_p d43_9 rfl rfl ?_
  refine R_cl (v := (-1)) 702 d43_10 (List.mem_of_getElem? (i := 2) rfl) ?_
  refine R_p d43_13 rfl rfl ?_
  refine R_p d43_14 rfl rfl ?_
  obtain ⟨c2, h⟩ := rdI_some h
  obtain ⟨s3, e4, h⟩ := pt_some h
  refine R_lst d43_15 (hg22 _ _) c2 ?_
  refine R_h (hp s3 ex) (by rw [e4]; exact hA22 _ _ _) ?_
  refine R_p d43_16 rfl rfl ?_
  refine R_get d43_17 (Or.inl (List.mem_of_getElem? (i := 8) rfl)) (hg21 _ _) rfl ?_
  refine R_p d43_20 rfl rfl ?_
  refine R_p d43_21 rfl rfl ?_
  obtain ⟨c5, h⟩ := rdI_some h
  refine R_lld d43_22 (hg22 _ _) c5 ?_
  refine R_lc (v := 1) d43_23 (by decide) ?_
  refine R_p d43_24 rfl rfl ?_
  refine R_p d43_25 rfl rfl ?_
  refine R_cl (v := (-1)) 702 d43_26 (List.mem_of_getElem? (i := 2) rfl) ?_
  refine R_p d43_29 rfl rfl ?_
  refine R_p d43_30 rfl rfl ?_
  obtain ⟨c6, h⟩ := rdI_some h
  obtain ⟨s7, e8, h⟩ := pt_some h
  refine R_lst d43_31 (hg22 _ _) c6 ?_
  refine R_h (hp s7 ex) (by rw [e8]; exact hA22 _ _ _) ?_
  refine R_p d43_32 rfl rfl ?_
  refine R_p d43_33 rfl rfl ?_
  refine R_get d43_34 (Or.inl (List.mem_of_getElem? (i := 9) rfl)) (hg21 _ _) rfl ?_
  refine R_ic (v := 1) d43_37 (by decide) ?_
  refine R_p d43_38 rfl rfl ?_
  obtain ⟨s9, e10, h⟩ := pt_some h
  refine R_put d43_39 (List.mem_of_getElem? (i := 9) rfl) (hg21 _ _) (Nat.le_of_ble_eq_true rfl) rfl rfl (Or.inl rfl) ?_
  refine R_h (hp s9 ex) (by rw [e10]; exact hF1 _ _ _) ?_
  cases h
  exact R_vret d43_42 rfl rfl
def r168_22 : Nat → Int64 → Int32 → Int32 → mS → Option (mS)
  | 0, _, _, _, _ => none
  | k + 1, v1, v3, v4, s =>
    (if (v4 ≤ v3) then
        some s
      else
        rdI 40 v3 (pt (uJ 22 (vp_updL (s.2.1 22) (Int32.toNatClampNeg v3) v1) s) fun s3 => r168_22 k v1 (v3 + Int32.ofInt 1) v4 s3))
theorem s168_22 {S : mE} {ex : mHp} (k : Nat) : (∀ (v1 : Int64) (v3 : Int32) (v4 : Int32) (s : mS) (r : mS), r168_22 k v1 v3 v4 s = some r → Run S 168 (6, [(0, .ref 22), (1, .long v1), (3, .int v3), (4, .int v4)], [], hp s ex) (.inl none, hp r ex)) := by
  induction k with
  | zero => intro v1 v3 v4 s r h; cases h
  | succ k ih =>
    intro v1 v3 v4 s r h
    rw [r168_22] at h
    refine R_p d168_6 rfl rfl ?_
    refine R_p d168_7 rfl rfl ?_
    rcases ite_some h with ⟨c1, h⟩ | ⟨c1, h⟩
    · refine R_br 22 d168_9 (mb_t (b := (v4 ≤ v3)) c1) rfl ?_
      cases h
      exact R_vret d168_22 rfl rfl
    · refine R_nb d168_9 rfl (mb_f (b := (v4 ≤ v3)) c1) ?_
      refine R_p d168_12 rfl rfl ?_
      refine R_p d168_13 rfl rfl ?_
      refine R_p d168_14 rfl rfl ?_
      obtain ⟨c2, h⟩ := rdI_some h
      obtain ⟨s3, e4, h⟩ := pt_some h
      refine R_lst d168_15 (hg22 _ _) c2 ?_
      refine R_h (hp s3 ex) (by rw [e4]; exact hA22 _ _ _) ?_
      refine R_p (ls' := [(0, .ref 22), (1, .long v1), (3, .int (v3 + Int32.ofInt 1)), (4, .int v4)]) d168_16 rfl rfl ?_
      refine R_br 6 d168_19 rfl rfl ?_
      exact ih v1 (v3 + Int32.ofInt 1) v4 s3 _ h
def f168_22 (k : Nat) (v1 : Int64) (s : mS) : Option (mS) :=
  r168_22 k v1 0 (Int32.ofNat 40) s
theorem t_f168_22 {S : mE} {ex : mHp} {k : Nat} {v1 : Int64} {s : mS} {r : mS} (h : f168_22 k v1 s = some r) : Run S 168 (0, [(0, .ref 22), (1, .long v1)], [], hp s ex) (.inl none, hp r ex) := by
  unfold f168_22 at h
  refine R_ic (v := 0) d168_0 (by decide) ?_
  refine R_p (ls' := [(0, .ref 22), (1, .long v1), (3, .int 0)]) d168_1 rfl rfl ?_
  refine R_p d168_2 rfl rfl ?_
  refine R_len d168_3 (hg22 _ _) rfl ?_
  refine R_p (ls' := [(0, .ref 22), (1, .long v1), (3, .int 0), (4, .int (Int32.ofNat 40))]) d168_4 rfl rfl ?_
  exact s168_22 (S := S) (ex := ex) k v1 0 (Int32.ofNat 40) s _ h
def f36 (k : Nat) (s : mS) : Option (mS) :=
  (f168_22 k (0 : Int64) s).bind fun q1 => pt (uF 1 (0 : Int32) q1) fun s3 => some s3
theorem t_f36 {S : mE} {ex : mHp} {k : Nat} {s : mS} {r : mS} (h : f36 k s = some r) : Run S 36 (0, [(0, .ref 21)], [], hp s ex) (.inl none, hp r ex) := by
  unfold f36 at h
  refine R_p d36_0 rfl rfl ?_
  refine R_get d36_1 (Or.inl (List.mem_of_getElem? (i := 8) rfl)) (hg21 _ _) rfl ?_
  refine R_lc (v := 0) d36_4 (by decide) ?_
  obtain ⟨q1, e2, h⟩ := bd_some h
  refine R_cs [.ref 22, .long 0] d36_5 (List.mem_of_getElem? (i := 14) rfl) rfl ⟨by decide, by decide, Nat.le_of_ble_eq_true rfl, rfl, mcd168⟩ rfl rfl (Nat.le_of_ble_eq_true rfl) (t_f168_22 e2) ?_
  refine R_p d36_8 rfl rfl ?_
  refine R_ic (v := 0) d36_9 (by decide) ?_
  obtain ⟨s3, e4, h⟩ := pt_some h
  refine R_put d36_10 (List.mem_of_getElem? (i := 9) rfl) (hg21 _ _) (Nat.le_of_ble_eq_true rfl) rfl rfl (Or.inl rfl) ?_
  refine R_h (hp s3 ex) (by rw [e4]; exact hF1 _ _ _) ?_
  cases h
  exact R_vret d36_13 rfl rfl
def f46  (s : mS) : Option (Int32) :=
  some (s.2.2.1 2)
theorem t_f46 {S : mE} {ex : mHp}  {s : mS} {r : Int32} (h : f46 s = some r) : Run S 46 (0, [(0, .ref 23)], [], hp s ex) (.inl (some (.int r)), hp s ex) := by
  unfold f46 at h
  refine R_p d46_0 rfl rfl ?_
  refine R_get d46_1 (Or.inl (List.mem_of_getElem? (i := 15) rfl)) (hg23 _ _) rfl ?_
  cases h
  exact R_iret d46_4 rfl rfl rfl
def r167_24 : Nat → Int32 → Int32 → Int32 → mS → Option (mS)
  | 0, _, _, _, _ => none
  | k + 1, v1, v2, v3, s =>
    (if (v3 ≤ v2) then
        some s
      else
        rdI 1600 v2 (pt (uA 24 (upd (s.1 24) (Int32.toNatClampNeg v2) v1) s) fun s3 => r167_24 k v1 (v2 + Int32.ofInt 1) v3 s3))
theorem s167_24 {S : mE} {ex : mHp} (k : Nat) : (∀ (v1 : Int32) (v2 : Int32) (v3 : Int32) (s : mS) (r : mS), r167_24 k v1 v2 v3 s = some r → Run S 167 (5, [(0, .ref 24), (1, .int v1), (2, .int v2), (3, .int v3)], [], hp s ex) (.inl none, hp r ex)) := by
  induction k with
  | zero => intro v1 v2 v3 s r h; cases h
  | succ k ih =>
    intro v1 v2 v3 s r h
    rw [r167_24] at h
    refine R_p d167_5 rfl rfl ?_
    refine R_p d167_6 rfl rfl ?_
    rcases ite_some h with ⟨c1, h⟩ | ⟨c1, h⟩
    · refine R_br 20 d167_7 (mb_t (b := (v3 ≤ v2)) c1) rfl ?_
      cases h
      exact R_vret d167_20 rfl rfl
    · refine R_nb d167_7 rfl (mb_f (b := (v3 ≤ v2)) c1) ?_
      refine R_p d167_10 rfl rfl ?_
      refine R_p d167_11 rfl rfl ?_
      refine R_p d167_12 rfl rfl ?_
      obtain ⟨c2, h⟩ := rdI_some h
      obtain ⟨s3, e4, h⟩ := pt_some h
      refine R_ist d167_13 (hg24 _ _) c2 ?_
      refine R_h (hp s3 ex) (by rw [e4]; exact hA24 _ _ _) ?_
      refine R_p (ls' := [(0, .ref 24), (1, .int v1), (2, .int (v2 + Int32.ofInt 1)), (3, .int v3)]) d167_14 rfl rfl ?_
      refine R_br 5 d167_17 rfl rfl ?_
      exact ih v1 (v2 + Int32.ofInt 1) v3 s3 _ h
def f167_24 (k : Nat) (v1 : Int32) (s : mS) : Option (mS) :=
  r167_24 k v1 0 (Int32.ofNat 1600) s
theorem t_f167_24 {S : mE} {ex : mHp} {k : Nat} {v1 : Int32} {s : mS} {r : mS} (h : f167_24 k v1 s = some r) : Run S 167 (0, [(0, .ref 24), (1, .int v1)], [], hp s ex) (.inl none, hp r ex) := by
  unfold f167_24 at h
  refine R_ic (v := 0) d167_0 (by decide) ?_
  refine R_p (ls' := [(0, .ref 24), (1, .int v1), (2, .int 0)]) d167_1 rfl rfl ?_
  refine R_p d167_2 rfl rfl ?_
  refine R_len d167_3 (hg24 _ _) rfl ?_
  refine R_p (ls' := [(0, .ref 24), (1, .int v1), (2, .int 0), (3, .int (Int32.ofNat 1600))]) d167_4 rfl rfl ?_
  exact s167_24 (S := S) (ex := ex) k v1 0 (Int32.ofNat 1600) s _ h
def f45 (k : Nat) (s : mS) : Option (mS) :=
  (f167_24 k (-1 : Int32) s).bind fun q1 => pt (uF 2 (0 : Int32) q1) fun s3 => some s3
theorem t_f45 {S : mE} {ex : mHp} {k : Nat} {s : mS} {r : mS} (h : f45 k s = some r) : Run S 45 (0, [(0, .ref 23)], [], hp s ex) (.inl none, hp r ex) := by
  unfold f45 at h
  refine R_p d45_0 rfl rfl ?_
  refine R_get d45_1 (Or.inl (List.mem_of_getElem? (i := 12) rfl)) (hg23 _ _) rfl ?_
  refine R_ic (v := (-1)) d45_4 (by decide) ?_
  obtain ⟨q1, e2, h⟩ := bd_some h
  refine R_cs [.ref 24, .int (-1)] d45_5 (List.mem_of_getElem? (i := 5) rfl) rfl ⟨by decide, by decide, Nat.le_of_ble_eq_true rfl, rfl, mcd167⟩ rfl rfl (Nat.le_of_ble_eq_true rfl) (t_f167_24 e2) ?_
  refine R_p d45_8 rfl rfl ?_
  refine R_ic (v := 0) d45_9 (by decide) ?_
  obtain ⟨s3, e4, h⟩ := pt_some h
  refine R_put d45_10 (List.mem_of_getElem? (i := 15) rfl) (hg23 _ _) (Nat.le_of_ble_eq_true rfl) rfl rfl (Or.inl rfl) ?_
  refine R_h (hp s3 ex) (by rw [e4]; exact hF2 _ _ _) ?_
  cases h
  exact R_vret d45_13 rfl rfl
def f47  (s : mS) : Option (Int32) :=
  (if (¬ (s.2.2.1 2) = (0 : Int32)) then
    (f66 s).bind fun q2 => some ((q2 + (s.2.2.1 2)) - (1 : Int32))
  else
    some (0 : Int32))
theorem t_f47 {S : mE} {ex : mHp}  {s : mS} {r : Int32} (h : f47 s = some r) : Run S 47 (0, [(0, .ref 23)], [], hp s ex) (.inl (some (.int r)), hp s ex) := by
  unfold f47 at h
  refine R_p d47_0 rfl rfl ?_
  refine R_get d47_1 (Or.inl (List.mem_of_getElem? (i := 15) rfl)) (hg23 _ _) rfl ?_
  rcases ite_some h with ⟨c1, h⟩ | ⟨c1, h⟩
  · refine R_br 11 d47_4 (mb_t (b := (¬ (s.2.2.1 2) = (0 : Int32))) c1) rfl ?_
    refine R_p d47_11 rfl rfl ?_
    refine R_get d47_12 (Or.inl (List.mem_of_getElem? (i := 10) rfl)) (hg23 _ _) rfl ?_
    obtain ⟨q2, e3, h⟩ := bd_some h
    refine R_cm [] d47_15 (List.mem_of_getElem? (i := 20) rfl) rfl ⟨by decide, by decide, Nat.le_of_ble_eq_true rfl, rfl, mcd66⟩ rfl rfl (Nat.le_of_ble_eq_true rfl) (hg17 _ _) rfl (t_f66 e3) ?_
    refine R_p d47_18 rfl rfl ?_
    refine R_get d47_19 (Or.inl (List.mem_of_getElem? (i := 15) rfl)) (hg23 _ _) rfl ?_
    refine R_p d47_22 rfl rfl ?_
    refine R_ic (v := 1) d47_23 (by decide) ?_
    refine R_p d47_24 rfl rfl ?_
    cases h
    exact R_iret d47_25 rfl rfl rfl
  · refine R_nb d47_4 rfl (mb_f (b := (¬ (s.2.2.1 2) = (0 : Int32))) c1) ?_
    refine R_ic (v := 0) d47_7 (by decide) ?_
    refine R_br 25 d47_8 rfl rfl ?_
    cases h
    exact R_iret d47_25 rfl rfl rfl
def f48  (s : mS) : Option (Int32) :=
  (f47 s).bind fun q1 => some (((2 : Int32) * q1) - ((3 : Int32) * (s.2.2.1 2)))
theorem t_f48 {S : mE} {ex : mHp}  {s : mS} {r : Int32} (h : f48 s = some r) : Run S 48 (0, [(0, .ref 23)], [], hp s ex) (.inl (some (.int r)), hp s ex) := by
  unfold f48 at h
  refine R_ic (v := 2) d48_0 (by decide) ?_
  refine R_p d48_1 rfl rfl ?_
  obtain ⟨q1, e2, h⟩ := bd_some h
  refine R_cm [] d48_2 (List.mem_of_getElem? (i := 22) rfl) rfl ⟨by decide, by decide, Nat.le_of_ble_eq_true rfl, rfl, mcd47⟩ rfl rfl (Nat.le_of_ble_eq_true rfl) (hg23 _ _) rfl (t_f47 e2) ?_
  refine R_p d48_5 rfl rfl ?_
  refine R_ic (v := 3) d48_6 (by decide) ?_
  refine R_p d48_7 rfl rfl ?_
  refine R_get d48_8 (Or.inl (List.mem_of_getElem? (i := 15) rfl)) (hg23 _ _) rfl ?_
  refine R_p d48_11 rfl rfl ?_
  refine R_p d48_12 rfl rfl ?_
  cases h
  exact R_iret d48_13 rfl rfl rfl
def f52 (v1 : Int32) (v2 : Int32) (s : mS) : Option (Int32) :=
  rdI 225 (((3 : Int32) * v1) + v2) (some (s.1 26 (Int32.toNatClampNeg (((3 : Int32) * v1) + v2))))
theorem t_f52 {S : mE} {ex : mHp} {v1 : Int32} {v2 : Int32} {s : mS} {r : Int32} (h : f52 v1 v2 s = some r) : Run S 52 (0, [(0, .ref 23), (1, .int v1), (2, .int v2)], [], hp s ex) (.inl (some (.int r)), hp s ex) := by
  unfold f52 at h
  refine R_p d52_0 rfl rfl ?_
  refine R_get d52_1 (Or.inl (List.mem_of_getElem? (i := 14) rfl)) (hg23 _ _) rfl ?_
  refine R_ic (v := 3) d52_4 (by decide) ?_
  refine R_p d52_5 rfl rfl ?_
  refine R_p d52_6 rfl rfl ?_
  refine R_p d52_7 rfl rfl ?_
  refine R_p d52_8 rfl rfl ?_
  obtain ⟨c1, h⟩ := rdI_some h
  refine R_ild d52_9 (hg26 _ _) c1 ?_
  cases h
  exact R_iret d52_10 rfl rfl rfl
def f53 (v1 : Int32) (v2 : Int32) (s : mS) : Option (Int32) :=
  (if (¬ v2 = (2 : Int32)) then
    rdI 225 (((3 : Int32) * v1) + (v2 + (1 : Int32))) (some (s.1 26 (Int32.toNatClampNeg (((3 : Int32) * v1) + (v2 + (1 : Int32))))))
  else
    rdI 225 (((3 : Int32) * v1) + (0 : Int32)) (some (s.1 26 (Int32.toNatClampNeg (((3 : Int32) * v1) + (0 : Int32))))))
theorem t_f53 {S : mE} {ex : mHp} {v1 : Int32} {v2 : Int32} {s : mS} {r : Int32} (h : f53 v1 v2 s = some r) : Run S 53 (0, [(0, .ref 23), (1, .int v1), (2, .int v2)], [], hp s ex) (.inl (some (.int r)), hp s ex) := by
  unfold f53 at h
  refine R_p d53_0 rfl rfl ?_
  refine R_get d53_1 (Or.inl (List.mem_of_getElem? (i := 14) rfl)) (hg23 _ _) rfl ?_
  refine R_ic (v := 3) d53_4 (by decide) ?_
  refine R_p d53_5 rfl rfl ?_
  refine R_p d53_6 rfl rfl ?_
  refine R_p d53_7 rfl rfl ?_
  refine R_ic (v := 2) d53_8 (by decide) ?_
  rcases ite_some h with ⟨c1, h⟩ | ⟨c1, h⟩
  · refine R_br 16 d53_9 (mb_t (b := (¬ v2 = (2 : Int32))) c1) rfl ?_
    refine R_p d53_16 rfl rfl ?_
    refine R_ic (v := 1) d53_17 (by decide) ?_
    refine R_p d53_18 rfl rfl ?_
    refine R_p d53_19 rfl rfl ?_
    obtain ⟨c2, h⟩ := rdI_some h
    refine R_ild d53_20 (hg26 _ _) c2 ?_
    cases h
    exact R_iret d53_21 rfl rfl rfl
  · refine R_nb d53_9 rfl (mb_f (b := (¬ v2 = (2 : Int32))) c1) ?_
    refine R_ic (v := 0) d53_12 (by decide) ?_
    refine R_br 19 d53_13 rfl rfl ?_
    refine R_p d53_19 rfl rfl ?_
    obtain ⟨c3, h⟩ := rdI_some h
    refine R_ild d53_20 (hg26 _ _) c3 ?_
    cases h
    exact R_iret d53_21 rfl rfl rfl
def f99 (v0 : Int32) (v1 : Int32) (s : mS) : Option (Int32) :=
  some ((v0 * (40 : Int32)) + v1)
theorem t_f99 {S : mE} {ex : mHp} {v0 : Int32} {v1 : Int32} {s : mS} {r : Int32} (h : f99 v0 v1 s = some r) : Run S 99 (0, [(0, .int v0), (1, .int v1)], [], hp s ex) (.inl (some (.int r)), hp s ex) := by
  unfold f99 at h
  refine R_p d99_0 rfl rfl ?_
  refine R_bi (v := 40) d99_1 (by decide) ?_
  refine R_p d99_3 rfl rfl ?_
  refine R_p d99_4 rfl rfl ?_
  refine R_p d99_5 rfl rfl ?_
  cases h
  exact R_iret d99_6 rfl rfl rfl
def f54 (v1 : Int32) (v2 : Int32) (s : mS) : Option (Int32) :=
  (f99 v1 v2 s).bind fun q1 => rdI 1600 q1 (some (s.1 24 (Int32.toNatClampNeg q1)))
theorem t_f54 {S : mE} {ex : mHp} {v1 : Int32} {v2 : Int32} {s : mS} {r : Int32} (h : f54 v1 v2 s = some r) : Run S 54 (0, [(0, .ref 23), (1, .int v1), (2, .int v2)], [], hp s ex) (.inl (some (.int r)), hp s ex) := by
  unfold f54 at h
  refine R_p d54_0 rfl rfl ?_
  refine R_get d54_1 (Or.inl (List.mem_of_getElem? (i := 12) rfl)) (hg23 _ _) rfl ?_
  refine R_p d54_4 rfl rfl ?_
  refine R_p d54_5 rfl rfl ?_
  obtain ⟨q1, e2, h⟩ := bd_some h
  refine R_cs [.int v1, .int v2] d54_6 (List.mem_of_getElem? (i := 50) rfl) rfl ⟨by decide, by decide, Nat.le_of_ble_eq_true rfl, rfl, mcd99⟩ rfl rfl (Nat.le_of_ble_eq_true rfl) (t_f99 e2) ?_
  obtain ⟨c3, h⟩ := rdI_some h
  refine R_ild d54_9 (hg24 _ _) c3 ?_
  cases h
  exact R_iret d54_10 rfl rfl rfl
def f63 (v1 : Int32) (v2 : Int32) (s : mS) : Option (Int32) :=
  (f52 v1 v2 s).bind fun q1 => (f53 v1 v2 s).bind fun q3 => (f54 q3 q1 s).bind fun q5 => (if (¬ q5 = (-1 : Int32)) then
    (f99 q3 q1 s).bind fun q8 => rdI 1600 q8 (some (s.1 25 (Int32.toNatClampNeg q8)))
  else
    some (-1 : Int32))
theorem t_f63 {S : mE} {ex : mHp} {v1 : Int32} {v2 : Int32} {s : mS} {r : Int32} (h : f63 v1 v2 s = some r) : Run S 63 (0, [(0, .ref 23), (1, .int v1), (2, .int v2)], [], hp s ex) (.inl (some (.int r)), hp s ex) := by
  unfold f63 at h
  refine R_p d63_0 rfl rfl ?_
  refine R_p d63_1 rfl rfl ?_
  refine R_p d63_2 rfl rfl ?_
  obtain ⟨q1, e2, h⟩ := bd_some h
  refine R_cm [.int v1, .int v2] d63_3 (List.mem_of_getElem? (i := 53) rfl) rfl ⟨by decide, by decide, Nat.le_of_ble_eq_true rfl, rfl, mcd52⟩ rfl rfl (Nat.le_of_ble_eq_true rfl) (hg23 _ _) rfl (t_f52 e2) ?_
  refine R_p (ls' := [(0, .ref 23), (1, .int v1), (2, .int v2), (3, .int q1)]) d63_6 rfl rfl ?_
  refine R_p d63_7 rfl rfl ?_
  refine R_p d63_8 rfl rfl ?_
  refine R_p d63_9 rfl rfl ?_
  obtain ⟨q3, e4, h⟩ := bd_some h
  refine R_cm [.int v1, .int v2] d63_10 (List.mem_of_getElem? (i := 54) rfl) rfl ⟨by decide, by decide, Nat.le_of_ble_eq_true rfl, rfl, mcd53⟩ rfl rfl (Nat.le_of_ble_eq_true rfl) (hg23 _ _) rfl (t_f53 e4) ?_
  refine R_p (ls' := [(0, .ref 23), (1, .int v1), (2, .int v2), (3, .int q1), (4, .int q3)]) d63_13 rfl rfl ?_
  refine R_p d63_15 rfl rfl ?_
  refine R_p d63_16 rfl rfl ?_
  refine R_p d63_18 rfl rfl ?_
  obtain ⟨q5, e6, h⟩ := bd_some h
  refine R_cm [.int q3, .int q1] d63_19 (List.mem_of_getElem? (i := 70) rfl) rfl ⟨by decide, by decide, Nat.le_of_ble_eq_true rfl, rfl, mcd54⟩ rfl rfl (Nat.le_of_ble_eq_true rfl) (hg23 _ _) rfl (t_f54 e6) ?_
  refine R_ic (v := (-1)) d63_22 (by decide) ?_
  rcases ite_some h with ⟨c7, h⟩ | ⟨c7, h⟩
  · refine R_br 30 d63_23 (mb_t (b := (¬ q5 = (-1 : Int32))) c7) rfl ?_
    refine R_p d63_30 rfl rfl ?_
    refine R_get d63_31 (Or.inl (List.mem_of_getElem? (i := 13) rfl)) (hg23 _ _) rfl ?_
    refine R_p d63_34 rfl rfl ?_
    refine R_p d63_36 rfl rfl ?_
    obtain ⟨q8, e9, h⟩ := bd_some h
    refine R_cs [.int q3, .int q1] d63_37 (List.mem_of_getElem? (i := 50) rfl) rfl ⟨by decide, by decide, Nat.le_of_ble_eq_true rfl, rfl, mcd99⟩ rfl rfl (Nat.le_of_ble_eq_true rfl) (t_f99 e9) ?_
    obtain ⟨c10, h⟩ := rdI_some h
    refine R_ild d63_40 (hg25 _ _) c10 ?_
    cases h
    exact R_iret d63_41 rfl rfl rfl
  · refine R_nb d63_23 rfl (mb_f (b := (¬ q5 = (-1 : Int32))) c7) ?_
    refine R_ic (v := (-1)) d63_26 (by decide) ?_
    refine R_br 41 d63_27 rfl rfl ?_
    cases h
    exact R_iret d63_41 rfl rfl rfl
def f64 (v1 : Int32) (v2 : Int32) (s : mS) : Option (Int32) :=
  (f52 v1 v2 s).bind fun q1 => (f53 v1 v2 s).bind fun q3 => (f39 q1 q3 s).bind fun q5 => (if (q5 = (0 : Int32)) then
    (f63 v1 v2 s).bind fun q8 => some q8
  else
    some (-1 : Int32))
theorem t_f64 {S : mE} {ex : mHp} {v1 : Int32} {v2 : Int32} {s : mS} {r : Int32} (h : f64 v1 v2 s = some r) : Run S 64 (0, [(0, .ref 23), (1, .int v1), (2, .int v2)], [], hp s ex) (.inl (some (.int r)), hp s ex) := by
  unfold f64 at h
  refine R_p d64_0 rfl rfl ?_
  refine R_get d64_1 (Or.inl (List.mem_of_getElem? (i := 11) rfl)) (hg23 _ _) rfl ?_
  refine R_p d64_4 rfl rfl ?_
  refine R_p d64_5 rfl rfl ?_
  refine R_p d64_6 rfl rfl ?_
  obtain ⟨q1, e2, h⟩ := bd_some h
  refine R_cm [.int v1, .int v2] d64_7 (List.mem_of_getElem? (i := 53) rfl) rfl ⟨by decide, by decide, Nat.le_of_ble_eq_true rfl, rfl, mcd52⟩ rfl rfl (Nat.le_of_ble_eq_true rfl) (hg23 _ _) rfl (t_f52 e2) ?_
  refine R_p d64_10 rfl rfl ?_
  refine R_p d64_11 rfl rfl ?_
  refine R_p d64_12 rfl rfl ?_
  obtain ⟨q3, e4, h⟩ := bd_some h
  refine R_cm [.int v1, .int v2] d64_13 (List.mem_of_getElem? (i := 54) rfl) rfl ⟨by decide, by decide, Nat.le_of_ble_eq_true rfl, rfl, mcd53⟩ rfl rfl (Nat.le_of_ble_eq_true rfl) (hg23 _ _) rfl (t_f53 e4) ?_
  obtain ⟨q5, e6, h⟩ := bd_some h
  refine R_cm [.int q1, .int q3] d64_16 (List.mem_of_getElem? (i := 68) rfl) rfl ⟨by decide, by decide, Nat.le_of_ble_eq_true rfl, rfl, mcd39⟩ rfl rfl (Nat.le_of_ble_eq_true rfl) (hg21 _ _) rfl (t_f39 e6) ?_
  refine R_p (ls' := [(0, .ref 23), (1, .int v1), (2, .int v2), (3, .int q5)]) d64_19 rfl rfl ?_
  refine R_p d64_20 rfl rfl ?_
  rcases ite_some h with ⟨c7, h⟩ | ⟨c7, h⟩
  · refine R_br 28 d64_21 (mb_t (b := (q5 = (0 : Int32))) c7) rfl ?_
    refine R_p d64_28 rfl rfl ?_
    refine R_p d64_29 rfl rfl ?_
    refine R_p d64_30 rfl rfl ?_
    obtain ⟨q8, e9, h⟩ := bd_some h
    refine R_cm [.int v1, .int v2] d64_31 (List.mem_of_getElem? (i := 134) rfl) rfl ⟨by decide, by decide, Nat.le_of_ble_eq_true rfl, rfl, mcd63⟩ rfl rfl (Nat.le_of_ble_eq_true rfl) (hg23 _ _) rfl (t_f63 e9) ?_
    cases h
    exact R_iret d64_34 rfl rfl rfl
  · refine R_nb d64_21 rfl (mb_f (b := (q5 = (0 : Int32))) c7) ?_
    refine R_ic (v := (-1)) d64_24 (by decide) ?_
    refine R_br 34 d64_25 rfl rfl ?_
    cases h
    exact R_iret d64_34 rfl rfl rfl
def f62 (v1 : Int32) (v2 : Int32) (s : mS) : Option (Int32) :=
  (f54 v1 v2 s).bind fun q1 => (if (¬ q1 = (-1 : Int32)) then
    some (1 : Int32)
  else
    (f54 v2 v1 s).bind fun q4 => (if (q4 = (-1 : Int32)) then
      some (0 : Int32)
    else
      some (1 : Int32)))
theorem t_f62 {S : mE} {ex : mHp} {v1 : Int32} {v2 : Int32} {s : mS} {r : Int32} (h : f62 v1 v2 s = some r) : Run S 62 (0, [(0, .ref 23), (1, .int v1), (2, .int v2)], [], hp s ex) (.inl (some (.int r)), hp s ex) := by
  unfold f62 at h
  refine R_p d62_0 rfl rfl ?_
  refine R_p d62_1 rfl rfl ?_
  refine R_p d62_2 rfl rfl ?_
  obtain ⟨q1, e2, h⟩ := bd_some h
  refine R_cm [.int v1, .int v2] d62_3 (List.mem_of_getElem? (i := 70) rfl) rfl ⟨by decide, by decide, Nat.le_of_ble_eq_true rfl, rfl, mcd54⟩ rfl rfl (Nat.le_of_ble_eq_true rfl) (hg23 _ _) rfl (t_f54 e2) ?_
  refine R_ic (v := (-1)) d62_6 (by decide) ?_
  rcases ite_some h with ⟨c3, h⟩ | ⟨c3, h⟩
  · refine R_br 20 d62_7 (mb_t (b := (¬ q1 = (-1 : Int32))) c3) rfl ?_
    refine R_ic (v := 1) d62_20 (by decide) ?_
    refine R_br 25 d62_21 rfl rfl ?_
    cases h
    exact R_iret d62_25 rfl rfl rfl
  · refine R_nb d62_7 rfl (mb_f (b := (¬ q1 = (-1 : Int32))) c3) ?_
    refine R_p d62_10 rfl rfl ?_
    refine R_p d62_11 rfl rfl ?_
    refine R_p d62_12 rfl rfl ?_
    obtain ⟨q4, e5, h⟩ := bd_some h
    refine R_cm [.int v2, .int v1] d62_13 (List.mem_of_getElem? (i := 70) rfl) rfl ⟨by decide, by decide, Nat.le_of_ble_eq_true rfl, rfl, mcd54⟩ rfl rfl (Nat.le_of_ble_eq_true rfl) (hg23 _ _) rfl (t_f54 e5) ?_
    refine R_ic (v := (-1)) d62_16 (by decide) ?_
    rcases ite_some h with ⟨c6, h⟩ | ⟨c6, h⟩
    · refine R_br 24 d62_17 (mb_t (b := (q4 = (-1 : Int32))) c6) rfl ?_
      refine R_ic (v := 0) d62_24 (by decide) ?_
      cases h
      exact R_iret d62_25 rfl rfl rfl
    · refine R_nb d62_17 rfl (mb_f (b := (q4 = (-1 : Int32))) c6) ?_
      refine R_ic (v := 1) d62_20 (by decide) ?_
      refine R_br 25 d62_21 rfl rfl ?_
      cases h
      exact R_iret d62_25 rfl rfl rfl
def r51 : Nat → Int32 → Int32 → Int32 → mS → Option (Int32)
  | 0, _, _, _, _ => none
  | k + 1, v1, v2, v3, s =>
    (if ((3 : Int32) ≤ v3) then
        some (1 : Int32)
      else
        (f52 v1 v3 s).bind fun q2 => (f53 v1 v3 s).bind fun q4 => (f71 q2 q4 v2 s).bind fun q6 => (if ((0 : Int64) ≤ q6) then
          r51 k v1 v2 (v3 + Int32.ofInt 1) s
        else
          some (0 : Int32)))
theorem s51 {S : mE} {ex : mHp} (k : Nat) : (∀ (v1 : Int32) (v2 : Int32) (v3 : Int32) (s : mS) (r : Int32), r51 k v1 v2 v3 s = some r → Run S 51 (2, [(0, .ref 23), (1, .int v1), (2, .int v2), (3, .int v3)], [], hp s ex) (.inl (some (.int r)), hp s ex)) := by
  induction k with
  | zero => intro v1 v2 v3 s r h; cases h
  | succ k ih =>
    intro v1 v2 v3 s r h
    rw [r51] at h
    refine R_p d51_2 rfl rfl ?_
    refine R_ic (v := 3) d51_3 (by decide) ?_
    rcases ite_some h with ⟨c1, h⟩ | ⟨c1, h⟩
    · refine R_br 40 d51_4 (mb_t (b := ((3 : Int32) ≤ v3)) c1) rfl ?_
      refine R_ic (v := 1) d51_40 (by decide) ?_
      cases h
      exact R_iret d51_41 rfl rfl rfl
    · refine R_nb d51_4 rfl (mb_f (b := ((3 : Int32) ≤ v3)) c1) ?_
      refine R_p d51_7 rfl rfl ?_
      refine R_get d51_8 (Or.inl (List.mem_of_getElem? (i := 10) rfl)) (hg23 _ _) rfl ?_
      refine R_p d51_11 rfl rfl ?_
      refine R_p d51_12 rfl rfl ?_
      refine R_p d51_13 rfl rfl ?_
      obtain ⟨q2, e3, h⟩ := bd_some h
      refine R_cm [.int v1, .int v3] d51_14 (List.mem_of_getElem? (i := 53) rfl) rfl ⟨by decide, by decide, Nat.le_of_ble_eq_true rfl, rfl, mcd52⟩ rfl rfl (Nat.le_of_ble_eq_true rfl) (hg23 _ _) rfl (t_f52 e3) ?_
      refine R_p d51_17 rfl rfl ?_
      refine R_p d51_18 rfl rfl ?_
      refine R_p d51_19 rfl rfl ?_
      obtain ⟨q4, e5, h⟩ := bd_some h
      refine R_cm [.int v1, .int v3] d51_20 (List.mem_of_getElem? (i := 54) rfl) rfl ⟨by decide, by decide, Nat.le_of_ble_eq_true rfl, rfl, mcd53⟩ rfl rfl (Nat.le_of_ble_eq_true rfl) (hg23 _ _) rfl (t_f53 e5) ?_
      refine R_p d51_23 rfl rfl ?_
      obtain ⟨q6, e7, h⟩ := bd_some h
      refine R_cm [.int q2, .int q4, .int v2] d51_24 (List.mem_of_getElem? (i := 55) rfl) rfl ⟨by decide, by decide, Nat.le_of_ble_eq_true rfl, rfl, mcd71⟩ rfl rfl (Nat.le_of_ble_eq_true rfl) (hg17 _ _) rfl (t_f71 e7) ?_
      refine R_lc (v := 0) d51_27 (by decide) ?_
      refine R_p d51_28 rfl rfl ?_
      rcases ite_some h with ⟨c8, h⟩ | ⟨c8, h⟩
      · refine R_br 34 d51_29 (mb_t (b := ((0 : Int32) ≤ (lg_cmp q6 0))) (lgc_ge.mpr c8)) rfl ?_
        refine R_p (ls' := [(0, .ref 23), (1, .int v1), (2, .int v2), (3, .int (v3 + Int32.ofInt 1))]) d51_34 rfl rfl ?_
        refine R_br 2 d51_37 rfl rfl ?_
        exact ih v1 v2 (v3 + Int32.ofInt 1) s _ h
      · refine R_nb d51_29 rfl (mb_f (b := ((0 : Int32) ≤ (lg_cmp q6 0))) (fun q => c8 (lgc_ge.mp q))) ?_
        refine R_ic (v := 0) d51_32 (by decide) ?_
        cases h
        exact R_iret d51_33 rfl rfl rfl
def f51 (k : Nat) (v1 : Int32) (v2 : Int32) (s : mS) : Option (Int32) :=
  r51 k v1 v2 0 s
theorem t_f51 {S : mE} {ex : mHp} {k : Nat} {v1 : Int32} {v2 : Int32} {s : mS} {r : Int32} (h : f51 k v1 v2 s = some r) : Run S 51 (0, [(0, .ref 23), (1, .int v1), (2, .int v2)], [], hp s ex) (.inl (some (.int r)), hp s ex) := by
  unfold f51 at h
  refine R_ic (v := 0) d51_0 (by decide) ?_
  refine R_p (ls' := [(0, .ref 23), (1, .int v1), (2, .int v2), (3, .int 0)]) d51_1 rfl rfl ?_
  exact s51 (S := S) (ex := ex) k v1 v2 0 s _ h
def r50 : Nat → Int32 → Int32 → mS → Option (Int32)
  | 0, _, _, _ => none
  | k + 1, v1, v2, s =>
    (if ((s.2.2.1 2) ≤ v2) then
        some (-1 : Int32)
      else
        (f51 k v2 v1 s).bind fun q2 => (if (q2 = (0 : Int32)) then
          r50 k v1 (v2 + Int32.ofInt 1) s
        else
          some v2))
theorem s50 {S : mE} {ex : mHp} (k : Nat) : (∀ (v1 : Int32) (v2 : Int32) (s : mS) (r : Int32), r50 k v1 v2 s = some r → Run S 50 (2, [(0, .ref 23), (1, .int v1), (2, .int v2)], [], hp s ex) (.inl (some (.int r)), hp s ex)) := by
  induction k with
  | zero => intro v1 v2 s r h; cases h
  | succ k ih =>
    intro v1 v2 s r h
    rw [r50] at h
    refine R_p d50_2 rfl rfl ?_
    refine R_p d50_3 rfl rfl ?_
    refine R_get d50_4 (Or.inl (List.mem_of_getElem? (i := 15) rfl)) (hg23 _ _) rfl ?_
    rcases ite_some h with ⟨c1, h⟩ | ⟨c1, h⟩
    · refine R_br 27 d50_7 (mb_t (b := ((s.2.2.1 2) ≤ v2)) c1) rfl ?_
      refine R_ic (v := (-1)) d50_27 (by decide) ?_
      cases h
      exact R_iret d50_28 rfl rfl rfl
    · refine R_nb d50_7 rfl (mb_f (b := ((s.2.2.1 2) ≤ v2)) c1) ?_
      refine R_p d50_10 rfl rfl ?_
      refine R_p d50_11 rfl rfl ?_
      refine R_p d50_12 rfl rfl ?_
      obtain ⟨q2, e3, h⟩ := bd_some h
      refine R_cm [.int v2, .int v1] d50_13 (List.mem_of_getElem? (i := 52) rfl) rfl ⟨by decide, by decide, Nat.le_of_ble_eq_true rfl, rfl, mcd51⟩ rfl rfl (Nat.le_of_ble_eq_true rfl) (hg23 _ _) rfl (t_f51 e3) ?_
      rcases ite_some h with ⟨c4, h⟩ | ⟨c4, h⟩
      · refine R_br 21 d50_16 (mb_t (b := (q2 = (0 : Int32))) c4) rfl ?_
        refine R_p (ls' := [(0, .ref 23), (1, .int v1), (2, .int (v2 + Int32.ofInt 1))]) d50_21 rfl rfl ?_
        refine R_br 2 d50_24 rfl rfl ?_
        exact ih v1 (v2 + Int32.ofInt 1) s _ h
      · refine R_nb d50_16 rfl (mb_f (b := (q2 = (0 : Int32))) c4) ?_
        refine R_p d50_19 rfl rfl ?_
        cases h
        exact R_iret d50_20 rfl rfl rfl
def f50 (k : Nat) (v1 : Int32) (s : mS) : Option (Int32) :=
  r50 k v1 0 s
theorem t_f50 {S : mE} {ex : mHp} {k : Nat} {v1 : Int32} {s : mS} {r : Int32} (h : f50 k v1 s = some r) : Run S 50 (0, [(0, .ref 23), (1, .int v1)], [], hp s ex) (.inl (some (.int r)), hp s ex) := by
  unfold f50 at h
  refine R_ic (v := 0) d50_0 (by decide) ?_
  refine R_p (ls' := [(0, .ref 23), (1, .int v1), (2, .int 0)]) d50_1 rfl rfl ?_
  exact s50 (S := S) (ex := ex) k v1 0 s _ h
def r22 : Nat → Int32 → Int32 → Int32 → Int32 → mS → Option (Int32)
  | 0, _, _, _, _, _ => none
  | k + 1, v1, v2, v3, v4, s =>
    (if (v2 ≤ v4) then
        some v3
      else
        (f74 v1 v4 s).bind fun q2 => (if (q2 = (0 : Int32)) then
          r22 k v1 v2 v3 (v4 + Int32.ofInt 1) s
        else
          (if (v3 = (-1 : Int32)) then
            r22 k v1 v2 v4 (v4 + Int32.ofInt 1) s
          else
            (f74 v4 v3 s).bind fun q6 => (if (q6 = (0 : Int32)) then
              r22 k v1 v2 v3 (v4 + Int32.ofInt 1) s
            else
              r22 k v1 v2 v4 (v4 + Int32.ofInt 1) s))))
theorem s22 {S : mE} {ex : mHp} (k : Nat) : (∀ (v1 : Int32) (v2 : Int32) (v3 : Int32) (v4 : Int32) (s : mS) (r : Int32), r22 k v1 v2 v3 v4 s = some r → Run S 22 (5, [(0, .ref 29), (1, .int v1), (2, .int v2), (3, .int v3), (4, .int v4)], [], hp s ex) (.inl (some (.int r)), hp s ex)) := by
  induction k with
  | zero => intro v1 v2 v3 v4 s r h; cases h
  | succ k ih =>
    intro v1 v2 v3 v4 s r h
    rw [r22] at h
    refine R_p d22_5 rfl rfl ?_
    refine R_p d22_7 rfl rfl ?_
    rcases ite_some h with ⟨c1, h⟩ | ⟨c1, h⟩
    · refine R_br 51 d22_8 (mb_t (b := (v2 ≤ v4)) c1) rfl ?_
      refine R_p d22_51 rfl rfl ?_
      cases h
      exact R_iret d22_52 rfl rfl rfl
    · refine R_nb d22_8 rfl (mb_f (b := (v2 ≤ v4)) c1) ?_
      refine R_p d22_11 rfl rfl ?_
      refine R_get d22_12 (Or.inl (List.mem_of_getElem? (i := 19) rfl)) (hg29 _ _) rfl ?_
      refine R_p d22_15 rfl rfl ?_
      refine R_p d22_16 rfl rfl ?_
      obtain ⟨q2, e3, h⟩ := bd_some h
      refine R_cm [.int v1, .int v4] d22_18 (List.mem_of_getElem? (i := 47) rfl) rfl ⟨by decide, by decide, Nat.le_of_ble_eq_true rfl, rfl, mcd74⟩ rfl rfl (Nat.le_of_ble_eq_true rfl) (hg17 _ _) rfl (t_f74 e3) ?_
      rcases ite_some h with ⟨c4, h⟩ | ⟨c4, h⟩
      · refine R_br 45 d22_21 (mb_t (b := (q2 = (0 : Int32))) c4) rfl ?_
        refine R_p (ls' := [(0, .ref 29), (1, .int v1), (2, .int v2), (3, .int v3), (4, .int (v4 + Int32.ofInt 1))]) d22_45 rfl rfl ?_
        refine R_br 5 d22_48 rfl rfl ?_
        exact ih v1 v2 v3 (v4 + Int32.ofInt 1) s _ h
      · refine R_nb d22_21 rfl (mb_f (b := (q2 = (0 : Int32))) c4) ?_
        refine R_p d22_24 rfl rfl ?_
        refine R_ic (v := (-1)) d22_25 (by decide) ?_
        rcases ite_some h with ⟨c5, h⟩ | ⟨c5, h⟩
        · refine R_br 42 d22_26 (mb_t (b := (v3 = (-1 : Int32))) c5) rfl ?_
          refine R_p d22_42 rfl rfl ?_
          refine R_p (ls' := [(0, .ref 29), (1, .int v1), (2, .int v2), (3, .int v4), (4, .int v4)]) d22_44 rfl rfl ?_
          refine R_p (ls' := [(0, .ref 29), (1, .int v1), (2, .int v2), (3, .int v4), (4, .int (v4 + Int32.ofInt 1))]) d22_45 rfl rfl ?_
          refine R_br 5 d22_48 rfl rfl ?_
          exact ih v1 v2 v4 (v4 + Int32.ofInt 1) s _ h
        · refine R_nb d22_26 rfl (mb_f (b := (v3 = (-1 : Int32))) c5) ?_
          refine R_p d22_29 rfl rfl ?_
          refine R_get d22_30 (Or.inl (List.mem_of_getElem? (i := 19) rfl)) (hg29 _ _) rfl ?_
          refine R_p d22_33 rfl rfl ?_
          refine R_p d22_35 rfl rfl ?_
          obtain ⟨q6, e7, h⟩ := bd_some h
          refine R_cm [.int v4, .int v3] d22_36 (List.mem_of_getElem? (i := 47) rfl) rfl ⟨by decide, by decide, Nat.le_of_ble_eq_true rfl, rfl, mcd74⟩ rfl rfl (Nat.le_of_ble_eq_true rfl) (hg17 _ _) rfl (t_f74 e7) ?_
          rcases ite_some h with ⟨c8, h⟩ | ⟨c8, h⟩
          · refine R_br 45 d22_39 (mb_t (b := (q6 = (0 : Int32))) c8) rfl ?_
            refine R_p (ls' := [(0, .ref 29), (1, .int v1), (2, .int v2), (3, .int v3), (4, .int (v4 + Int32.ofInt 1))]) d22_45 rfl rfl ?_
            refine R_br 5 d22_48 rfl rfl ?_
            exact ih v1 v2 v3 (v4 + Int32.ofInt 1) s _ h
          · refine R_nb d22_39 rfl (mb_f (b := (q6 = (0 : Int32))) c8) ?_
            refine R_p d22_42 rfl rfl ?_
            refine R_p (ls' := [(0, .ref 29), (1, .int v1), (2, .int v2), (3, .int v4), (4, .int v4)]) d22_44 rfl rfl ?_
            refine R_p (ls' := [(0, .ref 29), (1, .int v1), (2, .int v2), (3, .int v4), (4, .int (v4 + Int32.ofInt 1))]) d22_45 rfl rfl ?_
            refine R_br 5 d22_48 rfl rfl ?_
            exact ih v1 v2 v4 (v4 + Int32.ofInt 1) s _ h
def f22 (k : Nat) (v1 : Int32) (v2 : Int32) (s : mS) : Option (Int32) :=
  r22 k v1 v2 (-1) 0 s
theorem t_f22 {S : mE} {ex : mHp} {k : Nat} {v1 : Int32} {v2 : Int32} {s : mS} {r : Int32} (h : f22 k v1 v2 s = some r) : Run S 22 (0, [(0, .ref 29), (1, .int v1), (2, .int v2)], [], hp s ex) (.inl (some (.int r)), hp s ex) := by
  unfold f22 at h
  refine R_ic (v := (-1)) d22_0 (by decide) ?_
  refine R_p (ls' := [(0, .ref 29), (1, .int v1), (2, .int v2), (3, .int (-1))]) d22_1 rfl rfl ?_
  refine R_ic (v := 0) d22_2 (by decide) ?_
  refine R_p (ls' := [(0, .ref 29), (1, .int v1), (2, .int v2), (3, .int (-1)), (4, .int 0)]) d22_3 rfl rfl ?_
  exact s22 (S := S) (ex := ex) k v1 v2 (-1) 0 s _ h
def f49 (v1 : Int32) (v2 : Int32) (v3 : Int32) (s : mS) : Option (mS) :=
  (f99 v1 v2 s).bind fun q1 => rdI 1600 q1 (pt (uA 24 (upd (s.1 24) (Int32.toNatClampNeg q1) v3) s) fun s4 => (f99 v2 v3 s4).bind fun q6 => rdI 1600 q6 (pt (uA 24 (upd (s4.1 24) (Int32.toNatClampNeg q6) v1) s4) fun s9 => (f99 v3 v1 s9).bind fun q11 => rdI 1600 q11 (pt (uA 24 (upd (s9.1 24) (Int32.toNatClampNeg q11) v2) s9) fun s14 => some s14)))
theorem t_f49 {S : mE} {ex : mHp} {v1 : Int32} {v2 : Int32} {v3 : Int32} {s : mS} {r : mS} (h : f49 v1 v2 v3 s = some r) : Run S 49 (0, [(0, .ref 23), (1, .int v1), (2, .int v2), (3, .int v3)], [], hp s ex) (.inl none, hp r ex) := by
  unfold f49 at h
  refine R_p d49_0 rfl rfl ?_
  refine R_get d49_1 (Or.inl (List.mem_of_getElem? (i := 12) rfl)) (hg23 _ _) rfl ?_
  refine R_p d49_4 rfl rfl ?_
  refine R_p d49_5 rfl rfl ?_
  obtain ⟨q1, e2, h⟩ := bd_some h
  refine R_cs [.int v1, .int v2] d49_6 (List.mem_of_getElem? (i := 50) rfl) rfl ⟨by decide, by decide, Nat.le_of_ble_eq_true rfl, rfl, mcd99⟩ rfl rfl (Nat.le_of_ble_eq_true rfl) (t_f99 e2) ?_
  refine R_p d49_9 rfl rfl ?_
  obtain ⟨c3, h⟩ := rdI_some h
  obtain ⟨s4, e5, h⟩ := pt_some h
  refine R_ist d49_10 (hg24 _ _) c3 ?_
  refine R_h (hp s4 ex) (by rw [e5]; exact hA24 _ _ _) ?_
  refine R_p d49_11 rfl rfl ?_
  refine R_get d49_12 (Or.inl (List.mem_of_getElem? (i := 12) rfl)) (hg23 _ _) rfl ?_
  refine R_p d49_15 rfl rfl ?_
  refine R_p d49_16 rfl rfl ?_
  obtain ⟨q6, e7, h⟩ := bd_some h
  refine R_cs [.int v2, .int v3] d49_17 (List.mem_of_getElem? (i := 50) rfl) rfl ⟨by decide, by decide, Nat.le_of_ble_eq_true rfl, rfl, mcd99⟩ rfl rfl (Nat.le_of_ble_eq_true rfl) (t_f99 e7) ?_
  refine R_p d49_20 rfl rfl ?_
  obtain ⟨c8, h⟩ := rdI_some h
  obtain ⟨s9, e10, h⟩ := pt_some h
  refine R_ist d49_21 (hg24 _ _) c8 ?_
  refine R_h (hp s9 ex) (by rw [e10]; exact hA24 _ _ _) ?_
  refine R_p d49_22 rfl rfl ?_
  refine R_get d49_23 (Or.inl (List.mem_of_getElem? (i := 12) rfl)) (hg23 _ _) rfl ?_
  refine R_p d49_26 rfl rfl ?_
  refine R_p d49_27 rfl rfl ?_
  obtain ⟨q11, e12, h⟩ := bd_some h
  refine R_cs [.int v3, .int v1] d49_28 (List.mem_of_getElem? (i := 50) rfl) rfl ⟨by decide, by decide, Nat.le_of_ble_eq_true rfl, rfl, mcd99⟩ rfl rfl (Nat.le_of_ble_eq_true rfl) (t_f99 e12) ?_
  refine R_p d49_31 rfl rfl ?_
  obtain ⟨c13, h⟩ := rdI_some h
  obtain ⟨s14, e15, h⟩ := pt_some h
  refine R_ist d49_32 (hg24 _ _) c13 ?_
  refine R_h (hp s14 ex) (by rw [e15]; exact hA24 _ _ _) ?_
  cases h
  exact R_vret d49_33 rfl rfl
def f23 (v1 : Int32) (v2 : Int32) (v3 : Int32) (s : mS) : Option (mS) :=
  (f73 v1 v2 v3 s).bind fun q1 => (if (q1 ≤ (0 : Int32)) then
    (f49 v2 v1 v3 s).bind fun q4 => some q4
  else
    (f49 v1 v2 v3 s).bind fun q6 => some q6)
theorem t_f23 {S : mE} {ex : mHp} {v1 : Int32} {v2 : Int32} {v3 : Int32} {s : mS} {r : mS} (h : f23 v1 v2 v3 s = some r) : Run S 23 (0, [(0, .ref 29), (1, .int v1), (2, .int v2), (3, .int v3)], [], hp s ex) (.inl none, hp r ex) := by
  unfold f23 at h
  refine R_p d23_0 rfl rfl ?_
  refine R_get d23_1 (Or.inl (List.mem_of_getElem? (i := 19) rfl)) (hg29 _ _) rfl ?_
  refine R_p d23_4 rfl rfl ?_
  refine R_p d23_5 rfl rfl ?_
  refine R_p d23_6 rfl rfl ?_
  obtain ⟨q1, e2, h⟩ := bd_some h
  refine R_cm [.int v1, .int v2, .int v3] d23_7 (List.mem_of_getElem? (i := 44) rfl) rfl ⟨by decide, by decide, Nat.le_of_ble_eq_true rfl, rfl, mcd73⟩ rfl rfl (Nat.le_of_ble_eq_true rfl) (hg17 _ _) rfl (t_f73 e2) ?_
  rcases ite_some h with ⟨c3, h⟩ | ⟨c3, h⟩
  · refine R_br 26 d23_10 (mb_t (b := (q1 ≤ (0 : Int32))) c3) rfl ?_
    refine R_p d23_26 rfl rfl ?_
    refine R_get d23_27 (Or.inl (List.mem_of_getElem? (i := 20) rfl)) (hg29 _ _) rfl ?_
    refine R_p d23_30 rfl rfl ?_
    refine R_p d23_31 rfl rfl ?_
    refine R_p d23_32 rfl rfl ?_
    obtain ⟨q4, e5, h⟩ := bd_some h
    refine R_cm [.int v2, .int v1, .int v3] d23_33 (List.mem_of_getElem? (i := 49) rfl) rfl ⟨by decide, by decide, Nat.le_of_ble_eq_true rfl, rfl, mcd49⟩ rfl rfl (Nat.le_of_ble_eq_true rfl) (hg23 _ _) rfl (t_f49 e5) ?_
    cases h
    exact R_vret d23_36 rfl rfl
  · refine R_nb d23_10 rfl (mb_f (b := (q1 ≤ (0 : Int32))) c3) ?_
    refine R_p d23_13 rfl rfl ?_
    refine R_get d23_14 (Or.inl (List.mem_of_getElem? (i := 20) rfl)) (hg29 _ _) rfl ?_
    refine R_p d23_17 rfl rfl ?_
    refine R_p d23_18 rfl rfl ?_
    refine R_p d23_19 rfl rfl ?_
    obtain ⟨q6, e7, h⟩ := bd_some h
    refine R_cm [.int v1, .int v2, .int v3] d23_20 (List.mem_of_getElem? (i := 49) rfl) rfl ⟨by decide, by decide, Nat.le_of_ble_eq_true rfl, rfl, mcd49⟩ rfl rfl (Nat.le_of_ble_eq_true rfl) (hg23 _ _) rfl (t_f49 e7) ?_
    refine R_br 36 d23_23 rfl rfl ?_
    cases h
    exact R_vret d23_36 rfl rfl
def r21 : Nat → Int32 → Int32 → mS → Option (mS)
  | 0, _, _, _ => none
  | k + 1, v1, v2, s =>
    (if (v1 ≤ v2) then
        some s
      else
        (f22 k v2 v1 s).bind fun q2 => (if (q2 = (-1 : Int32)) then
          r21 k v1 (v2 + Int32.ofInt 1) s
        else
          (f23 v2 q2 v1 s).bind fun q5 => r21 k v1 (v2 + Int32.ofInt 1) q5))
theorem s21 {S : mE} {ex : mHp} (k : Nat) : (∀ (v1 : Int32) (v2 : Int32) (s : mS) (r : mS), r21 k v1 v2 s = some r → Run S 21 (21, [(0, .ref 29), (1, .int v1), (2, .int v2)], [], hp s ex) (.inl none, hp r ex)) := by
  induction k with
  | zero => intro v1 v2 s r h; cases h
  | succ k ih =>
    intro v1 v2 s r h
    rw [r21] at h
    refine R_p d21_21 rfl rfl ?_
    refine R_p d21_22 rfl rfl ?_
    rcases ite_some h with ⟨c1, h⟩ | ⟨c1, h⟩
    · refine R_br 51 d21_23 (mb_t (b := (v1 ≤ v2)) c1) rfl ?_
      cases h
      exact R_vret d21_51 rfl rfl
    · refine R_nb d21_23 rfl (mb_f (b := (v1 ≤ v2)) c1) ?_
      refine R_p d21_26 rfl rfl ?_
      refine R_p d21_27 rfl rfl ?_
      refine R_p d21_28 rfl rfl ?_
      obtain ⟨q2, e3, h⟩ := bd_some h
      refine R_cm [.int v2, .int v1] d21_29 (List.mem_of_getElem? (i := 46) rfl) rfl ⟨by decide, by decide, Nat.le_of_ble_eq_true rfl, rfl, mcd22⟩ rfl rfl (Nat.le_of_ble_eq_true rfl) (hg29 _ _) rfl (t_f22 e3) ?_
      refine R_p (ls' := [(0, .ref 29), (1, .int v1), (2, .int v2), (3, .int q2)]) d21_32 rfl rfl ?_
      refine R_p d21_33 rfl rfl ?_
      refine R_ic (v := (-1)) d21_34 (by decide) ?_
      rcases ite_some h with ⟨c4, h⟩ | ⟨c4, h⟩
      · refine R_br 45 d21_35 (mb_t (b := (q2 = (-1 : Int32))) c4) rfl ?_
        refine R_p (ls' := [(0, .ref 29), (1, .int v1), (2, .int (v2 + Int32.ofInt 1)), (3, .int q2)]) d21_45 rfl rfl ?_
        refine R_br 21 d21_48 rfl rfl ?_
        exact R_wk [(0, .ref 29), (1, .int v1), (2, .int (v2 + Int32.ofInt 1))] (by simp) (ih v1 (v2 + Int32.ofInt 1) s _ h)
      · refine R_nb d21_35 rfl (mb_f (b := (q2 = (-1 : Int32))) c4) ?_
        refine R_p d21_38 rfl rfl ?_
        refine R_p d21_39 rfl rfl ?_
        refine R_p d21_40 rfl rfl ?_
        refine R_p d21_41 rfl rfl ?_
        obtain ⟨q5, e6, h⟩ := bd_some h
        refine R_cm [.int v2, .int q2, .int v1] d21_42 (List.mem_of_getElem? (i := 48) rfl) rfl ⟨by decide, by decide, Nat.le_of_ble_eq_true rfl, rfl, mcd23⟩ rfl rfl (Nat.le_of_ble_eq_true rfl) (hg29 _ _) rfl (t_f23 e6) ?_
        refine R_p (ls' := [(0, .ref 29), (1, .int v1), (2, .int (v2 + Int32.ofInt 1)), (3, .int q2)]) d21_45 rfl rfl ?_
        refine R_br 21 d21_48 rfl rfl ?_
        exact R_wk [(0, .ref 29), (1, .int v1), (2, .int (v2 + Int32.ofInt 1))] (by simp) (ih v1 (v2 + Int32.ofInt 1) q5 _ h)
def f21 (k : Nat) (v1 : Int32) (s : mS) : Option (mS) :=
  (if (v1 < (2 : Int32)) then
    some s
  else
    (f73 (0 : Int32) (1 : Int32) v1 s).bind fun q2 => (if (¬ q2 = (0 : Int32)) then
      r21 k v1 0 s
    else
      some s))
theorem t_f21 {S : mE} {ex : mHp} {k : Nat} {v1 : Int32} {s : mS} {r : mS} (h : f21 k v1 s = some r) : Run S 21 (0, [(0, .ref 29), (1, .int v1)], [], hp s ex) (.inl none, hp r ex) := by
  unfold f21 at h
  refine R_p d21_0 rfl rfl ?_
  refine R_ic (v := 2) d21_1 (by decide) ?_
  rcases ite_some h with ⟨c1, h⟩ | ⟨c1, h⟩
  · refine R_br 18 d21_2 (mb_t (b := (v1 < (2 : Int32))) c1) rfl ?_
    cases h
    exact R_vret d21_18 rfl rfl
  · refine R_nb d21_2 rfl (mb_f (b := (v1 < (2 : Int32))) c1) ?_
    refine R_p d21_5 rfl rfl ?_
    refine R_get d21_6 (Or.inl (List.mem_of_getElem? (i := 19) rfl)) (hg29 _ _) rfl ?_
    refine R_ic (v := 0) d21_9 (by decide) ?_
    refine R_ic (v := 1) d21_10 (by decide) ?_
    refine R_p d21_11 rfl rfl ?_
    obtain ⟨q2, e3, h⟩ := bd_some h
    refine R_cm [.int 0, .int 1, .int v1] d21_12 (List.mem_of_getElem? (i := 44) rfl) rfl ⟨by decide, by decide, Nat.le_of_ble_eq_true rfl, rfl, mcd73⟩ rfl rfl (Nat.le_of_ble_eq_true rfl) (hg17 _ _) rfl (t_f73 e3) ?_
    rcases ite_some h with ⟨c4, h⟩ | ⟨c4, h⟩
    · refine R_br 19 d21_15 (mb_t (b := (¬ q2 = (0 : Int32))) c4) rfl ?_
      refine R_ic (v := 0) d21_19 (by decide) ?_
      refine R_p (ls' := [(0, .ref 29), (1, .int v1), (2, .int 0)]) d21_20 rfl rfl ?_
      exact s21 (S := S) (ex := ex) k v1 0 s _ h
    · refine R_nb d21_15 rfl (mb_f (b := (¬ q2 = (0 : Int32))) c4) ?_
      cases h
      exact R_vret d21_18 rfl rfl
def f55 (v1 : Int32) (v2 : Int32) (s : mS) : Option (mS) :=
  (f169 v1 v2 s).bind fun q1 => (f170 v1 v2 s).bind fun q3 => rdI 40 q1 ((if (¬ (((s.2.1 28 (Int32.toNatClampNeg q1)) >>> (Int32.toInt64 q3 &&& 63)) &&& (1 : Int64)) = (0 : Int64)) then
    some s
  else
    rdI 40 q1 (rdI 40 q1 (pt (uJ 28 (vp_updL (s.2.1 28) (Int32.toNatClampNeg q1) ((s.2.1 28 (Int32.toNatClampNeg q1)) ||| ((1 : Int64) <<< (Int32.toInt64 q3 &&& 63)))) s) fun s9 => (f99 q1 q3 s9).bind fun q11 => rdI 800 (s9.2.2.1 3) (pt (uA 27 (upd (s9.1 27) (Int32.toNatClampNeg (s9.2.2.1 3)) q11) s9) fun s14 => pt (uF 3 ((s14.2.2.1 3) + (1 : Int32)) s14) fun s16 => some s16)))))
theorem t_f55 {S : mE} {ex : mHp} {v1 : Int32} {v2 : Int32} {s : mS} {r : mS} (h : f55 v1 v2 s = some r) : Run S 55 (0, [(0, .ref 23), (1, .int v1), (2, .int v2)], [], hp s ex) (.inl none, hp r ex) := by
  unfold f55 at h
  refine R_p d55_0 rfl rfl ?_
  refine R_p d55_1 rfl rfl ?_
  obtain ⟨q1, e2, h⟩ := bd_some h
  refine R_cs [.int v1, .int v2] d55_2 (List.mem_of_getElem? (i := 61) rfl) rfl ⟨by decide, by decide, Nat.le_of_ble_eq_true rfl, rfl, mcd169⟩ rfl rfl (Nat.le_of_ble_eq_true rfl) (t_f169 e2) ?_
  refine R_p (ls' := [(0, .ref 23), (1, .int v1), (2, .int v2), (3, .int q1)]) d55_5 rfl rfl ?_
  refine R_p d55_6 rfl rfl ?_
  refine R_p d55_7 rfl rfl ?_
  obtain ⟨q3, e4, h⟩ := bd_some h
  refine R_cs [.int v1, .int v2] d55_8 (List.mem_of_getElem? (i := 62) rfl) rfl ⟨by decide, by decide, Nat.le_of_ble_eq_true rfl, rfl, mcd170⟩ rfl rfl (Nat.le_of_ble_eq_true rfl) (t_f170 e4) ?_
  refine R_p (ls' := [(0, .ref 23), (1, .int v1), (2, .int v2), (3, .int q1), (4, .int q3)]) d55_11 rfl rfl ?_
  refine R_p d55_13 rfl rfl ?_
  refine R_get d55_14 (Or.inl (List.mem_of_getElem? (i := 18) rfl)) (hg23 _ _) rfl ?_
  refine R_p d55_17 rfl rfl ?_
  obtain ⟨c5, h⟩ := rdI_some h
  refine R_lld d55_18 (hg28 _ _) c5 ?_
  refine R_p d55_19 rfl rfl ?_
  refine R_p d55_21 rfl rfl ?_
  refine R_lc (v := 1) d55_22 (by decide) ?_
  refine R_p d55_23 rfl rfl ?_
  refine R_lc (v := 0) d55_24 (by decide) ?_
  refine R_p d55_25 rfl rfl ?_
  rcases ite_some h with ⟨c6, h⟩ | ⟨c6, h⟩
  · refine R_br 67 d55_26 (mb_t (b := (¬ (lg_cmp (((s.2.1 28 (Int32.toNatClampNeg q1)) >>> (Int32.toInt64 q3 &&& 63)) &&& (1 : Int64)) 0) = (0 : Int32))) (lgc_ne.mpr c6)) rfl ?_
    cases h
    exact R_vret d55_67 rfl rfl
  · refine R_nb d55_26 rfl (mb_f (b := (¬ (lg_cmp (((s.2.1 28 (Int32.toNatClampNeg q1)) >>> (Int32.toInt64 q3 &&& 63)) &&& (1 : Int64)) 0) = (0 : Int32))) (fun q => c6 (lgc_ne.mp q))) ?_
    refine R_p d55_29 rfl rfl ?_
    refine R_get d55_30 (Or.inl (List.mem_of_getElem? (i := 18) rfl)) (hg23 _ _) rfl ?_
    refine R_p d55_33 rfl rfl ?_
    refine R_p d55_34 rfl rfl ?_
    obtain ⟨c7, h⟩ := rdI_some h
    refine R_lld d55_35 (hg28 _ _) c7 ?_
    refine R_lc (v := 1) d55_36 (by decide) ?_
    refine R_p d55_37 rfl rfl ?_
    refine R_p d55_39 rfl rfl ?_
    refine R_p d55_40 rfl rfl ?_
    obtain ⟨c8, h⟩ := rdI_some h
    obtain ⟨s9, e10, h⟩ := pt_some h
    refine R_lst d55_41 (hg28 _ _) c8 ?_
    refine R_h (hp s9 ex) (by rw [e10]; exact hA28 _ _ _) ?_
    refine R_p d55_42 rfl rfl ?_
    refine R_get d55_43 (Or.inl (List.mem_of_getElem? (i := 16) rfl)) (hg23 _ _) rfl ?_
    refine R_p d55_46 rfl rfl ?_
    refine R_get d55_47 (Or.inl (List.mem_of_getElem? (i := 17) rfl)) (hg23 _ _) rfl ?_
    refine R_p d55_50 rfl rfl ?_
    refine R_p d55_51 rfl rfl ?_
    obtain ⟨q11, e12, h⟩ := bd_some h
    refine R_cs [.int q1, .int q3] d55_53 (List.mem_of_getElem? (i := 50) rfl) rfl ⟨by decide, by decide, Nat.le_of_ble_eq_true rfl, rfl, mcd99⟩ rfl rfl (Nat.le_of_ble_eq_true rfl) (t_f99 e12) ?_
    obtain ⟨c13, h⟩ := rdI_some h
    obtain ⟨s14, e15, h⟩ := pt_some h
    refine R_ist d55_56 (hg27 _ _) c13 ?_
    refine R_h (hp s14 ex) (by rw [e15]; exact hA27 _ _ _) ?_
    refine R_p d55_57 rfl rfl ?_
    refine R_p d55_58 rfl rfl ?_
    refine R_get d55_59 (Or.inl (List.mem_of_getElem? (i := 17) rfl)) (hg23 _ _) rfl ?_
    refine R_ic (v := 1) d55_62 (by decide) ?_
    refine R_p d55_63 rfl rfl ?_
    obtain ⟨s16, e17, h⟩ := pt_some h
    refine R_put d55_64 (List.mem_of_getElem? (i := 17) rfl) (hg23 _ _) (Nat.le_of_ble_eq_true rfl) rfl rfl (Or.inl rfl) ?_
    refine R_h (hp s16 ex) (by rw [e17]; exact hF3 _ _ _) ?_
    cases h
    exact R_vret d55_67 rfl rfl
def r24 : Nat → Nat → Int32 → Int32 → Int32 → mS → Option (mS)
  | 0, _, _, _, _, _ => none
  | k + 1, hd, v1, v2, v3, s =>
    if hd = 0 then (f46 s).bind fun q1 => (if (q1 ≤ v2) then
        some s
      else
        r24 k 1 v1 v2 0 s) else
    (if ((3 : Int32) ≤ v3) then
        r24 k 0 v1 (v2 + Int32.ofInt 1) 0 s
      else
        (f52 v2 v3 s).bind fun q2 => (f53 v2 v3 s).bind fun q4 => (f54 q4 q2 s).bind fun q6 => (if (¬ q6 = (-1 : Int32)) then
          r24 k 1 v1 v2 (v3 + Int32.ofInt 1) s
        else
          (f73 q2 q4 v1 s).bind fun q9 => (if ((0 : Int32) ≤ q9) then
            r24 k 1 v1 v2 (v3 + Int32.ofInt 1) s
          else
            (f49 q4 q2 v1 s).bind fun q12 => (f55 q2 q4 q12).bind fun q14 => r24 k 1 v1 v2 (v3 + Int32.ofInt 1) q14)))
theorem s24 {S : mE} {ex : mHp} (k : Nat) : (∀ (v1 : Int32) (v2 : Int32) (v3 : Int32) (s : mS) (r : mS), r24 k 0 v1 v2 v3 s = some r → Run S 24 (2, [(0, .ref 29), (1, .int v1), (2, .int v2)], [], hp s ex) (.inl none, hp r ex)) ∧ (∀ (v1 : Int32) (v2 : Int32) (v3 : Int32) (s : mS) (r : mS), r24 k 1 v1 v2 v3 s = some r → Run S 24 (15, [(0, .ref 29), (1, .int v1), (2, .int v2), (3, .int v3)], [], hp s ex) (.inl none, hp r ex)) := by
  induction k with
  | zero => refine ⟨?_, ?_⟩ <;> (intro v1 v2 v3 s r h; cases h)
  | succ k ih =>
    refine ⟨?_, ?_⟩
    · intro v1 v2 v3 s r h
      rw [r24, if_pos rfl] at h
      refine R_p d24_2 rfl rfl ?_
      refine R_p d24_3 rfl rfl ?_
      refine R_get d24_4 (Or.inl (List.mem_of_getElem? (i := 20) rfl)) (hg29 _ _) rfl ?_
      obtain ⟨q1, e2, h⟩ := bd_some h
      refine R_cm [] d24_7 (List.mem_of_getElem? (i := 42) rfl) rfl ⟨by decide, by decide, Nat.le_of_ble_eq_true rfl, rfl, mcd46⟩ rfl rfl (Nat.le_of_ble_eq_true rfl) (hg23 _ _) rfl (t_f46 e2) ?_
      rcases ite_some h with ⟨c3, h⟩ | ⟨c3, h⟩
      · refine R_br 107 d24_10 (mb_t (b := (q1 ≤ v2)) c3) rfl ?_
        cases h
        exact R_vret d24_107 rfl rfl
      · refine R_nb d24_10 rfl (mb_f (b := (q1 ≤ v2)) c3) ?_
        refine R_ic (v := 0) d24_13 (by decide) ?_
        refine R_p (ls' := [(0, .ref 29), (1, .int v1), (2, .int v2), (3, .int 0)]) d24_14 rfl rfl ?_
        exact ih.2 v1 v2 0 s _ h
    · intro v1 v2 v3 s r h
      rw [r24, if_neg (by decide)] at h
      refine R_p d24_15 rfl rfl ?_
      refine R_ic (v := 3) d24_16 (by decide) ?_
      rcases ite_some h with ⟨c1, h⟩ | ⟨c1, h⟩
      · refine R_br 101 d24_17 (mb_t (b := ((3 : Int32) ≤ v3)) c1) rfl ?_
        refine R_p (ls' := [(0, .ref 29), (1, .int v1), (2, .int (v2 + Int32.ofInt 1)), (3, .int v3)]) d24_101 rfl rfl ?_
        refine R_br 2 d24_104 rfl rfl ?_
        exact R_wk [(0, .ref 29), (1, .int v1), (2, .int (v2 + Int32.ofInt 1))] (by simp) (ih.1 v1 (v2 + Int32.ofInt 1) 0 s _ h)
      · refine R_nb d24_17 rfl (mb_f (b := ((3 : Int32) ≤ v3)) c1) ?_
        refine R_p d24_20 rfl rfl ?_
        refine R_get d24_21 (Or.inl (List.mem_of_getElem? (i := 20) rfl)) (hg29 _ _) rfl ?_
        refine R_p d24_24 rfl rfl ?_
        refine R_p d24_25 rfl rfl ?_
        obtain ⟨q2, e3, h⟩ := bd_some h
        refine R_cm [.int v2, .int v3] d24_26 (List.mem_of_getElem? (i := 57) rfl) rfl ⟨by decide, by decide, Nat.le_of_ble_eq_true rfl, rfl, mcd52⟩ rfl rfl (Nat.le_of_ble_eq_true rfl) (hg23 _ _) rfl (t_f52 e3) ?_
        refine R_p (ls' := [(0, .ref 29), (1, .int v1), (2, .int v2), (3, .int v3), (4, .int q2)]) d24_29 rfl rfl ?_
        refine R_p d24_31 rfl rfl ?_
        refine R_get d24_32 (Or.inl (List.mem_of_getElem? (i := 20) rfl)) (hg29 _ _) rfl ?_
        refine R_p d24_35 rfl rfl ?_
        refine R_p d24_36 rfl rfl ?_
        obtain ⟨q4, e5, h⟩ := bd_some h
        refine R_cm [.int v2, .int v3] d24_37 (List.mem_of_getElem? (i := 58) rfl) rfl ⟨by decide, by decide, Nat.le_of_ble_eq_true rfl, rfl, mcd53⟩ rfl rfl (Nat.le_of_ble_eq_true rfl) (hg23 _ _) rfl (t_f53 e5) ?_
        refine R_p (ls' := [(0, .ref 29), (1, .int v1), (2, .int v2), (3, .int v3), (4, .int q2), (5, .int q4)]) d24_40 rfl rfl ?_
        refine R_p d24_42 rfl rfl ?_
        refine R_get d24_43 (Or.inl (List.mem_of_getElem? (i := 20) rfl)) (hg29 _ _) rfl ?_
        refine R_p d24_46 rfl rfl ?_
        refine R_p d24_48 rfl rfl ?_
        obtain ⟨q6, e7, h⟩ := bd_some h
        refine R_cm [.int q4, .int q2] d24_50 (List.mem_of_getElem? (i := 59) rfl) rfl ⟨by decide, by decide, Nat.le_of_ble_eq_true rfl, rfl, mcd54⟩ rfl rfl (Nat.le_of_ble_eq_true rfl) (hg23 _ _) rfl (t_f54 e7) ?_
        refine R_ic (v := (-1)) d24_53 (by decide) ?_
        rcases ite_some h with ⟨c8, h⟩ | ⟨c8, h⟩
        · refine R_br 95 d24_54 (mb_t (b := (¬ q6 = (-1 : Int32))) c8) rfl ?_
          refine R_p (ls' := [(0, .ref 29), (1, .int v1), (2, .int v2), (3, .int (v3 + Int32.ofInt 1)), (4, .int q2), (5, .int q4)]) d24_95 rfl rfl ?_
          refine R_br 15 d24_98 rfl rfl ?_
          exact R_wk [(0, .ref 29), (1, .int v1), (2, .int v2), (3, .int (v3 + Int32.ofInt 1))] (by simp) (ih.2 v1 v2 (v3 + Int32.ofInt 1) s _ h)
        · refine R_nb d24_54 rfl (mb_f (b := (¬ q6 = (-1 : Int32))) c8) ?_
          refine R_p d24_57 rfl rfl ?_
          refine R_get d24_58 (Or.inl (List.mem_of_getElem? (i := 19) rfl)) (hg29 _ _) rfl ?_
          refine R_p d24_61 rfl rfl ?_
          refine R_p d24_63 rfl rfl ?_
          refine R_p d24_65 rfl rfl ?_
          obtain ⟨q9, e10, h⟩ := bd_some h
          refine R_cm [.int q2, .int q4, .int v1] d24_66 (List.mem_of_getElem? (i := 44) rfl) rfl ⟨by decide, by decide, Nat.le_of_ble_eq_true rfl, rfl, mcd73⟩ rfl rfl (Nat.le_of_ble_eq_true rfl) (hg17 _ _) rfl (t_f73 e10) ?_
          rcases ite_some h with ⟨c11, h⟩ | ⟨c11, h⟩
          · refine R_br 95 d24_69 (mb_t (b := ((0 : Int32) ≤ q9)) c11) rfl ?_
            refine R_p (ls' := [(0, .ref 29), (1, .int v1), (2, .int v2), (3, .int (v3 + Int32.ofInt 1)), (4, .int q2), (5, .int q4)]) d24_95 rfl rfl ?_
            refine R_br 15 d24_98 rfl rfl ?_
            exact R_wk [(0, .ref 29), (1, .int v1), (2, .int v2), (3, .int (v3 + Int32.ofInt 1))] (by simp) (ih.2 v1 v2 (v3 + Int32.ofInt 1) s _ h)
          · refine R_nb d24_69 rfl (mb_f (b := ((0 : Int32) ≤ q9)) c11) ?_
            refine R_p d24_72 rfl rfl ?_
            refine R_get d24_73 (Or.inl (List.mem_of_getElem? (i := 20) rfl)) (hg29 _ _) rfl ?_
            refine R_p d24_76 rfl rfl ?_
            refine R_p d24_78 rfl rfl ?_
            refine R_p d24_80 rfl rfl ?_
            obtain ⟨q12, e13, h⟩ := bd_some h
            refine R_cm [.int q4, .int q2, .int v1] d24_81 (List.mem_of_getElem? (i := 49) rfl) rfl ⟨by decide, by decide, Nat.le_of_ble_eq_true rfl, rfl, mcd49⟩ rfl rfl (Nat.le_of_ble_eq_true rfl) (hg23 _ _) rfl (t_f49 e13) ?_
            refine R_p d24_84 rfl rfl ?_
            refine R_get d24_85 (Or.inl (List.mem_of_getElem? (i := 20) rfl)) (hg29 _ _) rfl ?_
            refine R_p d24_88 rfl rfl ?_
            refine R_p d24_90 rfl rfl ?_
            obtain ⟨q14, e15, h⟩ := bd_some h
            refine R_cm [.int q2, .int q4] d24_92 (List.mem_of_getElem? (i := 60) rfl) rfl ⟨by decide, by decide, Nat.le_of_ble_eq_true rfl, rfl, mcd55⟩ rfl rfl (Nat.le_of_ble_eq_true rfl) (hg23 _ _) rfl (t_f55 e15) ?_
            refine R_p (ls' := [(0, .ref 29), (1, .int v1), (2, .int v2), (3, .int (v3 + Int32.ofInt 1)), (4, .int q2), (5, .int q4)]) d24_95 rfl rfl ?_
            refine R_br 15 d24_98 rfl rfl ?_
            exact R_wk [(0, .ref 29), (1, .int v1), (2, .int v2), (3, .int (v3 + Int32.ofInt 1))] (by simp) (ih.2 v1 v2 (v3 + Int32.ofInt 1) q14 _ h)
def f24 (k : Nat) (v1 : Int32) (s : mS) : Option (mS) :=
  r24 k 0 v1 0 0 s
theorem t_f24 {S : mE} {ex : mHp} {k : Nat} {v1 : Int32} {s : mS} {r : mS} (h : f24 k v1 s = some r) : Run S 24 (0, [(0, .ref 29), (1, .int v1)], [], hp s ex) (.inl none, hp r ex) := by
  unfold f24 at h
  refine R_ic (v := 0) d24_0 (by decide) ?_
  refine R_p (ls' := [(0, .ref 29), (1, .int v1), (2, .int 0)]) d24_1 rfl rfl ?_
  exact (s24 (S := S) (ex := ex) k).1 v1 0 0 s _ h
def f56 (v1 : Int32) (v2 : Int32) (v3 : Int32) (s : mS) : Option (mS) :=
  (f99 v1 v2 s).bind fun q1 => rdI 1600 q1 (pt (uA 24 (upd (s.1 24) (Int32.toNatClampNeg q1) (-1)) s) fun s4 => (f99 v2 v3 s4).bind fun q6 => rdI 1600 q6 (pt (uA 24 (upd (s4.1 24) (Int32.toNatClampNeg q6) (-1)) s4) fun s9 => (f99 v3 v1 s9).bind fun q11 => rdI 1600 q11 (pt (uA 24 (upd (s9.1 24) (Int32.toNatClampNeg q11) (-1)) s9) fun s14 => some s14)))
theorem t_f56 {S : mE} {ex : mHp} {v1 : Int32} {v2 : Int32} {v3 : Int32} {s : mS} {r : mS} (h : f56 v1 v2 v3 s = some r) : Run S 56 (0, [(0, .ref 23), (1, .int v1), (2, .int v2), (3, .int v3)], [], hp s ex) (.inl none, hp r ex) := by
  unfold f56 at h
  refine R_p d56_0 rfl rfl ?_
  refine R_get d56_1 (Or.inl (List.mem_of_getElem? (i := 12) rfl)) (hg23 _ _) rfl ?_
  refine R_p d56_4 rfl rfl ?_
  refine R_p d56_5 rfl rfl ?_
  obtain ⟨q1, e2, h⟩ := bd_some h
  refine R_cs [.int v1, .int v2] d56_6 (List.mem_of_getElem? (i := 50) rfl) rfl ⟨by decide, by decide, Nat.le_of_ble_eq_true rfl, rfl, mcd99⟩ rfl rfl (Nat.le_of_ble_eq_true rfl) (t_f99 e2) ?_
  refine R_ic (v := (-1)) d56_9 (by decide) ?_
  obtain ⟨c3, h⟩ := rdI_some h
  obtain ⟨s4, e5, h⟩ := pt_some h
  refine R_ist d56_10 (hg24 _ _) c3 ?_
  refine R_h (hp s4 ex) (by rw [e5]; exact hA24 _ _ _) ?_
  refine R_p d56_11 rfl rfl ?_
  refine R_get d56_12 (Or.inl (List.mem_of_getElem? (i := 12) rfl)) (hg23 _ _) rfl ?_
  refine R_p d56_15 rfl rfl ?_
  refine R_p d56_16 rfl rfl ?_
  obtain ⟨q6, e7, h⟩ := bd_some h
  refine R_cs [.int v2, .int v3] d56_17 (List.mem_of_getElem? (i := 50) rfl) rfl ⟨by decide, by decide, Nat.le_of_ble_eq_true rfl, rfl, mcd99⟩ rfl rfl (Nat.le_of_ble_eq_true rfl) (t_f99 e7) ?_
  refine R_ic (v := (-1)) d56_20 (by decide) ?_
  obtain ⟨c8, h⟩ := rdI_some h
  obtain ⟨s9, e10, h⟩ := pt_some h
  refine R_ist d56_21 (hg24 _ _) c8 ?_
  refine R_h (hp s9 ex) (by rw [e10]; exact hA24 _ _ _) ?_
  refine R_p d56_22 rfl rfl ?_
  refine R_get d56_23 (Or.inl (List.mem_of_getElem? (i := 12) rfl)) (hg23 _ _) rfl ?_
  refine R_p d56_26 rfl rfl ?_
  refine R_p d56_27 rfl rfl ?_
  obtain ⟨q11, e12, h⟩ := bd_some h
  refine R_cs [.int v3, .int v1] d56_28 (List.mem_of_getElem? (i := 50) rfl) rfl ⟨by decide, by decide, Nat.le_of_ble_eq_true rfl, rfl, mcd99⟩ rfl rfl (Nat.le_of_ble_eq_true rfl) (t_f99 e12) ?_
  refine R_ic (v := (-1)) d56_31 (by decide) ?_
  obtain ⟨c13, h⟩ := rdI_some h
  obtain ⟨s14, e15, h⟩ := pt_some h
  refine R_ist d56_32 (hg24 _ _) c13 ?_
  refine R_h (hp s14 ex) (by rw [e15]; exact hA24 _ _ _) ?_
  cases h
  exact R_vret d56_33 rfl rfl
def f27 (v1 : Int32) (v2 : Int32) (v3 : Int32) (s : mS) : Option (mS) :=
  (f54 v2 v1 s).bind fun q1 => (if (q1 = (-1 : Int32)) then
    some s
  else
    (f56 v2 v1 q1 s).bind fun q4 => (f49 v1 q1 v3 q4).bind fun q6 => (f49 q1 v2 v3 q6).bind fun q8 => (f55 v1 q1 q8).bind fun q10 => (f55 q1 v2 q10).bind fun q12 => some q12)
theorem t_f27 {S : mE} {ex : mHp} {v1 : Int32} {v2 : Int32} {v3 : Int32} {s : mS} {r : mS} (h : f27 v1 v2 v3 s = some r) : Run S 27 (0, [(0, .ref 29), (1, .int v1), (2, .int v2), (3, .int v3)], [], hp s ex) (.inl none, hp r ex) := by
  unfold f27 at h
  refine R_p d27_0 rfl rfl ?_
  refine R_get d27_1 (Or.inl (List.mem_of_getElem? (i := 20) rfl)) (hg29 _ _) rfl ?_
  refine R_p d27_4 rfl rfl ?_
  refine R_p d27_5 rfl rfl ?_
  obtain ⟨q1, e2, h⟩ := bd_some h
  refine R_cm [.int v2, .int v1] d27_6 (List.mem_of_getElem? (i := 59) rfl) rfl ⟨by decide, by decide, Nat.le_of_ble_eq_true rfl, rfl, mcd54⟩ rfl rfl (Nat.le_of_ble_eq_true rfl) (hg23 _ _) rfl (t_f54 e2) ?_
  refine R_p (ls' := [(0, .ref 29), (1, .int v1), (2, .int v2), (3, .int v3), (4, .int q1)]) d27_9 rfl rfl ?_
  refine R_p d27_11 rfl rfl ?_
  refine R_ic (v := (-1)) d27_13 (by decide) ?_
  rcases ite_some h with ⟨c3, h⟩ | ⟨c3, h⟩
  · refine R_br 70 d27_14 (mb_t (b := (q1 = (-1 : Int32))) c3) rfl ?_
    cases h
    exact R_vret d27_70 rfl rfl
  · refine R_nb d27_14 rfl (mb_f (b := (q1 = (-1 : Int32))) c3) ?_
    refine R_p d27_17 rfl rfl ?_
    refine R_get d27_18 (Or.inl (List.mem_of_getElem? (i := 20) rfl)) (hg29 _ _) rfl ?_
    refine R_p d27_21 rfl rfl ?_
    refine R_p d27_22 rfl rfl ?_
    refine R_p d27_23 rfl rfl ?_
    obtain ⟨q4, e5, h⟩ := bd_some h
    refine R_cm [.int v2, .int v1, .int q1] d27_25 (List.mem_of_getElem? (i := 64) rfl) rfl ⟨by decide, by decide, Nat.le_of_ble_eq_true rfl, rfl, mcd56⟩ rfl rfl (Nat.le_of_ble_eq_true rfl) (hg23 _ _) rfl (t_f56 e5) ?_
    refine R_p d27_28 rfl rfl ?_
    refine R_get d27_29 (Or.inl (List.mem_of_getElem? (i := 20) rfl)) (hg29 _ _) rfl ?_
    refine R_p d27_32 rfl rfl ?_
    refine R_p d27_33 rfl rfl ?_
    refine R_p d27_35 rfl rfl ?_
    obtain ⟨q6, e7, h⟩ := bd_some h
    refine R_cm [.int v1, .int q1, .int v3] d27_36 (List.mem_of_getElem? (i := 49) rfl) rfl ⟨by decide, by decide, Nat.le_of_ble_eq_true rfl, rfl, mcd49⟩ rfl rfl (Nat.le_of_ble_eq_true rfl) (hg23 _ _) rfl (t_f49 e7) ?_
    refine R_p d27_39 rfl rfl ?_
    refine R_get d27_40 (Or.inl (List.mem_of_getElem? (i := 20) rfl)) (hg29 _ _) rfl ?_
    refine R_p d27_43 rfl rfl ?_
    refine R_p d27_45 rfl rfl ?_
    refine R_p d27_46 rfl rfl ?_
    obtain ⟨q8, e9, h⟩ := bd_some h
    refine R_cm [.int q1, .int v2, .int v3] d27_47 (List.mem_of_getElem? (i := 49) rfl) rfl ⟨by decide, by decide, Nat.le_of_ble_eq_true rfl, rfl, mcd49⟩ rfl rfl (Nat.le_of_ble_eq_true rfl) (hg23 _ _) rfl (t_f49 e9) ?_
    refine R_p d27_50 rfl rfl ?_
    refine R_get d27_51 (Or.inl (List.mem_of_getElem? (i := 20) rfl)) (hg29 _ _) rfl ?_
    refine R_p d27_54 rfl rfl ?_
    refine R_p d27_55 rfl rfl ?_
    obtain ⟨q10, e11, h⟩ := bd_some h
    refine R_cm [.int v1, .int q1] d27_57 (List.mem_of_getElem? (i := 60) rfl) rfl ⟨by decide, by decide, Nat.le_of_ble_eq_true rfl, rfl, mcd55⟩ rfl rfl (Nat.le_of_ble_eq_true rfl) (hg23 _ _) rfl (t_f55 e11) ?_
    refine R_p d27_60 rfl rfl ?_
    refine R_get d27_61 (Or.inl (List.mem_of_getElem? (i := 20) rfl)) (hg29 _ _) rfl ?_
    refine R_p d27_64 rfl rfl ?_
    refine R_p d27_66 rfl rfl ?_
    obtain ⟨q12, e13, h⟩ := bd_some h
    refine R_cm [.int q1, .int v2] d27_67 (List.mem_of_getElem? (i := 60) rfl) rfl ⟨by decide, by decide, Nat.le_of_ble_eq_true rfl, rfl, mcd55⟩ rfl rfl (Nat.le_of_ble_eq_true rfl) (hg23 _ _) rfl (t_f55 e13) ?_
    cases h
    exact R_vret d27_70 rfl rfl
def f26 (v1 : Int32) (v2 : Int32) (v3 : Int32) (s : mS) : Option (mS) :=
  (f73 v1 v2 v3 s).bind fun q1 => (if (q1 ≤ (0 : Int32)) then
    (f27 v1 v2 v3 s).bind fun q4 => some q4
  else
    (f49 v1 v2 v3 s).bind fun q6 => (f55 v1 v2 q6).bind fun q8 => some q8)
theorem t_f26 {S : mE} {ex : mHp} {v1 : Int32} {v2 : Int32} {v3 : Int32} {s : mS} {r : mS} (h : f26 v1 v2 v3 s = some r) : Run S 26 (0, [(0, .ref 29), (1, .int v1), (2, .int v2), (3, .int v3)], [], hp s ex) (.inl none, hp r ex) := by
  unfold f26 at h
  refine R_p d26_0 rfl rfl ?_
  refine R_get d26_1 (Or.inl (List.mem_of_getElem? (i := 19) rfl)) (hg29 _ _) rfl ?_
  refine R_p d26_4 rfl rfl ?_
  refine R_p d26_5 rfl rfl ?_
  refine R_p d26_6 rfl rfl ?_
  obtain ⟨q1, e2, h⟩ := bd_some h
  refine R_cm [.int v1, .int v2, .int v3] d26_7 (List.mem_of_getElem? (i := 44) rfl) rfl ⟨by decide, by decide, Nat.le_of_ble_eq_true rfl, rfl, mcd73⟩ rfl rfl (Nat.le_of_ble_eq_true rfl) (hg17 _ _) rfl (t_f73 e2) ?_
  rcases ite_some h with ⟨c3, h⟩ | ⟨c3, h⟩
  · refine R_br 35 d26_10 (mb_t (b := (q1 ≤ (0 : Int32))) c3) rfl ?_
    refine R_p d26_35 rfl rfl ?_
    refine R_p d26_36 rfl rfl ?_
    refine R_p d26_37 rfl rfl ?_
    refine R_p d26_38 rfl rfl ?_
    obtain ⟨q4, e5, h⟩ := bd_some h
    refine R_cm [.int v1, .int v2, .int v3] d26_39 (List.mem_of_getElem? (i := 66) rfl) rfl ⟨by decide, by decide, Nat.le_of_ble_eq_true rfl, rfl, mcd27⟩ rfl rfl (Nat.le_of_ble_eq_true rfl) (hg29 _ _) rfl (t_f27 e5) ?_
    cases h
    exact R_vret d26_42 rfl rfl
  · refine R_nb d26_10 rfl (mb_f (b := (q1 ≤ (0 : Int32))) c3) ?_
    refine R_p d26_13 rfl rfl ?_
    refine R_get d26_14 (Or.inl (List.mem_of_getElem? (i := 20) rfl)) (hg29 _ _) rfl ?_
    refine R_p d26_17 rfl rfl ?_
    refine R_p d26_18 rfl rfl ?_
    refine R_p d26_19 rfl rfl ?_
    obtain ⟨q6, e7, h⟩ := bd_some h
    refine R_cm [.int v1, .int v2, .int v3] d26_20 (List.mem_of_getElem? (i := 49) rfl) rfl ⟨by decide, by decide, Nat.le_of_ble_eq_true rfl, rfl, mcd49⟩ rfl rfl (Nat.le_of_ble_eq_true rfl) (hg23 _ _) rfl (t_f49 e7) ?_
    refine R_p d26_23 rfl rfl ?_
    refine R_get d26_24 (Or.inl (List.mem_of_getElem? (i := 20) rfl)) (hg29 _ _) rfl ?_
    refine R_p d26_27 rfl rfl ?_
    refine R_p d26_28 rfl rfl ?_
    obtain ⟨q8, e9, h⟩ := bd_some h
    refine R_cm [.int v1, .int v2] d26_29 (List.mem_of_getElem? (i := 60) rfl) rfl ⟨by decide, by decide, Nat.le_of_ble_eq_true rfl, rfl, mcd55⟩ rfl rfl (Nat.le_of_ble_eq_true rfl) (hg23 _ _) rfl (t_f55 e9) ?_
    refine R_br 42 d26_32 rfl rfl ?_
    cases h
    exact R_vret d26_42 rfl rfl
def f25 (v1 : Int32) (v2 : Int32) (s : mS) : Option (mS) :=
  (f52 v1 (0 : Int32) s).bind fun q1 => (f52 v1 (1 : Int32) s).bind fun q3 => (f52 v1 (2 : Int32) s).bind fun q5 => (f56 q1 q3 q5 s).bind fun q7 => (f26 q1 q3 v2 q7).bind fun q9 => (f26 q3 q5 v2 q9).bind fun q11 => (f26 q5 q1 v2 q11).bind fun q13 => some q13
theorem t_f25 {S : mE} {ex : mHp} {v1 : Int32} {v2 : Int32} {s : mS} {r : mS} (h : f25 v1 v2 s = some r) : Run S 25 (0, [(0, .ref 29), (1, .int v1), (2, .int v2)], [], hp s ex) (.inl none, hp r ex) := by
  unfold f25 at h
  refine R_p d25_0 rfl rfl ?_
  refine R_get d25_1 (Or.inl (List.mem_of_getElem? (i := 20) rfl)) (hg29 _ _) rfl ?_
  refine R_p d25_4 rfl rfl ?_
  refine R_ic (v := 0) d25_5 (by decide) ?_
  obtain ⟨q1, e2, h⟩ := bd_some h
  refine R_cm [.int v1, .int 0] d25_6 (List.mem_of_getElem? (i := 57) rfl) rfl ⟨by decide, by decide, Nat.le_of_ble_eq_true rfl, rfl, mcd52⟩ rfl rfl (Nat.le_of_ble_eq_true rfl) (hg23 _ _) rfl (t_f52 e2) ?_
  refine R_p (ls' := [(0, .ref 29), (1, .int v1), (2, .int v2), (3, .int q1)]) d25_9 rfl rfl ?_
  refine R_p d25_10 rfl rfl ?_
  refine R_get d25_11 (Or.inl (List.mem_of_getElem? (i := 20) rfl)) (hg29 _ _) rfl ?_
  refine R_p d25_14 rfl rfl ?_
  refine R_ic (v := 1) d25_15 (by decide) ?_
  obtain ⟨q3, e4, h⟩ := bd_some h
  refine R_cm [.int v1, .int 1] d25_16 (List.mem_of_getElem? (i := 57) rfl) rfl ⟨by decide, by decide, Nat.le_of_ble_eq_true rfl, rfl, mcd52⟩ rfl rfl (Nat.le_of_ble_eq_true rfl) (hg23 _ _) rfl (t_f52 e4) ?_
  refine R_p (ls' := [(0, .ref 29), (1, .int v1), (2, .int v2), (3, .int q1), (4, .int q3)]) d25_19 rfl rfl ?_
  refine R_p d25_21 rfl rfl ?_
  refine R_get d25_22 (Or.inl (List.mem_of_getElem? (i := 20) rfl)) (hg29 _ _) rfl ?_
  refine R_p d25_25 rfl rfl ?_
  refine R_ic (v := 2) d25_26 (by decide) ?_
  obtain ⟨q5, e6, h⟩ := bd_some h
  refine R_cm [.int v1, .int 2] d25_27 (List.mem_of_getElem? (i := 57) rfl) rfl ⟨by decide, by decide, Nat.le_of_ble_eq_true rfl, rfl, mcd52⟩ rfl rfl (Nat.le_of_ble_eq_true rfl) (hg23 _ _) rfl (t_f52 e6) ?_
  refine R_p (ls' := [(0, .ref 29), (1, .int v1), (2, .int v2), (3, .int q1), (4, .int q3), (5, .int q5)]) d25_30 rfl rfl ?_
  refine R_p d25_32 rfl rfl ?_
  refine R_get d25_33 (Or.inl (List.mem_of_getElem? (i := 20) rfl)) (hg29 _ _) rfl ?_
  refine R_p d25_36 rfl rfl ?_
  refine R_p d25_37 rfl rfl ?_
  refine R_p d25_39 rfl rfl ?_
  obtain ⟨q7, e8, h⟩ := bd_some h
  refine R_cm [.int q1, .int q3, .int q5] d25_41 (List.mem_of_getElem? (i := 64) rfl) rfl ⟨by decide, by decide, Nat.le_of_ble_eq_true rfl, rfl, mcd56⟩ rfl rfl (Nat.le_of_ble_eq_true rfl) (hg23 _ _) rfl (t_f56 e8) ?_
  refine R_p d25_44 rfl rfl ?_
  refine R_p d25_45 rfl rfl ?_
  refine R_p d25_46 rfl rfl ?_
  refine R_p d25_48 rfl rfl ?_
  obtain ⟨q9, e10, h⟩ := bd_some h
  refine R_cm [.int q1, .int q3, .int v2] d25_49 (List.mem_of_getElem? (i := 65) rfl) rfl ⟨by decide, by decide, Nat.le_of_ble_eq_true rfl, rfl, mcd26⟩ rfl rfl (Nat.le_of_ble_eq_true rfl) (hg29 _ _) rfl (t_f26 e10) ?_
  refine R_p d25_52 rfl rfl ?_
  refine R_p d25_53 rfl rfl ?_
  refine R_p d25_55 rfl rfl ?_
  refine R_p d25_57 rfl rfl ?_
  obtain ⟨q11, e12, h⟩ := bd_some h
  refine R_cm [.int q3, .int q5, .int v2] d25_58 (List.mem_of_getElem? (i := 65) rfl) rfl ⟨by decide, by decide, Nat.le_of_ble_eq_true rfl, rfl, mcd26⟩ rfl rfl (Nat.le_of_ble_eq_true rfl) (hg29 _ _) rfl (t_f26 e12) ?_
  refine R_p d25_61 rfl rfl ?_
  refine R_p d25_62 rfl rfl ?_
  refine R_p d25_64 rfl rfl ?_
  refine R_p d25_65 rfl rfl ?_
  obtain ⟨q13, e14, h⟩ := bd_some h
  refine R_cm [.int q5, .int q1, .int v2] d25_66 (List.mem_of_getElem? (i := 65) rfl) rfl ⟨by decide, by decide, Nat.le_of_ble_eq_true rfl, rfl, mcd26⟩ rfl rfl (Nat.le_of_ble_eq_true rfl) (hg29 _ _) rfl (t_f26 e14) ?_
  cases h
  exact R_vret d25_69 rfl rfl
def f58 (v1 : Int32) (v2 : Int32) (s : mS) : Option (Int32 × mS) :=
  (f54 v1 v2 s).bind fun q1 => (f54 v2 v1 s).bind fun q3 => (if (q1 = (-1 : Int32)) then
    some ((1 : Int32), s)
  else
    (if (¬ q3 = (-1 : Int32)) then
      (f75 v1 v2 q1 q3 s).bind fun q7 => (if (q7.1 < (0 : Int32)) then
        some ((1 : Int32), q7.2)
      else
        (if (¬ q7.1 = (0 : Int32)) then
          some ((0 : Int32), q7.2)
        else
          (f169 v1 v2 q7.2).bind fun q11 => (f169 q1 q3 q7.2).bind fun q13 => (if (q13 ≤ q11) then
            some ((0 : Int32), q7.2)
          else
            some ((1 : Int32), q7.2))))
    else
      some ((1 : Int32), s)))
theorem t_f58 {S : mE} {ex : mHp} {v1 : Int32} {v2 : Int32} {s : mS} {r : Int32 × mS} (h : f58 v1 v2 s = some r) : Run S 58 (0, [(0, .ref 23), (1, .int v1), (2, .int v2)], [], hp s ex) (.inl (some (.int r.1)), hp r.2 ex) := by
  unfold f58 at h
  refine R_p d58_0 rfl rfl ?_
  refine R_p d58_1 rfl rfl ?_
  refine R_p d58_2 rfl rfl ?_
  obtain ⟨q1, e2, h⟩ := bd_some h
  refine R_cm [.int v1, .int v2] d58_3 (List.mem_of_getElem? (i := 70) rfl) rfl ⟨by decide, by decide, Nat.le_of_ble_eq_true rfl, rfl, mcd54⟩ rfl rfl (Nat.le_of_ble_eq_true rfl) (hg23 _ _) rfl (t_f54 e2) ?_
  refine R_p (ls' := [(0, .ref 23), (1, .int v1), (2, .int v2), (3, .int q1)]) d58_6 rfl rfl ?_
  refine R_p d58_7 rfl rfl ?_
  refine R_p d58_8 rfl rfl ?_
  refine R_p d58_9 rfl rfl ?_
  obtain ⟨q3, e4, h⟩ := bd_some h
  refine R_cm [.int v2, .int v1] d58_10 (List.mem_of_getElem? (i := 70) rfl) rfl ⟨by decide, by decide, Nat.le_of_ble_eq_true rfl, rfl, mcd54⟩ rfl rfl (Nat.le_of_ble_eq_true rfl) (hg23 _ _) rfl (t_f54 e4) ?_
  refine R_p (ls' := [(0, .ref 23), (1, .int v1), (2, .int v2), (3, .int q1), (4, .int q3)]) d58_13 rfl rfl ?_
  refine R_p d58_15 rfl rfl ?_
  refine R_ic (v := (-1)) d58_16 (by decide) ?_
  rcases ite_some h with ⟨c5, h⟩ | ⟨c5, h⟩
  · refine R_br 26 d58_17 (mb_t (b := (q1 = (-1 : Int32))) c5) rfl ?_
    refine R_ic (v := 1) d58_26 (by decide) ?_
    cases h
    exact R_iret d58_27 rfl rfl rfl
  · refine R_nb d58_17 rfl (mb_f (b := (q1 = (-1 : Int32))) c5) ?_
    refine R_p d58_20 rfl rfl ?_
    refine R_ic (v := (-1)) d58_22 (by decide) ?_
    rcases ite_some h with ⟨c6, h⟩ | ⟨c6, h⟩
    · refine R_br 28 d58_23 (mb_t (b := (¬ q3 = (-1 : Int32))) c6) rfl ?_
      refine R_p d58_28 rfl rfl ?_
      refine R_get d58_29 (Or.inl (List.mem_of_getElem? (i := 10) rfl)) (hg23 _ _) rfl ?_
      refine R_p d58_32 rfl rfl ?_
      refine R_p d58_33 rfl rfl ?_
      refine R_p d58_34 rfl rfl ?_
      refine R_p d58_35 rfl rfl ?_
      obtain ⟨q7, e8, h⟩ := bd_some h
      refine R_cm [.int v1, .int v2, .int q1, .int q3] d58_37 (List.mem_of_getElem? (i := 71) rfl) rfl ⟨by decide, by decide, Nat.le_of_ble_eq_true rfl, rfl, mcd75⟩ rfl rfl (Nat.le_of_ble_eq_true rfl) (hg17 _ _) rfl (t_f75 e8) ?_
      refine R_p (ls' := [(0, .ref 23), (1, .int v1), (2, .int v2), (3, .int q1), (4, .int q3), (5, .int q7.1)]) d58_40 rfl rfl ?_
      refine R_p d58_42 rfl rfl ?_
      rcases ite_some h with ⟨c9, h⟩ | ⟨c9, h⟩
      · refine R_br 66 d58_44 (mb_t (b := (q7.1 < (0 : Int32))) c9) rfl ?_
        refine R_ic (v := 1) d58_66 (by decide) ?_
        refine R_br 71 d58_67 rfl rfl ?_
        cases h
        exact R_iret d58_71 rfl rfl rfl
      · refine R_nb d58_44 rfl (mb_f (b := (q7.1 < (0 : Int32))) c9) ?_
        refine R_p d58_47 rfl rfl ?_
        rcases ite_some h with ⟨c10, h⟩ | ⟨c10, h⟩
        · refine R_br 70 d58_49 (mb_t (b := (¬ q7.1 = (0 : Int32))) c10) rfl ?_
          refine R_ic (v := 0) d58_70 (by decide) ?_
          cases h
          exact R_iret d58_71 rfl rfl rfl
        · refine R_nb d58_49 rfl (mb_f (b := (¬ q7.1 = (0 : Int32))) c10) ?_
          refine R_p d58_52 rfl rfl ?_
          refine R_p d58_53 rfl rfl ?_
          obtain ⟨q11, e12, h⟩ := bd_some h
          refine R_cs [.int v1, .int v2] d58_54 (List.mem_of_getElem? (i := 61) rfl) rfl ⟨by decide, by decide, Nat.le_of_ble_eq_true rfl, rfl, mcd169⟩ rfl rfl (Nat.le_of_ble_eq_true rfl) (t_f169 e12) ?_
          refine R_p d58_57 rfl rfl ?_
          refine R_p d58_58 rfl rfl ?_
          obtain ⟨q13, e14, h⟩ := bd_some h
          refine R_cs [.int q1, .int q3] d58_60 (List.mem_of_getElem? (i := 61) rfl) rfl ⟨by decide, by decide, Nat.le_of_ble_eq_true rfl, rfl, mcd169⟩ rfl rfl (Nat.le_of_ble_eq_true rfl) (t_f169 e14) ?_
          rcases ite_some h with ⟨c15, h⟩ | ⟨c15, h⟩
          · refine R_br 70 d58_63 (mb_t (b := (q13 ≤ q11)) c15) rfl ?_
            refine R_ic (v := 0) d58_70 (by decide) ?_
            cases h
            exact R_iret d58_71 rfl rfl rfl
          · refine R_nb d58_63 rfl (mb_f (b := (q13 ≤ q11)) c15) ?_
            refine R_ic (v := 1) d58_66 (by decide) ?_
            refine R_br 71 d58_67 rfl rfl ?_
            cases h
            exact R_iret d58_71 rfl rfl rfl
    · refine R_nb d58_23 rfl (mb_f (b := (¬ q3 = (-1 : Int32))) c6) ?_
      refine R_ic (v := 1) d58_26 (by decide) ?_
      cases h
      exact R_iret d58_27 rfl rfl rfl
def f59 (v1 : Int32) (v2 : Int32) (s : mS) : Option (mS) :=
  (f54 v1 v2 s).bind fun q1 => (f54 v2 v1 s).bind fun q3 => (f56 v1 v2 q1 s).bind fun q5 => (f56 v2 v1 q3 q5).bind fun q7 => (f49 v1 q3 q1 q7).bind fun q9 => (f49 q3 v2 q1 q9).bind fun q11 => (f55 v1 q3 q11).bind fun q13 => (f55 q3 v2 q13).bind fun q15 => (f55 v2 q1 q15).bind fun q17 => (f55 q1 v1 q17).bind fun q19 => some q19
theorem t_f59 {S : mE} {ex : mHp} {v1 : Int32} {v2 : Int32} {s : mS} {r : mS} (h : f59 v1 v2 s = some r) : Run S 59 (0, [(0, .ref 23), (1, .int v1), (2, .int v2)], [], hp s ex) (.inl none, hp r ex) := by
  unfold f59 at h
  refine R_p d59_0 rfl rfl ?_
  refine R_p d59_1 rfl rfl ?_
  refine R_p d59_2 rfl rfl ?_
  obtain ⟨q1, e2, h⟩ := bd_some h
  refine R_cm [.int v1, .int v2] d59_3 (List.mem_of_getElem? (i := 70) rfl) rfl ⟨by decide, by decide, Nat.le_of_ble_eq_true rfl, rfl, mcd54⟩ rfl rfl (Nat.le_of_ble_eq_true rfl) (hg23 _ _) rfl (t_f54 e2) ?_
  refine R_p (ls' := [(0, .ref 23), (1, .int v1), (2, .int v2), (3, .int q1)]) d59_6 rfl rfl ?_
  refine R_p d59_7 rfl rfl ?_
  refine R_p d59_8 rfl rfl ?_
  refine R_p d59_9 rfl rfl ?_
  obtain ⟨q3, e4, h⟩ := bd_some h
  refine R_cm [.int v2, .int v1] d59_10 (List.mem_of_getElem? (i := 70) rfl) rfl ⟨by decide, by decide, Nat.le_of_ble_eq_true rfl, rfl, mcd54⟩ rfl rfl (Nat.le_of_ble_eq_true rfl) (hg23 _ _) rfl (t_f54 e4) ?_
  refine R_p (ls' := [(0, .ref 23), (1, .int v1), (2, .int v2), (3, .int q1), (4, .int q3)]) d59_13 rfl rfl ?_
  refine R_p d59_15 rfl rfl ?_
  refine R_p d59_16 rfl rfl ?_
  refine R_p d59_17 rfl rfl ?_
  refine R_p d59_18 rfl rfl ?_
  obtain ⟨q5, e6, h⟩ := bd_some h
  refine R_cm [.int v1, .int v2, .int q1] d59_19 (List.mem_of_getElem? (i := 78) rfl) rfl ⟨by decide, by decide, Nat.le_of_ble_eq_true rfl, rfl, mcd56⟩ rfl rfl (Nat.le_of_ble_eq_true rfl) (hg23 _ _) rfl (t_f56 e6) ?_
  refine R_p d59_22 rfl rfl ?_
  refine R_p d59_23 rfl rfl ?_
  refine R_p d59_24 rfl rfl ?_
  refine R_p d59_25 rfl rfl ?_
  obtain ⟨q7, e8, h⟩ := bd_some h
  refine R_cm [.int v2, .int v1, .int q3] d59_27 (List.mem_of_getElem? (i := 78) rfl) rfl ⟨by decide, by decide, Nat.le_of_ble_eq_true rfl, rfl, mcd56⟩ rfl rfl (Nat.le_of_ble_eq_true rfl) (hg23 _ _) rfl (t_f56 e8) ?_
  refine R_p d59_30 rfl rfl ?_
  refine R_p d59_31 rfl rfl ?_
  refine R_p d59_32 rfl rfl ?_
  refine R_p d59_34 rfl rfl ?_
  obtain ⟨q9, e10, h⟩ := bd_some h
  refine R_cm [.int v1, .int q3, .int q1] d59_35 (List.mem_of_getElem? (i := 79) rfl) rfl ⟨by decide, by decide, Nat.le_of_ble_eq_true rfl, rfl, mcd49⟩ rfl rfl (Nat.le_of_ble_eq_true rfl) (hg23 _ _) rfl (t_f49 e10) ?_
  refine R_p d59_38 rfl rfl ?_
  refine R_p d59_39 rfl rfl ?_
  refine R_p d59_41 rfl rfl ?_
  refine R_p d59_42 rfl rfl ?_
  obtain ⟨q11, e12, h⟩ := bd_some h
  refine R_cm [.int q3, .int v2, .int q1] d59_43 (List.mem_of_getElem? (i := 79) rfl) rfl ⟨by decide, by decide, Nat.le_of_ble_eq_true rfl, rfl, mcd49⟩ rfl rfl (Nat.le_of_ble_eq_true rfl) (hg23 _ _) rfl (t_f49 e12) ?_
  refine R_p d59_46 rfl rfl ?_
  refine R_p d59_47 rfl rfl ?_
  refine R_p d59_48 rfl rfl ?_
  obtain ⟨q13, e14, h⟩ := bd_some h
  refine R_cm [.int v1, .int q3] d59_50 (List.mem_of_getElem? (i := 80) rfl) rfl ⟨by decide, by decide, Nat.le_of_ble_eq_true rfl, rfl, mcd55⟩ rfl rfl (Nat.le_of_ble_eq_true rfl) (hg23 _ _) rfl (t_f55 e14) ?_
  refine R_p d59_53 rfl rfl ?_
  refine R_p d59_54 rfl rfl ?_
  refine R_p d59_56 rfl rfl ?_
  obtain ⟨q15, e16, h⟩ := bd_some h
  refine R_cm [.int q3, .int v2] d59_57 (List.mem_of_getElem? (i := 80) rfl) rfl ⟨by decide, by decide, Nat.le_of_ble_eq_true rfl, rfl, mcd55⟩ rfl rfl (Nat.le_of_ble_eq_true rfl) (hg23 _ _) rfl (t_f55 e16) ?_
  refine R_p d59_60 rfl rfl ?_
  refine R_p d59_61 rfl rfl ?_
  refine R_p d59_62 rfl rfl ?_
  obtain ⟨q17, e18, h⟩ := bd_some h
  refine R_cm [.int v2, .int q1] d59_63 (List.mem_of_getElem? (i := 80) rfl) rfl ⟨by decide, by decide, Nat.le_of_ble_eq_true rfl, rfl, mcd55⟩ rfl rfl (Nat.le_of_ble_eq_true rfl) (hg23 _ _) rfl (t_f55 e18) ?_
  refine R_p d59_66 rfl rfl ?_
  refine R_p d59_67 rfl rfl ?_
  refine R_p d59_68 rfl rfl ?_
  obtain ⟨q19, e20, h⟩ := bd_some h
  refine R_cm [.int q1, .int v1] d59_69 (List.mem_of_getElem? (i := 80) rfl) rfl ⟨by decide, by decide, Nat.le_of_ble_eq_true rfl, rfl, mcd55⟩ rfl rfl (Nat.le_of_ble_eq_true rfl) (hg23 _ _) rfl (t_f55 e20) ?_
  cases h
  exact R_vret d59_72 rfl rfl
def f61 (v1 : Int32) (v2 : Int32) (v3 : Int32) (s : mS) : Option (mS) :=
  (f99 v1 v2 s).bind fun q1 => rdI 1600 q1 (pt (uA 25 (upd (s.1 25) (Int32.toNatClampNeg q1) (s.2.2.1 2)) s) fun s4 => (f99 v2 v3 s4).bind fun q6 => rdI 1600 q6 (pt (uA 25 (upd (s4.1 25) (Int32.toNatClampNeg q6) (s4.2.2.1 2)) s4) fun s9 => (f99 v3 v1 s9).bind fun q11 => rdI 1600 q11 (pt (uA 25 (upd (s9.1 25) (Int32.toNatClampNeg q11) (s9.2.2.1 2)) s9) fun s14 => rdI 225 ((3 : Int32) * (s14.2.2.1 2)) (pt (uA 26 (upd (s14.1 26) (Int32.toNatClampNeg ((3 : Int32) * (s14.2.2.1 2))) v1) s14) fun s17 => rdI 225 (((3 : Int32) * (s17.2.2.1 2)) + (1 : Int32)) (pt (uA 26 (upd (s17.1 26) (Int32.toNatClampNeg (((3 : Int32) * (s17.2.2.1 2)) + (1 : Int32))) v2) s17) fun s20 => rdI 225 (((3 : Int32) * (s20.2.2.1 2)) + (2 : Int32)) (pt (uA 26 (upd (s20.1 26) (Int32.toNatClampNeg (((3 : Int32) * (s20.2.2.1 2)) + (2 : Int32))) v3) s20) fun s23 => pt (uF 2 ((s23.2.2.1 2) + (1 : Int32)) s23) fun s25 => some s25))))))
theorem t_f61 {S : mE} {ex : mHp} {v1 : Int32} {v2 : Int32} {v3 : Int32} {s : mS} {r : mS} (h : f61 v1 v2 v3 s = some r) : Run S 61 (0, [(0, .ref 23), (1, .int v1), (2, .int v2), (3, .int v3)], [], hp s ex) (.inl none, hp r ex) := by
  unfold f61 at h
  refine R_p d61_0 rfl rfl ?_
  refine R_get d61_1 (Or.inl (List.mem_of_getElem? (i := 13) rfl)) (hg23 _ _) rfl ?_
  refine R_p d61_4 rfl rfl ?_
  refine R_p d61_5 rfl rfl ?_
  obtain ⟨q1, e2, h⟩ := bd_some h
  refine R_cs [.int v1, .int v2] d61_6 (List.mem_of_getElem? (i := 50) rfl) rfl ⟨by decide, by decide, Nat.le_of_ble_eq_true rfl, rfl, mcd99⟩ rfl rfl (Nat.le_of_ble_eq_true rfl) (t_f99 e2) ?_
  refine R_p d61_9 rfl rfl ?_
  refine R_get d61_10 (Or.inl (List.mem_of_getElem? (i := 15) rfl)) (hg23 _ _) rfl ?_
  obtain ⟨c3, h⟩ := rdI_some h
  obtain ⟨s4, e5, h⟩ := pt_some h
  refine R_ist d61_13 (hg25 _ _) c3 ?_
  refine R_h (hp s4 ex) (by rw [e5]; exact hA25 _ _ _) ?_
  refine R_p d61_14 rfl rfl ?_
  refine R_get d61_15 (Or.inl (List.mem_of_getElem? (i := 13) rfl)) (hg23 _ _) rfl ?_
  refine R_p d61_18 rfl rfl ?_
  refine R_p d61_19 rfl rfl ?_
  obtain ⟨q6, e7, h⟩ := bd_some h
  refine R_cs [.int v2, .int v3] d61_20 (List.mem_of_getElem? (i := 50) rfl) rfl ⟨by decide, by decide, Nat.le_of_ble_eq_true rfl, rfl, mcd99⟩ rfl rfl (Nat.le_of_ble_eq_true rfl) (t_f99 e7) ?_
  refine R_p d61_23 rfl rfl ?_
  refine R_get d61_24 (Or.inl (List.mem_of_getElem? (i := 15) rfl)) (hg23 _ _) rfl ?_
  obtain ⟨c8, h⟩ := rdI_some h
  obtain ⟨s9, e10, h⟩ := pt_some h
  refine R_ist d61_27 (hg25 _ _) c8 ?_
  refine R_h (hp s9 ex) (by rw [e10]; exact hA25 _ _ _) ?_
  refine R_p d61_28 rfl rfl ?_
  refine R_get d61_29 (Or.inl (List.mem_of_getElem? (i := 13) rfl)) (hg23 _ _) rfl ?_
  refine R_p d61_32 rfl rfl ?_
  refine R_p d61_33 rfl rfl ?_
  obtain ⟨q11, e12, h⟩ := bd_some h
  refine R_cs [.int v3, .int v1] d61_34 (List.mem_of_getElem? (i := 50) rfl) rfl ⟨by decide, by decide, Nat.le_of_ble_eq_true rfl, rfl, mcd99⟩ rfl rfl (Nat.le_of_ble_eq_true rfl) (t_f99 e12) ?_
  refine R_p d61_37 rfl rfl ?_
  refine R_get d61_38 (Or.inl (List.mem_of_getElem? (i := 15) rfl)) (hg23 _ _) rfl ?_
  obtain ⟨c13, h⟩ := rdI_some h
  obtain ⟨s14, e15, h⟩ := pt_some h
  refine R_ist d61_41 (hg25 _ _) c13 ?_
  refine R_h (hp s14 ex) (by rw [e15]; exact hA25 _ _ _) ?_
  refine R_p d61_42 rfl rfl ?_
  refine R_get d61_43 (Or.inl (List.mem_of_getElem? (i := 14) rfl)) (hg23 _ _) rfl ?_
  refine R_ic (v := 3) d61_46 (by decide) ?_
  refine R_p d61_47 rfl rfl ?_
  refine R_get d61_48 (Or.inl (List.mem_of_getElem? (i := 15) rfl)) (hg23 _ _) rfl ?_
  refine R_p d61_51 rfl rfl ?_
  refine R_p d61_52 rfl rfl ?_
  obtain ⟨c16, h⟩ := rdI_some h
  obtain ⟨s17, e18, h⟩ := pt_some h
  refine R_ist d61_53 (hg26 _ _) c16 ?_
  refine R_h (hp s17 ex) (by rw [e18]; exact hA26 _ _ _) ?_
  refine R_p d61_54 rfl rfl ?_
  refine R_get d61_55 (Or.inl (List.mem_of_getElem? (i := 14) rfl)) (hg23 _ _) rfl ?_
  refine R_ic (v := 3) d61_58 (by decide) ?_
  refine R_p d61_59 rfl rfl ?_
  refine R_get d61_60 (Or.inl (List.mem_of_getElem? (i := 15) rfl)) (hg23 _ _) rfl ?_
  refine R_p d61_63 rfl rfl ?_
  refine R_ic (v := 1) d61_64 (by decide) ?_
  refine R_p d61_65 rfl rfl ?_
  refine R_p d61_66 rfl rfl ?_
  obtain ⟨c19, h⟩ := rdI_some h
  obtain ⟨s20, e21, h⟩ := pt_some h
  refine R_ist d61_67 (hg26 _ _) c19 ?_
  refine R_h (hp s20 ex) (by rw [e21]; exact hA26 _ _ _) ?_
  refine R_p d61_68 rfl rfl ?_
  refine R_get d61_69 (Or.inl (List.mem_of_getElem? (i := 14) rfl)) (hg23 _ _) rfl ?_
  refine R_ic (v := 3) d61_72 (by decide) ?_
  refine R_p d61_73 rfl rfl ?_
  refine R_get d61_74 (Or.inl (List.mem_of_getElem? (i := 15) rfl)) (hg23 _ _) rfl ?_
  refine R_p d61_77 rfl rfl ?_
  refine R_ic (v := 2) d61_78 (by decide) ?_
  refine R_p d61_79 rfl rfl ?_
  refine R_p d61_80 rfl rfl ?_
  obtain ⟨c22, h⟩ := rdI_some h
  obtain ⟨s23, e24, h⟩ := pt_some h
  refine R_ist d61_81 (hg26 _ _) c22 ?_
  refine R_h (hp s23 ex) (by rw [e24]; exact hA26 _ _ _) ?_
  refine R_p d61_82 rfl rfl ?_
  refine R_p d61_83 rfl rfl ?_
  refine R_get d61_84 (Or.inl (List.mem_of_getElem? (i := 15) rfl)) (hg23 _ _) rfl ?_
  refine R_ic (v := 1) d61_87 (by decide) ?_
  refine R_p d61_88 rfl rfl ?_
  obtain ⟨s25, e26, h⟩ := pt_some h
  refine R_put d61_89 (List.mem_of_getElem? (i := 15) rfl) (hg23 _ _) (Nat.le_of_ble_eq_true rfl) rfl rfl (Or.inl rfl) ?_
  refine R_h (hp s25 ex) (by rw [e26]; exact hF2 _ _ _) ?_
  cases h
  exact R_vret d61_92 rfl rfl
def r60 : Nat → Nat → Int32 → Int32 → mS → Option (mS)
  | 0, _, _, _, _ => none
  | k + 1, hd, v1, v2, s =>
    if hd = 0 then (f66 s).bind fun q1 => (if (q1 ≤ v1) then
        some s
      else
        r60 k 1 v1 (v1 + (1 : Int32)) s) else
    (f66 s).bind fun q1 => (if (q1 ≤ v2) then
        r60 k 0 (v1 + Int32.ofInt 1) 0 s
      else
        (f54 v1 v2 s).bind fun q4 => (if (q4 ≤ v1) then
          r60 k 1 v1 (v2 + Int32.ofInt 1) s
        else
          (f54 v1 v2 s).bind fun q7 => (f61 v1 v2 q7 s).bind fun q9 => r60 k 1 v1 (v2 + Int32.ofInt 1) q9))
theorem s60 {S : mE} {ex : mHp} (k : Nat) : (∀ (v1 : Int32) (v2 : Int32) (s : mS) (r : mS), r60 k 0 v1 v2 s = some r → Run S 60 (7, [(0, .ref 23), (1, .int v1)], [], hp s ex) (.inl none, hp r ex)) ∧ (∀ (v1 : Int32) (v2 : Int32) (s : mS) (r : mS), r60 k 1 v1 v2 s = some r → Run S 60 (22, [(0, .ref 23), (1, .int v1), (2, .int v2)], [], hp s ex) (.inl none, hp r ex)) := by
  induction k with
  | zero => refine ⟨?_, ?_⟩ <;> (intro v1 v2 s r h; cases h)
  | succ k ih =>
    refine ⟨?_, ?_⟩
    · intro v1 v2 s r h
      rw [r60, if_pos rfl] at h
      refine R_p d60_7 rfl rfl ?_
      refine R_p d60_8 rfl rfl ?_
      refine R_get d60_9 (Or.inl (List.mem_of_getElem? (i := 10) rfl)) (hg23 _ _) rfl ?_
      obtain ⟨q1, e2, h⟩ := bd_some h
      refine R_cm [] d60_12 (List.mem_of_getElem? (i := 20) rfl) rfl ⟨by decide, by decide, Nat.le_of_ble_eq_true rfl, rfl, mcd66⟩ rfl rfl (Nat.le_of_ble_eq_true rfl) (hg17 _ _) rfl (t_f66 e2) ?_
      rcases ite_some h with ⟨c3, h⟩ | ⟨c3, h⟩
      · refine R_br 67 d60_15 (mb_t (b := (q1 ≤ v1)) c3) rfl ?_
        cases h
        exact R_vret d60_67 rfl rfl
      · refine R_nb d60_15 rfl (mb_f (b := (q1 ≤ v1)) c3) ?_
        refine R_p d60_18 rfl rfl ?_
        refine R_ic (v := 1) d60_19 (by decide) ?_
        refine R_p d60_20 rfl rfl ?_
        refine R_p (ls' := [(0, .ref 23), (1, .int v1), (2, .int (v1 + (1 : Int32)))]) d60_21 rfl rfl ?_
        exact ih.2 v1 (v1 + (1 : Int32)) s _ h
    · intro v1 v2 s r h
      rw [r60, if_neg (by decide)] at h
      refine R_p d60_22 rfl rfl ?_
      refine R_p d60_23 rfl rfl ?_
      refine R_get d60_24 (Or.inl (List.mem_of_getElem? (i := 10) rfl)) (hg23 _ _) rfl ?_
      obtain ⟨q1, e2, h⟩ := bd_some h
      refine R_cm [] d60_27 (List.mem_of_getElem? (i := 20) rfl) rfl ⟨by decide, by decide, Nat.le_of_ble_eq_true rfl, rfl, mcd66⟩ rfl rfl (Nat.le_of_ble_eq_true rfl) (hg17 _ _) rfl (t_f66 e2) ?_
      rcases ite_some h with ⟨c3, h⟩ | ⟨c3, h⟩
      · refine R_br 61 d60_30 (mb_t (b := (q1 ≤ v2)) c3) rfl ?_
        refine R_p (ls' := [(0, .ref 23), (1, .int (v1 + Int32.ofInt 1)), (2, .int v2)]) d60_61 rfl rfl ?_
        refine R_br 7 d60_64 rfl rfl ?_
        exact R_wk [(0, .ref 23), (1, .int (v1 + Int32.ofInt 1))] (by simp) (ih.1 (v1 + Int32.ofInt 1) 0 s _ h)
      · refine R_nb d60_30 rfl (mb_f (b := (q1 ≤ v2)) c3) ?_
        refine R_p d60_33 rfl rfl ?_
        refine R_p d60_34 rfl rfl ?_
        refine R_p d60_35 rfl rfl ?_
        obtain ⟨q4, e5, h⟩ := bd_some h
        refine R_cm [.int v1, .int v2] d60_36 (List.mem_of_getElem? (i := 70) rfl) rfl ⟨by decide, by decide, Nat.le_of_ble_eq_true rfl, rfl, mcd54⟩ rfl rfl (Nat.le_of_ble_eq_true rfl) (hg23 _ _) rfl (t_f54 e5) ?_
        refine R_p d60_39 rfl rfl ?_
        rcases ite_some h with ⟨c6, h⟩ | ⟨c6, h⟩
        · refine R_br 55 d60_40 (mb_t (b := (q4 ≤ v1)) c6) rfl ?_
          refine R_p (ls' := [(0, .ref 23), (1, .int v1), (2, .int (v2 + Int32.ofInt 1))]) d60_55 rfl rfl ?_
          refine R_br 22 d60_58 rfl rfl ?_
          exact ih.2 v1 (v2 + Int32.ofInt 1) s _ h
        · refine R_nb d60_40 rfl (mb_f (b := (q4 ≤ v1)) c6) ?_
          refine R_p d60_43 rfl rfl ?_
          refine R_p d60_44 rfl rfl ?_
          refine R_p d60_45 rfl rfl ?_
          refine R_p d60_46 rfl rfl ?_
          refine R_p d60_47 rfl rfl ?_
          refine R_p d60_48 rfl rfl ?_
          obtain ⟨q7, e8, h⟩ := bd_some h
          refine R_cm [.int v1, .int v2] d60_49 (List.mem_of_getElem? (i := 70) rfl) rfl ⟨by decide, by decide, Nat.le_of_ble_eq_true rfl, rfl, mcd54⟩ rfl rfl (Nat.le_of_ble_eq_true rfl) (hg23 _ _) rfl (t_f54 e8) ?_
          obtain ⟨q9, e10, h⟩ := bd_some h
          refine R_cm [.int v1, .int v2, .int q7] d60_52 (List.mem_of_getElem? (i := 82) rfl) rfl ⟨by decide, by decide, Nat.le_of_ble_eq_true rfl, rfl, mcd61⟩ rfl rfl (Nat.le_of_ble_eq_true rfl) (hg23 _ _) rfl (t_f61 e10) ?_
          refine R_p (ls' := [(0, .ref 23), (1, .int v1), (2, .int (v2 + Int32.ofInt 1))]) d60_55 rfl rfl ?_
          refine R_br 22 d60_58 rfl rfl ?_
          exact ih.2 v1 (v2 + Int32.ofInt 1) q9 _ h
def f60 (k : Nat) (s : mS) : Option (mS) :=
  pt (uF 2 (0 : Int32) s) fun s1 => r60 k 0 0 0 s1
theorem t_f60 {S : mE} {ex : mHp} {k : Nat} {s : mS} {r : mS} (h : f60 k s = some r) : Run S 60 (0, [(0, .ref 23)], [], hp s ex) (.inl none, hp r ex) := by
  unfold f60 at h
  refine R_p d60_0 rfl rfl ?_
  refine R_ic (v := 0) d60_1 (by decide) ?_
  obtain ⟨s1, e2, h⟩ := pt_some h
  refine R_put d60_2 (List.mem_of_getElem? (i := 15) rfl) (hg23 _ _) (Nat.le_of_ble_eq_true rfl) rfl rfl (Or.inl rfl) ?_
  refine R_h (hp s1 ex) (by rw [e2]; exact hF2 _ _ _) ?_
  refine R_ic (v := 0) d60_5 (by decide) ?_
  refine R_p (ls' := [(0, .ref 23), (1, .int 0)]) d60_6 rfl rfl ?_
  exact (s60 (S := S) (ex := ex) k).1 0 0 s1 _ h
def r57 : Nat → Int32 → mS → Option (mS)
  | 0, _, _ => none
  | k + 1, v1, s =>
    (if ((1000000 : Int32) ≤ v1) then
        (f60 k s).bind fun q2 => some q2
      else
        (if ((s.2.2.1 3) ≤ (0 : Int32)) then
          (f60 k s).bind fun q5 => some q5
        else
          pt (uF 3 ((s.2.2.1 3) - (1 : Int32)) s) fun s7 => rdI 800 (s7.2.2.1 3) (rdI 800 (s7.2.2.1 3) (rdI 40 ((s7.1 27 (Int32.toNatClampNeg (s7.2.2.1 3))) / (40 : Int32)) (rdI 40 ((s7.1 27 (Int32.toNatClampNeg (s7.2.2.1 3))) / (40 : Int32)) (pt (uJ 28 (vp_updL (s7.2.1 28) (Int32.toNatClampNeg ((s7.1 27 (Int32.toNatClampNeg (s7.2.2.1 3))) / (40 : Int32))) ((s7.2.1 28 (Int32.toNatClampNeg ((s7.1 27 (Int32.toNatClampNeg (s7.2.2.1 3))) / (40 : Int32)))) &&& (((1 : Int64) <<< (Int32.toInt64 ((s7.1 27 (Int32.toNatClampNeg (s7.2.2.1 3))) - (s7.1 27 (Int32.toNatClampNeg (s7.2.2.1 3))) / (40 : Int32) * (40 : Int32)) &&& 63)) ^^^ (-1 : Int64)))) s7) fun s13 => (f39 ((s7.1 27 (Int32.toNatClampNeg (s7.2.2.1 3))) / (40 : Int32)) ((s7.1 27 (Int32.toNatClampNeg (s7.2.2.1 3))) - (s7.1 27 (Int32.toNatClampNeg (s7.2.2.1 3))) / (40 : Int32) * (40 : Int32)) s13).bind fun q15 => (if (¬ q15 = (0 : Int32)) then
            r57 k (v1 + Int32.ofInt 1) s13
          else
            (f58 ((s7.1 27 (Int32.toNatClampNeg (s7.2.2.1 3))) / (40 : Int32)) ((s7.1 27 (Int32.toNatClampNeg (s7.2.2.1 3))) - (s7.1 27 (Int32.toNatClampNeg (s7.2.2.1 3))) / (40 : Int32) * (40 : Int32)) s13).bind fun q18 => (if (¬ q18.1 = (0 : Int32)) then
              r57 k (v1 + Int32.ofInt 1) q18.2
            else
              (f59 ((s7.1 27 (Int32.toNatClampNeg (s7.2.2.1 3))) / (40 : Int32)) ((s7.1 27 (Int32.toNatClampNeg (s7.2.2.1 3))) - (s7.1 27 (Int32.toNatClampNeg (s7.2.2.1 3))) / (40 : Int32) * (40 : Int32)) q18.2).bind fun q21 => r57 k (v1 + Int32.ofInt 1) q21))))))))
theorem s57 {S : mE} {ex : mHp} (k : Nat) : (∀ (v1 : Int32) (s : mS) (r : mS), r57 k v1 s = some r → Run S 57 (2, [(0, .ref 23), (1, .int v1)], [], hp s ex) (.inl none, hp r ex)) := by
  induction k with
  | zero => intro v1 s r h; cases h
  | succ k ih =>
    intro v1 s r h
    rw [r57] at h
    refine R_p d57_2 rfl rfl ?_
    refine R_ci (v := 1000000) 578 d57_3 (List.mem_of_getElem? (i := 2) rfl) ?_
    rcases ite_some h with ⟨c1, h⟩ | ⟨c1, h⟩
    · refine R_br 100 d57_5 (mb_t (b := ((1000000 : Int32) ≤ v1)) c1) rfl ?_
      refine R_p d57_100 rfl rfl ?_
      obtain ⟨q2, e3, h⟩ := bd_some h
      refine R_cm [] d57_101 (List.mem_of_getElem? (i := 81) rfl) rfl ⟨by decide, by decide, Nat.le_of_ble_eq_true rfl, rfl, mcd60⟩ rfl rfl (Nat.le_of_ble_eq_true rfl) (hg23 _ _) rfl (t_f60 e3) ?_
      cases h
      exact R_vret d57_104 rfl rfl
    · refine R_nb d57_5 rfl (mb_f (b := ((1000000 : Int32) ≤ v1)) c1) ?_
      refine R_p d57_8 rfl rfl ?_
      refine R_get d57_9 (Or.inl (List.mem_of_getElem? (i := 17) rfl)) (hg23 _ _) rfl ?_
      rcases ite_some h with ⟨c4, h⟩ | ⟨c4, h⟩
      · refine R_br 100 d57_12 (mb_t (b := ((s.2.2.1 3) ≤ (0 : Int32))) c4) rfl ?_
        refine R_p d57_100 rfl rfl ?_
        obtain ⟨q5, e6, h⟩ := bd_some h
        refine R_cm [] d57_101 (List.mem_of_getElem? (i := 81) rfl) rfl ⟨by decide, by decide, Nat.le_of_ble_eq_true rfl, rfl, mcd60⟩ rfl rfl (Nat.le_of_ble_eq_true rfl) (hg23 _ _) rfl (t_f60 e6) ?_
        cases h
        exact R_vret d57_104 rfl rfl
      · refine R_nb d57_12 rfl (mb_f (b := ((s.2.2.1 3) ≤ (0 : Int32))) c4) ?_
        refine R_p d57_15 rfl rfl ?_
        refine R_p d57_16 rfl rfl ?_
        refine R_get d57_17 (Or.inl (List.mem_of_getElem? (i := 17) rfl)) (hg23 _ _) rfl ?_
        refine R_ic (v := 1) d57_20 (by decide) ?_
        refine R_p d57_21 rfl rfl ?_
        obtain ⟨s7, e8, h⟩ := pt_some h
        refine R_put d57_22 (List.mem_of_getElem? (i := 17) rfl) (hg23 _ _) (Nat.le_of_ble_eq_true rfl) rfl rfl (Or.inl rfl) ?_
        refine R_h (hp s7 ex) (by rw [e8]; exact hF3 _ _ _) ?_
        refine R_p d57_25 rfl rfl ?_
        refine R_get d57_26 (Or.inl (List.mem_of_getElem? (i := 16) rfl)) (hg23 _ _) rfl ?_
        refine R_p d57_29 rfl rfl ?_
        refine R_get d57_30 (Or.inl (List.mem_of_getElem? (i := 17) rfl)) (hg23 _ _) rfl ?_
        obtain ⟨c9, h⟩ := rdI_some h
        refine R_ild d57_33 (hg27 _ _) c9 ?_
        refine R_bi (v := 40) d57_34 (by decide) ?_
        refine R_p d57_36 rfl rfl ?_
        refine R_p (ls' := [(0, .ref 23), (1, .int v1), (2, .int ((s7.1 27 (Int32.toNatClampNeg (s7.2.2.1 3))) / (40 : Int32)))]) d57_37 rfl rfl ?_
        refine R_p d57_38 rfl rfl ?_
        refine R_get d57_39 (Or.inl (List.mem_of_getElem? (i := 16) rfl)) (hg23 _ _) rfl ?_
        refine R_p d57_42 rfl rfl ?_
        refine R_get d57_43 (Or.inl (List.mem_of_getElem? (i := 17) rfl)) (hg23 _ _) rfl ?_
        obtain ⟨c10, h⟩ := rdI_some h
        refine R_ild d57_46 (hg27 _ _) c10 ?_
        refine R_bi (v := 40) d57_47 (by decide) ?_
        refine R_p d57_49 rfl rfl ?_
        refine R_p (ls' := [(0, .ref 23), (1, .int v1), (2, .int ((s7.1 27 (Int32.toNatClampNeg (s7.2.2.1 3))) / (40 : Int32))), (3, .int ((s7.1 27 (Int32.toNatClampNeg (s7.2.2.1 3))) - (s7.1 27 (Int32.toNatClampNeg (s7.2.2.1 3))) / (40 : Int32) * (40 : Int32)))]) d57_50 rfl rfl ?_
        refine R_p d57_51 rfl rfl ?_
        refine R_get d57_52 (Or.inl (List.mem_of_getElem? (i := 18) rfl)) (hg23 _ _) rfl ?_
        refine R_p d57_55 rfl rfl ?_
        refine R_p d57_56 rfl rfl ?_
        obtain ⟨c11, h⟩ := rdI_some h
        refine R_lld d57_57 (hg28 _ _) c11 ?_
        refine R_lc (v := 1) d57_58 (by decide) ?_
        refine R_p d57_59 rfl rfl ?_
        refine R_p d57_60 rfl rfl ?_
        refine R_cl (v := (-1)) 579 d57_61 (List.mem_of_getElem? (i := 0) rfl) ?_
        refine R_p d57_64 rfl rfl ?_
        refine R_p d57_65 rfl rfl ?_
        obtain ⟨c12, h⟩ := rdI_some h
        obtain ⟨s13, e14, h⟩ := pt_some h
        refine R_lst d57_66 (hg28 _ _) c12 ?_
        refine R_h (hp s13 ex) (by rw [e14]; exact hA28 _ _ _) ?_
        refine R_p d57_67 rfl rfl ?_
        refine R_get d57_68 (Or.inl (List.mem_of_getElem? (i := 11) rfl)) (hg23 _ _) rfl ?_
        refine R_p d57_71 rfl rfl ?_
        refine R_p d57_72 rfl rfl ?_
        obtain ⟨q15, e16, h⟩ := bd_some h
        refine R_cm [.int ((s7.1 27 (Int32.toNatClampNeg (s7.2.2.1 3))) / (40 : Int32)), .int ((s7.1 27 (Int32.toNatClampNeg (s7.2.2.1 3))) - (s7.1 27 (Int32.toNatClampNeg (s7.2.2.1 3))) / (40 : Int32) * (40 : Int32))] d57_73 (List.mem_of_getElem? (i := 68) rfl) rfl ⟨by decide, by decide, Nat.le_of_ble_eq_true rfl, rfl, mcd39⟩ rfl rfl (Nat.le_of_ble_eq_true rfl) (hg21 _ _) rfl (t_f39 e16) ?_
        rcases ite_some h with ⟨c17, h⟩ | ⟨c17, h⟩
        · refine R_br 94 d57_76 (mb_t (b := (¬ q15 = (0 : Int32))) c17) rfl ?_
          refine R_p (ls' := [(0, .ref 23), (1, .int (v1 + Int32.ofInt 1)), (2, .int ((s7.1 27 (Int32.toNatClampNeg (s7.2.2.1 3))) / (40 : Int32))), (3, .int ((s7.1 27 (Int32.toNatClampNeg (s7.2.2.1 3))) - (s7.1 27 (Int32.toNatClampNeg (s7.2.2.1 3))) / (40 : Int32) * (40 : Int32)))]) d57_94 rfl rfl ?_
          refine R_br 2 d57_97 rfl rfl ?_
          exact R_wk [(0, .ref 23), (1, .int (v1 + Int32.ofInt 1))] (by simp) (ih (v1 + Int32.ofInt 1) s13 _ h)
        · refine R_nb d57_76 rfl (mb_f (b := (¬ q15 = (0 : Int32))) c17) ?_
          refine R_p d57_79 rfl rfl ?_
          refine R_p d57_80 rfl rfl ?_
          refine R_p d57_81 rfl rfl ?_
          obtain ⟨q18, e19, h⟩ := bd_some h
          refine R_cm [.int ((s7.1 27 (Int32.toNatClampNeg (s7.2.2.1 3))) / (40 : Int32)), .int ((s7.1 27 (Int32.toNatClampNeg (s7.2.2.1 3))) - (s7.1 27 (Int32.toNatClampNeg (s7.2.2.1 3))) / (40 : Int32) * (40 : Int32))] d57_82 (List.mem_of_getElem? (i := 69) rfl) rfl ⟨by decide, by decide, Nat.le_of_ble_eq_true rfl, rfl, mcd58⟩ rfl rfl (Nat.le_of_ble_eq_true rfl) (hg23 _ _) rfl (t_f58 e19) ?_
          rcases ite_some h with ⟨c20, h⟩ | ⟨c20, h⟩
          · refine R_br 94 d57_85 (mb_t (b := (¬ q18.1 = (0 : Int32))) c20) rfl ?_
            refine R_p (ls' := [(0, .ref 23), (1, .int (v1 + Int32.ofInt 1)), (2, .int ((s7.1 27 (Int32.toNatClampNeg (s7.2.2.1 3))) / (40 : Int32))), (3, .int ((s7.1 27 (Int32.toNatClampNeg (s7.2.2.1 3))) - (s7.1 27 (Int32.toNatClampNeg (s7.2.2.1 3))) / (40 : Int32) * (40 : Int32)))]) d57_94 rfl rfl ?_
            refine R_br 2 d57_97 rfl rfl ?_
            exact R_wk [(0, .ref 23), (1, .int (v1 + Int32.ofInt 1))] (by simp) (ih (v1 + Int32.ofInt 1) q18.2 _ h)
          · refine R_nb d57_85 rfl (mb_f (b := (¬ q18.1 = (0 : Int32))) c20) ?_
            refine R_p d57_88 rfl rfl ?_
            refine R_p d57_89 rfl rfl ?_
            refine R_p d57_90 rfl rfl ?_
            obtain ⟨q21, e22, h⟩ := bd_some h
            refine R_cm [.int ((s7.1 27 (Int32.toNatClampNeg (s7.2.2.1 3))) / (40 : Int32)), .int ((s7.1 27 (Int32.toNatClampNeg (s7.2.2.1 3))) - (s7.1 27 (Int32.toNatClampNeg (s7.2.2.1 3))) / (40 : Int32) * (40 : Int32))] d57_91 (List.mem_of_getElem? (i := 77) rfl) rfl ⟨by decide, by decide, Nat.le_of_ble_eq_true rfl, rfl, mcd59⟩ rfl rfl (Nat.le_of_ble_eq_true rfl) (hg23 _ _) rfl (t_f59 e22) ?_
            refine R_p (ls' := [(0, .ref 23), (1, .int (v1 + Int32.ofInt 1)), (2, .int ((s7.1 27 (Int32.toNatClampNeg (s7.2.2.1 3))) / (40 : Int32))), (3, .int ((s7.1 27 (Int32.toNatClampNeg (s7.2.2.1 3))) - (s7.1 27 (Int32.toNatClampNeg (s7.2.2.1 3))) / (40 : Int32) * (40 : Int32)))]) d57_94 rfl rfl ?_
            refine R_br 2 d57_97 rfl rfl ?_
            exact R_wk [(0, .ref 23), (1, .int (v1 + Int32.ofInt 1))] (by simp) (ih (v1 + Int32.ofInt 1) q21 _ h)
def f57 (k : Nat) (s : mS) : Option (mS) :=
  r57 k 0 s
theorem t_f57 {S : mE} {ex : mHp} {k : Nat} {s : mS} {r : mS} (h : f57 k s = some r) : Run S 57 (0, [(0, .ref 23)], [], hp s ex) (.inl none, hp r ex) := by
  unfold f57 at h
  refine R_ic (v := 0) d57_0 (by decide) ?_
  refine R_p (ls' := [(0, .ref 23), (1, .int 0)]) d57_1 rfl rfl ?_
  exact s57 (S := S) (ex := ex) k 0 s _ h
def f20 (k : Nat) (v1 : Int32) (s : mS) : Option (mS) :=
  (f46 s).bind fun q1 => (if (¬ q1 = (0 : Int32)) then
    (f50 k v1 s).bind fun q4 => (if (¬ q4 = (-1 : Int32)) then
      (f25 q4 v1 s).bind fun q7 => (f57 k q7).bind fun q9 => some q9
    else
      (f24 k v1 s).bind fun q11 => (f57 k q11).bind fun q13 => some q13)
  else
    (f21 k v1 s).bind fun q15 => (f57 k q15).bind fun q17 => some q17)
theorem t_f20 {S : mE} {ex : mHp} {k : Nat} {v1 : Int32} {s : mS} {r : mS} (h : f20 k v1 s = some r) : Run S 20 (0, [(0, .ref 29), (1, .int v1)], [], hp s ex) (.inl none, hp r ex) := by
  unfold f20 at h
  refine R_p d20_0 rfl rfl ?_
  refine R_get d20_1 (Or.inl (List.mem_of_getElem? (i := 20) rfl)) (hg29 _ _) rfl ?_
  obtain ⟨q1, e2, h⟩ := bd_some h
  refine R_cm [] d20_4 (List.mem_of_getElem? (i := 42) rfl) rfl ⟨by decide, by decide, Nat.le_of_ble_eq_true rfl, rfl, mcd46⟩ rfl rfl (Nat.le_of_ble_eq_true rfl) (hg23 _ _) rfl (t_f46 e2) ?_
  rcases ite_some h with ⟨c3, h⟩ | ⟨c3, h⟩
  · refine R_br 18 d20_7 (mb_t (b := (¬ q1 = (0 : Int32))) c3) rfl ?_
    refine R_p d20_18 rfl rfl ?_
    refine R_get d20_19 (Or.inl (List.mem_of_getElem? (i := 20) rfl)) (hg29 _ _) rfl ?_
    refine R_p d20_22 rfl rfl ?_
    obtain ⟨q4, e5, h⟩ := bd_some h
    refine R_cm [.int v1] d20_23 (List.mem_of_getElem? (i := 51) rfl) rfl ⟨by decide, by decide, Nat.le_of_ble_eq_true rfl, rfl, mcd50⟩ rfl rfl (Nat.le_of_ble_eq_true rfl) (hg23 _ _) rfl (t_f50 e5) ?_
    refine R_p (ls' := [(0, .ref 29), (1, .int v1), (2, .int q4)]) d20_26 rfl rfl ?_
    refine R_p d20_27 rfl rfl ?_
    refine R_ic (v := (-1)) d20_28 (by decide) ?_
    rcases ite_some h with ⟨c6, h⟩ | ⟨c6, h⟩
    · refine R_br 40 d20_29 (mb_t (b := (¬ q4 = (-1 : Int32))) c6) rfl ?_
      refine R_p d20_40 rfl rfl ?_
      refine R_p d20_41 rfl rfl ?_
      refine R_p d20_42 rfl rfl ?_
      obtain ⟨q7, e8, h⟩ := bd_some h
      refine R_cm [.int q4, .int v1] d20_43 (List.mem_of_getElem? (i := 63) rfl) rfl ⟨by decide, by decide, Nat.le_of_ble_eq_true rfl, rfl, mcd25⟩ rfl rfl (Nat.le_of_ble_eq_true rfl) (hg29 _ _) rfl (t_f25 e8) ?_
      refine R_p d20_46 rfl rfl ?_
      refine R_get d20_47 (Or.inl (List.mem_of_getElem? (i := 20) rfl)) (hg29 _ _) rfl ?_
      obtain ⟨q9, e10, h⟩ := bd_some h
      refine R_cm [] d20_50 (List.mem_of_getElem? (i := 67) rfl) rfl ⟨by decide, by decide, Nat.le_of_ble_eq_true rfl, rfl, mcd57⟩ rfl rfl (Nat.le_of_ble_eq_true rfl) (hg23 _ _) rfl (t_f57 e10) ?_
      cases h
      exact R_vret d20_53 rfl rfl
    · refine R_nb d20_29 rfl (mb_f (b := (¬ q4 = (-1 : Int32))) c6) ?_
      refine R_p d20_32 rfl rfl ?_
      refine R_p d20_33 rfl rfl ?_
      obtain ⟨q11, e12, h⟩ := bd_some h
      refine R_cm [.int v1] d20_34 (List.mem_of_getElem? (i := 56) rfl) rfl ⟨by decide, by decide, Nat.le_of_ble_eq_true rfl, rfl, mcd24⟩ rfl rfl (Nat.le_of_ble_eq_true rfl) (hg29 _ _) rfl (t_f24 e12) ?_
      refine R_br 46 d20_37 rfl rfl ?_
      refine R_p d20_46 rfl rfl ?_
      refine R_get d20_47 (Or.inl (List.mem_of_getElem? (i := 20) rfl)) (hg29 _ _) rfl ?_
      obtain ⟨q13, e14, h⟩ := bd_some h
      refine R_cm [] d20_50 (List.mem_of_getElem? (i := 67) rfl) rfl ⟨by decide, by decide, Nat.le_of_ble_eq_true rfl, rfl, mcd57⟩ rfl rfl (Nat.le_of_ble_eq_true rfl) (hg23 _ _) rfl (t_f57 e14) ?_
      cases h
      exact R_vret d20_53 rfl rfl
  · refine R_nb d20_7 rfl (mb_f (b := (¬ q1 = (0 : Int32))) c3) ?_
    refine R_p d20_10 rfl rfl ?_
    refine R_p d20_11 rfl rfl ?_
    obtain ⟨q15, e16, h⟩ := bd_some h
    refine R_cm [.int v1] d20_12 (List.mem_of_getElem? (i := 43) rfl) rfl ⟨by decide, by decide, Nat.le_of_ble_eq_true rfl, rfl, mcd21⟩ rfl rfl (Nat.le_of_ble_eq_true rfl) (hg29 _ _) rfl (t_f21 e16) ?_
    refine R_br 46 d20_15 rfl rfl ?_
    refine R_p d20_46 rfl rfl ?_
    refine R_get d20_47 (Or.inl (List.mem_of_getElem? (i := 20) rfl)) (hg29 _ _) rfl ?_
    obtain ⟨q17, e18, h⟩ := bd_some h
    refine R_cm [] d20_50 (List.mem_of_getElem? (i := 67) rfl) rfl ⟨by decide, by decide, Nat.le_of_ble_eq_true rfl, rfl, mcd57⟩ rfl rfl (Nat.le_of_ble_eq_true rfl) (hg23 _ _) rfl (t_f57 e18) ?_
    cases h
    exact R_vret d20_53 rfl rfl
def r30 : Nat → Int32 → Int32 → Int32 → mS → Option (Int32)
  | 0, _, _, _, _ => none
  | k + 1, v1, v2, v3, s =>
    (f66 s).bind fun q1 => (if (q1 ≤ v3) then
        some (-1 : Int32)
      else
        (f54 v1 v3 s).bind fun q4 => (if (q4 = (-1 : Int32)) then
          r30 k v1 v2 (v3 + Int32.ofInt 1) s
        else
          (f73 v1 v2 v3 s).bind fun q7 => (if ((0 : Int32) ≤ q7) then
            r30 k v1 v2 (v3 + Int32.ofInt 1) s
          else
            (f73 v1 v2 q4 s).bind fun q10 => (if (q10 ≤ (0 : Int32)) then
              r30 k v1 v2 (v3 + Int32.ofInt 1) s
            else
              some v3))))
theorem s30 {S : mE} {ex : mHp} (k : Nat) : (∀ (v1 : Int32) (v2 : Int32) (v3 : Int32) (s : mS) (r : Int32), r30 k v1 v2 v3 s = some r → Run S 30 (2, [(0, .ref 29), (1, .int v1), (2, .int v2), (3, .int v3)], [], hp s ex) (.inl (some (.int r)), hp s ex)) := by
  induction k with
  | zero => intro v1 v2 v3 s r h; cases h
  | succ k ih =>
    intro v1 v2 v3 s r h
    rw [r30] at h
    refine R_p d30_2 rfl rfl ?_
    refine R_p d30_3 rfl rfl ?_
    refine R_get d30_4 (Or.inl (List.mem_of_getElem? (i := 19) rfl)) (hg29 _ _) rfl ?_
    obtain ⟨q1, e2, h⟩ := bd_some h
    refine R_cm [] d30_7 (List.mem_of_getElem? (i := 98) rfl) rfl ⟨by decide, by decide, Nat.le_of_ble_eq_true rfl, rfl, mcd66⟩ rfl rfl (Nat.le_of_ble_eq_true rfl) (hg17 _ _) rfl (t_f66 e2) ?_
    rcases ite_some h with ⟨c3, h⟩ | ⟨c3, h⟩
    · refine R_br 65 d30_10 (mb_t (b := (q1 ≤ v3)) c3) rfl ?_
      refine R_ic (v := (-1)) d30_65 (by decide) ?_
      cases h
      exact R_iret d30_66 rfl rfl rfl
    · refine R_nb d30_10 rfl (mb_f (b := (q1 ≤ v3)) c3) ?_
      refine R_p d30_13 rfl rfl ?_
      refine R_get d30_14 (Or.inl (List.mem_of_getElem? (i := 20) rfl)) (hg29 _ _) rfl ?_
      refine R_p d30_17 rfl rfl ?_
      refine R_p d30_18 rfl rfl ?_
      obtain ⟨q4, e5, h⟩ := bd_some h
      refine R_cm [.int v1, .int v3] d30_19 (List.mem_of_getElem? (i := 59) rfl) rfl ⟨by decide, by decide, Nat.le_of_ble_eq_true rfl, rfl, mcd54⟩ rfl rfl (Nat.le_of_ble_eq_true rfl) (hg23 _ _) rfl (t_f54 e5) ?_
      refine R_p (ls' := [(0, .ref 29), (1, .int v1), (2, .int v2), (3, .int v3), (4, .int q4)]) d30_22 rfl rfl ?_
      refine R_p d30_24 rfl rfl ?_
      refine R_ic (v := (-1)) d30_26 (by decide) ?_
      rcases ite_some h with ⟨c6, h⟩ | ⟨c6, h⟩
      · refine R_br 59 d30_27 (mb_t (b := (q4 = (-1 : Int32))) c6) rfl ?_
        refine R_p (ls' := [(0, .ref 29), (1, .int v1), (2, .int v2), (3, .int (v3 + Int32.ofInt 1)), (4, .int q4)]) d30_59 rfl rfl ?_
        refine R_br 2 d30_62 rfl rfl ?_
        exact R_wk [(0, .ref 29), (1, .int v1), (2, .int v2), (3, .int (v3 + Int32.ofInt 1))] (by simp) (ih v1 v2 (v3 + Int32.ofInt 1) s _ h)
      · refine R_nb d30_27 rfl (mb_f (b := (q4 = (-1 : Int32))) c6) ?_
        refine R_p d30_30 rfl rfl ?_
        refine R_get d30_31 (Or.inl (List.mem_of_getElem? (i := 19) rfl)) (hg29 _ _) rfl ?_
        refine R_p d30_34 rfl rfl ?_
        refine R_p d30_35 rfl rfl ?_
        refine R_p d30_36 rfl rfl ?_
        obtain ⟨q7, e8, h⟩ := bd_some h
        refine R_cm [.int v1, .int v2, .int v3] d30_37 (List.mem_of_getElem? (i := 44) rfl) rfl ⟨by decide, by decide, Nat.le_of_ble_eq_true rfl, rfl, mcd73⟩ rfl rfl (Nat.le_of_ble_eq_true rfl) (hg17 _ _) rfl (t_f73 e8) ?_
        rcases ite_some h with ⟨c9, h⟩ | ⟨c9, h⟩
        · refine R_br 59 d30_40 (mb_t (b := ((0 : Int32) ≤ q7)) c9) rfl ?_
          refine R_p (ls' := [(0, .ref 29), (1, .int v1), (2, .int v2), (3, .int (v3 + Int32.ofInt 1)), (4, .int q4)]) d30_59 rfl rfl ?_
          refine R_br 2 d30_62 rfl rfl ?_
          exact R_wk [(0, .ref 29), (1, .int v1), (2, .int v2), (3, .int (v3 + Int32.ofInt 1))] (by simp) (ih v1 v2 (v3 + Int32.ofInt 1) s _ h)
        · refine R_nb d30_40 rfl (mb_f (b := ((0 : Int32) ≤ q7)) c9) ?_
          refine R_p d30_43 rfl rfl ?_
          refine R_get d30_44 (Or.inl (List.mem_of_getElem? (i := 19) rfl)) (hg29 _ _) rfl ?_
          refine R_p d30_47 rfl rfl ?_
          refine R_p d30_48 rfl rfl ?_
          refine R_p d30_49 rfl rfl ?_
          obtain ⟨q10, e11, h⟩ := bd_some h
          refine R_cm [.int v1, .int v2, .int q4] d30_51 (List.mem_of_getElem? (i := 44) rfl) rfl ⟨by decide, by decide, Nat.le_of_ble_eq_true rfl, rfl, mcd73⟩ rfl rfl (Nat.le_of_ble_eq_true rfl) (hg17 _ _) rfl (t_f73 e11) ?_
          rcases ite_some h with ⟨c12, h⟩ | ⟨c12, h⟩
          · refine R_br 59 d30_54 (mb_t (b := (q10 ≤ (0 : Int32))) c12) rfl ?_
            refine R_p (ls' := [(0, .ref 29), (1, .int v1), (2, .int v2), (3, .int (v3 + Int32.ofInt 1)), (4, .int q4)]) d30_59 rfl rfl ?_
            refine R_br 2 d30_62 rfl rfl ?_
            exact R_wk [(0, .ref 29), (1, .int v1), (2, .int v2), (3, .int (v3 + Int32.ofInt 1))] (by simp) (ih v1 v2 (v3 + Int32.ofInt 1) s _ h)
          · refine R_nb d30_54 rfl (mb_f (b := (q10 ≤ (0 : Int32))) c12) ?_
            refine R_p d30_57 rfl rfl ?_
            cases h
            exact R_iret d30_58 rfl rfl rfl
def f30 (k : Nat) (v1 : Int32) (v2 : Int32) (s : mS) : Option (Int32) :=
  r30 k v1 v2 0 s
theorem t_f30 {S : mE} {ex : mHp} {k : Nat} {v1 : Int32} {v2 : Int32} {s : mS} {r : Int32} (h : f30 k v1 v2 s = some r) : Run S 30 (0, [(0, .ref 29), (1, .int v1), (2, .int v2)], [], hp s ex) (.inl (some (.int r)), hp s ex) := by
  unfold f30 at h
  refine R_ic (v := 0) d30_0 (by decide) ?_
  refine R_p (ls' := [(0, .ref 29), (1, .int v1), (2, .int v2), (3, .int 0)]) d30_1 rfl rfl ?_
  exact s30 (S := S) (ex := ex) k v1 v2 0 s _ h
def r29 : Nat → Int32 → Int32 → Int32 → Int32 → Int32 → mS → Option (mS)
  | 0, _, _, _, _, _, _ => none
  | k + 1, v1, v2, v3, v4, v5, s =>
    (if ((75 : Int32) ≤ (s.2.2.1 4)) then
        some s
      else
        (if (v5 = (-1 : Int32)) then
          some s
        else
          (if (v5 = v2) then
            some s
          else
            rdI 75 (s.2.2.1 4) (pt (uA 30 (upd (s.1 30) (Int32.toNatClampNeg (s.2.2.1 4)) v4) s) fun s5 => rdI 75 (s5.2.2.1 4) (pt (uA 31 (upd (s5.1 31) (Int32.toNatClampNeg (s5.2.2.1 4)) v3) s5) fun s8 => (f54 v4 v3 s8).bind fun q10 => (if (q10 = (-1 : Int32)) then
              pt (uF 4 ((s8.2.2.1 4) + (1 : Int32)) s8) fun s13 => r29 k v1 v2 q10 v4 q10 s13
            else
              (f73 v1 v2 q10 s8).bind fun q15 => (if (q15 ≤ (0 : Int32)) then
                pt (uF 4 ((s8.2.2.1 4) + (1 : Int32)) s8) fun s18 => r29 k v1 v2 q10 v4 q10 s18
              else
                pt (uF 4 ((s8.2.2.1 4) + (1 : Int32)) s8) fun s20 => r29 k v1 v2 v3 q10 q10 s20)))))))
theorem s29 {S : mE} {ex : mHp} (k : Nat) : (∀ (v1 : Int32) (v2 : Int32) (v3 : Int32) (v4 : Int32) (v5 : Int32) (s : mS) (r : mS), r29 k v1 v2 v3 v4 v5 s = some r → Run S 29 (36, [(0, .ref 29), (1, .int v1), (2, .int v2), (3, .int v3), (4, .int v4), (5, .int v5)], [], hp s ex) (.inl none, hp r ex)) := by
  induction k with
  | zero => intro v1 v2 v3 v4 v5 s r h; cases h
  | succ k ih =>
    intro v1 v2 v3 v4 v5 s r h
    rw [r29] at h
    refine R_p d29_36 rfl rfl ?_
    refine R_get d29_37 (Or.inl (List.mem_of_getElem? (i := 23) rfl)) (hg29 _ _) rfl ?_
    refine R_bi (v := 75) d29_40 (by decide) ?_
    rcases ite_some h with ⟨c1, h⟩ | ⟨c1, h⟩
    · refine R_br 133 d29_42 (mb_t (b := ((75 : Int32) ≤ (s.2.2.1 4))) c1) rfl ?_
      cases h
      exact R_vret d29_133 rfl rfl
    · refine R_nb d29_42 rfl (mb_f (b := ((75 : Int32) ≤ (s.2.2.1 4))) c1) ?_
      refine R_p d29_45 rfl rfl ?_
      refine R_ic (v := (-1)) d29_47 (by decide) ?_
      rcases ite_some h with ⟨c2, h⟩ | ⟨c2, h⟩
      · refine R_br 133 d29_48 (mb_t (b := (v5 = (-1 : Int32))) c2) rfl ?_
        cases h
        exact R_vret d29_133 rfl rfl
      · refine R_nb d29_48 rfl (mb_f (b := (v5 = (-1 : Int32))) c2) ?_
        refine R_p d29_51 rfl rfl ?_
        refine R_p d29_53 rfl rfl ?_
        rcases ite_some h with ⟨c3, h⟩ | ⟨c3, h⟩
        · refine R_br 133 d29_54 (mb_t (b := (v5 = v2)) c3) rfl ?_
          cases h
          exact R_vret d29_133 rfl rfl
        · refine R_nb d29_54 rfl (mb_f (b := (v5 = v2)) c3) ?_
          refine R_p d29_57 rfl rfl ?_
          refine R_get d29_58 (Or.inl (List.mem_of_getElem? (i := 21) rfl)) (hg29 _ _) rfl ?_
          refine R_p d29_61 rfl rfl ?_
          refine R_get d29_62 (Or.inl (List.mem_of_getElem? (i := 23) rfl)) (hg29 _ _) rfl ?_
          refine R_p d29_65 rfl rfl ?_
          obtain ⟨c4, h⟩ := rdI_some h
          obtain ⟨s5, e6, h⟩ := pt_some h
          refine R_ist d29_67 (hg30 _ _) c4 ?_
          refine R_h (hp s5 ex) (by rw [e6]; exact hA30 _ _ _) ?_
          refine R_p d29_68 rfl rfl ?_
          refine R_get d29_69 (Or.inl (List.mem_of_getElem? (i := 22) rfl)) (hg29 _ _) rfl ?_
          refine R_p d29_72 rfl rfl ?_
          refine R_get d29_73 (Or.inl (List.mem_of_getElem? (i := 23) rfl)) (hg29 _ _) rfl ?_
          refine R_p d29_76 rfl rfl ?_
          obtain ⟨c7, h⟩ := rdI_some h
          obtain ⟨s8, e9, h⟩ := pt_some h
          refine R_ist d29_77 (hg31 _ _) c7 ?_
          refine R_h (hp s8 ex) (by rw [e9]; exact hA31 _ _ _) ?_
          refine R_p d29_78 rfl rfl ?_
          refine R_get d29_79 (Or.inl (List.mem_of_getElem? (i := 20) rfl)) (hg29 _ _) rfl ?_
          refine R_p d29_82 rfl rfl ?_
          refine R_p d29_84 rfl rfl ?_
          obtain ⟨q10, e11, h⟩ := bd_some h
          refine R_cm [.int v4, .int v3] d29_85 (List.mem_of_getElem? (i := 59) rfl) rfl ⟨by decide, by decide, Nat.le_of_ble_eq_true rfl, rfl, mcd54⟩ rfl rfl (Nat.le_of_ble_eq_true rfl) (hg23 _ _) rfl (t_f54 e11) ?_
          refine R_p (ls' := [(0, .ref 29), (1, .int v1), (2, .int v2), (3, .int v3), (4, .int v4), (5, .int q10)]) d29_88 rfl rfl ?_
          refine R_p d29_90 rfl rfl ?_
          refine R_ic (v := (-1)) d29_92 (by decide) ?_
          rcases ite_some h with ⟨c12, h⟩ | ⟨c12, h⟩
          · refine R_br 117 d29_93 (mb_t (b := (q10 = (-1 : Int32))) c12) rfl ?_
            refine R_p d29_117 rfl rfl ?_
            refine R_p (ls' := [(0, .ref 29), (1, .int v1), (2, .int v2), (3, .int q10), (4, .int v4), (5, .int q10)]) d29_119 rfl rfl ?_
            refine R_p d29_120 rfl rfl ?_
            refine R_p d29_121 rfl rfl ?_
            refine R_get d29_122 (Or.inl (List.mem_of_getElem? (i := 23) rfl)) (hg29 _ _) rfl ?_
            refine R_ic (v := 1) d29_125 (by decide) ?_
            refine R_p d29_126 rfl rfl ?_
            obtain ⟨s13, e14, h⟩ := pt_some h
            refine R_put d29_127 (List.mem_of_getElem? (i := 23) rfl) (hg29 _ _) (Nat.le_of_ble_eq_true rfl) rfl rfl (Or.inl rfl) ?_
            refine R_h (hp s13 ex) (by rw [e14]; exact hF4 _ _ _) ?_
            refine R_br 36 d29_130 rfl rfl ?_
            exact ih v1 v2 q10 v4 q10 s13 _ h
          · refine R_nb d29_93 rfl (mb_f (b := (q10 = (-1 : Int32))) c12) ?_
            refine R_p d29_96 rfl rfl ?_
            refine R_get d29_97 (Or.inl (List.mem_of_getElem? (i := 19) rfl)) (hg29 _ _) rfl ?_
            refine R_p d29_100 rfl rfl ?_
            refine R_p d29_101 rfl rfl ?_
            refine R_p d29_102 rfl rfl ?_
            obtain ⟨q15, e16, h⟩ := bd_some h
            refine R_cm [.int v1, .int v2, .int q10] d29_104 (List.mem_of_getElem? (i := 44) rfl) rfl ⟨by decide, by decide, Nat.le_of_ble_eq_true rfl, rfl, mcd73⟩ rfl rfl (Nat.le_of_ble_eq_true rfl) (hg17 _ _) rfl (t_f73 e16) ?_
            rcases ite_some h with ⟨c17, h⟩ | ⟨c17, h⟩
            · refine R_br 117 d29_107 (mb_t (b := (q15 ≤ (0 : Int32))) c17) rfl ?_
              refine R_p d29_117 rfl rfl ?_
              refine R_p (ls' := [(0, .ref 29), (1, .int v1), (2, .int v2), (3, .int q10), (4, .int v4), (5, .int q10)]) d29_119 rfl rfl ?_
              refine R_p d29_120 rfl rfl ?_
              refine R_p d29_121 rfl rfl ?_
              refine R_get d29_122 (Or.inl (List.mem_of_getElem? (i := 23) rfl)) (hg29 _ _) rfl ?_
              refine R_ic (v := 1) d29_125 (by decide) ?_
              refine R_p d29_126 rfl rfl ?_
              obtain ⟨s18, e19, h⟩ := pt_some h
              refine R_put d29_127 (List.mem_of_getElem? (i := 23) rfl) (hg29 _ _) (Nat.le_of_ble_eq_true rfl) rfl rfl (Or.inl rfl) ?_
              refine R_h (hp s18 ex) (by rw [e19]; exact hF4 _ _ _) ?_
              refine R_br 36 d29_130 rfl rfl ?_
              exact ih v1 v2 q10 v4 q10 s18 _ h
            · refine R_nb d29_107 rfl (mb_f (b := (q15 ≤ (0 : Int32))) c17) ?_
              refine R_p d29_110 rfl rfl ?_
              refine R_p (ls' := [(0, .ref 29), (1, .int v1), (2, .int v2), (3, .int v3), (4, .int q10), (5, .int q10)]) d29_112 rfl rfl ?_
              refine R_br 120 d29_114 rfl rfl ?_
              refine R_p d29_120 rfl rfl ?_
              refine R_p d29_121 rfl rfl ?_
              refine R_get d29_122 (Or.inl (List.mem_of_getElem? (i := 23) rfl)) (hg29 _ _) rfl ?_
              refine R_ic (v := 1) d29_125 (by decide) ?_
              refine R_p d29_126 rfl rfl ?_
              obtain ⟨s20, e21, h⟩ := pt_some h
              refine R_put d29_127 (List.mem_of_getElem? (i := 23) rfl) (hg29 _ _) (Nat.le_of_ble_eq_true rfl) rfl rfl (Or.inl rfl) ?_
              refine R_h (hp s20 ex) (by rw [e21]; exact hF4 _ _ _) ?_
              refine R_br 36 d29_130 rfl rfl ?_
              exact ih v1 v2 v3 q10 q10 s20 _ h
def f29 (k : Nat) (v1 : Int32) (v2 : Int32) (s : mS) : Option (mS) :=
  (f30 k v1 v2 s).bind fun q1 => (if (¬ q1 = (-1 : Int32)) then
    (f54 v1 q1 s).bind fun q4 => pt (uF 4 (0 : Int32) s) fun s6 => r29 k v1 v2 q1 q4 q4 s6
  else
    pt (uF 4 (0 : Int32) s) fun s8 => r29 k v1 v2 q1 (-1) (-1) s8)
theorem t_f29 {S : mE} {ex : mHp} {k : Nat} {v1 : Int32} {v2 : Int32} {s : mS} {r : mS} (h : f29 k v1 v2 s = some r) : Run S 29 (0, [(0, .ref 29), (1, .int v1), (2, .int v2)], [], hp s ex) (.inl none, hp r ex) := by
  unfold f29 at h
  refine R_p d29_0 rfl rfl ?_
  refine R_p d29_1 rfl rfl ?_
  refine R_p d29_2 rfl rfl ?_
  obtain ⟨q1, e2, h⟩ := bd_some h
  refine R_cm [.int v1, .int v2] d29_3 (List.mem_of_getElem? (i := 97) rfl) rfl ⟨by decide, by decide, Nat.le_of_ble_eq_true rfl, rfl, mcd30⟩ rfl rfl (Nat.le_of_ble_eq_true rfl) (hg29 _ _) rfl (t_f30 e2) ?_
  refine R_p (ls' := [(0, .ref 29), (1, .int v1), (2, .int v2), (3, .int q1)]) d29_6 rfl rfl ?_
  refine R_p d29_7 rfl rfl ?_
  refine R_ic (v := (-1)) d29_8 (by decide) ?_
  rcases ite_some h with ⟨c3, h⟩ | ⟨c3, h⟩
  · refine R_br 16 d29_9 (mb_t (b := (¬ q1 = (-1 : Int32))) c3) rfl ?_
    refine R_p d29_16 rfl rfl ?_
    refine R_get d29_17 (Or.inl (List.mem_of_getElem? (i := 20) rfl)) (hg29 _ _) rfl ?_
    refine R_p d29_20 rfl rfl ?_
    refine R_p d29_21 rfl rfl ?_
    obtain ⟨q4, e5, h⟩ := bd_some h
    refine R_cm [.int v1, .int q1] d29_22 (List.mem_of_getElem? (i := 59) rfl) rfl ⟨by decide, by decide, Nat.le_of_ble_eq_true rfl, rfl, mcd54⟩ rfl rfl (Nat.le_of_ble_eq_true rfl) (hg23 _ _) rfl (t_f54 e5) ?_
    refine R_p (ls' := [(0, .ref 29), (1, .int v1), (2, .int v2), (3, .int q1), (4, .int q4)]) d29_25 rfl rfl ?_
    refine R_p d29_27 rfl rfl ?_
    refine R_p (ls' := [(0, .ref 29), (1, .int v1), (2, .int v2), (3, .int q1), (4, .int q4), (5, .int q4)]) d29_29 rfl rfl ?_
    refine R_p d29_31 rfl rfl ?_
    refine R_ic (v := 0) d29_32 (by decide) ?_
    obtain ⟨s6, e7, h⟩ := pt_some h
    refine R_put d29_33 (List.mem_of_getElem? (i := 23) rfl) (hg29 _ _) (Nat.le_of_ble_eq_true rfl) rfl rfl (Or.inl rfl) ?_
    refine R_h (hp s6 ex) (by rw [e7]; exact hF4 _ _ _) ?_
    exact s29 (S := S) (ex := ex) k v1 v2 q1 q4 q4 s6 _ h
  · refine R_nb d29_9 rfl (mb_f (b := (¬ q1 = (-1 : Int32))) c3) ?_
    refine R_ic (v := (-1)) d29_12 (by decide) ?_
    refine R_br 25 d29_13 rfl rfl ?_
    refine R_p (ls' := [(0, .ref 29), (1, .int v1), (2, .int v2), (3, .int q1), (4, .int (-1))]) d29_25 rfl rfl ?_
    refine R_p d29_27 rfl rfl ?_
    refine R_p (ls' := [(0, .ref 29), (1, .int v1), (2, .int v2), (3, .int q1), (4, .int (-1)), (5, .int (-1))]) d29_29 rfl rfl ?_
    refine R_p d29_31 rfl rfl ?_
    refine R_ic (v := 0) d29_32 (by decide) ?_
    obtain ⟨s8, e9, h⟩ := pt_some h
    refine R_put d29_33 (List.mem_of_getElem? (i := 23) rfl) (hg29 _ _) (Nat.le_of_ble_eq_true rfl) rfl rfl (Or.inl rfl) ?_
    refine R_h (hp s8 ex) (by rw [e9]; exact hF4 _ _ _) ?_
    exact s29 (S := S) (ex := ex) k v1 v2 q1 (-1) (-1) s8 _ h
def r32 : Nat → Int32 → Int32 → Int32 → Int64 → Int32 → mS → Option (Int32)
  | 0, _, _, _, _, _, _ => none
  | k + 1, v1, v2, v3, v4, v6, s =>
    (if ((s.2.2.1 4) ≤ v6) then
        some v3
      else
        rdI 75 v6 ((f71 v1 v2 (s.1 30 (Int32.toNatClampNeg v6)) s).bind fun q3 => (if (q3 ≤ v4) then
          r32 k v1 v2 v3 v4 (v6 + Int32.ofInt 1) s
        else
          rdI 75 v6 (r32 k v1 v2 (s.1 30 (Int32.toNatClampNeg v6)) q3 (v6 + Int32.ofInt 1) s))))
theorem s32 {S : mE} {ex : mHp} (k : Nat) : (∀ (v1 : Int32) (v2 : Int32) (v3 : Int32) (v4 : Int64) (v6 : Int32) (s : mS) (r : Int32), r32 k v1 v2 v3 v4 v6 s = some r → Run S 32 (8, [(0, .ref 29), (1, .int v1), (2, .int v2), (3, .int v3), (4, .long v4), (6, .int v6)], [], hp s ex) (.inl (some (.int r)), hp s ex)) := by
  induction k with
  | zero => intro v1 v2 v3 v4 v6 s r h; cases h
  | succ k ih =>
    intro v1 v2 v3 v4 v6 s r h
    rw [r32] at h
    refine R_p d32_8 rfl rfl ?_
    refine R_p d32_10 rfl rfl ?_
    refine R_get d32_11 (Or.inl (List.mem_of_getElem? (i := 23) rfl)) (hg29 _ _) rfl ?_
    rcases ite_some h with ⟨c1, h⟩ | ⟨c1, h⟩
    · refine R_br 61 d32_14 (mb_t (b := ((s.2.2.1 4) ≤ v6)) c1) rfl ?_
      refine R_p d32_61 rfl rfl ?_
      cases h
      exact R_iret d32_62 rfl rfl rfl
    · refine R_nb d32_14 rfl (mb_f (b := ((s.2.2.1 4) ≤ v6)) c1) ?_
      refine R_p d32_17 rfl rfl ?_
      refine R_get d32_18 (Or.inl (List.mem_of_getElem? (i := 19) rfl)) (hg29 _ _) rfl ?_
      refine R_p d32_21 rfl rfl ?_
      refine R_p d32_22 rfl rfl ?_
      refine R_p d32_23 rfl rfl ?_
      refine R_get d32_24 (Or.inl (List.mem_of_getElem? (i := 21) rfl)) (hg29 _ _) rfl ?_
      refine R_p d32_27 rfl rfl ?_
      obtain ⟨c2, h⟩ := rdI_some h
      refine R_ild d32_29 (hg30 _ _) c2 ?_
      obtain ⟨q3, e4, h⟩ := bd_some h
      refine R_cm [.int v1, .int v2, .int (s.1 30 (Int32.toNatClampNeg v6))] d32_30 (List.mem_of_getElem? (i := 101) rfl) rfl ⟨by decide, by decide, Nat.le_of_ble_eq_true rfl, rfl, mcd71⟩ rfl rfl (Nat.le_of_ble_eq_true rfl) (hg17 _ _) rfl (t_f71 e4) ?_
      refine R_p (ls' := [(0, .ref 29), (1, .int v1), (2, .int v2), (3, .int v3), (4, .long v4), (6, .int v6), (7, .long q3)]) d32_33 rfl rfl ?_
      refine R_p d32_35 rfl rfl ?_
      refine R_p d32_37 rfl rfl ?_
      refine R_p d32_39 rfl rfl ?_
      rcases ite_some h with ⟨c5, h⟩ | ⟨c5, h⟩
      · refine R_br 55 d32_40 (mb_t (b := ((lg_cmp q3 v4) ≤ (0 : Int32))) (lgc_le.mpr c5)) rfl ?_
        refine R_p (ls' := [(0, .ref 29), (1, .int v1), (2, .int v2), (3, .int v3), (4, .long v4), (6, .int (v6 + Int32.ofInt 1)), (7, .long q3)]) d32_55 rfl rfl ?_
        refine R_br 8 d32_58 rfl rfl ?_
        exact R_wk [(0, .ref 29), (1, .int v1), (2, .int v2), (3, .int v3), (4, .long v4), (6, .int (v6 + Int32.ofInt 1))] (by simp) (ih v1 v2 v3 v4 (v6 + Int32.ofInt 1) s _ h)
      · refine R_nb d32_40 rfl (mb_f (b := ((lg_cmp q3 v4) ≤ (0 : Int32))) (fun q => c5 (lgc_le.mp q))) ?_
        refine R_p d32_43 rfl rfl ?_
        refine R_p (ls' := [(0, .ref 29), (1, .int v1), (2, .int v2), (3, .int v3), (4, .long q3), (6, .int v6), (7, .long q3)]) d32_45 rfl rfl ?_
        refine R_p d32_47 rfl rfl ?_
        refine R_get d32_48 (Or.inl (List.mem_of_getElem? (i := 21) rfl)) (hg29 _ _) rfl ?_
        refine R_p d32_51 rfl rfl ?_
        obtain ⟨c6, h⟩ := rdI_some h
        refine R_ild d32_53 (hg30 _ _) c6 ?_
        refine R_p (ls' := [(0, .ref 29), (1, .int v1), (2, .int v2), (3, .int (s.1 30 (Int32.toNatClampNeg v6))), (4, .long q3), (6, .int v6), (7, .long q3)]) d32_54 rfl rfl ?_
        refine R_p (ls' := [(0, .ref 29), (1, .int v1), (2, .int v2), (3, .int (s.1 30 (Int32.toNatClampNeg v6))), (4, .long q3), (6, .int (v6 + Int32.ofInt 1)), (7, .long q3)]) d32_55 rfl rfl ?_
        refine R_br 8 d32_58 rfl rfl ?_
        exact R_wk [(0, .ref 29), (1, .int v1), (2, .int v2), (3, .int (s.1 30 (Int32.toNatClampNeg v6))), (4, .long q3), (6, .int (v6 + Int32.ofInt 1))] (by simp) (ih v1 v2 (s.1 30 (Int32.toNatClampNeg v6)) q3 (v6 + Int32.ofInt 1) s _ h)
def f32 (k : Nat) (v1 : Int32) (v2 : Int32) (s : mS) : Option (Int32) :=
  r32 k v1 v2 (-1) 0 0 s
theorem t_f32 {S : mE} {ex : mHp} {k : Nat} {v1 : Int32} {v2 : Int32} {s : mS} {r : Int32} (h : f32 k v1 v2 s = some r) : Run S 32 (0, [(0, .ref 29), (1, .int v1), (2, .int v2)], [], hp s ex) (.inl (some (.int r)), hp s ex) := by
  unfold f32 at h
  refine R_ic (v := (-1)) d32_0 (by decide) ?_
  refine R_p (ls' := [(0, .ref 29), (1, .int v1), (2, .int v2), (3, .int (-1))]) d32_1 rfl rfl ?_
  refine R_lc (v := 0) d32_2 (by decide) ?_
  refine R_p (ls' := [(0, .ref 29), (1, .int v1), (2, .int v2), (3, .int (-1)), (4, .long 0)]) d32_3 rfl rfl ?_
  refine R_ic (v := 0) d32_5 (by decide) ?_
  refine R_p (ls' := [(0, .ref 29), (1, .int v1), (2, .int v2), (3, .int (-1)), (4, .long 0), (6, .int 0)]) d32_6 rfl rfl ?_
  exact s32 (S := S) (ex := ex) k v1 v2 (-1) 0 0 s _ h
def f33 (v1 : Int32) (v2 : Int32) (s : mS) : Option (Int32) :=
  (f54 v2 v1 s).bind fun q1 => (f54 v1 v2 s).bind fun q3 => (if (q1 = (-1 : Int32)) then
    some (0 : Int32)
  else
    (if (q3 = (-1 : Int32)) then
      some (0 : Int32)
    else
      (f73 q1 v2 q3 s).bind fun q7 => (if (q7 ≤ (0 : Int32)) then
        some (0 : Int32)
      else
        (f73 q3 v1 q1 s).bind fun q10 => (if (q10 ≤ (0 : Int32)) then
          some (0 : Int32)
        else
          some (1 : Int32)))))
theorem t_f33 {S : mE} {ex : mHp} {v1 : Int32} {v2 : Int32} {s : mS} {r : Int32} (h : f33 v1 v2 s = some r) : Run S 33 (0, [(0, .ref 29), (1, .int v1), (2, .int v2)], [], hp s ex) (.inl (some (.int r)), hp s ex) := by
  unfold f33 at h
  refine R_p d33_0 rfl rfl ?_
  refine R_get d33_1 (Or.inl (List.mem_of_getElem? (i := 20) rfl)) (hg29 _ _) rfl ?_
  refine R_p d33_4 rfl rfl ?_
  refine R_p d33_5 rfl rfl ?_
  obtain ⟨q1, e2, h⟩ := bd_some h
  refine R_cm [.int v2, .int v1] d33_6 (List.mem_of_getElem? (i := 59) rfl) rfl ⟨by decide, by decide, Nat.le_of_ble_eq_true rfl, rfl, mcd54⟩ rfl rfl (Nat.le_of_ble_eq_true rfl) (hg23 _ _) rfl (t_f54 e2) ?_
  refine R_p (ls' := [(0, .ref 29), (1, .int v1), (2, .int v2), (3, .int q1)]) d33_9 rfl rfl ?_
  refine R_p d33_10 rfl rfl ?_
  refine R_get d33_11 (Or.inl (List.mem_of_getElem? (i := 20) rfl)) (hg29 _ _) rfl ?_
  refine R_p d33_14 rfl rfl ?_
  refine R_p d33_15 rfl rfl ?_
  obtain ⟨q3, e4, h⟩ := bd_some h
  refine R_cm [.int v1, .int v2] d33_16 (List.mem_of_getElem? (i := 59) rfl) rfl ⟨by decide, by decide, Nat.le_of_ble_eq_true rfl, rfl, mcd54⟩ rfl rfl (Nat.le_of_ble_eq_true rfl) (hg23 _ _) rfl (t_f54 e4) ?_
  refine R_p (ls' := [(0, .ref 29), (1, .int v1), (2, .int v2), (3, .int q1), (4, .int q3)]) d33_19 rfl rfl ?_
  refine R_p d33_21 rfl rfl ?_
  refine R_ic (v := (-1)) d33_22 (by decide) ?_
  rcases ite_some h with ⟨c5, h⟩ | ⟨c5, h⟩
  · refine R_br 64 d33_23 (mb_t (b := (q1 = (-1 : Int32))) c5) rfl ?_
    refine R_ic (v := 0) d33_64 (by decide) ?_
    cases h
    exact R_iret d33_65 rfl rfl rfl
  · refine R_nb d33_23 rfl (mb_f (b := (q1 = (-1 : Int32))) c5) ?_
    refine R_p d33_26 rfl rfl ?_
    refine R_ic (v := (-1)) d33_28 (by decide) ?_
    rcases ite_some h with ⟨c6, h⟩ | ⟨c6, h⟩
    · refine R_br 64 d33_29 (mb_t (b := (q3 = (-1 : Int32))) c6) rfl ?_
      refine R_ic (v := 0) d33_64 (by decide) ?_
      cases h
      exact R_iret d33_65 rfl rfl rfl
    · refine R_nb d33_29 rfl (mb_f (b := (q3 = (-1 : Int32))) c6) ?_
      refine R_p d33_32 rfl rfl ?_
      refine R_get d33_33 (Or.inl (List.mem_of_getElem? (i := 19) rfl)) (hg29 _ _) rfl ?_
      refine R_p d33_36 rfl rfl ?_
      refine R_p d33_37 rfl rfl ?_
      refine R_p d33_38 rfl rfl ?_
      obtain ⟨q7, e8, h⟩ := bd_some h
      refine R_cm [.int q1, .int v2, .int q3] d33_40 (List.mem_of_getElem? (i := 44) rfl) rfl ⟨by decide, by decide, Nat.le_of_ble_eq_true rfl, rfl, mcd73⟩ rfl rfl (Nat.le_of_ble_eq_true rfl) (hg17 _ _) rfl (t_f73 e8) ?_
      rcases ite_some h with ⟨c9, h⟩ | ⟨c9, h⟩
      · refine R_br 64 d33_43 (mb_t (b := (q7 ≤ (0 : Int32))) c9) rfl ?_
        refine R_ic (v := 0) d33_64 (by decide) ?_
        cases h
        exact R_iret d33_65 rfl rfl rfl
      · refine R_nb d33_43 rfl (mb_f (b := (q7 ≤ (0 : Int32))) c9) ?_
        refine R_p d33_46 rfl rfl ?_
        refine R_get d33_47 (Or.inl (List.mem_of_getElem? (i := 19) rfl)) (hg29 _ _) rfl ?_
        refine R_p d33_50 rfl rfl ?_
        refine R_p d33_52 rfl rfl ?_
        refine R_p d33_53 rfl rfl ?_
        obtain ⟨q10, e11, h⟩ := bd_some h
        refine R_cm [.int q3, .int v1, .int q1] d33_54 (List.mem_of_getElem? (i := 44) rfl) rfl ⟨by decide, by decide, Nat.le_of_ble_eq_true rfl, rfl, mcd73⟩ rfl rfl (Nat.le_of_ble_eq_true rfl) (hg17 _ _) rfl (t_f73 e11) ?_
        rcases ite_some h with ⟨c12, h⟩ | ⟨c12, h⟩
        · refine R_br 64 d33_57 (mb_t (b := (q10 ≤ (0 : Int32))) c12) rfl ?_
          refine R_ic (v := 0) d33_64 (by decide) ?_
          cases h
          exact R_iret d33_65 rfl rfl rfl
        · refine R_nb d33_57 rfl (mb_f (b := (q10 ≤ (0 : Int32))) c12) ?_
          refine R_ic (v := 1) d33_60 (by decide) ?_
          refine R_br 65 d33_61 rfl rfl ?_
          cases h
          exact R_iret d33_65 rfl rfl rfl
def r31 : Nat → Int32 → Int32 → Int32 → Int32 → mS → Option (mS)
  | 0, _, _, _, _, _ => none
  | k + 1, v1, v2, v3, v4, s =>
    (if ((s.2.2.1 4) ≤ v4) then
        some s
      else
        rdI 75 v4 ((if (¬ (s.1 30 (Int32.toNatClampNeg v4)) = v3) then
          r31 k v1 v2 v3 (v4 + Int32.ofInt 1) s
        else
          rdI 75 v4 ((f33 v3 (s.1 31 (Int32.toNatClampNeg v4)) s).bind fun q5 => (if (q5 = (0 : Int32)) then
            r31 k v1 v2 v3 (v4 + Int32.ofInt 1) s
          else
            rdI 75 v4 ((f54 (s.1 31 (Int32.toNatClampNeg v4)) v3 s).bind fun q9 => rdI 75 v4 ((f54 v3 (s.1 31 (Int32.toNatClampNeg v4)) s).bind fun q12 => rdI 75 v4 ((f59 v3 (s.1 31 (Int32.toNatClampNeg v4)) s).bind fun q15 => (f55 q9 q12 q15).bind fun q17 => some q17))))))))
theorem s31 {S : mE} {ex : mHp} (k : Nat) : (∀ (v1 : Int32) (v2 : Int32) (v3 : Int32) (v4 : Int32) (s : mS) (r : mS), r31 k v1 v2 v3 v4 s = some r → Run S 31 (10, [(0, .ref 29), (1, .int v1), (2, .int v2), (3, .int v3), (4, .int v4)], [], hp s ex) (.inl none, hp r ex)) := by
  induction k with
  | zero => intro v1 v2 v3 v4 s r h; cases h
  | succ k ih =>
    intro v1 v2 v3 v4 s r h
    rw [r31] at h
    refine R_p d31_10 rfl rfl ?_
    refine R_p d31_12 rfl rfl ?_
    refine R_get d31_13 (Or.inl (List.mem_of_getElem? (i := 23) rfl)) (hg29 _ _) rfl ?_
    rcases ite_some h with ⟨c1, h⟩ | ⟨c1, h⟩
    · refine R_br 112 d31_16 (mb_t (b := ((s.2.2.1 4) ≤ v4)) c1) rfl ?_
      cases h
      exact R_vret d31_112 rfl rfl
    · refine R_nb d31_16 rfl (mb_f (b := ((s.2.2.1 4) ≤ v4)) c1) ?_
      refine R_p d31_19 rfl rfl ?_
      refine R_get d31_20 (Or.inl (List.mem_of_getElem? (i := 21) rfl)) (hg29 _ _) rfl ?_
      refine R_p d31_23 rfl rfl ?_
      obtain ⟨c2, h⟩ := rdI_some h
      refine R_ild d31_25 (hg30 _ _) c2 ?_
      refine R_p d31_26 rfl rfl ?_
      rcases ite_some h with ⟨c3, h⟩ | ⟨c3, h⟩
      · refine R_br 106 d31_27 (mb_t (b := (¬ (s.1 30 (Int32.toNatClampNeg v4)) = v3)) c3) rfl ?_
        refine R_p (ls' := [(0, .ref 29), (1, .int v1), (2, .int v2), (3, .int v3), (4, .int (v4 + Int32.ofInt 1))]) d31_106 rfl rfl ?_
        refine R_br 10 d31_109 rfl rfl ?_
        exact ih v1 v2 v3 (v4 + Int32.ofInt 1) s _ h
      · refine R_nb d31_27 rfl (mb_f (b := (¬ (s.1 30 (Int32.toNatClampNeg v4)) = v3)) c3) ?_
        refine R_p d31_30 rfl rfl ?_
        refine R_p d31_31 rfl rfl ?_
        refine R_p d31_32 rfl rfl ?_
        refine R_get d31_33 (Or.inl (List.mem_of_getElem? (i := 22) rfl)) (hg29 _ _) rfl ?_
        refine R_p d31_36 rfl rfl ?_
        obtain ⟨c4, h⟩ := rdI_some h
        refine R_ild d31_38 (hg31 _ _) c4 ?_
        obtain ⟨q5, e6, h⟩ := bd_some h
        refine R_cm [.int v3, .int (s.1 31 (Int32.toNatClampNeg v4))] d31_39 (List.mem_of_getElem? (i := 102) rfl) rfl ⟨by decide, by decide, Nat.le_of_ble_eq_true rfl, rfl, mcd33⟩ rfl rfl (Nat.le_of_ble_eq_true rfl) (hg29 _ _) rfl (t_f33 e6) ?_
        rcases ite_some h with ⟨c7, h⟩ | ⟨c7, h⟩
        · refine R_br 106 d31_42 (mb_t (b := (q5 = (0 : Int32))) c7) rfl ?_
          refine R_p (ls' := [(0, .ref 29), (1, .int v1), (2, .int v2), (3, .int v3), (4, .int (v4 + Int32.ofInt 1))]) d31_106 rfl rfl ?_
          refine R_br 10 d31_109 rfl rfl ?_
          exact ih v1 v2 v3 (v4 + Int32.ofInt 1) s _ h
        · refine R_nb d31_42 rfl (mb_f (b := (q5 = (0 : Int32))) c7) ?_
          refine R_p d31_45 rfl rfl ?_
          refine R_get d31_46 (Or.inl (List.mem_of_getElem? (i := 20) rfl)) (hg29 _ _) rfl ?_
          refine R_p d31_49 rfl rfl ?_
          refine R_get d31_50 (Or.inl (List.mem_of_getElem? (i := 22) rfl)) (hg29 _ _) rfl ?_
          refine R_p d31_53 rfl rfl ?_
          obtain ⟨c8, h⟩ := rdI_some h
          refine R_ild d31_55 (hg31 _ _) c8 ?_
          refine R_p d31_56 rfl rfl ?_
          obtain ⟨q9, e10, h⟩ := bd_some h
          refine R_cm [.int (s.1 31 (Int32.toNatClampNeg v4)), .int v3] d31_57 (List.mem_of_getElem? (i := 59) rfl) rfl ⟨by decide, by decide, Nat.le_of_ble_eq_true rfl, rfl, mcd54⟩ rfl rfl (Nat.le_of_ble_eq_true rfl) (hg23 _ _) rfl (t_f54 e10) ?_
          refine R_p (ls' := [(0, .ref 29), (1, .int v1), (2, .int v2), (3, .int v3), (4, .int v4), (5, .int q9)]) d31_60 rfl rfl ?_
          refine R_p d31_62 rfl rfl ?_
          refine R_get d31_63 (Or.inl (List.mem_of_getElem? (i := 20) rfl)) (hg29 _ _) rfl ?_
          refine R_p d31_66 rfl rfl ?_
          refine R_p d31_67 rfl rfl ?_
          refine R_get d31_68 (Or.inl (List.mem_of_getElem? (i := 22) rfl)) (hg29 _ _) rfl ?_
          refine R_p d31_71 rfl rfl ?_
          obtain ⟨c11, h⟩ := rdI_some h
          refine R_ild d31_73 (hg31 _ _) c11 ?_
          obtain ⟨q12, e13, h⟩ := bd_some h
          refine R_cm [.int v3, .int (s.1 31 (Int32.toNatClampNeg v4))] d31_74 (List.mem_of_getElem? (i := 59) rfl) rfl ⟨by decide, by decide, Nat.le_of_ble_eq_true rfl, rfl, mcd54⟩ rfl rfl (Nat.le_of_ble_eq_true rfl) (hg23 _ _) rfl (t_f54 e13) ?_
          refine R_p (ls' := [(0, .ref 29), (1, .int v1), (2, .int v2), (3, .int v3), (4, .int v4), (5, .int q9), (6, .int q12)]) d31_77 rfl rfl ?_
          refine R_p d31_79 rfl rfl ?_
          refine R_get d31_80 (Or.inl (List.mem_of_getElem? (i := 20) rfl)) (hg29 _ _) rfl ?_
          refine R_p d31_83 rfl rfl ?_
          refine R_p d31_84 rfl rfl ?_
          refine R_get d31_85 (Or.inl (List.mem_of_getElem? (i := 22) rfl)) (hg29 _ _) rfl ?_
          refine R_p d31_88 rfl rfl ?_
          obtain ⟨c14, h⟩ := rdI_some h
          refine R_ild d31_90 (hg31 _ _) c14 ?_
          obtain ⟨q15, e16, h⟩ := bd_some h
          refine R_cm [.int v3, .int (s.1 31 (Int32.toNatClampNeg v4))] d31_91 (List.mem_of_getElem? (i := 103) rfl) rfl ⟨by decide, by decide, Nat.le_of_ble_eq_true rfl, rfl, mcd59⟩ rfl rfl (Nat.le_of_ble_eq_true rfl) (hg23 _ _) rfl (t_f59 e16) ?_
          refine R_p d31_94 rfl rfl ?_
          refine R_get d31_95 (Or.inl (List.mem_of_getElem? (i := 20) rfl)) (hg29 _ _) rfl ?_
          refine R_p d31_98 rfl rfl ?_
          refine R_p d31_100 rfl rfl ?_
          obtain ⟨q17, e18, h⟩ := bd_some h
          refine R_cm [.int q9, .int q12] d31_102 (List.mem_of_getElem? (i := 60) rfl) rfl ⟨by decide, by decide, Nat.le_of_ble_eq_true rfl, rfl, mcd55⟩ rfl rfl (Nat.le_of_ble_eq_true rfl) (hg23 _ _) rfl (t_f55 e18) ?_
          cases h
          exact R_vret d31_105 rfl rfl
def f31 (k : Nat) (v1 : Int32) (v2 : Int32) (s : mS) : Option (mS) :=
  (f32 k v1 v2 s).bind fun q1 => r31 k v1 v2 q1 0 s
theorem t_f31 {S : mE} {ex : mHp} {k : Nat} {v1 : Int32} {v2 : Int32} {s : mS} {r : mS} (h : f31 k v1 v2 s = some r) : Run S 31 (0, [(0, .ref 29), (1, .int v1), (2, .int v2)], [], hp s ex) (.inl none, hp r ex) := by
  unfold f31 at h
  refine R_p d31_0 rfl rfl ?_
  refine R_p d31_1 rfl rfl ?_
  refine R_p d31_2 rfl rfl ?_
  obtain ⟨q1, e2, h⟩ := bd_some h
  refine R_cm [.int v1, .int v2] d31_3 (List.mem_of_getElem? (i := 100) rfl) rfl ⟨by decide, by decide, Nat.le_of_ble_eq_true rfl, rfl, mcd32⟩ rfl rfl (Nat.le_of_ble_eq_true rfl) (hg29 _ _) rfl (t_f32 e2) ?_
  refine R_p (ls' := [(0, .ref 29), (1, .int v1), (2, .int v2), (3, .int q1)]) d31_6 rfl rfl ?_
  refine R_ic (v := 0) d31_7 (by decide) ?_
  refine R_p (ls' := [(0, .ref 29), (1, .int v1), (2, .int v2), (3, .int q1), (4, .int 0)]) d31_8 rfl rfl ?_
  exact s31 (S := S) (ex := ex) k v1 v2 q1 0 s _ h
def r28 : Nat → Int32 → Int32 → Int32 → mS → Option (mS)
  | 0, _, _, _, _ => none
  | k + 1, v1, v2, v3, s =>
    (if ((1000000 : Int32) ≤ v3) then
        (f57 k s).bind fun q2 => some q2
      else
        (f62 v1 v2 s).bind fun q4 => (if (¬ q4 = (0 : Int32)) then
          (f57 k s).bind fun q7 => some q7
        else
          (f29 k v1 v2 s).bind fun q9 => (f31 k v1 v2 q9).bind fun q11 => r28 k v1 v2 (v3 + Int32.ofInt 1) q11))
theorem s28 {S : mE} {ex : mHp} (k : Nat) : (∀ (v1 : Int32) (v2 : Int32) (v3 : Int32) (s : mS) (r : mS), r28 k v1 v2 v3 s = some r → Run S 28 (13, [(0, .ref 29), (1, .int v1), (2, .int v2), (3, .int v3)], [], hp s ex) (.inl none, hp r ex)) := by
  induction k with
  | zero => intro v1 v2 v3 s r h; cases h
  | succ k ih =>
    intro v1 v2 v3 s r h
    rw [r28] at h
    refine R_p d28_13 rfl rfl ?_
    refine R_ci (v := 1000000) 663 d28_14 (List.mem_of_getElem? (i := 3) rfl) ?_
    rcases ite_some h with ⟨c1, h⟩ | ⟨c1, h⟩
    · refine R_br 49 d28_16 (mb_t (b := ((1000000 : Int32) ≤ v3)) c1) rfl ?_
      refine R_p d28_49 rfl rfl ?_
      refine R_get d28_50 (Or.inl (List.mem_of_getElem? (i := 20) rfl)) (hg29 _ _) rfl ?_
      obtain ⟨q2, e3, h⟩ := bd_some h
      refine R_cm [] d28_53 (List.mem_of_getElem? (i := 67) rfl) rfl ⟨by decide, by decide, Nat.le_of_ble_eq_true rfl, rfl, mcd57⟩ rfl rfl (Nat.le_of_ble_eq_true rfl) (hg23 _ _) rfl (t_f57 e3) ?_
      cases h
      exact R_vret d28_56 rfl rfl
    · refine R_nb d28_16 rfl (mb_f (b := ((1000000 : Int32) ≤ v3)) c1) ?_
      refine R_p d28_19 rfl rfl ?_
      refine R_get d28_20 (Or.inl (List.mem_of_getElem? (i := 20) rfl)) (hg29 _ _) rfl ?_
      refine R_p d28_23 rfl rfl ?_
      refine R_p d28_24 rfl rfl ?_
      obtain ⟨q4, e5, h⟩ := bd_some h
      refine R_cm [.int v1, .int v2] d28_25 (List.mem_of_getElem? (i := 95) rfl) rfl ⟨by decide, by decide, Nat.le_of_ble_eq_true rfl, rfl, mcd62⟩ rfl rfl (Nat.le_of_ble_eq_true rfl) (hg23 _ _) rfl (t_f62 e5) ?_
      rcases ite_some h with ⟨c6, h⟩ | ⟨c6, h⟩
      · refine R_br 49 d28_28 (mb_t (b := (¬ q4 = (0 : Int32))) c6) rfl ?_
        refine R_p d28_49 rfl rfl ?_
        refine R_get d28_50 (Or.inl (List.mem_of_getElem? (i := 20) rfl)) (hg29 _ _) rfl ?_
        obtain ⟨q7, e8, h⟩ := bd_some h
        refine R_cm [] d28_53 (List.mem_of_getElem? (i := 67) rfl) rfl ⟨by decide, by decide, Nat.le_of_ble_eq_true rfl, rfl, mcd57⟩ rfl rfl (Nat.le_of_ble_eq_true rfl) (hg23 _ _) rfl (t_f57 e8) ?_
        cases h
        exact R_vret d28_56 rfl rfl
      · refine R_nb d28_28 rfl (mb_f (b := (¬ q4 = (0 : Int32))) c6) ?_
        refine R_p d28_31 rfl rfl ?_
        refine R_p d28_32 rfl rfl ?_
        refine R_p d28_33 rfl rfl ?_
        obtain ⟨q9, e10, h⟩ := bd_some h
        refine R_cm [.int v1, .int v2] d28_34 (List.mem_of_getElem? (i := 96) rfl) rfl ⟨by decide, by decide, Nat.le_of_ble_eq_true rfl, rfl, mcd29⟩ rfl rfl (Nat.le_of_ble_eq_true rfl) (hg29 _ _) rfl (t_f29 e10) ?_
        refine R_p d28_37 rfl rfl ?_
        refine R_p d28_38 rfl rfl ?_
        refine R_p d28_39 rfl rfl ?_
        obtain ⟨q11, e12, h⟩ := bd_some h
        refine R_cm [.int v1, .int v2] d28_40 (List.mem_of_getElem? (i := 99) rfl) rfl ⟨by decide, by decide, Nat.le_of_ble_eq_true rfl, rfl, mcd31⟩ rfl rfl (Nat.le_of_ble_eq_true rfl) (hg29 _ _) rfl (t_f31 e12) ?_
        refine R_p (ls' := [(0, .ref 29), (1, .int v1), (2, .int v2), (3, .int (v3 + Int32.ofInt 1))]) d28_43 rfl rfl ?_
        refine R_br 13 d28_46 rfl rfl ?_
        exact ih v1 v2 (v3 + Int32.ofInt 1) q11 _ h
def f28 (k : Nat) (v1 : Int32) (v2 : Int32) (s : mS) : Option (mS) :=
  (f46 s).bind fun q1 => (if (¬ q1 = (0 : Int32)) then
    r28 k v1 v2 0 s
  else
    some s)
theorem t_f28 {S : mE} {ex : mHp} {k : Nat} {v1 : Int32} {v2 : Int32} {s : mS} {r : mS} (h : f28 k v1 v2 s = some r) : Run S 28 (0, [(0, .ref 29), (1, .int v1), (2, .int v2)], [], hp s ex) (.inl none, hp r ex) := by
  unfold f28 at h
  refine R_p d28_0 rfl rfl ?_
  refine R_get d28_1 (Or.inl (List.mem_of_getElem? (i := 20) rfl)) (hg29 _ _) rfl ?_
  obtain ⟨q1, e2, h⟩ := bd_some h
  refine R_cm [] d28_4 (List.mem_of_getElem? (i := 42) rfl) rfl ⟨by decide, by decide, Nat.le_of_ble_eq_true rfl, rfl, mcd46⟩ rfl rfl (Nat.le_of_ble_eq_true rfl) (hg23 _ _) rfl (t_f46 e2) ?_
  rcases ite_some h with ⟨c3, h⟩ | ⟨c3, h⟩
  · refine R_br 11 d28_7 (mb_t (b := (¬ q1 = (0 : Int32))) c3) rfl ?_
    refine R_ic (v := 0) d28_11 (by decide) ?_
    refine R_p (ls' := [(0, .ref 29), (1, .int v1), (2, .int v2), (3, .int 0)]) d28_12 rfl rfl ?_
    exact s28 (S := S) (ex := ex) k v1 v2 0 s _ h
  · refine R_nb d28_7 rfl (mb_f (b := (¬ q1 = (0 : Int32))) c3) ?_
    cases h
    exact R_vret d28_10 rfl rfl
def f34 (k : Nat) (v1 : Int32) (v2 : Int32) (s : mS) : Option (mS) :=
  (f46 s).bind fun q1 => (if (q1 ≤ (0 : Int32)) then
    some s
  else
    (f55 v1 v2 s).bind fun q4 => (f57 k q4).bind fun q6 => some q6)
theorem t_f34 {S : mE} {ex : mHp} {k : Nat} {v1 : Int32} {v2 : Int32} {s : mS} {r : mS} (h : f34 k v1 v2 s = some r) : Run S 34 (0, [(0, .ref 29), (1, .int v1), (2, .int v2)], [], hp s ex) (.inl none, hp r ex) := by
  unfold f34 at h
  refine R_p d34_0 rfl rfl ?_
  refine R_get d34_1 (Or.inl (List.mem_of_getElem? (i := 20) rfl)) (hg29 _ _) rfl ?_
  obtain ⟨q1, e2, h⟩ := bd_some h
  refine R_cm [] d34_4 (List.mem_of_getElem? (i := 42) rfl) rfl ⟨by decide, by decide, Nat.le_of_ble_eq_true rfl, rfl, mcd46⟩ rfl rfl (Nat.le_of_ble_eq_true rfl) (hg23 _ _) rfl (t_f46 e2) ?_
  rcases ite_some h with ⟨c3, h⟩ | ⟨c3, h⟩
  · refine R_br 26 d34_7 (mb_t (b := (q1 ≤ (0 : Int32))) c3) rfl ?_
    cases h
    exact R_vret d34_26 rfl rfl
  · refine R_nb d34_7 rfl (mb_f (b := (q1 ≤ (0 : Int32))) c3) ?_
    refine R_p d34_10 rfl rfl ?_
    refine R_get d34_11 (Or.inl (List.mem_of_getElem? (i := 20) rfl)) (hg29 _ _) rfl ?_
    refine R_p d34_14 rfl rfl ?_
    refine R_p d34_15 rfl rfl ?_
    obtain ⟨q4, e5, h⟩ := bd_some h
    refine R_cm [.int v1, .int v2] d34_16 (List.mem_of_getElem? (i := 60) rfl) rfl ⟨by decide, by decide, Nat.le_of_ble_eq_true rfl, rfl, mcd55⟩ rfl rfl (Nat.le_of_ble_eq_true rfl) (hg23 _ _) rfl (t_f55 e5) ?_
    refine R_p d34_19 rfl rfl ?_
    refine R_get d34_20 (Or.inl (List.mem_of_getElem? (i := 20) rfl)) (hg29 _ _) rfl ?_
    obtain ⟨q6, e7, h⟩ := bd_some h
    refine R_cm [] d34_23 (List.mem_of_getElem? (i := 67) rfl) rfl ⟨by decide, by decide, Nat.le_of_ble_eq_true rfl, rfl, mcd57⟩ rfl rfl (Nat.le_of_ble_eq_true rfl) (hg23 _ _) rfl (t_f57 e7) ?_
    cases h
    exact R_vret d34_26 rfl rfl
def f92 (k : Nat) (s : mS) : Option (Int32 × mS) :=
  (f66 s).bind fun q1 => (f67 s).bind fun q3 => (f36 k q3).bind fun q5 => (f45 k q5).bind fun q7 => some (q1, q7)
theorem t_f92 {S : mE} {ex : mHp} {k : Nat} {s : mS} {r : Int32 × mS} (h : f92 k s = some r) : Run S 92 (0, [(0, .ref 16)], [], hp s ex) (.inl (some (.int r.1)), hp r.2 ex) := by
  unfold f92 at h
  refine R_p d92_0 rfl rfl ?_
  refine R_get d92_1 (Or.inl (List.mem_of_getElem? (i := 43) rfl)) (hg16 _ _) rfl ?_
  obtain ⟨q1, e2, h⟩ := bd_some h
  refine R_cm [] d92_4 (List.mem_of_getElem? (i := 11) rfl) rfl ⟨by decide, by decide, Nat.le_of_ble_eq_true rfl, rfl, mcd66⟩ rfl rfl (Nat.le_of_ble_eq_true rfl) (hg17 _ _) rfl (t_f66 e2) ?_
  refine R_p (ls' := [(0, .ref 16), (1, .int q1)]) d92_7 rfl rfl ?_
  refine R_p d92_8 rfl rfl ?_
  refine R_get d92_9 (Or.inl (List.mem_of_getElem? (i := 43) rfl)) (hg16 _ _) rfl ?_
  obtain ⟨q3, e4, h⟩ := bd_some h
  refine R_cm [] d92_12 (List.mem_of_getElem? (i := 12) rfl) rfl ⟨by decide, by decide, Nat.le_of_ble_eq_true rfl, rfl, mcd67⟩ rfl rfl (Nat.le_of_ble_eq_true rfl) (hg17 _ _) rfl (t_f67 e4) ?_
  refine R_p d92_15 rfl rfl ?_
  refine R_get d92_16 (Or.inl (List.mem_of_getElem? (i := 44) rfl)) (hg16 _ _) rfl ?_
  obtain ⟨q5, e6, h⟩ := bd_some h
  refine R_cm [] d92_19 (List.mem_of_getElem? (i := 13) rfl) rfl ⟨by decide, by decide, Nat.le_of_ble_eq_true rfl, rfl, mcd36⟩ rfl rfl (Nat.le_of_ble_eq_true rfl) (hg21 _ _) rfl (t_f36 e6) ?_
  refine R_p d92_22 rfl rfl ?_
  refine R_get d92_23 (Or.inl (List.mem_of_getElem? (i := 45) rfl)) (hg16 _ _) rfl ?_
  obtain ⟨q7, e8, h⟩ := bd_some h
  refine R_cm [] d92_26 (List.mem_of_getElem? (i := 15) rfl) rfl ⟨by decide, by decide, Nat.le_of_ble_eq_true rfl, rfl, mcd45⟩ rfl rfl (Nat.le_of_ble_eq_true rfl) (hg23 _ _) rfl (t_f45 e8) ?_
  refine R_p d92_29 rfl rfl ?_
  cases h
  exact R_iret d92_30 rfl rfl rfl
def f93 (v1 : Int32) (s : mS) : Option (Int32) :=
  (if v1 = (0 : Int32) then
    (f66 s).bind fun q2 => some q2
  else
    (if v1 = (1 : Int32) then
      (f37 s).bind fun q5 => some q5
    else
      (if v1 = (2 : Int32) then
        (f46 s).bind fun q8 => some q8
      else
        (if v1 = (3 : Int32) then
          (f47 s).bind fun q11 => some q11
        else
          (if v1 = (4 : Int32) then
            (f48 s).bind fun q14 => some q14
          else
            some (-1 : Int32))))))
theorem t_f93 {S : mE} {ex : mHp} {v1 : Int32} {s : mS} {r : Int32} (h : f93 v1 s = some r) : Run S 93 (0, [(0, .ref 16), (1, .int v1)], [], hp s ex) (.inl (some (.int r)), hp s ex) := by
  unfold f93 at h
  refine R_p d93_0 rfl rfl ?_
  rcases ite_some h with ⟨c1, h⟩ | ⟨c1, h⟩
  · refine R_nv (v' := 0) c1 ?_
    refine R_swi 36 d93_1 (by decide) (by decide) rfl rfl ?_
    refine R_p d93_36 rfl rfl ?_
    refine R_get d93_37 (Or.inl (List.mem_of_getElem? (i := 43) rfl)) (hg16 _ _) rfl ?_
    obtain ⟨q2, e3, h⟩ := bd_some h
    refine R_cm [] d93_40 (List.mem_of_getElem? (i := 11) rfl) rfl ⟨by decide, by decide, Nat.le_of_ble_eq_true rfl, rfl, mcd66⟩ rfl rfl (Nat.le_of_ble_eq_true rfl) (hg17 _ _) rfl (t_f66 e3) ?_
    cases h
    exact R_iret d93_43 rfl rfl rfl
  · skip
    rcases ite_some h with ⟨c4, h⟩ | ⟨c4, h⟩
    · refine R_nv (v' := 1) c4 ?_
      refine R_swi 44 d93_1 (by decide) (by decide) rfl rfl ?_
      refine R_p d93_44 rfl rfl ?_
      refine R_get d93_45 (Or.inl (List.mem_of_getElem? (i := 44) rfl)) (hg16 _ _) rfl ?_
      obtain ⟨q5, e6, h⟩ := bd_some h
      refine R_cm [] d93_48 (List.mem_of_getElem? (i := 17) rfl) rfl ⟨by decide, by decide, Nat.le_of_ble_eq_true rfl, rfl, mcd37⟩ rfl rfl (Nat.le_of_ble_eq_true rfl) (hg21 _ _) rfl (t_f37 e6) ?_
      cases h
      exact R_iret d93_51 rfl rfl rfl
    · skip
      rcases ite_some h with ⟨c7, h⟩ | ⟨c7, h⟩
      · refine R_nv (v' := 2) c7 ?_
        refine R_swi 52 d93_1 (by decide) (by decide) rfl rfl ?_
        refine R_p d93_52 rfl rfl ?_
        refine R_get d93_53 (Or.inl (List.mem_of_getElem? (i := 45) rfl)) (hg16 _ _) rfl ?_
        obtain ⟨q8, e9, h⟩ := bd_some h
        refine R_cm [] d93_56 (List.mem_of_getElem? (i := 18) rfl) rfl ⟨by decide, by decide, Nat.le_of_ble_eq_true rfl, rfl, mcd46⟩ rfl rfl (Nat.le_of_ble_eq_true rfl) (hg23 _ _) rfl (t_f46 e9) ?_
        cases h
        exact R_iret d93_59 rfl rfl rfl
      · skip
        rcases ite_some h with ⟨c10, h⟩ | ⟨c10, h⟩
        · refine R_nv (v' := 3) c10 ?_
          refine R_swi 60 d93_1 (by decide) (by decide) rfl rfl ?_
          refine R_p d93_60 rfl rfl ?_
          refine R_get d93_61 (Or.inl (List.mem_of_getElem? (i := 45) rfl)) (hg16 _ _) rfl ?_
          obtain ⟨q11, e12, h⟩ := bd_some h
          refine R_cm [] d93_64 (List.mem_of_getElem? (i := 19) rfl) rfl ⟨by decide, by decide, Nat.le_of_ble_eq_true rfl, rfl, mcd47⟩ rfl rfl (Nat.le_of_ble_eq_true rfl) (hg23 _ _) rfl (t_f47 e12) ?_
          cases h
          exact R_iret d93_67 rfl rfl rfl
        · skip
          rcases ite_some h with ⟨c13, h⟩ | ⟨c13, h⟩
          · refine R_nv (v' := 4) c13 ?_
            refine R_swi 68 d93_1 (by decide) (by decide) rfl rfl ?_
            refine R_p d93_68 rfl rfl ?_
            refine R_get d93_69 (Or.inl (List.mem_of_getElem? (i := 45) rfl)) (hg16 _ _) rfl ?_
            obtain ⟨q14, e15, h⟩ := bd_some h
            refine R_cm [] d93_72 (List.mem_of_getElem? (i := 21) rfl) rfl ⟨by decide, by decide, Nat.le_of_ble_eq_true rfl, rfl, mcd48⟩ rfl rfl (Nat.le_of_ble_eq_true rfl) (hg23 _ _) rfl (t_f48 e15) ?_
            cases h
            exact R_iret d93_75 rfl rfl rfl
          · skip
            refine R_swo 76 d93_1 (sw_out5 c1 c4 c7 c10 c13) rfl ?_
            refine R_ic (v := (-1)) d93_76 (by decide) ?_
            cases h
            exact R_iret d93_77 rfl rfl rfl
