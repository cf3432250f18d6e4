/-! the class: its plane and its links, as functions (wip/gen/dec.py) -/
theorem d38_0 : decode (mCode 38) 0 = .ok (.iconst 0, 1) := by decide +kernel
theorem d38_1 : decode (mCode 38) 1 = .ok (.istore_n 2, 1) := by decide +kernel
theorem d38_2 : decode (mCode 38) 2 = .ok (.iload_n 2, 1) := by decide +kernel
theorem d38_3 : decode (mCode 38) 3 = .ok (.aload_n 0, 1) := by decide +kernel
theorem d38_4 : decode (mCode 38) 4 = .ok (.getfield 15, 3) := by decide +kernel
theorem d38_7 : decode (mCode 38) 7 = .ok (.invokevirtual 31, 3) := by decide +kernel
theorem d38_10 : decode (mCode 38) 10 = .ok (.if_icmp .ge 54, 3) := by decide +kernel
theorem d38_13 : decode (mCode 38) 13 = .ok (.iload_n 2, 1) := by decide +kernel
theorem d38_14 : decode (mCode 38) 14 = .ok (.iconst 1, 1) := by decide +kernel
theorem d38_15 : decode (mCode 38) 15 = .ok (.iadd, 1) := by decide +kernel
theorem d38_16 : decode (mCode 38) 16 = .ok (.istore_n 3, 1) := by decide +kernel
theorem d38_17 : decode (mCode 38) 17 = .ok (.iload_n 3, 1) := by decide +kernel
theorem d38_18 : decode (mCode 38) 18 = .ok (.aload_n 0, 1) := by decide +kernel
theorem d38_19 : decode (mCode 38) 19 = .ok (.getfield 15, 3) := by decide +kernel
theorem d38_22 : decode (mCode 38) 22 = .ok (.invokevirtual 31, 3) := by decide +kernel
theorem d38_25 : decode (mCode 38) 25 = .ok (.if_icmp .ge 33, 3) := by decide +kernel
theorem d38_28 : decode (mCode 38) 28 = .ok (.aload_n 0, 1) := by decide +kernel
theorem d38_29 : decode (mCode 38) 29 = .ok (.iload_n 2, 1) := by decide +kernel
theorem d38_30 : decode (mCode 38) 30 = .ok (.iload_n 3, 1) := by decide +kernel
theorem d38_31 : decode (mCode 38) 31 = .ok (.invokevirtual 36, 3) := by decide +kernel
theorem d38_34 : decode (mCode 38) 34 = .ok (.ifCond .eq 18, 3) := by decide +kernel
theorem d38_37 : decode (mCode 38) 37 = .ok (.aload_n 0, 1) := by decide +kernel
theorem d38_38 : decode (mCode 38) 38 = .ok (.getfield 15, 3) := by decide +kernel
theorem d38_41 : decode (mCode 38) 41 = .ok (.iload_n 2, 1) := by decide +kernel
theorem d38_42 : decode (mCode 38) 42 = .ok (.iload_n 3, 1) := by decide +kernel
theorem d38_43 : decode (mCode 38) 43 = .ok (.iload_n 1, 1) := by decide +kernel
theorem d38_44 : decode (mCode 38) 44 = .ok (.invokevirtual 40, 3) := by decide +kernel
theorem d38_47 : decode (mCode 38) 47 = .ok (.ifCond .eq 5, 3) := by decide +kernel
theorem d38_50 : decode (mCode 38) 50 = .ok (.iconst 1, 1) := by decide +kernel
theorem d38_51 : decode (mCode 38) 51 = .ok (.ireturn, 1) := by decide +kernel
theorem d38_52 : decode (mCode 38) 52 = .ok (.iinc 3 1, 3) := by decide +kernel
theorem d38_55 : decode (mCode 38) 55 = .ok (.goto (-38), 3) := by decide +kernel
theorem d38_58 : decode (mCode 38) 58 = .ok (.iinc 2 1, 3) := by decide +kernel
theorem d38_61 : decode (mCode 38) 61 = .ok (.goto (-59), 3) := by decide +kernel
theorem d38_64 : decode (mCode 38) 64 = .ok (.iconst 0, 1) := by decide +kernel
theorem d38_65 : decode (mCode 38) 65 = .ok (.ireturn, 1) := by decide +kernel
theorem d39_0 : decode (mCode 39) 0 = .ok (.aload_n 0, 1) := by decide +kernel
theorem d39_1 : decode (mCode 39) 1 = .ok (.getfield 9, 3) := by decide +kernel
theorem d39_4 : decode (mCode 39) 4 = .ok (.iload_n 1, 1) := by decide +kernel
theorem d39_5 : decode (mCode 39) 5 = .ok (.laload, 1) := by decide +kernel
theorem d39_6 : decode (mCode 39) 6 = .ok (.iload_n 2, 1) := by decide +kernel
theorem d39_7 : decode (mCode 39) 7 = .ok (.lshr, 1) := by decide +kernel
theorem d39_8 : decode (mCode 39) 8 = .ok (.lconst 1, 1) := by decide +kernel
theorem d39_9 : decode (mCode 39) 9 = .ok (.land, 1) := by decide +kernel
theorem d39_10 : decode (mCode 39) 10 = .ok (.lconst 0, 1) := by decide +kernel
theorem d39_11 : decode (mCode 39) 11 = .ok (.lcmp, 1) := by decide +kernel
theorem d39_12 : decode (mCode 39) 12 = .ok (.ifCond .eq 7, 3) := by decide +kernel
theorem d39_15 : decode (mCode 39) 15 = .ok (.iconst 1, 1) := by decide +kernel
theorem d39_16 : decode (mCode 39) 16 = .ok (.goto 4, 3) := by decide +kernel
theorem d39_19 : decode (mCode 39) 19 = .ok (.iconst 0, 1) := by decide +kernel
theorem d39_20 : decode (mCode 39) 20 = .ok (.ireturn, 1) := by decide +kernel
theorem d40_0 : decode (mCode 40) 0 = .ok (.iconst 0, 1) := by decide +kernel
theorem d40_1 : decode (mCode 40) 1 = .ok (.istore_n 3, 1) := by decide +kernel
theorem d40_2 : decode (mCode 40) 2 = .ok (.iload_n 3, 1) := by decide +kernel
theorem d40_3 : decode (mCode 40) 3 = .ok (.aload_n 0, 1) := by decide +kernel
theorem d40_4 : decode (mCode 40) 4 = .ok (.getfield 15, 3) := by decide +kernel
theorem d40_7 : decode (mCode 40) 7 = .ok (.invokevirtual 31, 3) := by decide +kernel
theorem d40_10 : decode (mCode 40) 10 = .ok (.if_icmp .ge 56, 3) := by decide +kernel
theorem d40_13 : decode (mCode 40) 13 = .ok (.iload_n 3, 1) := by decide +kernel
theorem d40_14 : decode (mCode 40) 14 = .ok (.iconst 1, 1) := by decide +kernel
theorem d40_15 : decode (mCode 40) 15 = .ok (.iadd, 1) := by decide +kernel
theorem d40_16 : decode (mCode 40) 16 = .ok (.istore 4, 2) := by decide +kernel
theorem d40_18 : decode (mCode 40) 18 = .ok (.iload 4, 2) := by decide +kernel
theorem d40_20 : decode (mCode 40) 20 = .ok (.aload_n 0, 1) := by decide +kernel
theorem d40_21 : decode (mCode 40) 21 = .ok (.getfield 15, 3) := by decide +kernel
theorem d40_24 : decode (mCode 40) 24 = .ok (.invokevirtual 31, 3) := by decide +kernel
theorem d40_27 : decode (mCode 40) 27 = .ok (.if_icmp .ge 33, 3) := by decide +kernel
theorem d40_30 : decode (mCode 40) 30 = .ok (.aload_n 0, 1) := by decide +kernel
theorem d40_31 : decode (mCode 40) 31 = .ok (.iload_n 3, 1) := by decide +kernel
theorem d40_32 : decode (mCode 40) 32 = .ok (.iload 4, 2) := by decide +kernel
theorem d40_34 : decode (mCode 40) 34 = .ok (.invokevirtual 36, 3) := by decide +kernel
theorem d40_37 : decode (mCode 40) 37 = .ok (.ifCond .eq 17, 3) := by decide +kernel
theorem d40_40 : decode (mCode 40) 40 = .ok (.aload_n 0, 1) := by decide +kernel
theorem d40_41 : decode (mCode 40) 41 = .ok (.iload_n 1, 1) := by decide +kernel
theorem d40_42 : decode (mCode 40) 42 = .ok (.iload_n 2, 1) := by decide +kernel
theorem d40_43 : decode (mCode 40) 43 = .ok (.iload_n 3, 1) := by decide +kernel
theorem d40_44 : decode (mCode 40) 44 = .ok (.iload 4, 2) := by decide +kernel
theorem d40_46 : decode (mCode 40) 46 = .ok (.invokevirtual 44, 3) := by decide +kernel
theorem d40_49 : decode (mCode 40) 49 = .ok (.ifCond .eq 5, 3) := by decide +kernel
theorem d40_52 : decode (mCode 40) 52 = .ok (.iconst 1, 1) := by decide +kernel
theorem d40_53 : decode (mCode 40) 53 = .ok (.ireturn, 1) := by decide +kernel
theorem d40_54 : decode (mCode 40) 54 = .ok (.iinc 4 1, 3) := by decide +kernel
theorem d40_57 : decode (mCode 40) 57 = .ok (.goto (-39), 3) := by decide +kernel
theorem d40_60 : decode (mCode 40) 60 = .ok (.iinc 3 1, 3) := by decide +kernel
theorem d40_63 : decode (mCode 40) 63 = .ok (.goto (-61), 3) := by decide +kernel
theorem d40_66 : decode (mCode 40) 66 = .ok (.iconst 0, 1) := by decide +kernel
theorem d40_67 : decode (mCode 40) 67 = .ok (.ireturn, 1) := by decide +kernel
theorem d41_0 : decode (mCode 41) 0 = .ok (.aload_n 0, 1) := by decide +kernel
theorem d41_1 : decode (mCode 41) 1 = .ok (.getfield 15, 3) := by decide +kernel
theorem d41_4 : decode (mCode 41) 4 = .ok (.iload_n 1, 1) := by decide +kernel
theorem d41_5 : decode (mCode 41) 5 = .ok (.iload_n 2, 1) := by decide +kernel
theorem d41_6 : decode (mCode 41) 6 = .ok (.iload_n 3, 1) := by decide +kernel
theorem d41_7 : decode (mCode 41) 7 = .ok (.invokevirtual 48, 3) := by decide +kernel
theorem d41_10 : decode (mCode 41) 10 = .ok (.aload_n 0, 1) := by decide +kernel
theorem d41_11 : decode (mCode 41) 11 = .ok (.getfield 15, 3) := by decide +kernel
theorem d41_14 : decode (mCode 41) 14 = .ok (.iload_n 1, 1) := by decide +kernel
theorem d41_15 : decode (mCode 41) 15 = .ok (.iload_n 2, 1) := by decide +kernel
theorem d41_16 : decode (mCode 41) 16 = .ok (.iload 4, 2) := by decide +kernel
theorem d41_18 : decode (mCode 41) 18 = .ok (.invokevirtual 48, 3) := by decide +kernel
theorem d41_21 : decode (mCode 41) 21 = .ok (.imul, 1) := by decide +kernel
theorem d41_22 : decode (mCode 41) 22 = .ok (.ifCond .ge 33, 3) := by decide +kernel
theorem d41_25 : decode (mCode 41) 25 = .ok (.aload_n 0, 1) := by decide +kernel
theorem d41_26 : decode (mCode 41) 26 = .ok (.getfield 15, 3) := by decide +kernel
theorem d41_29 : decode (mCode 41) 29 = .ok (.iload_n 3, 1) := by decide +kernel
theorem d41_30 : decode (mCode 41) 30 = .ok (.iload 4, 2) := by decide +kernel
theorem d41_32 : decode (mCode 41) 32 = .ok (.iload_n 1, 1) := by decide +kernel
theorem d41_33 : decode (mCode 41) 33 = .ok (.invokevirtual 48, 3) := by decide +kernel
theorem d41_36 : decode (mCode 41) 36 = .ok (.aload_n 0, 1) := by decide +kernel
theorem d41_37 : decode (mCode 41) 37 = .ok (.getfield 15, 3) := by decide +kernel
theorem d41_40 : decode (mCode 41) 40 = .ok (.iload_n 3, 1) := by decide +kernel
theorem d41_41 : decode (mCode 41) 41 = .ok (.iload 4, 2) := by decide +kernel
theorem d41_43 : decode (mCode 41) 43 = .ok (.iload_n 2, 1) := by decide +kernel
theorem d41_44 : decode (mCode 41) 44 = .ok (.invokevirtual 48, 3) := by decide +kernel
theorem d41_47 : decode (mCode 41) 47 = .ok (.imul, 1) := by decide +kernel
theorem d41_48 : decode (mCode 41) 48 = .ok (.ifCond .ge 7, 3) := by decide +kernel
theorem d41_51 : decode (mCode 41) 51 = .ok (.iconst 1, 1) := by decide +kernel
theorem d41_52 : decode (mCode 41) 52 = .ok (.goto 4, 3) := by decide +kernel
theorem d41_55 : decode (mCode 41) 55 = .ok (.iconst 0, 1) := by decide +kernel
theorem d41_56 : decode (mCode 41) 56 = .ok (.ireturn, 1) := by decide +kernel
theorem d66_0 : decode (mCode 66) 0 = .ok (.aload_n 0, 1) := by decide +kernel
theorem d66_1 : decode (mCode 66) 1 = .ok (.getfield 25, 3) := by decide +kernel
theorem d66_4 : decode (mCode 66) 4 = .ok (.ireturn, 1) := by decide +kernel
theorem d69_0 : decode (mCode 69) 0 = .ok (.iconst 0, 1) := by decide +kernel
theorem d69_1 : decode (mCode 69) 1 = .ok (.istore_n 2, 1) := by decide +kernel
theorem d69_2 : decode (mCode 69) 2 = .ok (.iload_n 2, 1) := by decide +kernel
theorem d69_3 : decode (mCode 69) 3 = .ok (.aload_n 0, 1) := by decide +kernel
theorem d69_4 : decode (mCode 69) 4 = .ok (.getfield 25, 3) := by decide +kernel
theorem d69_7 : decode (mCode 69) 7 = .ok (.if_icmp .ge 41, 3) := by decide +kernel
theorem d69_10 : decode (mCode 69) 10 = .ok (.aload_n 0, 1) := by decide +kernel
theorem d69_11 : decode (mCode 69) 11 = .ok (.getfield 9, 3) := by decide +kernel
theorem d69_14 : decode (mCode 69) 14 = .ok (.iload_n 2, 1) := by decide +kernel
theorem d69_15 : decode (mCode 69) 15 = .ok (.iaload, 1) := by decide +kernel
theorem d69_16 : decode (mCode 69) 16 = .ok (.aload_n 0, 1) := by decide +kernel
theorem d69_17 : decode (mCode 69) 17 = .ok (.getfield 9, 3) := by decide +kernel
theorem d69_20 : decode (mCode 69) 20 = .ok (.iload_n 1, 1) := by decide +kernel
theorem d69_21 : decode (mCode 69) 21 = .ok (.iaload, 1) := by decide +kernel
theorem d69_22 : decode (mCode 69) 22 = .ok (.if_icmp .ne 20, 3) := by decide +kernel
theorem d69_25 : decode (mCode 69) 25 = .ok (.aload_n 0, 1) := by decide +kernel
theorem d69_26 : decode (mCode 69) 26 = .ok (.getfield 15, 3) := by decide +kernel
theorem d69_29 : decode (mCode 69) 29 = .ok (.iload_n 2, 1) := by decide +kernel
theorem d69_30 : decode (mCode 69) 30 = .ok (.iaload, 1) := by decide +kernel
theorem d69_31 : decode (mCode 69) 31 = .ok (.aload_n 0, 1) := by decide +kernel
theorem d69_32 : decode (mCode 69) 32 = .ok (.getfield 15, 3) := by decide +kernel
theorem d69_35 : decode (mCode 69) 35 = .ok (.iload_n 1, 1) := by decide +kernel
theorem d69_36 : decode (mCode 69) 36 = .ok (.iaload, 1) := by decide +kernel
theorem d69_37 : decode (mCode 69) 37 = .ok (.if_icmp .ne 5, 3) := by decide +kernel
theorem d69_40 : decode (mCode 69) 40 = .ok (.iload_n 2, 1) := by decide +kernel
theorem d69_41 : decode (mCode 69) 41 = .ok (.ireturn, 1) := by decide +kernel
theorem d69_42 : decode (mCode 69) 42 = .ok (.iinc 2 1, 3) := by decide +kernel
theorem d69_45 : decode (mCode 69) 45 = .ok (.goto (-43), 3) := by decide +kernel
theorem d69_48 : decode (mCode 69) 48 = .ok (.iconst (-1), 1) := by decide +kernel
theorem d69_49 : decode (mCode 69) 49 = .ok (.ireturn, 1) := by decide +kernel
theorem d70_0 : decode (mCode 70) 0 = .ok (.aload_n 0, 1) := by decide +kernel
theorem d70_1 : decode (mCode 70) 1 = .ok (.iload_n 1, 1) := by decide +kernel
theorem d70_2 : decode (mCode 70) 2 = .ok (.iload_n 2, 1) := by decide +kernel
theorem d70_3 : decode (mCode 70) 3 = .ok (.iload_n 3, 1) := by decide +kernel
theorem d70_4 : decode (mCode 70) 4 = .ok (.invokevirtual 29, 3) := by decide +kernel
theorem d70_7 : decode (mCode 70) 7 = .ok (.lconst 0, 1) := by decide +kernel
theorem d70_8 : decode (mCode 70) 8 = .ok (.lcmp, 1) := by decide +kernel
theorem d70_9 : decode (mCode 70) 9 = .ok (.ifCond .ne 103, 3) := by decide +kernel
theorem d70_12 : decode (mCode 70) 12 = .ok (.aload_n 0, 1) := by decide +kernel
theorem d70_13 : decode (mCode 70) 13 = .ok (.getfield 9, 3) := by decide +kernel
theorem d70_16 : decode (mCode 70) 16 = .ok (.iload_n 1, 1) := by decide +kernel
theorem d70_17 : decode (mCode 70) 17 = .ok (.iaload, 1) := by decide +kernel
theorem d70_18 : decode (mCode 70) 18 = .ok (.aload_n 0, 1) := by decide +kernel
theorem d70_19 : decode (mCode 70) 19 = .ok (.getfield 9, 3) := by decide +kernel
theorem d70_22 : decode (mCode 70) 22 = .ok (.iload_n 2, 1) := by decide +kernel
theorem d70_23 : decode (mCode 70) 23 = .ok (.iaload, 1) := by decide +kernel
theorem d70_24 : decode (mCode 70) 24 = .ok (.invokestatic 52, 3) := by decide +kernel
theorem d70_27 : decode (mCode 70) 27 = .ok (.aload_n 0, 1) := by decide +kernel
theorem d70_28 : decode (mCode 70) 28 = .ok (.getfield 9, 3) := by decide +kernel
theorem d70_31 : decode (mCode 70) 31 = .ok (.iload_n 3, 1) := by decide +kernel
theorem d70_32 : decode (mCode 70) 32 = .ok (.iaload, 1) := by decide +kernel
theorem d70_33 : decode (mCode 70) 33 = .ok (.if_icmp .gt 79, 3) := by decide +kernel
theorem d70_36 : decode (mCode 70) 36 = .ok (.aload_n 0, 1) := by decide +kernel
theorem d70_37 : decode (mCode 70) 37 = .ok (.getfield 9, 3) := by decide +kernel
theorem d70_40 : decode (mCode 70) 40 = .ok (.iload_n 3, 1) := by decide +kernel
theorem d70_41 : decode (mCode 70) 41 = .ok (.iaload, 1) := by decide +kernel
theorem d70_42 : decode (mCode 70) 42 = .ok (.aload_n 0, 1) := by decide +kernel
theorem d70_43 : decode (mCode 70) 43 = .ok (.getfield 9, 3) := by decide +kernel
theorem d70_46 : decode (mCode 70) 46 = .ok (.iload_n 1, 1) := by decide +kernel
theorem d70_47 : decode (mCode 70) 47 = .ok (.iaload, 1) := by decide +kernel
theorem d70_48 : decode (mCode 70) 48 = .ok (.aload_n 0, 1) := by decide +kernel
theorem d70_49 : decode (mCode 70) 49 = .ok (.getfield 9, 3) := by decide +kernel
theorem d70_52 : decode (mCode 70) 52 = .ok (.iload_n 2, 1) := by decide +kernel
theorem d70_53 : decode (mCode 70) 53 = .ok (.iaload, 1) := by decide +kernel
theorem d70_54 : decode (mCode 70) 54 = .ok (.invokestatic 58, 3) := by decide +kernel
theorem d70_57 : decode (mCode 70) 57 = .ok (.if_icmp .gt 55, 3) := by decide +kernel
theorem d70_60 : decode (mCode 70) 60 = .ok (.aload_n 0, 1) := by decide +kernel
theorem d70_61 : decode (mCode 70) 61 = .ok (.getfield 15, 3) := by decide +kernel
theorem d70_64 : decode (mCode 70) 64 = .ok (.iload_n 1, 1) := by decide +kernel
theorem d70_65 : decode (mCode 70) 65 = .ok (.iaload, 1) := by decide +kernel
theorem d70_66 : decode (mCode 70) 66 = .ok (.aload_n 0, 1) := by decide +kernel
theorem d70_67 : decode (mCode 70) 67 = .ok (.getfield 15, 3) := by decide +kernel
theorem d70_70 : decode (mCode 70) 70 = .ok (.iload_n 2, 1) := by decide +kernel
theorem d70_71 : decode (mCode 70) 71 = .ok (.iaload, 1) := by decide +kernel
theorem d70_72 : decode (mCode 70) 72 = .ok (.invokestatic 52, 3) := by decide +kernel
theorem d70_75 : decode (mCode 70) 75 = .ok (.aload_n 0, 1) := by decide +kernel
theorem d70_76 : decode (mCode 70) 76 = .ok (.getfield 15, 3) := by decide +kernel
theorem d70_79 : decode (mCode 70) 79 = .ok (.iload_n 3, 1) := by decide +kernel
theorem d70_80 : decode (mCode 70) 80 = .ok (.iaload, 1) := by decide +kernel
theorem d70_81 : decode (mCode 70) 81 = .ok (.if_icmp .gt 31, 3) := by decide +kernel
theorem d70_84 : decode (mCode 70) 84 = .ok (.aload_n 0, 1) := by decide +kernel
theorem d70_85 : decode (mCode 70) 85 = .ok (.getfield 15, 3) := by decide +kernel
theorem d70_88 : decode (mCode 70) 88 = .ok (.iload_n 3, 1) := by decide +kernel
theorem d70_89 : decode (mCode 70) 89 = .ok (.iaload, 1) := by decide +kernel
theorem d70_90 : decode (mCode 70) 90 = .ok (.aload_n 0, 1) := by decide +kernel
theorem d70_91 : decode (mCode 70) 91 = .ok (.getfield 15, 3) := by decide +kernel
theorem d70_94 : decode (mCode 70) 94 = .ok (.iload_n 1, 1) := by decide +kernel
theorem d70_95 : decode (mCode 70) 95 = .ok (.iaload, 1) := by decide +kernel
theorem d70_96 : decode (mCode 70) 96 = .ok (.aload_n 0, 1) := by decide +kernel
theorem d70_97 : decode (mCode 70) 97 = .ok (.getfield 15, 3) := by decide +kernel
theorem d70_100 : decode (mCode 70) 100 = .ok (.iload_n 2, 1) := by decide +kernel
theorem d70_101 : decode (mCode 70) 101 = .ok (.iaload, 1) := by decide +kernel
theorem d70_102 : decode (mCode 70) 102 = .ok (.invokestatic 58, 3) := by decide +kernel
theorem d70_105 : decode (mCode 70) 105 = .ok (.if_icmp .gt 7, 3) := by decide +kernel
theorem d70_108 : decode (mCode 70) 108 = .ok (.iconst 1, 1) := by decide +kernel
theorem d70_109 : decode (mCode 70) 109 = .ok (.goto 4, 3) := by decide +kernel
theorem d70_112 : decode (mCode 70) 112 = .ok (.iconst 0, 1) := by decide +kernel
theorem d70_113 : decode (mCode 70) 113 = .ok (.ireturn, 1) := by decide +kernel
theorem d71_0 : decode (mCode 71) 0 = .ok (.aload_n 0, 1) := by decide +kernel
theorem d71_1 : decode (mCode 71) 1 = .ok (.getfield 9, 3) := by decide +kernel
theorem d71_4 : decode (mCode 71) 4 = .ok (.iload_n 2, 1) := by decide +kernel
theorem d71_5 : decode (mCode 71) 5 = .ok (.iaload, 1) := by decide +kernel
theorem d71_6 : decode (mCode 71) 6 = .ok (.aload_n 0, 1) := by decide +kernel
theorem d71_7 : decode (mCode 71) 7 = .ok (.getfield 9, 3) := by decide +kernel
theorem d71_10 : decode (mCode 71) 10 = .ok (.iload_n 1, 1) := by decide +kernel
theorem d71_11 : decode (mCode 71) 11 = .ok (.iaload, 1) := by decide +kernel
theorem d71_12 : decode (mCode 71) 12 = .ok (.isub, 1) := by decide +kernel
theorem d71_13 : decode (mCode 71) 13 = .ok (.i2l, 1) := by decide +kernel
theorem d71_14 : decode (mCode 71) 14 = .ok (.lstore 4, 2) := by decide +kernel
theorem d71_16 : decode (mCode 71) 16 = .ok (.aload_n 0, 1) := by decide +kernel
theorem d71_17 : decode (mCode 71) 17 = .ok (.getfield 15, 3) := by decide +kernel
theorem d71_20 : decode (mCode 71) 20 = .ok (.iload_n 2, 1) := by decide +kernel
theorem d71_21 : decode (mCode 71) 21 = .ok (.iaload, 1) := by decide +kernel
theorem d71_22 : decode (mCode 71) 22 = .ok (.aload_n 0, 1) := by decide +kernel
theorem d71_23 : decode (mCode 71) 23 = .ok (.getfield 15, 3) := by decide +kernel
theorem d71_26 : decode (mCode 71) 26 = .ok (.iload_n 1, 1) := by decide +kernel
theorem d71_27 : decode (mCode 71) 27 = .ok (.iaload, 1) := by decide +kernel
theorem d71_28 : decode (mCode 71) 28 = .ok (.isub, 1) := by decide +kernel
theorem d71_29 : decode (mCode 71) 29 = .ok (.i2l, 1) := by decide +kernel
theorem d71_30 : decode (mCode 71) 30 = .ok (.lstore 6, 2) := by decide +kernel
theorem d71_32 : decode (mCode 71) 32 = .ok (.aload_n 0, 1) := by decide +kernel
theorem d71_33 : decode (mCode 71) 33 = .ok (.getfield 9, 3) := by decide +kernel
theorem d71_36 : decode (mCode 71) 36 = .ok (.iload_n 3, 1) := by decide +kernel
theorem d71_37 : decode (mCode 71) 37 = .ok (.iaload, 1) := by decide +kernel
theorem d71_38 : decode (mCode 71) 38 = .ok (.aload_n 0, 1) := by decide +kernel
theorem d71_39 : decode (mCode 71) 39 = .ok (.getfield 9, 3) := by decide +kernel
theorem d71_42 : decode (mCode 71) 42 = .ok (.iload_n 1, 1) := by decide +kernel
theorem d71_43 : decode (mCode 71) 43 = .ok (.iaload, 1) := by decide +kernel
theorem d71_44 : decode (mCode 71) 44 = .ok (.isub, 1) := by decide +kernel
theorem d71_45 : decode (mCode 71) 45 = .ok (.i2l, 1) := by decide +kernel
theorem d71_46 : decode (mCode 71) 46 = .ok (.lstore 8, 2) := by decide +kernel
theorem d71_48 : decode (mCode 71) 48 = .ok (.aload_n 0, 1) := by decide +kernel
theorem d71_49 : decode (mCode 71) 49 = .ok (.getfield 15, 3) := by decide +kernel
theorem d71_52 : decode (mCode 71) 52 = .ok (.iload_n 3, 1) := by decide +kernel
theorem d71_53 : decode (mCode 71) 53 = .ok (.iaload, 1) := by decide +kernel
theorem d71_54 : decode (mCode 71) 54 = .ok (.aload_n 0, 1) := by decide +kernel
theorem d71_55 : decode (mCode 71) 55 = .ok (.getfield 15, 3) := by decide +kernel
theorem d71_58 : decode (mCode 71) 58 = .ok (.iload_n 1, 1) := by decide +kernel
theorem d71_59 : decode (mCode 71) 59 = .ok (.iaload, 1) := by decide +kernel
theorem d71_60 : decode (mCode 71) 60 = .ok (.isub, 1) := by decide +kernel
theorem d71_61 : decode (mCode 71) 61 = .ok (.i2l, 1) := by decide +kernel
theorem d71_62 : decode (mCode 71) 62 = .ok (.lstore 10, 2) := by decide +kernel
theorem d71_64 : decode (mCode 71) 64 = .ok (.lload 4, 2) := by decide +kernel
theorem d71_66 : decode (mCode 71) 66 = .ok (.lload 10, 2) := by decide +kernel
theorem d71_68 : decode (mCode 71) 68 = .ok (.lmul, 1) := by decide +kernel
theorem d71_69 : decode (mCode 71) 69 = .ok (.lload 6, 2) := by decide +kernel
theorem d71_71 : decode (mCode 71) 71 = .ok (.lload 8, 2) := by decide +kernel
theorem d71_73 : decode (mCode 71) 73 = .ok (.lmul, 1) := by decide +kernel
theorem d71_74 : decode (mCode 71) 74 = .ok (.lsub, 1) := by decide +kernel
theorem d71_75 : decode (mCode 71) 75 = .ok (.lreturn, 1) := by decide +kernel
theorem d73_0 : decode (mCode 73) 0 = .ok (.aload_n 0, 1) := by decide +kernel
theorem d73_1 : decode (mCode 73) 1 = .ok (.iload_n 1, 1) := by decide +kernel
theorem d73_2 : decode (mCode 73) 2 = .ok (.iload_n 2, 1) := by decide +kernel
theorem d73_3 : decode (mCode 73) 3 = .ok (.iload_n 3, 1) := by decide +kernel
theorem d73_4 : decode (mCode 73) 4 = .ok (.invokevirtual 29, 3) := by decide +kernel
theorem d73_7 : decode (mCode 73) 7 = .ok (.invokestatic 33, 3) := by decide +kernel
theorem d73_10 : decode (mCode 73) 10 = .ok (.ireturn, 1) := by decide +kernel
theorem d74_0 : decode (mCode 74) 0 = .ok (.aload_n 0, 1) := by decide +kernel
theorem d74_1 : decode (mCode 74) 1 = .ok (.getfield 9, 3) := by decide +kernel
theorem d74_4 : decode (mCode 74) 4 = .ok (.iload_n 1, 1) := by decide +kernel
theorem d74_5 : decode (mCode 74) 5 = .ok (.iaload, 1) := by decide +kernel
theorem d74_6 : decode (mCode 74) 6 = .ok (.aload_n 0, 1) := by decide +kernel
theorem d74_7 : decode (mCode 74) 7 = .ok (.getfield 9, 3) := by decide +kernel
theorem d74_10 : decode (mCode 74) 10 = .ok (.iload_n 2, 1) := by decide +kernel
theorem d74_11 : decode (mCode 74) 11 = .ok (.iaload, 1) := by decide +kernel
theorem d74_12 : decode (mCode 74) 12 = .ok (.if_icmp .lt 33, 3) := by decide +kernel
theorem d74_15 : decode (mCode 74) 15 = .ok (.aload_n 0, 1) := by decide +kernel
theorem d74_16 : decode (mCode 74) 16 = .ok (.getfield 9, 3) := by decide +kernel
theorem d74_19 : decode (mCode 74) 19 = .ok (.iload_n 1, 1) := by decide +kernel
theorem d74_20 : decode (mCode 74) 20 = .ok (.iaload, 1) := by decide +kernel
theorem d74_21 : decode (mCode 74) 21 = .ok (.aload_n 0, 1) := by decide +kernel
theorem d74_22 : decode (mCode 74) 22 = .ok (.getfield 9, 3) := by decide +kernel
theorem d74_25 : decode (mCode 74) 25 = .ok (.iload_n 2, 1) := by decide +kernel
theorem d74_26 : decode (mCode 74) 26 = .ok (.iaload, 1) := by decide +kernel
theorem d74_27 : decode (mCode 74) 27 = .ok (.if_icmp .ne 22, 3) := by decide +kernel
theorem d74_30 : decode (mCode 74) 30 = .ok (.aload_n 0, 1) := by decide +kernel
theorem d74_31 : decode (mCode 74) 31 = .ok (.getfield 15, 3) := by decide +kernel
theorem d74_34 : decode (mCode 74) 34 = .ok (.iload_n 1, 1) := by decide +kernel
theorem d74_35 : decode (mCode 74) 35 = .ok (.iaload, 1) := by decide +kernel
theorem d74_36 : decode (mCode 74) 36 = .ok (.aload_n 0, 1) := by decide +kernel
theorem d74_37 : decode (mCode 74) 37 = .ok (.getfield 15, 3) := by decide +kernel
theorem d74_40 : decode (mCode 74) 40 = .ok (.iload_n 2, 1) := by decide +kernel
theorem d74_41 : decode (mCode 74) 41 = .ok (.iaload, 1) := by decide +kernel
theorem d74_42 : decode (mCode 74) 42 = .ok (.if_icmp .ge 7, 3) := by decide +kernel
theorem d74_45 : decode (mCode 74) 45 = .ok (.iconst 1, 1) := by decide +kernel
theorem d74_46 : decode (mCode 74) 46 = .ok (.goto 4, 3) := by decide +kernel
theorem d74_49 : decode (mCode 74) 49 = .ok (.iconst 0, 1) := by decide +kernel
theorem d74_50 : decode (mCode 74) 50 = .ok (.ireturn, 1) := by decide +kernel
theorem d75_0 : decode (mCode 75) 0 = .ok (.aload_n 0, 1) := by decide +kernel
theorem d75_1 : decode (mCode 75) 1 = .ok (.getfield 21, 3) := by decide +kernel
theorem d75_4 : decode (mCode 75) 4 = .ok (.invokevirtual 37, 3) := by decide +kernel
theorem d75_7 : decode (mCode 75) 7 = .ok (.aload_n 0, 1) := by decide +kernel
theorem d75_8 : decode (mCode 75) 8 = .ok (.getfield 21, 3) := by decide +kernel
theorem d75_11 : decode (mCode 75) 11 = .ok (.aload_n 0, 1) := by decide +kernel
theorem d75_12 : decode (mCode 75) 12 = .ok (.iload 4, 2) := by decide +kernel
theorem d75_14 : decode (mCode 75) 14 = .ok (.iload_n 1, 1) := by decide +kernel
theorem d75_15 : decode (mCode 75) 15 = .ok (.invokevirtual 40, 3) := by decide +kernel
theorem d75_18 : decode (mCode 75) 18 = .ok (.aload_n 0, 1) := by decide +kernel
theorem d75_19 : decode (mCode 75) 19 = .ok (.iload 4, 2) := by decide +kernel
theorem d75_21 : decode (mCode 75) 21 = .ok (.iload_n 2, 1) := by decide +kernel
theorem d75_22 : decode (mCode 75) 22 = .ok (.iload_n 3, 1) := by decide +kernel
theorem d75_23 : decode (mCode 75) 23 = .ok (.invokevirtual 29, 3) := by decide +kernel
theorem d75_26 : decode (mCode 75) 26 = .ok (.invokevirtual 44, 3) := by decide +kernel
theorem d75_29 : decode (mCode 75) 29 = .ok (.aload_n 0, 1) := by decide +kernel
theorem d75_30 : decode (mCode 75) 30 = .ok (.getfield 21, 3) := by decide +kernel
theorem d75_33 : decode (mCode 75) 33 = .ok (.aload_n 0, 1) := by decide +kernel
theorem d75_34 : decode (mCode 75) 34 = .ok (.iload 4, 2) := by decide +kernel
theorem d75_36 : decode (mCode 75) 36 = .ok (.iload_n 2, 1) := by decide +kernel
theorem d75_37 : decode (mCode 75) 37 = .ok (.invokevirtual 40, 3) := by decide +kernel
theorem d75_40 : decode (mCode 75) 40 = .ok (.aload_n 0, 1) := by decide +kernel
theorem d75_41 : decode (mCode 75) 41 = .ok (.iload 4, 2) := by decide +kernel
theorem d75_43 : decode (mCode 75) 43 = .ok (.iload_n 3, 1) := by decide +kernel
theorem d75_44 : decode (mCode 75) 44 = .ok (.iload_n 1, 1) := by decide +kernel
theorem d75_45 : decode (mCode 75) 45 = .ok (.invokevirtual 29, 3) := by decide +kernel
theorem d75_48 : decode (mCode 75) 48 = .ok (.invokevirtual 44, 3) := by decide +kernel
theorem d75_51 : decode (mCode 75) 51 = .ok (.aload_n 0, 1) := by decide +kernel
theorem d75_52 : decode (mCode 75) 52 = .ok (.getfield 21, 3) := by decide +kernel
theorem d75_55 : decode (mCode 75) 55 = .ok (.aload_n 0, 1) := by decide +kernel
theorem d75_56 : decode (mCode 75) 56 = .ok (.iload 4, 2) := by decide +kernel
theorem d75_58 : decode (mCode 75) 58 = .ok (.iload_n 3, 1) := by decide +kernel
theorem d75_59 : decode (mCode 75) 59 = .ok (.invokevirtual 40, 3) := by decide +kernel
theorem d75_62 : decode (mCode 75) 62 = .ok (.aload_n 0, 1) := by decide +kernel
theorem d75_63 : decode (mCode 75) 63 = .ok (.iload 4, 2) := by decide +kernel
theorem d75_65 : decode (mCode 75) 65 = .ok (.iload_n 1, 1) := by decide +kernel
theorem d75_66 : decode (mCode 75) 66 = .ok (.iload_n 2, 1) := by decide +kernel
theorem d75_67 : decode (mCode 75) 67 = .ok (.invokevirtual 29, 3) := by decide +kernel
theorem d75_70 : decode (mCode 75) 70 = .ok (.invokevirtual 44, 3) := by decide +kernel
theorem d75_73 : decode (mCode 75) 73 = .ok (.aload_n 0, 1) := by decide +kernel
theorem d75_74 : decode (mCode 75) 74 = .ok (.getfield 21, 3) := by decide +kernel
theorem d75_77 : decode (mCode 75) 77 = .ok (.invokevirtual 48, 3) := by decide +kernel
theorem d75_80 : decode (mCode 75) 80 = .ok (.ireturn, 1) := by decide +kernel
theorem d76_0 : decode (mCode 76) 0 = .ok (.aload_n 0, 1) := by decide +kernel
theorem d76_1 : decode (mCode 76) 1 = .ok (.getfield 9, 3) := by decide +kernel
theorem d76_4 : decode (mCode 76) 4 = .ok (.iload_n 2, 1) := by decide +kernel
theorem d76_5 : decode (mCode 76) 5 = .ok (.iaload, 1) := by decide +kernel
theorem d76_6 : decode (mCode 76) 6 = .ok (.aload_n 0, 1) := by decide +kernel
theorem d76_7 : decode (mCode 76) 7 = .ok (.getfield 9, 3) := by decide +kernel
theorem d76_10 : decode (mCode 76) 10 = .ok (.iload_n 1, 1) := by decide +kernel
theorem d76_11 : decode (mCode 76) 11 = .ok (.iaload, 1) := by decide +kernel
theorem d76_12 : decode (mCode 76) 12 = .ok (.isub, 1) := by decide +kernel
theorem d76_13 : decode (mCode 76) 13 = .ok (.i2l, 1) := by decide +kernel
theorem d76_14 : decode (mCode 76) 14 = .ok (.lstore_n 3, 1) := by decide +kernel
theorem d76_15 : decode (mCode 76) 15 = .ok (.aload_n 0, 1) := by decide +kernel
theorem d76_16 : decode (mCode 76) 16 = .ok (.getfield 15, 3) := by decide +kernel
theorem d76_19 : decode (mCode 76) 19 = .ok (.iload_n 2, 1) := by decide +kernel
theorem d76_20 : decode (mCode 76) 20 = .ok (.iaload, 1) := by decide +kernel
theorem d76_21 : decode (mCode 76) 21 = .ok (.aload_n 0, 1) := by decide +kernel
theorem d76_22 : decode (mCode 76) 22 = .ok (.getfield 15, 3) := by decide +kernel
theorem d76_25 : decode (mCode 76) 25 = .ok (.iload_n 1, 1) := by decide +kernel
theorem d76_26 : decode (mCode 76) 26 = .ok (.iaload, 1) := by decide +kernel
theorem d76_27 : decode (mCode 76) 27 = .ok (.isub, 1) := by decide +kernel
theorem d76_28 : decode (mCode 76) 28 = .ok (.i2l, 1) := by decide +kernel
theorem d76_29 : decode (mCode 76) 29 = .ok (.lstore 5, 2) := by decide +kernel
theorem d76_31 : decode (mCode 76) 31 = .ok (.lload_n 3, 1) := by decide +kernel
theorem d76_32 : decode (mCode 76) 32 = .ok (.lload_n 3, 1) := by decide +kernel
theorem d76_33 : decode (mCode 76) 33 = .ok (.lmul, 1) := by decide +kernel
theorem d76_34 : decode (mCode 76) 34 = .ok (.lload 5, 2) := by decide +kernel
theorem d76_36 : decode (mCode 76) 36 = .ok (.lload 5, 2) := by decide +kernel
theorem d76_38 : decode (mCode 76) 38 = .ok (.lmul, 1) := by decide +kernel
theorem d76_39 : decode (mCode 76) 39 = .ok (.ladd, 1) := by decide +kernel
theorem d76_40 : decode (mCode 76) 40 = .ok (.lreturn, 1) := by decide +kernel
theorem d77_0 : decode (mCode 77) 0 = .ok (.iconst 0, 1) := by decide +kernel
theorem d77_1 : decode (mCode 77) 1 = .ok (.istore_n 3, 1) := by decide +kernel
theorem d77_2 : decode (mCode 77) 2 = .ok (.iload_n 3, 1) := by decide +kernel
theorem d77_3 : decode (mCode 77) 3 = .ok (.aload_n 0, 1) := by decide +kernel
theorem d77_4 : decode (mCode 77) 4 = .ok (.getfield 25, 3) := by decide +kernel
theorem d77_7 : decode (mCode 77) 7 = .ok (.if_icmp .ge 31, 3) := by decide +kernel
theorem d77_10 : decode (mCode 77) 10 = .ok (.iload_n 3, 1) := by decide +kernel
theorem d77_11 : decode (mCode 77) 11 = .ok (.iload_n 1, 1) := by decide +kernel
theorem d77_12 : decode (mCode 77) 12 = .ok (.if_icmp .eq 20, 3) := by decide +kernel
theorem d77_15 : decode (mCode 77) 15 = .ok (.iload_n 3, 1) := by decide +kernel
theorem d77_16 : decode (mCode 77) 16 = .ok (.iload_n 2, 1) := by decide +kernel
theorem d77_17 : decode (mCode 77) 17 = .ok (.if_icmp .eq 15, 3) := by decide +kernel
theorem d77_20 : decode (mCode 77) 20 = .ok (.aload_n 0, 1) := by decide +kernel
theorem d77_21 : decode (mCode 77) 21 = .ok (.iload_n 1, 1) := by decide +kernel
theorem d77_22 : decode (mCode 77) 22 = .ok (.iload_n 2, 1) := by decide +kernel
theorem d77_23 : decode (mCode 77) 23 = .ok (.iload_n 3, 1) := by decide +kernel
theorem d77_24 : decode (mCode 77) 24 = .ok (.invokevirtual 61, 3) := by decide +kernel
theorem d77_27 : decode (mCode 77) 27 = .ok (.ifCond .eq 5, 3) := by decide +kernel
theorem d77_30 : decode (mCode 77) 30 = .ok (.iconst 1, 1) := by decide +kernel
theorem d77_31 : decode (mCode 77) 31 = .ok (.ireturn, 1) := by decide +kernel
theorem d77_32 : decode (mCode 77) 32 = .ok (.iinc 3 1, 3) := by decide +kernel
theorem d77_35 : decode (mCode 77) 35 = .ok (.goto (-33), 3) := by decide +kernel
theorem d77_38 : decode (mCode 77) 38 = .ok (.iconst 0, 1) := by decide +kernel
theorem d77_39 : decode (mCode 77) 39 = .ok (.ireturn, 1) := by decide +kernel
theorem d88_0 : decode (mCode 88) 0 = .ok (.aload_n 0, 1) := by decide +kernel
theorem d88_1 : decode (mCode 88) 1 = .ok (.lconst 0, 1) := by decide +kernel
theorem d88_2 : decode (mCode 88) 2 = .ok (.putfield 9, 3) := by decide +kernel
theorem d88_5 : decode (mCode 88) 5 = .ok (.aload_n 0, 1) := by decide +kernel
theorem d88_6 : decode (mCode 88) 6 = .ok (.lconst 0, 1) := by decide +kernel
theorem d88_7 : decode (mCode 88) 7 = .ok (.putfield 13, 3) := by decide +kernel
theorem d88_10 : decode (mCode 88) 10 = .ok (.aload_n 0, 1) := by decide +kernel
theorem d88_11 : decode (mCode 88) 11 = .ok (.lconst 0, 1) := by decide +kernel
theorem d88_12 : decode (mCode 88) 12 = .ok (.putfield 16, 3) := by decide +kernel
theorem d88_15 : decode (mCode 88) 15 = .ok (.return_, 1) := by decide +kernel
theorem d89_0 : decode (mCode 89) 0 = .ok (.lload_n 1, 1) := by decide +kernel
theorem d89_1 : decode (mCode 89) 1 = .ok (.bipush 31, 2) := by decide +kernel
theorem d89_3 : decode (mCode 89) 3 = .ok (.lshr, 1) := by decide +kernel
theorem d89_4 : decode (mCode 89) 4 = .ok (.lstore 5, 2) := by decide +kernel
theorem d89_6 : decode (mCode 89) 6 = .ok (.lload_n 1, 1) := by decide +kernel
theorem d89_7 : decode (mCode 89) 7 = .ok (.ldc2_w 19, 3) := by decide +kernel
theorem d89_10 : decode (mCode 89) 10 = .ok (.land, 1) := by decide +kernel
theorem d89_11 : decode (mCode 89) 11 = .ok (.lstore 7, 2) := by decide +kernel
theorem d89_13 : decode (mCode 89) 13 = .ok (.lload_n 3, 1) := by decide +kernel
theorem d89_14 : decode (mCode 89) 14 = .ok (.bipush 31, 2) := by decide +kernel
theorem d89_16 : decode (mCode 89) 16 = .ok (.lshr, 1) := by decide +kernel
theorem d89_17 : decode (mCode 89) 17 = .ok (.lstore 9, 2) := by decide +kernel
theorem d89_19 : decode (mCode 89) 19 = .ok (.lload_n 3, 1) := by decide +kernel
theorem d89_20 : decode (mCode 89) 20 = .ok (.ldc2_w 19, 3) := by decide +kernel
theorem d89_23 : decode (mCode 89) 23 = .ok (.land, 1) := by decide +kernel
theorem d89_24 : decode (mCode 89) 24 = .ok (.lstore 11, 2) := by decide +kernel
theorem d89_26 : decode (mCode 89) 26 = .ok (.lload 7, 2) := by decide +kernel
theorem d89_28 : decode (mCode 89) 28 = .ok (.lload 11, 2) := by decide +kernel
theorem d89_30 : decode (mCode 89) 30 = .ok (.lmul, 1) := by decide +kernel
theorem d89_31 : decode (mCode 89) 31 = .ok (.lstore 13, 2) := by decide +kernel
theorem d89_33 : decode (mCode 89) 33 = .ok (.lload 5, 2) := by decide +kernel
theorem d89_35 : decode (mCode 89) 35 = .ok (.lload 11, 2) := by decide +kernel
theorem d89_37 : decode (mCode 89) 37 = .ok (.lmul, 1) := by decide +kernel
theorem d89_38 : decode (mCode 89) 38 = .ok (.lload 7, 2) := by decide +kernel
theorem d89_40 : decode (mCode 89) 40 = .ok (.lload 9, 2) := by decide +kernel
theorem d89_42 : decode (mCode 89) 42 = .ok (.lmul, 1) := by decide +kernel
theorem d89_43 : decode (mCode 89) 43 = .ok (.ladd, 1) := by decide +kernel
theorem d89_44 : decode (mCode 89) 44 = .ok (.lload 13, 2) := by decide +kernel
theorem d89_46 : decode (mCode 89) 46 = .ok (.bipush 31, 2) := by decide +kernel
theorem d89_48 : decode (mCode 89) 48 = .ok (.lshr, 1) := by decide +kernel
theorem d89_49 : decode (mCode 89) 49 = .ok (.ladd, 1) := by decide +kernel
theorem d89_50 : decode (mCode 89) 50 = .ok (.lstore 15, 2) := by decide +kernel
theorem d89_52 : decode (mCode 89) 52 = .ok (.aload_n 0, 1) := by decide +kernel
theorem d89_53 : decode (mCode 89) 53 = .ok (.dup, 1) := by decide +kernel
theorem d89_54 : decode (mCode 89) 54 = .ok (.getfield 9, 3) := by decide +kernel
theorem d89_57 : decode (mCode 89) 57 = .ok (.lload 5, 2) := by decide +kernel
theorem d89_59 : decode (mCode 89) 59 = .ok (.lload 9, 2) := by decide +kernel
theorem d89_61 : decode (mCode 89) 61 = .ok (.lmul, 1) := by decide +kernel
theorem d89_62 : decode (mCode 89) 62 = .ok (.lload 15, 2) := by decide +kernel
theorem d89_64 : decode (mCode 89) 64 = .ok (.bipush 31, 2) := by decide +kernel
theorem d89_66 : decode (mCode 89) 66 = .ok (.lshr, 1) := by decide +kernel
theorem d89_67 : decode (mCode 89) 67 = .ok (.ladd, 1) := by decide +kernel
theorem d89_68 : decode (mCode 89) 68 = .ok (.ladd, 1) := by decide +kernel
theorem d89_69 : decode (mCode 89) 69 = .ok (.putfield 9, 3) := by decide +kernel
theorem d89_72 : decode (mCode 89) 72 = .ok (.aload_n 0, 1) := by decide +kernel
theorem d89_73 : decode (mCode 89) 73 = .ok (.dup, 1) := by decide +kernel
theorem d89_74 : decode (mCode 89) 74 = .ok (.getfield 13, 3) := by decide +kernel
theorem d89_77 : decode (mCode 89) 77 = .ok (.lload 15, 2) := by decide +kernel
theorem d89_79 : decode (mCode 89) 79 = .ok (.ldc2_w 19, 3) := by decide +kernel
theorem d89_82 : decode (mCode 89) 82 = .ok (.land, 1) := by decide +kernel
theorem d89_83 : decode (mCode 89) 83 = .ok (.ladd, 1) := by decide +kernel
theorem d89_84 : decode (mCode 89) 84 = .ok (.putfield 13, 3) := by decide +kernel
theorem d89_87 : decode (mCode 89) 87 = .ok (.aload_n 0, 1) := by decide +kernel
theorem d89_88 : decode (mCode 89) 88 = .ok (.dup, 1) := by decide +kernel
theorem d89_89 : decode (mCode 89) 89 = .ok (.getfield 16, 3) := by decide +kernel
theorem d89_92 : decode (mCode 89) 92 = .ok (.lload 13, 2) := by decide +kernel
theorem d89_94 : decode (mCode 89) 94 = .ok (.ldc2_w 19, 3) := by decide +kernel
theorem d89_97 : decode (mCode 89) 97 = .ok (.land, 1) := by decide +kernel
theorem d89_98 : decode (mCode 89) 98 = .ok (.ladd, 1) := by decide +kernel
theorem d89_99 : decode (mCode 89) 99 = .ok (.putfield 16, 3) := by decide +kernel
theorem d89_102 : decode (mCode 89) 102 = .ok (.return_, 1) := by decide +kernel
theorem d90_0 : decode (mCode 90) 0 = .ok (.aload_n 0, 1) := by decide +kernel
theorem d90_1 : decode (mCode 90) 1 = .ok (.getfield 13, 3) := by decide +kernel
theorem d90_4 : decode (mCode 90) 4 = .ok (.aload_n 0, 1) := by decide +kernel
theorem d90_5 : decode (mCode 90) 5 = .ok (.getfield 16, 3) := by decide +kernel
theorem d90_8 : decode (mCode 90) 8 = .ok (.bipush 31, 2) := by decide +kernel
theorem d90_10 : decode (mCode 90) 10 = .ok (.lshr, 1) := by decide +kernel
theorem d90_11 : decode (mCode 90) 11 = .ok (.ladd, 1) := by decide +kernel
theorem d90_12 : decode (mCode 90) 12 = .ok (.lstore_n 1, 1) := by decide +kernel
theorem d90_13 : decode (mCode 90) 13 = .ok (.aload_n 0, 1) := by decide +kernel
theorem d90_14 : decode (mCode 90) 14 = .ok (.getfield 9, 3) := by decide +kernel
theorem d90_17 : decode (mCode 90) 17 = .ok (.lload_n 1, 1) := by decide +kernel
theorem d90_18 : decode (mCode 90) 18 = .ok (.bipush 31, 2) := by decide +kernel
theorem d90_20 : decode (mCode 90) 20 = .ok (.lshr, 1) := by decide +kernel
theorem d90_21 : decode (mCode 90) 21 = .ok (.ladd, 1) := by decide +kernel
theorem d90_22 : decode (mCode 90) 22 = .ok (.lstore_n 3, 1) := by decide +kernel
theorem d90_23 : decode (mCode 90) 23 = .ok (.lload_n 3, 1) := by decide +kernel
theorem d90_24 : decode (mCode 90) 24 = .ok (.lconst 0, 1) := by decide +kernel
theorem d90_25 : decode (mCode 90) 25 = .ok (.lcmp, 1) := by decide +kernel
theorem d90_26 : decode (mCode 90) 26 = .ok (.ifCond .eq 8, 3) := by decide +kernel
theorem d90_29 : decode (mCode 90) 29 = .ok (.lload_n 3, 1) := by decide +kernel
theorem d90_30 : decode (mCode 90) 30 = .ok (.invokestatic 21, 3) := by decide +kernel
theorem d90_33 : decode (mCode 90) 33 = .ok (.ireturn, 1) := by decide +kernel
theorem d90_34 : decode (mCode 90) 34 = .ok (.lload_n 1, 1) := by decide +kernel
theorem d90_35 : decode (mCode 90) 35 = .ok (.ldc2_w 19, 3) := by decide +kernel
theorem d90_38 : decode (mCode 90) 38 = .ok (.land, 1) := by decide +kernel
theorem d90_39 : decode (mCode 90) 39 = .ok (.aload_n 0, 1) := by decide +kernel
theorem d90_40 : decode (mCode 90) 40 = .ok (.getfield 16, 3) := by decide +kernel
theorem d90_43 : decode (mCode 90) 43 = .ok (.ldc2_w 19, 3) := by decide +kernel
theorem d90_46 : decode (mCode 90) 46 = .ok (.land, 1) := by decide +kernel
theorem d90_47 : decode (mCode 90) 47 = .ok (.lor, 1) := by decide +kernel
theorem d90_48 : decode (mCode 90) 48 = .ok (.invokestatic 21, 3) := by decide +kernel
theorem d90_51 : decode (mCode 90) 51 = .ok (.ireturn, 1) := by decide +kernel
theorem d98_0 : decode (mCode 98) 0 = .ok (.lload_n 0, 1) := by decide +kernel
theorem d98_1 : decode (mCode 98) 1 = .ok (.lconst 0, 1) := by decide +kernel
theorem d98_2 : decode (mCode 98) 2 = .ok (.lcmp, 1) := by decide +kernel
theorem d98_3 : decode (mCode 98) 3 = .ok (.ifCond .le 7, 3) := by decide +kernel
theorem d98_6 : decode (mCode 98) 6 = .ok (.iconst 1, 1) := by decide +kernel
theorem d98_7 : decode (mCode 98) 7 = .ok (.goto 14, 3) := by decide +kernel
theorem d98_10 : decode (mCode 98) 10 = .ok (.lload_n 0, 1) := by decide +kernel
theorem d98_11 : decode (mCode 98) 11 = .ok (.lconst 0, 1) := by decide +kernel
theorem d98_12 : decode (mCode 98) 12 = .ok (.lcmp, 1) := by decide +kernel
theorem d98_13 : decode (mCode 98) 13 = .ok (.ifCond .ge 7, 3) := by decide +kernel
theorem d98_16 : decode (mCode 98) 16 = .ok (.iconst (-1), 1) := by decide +kernel
theorem d98_17 : decode (mCode 98) 17 = .ok (.goto 4, 3) := by decide +kernel
theorem d98_20 : decode (mCode 98) 20 = .ok (.iconst 0, 1) := by decide +kernel
theorem d98_21 : decode (mCode 98) 21 = .ok (.ireturn, 1) := by decide +kernel
theorem d169_0 : decode (mCode 169) 0 = .ok (.iload_n 0, 1) := by decide +kernel
theorem d169_1 : decode (mCode 169) 1 = .ok (.iload_n 1, 1) := by decide +kernel
theorem d169_2 : decode (mCode 169) 2 = .ok (.if_icmp .gt 7, 3) := by decide +kernel
theorem d169_5 : decode (mCode 169) 5 = .ok (.iload_n 0, 1) := by decide +kernel
theorem d169_6 : decode (mCode 169) 6 = .ok (.goto 4, 3) := by decide +kernel
theorem d169_9 : decode (mCode 169) 9 = .ok (.iload_n 1, 1) := by decide +kernel
theorem d169_10 : decode (mCode 169) 10 = .ok (.ireturn, 1) := by decide +kernel
theorem d170_0 : decode (mCode 170) 0 = .ok (.iload_n 0, 1) := by decide +kernel
theorem d170_1 : decode (mCode 170) 1 = .ok (.iload_n 1, 1) := by decide +kernel
theorem d170_2 : decode (mCode 170) 2 = .ok (.if_icmp .lt 7, 3) := by decide +kernel
theorem d170_5 : decode (mCode 170) 5 = .ok (.iload_n 0, 1) := by decide +kernel
theorem d170_6 : decode (mCode 170) 6 = .ok (.goto 4, 3) := by decide +kernel
theorem d170_9 : decode (mCode 170) 9 = .ok (.iload_n 1, 1) := by decide +kernel
theorem d170_10 : decode (mCode 170) 10 = .ok (.ireturn, 1) := by decide +kernel
def f71 (v1 : Int32) (v2 : Int32) (v3 : Int32) (s : mS) : Option (Int64) :=
  rdI 42 v2 (rdI 42 v1 (rdI 42 v2 (rdI 42 v1 (rdI 42 v3 (rdI 42 v1 (rdI 42 v3 (rdI 42 v1 (some (((Int32.toInt64 ((s.1 18 (Int32.toNatClampNeg v2)) - (s.1 18 (Int32.toNatClampNeg v1)))) * (Int32.toInt64 ((s.1 19 (Int32.toNatClampNeg v3)) - (s.1 19 (Int32.toNatClampNeg v1))))) - ((Int32.toInt64 ((s.1 19 (Int32.toNatClampNeg v2)) - (s.1 19 (Int32.toNatClampNeg v1)))) * (Int32.toInt64 ((s.1 18 (Int32.toNatClampNeg v3)) - (s.1 18 (Int32.toNatClampNeg v1))))))))))))))
theorem t_f71 {S : mE} {ex : mHp} {v1 : Int32} {v2 : Int32} {v3 : Int32} {s : mS} {r : Int64} (h : f71 v1 v2 v3 s = some r) : Run S 71 (0, [(0, .ref 17), (1, .int v1), (2, .int v2), (3, .int v3)], [], hp s ex) (.inl (some (.long r)), hp s ex) := by
  unfold f71 at h
  refine R_p d71_0 rfl rfl ?_
  refine R_get d71_1 (Or.inl (List.mem_of_getElem? (i := 3) rfl)) (hg17 _ _) rfl ?_
  refine R_p d71_4 rfl rfl ?_
  obtain ⟨c1, h⟩ := rdI_some h
  refine R_ild d71_5 (hg18 _ _) c1 ?_
  refine R_p d71_6 rfl rfl ?_
  refine R_get d71_7 (Or.inl (List.mem_of_getElem? (i := 3) rfl)) (hg17 _ _) rfl ?_
  refine R_p d71_10 rfl rfl ?_
  obtain ⟨c2, h⟩ := rdI_some h
  refine R_ild d71_11 (hg18 _ _) c2 ?_
  refine R_p d71_12 rfl rfl ?_
  refine R_p d71_13 rfl rfl ?_
  refine R_p (ls' := [(0, .ref 17), (1, .int v1), (2, .int v2), (3, .int v3), (4, .long (Int32.toInt64 ((s.1 18 (Int32.toNatClampNeg v2)) - (s.1 18 (Int32.toNatClampNeg v1)))))]) d71_14 rfl rfl ?_
  refine R_p d71_16 rfl rfl ?_
  refine R_get d71_17 (Or.inl (List.mem_of_getElem? (i := 4) rfl)) (hg17 _ _) rfl ?_
  refine R_p d71_20 rfl rfl ?_
  obtain ⟨c3, h⟩ := rdI_some h
  refine R_ild d71_21 (hg19 _ _) c3 ?_
  refine R_p d71_22 rfl rfl ?_
  refine R_get d71_23 (Or.inl (List.mem_of_getElem? (i := 4) rfl)) (hg17 _ _) rfl ?_
  refine R_p d71_26 rfl rfl ?_
  obtain ⟨c4, h⟩ := rdI_some h
  refine R_ild d71_27 (hg19 _ _) c4 ?_
  refine R_p d71_28 rfl rfl ?_
  refine R_p d71_29 rfl rfl ?_
  refine R_p (ls' := [(0, .ref 17), (1, .int v1), (2, .int v2), (3, .int v3), (4, .long (Int32.toInt64 ((s.1 18 (Int32.toNatClampNeg v2)) - (s.1 18 (Int32.toNatClampNeg v1))))), (6, .long (Int32.toInt64 ((s.1 19 (Int32.toNatClampNeg v2)) - (s.1 19 (Int32.toNatClampNeg v1)))))]) d71_30 rfl rfl ?_
  refine R_p d71_32 rfl rfl ?_
  refine R_get d71_33 (Or.inl (List.mem_of_getElem? (i := 3) rfl)) (hg17 _ _) rfl ?_
  refine R_p d71_36 rfl rfl ?_
  obtain ⟨c5, h⟩ := rdI_some h
  refine R_ild d71_37 (hg18 _ _) c5 ?_
  refine R_p d71_38 rfl rfl ?_
  refine R_get d71_39 (Or.inl (List.mem_of_getElem? (i := 3) rfl)) (hg17 _ _) rfl ?_
  refine R_p d71_42 rfl rfl ?_
  obtain ⟨c6, h⟩ := rdI_some h
  refine R_ild d71_43 (hg18 _ _) c6 ?_
  refine R_p d71_44 rfl rfl ?_
  refine R_p d71_45 rfl rfl ?_
  refine R_p (ls' := [(0, .ref 17), (1, .int v1), (2, .int v2), (3, .int v3), (4, .long (Int32.toInt64 ((s.1 18 (Int32.toNatClampNeg v2)) - (s.1 18 (Int32.toNatClampNeg v1))))), (6, .long (Int32.toInt64 ((s.1 19 (Int32.toNatClampNeg v2)) - (s.1 19 (Int32.toNatClampNeg v1))))), (8, .long (Int32.toInt64 ((s.1 18 (Int32.toNatClampNeg v3)) - (s.1 18 (Int32.toNatClampNeg v1)))))]) d71_46 rfl rfl ?_
  refine R_p d71_48 rfl rfl ?_
  refine R_get d71_49 (Or.inl (List.mem_of_getElem? (i := 4) rfl)) (hg17 _ _) rfl ?_
  refine R_p d71_52 rfl rfl ?_
  obtain ⟨c7, h⟩ := rdI_some h
  refine R_ild d71_53 (hg19 _ _) c7 ?_
  refine R_p d71_54 rfl rfl ?_
  refine R_get d71_55 (Or.inl (List.mem_of_getElem? (i := 4) rfl)) (hg17 _ _) rfl ?_
  refine R_p d71_58 rfl rfl ?_
  obtain ⟨c8, h⟩ := rdI_some h
  refine R_ild d71_59 (hg19 _ _) c8 ?_
  refine R_p d71_60 rfl rfl ?_
  refine R_p d71_61 rfl rfl ?_
  refine R_p (ls' := [(0, .ref 17), (1, .int v1), (2, .int v2), (3, .int v3), (4, .long (Int32.toInt64 ((s.1 18 (Int32.toNatClampNeg v2)) - (s.1 18 (Int32.toNatClampNeg v1))))), (6, .long (Int32.toInt64 ((s.1 19 (Int32.toNatClampNeg v2)) - (s.1 19 (Int32.toNatClampNeg v1))))), (8, .long (Int32.toInt64 ((s.1 18 (Int32.toNatClampNeg v3)) - (s.1 18 (Int32.toNatClampNeg v1))))), (10, .long (Int32.toInt64 ((s.1 19 (Int32.toNatClampNeg v3)) - (s.1 19 (Int32.toNatClampNeg v1)))))]) d71_62 rfl rfl ?_
  refine R_p d71_64 rfl rfl ?_
  refine R_p d71_66 rfl rfl ?_
  refine R_p d71_68 rfl rfl ?_
  refine R_p d71_69 rfl rfl ?_
  refine R_p d71_71 rfl rfl ?_
  refine R_p d71_73 rfl rfl ?_
  refine R_p d71_74 rfl rfl ?_
  cases h
  exact R_lret d71_75 rfl rfl
def f98 (v0 : Int64) (s : mS) : Option (Int32) :=
  (if (v0 ≤ (0 : Int64)) then
    (if ((0 : Int64) ≤ v0) then
      some (0 : Int32)
    else
      some (-1 : Int32))
  else
    some (1 : Int32))
theorem t_f98 {S : mE} {ex : mHp} {v0 : Int64} {s : mS} {r : Int32} (h : f98 v0 s = some r) : Run S 98 (0, [(0, .long v0)], [], hp s ex) (.inl (some (.int r)), hp s ex) := by
  unfold f98 at h
  refine R_p d98_0 rfl rfl ?_
  refine R_lc (v := 0) d98_1 (by decide) ?_
  refine R_p d98_2 rfl rfl ?_
  rcases ite_some h with ⟨c1, h⟩ | ⟨c1, h⟩
  · refine R_br 10 d98_3 (mb_t (b := ((lg_cmp v0 0) ≤ (0 : Int32))) (lgc_le.mpr c1)) rfl ?_
    refine R_p d98_10 rfl rfl ?_
    refine R_lc (v := 0) d98_11 (by decide) ?_
    refine R_p d98_12 rfl rfl ?_
    rcases ite_some h with ⟨c2, h⟩ | ⟨c2, h⟩
    · refine R_br 20 d98_13 (mb_t (b := ((0 : Int32) ≤ (lg_cmp v0 0))) (lgc_ge.mpr c2)) rfl ?_
      refine R_ic (v := 0) d98_20 (by decide) ?_
      cases h
      exact R_iret d98_21 rfl rfl rfl
    · refine R_nb d98_13 rfl (mb_f (b := ((0 : Int32) ≤ (lg_cmp v0 0))) (fun q => c2 (lgc_ge.mp q))) ?_
      refine R_ic (v := (-1)) d98_16 (by decide) ?_
      refine R_br 21 d98_17 rfl rfl ?_
      cases h
      exact R_iret d98_21 rfl rfl rfl
  · refine R_nb d98_3 rfl (mb_f (b := ((lg_cmp v0 0) ≤ (0 : Int32))) (fun q => c1 (lgc_le.mp q))) ?_
    refine R_ic (v := 1) d98_6 (by decide) ?_
    refine R_br 21 d98_7 rfl rfl ?_
    cases h
    exact R_iret d98_21 rfl rfl rfl
def f73 (v1 : Int32) (v2 : Int32) (v3 : Int32) (s : mS) : Option (Int32) :=
  (f71 v1 v2 v3 s).bind fun q1 => (f98 q1 s).bind fun q3 => some q3
theorem t_f73 {S : mE} {ex : mHp} {v1 : Int32} {v2 : Int32} {v3 : Int32} {s : mS} {r : Int32} (h : f73 v1 v2 v3 s = some r) : Run S 73 (0, [(0, .ref 17), (1, .int v1), (2, .int v2), (3, .int v3)], [], hp s ex) (.inl (some (.int r)), hp s ex) := by
  unfold f73 at h
  refine R_p d73_0 rfl rfl ?_
  refine R_p d73_1 rfl rfl ?_
  refine R_p d73_2 rfl rfl ?_
  refine R_p d73_3 rfl rfl ?_
  obtain ⟨q1, e2, h⟩ := bd_some h
  refine R_cm [.int v1, .int v2, .int v3] d73_4 (List.mem_of_getElem? (i := 37) rfl) rfl ⟨by decide, by decide, Nat.le_of_ble_eq_true rfl, rfl, mcd71⟩ rfl rfl (Nat.le_of_ble_eq_true rfl) (hg17 _ _) rfl (t_f71 e2) ?_
  obtain ⟨q3, e4, h⟩ := bd_some h
  refine R_cs [.long q1] d73_7 (List.mem_of_getElem? (i := 45) rfl) rfl ⟨by decide, by decide, Nat.le_of_ble_eq_true rfl, rfl, mcd98⟩ rfl rfl (Nat.le_of_ble_eq_true rfl) (t_f98 e4) ?_
  cases h
  exact R_iret d73_10 rfl rfl rfl
def f76 (v1 : Int32) (v2 : Int32) (s : mS) : Option (Int64) :=
  rdI 42 v2 (rdI 42 v1 (rdI 42 v2 (rdI 42 v1 (some (((Int32.toInt64 ((s.1 18 (Int32.toNatClampNeg v2)) - (s.1 18 (Int32.toNatClampNeg v1)))) * (Int32.toInt64 ((s.1 18 (Int32.toNatClampNeg v2)) - (s.1 18 (Int32.toNatClampNeg v1))))) + ((Int32.toInt64 ((s.1 19 (Int32.toNatClampNeg v2)) - (s.1 19 (Int32.toNatClampNeg v1)))) * (Int32.toInt64 ((s.1 19 (Int32.toNatClampNeg v2)) - (s.1 19 (Int32.toNatClampNeg v1))))))))))
theorem t_f76 {S : mE} {ex : mHp} {v1 : Int32} {v2 : Int32} {s : mS} {r : Int64} (h : f76 v1 v2 s = some r) : Run S 76 (0, [(0, .ref 17), (1, .int v1), (2, .int v2)], [], hp s ex) (.inl (some (.long r)), hp s ex) := by
  unfold f76 at h
  refine R_p d76_0 rfl rfl ?_
  refine R_get d76_1 (Or.inl (List.mem_of_getElem? (i := 3) rfl)) (hg17 _ _) rfl ?_
  refine R_p d76_4 rfl rfl ?_
  obtain ⟨c1, h⟩ := rdI_some h
  refine R_ild d76_5 (hg18 _ _) c1 ?_
  refine R_p d76_6 rfl rfl ?_
  refine R_get d76_7 (Or.inl (List.mem_of_getElem? (i := 3) rfl)) (hg17 _ _) rfl ?_
  refine R_p d76_10 rfl rfl ?_
  obtain ⟨c2, h⟩ := rdI_some h
  refine R_ild d76_11 (hg18 _ _) c2 ?_
  refine R_p d76_12 rfl rfl ?_
  refine R_p d76_13 rfl rfl ?_
  refine R_p (ls' := [(0, .ref 17), (1, .int v1), (2, .int v2), (3, .long (Int32.toInt64 ((s.1 18 (Int32.toNatClampNeg v2)) - (s.1 18 (Int32.toNatClampNeg v1)))))]) d76_14 rfl rfl ?_
  refine R_p d76_15 rfl rfl ?_
  refine R_get d76_16 (Or.inl (List.mem_of_getElem? (i := 4) rfl)) (hg17 _ _) rfl ?_
  refine R_p d76_19 rfl rfl ?_
  obtain ⟨c3, h⟩ := rdI_some h
  refine R_ild d76_20 (hg19 _ _) c3 ?_
  refine R_p d76_21 rfl rfl ?_
  refine R_get d76_22 (Or.inl (List.mem_of_getElem? (i := 4) rfl)) (hg17 _ _) rfl ?_
  refine R_p d76_25 rfl rfl ?_
  obtain ⟨c4, h⟩ := rdI_some h
  refine R_ild d76_26 (hg19 _ _) c4 ?_
  refine R_p d76_27 rfl rfl ?_
  refine R_p d76_28 rfl rfl ?_
  refine R_p (ls' := [(0, .ref 17), (1, .int v1), (2, .int v2), (3, .long (Int32.toInt64 ((s.1 18 (Int32.toNatClampNeg v2)) - (s.1 18 (Int32.toNatClampNeg v1))))), (5, .long (Int32.toInt64 ((s.1 19 (Int32.toNatClampNeg v2)) - (s.1 19 (Int32.toNatClampNeg v1)))))]) d76_29 rfl rfl ?_
  refine R_p d76_31 rfl rfl ?_
  refine R_p d76_32 rfl rfl ?_
  refine R_p d76_33 rfl rfl ?_
  refine R_p d76_34 rfl rfl ?_
  refine R_p d76_36 rfl rfl ?_
  refine R_p d76_38 rfl rfl ?_
  refine R_p d76_39 rfl rfl ?_
  cases h
  exact R_lret d76_40 rfl rfl
def f88  (s : mS) : Option (mS) :=
  pt (uG 0 (0 : Int64) s) fun s1 => pt (uG 1 (0 : Int64) s1) fun s3 => pt (uG 2 (0 : Int64) s3) fun s5 => some s5
theorem t_f88 {S : mE} {ex : mHp}  {s : mS} {r : mS} (h : f88 s = some r) : Run S 88 (0, [(0, .ref 20)], [], hp s ex) (.inl none, hp r ex) := by
  unfold f88 at h
  refine R_p d88_0 rfl rfl ?_
  refine R_lc (v := 0) d88_1 (by decide) ?_
  obtain ⟨s1, e2, h⟩ := pt_some h
  refine R_put d88_2 (List.mem_of_getElem? (i := 0) rfl) (hg20 _ _) (Nat.le_of_ble_eq_true rfl) rfl rfl (Or.inl rfl) ?_
  refine R_h (hp s1 ex) (by rw [e2]; exact hG0 _ _ _) ?_
  refine R_p d88_5 rfl rfl ?_
  refine R_lc (v := 0) d88_6 (by decide) ?_
  obtain ⟨s3, e4, h⟩ := pt_some h
  refine R_put d88_7 (List.mem_of_getElem? (i := 1) rfl) (hg20 _ _) (Nat.le_of_ble_eq_true rfl) rfl rfl (Or.inl rfl) ?_
  refine R_h (hp s3 ex) (by rw [e4]; exact hG1 _ _ _) ?_
  refine R_p d88_10 rfl rfl ?_
  refine R_lc (v := 0) d88_11 (by decide) ?_
  obtain ⟨s5, e6, h⟩ := pt_some h
  refine R_put d88_12 (List.mem_of_getElem? (i := 2) rfl) (hg20 _ _) (Nat.le_of_ble_eq_true rfl) rfl rfl (Or.inl rfl) ?_
  refine R_h (hp s5 ex) (by rw [e6]; exact hG2 _ _ _) ?_
  cases h
  exact R_vret d88_15 rfl rfl
def f89 (v1 : Int64) (v3 : Int64) (s : mS) : Option (mS) :=
  pt (uG 0 ((s.2.2.2 0) + (((v1 >>> (Int32.toInt64 31 &&& 63)) * (v3 >>> (Int32.toInt64 31 &&& 63))) + (((((v1 >>> (Int32.toInt64 31 &&& 63)) * (v3 &&& (2147483647 : Int64))) + ((v1 &&& (2147483647 : Int64)) * (v3 >>> (Int32.toInt64 31 &&& 63)))) + (((v1 &&& (2147483647 : Int64)) * (v3 &&& (2147483647 : Int64))) >>> (Int32.toInt64 31 &&& 63))) >>> (Int32.toInt64 31 &&& 63)))) s) fun s1 => pt (uG 1 ((s1.2.2.2 1) + (((((v1 >>> (Int32.toInt64 31 &&& 63)) * (v3 &&& (2147483647 : Int64))) + ((v1 &&& (2147483647 : Int64)) * (v3 >>> (Int32.toInt64 31 &&& 63)))) + (((v1 &&& (2147483647 : Int64)) * (v3 &&& (2147483647 : Int64))) >>> (Int32.toInt64 31 &&& 63))) &&& (2147483647 : Int64))) s1) fun s3 => pt (uG 2 ((s3.2.2.2 2) + (((v1 &&& (2147483647 : Int64)) * (v3 &&& (2147483647 : Int64))) &&& (2147483647 : Int64))) s3) fun s5 => some s5
theorem t_f89 {S : mE} {ex : mHp} {v1 : Int64} {v3 : Int64} {s : mS} {r : mS} (h : f89 v1 v3 s = some r) : Run S 89 (0, [(0, .ref 20), (1, .long v1), (3, .long v3)], [], hp s ex) (.inl none, hp r ex) := by
  unfold f89 at h
  refine R_p d89_0 rfl rfl ?_
  refine R_bi (v := 31) d89_1 (by decide) ?_
  refine R_p d89_3 rfl rfl ?_
  refine R_p (ls' := [(0, .ref 20), (1, .long v1), (3, .long v3), (5, .long (v1 >>> (Int32.toInt64 31 &&& 63)))]) d89_4 rfl rfl ?_
  refine R_p d89_6 rfl rfl ?_
  refine R_cl (v := 2147483647) 602 d89_7 (List.mem_of_getElem? (i := 1) rfl) ?_
  refine R_p d89_10 rfl rfl ?_
  refine R_p (ls' := [(0, .ref 20), (1, .long v1), (3, .long v3), (5, .long (v1 >>> (Int32.toInt64 31 &&& 63))), (7, .long (v1 &&& (2147483647 : Int64)))]) d89_11 rfl rfl ?_
  refine R_p d89_13 rfl rfl ?_
  refine R_bi (v := 31) d89_14 (by decide) ?_
  refine R_p d89_16 rfl rfl ?_
  refine R_p (ls' := [(0, .ref 20), (1, .long v1), (3, .long v3), (5, .long (v1 >>> (Int32.toInt64 31 &&& 63))), (7, .long (v1 &&& (2147483647 : Int64))), (9, .long (v3 >>> (Int32.toInt64 31 &&& 63)))]) d89_17 rfl rfl ?_
  refine R_p d89_19 rfl rfl ?_
  refine R_cl (v := 2147483647) 602 d89_20 (List.mem_of_getElem? (i := 1) rfl) ?_
  refine R_p d89_23 rfl rfl ?_
  refine R_p (ls' := [(0, .ref 20), (1, .long v1), (3, .long v3), (5, .long (v1 >>> (Int32.toInt64 31 &&& 63))), (7, .long (v1 &&& (2147483647 : Int64))), (9, .long (v3 >>> (Int32.toInt64 31 &&& 63))), (11, .long (v3 &&& (2147483647 : Int64)))]) d89_24 rfl rfl ?_
  refine R_p d89_26 rfl rfl ?_
  refine R_p d89_28 rfl rfl ?_
  refine R_p d89_30 rfl rfl ?_
  refine R_p (ls' := [(0, .ref 20), (1, .long v1), (3, .long v3), (5, .long (v1 >>> (Int32.toInt64 31 &&& 63))), (7, .long (v1 &&& (2147483647 : Int64))), (9, .long (v3 >>> (Int32.toInt64 31 &&& 63))), (11, .long (v3 &&& (2147483647 : Int64))), (13, .long ((v1 &&& (2147483647 : Int64)) * (v3 &&& (2147483647 : Int64))))]) d89_31 rfl rfl ?_
  refine R_p d89_33 rfl rfl ?_
  refine R_p d89_35 rfl rfl ?_
  refine R_p d89_37 rfl rfl ?_
  refine R_p d89_38 rfl rfl ?_
  refine R_p d89_40 rfl rfl ?_
  refine R_p d89_42 rfl rfl ?_
  refine R_p d89_43 rfl rfl ?_
  refine R_p d89_44 rfl rfl ?_
  refine R_bi (v := 31) d89_46 (by decide) ?_
  refine R_p d89_48 rfl rfl ?_
  refine R_p d89_49 rfl rfl ?_
  refine R_p (ls' := [(0, .ref 20), (1, .long v1), (3, .long v3), (5, .long (v1 >>> (Int32.toInt64 31 &&& 63))), (7, .long (v1 &&& (2147483647 : Int64))), (9, .long (v3 >>> (Int32.toInt64 31 &&& 63))), (11, .long (v3 &&& (2147483647 : Int64))), (13, .long ((v1 &&& (2147483647 : Int64)) * (v3 &&& (2147483647 : Int64)))), (15, .long ((((v1 >>> (Int32.toInt64 31 &&& 63)) * (v3 &&& (2147483647 : Int64))) + ((v1 &&& (2147483647 : Int64)) * (v3 >>> (Int32.toInt64 31 &&& 63)))) + (((v1 &&& (2147483647 : Int64)) * (v3 &&& (2147483647 : Int64))) >>> (Int32.toInt64 31 &&& 63))))]) d89_50 rfl rfl ?_
  refine R_p d89_52 rfl rfl ?_
  refine R_p d89_53 rfl rfl ?_
  refine R_get d89_54 (Or.inl (List.mem_of_getElem? (i := 0) rfl)) (hg20 _ _) rfl ?_
  refine R_p d89_57 rfl rfl ?_
  refine R_p d89_59 rfl rfl ?_
  refine R_p d89_61 rfl rfl ?_
  refine R_p d89_62 rfl rfl ?_
  refine R_bi (v := 31) d89_64 (by decide) ?_
  refine R_p d89_66 rfl rfl ?_
  refine R_p d89_67 rfl rfl ?_
  refine R_p d89_68 rfl rfl ?_
  obtain ⟨s1, e2, h⟩ := pt_some h
  refine R_put d89_69 (List.mem_of_getElem? (i := 0) rfl) (hg20 _ _) (Nat.le_of_ble_eq_true rfl) rfl rfl (Or.inl rfl) ?_
  refine R_h (hp s1 ex) (by rw [e2]; exact hG0 _ _ _) ?_
  refine R_p d89_72 rfl rfl ?_
  refine R_p d89_73 rfl rfl ?_
  refine R_get d89_74 (Or.inl (List.mem_of_getElem? (i := 1) rfl)) (hg20 _ _) rfl ?_
  refine R_p d89_77 rfl rfl ?_
  refine R_cl (v := 2147483647) 602 d89_79 (List.mem_of_getElem? (i := 1) rfl) ?_
  refine R_p d89_82 rfl rfl ?_
  refine R_p d89_83 rfl rfl ?_
  obtain ⟨s3, e4, h⟩ := pt_some h
  refine R_put d89_84 (List.mem_of_getElem? (i := 1) rfl) (hg20 _ _) (Nat.le_of_ble_eq_true rfl) rfl rfl (Or.inl rfl) ?_
  refine R_h (hp s3 ex) (by rw [e4]; exact hG1 _ _ _) ?_
  refine R_p d89_87 rfl rfl ?_
  refine R_p d89_88 rfl rfl ?_
  refine R_get d89_89 (Or.inl (List.mem_of_getElem? (i := 2) rfl)) (hg20 _ _) rfl ?_
  refine R_p d89_92 rfl rfl ?_
  refine R_cl (v := 2147483647) 602 d89_94 (List.mem_of_getElem? (i := 1) rfl) ?_
  refine R_p d89_97 rfl rfl ?_
  refine R_p d89_98 rfl rfl ?_
  obtain ⟨s5, e6, h⟩ := pt_some h
  refine R_put d89_99 (List.mem_of_getElem? (i := 2) rfl) (hg20 _ _) (Nat.le_of_ble_eq_true rfl) rfl rfl (Or.inl rfl) ?_
  refine R_h (hp s5 ex) (by rw [e6]; exact hG2 _ _ _) ?_
  cases h
  exact R_vret d89_102 rfl rfl
def f90  (s : mS) : Option (Int32) :=
  (if (((s.2.2.2 0) + (((s.2.2.2 1) + ((s.2.2.2 2) >>> (Int32.toInt64 31 &&& 63))) >>> (Int32.toInt64 31 &&& 63))) = (0 : Int64)) then
    (f98 ((((s.2.2.2 1) + ((s.2.2.2 2) >>> (Int32.toInt64 31 &&& 63))) &&& (2147483647 : Int64)) ||| ((s.2.2.2 2) &&& (2147483647 : Int64))) s).bind fun q2 => some q2
  else
    (f98 ((s.2.2.2 0) + (((s.2.2.2 1) + ((s.2.2.2 2) >>> (Int32.toInt64 31 &&& 63))) >>> (Int32.toInt64 31 &&& 63))) s).bind fun q4 => some q4)
theorem t_f90 {S : mE} {ex : mHp}  {s : mS} {r : Int32} (h : f90 s = some r) : Run S 90 (0, [(0, .ref 20)], [], hp s ex) (.inl (some (.int r)), hp s ex) := by
  unfold f90 at h
  refine R_p d90_0 rfl rfl ?_
  refine R_get d90_1 (Or.inl (List.mem_of_getElem? (i := 1) rfl)) (hg20 _ _) rfl ?_
  refine R_p d90_4 rfl rfl ?_
  refine R_get d90_5 (Or.inl (List.mem_of_getElem? (i := 2) rfl)) (hg20 _ _) rfl ?_
  refine R_bi (v := 31) d90_8 (by decide) ?_
  refine R_p d90_10 rfl rfl ?_
  refine R_p d90_11 rfl rfl ?_
  refine R_p (ls' := [(0, .ref 20), (1, .long ((s.2.2.2 1) + ((s.2.2.2 2) >>> (Int32.toInt64 31 &&& 63))))]) d90_12 rfl rfl ?_
  refine R_p d90_13 rfl rfl ?_
  refine R_get d90_14 (Or.inl (List.mem_of_getElem? (i := 0) rfl)) (hg20 _ _) rfl ?_
  refine R_p d90_17 rfl rfl ?_
  refine R_bi (v := 31) d90_18 (by decide) ?_
  refine R_p d90_20 rfl rfl ?_
  refine R_p d90_21 rfl rfl ?_
  refine R_p (ls' := [(0, .ref 20), (1, .long ((s.2.2.2 1) + ((s.2.2.2 2) >>> (Int32.toInt64 31 &&& 63)))), (3, .long ((s.2.2.2 0) + (((s.2.2.2 1) + ((s.2.2.2 2) >>> (Int32.toInt64 31 &&& 63))) >>> (Int32.toInt64 31 &&& 63))))]) d90_22 rfl rfl ?_
  refine R_p d90_23 rfl rfl ?_
  refine R_lc (v := 0) d90_24 (by decide) ?_
  refine R_p d90_25 rfl rfl ?_
  rcases ite_some h with ⟨c1, h⟩ | ⟨c1, h⟩
  · refine R_br 34 d90_26 (mb_t (b := ((lg_cmp ((s.2.2.2 0) + (((s.2.2.2 1) + ((s.2.2.2 2) >>> (Int32.toInt64 31 &&& 63))) >>> (Int32.toInt64 31 &&& 63))) 0) = (0 : Int32))) (lgc_eq.mpr c1)) rfl ?_
    refine R_p d90_34 rfl rfl ?_
    refine R_cl (v := 2147483647) 602 d90_35 (List.mem_of_getElem? (i := 1) rfl) ?_
    refine R_p d90_38 rfl rfl ?_
    refine R_p d90_39 rfl rfl ?_
    refine R_get d90_40 (Or.inl (List.mem_of_getElem? (i := 2) rfl)) (hg20 _ _) rfl ?_
    refine R_cl (v := 2147483647) 602 d90_43 (List.mem_of_getElem? (i := 1) rfl) ?_
    refine R_p d90_46 rfl rfl ?_
    refine R_p d90_47 rfl rfl ?_
    obtain ⟨q2, e3, h⟩ := bd_some h
    refine R_cs [.long ((((s.2.2.2 1) + ((s.2.2.2 2) >>> (Int32.toInt64 31 &&& 63))) &&& (2147483647 : Int64)) ||| ((s.2.2.2 2) &&& (2147483647 : Int64)))] d90_48 (List.mem_of_getElem? (i := 76) rfl) rfl ⟨by decide, by decide, Nat.le_of_ble_eq_true rfl, rfl, mcd98⟩ rfl rfl (Nat.le_of_ble_eq_true rfl) (t_f98 e3) ?_
    cases h
    exact R_iret d90_51 rfl rfl rfl
  · refine R_nb d90_26 rfl (mb_f (b := ((lg_cmp ((s.2.2.2 0) + (((s.2.2.2 1) + ((s.2.2.2 2) >>> (Int32.toInt64 31 &&& 63))) >>> (Int32.toInt64 31 &&& 63))) 0) = (0 : Int32))) (fun q => c1 (lgc_eq.mp q))) ?_
    refine R_p d90_29 rfl rfl ?_
    obtain ⟨q4, e5, h⟩ := bd_some h
    refine R_cs [.long ((s.2.2.2 0) + (((s.2.2.2 1) + ((s.2.2.2 2) >>> (Int32.toInt64 31 &&& 63))) >>> (Int32.toInt64 31 &&& 63)))] d90_30 (List.mem_of_getElem? (i := 76) rfl) rfl ⟨by decide, by decide, Nat.le_of_ble_eq_true rfl, rfl, mcd98⟩ rfl rfl (Nat.le_of_ble_eq_true rfl) (t_f98 e5) ?_
    cases h
    exact R_iret d90_33 rfl rfl rfl
def f75 (v1 : Int32) (v2 : Int32) (v3 : Int32) (v4 : Int32) (s : mS) : Option (Int32 × mS) :=
  (f88 s).bind fun q1 => (f76 v4 v1 q1).bind fun q3 => (f71 v4 v2 v3 q1).bind fun q5 => (f89 q3 q5 q1).bind fun q7 => (f76 v4 v2 q7).bind fun q9 => (f71 v4 v3 v1 q7).bind fun q11 => (f89 q9 q11 q7).bind fun q13 => (f76 v4 v3 q13).bind fun q15 => (f71 v4 v1 v2 q13).bind fun q17 => (f89 q15 q17 q13).bind fun q19 => (f90 q19).bind fun q21 => some (q21, q19)
theorem t_f75 {S : mE} {ex : mHp} {v1 : Int32} {v2 : Int32} {v3 : Int32} {v4 : Int32} {s : mS} {r : Int32 × mS} (h : f75 v1 v2 v3 v4 s = some r) : Run S 75 (0, [(0, .ref 17), (1, .int v1), (2, .int v2), (3, .int v3), (4, .int v4)], [], hp s ex) (.inl (some (.int r.1)), hp r.2 ex) := by
  unfold f75 at h
  refine R_p d75_0 rfl rfl ?_
  refine R_get d75_1 (Or.inl (List.mem_of_getElem? (i := 5) rfl)) (hg17 _ _) rfl ?_
  obtain ⟨q1, e2, h⟩ := bd_some h
  refine R_cm [] d75_4 (List.mem_of_getElem? (i := 72) rfl) rfl ⟨by decide, by decide, Nat.le_of_ble_eq_true rfl, rfl, mcd88⟩ rfl rfl (Nat.le_of_ble_eq_true rfl) (hg20 _ _) rfl (t_f88 e2) ?_
  refine R_p d75_7 rfl rfl ?_
  refine R_get d75_8 (Or.inl (List.mem_of_getElem? (i := 5) rfl)) (hg17 _ _) rfl ?_
  refine R_p d75_11 rfl rfl ?_
  refine R_p d75_12 rfl rfl ?_
  refine R_p d75_14 rfl rfl ?_
  obtain ⟨q3, e4, h⟩ := bd_some h
  refine R_cm [.int v4, .int v1] d75_15 (List.mem_of_getElem? (i := 73) rfl) rfl ⟨by decide, by decide, Nat.le_of_ble_eq_true rfl, rfl, mcd76⟩ rfl rfl (Nat.le_of_ble_eq_true rfl) (hg17 _ _) rfl (t_f76 e4) ?_
  refine R_p d75_18 rfl rfl ?_
  refine R_p d75_19 rfl rfl ?_
  refine R_p d75_21 rfl rfl ?_
  refine R_p d75_22 rfl rfl ?_
  obtain ⟨q5, e6, h⟩ := bd_some h
  refine R_cm [.int v4, .int v2, .int v3] d75_23 (List.mem_of_getElem? (i := 37) rfl) rfl ⟨by decide, by decide, Nat.le_of_ble_eq_true rfl, rfl, mcd71⟩ rfl rfl (Nat.le_of_ble_eq_true rfl) (hg17 _ _) rfl (t_f71 e6) ?_
  obtain ⟨q7, e8, h⟩ := bd_some h
  refine R_cm [.long q3, .long q5] d75_26 (List.mem_of_getElem? (i := 74) rfl) rfl ⟨by decide, by decide, Nat.le_of_ble_eq_true rfl, rfl, mcd89⟩ rfl rfl (Nat.le_of_ble_eq_true rfl) (hg20 _ _) rfl (t_f89 e8) ?_
  refine R_p d75_29 rfl rfl ?_
  refine R_get d75_30 (Or.inl (List.mem_of_getElem? (i := 5) rfl)) (hg17 _ _) rfl ?_
  refine R_p d75_33 rfl rfl ?_
  refine R_p d75_34 rfl rfl ?_
  refine R_p d75_36 rfl rfl ?_
  obtain ⟨q9, e10, h⟩ := bd_some h
  refine R_cm [.int v4, .int v2] d75_37 (List.mem_of_getElem? (i := 73) rfl) rfl ⟨by decide, by decide, Nat.le_of_ble_eq_true rfl, rfl, mcd76⟩ rfl rfl (Nat.le_of_ble_eq_true rfl) (hg17 _ _) rfl (t_f76 e10) ?_
  refine R_p d75_40 rfl rfl ?_
  refine R_p d75_41 rfl rfl ?_
  refine R_p d75_43 rfl rfl ?_
  refine R_p d75_44 rfl rfl ?_
  obtain ⟨q11, e12, h⟩ := bd_some h
  refine R_cm [.int v4, .int v3, .int v1] d75_45 (List.mem_of_getElem? (i := 37) rfl) rfl ⟨by decide, by decide, Nat.le_of_ble_eq_true rfl, rfl, mcd71⟩ rfl rfl (Nat.le_of_ble_eq_true rfl) (hg17 _ _) rfl (t_f71 e12) ?_
  obtain ⟨q13, e14, h⟩ := bd_some h
  refine R_cm [.long q9, .long q11] d75_48 (List.mem_of_getElem? (i := 74) rfl) rfl ⟨by decide, by decide, Nat.le_of_ble_eq_true rfl, rfl, mcd89⟩ rfl rfl (Nat.le_of_ble_eq_true rfl) (hg20 _ _) rfl (t_f89 e14) ?_
  refine R_p d75_51 rfl rfl ?_
  refine R_get d75_52 (Or.inl (List.mem_of_getElem? (i := 5) rfl)) (hg17 _ _) rfl ?_
  refine R_p d75_55 rfl rfl ?_
  refine R_p d75_56 rfl rfl ?_
  refine R_p d75_58 rfl rfl ?_
  obtain ⟨q15, e16, h⟩ := bd_some h
  refine R_cm [.int v4, .int v3] d75_59 (List.mem_of_getElem? (i := 73) rfl) rfl ⟨by decide, by decide, Nat.le_of_ble_eq_true rfl, rfl, mcd76⟩ rfl rfl (Nat.le_of_ble_eq_true rfl) (hg17 _ _) rfl (t_f76 e16) ?_
  refine R_p d75_62 rfl rfl ?_
  refine R_p d75_63 rfl rfl ?_
  refine R_p d75_65 rfl rfl ?_
  refine R_p d75_66 rfl rfl ?_
  obtain ⟨q17, e18, h⟩ := bd_some h
  refine R_cm [.int v4, .int v1, .int v2] d75_67 (List.mem_of_getElem? (i := 37) rfl) rfl ⟨by decide, by decide, Nat.le_of_ble_eq_true rfl, rfl, mcd71⟩ rfl rfl (Nat.le_of_ble_eq_true rfl) (hg17 _ _) rfl (t_f71 e18) ?_
  obtain ⟨q19, e20, h⟩ := bd_some h
  refine R_cm [.long q15, .long q17] d75_70 (List.mem_of_getElem? (i := 74) rfl) rfl ⟨by decide, by decide, Nat.le_of_ble_eq_true rfl, rfl, mcd89⟩ rfl rfl (Nat.le_of_ble_eq_true rfl) (hg20 _ _) rfl (t_f89 e20) ?_
  refine R_p d75_73 rfl rfl ?_
  refine R_get d75_74 (Or.inl (List.mem_of_getElem? (i := 5) rfl)) (hg17 _ _) rfl ?_
  obtain ⟨q21, e22, h⟩ := bd_some h
  refine R_cm [] d75_77 (List.mem_of_getElem? (i := 75) rfl) rfl ⟨by decide, by decide, Nat.le_of_ble_eq_true rfl, rfl, mcd90⟩ rfl rfl (Nat.le_of_ble_eq_true rfl) (hg20 _ _) rfl (t_f90 e22) ?_
  cases h
  exact R_iret d75_80 rfl rfl rfl
def f169 (v0 : Int32) (v1 : Int32) (s : mS) : Option (Int32) :=
  (if (v1 < v0) then
    some v1
  else
    some v0)
theorem t_f169 {S : mE} {ex : mHp} {v0 : Int32} {v1 : Int32} {s : mS} {r : Int32} (h : f169 v0 v1 s = some r) : Run S 169 (0, [(0, .int v0), (1, .int v1)], [], hp s ex) (.inl (some (.int r)), hp s ex) := by
  unfold f169 at h
  refine R_p d169_0 rfl rfl ?_
  refine R_p d169_1 rfl rfl ?_
  rcases ite_some h with ⟨c1, h⟩ | ⟨c1, h⟩
  · refine R_br 9 d169_2 (mb_t (b := (v1 < v0)) c1) rfl ?_
    refine R_p d169_9 rfl rfl ?_
    cases h
    exact R_iret d169_10 rfl rfl rfl
  · refine R_nb d169_2 rfl (mb_f (b := (v1 < v0)) c1) ?_
    refine R_p d169_5 rfl rfl ?_
    refine R_br 10 d169_6 rfl rfl ?_
    cases h
    exact R_iret d169_10 rfl rfl rfl
def f170 (v0 : Int32) (v1 : Int32) (s : mS) : Option (Int32) :=
  (if (v0 < v1) then
    some v1
  else
    some v0)
theorem t_f170 {S : mE} {ex : mHp} {v0 : Int32} {v1 : Int32} {s : mS} {r : Int32} (h : f170 v0 v1 s = some r) : Run S 170 (0, [(0, .int v0), (1, .int v1)], [], hp s ex) (.inl (some (.int r)), hp s ex) := by
  unfold f170 at h
  refine R_p d170_0 rfl rfl ?_
  refine R_p d170_1 rfl rfl ?_
  rcases ite_some h with ⟨c1, h⟩ | ⟨c1, h⟩
  · refine R_br 9 d170_2 (mb_t (b := (v0 < v1)) c1) rfl ?_
    refine R_p d170_9 rfl rfl ?_
    cases h
    exact R_iret d170_10 rfl rfl rfl
  · refine R_nb d170_2 rfl (mb_f (b := (v0 < v1)) c1) ?_
    refine R_p d170_5 rfl rfl ?_
    refine R_br 10 d170_6 rfl rfl ?_
    cases h
    exact R_iret d170_10 rfl rfl rfl
def f70 (v1 : Int32) (v2 : Int32) (v3 : Int32) (s : mS) : Option (Int32) :=
  (f71 v1 v2 v3 s).bind fun q1 => (if (¬ q1 = (0 : Int64)) then
    some (0 : Int32)
  else
    rdI 42 v1 (rdI 42 v2 ((f169 (s.1 18 (Int32.toNatClampNeg v1)) (s.1 18 (Int32.toNatClampNeg v2)) s).bind fun q6 => rdI 42 v3 ((if ((s.1 18 (Int32.toNatClampNeg v3)) < q6) then
      some (0 : Int32)
    else
      rdI 42 v3 (rdI 42 v1 (rdI 42 v2 ((f170 (s.1 18 (Int32.toNatClampNeg v1)) (s.1 18 (Int32.toNatClampNeg v2)) s).bind fun q13 => (if (q13 < (s.1 18 (Int32.toNatClampNeg v3))) then
        some (0 : Int32)
      else
        rdI 42 v1 (rdI 42 v2 ((f169 (s.1 19 (Int32.toNatClampNeg v1)) (s.1 19 (Int32.toNatClampNeg v2)) s).bind fun q18 => rdI 42 v3 ((if ((s.1 19 (Int32.toNatClampNeg v3)) < q18) then
          some (0 : Int32)
        else
          rdI 42 v3 (rdI 42 v1 (rdI 42 v2 ((f170 (s.1 19 (Int32.toNatClampNeg v1)) (s.1 19 (Int32.toNatClampNeg v2)) s).bind fun q25 => (if (q25 < (s.1 19 (Int32.toNatClampNeg v3))) then
            some (0 : Int32)
          else
            some (1 : Int32))))))))))))))))))
theorem t_f70 {S : mE} {ex : mHp} {v1 : Int32} {v2 : Int32} {v3 : Int32} {s : mS} {r : Int32} (h : f70 v1 v2 v3 s = some r) : Run S 70 (0, [(0, .ref 17), (1, .int v1), (2, .int v2), (3, .int v3)], [], hp s ex) (.inl (some (.int r)), hp s ex) := by
  unfold f70 at h
  refine R_p d70_0 rfl rfl ?_
  refine R_p d70_1 rfl rfl ?_
  refine R_p d70_2 rfl rfl ?_
  refine R_p d70_3 rfl rfl ?_
  obtain ⟨q1, e2, h⟩ := bd_some h
  refine R_cm [.int v1, .int v2, .int v3] d70_4 (List.mem_of_getElem? (i := 37) rfl) rfl ⟨by decide, by decide, Nat.le_of_ble_eq_true rfl, rfl, mcd71⟩ rfl rfl (Nat.le_of_ble_eq_true rfl) (hg17 _ _) rfl (t_f71 e2) ?_
  refine R_lc (v := 0) d70_7 (by decide) ?_
  refine R_p d70_8 rfl rfl ?_
  rcases ite_some h with ⟨c3, h⟩ | ⟨c3, h⟩
  · refine R_br 112 d70_9 (mb_t (b := (¬ (lg_cmp q1 0) = (0 : Int32))) (lgc_ne.mpr c3)) rfl ?_
    refine R_ic (v := 0) d70_112 (by decide) ?_
    cases h
    exact R_iret d70_113 rfl rfl rfl
  · refine R_nb d70_9 rfl (mb_f (b := (¬ (lg_cmp q1 0) = (0 : Int32))) (fun q => c3 (lgc_ne.mp q))) ?_
    refine R_p d70_12 rfl rfl ?_
    refine R_get d70_13 (Or.inl (List.mem_of_getElem? (i := 3) rfl)) (hg17 _ _) rfl ?_
    refine R_p d70_16 rfl rfl ?_
    obtain ⟨c4, h⟩ := rdI_some h
    refine R_ild d70_17 (hg18 _ _) c4 ?_
    refine R_p d70_18 rfl rfl ?_
    refine R_get d70_19 (Or.inl (List.mem_of_getElem? (i := 3) rfl)) (hg17 _ _) rfl ?_
    refine R_p d70_22 rfl rfl ?_
    obtain ⟨c5, h⟩ := rdI_some h
    refine R_ild d70_23 (hg18 _ _) c5 ?_
    obtain ⟨q6, e7, h⟩ := bd_some h
    refine R_cs [.int (s.1 18 (Int32.toNatClampNeg v1)), .int (s.1 18 (Int32.toNatClampNeg v2))] d70_24 (List.mem_of_getElem? (i := 38) rfl) rfl ⟨by decide, by decide, Nat.le_of_ble_eq_true rfl, rfl, mcd169⟩ rfl rfl (Nat.le_of_ble_eq_true rfl) (t_f169 e7) ?_
    refine R_p d70_27 rfl rfl ?_
    refine R_get d70_28 (Or.inl (List.mem_of_getElem? (i := 3) rfl)) (hg17 _ _) rfl ?_
    refine R_p d70_31 rfl rfl ?_
    obtain ⟨c8, h⟩ := rdI_some h
    refine R_ild d70_32 (hg18 _ _) c8 ?_
    rcases ite_some h with ⟨c9, h⟩ | ⟨c9, h⟩
    · refine R_br 112 d70_33 (mb_t (b := ((s.1 18 (Int32.toNatClampNeg v3)) < q6)) c9) rfl ?_
      refine R_ic (v := 0) d70_112 (by decide) ?_
      cases h
      exact R_iret d70_113 rfl rfl rfl
    · refine R_nb d70_33 rfl (mb_f (b := ((s.1 18 (Int32.toNatClampNeg v3)) < q6)) c9) ?_
      refine R_p d70_36 rfl rfl ?_
      refine R_get d70_37 (Or.inl (List.mem_of_getElem? (i := 3) rfl)) (hg17 _ _) rfl ?_
      refine R_p d70_40 rfl rfl ?_
      obtain ⟨c10, h⟩ := rdI_some h
      refine R_ild d70_41 (hg18 _ _) c10 ?_
      refine R_p d70_42 rfl rfl ?_
      refine R_get d70_43 (Or.inl (List.mem_of_getElem? (i := 3) rfl)) (hg17 _ _) rfl ?_
      refine R_p d70_46 rfl rfl ?_
      obtain ⟨c11, h⟩ := rdI_some h
      refine R_ild d70_47 (hg18 _ _) c11 ?_
      refine R_p d70_48 rfl rfl ?_
      refine R_get d70_49 (Or.inl (List.mem_of_getElem? (i := 3) rfl)) (hg17 _ _) rfl ?_
      refine R_p d70_52 rfl rfl ?_
      obtain ⟨c12, h⟩ := rdI_some h
      refine R_ild d70_53 (hg18 _ _) c12 ?_
      obtain ⟨q13, e14, h⟩ := bd_some h
      refine R_cs [.int (s.1 18 (Int32.toNatClampNeg v1)), .int (s.1 18 (Int32.toNatClampNeg v2))] d70_54 (List.mem_of_getElem? (i := 39) rfl) rfl ⟨by decide, by decide, Nat.le_of_ble_eq_true rfl, rfl, mcd170⟩ rfl rfl (Nat.le_of_ble_eq_true rfl) (t_f170 e14) ?_
      rcases ite_some h with ⟨c15, h⟩ | ⟨c15, h⟩
      · refine R_br 112 d70_57 (mb_t (b := (q13 < (s.1 18 (Int32.toNatClampNeg v3)))) c15) rfl ?_
        refine R_ic (v := 0) d70_112 (by decide) ?_
        cases h
        exact R_iret d70_113 rfl rfl rfl
      · refine R_nb d70_57 rfl (mb_f (b := (q13 < (s.1 18 (Int32.toNatClampNeg v3)))) c15) ?_
        refine R_p d70_60 rfl rfl ?_
        refine R_get d70_61 (Or.inl (List.mem_of_getElem? (i := 4) rfl)) (hg17 _ _) rfl ?_
        refine R_p d70_64 rfl rfl ?_
        obtain ⟨c16, h⟩ := rdI_some h
        refine R_ild d70_65 (hg19 _ _) c16 ?_
        refine R_p d70_66 rfl rfl ?_
        refine R_get d70_67 (Or.inl (List.mem_of_getElem? (i := 4) rfl)) (hg17 _ _) rfl ?_
        refine R_p d70_70 rfl rfl ?_
        obtain ⟨c17, h⟩ := rdI_some h
        refine R_ild d70_71 (hg19 _ _) c17 ?_
        obtain ⟨q18, e19, h⟩ := bd_some h
        refine R_cs [.int (s.1 19 (Int32.toNatClampNeg v1)), .int (s.1 19 (Int32.toNatClampNeg v2))] d70_72 (List.mem_of_getElem? (i := 38) rfl) rfl ⟨by decide, by decide, Nat.le_of_ble_eq_true rfl, rfl, mcd169⟩ rfl rfl (Nat.le_of_ble_eq_true rfl) (t_f169 e19) ?_
        refine R_p d70_75 rfl rfl ?_
        refine R_get d70_76 (Or.inl (List.mem_of_getElem? (i := 4) rfl)) (hg17 _ _) rfl ?_
        refine R_p d70_79 rfl rfl ?_
        obtain ⟨c20, h⟩ := rdI_some h
        refine R_ild d70_80 (hg19 _ _) c20 ?_
        rcases ite_some h with ⟨c21, h⟩ | ⟨c21, h⟩
        · refine R_br 112 d70_81 (mb_t (b := ((s.1 19 (Int32.toNatClampNeg v3)) < q18)) c21) rfl ?_
          refine R_ic (v := 0) d70_112 (by decide) ?_
          cases h
          exact R_iret d70_113 rfl rfl rfl
        · refine R_nb d70_81 rfl (mb_f (b := ((s.1 19 (Int32.toNatClampNeg v3)) < q18)) c21) ?_
          refine R_p d70_84 rfl rfl ?_
          refine R_get d70_85 (Or.inl (List.mem_of_getElem? (i := 4) rfl)) (hg17 _ _) rfl ?_
          refine R_p d70_88 rfl rfl ?_
          obtain ⟨c22, h⟩ := rdI_some h
          refine R_ild d70_89 (hg19 _ _) c22 ?_
          refine R_p d70_90 rfl rfl ?_
          refine R_get d70_91 (Or.inl (List.mem_of_getElem? (i := 4) rfl)) (hg17 _ _) rfl ?_
          refine R_p d70_94 rfl rfl ?_
          obtain ⟨c23, h⟩ := rdI_some h
          refine R_ild d70_95 (hg19 _ _) c23 ?_
          refine R_p d70_96 rfl rfl ?_
          refine R_get d70_97 (Or.inl (List.mem_of_getElem? (i := 4) rfl)) (hg17 _ _) rfl ?_
          refine R_p d70_100 rfl rfl ?_
          obtain ⟨c24, h⟩ := rdI_some h
          refine R_ild d70_101 (hg19 _ _) c24 ?_
          obtain ⟨q25, e26, h⟩ := bd_some h
          refine R_cs [.int (s.1 19 (Int32.toNatClampNeg v1)), .int (s.1 19 (Int32.toNatClampNeg v2))] d70_102 (List.mem_of_getElem? (i := 39) rfl) rfl ⟨by decide, by decide, Nat.le_of_ble_eq_true rfl, rfl, mcd170⟩ rfl rfl (Nat.le_of_ble_eq_true rfl) (t_f170 e26) ?_
          rcases ite_some h with ⟨c27, h⟩ | ⟨c27, h⟩
          · refine R_br 112 d70_105 (mb_t (b := (q25 < (s.1 19 (Int32.toNatClampNeg v3)))) c27) rfl ?_
            refine R_ic (v := 0) d70_112 (by decide) ?_
            cases h
            exact R_iret d70_113 rfl rfl rfl
          · refine R_nb d70_105 rfl (mb_f (b := (q25 < (s.1 19 (Int32.toNatClampNeg v3)))) c27) ?_
            refine R_ic (v := 1) d70_108 (by decide) ?_
            refine R_br 113 d70_109 rfl rfl ?_
            cases h
            exact R_iret d70_113 rfl rfl rfl
def f74 (v1 : Int32) (v2 : Int32) (s : mS) : Option (Int32) :=
  rdI 42 v1 (rdI 42 v2 ((if ((s.1 18 (Int32.toNatClampNeg v1)) < (s.1 18 (Int32.toNatClampNeg v2))) then
    some (1 : Int32)
  else
    rdI 42 v1 (rdI 42 v2 ((if (¬ (s.1 18 (Int32.toNatClampNeg v1)) = (s.1 18 (Int32.toNatClampNeg v2))) then
      some (0 : Int32)
    else
      rdI 42 v1 (rdI 42 v2 ((if ((s.1 19 (Int32.toNatClampNeg v2)) ≤ (s.1 19 (Int32.toNatClampNeg v1))) then
        some (0 : Int32)
      else
        some (1 : Int32))))))))))
theorem t_f74 {S : mE} {ex : mHp} {v1 : Int32} {v2 : Int32} {s : mS} {r : Int32} (h : f74 v1 v2 s = some r) : Run S 74 (0, [(0, .ref 17), (1, .int v1), (2, .int v2)], [], hp s ex) (.inl (some (.int r)), hp s ex) := by
  unfold f74 at h
  refine R_p d74_0 rfl rfl ?_
  refine R_get d74_1 (Or.inl (List.mem_of_getElem? (i := 3) rfl)) (hg17 _ _) rfl ?_
  refine R_p d74_4 rfl rfl ?_
  obtain ⟨c1, h⟩ := rdI_some h
  refine R_ild d74_5 (hg18 _ _) c1 ?_
  refine R_p d74_6 rfl rfl ?_
  refine R_get d74_7 (Or.inl (List.mem_of_getElem? (i := 3) rfl)) (hg17 _ _) rfl ?_
  refine R_p d74_10 rfl rfl ?_
  obtain ⟨c2, h⟩ := rdI_some h
  refine R_ild d74_11 (hg18 _ _) c2 ?_
  rcases ite_some h with ⟨c3, h⟩ | ⟨c3, h⟩
  · refine R_br 45 d74_12 (mb_t (b := ((s.1 18 (Int32.toNatClampNeg v1)) < (s.1 18 (Int32.toNatClampNeg v2)))) c3) rfl ?_
    refine R_ic (v := 1) d74_45 (by decide) ?_
    refine R_br 50 d74_46 rfl rfl ?_
    cases h
    exact R_iret d74_50 rfl rfl rfl
  · refine R_nb d74_12 rfl (mb_f (b := ((s.1 18 (Int32.toNatClampNeg v1)) < (s.1 18 (Int32.toNatClampNeg v2)))) c3) ?_
    refine R_p d74_15 rfl rfl ?_
    refine R_get d74_16 (Or.inl (List.mem_of_getElem? (i := 3) rfl)) (hg17 _ _) rfl ?_
    refine R_p d74_19 rfl rfl ?_
    obtain ⟨c4, h⟩ := rdI_some h
    refine R_ild d74_20 (hg18 _ _) c4 ?_
    refine R_p d74_21 rfl rfl ?_
    refine R_get d74_22 (Or.inl (List.mem_of_getElem? (i := 3) rfl)) (hg17 _ _) rfl ?_
    refine R_p d74_25 rfl rfl ?_
    obtain ⟨c5, h⟩ := rdI_some h
    refine R_ild d74_26 (hg18 _ _) c5 ?_
    rcases ite_some h with ⟨c6, h⟩ | ⟨c6, h⟩
    · refine R_br 49 d74_27 (mb_t (b := (¬ (s.1 18 (Int32.toNatClampNeg v1)) = (s.1 18 (Int32.toNatClampNeg v2)))) c6) rfl ?_
      refine R_ic (v := 0) d74_49 (by decide) ?_
      cases h
      exact R_iret d74_50 rfl rfl rfl
    · refine R_nb d74_27 rfl (mb_f (b := (¬ (s.1 18 (Int32.toNatClampNeg v1)) = (s.1 18 (Int32.toNatClampNeg v2)))) c6) ?_
      refine R_p d74_30 rfl rfl ?_
      refine R_get d74_31 (Or.inl (List.mem_of_getElem? (i := 4) rfl)) (hg17 _ _) rfl ?_
      refine R_p d74_34 rfl rfl ?_
      obtain ⟨c7, h⟩ := rdI_some h
      refine R_ild d74_35 (hg19 _ _) c7 ?_
      refine R_p d74_36 rfl rfl ?_
      refine R_get d74_37 (Or.inl (List.mem_of_getElem? (i := 4) rfl)) (hg17 _ _) rfl ?_
      refine R_p d74_40 rfl rfl ?_
      obtain ⟨c8, h⟩ := rdI_some h
      refine R_ild d74_41 (hg19 _ _) c8 ?_
      rcases ite_some h with ⟨c9, h⟩ | ⟨c9, h⟩
      · refine R_br 49 d74_42 (mb_t (b := ((s.1 19 (Int32.toNatClampNeg v2)) ≤ (s.1 19 (Int32.toNatClampNeg v1)))) c9) rfl ?_
        refine R_ic (v := 0) d74_49 (by decide) ?_
        cases h
        exact R_iret d74_50 rfl rfl rfl
      · refine R_nb d74_42 rfl (mb_f (b := ((s.1 19 (Int32.toNatClampNeg v2)) ≤ (s.1 19 (Int32.toNatClampNeg v1)))) c9) ?_
        refine R_ic (v := 1) d74_45 (by decide) ?_
        refine R_br 50 d74_46 rfl rfl ?_
        cases h
        exact R_iret d74_50 rfl rfl rfl
def r69 : Nat → Int32 → Int32 → mS → Option (Int32)
  | 0, _, _, _ => none
  | k + 1, v1, v2, s =>
    (if ((s.2.2.1 0) ≤ v2) then
        some (-1 : Int32)
      else
        rdI 42 v2 (rdI 42 v1 ((if (¬ (s.1 18 (Int32.toNatClampNeg v2)) = (s.1 18 (Int32.toNatClampNeg v1))) then
          r69 k v1 (v2 + Int32.ofInt 1) s
        else
          rdI 42 v2 (rdI 42 v1 ((if (¬ (s.1 19 (Int32.toNatClampNeg v2)) = (s.1 19 (Int32.toNatClampNeg v1))) then
            r69 k v1 (v2 + Int32.ofInt 1) s
          else
            some v2)))))))
theorem s69 {S : mE} {ex : mHp} (k : Nat) : (∀ (v1 : Int32) (v2 : Int32) (s : mS) (r : Int32), r69 k v1 v2 s = some r → Run S 69 (2, [(0, .ref 17), (1, .int v1), (2, .int v2)], [], hp s ex) (.inl (some (.int r)), hp s ex)) := by
  induction k with
  | zero => intro v1 v2 s r h; cases h
  | succ k ih =>
    intro v1 v2 s r h
    rw [r69] at h
    refine R_p d69_2 rfl rfl ?_
    refine R_p d69_3 rfl rfl ?_
    refine R_get d69_4 (Or.inl (List.mem_of_getElem? (i := 6) rfl)) (hg17 _ _) rfl ?_
    rcases ite_some h with ⟨c1, h⟩ | ⟨c1, h⟩
    · refine R_br 48 d69_7 (mb_t (b := ((s.2.2.1 0) ≤ v2)) c1) rfl ?_
      refine R_ic (v := (-1)) d69_48 (by decide) ?_
      cases h
      exact R_iret d69_49 rfl rfl rfl
    · refine R_nb d69_7 rfl (mb_f (b := ((s.2.2.1 0) ≤ v2)) c1) ?_
      refine R_p d69_10 rfl rfl ?_
      refine R_get d69_11 (Or.inl (List.mem_of_getElem? (i := 3) rfl)) (hg17 _ _) rfl ?_
      refine R_p d69_14 rfl rfl ?_
      obtain ⟨c2, h⟩ := rdI_some h
      refine R_ild d69_15 (hg18 _ _) c2 ?_
      refine R_p d69_16 rfl rfl ?_
      refine R_get d69_17 (Or.inl (List.mem_of_getElem? (i := 3) rfl)) (hg17 _ _) rfl ?_
      refine R_p d69_20 rfl rfl ?_
      obtain ⟨c3, h⟩ := rdI_some h
      refine R_ild d69_21 (hg18 _ _) c3 ?_
      rcases ite_some h with ⟨c4, h⟩ | ⟨c4, h⟩
      · refine R_br 42 d69_22 (mb_t (b := (¬ (s.1 18 (Int32.toNatClampNeg v2)) = (s.1 18 (Int32.toNatClampNeg v1)))) c4) rfl ?_
        refine R_p (ls' := [(0, .ref 17), (1, .int v1), (2, .int (v2 + Int32.ofInt 1))]) d69_42 rfl rfl ?_
        refine R_br 2 d69_45 rfl rfl ?_
        exact ih v1 (v2 + Int32.ofInt 1) s _ h
      · refine R_nb d69_22 rfl (mb_f (b := (¬ (s.1 18 (Int32.toNatClampNeg v2)) = (s.1 18 (Int32.toNatClampNeg v1)))) c4) ?_
        refine R_p d69_25 rfl rfl ?_
        refine R_get d69_26 (Or.inl (List.mem_of_getElem? (i := 4) rfl)) (hg17 _ _) rfl ?_
        refine R_p d69_29 rfl rfl ?_
        obtain ⟨c5, h⟩ := rdI_some h
        refine R_ild d69_30 (hg19 _ _) c5 ?_
        refine R_p d69_31 rfl rfl ?_
        refine R_get d69_32 (Or.inl (List.mem_of_getElem? (i := 4) rfl)) (hg17 _ _) rfl ?_
        refine R_p d69_35 rfl rfl ?_
        obtain ⟨c6, h⟩ := rdI_some h
        refine R_ild d69_36 (hg19 _ _) c6 ?_
        rcases ite_some h with ⟨c7, h⟩ | ⟨c7, h⟩
        · refine R_br 42 d69_37 (mb_t (b := (¬ (s.1 19 (Int32.toNatClampNeg v2)) = (s.1 19 (Int32.toNatClampNeg v1)))) c7) rfl ?_
          refine R_p (ls' := [(0, .ref 17), (1, .int v1), (2, .int (v2 + Int32.ofInt 1))]) d69_42 rfl rfl ?_
          refine R_br 2 d69_45 rfl rfl ?_
          exact ih v1 (v2 + Int32.ofInt 1) s _ h
        · refine R_nb d69_37 rfl (mb_f (b := (¬ (s.1 19 (Int32.toNatClampNeg v2)) = (s.1 19 (Int32.toNatClampNeg v1)))) c7) ?_
          refine R_p d69_40 rfl rfl ?_
          cases h
          exact R_iret d69_41 rfl rfl rfl
def f69 (k : Nat) (v1 : Int32) (s : mS) : Option (Int32) :=
  r69 k v1 0 s
theorem t_f69 {S : mE} {ex : mHp} {k : Nat} {v1 : Int32} {s : mS} {r : Int32} (h : f69 k v1 s = some r) : Run S 69 (0, [(0, .ref 17), (1, .int v1)], [], hp s ex) (.inl (some (.int r)), hp s ex) := by
  unfold f69 at h
  refine R_ic (v := 0) d69_0 (by decide) ?_
  refine R_p (ls' := [(0, .ref 17), (1, .int v1), (2, .int 0)]) d69_1 rfl rfl ?_
  exact s69 (S := S) (ex := ex) k v1 0 s _ h
def r77 : Nat → Int32 → Int32 → Int32 → mS → Option (Int32)
  | 0, _, _, _, _ => none
  | k + 1, v1, v2, v3, s =>
    (if ((s.2.2.1 0) ≤ v3) then
        some (0 : Int32)
      else
        (if (v3 = v1) then
          r77 k v1 v2 (v3 + Int32.ofInt 1) s
        else
          (if (v3 = v2) then
            r77 k v1 v2 (v3 + Int32.ofInt 1) s
          else
            (f70 v1 v2 v3 s).bind fun q4 => (if (q4 = (0 : Int32)) then
              r77 k v1 v2 (v3 + Int32.ofInt 1) s
            else
              some (1 : Int32)))))
theorem s77 {S : mE} {ex : mHp} (k : Nat) : (∀ (v1 : Int32) (v2 : Int32) (v3 : Int32) (s : mS) (r : Int32), r77 k v1 v2 v3 s = some r → Run S 77 (2, [(0, .ref 17), (1, .int v1), (2, .int v2), (3, .int v3)], [], hp s ex) (.inl (some (.int r)), hp s ex)) := by
  induction k with
  | zero => intro v1 v2 v3 s r h; cases h
  | succ k ih =>
    intro v1 v2 v3 s r h
    rw [r77] at h
    refine R_p d77_2 rfl rfl ?_
    refine R_p d77_3 rfl rfl ?_
    refine R_get d77_4 (Or.inl (List.mem_of_getElem? (i := 6) rfl)) (hg17 _ _) rfl ?_
    rcases ite_some h with ⟨c1, h⟩ | ⟨c1, h⟩
    · refine R_br 38 d77_7 (mb_t (b := ((s.2.2.1 0) ≤ v3)) c1) rfl ?_
      refine R_ic (v := 0) d77_38 (by decide) ?_
      cases h
      exact R_iret d77_39 rfl rfl rfl
    · refine R_nb d77_7 rfl (mb_f (b := ((s.2.2.1 0) ≤ v3)) c1) ?_
      refine R_p d77_10 rfl rfl ?_
      refine R_p d77_11 rfl rfl ?_
      rcases ite_some h with ⟨c2, h⟩ | ⟨c2, h⟩
      · refine R_br 32 d77_12 (mb_t (b := (v3 = v1)) c2) rfl ?_
        refine R_p (ls' := [(0, .ref 17), (1, .int v1), (2, .int v2), (3, .int (v3 + Int32.ofInt 1))]) d77_32 rfl rfl ?_
        refine R_br 2 d77_35 rfl rfl ?_
        exact ih v1 v2 (v3 + Int32.ofInt 1) s _ h
      · refine R_nb d77_12 rfl (mb_f (b := (v3 = v1)) c2) ?_
        refine R_p d77_15 rfl rfl ?_
        refine R_p d77_16 rfl rfl ?_
        rcases ite_some h with ⟨c3, h⟩ | ⟨c3, h⟩
        · refine R_br 32 d77_17 (mb_t (b := (v3 = v2)) c3) rfl ?_
          refine R_p (ls' := [(0, .ref 17), (1, .int v1), (2, .int v2), (3, .int (v3 + Int32.ofInt 1))]) d77_32 rfl rfl ?_
          refine R_br 2 d77_35 rfl rfl ?_
          exact ih v1 v2 (v3 + Int32.ofInt 1) s _ h
        · refine R_nb d77_17 rfl (mb_f (b := (v3 = v2)) c3) ?_
          refine R_p d77_20 rfl rfl ?_
          refine R_p d77_21 rfl rfl ?_
          refine R_p d77_22 rfl rfl ?_
          refine R_p d77_23 rfl rfl ?_
          obtain ⟨q4, e5, h⟩ := bd_some h
          refine R_cm [.int v1, .int v2, .int v3] d77_24 (List.mem_of_getElem? (i := 89) rfl) rfl ⟨by decide, by decide, Nat.le_of_ble_eq_true rfl, rfl, mcd70⟩ rfl rfl (Nat.le_of_ble_eq_true rfl) (hg17 _ _) rfl (t_f70 e5) ?_
          rcases ite_some h with ⟨c6, h⟩ | ⟨c6, h⟩
          · refine R_br 32 d77_27 (mb_t (b := (q4 = (0 : Int32))) c6) rfl ?_
            refine R_p (ls' := [(0, .ref 17), (1, .int v1), (2, .int v2), (3, .int (v3 + Int32.ofInt 1))]) d77_32 rfl rfl ?_
            refine R_br 2 d77_35 rfl rfl ?_
            exact ih v1 v2 (v3 + Int32.ofInt 1) s _ h
          · refine R_nb d77_27 rfl (mb_f (b := (q4 = (0 : Int32))) c6) ?_
            refine R_ic (v := 1) d77_30 (by decide) ?_
            cases h
            exact R_iret d77_31 rfl rfl rfl
def f77 (k : Nat) (v1 : Int32) (v2 : Int32) (s : mS) : Option (Int32) :=
  r77 k v1 v2 0 s
theorem t_f77 {S : mE} {ex : mHp} {k : Nat} {v1 : Int32} {v2 : Int32} {s : mS} {r : Int32} (h : f77 k v1 v2 s = some r) : Run S 77 (0, [(0, .ref 17), (1, .int v1), (2, .int v2)], [], hp s ex) (.inl (some (.int r)), hp s ex) := by
  unfold f77 at h
  refine R_ic (v := 0) d77_0 (by decide) ?_
  refine R_p (ls' := [(0, .ref 17), (1, .int v1), (2, .int v2), (3, .int 0)]) d77_1 rfl rfl ?_
  exact s77 (S := S) (ex := ex) k v1 v2 0 s _ h
def f39 (v1 : Int32) (v2 : Int32) (s : mS) : Option (Int32) :=
  rdI 40 v1 ((if ((((s.2.1 22 (Int32.toNatClampNeg v1)) >>> (Int32.toInt64 v2 &&& 63)) &&& (1 : Int64)) = (0 : Int64)) then
    some (0 : Int32)
  else
    some (1 : Int32)))
theorem t_f39 {S : mE} {ex : mHp} {v1 : Int32} {v2 : Int32} {s : mS} {r : Int32} (h : f39 v1 v2 s = some r) : Run S 39 (0, [(0, .ref 21), (1, .int v1), (2, .int v2)], [], hp s ex) (.inl (some (.int r)), hp s ex) := by
  unfold f39 at h
  refine R_p d39_0 rfl rfl ?_
  refine R_get d39_1 (Or.inl (List.mem_of_getElem? (i := 8) rfl)) (hg21 _ _) rfl ?_
  refine R_p d39_4 rfl rfl ?_
  obtain ⟨c1, h⟩ := rdI_some h
  refine R_lld d39_5 (hg22 _ _) c1 ?_
  refine R_p d39_6 rfl rfl ?_
  refine R_p d39_7 rfl rfl ?_
  refine R_lc (v := 1) d39_8 (by decide) ?_
  refine R_p d39_9 rfl rfl ?_
  refine R_lc (v := 0) d39_10 (by decide) ?_
  refine R_p d39_11 rfl rfl ?_
  rcases ite_some h with ⟨c2, h⟩ | ⟨c2, h⟩
  · refine R_br 19 d39_12 (mb_t (b := ((lg_cmp (((s.2.1 22 (Int32.toNatClampNeg v1)) >>> (Int32.toInt64 v2 &&& 63)) &&& (1 : Int64)) 0) = (0 : Int32))) (lgc_eq.mpr c2)) rfl ?_
    refine R_ic (v := 0) d39_19 (by decide) ?_
    cases h
    exact R_iret d39_20 rfl rfl rfl
  · refine R_nb d39_12 rfl (mb_f (b := ((lg_cmp (((s.2.1 22 (Int32.toNatClampNeg v1)) >>> (Int32.toInt64 v2 &&& 63)) &&& (1 : Int64)) 0) = (0 : Int32))) (fun q => c2 (lgc_eq.mp q))) ?_
    refine R_ic (v := 1) d39_15 (by decide) ?_
    refine R_br 20 d39_16 rfl rfl ?_
    cases h
    exact R_iret d39_20 rfl rfl rfl
def f41 (v1 : Int32) (v2 : Int32) (v3 : Int32) (v4 : Int32) (s : mS) : Option (Int32) :=
  (f73 v1 v2 v3 s).bind fun q1 => (f73 v1 v2 v4 s).bind fun q3 => (if ((0 : Int32) ≤ (q1 * q3)) then
    some (0 : Int32)
  else
    (f73 v3 v4 v1 s).bind fun q6 => (f73 v3 v4 v2 s).bind fun q8 => (if ((0 : Int32) ≤ (q6 * q8)) then
      some (0 : Int32)
    else
      some (1 : Int32)))
theorem t_f41 {S : mE} {ex : mHp} {v1 : Int32} {v2 : Int32} {v3 : Int32} {v4 : Int32} {s : mS} {r : Int32} (h : f41 v1 v2 v3 v4 s = some r) : Run S 41 (0, [(0, .ref 21), (1, .int v1), (2, .int v2), (3, .int v3), (4, .int v4)], [], hp s ex) (.inl (some (.int r)), hp s ex) := by
  unfold f41 at h
  refine R_p d41_0 rfl rfl ?_
  refine R_get d41_1 (Or.inl (List.mem_of_getElem? (i := 7) rfl)) (hg21 _ _) rfl ?_
  refine R_p d41_4 rfl rfl ?_
  refine R_p d41_5 rfl rfl ?_
  refine R_p d41_6 rfl rfl ?_
  obtain ⟨q1, e2, h⟩ := bd_some h
  refine R_cm [.int v1, .int v2, .int v3] d41_7 (List.mem_of_getElem? (i := 92) rfl) rfl ⟨by decide, by decide, Nat.le_of_ble_eq_true rfl, rfl, mcd73⟩ rfl rfl (Nat.le_of_ble_eq_true rfl) (hg17 _ _) rfl (t_f73 e2) ?_
  refine R_p d41_10 rfl rfl ?_
  refine R_get d41_11 (Or.inl (List.mem_of_getElem? (i := 7) rfl)) (hg21 _ _) rfl ?_
  refine R_p d41_14 rfl rfl ?_
  refine R_p d41_15 rfl rfl ?_
  refine R_p d41_16 rfl rfl ?_
  obtain ⟨q3, e4, h⟩ := bd_some h
  refine R_cm [.int v1, .int v2, .int v4] d41_18 (List.mem_of_getElem? (i := 92) rfl) rfl ⟨by decide, by decide, Nat.le_of_ble_eq_true rfl, rfl, mcd73⟩ rfl rfl (Nat.le_of_ble_eq_true rfl) (hg17 _ _) rfl (t_f73 e4) ?_
  refine R_p d41_21 rfl rfl ?_
  rcases ite_some h with ⟨c5, h⟩ | ⟨c5, h⟩
  · refine R_br 55 d41_22 (mb_t (b := ((0 : Int32) ≤ (q1 * q3))) c5) rfl ?_
    refine R_ic (v := 0) d41_55 (by decide) ?_
    cases h
    exact R_iret d41_56 rfl rfl rfl
  · refine R_nb d41_22 rfl (mb_f (b := ((0 : Int32) ≤ (q1 * q3))) c5) ?_
    refine R_p d41_25 rfl rfl ?_
    refine R_get d41_26 (Or.inl (List.mem_of_getElem? (i := 7) rfl)) (hg21 _ _) rfl ?_
    refine R_p d41_29 rfl rfl ?_
    refine R_p d41_30 rfl rfl ?_
    refine R_p d41_32 rfl rfl ?_
    obtain ⟨q6, e7, h⟩ := bd_some h
    refine R_cm [.int v3, .int v4, .int v1] d41_33 (List.mem_of_getElem? (i := 92) rfl) rfl ⟨by decide, by decide, Nat.le_of_ble_eq_true rfl, rfl, mcd73⟩ rfl rfl (Nat.le_of_ble_eq_true rfl) (hg17 _ _) rfl (t_f73 e7) ?_
    refine R_p d41_36 rfl rfl ?_
    refine R_get d41_37 (Or.inl (List.mem_of_getElem? (i := 7) rfl)) (hg21 _ _) rfl ?_
    refine R_p d41_40 rfl rfl ?_
    refine R_p d41_41 rfl rfl ?_
    refine R_p d41_43 rfl rfl ?_
    obtain ⟨q8, e9, h⟩ := bd_some h
    refine R_cm [.int v3, .int v4, .int v2] d41_44 (List.mem_of_getElem? (i := 92) rfl) rfl ⟨by decide, by decide, Nat.le_of_ble_eq_true rfl, rfl, mcd73⟩ rfl rfl (Nat.le_of_ble_eq_true rfl) (hg17 _ _) rfl (t_f73 e9) ?_
    refine R_p d41_47 rfl rfl ?_
    rcases ite_some h with ⟨c10, h⟩ | ⟨c10, h⟩
    · refine R_br 55 d41_48 (mb_t (b := ((0 : Int32) ≤ (q6 * q8))) c10) rfl ?_
      refine R_ic (v := 0) d41_55 (by decide) ?_
      cases h
      exact R_iret d41_56 rfl rfl rfl
    · refine R_nb d41_48 rfl (mb_f (b := ((0 : Int32) ≤ (q6 * q8))) c10) ?_
      refine R_ic (v := 1) d41_51 (by decide) ?_
      refine R_br 56 d41_52 rfl rfl ?_
      cases h
      exact R_iret d41_56 rfl rfl rfl
def f66  (s : mS) : Option (Int32) :=
  some (s.2.2.1 0)
theorem t_f66 {S : mE} {ex : mHp}  {s : mS} {r : Int32} (h : f66 s = some r) : Run S 66 (0, [(0, .ref 17)], [], hp s ex) (.inl (some (.int r)), hp s ex) := by
  unfold f66 at h
  refine R_p d66_0 rfl rfl ?_
  refine R_get d66_1 (Or.inl (List.mem_of_getElem? (i := 6) rfl)) (hg17 _ _) rfl ?_
  cases h
  exact R_iret d66_4 rfl rfl rfl
def r40 : Nat → Nat → Int32 → Int32 → Int32 → Int32 → mS → Option (Int32)
  | 0, _, _, _, _, _, _ => none
  | k + 1, hd, v1, v2, v3, v4, s =>
    if hd = 0 then (f66 s).bind fun q1 => (if (q1 ≤ v3) then
        some (0 : Int32)
      else
        r40 k 1 v1 v2 v3 (v3 + (1 : Int32)) s) else
    (f66 s).bind fun q1 => (if (q1 ≤ v4) then
        r40 k 0 v1 v2 (v3 + Int32.ofInt 1) 0 s
      else
        (f39 v3 v4 s).bind fun q4 => (if (q4 = (0 : Int32)) then
          r40 k 1 v1 v2 v3 (v4 + Int32.ofInt 1) s
        else
          (f41 v1 v2 v3 v4 s).bind fun q7 => (if (q7 = (0 : Int32)) then
            r40 k 1 v1 v2 v3 (v4 + Int32.ofInt 1) s
          else
            some (1 : Int32))))
theorem s40 {S : mE} {ex : mHp} (k : Nat) : (∀ (v1 : Int32) (v2 : Int32) (v3 : Int32) (v4 : Int32) (s : mS) (r : Int32), r40 k 0 v1 v2 v3 v4 s = some r → Run S 40 (2, [(0, .ref 21), (1, .int v1), (2, .int v2), (3, .int v3)], [], hp s ex) (.inl (some (.int r)), hp s ex)) ∧ (∀ (v1 : Int32) (v2 : Int32) (v3 : Int32) (v4 : Int32) (s : mS) (r : Int32), r40 k 1 v1 v2 v3 v4 s = some r → Run S 40 (18, [(0, .ref 21), (1, .int v1), (2, .int v2), (3, .int v3), (4, .int v4)], [], hp s ex) (.inl (some (.int r)), hp s ex)) := by
  induction k with
  | zero => refine ⟨?_, ?_⟩ <;> (intro v1 v2 v3 v4 s r h; cases h)
  | succ k ih =>
    refine ⟨?_, ?_⟩
    · intro v1 v2 v3 v4 s r h
      rw [r40, if_pos rfl] at h
      refine R_p d40_2 rfl rfl ?_
      refine R_p d40_3 rfl rfl ?_
      refine R_get d40_4 (Or.inl (List.mem_of_getElem? (i := 7) rfl)) (hg21 _ _) rfl ?_
      obtain ⟨q1, e2, h⟩ := bd_some h
      refine R_cm [] d40_7 (List.mem_of_getElem? (i := 34) rfl) rfl ⟨by decide, by decide, Nat.le_of_ble_eq_true rfl, rfl, mcd66⟩ rfl rfl (Nat.le_of_ble_eq_true rfl) (hg17 _ _) rfl (t_f66 e2) ?_
      rcases ite_some h with ⟨c3, h⟩ | ⟨c3, h⟩
      · refine R_br 66 d40_10 (mb_t (b := (q1 ≤ v3)) c3) rfl ?_
        refine R_ic (v := 0) d40_66 (by decide) ?_
        cases h
        exact R_iret d40_67 rfl rfl rfl
      · refine R_nb d40_10 rfl (mb_f (b := (q1 ≤ v3)) c3) ?_
        refine R_p d40_13 rfl rfl ?_
        refine R_ic (v := 1) d40_14 (by decide) ?_
        refine R_p d40_15 rfl rfl ?_
        refine R_p (ls' := [(0, .ref 21), (1, .int v1), (2, .int v2), (3, .int v3), (4, .int (v3 + (1 : Int32)))]) d40_16 rfl rfl ?_
        exact ih.2 v1 v2 v3 (v3 + (1 : Int32)) s _ h
    · intro v1 v2 v3 v4 s r h
      rw [r40, if_neg (by decide)] at h
      refine R_p d40_18 rfl rfl ?_
      refine R_p d40_20 rfl rfl ?_
      refine R_get d40_21 (Or.inl (List.mem_of_getElem? (i := 7) rfl)) (hg21 _ _) rfl ?_
      obtain ⟨q1, e2, h⟩ := bd_some h
      refine R_cm [] d40_24 (List.mem_of_getElem? (i := 34) rfl) rfl ⟨by decide, by decide, Nat.le_of_ble_eq_true rfl, rfl, mcd66⟩ rfl rfl (Nat.le_of_ble_eq_true rfl) (hg17 _ _) rfl (t_f66 e2) ?_
      rcases ite_some h with ⟨c3, h⟩ | ⟨c3, h⟩
      · refine R_br 60 d40_27 (mb_t (b := (q1 ≤ v4)) c3) rfl ?_
        refine R_p (ls' := [(0, .ref 21), (1, .int v1), (2, .int v2), (3, .int (v3 + Int32.ofInt 1)), (4, .int v4)]) d40_60 rfl rfl ?_
        refine R_br 2 d40_63 rfl rfl ?_
        exact R_wk [(0, .ref 21), (1, .int v1), (2, .int v2), (3, .int (v3 + Int32.ofInt 1))] (by simp) (ih.1 v1 v2 (v3 + Int32.ofInt 1) 0 s _ h)
      · refine R_nb d40_27 rfl (mb_f (b := (q1 ≤ v4)) c3) ?_
        refine R_p d40_30 rfl rfl ?_
        refine R_p d40_31 rfl rfl ?_
        refine R_p d40_32 rfl rfl ?_
        obtain ⟨q4, e5, h⟩ := bd_some h
        refine R_cm [.int v3, .int v4] d40_34 (List.mem_of_getElem? (i := 35) rfl) rfl ⟨by decide, by decide, Nat.le_of_ble_eq_true rfl, rfl, mcd39⟩ rfl rfl (Nat.le_of_ble_eq_true rfl) (hg21 _ _) rfl (t_f39 e5) ?_
        rcases ite_some h with ⟨c6, h⟩ | ⟨c6, h⟩
        · refine R_br 54 d40_37 (mb_t (b := (q4 = (0 : Int32))) c6) rfl ?_
          refine R_p (ls' := [(0, .ref 21), (1, .int v1), (2, .int v2), (3, .int v3), (4, .int (v4 + Int32.ofInt 1))]) d40_54 rfl rfl ?_
          refine R_br 18 d40_57 rfl rfl ?_
          exact ih.2 v1 v2 v3 (v4 + Int32.ofInt 1) s _ h
        · refine R_nb d40_37 rfl (mb_f (b := (q4 = (0 : Int32))) c6) ?_
          refine R_p d40_40 rfl rfl ?_
          refine R_p d40_41 rfl rfl ?_
          refine R_p d40_42 rfl rfl ?_
          refine R_p d40_43 rfl rfl ?_
          refine R_p d40_44 rfl rfl ?_
          obtain ⟨q7, e8, h⟩ := bd_some h
          refine R_cm [.int v1, .int v2, .int v3, .int v4] d40_46 (List.mem_of_getElem? (i := 91) rfl) rfl ⟨by decide, by decide, Nat.le_of_ble_eq_true rfl, rfl, mcd41⟩ rfl rfl (Nat.le_of_ble_eq_true rfl) (hg21 _ _) rfl (t_f41 e8) ?_
          rcases ite_some h with ⟨c9, h⟩ | ⟨c9, h⟩
          · refine R_br 54 d40_49 (mb_t (b := (q7 = (0 : Int32))) c9) rfl ?_
            refine R_p (ls' := [(0, .ref 21), (1, .int v1), (2, .int v2), (3, .int v3), (4, .int (v4 + Int32.ofInt 1))]) d40_54 rfl rfl ?_
            refine R_br 18 d40_57 rfl rfl ?_
            exact ih.2 v1 v2 v3 (v4 + Int32.ofInt 1) s _ h
          · refine R_nb d40_49 rfl (mb_f (b := (q7 = (0 : Int32))) c9) ?_
            refine R_ic (v := 1) d40_52 (by decide) ?_
            cases h
            exact R_iret d40_53 rfl rfl rfl
def f40 (k : Nat) (v1 : Int32) (v2 : Int32) (s : mS) : Option (Int32) :=
  r40 k 0 v1 v2 0 0 s
theorem t_f40 {S : mE} {ex : mHp} {k : Nat} {v1 : Int32} {v2 : Int32} {s : mS} {r : Int32} (h : f40 k v1 v2 s = some r) : Run S 40 (0, [(0, .ref 21), (1, .int v1), (2, .int v2)], [], hp s ex) (.inl (some (.int r)), hp s ex) := by
  unfold f40 at h
  refine R_ic (v := 0) d40_0 (by decide) ?_
  refine R_p (ls' := [(0, .ref 21), (1, .int v1), (2, .int v2), (3, .int 0)]) d40_1 rfl rfl ?_
  exact (s40 (S := S) (ex := ex) k).1 v1 v2 0 0 s _ h
def r38 : Nat → Nat → Int32 → Int32 → Int32 → mS → Option (Int32)
  | 0, _, _, _, _, _ => none
  | k + 1, hd, v1, v2, v3, s =>
    if hd = 0 then (f66 s).bind fun q1 => (if (q1 ≤ v2) then
        some (0 : Int32)
      else
        r38 k 1 v1 v2 (v2 + (1 : Int32)) s) else
    (f66 s).bind fun q1 => (if (q1 ≤ v3) then
        r38 k 0 v1 (v2 + Int32.ofInt 1) 0 s
      else
        (f39 v2 v3 s).bind fun q4 => (if (q4 = (0 : Int32)) then
          r38 k 1 v1 v2 (v3 + Int32.ofInt 1) s
        else
          (f70 v2 v3 v1 s).bind fun q7 => (if (q7 = (0 : Int32)) then
            r38 k 1 v1 v2 (v3 + Int32.ofInt 1) s
          else
            some (1 : Int32))))
theorem s38 {S : mE} {ex : mHp} (k : Nat) : (∀ (v1 : Int32) (v2 : Int32) (v3 : Int32) (s : mS) (r : Int32), r38 k 0 v1 v2 v3 s = some r → Run S 38 (2, [(0, .ref 21), (1, .int v1), (2, .int v2)], [], hp s ex) (.inl (some (.int r)), hp s ex)) ∧ (∀ (v1 : Int32) (v2 : Int32) (v3 : Int32) (s : mS) (r : Int32), r38 k 1 v1 v2 v3 s = some r → Run S 38 (17, [(0, .ref 21), (1, .int v1), (2, .int v2), (3, .int v3)], [], hp s ex) (.inl (some (.int r)), hp s ex)) := by
  induction k with
  | zero => refine ⟨?_, ?_⟩ <;> (intro v1 v2 v3 s r h; cases h)
  | succ k ih =>
    refine ⟨?_, ?_⟩
    · intro v1 v2 v3 s r h
      rw [r38, if_pos rfl] at h
      refine R_p d38_2 rfl rfl ?_
      refine R_p d38_3 rfl rfl ?_
      refine R_get d38_4 (Or.inl (List.mem_of_getElem? (i := 7) rfl)) (hg21 _ _) rfl ?_
      obtain ⟨q1, e2, h⟩ := bd_some h
      refine R_cm [] d38_7 (List.mem_of_getElem? (i := 34) rfl) rfl ⟨by decide, by decide, Nat.le_of_ble_eq_true rfl, rfl, mcd66⟩ rfl rfl (Nat.le_of_ble_eq_true rfl) (hg17 _ _) rfl (t_f66 e2) ?_
      rcases ite_some h with ⟨c3, h⟩ | ⟨c3, h⟩
      · refine R_br 64 d38_10 (mb_t (b := (q1 ≤ v2)) c3) rfl ?_
        refine R_ic (v := 0) d38_64 (by decide) ?_
        cases h
        exact R_iret d38_65 rfl rfl rfl
      · refine R_nb d38_10 rfl (mb_f (b := (q1 ≤ v2)) c3) ?_
        refine R_p d38_13 rfl rfl ?_
        refine R_ic (v := 1) d38_14 (by decide) ?_
        refine R_p d38_15 rfl rfl ?_
        refine R_p (ls' := [(0, .ref 21), (1, .int v1), (2, .int v2), (3, .int (v2 + (1 : Int32)))]) d38_16 rfl rfl ?_
        exact ih.2 v1 v2 (v2 + (1 : Int32)) s _ h
    · intro v1 v2 v3 s r h
      rw [r38, if_neg (by decide)] at h
      refine R_p d38_17 rfl rfl ?_
      refine R_p d38_18 rfl rfl ?_
      refine R_get d38_19 (Or.inl (List.mem_of_getElem? (i := 7) rfl)) (hg21 _ _) rfl ?_
      obtain ⟨q1, e2, h⟩ := bd_some h
      refine R_cm [] d38_22 (List.mem_of_getElem? (i := 34) rfl) rfl ⟨by decide, by decide, Nat.le_of_ble_eq_true rfl, rfl, mcd66⟩ rfl rfl (Nat.le_of_ble_eq_true rfl) (hg17 _ _) rfl (t_f66 e2) ?_
      rcases ite_some h with ⟨c3, h⟩ | ⟨c3, h⟩
      · refine R_br 58 d38_25 (mb_t (b := (q1 ≤ v3)) c3) rfl ?_
        refine R_p (ls' := [(0, .ref 21), (1, .int v1), (2, .int (v2 + Int32.ofInt 1)), (3, .int v3)]) d38_58 rfl rfl ?_
        refine R_br 2 d38_61 rfl rfl ?_
        exact R_wk [(0, .ref 21), (1, .int v1), (2, .int (v2 + Int32.ofInt 1))] (by simp) (ih.1 v1 (v2 + Int32.ofInt 1) 0 s _ h)
      · refine R_nb d38_25 rfl (mb_f (b := (q1 ≤ v3)) c3) ?_
        refine R_p d38_28 rfl rfl ?_
        refine R_p d38_29 rfl rfl ?_
        refine R_p d38_30 rfl rfl ?_
        obtain ⟨q4, e5, h⟩ := bd_some h
        refine R_cm [.int v2, .int v3] d38_31 (List.mem_of_getElem? (i := 35) rfl) rfl ⟨by decide, by decide, Nat.le_of_ble_eq_true rfl, rfl, mcd39⟩ rfl rfl (Nat.le_of_ble_eq_true rfl) (hg21 _ _) rfl (t_f39 e5) ?_
        rcases ite_some h with ⟨c6, h⟩ | ⟨c6, h⟩
        · refine R_br 52 d38_34 (mb_t (b := (q4 = (0 : Int32))) c6) rfl ?_
          refine R_p (ls' := [(0, .ref 21), (1, .int v1), (2, .int v2), (3, .int (v3 + Int32.ofInt 1))]) d38_52 rfl rfl ?_
          refine R_br 17 d38_55 rfl rfl ?_
          exact ih.2 v1 v2 (v3 + Int32.ofInt 1) s _ h
        · refine R_nb d38_34 rfl (mb_f (b := (q4 = (0 : Int32))) c6) ?_
          refine R_p d38_37 rfl rfl ?_
          refine R_get d38_38 (Or.inl (List.mem_of_getElem? (i := 7) rfl)) (hg21 _ _) rfl ?_
          refine R_p d38_41 rfl rfl ?_
          refine R_p d38_42 rfl rfl ?_
          refine R_p d38_43 rfl rfl ?_
          obtain ⟨q7, e8, h⟩ := bd_some h
          refine R_cm [.int v2, .int v3, .int v1] d38_44 (List.mem_of_getElem? (i := 36) rfl) rfl ⟨by decide, by decide, Nat.le_of_ble_eq_true rfl, rfl, mcd70⟩ rfl rfl (Nat.le_of_ble_eq_true rfl) (hg17 _ _) rfl (t_f70 e8) ?_
          rcases ite_some h with ⟨c9, h⟩ | ⟨c9, h⟩
          · refine R_br 52 d38_47 (mb_t (b := (q7 = (0 : Int32))) c9) rfl ?_
            refine R_p (ls' := [(0, .ref 21), (1, .int v1), (2, .int v2), (3, .int (v3 + Int32.ofInt 1))]) d38_52 rfl rfl ?_
            refine R_br 17 d38_55 rfl rfl ?_
            exact ih.2 v1 v2 (v3 + Int32.ofInt 1) s _ h
          · refine R_nb d38_47 rfl (mb_f (b := (q7 = (0 : Int32))) c9) ?_
            refine R_ic (v := 1) d38_50 (by decide) ?_
            cases h
            exact R_iret d38_51 rfl rfl rfl
def f38 (k : Nat) (v1 : Int32) (s : mS) : Option (Int32) :=
  r38 k 0 v1 0 0 s
theorem t_f38 {S : mE} {ex : mHp} {k : Nat} {v1 : Int32} {s : mS} {r : Int32} (h : f38 k v1 s = some r) : Run S 38 (0, [(0, .ref 21), (1, .int v1)], [], hp s ex) (.inl (some (.int r)), hp s ex) := by
  unfold f38 at h
  refine R_ic (v := 0) d38_0 (by decide) ?_
  refine R_p (ls' := [(0, .ref 21), (1, .int v1), (2, .int 0)]) d38_1 rfl rfl ?_
  exact (s38 (S := S) (ex := ex) k).1 v1 0 0 s _ h
