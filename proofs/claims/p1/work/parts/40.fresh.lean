/-! one call on a fresh object, by program (wip/gen/c17.py): every path of every case -/
theorem d10_0 : decode (mCode 10) 0 = .ok (.iload_n 1, 1) := by decide +kernel
theorem d10_1 : decode (mCode 10) 1 = .ok (.ifCond .lt 11, 3) := by decide +kernel
theorem d10_4 : decode (mCode 10) 4 = .ok (.iload_n 1, 1) := by decide +kernel
theorem d10_5 : decode (mCode 10) 5 = .ok (.aload_n 0, 1) := by decide +kernel
theorem d10_6 : decode (mCode 10) 6 = .ok (.getfield 31, 3) := by decide +kernel
theorem d10_9 : decode (mCode 10) 9 = .ok (.if_icmp .lt 7, 3) := by decide +kernel
theorem d10_12 : decode (mCode 10) 12 = .ok (.iconst (-1), 1) := by decide +kernel
theorem d10_13 : decode (mCode 10) 13 = .ok (.goto 9, 3) := by decide +kernel
theorem d10_22 : decode (mCode 10) 22 = .ok (.ireturn, 1) := by decide +kernel
theorem d20_0 : decode (mCode 20) 0 = .ok (.aload_n 0, 1) := by decide +kernel
theorem d20_1 : decode (mCode 20) 1 = .ok (.getfield 22, 3) := by decide +kernel
theorem d20_4 : decode (mCode 20) 4 = .ok (.invokevirtual 26, 3) := by decide +kernel
theorem d20_7 : decode (mCode 20) 7 = .ok (.ifCond .ne 11, 3) := by decide +kernel
theorem d20_10 : decode (mCode 20) 10 = .ok (.aload_n 0, 1) := by decide +kernel
theorem d20_11 : decode (mCode 20) 11 = .ok (.iload_n 1, 1) := by decide +kernel
theorem d20_12 : decode (mCode 20) 12 = .ok (.invokevirtual 32, 3) := by decide +kernel
theorem d20_15 : decode (mCode 20) 15 = .ok (.goto 31, 3) := by decide +kernel
theorem d20_46 : decode (mCode 20) 46 = .ok (.aload_n 0, 1) := by decide +kernel
theorem d20_47 : decode (mCode 20) 47 = .ok (.getfield 22, 3) := by decide +kernel
theorem d20_50 : decode (mCode 20) 50 = .ok (.invokevirtual 47, 3) := by decide +kernel
theorem d20_53 : decode (mCode 20) 53 = .ok (.return_, 1) := by decide +kernel
theorem d21_0 : decode (mCode 21) 0 = .ok (.iload_n 1, 1) := by decide +kernel
theorem d21_1 : decode (mCode 21) 1 = .ok (.iconst 2, 1) := by decide +kernel
theorem d21_2 : decode (mCode 21) 2 = .ok (.if_icmp .lt 16, 3) := by decide +kernel
theorem d21_18 : decode (mCode 21) 18 = .ok (.return_, 1) := by decide +kernel
theorem d36_0 : decode (mCode 36) 0 = .ok (.aload_n 0, 1) := by decide +kernel
theorem d36_1 : decode (mCode 36) 1 = .ok (.getfield 9, 3) := by decide +kernel
theorem d36_4 : decode (mCode 36) 4 = .ok (.lconst 0, 1) := by decide +kernel
theorem d36_5 : decode (mCode 36) 5 = .ok (.invokestatic 25, 3) := by decide +kernel
theorem d36_8 : decode (mCode 36) 8 = .ok (.aload_n 0, 1) := by decide +kernel
theorem d36_9 : decode (mCode 36) 9 = .ok (.iconst 0, 1) := by decide +kernel
theorem d36_10 : decode (mCode 36) 10 = .ok (.putfield 19, 3) := by decide +kernel
theorem d36_13 : decode (mCode 36) 13 = .ok (.return_, 1) := by decide +kernel
theorem d37_0 : decode (mCode 37) 0 = .ok (.aload_n 0, 1) := by decide +kernel
theorem d37_1 : decode (mCode 37) 1 = .ok (.getfield 19, 3) := by decide +kernel
theorem d37_4 : decode (mCode 37) 4 = .ok (.ireturn, 1) := by decide +kernel
theorem d38_0 : decode (mCode 38) 0 = .ok (.iconst 0, 1) := by decide +kernel
theorem d38_1 : decode (mCode 38) 1 = .ok (.istore_n 2, 1) := by decide +kernel
theorem d38_2 : decode (mCode 38) 2 = .ok (.iload_n 2, 1) := by decide +kernel
theorem d38_3 : decode (mCode 38) 3 = .ok (.aload_n 0, 1) := by decide +kernel
theorem d38_4 : decode (mCode 38) 4 = .ok (.getfield 15, 3) := by decide +kernel
theorem d38_7 : decode (mCode 38) 7 = .ok (.invokevirtual 31, 3) := by decide +kernel
theorem d38_10 : decode (mCode 38) 10 = .ok (.if_icmp .ge 54, 3) := by decide +kernel
theorem d38_64 : decode (mCode 38) 64 = .ok (.iconst 0, 1) := by decide +kernel
theorem d38_65 : decode (mCode 38) 65 = .ok (.ireturn, 1) := by decide +kernel
theorem d45_0 : decode (mCode 45) 0 = .ok (.aload_n 0, 1) := by decide +kernel
theorem d45_1 : decode (mCode 45) 1 = .ok (.getfield 9, 3) := by decide +kernel
theorem d45_4 : decode (mCode 45) 4 = .ok (.iconst (-1), 1) := by decide +kernel
theorem d45_5 : decode (mCode 45) 5 = .ok (.invokestatic 36, 3) := by decide +kernel
theorem d45_8 : decode (mCode 45) 8 = .ok (.aload_n 0, 1) := by decide +kernel
theorem d45_9 : decode (mCode 45) 9 = .ok (.iconst 0, 1) := by decide +kernel
theorem d45_10 : decode (mCode 45) 10 = .ok (.putfield 42, 3) := by decide +kernel
theorem d45_13 : decode (mCode 45) 13 = .ok (.return_, 1) := by decide +kernel
theorem d46_0 : decode (mCode 46) 0 = .ok (.aload_n 0, 1) := by decide +kernel
theorem d46_1 : decode (mCode 46) 1 = .ok (.getfield 42, 3) := by decide +kernel
theorem d46_4 : decode (mCode 46) 4 = .ok (.ireturn, 1) := by decide +kernel
theorem d47_0 : decode (mCode 47) 0 = .ok (.aload_n 0, 1) := by decide +kernel
theorem d47_1 : decode (mCode 47) 1 = .ok (.getfield 42, 3) := by decide +kernel
theorem d47_4 : decode (mCode 47) 4 = .ok (.ifCond .ne 7, 3) := by decide +kernel
theorem d47_7 : decode (mCode 47) 7 = .ok (.iconst 0, 1) := by decide +kernel
theorem d47_8 : decode (mCode 47) 8 = .ok (.goto 17, 3) := by decide +kernel
theorem d47_25 : decode (mCode 47) 25 = .ok (.ireturn, 1) := by decide +kernel
theorem d48_0 : decode (mCode 48) 0 = .ok (.iconst 2, 1) := by decide +kernel
theorem d48_1 : decode (mCode 48) 1 = .ok (.aload_n 0, 1) := by decide +kernel
theorem d48_2 : decode (mCode 48) 2 = .ok (.invokevirtual 51, 3) := by decide +kernel
theorem d48_5 : decode (mCode 48) 5 = .ok (.imul, 1) := by decide +kernel
theorem d48_6 : decode (mCode 48) 6 = .ok (.iconst 3, 1) := by decide +kernel
theorem d48_7 : decode (mCode 48) 7 = .ok (.aload_n 0, 1) := by decide +kernel
theorem d48_8 : decode (mCode 48) 8 = .ok (.getfield 42, 3) := by decide +kernel
theorem d48_11 : decode (mCode 48) 11 = .ok (.imul, 1) := by decide +kernel
theorem d48_12 : decode (mCode 48) 12 = .ok (.isub, 1) := by decide +kernel
theorem d48_13 : decode (mCode 48) 13 = .ok (.ireturn, 1) := by decide +kernel
theorem d50_0 : decode (mCode 50) 0 = .ok (.iconst 0, 1) := by decide +kernel
theorem d50_1 : decode (mCode 50) 1 = .ok (.istore_n 2, 1) := by decide +kernel
theorem d50_2 : decode (mCode 50) 2 = .ok (.iload_n 2, 1) := by decide +kernel
theorem d50_3 : decode (mCode 50) 3 = .ok (.aload_n 0, 1) := by decide +kernel
theorem d50_4 : decode (mCode 50) 4 = .ok (.getfield 42, 3) := by decide +kernel
theorem d50_7 : decode (mCode 50) 7 = .ok (.if_icmp .ge 20, 3) := by decide +kernel
theorem d50_27 : decode (mCode 50) 27 = .ok (.iconst (-1), 1) := by decide +kernel
theorem d50_28 : decode (mCode 50) 28 = .ok (.ireturn, 1) := by decide +kernel
theorem d57_0 : decode (mCode 57) 0 = .ok (.iconst 0, 1) := by decide +kernel
theorem d57_1 : decode (mCode 57) 1 = .ok (.istore_n 1, 1) := by decide +kernel
theorem d57_2 : decode (mCode 57) 2 = .ok (.iload_n 1, 1) := by decide +kernel
theorem d57_3 : decode (mCode 57) 3 = .ok (.ldc 105, 2) := by decide +kernel
theorem d57_5 : decode (mCode 57) 5 = .ok (.if_icmp .ge 95, 3) := by decide +kernel
theorem d57_8 : decode (mCode 57) 8 = .ok (.aload_n 0, 1) := by decide +kernel
theorem d57_9 : decode (mCode 57) 9 = .ok (.getfield 102, 3) := by decide +kernel
theorem d57_12 : decode (mCode 57) 12 = .ok (.ifCond .le 88, 3) := by decide +kernel
theorem d57_100 : decode (mCode 57) 100 = .ok (.aload_n 0, 1) := by decide +kernel
theorem d57_101 : decode (mCode 57) 101 = .ok (.invokevirtual 114, 3) := by decide +kernel
theorem d57_104 : decode (mCode 57) 104 = .ok (.return_, 1) := by decide +kernel
theorem d60_0 : decode (mCode 60) 0 = .ok (.aload_n 0, 1) := by decide +kernel
theorem d60_1 : decode (mCode 60) 1 = .ok (.iconst 0, 1) := by decide +kernel
theorem d60_2 : decode (mCode 60) 2 = .ok (.putfield 42, 3) := by decide +kernel
theorem d60_5 : decode (mCode 60) 5 = .ok (.iconst 0, 1) := by decide +kernel
theorem d60_6 : decode (mCode 60) 6 = .ok (.istore_n 1, 1) := by decide +kernel
theorem d60_7 : decode (mCode 60) 7 = .ok (.iload_n 1, 1) := by decide +kernel
theorem d60_8 : decode (mCode 60) 8 = .ok (.aload_n 0, 1) := by decide +kernel
theorem d60_9 : decode (mCode 60) 9 = .ok (.getfield 28, 3) := by decide +kernel
theorem d60_12 : decode (mCode 60) 12 = .ok (.invokevirtual 46, 3) := by decide +kernel
theorem d60_15 : decode (mCode 60) 15 = .ok (.if_icmp .ge 52, 3) := by decide +kernel
theorem d60_18 : decode (mCode 60) 18 = .ok (.iload_n 1, 1) := by decide +kernel
theorem d60_19 : decode (mCode 60) 19 = .ok (.iconst 1, 1) := by decide +kernel
theorem d60_20 : decode (mCode 60) 20 = .ok (.iadd, 1) := by decide +kernel
theorem d60_21 : decode (mCode 60) 21 = .ok (.istore_n 2, 1) := by decide +kernel
theorem d60_22 : decode (mCode 60) 22 = .ok (.iload_n 2, 1) := by decide +kernel
theorem d60_23 : decode (mCode 60) 23 = .ok (.aload_n 0, 1) := by decide +kernel
theorem d60_24 : decode (mCode 60) 24 = .ok (.getfield 28, 3) := by decide +kernel
theorem d60_27 : decode (mCode 60) 27 = .ok (.invokevirtual 46, 3) := by decide +kernel
theorem d60_30 : decode (mCode 60) 30 = .ok (.if_icmp .ge 31, 3) := by decide +kernel
theorem d60_61 : decode (mCode 60) 61 = .ok (.iinc 1 1, 3) := by decide +kernel
theorem d60_64 : decode (mCode 60) 64 = .ok (.goto (-57), 3) := by decide +kernel
theorem d60_67 : decode (mCode 60) 67 = .ok (.return_, 1) := by decide +kernel
theorem d66_0 : decode (mCode 66) 0 = .ok (.aload_n 0, 1) := by decide +kernel
theorem d66_1 : decode (mCode 66) 1 = .ok (.getfield 25, 3) := by decide +kernel
theorem d66_4 : decode (mCode 66) 4 = .ok (.ireturn, 1) := by decide +kernel
theorem d67_0 : decode (mCode 67) 0 = .ok (.aload_n 0, 1) := by decide +kernel
theorem d67_1 : decode (mCode 67) 1 = .ok (.iconst 0, 1) := by decide +kernel
theorem d67_2 : decode (mCode 67) 2 = .ok (.putfield 25, 3) := by decide +kernel
theorem d67_5 : decode (mCode 67) 5 = .ok (.return_, 1) := by decide +kernel
theorem d68_0 : decode (mCode 68) 0 = .ok (.aload_n 0, 1) := by decide +kernel
theorem d68_1 : decode (mCode 68) 1 = .ok (.getfield 9, 3) := by decide +kernel
theorem d68_4 : decode (mCode 68) 4 = .ok (.iload_n 1, 1) := by decide +kernel
theorem d68_5 : decode (mCode 68) 5 = .ok (.iload_n 2, 1) := by decide +kernel
theorem d68_6 : decode (mCode 68) 6 = .ok (.iastore, 1) := by decide +kernel
theorem d68_7 : decode (mCode 68) 7 = .ok (.aload_n 0, 1) := by decide +kernel
theorem d68_8 : decode (mCode 68) 8 = .ok (.getfield 15, 3) := by decide +kernel
theorem d68_11 : decode (mCode 68) 11 = .ok (.iload_n 1, 1) := by decide +kernel
theorem d68_12 : decode (mCode 68) 12 = .ok (.iload_n 3, 1) := by decide +kernel
theorem d68_13 : decode (mCode 68) 13 = .ok (.iastore, 1) := by decide +kernel
theorem d68_14 : decode (mCode 68) 14 = .ok (.return_, 1) := by decide +kernel
theorem d69_0 : decode (mCode 69) 0 = .ok (.iconst 0, 1) := by decide +kernel
theorem d69_1 : decode (mCode 69) 1 = .ok (.istore_n 2, 1) := by decide +kernel
theorem d69_2 : decode (mCode 69) 2 = .ok (.iload_n 2, 1) := by decide +kernel
theorem d69_3 : decode (mCode 69) 3 = .ok (.aload_n 0, 1) := by decide +kernel
theorem d69_4 : decode (mCode 69) 4 = .ok (.getfield 25, 3) := by decide +kernel
theorem d69_7 : decode (mCode 69) 7 = .ok (.if_icmp .ge 41, 3) := by decide +kernel
theorem d69_48 : decode (mCode 69) 48 = .ok (.iconst (-1), 1) := by decide +kernel
theorem d69_49 : decode (mCode 69) 49 = .ok (.ireturn, 1) := by decide +kernel
theorem d72_0 : decode (mCode 72) 0 = .ok (.aload_n 0, 1) := by decide +kernel
theorem d72_1 : decode (mCode 72) 1 = .ok (.dup, 1) := by decide +kernel
theorem d72_2 : decode (mCode 72) 2 = .ok (.getfield 25, 3) := by decide +kernel
theorem d72_5 : decode (mCode 72) 5 = .ok (.iconst 1, 1) := by decide +kernel
theorem d72_6 : decode (mCode 72) 6 = .ok (.iadd, 1) := by decide +kernel
theorem d72_7 : decode (mCode 72) 7 = .ok (.putfield 25, 3) := by decide +kernel
theorem d72_10 : decode (mCode 72) 10 = .ok (.return_, 1) := by decide +kernel
theorem d79_0 : decode (mCode 79) 0 = .ok (.aload_n 0, 1) := by decide +kernel
theorem d79_1 : decode (mCode 79) 1 = .ok (.getfield 34, 3) := by decide +kernel
theorem d79_4 : decode (mCode 79) 4 = .ok (.iload_n 1, 1) := by decide +kernel
theorem d79_5 : decode (mCode 79) 5 = .ok (.invokevirtual 42, 3) := by decide +kernel
theorem d79_8 : decode (mCode 79) 8 = .ok (.ireturn, 1) := by decide +kernel
theorem d80_0 : decode (mCode 80) 0 = .ok (.iload_n 1, 1) := by decide +kernel
theorem d80_1 : decode (mCode 80) 1 = .ok (.ifCond .lt 11, 3) := by decide +kernel
theorem d80_4 : decode (mCode 80) 4 = .ok (.iload_n 1, 1) := by decide +kernel
theorem d80_5 : decode (mCode 80) 5 = .ok (.aload_n 0, 1) := by decide +kernel
theorem d80_6 : decode (mCode 80) 6 = .ok (.getfield 38, 3) := by decide +kernel
theorem d80_9 : decode (mCode 80) 9 = .ok (.if_icmp .lt 7, 3) := by decide +kernel
theorem d80_12 : decode (mCode 80) 12 = .ok (.iconst (-1), 1) := by decide +kernel
theorem d80_13 : decode (mCode 80) 13 = .ok (.goto 9, 3) := by decide +kernel
theorem d80_22 : decode (mCode 80) 22 = .ok (.ireturn, 1) := by decide +kernel
theorem d92_0 : decode (mCode 92) 0 = .ok (.aload_n 0, 1) := by decide +kernel
theorem d92_1 : decode (mCode 92) 1 = .ok (.getfield 22, 3) := by decide +kernel
theorem d92_4 : decode (mCode 92) 4 = .ok (.invokevirtual 54, 3) := by decide +kernel
theorem d92_7 : decode (mCode 92) 7 = .ok (.istore_n 1, 1) := by decide +kernel
theorem d92_8 : decode (mCode 92) 8 = .ok (.aload_n 0, 1) := by decide +kernel
theorem d92_9 : decode (mCode 92) 9 = .ok (.getfield 22, 3) := by decide +kernel
theorem d92_12 : decode (mCode 92) 12 = .ok (.invokevirtual 109, 3) := by decide +kernel
theorem d92_15 : decode (mCode 92) 15 = .ok (.aload_n 0, 1) := by decide +kernel
theorem d92_16 : decode (mCode 92) 16 = .ok (.getfield 26, 3) := by decide +kernel
theorem d92_19 : decode (mCode 92) 19 = .ok (.invokevirtual 112, 3) := by decide +kernel
theorem d92_22 : decode (mCode 92) 22 = .ok (.aload_n 0, 1) := by decide +kernel
theorem d92_23 : decode (mCode 92) 23 = .ok (.getfield 30, 3) := by decide +kernel
theorem d92_26 : decode (mCode 92) 26 = .ok (.invokevirtual 113, 3) := by decide +kernel
theorem d92_29 : decode (mCode 92) 29 = .ok (.iload_n 1, 1) := by decide +kernel
theorem d92_30 : decode (mCode 92) 30 = .ok (.ireturn, 1) := by decide +kernel
theorem d93_0 : decode (mCode 93) 0 = .ok (.iload_n 1, 1) := by decide +kernel
theorem d93_1 : decode (mCode 93) 1 = .ok (.tableswitch 75 0 4 #[35, 43, 51, 59, 67], 35) := by decide +kernel
theorem d93_36 : decode (mCode 93) 36 = .ok (.aload_n 0, 1) := by decide +kernel
theorem d93_37 : decode (mCode 93) 37 = .ok (.getfield 22, 3) := by decide +kernel
theorem d93_40 : decode (mCode 93) 40 = .ok (.invokevirtual 54, 3) := by decide +kernel
theorem d93_43 : decode (mCode 93) 43 = .ok (.ireturn, 1) := by decide +kernel
theorem d93_44 : decode (mCode 93) 44 = .ok (.aload_n 0, 1) := by decide +kernel
theorem d93_45 : decode (mCode 93) 45 = .ok (.getfield 26, 3) := by decide +kernel
theorem d93_48 : decode (mCode 93) 48 = .ok (.invokevirtual 114, 3) := by decide +kernel
theorem d93_51 : decode (mCode 93) 51 = .ok (.ireturn, 1) := by decide +kernel
theorem d93_52 : decode (mCode 93) 52 = .ok (.aload_n 0, 1) := by decide +kernel
theorem d93_53 : decode (mCode 93) 53 = .ok (.getfield 30, 3) := by decide +kernel
theorem d93_56 : decode (mCode 93) 56 = .ok (.invokevirtual 115, 3) := by decide +kernel
theorem d93_59 : decode (mCode 93) 59 = .ok (.ireturn, 1) := by decide +kernel
theorem d93_60 : decode (mCode 93) 60 = .ok (.aload_n 0, 1) := by decide +kernel
theorem d93_61 : decode (mCode 93) 61 = .ok (.getfield 30, 3) := by decide +kernel
theorem d93_64 : decode (mCode 93) 64 = .ok (.invokevirtual 116, 3) := by decide +kernel
theorem d93_67 : decode (mCode 93) 67 = .ok (.ireturn, 1) := by decide +kernel
theorem d93_68 : decode (mCode 93) 68 = .ok (.aload_n 0, 1) := by decide +kernel
theorem d93_69 : decode (mCode 93) 69 = .ok (.getfield 30, 3) := by decide +kernel
theorem d93_72 : decode (mCode 93) 72 = .ok (.invokevirtual 119, 3) := by decide +kernel
theorem d93_75 : decode (mCode 93) 75 = .ok (.ireturn, 1) := by decide +kernel
theorem d93_76 : decode (mCode 93) 76 = .ok (.iconst (-1), 1) := by decide +kernel
theorem d93_77 : decode (mCode 93) 77 = .ok (.ireturn, 1) := by decide +kernel
theorem d94_0 : decode (mCode 94) 0 = .ok (.aload_n 0, 1) := by decide +kernel
theorem d94_1 : decode (mCode 94) 1 = .ok (.getfield 46, 3) := by decide +kernel
theorem d94_4 : decode (mCode 94) 4 = .ok (.iload_n 1, 1) := by decide +kernel
theorem d94_5 : decode (mCode 94) 5 = .ok (.invokevirtual 160, 3) := by decide +kernel
theorem d94_8 : decode (mCode 94) 8 = .ok (.ireturn, 1) := by decide +kernel
theorem d95_0 : decode (mCode 95) 0 = .ok (.aload_n 0, 1) := by decide +kernel
theorem d95_1 : decode (mCode 95) 1 = .ok (.getfield 46, 3) := by decide +kernel
theorem d95_4 : decode (mCode 95) 4 = .ok (.iload_n 1, 1) := by decide +kernel
theorem d95_5 : decode (mCode 95) 5 = .ok (.invokevirtual 163, 3) := by decide +kernel
theorem d95_8 : decode (mCode 95) 8 = .ok (.ireturn, 1) := by decide +kernel
theorem d96_0 : decode (mCode 96) 0 = .ok (.aload_n 0, 1) := by decide +kernel
theorem d96_1 : decode (mCode 96) 1 = .ok (.iload_n 1, 1) := by decide +kernel
theorem d96_2 : decode (mCode 96) 2 = .ok (.iload_n 2, 1) := by decide +kernel
theorem d96_3 : decode (mCode 96) 3 = .ok (.invokevirtual 50, 3) := by decide +kernel
theorem d96_6 : decode (mCode 96) 6 = .ok (.aload_n 0, 1) := by decide +kernel
theorem d96_7 : decode (mCode 96) 7 = .ok (.getfield 22, 3) := by decide +kernel
theorem d96_10 : decode (mCode 96) 10 = .ok (.invokevirtual 54, 3) := by decide +kernel
theorem d96_13 : decode (mCode 96) 13 = .ok (.istore_n 3, 1) := by decide +kernel
theorem d96_14 : decode (mCode 96) 14 = .ok (.iload_n 3, 1) := by decide +kernel
theorem d96_15 : decode (mCode 96) 15 = .ok (.bipush 40, 2) := by decide +kernel
theorem d96_17 : decode (mCode 96) 17 = .ok (.if_icmp .ne 13, 3) := by decide +kernel
theorem d96_30 : decode (mCode 96) 30 = .ok (.aload_n 0, 1) := by decide +kernel
theorem d96_31 : decode (mCode 96) 31 = .ok (.getfield 22, 3) := by decide +kernel
theorem d96_34 : decode (mCode 96) 34 = .ok (.iload_n 3, 1) := by decide +kernel
theorem d96_35 : decode (mCode 96) 35 = .ok (.iload_n 1, 1) := by decide +kernel
theorem d96_36 : decode (mCode 96) 36 = .ok (.iload_n 2, 1) := by decide +kernel
theorem d96_37 : decode (mCode 96) 37 = .ok (.invokevirtual 65, 3) := by decide +kernel
theorem d96_40 : decode (mCode 96) 40 = .ok (.aload_n 0, 1) := by decide +kernel
theorem d96_41 : decode (mCode 96) 41 = .ok (.getfield 22, 3) := by decide +kernel
theorem d96_44 : decode (mCode 96) 44 = .ok (.iload_n 3, 1) := by decide +kernel
theorem d96_45 : decode (mCode 96) 45 = .ok (.invokevirtual 69, 3) := by decide +kernel
theorem d96_48 : decode (mCode 96) 48 = .ok (.iconst (-1), 1) := by decide +kernel
theorem d96_49 : decode (mCode 96) 49 = .ok (.if_icmp .ne 14, 3) := by decide +kernel
theorem d96_52 : decode (mCode 96) 52 = .ok (.aload_n 0, 1) := by decide +kernel
theorem d96_53 : decode (mCode 96) 53 = .ok (.getfield 26, 3) := by decide +kernel
theorem d96_56 : decode (mCode 96) 56 = .ok (.iload_n 3, 1) := by decide +kernel
theorem d96_57 : decode (mCode 96) 57 = .ok (.invokevirtual 73, 3) := by decide +kernel
theorem d96_60 : decode (mCode 96) 60 = .ok (.ifCond .eq 5, 3) := by decide +kernel
theorem d96_65 : decode (mCode 96) 65 = .ok (.aload_n 0, 1) := by decide +kernel
theorem d96_66 : decode (mCode 96) 66 = .ok (.getfield 22, 3) := by decide +kernel
theorem d96_69 : decode (mCode 96) 69 = .ok (.invokevirtual 77, 3) := by decide +kernel
theorem d96_72 : decode (mCode 96) 72 = .ok (.aload_n 0, 1) := by decide +kernel
theorem d96_73 : decode (mCode 96) 73 = .ok (.getfield 39, 3) := by decide +kernel
theorem d96_76 : decode (mCode 96) 76 = .ok (.iload_n 3, 1) := by decide +kernel
theorem d96_77 : decode (mCode 96) 77 = .ok (.invokevirtual 80, 3) := by decide +kernel
theorem d96_80 : decode (mCode 96) 80 = .ok (.iload_n 3, 1) := by decide +kernel
theorem d96_81 : decode (mCode 96) 81 = .ok (.ireturn, 1) := by decide +kernel
theorem d97_0 : decode (mCode 97) 0 = .ok (.iload_n 1, 1) := by decide +kernel
theorem d97_1 : decode (mCode 97) 1 = .ok (.ldc 166, 2) := by decide +kernel
theorem d97_3 : decode (mCode 97) 3 = .ok (.if_icmp .lt 21, 3) := by decide +kernel
theorem d97_6 : decode (mCode 97) 6 = .ok (.iload_n 1, 1) := by decide +kernel
theorem d97_7 : decode (mCode 97) 7 = .ok (.ldc 167, 2) := by decide +kernel
theorem d97_9 : decode (mCode 97) 9 = .ok (.if_icmp .gt 15, 3) := by decide +kernel
theorem d97_12 : decode (mCode 97) 12 = .ok (.iload_n 2, 1) := by decide +kernel
theorem d97_13 : decode (mCode 97) 13 = .ok (.ldc 166, 2) := by decide +kernel
theorem d97_15 : decode (mCode 97) 15 = .ok (.if_icmp .lt 9, 3) := by decide +kernel
theorem d97_18 : decode (mCode 97) 18 = .ok (.iload_n 2, 1) := by decide +kernel
theorem d97_19 : decode (mCode 97) 19 = .ok (.ldc 167, 2) := by decide +kernel
theorem d97_21 : decode (mCode 97) 21 = .ok (.if_icmp .le 13, 3) := by decide +kernel
theorem d97_24 : decode (mCode 97) 24 = .ok (.new 142, 3) := by decide +kernel
theorem d97_27 : decode (mCode 97) 27 = .ok (.dup, 1) := by decide +kernel
theorem d97_28 : decode (mCode 97) 28 = .ok (.ldc 168, 2) := by decide +kernel
theorem d97_30 : decode (mCode 97) 30 = .ok (.invokespecial 146, 3) := by decide +kernel
theorem d97_33 : decode (mCode 97) 33 = .ok (.athrow, 1) := by decide +kernel
theorem d97_34 : decode (mCode 97) 34 = .ok (.return_, 1) := by decide +kernel
theorem d100_0 : decode (mCode 100) 0 = .ok (.aload_n 0, 1) := by decide +kernel
theorem d100_1 : decode (mCode 100) 1 = .ok (.iload_n 1, 1) := by decide +kernel
theorem d100_2 : decode (mCode 100) 2 = .ok (.iload_n 2, 1) := by decide +kernel
theorem d100_3 : decode (mCode 100) 3 = .ok (.invokevirtual 84, 3) := by decide +kernel
theorem d101_0 : decode (mCode 101) 0 = .ok (.aload_n 0, 1) := by decide +kernel
theorem d101_1 : decode (mCode 101) 1 = .ok (.iload_n 1, 1) := by decide +kernel
theorem d101_2 : decode (mCode 101) 2 = .ok (.invokevirtual 135, 3) := by decide +kernel
theorem d102_0 : decode (mCode 102) 0 = .ok (.iload_n 1, 1) := by decide +kernel
theorem d102_1 : decode (mCode 102) 1 = .ok (.ifCond .lt 14, 3) := by decide +kernel
theorem d102_4 : decode (mCode 102) 4 = .ok (.iload_n 1, 1) := by decide +kernel
theorem d102_5 : decode (mCode 102) 5 = .ok (.aload_n 0, 1) := by decide +kernel
theorem d102_6 : decode (mCode 102) 6 = .ok (.getfield 22, 3) := by decide +kernel
theorem d102_9 : decode (mCode 102) 9 = .ok (.invokevirtual 54, 3) := by decide +kernel
theorem d102_12 : decode (mCode 102) 12 = .ok (.if_icmp .lt 13, 3) := by decide +kernel
theorem d102_15 : decode (mCode 102) 15 = .ok (.new 142, 3) := by decide +kernel
theorem d102_18 : decode (mCode 102) 18 = .ok (.dup, 1) := by decide +kernel
theorem d102_19 : decode (mCode 102) 19 = .ok (.ldc 170, 2) := by decide +kernel
theorem d102_21 : decode (mCode 102) 21 = .ok (.invokespecial 146, 3) := by decide +kernel
theorem d102_24 : decode (mCode 102) 24 = .ok (.athrow, 1) := by decide +kernel
theorem d103_0 : decode (mCode 103) 0 = .ok (.aload_n 0, 1) := by decide +kernel
theorem d103_1 : decode (mCode 103) 1 = .ok (.iload_n 1, 1) := by decide +kernel
theorem d103_2 : decode (mCode 103) 2 = .ok (.iload_n 2, 1) := by decide +kernel
theorem d103_3 : decode (mCode 103) 3 = .ok (.invokevirtual 84, 3) := by decide +kernel
theorem d104_0 : decode (mCode 104) 0 = .ok (.aload_n 0, 1) := by decide +kernel
theorem d104_1 : decode (mCode 104) 1 = .ok (.iload_n 1, 1) := by decide +kernel
theorem d104_2 : decode (mCode 104) 2 = .ok (.iload_n 2, 1) := by decide +kernel
theorem d104_3 : decode (mCode 104) 3 = .ok (.invokevirtual 122, 3) := by decide +kernel
theorem d105_0 : decode (mCode 105) 0 = .ok (.iload_n 1, 1) := by decide +kernel
theorem d105_1 : decode (mCode 105) 1 = .ok (.ifCond .lt 23, 3) := by decide +kernel
theorem d105_4 : decode (mCode 105) 4 = .ok (.iload_n 1, 1) := by decide +kernel
theorem d105_5 : decode (mCode 105) 5 = .ok (.aload_n 0, 1) := by decide +kernel
theorem d105_6 : decode (mCode 105) 6 = .ok (.getfield 30, 3) := by decide +kernel
theorem d105_9 : decode (mCode 105) 9 = .ok (.invokevirtual 115, 3) := by decide +kernel
theorem d105_12 : decode (mCode 105) 12 = .ok (.if_icmp .ge 12, 3) := by decide +kernel
theorem d105_24 : decode (mCode 105) 24 = .ok (.new 174, 3) := by decide +kernel
theorem d105_27 : decode (mCode 105) 27 = .ok (.dup, 1) := by decide +kernel
theorem d105_28 : decode (mCode 105) 28 = .ok (.ldc 176, 2) := by decide +kernel
theorem d105_30 : decode (mCode 105) 30 = .ok (.invokespecial 178, 3) := by decide +kernel
theorem d105_33 : decode (mCode 105) 33 = .ok (.athrow, 1) := by decide +kernel
theorem d106_0 : decode (mCode 106) 0 = .ok (.aload_n 0, 1) := by decide +kernel
theorem d106_1 : decode (mCode 106) 1 = .ok (.iload_n 1, 1) := by decide +kernel
theorem d106_2 : decode (mCode 106) 2 = .ok (.iload_n 2, 1) := by decide +kernel
theorem d106_3 : decode (mCode 106) 3 = .ok (.invokevirtual 122, 3) := by decide +kernel
theorem d107_0 : decode (mCode 107) 0 = .ok (.aload_n 0, 1) := by decide +kernel
theorem d107_1 : decode (mCode 107) 1 = .ok (.iload_n 1, 1) := by decide +kernel
theorem d107_2 : decode (mCode 107) 2 = .ok (.iload_n 2, 1) := by decide +kernel
theorem d107_3 : decode (mCode 107) 3 = .ok (.invokevirtual 84, 3) := by decide +kernel
theorem d108_0 : decode (mCode 108) 0 = .ok (.aload_n 0, 1) := by decide +kernel
theorem d108_1 : decode (mCode 108) 1 = .ok (.iload_n 1, 1) := by decide +kernel
theorem d108_2 : decode (mCode 108) 2 = .ok (.invokevirtual 135, 3) := by decide +kernel
theorem d109_0 : decode (mCode 109) 0 = .ok (.aload_n 0, 1) := by decide +kernel
theorem d109_1 : decode (mCode 109) 1 = .ok (.iload_n 1, 1) := by decide +kernel
theorem d109_2 : decode (mCode 109) 2 = .ok (.invokevirtual 135, 3) := by decide +kernel
theorem d110_0 : decode (mCode 110) 0 = .ok (.aload_n 0, 1) := by decide +kernel
theorem d110_1 : decode (mCode 110) 1 = .ok (.iload_n 1, 1) := by decide +kernel
theorem d110_2 : decode (mCode 110) 2 = .ok (.iload_n 2, 1) := by decide +kernel
theorem d110_3 : decode (mCode 110) 3 = .ok (.invokevirtual 50, 3) := by decide +kernel
theorem d110_6 : decode (mCode 110) 6 = .ok (.aload_n 0, 1) := by decide +kernel
theorem d110_7 : decode (mCode 110) 7 = .ok (.getfield 22, 3) := by decide +kernel
theorem d110_10 : decode (mCode 110) 10 = .ok (.bipush 40, 2) := by decide +kernel
theorem d110_12 : decode (mCode 110) 12 = .ok (.iload_n 1, 1) := by decide +kernel
theorem d110_13 : decode (mCode 110) 13 = .ok (.iload_n 2, 1) := by decide +kernel
theorem d110_14 : decode (mCode 110) 14 = .ok (.invokevirtual 65, 3) := by decide +kernel
theorem d110_17 : decode (mCode 110) 17 = .ok (.aload_n 0, 1) := by decide +kernel
theorem d110_18 : decode (mCode 110) 18 = .ok (.getfield 30, 3) := by decide +kernel
theorem d110_21 : decode (mCode 110) 21 = .ok (.bipush 40, 2) := by decide +kernel
theorem d110_23 : decode (mCode 110) 23 = .ok (.invokevirtual 151, 3) := by decide +kernel
theorem d110_26 : decode (mCode 110) 26 = .ok (.ireturn, 1) := by decide +kernel
theorem d111_0 : decode (mCode 111) 0 = .ok (.aload_n 0, 1) := by decide +kernel
theorem d111_1 : decode (mCode 111) 1 = .ok (.iload_n 1, 1) := by decide +kernel
theorem d111_2 : decode (mCode 111) 2 = .ok (.iload_n 2, 1) := by decide +kernel
theorem d111_3 : decode (mCode 111) 3 = .ok (.invokevirtual 50, 3) := by decide +kernel
theorem d111_6 : decode (mCode 111) 6 = .ok (.aload_n 0, 1) := by decide +kernel
theorem d111_7 : decode (mCode 111) 7 = .ok (.iload_n 3, 1) := by decide +kernel
theorem d111_8 : decode (mCode 111) 8 = .ok (.iload 4, 2) := by decide +kernel
theorem d111_10 : decode (mCode 111) 10 = .ok (.invokevirtual 50, 3) := by decide +kernel
theorem d111_13 : decode (mCode 111) 13 = .ok (.aload_n 0, 1) := by decide +kernel
theorem d111_14 : decode (mCode 111) 14 = .ok (.getfield 22, 3) := by decide +kernel
theorem d111_17 : decode (mCode 111) 17 = .ok (.bipush 40, 2) := by decide +kernel
theorem d111_19 : decode (mCode 111) 19 = .ok (.iload_n 1, 1) := by decide +kernel
theorem d111_20 : decode (mCode 111) 20 = .ok (.iload_n 2, 1) := by decide +kernel
theorem d111_21 : decode (mCode 111) 21 = .ok (.invokevirtual 65, 3) := by decide +kernel
theorem d111_24 : decode (mCode 111) 24 = .ok (.aload_n 0, 1) := by decide +kernel
theorem d111_25 : decode (mCode 111) 25 = .ok (.getfield 22, 3) := by decide +kernel
theorem d111_28 : decode (mCode 111) 28 = .ok (.bipush 41, 2) := by decide +kernel
theorem d111_30 : decode (mCode 111) 30 = .ok (.iload_n 3, 1) := by decide +kernel
theorem d111_31 : decode (mCode 111) 31 = .ok (.iload 4, 2) := by decide +kernel
theorem d111_33 : decode (mCode 111) 33 = .ok (.invokevirtual 65, 3) := by decide +kernel
theorem d111_36 : decode (mCode 111) 36 = .ok (.aload_n 0, 1) := by decide +kernel
theorem d111_37 : decode (mCode 111) 37 = .ok (.getfield 30, 3) := by decide +kernel
theorem d111_40 : decode (mCode 111) 40 = .ok (.bipush 40, 2) := by decide +kernel
theorem d111_42 : decode (mCode 111) 42 = .ok (.invokevirtual 151, 3) := by decide +kernel
theorem d111_45 : decode (mCode 111) 45 = .ok (.istore 5, 2) := by decide +kernel
theorem d111_47 : decode (mCode 111) 47 = .ok (.aload_n 0, 1) := by decide +kernel
theorem d111_48 : decode (mCode 111) 48 = .ok (.getfield 30, 3) := by decide +kernel
theorem d111_51 : decode (mCode 111) 51 = .ok (.bipush 41, 2) := by decide +kernel
theorem d111_53 : decode (mCode 111) 53 = .ok (.invokevirtual 151, 3) := by decide +kernel
theorem d111_56 : decode (mCode 111) 56 = .ok (.istore 6, 2) := by decide +kernel
theorem d111_58 : decode (mCode 111) 58 = .ok (.iload 5, 2) := by decide +kernel
theorem d111_60 : decode (mCode 111) 60 = .ok (.iconst (-1), 1) := by decide +kernel
theorem d111_61 : decode (mCode 111) 61 = .ok (.if_icmp .eq 23, 3) := by decide +kernel
theorem d111_84 : decode (mCode 111) 84 = .ok (.iconst (-1), 1) := by decide +kernel
theorem d111_85 : decode (mCode 111) 85 = .ok (.ireturn, 1) := by decide +kernel
theorem d113_0 : decode (mCode 113) 0 = .ok (.aload_n 0, 1) := by decide +kernel
theorem d113_1 : decode (mCode 113) 1 = .ok (.getfield 42, 3) := by decide +kernel
theorem d113_4 : decode (mCode 113) 4 = .ok (.ireturn, 1) := by decide +kernel
theorem d114_0 : decode (mCode 114) 0 = .ok (.aload_n 0, 1) := by decide +kernel
theorem d114_1 : decode (mCode 114) 1 = .ok (.iload_n 1, 1) := by decide +kernel
theorem d114_2 : decode (mCode 114) 2 = .ok (.iload_n 2, 1) := by decide +kernel
theorem d114_3 : decode (mCode 114) 3 = .ok (.invokestatic 74, 3) := by decide +kernel
theorem d114_6 : decode (mCode 114) 6 = .ok (.ifCond .ne 7, 3) := by decide +kernel
theorem d114_9 : decode (mCode 114) 9 = .ok (.iconst 1, 1) := by decide +kernel
theorem d114_10 : decode (mCode 114) 10 = .ok (.goto 17, 3) := by decide +kernel
theorem d114_13 : decode (mCode 114) 13 = .ok (.aload_n 0, 1) := by decide +kernel
theorem d114_14 : decode (mCode 114) 14 = .ok (.getfield 52, 3) := by decide +kernel
theorem d114_17 : decode (mCode 114) 17 = .ok (.bipush 40, 2) := by decide +kernel
theorem d114_19 : decode (mCode 114) 19 = .ok (.if_icmp .ne 7, 3) := by decide +kernel
theorem d114_26 : decode (mCode 114) 26 = .ok (.iconst 0, 1) := by decide +kernel
theorem d114_27 : decode (mCode 114) 27 = .ok (.invokevirtual 78, 3) := by decide +kernel
theorem d114_30 : decode (mCode 114) 30 = .ok (.ifCond .eq 5, 3) := by decide +kernel
theorem d114_33 : decode (mCode 114) 33 = .ok (.iconst 0, 1) := by decide +kernel
theorem d114_34 : decode (mCode 114) 34 = .ok (.ireturn, 1) := by decide +kernel
theorem d114_35 : decode (mCode 114) 35 = .ok (.aload_n 0, 1) := by decide +kernel
theorem d114_36 : decode (mCode 114) 36 = .ok (.getfield 7, 3) := by decide +kernel
theorem d114_39 : decode (mCode 114) 39 = .ok (.aload_n 0, 1) := by decide +kernel
theorem d114_40 : decode (mCode 114) 40 = .ok (.getfield 52, 3) := by decide +kernel
theorem d114_43 : decode (mCode 114) 43 = .ok (.iload_n 1, 1) := by decide +kernel
theorem d114_44 : decode (mCode 114) 44 = .ok (.i2l, 1) := by decide +kernel
theorem d114_45 : decode (mCode 114) 45 = .ok (.lastore, 1) := by decide +kernel
theorem d114_46 : decode (mCode 114) 46 = .ok (.aload_n 0, 1) := by decide +kernel
theorem d114_47 : decode (mCode 114) 47 = .ok (.getfield 13, 3) := by decide +kernel
theorem d114_50 : decode (mCode 114) 50 = .ok (.aload_n 0, 1) := by decide +kernel
theorem d114_51 : decode (mCode 114) 51 = .ok (.getfield 52, 3) := by decide +kernel
theorem d114_54 : decode (mCode 114) 54 = .ok (.iload_n 2, 1) := by decide +kernel
theorem d114_55 : decode (mCode 114) 55 = .ok (.i2l, 1) := by decide +kernel
theorem d114_56 : decode (mCode 114) 56 = .ok (.lastore, 1) := by decide +kernel
theorem d114_57 : decode (mCode 114) 57 = .ok (.iconst 1, 1) := by decide +kernel
theorem d114_58 : decode (mCode 114) 58 = .ok (.istore_n 3, 1) := by decide +kernel
theorem d114_59 : decode (mCode 114) 59 = .ok (.iconst 0, 1) := by decide +kernel
theorem d114_60 : decode (mCode 114) 60 = .ok (.istore 4, 2) := by decide +kernel
theorem d114_62 : decode (mCode 114) 62 = .ok (.iload 4, 2) := by decide +kernel
theorem d114_64 : decode (mCode 114) 64 = .ok (.aload_n 0, 1) := by decide +kernel
theorem d114_65 : decode (mCode 114) 65 = .ok (.getfield 52, 3) := by decide +kernel
theorem d114_68 : decode (mCode 114) 68 = .ok (.if_icmp .ge 102, 3) := by decide +kernel
theorem d114_170 : decode (mCode 114) 170 = .ok (.iload_n 3, 1) := by decide +kernel
theorem d114_171 : decode (mCode 114) 171 = .ok (.ifCond .ne 5, 3) := by decide +kernel
theorem d114_176 : decode (mCode 114) 176 = .ok (.iconst 0, 1) := by decide +kernel
theorem d114_177 : decode (mCode 114) 177 = .ok (.istore 4, 2) := by decide +kernel
theorem d114_224 : decode (mCode 114) 224 = .ok (.aload_n 0, 1) := by decide +kernel
theorem d114_225 : decode (mCode 114) 225 = .ok (.dup, 1) := by decide +kernel
theorem d114_226 : decode (mCode 114) 226 = .ok (.getfield 52, 3) := by decide +kernel
theorem d114_229 : decode (mCode 114) 229 = .ok (.iconst 1, 1) := by decide +kernel
theorem d114_230 : decode (mCode 114) 230 = .ok (.iadd, 1) := by decide +kernel
theorem d114_231 : decode (mCode 114) 231 = .ok (.putfield 52, 3) := by decide +kernel
theorem d114_234 : decode (mCode 114) 234 = .ok (.aload_n 0, 1) := by decide +kernel
theorem d114_235 : decode (mCode 114) 235 = .ok (.iconst 0, 1) := by decide +kernel
theorem d114_236 : decode (mCode 114) 236 = .ok (.putfield 85, 3) := by decide +kernel
theorem d114_239 : decode (mCode 114) 239 = .ok (.aload_n 0, 1) := by decide +kernel
theorem d114_240 : decode (mCode 114) 240 = .ok (.getfield 52, 3) := by decide +kernel
theorem d114_243 : decode (mCode 114) 243 = .ok (.iconst 1, 1) := by decide +kernel
theorem d114_244 : decode (mCode 114) 244 = .ok (.isub, 1) := by decide +kernel
theorem d114_245 : decode (mCode 114) 245 = .ok (.ireturn, 1) := by decide +kernel
theorem d115_0 : decode (mCode 115) 0 = .ok (.iload_n 0, 1) := by decide +kernel
theorem d115_1 : decode (mCode 115) 1 = .ok (.ldc 46, 2) := by decide +kernel
theorem d115_3 : decode (mCode 115) 3 = .ok (.ldc 47, 2) := by decide +kernel
theorem d115_5 : decode (mCode 115) 5 = .ok (.invokestatic 48, 3) := by decide +kernel
theorem d115_8 : decode (mCode 115) 8 = .ok (.ifCond .eq 18, 3) := by decide +kernel
theorem d115_11 : decode (mCode 115) 11 = .ok (.iload_n 1, 1) := by decide +kernel
theorem d115_12 : decode (mCode 115) 12 = .ok (.ldc 46, 2) := by decide +kernel
theorem d115_14 : decode (mCode 115) 14 = .ok (.ldc 47, 2) := by decide +kernel
theorem d115_16 : decode (mCode 115) 16 = .ok (.invokestatic 48, 3) := by decide +kernel
theorem d115_19 : decode (mCode 115) 19 = .ok (.ifCond .eq 7, 3) := by decide +kernel
theorem d115_22 : decode (mCode 115) 22 = .ok (.iconst 1, 1) := by decide +kernel
theorem d115_23 : decode (mCode 115) 23 = .ok (.goto 4, 3) := by decide +kernel
theorem d115_26 : decode (mCode 115) 26 = .ok (.iconst 0, 1) := by decide +kernel
theorem d115_27 : decode (mCode 115) 27 = .ok (.ireturn, 1) := by decide +kernel
theorem d116_0 : decode (mCode 116) 0 = .ok (.iload_n 0, 1) := by decide +kernel
theorem d116_1 : decode (mCode 116) 1 = .ok (.iload_n 1, 1) := by decide +kernel
theorem d116_2 : decode (mCode 116) 2 = .ok (.if_icmp .lt 12, 3) := by decide +kernel
theorem d116_5 : decode (mCode 116) 5 = .ok (.iload_n 0, 1) := by decide +kernel
theorem d116_6 : decode (mCode 116) 6 = .ok (.iload_n 2, 1) := by decide +kernel
theorem d116_7 : decode (mCode 116) 7 = .ok (.if_icmp .gt 7, 3) := by decide +kernel
theorem d116_10 : decode (mCode 116) 10 = .ok (.iconst 1, 1) := by decide +kernel
theorem d116_11 : decode (mCode 116) 11 = .ok (.goto 4, 3) := by decide +kernel
theorem d116_14 : decode (mCode 116) 14 = .ok (.iconst 0, 1) := by decide +kernel
theorem d116_15 : decode (mCode 116) 15 = .ok (.ireturn, 1) := by decide +kernel
theorem d117_0 : decode (mCode 117) 0 = .ok (.aload_n 0, 1) := by decide +kernel
theorem d117_1 : decode (mCode 117) 1 = .ok (.iload_n 1, 1) := by decide +kernel
theorem d117_2 : decode (mCode 117) 2 = .ok (.putfield 42, 3) := by decide +kernel
theorem d117_5 : decode (mCode 117) 5 = .ok (.iload_n 1, 1) := by decide +kernel
theorem d117_6 : decode (mCode 117) 6 = .ok (.ifCond .le 7, 3) := by decide +kernel
theorem d117_9 : decode (mCode 117) 9 = .ok (.iconst 1, 1) := by decide +kernel
theorem d117_10 : decode (mCode 117) 10 = .ok (.goto 4, 3) := by decide +kernel
theorem d117_13 : decode (mCode 117) 13 = .ok (.iconst 0, 1) := by decide +kernel
theorem d117_14 : decode (mCode 117) 14 = .ok (.ireturn, 1) := by decide +kernel
theorem d120_0 : decode (mCode 120) 0 = .ok (.aload_n 0, 1) := by decide +kernel
theorem d120_1 : decode (mCode 120) 1 = .ok (.aload_n 0, 1) := by decide +kernel
theorem d120_2 : decode (mCode 120) 2 = .ok (.iload_n 1, 1) := by decide +kernel
theorem d120_3 : decode (mCode 120) 3 = .ok (.iload_n 2, 1) := by decide +kernel
theorem d120_4 : decode (mCode 120) 4 = .ok (.invokevirtual 96, 3) := by decide +kernel
theorem d120_7 : decode (mCode 120) 7 = .ok (.ifCond .eq 7, 3) := by decide +kernel
theorem d120_14 : decode (mCode 120) 14 = .ok (.iconst 1, 1) := by decide +kernel
theorem d120_15 : decode (mCode 120) 15 = .ok (.invokevirtual 78, 3) := by decide +kernel
theorem d120_18 : decode (mCode 120) 18 = .ok (.ifCond .eq 5, 3) := by decide +kernel
theorem d120_21 : decode (mCode 120) 21 = .ok (.iconst 0, 1) := by decide +kernel
theorem d120_22 : decode (mCode 120) 22 = .ok (.ireturn, 1) := by decide +kernel
theorem d121_0 : decode (mCode 121) 0 = .ok (.aload_n 0, 1) := by decide +kernel
theorem d121_1 : decode (mCode 121) 1 = .ok (.iload_n 1, 1) := by decide +kernel
theorem d121_2 : decode (mCode 121) 2 = .ok (.invokevirtual 89, 3) := by decide +kernel
theorem d121_5 : decode (mCode 121) 5 = .ok (.ifCond .eq 20, 3) := by decide +kernel
theorem d121_25 : decode (mCode 121) 25 = .ok (.iconst 0, 1) := by decide +kernel
theorem d121_26 : decode (mCode 121) 26 = .ok (.ireturn, 1) := by decide +kernel
theorem d122_0 : decode (mCode 122) 0 = .ok (.iload_n 1, 1) := by decide +kernel
theorem d122_1 : decode (mCode 122) 1 = .ok (.iconst 0, 1) := by decide +kernel
theorem d122_2 : decode (mCode 122) 2 = .ok (.aload_n 0, 1) := by decide +kernel
theorem d122_3 : decode (mCode 122) 3 = .ok (.getfield 52, 3) := by decide +kernel
theorem d122_6 : decode (mCode 122) 6 = .ok (.iconst 1, 1) := by decide +kernel
theorem d122_7 : decode (mCode 122) 7 = .ok (.isub, 1) := by decide +kernel
theorem d122_8 : decode (mCode 122) 8 = .ok (.invokestatic 48, 3) := by decide +kernel
theorem d122_11 : decode (mCode 122) 11 = .ok (.ireturn, 1) := by decide +kernel
theorem d125_0 : decode (mCode 125) 0 = .ok (.aload_n 0, 1) := by decide +kernel
theorem d125_1 : decode (mCode 125) 1 = .ok (.aload_n 0, 1) := by decide +kernel
theorem d125_2 : decode (mCode 125) 2 = .ok (.iload_n 1, 1) := by decide +kernel
theorem d125_3 : decode (mCode 125) 3 = .ok (.iload_n 2, 1) := by decide +kernel
theorem d125_4 : decode (mCode 125) 4 = .ok (.invokevirtual 96, 3) := by decide +kernel
theorem d125_7 : decode (mCode 125) 7 = .ok (.ifCond .eq 7, 3) := by decide +kernel
theorem d125_14 : decode (mCode 125) 14 = .ok (.iconst 1, 1) := by decide +kernel
theorem d125_15 : decode (mCode 125) 15 = .ok (.invokevirtual 78, 3) := by decide +kernel
theorem d125_18 : decode (mCode 125) 18 = .ok (.ifCond .eq 5, 3) := by decide +kernel
theorem d125_21 : decode (mCode 125) 21 = .ok (.iconst 0, 1) := by decide +kernel
theorem d125_22 : decode (mCode 125) 22 = .ok (.ireturn, 1) := by decide +kernel
theorem d126_0 : decode (mCode 126) 0 = .ok (.aload_n 0, 1) := by decide +kernel
theorem d126_1 : decode (mCode 126) 1 = .ok (.iconst 0, 1) := by decide +kernel
theorem d126_2 : decode (mCode 126) 2 = .ok (.putfield 42, 3) := by decide +kernel
theorem d126_5 : decode (mCode 126) 5 = .ok (.aload_n 0, 1) := by decide +kernel
theorem d126_6 : decode (mCode 126) 6 = .ok (.getfield 52, 3) := by decide +kernel
theorem d126_9 : decode (mCode 126) 9 = .ok (.istore_n 1, 1) := by decide +kernel
theorem d126_10 : decode (mCode 126) 10 = .ok (.aload_n 0, 1) := by decide +kernel
theorem d126_11 : decode (mCode 126) 11 = .ok (.iconst 0, 1) := by decide +kernel
theorem d126_12 : decode (mCode 126) 12 = .ok (.putfield 52, 3) := by decide +kernel
theorem d126_15 : decode (mCode 126) 15 = .ok (.iconst 0, 1) := by decide +kernel
theorem d126_16 : decode (mCode 126) 16 = .ok (.istore_n 2, 1) := by decide +kernel
theorem d126_37 : decode (mCode 126) 37 = .ok (.aload_n 0, 1) := by decide +kernel
theorem d126_38 : decode (mCode 126) 38 = .ok (.iconst 0, 1) := by decide +kernel
theorem d126_39 : decode (mCode 126) 39 = .ok (.putfield 85, 3) := by decide +kernel
theorem d126_42 : decode (mCode 126) 42 = .ok (.iload_n 1, 1) := by decide +kernel
theorem d126_43 : decode (mCode 126) 43 = .ok (.ireturn, 1) := by decide +kernel
theorem d127_0 : decode (mCode 127) 0 = .ok (.aload_n 0, 1) := by decide +kernel
theorem d127_1 : decode (mCode 127) 1 = .ok (.iconst 0, 1) := by decide +kernel
theorem d127_2 : decode (mCode 127) 2 = .ok (.putfield 42, 3) := by decide +kernel
theorem d127_5 : decode (mCode 127) 5 = .ok (.aload_n 0, 1) := by decide +kernel
theorem d127_6 : decode (mCode 127) 6 = .ok (.invokevirtual 134, 3) := by decide +kernel
theorem d127_9 : decode (mCode 127) 9 = .ok (.iload_n 1, 1) := by decide +kernel
theorem d127_10 : decode (mCode 127) 10 = .ok (.ifCond .eq 8, 3) := by decide +kernel
theorem d127_13 : decode (mCode 127) 13 = .ok (.iload_n 1, 1) := by decide +kernel
theorem d127_14 : decode (mCode 127) 14 = .ok (.iconst 2, 1) := by decide +kernel
theorem d127_15 : decode (mCode 127) 15 = .ok (.if_icmp .ne 19, 3) := by decide +kernel
theorem d127_18 : decode (mCode 127) 18 = .ok (.iload_n 1, 1) := by decide +kernel
theorem d127_19 : decode (mCode 127) 19 = .ok (.ifCond .ne 10, 3) := by decide +kernel
theorem d127_22 : decode (mCode 127) 22 = .ok (.aload_n 0, 1) := by decide +kernel
theorem d127_23 : decode (mCode 127) 23 = .ok (.getfield 52, 3) := by decide +kernel
theorem d127_26 : decode (mCode 127) 26 = .ok (.goto 7, 3) := by decide +kernel
theorem d127_29 : decode (mCode 127) 29 = .ok (.aload_n 0, 1) := by decide +kernel
theorem d127_30 : decode (mCode 127) 30 = .ok (.getfield 124, 3) := by decide +kernel
theorem d127_33 : decode (mCode 127) 33 = .ok (.ireturn, 1) := by decide +kernel
theorem d127_34 : decode (mCode 127) 34 = .ok (.iconst 0, 1) := by decide +kernel
theorem d127_35 : decode (mCode 127) 35 = .ok (.istore_n 2, 1) := by decide +kernel
theorem d127_36 : decode (mCode 127) 36 = .ok (.iconst 0, 1) := by decide +kernel
theorem d127_37 : decode (mCode 127) 37 = .ok (.istore_n 3, 1) := by decide +kernel
theorem d127_38 : decode (mCode 127) 38 = .ok (.iload_n 3, 1) := by decide +kernel
theorem d127_39 : decode (mCode 127) 39 = .ok (.aload_n 0, 1) := by decide +kernel
theorem d127_40 : decode (mCode 127) 40 = .ok (.getfield 52, 3) := by decide +kernel
theorem d127_43 : decode (mCode 127) 43 = .ok (.if_icmp .ge 128, 3) := by decide +kernel
theorem d127_171 : decode (mCode 127) 171 = .ok (.iload_n 1, 1) := by decide +kernel
theorem d127_172 : decode (mCode 127) 172 = .ok (.iconst 1, 1) := by decide +kernel
theorem d127_173 : decode (mCode 127) 173 = .ok (.if_icmp .eq 13, 3) := by decide +kernel
theorem d127_176 : decode (mCode 127) 176 = .ok (.iload_n 1, 1) := by decide +kernel
theorem d127_177 : decode (mCode 127) 177 = .ok (.iconst 3, 1) := by decide +kernel
theorem d127_178 : decode (mCode 127) 178 = .ok (.if_icmp .eq 8, 3) := by decide +kernel
theorem d127_181 : decode (mCode 127) 181 = .ok (.iload_n 1, 1) := by decide +kernel
theorem d127_182 : decode (mCode 127) 182 = .ok (.iconst 4, 1) := by decide +kernel
theorem d127_183 : decode (mCode 127) 183 = .ok (.if_icmp .ne 7, 3) := by decide +kernel
theorem d127_186 : decode (mCode 127) 186 = .ok (.iload_n 2, 1) := by decide +kernel
theorem d127_187 : decode (mCode 127) 187 = .ok (.goto 4, 3) := by decide +kernel
theorem d127_190 : decode (mCode 127) 190 = .ok (.iconst (-1), 1) := by decide +kernel
theorem d127_191 : decode (mCode 127) 191 = .ok (.ireturn, 1) := by decide +kernel
theorem d128_0 : decode (mCode 128) 0 = .ok (.aload_n 0, 1) := by decide +kernel
theorem d128_1 : decode (mCode 128) 1 = .ok (.getfield 85, 3) := by decide +kernel
theorem d128_4 : decode (mCode 128) 4 = .ok (.ifCond .eq 4, 3) := by decide +kernel
theorem d128_8 : decode (mCode 128) 8 = .ok (.aload_n 0, 1) := by decide +kernel
theorem d128_9 : decode (mCode 128) 9 = .ok (.iconst 1, 1) := by decide +kernel
theorem d128_10 : decode (mCode 128) 10 = .ok (.putfield 85, 3) := by decide +kernel
theorem d128_13 : decode (mCode 128) 13 = .ok (.aload_n 0, 1) := by decide +kernel
theorem d128_14 : decode (mCode 128) 14 = .ok (.iconst 0, 1) := by decide +kernel
theorem d128_15 : decode (mCode 128) 15 = .ok (.putfield 124, 3) := by decide +kernel
theorem d128_18 : decode (mCode 128) 18 = .ok (.iconst 0, 1) := by decide +kernel
theorem d128_19 : decode (mCode 128) 19 = .ok (.istore_n 1, 1) := by decide +kernel
theorem d128_45 : decode (mCode 128) 45 = .ok (.aload_n 0, 1) := by decide +kernel
theorem d128_46 : decode (mCode 128) 46 = .ok (.invokevirtual 127, 3) := by decide +kernel
theorem d128_49 : decode (mCode 128) 49 = .ok (.ifCond .eq 4, 3) := by decide +kernel
theorem d128_52 : decode (mCode 128) 52 = .ok (.return_, 1) := by decide +kernel
theorem d129_0 : decode (mCode 129) 0 = .ok (.iconst 1, 1) := by decide +kernel
theorem d129_1 : decode (mCode 129) 1 = .ok (.istore_n 1, 1) := by decide +kernel
theorem d129_2 : decode (mCode 129) 2 = .ok (.iconst 2, 1) := by decide +kernel
theorem d129_3 : decode (mCode 129) 3 = .ok (.istore_n 2, 1) := by decide +kernel
theorem d129_4 : decode (mCode 129) 4 = .ok (.iload_n 2, 1) := by decide +kernel
theorem d129_5 : decode (mCode 129) 5 = .ok (.aload_n 0, 1) := by decide +kernel
theorem d129_6 : decode (mCode 129) 6 = .ok (.getfield 52, 3) := by decide +kernel
theorem d129_9 : decode (mCode 129) 9 = .ok (.if_icmp .ge 29, 3) := by decide +kernel
theorem d129_38 : decode (mCode 129) 38 = .ok (.iload_n 1, 1) := by decide +kernel
theorem d129_39 : decode (mCode 129) 39 = .ok (.ireturn, 1) := by decide +kernel
theorem d139_0 : decode (mCode 139) 0 = .ok (.aload_n 0, 1) := by decide +kernel
theorem d139_1 : decode (mCode 139) 1 = .ok (.aload_n 0, 1) := by decide +kernel
theorem d139_2 : decode (mCode 139) 2 = .ok (.iload_n 1, 1) := by decide +kernel
theorem d139_3 : decode (mCode 139) 3 = .ok (.iload_n 2, 1) := by decide +kernel
theorem d139_4 : decode (mCode 139) 4 = .ok (.invokevirtual 140, 3) := by decide +kernel
theorem d139_7 : decode (mCode 139) 7 = .ok (.ifCond .eq 7, 3) := by decide +kernel
theorem d139_14 : decode (mCode 139) 14 = .ok (.iconst 1, 1) := by decide +kernel
theorem d139_15 : decode (mCode 139) 15 = .ok (.invokevirtual 78, 3) := by decide +kernel
theorem d139_18 : decode (mCode 139) 18 = .ok (.ifCond .eq 7, 3) := by decide +kernel
theorem d139_21 : decode (mCode 139) 21 = .ok (.iconst 0, 1) := by decide +kernel
theorem d139_22 : decode (mCode 139) 22 = .ok (.goto 13, 3) := by decide +kernel
theorem d139_35 : decode (mCode 139) 35 = .ok (.ireturn, 1) := by decide +kernel
theorem d140_0 : decode (mCode 140) 0 = .ok (.aload_n 0, 1) := by decide +kernel
theorem d140_1 : decode (mCode 140) 1 = .ok (.invokevirtual 134, 3) := by decide +kernel
theorem d140_4 : decode (mCode 140) 4 = .ok (.iload_n 1, 1) := by decide +kernel
theorem d140_5 : decode (mCode 140) 5 = .ok (.iconst 0, 1) := by decide +kernel
theorem d140_6 : decode (mCode 140) 6 = .ok (.aload_n 0, 1) := by decide +kernel
theorem d140_7 : decode (mCode 140) 7 = .ok (.getfield 124, 3) := by decide +kernel
theorem d140_10 : decode (mCode 140) 10 = .ok (.iconst 1, 1) := by decide +kernel
theorem d140_11 : decode (mCode 140) 11 = .ok (.isub, 1) := by decide +kernel
theorem d140_12 : decode (mCode 140) 12 = .ok (.invokestatic 48, 3) := by decide +kernel
theorem d140_15 : decode (mCode 140) 15 = .ok (.ifCond .eq 16, 3) := by decide +kernel
theorem d140_31 : decode (mCode 140) 31 = .ok (.iconst 0, 1) := by decide +kernel
theorem d140_32 : decode (mCode 140) 32 = .ok (.ireturn, 1) := by decide +kernel
theorem d141_0 : decode (mCode 141) 0 = .ok (.aload_n 0, 1) := by decide +kernel
theorem d141_1 : decode (mCode 141) 1 = .ok (.aload_n 0, 1) := by decide +kernel
theorem d141_2 : decode (mCode 141) 2 = .ok (.iload_n 1, 1) := by decide +kernel
theorem d141_3 : decode (mCode 141) 3 = .ok (.iload_n 2, 1) := by decide +kernel
theorem d141_4 : decode (mCode 141) 4 = .ok (.invokevirtual 140, 3) := by decide +kernel
theorem d141_7 : decode (mCode 141) 7 = .ok (.ifCond .eq 7, 3) := by decide +kernel
theorem d141_14 : decode (mCode 141) 14 = .ok (.iconst 1, 1) := by decide +kernel
theorem d141_15 : decode (mCode 141) 15 = .ok (.invokevirtual 78, 3) := by decide +kernel
theorem d141_18 : decode (mCode 141) 18 = .ok (.ifCond .eq 7, 3) := by decide +kernel
theorem d141_21 : decode (mCode 141) 21 = .ok (.iconst 0, 1) := by decide +kernel
theorem d141_22 : decode (mCode 141) 22 = .ok (.goto 31, 3) := by decide +kernel
theorem d141_53 : decode (mCode 141) 53 = .ok (.ireturn, 1) := by decide +kernel
theorem d142_0 : decode (mCode 142) 0 = .ok (.aload_n 0, 1) := by decide +kernel
theorem d142_1 : decode (mCode 142) 1 = .ok (.aload_n 0, 1) := by decide +kernel
theorem d142_2 : decode (mCode 142) 2 = .ok (.iload_n 1, 1) := by decide +kernel
theorem d142_3 : decode (mCode 142) 3 = .ok (.iload_n 2, 1) := by decide +kernel
theorem d142_4 : decode (mCode 142) 4 = .ok (.invokevirtual 96, 3) := by decide +kernel
theorem d142_7 : decode (mCode 142) 7 = .ok (.ifCond .eq 7, 3) := by decide +kernel
theorem d142_14 : decode (mCode 142) 14 = .ok (.iconst 1, 1) := by decide +kernel
theorem d142_15 : decode (mCode 142) 15 = .ok (.invokevirtual 78, 3) := by decide +kernel
theorem d142_18 : decode (mCode 142) 18 = .ok (.ifCond .eq 5, 3) := by decide +kernel
theorem d142_21 : decode (mCode 142) 21 = .ok (.iconst 0, 1) := by decide +kernel
theorem d142_22 : decode (mCode 142) 22 = .ok (.ireturn, 1) := by decide +kernel
theorem d143_0 : decode (mCode 143) 0 = .ok (.aload_n 0, 1) := by decide +kernel
theorem d143_1 : decode (mCode 143) 1 = .ok (.aload_n 0, 1) := by decide +kernel
theorem d143_2 : decode (mCode 143) 2 = .ok (.iload_n 1, 1) := by decide +kernel
theorem d143_3 : decode (mCode 143) 3 = .ok (.invokevirtual 89, 3) := by decide +kernel
theorem d143_6 : decode (mCode 143) 6 = .ok (.ifCond .eq 23, 3) := by decide +kernel
theorem d143_29 : decode (mCode 143) 29 = .ok (.iconst 1, 1) := by decide +kernel
theorem d143_30 : decode (mCode 143) 30 = .ok (.invokevirtual 78, 3) := by decide +kernel
theorem d143_33 : decode (mCode 143) 33 = .ok (.ifCond .eq 7, 3) := by decide +kernel
theorem d143_36 : decode (mCode 143) 36 = .ok (.iconst 0, 1) := by decide +kernel
theorem d143_37 : decode (mCode 143) 37 = .ok (.goto 10, 3) := by decide +kernel
theorem d143_47 : decode (mCode 143) 47 = .ok (.ireturn, 1) := by decide +kernel
theorem d144_0 : decode (mCode 144) 0 = .ok (.aload_n 0, 1) := by decide +kernel
theorem d144_1 : decode (mCode 144) 1 = .ok (.iload_n 1, 1) := by decide +kernel
theorem d144_2 : decode (mCode 144) 2 = .ok (.invokevirtual 89, 3) := by decide +kernel
theorem d144_5 : decode (mCode 144) 5 = .ok (.ifCond .eq 32, 3) := by decide +kernel
theorem d144_37 : decode (mCode 144) 37 = .ok (.iconst 0, 1) := by decide +kernel
theorem d144_38 : decode (mCode 144) 38 = .ok (.istore 5, 2) := by decide +kernel
theorem d144_40 : decode (mCode 144) 40 = .ok (.aload_n 0, 1) := by decide +kernel
theorem d144_41 : decode (mCode 144) 41 = .ok (.iload 5, 2) := by decide +kernel
theorem d144_43 : decode (mCode 144) 43 = .ok (.ifCond .eq 17, 3) := by decide +kernel
theorem d144_60 : decode (mCode 144) 60 = .ok (.iconst 1, 1) := by decide +kernel
theorem d144_61 : decode (mCode 144) 61 = .ok (.invokevirtual 78, 3) := by decide +kernel
theorem d144_64 : decode (mCode 144) 64 = .ok (.ifCond .eq 5, 3) := by decide +kernel
theorem d144_67 : decode (mCode 144) 67 = .ok (.iconst 0, 1) := by decide +kernel
theorem d144_68 : decode (mCode 144) 68 = .ok (.ireturn, 1) := by decide +kernel
theorem d145_0 : decode (mCode 145) 0 = .ok (.aload_n 0, 1) := by decide +kernel
theorem d145_1 : decode (mCode 145) 1 = .ok (.iload_n 1, 1) := by decide +kernel
theorem d145_2 : decode (mCode 145) 2 = .ok (.iload_n 2, 1) := by decide +kernel
theorem d145_3 : decode (mCode 145) 3 = .ok (.invokestatic 74, 3) := by decide +kernel
theorem d145_6 : decode (mCode 145) 6 = .ok (.ifCond .eq 7, 3) := by decide +kernel
theorem d145_9 : decode (mCode 145) 9 = .ok (.iconst 0, 1) := by decide +kernel
theorem d145_10 : decode (mCode 145) 10 = .ok (.goto 4, 3) := by decide +kernel
theorem d145_13 : decode (mCode 145) 13 = .ok (.iconst 1, 1) := by decide +kernel
theorem d145_14 : decode (mCode 145) 14 = .ok (.invokevirtual 78, 3) := by decide +kernel
theorem d145_17 : decode (mCode 145) 17 = .ok (.ifCond .eq 5, 3) := by decide +kernel
theorem d145_20 : decode (mCode 145) 20 = .ok (.iconst 0, 1) := by decide +kernel
theorem d145_21 : decode (mCode 145) 21 = .ok (.ireturn, 1) := by decide +kernel
theorem d145_22 : decode (mCode 145) 22 = .ok (.aload_n 0, 1) := by decide +kernel
theorem d145_23 : decode (mCode 145) 23 = .ok (.invokevirtual 134, 3) := by decide +kernel
theorem d145_26 : decode (mCode 145) 26 = .ok (.aload_n 0, 1) := by decide +kernel
theorem d145_27 : decode (mCode 145) 27 = .ok (.getfield 7, 3) := by decide +kernel
theorem d145_30 : decode (mCode 145) 30 = .ok (.bipush 40, 2) := by decide +kernel
theorem d145_32 : decode (mCode 145) 32 = .ok (.iload_n 1, 1) := by decide +kernel
theorem d145_33 : decode (mCode 145) 33 = .ok (.i2l, 1) := by decide +kernel
theorem d145_34 : decode (mCode 145) 34 = .ok (.lastore, 1) := by decide +kernel
theorem d145_35 : decode (mCode 145) 35 = .ok (.aload_n 0, 1) := by decide +kernel
theorem d145_36 : decode (mCode 145) 36 = .ok (.getfield 13, 3) := by decide +kernel
theorem d145_39 : decode (mCode 145) 39 = .ok (.bipush 40, 2) := by decide +kernel
theorem d145_41 : decode (mCode 145) 41 = .ok (.iload_n 2, 1) := by decide +kernel
theorem d145_42 : decode (mCode 145) 42 = .ok (.i2l, 1) := by decide +kernel
theorem d145_43 : decode (mCode 145) 43 = .ok (.lastore, 1) := by decide +kernel
theorem d145_44 : decode (mCode 145) 44 = .ok (.aload_n 0, 1) := by decide +kernel
theorem d145_45 : decode (mCode 145) 45 = .ok (.bipush 40, 2) := by decide +kernel
theorem d145_47 : decode (mCode 145) 47 = .ok (.invokevirtual 143, 3) := by decide +kernel
theorem d145_50 : decode (mCode 145) 50 = .ok (.ireturn, 1) := by decide +kernel
theorem d146_0 : decode (mCode 146) 0 = .ok (.iconst 0, 1) := by decide +kernel
theorem d146_1 : decode (mCode 146) 1 = .ok (.istore_n 2, 1) := by decide +kernel
theorem d146_2 : decode (mCode 146) 2 = .ok (.iload_n 2, 1) := by decide +kernel
theorem d146_3 : decode (mCode 146) 3 = .ok (.aload_n 0, 1) := by decide +kernel
theorem d146_4 : decode (mCode 146) 4 = .ok (.getfield 124, 3) := by decide +kernel
theorem d146_7 : decode (mCode 146) 7 = .ok (.if_icmp .ge 78, 3) := by decide +kernel
theorem d146_85 : decode (mCode 146) 85 = .ok (.iconst (-1), 1) := by decide +kernel
theorem d146_86 : decode (mCode 146) 86 = .ok (.ireturn, 1) := by decide +kernel
theorem d147_0 : decode (mCode 147) 0 = .ok (.aload_n 0, 1) := by decide +kernel
theorem d147_1 : decode (mCode 147) 1 = .ok (.iload_n 1, 1) := by decide +kernel
theorem d147_2 : decode (mCode 147) 2 = .ok (.iload_n 2, 1) := by decide +kernel
theorem d147_3 : decode (mCode 147) 3 = .ok (.invokestatic 74, 3) := by decide +kernel
theorem d147_6 : decode (mCode 147) 6 = .ok (.ifCond .eq 16, 3) := by decide +kernel
theorem d147_9 : decode (mCode 147) 9 = .ok (.iload_n 3, 1) := by decide +kernel
theorem d147_10 : decode (mCode 147) 10 = .ok (.iload 4, 2) := by decide +kernel
theorem d147_12 : decode (mCode 147) 12 = .ok (.invokestatic 74, 3) := by decide +kernel
theorem d147_15 : decode (mCode 147) 15 = .ok (.ifCond .eq 7, 3) := by decide +kernel
theorem d147_18 : decode (mCode 147) 18 = .ok (.iconst 0, 1) := by decide +kernel
theorem d147_19 : decode (mCode 147) 19 = .ok (.goto 4, 3) := by decide +kernel
theorem d147_22 : decode (mCode 147) 22 = .ok (.iconst 1, 1) := by decide +kernel
theorem d147_23 : decode (mCode 147) 23 = .ok (.invokevirtual 78, 3) := by decide +kernel
theorem d147_26 : decode (mCode 147) 26 = .ok (.ifCond .eq 5, 3) := by decide +kernel
theorem d147_29 : decode (mCode 147) 29 = .ok (.iconst 0, 1) := by decide +kernel
theorem d147_30 : decode (mCode 147) 30 = .ok (.ireturn, 1) := by decide +kernel
theorem d147_31 : decode (mCode 147) 31 = .ok (.aload_n 0, 1) := by decide +kernel
theorem d147_32 : decode (mCode 147) 32 = .ok (.invokevirtual 134, 3) := by decide +kernel
theorem d147_35 : decode (mCode 147) 35 = .ok (.aload_n 0, 1) := by decide +kernel
theorem d147_36 : decode (mCode 147) 36 = .ok (.getfield 7, 3) := by decide +kernel
theorem d147_39 : decode (mCode 147) 39 = .ok (.bipush 40, 2) := by decide +kernel
theorem d147_41 : decode (mCode 147) 41 = .ok (.iload_n 1, 1) := by decide +kernel
theorem d147_42 : decode (mCode 147) 42 = .ok (.i2l, 1) := by decide +kernel
theorem d147_43 : decode (mCode 147) 43 = .ok (.lastore, 1) := by decide +kernel
theorem d147_44 : decode (mCode 147) 44 = .ok (.aload_n 0, 1) := by decide +kernel
theorem d147_45 : decode (mCode 147) 45 = .ok (.getfield 13, 3) := by decide +kernel
theorem d147_48 : decode (mCode 147) 48 = .ok (.bipush 40, 2) := by decide +kernel
theorem d147_50 : decode (mCode 147) 50 = .ok (.iload_n 2, 1) := by decide +kernel
theorem d147_51 : decode (mCode 147) 51 = .ok (.i2l, 1) := by decide +kernel
theorem d147_52 : decode (mCode 147) 52 = .ok (.lastore, 1) := by decide +kernel
theorem d147_53 : decode (mCode 147) 53 = .ok (.aload_n 0, 1) := by decide +kernel
theorem d147_54 : decode (mCode 147) 54 = .ok (.getfield 7, 3) := by decide +kernel
theorem d147_57 : decode (mCode 147) 57 = .ok (.bipush 41, 2) := by decide +kernel
theorem d147_59 : decode (mCode 147) 59 = .ok (.iload_n 3, 1) := by decide +kernel
theorem d147_60 : decode (mCode 147) 60 = .ok (.i2l, 1) := by decide +kernel
theorem d147_61 : decode (mCode 147) 61 = .ok (.lastore, 1) := by decide +kernel
theorem d147_62 : decode (mCode 147) 62 = .ok (.aload_n 0, 1) := by decide +kernel
theorem d147_63 : decode (mCode 147) 63 = .ok (.getfield 13, 3) := by decide +kernel
theorem d147_66 : decode (mCode 147) 66 = .ok (.bipush 41, 2) := by decide +kernel
theorem d147_68 : decode (mCode 147) 68 = .ok (.iload 4, 2) := by decide +kernel
theorem d147_70 : decode (mCode 147) 70 = .ok (.i2l, 1) := by decide +kernel
theorem d147_71 : decode (mCode 147) 71 = .ok (.lastore, 1) := by decide +kernel
theorem d147_72 : decode (mCode 147) 72 = .ok (.aload_n 0, 1) := by decide +kernel
theorem d147_73 : decode (mCode 147) 73 = .ok (.bipush 40, 2) := by decide +kernel
theorem d147_75 : decode (mCode 147) 75 = .ok (.invokevirtual 143, 3) := by decide +kernel
theorem d147_78 : decode (mCode 147) 78 = .ok (.istore 5, 2) := by decide +kernel
theorem d147_80 : decode (mCode 147) 80 = .ok (.aload_n 0, 1) := by decide +kernel
theorem d147_81 : decode (mCode 147) 81 = .ok (.bipush 41, 2) := by decide +kernel
theorem d147_83 : decode (mCode 147) 83 = .ok (.invokevirtual 143, 3) := by decide +kernel
theorem d147_86 : decode (mCode 147) 86 = .ok (.istore 6, 2) := by decide +kernel
theorem d147_88 : decode (mCode 147) 88 = .ok (.iload 5, 2) := by decide +kernel
theorem d147_90 : decode (mCode 147) 90 = .ok (.ifCond .lt 8, 3) := by decide +kernel
theorem d147_98 : decode (mCode 147) 98 = .ok (.iconst (-1), 1) := by decide +kernel
theorem d147_99 : decode (mCode 147) 99 = .ok (.ireturn, 1) := by decide +kernel
theorem d155_0 : decode (mCode 155) 0 = .ok (.aload_n 0, 1) := by decide +kernel
theorem d155_1 : decode (mCode 155) 1 = .ok (.iconst 0, 1) := by decide +kernel
theorem d155_2 : decode (mCode 155) 2 = .ok (.putfield 42, 3) := by decide +kernel
theorem d155_5 : decode (mCode 155) 5 = .ok (.iload_n 1, 1) := by decide +kernel
theorem d155_6 : decode (mCode 155) 6 = .ok (.iconst 0, 1) := by decide +kernel
theorem d155_7 : decode (mCode 155) 7 = .ok (.aload_n 0, 1) := by decide +kernel
theorem d155_8 : decode (mCode 155) 8 = .ok (.getfield 166, 3) := by decide +kernel
theorem d155_11 : decode (mCode 155) 11 = .ok (.iconst 1, 1) := by decide +kernel
theorem d155_12 : decode (mCode 155) 12 = .ok (.isub, 1) := by decide +kernel
theorem d155_13 : decode (mCode 155) 13 = .ok (.invokestatic 48, 3) := by decide +kernel
theorem d155_16 : decode (mCode 155) 16 = .ok (.ifCond .eq 12, 3) := by decide +kernel
theorem d155_28 : decode (mCode 155) 28 = .ok (.iconst (-1), 1) := by decide +kernel
theorem d155_29 : decode (mCode 155) 29 = .ok (.ireturn, 1) := by decide +kernel
theorem d156_0 : decode (mCode 156) 0 = .ok (.aload_n 0, 1) := by decide +kernel
theorem d156_1 : decode (mCode 156) 1 = .ok (.iconst 0, 1) := by decide +kernel
theorem d156_2 : decode (mCode 156) 2 = .ok (.putfield 42, 3) := by decide +kernel
theorem d156_5 : decode (mCode 156) 5 = .ok (.iload_n 1, 1) := by decide +kernel
theorem d156_6 : decode (mCode 156) 6 = .ok (.iconst 0, 1) := by decide +kernel
theorem d156_7 : decode (mCode 156) 7 = .ok (.aload_n 0, 1) := by decide +kernel
theorem d156_8 : decode (mCode 156) 8 = .ok (.getfield 154, 3) := by decide +kernel
theorem d156_11 : decode (mCode 156) 11 = .ok (.iconst 1, 1) := by decide +kernel
theorem d156_12 : decode (mCode 156) 12 = .ok (.isub, 1) := by decide +kernel
theorem d156_13 : decode (mCode 156) 13 = .ok (.invokestatic 48, 3) := by decide +kernel
theorem d156_16 : decode (mCode 156) 16 = .ok (.ifCond .eq 12, 3) := by decide +kernel
theorem d156_28 : decode (mCode 156) 28 = .ok (.iconst (-1), 1) := by decide +kernel
theorem d156_29 : decode (mCode 156) 29 = .ok (.ireturn, 1) := by decide +kernel
theorem d157_0 : decode (mCode 157) 0 = .ok (.aload_n 3, 1) := by decide +kernel
theorem d157_1 : decode (mCode 157) 1 = .ok (.iconst 0, 1) := by decide +kernel
theorem d157_2 : decode (mCode 157) 2 = .ok (.aload_n 0, 1) := by decide +kernel
theorem d157_3 : decode (mCode 157) 3 = .ok (.iload_n 1, 1) := by decide +kernel
theorem d157_4 : decode (mCode 157) 4 = .ok (.iload_n 2, 1) := by decide +kernel
theorem d157_5 : decode (mCode 157) 5 = .ok (.invokevirtual 7, 3) := by decide +kernel
theorem d157_8 : decode (mCode 157) 8 = .ok (.i2l, 1) := by decide +kernel
theorem d157_9 : decode (mCode 157) 9 = .ok (.lastore, 1) := by decide +kernel
theorem d157_10 : decode (mCode 157) 10 = .ok (.goto 11, 3) := by decide +kernel
theorem d157_13 : decode (mCode 157) 13 = .ok (.astore 4, 2) := by decide +kernel
theorem d157_15 : decode (mCode 157) 15 = .ok (.iconst 1, 1) := by decide +kernel
theorem d157_16 : decode (mCode 157) 16 = .ok (.ireturn, 1) := by decide +kernel
theorem d157_21 : decode (mCode 157) 21 = .ok (.iconst 0, 1) := by decide +kernel
theorem d157_22 : decode (mCode 157) 22 = .ok (.ireturn, 1) := by decide +kernel
theorem d158_0 : decode (mCode 158) 0 = .ok (.aload_n 3, 1) := by decide +kernel
theorem d158_1 : decode (mCode 158) 1 = .ok (.iconst 0, 1) := by decide +kernel
theorem d158_2 : decode (mCode 158) 2 = .ok (.aload_n 0, 1) := by decide +kernel
theorem d158_3 : decode (mCode 158) 3 = .ok (.iload_n 1, 1) := by decide +kernel
theorem d158_4 : decode (mCode 158) 4 = .ok (.iload_n 2, 1) := by decide +kernel
theorem d158_5 : decode (mCode 158) 5 = .ok (.invokevirtual 17, 3) := by decide +kernel
theorem d158_20 : decode (mCode 158) 20 = .ok (.astore 4, 2) := by decide +kernel
theorem d158_22 : decode (mCode 158) 22 = .ok (.iconst 1, 1) := by decide +kernel
theorem d158_23 : decode (mCode 158) 23 = .ok (.ireturn, 1) := by decide +kernel
theorem d159_0 : decode (mCode 159) 0 = .ok (.aload_n 3, 1) := by decide +kernel
theorem d159_1 : decode (mCode 159) 1 = .ok (.iconst 0, 1) := by decide +kernel
theorem d159_2 : decode (mCode 159) 2 = .ok (.aload_n 0, 1) := by decide +kernel
theorem d159_3 : decode (mCode 159) 3 = .ok (.iload_n 1, 1) := by decide +kernel
theorem d159_4 : decode (mCode 159) 4 = .ok (.iload_n 2, 1) := by decide +kernel
theorem d159_5 : decode (mCode 159) 5 = .ok (.invokevirtual 21, 3) := by decide +kernel
theorem d159_20 : decode (mCode 159) 20 = .ok (.astore 4, 2) := by decide +kernel
theorem d159_22 : decode (mCode 159) 22 = .ok (.iconst 1, 1) := by decide +kernel
theorem d159_23 : decode (mCode 159) 23 = .ok (.ireturn, 1) := by decide +kernel
theorem d160_0 : decode (mCode 160) 0 = .ok (.aload_n 3, 1) := by decide +kernel
theorem d160_1 : decode (mCode 160) 1 = .ok (.iconst 0, 1) := by decide +kernel
theorem d160_2 : decode (mCode 160) 2 = .ok (.aload_n 0, 1) := by decide +kernel
theorem d160_3 : decode (mCode 160) 3 = .ok (.iload_n 1, 1) := by decide +kernel
theorem d160_4 : decode (mCode 160) 4 = .ok (.iload_n 2, 1) := by decide +kernel
theorem d160_5 : decode (mCode 160) 5 = .ok (.invokevirtual 24, 3) := by decide +kernel
theorem d160_13 : decode (mCode 160) 13 = .ok (.astore 4, 2) := by decide +kernel
theorem d160_15 : decode (mCode 160) 15 = .ok (.iconst 1, 1) := by decide +kernel
theorem d160_16 : decode (mCode 160) 16 = .ok (.ireturn, 1) := by decide +kernel
theorem d161_0 : decode (mCode 161) 0 = .ok (.aload_n 3, 1) := by decide +kernel
theorem d161_1 : decode (mCode 161) 1 = .ok (.iconst 0, 1) := by decide +kernel
theorem d161_2 : decode (mCode 161) 2 = .ok (.aload_n 0, 1) := by decide +kernel
theorem d161_3 : decode (mCode 161) 3 = .ok (.iload_n 1, 1) := by decide +kernel
theorem d161_4 : decode (mCode 161) 4 = .ok (.iload_n 2, 1) := by decide +kernel
theorem d161_5 : decode (mCode 161) 5 = .ok (.invokevirtual 29, 3) := by decide +kernel
theorem d161_13 : decode (mCode 161) 13 = .ok (.astore 4, 2) := by decide +kernel
theorem d161_15 : decode (mCode 161) 15 = .ok (.iconst 1, 1) := by decide +kernel
theorem d161_16 : decode (mCode 161) 16 = .ok (.ireturn, 1) := by decide +kernel
theorem d162_0 : decode (mCode 162) 0 = .ok (.aload_n 3, 1) := by decide +kernel
theorem d162_1 : decode (mCode 162) 1 = .ok (.iconst 0, 1) := by decide +kernel
theorem d162_2 : decode (mCode 162) 2 = .ok (.aload_n 0, 1) := by decide +kernel
theorem d162_3 : decode (mCode 162) 3 = .ok (.iload_n 1, 1) := by decide +kernel
theorem d162_4 : decode (mCode 162) 4 = .ok (.iload_n 2, 1) := by decide +kernel
theorem d162_5 : decode (mCode 162) 5 = .ok (.invokevirtual 32, 3) := by decide +kernel
theorem d162_13 : decode (mCode 162) 13 = .ok (.astore 4, 2) := by decide +kernel
theorem d162_15 : decode (mCode 162) 15 = .ok (.iconst 1, 1) := by decide +kernel
theorem d162_16 : decode (mCode 162) 16 = .ok (.ireturn, 1) := by decide +kernel
theorem d163_0 : decode (mCode 163) 0 = .ok (.aload 4, 2) := by decide +kernel
theorem d163_2 : decode (mCode 163) 2 = .ok (.iconst 0, 1) := by decide +kernel
theorem d163_3 : decode (mCode 163) 3 = .ok (.aload_n 0, 1) := by decide +kernel
theorem d163_4 : decode (mCode 163) 4 = .ok (.iload_n 1, 1) := by decide +kernel
theorem d163_5 : decode (mCode 163) 5 = .ok (.iload_n 2, 1) := by decide +kernel
theorem d163_6 : decode (mCode 163) 6 = .ok (.iload_n 3, 1) := by decide +kernel
theorem d163_7 : decode (mCode 163) 7 = .ok (.invokevirtual 35, 3) := by decide +kernel
theorem d163_15 : decode (mCode 163) 15 = .ok (.astore 5, 2) := by decide +kernel
theorem d163_17 : decode (mCode 163) 17 = .ok (.iconst 1, 1) := by decide +kernel
theorem d163_18 : decode (mCode 163) 18 = .ok (.ireturn, 1) := by decide +kernel
theorem d164_0 : decode (mCode 164) 0 = .ok (.aload 5, 2) := by decide +kernel
theorem d164_2 : decode (mCode 164) 2 = .ok (.iconst 0, 1) := by decide +kernel
theorem d164_3 : decode (mCode 164) 3 = .ok (.aload_n 0, 1) := by decide +kernel
theorem d164_4 : decode (mCode 164) 4 = .ok (.iload_n 1, 1) := by decide +kernel
theorem d164_5 : decode (mCode 164) 5 = .ok (.iload_n 2, 1) := by decide +kernel
theorem d164_6 : decode (mCode 164) 6 = .ok (.iload_n 3, 1) := by decide +kernel
theorem d164_7 : decode (mCode 164) 7 = .ok (.iload 4, 2) := by decide +kernel
theorem d164_9 : decode (mCode 164) 9 = .ok (.invokevirtual 39, 3) := by decide +kernel
theorem d164_17 : decode (mCode 164) 17 = .ok (.astore 6, 2) := by decide +kernel
theorem d164_19 : decode (mCode 164) 19 = .ok (.iconst 1, 1) := by decide +kernel
theorem d164_20 : decode (mCode 164) 20 = .ok (.ireturn, 1) := by decide +kernel
theorem d165_0 : decode (mCode 165) 0 = .ok (.aload_n 3, 1) := by decide +kernel
theorem d165_1 : decode (mCode 165) 1 = .ok (.iconst 0, 1) := by decide +kernel
theorem d165_2 : decode (mCode 165) 2 = .ok (.aload_n 0, 1) := by decide +kernel
theorem d165_3 : decode (mCode 165) 3 = .ok (.iload_n 1, 1) := by decide +kernel
theorem d165_4 : decode (mCode 165) 4 = .ok (.iload_n 2, 1) := by decide +kernel
theorem d165_5 : decode (mCode 165) 5 = .ok (.invokevirtual 43, 3) := by decide +kernel
theorem d165_8 : decode (mCode 165) 8 = .ok (.i2l, 1) := by decide +kernel
theorem d165_9 : decode (mCode 165) 9 = .ok (.lastore, 1) := by decide +kernel
theorem d165_10 : decode (mCode 165) 10 = .ok (.goto 7, 3) := by decide +kernel
theorem d165_13 : decode (mCode 165) 13 = .ok (.astore 4, 2) := by decide +kernel
theorem d165_15 : decode (mCode 165) 15 = .ok (.iconst 1, 1) := by decide +kernel
theorem d165_16 : decode (mCode 165) 16 = .ok (.ireturn, 1) := by decide +kernel
theorem d165_17 : decode (mCode 165) 17 = .ok (.iconst 0, 1) := by decide +kernel
theorem d165_18 : decode (mCode 165) 18 = .ok (.ireturn, 1) := by decide +kernel
theorem d166_0 : decode (mCode 166) 0 = .ok (.aload 5, 2) := by decide +kernel
theorem d166_2 : decode (mCode 166) 2 = .ok (.iconst 0, 1) := by decide +kernel
theorem d166_3 : decode (mCode 166) 3 = .ok (.aload_n 0, 1) := by decide +kernel
theorem d166_4 : decode (mCode 166) 4 = .ok (.iload_n 1, 1) := by decide +kernel
theorem d166_5 : decode (mCode 166) 5 = .ok (.iload_n 2, 1) := by decide +kernel
theorem d166_6 : decode (mCode 166) 6 = .ok (.iload_n 3, 1) := by decide +kernel
theorem d166_7 : decode (mCode 166) 7 = .ok (.iload 4, 2) := by decide +kernel
theorem d166_9 : decode (mCode 166) 9 = .ok (.invokevirtual 46, 3) := by decide +kernel
theorem d166_12 : decode (mCode 166) 12 = .ok (.i2l, 1) := by decide +kernel
theorem d166_13 : decode (mCode 166) 13 = .ok (.lastore, 1) := by decide +kernel
theorem d166_14 : decode (mCode 166) 14 = .ok (.goto 7, 3) := by decide +kernel
theorem d166_17 : decode (mCode 166) 17 = .ok (.astore 6, 2) := by decide +kernel
theorem d166_19 : decode (mCode 166) 19 = .ok (.iconst 1, 1) := by decide +kernel
theorem d166_20 : decode (mCode 166) 20 = .ok (.ireturn, 1) := by decide +kernel
theorem d166_21 : decode (mCode 166) 21 = .ok (.iconst 0, 1) := by decide +kernel
theorem d166_22 : decode (mCode 166) 22 = .ok (.ireturn, 1) := by decide +kernel
theorem d171_108 : decode (mCode 171) 108 = .ok (.aload_n 1, 1) := by decide +kernel
theorem d171_109 : decode (mCode 171) 109 = .ok (.aload_n 0, 1) := by decide +kernel
theorem d171_110 : decode (mCode 171) 110 = .ok (.iload 4, 2) := by decide +kernel
theorem d171_112 : decode (mCode 171) 112 = .ok (.iconst 1, 1) := by decide +kernel
theorem d171_113 : decode (mCode 171) 113 = .ok (.iadd, 1) := by decide +kernel
theorem d171_114 : decode (mCode 171) 114 = .ok (.iaload, 1) := by decide +kernel
theorem d171_115 : decode (mCode 171) 115 = .ok (.aload_n 0, 1) := by decide +kernel
theorem d171_116 : decode (mCode 171) 116 = .ok (.iload 4, 2) := by decide +kernel
theorem d171_118 : decode (mCode 171) 118 = .ok (.iconst 2, 1) := by decide +kernel
theorem d171_119 : decode (mCode 171) 119 = .ok (.iadd, 1) := by decide +kernel
theorem d171_120 : decode (mCode 171) 120 = .ok (.iaload, 1) := by decide +kernel
theorem d171_121 : decode (mCode 171) 121 = .ok (.aload_n 3, 1) := by decide +kernel
theorem d171_122 : decode (mCode 171) 122 = .ok (.invokestatic 53, 3) := by decide +kernel
theorem d171_125 : decode (mCode 171) 125 = .ok (.istore 5, 2) := by decide +kernel
theorem d171_127 : decode (mCode 171) 127 = .ok (.aload_n 2, 1) := by decide +kernel
theorem d171_128 : decode (mCode 171) 128 = .ok (.aload_n 0, 1) := by decide +kernel
theorem d171_129 : decode (mCode 171) 129 = .ok (.iload 4, 2) := by decide +kernel
theorem d171_131 : decode (mCode 171) 131 = .ok (.iconst 1, 1) := by decide +kernel
theorem d171_132 : decode (mCode 171) 132 = .ok (.iadd, 1) := by decide +kernel
theorem d171_133 : decode (mCode 171) 133 = .ok (.iaload, 1) := by decide +kernel
theorem d171_134 : decode (mCode 171) 134 = .ok (.aload_n 0, 1) := by decide +kernel
theorem d171_135 : decode (mCode 171) 135 = .ok (.iload 4, 2) := by decide +kernel
theorem d171_137 : decode (mCode 171) 137 = .ok (.iconst 2, 1) := by decide +kernel
theorem d171_138 : decode (mCode 171) 138 = .ok (.iadd, 1) := by decide +kernel
theorem d171_139 : decode (mCode 171) 139 = .ok (.iaload, 1) := by decide +kernel
theorem d171_140 : decode (mCode 171) 140 = .ok (.invokevirtual 58, 3) := by decide +kernel
theorem d171_143 : decode (mCode 171) 143 = .ok (.istore 6, 2) := by decide +kernel
theorem d171_145 : decode (mCode 171) 145 = .ok (.aload_n 2, 1) := by decide +kernel
theorem d171_146 : decode (mCode 171) 146 = .ok (.invokevirtual 59, 3) := by decide +kernel
theorem d171_149 : decode (mCode 171) 149 = .ok (.iload 5, 2) := by decide +kernel
theorem d171_151 : decode (mCode 171) 151 = .ok (.if_icmp .eq 5, 3) := by decide +kernel
theorem d171_156 : decode (mCode 171) 156 = .ok (.iload 5, 2) := by decide +kernel
theorem d171_158 : decode (mCode 171) 158 = .ok (.ifCond .ne 15, 3) := by decide +kernel
theorem d171_161 : decode (mCode 171) 161 = .ok (.aload_n 3, 1) := by decide +kernel
theorem d171_162 : decode (mCode 171) 162 = .ok (.iconst 0, 1) := by decide +kernel
theorem d171_163 : decode (mCode 171) 163 = .ok (.laload, 1) := by decide +kernel
theorem d171_164 : decode (mCode 171) 164 = .ok (.iload 6, 2) := by decide +kernel
theorem d171_166 : decode (mCode 171) 166 = .ok (.i2l, 1) := by decide +kernel
theorem d171_167 : decode (mCode 171) 167 = .ok (.lcmp, 1) := by decide +kernel
theorem d171_168 : decode (mCode 171) 168 = .ok (.ifCond .eq 5, 3) := by decide +kernel
theorem d171_173 : decode (mCode 171) 173 = .ok (.goto 777, 3) := by decide +kernel
theorem d171_176 : decode (mCode 171) 176 = .ok (.aload_n 1, 1) := by decide +kernel
theorem d171_177 : decode (mCode 171) 177 = .ok (.aload_n 0, 1) := by decide +kernel
theorem d171_178 : decode (mCode 171) 178 = .ok (.iload 4, 2) := by decide +kernel
theorem d171_180 : decode (mCode 171) 180 = .ok (.iconst 1, 1) := by decide +kernel
theorem d171_181 : decode (mCode 171) 181 = .ok (.iadd, 1) := by decide +kernel
theorem d171_182 : decode (mCode 171) 182 = .ok (.iaload, 1) := by decide +kernel
theorem d171_183 : decode (mCode 171) 183 = .ok (.aload_n 0, 1) := by decide +kernel
theorem d171_184 : decode (mCode 171) 184 = .ok (.iload 4, 2) := by decide +kernel
theorem d171_186 : decode (mCode 171) 186 = .ok (.iconst 2, 1) := by decide +kernel
theorem d171_187 : decode (mCode 171) 187 = .ok (.iadd, 1) := by decide +kernel
theorem d171_188 : decode (mCode 171) 188 = .ok (.iaload, 1) := by decide +kernel
theorem d171_189 : decode (mCode 171) 189 = .ok (.aload_n 3, 1) := by decide +kernel
theorem d171_190 : decode (mCode 171) 190 = .ok (.invokestatic 63, 3) := by decide +kernel
theorem d171_193 : decode (mCode 171) 193 = .ok (.istore 5, 2) := by decide +kernel
theorem d171_195 : decode (mCode 171) 195 = .ok (.aload_n 2, 1) := by decide +kernel
theorem d171_196 : decode (mCode 171) 196 = .ok (.aload_n 0, 1) := by decide +kernel
theorem d171_197 : decode (mCode 171) 197 = .ok (.iload 4, 2) := by decide +kernel
theorem d171_199 : decode (mCode 171) 199 = .ok (.iconst 1, 1) := by decide +kernel
theorem d171_200 : decode (mCode 171) 200 = .ok (.iadd, 1) := by decide +kernel
theorem d171_201 : decode (mCode 171) 201 = .ok (.iaload, 1) := by decide +kernel
theorem d171_202 : decode (mCode 171) 202 = .ok (.aload_n 0, 1) := by decide +kernel
theorem d171_203 : decode (mCode 171) 203 = .ok (.iload 4, 2) := by decide +kernel
theorem d171_205 : decode (mCode 171) 205 = .ok (.iconst 2, 1) := by decide +kernel
theorem d171_206 : decode (mCode 171) 206 = .ok (.iadd, 1) := by decide +kernel
theorem d171_207 : decode (mCode 171) 207 = .ok (.iaload, 1) := by decide +kernel
theorem d171_208 : decode (mCode 171) 208 = .ok (.invokevirtual 65, 3) := by decide +kernel
theorem d171_211 : decode (mCode 171) 211 = .ok (.istore 6, 2) := by decide +kernel
theorem d171_213 : decode (mCode 171) 213 = .ok (.aload_n 2, 1) := by decide +kernel
theorem d171_214 : decode (mCode 171) 214 = .ok (.invokevirtual 59, 3) := by decide +kernel
theorem d171_217 : decode (mCode 171) 217 = .ok (.iload 5, 2) := by decide +kernel
theorem d171_219 : decode (mCode 171) 219 = .ok (.if_icmp .eq 5, 3) := by decide +kernel
theorem d171_224 : decode (mCode 171) 224 = .ok (.iload 5, 2) := by decide +kernel
theorem d171_226 : decode (mCode 171) 226 = .ok (.ifCond .ne 22, 3) := by decide +kernel
theorem d171_248 : decode (mCode 171) 248 = .ok (.goto 702, 3) := by decide +kernel
theorem d171_251 : decode (mCode 171) 251 = .ok (.aload_n 1, 1) := by decide +kernel
theorem d171_252 : decode (mCode 171) 252 = .ok (.aload_n 0, 1) := by decide +kernel
theorem d171_253 : decode (mCode 171) 253 = .ok (.iload 4, 2) := by decide +kernel
theorem d171_255 : decode (mCode 171) 255 = .ok (.iconst 1, 1) := by decide +kernel
theorem d171_256 : decode (mCode 171) 256 = .ok (.iadd, 1) := by decide +kernel
theorem d171_257 : decode (mCode 171) 257 = .ok (.iaload, 1) := by decide +kernel
theorem d171_258 : decode (mCode 171) 258 = .ok (.aload_n 0, 1) := by decide +kernel
theorem d171_259 : decode (mCode 171) 259 = .ok (.iload 4, 2) := by decide +kernel
theorem d171_261 : decode (mCode 171) 261 = .ok (.iconst 2, 1) := by decide +kernel
theorem d171_262 : decode (mCode 171) 262 = .ok (.iadd, 1) := by decide +kernel
theorem d171_263 : decode (mCode 171) 263 = .ok (.iaload, 1) := by decide +kernel
theorem d171_264 : decode (mCode 171) 264 = .ok (.aload_n 3, 1) := by decide +kernel
theorem d171_265 : decode (mCode 171) 265 = .ok (.invokestatic 66, 3) := by decide +kernel
theorem d171_268 : decode (mCode 171) 268 = .ok (.istore 5, 2) := by decide +kernel
theorem d171_270 : decode (mCode 171) 270 = .ok (.aload_n 2, 1) := by decide +kernel
theorem d171_271 : decode (mCode 171) 271 = .ok (.aload_n 0, 1) := by decide +kernel
theorem d171_272 : decode (mCode 171) 272 = .ok (.iload 4, 2) := by decide +kernel
theorem d171_274 : decode (mCode 171) 274 = .ok (.iconst 1, 1) := by decide +kernel
theorem d171_275 : decode (mCode 171) 275 = .ok (.iadd, 1) := by decide +kernel
theorem d171_276 : decode (mCode 171) 276 = .ok (.iaload, 1) := by decide +kernel
theorem d171_277 : decode (mCode 171) 277 = .ok (.aload_n 0, 1) := by decide +kernel
theorem d171_278 : decode (mCode 171) 278 = .ok (.iload 4, 2) := by decide +kernel
theorem d171_280 : decode (mCode 171) 280 = .ok (.iconst 2, 1) := by decide +kernel
theorem d171_281 : decode (mCode 171) 281 = .ok (.iadd, 1) := by decide +kernel
theorem d171_282 : decode (mCode 171) 282 = .ok (.iaload, 1) := by decide +kernel
theorem d171_283 : decode (mCode 171) 283 = .ok (.invokevirtual 68, 3) := by decide +kernel
theorem d171_286 : decode (mCode 171) 286 = .ok (.istore 6, 2) := by decide +kernel
theorem d171_288 : decode (mCode 171) 288 = .ok (.aload_n 2, 1) := by decide +kernel
theorem d171_289 : decode (mCode 171) 289 = .ok (.invokevirtual 59, 3) := by decide +kernel
theorem d171_292 : decode (mCode 171) 292 = .ok (.iload 5, 2) := by decide +kernel
theorem d171_294 : decode (mCode 171) 294 = .ok (.if_icmp .eq 5, 3) := by decide +kernel
theorem d171_299 : decode (mCode 171) 299 = .ok (.iload 5, 2) := by decide +kernel
theorem d171_301 : decode (mCode 171) 301 = .ok (.ifCond .ne 22, 3) := by decide +kernel
theorem d171_323 : decode (mCode 171) 323 = .ok (.goto 627, 3) := by decide +kernel
theorem d171_326 : decode (mCode 171) 326 = .ok (.aload_n 1, 1) := by decide +kernel
theorem d171_327 : decode (mCode 171) 327 = .ok (.invokevirtual 69, 3) := by decide +kernel
theorem d171_330 : decode (mCode 171) 330 = .ok (.aload_n 2, 1) := by decide +kernel
theorem d171_331 : decode (mCode 171) 331 = .ok (.invokevirtual 72, 3) := by decide +kernel
theorem d171_334 : decode (mCode 171) 334 = .ok (.if_icmp .eq 616, 3) := by decide +kernel
theorem d171_339 : decode (mCode 171) 339 = .ok (.aload_n 1, 1) := by decide +kernel
theorem d171_340 : decode (mCode 171) 340 = .ok (.aload_n 0, 1) := by decide +kernel
theorem d171_341 : decode (mCode 171) 341 = .ok (.iload 4, 2) := by decide +kernel
theorem d171_343 : decode (mCode 171) 343 = .ok (.iconst 1, 1) := by decide +kernel
theorem d171_344 : decode (mCode 171) 344 = .ok (.iadd, 1) := by decide +kernel
theorem d171_345 : decode (mCode 171) 345 = .ok (.iaload, 1) := by decide +kernel
theorem d171_346 : decode (mCode 171) 346 = .ok (.invokevirtual 73, 3) := by decide +kernel
theorem d171_349 : decode (mCode 171) 349 = .ok (.aload_n 2, 1) := by decide +kernel
theorem d171_350 : decode (mCode 171) 350 = .ok (.aload_n 0, 1) := by decide +kernel
theorem d171_351 : decode (mCode 171) 351 = .ok (.iload 4, 2) := by decide +kernel
theorem d171_353 : decode (mCode 171) 353 = .ok (.iconst 1, 1) := by decide +kernel
theorem d171_354 : decode (mCode 171) 354 = .ok (.iadd, 1) := by decide +kernel
theorem d171_355 : decode (mCode 171) 355 = .ok (.iaload, 1) := by decide +kernel
theorem d171_356 : decode (mCode 171) 356 = .ok (.invokevirtual 77, 3) := by decide +kernel
theorem d171_359 : decode (mCode 171) 359 = .ok (.if_icmp .eq 591, 3) := by decide +kernel
theorem d171_364 : decode (mCode 171) 364 = .ok (.aload_n 1, 1) := by decide +kernel
theorem d171_365 : decode (mCode 171) 365 = .ok (.aload_n 0, 1) := by decide +kernel
theorem d171_366 : decode (mCode 171) 366 = .ok (.iload 4, 2) := by decide +kernel
theorem d171_368 : decode (mCode 171) 368 = .ok (.iconst 1, 1) := by decide +kernel
theorem d171_369 : decode (mCode 171) 369 = .ok (.iadd, 1) := by decide +kernel
theorem d171_370 : decode (mCode 171) 370 = .ok (.iaload, 1) := by decide +kernel
theorem d171_371 : decode (mCode 171) 371 = .ok (.aload_n 0, 1) := by decide +kernel
theorem d171_372 : decode (mCode 171) 372 = .ok (.iload 4, 2) := by decide +kernel
theorem d171_374 : decode (mCode 171) 374 = .ok (.iconst 2, 1) := by decide +kernel
theorem d171_375 : decode (mCode 171) 375 = .ok (.iadd, 1) := by decide +kernel
theorem d171_376 : decode (mCode 171) 376 = .ok (.iaload, 1) := by decide +kernel
theorem d171_377 : decode (mCode 171) 377 = .ok (.aload_n 3, 1) := by decide +kernel
theorem d171_378 : decode (mCode 171) 378 = .ok (.invokestatic 78, 3) := by decide +kernel
theorem d171_381 : decode (mCode 171) 381 = .ok (.istore 5, 2) := by decide +kernel
theorem d171_383 : decode (mCode 171) 383 = .ok (.aload_n 2, 1) := by decide +kernel
theorem d171_384 : decode (mCode 171) 384 = .ok (.aload_n 0, 1) := by decide +kernel
theorem d171_385 : decode (mCode 171) 385 = .ok (.iload 4, 2) := by decide +kernel
theorem d171_387 : decode (mCode 171) 387 = .ok (.iconst 1, 1) := by decide +kernel
theorem d171_388 : decode (mCode 171) 388 = .ok (.iadd, 1) := by decide +kernel
theorem d171_389 : decode (mCode 171) 389 = .ok (.iaload, 1) := by decide +kernel
theorem d171_390 : decode (mCode 171) 390 = .ok (.aload_n 0, 1) := by decide +kernel
theorem d171_391 : decode (mCode 171) 391 = .ok (.iload 4, 2) := by decide +kernel
theorem d171_393 : decode (mCode 171) 393 = .ok (.iconst 2, 1) := by decide +kernel
theorem d171_394 : decode (mCode 171) 394 = .ok (.iadd, 1) := by decide +kernel
theorem d171_395 : decode (mCode 171) 395 = .ok (.iaload, 1) := by decide +kernel
theorem d171_396 : decode (mCode 171) 396 = .ok (.invokevirtual 80, 3) := by decide +kernel
theorem d171_399 : decode (mCode 171) 399 = .ok (.istore 6, 2) := by decide +kernel
theorem d171_401 : decode (mCode 171) 401 = .ok (.aload_n 2, 1) := by decide +kernel
theorem d171_402 : decode (mCode 171) 402 = .ok (.invokevirtual 59, 3) := by decide +kernel
theorem d171_405 : decode (mCode 171) 405 = .ok (.iload 5, 2) := by decide +kernel
theorem d171_407 : decode (mCode 171) 407 = .ok (.if_icmp .eq 5, 3) := by decide +kernel
theorem d171_412 : decode (mCode 171) 412 = .ok (.iload 5, 2) := by decide +kernel
theorem d171_414 : decode (mCode 171) 414 = .ok (.ifCond .ne 15, 3) := by decide +kernel
theorem d171_429 : decode (mCode 171) 429 = .ok (.goto 521, 3) := by decide +kernel
theorem d171_432 : decode (mCode 171) 432 = .ok (.aload_n 1, 1) := by decide +kernel
theorem d171_433 : decode (mCode 171) 433 = .ok (.aload_n 0, 1) := by decide +kernel
theorem d171_434 : decode (mCode 171) 434 = .ok (.iload 4, 2) := by decide +kernel
theorem d171_436 : decode (mCode 171) 436 = .ok (.iconst 1, 1) := by decide +kernel
theorem d171_437 : decode (mCode 171) 437 = .ok (.iadd, 1) := by decide +kernel
theorem d171_438 : decode (mCode 171) 438 = .ok (.iaload, 1) := by decide +kernel
theorem d171_439 : decode (mCode 171) 439 = .ok (.aload_n 0, 1) := by decide +kernel
theorem d171_440 : decode (mCode 171) 440 = .ok (.iload 4, 2) := by decide +kernel
theorem d171_442 : decode (mCode 171) 442 = .ok (.iconst 2, 1) := by decide +kernel
theorem d171_443 : decode (mCode 171) 443 = .ok (.iadd, 1) := by decide +kernel
theorem d171_444 : decode (mCode 171) 444 = .ok (.iaload, 1) := by decide +kernel
theorem d171_445 : decode (mCode 171) 445 = .ok (.aload_n 3, 1) := by decide +kernel
theorem d171_446 : decode (mCode 171) 446 = .ok (.invokestatic 81, 3) := by decide +kernel
theorem d171_449 : decode (mCode 171) 449 = .ok (.istore 5, 2) := by decide +kernel
theorem d171_451 : decode (mCode 171) 451 = .ok (.aload_n 2, 1) := by decide +kernel
theorem d171_452 : decode (mCode 171) 452 = .ok (.aload_n 0, 1) := by decide +kernel
theorem d171_453 : decode (mCode 171) 453 = .ok (.iload 4, 2) := by decide +kernel
theorem d171_455 : decode (mCode 171) 455 = .ok (.iconst 1, 1) := by decide +kernel
theorem d171_456 : decode (mCode 171) 456 = .ok (.iadd, 1) := by decide +kernel
theorem d171_457 : decode (mCode 171) 457 = .ok (.iaload, 1) := by decide +kernel
theorem d171_458 : decode (mCode 171) 458 = .ok (.aload_n 0, 1) := by decide +kernel
theorem d171_459 : decode (mCode 171) 459 = .ok (.iload 4, 2) := by decide +kernel
theorem d171_461 : decode (mCode 171) 461 = .ok (.iconst 2, 1) := by decide +kernel
theorem d171_462 : decode (mCode 171) 462 = .ok (.iadd, 1) := by decide +kernel
theorem d171_463 : decode (mCode 171) 463 = .ok (.iaload, 1) := by decide +kernel
theorem d171_464 : decode (mCode 171) 464 = .ok (.invokevirtual 83, 3) := by decide +kernel
theorem d171_467 : decode (mCode 171) 467 = .ok (.istore 6, 2) := by decide +kernel
theorem d171_469 : decode (mCode 171) 469 = .ok (.aload_n 2, 1) := by decide +kernel
theorem d171_470 : decode (mCode 171) 470 = .ok (.invokevirtual 59, 3) := by decide +kernel
theorem d171_473 : decode (mCode 171) 473 = .ok (.iload 5, 2) := by decide +kernel
theorem d171_475 : decode (mCode 171) 475 = .ok (.if_icmp .eq 5, 3) := by decide +kernel
theorem d171_480 : decode (mCode 171) 480 = .ok (.iload 5, 2) := by decide +kernel
theorem d171_482 : decode (mCode 171) 482 = .ok (.ifCond .ne 15, 3) := by decide +kernel
theorem d171_497 : decode (mCode 171) 497 = .ok (.goto 453, 3) := by decide +kernel
theorem d171_500 : decode (mCode 171) 500 = .ok (.aload_n 1, 1) := by decide +kernel
theorem d171_501 : decode (mCode 171) 501 = .ok (.aload_n 0, 1) := by decide +kernel
theorem d171_502 : decode (mCode 171) 502 = .ok (.iload 4, 2) := by decide +kernel
theorem d171_504 : decode (mCode 171) 504 = .ok (.iconst 1, 1) := by decide +kernel
theorem d171_505 : decode (mCode 171) 505 = .ok (.iadd, 1) := by decide +kernel
theorem d171_506 : decode (mCode 171) 506 = .ok (.iaload, 1) := by decide +kernel
theorem d171_507 : decode (mCode 171) 507 = .ok (.aload_n 0, 1) := by decide +kernel
theorem d171_508 : decode (mCode 171) 508 = .ok (.iload 4, 2) := by decide +kernel
theorem d171_510 : decode (mCode 171) 510 = .ok (.iconst 2, 1) := by decide +kernel
theorem d171_511 : decode (mCode 171) 511 = .ok (.iadd, 1) := by decide +kernel
theorem d171_512 : decode (mCode 171) 512 = .ok (.iaload, 1) := by decide +kernel
theorem d171_513 : decode (mCode 171) 513 = .ok (.aload_n 3, 1) := by decide +kernel
theorem d171_514 : decode (mCode 171) 514 = .ok (.invokestatic 84, 3) := by decide +kernel
theorem d171_517 : decode (mCode 171) 517 = .ok (.istore 5, 2) := by decide +kernel
theorem d171_519 : decode (mCode 171) 519 = .ok (.aload_n 2, 1) := by decide +kernel
theorem d171_520 : decode (mCode 171) 520 = .ok (.aload_n 0, 1) := by decide +kernel
theorem d171_521 : decode (mCode 171) 521 = .ok (.iload 4, 2) := by decide +kernel
theorem d171_523 : decode (mCode 171) 523 = .ok (.iconst 1, 1) := by decide +kernel
theorem d171_524 : decode (mCode 171) 524 = .ok (.iadd, 1) := by decide +kernel
theorem d171_525 : decode (mCode 171) 525 = .ok (.iaload, 1) := by decide +kernel
theorem d171_526 : decode (mCode 171) 526 = .ok (.aload_n 0, 1) := by decide +kernel
theorem d171_527 : decode (mCode 171) 527 = .ok (.iload 4, 2) := by decide +kernel
theorem d171_529 : decode (mCode 171) 529 = .ok (.iconst 2, 1) := by decide +kernel
theorem d171_530 : decode (mCode 171) 530 = .ok (.iadd, 1) := by decide +kernel
theorem d171_531 : decode (mCode 171) 531 = .ok (.iaload, 1) := by decide +kernel
theorem d171_532 : decode (mCode 171) 532 = .ok (.invokevirtual 86, 3) := by decide +kernel
theorem d171_535 : decode (mCode 171) 535 = .ok (.istore 6, 2) := by decide +kernel
theorem d171_537 : decode (mCode 171) 537 = .ok (.aload_n 2, 1) := by decide +kernel
theorem d171_538 : decode (mCode 171) 538 = .ok (.invokevirtual 59, 3) := by decide +kernel
theorem d171_541 : decode (mCode 171) 541 = .ok (.iload 5, 2) := by decide +kernel
theorem d171_543 : decode (mCode 171) 543 = .ok (.if_icmp .eq 5, 3) := by decide +kernel
theorem d171_548 : decode (mCode 171) 548 = .ok (.iload 5, 2) := by decide +kernel
theorem d171_550 : decode (mCode 171) 550 = .ok (.ifCond .ne 15, 3) := by decide +kernel
theorem d171_565 : decode (mCode 171) 565 = .ok (.goto 385, 3) := by decide +kernel
theorem d171_568 : decode (mCode 171) 568 = .ok (.aload_n 1, 1) := by decide +kernel
theorem d171_569 : decode (mCode 171) 569 = .ok (.aload_n 0, 1) := by decide +kernel
theorem d171_570 : decode (mCode 171) 570 = .ok (.iload 4, 2) := by decide +kernel
theorem d171_572 : decode (mCode 171) 572 = .ok (.iconst 1, 1) := by decide +kernel
theorem d171_573 : decode (mCode 171) 573 = .ok (.iadd, 1) := by decide +kernel
theorem d171_574 : decode (mCode 171) 574 = .ok (.iaload, 1) := by decide +kernel
theorem d171_575 : decode (mCode 171) 575 = .ok (.aload_n 0, 1) := by decide +kernel
theorem d171_576 : decode (mCode 171) 576 = .ok (.iload 4, 2) := by decide +kernel
theorem d171_578 : decode (mCode 171) 578 = .ok (.iconst 2, 1) := by decide +kernel
theorem d171_579 : decode (mCode 171) 579 = .ok (.iadd, 1) := by decide +kernel
theorem d171_580 : decode (mCode 171) 580 = .ok (.iaload, 1) := by decide +kernel
theorem d171_581 : decode (mCode 171) 581 = .ok (.aload_n 0, 1) := by decide +kernel
theorem d171_582 : decode (mCode 171) 582 = .ok (.iload 4, 2) := by decide +kernel
theorem d171_584 : decode (mCode 171) 584 = .ok (.iconst 3, 1) := by decide +kernel
theorem d171_585 : decode (mCode 171) 585 = .ok (.iadd, 1) := by decide +kernel
theorem d171_586 : decode (mCode 171) 586 = .ok (.iaload, 1) := by decide +kernel
theorem d171_587 : decode (mCode 171) 587 = .ok (.aload_n 3, 1) := by decide +kernel
theorem d171_588 : decode (mCode 171) 588 = .ok (.invokestatic 87, 3) := by decide +kernel
theorem d171_591 : decode (mCode 171) 591 = .ok (.istore 5, 2) := by decide +kernel
theorem d171_593 : decode (mCode 171) 593 = .ok (.aload_n 2, 1) := by decide +kernel
theorem d171_594 : decode (mCode 171) 594 = .ok (.aload_n 0, 1) := by decide +kernel
theorem d171_595 : decode (mCode 171) 595 = .ok (.iload 4, 2) := by decide +kernel
theorem d171_597 : decode (mCode 171) 597 = .ok (.iconst 1, 1) := by decide +kernel
theorem d171_598 : decode (mCode 171) 598 = .ok (.iadd, 1) := by decide +kernel
theorem d171_599 : decode (mCode 171) 599 = .ok (.iaload, 1) := by decide +kernel
theorem d171_600 : decode (mCode 171) 600 = .ok (.aload_n 0, 1) := by decide +kernel
theorem d171_601 : decode (mCode 171) 601 = .ok (.iload 4, 2) := by decide +kernel
theorem d171_603 : decode (mCode 171) 603 = .ok (.iconst 2, 1) := by decide +kernel
theorem d171_604 : decode (mCode 171) 604 = .ok (.iadd, 1) := by decide +kernel
theorem d171_605 : decode (mCode 171) 605 = .ok (.iaload, 1) := by decide +kernel
theorem d171_606 : decode (mCode 171) 606 = .ok (.aload_n 0, 1) := by decide +kernel
theorem d171_607 : decode (mCode 171) 607 = .ok (.iload 4, 2) := by decide +kernel
theorem d171_609 : decode (mCode 171) 609 = .ok (.iconst 3, 1) := by decide +kernel
theorem d171_610 : decode (mCode 171) 610 = .ok (.iadd, 1) := by decide +kernel
theorem d171_611 : decode (mCode 171) 611 = .ok (.iaload, 1) := by decide +kernel
theorem d171_612 : decode (mCode 171) 612 = .ok (.invokevirtual 90, 3) := by decide +kernel
theorem d171_615 : decode (mCode 171) 615 = .ok (.istore 6, 2) := by decide +kernel
theorem d171_617 : decode (mCode 171) 617 = .ok (.aload_n 2, 1) := by decide +kernel
theorem d171_618 : decode (mCode 171) 618 = .ok (.invokevirtual 59, 3) := by decide +kernel
theorem d171_621 : decode (mCode 171) 621 = .ok (.iload 5, 2) := by decide +kernel
theorem d171_623 : decode (mCode 171) 623 = .ok (.if_icmp .eq 5, 3) := by decide +kernel
theorem d171_628 : decode (mCode 171) 628 = .ok (.iload 5, 2) := by decide +kernel
theorem d171_630 : decode (mCode 171) 630 = .ok (.ifCond .ne 15, 3) := by decide +kernel
theorem d171_645 : decode (mCode 171) 645 = .ok (.goto 305, 3) := by decide +kernel
theorem d171_648 : decode (mCode 171) 648 = .ok (.aload_n 1, 1) := by decide +kernel
theorem d171_649 : decode (mCode 171) 649 = .ok (.aload_n 0, 1) := by decide +kernel
theorem d171_650 : decode (mCode 171) 650 = .ok (.iload 4, 2) := by decide +kernel
theorem d171_652 : decode (mCode 171) 652 = .ok (.iconst 1, 1) := by decide +kernel
theorem d171_653 : decode (mCode 171) 653 = .ok (.iadd, 1) := by decide +kernel
theorem d171_654 : decode (mCode 171) 654 = .ok (.iaload, 1) := by decide +kernel
theorem d171_655 : decode (mCode 171) 655 = .ok (.aload_n 0, 1) := by decide +kernel
theorem d171_656 : decode (mCode 171) 656 = .ok (.iload 4, 2) := by decide +kernel
theorem d171_658 : decode (mCode 171) 658 = .ok (.iconst 2, 1) := by decide +kernel
theorem d171_659 : decode (mCode 171) 659 = .ok (.iadd, 1) := by decide +kernel
theorem d171_660 : decode (mCode 171) 660 = .ok (.iaload, 1) := by decide +kernel
theorem d171_661 : decode (mCode 171) 661 = .ok (.aload_n 0, 1) := by decide +kernel
theorem d171_662 : decode (mCode 171) 662 = .ok (.iload 4, 2) := by decide +kernel
theorem d171_664 : decode (mCode 171) 664 = .ok (.iconst 3, 1) := by decide +kernel
theorem d171_665 : decode (mCode 171) 665 = .ok (.iadd, 1) := by decide +kernel
theorem d171_666 : decode (mCode 171) 666 = .ok (.iaload, 1) := by decide +kernel
theorem d171_667 : decode (mCode 171) 667 = .ok (.aload_n 0, 1) := by decide +kernel
theorem d171_668 : decode (mCode 171) 668 = .ok (.iload 4, 2) := by decide +kernel
theorem d171_670 : decode (mCode 171) 670 = .ok (.iconst 4, 1) := by decide +kernel
theorem d171_671 : decode (mCode 171) 671 = .ok (.iadd, 1) := by decide +kernel
theorem d171_672 : decode (mCode 171) 672 = .ok (.iaload, 1) := by decide +kernel
theorem d171_673 : decode (mCode 171) 673 = .ok (.aload_n 3, 1) := by decide +kernel
theorem d171_674 : decode (mCode 171) 674 = .ok (.invokestatic 91, 3) := by decide +kernel
theorem d171_677 : decode (mCode 171) 677 = .ok (.istore 5, 2) := by decide +kernel
theorem d171_679 : decode (mCode 171) 679 = .ok (.aload_n 2, 1) := by decide +kernel
theorem d171_680 : decode (mCode 171) 680 = .ok (.aload_n 0, 1) := by decide +kernel
theorem d171_681 : decode (mCode 171) 681 = .ok (.iload 4, 2) := by decide +kernel
theorem d171_683 : decode (mCode 171) 683 = .ok (.iconst 1, 1) := by decide +kernel
theorem d171_684 : decode (mCode 171) 684 = .ok (.iadd, 1) := by decide +kernel
theorem d171_685 : decode (mCode 171) 685 = .ok (.iaload, 1) := by decide +kernel
theorem d171_686 : decode (mCode 171) 686 = .ok (.aload_n 0, 1) := by decide +kernel
theorem d171_687 : decode (mCode 171) 687 = .ok (.iload 4, 2) := by decide +kernel
theorem d171_689 : decode (mCode 171) 689 = .ok (.iconst 2, 1) := by decide +kernel
theorem d171_690 : decode (mCode 171) 690 = .ok (.iadd, 1) := by decide +kernel
theorem d171_691 : decode (mCode 171) 691 = .ok (.iaload, 1) := by decide +kernel
theorem d171_692 : decode (mCode 171) 692 = .ok (.aload_n 0, 1) := by decide +kernel
theorem d171_693 : decode (mCode 171) 693 = .ok (.iload 4, 2) := by decide +kernel
theorem d171_695 : decode (mCode 171) 695 = .ok (.iconst 3, 1) := by decide +kernel
theorem d171_696 : decode (mCode 171) 696 = .ok (.iadd, 1) := by decide +kernel
theorem d171_697 : decode (mCode 171) 697 = .ok (.iaload, 1) := by decide +kernel
theorem d171_698 : decode (mCode 171) 698 = .ok (.aload_n 0, 1) := by decide +kernel
theorem d171_699 : decode (mCode 171) 699 = .ok (.iload 4, 2) := by decide +kernel
theorem d171_701 : decode (mCode 171) 701 = .ok (.iconst 4, 1) := by decide +kernel
theorem d171_702 : decode (mCode 171) 702 = .ok (.iadd, 1) := by decide +kernel
theorem d171_703 : decode (mCode 171) 703 = .ok (.iaload, 1) := by decide +kernel
theorem d171_704 : decode (mCode 171) 704 = .ok (.invokevirtual 94, 3) := by decide +kernel
theorem d171_707 : decode (mCode 171) 707 = .ok (.istore 6, 2) := by decide +kernel
theorem d171_709 : decode (mCode 171) 709 = .ok (.aload_n 2, 1) := by decide +kernel
theorem d171_710 : decode (mCode 171) 710 = .ok (.invokevirtual 59, 3) := by decide +kernel
theorem d171_713 : decode (mCode 171) 713 = .ok (.iload 5, 2) := by decide +kernel
theorem d171_715 : decode (mCode 171) 715 = .ok (.if_icmp .eq 5, 3) := by decide +kernel
theorem d171_720 : decode (mCode 171) 720 = .ok (.iload 5, 2) := by decide +kernel
theorem d171_722 : decode (mCode 171) 722 = .ok (.ifCond .ne 15, 3) := by decide +kernel
theorem d171_737 : decode (mCode 171) 737 = .ok (.goto 213, 3) := by decide +kernel
theorem d171_740 : decode (mCode 171) 740 = .ok (.aload_n 1, 1) := by decide +kernel
theorem d171_741 : decode (mCode 171) 741 = .ok (.aload_n 0, 1) := by decide +kernel
theorem d171_742 : decode (mCode 171) 742 = .ok (.iload 4, 2) := by decide +kernel
theorem d171_744 : decode (mCode 171) 744 = .ok (.iconst 1, 1) := by decide +kernel
theorem d171_745 : decode (mCode 171) 745 = .ok (.iadd, 1) := by decide +kernel
theorem d171_746 : decode (mCode 171) 746 = .ok (.iaload, 1) := by decide +kernel
theorem d171_747 : decode (mCode 171) 747 = .ok (.aload_n 0, 1) := by decide +kernel
theorem d171_748 : decode (mCode 171) 748 = .ok (.iload 4, 2) := by decide +kernel
theorem d171_750 : decode (mCode 171) 750 = .ok (.iconst 2, 1) := by decide +kernel
theorem d171_751 : decode (mCode 171) 751 = .ok (.iadd, 1) := by decide +kernel
theorem d171_752 : decode (mCode 171) 752 = .ok (.iaload, 1) := by decide +kernel
theorem d171_753 : decode (mCode 171) 753 = .ok (.aload_n 3, 1) := by decide +kernel
theorem d171_754 : decode (mCode 171) 754 = .ok (.invokestatic 95, 3) := by decide +kernel
theorem d171_757 : decode (mCode 171) 757 = .ok (.istore 5, 2) := by decide +kernel
theorem d171_759 : decode (mCode 171) 759 = .ok (.aload_n 2, 1) := by decide +kernel
theorem d171_760 : decode (mCode 171) 760 = .ok (.aload_n 0, 1) := by decide +kernel
theorem d171_761 : decode (mCode 171) 761 = .ok (.iload 4, 2) := by decide +kernel
theorem d171_763 : decode (mCode 171) 763 = .ok (.iconst 1, 1) := by decide +kernel
theorem d171_764 : decode (mCode 171) 764 = .ok (.iadd, 1) := by decide +kernel
theorem d171_765 : decode (mCode 171) 765 = .ok (.iaload, 1) := by decide +kernel
theorem d171_766 : decode (mCode 171) 766 = .ok (.aload_n 0, 1) := by decide +kernel
theorem d171_767 : decode (mCode 171) 767 = .ok (.iload 4, 2) := by decide +kernel
theorem d171_769 : decode (mCode 171) 769 = .ok (.iconst 2, 1) := by decide +kernel
theorem d171_770 : decode (mCode 171) 770 = .ok (.iadd, 1) := by decide +kernel
theorem d171_771 : decode (mCode 171) 771 = .ok (.iaload, 1) := by decide +kernel
theorem d171_772 : decode (mCode 171) 772 = .ok (.invokevirtual 97, 3) := by decide +kernel
theorem d171_775 : decode (mCode 171) 775 = .ok (.istore 6, 2) := by decide +kernel
theorem d171_777 : decode (mCode 171) 777 = .ok (.aload_n 2, 1) := by decide +kernel
theorem d171_778 : decode (mCode 171) 778 = .ok (.invokevirtual 59, 3) := by decide +kernel
theorem d171_781 : decode (mCode 171) 781 = .ok (.iload 5, 2) := by decide +kernel
theorem d171_783 : decode (mCode 171) 783 = .ok (.if_icmp .eq 5, 3) := by decide +kernel
theorem d171_788 : decode (mCode 171) 788 = .ok (.iload 5, 2) := by decide +kernel
theorem d171_790 : decode (mCode 171) 790 = .ok (.ifCond .ne 15, 3) := by decide +kernel
theorem d171_793 : decode (mCode 171) 793 = .ok (.aload_n 3, 1) := by decide +kernel
theorem d171_794 : decode (mCode 171) 794 = .ok (.iconst 0, 1) := by decide +kernel
theorem d171_795 : decode (mCode 171) 795 = .ok (.laload, 1) := by decide +kernel
theorem d171_796 : decode (mCode 171) 796 = .ok (.iload 6, 2) := by decide +kernel
theorem d171_798 : decode (mCode 171) 798 = .ok (.i2l, 1) := by decide +kernel
theorem d171_799 : decode (mCode 171) 799 = .ok (.lcmp, 1) := by decide +kernel
theorem d171_800 : decode (mCode 171) 800 = .ok (.ifCond .eq 5, 3) := by decide +kernel
theorem d171_805 : decode (mCode 171) 805 = .ok (.goto 145, 3) := by decide +kernel
theorem d171_808 : decode (mCode 171) 808 = .ok (.aload_n 1, 1) := by decide +kernel
theorem d171_809 : decode (mCode 171) 809 = .ok (.aload_n 0, 1) := by decide +kernel
theorem d171_810 : decode (mCode 171) 810 = .ok (.iload 4, 2) := by decide +kernel
theorem d171_812 : decode (mCode 171) 812 = .ok (.iconst 1, 1) := by decide +kernel
theorem d171_813 : decode (mCode 171) 813 = .ok (.iadd, 1) := by decide +kernel
theorem d171_814 : decode (mCode 171) 814 = .ok (.iaload, 1) := by decide +kernel
theorem d171_815 : decode (mCode 171) 815 = .ok (.aload_n 0, 1) := by decide +kernel
theorem d171_816 : decode (mCode 171) 816 = .ok (.iload 4, 2) := by decide +kernel
theorem d171_818 : decode (mCode 171) 818 = .ok (.iconst 2, 1) := by decide +kernel
theorem d171_819 : decode (mCode 171) 819 = .ok (.iadd, 1) := by decide +kernel
theorem d171_820 : decode (mCode 171) 820 = .ok (.iaload, 1) := by decide +kernel
theorem d171_821 : decode (mCode 171) 821 = .ok (.aload_n 0, 1) := by decide +kernel
theorem d171_822 : decode (mCode 171) 822 = .ok (.iload 4, 2) := by decide +kernel
theorem d171_824 : decode (mCode 171) 824 = .ok (.iconst 3, 1) := by decide +kernel
theorem d171_825 : decode (mCode 171) 825 = .ok (.iadd, 1) := by decide +kernel
theorem d171_826 : decode (mCode 171) 826 = .ok (.iaload, 1) := by decide +kernel
theorem d171_827 : decode (mCode 171) 827 = .ok (.aload_n 0, 1) := by decide +kernel
theorem d171_828 : decode (mCode 171) 828 = .ok (.iload 4, 2) := by decide +kernel
theorem d171_830 : decode (mCode 171) 830 = .ok (.iconst 4, 1) := by decide +kernel
theorem d171_831 : decode (mCode 171) 831 = .ok (.iadd, 1) := by decide +kernel
theorem d171_832 : decode (mCode 171) 832 = .ok (.iaload, 1) := by decide +kernel
theorem d171_833 : decode (mCode 171) 833 = .ok (.aload_n 3, 1) := by decide +kernel
theorem d171_834 : decode (mCode 171) 834 = .ok (.invokestatic 98, 3) := by decide +kernel
theorem d171_837 : decode (mCode 171) 837 = .ok (.istore 5, 2) := by decide +kernel
theorem d171_839 : decode (mCode 171) 839 = .ok (.aload_n 2, 1) := by decide +kernel
theorem d171_840 : decode (mCode 171) 840 = .ok (.aload_n 0, 1) := by decide +kernel
theorem d171_841 : decode (mCode 171) 841 = .ok (.iload 4, 2) := by decide +kernel
theorem d171_843 : decode (mCode 171) 843 = .ok (.iconst 1, 1) := by decide +kernel
theorem d171_844 : decode (mCode 171) 844 = .ok (.iadd, 1) := by decide +kernel
theorem d171_845 : decode (mCode 171) 845 = .ok (.iaload, 1) := by decide +kernel
theorem d171_846 : decode (mCode 171) 846 = .ok (.aload_n 0, 1) := by decide +kernel
theorem d171_847 : decode (mCode 171) 847 = .ok (.iload 4, 2) := by decide +kernel
theorem d171_849 : decode (mCode 171) 849 = .ok (.iconst 2, 1) := by decide +kernel
theorem d171_850 : decode (mCode 171) 850 = .ok (.iadd, 1) := by decide +kernel
theorem d171_851 : decode (mCode 171) 851 = .ok (.iaload, 1) := by decide +kernel
theorem d171_852 : decode (mCode 171) 852 = .ok (.aload_n 0, 1) := by decide +kernel
theorem d171_853 : decode (mCode 171) 853 = .ok (.iload 4, 2) := by decide +kernel
theorem d171_855 : decode (mCode 171) 855 = .ok (.iconst 3, 1) := by decide +kernel
theorem d171_856 : decode (mCode 171) 856 = .ok (.iadd, 1) := by decide +kernel
theorem d171_857 : decode (mCode 171) 857 = .ok (.iaload, 1) := by decide +kernel
theorem d171_858 : decode (mCode 171) 858 = .ok (.aload_n 0, 1) := by decide +kernel
theorem d171_859 : decode (mCode 171) 859 = .ok (.iload 4, 2) := by decide +kernel
theorem d171_861 : decode (mCode 171) 861 = .ok (.iconst 4, 1) := by decide +kernel
theorem d171_862 : decode (mCode 171) 862 = .ok (.iadd, 1) := by decide +kernel
theorem d171_863 : decode (mCode 171) 863 = .ok (.iaload, 1) := by decide +kernel
theorem d171_864 : decode (mCode 171) 864 = .ok (.invokevirtual 100, 3) := by decide +kernel
theorem d171_867 : decode (mCode 171) 867 = .ok (.istore 6, 2) := by decide +kernel
theorem d171_869 : decode (mCode 171) 869 = .ok (.aload_n 2, 1) := by decide +kernel
theorem d171_870 : decode (mCode 171) 870 = .ok (.invokevirtual 59, 3) := by decide +kernel
theorem d171_873 : decode (mCode 171) 873 = .ok (.iload 5, 2) := by decide +kernel
theorem d171_875 : decode (mCode 171) 875 = .ok (.if_icmp .eq 5, 3) := by decide +kernel
theorem d171_880 : decode (mCode 171) 880 = .ok (.iload 5, 2) := by decide +kernel
theorem d171_882 : decode (mCode 171) 882 = .ok (.ifCond .ne 15, 3) := by decide +kernel
theorem d171_885 : decode (mCode 171) 885 = .ok (.aload_n 3, 1) := by decide +kernel
theorem d171_886 : decode (mCode 171) 886 = .ok (.iconst 0, 1) := by decide +kernel
theorem d171_887 : decode (mCode 171) 887 = .ok (.laload, 1) := by decide +kernel
theorem d171_888 : decode (mCode 171) 888 = .ok (.iload 6, 2) := by decide +kernel
theorem d171_890 : decode (mCode 171) 890 = .ok (.i2l, 1) := by decide +kernel
theorem d171_891 : decode (mCode 171) 891 = .ok (.lcmp, 1) := by decide +kernel
theorem d171_892 : decode (mCode 171) 892 = .ok (.ifCond .eq 5, 3) := by decide +kernel
theorem d171_897 : decode (mCode 171) 897 = .ok (.goto 53, 3) := by decide +kernel
theorem d171_900 : decode (mCode 171) 900 = .ok (.aload_n 1, 1) := by decide +kernel
theorem d171_901 : decode (mCode 171) 901 = .ok (.aload_n 0, 1) := by decide +kernel
theorem d171_902 : decode (mCode 171) 902 = .ok (.iload 4, 2) := by decide +kernel
theorem d171_904 : decode (mCode 171) 904 = .ok (.iconst 1, 1) := by decide +kernel
theorem d171_905 : decode (mCode 171) 905 = .ok (.iadd, 1) := by decide +kernel
theorem d171_906 : decode (mCode 171) 906 = .ok (.iaload, 1) := by decide +kernel
theorem d171_907 : decode (mCode 171) 907 = .ok (.invokevirtual 101, 3) := by decide +kernel
theorem d171_910 : decode (mCode 171) 910 = .ok (.aload_n 2, 1) := by decide +kernel
theorem d171_911 : decode (mCode 171) 911 = .ok (.aload_n 0, 1) := by decide +kernel
theorem d171_912 : decode (mCode 171) 912 = .ok (.iload 4, 2) := by decide +kernel
theorem d171_914 : decode (mCode 171) 914 = .ok (.iconst 1, 1) := by decide +kernel
theorem d171_915 : decode (mCode 171) 915 = .ok (.iadd, 1) := by decide +kernel
theorem d171_916 : decode (mCode 171) 916 = .ok (.iaload, 1) := by decide +kernel
theorem d171_917 : decode (mCode 171) 917 = .ok (.invokevirtual 104, 3) := by decide +kernel
theorem d171_920 : decode (mCode 171) 920 = .ok (.if_icmp .eq 30, 3) := by decide +kernel
theorem d171_925 : decode (mCode 171) 925 = .ok (.aload_n 1, 1) := by decide +kernel
theorem d171_926 : decode (mCode 171) 926 = .ok (.aload_n 0, 1) := by decide +kernel
theorem d171_927 : decode (mCode 171) 927 = .ok (.iload 4, 2) := by decide +kernel
theorem d171_929 : decode (mCode 171) 929 = .ok (.iconst 1, 1) := by decide +kernel
theorem d171_930 : decode (mCode 171) 930 = .ok (.iadd, 1) := by decide +kernel
theorem d171_931 : decode (mCode 171) 931 = .ok (.iaload, 1) := by decide +kernel
theorem d171_932 : decode (mCode 171) 932 = .ok (.invokevirtual 105, 3) := by decide +kernel
theorem d171_935 : decode (mCode 171) 935 = .ok (.aload_n 2, 1) := by decide +kernel
theorem d171_936 : decode (mCode 171) 936 = .ok (.aload_n 0, 1) := by decide +kernel
theorem d171_937 : decode (mCode 171) 937 = .ok (.iload 4, 2) := by decide +kernel
theorem d171_939 : decode (mCode 171) 939 = .ok (.iconst 1, 1) := by decide +kernel
theorem d171_940 : decode (mCode 171) 940 = .ok (.iadd, 1) := by decide +kernel
theorem d171_941 : decode (mCode 171) 941 = .ok (.iaload, 1) := by decide +kernel
theorem d171_942 : decode (mCode 171) 942 = .ok (.invokevirtual 108, 3) := by decide +kernel
theorem d171_945 : decode (mCode 171) 945 = .ok (.if_icmp .eq 5, 3) := by decide +kernel

def HJ1 : mHp := [(.inr (8, [.ref 17, .ref 21, .ref 23, .ref 29, .ref 32])), (.inr (5, [.ref 18, .ref 19, .ref 20, .int 0])), (.inl (.int, 42, .inl ((fun _ => 0)))), (.inl (.int, 42, .inl ((fun _ => 0)))), (.inr (7, [.long 0, .long 0, .long 0])), (.inr (3, [.ref 17, .ref 22, .int 0])), (.inl (.long, 40, .inr (.inl ((fun _ => 0))))), (.inr (4, [.ref 17, .ref 21, .ref 24, .ref 25, .ref 26, .int 0, .ref 27, .int 0, .ref 28])), (.inl (.int, 1600, .inl (mfill 1600 (-1) (fun _ => 0)))), (.inl (.int, 1600, .inl ((fun _ => 0)))), (.inl (.int, 225, .inl ((fun _ => 0)))), (.inl (.int, 800, .inl ((fun _ => 0)))), (.inl (.long, 40, .inr (.inl ((fun _ => 0))))), (.inr (2, [.ref 17, .ref 23, .ref 30, .ref 31, .int 0])), (.inl (.int, 75, .inl ((fun _ => 0)))), (.inl (.int, 75, .inl ((fun _ => 0)))), (.inr (6, [.ref 17, .ref 23, .ref 36, .ref 33, .int 0, .ref 34, .ref 35])), (.inl (.int, 75, .inl ((fun _ => 0)))), (.inl (.int, 75, .inl ((fun _ => 0)))), (.inl (.int, 75, .inl ((fun _ => 0)))), (.inr (1, [.ref 17, .ref 37, .ref 39, .int 0, .int 0, .int 0, .ref 41, .int 0])), (.inr (0, [.int 1, .ref 38, .int 0, .int 0])), (.inl (.int, 77, .inl ((fun _ => 0)))), (.inr (0, [.int (-1), .ref 40, .int 0, .int 0])), (.inl (.int, 77, .inl ((fun _ => 0)))), (.inl (.int, 77, .inl ((fun _ => 0)))), (.inr (9, [.int 0, .int 0, .ref 43, .ref 44, .ref 45, .ref 46, .int 0, .int 0, .ref 47, .int 0, .ref 48, .int 0, .ref 49, .ref 50, .ref 51, .ref 52, .long 0, .long 0])), (.inl (.long, 42, .inr (.inl ((fun _ => 0))))), (.inl (.long, 42, .inr (.inl ((fun _ => 0))))), (.inl (.boolean, 1600, .inl ((fun _ => 0)))), (.inl (.boolean, 1600, .inl ((fun _ => 0)))), (.inl (.int, 300, .inl ((fun _ => 0)))), (.inl (.int, 100, .inl ((fun _ => 0)))), (.inl (.int, 100, .inl ((fun _ => 0)))), (.inl (.int, 100, .inl ((fun _ => 0)))), (.inl (.int, 100, .inl ((fun _ => 0)))), (.inl (.int, 100, .inl ((fun _ => 0)))), (.inl (.long, 1, .inr (.inl (fun _ => 0)))), (.inr (10, []))]
def HJ2 : mHp := [(.inr (8, [.ref 17, .ref 21, .ref 23, .ref 29, .ref 32])), (.inr (5, [.ref 18, .ref 19, .ref 20, .int 0])), (.inl (.int, 42, .inl ((fun _ => 0)))), (.inl (.int, 42, .inl ((fun _ => 0)))), (.inr (7, [.long 0, .long 0, .long 0])), (.inr (3, [.ref 17, .ref 22, .int 0])), (.inl (.long, 40, .inr (.inl ((fun _ => 0))))), (.inr (4, [.ref 17, .ref 21, .ref 24, .ref 25, .ref 26, .int 0, .ref 27, .int 0, .ref 28])), (.inl (.int, 1600, .inl (mfill 1600 (-1) (fun _ => 0)))), (.inl (.int, 1600, .inl ((fun _ => 0)))), (.inl (.int, 225, .inl ((fun _ => 0)))), (.inl (.int, 800, .inl ((fun _ => 0)))), (.inl (.long, 40, .inr (.inl ((fun _ => 0))))), (.inr (2, [.ref 17, .ref 23, .ref 30, .ref 31, .int 0])), (.inl (.int, 75, .inl ((fun _ => 0)))), (.inl (.int, 75, .inl ((fun _ => 0)))), (.inr (6, [.ref 17, .ref 23, .ref 36, .ref 33, .int 0, .ref 34, .ref 35])), (.inl (.int, 75, .inl ((fun _ => 0)))), (.inl (.int, 75, .inl ((fun _ => 0)))), (.inl (.int, 75, .inl ((fun _ => 0)))), (.inr (1, [.ref 17, .ref 37, .ref 39, .int 0, .int 0, .int 0, .ref 41, .int 0])), (.inr (0, [.int 1, .ref 38, .int 0, .int 0])), (.inl (.int, 77, .inl ((fun _ => 0)))), (.inr (0, [.int (-1), .ref 40, .int 0, .int 0])), (.inl (.int, 77, .inl ((fun _ => 0)))), (.inl (.int, 77, .inl ((fun _ => 0)))), (.inr (9, [.int 1, .int 0, .ref 43, .ref 44, .ref 45, .ref 46, .int 0, .int 0, .ref 47, .int 0, .ref 48, .int 0, .ref 49, .ref 50, .ref 51, .ref 52, .long 0, .long 0])), (.inl (.long, 42, .inr (.inl ((fun _ => 0))))), (.inl (.long, 42, .inr (.inl ((fun _ => 0))))), (.inl (.boolean, 1600, .inl ((fun _ => 0)))), (.inl (.boolean, 1600, .inl ((fun _ => 0)))), (.inl (.int, 300, .inl ((fun _ => 0)))), (.inl (.int, 100, .inl ((fun _ => 0)))), (.inl (.int, 100, .inl ((fun _ => 0)))), (.inl (.int, 100, .inl ((fun _ => 0)))), (.inl (.int, 100, .inl ((fun _ => 0)))), (.inl (.int, 100, .inl ((fun _ => 0)))), (.inl (.long, 1, .inr (.inl (fun _ => 0)))), (.inr (10, []))]
def HJ3 (f : Nat → Int32) : mHp := [(.inr (8, [.ref 17, .ref 21, .ref 23, .ref 29, .ref 32])), (.inr (5, [.ref 18, .ref 19, .ref 20, .int 0])), (.inl (.int, 42, .inl (upd (fun _ => 0) (Int32.toNatClampNeg 0) (f 1)))), (.inl (.int, 42, .inl (upd (fun _ => 0) (Int32.toNatClampNeg 0) (f 2)))), (.inr (7, [.long 0, .long 0, .long 0])), (.inr (3, [.ref 17, .ref 22, .int 0])), (.inl (.long, 40, .inr (.inl ((fun _ => 0))))), (.inr (4, [.ref 17, .ref 21, .ref 24, .ref 25, .ref 26, .int 0, .ref 27, .int 0, .ref 28])), (.inl (.int, 1600, .inl (mfill 1600 (-1) (fun _ => 0)))), (.inl (.int, 1600, .inl ((fun _ => 0)))), (.inl (.int, 225, .inl ((fun _ => 0)))), (.inl (.int, 800, .inl ((fun _ => 0)))), (.inl (.long, 40, .inr (.inl ((fun _ => 0))))), (.inr (2, [.ref 17, .ref 23, .ref 30, .ref 31, .int 0])), (.inl (.int, 75, .inl ((fun _ => 0)))), (.inl (.int, 75, .inl ((fun _ => 0)))), (.inr (6, [.ref 17, .ref 23, .ref 36, .ref 33, .int 0, .ref 34, .ref 35])), (.inl (.int, 75, .inl ((fun _ => 0)))), (.inl (.int, 75, .inl ((fun _ => 0)))), (.inl (.int, 75, .inl ((fun _ => 0)))), (.inr (1, [.ref 17, .ref 37, .ref 39, .int 0, .int 0, .int 0, .ref 41, .int 0])), (.inr (0, [.int 1, .ref 38, .int 0, .int 0])), (.inl (.int, 77, .inl ((fun _ => 0)))), (.inr (0, [.int (-1), .ref 40, .int 0, .int 0])), (.inl (.int, 77, .inl ((fun _ => 0)))), (.inl (.int, 77, .inl ((fun _ => 0)))), (.inr (9, [.int 0, .int 0, .ref 43, .ref 44, .ref 45, .ref 46, .int 0, .int 0, .ref 47, .int 0, .ref 48, .int 0, .ref 49, .ref 50, .ref 51, .ref 52, .long 0, .long 0])), (.inl (.long, 42, .inr (.inl ((fun _ => 0))))), (.inl (.long, 42, .inr (.inl ((fun _ => 0))))), (.inl (.boolean, 1600, .inl ((fun _ => 0)))), (.inl (.boolean, 1600, .inl ((fun _ => 0)))), (.inl (.int, 300, .inl ((fun _ => 0)))), (.inl (.int, 100, .inl ((fun _ => 0)))), (.inl (.int, 100, .inl ((fun _ => 0)))), (.inl (.int, 100, .inl ((fun _ => 0)))), (.inl (.int, 100, .inl ((fun _ => 0)))), (.inl (.int, 100, .inl ((fun _ => 0)))), (.inl (.long, 1, .inr (.inl (fun _ => 0))))]
def HJ4 (f : Nat → Int32) : mHp := [(.inr (8, [.ref 17, .ref 21, .ref 23, .ref 29, .ref 32])), (.inr (5, [.ref 18, .ref 19, .ref 20, .int 1])), (.inl (.int, 42, .inl (upd (fun _ => 0) (Int32.toNatClampNeg 0) (f 1)))), (.inl (.int, 42, .inl (upd (fun _ => 0) (Int32.toNatClampNeg 0) (f 2)))), (.inr (7, [.long 0, .long 0, .long 0])), (.inr (3, [.ref 17, .ref 22, .int 0])), (.inl (.long, 40, .inr (.inl ((fun _ => 0))))), (.inr (4, [.ref 17, .ref 21, .ref 24, .ref 25, .ref 26, .int 0, .ref 27, .int 0, .ref 28])), (.inl (.int, 1600, .inl (mfill 1600 (-1) (fun _ => 0)))), (.inl (.int, 1600, .inl ((fun _ => 0)))), (.inl (.int, 225, .inl ((fun _ => 0)))), (.inl (.int, 800, .inl ((fun _ => 0)))), (.inl (.long, 40, .inr (.inl ((fun _ => 0))))), (.inr (2, [.ref 17, .ref 23, .ref 30, .ref 31, .int 0])), (.inl (.int, 75, .inl ((fun _ => 0)))), (.inl (.int, 75, .inl ((fun _ => 0)))), (.inr (6, [.ref 17, .ref 23, .ref 36, .ref 33, .int 0, .ref 34, .ref 35])), (.inl (.int, 75, .inl ((fun _ => 0)))), (.inl (.int, 75, .inl ((fun _ => 0)))), (.inl (.int, 75, .inl ((fun _ => 0)))), (.inr (1, [.ref 17, .ref 37, .ref 39, .int 0, .int 0, .int 0, .ref 41, .int 0])), (.inr (0, [.int 1, .ref 38, .int 0, .int 0])), (.inl (.int, 77, .inl ((fun _ => 0)))), (.inr (0, [.int (-1), .ref 40, .int 0, .int 0])), (.inl (.int, 77, .inl ((fun _ => 0)))), (.inl (.int, 77, .inl ((fun _ => 0)))), (.inr (9, [.int 0, .int 0, .ref 43, .ref 44, .ref 45, .ref 46, .int 0, .int 0, .ref 47, .int 0, .ref 48, .int 0, .ref 49, .ref 50, .ref 51, .ref 52, .long 0, .long 0])), (.inl (.long, 42, .inr (.inl ((fun _ => 0))))), (.inl (.long, 42, .inr (.inl ((fun _ => 0))))), (.inl (.boolean, 1600, .inl ((fun _ => 0)))), (.inl (.boolean, 1600, .inl ((fun _ => 0)))), (.inl (.int, 300, .inl ((fun _ => 0)))), (.inl (.int, 100, .inl ((fun _ => 0)))), (.inl (.int, 100, .inl ((fun _ => 0)))), (.inl (.int, 100, .inl ((fun _ => 0)))), (.inl (.int, 100, .inl ((fun _ => 0)))), (.inl (.int, 100, .inl ((fun _ => 0)))), (.inl (.long, 1, .inr (.inl (fun _ => 0))))]
def HJ5 (f : Nat → Int32) : mHp := [(.inr (8, [.ref 17, .ref 21, .ref 23, .ref 29, .ref 32])), (.inr (5, [.ref 18, .ref 19, .ref 20, .int 1])), (.inl (.int, 42, .inl (upd (fun _ => 0) (Int32.toNatClampNeg 0) (f 1)))), (.inl (.int, 42, .inl (upd (fun _ => 0) (Int32.toNatClampNeg 0) (f 2)))), (.inr (7, [.long 0, .long 0, .long 0])), (.inr (3, [.ref 17, .ref 22, .int 0])), (.inl (.long, 40, .inr (.inl ((fun _ => 0))))), (.inr (4, [.ref 17, .ref 21, .ref 24, .ref 25, .ref 26, .int 0, .ref 27, .int 0, .ref 28])), (.inl (.int, 1600, .inl (mfill 1600 (-1) (fun _ => 0)))), (.inl (.int, 1600, .inl ((fun _ => 0)))), (.inl (.int, 225, .inl ((fun _ => 0)))), (.inl (.int, 800, .inl ((fun _ => 0)))), (.inl (.long, 40, .inr (.inl ((fun _ => 0))))), (.inr (2, [.ref 17, .ref 23, .ref 30, .ref 31, .int 0])), (.inl (.int, 75, .inl ((fun _ => 0)))), (.inl (.int, 75, .inl ((fun _ => 0)))), (.inr (6, [.ref 17, .ref 23, .ref 36, .ref 33, .int 0, .ref 34, .ref 35])), (.inl (.int, 75, .inl ((fun _ => 0)))), (.inl (.int, 75, .inl ((fun _ => 0)))), (.inl (.int, 75, .inl ((fun _ => 0)))), (.inr (1, [.ref 17, .ref 37, .ref 39, .int 0, .int 0, .int 0, .ref 41, .int 0])), (.inr (0, [.int 1, .ref 38, .int 0, .int 0])), (.inl (.int, 77, .inl ((fun _ => 0)))), (.inr (0, [.int (-1), .ref 40, .int 0, .int 0])), (.inl (.int, 77, .inl ((fun _ => 0)))), (.inl (.int, 77, .inl ((fun _ => 0)))), (.inr (9, [.int 0, .int 0, .ref 43, .ref 44, .ref 45, .ref 46, .int 0, .int 0, .ref 47, .int 0, .ref 48, .int 0, .ref 49, .ref 50, .ref 51, .ref 52, .long 0, .long 0])), (.inl (.long, 42, .inr (.inl ((fun _ => 0))))), (.inl (.long, 42, .inr (.inl ((fun _ => 0))))), (.inl (.boolean, 1600, .inl ((fun _ => 0)))), (.inl (.boolean, 1600, .inl ((fun _ => 0)))), (.inl (.int, 300, .inl ((fun _ => 0)))), (.inl (.int, 100, .inl ((fun _ => 0)))), (.inl (.int, 100, .inl ((fun _ => 0)))), (.inl (.int, 100, .inl ((fun _ => 0)))), (.inl (.int, 100, .inl ((fun _ => 0)))), (.inl (.int, 100, .inl ((fun _ => 0)))), (.inl (.long, 1, .inr (.inl (vp_updL (fun _ => 0) (Int32.toNatClampNeg 0) 0))))]
def HJ6 (f : Nat → Int32) : mHp := [(.inr (8, [.ref 17, .ref 21, .ref 23, .ref 29, .ref 32])), (.inr (5, [.ref 18, .ref 19, .ref 20, .int 1])), (.inl (.int, 42, .inl (upd (fun _ => 0) (Int32.toNatClampNeg 0) (f 1)))), (.inl (.int, 42, .inl (upd (fun _ => 0) (Int32.toNatClampNeg 0) (f 2)))), (.inr (7, [.long 0, .long 0, .long 0])), (.inr (3, [.ref 17, .ref 22, .int 0])), (.inl (.long, 40, .inr (.inl ((fun _ => 0))))), (.inr (4, [.ref 17, .ref 21, .ref 24, .ref 25, .ref 26, .int 0, .ref 27, .int 0, .ref 28])), (.inl (.int, 1600, .inl (mfill 1600 (-1) (fun _ => 0)))), (.inl (.int, 1600, .inl ((fun _ => 0)))), (.inl (.int, 225, .inl ((fun _ => 0)))), (.inl (.int, 800, .inl ((fun _ => 0)))), (.inl (.long, 40, .inr (.inl ((fun _ => 0))))), (.inr (2, [.ref 17, .ref 23, .ref 30, .ref 31, .int 0])), (.inl (.int, 75, .inl ((fun _ => 0)))), (.inl (.int, 75, .inl ((fun _ => 0)))), (.inr (6, [.ref 17, .ref 23, .ref 36, .ref 33, .int 0, .ref 34, .ref 35])), (.inl (.int, 75, .inl ((fun _ => 0)))), (.inl (.int, 75, .inl ((fun _ => 0)))), (.inl (.int, 75, .inl ((fun _ => 0)))), (.inr (1, [.ref 17, .ref 37, .ref 39, .int 0, .int 0, .int 0, .ref 41, .int 0])), (.inr (0, [.int 1, .ref 38, .int 0, .int 0])), (.inl (.int, 77, .inl ((fun _ => 0)))), (.inr (0, [.int (-1), .ref 40, .int 0, .int 0])), (.inl (.int, 77, .inl ((fun _ => 0)))), (.inl (.int, 77, .inl ((fun _ => 0)))), (.inr (9, [.int 0, .int 0, .ref 43, .ref 44, .ref 45, .ref 46, .int 0, .int 0, .ref 47, .int 0, .ref 48, .int 0, .ref 49, .ref 50, .ref 51, .ref 52, .long 0, .long 0])), (.inl (.long, 42, .inr (.inl (vp_updL (fun _ => 0) (Int32.toNatClampNeg 0) (Int32.toInt64 (f 1)))))), (.inl (.long, 42, .inr (.inl (vp_updL (fun _ => 0) (Int32.toNatClampNeg 0) (Int32.toInt64 (f 2)))))), (.inl (.boolean, 1600, .inl ((fun _ => 0)))), (.inl (.boolean, 1600, .inl ((fun _ => 0)))), (.inl (.int, 300, .inl ((fun _ => 0)))), (.inl (.int, 100, .inl ((fun _ => 0)))), (.inl (.int, 100, .inl ((fun _ => 0)))), (.inl (.int, 100, .inl ((fun _ => 0)))), (.inl (.int, 100, .inl ((fun _ => 0)))), (.inl (.int, 100, .inl ((fun _ => 0)))), (.inl (.long, 1, .inr (.inl (vp_updL (fun _ => 0) (Int32.toNatClampNeg 0) 0))))]
def HJ7 (f : Nat → Int32) : mHp := [(.inr (8, [.ref 17, .ref 21, .ref 23, .ref 29, .ref 32])), (.inr (5, [.ref 18, .ref 19, .ref 20, .int 1])), (.inl (.int, 42, .inl (upd (fun _ => 0) (Int32.toNatClampNeg 0) (f 1)))), (.inl (.int, 42, .inl (upd (fun _ => 0) (Int32.toNatClampNeg 0) (f 2)))), (.inr (7, [.long 0, .long 0, .long 0])), (.inr (3, [.ref 17, .ref 22, .int 0])), (.inl (.long, 40, .inr (.inl ((fun _ => 0))))), (.inr (4, [.ref 17, .ref 21, .ref 24, .ref 25, .ref 26, .int 0, .ref 27, .int 0, .ref 28])), (.inl (.int, 1600, .inl (mfill 1600 (-1) (fun _ => 0)))), (.inl (.int, 1600, .inl ((fun _ => 0)))), (.inl (.int, 225, .inl ((fun _ => 0)))), (.inl (.int, 800, .inl ((fun _ => 0)))), (.inl (.long, 40, .inr (.inl ((fun _ => 0))))), (.inr (2, [.ref 17, .ref 23, .ref 30, .ref 31, .int 0])), (.inl (.int, 75, .inl ((fun _ => 0)))), (.inl (.int, 75, .inl ((fun _ => 0)))), (.inr (6, [.ref 17, .ref 23, .ref 36, .ref 33, .int 0, .ref 34, .ref 35])), (.inl (.int, 75, .inl ((fun _ => 0)))), (.inl (.int, 75, .inl ((fun _ => 0)))), (.inl (.int, 75, .inl ((fun _ => 0)))), (.inr (1, [.ref 17, .ref 37, .ref 39, .int 0, .int 0, .int 0, .ref 41, .int 0])), (.inr (0, [.int 1, .ref 38, .int 0, .int 0])), (.inl (.int, 77, .inl ((fun _ => 0)))), (.inr (0, [.int (-1), .ref 40, .int 0, .int 0])), (.inl (.int, 77, .inl ((fun _ => 0)))), (.inl (.int, 77, .inl ((fun _ => 0)))), (.inr (9, [.int 0, .int 1, .ref 43, .ref 44, .ref 45, .ref 46, .int 0, .int 0, .ref 47, .int 0, .ref 48, .int 0, .ref 49, .ref 50, .ref 51, .ref 52, .long 0, .long 0])), (.inl (.long, 42, .inr (.inl (vp_updL (fun _ => 0) (Int32.toNatClampNeg 0) (Int32.toInt64 (f 1)))))), (.inl (.long, 42, .inr (.inl (vp_updL (fun _ => 0) (Int32.toNatClampNeg 0) (Int32.toInt64 (f 2)))))), (.inl (.boolean, 1600, .inl (mrow 0 40 (fun _ => 0)))), (.inl (.boolean, 1600, .inl ((fun _ => 0)))), (.inl (.int, 300, .inl ((fun _ => 0)))), (.inl (.int, 100, .inl ((fun _ => 0)))), (.inl (.int, 100, .inl ((fun _ => 0)))), (.inl (.int, 100, .inl ((fun _ => 0)))), (.inl (.int, 100, .inl ((fun _ => 0)))), (.inl (.int, 100, .inl ((fun _ => 0)))), (.inl (.long, 1, .inr (.inl (vp_updL (fun _ => 0) (Int32.toNatClampNeg 0) 0))))]
def HJ8 : mHp := [(.inr (8, [.ref 17, .ref 21, .ref 23, .ref 29, .ref 32])), (.inr (5, [.ref 18, .ref 19, .ref 20, .int 0])), (.inl (.int, 42, .inl ((fun _ => 0)))), (.inl (.int, 42, .inl ((fun _ => 0)))), (.inr (7, [.long 0, .long 0, .long 0])), (.inr (3, [.ref 17, .ref 22, .int 0])), (.inl (.long, 40, .inr (.inl (mfill 40 0 (fun _ => 0))))), (.inr (4, [.ref 17, .ref 21, .ref 24, .ref 25, .ref 26, .int 0, .ref 27, .int 0, .ref 28])), (.inl (.int, 1600, .inl (mfill 1600 (-1) (fun _ => 0)))), (.inl (.int, 1600, .inl ((fun _ => 0)))), (.inl (.int, 225, .inl ((fun _ => 0)))), (.inl (.int, 800, .inl ((fun _ => 0)))), (.inl (.long, 40, .inr (.inl ((fun _ => 0))))), (.inr (2, [.ref 17, .ref 23, .ref 30, .ref 31, .int 0])), (.inl (.int, 75, .inl ((fun _ => 0)))), (.inl (.int, 75, .inl ((fun _ => 0)))), (.inr (6, [.ref 17, .ref 23, .ref 36, .ref 33, .int 0, .ref 34, .ref 35])), (.inl (.int, 75, .inl ((fun _ => 0)))), (.inl (.int, 75, .inl ((fun _ => 0)))), (.inl (.int, 75, .inl ((fun _ => 0)))), (.inr (1, [.ref 17, .ref 37, .ref 39, .int 0, .int 0, .int 0, .ref 41, .int 0])), (.inr (0, [.int 1, .ref 38, .int 0, .int 0])), (.inl (.int, 77, .inl ((fun _ => 0)))), (.inr (0, [.int (-1), .ref 40, .int 0, .int 0])), (.inl (.int, 77, .inl ((fun _ => 0)))), (.inl (.int, 77, .inl ((fun _ => 0)))), (.inr (9, [.int 0, .int 0, .ref 43, .ref 44, .ref 45, .ref 46, .int 0, .int 0, .ref 47, .int 0, .ref 48, .int 0, .ref 49, .ref 50, .ref 51, .ref 52, .long 0, .long 0])), (.inl (.long, 42, .inr (.inl ((fun _ => 0))))), (.inl (.long, 42, .inr (.inl ((fun _ => 0))))), (.inl (.boolean, 1600, .inl ((fun _ => 0)))), (.inl (.boolean, 1600, .inl ((fun _ => 0)))), (.inl (.int, 300, .inl ((fun _ => 0)))), (.inl (.int, 100, .inl ((fun _ => 0)))), (.inl (.int, 100, .inl ((fun _ => 0)))), (.inl (.int, 100, .inl ((fun _ => 0)))), (.inl (.int, 100, .inl ((fun _ => 0)))), (.inl (.int, 100, .inl ((fun _ => 0)))), (.inl (.long, 1, .inr (.inl (fun _ => 0))))]
def HJ9 : mHp := [(.inr (8, [.ref 17, .ref 21, .ref 23, .ref 29, .ref 32])), (.inr (5, [.ref 18, .ref 19, .ref 20, .int 0])), (.inl (.int, 42, .inl ((fun _ => 0)))), (.inl (.int, 42, .inl ((fun _ => 0)))), (.inr (7, [.long 0, .long 0, .long 0])), (.inr (3, [.ref 17, .ref 22, .int 0])), (.inl (.long, 40, .inr (.inl (mfill 40 0 (fun _ => 0))))), (.inr (4, [.ref 17, .ref 21, .ref 24, .ref 25, .ref 26, .int 0, .ref 27, .int 0, .ref 28])), (.inl (.int, 1600, .inl (mfill 1600 (-1) (mfill 1600 (-1) (fun _ => 0))))), (.inl (.int, 1600, .inl ((fun _ => 0)))), (.inl (.int, 225, .inl ((fun _ => 0)))), (.inl (.int, 800, .inl ((fun _ => 0)))), (.inl (.long, 40, .inr (.inl ((fun _ => 0))))), (.inr (2, [.ref 17, .ref 23, .ref 30, .ref 31, .int 0])), (.inl (.int, 75, .inl ((fun _ => 0)))), (.inl (.int, 75, .inl ((fun _ => 0)))), (.inr (6, [.ref 17, .ref 23, .ref 36, .ref 33, .int 0, .ref 34, .ref 35])), (.inl (.int, 75, .inl ((fun _ => 0)))), (.inl (.int, 75, .inl ((fun _ => 0)))), (.inl (.int, 75, .inl ((fun _ => 0)))), (.inr (1, [.ref 17, .ref 37, .ref 39, .int 0, .int 0, .int 0, .ref 41, .int 0])), (.inr (0, [.int 1, .ref 38, .int 0, .int 0])), (.inl (.int, 77, .inl ((fun _ => 0)))), (.inr (0, [.int (-1), .ref 40, .int 0, .int 0])), (.inl (.int, 77, .inl ((fun _ => 0)))), (.inl (.int, 77, .inl ((fun _ => 0)))), (.inr (9, [.int 0, .int 0, .ref 43, .ref 44, .ref 45, .ref 46, .int 0, .int 0, .ref 47, .int 0, .ref 48, .int 0, .ref 49, .ref 50, .ref 51, .ref 52, .long 0, .long 0])), (.inl (.long, 42, .inr (.inl ((fun _ => 0))))), (.inl (.long, 42, .inr (.inl ((fun _ => 0))))), (.inl (.boolean, 1600, .inl ((fun _ => 0)))), (.inl (.boolean, 1600, .inl ((fun _ => 0)))), (.inl (.int, 300, .inl ((fun _ => 0)))), (.inl (.int, 100, .inl ((fun _ => 0)))), (.inl (.int, 100, .inl ((fun _ => 0)))), (.inl (.int, 100, .inl ((fun _ => 0)))), (.inl (.int, 100, .inl ((fun _ => 0)))), (.inl (.int, 100, .inl ((fun _ => 0)))), (.inl (.long, 1, .inr (.inl (fun _ => 0))))]
def HJ10 : mHp := [(.inr (8, [.ref 17, .ref 21, .ref 23, .ref 29, .ref 32])), (.inr (5, [.ref 18, .ref 19, .ref 20, .int 0])), (.inl (.int, 42, .inl ((fun _ => 0)))), (.inl (.int, 42, .inl ((fun _ => 0)))), (.inr (7, [.long 0, .long 0, .long 0])), (.inr (3, [.ref 17, .ref 22, .int 0])), (.inl (.long, 40, .inr (.inl (mfill 40 0 (fun _ => 0))))), (.inr (4, [.ref 17, .ref 21, .ref 24, .ref 25, .ref 26, .int 0, .ref 27, .int 0, .ref 28])), (.inl (.int, 1600, .inl (mfill 1600 (-1) (mfill 1600 (-1) (fun _ => 0))))), (.inl (.int, 1600, .inl ((fun _ => 0)))), (.inl (.int, 225, .inl ((fun _ => 0)))), (.inl (.int, 800, .inl ((fun _ => 0)))), (.inl (.long, 40, .inr (.inl ((fun _ => 0))))), (.inr (2, [.ref 17, .ref 23, .ref 30, .ref 31, .int 0])), (.inl (.int, 75, .inl ((fun _ => 0)))), (.inl (.int, 75, .inl ((fun _ => 0)))), (.inr (6, [.ref 17, .ref 23, .ref 36, .ref 33, .int 0, .ref 34, .ref 35])), (.inl (.int, 75, .inl ((fun _ => 0)))), (.inl (.int, 75, .inl ((fun _ => 0)))), (.inl (.int, 75, .inl ((fun _ => 0)))), (.inr (1, [.ref 17, .ref 37, .ref 39, .int 0, .int 0, .int 0, .ref 41, .int 0])), (.inr (0, [.int 1, .ref 38, .int 0, .int 0])), (.inl (.int, 77, .inl ((fun _ => 0)))), (.inr (0, [.int (-1), .ref 40, .int 0, .int 0])), (.inl (.int, 77, .inl ((fun _ => 0)))), (.inl (.int, 77, .inl ((fun _ => 0)))), (.inr (9, [.int 0, .int 0, .ref 43, .ref 44, .ref 45, .ref 46, .int 0, .int 0, .ref 47, .int 0, .ref 48, .int 0, .ref 49, .ref 50, .ref 51, .ref 52, .long 0, .long 0])), (.inl (.long, 42, .inr (.inl ((fun _ => 0))))), (.inl (.long, 42, .inr (.inl ((fun _ => 0))))), (.inl (.boolean, 1600, .inl (mfill 1600 0 (fun _ => 0)))), (.inl (.boolean, 1600, .inl ((fun _ => 0)))), (.inl (.int, 300, .inl ((fun _ => 0)))), (.inl (.int, 100, .inl ((fun _ => 0)))), (.inl (.int, 100, .inl ((fun _ => 0)))), (.inl (.int, 100, .inl ((fun _ => 0)))), (.inl (.int, 100, .inl ((fun _ => 0)))), (.inl (.int, 100, .inl ((fun _ => 0)))), (.inl (.long, 1, .inr (.inl (fun _ => 0))))]
def HJ11 : mHp := [(.inr (8, [.ref 17, .ref 21, .ref 23, .ref 29, .ref 32])), (.inr (5, [.ref 18, .ref 19, .ref 20, .int 0])), (.inl (.int, 42, .inl ((fun _ => 0)))), (.inl (.int, 42, .inl ((fun _ => 0)))), (.inr (7, [.long 0, .long 0, .long 0])), (.inr (3, [.ref 17, .ref 22, .int 0])), (.inl (.long, 40, .inr (.inl ((fun _ => 0))))), (.inr (4, [.ref 17, .ref 21, .ref 24, .ref 25, .ref 26, .int 0, .ref 27, .int 0, .ref 28])), (.inl (.int, 1600, .inl (mfill 1600 (-1) (fun _ => 0)))), (.inl (.int, 1600, .inl ((fun _ => 0)))), (.inl (.int, 225, .inl ((fun _ => 0)))), (.inl (.int, 800, .inl ((fun _ => 0)))), (.inl (.long, 40, .inr (.inl ((fun _ => 0))))), (.inr (2, [.ref 17, .ref 23, .ref 30, .ref 31, .int 0])), (.inl (.int, 75, .inl ((fun _ => 0)))), (.inl (.int, 75, .inl ((fun _ => 0)))), (.inr (6, [.ref 17, .ref 23, .ref 36, .ref 33, .int 0, .ref 34, .ref 35])), (.inl (.int, 75, .inl ((fun _ => 0)))), (.inl (.int, 75, .inl ((fun _ => 0)))), (.inl (.int, 75, .inl ((fun _ => 0)))), (.inr (1, [.ref 17, .ref 37, .ref 39, .int 0, .int 0, .int 0, .ref 41, .int 0])), (.inr (0, [.int 1, .ref 38, .int 0, .int 0])), (.inl (.int, 77, .inl ((fun _ => 0)))), (.inr (0, [.int (-1), .ref 40, .int 0, .int 0])), (.inl (.int, 77, .inl ((fun _ => 0)))), (.inl (.int, 77, .inl ((fun _ => 0)))), (.inr (9, [.int 0, .int 0, .ref 43, .ref 44, .ref 45, .ref 46, .int 1, .int 0, .ref 47, .int 0, .ref 48, .int 0, .ref 49, .ref 50, .ref 51, .ref 52, .long 0, .long 0])), (.inl (.long, 42, .inr (.inl ((fun _ => 0))))), (.inl (.long, 42, .inr (.inl ((fun _ => 0))))), (.inl (.boolean, 1600, .inl ((fun _ => 0)))), (.inl (.boolean, 1600, .inl ((fun _ => 0)))), (.inl (.int, 300, .inl ((fun _ => 0)))), (.inl (.int, 100, .inl ((fun _ => 0)))), (.inl (.int, 100, .inl ((fun _ => 0)))), (.inl (.int, 100, .inl ((fun _ => 0)))), (.inl (.int, 100, .inl ((fun _ => 0)))), (.inl (.int, 100, .inl ((fun _ => 0)))), (.inl (.long, 1, .inr (.inl (fun _ => 0))))]
def HJ12 : mHp := [(.inr (8, [.ref 17, .ref 21, .ref 23, .ref 29, .ref 32])), (.inr (5, [.ref 18, .ref 19, .ref 20, .int 0])), (.inl (.int, 42, .inl ((fun _ => 0)))), (.inl (.int, 42, .inl ((fun _ => 0)))), (.inr (7, [.long 0, .long 0, .long 0])), (.inr (3, [.ref 17, .ref 22, .int 0])), (.inl (.long, 40, .inr (.inl ((fun _ => 0))))), (.inr (4, [.ref 17, .ref 21, .ref 24, .ref 25, .ref 26, .int 0, .ref 27, .int 0, .ref 28])), (.inl (.int, 1600, .inl (mfill 1600 (-1) (fun _ => 0)))), (.inl (.int, 1600, .inl ((fun _ => 0)))), (.inl (.int, 225, .inl ((fun _ => 0)))), (.inl (.int, 800, .inl ((fun _ => 0)))), (.inl (.long, 40, .inr (.inl ((fun _ => 0))))), (.inr (2, [.ref 17, .ref 23, .ref 30, .ref 31, .int 0])), (.inl (.int, 75, .inl ((fun _ => 0)))), (.inl (.int, 75, .inl ((fun _ => 0)))), (.inr (6, [.ref 17, .ref 23, .ref 36, .ref 33, .int 0, .ref 34, .ref 35])), (.inl (.int, 75, .inl ((fun _ => 0)))), (.inl (.int, 75, .inl ((fun _ => 0)))), (.inl (.int, 75, .inl ((fun _ => 0)))), (.inr (1, [.ref 17, .ref 37, .ref 39, .int 0, .int 0, .int 0, .ref 41, .int 0])), (.inr (0, [.int 1, .ref 38, .int 0, .int 0])), (.inl (.int, 77, .inl ((fun _ => 0)))), (.inr (0, [.int (-1), .ref 40, .int 0, .int 0])), (.inl (.int, 77, .inl ((fun _ => 0)))), (.inl (.int, 77, .inl ((fun _ => 0)))), (.inr (9, [.int 0, .int 0, .ref 43, .ref 44, .ref 45, .ref 46, .int 1, .int 0, .ref 47, .int 0, .ref 48, .int 0, .ref 49, .ref 50, .ref 51, .ref 52, .long 0, .long 0])), (.inl (.long, 42, .inr (.inl ((fun _ => 0))))), (.inl (.long, 42, .inr (.inl ((fun _ => 0))))), (.inl (.boolean, 1600, .inl ((fun _ => 0)))), (.inl (.boolean, 1600, .inl (mcpz 1600 (fun _ => 0) (fun _ => 0)))), (.inl (.int, 300, .inl ((fun _ => 0)))), (.inl (.int, 100, .inl ((fun _ => 0)))), (.inl (.int, 100, .inl ((fun _ => 0)))), (.inl (.int, 100, .inl ((fun _ => 0)))), (.inl (.int, 100, .inl ((fun _ => 0)))), (.inl (.int, 100, .inl ((fun _ => 0)))), (.inl (.long, 1, .inr (.inl (fun _ => 0))))]
def HJ13 : mHp := [(.inr (8, [.ref 17, .ref 21, .ref 23, .ref 29, .ref 32])), (.inr (5, [.ref 18, .ref 19, .ref 20, .int 0])), (.inl (.int, 42, .inl ((fun _ => 0)))), (.inl (.int, 42, .inl ((fun _ => 0)))), (.inr (7, [.long 0, .long 0, .long 0])), (.inr (3, [.ref 17, .ref 22, .int 0])), (.inl (.long, 40, .inr (.inl ((fun _ => 0))))), (.inr (4, [.ref 17, .ref 21, .ref 24, .ref 25, .ref 26, .int 0, .ref 27, .int 0, .ref 28])), (.inl (.int, 1600, .inl (mfill 1600 (-1) (fun _ => 0)))), (.inl (.int, 1600, .inl ((fun _ => 0)))), (.inl (.int, 225, .inl ((fun _ => 0)))), (.inl (.int, 800, .inl ((fun _ => 0)))), (.inl (.long, 40, .inr (.inl ((fun _ => 0))))), (.inr (2, [.ref 17, .ref 23, .ref 30, .ref 31, .int 0])), (.inl (.int, 75, .inl ((fun _ => 0)))), (.inl (.int, 75, .inl ((fun _ => 0)))), (.inr (6, [.ref 17, .ref 23, .ref 36, .ref 33, .int 0, .ref 34, .ref 35])), (.inl (.int, 75, .inl ((fun _ => 0)))), (.inl (.int, 75, .inl ((fun _ => 0)))), (.inl (.int, 75, .inl ((fun _ => 0)))), (.inr (1, [.ref 17, .ref 37, .ref 39, .int 0, .int 0, .int 0, .ref 41, .int 0])), (.inr (0, [.int 1, .ref 38, .int 0, .int 0])), (.inl (.int, 77, .inl ((fun _ => 0)))), (.inr (0, [.int (-1), .ref 40, .int 0, .int 0])), (.inl (.int, 77, .inl ((fun _ => 0)))), (.inl (.int, 77, .inl ((fun _ => 0)))), (.inr (9, [.int 0, .int 0, .ref 43, .ref 44, .ref 45, .ref 46, .int 0, .int 0, .ref 47, .int 0, .ref 48, .int 0, .ref 49, .ref 50, .ref 51, .ref 52, .long 0, .long 0])), (.inl (.long, 42, .inr (.inl ((fun _ => 0))))), (.inl (.long, 42, .inr (.inl ((fun _ => 0))))), (.inl (.boolean, 1600, .inl ((fun _ => 0)))), (.inl (.boolean, 1600, .inl ((fun _ => 0)))), (.inl (.int, 300, .inl ((fun _ => 0)))), (.inl (.int, 100, .inl ((fun _ => 0)))), (.inl (.int, 100, .inl ((fun _ => 0)))), (.inl (.int, 100, .inl ((fun _ => 0)))), (.inl (.int, 100, .inl ((fun _ => 0)))), (.inl (.int, 100, .inl ((fun _ => 0)))), (.inl (.long, 1, .inr (.inl (fun _ => 0)))), (.inr (12, []))]
def HJ14 : mHp := [(.inr (8, [.ref 17, .ref 21, .ref 23, .ref 29, .ref 32])), (.inr (5, [.ref 18, .ref 19, .ref 20, .int 0])), (.inl (.int, 42, .inl ((fun _ => 0)))), (.inl (.int, 42, .inl ((fun _ => 0)))), (.inr (7, [.long 0, .long 0, .long 0])), (.inr (3, [.ref 17, .ref 22, .int 0])), (.inl (.long, 40, .inr (.inl ((fun _ => 0))))), (.inr (4, [.ref 17, .ref 21, .ref 24, .ref 25, .ref 26, .int 0, .ref 27, .int 0, .ref 28])), (.inl (.int, 1600, .inl (mfill 1600 (-1) (fun _ => 0)))), (.inl (.int, 1600, .inl ((fun _ => 0)))), (.inl (.int, 225, .inl ((fun _ => 0)))), (.inl (.int, 800, .inl ((fun _ => 0)))), (.inl (.long, 40, .inr (.inl ((fun _ => 0))))), (.inr (2, [.ref 17, .ref 23, .ref 30, .ref 31, .int 0])), (.inl (.int, 75, .inl ((fun _ => 0)))), (.inl (.int, 75, .inl ((fun _ => 0)))), (.inr (6, [.ref 17, .ref 23, .ref 36, .ref 33, .int 0, .ref 34, .ref 35])), (.inl (.int, 75, .inl ((fun _ => 0)))), (.inl (.int, 75, .inl ((fun _ => 0)))), (.inl (.int, 75, .inl ((fun _ => 0)))), (.inr (1, [.ref 17, .ref 37, .ref 39, .int 0, .int 0, .int 0, .ref 41, .int 0])), (.inr (0, [.int 1, .ref 38, .int 0, .int 0])), (.inl (.int, 77, .inl ((fun _ => 0)))), (.inr (0, [.int (-1), .ref 40, .int 0, .int 0])), (.inl (.int, 77, .inl ((fun _ => 0)))), (.inl (.int, 77, .inl ((fun _ => 0)))), (.inr (9, [.int 0, .int 0, .ref 43, .ref 44, .ref 45, .ref 46, .int 1, .int 0, .ref 47, .int 0, .ref 48, .int 0, .ref 49, .ref 50, .ref 51, .ref 52, .long 0, .long 0])), (.inl (.long, 42, .inr (.inl ((fun _ => 0))))), (.inl (.long, 42, .inr (.inl ((fun _ => 0))))), (.inl (.boolean, 1600, .inl ((fun _ => 0)))), (.inl (.boolean, 1600, .inl ((fun _ => 0)))), (.inl (.int, 300, .inl ((fun _ => 0)))), (.inl (.int, 100, .inl ((fun _ => 0)))), (.inl (.int, 100, .inl ((fun _ => 0)))), (.inl (.int, 100, .inl ((fun _ => 0)))), (.inl (.int, 100, .inl ((fun _ => 0)))), (.inl (.int, 100, .inl ((fun _ => 0)))), (.inl (.long, 1, .inr (.inl (fun _ => 0)))), (.inr (12, []))]
def HJ15 : mHp := [(.inr (8, [.ref 17, .ref 21, .ref 23, .ref 29, .ref 32])), (.inr (5, [.ref 18, .ref 19, .ref 20, .int 0])), (.inl (.int, 42, .inl ((fun _ => 0)))), (.inl (.int, 42, .inl ((fun _ => 0)))), (.inr (7, [.long 0, .long 0, .long 0])), (.inr (3, [.ref 17, .ref 22, .int 0])), (.inl (.long, 40, .inr (.inl ((fun _ => 0))))), (.inr (4, [.ref 17, .ref 21, .ref 24, .ref 25, .ref 26, .int 0, .ref 27, .int 0, .ref 28])), (.inl (.int, 1600, .inl (mfill 1600 (-1) (fun _ => 0)))), (.inl (.int, 1600, .inl ((fun _ => 0)))), (.inl (.int, 225, .inl ((fun _ => 0)))), (.inl (.int, 800, .inl ((fun _ => 0)))), (.inl (.long, 40, .inr (.inl ((fun _ => 0))))), (.inr (2, [.ref 17, .ref 23, .ref 30, .ref 31, .int 0])), (.inl (.int, 75, .inl ((fun _ => 0)))), (.inl (.int, 75, .inl ((fun _ => 0)))), (.inr (6, [.ref 17, .ref 23, .ref 36, .ref 33, .int 0, .ref 34, .ref 35])), (.inl (.int, 75, .inl ((fun _ => 0)))), (.inl (.int, 75, .inl ((fun _ => 0)))), (.inl (.int, 75, .inl ((fun _ => 0)))), (.inr (1, [.ref 17, .ref 37, .ref 39, .int 0, .int 0, .int 0, .ref 41, .int 0])), (.inr (0, [.int 1, .ref 38, .int 0, .int 0])), (.inl (.int, 77, .inl ((fun _ => 0)))), (.inr (0, [.int (-1), .ref 40, .int 0, .int 0])), (.inl (.int, 77, .inl ((fun _ => 0)))), (.inl (.int, 77, .inl ((fun _ => 0)))), (.inr (9, [.int 0, .int 0, .ref 43, .ref 44, .ref 45, .ref 46, .int 1, .int 0, .ref 47, .int 0, .ref 48, .int 0, .ref 49, .ref 50, .ref 51, .ref 52, .long 0, .long 0])), (.inl (.long, 42, .inr (.inl ((fun _ => 0))))), (.inl (.long, 42, .inr (.inl ((fun _ => 0))))), (.inl (.boolean, 1600, .inl ((fun _ => 0)))), (.inl (.boolean, 1600, .inl (mcpz 1600 (fun _ => 0) (fun _ => 0)))), (.inl (.int, 300, .inl ((fun _ => 0)))), (.inl (.int, 100, .inl ((fun _ => 0)))), (.inl (.int, 100, .inl ((fun _ => 0)))), (.inl (.int, 100, .inl ((fun _ => 0)))), (.inl (.int, 100, .inl ((fun _ => 0)))), (.inl (.int, 100, .inl ((fun _ => 0)))), (.inl (.long, 1, .inr (.inl (fun _ => 0)))), (.inr (12, []))]
def HJ16 : mHp := [(.inr (8, [.ref 17, .ref 21, .ref 23, .ref 29, .ref 32])), (.inr (5, [.ref 18, .ref 19, .ref 20, .int 0])), (.inl (.int, 42, .inl ((fun _ => 0)))), (.inl (.int, 42, .inl ((fun _ => 0)))), (.inr (7, [.long 0, .long 0, .long 0])), (.inr (3, [.ref 17, .ref 22, .int 0])), (.inl (.long, 40, .inr (.inl ((fun _ => 0))))), (.inr (4, [.ref 17, .ref 21, .ref 24, .ref 25, .ref 26, .int 0, .ref 27, .int 0, .ref 28])), (.inl (.int, 1600, .inl (mfill 1600 (-1) (fun _ => 0)))), (.inl (.int, 1600, .inl ((fun _ => 0)))), (.inl (.int, 225, .inl ((fun _ => 0)))), (.inl (.int, 800, .inl ((fun _ => 0)))), (.inl (.long, 40, .inr (.inl ((fun _ => 0))))), (.inr (2, [.ref 17, .ref 23, .ref 30, .ref 31, .int 0])), (.inl (.int, 75, .inl ((fun _ => 0)))), (.inl (.int, 75, .inl ((fun _ => 0)))), (.inr (6, [.ref 17, .ref 23, .ref 36, .ref 33, .int 0, .ref 34, .ref 35])), (.inl (.int, 75, .inl ((fun _ => 0)))), (.inl (.int, 75, .inl ((fun _ => 0)))), (.inl (.int, 75, .inl ((fun _ => 0)))), (.inr (1, [.ref 17, .ref 37, .ref 39, .int 0, .int 0, .int 0, .ref 41, .int 0])), (.inr (0, [.int 1, .ref 38, .int 0, .int 0])), (.inl (.int, 77, .inl ((fun _ => 0)))), (.inr (0, [.int (-1), .ref 40, .int 0, .int 0])), (.inl (.int, 77, .inl ((fun _ => 0)))), (.inl (.int, 77, .inl ((fun _ => 0)))), (.inr (9, [.int 1, .int 0, .ref 43, .ref 44, .ref 45, .ref 46, .int 1, .int 0, .ref 47, .int 0, .ref 48, .int 0, .ref 49, .ref 50, .ref 51, .ref 52, .long 0, .long 0])), (.inl (.long, 42, .inr (.inl ((fun _ => 0))))), (.inl (.long, 42, .inr (.inl ((fun _ => 0))))), (.inl (.boolean, 1600, .inl ((fun _ => 0)))), (.inl (.boolean, 1600, .inl (mcpz 1600 (fun _ => 0) (fun _ => 0)))), (.inl (.int, 300, .inl ((fun _ => 0)))), (.inl (.int, 100, .inl ((fun _ => 0)))), (.inl (.int, 100, .inl ((fun _ => 0)))), (.inl (.int, 100, .inl ((fun _ => 0)))), (.inl (.int, 100, .inl ((fun _ => 0)))), (.inl (.int, 100, .inl ((fun _ => 0)))), (.inl (.long, 1, .inr (.inl (fun _ => 0)))), (.inr (12, []))]
def HJ17 (f : Nat → Int32) : mHp := [(.inr (8, [.ref 17, .ref 21, .ref 23, .ref 29, .ref 32])), (.inr (5, [.ref 18, .ref 19, .ref 20, .int 0])), (.inl (.int, 42, .inl (upd (fun _ => 0) (Int32.toNatClampNeg 40) (f 1)))), (.inl (.int, 42, .inl (upd (fun _ => 0) (Int32.toNatClampNeg 40) (f 2)))), (.inr (7, [.long 0, .long 0, .long 0])), (.inr (3, [.ref 17, .ref 22, .int 0])), (.inl (.long, 40, .inr (.inl ((fun _ => 0))))), (.inr (4, [.ref 17, .ref 21, .ref 24, .ref 25, .ref 26, .int 0, .ref 27, .int 0, .ref 28])), (.inl (.int, 1600, .inl (mfill 1600 (-1) (fun _ => 0)))), (.inl (.int, 1600, .inl ((fun _ => 0)))), (.inl (.int, 225, .inl ((fun _ => 0)))), (.inl (.int, 800, .inl ((fun _ => 0)))), (.inl (.long, 40, .inr (.inl ((fun _ => 0))))), (.inr (2, [.ref 17, .ref 23, .ref 30, .ref 31, .int 0])), (.inl (.int, 75, .inl ((fun _ => 0)))), (.inl (.int, 75, .inl ((fun _ => 0)))), (.inr (6, [.ref 17, .ref 23, .ref 36, .ref 33, .int 0, .ref 34, .ref 35])), (.inl (.int, 75, .inl ((fun _ => 0)))), (.inl (.int, 75, .inl ((fun _ => 0)))), (.inl (.int, 75, .inl ((fun _ => 0)))), (.inr (1, [.ref 17, .ref 37, .ref 39, .int 0, .int 0, .int 0, .ref 41, .int 0])), (.inr (0, [.int 1, .ref 38, .int 0, .int 0])), (.inl (.int, 77, .inl ((fun _ => 0)))), (.inr (0, [.int (-1), .ref 40, .int 0, .int 0])), (.inl (.int, 77, .inl ((fun _ => 0)))), (.inl (.int, 77, .inl ((fun _ => 0)))), (.inr (9, [.int 0, .int 0, .ref 43, .ref 44, .ref 45, .ref 46, .int 0, .int 0, .ref 47, .int 0, .ref 48, .int 0, .ref 49, .ref 50, .ref 51, .ref 52, .long 0, .long 0])), (.inl (.long, 42, .inr (.inl ((fun _ => 0))))), (.inl (.long, 42, .inr (.inl ((fun _ => 0))))), (.inl (.boolean, 1600, .inl ((fun _ => 0)))), (.inl (.boolean, 1600, .inl ((fun _ => 0)))), (.inl (.int, 300, .inl ((fun _ => 0)))), (.inl (.int, 100, .inl ((fun _ => 0)))), (.inl (.int, 100, .inl ((fun _ => 0)))), (.inl (.int, 100, .inl ((fun _ => 0)))), (.inl (.int, 100, .inl ((fun _ => 0)))), (.inl (.int, 100, .inl ((fun _ => 0)))), (.inl (.long, 1, .inr (.inl (fun _ => 0))))]
def HJ18 (f : Nat → Int32) : mHp := [(.inr (8, [.ref 17, .ref 21, .ref 23, .ref 29, .ref 32])), (.inr (5, [.ref 18, .ref 19, .ref 20, .int 0])), (.inl (.int, 42, .inl (upd (fun _ => 0) (Int32.toNatClampNeg 40) (f 1)))), (.inl (.int, 42, .inl (upd (fun _ => 0) (Int32.toNatClampNeg 40) (f 2)))), (.inr (7, [.long 0, .long 0, .long 0])), (.inr (3, [.ref 17, .ref 22, .int 0])), (.inl (.long, 40, .inr (.inl ((fun _ => 0))))), (.inr (4, [.ref 17, .ref 21, .ref 24, .ref 25, .ref 26, .int 0, .ref 27, .int 0, .ref 28])), (.inl (.int, 1600, .inl (mfill 1600 (-1) (fun _ => 0)))), (.inl (.int, 1600, .inl ((fun _ => 0)))), (.inl (.int, 225, .inl ((fun _ => 0)))), (.inl (.int, 800, .inl ((fun _ => 0)))), (.inl (.long, 40, .inr (.inl ((fun _ => 0))))), (.inr (2, [.ref 17, .ref 23, .ref 30, .ref 31, .int 0])), (.inl (.int, 75, .inl ((fun _ => 0)))), (.inl (.int, 75, .inl ((fun _ => 0)))), (.inr (6, [.ref 17, .ref 23, .ref 36, .ref 33, .int 0, .ref 34, .ref 35])), (.inl (.int, 75, .inl ((fun _ => 0)))), (.inl (.int, 75, .inl ((fun _ => 0)))), (.inl (.int, 75, .inl ((fun _ => 0)))), (.inr (1, [.ref 17, .ref 37, .ref 39, .int 0, .int 0, .int 0, .ref 41, .int 0])), (.inr (0, [.int 1, .ref 38, .int 0, .int 0])), (.inl (.int, 77, .inl ((fun _ => 0)))), (.inr (0, [.int (-1), .ref 40, .int 0, .int 0])), (.inl (.int, 77, .inl ((fun _ => 0)))), (.inl (.int, 77, .inl ((fun _ => 0)))), (.inr (9, [.int 0, .int 0, .ref 43, .ref 44, .ref 45, .ref 46, .int 0, .int 0, .ref 47, .int 0, .ref 48, .int 0, .ref 49, .ref 50, .ref 51, .ref 52, .long 0, .long 0])), (.inl (.long, 42, .inr (.inl ((fun _ => 0))))), (.inl (.long, 42, .inr (.inl ((fun _ => 0))))), (.inl (.boolean, 1600, .inl ((fun _ => 0)))), (.inl (.boolean, 1600, .inl ((fun _ => 0)))), (.inl (.int, 300, .inl ((fun _ => 0)))), (.inl (.int, 100, .inl ((fun _ => 0)))), (.inl (.int, 100, .inl ((fun _ => 0)))), (.inl (.int, 100, .inl ((fun _ => 0)))), (.inl (.int, 100, .inl ((fun _ => 0)))), (.inl (.int, 100, .inl ((fun _ => 0)))), (.inl (.long, 1, .inr (.inl (vp_updL (fun _ => 0) (Int32.toNatClampNeg 0) (-1)))))]
def HJ19 (f : Nat → Int32) : mHp := [(.inr (8, [.ref 17, .ref 21, .ref 23, .ref 29, .ref 32])), (.inr (5, [.ref 18, .ref 19, .ref 20, .int 0])), (.inl (.int, 42, .inl (upd (fun _ => 0) (Int32.toNatClampNeg 40) (f 1)))), (.inl (.int, 42, .inl (upd (fun _ => 0) (Int32.toNatClampNeg 40) (f 2)))), (.inr (7, [.long 0, .long 0, .long 0])), (.inr (3, [.ref 17, .ref 22, .int 0])), (.inl (.long, 40, .inr (.inl ((fun _ => 0))))), (.inr (4, [.ref 17, .ref 21, .ref 24, .ref 25, .ref 26, .int 0, .ref 27, .int 0, .ref 28])), (.inl (.int, 1600, .inl (mfill 1600 (-1) (fun _ => 0)))), (.inl (.int, 1600, .inl ((fun _ => 0)))), (.inl (.int, 225, .inl ((fun _ => 0)))), (.inl (.int, 800, .inl ((fun _ => 0)))), (.inl (.long, 40, .inr (.inl ((fun _ => 0))))), (.inr (2, [.ref 17, .ref 23, .ref 30, .ref 31, .int 0])), (.inl (.int, 75, .inl ((fun _ => 0)))), (.inl (.int, 75, .inl ((fun _ => 0)))), (.inr (6, [.ref 17, .ref 23, .ref 36, .ref 33, .int 0, .ref 34, .ref 35])), (.inl (.int, 75, .inl ((fun _ => 0)))), (.inl (.int, 75, .inl ((fun _ => 0)))), (.inl (.int, 75, .inl ((fun _ => 0)))), (.inr (1, [.ref 17, .ref 37, .ref 39, .int 0, .int 0, .int 0, .ref 41, .int 0])), (.inr (0, [.int 1, .ref 38, .int 0, .int 0])), (.inl (.int, 77, .inl ((fun _ => 0)))), (.inr (0, [.int (-1), .ref 40, .int 0, .int 0])), (.inl (.int, 77, .inl ((fun _ => 0)))), (.inl (.int, 77, .inl ((fun _ => 0)))), (.inr (9, [.int 0, .int 0, .ref 43, .ref 44, .ref 45, .ref 46, .int 1, .int 0, .ref 47, .int 0, .ref 48, .int 0, .ref 49, .ref 50, .ref 51, .ref 52, .long 0, .long 0])), (.inl (.long, 42, .inr (.inl ((fun _ => 0))))), (.inl (.long, 42, .inr (.inl ((fun _ => 0))))), (.inl (.boolean, 1600, .inl ((fun _ => 0)))), (.inl (.boolean, 1600, .inl ((fun _ => 0)))), (.inl (.int, 300, .inl ((fun _ => 0)))), (.inl (.int, 100, .inl ((fun _ => 0)))), (.inl (.int, 100, .inl ((fun _ => 0)))), (.inl (.int, 100, .inl ((fun _ => 0)))), (.inl (.int, 100, .inl ((fun _ => 0)))), (.inl (.int, 100, .inl ((fun _ => 0)))), (.inl (.long, 1, .inr (.inl (vp_updL (fun _ => 0) (Int32.toNatClampNeg 0) (-1)))))]
def HJ20 (f : Nat → Int32) : mHp := [(.inr (8, [.ref 17, .ref 21, .ref 23, .ref 29, .ref 32])), (.inr (5, [.ref 18, .ref 19, .ref 20, .int 0])), (.inl (.int, 42, .inl (upd (fun _ => 0) (Int32.toNatClampNeg 40) (f 1)))), (.inl (.int, 42, .inl (upd (fun _ => 0) (Int32.toNatClampNeg 40) (f 2)))), (.inr (7, [.long 0, .long 0, .long 0])), (.inr (3, [.ref 17, .ref 22, .int 0])), (.inl (.long, 40, .inr (.inl ((fun _ => 0))))), (.inr (4, [.ref 17, .ref 21, .ref 24, .ref 25, .ref 26, .int 0, .ref 27, .int 0, .ref 28])), (.inl (.int, 1600, .inl (mfill 1600 (-1) (fun _ => 0)))), (.inl (.int, 1600, .inl ((fun _ => 0)))), (.inl (.int, 225, .inl ((fun _ => 0)))), (.inl (.int, 800, .inl ((fun _ => 0)))), (.inl (.long, 40, .inr (.inl ((fun _ => 0))))), (.inr (2, [.ref 17, .ref 23, .ref 30, .ref 31, .int 0])), (.inl (.int, 75, .inl ((fun _ => 0)))), (.inl (.int, 75, .inl ((fun _ => 0)))), (.inr (6, [.ref 17, .ref 23, .ref 36, .ref 33, .int 0, .ref 34, .ref 35])), (.inl (.int, 75, .inl ((fun _ => 0)))), (.inl (.int, 75, .inl ((fun _ => 0)))), (.inl (.int, 75, .inl ((fun _ => 0)))), (.inr (1, [.ref 17, .ref 37, .ref 39, .int 0, .int 0, .int 0, .ref 41, .int 0])), (.inr (0, [.int 1, .ref 38, .int 0, .int 0])), (.inl (.int, 77, .inl ((fun _ => 0)))), (.inr (0, [.int (-1), .ref 40, .int 0, .int 0])), (.inl (.int, 77, .inl ((fun _ => 0)))), (.inl (.int, 77, .inl ((fun _ => 0)))), (.inr (9, [.int 0, .int 0, .ref 43, .ref 44, .ref 45, .ref 46, .int 1, .int 0, .ref 47, .int 0, .ref 48, .int 0, .ref 49, .ref 50, .ref 51, .ref 52, .long 0, .long 0])), (.inl (.long, 42, .inr (.inl ((fun _ => 0))))), (.inl (.long, 42, .inr (.inl ((fun _ => 0))))), (.inl (.boolean, 1600, .inl ((fun _ => 0)))), (.inl (.boolean, 1600, .inl (mcpz 1600 (fun _ => 0) (fun _ => 0)))), (.inl (.int, 300, .inl ((fun _ => 0)))), (.inl (.int, 100, .inl ((fun _ => 0)))), (.inl (.int, 100, .inl ((fun _ => 0)))), (.inl (.int, 100, .inl ((fun _ => 0)))), (.inl (.int, 100, .inl ((fun _ => 0)))), (.inl (.int, 100, .inl ((fun _ => 0)))), (.inl (.long, 1, .inr (.inl (vp_updL (fun _ => 0) (Int32.toNatClampNeg 0) (-1)))))]
def HJ21 (f : Nat → Int32) : mHp := [(.inr (8, [.ref 17, .ref 21, .ref 23, .ref 29, .ref 32])), (.inr (5, [.ref 18, .ref 19, .ref 20, .int 0])), (.inl (.int, 42, .inl (upd (fun _ => 0) (Int32.toNatClampNeg 40) (f 1)))), (.inl (.int, 42, .inl (upd (fun _ => 0) (Int32.toNatClampNeg 40) (f 2)))), (.inr (7, [.long 0, .long 0, .long 0])), (.inr (3, [.ref 17, .ref 22, .int 0])), (.inl (.long, 40, .inr (.inl ((fun _ => 0))))), (.inr (4, [.ref 17, .ref 21, .ref 24, .ref 25, .ref 26, .int 0, .ref 27, .int 0, .ref 28])), (.inl (.int, 1600, .inl (mfill 1600 (-1) (fun _ => 0)))), (.inl (.int, 1600, .inl ((fun _ => 0)))), (.inl (.int, 225, .inl ((fun _ => 0)))), (.inl (.int, 800, .inl ((fun _ => 0)))), (.inl (.long, 40, .inr (.inl ((fun _ => 0))))), (.inr (2, [.ref 17, .ref 23, .ref 30, .ref 31, .int 0])), (.inl (.int, 75, .inl ((fun _ => 0)))), (.inl (.int, 75, .inl ((fun _ => 0)))), (.inr (6, [.ref 17, .ref 23, .ref 36, .ref 33, .int 0, .ref 34, .ref 35])), (.inl (.int, 75, .inl ((fun _ => 0)))), (.inl (.int, 75, .inl ((fun _ => 0)))), (.inl (.int, 75, .inl ((fun _ => 0)))), (.inr (1, [.ref 17, .ref 37, .ref 39, .int 0, .int 0, .int 0, .ref 41, .int 0])), (.inr (0, [.int 1, .ref 38, .int 0, .int 0])), (.inl (.int, 77, .inl ((fun _ => 0)))), (.inr (0, [.int (-1), .ref 40, .int 0, .int 0])), (.inl (.int, 77, .inl ((fun _ => 0)))), (.inl (.int, 77, .inl ((fun _ => 0)))), (.inr (9, [.int 0, .int 0, .ref 43, .ref 44, .ref 45, .ref 46, .int 1, .int 0, .ref 47, .int 0, .ref 48, .int 0, .ref 49, .ref 50, .ref 51, .ref 52, .long 0, .long 0])), (.inl (.long, 42, .inr (.inl (vp_updL (fun _ => 0) (Int32.toNatClampNeg 40) (Int32.toInt64 (f 1)))))), (.inl (.long, 42, .inr (.inl (vp_updL (fun _ => 0) (Int32.toNatClampNeg 40) (Int32.toInt64 (f 2)))))), (.inl (.boolean, 1600, .inl ((fun _ => 0)))), (.inl (.boolean, 1600, .inl (mcpz 1600 (fun _ => 0) (fun _ => 0)))), (.inl (.int, 300, .inl ((fun _ => 0)))), (.inl (.int, 100, .inl ((fun _ => 0)))), (.inl (.int, 100, .inl ((fun _ => 0)))), (.inl (.int, 100, .inl ((fun _ => 0)))), (.inl (.int, 100, .inl ((fun _ => 0)))), (.inl (.int, 100, .inl ((fun _ => 0)))), (.inl (.long, 1, .inr (.inl (vp_updL (fun _ => 0) (Int32.toNatClampNeg 0) (-1)))))]
def HJ22 (f : Nat → Int32) : mHp := [(.inr (8, [.ref 17, .ref 21, .ref 23, .ref 29, .ref 32])), (.inr (5, [.ref 18, .ref 19, .ref 20, .int 0])), (.inl (.int, 42, .inl (upd (upd (fun _ => 0) (Int32.toNatClampNeg 40) (f 1)) (Int32.toNatClampNeg 41) (f 3)))), (.inl (.int, 42, .inl (upd (upd (fun _ => 0) (Int32.toNatClampNeg 40) (f 2)) (Int32.toNatClampNeg 41) (f 4)))), (.inr (7, [.long 0, .long 0, .long 0])), (.inr (3, [.ref 17, .ref 22, .int 0])), (.inl (.long, 40, .inr (.inl ((fun _ => 0))))), (.inr (4, [.ref 17, .ref 21, .ref 24, .ref 25, .ref 26, .int 0, .ref 27, .int 0, .ref 28])), (.inl (.int, 1600, .inl (mfill 1600 (-1) (fun _ => 0)))), (.inl (.int, 1600, .inl ((fun _ => 0)))), (.inl (.int, 225, .inl ((fun _ => 0)))), (.inl (.int, 800, .inl ((fun _ => 0)))), (.inl (.long, 40, .inr (.inl ((fun _ => 0))))), (.inr (2, [.ref 17, .ref 23, .ref 30, .ref 31, .int 0])), (.inl (.int, 75, .inl ((fun _ => 0)))), (.inl (.int, 75, .inl ((fun _ => 0)))), (.inr (6, [.ref 17, .ref 23, .ref 36, .ref 33, .int 0, .ref 34, .ref 35])), (.inl (.int, 75, .inl ((fun _ => 0)))), (.inl (.int, 75, .inl ((fun _ => 0)))), (.inl (.int, 75, .inl ((fun _ => 0)))), (.inr (1, [.ref 17, .ref 37, .ref 39, .int 0, .int 0, .int 0, .ref 41, .int 0])), (.inr (0, [.int 1, .ref 38, .int 0, .int 0])), (.inl (.int, 77, .inl ((fun _ => 0)))), (.inr (0, [.int (-1), .ref 40, .int 0, .int 0])), (.inl (.int, 77, .inl ((fun _ => 0)))), (.inl (.int, 77, .inl ((fun _ => 0)))), (.inr (9, [.int 0, .int 0, .ref 43, .ref 44, .ref 45, .ref 46, .int 0, .int 0, .ref 47, .int 0, .ref 48, .int 0, .ref 49, .ref 50, .ref 51, .ref 52, .long 0, .long 0])), (.inl (.long, 42, .inr (.inl ((fun _ => 0))))), (.inl (.long, 42, .inr (.inl ((fun _ => 0))))), (.inl (.boolean, 1600, .inl ((fun _ => 0)))), (.inl (.boolean, 1600, .inl ((fun _ => 0)))), (.inl (.int, 300, .inl ((fun _ => 0)))), (.inl (.int, 100, .inl ((fun _ => 0)))), (.inl (.int, 100, .inl ((fun _ => 0)))), (.inl (.int, 100, .inl ((fun _ => 0)))), (.inl (.int, 100, .inl ((fun _ => 0)))), (.inl (.int, 100, .inl ((fun _ => 0)))), (.inl (.long, 1, .inr (.inl (fun _ => 0))))]
def HJ23 (f : Nat → Int32) : mHp := [(.inr (8, [.ref 17, .ref 21, .ref 23, .ref 29, .ref 32])), (.inr (5, [.ref 18, .ref 19, .ref 20, .int 0])), (.inl (.int, 42, .inl (upd (upd (fun _ => 0) (Int32.toNatClampNeg 40) (f 1)) (Int32.toNatClampNeg 41) (f 3)))), (.inl (.int, 42, .inl (upd (upd (fun _ => 0) (Int32.toNatClampNeg 40) (f 2)) (Int32.toNatClampNeg 41) (f 4)))), (.inr (7, [.long 0, .long 0, .long 0])), (.inr (3, [.ref 17, .ref 22, .int 0])), (.inl (.long, 40, .inr (.inl ((fun _ => 0))))), (.inr (4, [.ref 17, .ref 21, .ref 24, .ref 25, .ref 26, .int 0, .ref 27, .int 0, .ref 28])), (.inl (.int, 1600, .inl (mfill 1600 (-1) (fun _ => 0)))), (.inl (.int, 1600, .inl ((fun _ => 0)))), (.inl (.int, 225, .inl ((fun _ => 0)))), (.inl (.int, 800, .inl ((fun _ => 0)))), (.inl (.long, 40, .inr (.inl ((fun _ => 0))))), (.inr (2, [.ref 17, .ref 23, .ref 30, .ref 31, .int 0])), (.inl (.int, 75, .inl ((fun _ => 0)))), (.inl (.int, 75, .inl ((fun _ => 0)))), (.inr (6, [.ref 17, .ref 23, .ref 36, .ref 33, .int 0, .ref 34, .ref 35])), (.inl (.int, 75, .inl ((fun _ => 0)))), (.inl (.int, 75, .inl ((fun _ => 0)))), (.inl (.int, 75, .inl ((fun _ => 0)))), (.inr (1, [.ref 17, .ref 37, .ref 39, .int 0, .int 0, .int 0, .ref 41, .int 0])), (.inr (0, [.int 1, .ref 38, .int 0, .int 0])), (.inl (.int, 77, .inl ((fun _ => 0)))), (.inr (0, [.int (-1), .ref 40, .int 0, .int 0])), (.inl (.int, 77, .inl ((fun _ => 0)))), (.inl (.int, 77, .inl ((fun _ => 0)))), (.inr (9, [.int 0, .int 0, .ref 43, .ref 44, .ref 45, .ref 46, .int 0, .int 0, .ref 47, .int 0, .ref 48, .int 0, .ref 49, .ref 50, .ref 51, .ref 52, .long 0, .long 0])), (.inl (.long, 42, .inr (.inl ((fun _ => 0))))), (.inl (.long, 42, .inr (.inl ((fun _ => 0))))), (.inl (.boolean, 1600, .inl ((fun _ => 0)))), (.inl (.boolean, 1600, .inl ((fun _ => 0)))), (.inl (.int, 300, .inl ((fun _ => 0)))), (.inl (.int, 100, .inl ((fun _ => 0)))), (.inl (.int, 100, .inl ((fun _ => 0)))), (.inl (.int, 100, .inl ((fun _ => 0)))), (.inl (.int, 100, .inl ((fun _ => 0)))), (.inl (.int, 100, .inl ((fun _ => 0)))), (.inl (.long, 1, .inr (.inl (vp_updL (fun _ => 0) (Int32.toNatClampNeg 0) (-1)))))]
def HJ24 (f : Nat → Int32) : mHp := [(.inr (8, [.ref 17, .ref 21, .ref 23, .ref 29, .ref 32])), (.inr (5, [.ref 18, .ref 19, .ref 20, .int 0])), (.inl (.int, 42, .inl (upd (upd (fun _ => 0) (Int32.toNatClampNeg 40) (f 1)) (Int32.toNatClampNeg 41) (f 3)))), (.inl (.int, 42, .inl (upd (upd (fun _ => 0) (Int32.toNatClampNeg 40) (f 2)) (Int32.toNatClampNeg 41) (f 4)))), (.inr (7, [.long 0, .long 0, .long 0])), (.inr (3, [.ref 17, .ref 22, .int 0])), (.inl (.long, 40, .inr (.inl ((fun _ => 0))))), (.inr (4, [.ref 17, .ref 21, .ref 24, .ref 25, .ref 26, .int 0, .ref 27, .int 0, .ref 28])), (.inl (.int, 1600, .inl (mfill 1600 (-1) (fun _ => 0)))), (.inl (.int, 1600, .inl ((fun _ => 0)))), (.inl (.int, 225, .inl ((fun _ => 0)))), (.inl (.int, 800, .inl ((fun _ => 0)))), (.inl (.long, 40, .inr (.inl ((fun _ => 0))))), (.inr (2, [.ref 17, .ref 23, .ref 30, .ref 31, .int 0])), (.inl (.int, 75, .inl ((fun _ => 0)))), (.inl (.int, 75, .inl ((fun _ => 0)))), (.inr (6, [.ref 17, .ref 23, .ref 36, .ref 33, .int 0, .ref 34, .ref 35])), (.inl (.int, 75, .inl ((fun _ => 0)))), (.inl (.int, 75, .inl ((fun _ => 0)))), (.inl (.int, 75, .inl ((fun _ => 0)))), (.inr (1, [.ref 17, .ref 37, .ref 39, .int 0, .int 0, .int 0, .ref 41, .int 0])), (.inr (0, [.int 1, .ref 38, .int 0, .int 0])), (.inl (.int, 77, .inl ((fun _ => 0)))), (.inr (0, [.int (-1), .ref 40, .int 0, .int 0])), (.inl (.int, 77, .inl ((fun _ => 0)))), (.inl (.int, 77, .inl ((fun _ => 0)))), (.inr (9, [.int 0, .int 0, .ref 43, .ref 44, .ref 45, .ref 46, .int 1, .int 0, .ref 47, .int 0, .ref 48, .int 0, .ref 49, .ref 50, .ref 51, .ref 52, .long 0, .long 0])), (.inl (.long, 42, .inr (.inl ((fun _ => 0))))), (.inl (.long, 42, .inr (.inl ((fun _ => 0))))), (.inl (.boolean, 1600, .inl ((fun _ => 0)))), (.inl (.boolean, 1600, .inl ((fun _ => 0)))), (.inl (.int, 300, .inl ((fun _ => 0)))), (.inl (.int, 100, .inl ((fun _ => 0)))), (.inl (.int, 100, .inl ((fun _ => 0)))), (.inl (.int, 100, .inl ((fun _ => 0)))), (.inl (.int, 100, .inl ((fun _ => 0)))), (.inl (.int, 100, .inl ((fun _ => 0)))), (.inl (.long, 1, .inr (.inl (vp_updL (fun _ => 0) (Int32.toNatClampNeg 0) (-1)))))]
def HJ25 (f : Nat → Int32) : mHp := [(.inr (8, [.ref 17, .ref 21, .ref 23, .ref 29, .ref 32])), (.inr (5, [.ref 18, .ref 19, .ref 20, .int 0])), (.inl (.int, 42, .inl (upd (upd (fun _ => 0) (Int32.toNatClampNeg 40) (f 1)) (Int32.toNatClampNeg 41) (f 3)))), (.inl (.int, 42, .inl (upd (upd (fun _ => 0) (Int32.toNatClampNeg 40) (f 2)) (Int32.toNatClampNeg 41) (f 4)))), (.inr (7, [.long 0, .long 0, .long 0])), (.inr (3, [.ref 17, .ref 22, .int 0])), (.inl (.long, 40, .inr (.inl ((fun _ => 0))))), (.inr (4, [.ref 17, .ref 21, .ref 24, .ref 25, .ref 26, .int 0, .ref 27, .int 0, .ref 28])), (.inl (.int, 1600, .inl (mfill 1600 (-1) (fun _ => 0)))), (.inl (.int, 1600, .inl ((fun _ => 0)))), (.inl (.int, 225, .inl ((fun _ => 0)))), (.inl (.int, 800, .inl ((fun _ => 0)))), (.inl (.long, 40, .inr (.inl ((fun _ => 0))))), (.inr (2, [.ref 17, .ref 23, .ref 30, .ref 31, .int 0])), (.inl (.int, 75, .inl ((fun _ => 0)))), (.inl (.int, 75, .inl ((fun _ => 0)))), (.inr (6, [.ref 17, .ref 23, .ref 36, .ref 33, .int 0, .ref 34, .ref 35])), (.inl (.int, 75, .inl ((fun _ => 0)))), (.inl (.int, 75, .inl ((fun _ => 0)))), (.inl (.int, 75, .inl ((fun _ => 0)))), (.inr (1, [.ref 17, .ref 37, .ref 39, .int 0, .int 0, .int 0, .ref 41, .int 0])), (.inr (0, [.int 1, .ref 38, .int 0, .int 0])), (.inl (.int, 77, .inl ((fun _ => 0)))), (.inr (0, [.int (-1), .ref 40, .int 0, .int 0])), (.inl (.int, 77, .inl ((fun _ => 0)))), (.inl (.int, 77, .inl ((fun _ => 0)))), (.inr (9, [.int 0, .int 0, .ref 43, .ref 44, .ref 45, .ref 46, .int 1, .int 0, .ref 47, .int 0, .ref 48, .int 0, .ref 49, .ref 50, .ref 51, .ref 52, .long 0, .long 0])), (.inl (.long, 42, .inr (.inl ((fun _ => 0))))), (.inl (.long, 42, .inr (.inl ((fun _ => 0))))), (.inl (.boolean, 1600, .inl ((fun _ => 0)))), (.inl (.boolean, 1600, .inl (mcpz 1600 (fun _ => 0) (fun _ => 0)))), (.inl (.int, 300, .inl ((fun _ => 0)))), (.inl (.int, 100, .inl ((fun _ => 0)))), (.inl (.int, 100, .inl ((fun _ => 0)))), (.inl (.int, 100, .inl ((fun _ => 0)))), (.inl (.int, 100, .inl ((fun _ => 0)))), (.inl (.int, 100, .inl ((fun _ => 0)))), (.inl (.long, 1, .inr (.inl (vp_updL (fun _ => 0) (Int32.toNatClampNeg 0) (-1)))))]
def HJ26 (f : Nat → Int32) : mHp := [(.inr (8, [.ref 17, .ref 21, .ref 23, .ref 29, .ref 32])), (.inr (5, [.ref 18, .ref 19, .ref 20, .int 0])), (.inl (.int, 42, .inl (upd (upd (fun _ => 0) (Int32.toNatClampNeg 40) (f 1)) (Int32.toNatClampNeg 41) (f 3)))), (.inl (.int, 42, .inl (upd (upd (fun _ => 0) (Int32.toNatClampNeg 40) (f 2)) (Int32.toNatClampNeg 41) (f 4)))), (.inr (7, [.long 0, .long 0, .long 0])), (.inr (3, [.ref 17, .ref 22, .int 0])), (.inl (.long, 40, .inr (.inl ((fun _ => 0))))), (.inr (4, [.ref 17, .ref 21, .ref 24, .ref 25, .ref 26, .int 0, .ref 27, .int 0, .ref 28])), (.inl (.int, 1600, .inl (mfill 1600 (-1) (fun _ => 0)))), (.inl (.int, 1600, .inl ((fun _ => 0)))), (.inl (.int, 225, .inl ((fun _ => 0)))), (.inl (.int, 800, .inl ((fun _ => 0)))), (.inl (.long, 40, .inr (.inl ((fun _ => 0))))), (.inr (2, [.ref 17, .ref 23, .ref 30, .ref 31, .int 0])), (.inl (.int, 75, .inl ((fun _ => 0)))), (.inl (.int, 75, .inl ((fun _ => 0)))), (.inr (6, [.ref 17, .ref 23, .ref 36, .ref 33, .int 0, .ref 34, .ref 35])), (.inl (.int, 75, .inl ((fun _ => 0)))), (.inl (.int, 75, .inl ((fun _ => 0)))), (.inl (.int, 75, .inl ((fun _ => 0)))), (.inr (1, [.ref 17, .ref 37, .ref 39, .int 0, .int 0, .int 0, .ref 41, .int 0])), (.inr (0, [.int 1, .ref 38, .int 0, .int 0])), (.inl (.int, 77, .inl ((fun _ => 0)))), (.inr (0, [.int (-1), .ref 40, .int 0, .int 0])), (.inl (.int, 77, .inl ((fun _ => 0)))), (.inl (.int, 77, .inl ((fun _ => 0)))), (.inr (9, [.int 0, .int 0, .ref 43, .ref 44, .ref 45, .ref 46, .int 1, .int 0, .ref 47, .int 0, .ref 48, .int 0, .ref 49, .ref 50, .ref 51, .ref 52, .long 0, .long 0])), (.inl (.long, 42, .inr (.inl (vp_updL (vp_updL (fun _ => 0) (Int32.toNatClampNeg 40) (Int32.toInt64 (f 1))) (Int32.toNatClampNeg 41) (Int32.toInt64 (f 3)))))), (.inl (.long, 42, .inr (.inl (vp_updL (vp_updL (fun _ => 0) (Int32.toNatClampNeg 40) (Int32.toInt64 (f 2))) (Int32.toNatClampNeg 41) (Int32.toInt64 (f 4)))))), (.inl (.boolean, 1600, .inl ((fun _ => 0)))), (.inl (.boolean, 1600, .inl (mcpz 1600 (fun _ => 0) (fun _ => 0)))), (.inl (.int, 300, .inl ((fun _ => 0)))), (.inl (.int, 100, .inl ((fun _ => 0)))), (.inl (.int, 100, .inl ((fun _ => 0)))), (.inl (.int, 100, .inl ((fun _ => 0)))), (.inl (.int, 100, .inl ((fun _ => 0)))), (.inl (.int, 100, .inl ((fun _ => 0)))), (.inl (.long, 1, .inr (.inl (vp_updL (fun _ => 0) (Int32.toNatClampNeg 0) (-1)))))]
set_option maxRecDepth 4000 in
theorem w1 {f : Nat → Int32} (h0 : ((f 1) < (-536870911))) : RunsP 97 (0, [(0, .ref 16), (1, .int (f 1)), (2, .int (f 2))], [], HL0) (.inr 54, HJ1) := by
  refine Q_p d97_0 rfl rfl ?_
  refine Q_ci (v := (-536870911)) 369 d97_1 (List.mem_of_getElem? (i := 0) rfl) ?_
  refine Q_br 24 d97_3 (mb_t (b := ((f 1) < (-536870911))) h0) rfl ?_
  exact Q_thr 1 d97_24 d97_27 d97_28 d97_30 d97_33 rfl (List.mem_of_getElem? (i := 2) rfl) rfl (by decide) (by decide)
set_option maxRecDepth 4000 in
theorem w2 {f : Nat → Int32} (h0 : ((f 1) < (-536870911))) : Run (5, f) 96 (0, [(0, .ref 16), (1, .int (f 1)), (2, .int (f 2))], [], HL0) (.inr 54, HJ1) := by
  refine R_p d96_0 rfl rfl ?_
  refine R_p d96_1 rfl rfl ?_
  refine R_p d96_2 rfl rfl ?_
  exact R_tv [.int (f 1), .int (f 2)] d96_3 (List.mem_of_getElem? (i := 30) rfl) ⟨by decide, by decide, Nat.le_of_ble_eq_true rfl, mcd97⟩ rfl rfl (Nat.le_of_ble_eq_true rfl) rfl rfl rfl (Or.inr (w1 (f := f) h0))
set_option maxRecDepth 4000 in
theorem w3 {f : Nat → Int32} (h0 : ((f 1) < (-536870911))) : Run (5, f) 157 (0, [(0, .ref 16), (1, .int (f 1)), (2, .int (f 2)), (3, .ref 53)], [], HL0) (.inl (some (.int 1)), HJ1) := by
  refine R_p d157_0 rfl rfl ?_
  refine R_ic (v := 0) d157_1 (by decide) ?_
  refine R_p d157_2 rfl rfl ?_
  refine R_p d157_3 rfl rfl ?_
  refine R_p d157_4 rfl rfl ?_
  refine R_tc [.int (f 1), .int (f 2)] d157_5 (List.mem_of_getElem? (i := 29) rfl) ⟨by decide, by decide, Nat.le_of_ble_eq_true rfl, mcd96⟩ rfl rfl (Nat.le_of_ble_eq_true rfl) rfl rfl rfl (cx := 10) (hp := 13) rfl (by decide) (by decide) (by decide) (Or.inl (w2 (f := f) h0)) ?_
  refine R_p (ls' := [(0, .ref 16), (1, .int (f 1)), (2, .int (f 2)), (3, .ref 53), (4, .ref 54)]) d157_13 rfl rfl ?_
  refine R_ic (v := 1) d157_15 (by decide) ?_
  exact R_iret d157_16 rfl rfl rfl
set_option maxRecDepth 4000 in
theorem w4 {f : Nat → Int32} (h0 : ((f 1) < (-536870911))) : Run (5, f) 116 (0, [(0, .int (f 1)), (1, .int (-536870911)), (2, .int 536870911)], [], HJ1) (.inl (some (.int 0)), HJ1) := by
  refine R_p d116_0 rfl rfl ?_
  refine R_p d116_1 rfl rfl ?_
  refine R_br 14 d116_2 (mb_t (b := ((f 1) < (-536870911))) h0) rfl ?_
  refine R_ic (v := 0) d116_14 (by decide) ?_
  exact R_iret d116_15 rfl rfl rfl
set_option maxRecDepth 4000 in
theorem w5 {f : Nat → Int32} (h0 : ((f 1) < (-536870911))) : Run (5, f) 115 (0, [(0, .int (f 1)), (1, .int (f 2))], [], HJ1) (.inl (some (.int 0)), HJ1) := by
  refine R_p d115_0 rfl rfl ?_
  refine R_ci (v := (-536870911)) 959 d115_1 (List.mem_of_getElem? (i := 4) rfl) ?_
  refine R_ci (v := 536870911) 960 d115_3 (List.mem_of_getElem? (i := 5) rfl) ?_
  refine R_cs [.int (f 1), .int (-536870911), .int 536870911] d115_5 (List.mem_of_getElem? (i := 163) rfl) rfl ⟨by decide, by decide, Nat.le_of_ble_eq_true rfl, rfl, mcd116⟩ rfl rfl (Nat.le_of_ble_eq_true rfl) (w4 (f := f) h0) ?_
  refine R_br 26 d115_8 (mb_t (b := ((0 : Int32) = (0 : Int32))) (by decide)) rfl ?_
  refine R_ic (v := 0) d115_26 (by decide) ?_
  exact R_iret d115_27 rfl rfl rfl
set_option maxRecDepth 4000 in
theorem w6 {f : Nat → Int32} : Run (5, f) 117 (0, [(0, .ref 42), (1, .int 1)], [], HJ1) (.inl (some (.int 1)), HJ2) := by
  refine R_p d117_0 rfl rfl ?_
  refine R_p d117_1 rfl rfl ?_
  refine R_put d117_2 (List.mem_of_getElem? (i := 48) rfl) rfl (by decide) rfl rfl (Or.inl rfl) ?_
  refine R_p d117_5 rfl rfl ?_
  refine R_nb d117_6 rfl (mb_f (b := ((1 : Int32) ≤ (0 : Int32))) (by decide)) ?_
  refine R_ic (v := 1) d117_9 (by decide) ?_
  refine R_br 14 d117_10 rfl rfl ?_
  exact R_iret d117_14 rfl rfl rfl
set_option maxRecDepth 4000 in
theorem w7 {f : Nat → Int32} (h0 : ((f 1) < (-536870911))) : Run (5, f) 114 (0, [(0, .ref 42), (1, .int (f 1)), (2, .int (f 2))], [], HJ1) (.inl (some (.int 0)), HJ2) := by
  refine R_p d114_0 rfl rfl ?_
  refine R_p d114_1 rfl rfl ?_
  refine R_p d114_2 rfl rfl ?_
  refine R_cs [.int (f 1), .int (f 2)] d114_3 (List.mem_of_getElem? (i := 162) rfl) rfl ⟨by decide, by decide, Nat.le_of_ble_eq_true rfl, rfl, mcd115⟩ rfl rfl (Nat.le_of_ble_eq_true rfl) (w5 (f := f) h0) ?_
  refine R_nb d114_6 rfl (mb_f (b := (¬ (0 : Int32) = (0 : Int32))) (fun q => q (by decide))) ?_
  refine R_ic (v := 1) d114_9 (by decide) ?_
  refine R_br 27 d114_10 rfl rfl ?_
  refine R_cm [.int 1] d114_27 (List.mem_of_getElem? (i := 164) rfl) rfl ⟨by decide, by decide, Nat.le_of_ble_eq_true rfl, rfl, mcd117⟩ rfl rfl (Nat.le_of_ble_eq_true rfl) rfl rfl (w6 (f := f)) ?_
  refine R_nb d114_30 rfl (mb_f (b := ((1 : Int32) = (0 : Int32))) (by decide)) ?_
  refine R_ic (v := 0) d114_33 (by decide) ?_
  exact R_iret d114_34 rfl rfl rfl
set_option maxRecDepth 4000 in
theorem w8 {f : Nat → Int32} : Run (5, f) 113 (0, [(0, .ref 42)], [], HJ2) (.inl (some (.int 1)), HJ2) := by
  refine R_p d113_0 rfl rfl ?_
  refine R_get d113_1 (Or.inl (List.mem_of_getElem? (i := 48) rfl)) rfl rfl ?_
  exact R_iret d113_4 rfl rfl rfl
set_option maxRecDepth 4000 in
theorem law108_9 {f : Nat → Int32} (h0 : ((f 1) < (-536870911))) : Run (5, f) 171 (108, [(0, .ref 0), (1, .ref 16), (2, .ref 42), (3, .ref 53), (4, .int 0)], [], HL0) (.inl (some (.int 1)), HJ2) := by
  refine R_p d171_108 rfl rfl ?_
  refine R_p d171_109 rfl rfl ?_
  refine R_p d171_110 rfl rfl ?_
  refine R_ic (v := 1) d171_112 (by decide) ?_
  refine R_p d171_113 rfl rfl ?_
  refine R_nv (v := _) (v' := 1) (by decide) ?_
  refine R_sldk (n := 1) (x := (f 1)) d171_114 (vp_ok (by decide)) (by decide) rfl ?_
  refine R_p d171_115 rfl rfl ?_
  refine R_p d171_116 rfl rfl ?_
  refine R_ic (v := 2) d171_118 (by decide) ?_
  refine R_p d171_119 rfl rfl ?_
  refine R_nv (v := _) (v' := 2) (by decide) ?_
  refine R_sldk (n := 2) (x := (f 2)) d171_120 (vp_ok (by decide)) (by decide) rfl ?_
  refine R_p d171_121 rfl rfl ?_
  refine R_hs [.ref 16, .int (f 1), .int (f 2), .ref 53] d171_122 (List.mem_of_getElem? (i := 28) rfl) ⟨by decide, by decide, Nat.le_of_ble_eq_true rfl, mcd157⟩ rfl rfl (Nat.le_of_ble_eq_true rfl) (w3 (f := f) h0) ?_
  refine R_p (ls' := [(0, .ref 0), (1, .ref 16), (2, .ref 42), (3, .ref 53), (4, .int 0), (5, .int 1)]) d171_125 rfl rfl ?_
  refine R_p d171_127 rfl rfl ?_
  refine R_p d171_128 rfl rfl ?_
  refine R_p d171_129 rfl rfl ?_
  refine R_ic (v := 1) d171_131 (by decide) ?_
  refine R_p d171_132 rfl rfl ?_
  refine R_nv (v := _) (v' := 1) (by decide) ?_
  refine R_sldk (n := 1) (x := (f 1)) d171_133 (vp_ok (by decide)) (by decide) rfl ?_
  refine R_p d171_134 rfl rfl ?_
  refine R_p d171_135 rfl rfl ?_
  refine R_ic (v := 2) d171_137 (by decide) ?_
  refine R_p d171_138 rfl rfl ?_
  refine R_nv (v := _) (v' := 2) (by decide) ?_
  refine R_sldk (n := 2) (x := (f 2)) d171_139 (vp_ok (by decide)) (by decide) rfl ?_
  refine R_cm [.int (f 1), .int (f 2)] d171_140 (List.mem_of_getElem? (i := 161) rfl) rfl ⟨by decide, by decide, Nat.le_of_ble_eq_true rfl, rfl, mcd114⟩ rfl rfl (Nat.le_of_ble_eq_true rfl) rfl rfl (w7 (f := f) h0) ?_
  refine R_p (ls' := [(0, .ref 0), (1, .ref 16), (2, .ref 42), (3, .ref 53), (4, .int 0), (5, .int 1), (6, .int 0)]) d171_143 rfl rfl ?_
  refine R_p d171_145 rfl rfl ?_
  refine R_cm [] d171_146 (List.mem_of_getElem? (i := 160) rfl) rfl ⟨by decide, by decide, Nat.le_of_ble_eq_true rfl, rfl, mcd113⟩ rfl rfl (Nat.le_of_ble_eq_true rfl) rfl rfl (w8 (f := f)) ?_
  refine R_p d171_149 rfl rfl ?_
  refine R_br 156 d171_151 (mb_t (b := ((1 : Int32) = (1 : Int32))) (by decide)) rfl ?_
  refine R_p d171_156 rfl rfl ?_
  refine R_br 173 d171_158 (mb_t (b := (¬ (1 : Int32) = (0 : Int32))) (by decide)) rfl ?_
  refine R_br 950 d171_173 rfl rfl ?_
  refine R_p (ls' := [(0, .ref 0), (1, .ref 16), (2, .ref 42), (3, .ref 53), (4, .int 5), (5, .int 1), (6, .int 0)]) d171_950 rfl rfl ?_
  refine R_br 23 d171_953 rfl rfl ?_
  refine R_p d171_23 rfl rfl ?_
  refine R_p d171_25 rfl rfl ?_
  refine R_sln d171_26 ?_
  refine R_nv (v := _) (v' := 5) (show Int32.ofNat 5 = 5 from by decide) ?_
  refine R_ic (v := 5) d171_27 (by decide) ?_
  refine R_p d171_28 rfl rfl ?_
  refine R_nv (v := _) (v' := 0) (by decide) ?_
  refine R_br 956 d171_29 (mb_t (b := ((0 : Int32) < (5 : Int32))) (by decide)) rfl ?_
  refine R_ic (v := 1) d171_956 (by decide) ?_
  exact R_iret d171_957 rfl rfl rfl
set_option maxRecDepth 4000 in
theorem w10 {f : Nat → Int32} (h0 : ¬ ((f 1) < (-536870911))) (h1 : (536870911 < (f 1))) : RunsP 97 (0, [(0, .ref 16), (1, .int (f 1)), (2, .int (f 2))], [], HL0) (.inr 54, HJ1) := by
  refine Q_p d97_0 rfl rfl ?_
  refine Q_ci (v := (-536870911)) 369 d97_1 (List.mem_of_getElem? (i := 0) rfl) ?_
  refine Q_nb d97_3 rfl (mb_f (b := ((f 1) < (-536870911))) h0) ?_
  refine Q_p d97_6 rfl rfl ?_
  refine Q_ci (v := 536870911) 370 d97_7 (List.mem_of_getElem? (i := 1) rfl) ?_
  refine Q_br 24 d97_9 (mb_t (b := (536870911 < (f 1))) h1) rfl ?_
  exact Q_thr 1 d97_24 d97_27 d97_28 d97_30 d97_33 rfl (List.mem_of_getElem? (i := 2) rfl) rfl (by decide) (by decide)
set_option maxRecDepth 4000 in
theorem w11 {f : Nat → Int32} (h0 : ¬ ((f 1) < (-536870911))) (h1 : (536870911 < (f 1))) : Run (5, f) 96 (0, [(0, .ref 16), (1, .int (f 1)), (2, .int (f 2))], [], HL0) (.inr 54, HJ1) := by
  refine R_p d96_0 rfl rfl ?_
  refine R_p d96_1 rfl rfl ?_
  refine R_p d96_2 rfl rfl ?_
  exact R_tv [.int (f 1), .int (f 2)] d96_3 (List.mem_of_getElem? (i := 30) rfl) ⟨by decide, by decide, Nat.le_of_ble_eq_true rfl, mcd97⟩ rfl rfl (Nat.le_of_ble_eq_true rfl) rfl rfl rfl (Or.inr (w10 (f := f) h0 h1))
set_option maxRecDepth 4000 in
theorem w12 {f : Nat → Int32} (h0 : ¬ ((f 1) < (-536870911))) (h1 : (536870911 < (f 1))) : Run (5, f) 157 (0, [(0, .ref 16), (1, .int (f 1)), (2, .int (f 2)), (3, .ref 53)], [], HL0) (.inl (some (.int 1)), HJ1) := by
  refine R_p d157_0 rfl rfl ?_
  refine R_ic (v := 0) d157_1 (by decide) ?_
  refine R_p d157_2 rfl rfl ?_
  refine R_p d157_3 rfl rfl ?_
  refine R_p d157_4 rfl rfl ?_
  refine R_tc [.int (f 1), .int (f 2)] d157_5 (List.mem_of_getElem? (i := 29) rfl) ⟨by decide, by decide, Nat.le_of_ble_eq_true rfl, mcd96⟩ rfl rfl (Nat.le_of_ble_eq_true rfl) rfl rfl rfl (cx := 10) (hp := 13) rfl (by decide) (by decide) (by decide) (Or.inl (w11 (f := f) h0 h1)) ?_
  refine R_p (ls' := [(0, .ref 16), (1, .int (f 1)), (2, .int (f 2)), (3, .ref 53), (4, .ref 54)]) d157_13 rfl rfl ?_
  refine R_ic (v := 1) d157_15 (by decide) ?_
  exact R_iret d157_16 rfl rfl rfl
set_option maxRecDepth 4000 in
theorem w13 {f : Nat → Int32} (h0 : ¬ ((f 1) < (-536870911))) (h1 : (536870911 < (f 1))) : Run (5, f) 116 (0, [(0, .int (f 1)), (1, .int (-536870911)), (2, .int 536870911)], [], HJ1) (.inl (some (.int 0)), HJ1) := by
  refine R_p d116_0 rfl rfl ?_
  refine R_p d116_1 rfl rfl ?_
  refine R_nb d116_2 rfl (mb_f (b := ((f 1) < (-536870911))) h0) ?_
  refine R_p d116_5 rfl rfl ?_
  refine R_p d116_6 rfl rfl ?_
  refine R_br 14 d116_7 (mb_t (b := (536870911 < (f 1))) h1) rfl ?_
  refine R_ic (v := 0) d116_14 (by decide) ?_
  exact R_iret d116_15 rfl rfl rfl
set_option maxRecDepth 4000 in
theorem w14 {f : Nat → Int32} (h0 : ¬ ((f 1) < (-536870911))) (h1 : (536870911 < (f 1))) : Run (5, f) 115 (0, [(0, .int (f 1)), (1, .int (f 2))], [], HJ1) (.inl (some (.int 0)), HJ1) := by
  refine R_p d115_0 rfl rfl ?_
  refine R_ci (v := (-536870911)) 959 d115_1 (List.mem_of_getElem? (i := 4) rfl) ?_
  refine R_ci (v := 536870911) 960 d115_3 (List.mem_of_getElem? (i := 5) rfl) ?_
  refine R_cs [.int (f 1), .int (-536870911), .int 536870911] d115_5 (List.mem_of_getElem? (i := 163) rfl) rfl ⟨by decide, by decide, Nat.le_of_ble_eq_true rfl, rfl, mcd116⟩ rfl rfl (Nat.le_of_ble_eq_true rfl) (w13 (f := f) h0 h1) ?_
  refine R_br 26 d115_8 (mb_t (b := ((0 : Int32) = (0 : Int32))) (by decide)) rfl ?_
  refine R_ic (v := 0) d115_26 (by decide) ?_
  exact R_iret d115_27 rfl rfl rfl
set_option maxRecDepth 4000 in
theorem w15 {f : Nat → Int32} (h0 : ¬ ((f 1) < (-536870911))) (h1 : (536870911 < (f 1))) : Run (5, f) 114 (0, [(0, .ref 42), (1, .int (f 1)), (2, .int (f 2))], [], HJ1) (.inl (some (.int 0)), HJ2) := by
  refine R_p d114_0 rfl rfl ?_
  refine R_p d114_1 rfl rfl ?_
  refine R_p d114_2 rfl rfl ?_
  refine R_cs [.int (f 1), .int (f 2)] d114_3 (List.mem_of_getElem? (i := 162) rfl) rfl ⟨by decide, by decide, Nat.le_of_ble_eq_true rfl, rfl, mcd115⟩ rfl rfl (Nat.le_of_ble_eq_true rfl) (w14 (f := f) h0 h1) ?_
  refine R_nb d114_6 rfl (mb_f (b := (¬ (0 : Int32) = (0 : Int32))) (fun q => q (by decide))) ?_
  refine R_ic (v := 1) d114_9 (by decide) ?_
  refine R_br 27 d114_10 rfl rfl ?_
  refine R_cm [.int 1] d114_27 (List.mem_of_getElem? (i := 164) rfl) rfl ⟨by decide, by decide, Nat.le_of_ble_eq_true rfl, rfl, mcd117⟩ rfl rfl (Nat.le_of_ble_eq_true rfl) rfl rfl (w6 (f := f)) ?_
  refine R_nb d114_30 rfl (mb_f (b := ((1 : Int32) = (0 : Int32))) (by decide)) ?_
  refine R_ic (v := 0) d114_33 (by decide) ?_
  exact R_iret d114_34 rfl rfl rfl
set_option maxRecDepth 4000 in
theorem law108_16 {f : Nat → Int32} (h0 : ¬ ((f 1) < (-536870911))) (h1 : (536870911 < (f 1))) : Run (5, f) 171 (108, [(0, .ref 0), (1, .ref 16), (2, .ref 42), (3, .ref 53), (4, .int 0)], [], HL0) (.inl (some (.int 1)), HJ2) := by
  refine R_p d171_108 rfl rfl ?_
  refine R_p d171_109 rfl rfl ?_
  refine R_p d171_110 rfl rfl ?_
  refine R_ic (v := 1) d171_112 (by decide) ?_
  refine R_p d171_113 rfl rfl ?_
  refine R_nv (v := _) (v' := 1) (by decide) ?_
  refine R_sldk (n := 1) (x := (f 1)) d171_114 (vp_ok (by decide)) (by decide) rfl ?_
  refine R_p d171_115 rfl rfl ?_
  refine R_p d171_116 rfl rfl ?_
  refine R_ic (v := 2) d171_118 (by decide) ?_
  refine R_p d171_119 rfl rfl ?_
  refine R_nv (v := _) (v' := 2) (by decide) ?_
  refine R_sldk (n := 2) (x := (f 2)) d171_120 (vp_ok (by decide)) (by decide) rfl ?_
  refine R_p d171_121 rfl rfl ?_
  refine R_hs [.ref 16, .int (f 1), .int (f 2), .ref 53] d171_122 (List.mem_of_getElem? (i := 28) rfl) ⟨by decide, by decide, Nat.le_of_ble_eq_true rfl, mcd157⟩ rfl rfl (Nat.le_of_ble_eq_true rfl) (w12 (f := f) h0 h1) ?_
  refine R_p (ls' := [(0, .ref 0), (1, .ref 16), (2, .ref 42), (3, .ref 53), (4, .int 0), (5, .int 1)]) d171_125 rfl rfl ?_
  refine R_p d171_127 rfl rfl ?_
  refine R_p d171_128 rfl rfl ?_
  refine R_p d171_129 rfl rfl ?_
  refine R_ic (v := 1) d171_131 (by decide) ?_
  refine R_p d171_132 rfl rfl ?_
  refine R_nv (v := _) (v' := 1) (by decide) ?_
  refine R_sldk (n := 1) (x := (f 1)) d171_133 (vp_ok (by decide)) (by decide) rfl ?_
  refine R_p d171_134 rfl rfl ?_
  refine R_p d171_135 rfl rfl ?_
  refine R_ic (v := 2) d171_137 (by decide) ?_
  refine R_p d171_138 rfl rfl ?_
  refine R_nv (v := _) (v' := 2) (by decide) ?_
  refine R_sldk (n := 2) (x := (f 2)) d171_139 (vp_ok (by decide)) (by decide) rfl ?_
  refine R_cm [.int (f 1), .int (f 2)] d171_140 (List.mem_of_getElem? (i := 161) rfl) rfl ⟨by decide, by decide, Nat.le_of_ble_eq_true rfl, rfl, mcd114⟩ rfl rfl (Nat.le_of_ble_eq_true rfl) rfl rfl (w15 (f := f) h0 h1) ?_
  refine R_p (ls' := [(0, .ref 0), (1, .ref 16), (2, .ref 42), (3, .ref 53), (4, .int 0), (5, .int 1), (6, .int 0)]) d171_143 rfl rfl ?_
  refine R_p d171_145 rfl rfl ?_
  refine R_cm [] d171_146 (List.mem_of_getElem? (i := 160) rfl) rfl ⟨by decide, by decide, Nat.le_of_ble_eq_true rfl, rfl, mcd113⟩ rfl rfl (Nat.le_of_ble_eq_true rfl) rfl rfl (w8 (f := f)) ?_
  refine R_p d171_149 rfl rfl ?_
  refine R_br 156 d171_151 (mb_t (b := ((1 : Int32) = (1 : Int32))) (by decide)) rfl ?_
  refine R_p d171_156 rfl rfl ?_
  refine R_br 173 d171_158 (mb_t (b := (¬ (1 : Int32) = (0 : Int32))) (by decide)) rfl ?_
  refine R_br 950 d171_173 rfl rfl ?_
  refine R_p (ls' := [(0, .ref 0), (1, .ref 16), (2, .ref 42), (3, .ref 53), (4, .int 5), (5, .int 1), (6, .int 0)]) d171_950 rfl rfl ?_
  refine R_br 23 d171_953 rfl rfl ?_
  refine R_p d171_23 rfl rfl ?_
  refine R_p d171_25 rfl rfl ?_
  refine R_sln d171_26 ?_
  refine R_nv (v := _) (v' := 5) (show Int32.ofNat 5 = 5 from by decide) ?_
  refine R_ic (v := 5) d171_27 (by decide) ?_
  refine R_p d171_28 rfl rfl ?_
  refine R_nv (v := _) (v' := 0) (by decide) ?_
  refine R_br 956 d171_29 (mb_t (b := ((0 : Int32) < (5 : Int32))) (by decide)) rfl ?_
  refine R_ic (v := 1) d171_956 (by decide) ?_
  exact R_iret d171_957 rfl rfl rfl
set_option maxRecDepth 4000 in
theorem w17 {f : Nat → Int32} (h0 : ¬ ((f 1) < (-536870911))) (h1 : ¬ (536870911 < (f 1))) (h2 : ((f 2) < (-536870911))) : RunsP 97 (0, [(0, .ref 16), (1, .int (f 1)), (2, .int (f 2))], [], HL0) (.inr 54, HJ1) := by
  refine Q_p d97_0 rfl rfl ?_
  refine Q_ci (v := (-536870911)) 369 d97_1 (List.mem_of_getElem? (i := 0) rfl) ?_
  refine Q_nb d97_3 rfl (mb_f (b := ((f 1) < (-536870911))) h0) ?_
  refine Q_p d97_6 rfl rfl ?_
  refine Q_ci (v := 536870911) 370 d97_7 (List.mem_of_getElem? (i := 1) rfl) ?_
  refine Q_nb d97_9 rfl (mb_f (b := (536870911 < (f 1))) h1) ?_
  refine Q_p d97_12 rfl rfl ?_
  refine Q_ci (v := (-536870911)) 369 d97_13 (List.mem_of_getElem? (i := 0) rfl) ?_
  refine Q_br 24 d97_15 (mb_t (b := ((f 2) < (-536870911))) h2) rfl ?_
  exact Q_thr 1 d97_24 d97_27 d97_28 d97_30 d97_33 rfl (List.mem_of_getElem? (i := 2) rfl) rfl (by decide) (by decide)
set_option maxRecDepth 4000 in
theorem w18 {f : Nat → Int32} (h0 : ¬ ((f 1) < (-536870911))) (h1 : ¬ (536870911 < (f 1))) (h2 : ((f 2) < (-536870911))) : Run (5, f) 96 (0, [(0, .ref 16), (1, .int (f 1)), (2, .int (f 2))], [], HL0) (.inr 54, HJ1) := by
  refine R_p d96_0 rfl rfl ?_
  refine R_p d96_1 rfl rfl ?_
  refine R_p d96_2 rfl rfl ?_
  exact R_tv [.int (f 1), .int (f 2)] d96_3 (List.mem_of_getElem? (i := 30) rfl) ⟨by decide, by decide, Nat.le_of_ble_eq_true rfl, mcd97⟩ rfl rfl (Nat.le_of_ble_eq_true rfl) rfl rfl rfl (Or.inr (w17 (f := f) h0 h1 h2))
set_option maxRecDepth 4000 in
theorem w19 {f : Nat → Int32} (h0 : ¬ ((f 1) < (-536870911))) (h1 : ¬ (536870911 < (f 1))) (h2 : ((f 2) < (-536870911))) : Run (5, f) 157 (0, [(0, .ref 16), (1, .int (f 1)), (2, .int (f 2)), (3, .ref 53)], [], HL0) (.inl (some (.int 1)), HJ1) := by
  refine R_p d157_0 rfl rfl ?_
  refine R_ic (v := 0) d157_1 (by decide) ?_
  refine R_p d157_2 rfl rfl ?_
  refine R_p d157_3 rfl rfl ?_
  refine R_p d157_4 rfl rfl ?_
  refine R_tc [.int (f 1), .int (f 2)] d157_5 (List.mem_of_getElem? (i := 29) rfl) ⟨by decide, by decide, Nat.le_of_ble_eq_true rfl, mcd96⟩ rfl rfl (Nat.le_of_ble_eq_true rfl) rfl rfl rfl (cx := 10) (hp := 13) rfl (by decide) (by decide) (by decide) (Or.inl (w18 (f := f) h0 h1 h2)) ?_
  refine R_p (ls' := [(0, .ref 16), (1, .int (f 1)), (2, .int (f 2)), (3, .ref 53), (4, .ref 54)]) d157_13 rfl rfl ?_
  refine R_ic (v := 1) d157_15 (by decide) ?_
  exact R_iret d157_16 rfl rfl rfl
set_option maxRecDepth 4000 in
theorem w20 {f : Nat → Int32} (h0 : ¬ ((f 1) < (-536870911))) (h1 : ¬ (536870911 < (f 1))) : Run (5, f) 116 (0, [(0, .int (f 1)), (1, .int (-536870911)), (2, .int 536870911)], [], HJ1) (.inl (some (.int 1)), HJ1) := by
  refine R_p d116_0 rfl rfl ?_
  refine R_p d116_1 rfl rfl ?_
  refine R_nb d116_2 rfl (mb_f (b := ((f 1) < (-536870911))) h0) ?_
  refine R_p d116_5 rfl rfl ?_
  refine R_p d116_6 rfl rfl ?_
  refine R_nb d116_7 rfl (mb_f (b := (536870911 < (f 1))) h1) ?_
  refine R_ic (v := 1) d116_10 (by decide) ?_
  refine R_br 15 d116_11 rfl rfl ?_
  exact R_iret d116_15 rfl rfl rfl
set_option maxRecDepth 4000 in
theorem w21 {f : Nat → Int32} (h2 : ((f 2) < (-536870911))) : Run (5, f) 116 (0, [(0, .int (f 2)), (1, .int (-536870911)), (2, .int 536870911)], [], HJ1) (.inl (some (.int 0)), HJ1) := by
  refine R_p d116_0 rfl rfl ?_
  refine R_p d116_1 rfl rfl ?_
  refine R_br 14 d116_2 (mb_t (b := ((f 2) < (-536870911))) h2) rfl ?_
  refine R_ic (v := 0) d116_14 (by decide) ?_
  exact R_iret d116_15 rfl rfl rfl
set_option maxRecDepth 4000 in
theorem w22 {f : Nat → Int32} (h0 : ¬ ((f 1) < (-536870911))) (h1 : ¬ (536870911 < (f 1))) (h2 : ((f 2) < (-536870911))) : Run (5, f) 115 (0, [(0, .int (f 1)), (1, .int (f 2))], [], HJ1) (.inl (some (.int 0)), HJ1) := by
  refine R_p d115_0 rfl rfl ?_
  refine R_ci (v := (-536870911)) 959 d115_1 (List.mem_of_getElem? (i := 4) rfl) ?_
  refine R_ci (v := 536870911) 960 d115_3 (List.mem_of_getElem? (i := 5) rfl) ?_
  refine R_cs [.int (f 1), .int (-536870911), .int 536870911] d115_5 (List.mem_of_getElem? (i := 163) rfl) rfl ⟨by decide, by decide, Nat.le_of_ble_eq_true rfl, rfl, mcd116⟩ rfl rfl (Nat.le_of_ble_eq_true rfl) (w20 (f := f) h0 h1) ?_
  refine R_nb d115_8 rfl (mb_f (b := ((1 : Int32) = (0 : Int32))) (by decide)) ?_
  refine R_p d115_11 rfl rfl ?_
  refine R_ci (v := (-536870911)) 959 d115_12 (List.mem_of_getElem? (i := 4) rfl) ?_
  refine R_ci (v := 536870911) 960 d115_14 (List.mem_of_getElem? (i := 5) rfl) ?_
  refine R_cs [.int (f 2), .int (-536870911), .int 536870911] d115_16 (List.mem_of_getElem? (i := 163) rfl) rfl ⟨by decide, by decide, Nat.le_of_ble_eq_true rfl, rfl, mcd116⟩ rfl rfl (Nat.le_of_ble_eq_true rfl) (w21 (f := f) h2) ?_
  refine R_br 26 d115_19 (mb_t (b := ((0 : Int32) = (0 : Int32))) (by decide)) rfl ?_
  refine R_ic (v := 0) d115_26 (by decide) ?_
  exact R_iret d115_27 rfl rfl rfl
set_option maxRecDepth 4000 in
theorem w23 {f : Nat → Int32} (h0 : ¬ ((f 1) < (-536870911))) (h1 : ¬ (536870911 < (f 1))) (h2 : ((f 2) < (-536870911))) : Run (5, f) 114 (0, [(0, .ref 42), (1, .int (f 1)), (2, .int (f 2))], [], HJ1) (.inl (some (.int 0)), HJ2) := by
  refine R_p d114_0 rfl rfl ?_
  refine R_p d114_1 rfl rfl ?_
  refine R_p d114_2 rfl rfl ?_
  refine R_cs [.int (f 1), .int (f 2)] d114_3 (List.mem_of_getElem? (i := 162) rfl) rfl ⟨by decide, by decide, Nat.le_of_ble_eq_true rfl, rfl, mcd115⟩ rfl rfl (Nat.le_of_ble_eq_true rfl) (w22 (f := f) h0 h1 h2) ?_
  refine R_nb d114_6 rfl (mb_f (b := (¬ (0 : Int32) = (0 : Int32))) (fun q => q (by decide))) ?_
  refine R_ic (v := 1) d114_9 (by decide) ?_
  refine R_br 27 d114_10 rfl rfl ?_
  refine R_cm [.int 1] d114_27 (List.mem_of_getElem? (i := 164) rfl) rfl ⟨by decide, by decide, Nat.le_of_ble_eq_true rfl, rfl, mcd117⟩ rfl rfl (Nat.le_of_ble_eq_true rfl) rfl rfl (w6 (f := f)) ?_
  refine R_nb d114_30 rfl (mb_f (b := ((1 : Int32) = (0 : Int32))) (by decide)) ?_
  refine R_ic (v := 0) d114_33 (by decide) ?_
  exact R_iret d114_34 rfl rfl rfl
set_option maxRecDepth 4000 in
theorem law108_24 {f : Nat → Int32} (h0 : ¬ ((f 1) < (-536870911))) (h1 : ¬ (536870911 < (f 1))) (h2 : ((f 2) < (-536870911))) : Run (5, f) 171 (108, [(0, .ref 0), (1, .ref 16), (2, .ref 42), (3, .ref 53), (4, .int 0)], [], HL0) (.inl (some (.int 1)), HJ2) := by
  refine R_p d171_108 rfl rfl ?_
  refine R_p d171_109 rfl rfl ?_
  refine R_p d171_110 rfl rfl ?_
  refine R_ic (v := 1) d171_112 (by decide) ?_
  refine R_p d171_113 rfl rfl ?_
  refine R_nv (v := _) (v' := 1) (by decide) ?_
  refine R_sldk (n := 1) (x := (f 1)) d171_114 (vp_ok (by decide)) (by decide) rfl ?_
  refine R_p d171_115 rfl rfl ?_
  refine R_p d171_116 rfl rfl ?_
  refine R_ic (v := 2) d171_118 (by decide) ?_
  refine R_p d171_119 rfl rfl ?_
  refine R_nv (v := _) (v' := 2) (by decide) ?_
  refine R_sldk (n := 2) (x := (f 2)) d171_120 (vp_ok (by decide)) (by decide) rfl ?_
  refine R_p d171_121 rfl rfl ?_
  refine R_hs [.ref 16, .int (f 1), .int (f 2), .ref 53] d171_122 (List.mem_of_getElem? (i := 28) rfl) ⟨by decide, by decide, Nat.le_of_ble_eq_true rfl, mcd157⟩ rfl rfl (Nat.le_of_ble_eq_true rfl) (w19 (f := f) h0 h1 h2) ?_
  refine R_p (ls' := [(0, .ref 0), (1, .ref 16), (2, .ref 42), (3, .ref 53), (4, .int 0), (5, .int 1)]) d171_125 rfl rfl ?_
  refine R_p d171_127 rfl rfl ?_
  refine R_p d171_128 rfl rfl ?_
  refine R_p d171_129 rfl rfl ?_
  refine R_ic (v := 1) d171_131 (by decide) ?_
  refine R_p d171_132 rfl rfl ?_
  refine R_nv (v := _) (v' := 1) (by decide) ?_
  refine R_sldk (n := 1) (x := (f 1)) d171_133 (vp_ok (by decide)) (by decide) rfl ?_
  refine R_p d171_134 rfl rfl ?_
  refine R_p d171_135 rfl rfl ?_
  refine R_ic (v := 2) d171_137 (by decide) ?_
  refine R_p d171_138 rfl rfl ?_
  refine R_nv (v := _) (v' := 2) (by decide) ?_
  refine R_sldk (n := 2) (x := (f 2)) d171_139 (vp_ok (by decide)) (by decide) rfl ?_
  refine R_cm [.int (f 1), .int (f 2)] d171_140 (List.mem_of_getElem? (i := 161) rfl) rfl ⟨by decide, by decide, Nat.le_of_ble_eq_true rfl, rfl, mcd114⟩ rfl rfl (Nat.le_of_ble_eq_true rfl) rfl rfl (w23 (f := f) h0 h1 h2) ?_
  refine R_p (ls' := [(0, .ref 0), (1, .ref 16), (2, .ref 42), (3, .ref 53), (4, .int 0), (5, .int 1), (6, .int 0)]) d171_143 rfl rfl ?_
  refine R_p d171_145 rfl rfl ?_
  refine R_cm [] d171_146 (List.mem_of_getElem? (i := 160) rfl) rfl ⟨by decide, by decide, Nat.le_of_ble_eq_true rfl, rfl, mcd113⟩ rfl rfl (Nat.le_of_ble_eq_true rfl) rfl rfl (w8 (f := f)) ?_
  refine R_p d171_149 rfl rfl ?_
  refine R_br 156 d171_151 (mb_t (b := ((1 : Int32) = (1 : Int32))) (by decide)) rfl ?_
  refine R_p d171_156 rfl rfl ?_
  refine R_br 173 d171_158 (mb_t (b := (¬ (1 : Int32) = (0 : Int32))) (by decide)) rfl ?_
  refine R_br 950 d171_173 rfl rfl ?_
  refine R_p (ls' := [(0, .ref 0), (1, .ref 16), (2, .ref 42), (3, .ref 53), (4, .int 5), (5, .int 1), (6, .int 0)]) d171_950 rfl rfl ?_
  refine R_br 23 d171_953 rfl rfl ?_
  refine R_p d171_23 rfl rfl ?_
  refine R_p d171_25 rfl rfl ?_
  refine R_sln d171_26 ?_
  refine R_nv (v := _) (v' := 5) (show Int32.ofNat 5 = 5 from by decide) ?_
  refine R_ic (v := 5) d171_27 (by decide) ?_
  refine R_p d171_28 rfl rfl ?_
  refine R_nv (v := _) (v' := 0) (by decide) ?_
  refine R_br 956 d171_29 (mb_t (b := ((0 : Int32) < (5 : Int32))) (by decide)) rfl ?_
  refine R_ic (v := 1) d171_956 (by decide) ?_
  exact R_iret d171_957 rfl rfl rfl
set_option maxRecDepth 4000 in
theorem w25 {f : Nat → Int32} (h0 : ¬ ((f 1) < (-536870911))) (h1 : ¬ (536870911 < (f 1))) (h2 : ¬ ((f 2) < (-536870911))) (h3 : (536870911 < (f 2))) : RunsP 97 (0, [(0, .ref 16), (1, .int (f 1)), (2, .int (f 2))], [], HL0) (.inr 54, HJ1) := by
  refine Q_p d97_0 rfl rfl ?_
  refine Q_ci (v := (-536870911)) 369 d97_1 (List.mem_of_getElem? (i := 0) rfl) ?_
  refine Q_nb d97_3 rfl (mb_f (b := ((f 1) < (-536870911))) h0) ?_
  refine Q_p d97_6 rfl rfl ?_
  refine Q_ci (v := 536870911) 370 d97_7 (List.mem_of_getElem? (i := 1) rfl) ?_
  refine Q_nb d97_9 rfl (mb_f (b := (536870911 < (f 1))) h1) ?_
  refine Q_p d97_12 rfl rfl ?_
  refine Q_ci (v := (-536870911)) 369 d97_13 (List.mem_of_getElem? (i := 0) rfl) ?_
  refine Q_nb d97_15 rfl (mb_f (b := ((f 2) < (-536870911))) h2) ?_
  refine Q_p d97_18 rfl rfl ?_
  refine Q_ci (v := 536870911) 370 d97_19 (List.mem_of_getElem? (i := 1) rfl) ?_
  refine Q_nb d97_21 rfl (mb_f (b := ((f 2) ≤ 536870911)) (fun q => Int32.not_lt.mpr q h3)) ?_
  exact Q_thr 1 d97_24 d97_27 d97_28 d97_30 d97_33 rfl (List.mem_of_getElem? (i := 2) rfl) rfl (by decide) (by decide)
set_option maxRecDepth 4000 in
theorem w26 {f : Nat → Int32} (h0 : ¬ ((f 1) < (-536870911))) (h1 : ¬ (536870911 < (f 1))) (h2 : ¬ ((f 2) < (-536870911))) (h3 : (536870911 < (f 2))) : Run (5, f) 96 (0, [(0, .ref 16), (1, .int (f 1)), (2, .int (f 2))], [], HL0) (.inr 54, HJ1) := by
  refine R_p d96_0 rfl rfl ?_
  refine R_p d96_1 rfl rfl ?_
  refine R_p d96_2 rfl rfl ?_
  exact R_tv [.int (f 1), .int (f 2)] d96_3 (List.mem_of_getElem? (i := 30) rfl) ⟨by decide, by decide, Nat.le_of_ble_eq_true rfl, mcd97⟩ rfl rfl (Nat.le_of_ble_eq_true rfl) rfl rfl rfl (Or.inr (w25 (f := f) h0 h1 h2 h3))
set_option maxRecDepth 4000 in
theorem w27 {f : Nat → Int32} (h0 : ¬ ((f 1) < (-536870911))) (h1 : ¬ (536870911 < (f 1))) (h2 : ¬ ((f 2) < (-536870911))) (h3 : (536870911 < (f 2))) : Run (5, f) 157 (0, [(0, .ref 16), (1, .int (f 1)), (2, .int (f 2)), (3, .ref 53)], [], HL0) (.inl (some (.int 1)), HJ1) := by
  refine R_p d157_0 rfl rfl ?_
  refine R_ic (v := 0) d157_1 (by decide) ?_
  refine R_p d157_2 rfl rfl ?_
  refine R_p d157_3 rfl rfl ?_
  refine R_p d157_4 rfl rfl ?_
  refine R_tc [.int (f 1), .int (f 2)] d157_5 (List.mem_of_getElem? (i := 29) rfl) ⟨by decide, by decide, Nat.le_of_ble_eq_true rfl, mcd96⟩ rfl rfl (Nat.le_of_ble_eq_true rfl) rfl rfl rfl (cx := 10) (hp := 13) rfl (by decide) (by decide) (by decide) (Or.inl (w26 (f := f) h0 h1 h2 h3)) ?_
  refine R_p (ls' := [(0, .ref 16), (1, .int (f 1)), (2, .int (f 2)), (3, .ref 53), (4, .ref 54)]) d157_13 rfl rfl ?_
  refine R_ic (v := 1) d157_15 (by decide) ?_
  exact R_iret d157_16 rfl rfl rfl
set_option maxRecDepth 4000 in
theorem w28 {f : Nat → Int32} (h2 : ¬ ((f 2) < (-536870911))) (h3 : (536870911 < (f 2))) : Run (5, f) 116 (0, [(0, .int (f 2)), (1, .int (-536870911)), (2, .int 536870911)], [], HJ1) (.inl (some (.int 0)), HJ1) := by
  refine R_p d116_0 rfl rfl ?_
  refine R_p d116_1 rfl rfl ?_
  refine R_nb d116_2 rfl (mb_f (b := ((f 2) < (-536870911))) h2) ?_
  refine R_p d116_5 rfl rfl ?_
  refine R_p d116_6 rfl rfl ?_
  refine R_br 14 d116_7 (mb_t (b := (536870911 < (f 2))) h3) rfl ?_
  refine R_ic (v := 0) d116_14 (by decide) ?_
  exact R_iret d116_15 rfl rfl rfl
set_option maxRecDepth 4000 in
theorem w29 {f : Nat → Int32} (h0 : ¬ ((f 1) < (-536870911))) (h1 : ¬ (536870911 < (f 1))) (h2 : ¬ ((f 2) < (-536870911))) (h3 : (536870911 < (f 2))) : Run (5, f) 115 (0, [(0, .int (f 1)), (1, .int (f 2))], [], HJ1) (.inl (some (.int 0)), HJ1) := by
  refine R_p d115_0 rfl rfl ?_
  refine R_ci (v := (-536870911)) 959 d115_1 (List.mem_of_getElem? (i := 4) rfl) ?_
  refine R_ci (v := 536870911) 960 d115_3 (List.mem_of_getElem? (i := 5) rfl) ?_
  refine R_cs [.int (f 1), .int (-536870911), .int 536870911] d115_5 (List.mem_of_getElem? (i := 163) rfl) rfl ⟨by decide, by decide, Nat.le_of_ble_eq_true rfl, rfl, mcd116⟩ rfl rfl (Nat.le_of_ble_eq_true rfl) (w20 (f := f) h0 h1) ?_
  refine R_nb d115_8 rfl (mb_f (b := ((1 : Int32) = (0 : Int32))) (by decide)) ?_
  refine R_p d115_11 rfl rfl ?_
  refine R_ci (v := (-536870911)) 959 d115_12 (List.mem_of_getElem? (i := 4) rfl) ?_
  refine R_ci (v := 536870911) 960 d115_14 (List.mem_of_getElem? (i := 5) rfl) ?_
  refine R_cs [.int (f 2), .int (-536870911), .int 536870911] d115_16 (List.mem_of_getElem? (i := 163) rfl) rfl ⟨by decide, by decide, Nat.le_of_ble_eq_true rfl, rfl, mcd116⟩ rfl rfl (Nat.le_of_ble_eq_true rfl) (w28 (f := f) h2 h3) ?_
  refine R_br 26 d115_19 (mb_t (b := ((0 : Int32) = (0 : Int32))) (by decide)) rfl ?_
  refine R_ic (v := 0) d115_26 (by decide) ?_
  exact R_iret d115_27 rfl rfl rfl
set_option maxRecDepth 4000 in
theorem w30 {f : Nat → Int32} (h0 : ¬ ((f 1) < (-536870911))) (h1 : ¬ (536870911 < (f 1))) (h2 : ¬ ((f 2) < (-536870911))) (h3 : (536870911 < (f 2))) : Run (5, f) 114 (0, [(0, .ref 42), (1, .int (f 1)), (2, .int (f 2))], [], HJ1) (.inl (some (.int 0)), HJ2) := by
  refine R_p d114_0 rfl rfl ?_
  refine R_p d114_1 rfl rfl ?_
  refine R_p d114_2 rfl rfl ?_
  refine R_cs [.int (f 1), .int (f 2)] d114_3 (List.mem_of_getElem? (i := 162) rfl) rfl ⟨by decide, by decide, Nat.le_of_ble_eq_true rfl, rfl, mcd115⟩ rfl rfl (Nat.le_of_ble_eq_true rfl) (w29 (f := f) h0 h1 h2 h3) ?_
  refine R_nb d114_6 rfl (mb_f (b := (¬ (0 : Int32) = (0 : Int32))) (fun q => q (by decide))) ?_
  refine R_ic (v := 1) d114_9 (by decide) ?_
  refine R_br 27 d114_10 rfl rfl ?_
  refine R_cm [.int 1] d114_27 (List.mem_of_getElem? (i := 164) rfl) rfl ⟨by decide, by decide, Nat.le_of_ble_eq_true rfl, rfl, mcd117⟩ rfl rfl (Nat.le_of_ble_eq_true rfl) rfl rfl (w6 (f := f)) ?_
  refine R_nb d114_30 rfl (mb_f (b := ((1 : Int32) = (0 : Int32))) (by decide)) ?_
  refine R_ic (v := 0) d114_33 (by decide) ?_
  exact R_iret d114_34 rfl rfl rfl
set_option maxRecDepth 4000 in
theorem law108_31 {f : Nat → Int32} (h0 : ¬ ((f 1) < (-536870911))) (h1 : ¬ (536870911 < (f 1))) (h2 : ¬ ((f 2) < (-536870911))) (h3 : (536870911 < (f 2))) : Run (5, f) 171 (108, [(0, .ref 0), (1, .ref 16), (2, .ref 42), (3, .ref 53), (4, .int 0)], [], HL0) (.inl (some (.int 1)), HJ2) := by
  refine R_p d171_108 rfl rfl ?_
  refine R_p d171_109 rfl rfl ?_
  refine R_p d171_110 rfl rfl ?_
  refine R_ic (v := 1) d171_112 (by decide) ?_
  refine R_p d171_113 rfl rfl ?_
  refine R_nv (v := _) (v' := 1) (by decide) ?_
  refine R_sldk (n := 1) (x := (f 1)) d171_114 (vp_ok (by decide)) (by decide) rfl ?_
  refine R_p d171_115 rfl rfl ?_
  refine R_p d171_116 rfl rfl ?_
  refine R_ic (v := 2) d171_118 (by decide) ?_
  refine R_p d171_119 rfl rfl ?_
  refine R_nv (v := _) (v' := 2) (by decide) ?_
  refine R_sldk (n := 2) (x := (f 2)) d171_120 (vp_ok (by decide)) (by decide) rfl ?_
  refine R_p d171_121 rfl rfl ?_
  refine R_hs [.ref 16, .int (f 1), .int (f 2), .ref 53] d171_122 (List.mem_of_getElem? (i := 28) rfl) ⟨by decide, by decide, Nat.le_of_ble_eq_true rfl, mcd157⟩ rfl rfl (Nat.le_of_ble_eq_true rfl) (w27 (f := f) h0 h1 h2 h3) ?_
  refine R_p (ls' := [(0, .ref 0), (1, .ref 16), (2, .ref 42), (3, .ref 53), (4, .int 0), (5, .int 1)]) d171_125 rfl rfl ?_
  refine R_p d171_127 rfl rfl ?_
  refine R_p d171_128 rfl rfl ?_
  refine R_p d171_129 rfl rfl ?_
  refine R_ic (v := 1) d171_131 (by decide) ?_
  refine R_p d171_132 rfl rfl ?_
  refine R_nv (v := _) (v' := 1) (by decide) ?_
  refine R_sldk (n := 1) (x := (f 1)) d171_133 (vp_ok (by decide)) (by decide) rfl ?_
  refine R_p d171_134 rfl rfl ?_
  refine R_p d171_135 rfl rfl ?_
  refine R_ic (v := 2) d171_137 (by decide) ?_
  refine R_p d171_138 rfl rfl ?_
  refine R_nv (v := _) (v' := 2) (by decide) ?_
  refine R_sldk (n := 2) (x := (f 2)) d171_139 (vp_ok (by decide)) (by decide) rfl ?_
  refine R_cm [.int (f 1), .int (f 2)] d171_140 (List.mem_of_getElem? (i := 161) rfl) rfl ⟨by decide, by decide, Nat.le_of_ble_eq_true rfl, rfl, mcd114⟩ rfl rfl (Nat.le_of_ble_eq_true rfl) rfl rfl (w30 (f := f) h0 h1 h2 h3) ?_
  refine R_p (ls' := [(0, .ref 0), (1, .ref 16), (2, .ref 42), (3, .ref 53), (4, .int 0), (5, .int 1), (6, .int 0)]) d171_143 rfl rfl ?_
  refine R_p d171_145 rfl rfl ?_
  refine R_cm [] d171_146 (List.mem_of_getElem? (i := 160) rfl) rfl ⟨by decide, by decide, Nat.le_of_ble_eq_true rfl, rfl, mcd113⟩ rfl rfl (Nat.le_of_ble_eq_true rfl) rfl rfl (w8 (f := f)) ?_
  refine R_p d171_149 rfl rfl ?_
  refine R_br 156 d171_151 (mb_t (b := ((1 : Int32) = (1 : Int32))) (by decide)) rfl ?_
  refine R_p d171_156 rfl rfl ?_
  refine R_br 173 d171_158 (mb_t (b := (¬ (1 : Int32) = (0 : Int32))) (by decide)) rfl ?_
  refine R_br 950 d171_173 rfl rfl ?_
  refine R_p (ls' := [(0, .ref 0), (1, .ref 16), (2, .ref 42), (3, .ref 53), (4, .int 5), (5, .int 1), (6, .int 0)]) d171_950 rfl rfl ?_
  refine R_br 23 d171_953 rfl rfl ?_
  refine R_p d171_23 rfl rfl ?_
  refine R_p d171_25 rfl rfl ?_
  refine R_sln d171_26 ?_
  refine R_nv (v := _) (v' := 5) (show Int32.ofNat 5 = 5 from by decide) ?_
  refine R_ic (v := 5) d171_27 (by decide) ?_
  refine R_p d171_28 rfl rfl ?_
  refine R_nv (v := _) (v' := 0) (by decide) ?_
  refine R_br 956 d171_29 (mb_t (b := ((0 : Int32) < (5 : Int32))) (by decide)) rfl ?_
  refine R_ic (v := 1) d171_956 (by decide) ?_
  exact R_iret d171_957 rfl rfl rfl
set_option maxRecDepth 4000 in
theorem w32 {f : Nat → Int32} (h0 : ¬ ((f 1) < (-536870911))) (h1 : ¬ (536870911 < (f 1))) (h2 : ¬ ((f 2) < (-536870911))) (h3 : ¬ (536870911 < (f 2))) : Run (5, f) 97 (0, [(0, .ref 16), (1, .int (f 1)), (2, .int (f 2))], [], HL0) (.inl none, HL0) := by
  refine R_p d97_0 rfl rfl ?_
  refine R_ci (v := (-536870911)) 369 d97_1 (List.mem_of_getElem? (i := 0) rfl) ?_
  refine R_nb d97_3 rfl (mb_f (b := ((f 1) < (-536870911))) h0) ?_
  refine R_p d97_6 rfl rfl ?_
  refine R_ci (v := 536870911) 370 d97_7 (List.mem_of_getElem? (i := 1) rfl) ?_
  refine R_nb d97_9 rfl (mb_f (b := (536870911 < (f 1))) h1) ?_
  refine R_p d97_12 rfl rfl ?_
  refine R_ci (v := (-536870911)) 369 d97_13 (List.mem_of_getElem? (i := 0) rfl) ?_
  refine R_nb d97_15 rfl (mb_f (b := ((f 2) < (-536870911))) h2) ?_
  refine R_p d97_18 rfl rfl ?_
  refine R_ci (v := 536870911) 370 d97_19 (List.mem_of_getElem? (i := 1) rfl) ?_
  refine R_br 34 d97_21 (mb_t (b := ((f 2) ≤ 536870911)) (Int32.not_lt.mp h3)) rfl ?_
  exact R_vret d97_34 rfl rfl
set_option maxRecDepth 4000 in
theorem w33 {f : Nat → Int32} : Run (5, f) 66 (0, [(0, .ref 17)], [], HL0) (.inl (some (.int 0)), HL0) := by
  refine R_p d66_0 rfl rfl ?_
  refine R_get d66_1 (Or.inl (List.mem_of_getElem? (i := 6) rfl)) rfl rfl ?_
  exact R_iret d66_4 rfl rfl rfl
set_option maxRecDepth 4000 in
theorem w34 {f : Nat → Int32} : Run (5, f) 68 (0, [(0, .ref 17), (1, .int 0), (2, .int (f 1)), (3, .int (f 2))], [], HL0) (.inl none, (HJ3 f)) := by
  refine R_p d68_0 rfl rfl ?_
  refine R_get d68_1 (Or.inl (List.mem_of_getElem? (i := 3) rfl)) rfl rfl ?_
  refine R_p d68_4 rfl rfl ?_
  refine R_p d68_5 rfl rfl ?_
  refine R_ist d68_6 rfl (vp_ok (by decide)) ?_
  refine R_p d68_7 rfl rfl ?_
  refine R_get d68_8 (Or.inl (List.mem_of_getElem? (i := 4) rfl)) rfl rfl ?_
  refine R_p d68_11 rfl rfl ?_
  refine R_p d68_12 rfl rfl ?_
  refine R_ist d68_13 rfl (vp_ok (by decide)) ?_
  exact R_vret d68_14 rfl rfl
set_option maxRecDepth 4000 in
theorem w35 {f : Nat → Int32} : Run (5, f) 69 (0, [(0, .ref 17), (1, .int 0)], [], (HJ3 f)) (.inl (some (.int (-1))), (HJ3 f)) := by
  refine R_ic (v := 0) d69_0 (by decide) ?_
  refine R_p (ls' := [(0, .ref 17), (1, .int 0), (2, .int 0)]) d69_1 rfl rfl ?_
  refine R_p d69_2 rfl rfl ?_
  refine R_p d69_3 rfl rfl ?_
  refine R_get d69_4 (Or.inl (List.mem_of_getElem? (i := 6) rfl)) rfl rfl ?_
  refine R_br 48 d69_7 (mb_t (b := ((0 : Int32) ≤ (0 : Int32))) (by decide)) rfl ?_
  refine R_ic (v := (-1)) d69_48 (by decide) ?_
  exact R_iret d69_49 rfl rfl rfl
set_option maxRecDepth 4000 in
theorem w36 {f : Nat → Int32} : Run (5, f) 66 (0, [(0, .ref 17)], [], (HJ3 f)) (.inl (some (.int 0)), (HJ3 f)) := by
  refine R_p d66_0 rfl rfl ?_
  refine R_get d66_1 (Or.inl (List.mem_of_getElem? (i := 6) rfl)) rfl rfl ?_
  exact R_iret d66_4 rfl rfl rfl
set_option maxRecDepth 4000 in
theorem w37 {f : Nat → Int32} : Run (5, f) 38 (0, [(0, .ref 21), (1, .int 0)], [], (HJ3 f)) (.inl (some (.int 0)), (HJ3 f)) := by
  refine R_ic (v := 0) d38_0 (by decide) ?_
  refine R_p (ls' := [(0, .ref 21), (1, .int 0), (2, .int 0)]) d38_1 rfl rfl ?_
  refine R_p d38_2 rfl rfl ?_
  refine R_p d38_3 rfl rfl ?_
  refine R_get d38_4 (Or.inl (List.mem_of_getElem? (i := 7) rfl)) rfl rfl ?_
  refine R_cm [] d38_7 (List.mem_of_getElem? (i := 34) rfl) rfl ⟨by decide, by decide, Nat.le_of_ble_eq_true rfl, rfl, mcd66⟩ rfl rfl (Nat.le_of_ble_eq_true rfl) rfl rfl (w36 (f := f)) ?_
  refine R_br 64 d38_10 (mb_t (b := ((0 : Int32) ≤ (0 : Int32))) (by decide)) rfl ?_
  refine R_ic (v := 0) d38_64 (by decide) ?_
  exact R_iret d38_65 rfl rfl rfl
set_option maxRecDepth 4000 in
theorem w38 {f : Nat → Int32} : Run (5, f) 72 (0, [(0, .ref 17)], [], (HJ3 f)) (.inl none, (HJ4 f)) := by
  refine R_p d72_0 rfl rfl ?_
  refine R_p d72_1 rfl rfl ?_
  refine R_get d72_2 (Or.inl (List.mem_of_getElem? (i := 6) rfl)) rfl rfl ?_
  refine R_ic (v := 1) d72_5 (by decide) ?_
  refine R_p d72_6 rfl rfl ?_
  refine R_nv (v := _) (v' := 1) (by decide) ?_
  refine R_put d72_7 (List.mem_of_getElem? (i := 6) rfl) rfl (by decide) rfl rfl (Or.inl rfl) ?_
  exact R_vret d72_10 rfl rfl
set_option maxRecDepth 4000 in
theorem w39 {f : Nat → Int32} : Run (5, f) 46 (0, [(0, .ref 23)], [], (HJ4 f)) (.inl (some (.int 0)), (HJ4 f)) := by
  refine R_p d46_0 rfl rfl ?_
  refine R_get d46_1 (Or.inl (List.mem_of_getElem? (i := 15) rfl)) rfl rfl ?_
  exact R_iret d46_4 rfl rfl rfl
set_option maxRecDepth 4000 in
theorem w40 {f : Nat → Int32} : Run (5, f) 21 (0, [(0, .ref 29), (1, .int 0)], [], (HJ4 f)) (.inl none, (HJ4 f)) := by
  refine R_p d21_0 rfl rfl ?_
  refine R_ic (v := 2) d21_1 (by decide) ?_
  refine R_br 18 d21_2 (mb_t (b := ((0 : Int32) < (2 : Int32))) (by decide)) rfl ?_
  exact R_vret d21_18 rfl rfl
set_option maxRecDepth 4000 in
theorem w41 {f : Nat → Int32} : Run (5, f) 66 (0, [(0, .ref 17)], [], (HJ4 f)) (.inl (some (.int 1)), (HJ4 f)) := by
  refine R_p d66_0 rfl rfl ?_
  refine R_get d66_1 (Or.inl (List.mem_of_getElem? (i := 6) rfl)) rfl rfl ?_
  exact R_iret d66_4 rfl rfl rfl
set_option maxRecDepth 4000 in
theorem w42 {f : Nat → Int32} : Run (5, f) 60 (0, [(0, .ref 23)], [], (HJ4 f)) (.inl none, (HJ4 f)) := by
  refine R_p d60_0 rfl rfl ?_
  refine R_ic (v := 0) d60_1 (by decide) ?_
  refine R_put d60_2 (List.mem_of_getElem? (i := 15) rfl) rfl (by decide) rfl rfl (Or.inl rfl) ?_
  refine R_ic (v := 0) d60_5 (by decide) ?_
  refine R_p (ls' := [(0, .ref 23), (1, .int 0)]) d60_6 rfl rfl ?_
  refine R_p d60_7 rfl rfl ?_
  refine R_p d60_8 rfl rfl ?_
  refine R_get d60_9 (Or.inl (List.mem_of_getElem? (i := 10) rfl)) rfl rfl ?_
  refine R_cm [] d60_12 (List.mem_of_getElem? (i := 20) rfl) rfl ⟨by decide, by decide, Nat.le_of_ble_eq_true rfl, rfl, mcd66⟩ rfl rfl (Nat.le_of_ble_eq_true rfl) rfl rfl (w41 (f := f)) ?_
  refine R_nb d60_15 rfl (mb_f (b := ((1 : Int32) ≤ (0 : Int32))) (by decide)) ?_
  refine R_p d60_18 rfl rfl ?_
  refine R_ic (v := 1) d60_19 (by decide) ?_
  refine R_p d60_20 rfl rfl ?_
  refine R_nv (v := _) (v' := 1) (by decide) ?_
  refine R_p (ls' := [(0, .ref 23), (1, .int 0), (2, .int 1)]) d60_21 rfl rfl ?_
  refine R_p d60_22 rfl rfl ?_
  refine R_p d60_23 rfl rfl ?_
  refine R_get d60_24 (Or.inl (List.mem_of_getElem? (i := 10) rfl)) rfl rfl ?_
  refine R_cm [] d60_27 (List.mem_of_getElem? (i := 20) rfl) rfl ⟨by decide, by decide, Nat.le_of_ble_eq_true rfl, rfl, mcd66⟩ rfl rfl (Nat.le_of_ble_eq_true rfl) rfl rfl (w41 (f := f)) ?_
  refine R_br 61 d60_30 (mb_t (b := ((1 : Int32) ≤ (1 : Int32))) (by decide)) rfl ?_
  refine R_p (ls' := [(0, .ref 23), (1, .int 1), (2, .int 1)]) d60_61 rfl rfl ?_
  refine R_br 7 d60_64 rfl rfl ?_
  refine R_p d60_7 rfl rfl ?_
  refine R_p d60_8 rfl rfl ?_
  refine R_get d60_9 (Or.inl (List.mem_of_getElem? (i := 10) rfl)) rfl rfl ?_
  refine R_cm [] d60_12 (List.mem_of_getElem? (i := 20) rfl) rfl ⟨by decide, by decide, Nat.le_of_ble_eq_true rfl, rfl, mcd66⟩ rfl rfl (Nat.le_of_ble_eq_true rfl) rfl rfl (w41 (f := f)) ?_
  refine R_br 67 d60_15 (mb_t (b := ((1 : Int32) ≤ (1 : Int32))) (by decide)) rfl ?_
  exact R_vret d60_67 rfl rfl
set_option maxRecDepth 4000 in
theorem w43 {f : Nat → Int32} : Run (5, f) 57 (0, [(0, .ref 23)], [], (HJ4 f)) (.inl none, (HJ4 f)) := by
  refine R_ic (v := 0) d57_0 (by decide) ?_
  refine R_p (ls' := [(0, .ref 23), (1, .int 0)]) d57_1 rfl rfl ?_
  refine R_p d57_2 rfl rfl ?_
  refine R_ci (v := 1000000) 578 d57_3 (List.mem_of_getElem? (i := 2) rfl) ?_
  refine R_nb d57_5 rfl (mb_f (b := ((1000000 : Int32) ≤ (0 : Int32))) (by decide)) ?_
  refine R_p d57_8 rfl rfl ?_
  refine R_get d57_9 (Or.inl (List.mem_of_getElem? (i := 17) rfl)) rfl rfl ?_
  refine R_br 100 d57_12 (mb_t (b := ((0 : Int32) ≤ (0 : Int32))) (by decide)) rfl ?_
  refine R_p d57_100 rfl rfl ?_
  refine R_cm [] d57_101 (List.mem_of_getElem? (i := 81) rfl) rfl ⟨by decide, by decide, Nat.le_of_ble_eq_true rfl, rfl, mcd60⟩ rfl rfl (Nat.le_of_ble_eq_true rfl) rfl rfl (w42 (f := f)) ?_
  exact R_vret d57_104 rfl rfl
set_option maxRecDepth 4000 in
theorem w44 {f : Nat → Int32} : Run (5, f) 20 (0, [(0, .ref 29), (1, .int 0)], [], (HJ4 f)) (.inl none, (HJ4 f)) := by
  refine R_p d20_0 rfl rfl ?_
  refine R_get d20_1 (Or.inl (List.mem_of_getElem? (i := 20) rfl)) rfl rfl ?_
  refine R_cm [] d20_4 (List.mem_of_getElem? (i := 42) rfl) rfl ⟨by decide, by decide, Nat.le_of_ble_eq_true rfl, rfl, mcd46⟩ rfl rfl (Nat.le_of_ble_eq_true rfl) rfl rfl (w39 (f := f)) ?_
  refine R_nb d20_7 rfl (mb_f (b := (¬ (0 : Int32) = (0 : Int32))) (fun q => q (by decide))) ?_
  refine R_p d20_10 rfl rfl ?_
  refine R_p d20_11 rfl rfl ?_
  refine R_cm [.int 0] d20_12 (List.mem_of_getElem? (i := 43) rfl) rfl ⟨by decide, by decide, Nat.le_of_ble_eq_true rfl, rfl, mcd21⟩ rfl rfl (Nat.le_of_ble_eq_true rfl) rfl rfl (w40 (f := f)) ?_
  refine R_br 46 d20_15 rfl rfl ?_
  refine R_p d20_46 rfl rfl ?_
  refine R_get d20_47 (Or.inl (List.mem_of_getElem? (i := 20) rfl)) rfl rfl ?_
  refine R_cm [] d20_50 (List.mem_of_getElem? (i := 67) rfl) rfl ⟨by decide, by decide, Nat.le_of_ble_eq_true rfl, rfl, mcd57⟩ rfl rfl (Nat.le_of_ble_eq_true rfl) rfl rfl (w43 (f := f)) ?_
  exact R_vret d20_53 rfl rfl
set_option maxRecDepth 4000 in
theorem w45 {f : Nat → Int32} (h0 : ¬ ((f 1) < (-536870911))) (h1 : ¬ (536870911 < (f 1))) (h2 : ¬ ((f 2) < (-536870911))) (h3 : ¬ (536870911 < (f 2))) : Run (5, f) 96 (0, [(0, .ref 16), (1, .int (f 1)), (2, .int (f 2))], [], HL0) (.inl (some (.int 0)), (HJ4 f)) := by
  refine R_p d96_0 rfl rfl ?_
  refine R_p d96_1 rfl rfl ?_
  refine R_p d96_2 rfl rfl ?_
  refine R_cm [.int (f 1), .int (f 2)] d96_3 (List.mem_of_getElem? (i := 30) rfl) rfl ⟨by decide, by decide, Nat.le_of_ble_eq_true rfl, rfl, mcd97⟩ rfl rfl (Nat.le_of_ble_eq_true rfl) rfl rfl (w32 (f := f) h0 h1 h2 h3) ?_
  refine R_p d96_6 rfl rfl ?_
  refine R_get d96_7 (Or.inl (List.mem_of_getElem? (i := 43) rfl)) rfl rfl ?_
  refine R_cm [] d96_10 (List.mem_of_getElem? (i := 11) rfl) rfl ⟨by decide, by decide, Nat.le_of_ble_eq_true rfl, rfl, mcd66⟩ rfl rfl (Nat.le_of_ble_eq_true rfl) rfl rfl (w33 (f := f)) ?_
  refine R_p (ls' := [(0, .ref 16), (1, .int (f 1)), (2, .int (f 2)), (3, .int 0)]) d96_13 rfl rfl ?_
  refine R_p d96_14 rfl rfl ?_
  refine R_bi (v := 40) d96_15 (by decide) ?_
  refine R_br 30 d96_17 (mb_t (b := (¬ (0 : Int32) = (40 : Int32))) (by decide)) rfl ?_
  refine R_p d96_30 rfl rfl ?_
  refine R_get d96_31 (Or.inl (List.mem_of_getElem? (i := 43) rfl)) rfl rfl ?_
  refine R_p d96_34 rfl rfl ?_
  refine R_p d96_35 rfl rfl ?_
  refine R_p d96_36 rfl rfl ?_
  refine R_cm [.int 0, .int (f 1), .int (f 2)] d96_37 (List.mem_of_getElem? (i := 31) rfl) rfl ⟨by decide, by decide, Nat.le_of_ble_eq_true rfl, rfl, mcd68⟩ rfl rfl (Nat.le_of_ble_eq_true rfl) rfl rfl (w34 (f := f)) ?_
  refine R_p d96_40 rfl rfl ?_
  refine R_get d96_41 (Or.inl (List.mem_of_getElem? (i := 43) rfl)) rfl rfl ?_
  refine R_p d96_44 rfl rfl ?_
  refine R_cm [.int 0] d96_45 (List.mem_of_getElem? (i := 32) rfl) rfl ⟨by decide, by decide, Nat.le_of_ble_eq_true rfl, rfl, mcd69⟩ rfl rfl (Nat.le_of_ble_eq_true rfl) rfl rfl (w35 (f := f)) ?_
  refine R_ic (v := (-1)) d96_48 (by decide) ?_
  refine R_nb d96_49 rfl (mb_f (b := (¬ ((-1) : Int32) = ((-1) : Int32))) (fun q => q (by decide))) ?_
  refine R_p d96_52 rfl rfl ?_
  refine R_get d96_53 (Or.inl (List.mem_of_getElem? (i := 44) rfl)) rfl rfl ?_
  refine R_p d96_56 rfl rfl ?_
  refine R_cm [.int 0] d96_57 (List.mem_of_getElem? (i := 33) rfl) rfl ⟨by decide, by decide, Nat.le_of_ble_eq_true rfl, rfl, mcd38⟩ rfl rfl (Nat.le_of_ble_eq_true rfl) rfl rfl (w37 (f := f)) ?_
  refine R_br 65 d96_60 (mb_t (b := ((0 : Int32) = (0 : Int32))) (by decide)) rfl ?_
  refine R_p d96_65 rfl rfl ?_
  refine R_get d96_66 (Or.inl (List.mem_of_getElem? (i := 43) rfl)) rfl rfl ?_
  refine R_cm [] d96_69 (List.mem_of_getElem? (i := 40) rfl) rfl ⟨by decide, by decide, Nat.le_of_ble_eq_true rfl, rfl, mcd72⟩ rfl rfl (Nat.le_of_ble_eq_true rfl) rfl rfl (w38 (f := f)) ?_
  refine R_p d96_72 rfl rfl ?_
  refine R_get d96_73 (Or.inl (List.mem_of_getElem? (i := 46) rfl)) rfl rfl ?_
  refine R_p d96_76 rfl rfl ?_
  refine R_cm [.int 0] d96_77 (List.mem_of_getElem? (i := 41) rfl) rfl ⟨by decide, by decide, Nat.le_of_ble_eq_true rfl, rfl, mcd20⟩ rfl rfl (Nat.le_of_ble_eq_true rfl) rfl rfl (w44 (f := f)) ?_
  refine R_p d96_80 rfl rfl ?_
  exact R_iret d96_81 rfl rfl rfl
set_option maxRecDepth 4000 in
theorem w46 {f : Nat → Int32} (h0 : ¬ ((f 1) < (-536870911))) (h1 : ¬ (536870911 < (f 1))) (h2 : ¬ ((f 2) < (-536870911))) (h3 : ¬ (536870911 < (f 2))) : Run (5, f) 157 (0, [(0, .ref 16), (1, .int (f 1)), (2, .int (f 2)), (3, .ref 53)], [], HL0) (.inl (some (.int 0)), (HJ5 f)) := by
  refine R_p d157_0 rfl rfl ?_
  refine R_ic (v := 0) d157_1 (by decide) ?_
  refine R_p d157_2 rfl rfl ?_
  refine R_p d157_3 rfl rfl ?_
  refine R_p d157_4 rfl rfl ?_
  refine R_cm [.int (f 1), .int (f 2)] d157_5 (List.mem_of_getElem? (i := 29) rfl) rfl ⟨by decide, by decide, Nat.le_of_ble_eq_true rfl, rfl, mcd96⟩ rfl rfl (Nat.le_of_ble_eq_true rfl) rfl rfl (w45 (f := f) h0 h1 h2 h3) ?_
  refine R_p d157_8 rfl rfl ?_
  refine R_nw (v := _) (v' := 0) (by decide) ?_
  refine R_lst d157_9 rfl (vp_ok (by decide)) ?_
  refine R_br 21 d157_10 rfl rfl ?_
  refine R_ic (v := 0) d157_21 (by decide) ?_
  exact R_iret d157_22 rfl rfl rfl
set_option maxRecDepth 4000 in
theorem w47 {f : Nat → Int32} (h0 : ¬ ((f 1) < (-536870911))) (h1 : ¬ (536870911 < (f 1))) : Run (5, f) 116 (0, [(0, .int (f 1)), (1, .int (-536870911)), (2, .int 536870911)], [], (HJ5 f)) (.inl (some (.int 1)), (HJ5 f)) := by
  refine R_p d116_0 rfl rfl ?_
  refine R_p d116_1 rfl rfl ?_
  refine R_nb d116_2 rfl (mb_f (b := ((f 1) < (-536870911))) h0) ?_
  refine R_p d116_5 rfl rfl ?_
  refine R_p d116_6 rfl rfl ?_
  refine R_nb d116_7 rfl (mb_f (b := (536870911 < (f 1))) h1) ?_
  refine R_ic (v := 1) d116_10 (by decide) ?_
  refine R_br 15 d116_11 rfl rfl ?_
  exact R_iret d116_15 rfl rfl rfl
set_option maxRecDepth 4000 in
theorem w48 {f : Nat → Int32} (h2 : ¬ ((f 2) < (-536870911))) (h3 : ¬ (536870911 < (f 2))) : Run (5, f) 116 (0, [(0, .int (f 2)), (1, .int (-536870911)), (2, .int 536870911)], [], (HJ5 f)) (.inl (some (.int 1)), (HJ5 f)) := by
  refine R_p d116_0 rfl rfl ?_
  refine R_p d116_1 rfl rfl ?_
  refine R_nb d116_2 rfl (mb_f (b := ((f 2) < (-536870911))) h2) ?_
  refine R_p d116_5 rfl rfl ?_
  refine R_p d116_6 rfl rfl ?_
  refine R_nb d116_7 rfl (mb_f (b := (536870911 < (f 2))) h3) ?_
  refine R_ic (v := 1) d116_10 (by decide) ?_
  refine R_br 15 d116_11 rfl rfl ?_
  exact R_iret d116_15 rfl rfl rfl
set_option maxRecDepth 4000 in
theorem w49 {f : Nat → Int32} (h0 : ¬ ((f 1) < (-536870911))) (h1 : ¬ (536870911 < (f 1))) (h2 : ¬ ((f 2) < (-536870911))) (h3 : ¬ (536870911 < (f 2))) : Run (5, f) 115 (0, [(0, .int (f 1)), (1, .int (f 2))], [], (HJ5 f)) (.inl (some (.int 1)), (HJ5 f)) := by
  refine R_p d115_0 rfl rfl ?_
  refine R_ci (v := (-536870911)) 959 d115_1 (List.mem_of_getElem? (i := 4) rfl) ?_
  refine R_ci (v := 536870911) 960 d115_3 (List.mem_of_getElem? (i := 5) rfl) ?_
  refine R_cs [.int (f 1), .int (-536870911), .int 536870911] d115_5 (List.mem_of_getElem? (i := 163) rfl) rfl ⟨by decide, by decide, Nat.le_of_ble_eq_true rfl, rfl, mcd116⟩ rfl rfl (Nat.le_of_ble_eq_true rfl) (w47 (f := f) h0 h1) ?_
  refine R_nb d115_8 rfl (mb_f (b := ((1 : Int32) = (0 : Int32))) (by decide)) ?_
  refine R_p d115_11 rfl rfl ?_
  refine R_ci (v := (-536870911)) 959 d115_12 (List.mem_of_getElem? (i := 4) rfl) ?_
  refine R_ci (v := 536870911) 960 d115_14 (List.mem_of_getElem? (i := 5) rfl) ?_
  refine R_cs [.int (f 2), .int (-536870911), .int 536870911] d115_16 (List.mem_of_getElem? (i := 163) rfl) rfl ⟨by decide, by decide, Nat.le_of_ble_eq_true rfl, rfl, mcd116⟩ rfl rfl (Nat.le_of_ble_eq_true rfl) (w48 (f := f) h2 h3) ?_
  refine R_nb d115_19 rfl (mb_f (b := ((1 : Int32) = (0 : Int32))) (by decide)) ?_
  refine R_ic (v := 1) d115_22 (by decide) ?_
  refine R_br 27 d115_23 rfl rfl ?_
  exact R_iret d115_27 rfl rfl rfl
set_option maxRecDepth 4000 in
theorem w50 {f : Nat → Int32} : Run (5, f) 117 (0, [(0, .ref 42), (1, .int 0)], [], (HJ5 f)) (.inl (some (.int 0)), (HJ5 f)) := by
  refine R_p d117_0 rfl rfl ?_
  refine R_p d117_1 rfl rfl ?_
  refine R_put d117_2 (List.mem_of_getElem? (i := 48) rfl) rfl (by decide) rfl rfl (Or.inl rfl) ?_
  refine R_p d117_5 rfl rfl ?_
  refine R_br 13 d117_6 (mb_t (b := ((0 : Int32) ≤ (0 : Int32))) (by decide)) rfl ?_
  refine R_ic (v := 0) d117_13 (by decide) ?_
  exact R_iret d117_14 rfl rfl rfl
set_option maxRecDepth 4000 in
theorem w51 {f : Nat → Int32} (h0 : ¬ ((f 1) < (-536870911))) (h1 : ¬ (536870911 < (f 1))) (h2 : ¬ ((f 2) < (-536870911))) (h3 : ¬ (536870911 < (f 2))) : Run (5, f) 114 (0, [(0, .ref 42), (1, .int (f 1)), (2, .int (f 2))], [], (HJ5 f)) (.inl (some (.int 0)), (HJ7 f)) := by
  refine R_p d114_0 rfl rfl ?_
  refine R_p d114_1 rfl rfl ?_
  refine R_p d114_2 rfl rfl ?_
  refine R_cs [.int (f 1), .int (f 2)] d114_3 (List.mem_of_getElem? (i := 162) rfl) rfl ⟨by decide, by decide, Nat.le_of_ble_eq_true rfl, rfl, mcd115⟩ rfl rfl (Nat.le_of_ble_eq_true rfl) (w49 (f := f) h0 h1 h2 h3) ?_
  refine R_br 13 d114_6 (mb_t (b := (¬ (1 : Int32) = (0 : Int32))) (by decide)) rfl ?_
  refine R_p d114_13 rfl rfl ?_
  refine R_get d114_14 (Or.inl (List.mem_of_getElem? (i := 49) rfl)) rfl rfl ?_
  refine R_bi (v := 40) d114_17 (by decide) ?_
  refine R_br 26 d114_19 (mb_t (b := (¬ (0 : Int32) = (40 : Int32))) (by decide)) rfl ?_
  refine R_ic (v := 0) d114_26 (by decide) ?_
  refine R_cm [.int 0] d114_27 (List.mem_of_getElem? (i := 164) rfl) rfl ⟨by decide, by decide, Nat.le_of_ble_eq_true rfl, rfl, mcd117⟩ rfl rfl (Nat.le_of_ble_eq_true rfl) rfl rfl (w50 (f := f)) ?_
  refine R_br 35 d114_30 (mb_t (b := ((0 : Int32) = (0 : Int32))) (by decide)) rfl ?_
  refine R_p d114_35 rfl rfl ?_
  refine R_get d114_36 (Or.inl (List.mem_of_getElem? (i := 50) rfl)) rfl rfl ?_
  refine R_p d114_39 rfl rfl ?_
  refine R_get d114_40 (Or.inl (List.mem_of_getElem? (i := 49) rfl)) rfl rfl ?_
  refine R_p d114_43 rfl rfl ?_
  refine R_p d114_44 rfl rfl ?_
  refine R_lst d114_45 rfl (vp_ok (by decide)) ?_
  refine R_p d114_46 rfl rfl ?_
  refine R_get d114_47 (Or.inl (List.mem_of_getElem? (i := 51) rfl)) rfl rfl ?_
  refine R_p d114_50 rfl rfl ?_
  refine R_get d114_51 (Or.inl (List.mem_of_getElem? (i := 49) rfl)) rfl rfl ?_
  refine R_p d114_54 rfl rfl ?_
  refine R_p d114_55 rfl rfl ?_
  refine R_lst d114_56 rfl (vp_ok (by decide)) ?_
  refine R_ic (v := 1) d114_57 (by decide) ?_
  refine R_p (ls' := [(0, .ref 42), (1, .int (f 1)), (2, .int (f 2)), (3, .int 1)]) d114_58 rfl rfl ?_
  refine R_ic (v := 0) d114_59 (by decide) ?_
  refine R_p (ls' := [(0, .ref 42), (1, .int (f 1)), (2, .int (f 2)), (3, .int 1), (4, .int 0)]) d114_60 rfl rfl ?_
  refine R_p d114_62 rfl rfl ?_
  refine R_p d114_64 rfl rfl ?_
  refine R_get d114_65 (Or.inl (List.mem_of_getElem? (i := 49) rfl)) rfl rfl ?_
  refine R_br 170 d114_68 (mb_t (b := ((0 : Int32) ≤ (0 : Int32))) (by decide)) rfl ?_
  refine R_p d114_170 rfl rfl ?_
  refine R_br 176 d114_171 (mb_t (b := (¬ (1 : Int32) = (0 : Int32))) (by decide)) rfl ?_
  refine R_ic (v := 0) d114_176 (by decide) ?_
  refine R_p (ls' := [(0, .ref 42), (1, .int (f 1)), (2, .int (f 2)), (3, .int 1), (4, .int 0)]) d114_177 rfl rfl ?_
  refine R_h (HJ6 f) rfl ?_
  refine R_addLoop (p := 0) (by decide) rfl rfl rfl rfl ?_
  refine R_p d114_224 rfl rfl ?_
  refine R_p d114_225 rfl rfl ?_
  refine R_get d114_226 (Or.inl (List.mem_of_getElem? (i := 49) rfl)) rfl rfl ?_
  refine R_ic (v := 1) d114_229 (by decide) ?_
  refine R_p d114_230 rfl rfl ?_
  refine R_nv (v := _) (v' := 1) (by decide) ?_
  refine R_put d114_231 (List.mem_of_getElem? (i := 49) rfl) rfl (by decide) rfl rfl (Or.inl rfl) ?_
  refine R_p d114_234 rfl rfl ?_
  refine R_ic (v := 0) d114_235 (by decide) ?_
  refine R_put d114_236 (List.mem_of_getElem? (i := 54) rfl) rfl (by decide) (by decide) (by decide) (Or.inl rfl) ?_
  refine R_p d114_239 rfl rfl ?_
  refine R_get d114_240 (Or.inl (List.mem_of_getElem? (i := 49) rfl)) rfl rfl ?_
  refine R_ic (v := 1) d114_243 (by decide) ?_
  refine R_p d114_244 rfl rfl ?_
  refine R_nv (v := _) (v' := 0) (by decide) ?_
  exact R_iret d114_245 rfl rfl rfl
set_option maxRecDepth 4000 in
theorem w52 {f : Nat → Int32} : Run (5, f) 113 (0, [(0, .ref 42)], [], (HJ7 f)) (.inl (some (.int 0)), (HJ7 f)) := by
  refine R_p d113_0 rfl rfl ?_
  refine R_get d113_1 (Or.inl (List.mem_of_getElem? (i := 48) rfl)) rfl rfl ?_
  exact R_iret d113_4 rfl rfl rfl
set_option maxRecDepth 4000 in
theorem law108_53 {f : Nat → Int32} (h0 : ¬ ((f 1) < (-536870911))) (h1 : ¬ (536870911 < (f 1))) (h2 : ¬ ((f 2) < (-536870911))) (h3 : ¬ (536870911 < (f 2))) : Run (5, f) 171 (108, [(0, .ref 0), (1, .ref 16), (2, .ref 42), (3, .ref 53), (4, .int 0)], [], HL0) (.inl (some (.int 1)), (HJ7 f)) := by
  refine R_p d171_108 rfl rfl ?_
  refine R_p d171_109 rfl rfl ?_
  refine R_p d171_110 rfl rfl ?_
  refine R_ic (v := 1) d171_112 (by decide) ?_
  refine R_p d171_113 rfl rfl ?_
  refine R_nv (v := _) (v' := 1) (by decide) ?_
  refine R_sldk (n := 1) (x := (f 1)) d171_114 (vp_ok (by decide)) (by decide) rfl ?_
  refine R_p d171_115 rfl rfl ?_
  refine R_p d171_116 rfl rfl ?_
  refine R_ic (v := 2) d171_118 (by decide) ?_
  refine R_p d171_119 rfl rfl ?_
  refine R_nv (v := _) (v' := 2) (by decide) ?_
  refine R_sldk (n := 2) (x := (f 2)) d171_120 (vp_ok (by decide)) (by decide) rfl ?_
  refine R_p d171_121 rfl rfl ?_
  refine R_hs [.ref 16, .int (f 1), .int (f 2), .ref 53] d171_122 (List.mem_of_getElem? (i := 28) rfl) ⟨by decide, by decide, Nat.le_of_ble_eq_true rfl, mcd157⟩ rfl rfl (Nat.le_of_ble_eq_true rfl) (w46 (f := f) h0 h1 h2 h3) ?_
  refine R_p (ls' := [(0, .ref 0), (1, .ref 16), (2, .ref 42), (3, .ref 53), (4, .int 0), (5, .int 0)]) d171_125 rfl rfl ?_
  refine R_p d171_127 rfl rfl ?_
  refine R_p d171_128 rfl rfl ?_
  refine R_p d171_129 rfl rfl ?_
  refine R_ic (v := 1) d171_131 (by decide) ?_
  refine R_p d171_132 rfl rfl ?_
  refine R_nv (v := _) (v' := 1) (by decide) ?_
  refine R_sldk (n := 1) (x := (f 1)) d171_133 (vp_ok (by decide)) (by decide) rfl ?_
  refine R_p d171_134 rfl rfl ?_
  refine R_p d171_135 rfl rfl ?_
  refine R_ic (v := 2) d171_137 (by decide) ?_
  refine R_p d171_138 rfl rfl ?_
  refine R_nv (v := _) (v' := 2) (by decide) ?_
  refine R_sldk (n := 2) (x := (f 2)) d171_139 (vp_ok (by decide)) (by decide) rfl ?_
  refine R_cm [.int (f 1), .int (f 2)] d171_140 (List.mem_of_getElem? (i := 161) rfl) rfl ⟨by decide, by decide, Nat.le_of_ble_eq_true rfl, rfl, mcd114⟩ rfl rfl (Nat.le_of_ble_eq_true rfl) rfl rfl (w51 (f := f) h0 h1 h2 h3) ?_
  refine R_p (ls' := [(0, .ref 0), (1, .ref 16), (2, .ref 42), (3, .ref 53), (4, .int 0), (5, .int 0), (6, .int 0)]) d171_143 rfl rfl ?_
  refine R_p d171_145 rfl rfl ?_
  refine R_cm [] d171_146 (List.mem_of_getElem? (i := 160) rfl) rfl ⟨by decide, by decide, Nat.le_of_ble_eq_true rfl, rfl, mcd113⟩ rfl rfl (Nat.le_of_ble_eq_true rfl) rfl rfl (w52 (f := f)) ?_
  refine R_p d171_149 rfl rfl ?_
  refine R_br 156 d171_151 (mb_t (b := ((0 : Int32) = (0 : Int32))) (by decide)) rfl ?_
  refine R_p d171_156 rfl rfl ?_
  refine R_nb d171_158 rfl (mb_f (b := (¬ (0 : Int32) = (0 : Int32))) (fun q => q (by decide))) ?_
  refine R_p d171_161 rfl rfl ?_
  refine R_ic (v := 0) d171_162 (by decide) ?_
  refine R_lld d171_163 rfl (vp_ok (by decide)) ?_
  refine R_nw (v := _) (v' := 0) (by decide) ?_
  refine R_p d171_164 rfl rfl ?_
  refine R_p d171_166 rfl rfl ?_
  refine R_nw (v := _) (v' := 0) (by decide) ?_
  refine R_p d171_167 rfl rfl ?_
  refine R_nv (v := _) (v' := 0) (by decide) ?_
  refine R_br 173 d171_168 (mb_t (b := ((0 : Int32) = (0 : Int32))) (by decide)) rfl ?_
  refine R_br 950 d171_173 rfl rfl ?_
  refine R_p (ls' := [(0, .ref 0), (1, .ref 16), (2, .ref 42), (3, .ref 53), (4, .int 5), (5, .int 0), (6, .int 0)]) d171_950 rfl rfl ?_
  refine R_br 23 d171_953 rfl rfl ?_
  refine R_p d171_23 rfl rfl ?_
  refine R_p d171_25 rfl rfl ?_
  refine R_sln d171_26 ?_
  refine R_nv (v := _) (v' := 5) (show Int32.ofNat 5 = 5 from by decide) ?_
  refine R_ic (v := 5) d171_27 (by decide) ?_
  refine R_p d171_28 rfl rfl ?_
  refine R_nv (v := _) (v' := 0) (by decide) ?_
  refine R_br 956 d171_29 (mb_t (b := ((0 : Int32) < (5 : Int32))) (by decide)) rfl ?_
  refine R_ic (v := 1) d171_956 (by decide) ?_
  exact R_iret d171_957 rfl rfl rfl
set_option maxRecDepth 4000 in
theorem w54 {f : Nat → Int32} (h0 : ((f 1) < 0)) : RunsP 102 (0, [(0, .ref 16), (1, .int (f 1))], [], HL0) (.inr 54, HJ1) := by
  refine Q_p d102_0 rfl rfl ?_
  refine Q_br 15 d102_1 (mb_t (b := ((f 1) < 0)) h0) rfl ?_
  exact Q_thr 3 d102_15 d102_18 d102_19 d102_21 d102_24 rfl (List.mem_of_getElem? (i := 3) rfl) rfl (by decide) (by decide)
set_option maxRecDepth 4000 in
theorem w55 {f : Nat → Int32} (h0 : ((f 1) < 0)) : Run (5, f) 101 (0, [(0, .ref 16), (1, .int (f 1)), (2, .int (f 2))], [], HL0) (.inr 54, HJ1) := by
  refine R_p d101_0 rfl rfl ?_
  refine R_p d101_1 rfl rfl ?_
  exact R_tv [.int (f 1)] d101_2 (List.mem_of_getElem? (i := 86) rfl) ⟨by decide, by decide, Nat.le_of_ble_eq_true rfl, mcd102⟩ rfl rfl (Nat.le_of_ble_eq_true rfl) rfl rfl rfl (Or.inr (w54 (f := f) h0))
set_option maxRecDepth 4000 in
theorem w56 {f : Nat → Int32} (h0 : ((f 1) < 0)) : Run (5, f) 100 (0, [(0, .ref 16), (1, .int (f 1)), (2, .int (f 2))], [], HL0) (.inr 54, HJ1) := by
  refine R_p d100_0 rfl rfl ?_
  refine R_p d100_1 rfl rfl ?_
  refine R_p d100_2 rfl rfl ?_
  exact R_tv [.int (f 1), .int (f 2)] d100_3 (List.mem_of_getElem? (i := 85) rfl) ⟨by decide, by decide, Nat.le_of_ble_eq_true rfl, mcd101⟩ rfl rfl (Nat.le_of_ble_eq_true rfl) rfl rfl rfl (Or.inl (w55 (f := f) h0))
set_option maxRecDepth 4000 in
theorem w57 {f : Nat → Int32} (h0 : ((f 1) < 0)) : Run (5, f) 158 (0, [(0, .ref 16), (1, .int (f 1)), (2, .int (f 2)), (3, .ref 53)], [], HL0) (.inl (some (.int 1)), HJ1) := by
  refine R_p d158_0 rfl rfl ?_
  refine R_ic (v := 0) d158_1 (by decide) ?_
  refine R_p d158_2 rfl rfl ?_
  refine R_p d158_3 rfl rfl ?_
  refine R_p d158_4 rfl rfl ?_
  refine R_tc [.int (f 1), .int (f 2)] d158_5 (List.mem_of_getElem? (i := 84) rfl) ⟨by decide, by decide, Nat.le_of_ble_eq_true rfl, mcd100⟩ rfl rfl (Nat.le_of_ble_eq_true rfl) rfl rfl rfl (cx := 10) (hp := 20) rfl (by decide) (by decide) (by decide) (Or.inl (w56 (f := f) h0)) ?_
  refine R_p (ls' := [(0, .ref 16), (1, .int (f 1)), (2, .int (f 2)), (3, .ref 53), (4, .ref 54)]) d158_20 rfl rfl ?_
  refine R_ic (v := 1) d158_22 (by decide) ?_
  exact R_iret d158_23 rfl rfl rfl
set_option maxRecDepth 4000 in
theorem w58 {f : Nat → Int32} (h0 : ((f 1) < 0)) : Run (5, f) 116 (0, [(0, .int (f 1)), (1, .int 0), (2, .int (-1))], [], HJ1) (.inl (some (.int 0)), HJ1) := by
  refine R_p d116_0 rfl rfl ?_
  refine R_p d116_1 rfl rfl ?_
  refine R_br 14 d116_2 (mb_t (b := ((f 1) < 0)) h0) rfl ?_
  refine R_ic (v := 0) d116_14 (by decide) ?_
  exact R_iret d116_15 rfl rfl rfl
set_option maxRecDepth 4000 in
theorem w59 {f : Nat → Int32} (h0 : ((f 1) < 0)) : Run (5, f) 122 (0, [(0, .ref 42), (1, .int (f 1))], [], HJ1) (.inl (some (.int 0)), HJ1) := by
  refine R_p d122_0 rfl rfl ?_
  refine R_ic (v := 0) d122_1 (by decide) ?_
  refine R_p d122_2 rfl rfl ?_
  refine R_get d122_3 (Or.inl (List.mem_of_getElem? (i := 49) rfl)) rfl rfl ?_
  refine R_ic (v := 1) d122_6 (by decide) ?_
  refine R_p d122_7 rfl rfl ?_
  refine R_nv (v := _) (v' := (-1)) (by decide) ?_
  refine R_cs [.int (f 1), .int 0, .int (-1)] d122_8 (List.mem_of_getElem? (i := 163) rfl) rfl ⟨by decide, by decide, Nat.le_of_ble_eq_true rfl, rfl, mcd116⟩ rfl rfl (Nat.le_of_ble_eq_true rfl) (w58 (f := f) h0) ?_
  exact R_iret d122_11 rfl rfl rfl
set_option maxRecDepth 4000 in
theorem w60 {f : Nat → Int32} (h0 : ((f 1) < 0)) : Run (5, f) 121 (0, [(0, .ref 42), (1, .int (f 1)), (2, .int (f 2))], [], HJ1) (.inl (some (.int 0)), HJ1) := by
  refine R_p d121_0 rfl rfl ?_
  refine R_p d121_1 rfl rfl ?_
  refine R_cm [.int (f 1)] d121_2 (List.mem_of_getElem? (i := 169) rfl) rfl ⟨by decide, by decide, Nat.le_of_ble_eq_true rfl, rfl, mcd122⟩ rfl rfl (Nat.le_of_ble_eq_true rfl) rfl rfl (w59 (f := f) h0) ?_
  refine R_br 25 d121_5 (mb_t (b := ((0 : Int32) = (0 : Int32))) (by decide)) rfl ?_
  refine R_ic (v := 0) d121_25 (by decide) ?_
  exact R_iret d121_26 rfl rfl rfl
set_option maxRecDepth 4000 in
theorem w61 {f : Nat → Int32} (h0 : ((f 1) < 0)) : Run (5, f) 120 (0, [(0, .ref 42), (1, .int (f 1)), (2, .int (f 2))], [], HJ1) (.inl (some (.int 0)), HJ2) := by
  refine R_p d120_0 rfl rfl ?_
  refine R_p d120_1 rfl rfl ?_
  refine R_p d120_2 rfl rfl ?_
  refine R_p d120_3 rfl rfl ?_
  refine R_cm [.int (f 1), .int (f 2)] d120_4 (List.mem_of_getElem? (i := 168) rfl) rfl ⟨by decide, by decide, Nat.le_of_ble_eq_true rfl, rfl, mcd121⟩ rfl rfl (Nat.le_of_ble_eq_true rfl) rfl rfl (w60 (f := f) h0) ?_
  refine R_br 14 d120_7 (mb_t (b := ((0 : Int32) = (0 : Int32))) (by decide)) rfl ?_
  refine R_ic (v := 1) d120_14 (by decide) ?_
  refine R_cm [.int 1] d120_15 (List.mem_of_getElem? (i := 164) rfl) rfl ⟨by decide, by decide, Nat.le_of_ble_eq_true rfl, rfl, mcd117⟩ rfl rfl (Nat.le_of_ble_eq_true rfl) rfl rfl (w6 (f := f)) ?_
  refine R_nb d120_18 rfl (mb_f (b := ((1 : Int32) = (0 : Int32))) (by decide)) ?_
  refine R_ic (v := 0) d120_21 (by decide) ?_
  exact R_iret d120_22 rfl rfl rfl
set_option maxRecDepth 4000 in
theorem law176_62 {f : Nat → Int32} (h0 : ((f 1) < 0)) : Run (5, f) 171 (176, [(0, .ref 0), (1, .ref 16), (2, .ref 42), (3, .ref 53), (4, .int 0)], [], HL0) (.inl (some (.int 1)), HJ2) := by
  refine R_p d171_176 rfl rfl ?_
  refine R_p d171_177 rfl rfl ?_
  refine R_p d171_178 rfl rfl ?_
  refine R_ic (v := 1) d171_180 (by decide) ?_
  refine R_p d171_181 rfl rfl ?_
  refine R_nv (v := _) (v' := 1) (by decide) ?_
  refine R_sldk (n := 1) (x := (f 1)) d171_182 (vp_ok (by decide)) (by decide) rfl ?_
  refine R_p d171_183 rfl rfl ?_
  refine R_p d171_184 rfl rfl ?_
  refine R_ic (v := 2) d171_186 (by decide) ?_
  refine R_p d171_187 rfl rfl ?_
  refine R_nv (v := _) (v' := 2) (by decide) ?_
  refine R_sldk (n := 2) (x := (f 2)) d171_188 (vp_ok (by decide)) (by decide) rfl ?_
  refine R_p d171_189 rfl rfl ?_
  refine R_hs [.ref 16, .int (f 1), .int (f 2), .ref 53] d171_190 (List.mem_of_getElem? (i := 83) rfl) ⟨by decide, by decide, Nat.le_of_ble_eq_true rfl, mcd158⟩ rfl rfl (Nat.le_of_ble_eq_true rfl) (w57 (f := f) h0) ?_
  refine R_p (ls' := [(0, .ref 0), (1, .ref 16), (2, .ref 42), (3, .ref 53), (4, .int 0), (5, .int 1)]) d171_193 rfl rfl ?_
  refine R_p d171_195 rfl rfl ?_
  refine R_p d171_196 rfl rfl ?_
  refine R_p d171_197 rfl rfl ?_
  refine R_ic (v := 1) d171_199 (by decide) ?_
  refine R_p d171_200 rfl rfl ?_
  refine R_nv (v := _) (v' := 1) (by decide) ?_
  refine R_sldk (n := 1) (x := (f 1)) d171_201 (vp_ok (by decide)) (by decide) rfl ?_
  refine R_p d171_202 rfl rfl ?_
  refine R_p d171_203 rfl rfl ?_
  refine R_ic (v := 2) d171_205 (by decide) ?_
  refine R_p d171_206 rfl rfl ?_
  refine R_nv (v := _) (v' := 2) (by decide) ?_
  refine R_sldk (n := 2) (x := (f 2)) d171_207 (vp_ok (by decide)) (by decide) rfl ?_
  refine R_cm [.int (f 1), .int (f 2)] d171_208 (List.mem_of_getElem? (i := 167) rfl) rfl ⟨by decide, by decide, Nat.le_of_ble_eq_true rfl, rfl, mcd120⟩ rfl rfl (Nat.le_of_ble_eq_true rfl) rfl rfl (w61 (f := f) h0) ?_
  refine R_p (ls' := [(0, .ref 0), (1, .ref 16), (2, .ref 42), (3, .ref 53), (4, .int 0), (5, .int 1), (6, .int 0)]) d171_211 rfl rfl ?_
  refine R_p d171_213 rfl rfl ?_
  refine R_cm [] d171_214 (List.mem_of_getElem? (i := 160) rfl) rfl ⟨by decide, by decide, Nat.le_of_ble_eq_true rfl, rfl, mcd113⟩ rfl rfl (Nat.le_of_ble_eq_true rfl) rfl rfl (w8 (f := f)) ?_
  refine R_p d171_217 rfl rfl ?_
  refine R_br 224 d171_219 (mb_t (b := ((1 : Int32) = (1 : Int32))) (by decide)) rfl ?_
  refine R_p d171_224 rfl rfl ?_
  refine R_br 248 d171_226 (mb_t (b := (¬ (1 : Int32) = (0 : Int32))) (by decide)) rfl ?_
  refine R_br 950 d171_248 rfl rfl ?_
  refine R_p (ls' := [(0, .ref 0), (1, .ref 16), (2, .ref 42), (3, .ref 53), (4, .int 5), (5, .int 1), (6, .int 0)]) d171_950 rfl rfl ?_
  refine R_br 23 d171_953 rfl rfl ?_
  refine R_p d171_23 rfl rfl ?_
  refine R_p d171_25 rfl rfl ?_
  refine R_sln d171_26 ?_
  refine R_nv (v := _) (v' := 5) (show Int32.ofNat 5 = 5 from by decide) ?_
  refine R_ic (v := 5) d171_27 (by decide) ?_
  refine R_p d171_28 rfl rfl ?_
  refine R_nv (v := _) (v' := 0) (by decide) ?_
  refine R_br 956 d171_29 (mb_t (b := ((0 : Int32) < (5 : Int32))) (by decide)) rfl ?_
  refine R_ic (v := 1) d171_956 (by decide) ?_
  exact R_iret d171_957 rfl rfl rfl
set_option maxRecDepth 4000 in
theorem w63 {f : Nat → Int32} : RunsP 66 (0, [(0, .ref 17)], [], HL0) (.inl (some (.int 0)), HL0) := by
  refine Q_p d66_0 rfl rfl ?_
  refine Q_get d66_1 (Or.inl (List.mem_of_getElem? (i := 6) rfl)) rfl rfl ?_
  exact Q_iret d66_4 rfl rfl
set_option maxRecDepth 4000 in
theorem w64 {f : Nat → Int32} (h0 : ¬ ((f 1) < 0)) : RunsP 102 (0, [(0, .ref 16), (1, .int (f 1))], [], HL0) (.inr 54, HJ1) := by
  refine Q_p d102_0 rfl rfl ?_
  refine Q_nb d102_1 rfl (mb_f (b := ((f 1) < 0)) h0) ?_
  refine Q_p d102_4 rfl rfl ?_
  refine Q_p d102_5 rfl rfl ?_
  refine Q_get d102_6 (Or.inl (List.mem_of_getElem? (i := 43) rfl)) rfl rfl ?_
  refine Q_cm [] d102_9 (List.mem_of_getElem? (i := 11) rfl) rfl ⟨by decide, by decide, Nat.le_of_ble_eq_true rfl, rfl, mcd66⟩ rfl rfl (Nat.le_of_ble_eq_true rfl) rfl rfl (w63 (f := f)) ?_
  refine Q_nb d102_12 rfl (mb_f (b := ((f 1) < 0)) h0) ?_
  exact Q_thr 3 d102_15 d102_18 d102_19 d102_21 d102_24 rfl (List.mem_of_getElem? (i := 3) rfl) rfl (by decide) (by decide)
set_option maxRecDepth 4000 in
theorem w65 {f : Nat → Int32} (h0 : ¬ ((f 1) < 0)) : Run (5, f) 101 (0, [(0, .ref 16), (1, .int (f 1)), (2, .int (f 2))], [], HL0) (.inr 54, HJ1) := by
  refine R_p d101_0 rfl rfl ?_
  refine R_p d101_1 rfl rfl ?_
  exact R_tv [.int (f 1)] d101_2 (List.mem_of_getElem? (i := 86) rfl) ⟨by decide, by decide, Nat.le_of_ble_eq_true rfl, mcd102⟩ rfl rfl (Nat.le_of_ble_eq_true rfl) rfl rfl rfl (Or.inr (w64 (f := f) h0))
set_option maxRecDepth 4000 in
theorem w66 {f : Nat → Int32} (h0 : ¬ ((f 1) < 0)) : Run (5, f) 100 (0, [(0, .ref 16), (1, .int (f 1)), (2, .int (f 2))], [], HL0) (.inr 54, HJ1) := by
  refine R_p d100_0 rfl rfl ?_
  refine R_p d100_1 rfl rfl ?_
  refine R_p d100_2 rfl rfl ?_
  exact R_tv [.int (f 1), .int (f 2)] d100_3 (List.mem_of_getElem? (i := 85) rfl) ⟨by decide, by decide, Nat.le_of_ble_eq_true rfl, mcd101⟩ rfl rfl (Nat.le_of_ble_eq_true rfl) rfl rfl rfl (Or.inl (w65 (f := f) h0))
set_option maxRecDepth 4000 in
theorem w67 {f : Nat → Int32} (h0 : ¬ ((f 1) < 0)) : Run (5, f) 158 (0, [(0, .ref 16), (1, .int (f 1)), (2, .int (f 2)), (3, .ref 53)], [], HL0) (.inl (some (.int 1)), HJ1) := by
  refine R_p d158_0 rfl rfl ?_
  refine R_ic (v := 0) d158_1 (by decide) ?_
  refine R_p d158_2 rfl rfl ?_
  refine R_p d158_3 rfl rfl ?_
  refine R_p d158_4 rfl rfl ?_
  refine R_tc [.int (f 1), .int (f 2)] d158_5 (List.mem_of_getElem? (i := 84) rfl) ⟨by decide, by decide, Nat.le_of_ble_eq_true rfl, mcd100⟩ rfl rfl (Nat.le_of_ble_eq_true rfl) rfl rfl rfl (cx := 10) (hp := 20) rfl (by decide) (by decide) (by decide) (Or.inl (w66 (f := f) h0)) ?_
  refine R_p (ls' := [(0, .ref 16), (1, .int (f 1)), (2, .int (f 2)), (3, .ref 53), (4, .ref 54)]) d158_20 rfl rfl ?_
  refine R_ic (v := 1) d158_22 (by decide) ?_
  exact R_iret d158_23 rfl rfl rfl
set_option maxRecDepth 4000 in
theorem w68 {f : Nat → Int32} (h0 : ¬ ((f 1) < 0)) : Run (5, f) 116 (0, [(0, .int (f 1)), (1, .int 0), (2, .int (-1))], [], HJ1) (.inl (some (.int 0)), HJ1) := by
  refine R_p d116_0 rfl rfl ?_
  refine R_p d116_1 rfl rfl ?_
  refine R_nb d116_2 rfl (mb_f (b := ((f 1) < 0)) h0) ?_
  refine R_p d116_5 rfl rfl ?_
  refine R_p d116_6 rfl rfl ?_
  refine R_br 14 d116_7 (mb_t (b := ((-1) < (f 1))) (m1_lt h0)) rfl ?_
  refine R_ic (v := 0) d116_14 (by decide) ?_
  exact R_iret d116_15 rfl rfl rfl
set_option maxRecDepth 4000 in
theorem w69 {f : Nat → Int32} (h0 : ¬ ((f 1) < 0)) : Run (5, f) 122 (0, [(0, .ref 42), (1, .int (f 1))], [], HJ1) (.inl (some (.int 0)), HJ1) := by
  refine R_p d122_0 rfl rfl ?_
  refine R_ic (v := 0) d122_1 (by decide) ?_
  refine R_p d122_2 rfl rfl ?_
  refine R_get d122_3 (Or.inl (List.mem_of_getElem? (i := 49) rfl)) rfl rfl ?_
  refine R_ic (v := 1) d122_6 (by decide) ?_
  refine R_p d122_7 rfl rfl ?_
  refine R_nv (v := _) (v' := (-1)) (by decide) ?_
  refine R_cs [.int (f 1), .int 0, .int (-1)] d122_8 (List.mem_of_getElem? (i := 163) rfl) rfl ⟨by decide, by decide, Nat.le_of_ble_eq_true rfl, rfl, mcd116⟩ rfl rfl (Nat.le_of_ble_eq_true rfl) (w68 (f := f) h0) ?_
  exact R_iret d122_11 rfl rfl rfl
set_option maxRecDepth 4000 in
theorem w70 {f : Nat → Int32} (h0 : ¬ ((f 1) < 0)) : Run (5, f) 121 (0, [(0, .ref 42), (1, .int (f 1)), (2, .int (f 2))], [], HJ1) (.inl (some (.int 0)), HJ1) := by
  refine R_p d121_0 rfl rfl ?_
  refine R_p d121_1 rfl rfl ?_
  refine R_cm [.int (f 1)] d121_2 (List.mem_of_getElem? (i := 169) rfl) rfl ⟨by decide, by decide, Nat.le_of_ble_eq_true rfl, rfl, mcd122⟩ rfl rfl (Nat.le_of_ble_eq_true rfl) rfl rfl (w69 (f := f) h0) ?_
  refine R_br 25 d121_5 (mb_t (b := ((0 : Int32) = (0 : Int32))) (by decide)) rfl ?_
  refine R_ic (v := 0) d121_25 (by decide) ?_
  exact R_iret d121_26 rfl rfl rfl
set_option maxRecDepth 4000 in
theorem w71 {f : Nat → Int32} (h0 : ¬ ((f 1) < 0)) : Run (5, f) 120 (0, [(0, .ref 42), (1, .int (f 1)), (2, .int (f 2))], [], HJ1) (.inl (some (.int 0)), HJ2) := by
  refine R_p d120_0 rfl rfl ?_
  refine R_p d120_1 rfl rfl ?_
  refine R_p d120_2 rfl rfl ?_
  refine R_p d120_3 rfl rfl ?_
  refine R_cm [.int (f 1), .int (f 2)] d120_4 (List.mem_of_getElem? (i := 168) rfl) rfl ⟨by decide, by decide, Nat.le_of_ble_eq_true rfl, rfl, mcd121⟩ rfl rfl (Nat.le_of_ble_eq_true rfl) rfl rfl (w70 (f := f) h0) ?_
  refine R_br 14 d120_7 (mb_t (b := ((0 : Int32) = (0 : Int32))) (by decide)) rfl ?_
  refine R_ic (v := 1) d120_14 (by decide) ?_
  refine R_cm [.int 1] d120_15 (List.mem_of_getElem? (i := 164) rfl) rfl ⟨by decide, by decide, Nat.le_of_ble_eq_true rfl, rfl, mcd117⟩ rfl rfl (Nat.le_of_ble_eq_true rfl) rfl rfl (w6 (f := f)) ?_
  refine R_nb d120_18 rfl (mb_f (b := ((1 : Int32) = (0 : Int32))) (by decide)) ?_
  refine R_ic (v := 0) d120_21 (by decide) ?_
  exact R_iret d120_22 rfl rfl rfl
set_option maxRecDepth 4000 in
theorem law176_72 {f : Nat → Int32} (h0 : ¬ ((f 1) < 0)) : Run (5, f) 171 (176, [(0, .ref 0), (1, .ref 16), (2, .ref 42), (3, .ref 53), (4, .int 0)], [], HL0) (.inl (some (.int 1)), HJ2) := by
  refine R_p d171_176 rfl rfl ?_
  refine R_p d171_177 rfl rfl ?_
  refine R_p d171_178 rfl rfl ?_
  refine R_ic (v := 1) d171_180 (by decide) ?_
  refine R_p d171_181 rfl rfl ?_
  refine R_nv (v := _) (v' := 1) (by decide) ?_
  refine R_sldk (n := 1) (x := (f 1)) d171_182 (vp_ok (by decide)) (by decide) rfl ?_
  refine R_p d171_183 rfl rfl ?_
  refine R_p d171_184 rfl rfl ?_
  refine R_ic (v := 2) d171_186 (by decide) ?_
  refine R_p d171_187 rfl rfl ?_
  refine R_nv (v := _) (v' := 2) (by decide) ?_
  refine R_sldk (n := 2) (x := (f 2)) d171_188 (vp_ok (by decide)) (by decide) rfl ?_
  refine R_p d171_189 rfl rfl ?_
  refine R_hs [.ref 16, .int (f 1), .int (f 2), .ref 53] d171_190 (List.mem_of_getElem? (i := 83) rfl) ⟨by decide, by decide, Nat.le_of_ble_eq_true rfl, mcd158⟩ rfl rfl (Nat.le_of_ble_eq_true rfl) (w67 (f := f) h0) ?_
  refine R_p (ls' := [(0, .ref 0), (1, .ref 16), (2, .ref 42), (3, .ref 53), (4, .int 0), (5, .int 1)]) d171_193 rfl rfl ?_
  refine R_p d171_195 rfl rfl ?_
  refine R_p d171_196 rfl rfl ?_
  refine R_p d171_197 rfl rfl ?_
  refine R_ic (v := 1) d171_199 (by decide) ?_
  refine R_p d171_200 rfl rfl ?_
  refine R_nv (v := _) (v' := 1) (by decide) ?_
  refine R_sldk (n := 1) (x := (f 1)) d171_201 (vp_ok (by decide)) (by decide) rfl ?_
  refine R_p d171_202 rfl rfl ?_
  refine R_p d171_203 rfl rfl ?_
  refine R_ic (v := 2) d171_205 (by decide) ?_
  refine R_p d171_206 rfl rfl ?_
  refine R_nv (v := _) (v' := 2) (by decide) ?_
  refine R_sldk (n := 2) (x := (f 2)) d171_207 (vp_ok (by decide)) (by decide) rfl ?_
  refine R_cm [.int (f 1), .int (f 2)] d171_208 (List.mem_of_getElem? (i := 167) rfl) rfl ⟨by decide, by decide, Nat.le_of_ble_eq_true rfl, rfl, mcd120⟩ rfl rfl (Nat.le_of_ble_eq_true rfl) rfl rfl (w71 (f := f) h0) ?_
  refine R_p (ls' := [(0, .ref 0), (1, .ref 16), (2, .ref 42), (3, .ref 53), (4, .int 0), (5, .int 1), (6, .int 0)]) d171_211 rfl rfl ?_
  refine R_p d171_213 rfl rfl ?_
  refine R_cm [] d171_214 (List.mem_of_getElem? (i := 160) rfl) rfl ⟨by decide, by decide, Nat.le_of_ble_eq_true rfl, rfl, mcd113⟩ rfl rfl (Nat.le_of_ble_eq_true rfl) rfl rfl (w8 (f := f)) ?_
  refine R_p d171_217 rfl rfl ?_
  refine R_br 224 d171_219 (mb_t (b := ((1 : Int32) = (1 : Int32))) (by decide)) rfl ?_
  refine R_p d171_224 rfl rfl ?_
  refine R_br 248 d171_226 (mb_t (b := (¬ (1 : Int32) = (0 : Int32))) (by decide)) rfl ?_
  refine R_br 950 d171_248 rfl rfl ?_
  refine R_p (ls' := [(0, .ref 0), (1, .ref 16), (2, .ref 42), (3, .ref 53), (4, .int 5), (5, .int 1), (6, .int 0)]) d171_950 rfl rfl ?_
  refine R_br 23 d171_953 rfl rfl ?_
  refine R_p d171_23 rfl rfl ?_
  refine R_p d171_25 rfl rfl ?_
  refine R_sln d171_26 ?_
  refine R_nv (v := _) (v' := 5) (show Int32.ofNat 5 = 5 from by decide) ?_
  refine R_ic (v := 5) d171_27 (by decide) ?_
  refine R_p d171_28 rfl rfl ?_
  refine R_nv (v := _) (v' := 0) (by decide) ?_
  refine R_br 956 d171_29 (mb_t (b := ((0 : Int32) < (5 : Int32))) (by decide)) rfl ?_
  refine R_ic (v := 1) d171_956 (by decide) ?_
  exact R_iret d171_957 rfl rfl rfl
set_option maxRecDepth 4000 in
theorem w73 {f : Nat → Int32} (h0 : ((f 1) < 0)) : Run (5, f) 103 (0, [(0, .ref 16), (1, .int (f 1)), (2, .int (f 2))], [], HL0) (.inr 54, HJ1) := by
  refine R_p d103_0 rfl rfl ?_
  refine R_p d103_1 rfl rfl ?_
  refine R_p d103_2 rfl rfl ?_
  exact R_tv [.int (f 1), .int (f 2)] d103_3 (List.mem_of_getElem? (i := 85) rfl) ⟨by decide, by decide, Nat.le_of_ble_eq_true rfl, mcd101⟩ rfl rfl (Nat.le_of_ble_eq_true rfl) rfl rfl rfl (Or.inl (w55 (f := f) h0))
set_option maxRecDepth 4000 in
theorem w74 {f : Nat → Int32} (h0 : ((f 1) < 0)) : Run (5, f) 159 (0, [(0, .ref 16), (1, .int (f 1)), (2, .int (f 2)), (3, .ref 53)], [], HL0) (.inl (some (.int 1)), HJ1) := by
  refine R_p d159_0 rfl rfl ?_
  refine R_ic (v := 0) d159_1 (by decide) ?_
  refine R_p d159_2 rfl rfl ?_
  refine R_p d159_3 rfl rfl ?_
  refine R_p d159_4 rfl rfl ?_
  refine R_tc [.int (f 1), .int (f 2)] d159_5 (List.mem_of_getElem? (i := 105) rfl) ⟨by decide, by decide, Nat.le_of_ble_eq_true rfl, mcd103⟩ rfl rfl (Nat.le_of_ble_eq_true rfl) rfl rfl rfl (cx := 10) (hp := 20) rfl (by decide) (by decide) (by decide) (Or.inl (w73 (f := f) h0)) ?_
  refine R_p (ls' := [(0, .ref 16), (1, .int (f 1)), (2, .int (f 2)), (3, .ref 53), (4, .ref 54)]) d159_20 rfl rfl ?_
  refine R_ic (v := 1) d159_22 (by decide) ?_
  exact R_iret d159_23 rfl rfl rfl
set_option maxRecDepth 4000 in
theorem w75 {f : Nat → Int32} (h0 : ((f 1) < 0)) : Run (5, f) 125 (0, [(0, .ref 42), (1, .int (f 1)), (2, .int (f 2))], [], HJ1) (.inl (some (.int 0)), HJ2) := by
  refine R_p d125_0 rfl rfl ?_
  refine R_p d125_1 rfl rfl ?_
  refine R_p d125_2 rfl rfl ?_
  refine R_p d125_3 rfl rfl ?_
  refine R_cm [.int (f 1), .int (f 2)] d125_4 (List.mem_of_getElem? (i := 168) rfl) rfl ⟨by decide, by decide, Nat.le_of_ble_eq_true rfl, rfl, mcd121⟩ rfl rfl (Nat.le_of_ble_eq_true rfl) rfl rfl (w60 (f := f) h0) ?_
  refine R_br 14 d125_7 (mb_t (b := ((0 : Int32) = (0 : Int32))) (by decide)) rfl ?_
  refine R_ic (v := 1) d125_14 (by decide) ?_
  refine R_cm [.int 1] d125_15 (List.mem_of_getElem? (i := 164) rfl) rfl ⟨by decide, by decide, Nat.le_of_ble_eq_true rfl, rfl, mcd117⟩ rfl rfl (Nat.le_of_ble_eq_true rfl) rfl rfl (w6 (f := f)) ?_
  refine R_nb d125_18 rfl (mb_f (b := ((1 : Int32) = (0 : Int32))) (by decide)) ?_
  refine R_ic (v := 0) d125_21 (by decide) ?_
  exact R_iret d125_22 rfl rfl rfl
set_option maxRecDepth 4000 in
theorem law251_76 {f : Nat → Int32} (h0 : ((f 1) < 0)) : Run (5, f) 171 (251, [(0, .ref 0), (1, .ref 16), (2, .ref 42), (3, .ref 53), (4, .int 0)], [], HL0) (.inl (some (.int 1)), HJ2) := by
  refine R_p d171_251 rfl rfl ?_
  refine R_p d171_252 rfl rfl ?_
  refine R_p d171_253 rfl rfl ?_
  refine R_ic (v := 1) d171_255 (by decide) ?_
  refine R_p d171_256 rfl rfl ?_
  refine R_nv (v := _) (v' := 1) (by decide) ?_
  refine R_sldk (n := 1) (x := (f 1)) d171_257 (vp_ok (by decide)) (by decide) rfl ?_
  refine R_p d171_258 rfl rfl ?_
  refine R_p d171_259 rfl rfl ?_
  refine R_ic (v := 2) d171_261 (by decide) ?_
  refine R_p d171_262 rfl rfl ?_
  refine R_nv (v := _) (v' := 2) (by decide) ?_
  refine R_sldk (n := 2) (x := (f 2)) d171_263 (vp_ok (by decide)) (by decide) rfl ?_
  refine R_p d171_264 rfl rfl ?_
  refine R_hs [.ref 16, .int (f 1), .int (f 2), .ref 53] d171_265 (List.mem_of_getElem? (i := 104) rfl) ⟨by decide, by decide, Nat.le_of_ble_eq_true rfl, mcd159⟩ rfl rfl (Nat.le_of_ble_eq_true rfl) (w74 (f := f) h0) ?_
  refine R_p (ls' := [(0, .ref 0), (1, .ref 16), (2, .ref 42), (3, .ref 53), (4, .int 0), (5, .int 1)]) d171_268 rfl rfl ?_
  refine R_p d171_270 rfl rfl ?_
  refine R_p d171_271 rfl rfl ?_
  refine R_p d171_272 rfl rfl ?_
  refine R_ic (v := 1) d171_274 (by decide) ?_
  refine R_p d171_275 rfl rfl ?_
  refine R_nv (v := _) (v' := 1) (by decide) ?_
  refine R_sldk (n := 1) (x := (f 1)) d171_276 (vp_ok (by decide)) (by decide) rfl ?_
  refine R_p d171_277 rfl rfl ?_
  refine R_p d171_278 rfl rfl ?_
  refine R_ic (v := 2) d171_280 (by decide) ?_
  refine R_p d171_281 rfl rfl ?_
  refine R_nv (v := _) (v' := 2) (by decide) ?_
  refine R_sldk (n := 2) (x := (f 2)) d171_282 (vp_ok (by decide)) (by decide) rfl ?_
  refine R_cm [.int (f 1), .int (f 2)] d171_283 (List.mem_of_getElem? (i := 172) rfl) rfl ⟨by decide, by decide, Nat.le_of_ble_eq_true rfl, rfl, mcd125⟩ rfl rfl (Nat.le_of_ble_eq_true rfl) rfl rfl (w75 (f := f) h0) ?_
  refine R_p (ls' := [(0, .ref 0), (1, .ref 16), (2, .ref 42), (3, .ref 53), (4, .int 0), (5, .int 1), (6, .int 0)]) d171_286 rfl rfl ?_
  refine R_p d171_288 rfl rfl ?_
  refine R_cm [] d171_289 (List.mem_of_getElem? (i := 160) rfl) rfl ⟨by decide, by decide, Nat.le_of_ble_eq_true rfl, rfl, mcd113⟩ rfl rfl (Nat.le_of_ble_eq_true rfl) rfl rfl (w8 (f := f)) ?_
  refine R_p d171_292 rfl rfl ?_
  refine R_br 299 d171_294 (mb_t (b := ((1 : Int32) = (1 : Int32))) (by decide)) rfl ?_
  refine R_p d171_299 rfl rfl ?_
  refine R_br 323 d171_301 (mb_t (b := (¬ (1 : Int32) = (0 : Int32))) (by decide)) rfl ?_
  refine R_br 950 d171_323 rfl rfl ?_
  refine R_p (ls' := [(0, .ref 0), (1, .ref 16), (2, .ref 42), (3, .ref 53), (4, .int 5), (5, .int 1), (6, .int 0)]) d171_950 rfl rfl ?_
  refine R_br 23 d171_953 rfl rfl ?_
  refine R_p d171_23 rfl rfl ?_
  refine R_p d171_25 rfl rfl ?_
  refine R_sln d171_26 ?_
  refine R_nv (v := _) (v' := 5) (show Int32.ofNat 5 = 5 from by decide) ?_
  refine R_ic (v := 5) d171_27 (by decide) ?_
  refine R_p d171_28 rfl rfl ?_
  refine R_nv (v := _) (v' := 0) (by decide) ?_
  refine R_br 956 d171_29 (mb_t (b := ((0 : Int32) < (5 : Int32))) (by decide)) rfl ?_
  refine R_ic (v := 1) d171_956 (by decide) ?_
  exact R_iret d171_957 rfl rfl rfl
set_option maxRecDepth 4000 in
theorem w77 {f : Nat → Int32} (h0 : ¬ ((f 1) < 0)) : Run (5, f) 103 (0, [(0, .ref 16), (1, .int (f 1)), (2, .int (f 2))], [], HL0) (.inr 54, HJ1) := by
  refine R_p d103_0 rfl rfl ?_
  refine R_p d103_1 rfl rfl ?_
  refine R_p d103_2 rfl rfl ?_
  exact R_tv [.int (f 1), .int (f 2)] d103_3 (List.mem_of_getElem? (i := 85) rfl) ⟨by decide, by decide, Nat.le_of_ble_eq_true rfl, mcd101⟩ rfl rfl (Nat.le_of_ble_eq_true rfl) rfl rfl rfl (Or.inl (w65 (f := f) h0))
set_option maxRecDepth 4000 in
theorem w78 {f : Nat → Int32} (h0 : ¬ ((f 1) < 0)) : Run (5, f) 159 (0, [(0, .ref 16), (1, .int (f 1)), (2, .int (f 2)), (3, .ref 53)], [], HL0) (.inl (some (.int 1)), HJ1) := by
  refine R_p d159_0 rfl rfl ?_
  refine R_ic (v := 0) d159_1 (by decide) ?_
  refine R_p d159_2 rfl rfl ?_
  refine R_p d159_3 rfl rfl ?_
  refine R_p d159_4 rfl rfl ?_
  refine R_tc [.int (f 1), .int (f 2)] d159_5 (List.mem_of_getElem? (i := 105) rfl) ⟨by decide, by decide, Nat.le_of_ble_eq_true rfl, mcd103⟩ rfl rfl (Nat.le_of_ble_eq_true rfl) rfl rfl rfl (cx := 10) (hp := 20) rfl (by decide) (by decide) (by decide) (Or.inl (w77 (f := f) h0)) ?_
  refine R_p (ls' := [(0, .ref 16), (1, .int (f 1)), (2, .int (f 2)), (3, .ref 53), (4, .ref 54)]) d159_20 rfl rfl ?_
  refine R_ic (v := 1) d159_22 (by decide) ?_
  exact R_iret d159_23 rfl rfl rfl
set_option maxRecDepth 4000 in
theorem w79 {f : Nat → Int32} (h0 : ¬ ((f 1) < 0)) : Run (5, f) 125 (0, [(0, .ref 42), (1, .int (f 1)), (2, .int (f 2))], [], HJ1) (.inl (some (.int 0)), HJ2) := by
  refine R_p d125_0 rfl rfl ?_
  refine R_p d125_1 rfl rfl ?_
  refine R_p d125_2 rfl rfl ?_
  refine R_p d125_3 rfl rfl ?_
  refine R_cm [.int (f 1), .int (f 2)] d125_4 (List.mem_of_getElem? (i := 168) rfl) rfl ⟨by decide, by decide, Nat.le_of_ble_eq_true rfl, rfl, mcd121⟩ rfl rfl (Nat.le_of_ble_eq_true rfl) rfl rfl (w70 (f := f) h0) ?_
  refine R_br 14 d125_7 (mb_t (b := ((0 : Int32) = (0 : Int32))) (by decide)) rfl ?_
  refine R_ic (v := 1) d125_14 (by decide) ?_
  refine R_cm [.int 1] d125_15 (List.mem_of_getElem? (i := 164) rfl) rfl ⟨by decide, by decide, Nat.le_of_ble_eq_true rfl, rfl, mcd117⟩ rfl rfl (Nat.le_of_ble_eq_true rfl) rfl rfl (w6 (f := f)) ?_
  refine R_nb d125_18 rfl (mb_f (b := ((1 : Int32) = (0 : Int32))) (by decide)) ?_
  refine R_ic (v := 0) d125_21 (by decide) ?_
  exact R_iret d125_22 rfl rfl rfl
set_option maxRecDepth 4000 in
theorem law251_80 {f : Nat → Int32} (h0 : ¬ ((f 1) < 0)) : Run (5, f) 171 (251, [(0, .ref 0), (1, .ref 16), (2, .ref 42), (3, .ref 53), (4, .int 0)], [], HL0) (.inl (some (.int 1)), HJ2) := by
  refine R_p d171_251 rfl rfl ?_
  refine R_p d171_252 rfl rfl ?_
  refine R_p d171_253 rfl rfl ?_
  refine R_ic (v := 1) d171_255 (by decide) ?_
  refine R_p d171_256 rfl rfl ?_
  refine R_nv (v := _) (v' := 1) (by decide) ?_
  refine R_sldk (n := 1) (x := (f 1)) d171_257 (vp_ok (by decide)) (by decide) rfl ?_
  refine R_p d171_258 rfl rfl ?_
  refine R_p d171_259 rfl rfl ?_
  refine R_ic (v := 2) d171_261 (by decide) ?_
  refine R_p d171_262 rfl rfl ?_
  refine R_nv (v := _) (v' := 2) (by decide) ?_
  refine R_sldk (n := 2) (x := (f 2)) d171_263 (vp_ok (by decide)) (by decide) rfl ?_
  refine R_p d171_264 rfl rfl ?_
  refine R_hs [.ref 16, .int (f 1), .int (f 2), .ref 53] d171_265 (List.mem_of_getElem? (i := 104) rfl) ⟨by decide, by decide, Nat.le_of_ble_eq_true rfl, mcd159⟩ rfl rfl (Nat.le_of_ble_eq_true rfl) (w78 (f := f) h0) ?_
  refine R_p (ls' := [(0, .ref 0), (1, .ref 16), (2, .ref 42), (3, .ref 53), (4, .int 0), (5, .int 1)]) d171_268 rfl rfl ?_
  refine R_p d171_270 rfl rfl ?_
  refine R_p d171_271 rfl rfl ?_
  refine R_p d171_272 rfl rfl ?_
  refine R_ic (v := 1) d171_274 (by decide) ?_
  refine R_p d171_275 rfl rfl ?_
  refine R_nv (v := _) (v' := 1) (by decide) ?_
  refine R_sldk (n := 1) (x := (f 1)) d171_276 (vp_ok (by decide)) (by decide) rfl ?_
  refine R_p d171_277 rfl rfl ?_
  refine R_p d171_278 rfl rfl ?_
  refine R_ic (v := 2) d171_280 (by decide) ?_
  refine R_p d171_281 rfl rfl ?_
  refine R_nv (v := _) (v' := 2) (by decide) ?_
  refine R_sldk (n := 2) (x := (f 2)) d171_282 (vp_ok (by decide)) (by decide) rfl ?_
  refine R_cm [.int (f 1), .int (f 2)] d171_283 (List.mem_of_getElem? (i := 172) rfl) rfl ⟨by decide, by decide, Nat.le_of_ble_eq_true rfl, rfl, mcd125⟩ rfl rfl (Nat.le_of_ble_eq_true rfl) rfl rfl (w79 (f := f) h0) ?_
  refine R_p (ls' := [(0, .ref 0), (1, .ref 16), (2, .ref 42), (3, .ref 53), (4, .int 0), (5, .int 1), (6, .int 0)]) d171_286 rfl rfl ?_
  refine R_p d171_288 rfl rfl ?_
  refine R_cm [] d171_289 (List.mem_of_getElem? (i := 160) rfl) rfl ⟨by decide, by decide, Nat.le_of_ble_eq_true rfl, rfl, mcd113⟩ rfl rfl (Nat.le_of_ble_eq_true rfl) rfl rfl (w8 (f := f)) ?_
  refine R_p d171_292 rfl rfl ?_
  refine R_br 299 d171_294 (mb_t (b := ((1 : Int32) = (1 : Int32))) (by decide)) rfl ?_
  refine R_p d171_299 rfl rfl ?_
  refine R_br 323 d171_301 (mb_t (b := (¬ (1 : Int32) = (0 : Int32))) (by decide)) rfl ?_
  refine R_br 950 d171_323 rfl rfl ?_
  refine R_p (ls' := [(0, .ref 0), (1, .ref 16), (2, .ref 42), (3, .ref 53), (4, .int 5), (5, .int 1), (6, .int 0)]) d171_950 rfl rfl ?_
  refine R_br 23 d171_953 rfl rfl ?_
  refine R_p d171_23 rfl rfl ?_
  refine R_p d171_25 rfl rfl ?_
  refine R_sln d171_26 ?_
  refine R_nv (v := _) (v' := 5) (show Int32.ofNat 5 = 5 from by decide) ?_
  refine R_ic (v := 5) d171_27 (by decide) ?_
  refine R_p d171_28 rfl rfl ?_
  refine R_nv (v := _) (v' := 0) (by decide) ?_
  refine R_br 956 d171_29 (mb_t (b := ((0 : Int32) < (5 : Int32))) (by decide)) rfl ?_
  refine R_ic (v := 1) d171_956 (by decide) ?_
  exact R_iret d171_957 rfl rfl rfl
set_option maxRecDepth 4000 in
theorem w81 {f : Nat → Int32} : Run (5, f) 67 (0, [(0, .ref 17)], [], HL0) (.inl none, HL0) := by
  refine R_p d67_0 rfl rfl ?_
  refine R_ic (v := 0) d67_1 (by decide) ?_
  refine R_put d67_2 (List.mem_of_getElem? (i := 6) rfl) rfl (by decide) rfl rfl (Or.inl rfl) ?_
  exact R_vret d67_5 rfl rfl
set_option maxRecDepth 4000 in
theorem w82 {f : Nat → Int32} : Run (5, f) 36 (0, [(0, .ref 21)], [], HL0) (.inl none, HJ8) := by
  refine R_p d36_0 rfl rfl ?_
  refine R_get d36_1 (Or.inl (List.mem_of_getElem? (i := 8) rfl)) rfl rfl ?_
  refine R_lc (v := 0) d36_4 (by decide) ?_
  refine R_cs [.ref 22, .long 0] d36_5 (List.mem_of_getElem? (i := 14) rfl) rfl ⟨by decide, by decide, Nat.le_of_ble_eq_true rfl, rfl, mcd168⟩ rfl rfl (Nat.le_of_ble_eq_true rfl) (t_fillL (by decide) rfl) ?_
  refine R_p d36_8 rfl rfl ?_
  refine R_ic (v := 0) d36_9 (by decide) ?_
  refine R_put d36_10 (List.mem_of_getElem? (i := 9) rfl) rfl (by decide) rfl rfl (Or.inl rfl) ?_
  exact R_vret d36_13 rfl rfl
set_option maxRecDepth 4000 in
theorem w83 {f : Nat → Int32} : Run (5, f) 45 (0, [(0, .ref 23)], [], HJ8) (.inl none, HJ9) := by
  refine R_p d45_0 rfl rfl ?_
  refine R_get d45_1 (Or.inl (List.mem_of_getElem? (i := 12) rfl)) rfl rfl ?_
  refine R_ic (v := (-1)) d45_4 (by decide) ?_
  refine R_cs [.ref 24, .int (-1)] d45_5 (List.mem_of_getElem? (i := 5) rfl) rfl ⟨by decide, by decide, Nat.le_of_ble_eq_true rfl, rfl, mcd167⟩ rfl rfl (Nat.le_of_ble_eq_true rfl) (t_fillI (by decide) rfl) ?_
  refine R_p d45_8 rfl rfl ?_
  refine R_ic (v := 0) d45_9 (by decide) ?_
  refine R_put d45_10 (List.mem_of_getElem? (i := 15) rfl) rfl (by decide) rfl rfl (Or.inl rfl) ?_
  exact R_vret d45_13 rfl rfl
set_option maxRecDepth 4000 in
theorem w84 {f : Nat → Int32} : Run (5, f) 92 (0, [(0, .ref 16)], [], HL0) (.inl (some (.int 0)), HJ9) := by
  refine R_p d92_0 rfl rfl ?_
  refine R_get d92_1 (Or.inl (List.mem_of_getElem? (i := 43) rfl)) rfl rfl ?_
  refine R_cm [] d92_4 (List.mem_of_getElem? (i := 11) rfl) rfl ⟨by decide, by decide, Nat.le_of_ble_eq_true rfl, rfl, mcd66⟩ rfl rfl (Nat.le_of_ble_eq_true rfl) rfl rfl (w33 (f := f)) ?_
  refine R_p (ls' := [(0, .ref 16), (1, .int 0)]) d92_7 rfl rfl ?_
  refine R_p d92_8 rfl rfl ?_
  refine R_get d92_9 (Or.inl (List.mem_of_getElem? (i := 43) rfl)) rfl rfl ?_
  refine R_cm [] d92_12 (List.mem_of_getElem? (i := 12) rfl) rfl ⟨by decide, by decide, Nat.le_of_ble_eq_true rfl, rfl, mcd67⟩ rfl rfl (Nat.le_of_ble_eq_true rfl) rfl rfl (w81 (f := f)) ?_
  refine R_p d92_15 rfl rfl ?_
  refine R_get d92_16 (Or.inl (List.mem_of_getElem? (i := 44) rfl)) rfl rfl ?_
  refine R_cm [] d92_19 (List.mem_of_getElem? (i := 13) rfl) rfl ⟨by decide, by decide, Nat.le_of_ble_eq_true rfl, rfl, mcd36⟩ rfl rfl (Nat.le_of_ble_eq_true rfl) rfl rfl (w82 (f := f)) ?_
  refine R_p d92_22 rfl rfl ?_
  refine R_get d92_23 (Or.inl (List.mem_of_getElem? (i := 45) rfl)) rfl rfl ?_
  refine R_cm [] d92_26 (List.mem_of_getElem? (i := 15) rfl) rfl ⟨by decide, by decide, Nat.le_of_ble_eq_true rfl, rfl, mcd45⟩ rfl rfl (Nat.le_of_ble_eq_true rfl) rfl rfl (w83 (f := f)) ?_
  refine R_p d92_29 rfl rfl ?_
  exact R_iret d92_30 rfl rfl rfl
set_option maxRecDepth 4000 in
theorem w85 {f : Nat → Int32} : Run (5, f) 126 (0, [(0, .ref 42)], [], HJ9) (.inl (some (.int 0)), HJ10) := by
  refine R_p d126_0 rfl rfl ?_
  refine R_ic (v := 0) d126_1 (by decide) ?_
  refine R_put d126_2 (List.mem_of_getElem? (i := 48) rfl) rfl (by decide) rfl rfl (Or.inl rfl) ?_
  refine R_p d126_5 rfl rfl ?_
  refine R_get d126_6 (Or.inl (List.mem_of_getElem? (i := 49) rfl)) rfl rfl ?_
  refine R_p (ls' := [(0, .ref 42), (1, .int 0)]) d126_9 rfl rfl ?_
  refine R_p d126_10 rfl rfl ?_
  refine R_ic (v := 0) d126_11 (by decide) ?_
  refine R_put d126_12 (List.mem_of_getElem? (i := 49) rfl) rfl (by decide) rfl rfl (Or.inl rfl) ?_
  refine R_ic (v := 0) d126_15 (by decide) ?_
  refine R_p (ls' := [(0, .ref 42), (1, .int 0), (2, .int 0)]) d126_16 rfl rfl ?_
  refine R_h HJ9 rfl ?_
  refine R_clearLoop rfl rfl rfl ?_
  refine R_p d126_37 rfl rfl ?_
  refine R_ic (v := 0) d126_38 (by decide) ?_
  refine R_put d126_39 (List.mem_of_getElem? (i := 54) rfl) rfl (by decide) (by decide) (by decide) (Or.inl rfl) ?_
  refine R_p d126_42 rfl rfl ?_
  exact R_iret d126_43 rfl rfl rfl
set_option maxRecDepth 4000 in
theorem law326_86 {f : Nat → Int32} : Run (5, f) 171 (326, [(0, .ref 0), (1, .ref 16), (2, .ref 42), (3, .ref 53), (4, .int 0)], [], HL0) (.inl (some (.int 1)), HJ10) := by
  refine R_p d171_326 rfl rfl ?_
  refine R_cm [] d171_327 (List.mem_of_getElem? (i := 10) rfl) rfl ⟨by decide, by decide, Nat.le_of_ble_eq_true rfl, rfl, mcd92⟩ rfl rfl (Nat.le_of_ble_eq_true rfl) rfl rfl (w84 (f := f)) ?_
  refine R_p d171_330 rfl rfl ?_
  refine R_cm [] d171_331 (List.mem_of_getElem? (i := 173) rfl) rfl ⟨by decide, by decide, Nat.le_of_ble_eq_true rfl, rfl, mcd126⟩ rfl rfl (Nat.le_of_ble_eq_true rfl) rfl rfl (w85 (f := f)) ?_
  refine R_br 950 d171_334 (mb_t (b := ((0 : Int32) = (0 : Int32))) (by decide)) rfl ?_
  refine R_p (ls' := [(0, .ref 0), (1, .ref 16), (2, .ref 42), (3, .ref 53), (4, .int 5)]) d171_950 rfl rfl ?_
  refine R_br 23 d171_953 rfl rfl ?_
  refine R_p d171_23 rfl rfl ?_
  refine R_p d171_25 rfl rfl ?_
  refine R_sln d171_26 ?_
  refine R_nv (v := _) (v' := 5) (show Int32.ofNat 5 = 5 from by decide) ?_
  refine R_ic (v := 5) d171_27 (by decide) ?_
  refine R_p d171_28 rfl rfl ?_
  refine R_nv (v := _) (v' := 0) (by decide) ?_
  refine R_br 956 d171_29 (mb_t (b := ((0 : Int32) < (5 : Int32))) (by decide)) rfl ?_
  refine R_ic (v := 1) d171_956 (by decide) ?_
  exact R_iret d171_957 rfl rfl rfl
set_option maxRecDepth 4000 in
theorem w87 {f : Nat → Int32} : Run (5, f) 93 (0, [(0, .ref 16), (1, .int 0)], [], HL0) (.inl (some (.int 0)), HL0) := by
  refine R_p d93_0 rfl rfl ?_
  refine R_swi 36 d93_1 (by decide) (by decide) rfl rfl ?_
  refine R_p d93_36 rfl rfl ?_
  refine R_get d93_37 (Or.inl (List.mem_of_getElem? (i := 43) rfl)) rfl rfl ?_
  refine R_cm [] d93_40 (List.mem_of_getElem? (i := 11) rfl) rfl ⟨by decide, by decide, Nat.le_of_ble_eq_true rfl, rfl, mcd66⟩ rfl rfl (Nat.le_of_ble_eq_true rfl) rfl rfl (w33 (f := f)) ?_
  exact R_iret d93_43 rfl rfl rfl
set_option maxRecDepth 4000 in
theorem w88 {f : Nat → Int32} : Run (5, f) 129 (0, [(0, .ref 42)], [], HJ12) (.inl (some (.int 1)), HJ12) := by
  refine R_ic (v := 1) d129_0 (by decide) ?_
  refine R_p (ls' := [(0, .ref 42), (1, .int 1)]) d129_1 rfl rfl ?_
  refine R_ic (v := 2) d129_2 (by decide) ?_
  refine R_p (ls' := [(0, .ref 42), (1, .int 1), (2, .int 2)]) d129_3 rfl rfl ?_
  refine R_p d129_4 rfl rfl ?_
  refine R_p d129_5 rfl rfl ?_
  refine R_get d129_6 (Or.inl (List.mem_of_getElem? (i := 49) rfl)) rfl rfl ?_
  refine R_br 38 d129_9 (mb_t (b := ((0 : Int32) ≤ (2 : Int32))) (by decide)) rfl ?_
  refine R_p d129_38 rfl rfl ?_
  exact R_iret d129_39 rfl rfl rfl
set_option maxRecDepth 4000 in
theorem w89 {f : Nat → Int32} : Run (5, f) 128 (0, [(0, .ref 42)], [], HL0) (.inl none, HJ12) := by
  refine R_p d128_0 rfl rfl ?_
  refine R_get d128_1 (Or.inl (List.mem_of_getElem? (i := 54) rfl)) rfl rfl ?_
  refine R_br 8 d128_4 (mb_t (b := ((0 : Int32) = (0 : Int32))) (by decide)) rfl ?_
  refine R_p d128_8 rfl rfl ?_
  refine R_ic (v := 1) d128_9 (by decide) ?_
  refine R_put d128_10 (List.mem_of_getElem? (i := 54) rfl) rfl (by decide) (by decide) (by decide) (Or.inl rfl) ?_
  refine R_p d128_13 rfl rfl ?_
  refine R_ic (v := 0) d128_14 (by decide) ?_
  refine R_put d128_15 (List.mem_of_getElem? (i := 55) rfl) rfl (by decide) rfl rfl (Or.inl rfl) ?_
  refine R_ic (v := 0) d128_18 (by decide) ?_
  refine R_p (ls' := [(0, .ref 42), (1, .int 0)]) d128_19 rfl rfl ?_
  refine R_h HJ11 rfl ?_
  refine R_meshCopy rfl rfl rfl rfl rfl ?_
  refine R_p d128_45 rfl rfl ?_
  refine R_cm [] d128_46 (List.mem_of_getElem? (i := 176) rfl) rfl ⟨by decide, by decide, Nat.le_of_ble_eq_true rfl, rfl, mcd129⟩ rfl rfl (Nat.le_of_ble_eq_true rfl) rfl rfl (w88 (f := f)) ?_
  refine R_nb d128_49 rfl (mb_f (b := ((1 : Int32) = (0 : Int32))) (by decide)) ?_
  exact R_vret d128_52 rfl rfl
set_option maxRecDepth 4000 in
theorem w90 {f : Nat → Int32} : Run (5, f) 127 (0, [(0, .ref 42), (1, .int 0)], [], HL0) (.inl (some (.int 0)), HJ12) := by
  refine R_p d127_0 rfl rfl ?_
  refine R_ic (v := 0) d127_1 (by decide) ?_
  refine R_put d127_2 (List.mem_of_getElem? (i := 48) rfl) rfl (by decide) rfl rfl (Or.inl rfl) ?_
  refine R_p d127_5 rfl rfl ?_
  refine R_cm [] d127_6 (List.mem_of_getElem? (i := 175) rfl) rfl ⟨by decide, by decide, Nat.le_of_ble_eq_true rfl, rfl, mcd128⟩ rfl rfl (Nat.le_of_ble_eq_true rfl) rfl rfl (w89 (f := f)) ?_
  refine R_p d127_9 rfl rfl ?_
  refine R_br 18 d127_10 (mb_t (b := ((0 : Int32) = (0 : Int32))) (by decide)) rfl ?_
  refine R_p d127_18 rfl rfl ?_
  refine R_nb d127_19 rfl (mb_f (b := (¬ (0 : Int32) = (0 : Int32))) (fun q => q (by decide))) ?_
  refine R_p d127_22 rfl rfl ?_
  refine R_get d127_23 (Or.inl (List.mem_of_getElem? (i := 49) rfl)) rfl rfl ?_
  refine R_br 33 d127_26 rfl rfl ?_
  exact R_iret d127_33 rfl rfl rfl
set_option maxRecDepth 4000 in
theorem law339_91 {f : Nat → Int32} (h0 : ((f 1) = 0)) : Run (5, f) 171 (339, [(0, .ref 0), (1, .ref 16), (2, .ref 42), (3, .ref 53), (4, .int 0)], [], HL0) (.inl (some (.int 1)), HJ12) := by
  refine R_p d171_339 rfl rfl ?_
  refine R_p d171_340 rfl rfl ?_
  refine R_p d171_341 rfl rfl ?_
  refine R_ic (v := 1) d171_343 (by decide) ?_
  refine R_p d171_344 rfl rfl ?_
  refine R_nv (v := _) (v' := 1) (by decide) ?_
  refine R_sldk (n := 1) (x := 0) d171_345 (vp_ok (by decide)) (by decide) h0 ?_
  refine R_cm [.int 0] d171_346 (List.mem_of_getElem? (i := 16) rfl) rfl ⟨by decide, by decide, Nat.le_of_ble_eq_true rfl, rfl, mcd93⟩ rfl rfl (Nat.le_of_ble_eq_true rfl) rfl rfl (w87 (f := f)) ?_
  refine R_p d171_349 rfl rfl ?_
  refine R_p d171_350 rfl rfl ?_
  refine R_p d171_351 rfl rfl ?_
  refine R_ic (v := 1) d171_353 (by decide) ?_
  refine R_p d171_354 rfl rfl ?_
  refine R_nv (v := _) (v' := 1) (by decide) ?_
  refine R_sldk (n := 1) (x := 0) d171_355 (vp_ok (by decide)) (by decide) h0 ?_
  refine R_cm [.int 0] d171_356 (List.mem_of_getElem? (i := 174) rfl) rfl ⟨by decide, by decide, Nat.le_of_ble_eq_true rfl, rfl, mcd127⟩ rfl rfl (Nat.le_of_ble_eq_true rfl) rfl rfl (w90 (f := f)) ?_
  refine R_br 950 d171_359 (mb_t (b := ((0 : Int32) = (0 : Int32))) (by decide)) rfl ?_
  refine R_p (ls' := [(0, .ref 0), (1, .ref 16), (2, .ref 42), (3, .ref 53), (4, .int 5)]) d171_950 rfl rfl ?_
  refine R_br 23 d171_953 rfl rfl ?_
  refine R_p d171_23 rfl rfl ?_
  refine R_p d171_25 rfl rfl ?_
  refine R_sln d171_26 ?_
  refine R_nv (v := _) (v' := 5) (show Int32.ofNat 5 = 5 from by decide) ?_
  refine R_ic (v := 5) d171_27 (by decide) ?_
  refine R_p d171_28 rfl rfl ?_
  refine R_nv (v := _) (v' := 0) (by decide) ?_
  refine R_br 956 d171_29 (mb_t (b := ((0 : Int32) < (5 : Int32))) (by decide)) rfl ?_
  refine R_ic (v := 1) d171_956 (by decide) ?_
  exact R_iret d171_957 rfl rfl rfl
set_option maxRecDepth 4000 in
theorem w92 {f : Nat → Int32} : Run (5, f) 37 (0, [(0, .ref 21)], [], HL0) (.inl (some (.int 0)), HL0) := by
  refine R_p d37_0 rfl rfl ?_
  refine R_get d37_1 (Or.inl (List.mem_of_getElem? (i := 9) rfl)) rfl rfl ?_
  exact R_iret d37_4 rfl rfl rfl
set_option maxRecDepth 4000 in
theorem w93 {f : Nat → Int32} : Run (5, f) 93 (0, [(0, .ref 16), (1, .int 1)], [], HL0) (.inl (some (.int 0)), HL0) := by
  refine R_p d93_0 rfl rfl ?_
  refine R_swi 44 d93_1 (by decide) (by decide) rfl rfl ?_
  refine R_p d93_44 rfl rfl ?_
  refine R_get d93_45 (Or.inl (List.mem_of_getElem? (i := 44) rfl)) rfl rfl ?_
  refine R_cm [] d93_48 (List.mem_of_getElem? (i := 17) rfl) rfl ⟨by decide, by decide, Nat.le_of_ble_eq_true rfl, rfl, mcd37⟩ rfl rfl (Nat.le_of_ble_eq_true rfl) rfl rfl (w92 (f := f)) ?_
  exact R_iret d93_51 rfl rfl rfl
set_option maxRecDepth 4000 in
theorem w94 {f : Nat → Int32} : Run (5, f) 127 (0, [(0, .ref 42), (1, .int 1)], [], HL0) (.inl (some (.int 0)), HJ12) := by
  refine R_p d127_0 rfl rfl ?_
  refine R_ic (v := 0) d127_1 (by decide) ?_
  refine R_put d127_2 (List.mem_of_getElem? (i := 48) rfl) rfl (by decide) rfl rfl (Or.inl rfl) ?_
  refine R_p d127_5 rfl rfl ?_
  refine R_cm [] d127_6 (List.mem_of_getElem? (i := 175) rfl) rfl ⟨by decide, by decide, Nat.le_of_ble_eq_true rfl, rfl, mcd128⟩ rfl rfl (Nat.le_of_ble_eq_true rfl) rfl rfl (w89 (f := f)) ?_
  refine R_p d127_9 rfl rfl ?_
  refine R_nb d127_10 rfl (mb_f (b := ((1 : Int32) = (0 : Int32))) (by decide)) ?_
  refine R_p d127_13 rfl rfl ?_
  refine R_ic (v := 2) d127_14 (by decide) ?_
  refine R_br 34 d127_15 (mb_t (b := (¬ (1 : Int32) = (2 : Int32))) (by decide)) rfl ?_
  refine R_ic (v := 0) d127_34 (by decide) ?_
  refine R_p (ls' := [(0, .ref 42), (1, .int 1), (2, .int 0)]) d127_35 rfl rfl ?_
  refine R_ic (v := 0) d127_36 (by decide) ?_
  refine R_p (ls' := [(0, .ref 42), (1, .int 1), (2, .int 0), (3, .int 0)]) d127_37 rfl rfl ?_
  refine R_p d127_38 rfl rfl ?_
  refine R_p d127_39 rfl rfl ?_
  refine R_get d127_40 (Or.inl (List.mem_of_getElem? (i := 49) rfl)) rfl rfl ?_
  refine R_br 171 d127_43 (mb_t (b := ((0 : Int32) ≤ (0 : Int32))) (by decide)) rfl ?_
  refine R_p d127_171 rfl rfl ?_
  refine R_ic (v := 1) d127_172 (by decide) ?_
  refine R_br 186 d127_173 (mb_t (b := ((1 : Int32) = (1 : Int32))) (by decide)) rfl ?_
  refine R_p d127_186 rfl rfl ?_
  refine R_br 191 d127_187 rfl rfl ?_
  exact R_iret d127_191 rfl rfl rfl
set_option maxRecDepth 4000 in
theorem law339_95 {f : Nat → Int32} (h0 : ¬ ((f 1) = 0)) (h1 : ((f 1) = 1)) : Run (5, f) 171 (339, [(0, .ref 0), (1, .ref 16), (2, .ref 42), (3, .ref 53), (4, .int 0)], [], HL0) (.inl (some (.int 1)), HJ12) := by
  refine R_p d171_339 rfl rfl ?_
  refine R_p d171_340 rfl rfl ?_
  refine R_p d171_341 rfl rfl ?_
  refine R_ic (v := 1) d171_343 (by decide) ?_
  refine R_p d171_344 rfl rfl ?_
  refine R_nv (v := _) (v' := 1) (by decide) ?_
  refine R_sldk (n := 1) (x := 1) d171_345 (vp_ok (by decide)) (by decide) h1 ?_
  refine R_cm [.int 1] d171_346 (List.mem_of_getElem? (i := 16) rfl) rfl ⟨by decide, by decide, Nat.le_of_ble_eq_true rfl, rfl, mcd93⟩ rfl rfl (Nat.le_of_ble_eq_true rfl) rfl rfl (w93 (f := f)) ?_
  refine R_p d171_349 rfl rfl ?_
  refine R_p d171_350 rfl rfl ?_
  refine R_p d171_351 rfl rfl ?_
  refine R_ic (v := 1) d171_353 (by decide) ?_
  refine R_p d171_354 rfl rfl ?_
  refine R_nv (v := _) (v' := 1) (by decide) ?_
  refine R_sldk (n := 1) (x := 1) d171_355 (vp_ok (by decide)) (by decide) h1 ?_
  refine R_cm [.int 1] d171_356 (List.mem_of_getElem? (i := 174) rfl) rfl ⟨by decide, by decide, Nat.le_of_ble_eq_true rfl, rfl, mcd127⟩ rfl rfl (Nat.le_of_ble_eq_true rfl) rfl rfl (w94 (f := f)) ?_
  refine R_br 950 d171_359 (mb_t (b := ((0 : Int32) = (0 : Int32))) (by decide)) rfl ?_
  refine R_p (ls' := [(0, .ref 0), (1, .ref 16), (2, .ref 42), (3, .ref 53), (4, .int 5)]) d171_950 rfl rfl ?_
  refine R_br 23 d171_953 rfl rfl ?_
  refine R_p d171_23 rfl rfl ?_
  refine R_p d171_25 rfl rfl ?_
  refine R_sln d171_26 ?_
  refine R_nv (v := _) (v' := 5) (show Int32.ofNat 5 = 5 from by decide) ?_
  refine R_ic (v := 5) d171_27 (by decide) ?_
  refine R_p d171_28 rfl rfl ?_
  refine R_nv (v := _) (v' := 0) (by decide) ?_
  refine R_br 956 d171_29 (mb_t (b := ((0 : Int32) < (5 : Int32))) (by decide)) rfl ?_
  refine R_ic (v := 1) d171_956 (by decide) ?_
  exact R_iret d171_957 rfl rfl rfl
set_option maxRecDepth 4000 in
theorem w96 {f : Nat → Int32} : Run (5, f) 46 (0, [(0, .ref 23)], [], HL0) (.inl (some (.int 0)), HL0) := by
  refine R_p d46_0 rfl rfl ?_
  refine R_get d46_1 (Or.inl (List.mem_of_getElem? (i := 15) rfl)) rfl rfl ?_
  exact R_iret d46_4 rfl rfl rfl
set_option maxRecDepth 4000 in
theorem w97 {f : Nat → Int32} : Run (5, f) 93 (0, [(0, .ref 16), (1, .int 2)], [], HL0) (.inl (some (.int 0)), HL0) := by
  refine R_p d93_0 rfl rfl ?_
  refine R_swi 52 d93_1 (by decide) (by decide) rfl rfl ?_
  refine R_p d93_52 rfl rfl ?_
  refine R_get d93_53 (Or.inl (List.mem_of_getElem? (i := 45) rfl)) rfl rfl ?_
  refine R_cm [] d93_56 (List.mem_of_getElem? (i := 18) rfl) rfl ⟨by decide, by decide, Nat.le_of_ble_eq_true rfl, rfl, mcd46⟩ rfl rfl (Nat.le_of_ble_eq_true rfl) rfl rfl (w96 (f := f)) ?_
  exact R_iret d93_59 rfl rfl rfl
set_option maxRecDepth 4000 in
theorem w98 {f : Nat → Int32} : Run (5, f) 127 (0, [(0, .ref 42), (1, .int 2)], [], HL0) (.inl (some (.int 0)), HJ12) := by
  refine R_p d127_0 rfl rfl ?_
  refine R_ic (v := 0) d127_1 (by decide) ?_
  refine R_put d127_2 (List.mem_of_getElem? (i := 48) rfl) rfl (by decide) rfl rfl (Or.inl rfl) ?_
  refine R_p d127_5 rfl rfl ?_
  refine R_cm [] d127_6 (List.mem_of_getElem? (i := 175) rfl) rfl ⟨by decide, by decide, Nat.le_of_ble_eq_true rfl, rfl, mcd128⟩ rfl rfl (Nat.le_of_ble_eq_true rfl) rfl rfl (w89 (f := f)) ?_
  refine R_p d127_9 rfl rfl ?_
  refine R_nb d127_10 rfl (mb_f (b := ((2 : Int32) = (0 : Int32))) (by decide)) ?_
  refine R_p d127_13 rfl rfl ?_
  refine R_ic (v := 2) d127_14 (by decide) ?_
  refine R_nb d127_15 rfl (mb_f (b := (¬ (2 : Int32) = (2 : Int32))) (fun q => q (by decide))) ?_
  refine R_p d127_18 rfl rfl ?_
  refine R_br 29 d127_19 (mb_t (b := (¬ (2 : Int32) = (0 : Int32))) (by decide)) rfl ?_
  refine R_p d127_29 rfl rfl ?_
  refine R_get d127_30 (Or.inl (List.mem_of_getElem? (i := 55) rfl)) rfl rfl ?_
  exact R_iret d127_33 rfl rfl rfl
set_option maxRecDepth 4000 in
theorem law339_99 {f : Nat → Int32} (h0 : ¬ ((f 1) = 0)) (h1 : ¬ ((f 1) = 1)) (h2 : ((f 1) = 2)) : Run (5, f) 171 (339, [(0, .ref 0), (1, .ref 16), (2, .ref 42), (3, .ref 53), (4, .int 0)], [], HL0) (.inl (some (.int 1)), HJ12) := by
  refine R_p d171_339 rfl rfl ?_
  refine R_p d171_340 rfl rfl ?_
  refine R_p d171_341 rfl rfl ?_
  refine R_ic (v := 1) d171_343 (by decide) ?_
  refine R_p d171_344 rfl rfl ?_
  refine R_nv (v := _) (v' := 1) (by decide) ?_
  refine R_sldk (n := 1) (x := 2) d171_345 (vp_ok (by decide)) (by decide) h2 ?_
  refine R_cm [.int 2] d171_346 (List.mem_of_getElem? (i := 16) rfl) rfl ⟨by decide, by decide, Nat.le_of_ble_eq_true rfl, rfl, mcd93⟩ rfl rfl (Nat.le_of_ble_eq_true rfl) rfl rfl (w97 (f := f)) ?_
  refine R_p d171_349 rfl rfl ?_
  refine R_p d171_350 rfl rfl ?_
  refine R_p d171_351 rfl rfl ?_
  refine R_ic (v := 1) d171_353 (by decide) ?_
  refine R_p d171_354 rfl rfl ?_
  refine R_nv (v := _) (v' := 1) (by decide) ?_
  refine R_sldk (n := 1) (x := 2) d171_355 (vp_ok (by decide)) (by decide) h2 ?_
  refine R_cm [.int 2] d171_356 (List.mem_of_getElem? (i := 174) rfl) rfl ⟨by decide, by decide, Nat.le_of_ble_eq_true rfl, rfl, mcd127⟩ rfl rfl (Nat.le_of_ble_eq_true rfl) rfl rfl (w98 (f := f)) ?_
  refine R_br 950 d171_359 (mb_t (b := ((0 : Int32) = (0 : Int32))) (by decide)) rfl ?_
  refine R_p (ls' := [(0, .ref 0), (1, .ref 16), (2, .ref 42), (3, .ref 53), (4, .int 5)]) d171_950 rfl rfl ?_
  refine R_br 23 d171_953 rfl rfl ?_
  refine R_p d171_23 rfl rfl ?_
  refine R_p d171_25 rfl rfl ?_
  refine R_sln d171_26 ?_
  refine R_nv (v := _) (v' := 5) (show Int32.ofNat 5 = 5 from by decide) ?_
  refine R_ic (v := 5) d171_27 (by decide) ?_
  refine R_p d171_28 rfl rfl ?_
  refine R_nv (v := _) (v' := 0) (by decide) ?_
  refine R_br 956 d171_29 (mb_t (b := ((0 : Int32) < (5 : Int32))) (by decide)) rfl ?_
  refine R_ic (v := 1) d171_956 (by decide) ?_
  exact R_iret d171_957 rfl rfl rfl
set_option maxRecDepth 4000 in
theorem w100 {f : Nat → Int32} : Run (5, f) 47 (0, [(0, .ref 23)], [], HL0) (.inl (some (.int 0)), HL0) := by
  refine R_p d47_0 rfl rfl ?_
  refine R_get d47_1 (Or.inl (List.mem_of_getElem? (i := 15) rfl)) rfl rfl ?_
  refine R_nb d47_4 rfl (mb_f (b := (¬ (0 : Int32) = (0 : Int32))) (fun q => q (by decide))) ?_
  refine R_ic (v := 0) d47_7 (by decide) ?_
  refine R_br 25 d47_8 rfl rfl ?_
  exact R_iret d47_25 rfl rfl rfl
set_option maxRecDepth 4000 in
theorem w101 {f : Nat → Int32} : Run (5, f) 93 (0, [(0, .ref 16), (1, .int 3)], [], HL0) (.inl (some (.int 0)), HL0) := by
  refine R_p d93_0 rfl rfl ?_
  refine R_swi 60 d93_1 (by decide) (by decide) rfl rfl ?_
  refine R_p d93_60 rfl rfl ?_
  refine R_get d93_61 (Or.inl (List.mem_of_getElem? (i := 45) rfl)) rfl rfl ?_
  refine R_cm [] d93_64 (List.mem_of_getElem? (i := 19) rfl) rfl ⟨by decide, by decide, Nat.le_of_ble_eq_true rfl, rfl, mcd47⟩ rfl rfl (Nat.le_of_ble_eq_true rfl) rfl rfl (w100 (f := f)) ?_
  exact R_iret d93_67 rfl rfl rfl
set_option maxRecDepth 4000 in
theorem w102 {f : Nat → Int32} : Run (5, f) 127 (0, [(0, .ref 42), (1, .int 3)], [], HL0) (.inl (some (.int 0)), HJ12) := by
  refine R_p d127_0 rfl rfl ?_
  refine R_ic (v := 0) d127_1 (by decide) ?_
  refine R_put d127_2 (List.mem_of_getElem? (i := 48) rfl) rfl (by decide) rfl rfl (Or.inl rfl) ?_
  refine R_p d127_5 rfl rfl ?_
  refine R_cm [] d127_6 (List.mem_of_getElem? (i := 175) rfl) rfl ⟨by decide, by decide, Nat.le_of_ble_eq_true rfl, rfl, mcd128⟩ rfl rfl (Nat.le_of_ble_eq_true rfl) rfl rfl (w89 (f := f)) ?_
  refine R_p d127_9 rfl rfl ?_
  refine R_nb d127_10 rfl (mb_f (b := ((3 : Int32) = (0 : Int32))) (by decide)) ?_
  refine R_p d127_13 rfl rfl ?_
  refine R_ic (v := 2) d127_14 (by decide) ?_
  refine R_br 34 d127_15 (mb_t (b := (¬ (3 : Int32) = (2 : Int32))) (by decide)) rfl ?_
  refine R_ic (v := 0) d127_34 (by decide) ?_
  refine R_p (ls' := [(0, .ref 42), (1, .int 3), (2, .int 0)]) d127_35 rfl rfl ?_
  refine R_ic (v := 0) d127_36 (by decide) ?_
  refine R_p (ls' := [(0, .ref 42), (1, .int 3), (2, .int 0), (3, .int 0)]) d127_37 rfl rfl ?_
  refine R_p d127_38 rfl rfl ?_
  refine R_p d127_39 rfl rfl ?_
  refine R_get d127_40 (Or.inl (List.mem_of_getElem? (i := 49) rfl)) rfl rfl ?_
  refine R_br 171 d127_43 (mb_t (b := ((0 : Int32) ≤ (0 : Int32))) (by decide)) rfl ?_
  refine R_p d127_171 rfl rfl ?_
  refine R_ic (v := 1) d127_172 (by decide) ?_
  refine R_nb d127_173 rfl (mb_f (b := ((3 : Int32) = (1 : Int32))) (by decide)) ?_
  refine R_p d127_176 rfl rfl ?_
  refine R_ic (v := 3) d127_177 (by decide) ?_
  refine R_br 186 d127_178 (mb_t (b := ((3 : Int32) = (3 : Int32))) (by decide)) rfl ?_
  refine R_p d127_186 rfl rfl ?_
  refine R_br 191 d127_187 rfl rfl ?_
  exact R_iret d127_191 rfl rfl rfl
set_option maxRecDepth 4000 in
theorem law339_103 {f : Nat → Int32} (h0 : ¬ ((f 1) = 0)) (h1 : ¬ ((f 1) = 1)) (h2 : ¬ ((f 1) = 2)) (h3 : ((f 1) = 3)) : Run (5, f) 171 (339, [(0, .ref 0), (1, .ref 16), (2, .ref 42), (3, .ref 53), (4, .int 0)], [], HL0) (.inl (some (.int 1)), HJ12) := by
  refine R_p d171_339 rfl rfl ?_
  refine R_p d171_340 rfl rfl ?_
  refine R_p d171_341 rfl rfl ?_
  refine R_ic (v := 1) d171_343 (by decide) ?_
  refine R_p d171_344 rfl rfl ?_
  refine R_nv (v := _) (v' := 1) (by decide) ?_
  refine R_sldk (n := 1) (x := 3) d171_345 (vp_ok (by decide)) (by decide) h3 ?_
  refine R_cm [.int 3] d171_346 (List.mem_of_getElem? (i := 16) rfl) rfl ⟨by decide, by decide, Nat.le_of_ble_eq_true rfl, rfl, mcd93⟩ rfl rfl (Nat.le_of_ble_eq_true rfl) rfl rfl (w101 (f := f)) ?_
  refine R_p d171_349 rfl rfl ?_
  refine R_p d171_350 rfl rfl ?_
  refine R_p d171_351 rfl rfl ?_
  refine R_ic (v := 1) d171_353 (by decide) ?_
  refine R_p d171_354 rfl rfl ?_
  refine R_nv (v := _) (v' := 1) (by decide) ?_
  refine R_sldk (n := 1) (x := 3) d171_355 (vp_ok (by decide)) (by decide) h3 ?_
  refine R_cm [.int 3] d171_356 (List.mem_of_getElem? (i := 174) rfl) rfl ⟨by decide, by decide, Nat.le_of_ble_eq_true rfl, rfl, mcd127⟩ rfl rfl (Nat.le_of_ble_eq_true rfl) rfl rfl (w102 (f := f)) ?_
  refine R_br 950 d171_359 (mb_t (b := ((0 : Int32) = (0 : Int32))) (by decide)) rfl ?_
  refine R_p (ls' := [(0, .ref 0), (1, .ref 16), (2, .ref 42), (3, .ref 53), (4, .int 5)]) d171_950 rfl rfl ?_
  refine R_br 23 d171_953 rfl rfl ?_
  refine R_p d171_23 rfl rfl ?_
  refine R_p d171_25 rfl rfl ?_
  refine R_sln d171_26 ?_
  refine R_nv (v := _) (v' := 5) (show Int32.ofNat 5 = 5 from by decide) ?_
  refine R_ic (v := 5) d171_27 (by decide) ?_
  refine R_p d171_28 rfl rfl ?_
  refine R_nv (v := _) (v' := 0) (by decide) ?_
  refine R_br 956 d171_29 (mb_t (b := ((0 : Int32) < (5 : Int32))) (by decide)) rfl ?_
  refine R_ic (v := 1) d171_956 (by decide) ?_
  exact R_iret d171_957 rfl rfl rfl
set_option maxRecDepth 4000 in
theorem w104 {f : Nat → Int32} : Run (5, f) 48 (0, [(0, .ref 23)], [], HL0) (.inl (some (.int 0)), HL0) := by
  refine R_ic (v := 2) d48_0 (by decide) ?_
  refine R_p d48_1 rfl rfl ?_
  refine R_cm [] d48_2 (List.mem_of_getElem? (i := 22) rfl) rfl ⟨by decide, by decide, Nat.le_of_ble_eq_true rfl, rfl, mcd47⟩ rfl rfl (Nat.le_of_ble_eq_true rfl) rfl rfl (w100 (f := f)) ?_
  refine R_p d48_5 rfl rfl ?_
  refine R_nv (v := _) (v' := 0) (by decide) ?_
  refine R_ic (v := 3) d48_6 (by decide) ?_
  refine R_p d48_7 rfl rfl ?_
  refine R_get d48_8 (Or.inl (List.mem_of_getElem? (i := 15) rfl)) rfl rfl ?_
  refine R_p d48_11 rfl rfl ?_
  refine R_nv (v := _) (v' := 0) (by decide) ?_
  refine R_p d48_12 rfl rfl ?_
  refine R_nv (v := _) (v' := 0) (by decide) ?_
  exact R_iret d48_13 rfl rfl rfl
set_option maxRecDepth 4000 in
theorem w105 {f : Nat → Int32} : Run (5, f) 93 (0, [(0, .ref 16), (1, .int 4)], [], HL0) (.inl (some (.int 0)), HL0) := by
  refine R_p d93_0 rfl rfl ?_
  refine R_swi 68 d93_1 (by decide) (by decide) rfl rfl ?_
  refine R_p d93_68 rfl rfl ?_
  refine R_get d93_69 (Or.inl (List.mem_of_getElem? (i := 45) rfl)) rfl rfl ?_
  refine R_cm [] d93_72 (List.mem_of_getElem? (i := 21) rfl) rfl ⟨by decide, by decide, Nat.le_of_ble_eq_true rfl, rfl, mcd48⟩ rfl rfl (Nat.le_of_ble_eq_true rfl) rfl rfl (w104 (f := f)) ?_
  exact R_iret d93_75 rfl rfl rfl
set_option maxRecDepth 4000 in
theorem w106 {f : Nat → Int32} : Run (5, f) 127 (0, [(0, .ref 42), (1, .int 4)], [], HL0) (.inl (some (.int 0)), HJ12) := by
  refine R_p d127_0 rfl rfl ?_
  refine R_ic (v := 0) d127_1 (by decide) ?_
  refine R_put d127_2 (List.mem_of_getElem? (i := 48) rfl) rfl (by decide) rfl rfl (Or.inl rfl) ?_
  refine R_p d127_5 rfl rfl ?_
  refine R_cm [] d127_6 (List.mem_of_getElem? (i := 175) rfl) rfl ⟨by decide, by decide, Nat.le_of_ble_eq_true rfl, rfl, mcd128⟩ rfl rfl (Nat.le_of_ble_eq_true rfl) rfl rfl (w89 (f := f)) ?_
  refine R_p d127_9 rfl rfl ?_
  refine R_nb d127_10 rfl (mb_f (b := ((4 : Int32) = (0 : Int32))) (by decide)) ?_
  refine R_p d127_13 rfl rfl ?_
  refine R_ic (v := 2) d127_14 (by decide) ?_
  refine R_br 34 d127_15 (mb_t (b := (¬ (4 : Int32) = (2 : Int32))) (by decide)) rfl ?_
  refine R_ic (v := 0) d127_34 (by decide) ?_
  refine R_p (ls' := [(0, .ref 42), (1, .int 4), (2, .int 0)]) d127_35 rfl rfl ?_
  refine R_ic (v := 0) d127_36 (by decide) ?_
  refine R_p (ls' := [(0, .ref 42), (1, .int 4), (2, .int 0), (3, .int 0)]) d127_37 rfl rfl ?_
  refine R_p d127_38 rfl rfl ?_
  refine R_p d127_39 rfl rfl ?_
  refine R_get d127_40 (Or.inl (List.mem_of_getElem? (i := 49) rfl)) rfl rfl ?_
  refine R_br 171 d127_43 (mb_t (b := ((0 : Int32) ≤ (0 : Int32))) (by decide)) rfl ?_
  refine R_p d127_171 rfl rfl ?_
  refine R_ic (v := 1) d127_172 (by decide) ?_
  refine R_nb d127_173 rfl (mb_f (b := ((4 : Int32) = (1 : Int32))) (by decide)) ?_
  refine R_p d127_176 rfl rfl ?_
  refine R_ic (v := 3) d127_177 (by decide) ?_
  refine R_nb d127_178 rfl (mb_f (b := ((4 : Int32) = (3 : Int32))) (by decide)) ?_
  refine R_p d127_181 rfl rfl ?_
  refine R_ic (v := 4) d127_182 (by decide) ?_
  refine R_nb d127_183 rfl (mb_f (b := (¬ (4 : Int32) = (4 : Int32))) (fun q => q (by decide))) ?_
  refine R_p d127_186 rfl rfl ?_
  refine R_br 191 d127_187 rfl rfl ?_
  exact R_iret d127_191 rfl rfl rfl
set_option maxRecDepth 4000 in
theorem law339_107 {f : Nat → Int32} (h0 : ¬ ((f 1) = 0)) (h1 : ¬ ((f 1) = 1)) (h2 : ¬ ((f 1) = 2)) (h3 : ¬ ((f 1) = 3)) (h4 : ((f 1) = 4)) : Run (5, f) 171 (339, [(0, .ref 0), (1, .ref 16), (2, .ref 42), (3, .ref 53), (4, .int 0)], [], HL0) (.inl (some (.int 1)), HJ12) := by
  refine R_p d171_339 rfl rfl ?_
  refine R_p d171_340 rfl rfl ?_
  refine R_p d171_341 rfl rfl ?_
  refine R_ic (v := 1) d171_343 (by decide) ?_
  refine R_p d171_344 rfl rfl ?_
  refine R_nv (v := _) (v' := 1) (by decide) ?_
  refine R_sldk (n := 1) (x := 4) d171_345 (vp_ok (by decide)) (by decide) h4 ?_
  refine R_cm [.int 4] d171_346 (List.mem_of_getElem? (i := 16) rfl) rfl ⟨by decide, by decide, Nat.le_of_ble_eq_true rfl, rfl, mcd93⟩ rfl rfl (Nat.le_of_ble_eq_true rfl) rfl rfl (w105 (f := f)) ?_
  refine R_p d171_349 rfl rfl ?_
  refine R_p d171_350 rfl rfl ?_
  refine R_p d171_351 rfl rfl ?_
  refine R_ic (v := 1) d171_353 (by decide) ?_
  refine R_p d171_354 rfl rfl ?_
  refine R_nv (v := _) (v' := 1) (by decide) ?_
  refine R_sldk (n := 1) (x := 4) d171_355 (vp_ok (by decide)) (by decide) h4 ?_
  refine R_cm [.int 4] d171_356 (List.mem_of_getElem? (i := 174) rfl) rfl ⟨by decide, by decide, Nat.le_of_ble_eq_true rfl, rfl, mcd127⟩ rfl rfl (Nat.le_of_ble_eq_true rfl) rfl rfl (w106 (f := f)) ?_
  refine R_br 950 d171_359 (mb_t (b := ((0 : Int32) = (0 : Int32))) (by decide)) rfl ?_
  refine R_p (ls' := [(0, .ref 0), (1, .ref 16), (2, .ref 42), (3, .ref 53), (4, .int 5)]) d171_950 rfl rfl ?_
  refine R_br 23 d171_953 rfl rfl ?_
  refine R_p d171_23 rfl rfl ?_
  refine R_p d171_25 rfl rfl ?_
  refine R_sln d171_26 ?_
  refine R_nv (v := _) (v' := 5) (show Int32.ofNat 5 = 5 from by decide) ?_
  refine R_ic (v := 5) d171_27 (by decide) ?_
  refine R_p d171_28 rfl rfl ?_
  refine R_nv (v := _) (v' := 0) (by decide) ?_
  refine R_br 956 d171_29 (mb_t (b := ((0 : Int32) < (5 : Int32))) (by decide)) rfl ?_
  refine R_ic (v := 1) d171_956 (by decide) ?_
  exact R_iret d171_957 rfl rfl rfl
set_option maxRecDepth 4000 in
theorem w108 {f : Nat → Int32} (h0 : ¬ ((f 1) = 0)) (h1 : ¬ ((f 1) = 1)) (h2 : ¬ ((f 1) = 2)) (h3 : ¬ ((f 1) = 3)) (h4 : ¬ ((f 1) = 4)) : Run (5, f) 93 (0, [(0, .ref 16), (1, .int (f 1))], [], HL0) (.inl (some (.int (-1))), HL0) := by
  refine R_p d93_0 rfl rfl ?_
  refine R_swo 76 d93_1 (sw_out5 h0 h1 h2 h3 h4) rfl ?_
  refine R_ic (v := (-1)) d93_76 (by decide) ?_
  exact R_iret d93_77 rfl rfl rfl
set_option maxRecDepth 4000 in
theorem w109 {f : Nat → Int32} (h0 : ¬ ((f 1) = 0)) (h1 : ¬ ((f 1) = 1)) (h2 : ¬ ((f 1) = 2)) (h3 : ¬ ((f 1) = 3)) (h4 : ¬ ((f 1) = 4)) : Run (5, f) 127 (0, [(0, .ref 42), (1, .int (f 1))], [], HL0) (.inl (some (.int (-1))), HJ12) := by
  refine R_p d127_0 rfl rfl ?_
  refine R_ic (v := 0) d127_1 (by decide) ?_
  refine R_put d127_2 (List.mem_of_getElem? (i := 48) rfl) rfl (by decide) rfl rfl (Or.inl rfl) ?_
  refine R_p d127_5 rfl rfl ?_
  refine R_cm [] d127_6 (List.mem_of_getElem? (i := 175) rfl) rfl ⟨by decide, by decide, Nat.le_of_ble_eq_true rfl, rfl, mcd128⟩ rfl rfl (Nat.le_of_ble_eq_true rfl) rfl rfl (w89 (f := f)) ?_
  refine R_p d127_9 rfl rfl ?_
  refine R_nb d127_10 rfl (mb_f (b := ((f 1) = 0)) h0) ?_
  refine R_p d127_13 rfl rfl ?_
  refine R_ic (v := 2) d127_14 (by decide) ?_
  refine R_br 34 d127_15 (mb_t (b := (¬ (f 1) = 2)) h2) rfl ?_
  refine R_ic (v := 0) d127_34 (by decide) ?_
  refine R_p (ls' := [(0, .ref 42), (1, .int (f 1)), (2, .int 0)]) d127_35 rfl rfl ?_
  refine R_ic (v := 0) d127_36 (by decide) ?_
  refine R_p (ls' := [(0, .ref 42), (1, .int (f 1)), (2, .int 0), (3, .int 0)]) d127_37 rfl rfl ?_
  refine R_p d127_38 rfl rfl ?_
  refine R_p d127_39 rfl rfl ?_
  refine R_get d127_40 (Or.inl (List.mem_of_getElem? (i := 49) rfl)) rfl rfl ?_
  refine R_br 171 d127_43 (mb_t (b := ((0 : Int32) ≤ (0 : Int32))) (by decide)) rfl ?_
  refine R_p d127_171 rfl rfl ?_
  refine R_ic (v := 1) d127_172 (by decide) ?_
  refine R_nb d127_173 rfl (mb_f (b := ((f 1) = 1)) h1) ?_
  refine R_p d127_176 rfl rfl ?_
  refine R_ic (v := 3) d127_177 (by decide) ?_
  refine R_nb d127_178 rfl (mb_f (b := ((f 1) = 3)) h3) ?_
  refine R_p d127_181 rfl rfl ?_
  refine R_ic (v := 4) d127_182 (by decide) ?_
  refine R_br 190 d127_183 (mb_t (b := (¬ (f 1) = 4)) h4) rfl ?_
  refine R_ic (v := (-1)) d127_190 (by decide) ?_
  exact R_iret d127_191 rfl rfl rfl
set_option maxRecDepth 4000 in
theorem law339_110 {f : Nat → Int32} (h0 : ¬ ((f 1) = 0)) (h1 : ¬ ((f 1) = 1)) (h2 : ¬ ((f 1) = 2)) (h3 : ¬ ((f 1) = 3)) (h4 : ¬ ((f 1) = 4)) : Run (5, f) 171 (339, [(0, .ref 0), (1, .ref 16), (2, .ref 42), (3, .ref 53), (4, .int 0)], [], HL0) (.inl (some (.int 1)), HJ12) := by
  refine R_p d171_339 rfl rfl ?_
  refine R_p d171_340 rfl rfl ?_
  refine R_p d171_341 rfl rfl ?_
  refine R_ic (v := 1) d171_343 (by decide) ?_
  refine R_p d171_344 rfl rfl ?_
  refine R_nv (v := _) (v' := 1) (by decide) ?_
  refine R_sldk (n := 1) (x := (f 1)) d171_345 (vp_ok (by decide)) (by decide) rfl ?_
  refine R_cm [.int (f 1)] d171_346 (List.mem_of_getElem? (i := 16) rfl) rfl ⟨by decide, by decide, Nat.le_of_ble_eq_true rfl, rfl, mcd93⟩ rfl rfl (Nat.le_of_ble_eq_true rfl) rfl rfl (w108 (f := f) h0 h1 h2 h3 h4) ?_
  refine R_p d171_349 rfl rfl ?_
  refine R_p d171_350 rfl rfl ?_
  refine R_p d171_351 rfl rfl ?_
  refine R_ic (v := 1) d171_353 (by decide) ?_
  refine R_p d171_354 rfl rfl ?_
  refine R_nv (v := _) (v' := 1) (by decide) ?_
  refine R_sldk (n := 1) (x := (f 1)) d171_355 (vp_ok (by decide)) (by decide) rfl ?_
  refine R_cm [.int (f 1)] d171_356 (List.mem_of_getElem? (i := 174) rfl) rfl ⟨by decide, by decide, Nat.le_of_ble_eq_true rfl, rfl, mcd127⟩ rfl rfl (Nat.le_of_ble_eq_true rfl) rfl rfl (w109 (f := f) h0 h1 h2 h3 h4) ?_
  refine R_br 950 d171_359 (mb_t (b := (((-1) : Int32) = ((-1) : Int32))) (by decide)) rfl ?_
  refine R_p (ls' := [(0, .ref 0), (1, .ref 16), (2, .ref 42), (3, .ref 53), (4, .int 5)]) d171_950 rfl rfl ?_
  refine R_br 23 d171_953 rfl rfl ?_
  refine R_p d171_23 rfl rfl ?_
  refine R_p d171_25 rfl rfl ?_
  refine R_sln d171_26 ?_
  refine R_nv (v := _) (v' := 5) (show Int32.ofNat 5 = 5 from by decide) ?_
  refine R_ic (v := 5) d171_27 (by decide) ?_
  refine R_p d171_28 rfl rfl ?_
  refine R_nv (v := _) (v' := 0) (by decide) ?_
  refine R_br 956 d171_29 (mb_t (b := ((0 : Int32) < (5 : Int32))) (by decide)) rfl ?_
  refine R_ic (v := 1) d171_956 (by decide) ?_
  exact R_iret d171_957 rfl rfl rfl
set_option maxRecDepth 4000 in
theorem w111 {f : Nat → Int32} (h0 : ((f 1) < 0)) : RunsP 105 (0, [(0, .ref 16), (1, .int (f 1)), (2, .int (f 2))], [], HL0) (.inr 54, HJ13) := by
  refine Q_p d105_0 rfl rfl ?_
  refine Q_br 24 d105_1 (mb_t (b := ((f 1) < 0)) h0) rfl ?_
  exact Q_thr 5 d105_24 d105_27 d105_28 d105_30 d105_33 rfl (List.mem_of_getElem? (i := 5) rfl) rfl (by decide) (by decide)
set_option maxRecDepth 4000 in
theorem w112 {f : Nat → Int32} (h0 : ((f 1) < 0)) : Run (5, f) 104 (0, [(0, .ref 16), (1, .int (f 1)), (2, .int (f 2))], [], HL0) (.inr 54, HJ13) := by
  refine R_p d104_0 rfl rfl ?_
  refine R_p d104_1 rfl rfl ?_
  refine R_p d104_2 rfl rfl ?_
  exact R_tv [.int (f 1), .int (f 2)] d104_3 (List.mem_of_getElem? (i := 110) rfl) ⟨by decide, by decide, Nat.le_of_ble_eq_true rfl, mcd105⟩ rfl rfl (Nat.le_of_ble_eq_true rfl) rfl rfl rfl (Or.inr (w111 (f := f) h0))
set_option maxRecDepth 4000 in
theorem w113 {f : Nat → Int32} (h0 : ((f 1) < 0)) : Run (5, f) 160 (0, [(0, .ref 16), (1, .int (f 1)), (2, .int (f 2)), (3, .ref 53)], [], HL0) (.inl (some (.int 1)), HJ13) := by
  refine R_p d160_0 rfl rfl ?_
  refine R_ic (v := 0) d160_1 (by decide) ?_
  refine R_p d160_2 rfl rfl ?_
  refine R_p d160_3 rfl rfl ?_
  refine R_p d160_4 rfl rfl ?_
  refine R_tc [.int (f 1), .int (f 2)] d160_5 (List.mem_of_getElem? (i := 109) rfl) ⟨by decide, by decide, Nat.le_of_ble_eq_true rfl, mcd104⟩ rfl rfl (Nat.le_of_ble_eq_true rfl) rfl rfl rfl (cx := 12) (hp := 13) rfl (by decide) (by decide) (by decide) (Or.inl (w112 (f := f) h0)) ?_
  refine R_p (ls' := [(0, .ref 16), (1, .int (f 1)), (2, .int (f 2)), (3, .ref 53), (4, .ref 54)]) d160_13 rfl rfl ?_
  refine R_ic (v := 1) d160_15 (by decide) ?_
  exact R_iret d160_16 rfl rfl rfl
set_option maxRecDepth 4000 in
theorem w114 {f : Nat → Int32} : Run (5, f) 129 (0, [(0, .ref 42)], [], HJ15) (.inl (some (.int 1)), HJ15) := by
  refine R_ic (v := 1) d129_0 (by decide) ?_
  refine R_p (ls' := [(0, .ref 42), (1, .int 1)]) d129_1 rfl rfl ?_
  refine R_ic (v := 2) d129_2 (by decide) ?_
  refine R_p (ls' := [(0, .ref 42), (1, .int 1), (2, .int 2)]) d129_3 rfl rfl ?_
  refine R_p d129_4 rfl rfl ?_
  refine R_p d129_5 rfl rfl ?_
  refine R_get d129_6 (Or.inl (List.mem_of_getElem? (i := 49) rfl)) rfl rfl ?_
  refine R_br 38 d129_9 (mb_t (b := ((0 : Int32) ≤ (2 : Int32))) (by decide)) rfl ?_
  refine R_p d129_38 rfl rfl ?_
  exact R_iret d129_39 rfl rfl rfl
set_option maxRecDepth 4000 in
theorem w115 {f : Nat → Int32} : Run (5, f) 128 (0, [(0, .ref 42)], [], HJ13) (.inl none, HJ15) := by
  refine R_p d128_0 rfl rfl ?_
  refine R_get d128_1 (Or.inl (List.mem_of_getElem? (i := 54) rfl)) rfl rfl ?_
  refine R_br 8 d128_4 (mb_t (b := ((0 : Int32) = (0 : Int32))) (by decide)) rfl ?_
  refine R_p d128_8 rfl rfl ?_
  refine R_ic (v := 1) d128_9 (by decide) ?_
  refine R_put d128_10 (List.mem_of_getElem? (i := 54) rfl) rfl (by decide) (by decide) (by decide) (Or.inl rfl) ?_
  refine R_p d128_13 rfl rfl ?_
  refine R_ic (v := 0) d128_14 (by decide) ?_
  refine R_put d128_15 (List.mem_of_getElem? (i := 55) rfl) rfl (by decide) rfl rfl (Or.inl rfl) ?_
  refine R_ic (v := 0) d128_18 (by decide) ?_
  refine R_p (ls' := [(0, .ref 42), (1, .int 0)]) d128_19 rfl rfl ?_
  refine R_h HJ14 rfl ?_
  refine R_meshCopy rfl rfl rfl rfl rfl ?_
  refine R_p d128_45 rfl rfl ?_
  refine R_cm [] d128_46 (List.mem_of_getElem? (i := 176) rfl) rfl ⟨by decide, by decide, Nat.le_of_ble_eq_true rfl, rfl, mcd129⟩ rfl rfl (Nat.le_of_ble_eq_true rfl) rfl rfl (w114 (f := f)) ?_
  refine R_nb d128_49 rfl (mb_f (b := ((1 : Int32) = (0 : Int32))) (by decide)) ?_
  exact R_vret d128_52 rfl rfl
set_option maxRecDepth 4000 in
theorem w116 {f : Nat → Int32} (h0 : ((f 1) < 0)) : Run (5, f) 116 (0, [(0, .int (f 1)), (1, .int 0), (2, .int (-1))], [], HJ15) (.inl (some (.int 0)), HJ15) := by
  refine R_p d116_0 rfl rfl ?_
  refine R_p d116_1 rfl rfl ?_
  refine R_br 14 d116_2 (mb_t (b := ((f 1) < 0)) h0) rfl ?_
  refine R_ic (v := 0) d116_14 (by decide) ?_
  exact R_iret d116_15 rfl rfl rfl
set_option maxRecDepth 4000 in
theorem w117 {f : Nat → Int32} (h0 : ((f 1) < 0)) : Run (5, f) 140 (0, [(0, .ref 42), (1, .int (f 1)), (2, .int (f 2))], [], HJ13) (.inl (some (.int 0)), HJ15) := by
  refine R_p d140_0 rfl rfl ?_
  refine R_cm [] d140_1 (List.mem_of_getElem? (i := 175) rfl) rfl ⟨by decide, by decide, Nat.le_of_ble_eq_true rfl, rfl, mcd128⟩ rfl rfl (Nat.le_of_ble_eq_true rfl) rfl rfl (w115 (f := f)) ?_
  refine R_p d140_4 rfl rfl ?_
  refine R_ic (v := 0) d140_5 (by decide) ?_
  refine R_p d140_6 rfl rfl ?_
  refine R_get d140_7 (Or.inl (List.mem_of_getElem? (i := 55) rfl)) rfl rfl ?_
  refine R_ic (v := 1) d140_10 (by decide) ?_
  refine R_p d140_11 rfl rfl ?_
  refine R_nv (v := _) (v' := (-1)) (by decide) ?_
  refine R_cs [.int (f 1), .int 0, .int (-1)] d140_12 (List.mem_of_getElem? (i := 163) rfl) rfl ⟨by decide, by decide, Nat.le_of_ble_eq_true rfl, rfl, mcd116⟩ rfl rfl (Nat.le_of_ble_eq_true rfl) (w116 (f := f) h0) ?_
  refine R_br 31 d140_15 (mb_t (b := ((0 : Int32) = (0 : Int32))) (by decide)) rfl ?_
  refine R_ic (v := 0) d140_31 (by decide) ?_
  exact R_iret d140_32 rfl rfl rfl
set_option maxRecDepth 4000 in
theorem w118 {f : Nat → Int32} : Run (5, f) 117 (0, [(0, .ref 42), (1, .int 1)], [], HJ15) (.inl (some (.int 1)), HJ16) := by
  refine R_p d117_0 rfl rfl ?_
  refine R_p d117_1 rfl rfl ?_
  refine R_put d117_2 (List.mem_of_getElem? (i := 48) rfl) rfl (by decide) rfl rfl (Or.inl rfl) ?_
  refine R_p d117_5 rfl rfl ?_
  refine R_nb d117_6 rfl (mb_f (b := ((1 : Int32) ≤ (0 : Int32))) (by decide)) ?_
  refine R_ic (v := 1) d117_9 (by decide) ?_
  refine R_br 14 d117_10 rfl rfl ?_
  exact R_iret d117_14 rfl rfl rfl
set_option maxRecDepth 4000 in
theorem w119 {f : Nat → Int32} (h0 : ((f 1) < 0)) : Run (5, f) 139 (0, [(0, .ref 42), (1, .int (f 1)), (2, .int (f 2))], [], HJ13) (.inl (some (.int 0)), HJ16) := by
  refine R_p d139_0 rfl rfl ?_
  refine R_p d139_1 rfl rfl ?_
  refine R_p d139_2 rfl rfl ?_
  refine R_p d139_3 rfl rfl ?_
  refine R_cm [.int (f 1), .int (f 2)] d139_4 (List.mem_of_getElem? (i := 187) rfl) rfl ⟨by decide, by decide, Nat.le_of_ble_eq_true rfl, rfl, mcd140⟩ rfl rfl (Nat.le_of_ble_eq_true rfl) rfl rfl (w117 (f := f) h0) ?_
  refine R_br 14 d139_7 (mb_t (b := ((0 : Int32) = (0 : Int32))) (by decide)) rfl ?_
  refine R_ic (v := 1) d139_14 (by decide) ?_
  refine R_cm [.int 1] d139_15 (List.mem_of_getElem? (i := 164) rfl) rfl ⟨by decide, by decide, Nat.le_of_ble_eq_true rfl, rfl, mcd117⟩ rfl rfl (Nat.le_of_ble_eq_true rfl) rfl rfl (w118 (f := f)) ?_
  refine R_nb d139_18 rfl (mb_f (b := ((1 : Int32) = (0 : Int32))) (by decide)) ?_
  refine R_ic (v := 0) d139_21 (by decide) ?_
  refine R_br 35 d139_22 rfl rfl ?_
  exact R_iret d139_35 rfl rfl rfl
set_option maxRecDepth 4000 in
theorem w120 {f : Nat → Int32} : Run (5, f) 113 (0, [(0, .ref 42)], [], HJ16) (.inl (some (.int 1)), HJ16) := by
  refine R_p d113_0 rfl rfl ?_
  refine R_get d113_1 (Or.inl (List.mem_of_getElem? (i := 48) rfl)) rfl rfl ?_
  exact R_iret d113_4 rfl rfl rfl
set_option maxRecDepth 4000 in
theorem law364_121 {f : Nat → Int32} (h0 : ((f 1) < 0)) : Run (5, f) 171 (364, [(0, .ref 0), (1, .ref 16), (2, .ref 42), (3, .ref 53), (4, .int 0)], [], HL0) (.inl (some (.int 1)), HJ16) := by
  refine R_p d171_364 rfl rfl ?_
  refine R_p d171_365 rfl rfl ?_
  refine R_p d171_366 rfl rfl ?_
  refine R_ic (v := 1) d171_368 (by decide) ?_
  refine R_p d171_369 rfl rfl ?_
  refine R_nv (v := _) (v' := 1) (by decide) ?_
  refine R_sldk (n := 1) (x := (f 1)) d171_370 (vp_ok (by decide)) (by decide) rfl ?_
  refine R_p d171_371 rfl rfl ?_
  refine R_p d171_372 rfl rfl ?_
  refine R_ic (v := 2) d171_374 (by decide) ?_
  refine R_p d171_375 rfl rfl ?_
  refine R_nv (v := _) (v' := 2) (by decide) ?_
  refine R_sldk (n := 2) (x := (f 2)) d171_376 (vp_ok (by decide)) (by decide) rfl ?_
  refine R_p d171_377 rfl rfl ?_
  refine R_hs [.ref 16, .int (f 1), .int (f 2), .ref 53] d171_378 (List.mem_of_getElem? (i := 108) rfl) ⟨by decide, by decide, Nat.le_of_ble_eq_true rfl, mcd160⟩ rfl rfl (Nat.le_of_ble_eq_true rfl) (w113 (f := f) h0) ?_
  refine R_p (ls' := [(0, .ref 0), (1, .ref 16), (2, .ref 42), (3, .ref 53), (4, .int 0), (5, .int 1)]) d171_381 rfl rfl ?_
  refine R_p d171_383 rfl rfl ?_
  refine R_p d171_384 rfl rfl ?_
  refine R_p d171_385 rfl rfl ?_
  refine R_ic (v := 1) d171_387 (by decide) ?_
  refine R_p d171_388 rfl rfl ?_
  refine R_nv (v := _) (v' := 1) (by decide) ?_
  refine R_sldk (n := 1) (x := (f 1)) d171_389 (vp_ok (by decide)) (by decide) rfl ?_
  refine R_p d171_390 rfl rfl ?_
  refine R_p d171_391 rfl rfl ?_
  refine R_ic (v := 2) d171_393 (by decide) ?_
  refine R_p d171_394 rfl rfl ?_
  refine R_nv (v := _) (v' := 2) (by decide) ?_
  refine R_sldk (n := 2) (x := (f 2)) d171_395 (vp_ok (by decide)) (by decide) rfl ?_
  refine R_cm [.int (f 1), .int (f 2)] d171_396 (List.mem_of_getElem? (i := 186) rfl) rfl ⟨by decide, by decide, Nat.le_of_ble_eq_true rfl, rfl, mcd139⟩ rfl rfl (Nat.le_of_ble_eq_true rfl) rfl rfl (w119 (f := f) h0) ?_
  refine R_p (ls' := [(0, .ref 0), (1, .ref 16), (2, .ref 42), (3, .ref 53), (4, .int 0), (5, .int 1), (6, .int 0)]) d171_399 rfl rfl ?_
  refine R_p d171_401 rfl rfl ?_
  refine R_cm [] d171_402 (List.mem_of_getElem? (i := 160) rfl) rfl ⟨by decide, by decide, Nat.le_of_ble_eq_true rfl, rfl, mcd113⟩ rfl rfl (Nat.le_of_ble_eq_true rfl) rfl rfl (w120 (f := f)) ?_
  refine R_p d171_405 rfl rfl ?_
  refine R_br 412 d171_407 (mb_t (b := ((1 : Int32) = (1 : Int32))) (by decide)) rfl ?_
  refine R_p d171_412 rfl rfl ?_
  refine R_br 429 d171_414 (mb_t (b := (¬ (1 : Int32) = (0 : Int32))) (by decide)) rfl ?_
  refine R_br 950 d171_429 rfl rfl ?_
  refine R_p (ls' := [(0, .ref 0), (1, .ref 16), (2, .ref 42), (3, .ref 53), (4, .int 5), (5, .int 1), (6, .int 0)]) d171_950 rfl rfl ?_
  refine R_br 23 d171_953 rfl rfl ?_
  refine R_p d171_23 rfl rfl ?_
  refine R_p d171_25 rfl rfl ?_
  refine R_sln d171_26 ?_
  refine R_nv (v := _) (v' := 5) (show Int32.ofNat 5 = 5 from by decide) ?_
  refine R_ic (v := 5) d171_27 (by decide) ?_
  refine R_p d171_28 rfl rfl ?_
  refine R_nv (v := _) (v' := 0) (by decide) ?_
  refine R_br 956 d171_29 (mb_t (b := ((0 : Int32) < (5 : Int32))) (by decide)) rfl ?_
  refine R_ic (v := 1) d171_956 (by decide) ?_
  exact R_iret d171_957 rfl rfl rfl
set_option maxRecDepth 4000 in
theorem w122 {f : Nat → Int32} : RunsP 46 (0, [(0, .ref 23)], [], HL0) (.inl (some (.int 0)), HL0) := by
  refine Q_p d46_0 rfl rfl ?_
  refine Q_get d46_1 (Or.inl (List.mem_of_getElem? (i := 15) rfl)) rfl rfl ?_
  exact Q_iret d46_4 rfl rfl
set_option maxRecDepth 4000 in
theorem w123 {f : Nat → Int32} (h0 : ¬ ((f 1) < 0)) : RunsP 105 (0, [(0, .ref 16), (1, .int (f 1)), (2, .int (f 2))], [], HL0) (.inr 54, HJ13) := by
  refine Q_p d105_0 rfl rfl ?_
  refine Q_nb d105_1 rfl (mb_f (b := ((f 1) < 0)) h0) ?_
  refine Q_p d105_4 rfl rfl ?_
  refine Q_p d105_5 rfl rfl ?_
  refine Q_get d105_6 (Or.inl (List.mem_of_getElem? (i := 45) rfl)) rfl rfl ?_
  refine Q_cm [] d105_9 (List.mem_of_getElem? (i := 18) rfl) rfl ⟨by decide, by decide, Nat.le_of_ble_eq_true rfl, rfl, mcd46⟩ rfl rfl (Nat.le_of_ble_eq_true rfl) rfl rfl (w122 (f := f)) ?_
  refine Q_br 24 d105_12 (mb_t (b := (0 ≤ (f 1))) (Int32.not_lt.mp h0)) rfl ?_
  exact Q_thr 5 d105_24 d105_27 d105_28 d105_30 d105_33 rfl (List.mem_of_getElem? (i := 5) rfl) rfl (by decide) (by decide)
set_option maxRecDepth 4000 in
theorem w124 {f : Nat → Int32} (h0 : ¬ ((f 1) < 0)) : Run (5, f) 104 (0, [(0, .ref 16), (1, .int (f 1)), (2, .int (f 2))], [], HL0) (.inr 54, HJ13) := by
  refine R_p d104_0 rfl rfl ?_
  refine R_p d104_1 rfl rfl ?_
  refine R_p d104_2 rfl rfl ?_
  exact R_tv [.int (f 1), .int (f 2)] d104_3 (List.mem_of_getElem? (i := 110) rfl) ⟨by decide, by decide, Nat.le_of_ble_eq_true rfl, mcd105⟩ rfl rfl (Nat.le_of_ble_eq_true rfl) rfl rfl rfl (Or.inr (w123 (f := f) h0))
set_option maxRecDepth 4000 in
theorem w125 {f : Nat → Int32} (h0 : ¬ ((f 1) < 0)) : Run (5, f) 160 (0, [(0, .ref 16), (1, .int (f 1)), (2, .int (f 2)), (3, .ref 53)], [], HL0) (.inl (some (.int 1)), HJ13) := by
  refine R_p d160_0 rfl rfl ?_
  refine R_ic (v := 0) d160_1 (by decide) ?_
  refine R_p d160_2 rfl rfl ?_
  refine R_p d160_3 rfl rfl ?_
  refine R_p d160_4 rfl rfl ?_
  refine R_tc [.int (f 1), .int (f 2)] d160_5 (List.mem_of_getElem? (i := 109) rfl) ⟨by decide, by decide, Nat.le_of_ble_eq_true rfl, mcd104⟩ rfl rfl (Nat.le_of_ble_eq_true rfl) rfl rfl rfl (cx := 12) (hp := 13) rfl (by decide) (by decide) (by decide) (Or.inl (w124 (f := f) h0)) ?_
  refine R_p (ls' := [(0, .ref 16), (1, .int (f 1)), (2, .int (f 2)), (3, .ref 53), (4, .ref 54)]) d160_13 rfl rfl ?_
  refine R_ic (v := 1) d160_15 (by decide) ?_
  exact R_iret d160_16 rfl rfl rfl
set_option maxRecDepth 4000 in
theorem w126 {f : Nat → Int32} (h0 : ¬ ((f 1) < 0)) : Run (5, f) 116 (0, [(0, .int (f 1)), (1, .int 0), (2, .int (-1))], [], HJ15) (.inl (some (.int 0)), HJ15) := by
  refine R_p d116_0 rfl rfl ?_
  refine R_p d116_1 rfl rfl ?_
  refine R_nb d116_2 rfl (mb_f (b := ((f 1) < 0)) h0) ?_
  refine R_p d116_5 rfl rfl ?_
  refine R_p d116_6 rfl rfl ?_
  refine R_br 14 d116_7 (mb_t (b := ((-1) < (f 1))) (m1_lt h0)) rfl ?_
  refine R_ic (v := 0) d116_14 (by decide) ?_
  exact R_iret d116_15 rfl rfl rfl
set_option maxRecDepth 4000 in
theorem w127 {f : Nat → Int32} (h0 : ¬ ((f 1) < 0)) : Run (5, f) 140 (0, [(0, .ref 42), (1, .int (f 1)), (2, .int (f 2))], [], HJ13) (.inl (some (.int 0)), HJ15) := by
  refine R_p d140_0 rfl rfl ?_
  refine R_cm [] d140_1 (List.mem_of_getElem? (i := 175) rfl) rfl ⟨by decide, by decide, Nat.le_of_ble_eq_true rfl, rfl, mcd128⟩ rfl rfl (Nat.le_of_ble_eq_true rfl) rfl rfl (w115 (f := f)) ?_
  refine R_p d140_4 rfl rfl ?_
  refine R_ic (v := 0) d140_5 (by decide) ?_
  refine R_p d140_6 rfl rfl ?_
  refine R_get d140_7 (Or.inl (List.mem_of_getElem? (i := 55) rfl)) rfl rfl ?_
  refine R_ic (v := 1) d140_10 (by decide) ?_
  refine R_p d140_11 rfl rfl ?_
  refine R_nv (v := _) (v' := (-1)) (by decide) ?_
  refine R_cs [.int (f 1), .int 0, .int (-1)] d140_12 (List.mem_of_getElem? (i := 163) rfl) rfl ⟨by decide, by decide, Nat.le_of_ble_eq_true rfl, rfl, mcd116⟩ rfl rfl (Nat.le_of_ble_eq_true rfl) (w126 (f := f) h0) ?_
  refine R_br 31 d140_15 (mb_t (b := ((0 : Int32) = (0 : Int32))) (by decide)) rfl ?_
  refine R_ic (v := 0) d140_31 (by decide) ?_
  exact R_iret d140_32 rfl rfl rfl
set_option maxRecDepth 4000 in
theorem w128 {f : Nat → Int32} (h0 : ¬ ((f 1) < 0)) : Run (5, f) 139 (0, [(0, .ref 42), (1, .int (f 1)), (2, .int (f 2))], [], HJ13) (.inl (some (.int 0)), HJ16) := by
  refine R_p d139_0 rfl rfl ?_
  refine R_p d139_1 rfl rfl ?_
  refine R_p d139_2 rfl rfl ?_
  refine R_p d139_3 rfl rfl ?_
  refine R_cm [.int (f 1), .int (f 2)] d139_4 (List.mem_of_getElem? (i := 187) rfl) rfl ⟨by decide, by decide, Nat.le_of_ble_eq_true rfl, rfl, mcd140⟩ rfl rfl (Nat.le_of_ble_eq_true rfl) rfl rfl (w127 (f := f) h0) ?_
  refine R_br 14 d139_7 (mb_t (b := ((0 : Int32) = (0 : Int32))) (by decide)) rfl ?_
  refine R_ic (v := 1) d139_14 (by decide) ?_
  refine R_cm [.int 1] d139_15 (List.mem_of_getElem? (i := 164) rfl) rfl ⟨by decide, by decide, Nat.le_of_ble_eq_true rfl, rfl, mcd117⟩ rfl rfl (Nat.le_of_ble_eq_true rfl) rfl rfl (w118 (f := f)) ?_
  refine R_nb d139_18 rfl (mb_f (b := ((1 : Int32) = (0 : Int32))) (by decide)) ?_
  refine R_ic (v := 0) d139_21 (by decide) ?_
  refine R_br 35 d139_22 rfl rfl ?_
  exact R_iret d139_35 rfl rfl rfl
set_option maxRecDepth 4000 in
theorem law364_129 {f : Nat → Int32} (h0 : ¬ ((f 1) < 0)) : Run (5, f) 171 (364, [(0, .ref 0), (1, .ref 16), (2, .ref 42), (3, .ref 53), (4, .int 0)], [], HL0) (.inl (some (.int 1)), HJ16) := by
  refine R_p d171_364 rfl rfl ?_
  refine R_p d171_365 rfl rfl ?_
  refine R_p d171_366 rfl rfl ?_
  refine R_ic (v := 1) d171_368 (by decide) ?_
  refine R_p d171_369 rfl rfl ?_
  refine R_nv (v := _) (v' := 1) (by decide) ?_
  refine R_sldk (n := 1) (x := (f 1)) d171_370 (vp_ok (by decide)) (by decide) rfl ?_
  refine R_p d171_371 rfl rfl ?_
  refine R_p d171_372 rfl rfl ?_
  refine R_ic (v := 2) d171_374 (by decide) ?_
  refine R_p d171_375 rfl rfl ?_
  refine R_nv (v := _) (v' := 2) (by decide) ?_
  refine R_sldk (n := 2) (x := (f 2)) d171_376 (vp_ok (by decide)) (by decide) rfl ?_
  refine R_p d171_377 rfl rfl ?_
  refine R_hs [.ref 16, .int (f 1), .int (f 2), .ref 53] d171_378 (List.mem_of_getElem? (i := 108) rfl) ⟨by decide, by decide, Nat.le_of_ble_eq_true rfl, mcd160⟩ rfl rfl (Nat.le_of_ble_eq_true rfl) (w125 (f := f) h0) ?_
  refine R_p (ls' := [(0, .ref 0), (1, .ref 16), (2, .ref 42), (3, .ref 53), (4, .int 0), (5, .int 1)]) d171_381 rfl rfl ?_
  refine R_p d171_383 rfl rfl ?_
  refine R_p d171_384 rfl rfl ?_
  refine R_p d171_385 rfl rfl ?_
  refine R_ic (v := 1) d171_387 (by decide) ?_
  refine R_p d171_388 rfl rfl ?_
  refine R_nv (v := _) (v' := 1) (by decide) ?_
  refine R_sldk (n := 1) (x := (f 1)) d171_389 (vp_ok (by decide)) (by decide) rfl ?_
  refine R_p d171_390 rfl rfl ?_
  refine R_p d171_391 rfl rfl ?_
  refine R_ic (v := 2) d171_393 (by decide) ?_
  refine R_p d171_394 rfl rfl ?_
  refine R_nv (v := _) (v' := 2) (by decide) ?_
  refine R_sldk (n := 2) (x := (f 2)) d171_395 (vp_ok (by decide)) (by decide) rfl ?_
  refine R_cm [.int (f 1), .int (f 2)] d171_396 (List.mem_of_getElem? (i := 186) rfl) rfl ⟨by decide, by decide, Nat.le_of_ble_eq_true rfl, rfl, mcd139⟩ rfl rfl (Nat.le_of_ble_eq_true rfl) rfl rfl (w128 (f := f) h0) ?_
  refine R_p (ls' := [(0, .ref 0), (1, .ref 16), (2, .ref 42), (3, .ref 53), (4, .int 0), (5, .int 1), (6, .int 0)]) d171_399 rfl rfl ?_
  refine R_p d171_401 rfl rfl ?_
  refine R_cm [] d171_402 (List.mem_of_getElem? (i := 160) rfl) rfl ⟨by decide, by decide, Nat.le_of_ble_eq_true rfl, rfl, mcd113⟩ rfl rfl (Nat.le_of_ble_eq_true rfl) rfl rfl (w120 (f := f)) ?_
  refine R_p d171_405 rfl rfl ?_
  refine R_br 412 d171_407 (mb_t (b := ((1 : Int32) = (1 : Int32))) (by decide)) rfl ?_
  refine R_p d171_412 rfl rfl ?_
  refine R_br 429 d171_414 (mb_t (b := (¬ (1 : Int32) = (0 : Int32))) (by decide)) rfl ?_
  refine R_br 950 d171_429 rfl rfl ?_
  refine R_p (ls' := [(0, .ref 0), (1, .ref 16), (2, .ref 42), (3, .ref 53), (4, .int 5), (5, .int 1), (6, .int 0)]) d171_950 rfl rfl ?_
  refine R_br 23 d171_953 rfl rfl ?_
  refine R_p d171_23 rfl rfl ?_
  refine R_p d171_25 rfl rfl ?_
  refine R_sln d171_26 ?_
  refine R_nv (v := _) (v' := 5) (show Int32.ofNat 5 = 5 from by decide) ?_
  refine R_ic (v := 5) d171_27 (by decide) ?_
  refine R_p d171_28 rfl rfl ?_
  refine R_nv (v := _) (v' := 0) (by decide) ?_
  refine R_br 956 d171_29 (mb_t (b := ((0 : Int32) < (5 : Int32))) (by decide)) rfl ?_
  refine R_ic (v := 1) d171_956 (by decide) ?_
  exact R_iret d171_957 rfl rfl rfl
set_option maxRecDepth 4000 in
theorem w130 {f : Nat → Int32} (h0 : ((f 1) < 0)) : Run (5, f) 106 (0, [(0, .ref 16), (1, .int (f 1)), (2, .int (f 2))], [], HL0) (.inr 54, HJ13) := by
  refine R_p d106_0 rfl rfl ?_
  refine R_p d106_1 rfl rfl ?_
  refine R_p d106_2 rfl rfl ?_
  exact R_tv [.int (f 1), .int (f 2)] d106_3 (List.mem_of_getElem? (i := 110) rfl) ⟨by decide, by decide, Nat.le_of_ble_eq_true rfl, mcd105⟩ rfl rfl (Nat.le_of_ble_eq_true rfl) rfl rfl rfl (Or.inr (w111 (f := f) h0))
set_option maxRecDepth 4000 in
theorem w131 {f : Nat → Int32} (h0 : ((f 1) < 0)) : Run (5, f) 161 (0, [(0, .ref 16), (1, .int (f 1)), (2, .int (f 2)), (3, .ref 53)], [], HL0) (.inl (some (.int 1)), HJ13) := by
  refine R_p d161_0 rfl rfl ?_
  refine R_ic (v := 0) d161_1 (by decide) ?_
  refine R_p d161_2 rfl rfl ?_
  refine R_p d161_3 rfl rfl ?_
  refine R_p d161_4 rfl rfl ?_
  refine R_tc [.int (f 1), .int (f 2)] d161_5 (List.mem_of_getElem? (i := 113) rfl) ⟨by decide, by decide, Nat.le_of_ble_eq_true rfl, mcd106⟩ rfl rfl (Nat.le_of_ble_eq_true rfl) rfl rfl rfl (cx := 12) (hp := 13) rfl (by decide) (by decide) (by decide) (Or.inl (w130 (f := f) h0)) ?_
  refine R_p (ls' := [(0, .ref 16), (1, .int (f 1)), (2, .int (f 2)), (3, .ref 53), (4, .ref 54)]) d161_13 rfl rfl ?_
  refine R_ic (v := 1) d161_15 (by decide) ?_
  exact R_iret d161_16 rfl rfl rfl
set_option maxRecDepth 4000 in
theorem w132 {f : Nat → Int32} (h0 : ((f 1) < 0)) : Run (5, f) 141 (0, [(0, .ref 42), (1, .int (f 1)), (2, .int (f 2))], [], HJ13) (.inl (some (.int 0)), HJ16) := by
  refine R_p d141_0 rfl rfl ?_
  refine R_p d141_1 rfl rfl ?_
  refine R_p d141_2 rfl rfl ?_
  refine R_p d141_3 rfl rfl ?_
  refine R_cm [.int (f 1), .int (f 2)] d141_4 (List.mem_of_getElem? (i := 187) rfl) rfl ⟨by decide, by decide, Nat.le_of_ble_eq_true rfl, rfl, mcd140⟩ rfl rfl (Nat.le_of_ble_eq_true rfl) rfl rfl (w117 (f := f) h0) ?_
  refine R_br 14 d141_7 (mb_t (b := ((0 : Int32) = (0 : Int32))) (by decide)) rfl ?_
  refine R_ic (v := 1) d141_14 (by decide) ?_
  refine R_cm [.int 1] d141_15 (List.mem_of_getElem? (i := 164) rfl) rfl ⟨by decide, by decide, Nat.le_of_ble_eq_true rfl, rfl, mcd117⟩ rfl rfl (Nat.le_of_ble_eq_true rfl) rfl rfl (w118 (f := f)) ?_
  refine R_nb d141_18 rfl (mb_f (b := ((1 : Int32) = (0 : Int32))) (by decide)) ?_
  refine R_ic (v := 0) d141_21 (by decide) ?_
  refine R_br 53 d141_22 rfl rfl ?_
  exact R_iret d141_53 rfl rfl rfl
set_option maxRecDepth 4000 in
theorem law432_133 {f : Nat → Int32} (h0 : ((f 1) < 0)) : Run (5, f) 171 (432, [(0, .ref 0), (1, .ref 16), (2, .ref 42), (3, .ref 53), (4, .int 0)], [], HL0) (.inl (some (.int 1)), HJ16) := by
  refine R_p d171_432 rfl rfl ?_
  refine R_p d171_433 rfl rfl ?_
  refine R_p d171_434 rfl rfl ?_
  refine R_ic (v := 1) d171_436 (by decide) ?_
  refine R_p d171_437 rfl rfl ?_
  refine R_nv (v := _) (v' := 1) (by decide) ?_
  refine R_sldk (n := 1) (x := (f 1)) d171_438 (vp_ok (by decide)) (by decide) rfl ?_
  refine R_p d171_439 rfl rfl ?_
  refine R_p d171_440 rfl rfl ?_
  refine R_ic (v := 2) d171_442 (by decide) ?_
  refine R_p d171_443 rfl rfl ?_
  refine R_nv (v := _) (v' := 2) (by decide) ?_
  refine R_sldk (n := 2) (x := (f 2)) d171_444 (vp_ok (by decide)) (by decide) rfl ?_
  refine R_p d171_445 rfl rfl ?_
  refine R_hs [.ref 16, .int (f 1), .int (f 2), .ref 53] d171_446 (List.mem_of_getElem? (i := 112) rfl) ⟨by decide, by decide, Nat.le_of_ble_eq_true rfl, mcd161⟩ rfl rfl (Nat.le_of_ble_eq_true rfl) (w131 (f := f) h0) ?_
  refine R_p (ls' := [(0, .ref 0), (1, .ref 16), (2, .ref 42), (3, .ref 53), (4, .int 0), (5, .int 1)]) d171_449 rfl rfl ?_
  refine R_p d171_451 rfl rfl ?_
  refine R_p d171_452 rfl rfl ?_
  refine R_p d171_453 rfl rfl ?_
  refine R_ic (v := 1) d171_455 (by decide) ?_
  refine R_p d171_456 rfl rfl ?_
  refine R_nv (v := _) (v' := 1) (by decide) ?_
  refine R_sldk (n := 1) (x := (f 1)) d171_457 (vp_ok (by decide)) (by decide) rfl ?_
  refine R_p d171_458 rfl rfl ?_
  refine R_p d171_459 rfl rfl ?_
  refine R_ic (v := 2) d171_461 (by decide) ?_
  refine R_p d171_462 rfl rfl ?_
  refine R_nv (v := _) (v' := 2) (by decide) ?_
  refine R_sldk (n := 2) (x := (f 2)) d171_463 (vp_ok (by decide)) (by decide) rfl ?_
  refine R_cm [.int (f 1), .int (f 2)] d171_464 (List.mem_of_getElem? (i := 188) rfl) rfl ⟨by decide, by decide, Nat.le_of_ble_eq_true rfl, rfl, mcd141⟩ rfl rfl (Nat.le_of_ble_eq_true rfl) rfl rfl (w132 (f := f) h0) ?_
  refine R_p (ls' := [(0, .ref 0), (1, .ref 16), (2, .ref 42), (3, .ref 53), (4, .int 0), (5, .int 1), (6, .int 0)]) d171_467 rfl rfl ?_
  refine R_p d171_469 rfl rfl ?_
  refine R_cm [] d171_470 (List.mem_of_getElem? (i := 160) rfl) rfl ⟨by decide, by decide, Nat.le_of_ble_eq_true rfl, rfl, mcd113⟩ rfl rfl (Nat.le_of_ble_eq_true rfl) rfl rfl (w120 (f := f)) ?_
  refine R_p d171_473 rfl rfl ?_
  refine R_br 480 d171_475 (mb_t (b := ((1 : Int32) = (1 : Int32))) (by decide)) rfl ?_
  refine R_p d171_480 rfl rfl ?_
  refine R_br 497 d171_482 (mb_t (b := (¬ (1 : Int32) = (0 : Int32))) (by decide)) rfl ?_
  refine R_br 950 d171_497 rfl rfl ?_
  refine R_p (ls' := [(0, .ref 0), (1, .ref 16), (2, .ref 42), (3, .ref 53), (4, .int 5), (5, .int 1), (6, .int 0)]) d171_950 rfl rfl ?_
  refine R_br 23 d171_953 rfl rfl ?_
  refine R_p d171_23 rfl rfl ?_
  refine R_p d171_25 rfl rfl ?_
  refine R_sln d171_26 ?_
  refine R_nv (v := _) (v' := 5) (show Int32.ofNat 5 = 5 from by decide) ?_
  refine R_ic (v := 5) d171_27 (by decide) ?_
  refine R_p d171_28 rfl rfl ?_
  refine R_nv (v := _) (v' := 0) (by decide) ?_
  refine R_br 956 d171_29 (mb_t (b := ((0 : Int32) < (5 : Int32))) (by decide)) rfl ?_
  refine R_ic (v := 1) d171_956 (by decide) ?_
  exact R_iret d171_957 rfl rfl rfl
set_option maxRecDepth 4000 in
theorem w134 {f : Nat → Int32} (h0 : ¬ ((f 1) < 0)) : Run (5, f) 106 (0, [(0, .ref 16), (1, .int (f 1)), (2, .int (f 2))], [], HL0) (.inr 54, HJ13) := by
  refine R_p d106_0 rfl rfl ?_
  refine R_p d106_1 rfl rfl ?_
  refine R_p d106_2 rfl rfl ?_
  exact R_tv [.int (f 1), .int (f 2)] d106_3 (List.mem_of_getElem? (i := 110) rfl) ⟨by decide, by decide, Nat.le_of_ble_eq_true rfl, mcd105⟩ rfl rfl (Nat.le_of_ble_eq_true rfl) rfl rfl rfl (Or.inr (w123 (f := f) h0))
set_option maxRecDepth 4000 in
theorem w135 {f : Nat → Int32} (h0 : ¬ ((f 1) < 0)) : Run (5, f) 161 (0, [(0, .ref 16), (1, .int (f 1)), (2, .int (f 2)), (3, .ref 53)], [], HL0) (.inl (some (.int 1)), HJ13) := by
  refine R_p d161_0 rfl rfl ?_
  refine R_ic (v := 0) d161_1 (by decide) ?_
  refine R_p d161_2 rfl rfl ?_
  refine R_p d161_3 rfl rfl ?_
  refine R_p d161_4 rfl rfl ?_
  refine R_tc [.int (f 1), .int (f 2)] d161_5 (List.mem_of_getElem? (i := 113) rfl) ⟨by decide, by decide, Nat.le_of_ble_eq_true rfl, mcd106⟩ rfl rfl (Nat.le_of_ble_eq_true rfl) rfl rfl rfl (cx := 12) (hp := 13) rfl (by decide) (by decide) (by decide) (Or.inl (w134 (f := f) h0)) ?_
  refine R_p (ls' := [(0, .ref 16), (1, .int (f 1)), (2, .int (f 2)), (3, .ref 53), (4, .ref 54)]) d161_13 rfl rfl ?_
  refine R_ic (v := 1) d161_15 (by decide) ?_
  exact R_iret d161_16 rfl rfl rfl
set_option maxRecDepth 4000 in
theorem w136 {f : Nat → Int32} (h0 : ¬ ((f 1) < 0)) : Run (5, f) 141 (0, [(0, .ref 42), (1, .int (f 1)), (2, .int (f 2))], [], HJ13) (.inl (some (.int 0)), HJ16) := by
  refine R_p d141_0 rfl rfl ?_
  refine R_p d141_1 rfl rfl ?_
  refine R_p d141_2 rfl rfl ?_
  refine R_p d141_3 rfl rfl ?_
  refine R_cm [.int (f 1), .int (f 2)] d141_4 (List.mem_of_getElem? (i := 187) rfl) rfl ⟨by decide, by decide, Nat.le_of_ble_eq_true rfl, rfl, mcd140⟩ rfl rfl (Nat.le_of_ble_eq_true rfl) rfl rfl (w127 (f := f) h0) ?_
  refine R_br 14 d141_7 (mb_t (b := ((0 : Int32) = (0 : Int32))) (by decide)) rfl ?_
  refine R_ic (v := 1) d141_14 (by decide) ?_
  refine R_cm [.int 1] d141_15 (List.mem_of_getElem? (i := 164) rfl) rfl ⟨by decide, by decide, Nat.le_of_ble_eq_true rfl, rfl, mcd117⟩ rfl rfl (Nat.le_of_ble_eq_true rfl) rfl rfl (w118 (f := f)) ?_
  refine R_nb d141_18 rfl (mb_f (b := ((1 : Int32) = (0 : Int32))) (by decide)) ?_
  refine R_ic (v := 0) d141_21 (by decide) ?_
  refine R_br 53 d141_22 rfl rfl ?_
  exact R_iret d141_53 rfl rfl rfl
set_option maxRecDepth 4000 in
theorem law432_137 {f : Nat → Int32} (h0 : ¬ ((f 1) < 0)) : Run (5, f) 171 (432, [(0, .ref 0), (1, .ref 16), (2, .ref 42), (3, .ref 53), (4, .int 0)], [], HL0) (.inl (some (.int 1)), HJ16) := by
  refine R_p d171_432 rfl rfl ?_
  refine R_p d171_433 rfl rfl ?_
  refine R_p d171_434 rfl rfl ?_
  refine R_ic (v := 1) d171_436 (by decide) ?_
  refine R_p d171_437 rfl rfl ?_
  refine R_nv (v := _) (v' := 1) (by decide) ?_
  refine R_sldk (n := 1) (x := (f 1)) d171_438 (vp_ok (by decide)) (by decide) rfl ?_
  refine R_p d171_439 rfl rfl ?_
  refine R_p d171_440 rfl rfl ?_
  refine R_ic (v := 2) d171_442 (by decide) ?_
  refine R_p d171_443 rfl rfl ?_
  refine R_nv (v := _) (v' := 2) (by decide) ?_
  refine R_sldk (n := 2) (x := (f 2)) d171_444 (vp_ok (by decide)) (by decide) rfl ?_
  refine R_p d171_445 rfl rfl ?_
  refine R_hs [.ref 16, .int (f 1), .int (f 2), .ref 53] d171_446 (List.mem_of_getElem? (i := 112) rfl) ⟨by decide, by decide, Nat.le_of_ble_eq_true rfl, mcd161⟩ rfl rfl (Nat.le_of_ble_eq_true rfl) (w135 (f := f) h0) ?_
  refine R_p (ls' := [(0, .ref 0), (1, .ref 16), (2, .ref 42), (3, .ref 53), (4, .int 0), (5, .int 1)]) d171_449 rfl rfl ?_
  refine R_p d171_451 rfl rfl ?_
  refine R_p d171_452 rfl rfl ?_
  refine R_p d171_453 rfl rfl ?_
  refine R_ic (v := 1) d171_455 (by decide) ?_
  refine R_p d171_456 rfl rfl ?_
  refine R_nv (v := _) (v' := 1) (by decide) ?_
  refine R_sldk (n := 1) (x := (f 1)) d171_457 (vp_ok (by decide)) (by decide) rfl ?_
  refine R_p d171_458 rfl rfl ?_
  refine R_p d171_459 rfl rfl ?_
  refine R_ic (v := 2) d171_461 (by decide) ?_
  refine R_p d171_462 rfl rfl ?_
  refine R_nv (v := _) (v' := 2) (by decide) ?_
  refine R_sldk (n := 2) (x := (f 2)) d171_463 (vp_ok (by decide)) (by decide) rfl ?_
  refine R_cm [.int (f 1), .int (f 2)] d171_464 (List.mem_of_getElem? (i := 188) rfl) rfl ⟨by decide, by decide, Nat.le_of_ble_eq_true rfl, rfl, mcd141⟩ rfl rfl (Nat.le_of_ble_eq_true rfl) rfl rfl (w136 (f := f) h0) ?_
  refine R_p (ls' := [(0, .ref 0), (1, .ref 16), (2, .ref 42), (3, .ref 53), (4, .int 0), (5, .int 1), (6, .int 0)]) d171_467 rfl rfl ?_
  refine R_p d171_469 rfl rfl ?_
  refine R_cm [] d171_470 (List.mem_of_getElem? (i := 160) rfl) rfl ⟨by decide, by decide, Nat.le_of_ble_eq_true rfl, rfl, mcd113⟩ rfl rfl (Nat.le_of_ble_eq_true rfl) rfl rfl (w120 (f := f)) ?_
  refine R_p d171_473 rfl rfl ?_
  refine R_br 480 d171_475 (mb_t (b := ((1 : Int32) = (1 : Int32))) (by decide)) rfl ?_
  refine R_p d171_480 rfl rfl ?_
  refine R_br 497 d171_482 (mb_t (b := (¬ (1 : Int32) = (0 : Int32))) (by decide)) rfl ?_
  refine R_br 950 d171_497 rfl rfl ?_
  refine R_p (ls' := [(0, .ref 0), (1, .ref 16), (2, .ref 42), (3, .ref 53), (4, .int 5), (5, .int 1), (6, .int 0)]) d171_950 rfl rfl ?_
  refine R_br 23 d171_953 rfl rfl ?_
  refine R_p d171_23 rfl rfl ?_
  refine R_p d171_25 rfl rfl ?_
  refine R_sln d171_26 ?_
  refine R_nv (v := _) (v' := 5) (show Int32.ofNat 5 = 5 from by decide) ?_
  refine R_ic (v := 5) d171_27 (by decide) ?_
  refine R_p d171_28 rfl rfl ?_
  refine R_nv (v := _) (v' := 0) (by decide) ?_
  refine R_br 956 d171_29 (mb_t (b := ((0 : Int32) < (5 : Int32))) (by decide)) rfl ?_
  refine R_ic (v := 1) d171_956 (by decide) ?_
  exact R_iret d171_957 rfl rfl rfl
set_option maxRecDepth 4000 in
theorem w138 {f : Nat → Int32} (h0 : ((f 1) < 0)) : Run (5, f) 107 (0, [(0, .ref 16), (1, .int (f 1)), (2, .int (f 2))], [], HL0) (.inr 54, HJ1) := by
  refine R_p d107_0 rfl rfl ?_
  refine R_p d107_1 rfl rfl ?_
  refine R_p d107_2 rfl rfl ?_
  exact R_tv [.int (f 1), .int (f 2)] d107_3 (List.mem_of_getElem? (i := 85) rfl) ⟨by decide, by decide, Nat.le_of_ble_eq_true rfl, mcd101⟩ rfl rfl (Nat.le_of_ble_eq_true rfl) rfl rfl rfl (Or.inl (w55 (f := f) h0))
set_option maxRecDepth 4000 in
theorem w139 {f : Nat → Int32} (h0 : ((f 1) < 0)) : Run (5, f) 162 (0, [(0, .ref 16), (1, .int (f 1)), (2, .int (f 2)), (3, .ref 53)], [], HL0) (.inl (some (.int 1)), HJ1) := by
  refine R_p d162_0 rfl rfl ?_
  refine R_ic (v := 0) d162_1 (by decide) ?_
  refine R_p d162_2 rfl rfl ?_
  refine R_p d162_3 rfl rfl ?_
  refine R_p d162_4 rfl rfl ?_
  refine R_tc [.int (f 1), .int (f 2)] d162_5 (List.mem_of_getElem? (i := 116) rfl) ⟨by decide, by decide, Nat.le_of_ble_eq_true rfl, mcd107⟩ rfl rfl (Nat.le_of_ble_eq_true rfl) rfl rfl rfl (cx := 10) (hp := 13) rfl (by decide) (by decide) (by decide) (Or.inl (w138 (f := f) h0)) ?_
  refine R_p (ls' := [(0, .ref 16), (1, .int (f 1)), (2, .int (f 2)), (3, .ref 53), (4, .ref 54)]) d162_13 rfl rfl ?_
  refine R_ic (v := 1) d162_15 (by decide) ?_
  exact R_iret d162_16 rfl rfl rfl
set_option maxRecDepth 4000 in
theorem w140 {f : Nat → Int32} (h0 : ((f 1) < 0)) : Run (5, f) 142 (0, [(0, .ref 42), (1, .int (f 1)), (2, .int (f 2))], [], HJ1) (.inl (some (.int 0)), HJ2) := by
  refine R_p d142_0 rfl rfl ?_
  refine R_p d142_1 rfl rfl ?_
  refine R_p d142_2 rfl rfl ?_
  refine R_p d142_3 rfl rfl ?_
  refine R_cm [.int (f 1), .int (f 2)] d142_4 (List.mem_of_getElem? (i := 168) rfl) rfl ⟨by decide, by decide, Nat.le_of_ble_eq_true rfl, rfl, mcd121⟩ rfl rfl (Nat.le_of_ble_eq_true rfl) rfl rfl (w60 (f := f) h0) ?_
  refine R_br 14 d142_7 (mb_t (b := ((0 : Int32) = (0 : Int32))) (by decide)) rfl ?_
  refine R_ic (v := 1) d142_14 (by decide) ?_
  refine R_cm [.int 1] d142_15 (List.mem_of_getElem? (i := 164) rfl) rfl ⟨by decide, by decide, Nat.le_of_ble_eq_true rfl, rfl, mcd117⟩ rfl rfl (Nat.le_of_ble_eq_true rfl) rfl rfl (w6 (f := f)) ?_
  refine R_nb d142_18 rfl (mb_f (b := ((1 : Int32) = (0 : Int32))) (by decide)) ?_
  refine R_ic (v := 0) d142_21 (by decide) ?_
  exact R_iret d142_22 rfl rfl rfl
set_option maxRecDepth 4000 in
theorem law500_141 {f : Nat → Int32} (h0 : ((f 1) < 0)) : Run (5, f) 171 (500, [(0, .ref 0), (1, .ref 16), (2, .ref 42), (3, .ref 53), (4, .int 0)], [], HL0) (.inl (some (.int 1)), HJ2) := by
  refine R_p d171_500 rfl rfl ?_
  refine R_p d171_501 rfl rfl ?_
  refine R_p d171_502 rfl rfl ?_
  refine R_ic (v := 1) d171_504 (by decide) ?_
  refine R_p d171_505 rfl rfl ?_
  refine R_nv (v := _) (v' := 1) (by decide) ?_
  refine R_sldk (n := 1) (x := (f 1)) d171_506 (vp_ok (by decide)) (by decide) rfl ?_
  refine R_p d171_507 rfl rfl ?_
  refine R_p d171_508 rfl rfl ?_
  refine R_ic (v := 2) d171_510 (by decide) ?_
  refine R_p d171_511 rfl rfl ?_
  refine R_nv (v := _) (v' := 2) (by decide) ?_
  refine R_sldk (n := 2) (x := (f 2)) d171_512 (vp_ok (by decide)) (by decide) rfl ?_
  refine R_p d171_513 rfl rfl ?_
  refine R_hs [.ref 16, .int (f 1), .int (f 2), .ref 53] d171_514 (List.mem_of_getElem? (i := 115) rfl) ⟨by decide, by decide, Nat.le_of_ble_eq_true rfl, mcd162⟩ rfl rfl (Nat.le_of_ble_eq_true rfl) (w139 (f := f) h0) ?_
  refine R_p (ls' := [(0, .ref 0), (1, .ref 16), (2, .ref 42), (3, .ref 53), (4, .int 0), (5, .int 1)]) d171_517 rfl rfl ?_
  refine R_p d171_519 rfl rfl ?_
  refine R_p d171_520 rfl rfl ?_
  refine R_p d171_521 rfl rfl ?_
  refine R_ic (v := 1) d171_523 (by decide) ?_
  refine R_p d171_524 rfl rfl ?_
  refine R_nv (v := _) (v' := 1) (by decide) ?_
  refine R_sldk (n := 1) (x := (f 1)) d171_525 (vp_ok (by decide)) (by decide) rfl ?_
  refine R_p d171_526 rfl rfl ?_
  refine R_p d171_527 rfl rfl ?_
  refine R_ic (v := 2) d171_529 (by decide) ?_
  refine R_p d171_530 rfl rfl ?_
  refine R_nv (v := _) (v' := 2) (by decide) ?_
  refine R_sldk (n := 2) (x := (f 2)) d171_531 (vp_ok (by decide)) (by decide) rfl ?_
  refine R_cm [.int (f 1), .int (f 2)] d171_532 (List.mem_of_getElem? (i := 189) rfl) rfl ⟨by decide, by decide, Nat.le_of_ble_eq_true rfl, rfl, mcd142⟩ rfl rfl (Nat.le_of_ble_eq_true rfl) rfl rfl (w140 (f := f) h0) ?_
  refine R_p (ls' := [(0, .ref 0), (1, .ref 16), (2, .ref 42), (3, .ref 53), (4, .int 0), (5, .int 1), (6, .int 0)]) d171_535 rfl rfl ?_
  refine R_p d171_537 rfl rfl ?_
  refine R_cm [] d171_538 (List.mem_of_getElem? (i := 160) rfl) rfl ⟨by decide, by decide, Nat.le_of_ble_eq_true rfl, rfl, mcd113⟩ rfl rfl (Nat.le_of_ble_eq_true rfl) rfl rfl (w8 (f := f)) ?_
  refine R_p d171_541 rfl rfl ?_
  refine R_br 548 d171_543 (mb_t (b := ((1 : Int32) = (1 : Int32))) (by decide)) rfl ?_
  refine R_p d171_548 rfl rfl ?_
  refine R_br 565 d171_550 (mb_t (b := (¬ (1 : Int32) = (0 : Int32))) (by decide)) rfl ?_
  refine R_br 950 d171_565 rfl rfl ?_
  refine R_p (ls' := [(0, .ref 0), (1, .ref 16), (2, .ref 42), (3, .ref 53), (4, .int 5), (5, .int 1), (6, .int 0)]) d171_950 rfl rfl ?_
  refine R_br 23 d171_953 rfl rfl ?_
  refine R_p d171_23 rfl rfl ?_
  refine R_p d171_25 rfl rfl ?_
  refine R_sln d171_26 ?_
  refine R_nv (v := _) (v' := 5) (show Int32.ofNat 5 = 5 from by decide) ?_
  refine R_ic (v := 5) d171_27 (by decide) ?_
  refine R_p d171_28 rfl rfl ?_
  refine R_nv (v := _) (v' := 0) (by decide) ?_
  refine R_br 956 d171_29 (mb_t (b := ((0 : Int32) < (5 : Int32))) (by decide)) rfl ?_
  refine R_ic (v := 1) d171_956 (by decide) ?_
  exact R_iret d171_957 rfl rfl rfl
set_option maxRecDepth 4000 in
theorem w142 {f : Nat → Int32} (h0 : ¬ ((f 1) < 0)) : Run (5, f) 107 (0, [(0, .ref 16), (1, .int (f 1)), (2, .int (f 2))], [], HL0) (.inr 54, HJ1) := by
  refine R_p d107_0 rfl rfl ?_
  refine R_p d107_1 rfl rfl ?_
  refine R_p d107_2 rfl rfl ?_
  exact R_tv [.int (f 1), .int (f 2)] d107_3 (List.mem_of_getElem? (i := 85) rfl) ⟨by decide, by decide, Nat.le_of_ble_eq_true rfl, mcd101⟩ rfl rfl (Nat.le_of_ble_eq_true rfl) rfl rfl rfl (Or.inl (w65 (f := f) h0))
set_option maxRecDepth 4000 in
theorem w143 {f : Nat → Int32} (h0 : ¬ ((f 1) < 0)) : Run (5, f) 162 (0, [(0, .ref 16), (1, .int (f 1)), (2, .int (f 2)), (3, .ref 53)], [], HL0) (.inl (some (.int 1)), HJ1) := by
  refine R_p d162_0 rfl rfl ?_
  refine R_ic (v := 0) d162_1 (by decide) ?_
  refine R_p d162_2 rfl rfl ?_
  refine R_p d162_3 rfl rfl ?_
  refine R_p d162_4 rfl rfl ?_
  refine R_tc [.int (f 1), .int (f 2)] d162_5 (List.mem_of_getElem? (i := 116) rfl) ⟨by decide, by decide, Nat.le_of_ble_eq_true rfl, mcd107⟩ rfl rfl (Nat.le_of_ble_eq_true rfl) rfl rfl rfl (cx := 10) (hp := 13) rfl (by decide) (by decide) (by decide) (Or.inl (w142 (f := f) h0)) ?_
  refine R_p (ls' := [(0, .ref 16), (1, .int (f 1)), (2, .int (f 2)), (3, .ref 53), (4, .ref 54)]) d162_13 rfl rfl ?_
  refine R_ic (v := 1) d162_15 (by decide) ?_
  exact R_iret d162_16 rfl rfl rfl
set_option maxRecDepth 4000 in
theorem w144 {f : Nat → Int32} (h0 : ¬ ((f 1) < 0)) : Run (5, f) 142 (0, [(0, .ref 42), (1, .int (f 1)), (2, .int (f 2))], [], HJ1) (.inl (some (.int 0)), HJ2) := by
  refine R_p d142_0 rfl rfl ?_
  refine R_p d142_1 rfl rfl ?_
  refine R_p d142_2 rfl rfl ?_
  refine R_p d142_3 rfl rfl ?_
  refine R_cm [.int (f 1), .int (f 2)] d142_4 (List.mem_of_getElem? (i := 168) rfl) rfl ⟨by decide, by decide, Nat.le_of_ble_eq_true rfl, rfl, mcd121⟩ rfl rfl (Nat.le_of_ble_eq_true rfl) rfl rfl (w70 (f := f) h0) ?_
  refine R_br 14 d142_7 (mb_t (b := ((0 : Int32) = (0 : Int32))) (by decide)) rfl ?_
  refine R_ic (v := 1) d142_14 (by decide) ?_
  refine R_cm [.int 1] d142_15 (List.mem_of_getElem? (i := 164) rfl) rfl ⟨by decide, by decide, Nat.le_of_ble_eq_true rfl, rfl, mcd117⟩ rfl rfl (Nat.le_of_ble_eq_true rfl) rfl rfl (w6 (f := f)) ?_
  refine R_nb d142_18 rfl (mb_f (b := ((1 : Int32) = (0 : Int32))) (by decide)) ?_
  refine R_ic (v := 0) d142_21 (by decide) ?_
  exact R_iret d142_22 rfl rfl rfl
set_option maxRecDepth 4000 in
theorem law500_145 {f : Nat → Int32} (h0 : ¬ ((f 1) < 0)) : Run (5, f) 171 (500, [(0, .ref 0), (1, .ref 16), (2, .ref 42), (3, .ref 53), (4, .int 0)], [], HL0) (.inl (some (.int 1)), HJ2) := by
  refine R_p d171_500 rfl rfl ?_
  refine R_p d171_501 rfl rfl ?_
  refine R_p d171_502 rfl rfl ?_
  refine R_ic (v := 1) d171_504 (by decide) ?_
  refine R_p d171_505 rfl rfl ?_
  refine R_nv (v := _) (v' := 1) (by decide) ?_
  refine R_sldk (n := 1) (x := (f 1)) d171_506 (vp_ok (by decide)) (by decide) rfl ?_
  refine R_p d171_507 rfl rfl ?_
  refine R_p d171_508 rfl rfl ?_
  refine R_ic (v := 2) d171_510 (by decide) ?_
  refine R_p d171_511 rfl rfl ?_
  refine R_nv (v := _) (v' := 2) (by decide) ?_
  refine R_sldk (n := 2) (x := (f 2)) d171_512 (vp_ok (by decide)) (by decide) rfl ?_
  refine R_p d171_513 rfl rfl ?_
  refine R_hs [.ref 16, .int (f 1), .int (f 2), .ref 53] d171_514 (List.mem_of_getElem? (i := 115) rfl) ⟨by decide, by decide, Nat.le_of_ble_eq_true rfl, mcd162⟩ rfl rfl (Nat.le_of_ble_eq_true rfl) (w143 (f := f) h0) ?_
  refine R_p (ls' := [(0, .ref 0), (1, .ref 16), (2, .ref 42), (3, .ref 53), (4, .int 0), (5, .int 1)]) d171_517 rfl rfl ?_
  refine R_p d171_519 rfl rfl ?_
  refine R_p d171_520 rfl rfl ?_
  refine R_p d171_521 rfl rfl ?_
  refine R_ic (v := 1) d171_523 (by decide) ?_
  refine R_p d171_524 rfl rfl ?_
  refine R_nv (v := _) (v' := 1) (by decide) ?_
  refine R_sldk (n := 1) (x := (f 1)) d171_525 (vp_ok (by decide)) (by decide) rfl ?_
  refine R_p d171_526 rfl rfl ?_
  refine R_p d171_527 rfl rfl ?_
  refine R_ic (v := 2) d171_529 (by decide) ?_
  refine R_p d171_530 rfl rfl ?_
  refine R_nv (v := _) (v' := 2) (by decide) ?_
  refine R_sldk (n := 2) (x := (f 2)) d171_531 (vp_ok (by decide)) (by decide) rfl ?_
  refine R_cm [.int (f 1), .int (f 2)] d171_532 (List.mem_of_getElem? (i := 189) rfl) rfl ⟨by decide, by decide, Nat.le_of_ble_eq_true rfl, rfl, mcd142⟩ rfl rfl (Nat.le_of_ble_eq_true rfl) rfl rfl (w144 (f := f) h0) ?_
  refine R_p (ls' := [(0, .ref 0), (1, .ref 16), (2, .ref 42), (3, .ref 53), (4, .int 0), (5, .int 1), (6, .int 0)]) d171_535 rfl rfl ?_
  refine R_p d171_537 rfl rfl ?_
  refine R_cm [] d171_538 (List.mem_of_getElem? (i := 160) rfl) rfl ⟨by decide, by decide, Nat.le_of_ble_eq_true rfl, rfl, mcd113⟩ rfl rfl (Nat.le_of_ble_eq_true rfl) rfl rfl (w8 (f := f)) ?_
  refine R_p d171_541 rfl rfl ?_
  refine R_br 548 d171_543 (mb_t (b := ((1 : Int32) = (1 : Int32))) (by decide)) rfl ?_
  refine R_p d171_548 rfl rfl ?_
  refine R_br 565 d171_550 (mb_t (b := (¬ (1 : Int32) = (0 : Int32))) (by decide)) rfl ?_
  refine R_br 950 d171_565 rfl rfl ?_
  refine R_p (ls' := [(0, .ref 0), (1, .ref 16), (2, .ref 42), (3, .ref 53), (4, .int 5), (5, .int 1), (6, .int 0)]) d171_950 rfl rfl ?_
  refine R_br 23 d171_953 rfl rfl ?_
  refine R_p d171_23 rfl rfl ?_
  refine R_p d171_25 rfl rfl ?_
  refine R_sln d171_26 ?_
  refine R_nv (v := _) (v' := 5) (show Int32.ofNat 5 = 5 from by decide) ?_
  refine R_ic (v := 5) d171_27 (by decide) ?_
  refine R_p d171_28 rfl rfl ?_
  refine R_nv (v := _) (v' := 0) (by decide) ?_
  refine R_br 956 d171_29 (mb_t (b := ((0 : Int32) < (5 : Int32))) (by decide)) rfl ?_
  refine R_ic (v := 1) d171_956 (by decide) ?_
  exact R_iret d171_957 rfl rfl rfl
set_option maxRecDepth 4000 in
theorem w146 {f : Nat → Int32} (h0 : ((f 1) < 0)) : Run (5, f) 108 (0, [(0, .ref 16), (1, .int (f 1)), (2, .int (f 2)), (3, .int (f 3))], [], HL0) (.inr 54, HJ1) := by
  refine R_p d108_0 rfl rfl ?_
  refine R_p d108_1 rfl rfl ?_
  exact R_tv [.int (f 1)] d108_2 (List.mem_of_getElem? (i := 86) rfl) ⟨by decide, by decide, Nat.le_of_ble_eq_true rfl, mcd102⟩ rfl rfl (Nat.le_of_ble_eq_true rfl) rfl rfl rfl (Or.inr (w54 (f := f) h0))
set_option maxRecDepth 4000 in
theorem w147 {f : Nat → Int32} (h0 : ((f 1) < 0)) : Run (5, f) 163 (0, [(0, .ref 16), (1, .int (f 1)), (2, .int (f 2)), (3, .int (f 3)), (4, .ref 53)], [], HL0) (.inl (some (.int 1)), HJ1) := by
  refine R_p d163_0 rfl rfl ?_
  refine R_ic (v := 0) d163_2 (by decide) ?_
  refine R_p d163_3 rfl rfl ?_
  refine R_p d163_4 rfl rfl ?_
  refine R_p d163_5 rfl rfl ?_
  refine R_p d163_6 rfl rfl ?_
  refine R_tc [.int (f 1), .int (f 2), .int (f 3)] d163_7 (List.mem_of_getElem? (i := 119) rfl) ⟨by decide, by decide, Nat.le_of_ble_eq_true rfl, mcd108⟩ rfl rfl (Nat.le_of_ble_eq_true rfl) rfl rfl rfl (cx := 10) (hp := 15) rfl (by decide) (by decide) (by decide) (Or.inl (w146 (f := f) h0)) ?_
  refine R_p (ls' := [(0, .ref 16), (1, .int (f 1)), (2, .int (f 2)), (3, .int (f 3)), (4, .ref 53), (5, .ref 54)]) d163_15 rfl rfl ?_
  refine R_ic (v := 1) d163_17 (by decide) ?_
  exact R_iret d163_18 rfl rfl rfl
set_option maxRecDepth 4000 in
theorem w148 {f : Nat → Int32} (h0 : ((f 1) < 0)) : Run (5, f) 143 (0, [(0, .ref 42), (1, .int (f 1)), (2, .int (f 2)), (3, .int (f 3))], [], HJ1) (.inl (some (.int 0)), HJ2) := by
  refine R_p d143_0 rfl rfl ?_
  refine R_p d143_1 rfl rfl ?_
  refine R_p d143_2 rfl rfl ?_
  refine R_cm [.int (f 1)] d143_3 (List.mem_of_getElem? (i := 169) rfl) rfl ⟨by decide, by decide, Nat.le_of_ble_eq_true rfl, rfl, mcd122⟩ rfl rfl (Nat.le_of_ble_eq_true rfl) rfl rfl (w59 (f := f) h0) ?_
  refine R_br 29 d143_6 (mb_t (b := ((0 : Int32) = (0 : Int32))) (by decide)) rfl ?_
  refine R_ic (v := 1) d143_29 (by decide) ?_
  refine R_cm [.int 1] d143_30 (List.mem_of_getElem? (i := 164) rfl) rfl ⟨by decide, by decide, Nat.le_of_ble_eq_true rfl, rfl, mcd117⟩ rfl rfl (Nat.le_of_ble_eq_true rfl) rfl rfl (w6 (f := f)) ?_
  refine R_nb d143_33 rfl (mb_f (b := ((1 : Int32) = (0 : Int32))) (by decide)) ?_
  refine R_ic (v := 0) d143_36 (by decide) ?_
  refine R_br 47 d143_37 rfl rfl ?_
  exact R_iret d143_47 rfl rfl rfl
set_option maxRecDepth 4000 in
theorem law568_149 {f : Nat → Int32} (h0 : ((f 1) < 0)) : Run (5, f) 171 (568, [(0, .ref 0), (1, .ref 16), (2, .ref 42), (3, .ref 53), (4, .int 0)], [], HL0) (.inl (some (.int 1)), HJ2) := by
  refine R_p d171_568 rfl rfl ?_
  refine R_p d171_569 rfl rfl ?_
  refine R_p d171_570 rfl rfl ?_
  refine R_ic (v := 1) d171_572 (by decide) ?_
  refine R_p d171_573 rfl rfl ?_
  refine R_nv (v := _) (v' := 1) (by decide) ?_
  refine R_sldk (n := 1) (x := (f 1)) d171_574 (vp_ok (by decide)) (by decide) rfl ?_
  refine R_p d171_575 rfl rfl ?_
  refine R_p d171_576 rfl rfl ?_
  refine R_ic (v := 2) d171_578 (by decide) ?_
  refine R_p d171_579 rfl rfl ?_
  refine R_nv (v := _) (v' := 2) (by decide) ?_
  refine R_sldk (n := 2) (x := (f 2)) d171_580 (vp_ok (by decide)) (by decide) rfl ?_
  refine R_p d171_581 rfl rfl ?_
  refine R_p d171_582 rfl rfl ?_
  refine R_ic (v := 3) d171_584 (by decide) ?_
  refine R_p d171_585 rfl rfl ?_
  refine R_nv (v := _) (v' := 3) (by decide) ?_
  refine R_sldk (n := 3) (x := (f 3)) d171_586 (vp_ok (by decide)) (by decide) rfl ?_
  refine R_p d171_587 rfl rfl ?_
  refine R_hs [.ref 16, .int (f 1), .int (f 2), .int (f 3), .ref 53] d171_588 (List.mem_of_getElem? (i := 118) rfl) ⟨by decide, by decide, Nat.le_of_ble_eq_true rfl, mcd163⟩ rfl rfl (Nat.le_of_ble_eq_true rfl) (w147 (f := f) h0) ?_
  refine R_p (ls' := [(0, .ref 0), (1, .ref 16), (2, .ref 42), (3, .ref 53), (4, .int 0), (5, .int 1)]) d171_591 rfl rfl ?_
  refine R_p d171_593 rfl rfl ?_
  refine R_p d171_594 rfl rfl ?_
  refine R_p d171_595 rfl rfl ?_
  refine R_ic (v := 1) d171_597 (by decide) ?_
  refine R_p d171_598 rfl rfl ?_
  refine R_nv (v := _) (v' := 1) (by decide) ?_
  refine R_sldk (n := 1) (x := (f 1)) d171_599 (vp_ok (by decide)) (by decide) rfl ?_
  refine R_p d171_600 rfl rfl ?_
  refine R_p d171_601 rfl rfl ?_
  refine R_ic (v := 2) d171_603 (by decide) ?_
  refine R_p d171_604 rfl rfl ?_
  refine R_nv (v := _) (v' := 2) (by decide) ?_
  refine R_sldk (n := 2) (x := (f 2)) d171_605 (vp_ok (by decide)) (by decide) rfl ?_
  refine R_p d171_606 rfl rfl ?_
  refine R_p d171_607 rfl rfl ?_
  refine R_ic (v := 3) d171_609 (by decide) ?_
  refine R_p d171_610 rfl rfl ?_
  refine R_nv (v := _) (v' := 3) (by decide) ?_
  refine R_sldk (n := 3) (x := (f 3)) d171_611 (vp_ok (by decide)) (by decide) rfl ?_
  refine R_cm [.int (f 1), .int (f 2), .int (f 3)] d171_612 (List.mem_of_getElem? (i := 190) rfl) rfl ⟨by decide, by decide, Nat.le_of_ble_eq_true rfl, rfl, mcd143⟩ rfl rfl (Nat.le_of_ble_eq_true rfl) rfl rfl (w148 (f := f) h0) ?_
  refine R_p (ls' := [(0, .ref 0), (1, .ref 16), (2, .ref 42), (3, .ref 53), (4, .int 0), (5, .int 1), (6, .int 0)]) d171_615 rfl rfl ?_
  refine R_p d171_617 rfl rfl ?_
  refine R_cm [] d171_618 (List.mem_of_getElem? (i := 160) rfl) rfl ⟨by decide, by decide, Nat.le_of_ble_eq_true rfl, rfl, mcd113⟩ rfl rfl (Nat.le_of_ble_eq_true rfl) rfl rfl (w8 (f := f)) ?_
  refine R_p d171_621 rfl rfl ?_
  refine R_br 628 d171_623 (mb_t (b := ((1 : Int32) = (1 : Int32))) (by decide)) rfl ?_
  refine R_p d171_628 rfl rfl ?_
  refine R_br 645 d171_630 (mb_t (b := (¬ (1 : Int32) = (0 : Int32))) (by decide)) rfl ?_
  refine R_br 950 d171_645 rfl rfl ?_
  refine R_p (ls' := [(0, .ref 0), (1, .ref 16), (2, .ref 42), (3, .ref 53), (4, .int 5), (5, .int 1), (6, .int 0)]) d171_950 rfl rfl ?_
  refine R_br 23 d171_953 rfl rfl ?_
  refine R_p d171_23 rfl rfl ?_
  refine R_p d171_25 rfl rfl ?_
  refine R_sln d171_26 ?_
  refine R_nv (v := _) (v' := 5) (show Int32.ofNat 5 = 5 from by decide) ?_
  refine R_ic (v := 5) d171_27 (by decide) ?_
  refine R_p d171_28 rfl rfl ?_
  refine R_nv (v := _) (v' := 0) (by decide) ?_
  refine R_br 956 d171_29 (mb_t (b := ((0 : Int32) < (5 : Int32))) (by decide)) rfl ?_
  refine R_ic (v := 1) d171_956 (by decide) ?_
  exact R_iret d171_957 rfl rfl rfl
set_option maxRecDepth 4000 in
theorem w150 {f : Nat → Int32} (h0 : ¬ ((f 1) < 0)) : Run (5, f) 108 (0, [(0, .ref 16), (1, .int (f 1)), (2, .int (f 2)), (3, .int (f 3))], [], HL0) (.inr 54, HJ1) := by
  refine R_p d108_0 rfl rfl ?_
  refine R_p d108_1 rfl rfl ?_
  exact R_tv [.int (f 1)] d108_2 (List.mem_of_getElem? (i := 86) rfl) ⟨by decide, by decide, Nat.le_of_ble_eq_true rfl, mcd102⟩ rfl rfl (Nat.le_of_ble_eq_true rfl) rfl rfl rfl (Or.inr (w64 (f := f) h0))
set_option maxRecDepth 4000 in
theorem w151 {f : Nat → Int32} (h0 : ¬ ((f 1) < 0)) : Run (5, f) 163 (0, [(0, .ref 16), (1, .int (f 1)), (2, .int (f 2)), (3, .int (f 3)), (4, .ref 53)], [], HL0) (.inl (some (.int 1)), HJ1) := by
  refine R_p d163_0 rfl rfl ?_
  refine R_ic (v := 0) d163_2 (by decide) ?_
  refine R_p d163_3 rfl rfl ?_
  refine R_p d163_4 rfl rfl ?_
  refine R_p d163_5 rfl rfl ?_
  refine R_p d163_6 rfl rfl ?_
  refine R_tc [.int (f 1), .int (f 2), .int (f 3)] d163_7 (List.mem_of_getElem? (i := 119) rfl) ⟨by decide, by decide, Nat.le_of_ble_eq_true rfl, mcd108⟩ rfl rfl (Nat.le_of_ble_eq_true rfl) rfl rfl rfl (cx := 10) (hp := 15) rfl (by decide) (by decide) (by decide) (Or.inl (w150 (f := f) h0)) ?_
  refine R_p (ls' := [(0, .ref 16), (1, .int (f 1)), (2, .int (f 2)), (3, .int (f 3)), (4, .ref 53), (5, .ref 54)]) d163_15 rfl rfl ?_
  refine R_ic (v := 1) d163_17 (by decide) ?_
  exact R_iret d163_18 rfl rfl rfl
set_option maxRecDepth 4000 in
theorem w152 {f : Nat → Int32} (h0 : ¬ ((f 1) < 0)) : Run (5, f) 143 (0, [(0, .ref 42), (1, .int (f 1)), (2, .int (f 2)), (3, .int (f 3))], [], HJ1) (.inl (some (.int 0)), HJ2) := by
  refine R_p d143_0 rfl rfl ?_
  refine R_p d143_1 rfl rfl ?_
  refine R_p d143_2 rfl rfl ?_
  refine R_cm [.int (f 1)] d143_3 (List.mem_of_getElem? (i := 169) rfl) rfl ⟨by decide, by decide, Nat.le_of_ble_eq_true rfl, rfl, mcd122⟩ rfl rfl (Nat.le_of_ble_eq_true rfl) rfl rfl (w69 (f := f) h0) ?_
  refine R_br 29 d143_6 (mb_t (b := ((0 : Int32) = (0 : Int32))) (by decide)) rfl ?_
  refine R_ic (v := 1) d143_29 (by decide) ?_
  refine R_cm [.int 1] d143_30 (List.mem_of_getElem? (i := 164) rfl) rfl ⟨by decide, by decide, Nat.le_of_ble_eq_true rfl, rfl, mcd117⟩ rfl rfl (Nat.le_of_ble_eq_true rfl) rfl rfl (w6 (f := f)) ?_
  refine R_nb d143_33 rfl (mb_f (b := ((1 : Int32) = (0 : Int32))) (by decide)) ?_
  refine R_ic (v := 0) d143_36 (by decide) ?_
  refine R_br 47 d143_37 rfl rfl ?_
  exact R_iret d143_47 rfl rfl rfl
set_option maxRecDepth 4000 in
theorem law568_153 {f : Nat → Int32} (h0 : ¬ ((f 1) < 0)) : Run (5, f) 171 (568, [(0, .ref 0), (1, .ref 16), (2, .ref 42), (3, .ref 53), (4, .int 0)], [], HL0) (.inl (some (.int 1)), HJ2) := by
  refine R_p d171_568 rfl rfl ?_
  refine R_p d171_569 rfl rfl ?_
  refine R_p d171_570 rfl rfl ?_
  refine R_ic (v := 1) d171_572 (by decide) ?_
  refine R_p d171_573 rfl rfl ?_
  refine R_nv (v := _) (v' := 1) (by decide) ?_
  refine R_sldk (n := 1) (x := (f 1)) d171_574 (vp_ok (by decide)) (by decide) rfl ?_
  refine R_p d171_575 rfl rfl ?_
  refine R_p d171_576 rfl rfl ?_
  refine R_ic (v := 2) d171_578 (by decide) ?_
  refine R_p d171_579 rfl rfl ?_
  refine R_nv (v := _) (v' := 2) (by decide) ?_
  refine R_sldk (n := 2) (x := (f 2)) d171_580 (vp_ok (by decide)) (by decide) rfl ?_
  refine R_p d171_581 rfl rfl ?_
  refine R_p d171_582 rfl rfl ?_
  refine R_ic (v := 3) d171_584 (by decide) ?_
  refine R_p d171_585 rfl rfl ?_
  refine R_nv (v := _) (v' := 3) (by decide) ?_
  refine R_sldk (n := 3) (x := (f 3)) d171_586 (vp_ok (by decide)) (by decide) rfl ?_
  refine R_p d171_587 rfl rfl ?_
  refine R_hs [.ref 16, .int (f 1), .int (f 2), .int (f 3), .ref 53] d171_588 (List.mem_of_getElem? (i := 118) rfl) ⟨by decide, by decide, Nat.le_of_ble_eq_true rfl, mcd163⟩ rfl rfl (Nat.le_of_ble_eq_true rfl) (w151 (f := f) h0) ?_
  refine R_p (ls' := [(0, .ref 0), (1, .ref 16), (2, .ref 42), (3, .ref 53), (4, .int 0), (5, .int 1)]) d171_591 rfl rfl ?_
  refine R_p d171_593 rfl rfl ?_
  refine R_p d171_594 rfl rfl ?_
  refine R_p d171_595 rfl rfl ?_
  refine R_ic (v := 1) d171_597 (by decide) ?_
  refine R_p d171_598 rfl rfl ?_
  refine R_nv (v := _) (v' := 1) (by decide) ?_
  refine R_sldk (n := 1) (x := (f 1)) d171_599 (vp_ok (by decide)) (by decide) rfl ?_
  refine R_p d171_600 rfl rfl ?_
  refine R_p d171_601 rfl rfl ?_
  refine R_ic (v := 2) d171_603 (by decide) ?_
  refine R_p d171_604 rfl rfl ?_
  refine R_nv (v := _) (v' := 2) (by decide) ?_
  refine R_sldk (n := 2) (x := (f 2)) d171_605 (vp_ok (by decide)) (by decide) rfl ?_
  refine R_p d171_606 rfl rfl ?_
  refine R_p d171_607 rfl rfl ?_
  refine R_ic (v := 3) d171_609 (by decide) ?_
  refine R_p d171_610 rfl rfl ?_
  refine R_nv (v := _) (v' := 3) (by decide) ?_
  refine R_sldk (n := 3) (x := (f 3)) d171_611 (vp_ok (by decide)) (by decide) rfl ?_
  refine R_cm [.int (f 1), .int (f 2), .int (f 3)] d171_612 (List.mem_of_getElem? (i := 190) rfl) rfl ⟨by decide, by decide, Nat.le_of_ble_eq_true rfl, rfl, mcd143⟩ rfl rfl (Nat.le_of_ble_eq_true rfl) rfl rfl (w152 (f := f) h0) ?_
  refine R_p (ls' := [(0, .ref 0), (1, .ref 16), (2, .ref 42), (3, .ref 53), (4, .int 0), (5, .int 1), (6, .int 0)]) d171_615 rfl rfl ?_
  refine R_p d171_617 rfl rfl ?_
  refine R_cm [] d171_618 (List.mem_of_getElem? (i := 160) rfl) rfl ⟨by decide, by decide, Nat.le_of_ble_eq_true rfl, rfl, mcd113⟩ rfl rfl (Nat.le_of_ble_eq_true rfl) rfl rfl (w8 (f := f)) ?_
  refine R_p d171_621 rfl rfl ?_
  refine R_br 628 d171_623 (mb_t (b := ((1 : Int32) = (1 : Int32))) (by decide)) rfl ?_
  refine R_p d171_628 rfl rfl ?_
  refine R_br 645 d171_630 (mb_t (b := (¬ (1 : Int32) = (0 : Int32))) (by decide)) rfl ?_
  refine R_br 950 d171_645 rfl rfl ?_
  refine R_p (ls' := [(0, .ref 0), (1, .ref 16), (2, .ref 42), (3, .ref 53), (4, .int 5), (5, .int 1), (6, .int 0)]) d171_950 rfl rfl ?_
  refine R_br 23 d171_953 rfl rfl ?_
  refine R_p d171_23 rfl rfl ?_
  refine R_p d171_25 rfl rfl ?_
  refine R_sln d171_26 ?_
  refine R_nv (v := _) (v' := 5) (show Int32.ofNat 5 = 5 from by decide) ?_
  refine R_ic (v := 5) d171_27 (by decide) ?_
  refine R_p d171_28 rfl rfl ?_
  refine R_nv (v := _) (v' := 0) (by decide) ?_
  refine R_br 956 d171_29 (mb_t (b := ((0 : Int32) < (5 : Int32))) (by decide)) rfl ?_
  refine R_ic (v := 1) d171_956 (by decide) ?_
  exact R_iret d171_957 rfl rfl rfl
set_option maxRecDepth 4000 in
theorem w154 {f : Nat → Int32} (h0 : ((f 1) < 0)) : Run (5, f) 109 (0, [(0, .ref 16), (1, .int (f 1)), (2, .int (f 2)), (3, .int (f 3)), (4, .int (f 4))], [], HL0) (.inr 54, HJ1) := by
  refine R_p d109_0 rfl rfl ?_
  refine R_p d109_1 rfl rfl ?_
  exact R_tv [.int (f 1)] d109_2 (List.mem_of_getElem? (i := 86) rfl) ⟨by decide, by decide, Nat.le_of_ble_eq_true rfl, mcd102⟩ rfl rfl (Nat.le_of_ble_eq_true rfl) rfl rfl rfl (Or.inr (w54 (f := f) h0))
set_option maxRecDepth 4000 in
theorem w155 {f : Nat → Int32} (h0 : ((f 1) < 0)) : Run (5, f) 164 (0, [(0, .ref 16), (1, .int (f 1)), (2, .int (f 2)), (3, .int (f 3)), (4, .int (f 4)), (5, .ref 53)], [], HL0) (.inl (some (.int 1)), HJ1) := by
  refine R_p d164_0 rfl rfl ?_
  refine R_ic (v := 0) d164_2 (by decide) ?_
  refine R_p d164_3 rfl rfl ?_
  refine R_p d164_4 rfl rfl ?_
  refine R_p d164_5 rfl rfl ?_
  refine R_p d164_6 rfl rfl ?_
  refine R_p d164_7 rfl rfl ?_
  refine R_tc [.int (f 1), .int (f 2), .int (f 3), .int (f 4)] d164_9 (List.mem_of_getElem? (i := 122) rfl) ⟨by decide, by decide, Nat.le_of_ble_eq_true rfl, mcd109⟩ rfl rfl (Nat.le_of_ble_eq_true rfl) rfl rfl rfl (cx := 10) (hp := 17) rfl (by decide) (by decide) (by decide) (Or.inl (w154 (f := f) h0)) ?_
  refine R_p (ls' := [(0, .ref 16), (1, .int (f 1)), (2, .int (f 2)), (3, .int (f 3)), (4, .int (f 4)), (5, .ref 53), (6, .ref 54)]) d164_17 rfl rfl ?_
  refine R_ic (v := 1) d164_19 (by decide) ?_
  exact R_iret d164_20 rfl rfl rfl
set_option maxRecDepth 4000 in
theorem w156 {f : Nat → Int32} (h0 : ((f 1) < 0)) : Run (5, f) 144 (0, [(0, .ref 42), (1, .int (f 1)), (2, .int (f 2)), (3, .int (f 3)), (4, .int (f 4))], [], HJ1) (.inl (some (.int 0)), HJ2) := by
  refine R_p d144_0 rfl rfl ?_
  refine R_p d144_1 rfl rfl ?_
  refine R_cm [.int (f 1)] d144_2 (List.mem_of_getElem? (i := 169) rfl) rfl ⟨by decide, by decide, Nat.le_of_ble_eq_true rfl, rfl, mcd122⟩ rfl rfl (Nat.le_of_ble_eq_true rfl) rfl rfl (w59 (f := f) h0) ?_
  refine R_br 37 d144_5 (mb_t (b := ((0 : Int32) = (0 : Int32))) (by decide)) rfl ?_
  refine R_ic (v := 0) d144_37 (by decide) ?_
  refine R_p (ls' := [(0, .ref 42), (1, .int (f 1)), (2, .int (f 2)), (3, .int (f 3)), (4, .int (f 4)), (5, .int 0)]) d144_38 rfl rfl ?_
  refine R_p d144_40 rfl rfl ?_
  refine R_p d144_41 rfl rfl ?_
  refine R_br 60 d144_43 (mb_t (b := ((0 : Int32) = (0 : Int32))) (by decide)) rfl ?_
  refine R_ic (v := 1) d144_60 (by decide) ?_
  refine R_cm [.int 1] d144_61 (List.mem_of_getElem? (i := 164) rfl) rfl ⟨by decide, by decide, Nat.le_of_ble_eq_true rfl, rfl, mcd117⟩ rfl rfl (Nat.le_of_ble_eq_true rfl) rfl rfl (w6 (f := f)) ?_
  refine R_nb d144_64 rfl (mb_f (b := ((1 : Int32) = (0 : Int32))) (by decide)) ?_
  refine R_ic (v := 0) d144_67 (by decide) ?_
  exact R_iret d144_68 rfl rfl rfl
set_option maxRecDepth 4000 in
theorem law648_157 {f : Nat → Int32} (h0 : ((f 1) < 0)) : Run (5, f) 171 (648, [(0, .ref 0), (1, .ref 16), (2, .ref 42), (3, .ref 53), (4, .int 0)], [], HL0) (.inl (some (.int 1)), HJ2) := by
  refine R_p d171_648 rfl rfl ?_
  refine R_p d171_649 rfl rfl ?_
  refine R_p d171_650 rfl rfl ?_
  refine R_ic (v := 1) d171_652 (by decide) ?_
  refine R_p d171_653 rfl rfl ?_
  refine R_nv (v := _) (v' := 1) (by decide) ?_
  refine R_sldk (n := 1) (x := (f 1)) d171_654 (vp_ok (by decide)) (by decide) rfl ?_
  refine R_p d171_655 rfl rfl ?_
  refine R_p d171_656 rfl rfl ?_
  refine R_ic (v := 2) d171_658 (by decide) ?_
  refine R_p d171_659 rfl rfl ?_
  refine R_nv (v := _) (v' := 2) (by decide) ?_
  refine R_sldk (n := 2) (x := (f 2)) d171_660 (vp_ok (by decide)) (by decide) rfl ?_
  refine R_p d171_661 rfl rfl ?_
  refine R_p d171_662 rfl rfl ?_
  refine R_ic (v := 3) d171_664 (by decide) ?_
  refine R_p d171_665 rfl rfl ?_
  refine R_nv (v := _) (v' := 3) (by decide) ?_
  refine R_sldk (n := 3) (x := (f 3)) d171_666 (vp_ok (by decide)) (by decide) rfl ?_
  refine R_p d171_667 rfl rfl ?_
  refine R_p d171_668 rfl rfl ?_
  refine R_ic (v := 4) d171_670 (by decide) ?_
  refine R_p d171_671 rfl rfl ?_
  refine R_nv (v := _) (v' := 4) (by decide) ?_
  refine R_sldk (n := 4) (x := (f 4)) d171_672 (vp_ok (by decide)) (by decide) rfl ?_
  refine R_p d171_673 rfl rfl ?_
  refine R_hs [.ref 16, .int (f 1), .int (f 2), .int (f 3), .int (f 4), .ref 53] d171_674 (List.mem_of_getElem? (i := 121) rfl) ⟨by decide, by decide, Nat.le_of_ble_eq_true rfl, mcd164⟩ rfl rfl (Nat.le_of_ble_eq_true rfl) (w155 (f := f) h0) ?_
  refine R_p (ls' := [(0, .ref 0), (1, .ref 16), (2, .ref 42), (3, .ref 53), (4, .int 0), (5, .int 1)]) d171_677 rfl rfl ?_
  refine R_p d171_679 rfl rfl ?_
  refine R_p d171_680 rfl rfl ?_
  refine R_p d171_681 rfl rfl ?_
  refine R_ic (v := 1) d171_683 (by decide) ?_
  refine R_p d171_684 rfl rfl ?_
  refine R_nv (v := _) (v' := 1) (by decide) ?_
  refine R_sldk (n := 1) (x := (f 1)) d171_685 (vp_ok (by decide)) (by decide) rfl ?_
  refine R_p d171_686 rfl rfl ?_
  refine R_p d171_687 rfl rfl ?_
  refine R_ic (v := 2) d171_689 (by decide) ?_
  refine R_p d171_690 rfl rfl ?_
  refine R_nv (v := _) (v' := 2) (by decide) ?_
  refine R_sldk (n := 2) (x := (f 2)) d171_691 (vp_ok (by decide)) (by decide) rfl ?_
  refine R_p d171_692 rfl rfl ?_
  refine R_p d171_693 rfl rfl ?_
  refine R_ic (v := 3) d171_695 (by decide) ?_
  refine R_p d171_696 rfl rfl ?_
  refine R_nv (v := _) (v' := 3) (by decide) ?_
  refine R_sldk (n := 3) (x := (f 3)) d171_697 (vp_ok (by decide)) (by decide) rfl ?_
  refine R_p d171_698 rfl rfl ?_
  refine R_p d171_699 rfl rfl ?_
  refine R_ic (v := 4) d171_701 (by decide) ?_
  refine R_p d171_702 rfl rfl ?_
  refine R_nv (v := _) (v' := 4) (by decide) ?_
  refine R_sldk (n := 4) (x := (f 4)) d171_703 (vp_ok (by decide)) (by decide) rfl ?_
  refine R_cm [.int (f 1), .int (f 2), .int (f 3), .int (f 4)] d171_704 (List.mem_of_getElem? (i := 191) rfl) rfl ⟨by decide, by decide, Nat.le_of_ble_eq_true rfl, rfl, mcd144⟩ rfl rfl (Nat.le_of_ble_eq_true rfl) rfl rfl (w156 (f := f) h0) ?_
  refine R_p (ls' := [(0, .ref 0), (1, .ref 16), (2, .ref 42), (3, .ref 53), (4, .int 0), (5, .int 1), (6, .int 0)]) d171_707 rfl rfl ?_
  refine R_p d171_709 rfl rfl ?_
  refine R_cm [] d171_710 (List.mem_of_getElem? (i := 160) rfl) rfl ⟨by decide, by decide, Nat.le_of_ble_eq_true rfl, rfl, mcd113⟩ rfl rfl (Nat.le_of_ble_eq_true rfl) rfl rfl (w8 (f := f)) ?_
  refine R_p d171_713 rfl rfl ?_
  refine R_br 720 d171_715 (mb_t (b := ((1 : Int32) = (1 : Int32))) (by decide)) rfl ?_
  refine R_p d171_720 rfl rfl ?_
  refine R_br 737 d171_722 (mb_t (b := (¬ (1 : Int32) = (0 : Int32))) (by decide)) rfl ?_
  refine R_br 950 d171_737 rfl rfl ?_
  refine R_p (ls' := [(0, .ref 0), (1, .ref 16), (2, .ref 42), (3, .ref 53), (4, .int 5), (5, .int 1), (6, .int 0)]) d171_950 rfl rfl ?_
  refine R_br 23 d171_953 rfl rfl ?_
  refine R_p d171_23 rfl rfl ?_
  refine R_p d171_25 rfl rfl ?_
  refine R_sln d171_26 ?_
  refine R_nv (v := _) (v' := 5) (show Int32.ofNat 5 = 5 from by decide) ?_
  refine R_ic (v := 5) d171_27 (by decide) ?_
  refine R_p d171_28 rfl rfl ?_
  refine R_nv (v := _) (v' := 0) (by decide) ?_
  refine R_br 956 d171_29 (mb_t (b := ((0 : Int32) < (5 : Int32))) (by decide)) rfl ?_
  refine R_ic (v := 1) d171_956 (by decide) ?_
  exact R_iret d171_957 rfl rfl rfl
set_option maxRecDepth 4000 in
theorem w158 {f : Nat → Int32} (h0 : ¬ ((f 1) < 0)) : Run (5, f) 109 (0, [(0, .ref 16), (1, .int (f 1)), (2, .int (f 2)), (3, .int (f 3)), (4, .int (f 4))], [], HL0) (.inr 54, HJ1) := by
  refine R_p d109_0 rfl rfl ?_
  refine R_p d109_1 rfl rfl ?_
  exact R_tv [.int (f 1)] d109_2 (List.mem_of_getElem? (i := 86) rfl) ⟨by decide, by decide, Nat.le_of_ble_eq_true rfl, mcd102⟩ rfl rfl (Nat.le_of_ble_eq_true rfl) rfl rfl rfl (Or.inr (w64 (f := f) h0))
set_option maxRecDepth 4000 in
theorem w159 {f : Nat → Int32} (h0 : ¬ ((f 1) < 0)) : Run (5, f) 164 (0, [(0, .ref 16), (1, .int (f 1)), (2, .int (f 2)), (3, .int (f 3)), (4, .int (f 4)), (5, .ref 53)], [], HL0) (.inl (some (.int 1)), HJ1) := by
  refine R_p d164_0 rfl rfl ?_
  refine R_ic (v := 0) d164_2 (by decide) ?_
  refine R_p d164_3 rfl rfl ?_
  refine R_p d164_4 rfl rfl ?_
  refine R_p d164_5 rfl rfl ?_
  refine R_p d164_6 rfl rfl ?_
  refine R_p d164_7 rfl rfl ?_
  refine R_tc [.int (f 1), .int (f 2), .int (f 3), .int (f 4)] d164_9 (List.mem_of_getElem? (i := 122) rfl) ⟨by decide, by decide, Nat.le_of_ble_eq_true rfl, mcd109⟩ rfl rfl (Nat.le_of_ble_eq_true rfl) rfl rfl rfl (cx := 10) (hp := 17) rfl (by decide) (by decide) (by decide) (Or.inl (w158 (f := f) h0)) ?_
  refine R_p (ls' := [(0, .ref 16), (1, .int (f 1)), (2, .int (f 2)), (3, .int (f 3)), (4, .int (f 4)), (5, .ref 53), (6, .ref 54)]) d164_17 rfl rfl ?_
  refine R_ic (v := 1) d164_19 (by decide) ?_
  exact R_iret d164_20 rfl rfl rfl
set_option maxRecDepth 4000 in
theorem w160 {f : Nat → Int32} (h0 : ¬ ((f 1) < 0)) : Run (5, f) 144 (0, [(0, .ref 42), (1, .int (f 1)), (2, .int (f 2)), (3, .int (f 3)), (4, .int (f 4))], [], HJ1) (.inl (some (.int 0)), HJ2) := by
  refine R_p d144_0 rfl rfl ?_
  refine R_p d144_1 rfl rfl ?_
  refine R_cm [.int (f 1)] d144_2 (List.mem_of_getElem? (i := 169) rfl) rfl ⟨by decide, by decide, Nat.le_of_ble_eq_true rfl, rfl, mcd122⟩ rfl rfl (Nat.le_of_ble_eq_true rfl) rfl rfl (w69 (f := f) h0) ?_
  refine R_br 37 d144_5 (mb_t (b := ((0 : Int32) = (0 : Int32))) (by decide)) rfl ?_
  refine R_ic (v := 0) d144_37 (by decide) ?_
  refine R_p (ls' := [(0, .ref 42), (1, .int (f 1)), (2, .int (f 2)), (3, .int (f 3)), (4, .int (f 4)), (5, .int 0)]) d144_38 rfl rfl ?_
  refine R_p d144_40 rfl rfl ?_
  refine R_p d144_41 rfl rfl ?_
  refine R_br 60 d144_43 (mb_t (b := ((0 : Int32) = (0 : Int32))) (by decide)) rfl ?_
  refine R_ic (v := 1) d144_60 (by decide) ?_
  refine R_cm [.int 1] d144_61 (List.mem_of_getElem? (i := 164) rfl) rfl ⟨by decide, by decide, Nat.le_of_ble_eq_true rfl, rfl, mcd117⟩ rfl rfl (Nat.le_of_ble_eq_true rfl) rfl rfl (w6 (f := f)) ?_
  refine R_nb d144_64 rfl (mb_f (b := ((1 : Int32) = (0 : Int32))) (by decide)) ?_
  refine R_ic (v := 0) d144_67 (by decide) ?_
  exact R_iret d144_68 rfl rfl rfl
set_option maxRecDepth 4000 in
theorem law648_161 {f : Nat → Int32} (h0 : ¬ ((f 1) < 0)) : Run (5, f) 171 (648, [(0, .ref 0), (1, .ref 16), (2, .ref 42), (3, .ref 53), (4, .int 0)], [], HL0) (.inl (some (.int 1)), HJ2) := by
  refine R_p d171_648 rfl rfl ?_
  refine R_p d171_649 rfl rfl ?_
  refine R_p d171_650 rfl rfl ?_
  refine R_ic (v := 1) d171_652 (by decide) ?_
  refine R_p d171_653 rfl rfl ?_
  refine R_nv (v := _) (v' := 1) (by decide) ?_
  refine R_sldk (n := 1) (x := (f 1)) d171_654 (vp_ok (by decide)) (by decide) rfl ?_
  refine R_p d171_655 rfl rfl ?_
  refine R_p d171_656 rfl rfl ?_
  refine R_ic (v := 2) d171_658 (by decide) ?_
  refine R_p d171_659 rfl rfl ?_
  refine R_nv (v := _) (v' := 2) (by decide) ?_
  refine R_sldk (n := 2) (x := (f 2)) d171_660 (vp_ok (by decide)) (by decide) rfl ?_
  refine R_p d171_661 rfl rfl ?_
  refine R_p d171_662 rfl rfl ?_
  refine R_ic (v := 3) d171_664 (by decide) ?_
  refine R_p d171_665 rfl rfl ?_
  refine R_nv (v := _) (v' := 3) (by decide) ?_
  refine R_sldk (n := 3) (x := (f 3)) d171_666 (vp_ok (by decide)) (by decide) rfl ?_
  refine R_p d171_667 rfl rfl ?_
  refine R_p d171_668 rfl rfl ?_
  refine R_ic (v := 4) d171_670 (by decide) ?_
  refine R_p d171_671 rfl rfl ?_
  refine R_nv (v := _) (v' := 4) (by decide) ?_
  refine R_sldk (n := 4) (x := (f 4)) d171_672 (vp_ok (by decide)) (by decide) rfl ?_
  refine R_p d171_673 rfl rfl ?_
  refine R_hs [.ref 16, .int (f 1), .int (f 2), .int (f 3), .int (f 4), .ref 53] d171_674 (List.mem_of_getElem? (i := 121) rfl) ⟨by decide, by decide, Nat.le_of_ble_eq_true rfl, mcd164⟩ rfl rfl (Nat.le_of_ble_eq_true rfl) (w159 (f := f) h0) ?_
  refine R_p (ls' := [(0, .ref 0), (1, .ref 16), (2, .ref 42), (3, .ref 53), (4, .int 0), (5, .int 1)]) d171_677 rfl rfl ?_
  refine R_p d171_679 rfl rfl ?_
  refine R_p d171_680 rfl rfl ?_
  refine R_p d171_681 rfl rfl ?_
  refine R_ic (v := 1) d171_683 (by decide) ?_
  refine R_p d171_684 rfl rfl ?_
  refine R_nv (v := _) (v' := 1) (by decide) ?_
  refine R_sldk (n := 1) (x := (f 1)) d171_685 (vp_ok (by decide)) (by decide) rfl ?_
  refine R_p d171_686 rfl rfl ?_
  refine R_p d171_687 rfl rfl ?_
  refine R_ic (v := 2) d171_689 (by decide) ?_
  refine R_p d171_690 rfl rfl ?_
  refine R_nv (v := _) (v' := 2) (by decide) ?_
  refine R_sldk (n := 2) (x := (f 2)) d171_691 (vp_ok (by decide)) (by decide) rfl ?_
  refine R_p d171_692 rfl rfl ?_
  refine R_p d171_693 rfl rfl ?_
  refine R_ic (v := 3) d171_695 (by decide) ?_
  refine R_p d171_696 rfl rfl ?_
  refine R_nv (v := _) (v' := 3) (by decide) ?_
  refine R_sldk (n := 3) (x := (f 3)) d171_697 (vp_ok (by decide)) (by decide) rfl ?_
  refine R_p d171_698 rfl rfl ?_
  refine R_p d171_699 rfl rfl ?_
  refine R_ic (v := 4) d171_701 (by decide) ?_
  refine R_p d171_702 rfl rfl ?_
  refine R_nv (v := _) (v' := 4) (by decide) ?_
  refine R_sldk (n := 4) (x := (f 4)) d171_703 (vp_ok (by decide)) (by decide) rfl ?_
  refine R_cm [.int (f 1), .int (f 2), .int (f 3), .int (f 4)] d171_704 (List.mem_of_getElem? (i := 191) rfl) rfl ⟨by decide, by decide, Nat.le_of_ble_eq_true rfl, rfl, mcd144⟩ rfl rfl (Nat.le_of_ble_eq_true rfl) rfl rfl (w160 (f := f) h0) ?_
  refine R_p (ls' := [(0, .ref 0), (1, .ref 16), (2, .ref 42), (3, .ref 53), (4, .int 0), (5, .int 1), (6, .int 0)]) d171_707 rfl rfl ?_
  refine R_p d171_709 rfl rfl ?_
  refine R_cm [] d171_710 (List.mem_of_getElem? (i := 160) rfl) rfl ⟨by decide, by decide, Nat.le_of_ble_eq_true rfl, rfl, mcd113⟩ rfl rfl (Nat.le_of_ble_eq_true rfl) rfl rfl (w8 (f := f)) ?_
  refine R_p d171_713 rfl rfl ?_
  refine R_br 720 d171_715 (mb_t (b := ((1 : Int32) = (1 : Int32))) (by decide)) rfl ?_
  refine R_p d171_720 rfl rfl ?_
  refine R_br 737 d171_722 (mb_t (b := (¬ (1 : Int32) = (0 : Int32))) (by decide)) rfl ?_
  refine R_br 950 d171_737 rfl rfl ?_
  refine R_p (ls' := [(0, .ref 0), (1, .ref 16), (2, .ref 42), (3, .ref 53), (4, .int 5), (5, .int 1), (6, .int 0)]) d171_950 rfl rfl ?_
  refine R_br 23 d171_953 rfl rfl ?_
  refine R_p d171_23 rfl rfl ?_
  refine R_p d171_25 rfl rfl ?_
  refine R_sln d171_26 ?_
  refine R_nv (v := _) (v' := 5) (show Int32.ofNat 5 = 5 from by decide) ?_
  refine R_ic (v := 5) d171_27 (by decide) ?_
  refine R_p d171_28 rfl rfl ?_
  refine R_nv (v := _) (v' := 0) (by decide) ?_
  refine R_br 956 d171_29 (mb_t (b := ((0 : Int32) < (5 : Int32))) (by decide)) rfl ?_
  refine R_ic (v := 1) d171_956 (by decide) ?_
  exact R_iret d171_957 rfl rfl rfl
set_option maxRecDepth 4000 in
theorem w162 {f : Nat → Int32} (h0 : ((f 1) < (-536870911))) : Run (5, f) 110 (0, [(0, .ref 16), (1, .int (f 1)), (2, .int (f 2))], [], HL0) (.inr 54, HJ1) := by
  refine R_p d110_0 rfl rfl ?_
  refine R_p d110_1 rfl rfl ?_
  refine R_p d110_2 rfl rfl ?_
  exact R_tv [.int (f 1), .int (f 2)] d110_3 (List.mem_of_getElem? (i := 30) rfl) ⟨by decide, by decide, Nat.le_of_ble_eq_true rfl, mcd97⟩ rfl rfl (Nat.le_of_ble_eq_true rfl) rfl rfl rfl (Or.inr (w1 (f := f) h0))
set_option maxRecDepth 4000 in
theorem w163 {f : Nat → Int32} (h0 : ((f 1) < (-536870911))) : Run (5, f) 165 (0, [(0, .ref 16), (1, .int (f 1)), (2, .int (f 2)), (3, .ref 53)], [], HL0) (.inl (some (.int 1)), HJ1) := by
  refine R_p d165_0 rfl rfl ?_
  refine R_ic (v := 0) d165_1 (by decide) ?_
  refine R_p d165_2 rfl rfl ?_
  refine R_p d165_3 rfl rfl ?_
  refine R_p d165_4 rfl rfl ?_
  refine R_tc [.int (f 1), .int (f 2)] d165_5 (List.mem_of_getElem? (i := 125) rfl) ⟨by decide, by decide, Nat.le_of_ble_eq_true rfl, mcd110⟩ rfl rfl (Nat.le_of_ble_eq_true rfl) rfl rfl rfl (cx := 10) (hp := 13) rfl (by decide) (by decide) (by decide) (Or.inl (w162 (f := f) h0)) ?_
  refine R_p (ls' := [(0, .ref 16), (1, .int (f 1)), (2, .int (f 2)), (3, .ref 53), (4, .ref 54)]) d165_13 rfl rfl ?_
  refine R_ic (v := 1) d165_15 (by decide) ?_
  exact R_iret d165_16 rfl rfl rfl
set_option maxRecDepth 4000 in
theorem w164 {f : Nat → Int32} (h0 : ((f 1) < (-536870911))) : Run (5, f) 145 (0, [(0, .ref 42), (1, .int (f 1)), (2, .int (f 2))], [], HJ1) (.inl (some (.int 0)), HJ2) := by
  refine R_p d145_0 rfl rfl ?_
  refine R_p d145_1 rfl rfl ?_
  refine R_p d145_2 rfl rfl ?_
  refine R_cs [.int (f 1), .int (f 2)] d145_3 (List.mem_of_getElem? (i := 162) rfl) rfl ⟨by decide, by decide, Nat.le_of_ble_eq_true rfl, rfl, mcd115⟩ rfl rfl (Nat.le_of_ble_eq_true rfl) (w5 (f := f) h0) ?_
  refine R_br 13 d145_6 (mb_t (b := ((0 : Int32) = (0 : Int32))) (by decide)) rfl ?_
  refine R_ic (v := 1) d145_13 (by decide) ?_
  refine R_cm [.int 1] d145_14 (List.mem_of_getElem? (i := 164) rfl) rfl ⟨by decide, by decide, Nat.le_of_ble_eq_true rfl, rfl, mcd117⟩ rfl rfl (Nat.le_of_ble_eq_true rfl) rfl rfl (w6 (f := f)) ?_
  refine R_nb d145_17 rfl (mb_f (b := ((1 : Int32) = (0 : Int32))) (by decide)) ?_
  refine R_ic (v := 0) d145_20 (by decide) ?_
  exact R_iret d145_21 rfl rfl rfl
set_option maxRecDepth 4000 in
theorem law740_165 {f : Nat → Int32} (h0 : ((f 1) < (-536870911))) : Run (5, f) 171 (740, [(0, .ref 0), (1, .ref 16), (2, .ref 42), (3, .ref 53), (4, .int 0)], [], HL0) (.inl (some (.int 1)), HJ2) := by
  refine R_p d171_740 rfl rfl ?_
  refine R_p d171_741 rfl rfl ?_
  refine R_p d171_742 rfl rfl ?_
  refine R_ic (v := 1) d171_744 (by decide) ?_
  refine R_p d171_745 rfl rfl ?_
  refine R_nv (v := _) (v' := 1) (by decide) ?_
  refine R_sldk (n := 1) (x := (f 1)) d171_746 (vp_ok (by decide)) (by decide) rfl ?_
  refine R_p d171_747 rfl rfl ?_
  refine R_p d171_748 rfl rfl ?_
  refine R_ic (v := 2) d171_750 (by decide) ?_
  refine R_p d171_751 rfl rfl ?_
  refine R_nv (v := _) (v' := 2) (by decide) ?_
  refine R_sldk (n := 2) (x := (f 2)) d171_752 (vp_ok (by decide)) (by decide) rfl ?_
  refine R_p d171_753 rfl rfl ?_
  refine R_hs [.ref 16, .int (f 1), .int (f 2), .ref 53] d171_754 (List.mem_of_getElem? (i := 124) rfl) ⟨by decide, by decide, Nat.le_of_ble_eq_true rfl, mcd165⟩ rfl rfl (Nat.le_of_ble_eq_true rfl) (w163 (f := f) h0) ?_
  refine R_p (ls' := [(0, .ref 0), (1, .ref 16), (2, .ref 42), (3, .ref 53), (4, .int 0), (5, .int 1)]) d171_757 rfl rfl ?_
  refine R_p d171_759 rfl rfl ?_
  refine R_p d171_760 rfl rfl ?_
  refine R_p d171_761 rfl rfl ?_
  refine R_ic (v := 1) d171_763 (by decide) ?_
  refine R_p d171_764 rfl rfl ?_
  refine R_nv (v := _) (v' := 1) (by decide) ?_
  refine R_sldk (n := 1) (x := (f 1)) d171_765 (vp_ok (by decide)) (by decide) rfl ?_
  refine R_p d171_766 rfl rfl ?_
  refine R_p d171_767 rfl rfl ?_
  refine R_ic (v := 2) d171_769 (by decide) ?_
  refine R_p d171_770 rfl rfl ?_
  refine R_nv (v := _) (v' := 2) (by decide) ?_
  refine R_sldk (n := 2) (x := (f 2)) d171_771 (vp_ok (by decide)) (by decide) rfl ?_
  refine R_cm [.int (f 1), .int (f 2)] d171_772 (List.mem_of_getElem? (i := 192) rfl) rfl ⟨by decide, by decide, Nat.le_of_ble_eq_true rfl, rfl, mcd145⟩ rfl rfl (Nat.le_of_ble_eq_true rfl) rfl rfl (w164 (f := f) h0) ?_
  refine R_p (ls' := [(0, .ref 0), (1, .ref 16), (2, .ref 42), (3, .ref 53), (4, .int 0), (5, .int 1), (6, .int 0)]) d171_775 rfl rfl ?_
  refine R_p d171_777 rfl rfl ?_
  refine R_cm [] d171_778 (List.mem_of_getElem? (i := 160) rfl) rfl ⟨by decide, by decide, Nat.le_of_ble_eq_true rfl, rfl, mcd113⟩ rfl rfl (Nat.le_of_ble_eq_true rfl) rfl rfl (w8 (f := f)) ?_
  refine R_p d171_781 rfl rfl ?_
  refine R_br 788 d171_783 (mb_t (b := ((1 : Int32) = (1 : Int32))) (by decide)) rfl ?_
  refine R_p d171_788 rfl rfl ?_
  refine R_br 805 d171_790 (mb_t (b := (¬ (1 : Int32) = (0 : Int32))) (by decide)) rfl ?_
  refine R_br 950 d171_805 rfl rfl ?_
  refine R_p (ls' := [(0, .ref 0), (1, .ref 16), (2, .ref 42), (3, .ref 53), (4, .int 5), (5, .int 1), (6, .int 0)]) d171_950 rfl rfl ?_
  refine R_br 23 d171_953 rfl rfl ?_
  refine R_p d171_23 rfl rfl ?_
  refine R_p d171_25 rfl rfl ?_
  refine R_sln d171_26 ?_
  refine R_nv (v := _) (v' := 5) (show Int32.ofNat 5 = 5 from by decide) ?_
  refine R_ic (v := 5) d171_27 (by decide) ?_
  refine R_p d171_28 rfl rfl ?_
  refine R_nv (v := _) (v' := 0) (by decide) ?_
  refine R_br 956 d171_29 (mb_t (b := ((0 : Int32) < (5 : Int32))) (by decide)) rfl ?_
  refine R_ic (v := 1) d171_956 (by decide) ?_
  exact R_iret d171_957 rfl rfl rfl
set_option maxRecDepth 4000 in
theorem w166 {f : Nat → Int32} (h0 : ¬ ((f 1) < (-536870911))) (h1 : (536870911 < (f 1))) : Run (5, f) 110 (0, [(0, .ref 16), (1, .int (f 1)), (2, .int (f 2))], [], HL0) (.inr 54, HJ1) := by
  refine R_p d110_0 rfl rfl ?_
  refine R_p d110_1 rfl rfl ?_
  refine R_p d110_2 rfl rfl ?_
  exact R_tv [.int (f 1), .int (f 2)] d110_3 (List.mem_of_getElem? (i := 30) rfl) ⟨by decide, by decide, Nat.le_of_ble_eq_true rfl, mcd97⟩ rfl rfl (Nat.le_of_ble_eq_true rfl) rfl rfl rfl (Or.inr (w10 (f := f) h0 h1))
set_option maxRecDepth 4000 in
theorem w167 {f : Nat → Int32} (h0 : ¬ ((f 1) < (-536870911))) (h1 : (536870911 < (f 1))) : Run (5, f) 165 (0, [(0, .ref 16), (1, .int (f 1)), (2, .int (f 2)), (3, .ref 53)], [], HL0) (.inl (some (.int 1)), HJ1) := by
  refine R_p d165_0 rfl rfl ?_
  refine R_ic (v := 0) d165_1 (by decide) ?_
  refine R_p d165_2 rfl rfl ?_
  refine R_p d165_3 rfl rfl ?_
  refine R_p d165_4 rfl rfl ?_
  refine R_tc [.int (f 1), .int (f 2)] d165_5 (List.mem_of_getElem? (i := 125) rfl) ⟨by decide, by decide, Nat.le_of_ble_eq_true rfl, mcd110⟩ rfl rfl (Nat.le_of_ble_eq_true rfl) rfl rfl rfl (cx := 10) (hp := 13) rfl (by decide) (by decide) (by decide) (Or.inl (w166 (f := f) h0 h1)) ?_
  refine R_p (ls' := [(0, .ref 16), (1, .int (f 1)), (2, .int (f 2)), (3, .ref 53), (4, .ref 54)]) d165_13 rfl rfl ?_
  refine R_ic (v := 1) d165_15 (by decide) ?_
  exact R_iret d165_16 rfl rfl rfl
set_option maxRecDepth 4000 in
theorem w168 {f : Nat → Int32} (h0 : ¬ ((f 1) < (-536870911))) (h1 : (536870911 < (f 1))) : Run (5, f) 145 (0, [(0, .ref 42), (1, .int (f 1)), (2, .int (f 2))], [], HJ1) (.inl (some (.int 0)), HJ2) := by
  refine R_p d145_0 rfl rfl ?_
  refine R_p d145_1 rfl rfl ?_
  refine R_p d145_2 rfl rfl ?_
  refine R_cs [.int (f 1), .int (f 2)] d145_3 (List.mem_of_getElem? (i := 162) rfl) rfl ⟨by decide, by decide, Nat.le_of_ble_eq_true rfl, rfl, mcd115⟩ rfl rfl (Nat.le_of_ble_eq_true rfl) (w14 (f := f) h0 h1) ?_
  refine R_br 13 d145_6 (mb_t (b := ((0 : Int32) = (0 : Int32))) (by decide)) rfl ?_
  refine R_ic (v := 1) d145_13 (by decide) ?_
  refine R_cm [.int 1] d145_14 (List.mem_of_getElem? (i := 164) rfl) rfl ⟨by decide, by decide, Nat.le_of_ble_eq_true rfl, rfl, mcd117⟩ rfl rfl (Nat.le_of_ble_eq_true rfl) rfl rfl (w6 (f := f)) ?_
  refine R_nb d145_17 rfl (mb_f (b := ((1 : Int32) = (0 : Int32))) (by decide)) ?_
  refine R_ic (v := 0) d145_20 (by decide) ?_
  exact R_iret d145_21 rfl rfl rfl
set_option maxRecDepth 4000 in
theorem law740_169 {f : Nat → Int32} (h0 : ¬ ((f 1) < (-536870911))) (h1 : (536870911 < (f 1))) : Run (5, f) 171 (740, [(0, .ref 0), (1, .ref 16), (2, .ref 42), (3, .ref 53), (4, .int 0)], [], HL0) (.inl (some (.int 1)), HJ2) := by
  refine R_p d171_740 rfl rfl ?_
  refine R_p d171_741 rfl rfl ?_
  refine R_p d171_742 rfl rfl ?_
  refine R_ic (v := 1) d171_744 (by decide) ?_
  refine R_p d171_745 rfl rfl ?_
  refine R_nv (v := _) (v' := 1) (by decide) ?_
  refine R_sldk (n := 1) (x := (f 1)) d171_746 (vp_ok (by decide)) (by decide) rfl ?_
  refine R_p d171_747 rfl rfl ?_
  refine R_p d171_748 rfl rfl ?_
  refine R_ic (v := 2) d171_750 (by decide) ?_
  refine R_p d171_751 rfl rfl ?_
  refine R_nv (v := _) (v' := 2) (by decide) ?_
  refine R_sldk (n := 2) (x := (f 2)) d171_752 (vp_ok (by decide)) (by decide) rfl ?_
  refine R_p d171_753 rfl rfl ?_
  refine R_hs [.ref 16, .int (f 1), .int (f 2), .ref 53] d171_754 (List.mem_of_getElem? (i := 124) rfl) ⟨by decide, by decide, Nat.le_of_ble_eq_true rfl, mcd165⟩ rfl rfl (Nat.le_of_ble_eq_true rfl) (w167 (f := f) h0 h1) ?_
  refine R_p (ls' := [(0, .ref 0), (1, .ref 16), (2, .ref 42), (3, .ref 53), (4, .int 0), (5, .int 1)]) d171_757 rfl rfl ?_
  refine R_p d171_759 rfl rfl ?_
  refine R_p d171_760 rfl rfl ?_
  refine R_p d171_761 rfl rfl ?_
  refine R_ic (v := 1) d171_763 (by decide) ?_
  refine R_p d171_764 rfl rfl ?_
  refine R_nv (v := _) (v' := 1) (by decide) ?_
  refine R_sldk (n := 1) (x := (f 1)) d171_765 (vp_ok (by decide)) (by decide) rfl ?_
  refine R_p d171_766 rfl rfl ?_
  refine R_p d171_767 rfl rfl ?_
  refine R_ic (v := 2) d171_769 (by decide) ?_
  refine R_p d171_770 rfl rfl ?_
  refine R_nv (v := _) (v' := 2) (by decide) ?_
  refine R_sldk (n := 2) (x := (f 2)) d171_771 (vp_ok (by decide)) (by decide) rfl ?_
  refine R_cm [.int (f 1), .int (f 2)] d171_772 (List.mem_of_getElem? (i := 192) rfl) rfl ⟨by decide, by decide, Nat.le_of_ble_eq_true rfl, rfl, mcd145⟩ rfl rfl (Nat.le_of_ble_eq_true rfl) rfl rfl (w168 (f := f) h0 h1) ?_
  refine R_p (ls' := [(0, .ref 0), (1, .ref 16), (2, .ref 42), (3, .ref 53), (4, .int 0), (5, .int 1), (6, .int 0)]) d171_775 rfl rfl ?_
  refine R_p d171_777 rfl rfl ?_
  refine R_cm [] d171_778 (List.mem_of_getElem? (i := 160) rfl) rfl ⟨by decide, by decide, Nat.le_of_ble_eq_true rfl, rfl, mcd113⟩ rfl rfl (Nat.le_of_ble_eq_true rfl) rfl rfl (w8 (f := f)) ?_
  refine R_p d171_781 rfl rfl ?_
  refine R_br 788 d171_783 (mb_t (b := ((1 : Int32) = (1 : Int32))) (by decide)) rfl ?_
  refine R_p d171_788 rfl rfl ?_
  refine R_br 805 d171_790 (mb_t (b := (¬ (1 : Int32) = (0 : Int32))) (by decide)) rfl ?_
  refine R_br 950 d171_805 rfl rfl ?_
  refine R_p (ls' := [(0, .ref 0), (1, .ref 16), (2, .ref 42), (3, .ref 53), (4, .int 5), (5, .int 1), (6, .int 0)]) d171_950 rfl rfl ?_
  refine R_br 23 d171_953 rfl rfl ?_
  refine R_p d171_23 rfl rfl ?_
  refine R_p d171_25 rfl rfl ?_
  refine R_sln d171_26 ?_
  refine R_nv (v := _) (v' := 5) (show Int32.ofNat 5 = 5 from by decide) ?_
  refine R_ic (v := 5) d171_27 (by decide) ?_
  refine R_p d171_28 rfl rfl ?_
  refine R_nv (v := _) (v' := 0) (by decide) ?_
  refine R_br 956 d171_29 (mb_t (b := ((0 : Int32) < (5 : Int32))) (by decide)) rfl ?_
  refine R_ic (v := 1) d171_956 (by decide) ?_
  exact R_iret d171_957 rfl rfl rfl
set_option maxRecDepth 4000 in
theorem w170 {f : Nat → Int32} (h0 : ¬ ((f 1) < (-536870911))) (h1 : ¬ (536870911 < (f 1))) (h2 : ((f 2) < (-536870911))) : Run (5, f) 110 (0, [(0, .ref 16), (1, .int (f 1)), (2, .int (f 2))], [], HL0) (.inr 54, HJ1) := by
  refine R_p d110_0 rfl rfl ?_
  refine R_p d110_1 rfl rfl ?_
  refine R_p d110_2 rfl rfl ?_
  exact R_tv [.int (f 1), .int (f 2)] d110_3 (List.mem_of_getElem? (i := 30) rfl) ⟨by decide, by decide, Nat.le_of_ble_eq_true rfl, mcd97⟩ rfl rfl (Nat.le_of_ble_eq_true rfl) rfl rfl rfl (Or.inr (w17 (f := f) h0 h1 h2))
set_option maxRecDepth 4000 in
theorem w171 {f : Nat → Int32} (h0 : ¬ ((f 1) < (-536870911))) (h1 : ¬ (536870911 < (f 1))) (h2 : ((f 2) < (-536870911))) : Run (5, f) 165 (0, [(0, .ref 16), (1, .int (f 1)), (2, .int (f 2)), (3, .ref 53)], [], HL0) (.inl (some (.int 1)), HJ1) := by
  refine R_p d165_0 rfl rfl ?_
  refine R_ic (v := 0) d165_1 (by decide) ?_
  refine R_p d165_2 rfl rfl ?_
  refine R_p d165_3 rfl rfl ?_
  refine R_p d165_4 rfl rfl ?_
  refine R_tc [.int (f 1), .int (f 2)] d165_5 (List.mem_of_getElem? (i := 125) rfl) ⟨by decide, by decide, Nat.le_of_ble_eq_true rfl, mcd110⟩ rfl rfl (Nat.le_of_ble_eq_true rfl) rfl rfl rfl (cx := 10) (hp := 13) rfl (by decide) (by decide) (by decide) (Or.inl (w170 (f := f) h0 h1 h2)) ?_
  refine R_p (ls' := [(0, .ref 16), (1, .int (f 1)), (2, .int (f 2)), (3, .ref 53), (4, .ref 54)]) d165_13 rfl rfl ?_
  refine R_ic (v := 1) d165_15 (by decide) ?_
  exact R_iret d165_16 rfl rfl rfl
set_option maxRecDepth 4000 in
theorem w172 {f : Nat → Int32} (h0 : ¬ ((f 1) < (-536870911))) (h1 : ¬ (536870911 < (f 1))) (h2 : ((f 2) < (-536870911))) : Run (5, f) 145 (0, [(0, .ref 42), (1, .int (f 1)), (2, .int (f 2))], [], HJ1) (.inl (some (.int 0)), HJ2) := by
  refine R_p d145_0 rfl rfl ?_
  refine R_p d145_1 rfl rfl ?_
  refine R_p d145_2 rfl rfl ?_
  refine R_cs [.int (f 1), .int (f 2)] d145_3 (List.mem_of_getElem? (i := 162) rfl) rfl ⟨by decide, by decide, Nat.le_of_ble_eq_true rfl, rfl, mcd115⟩ rfl rfl (Nat.le_of_ble_eq_true rfl) (w22 (f := f) h0 h1 h2) ?_
  refine R_br 13 d145_6 (mb_t (b := ((0 : Int32) = (0 : Int32))) (by decide)) rfl ?_
  refine R_ic (v := 1) d145_13 (by decide) ?_
  refine R_cm [.int 1] d145_14 (List.mem_of_getElem? (i := 164) rfl) rfl ⟨by decide, by decide, Nat.le_of_ble_eq_true rfl, rfl, mcd117⟩ rfl rfl (Nat.le_of_ble_eq_true rfl) rfl rfl (w6 (f := f)) ?_
  refine R_nb d145_17 rfl (mb_f (b := ((1 : Int32) = (0 : Int32))) (by decide)) ?_
  refine R_ic (v := 0) d145_20 (by decide) ?_
  exact R_iret d145_21 rfl rfl rfl
set_option maxRecDepth 4000 in
theorem law740_173 {f : Nat → Int32} (h0 : ¬ ((f 1) < (-536870911))) (h1 : ¬ (536870911 < (f 1))) (h2 : ((f 2) < (-536870911))) : Run (5, f) 171 (740, [(0, .ref 0), (1, .ref 16), (2, .ref 42), (3, .ref 53), (4, .int 0)], [], HL0) (.inl (some (.int 1)), HJ2) := by
  refine R_p d171_740 rfl rfl ?_
  refine R_p d171_741 rfl rfl ?_
  refine R_p d171_742 rfl rfl ?_
  refine R_ic (v := 1) d171_744 (by decide) ?_
  refine R_p d171_745 rfl rfl ?_
  refine R_nv (v := _) (v' := 1) (by decide) ?_
  refine R_sldk (n := 1) (x := (f 1)) d171_746 (vp_ok (by decide)) (by decide) rfl ?_
  refine R_p d171_747 rfl rfl ?_
  refine R_p d171_748 rfl rfl ?_
  refine R_ic (v := 2) d171_750 (by decide) ?_
  refine R_p d171_751 rfl rfl ?_
  refine R_nv (v := _) (v' := 2) (by decide) ?_
  refine R_sldk (n := 2) (x := (f 2)) d171_752 (vp_ok (by decide)) (by decide) rfl ?_
  refine R_p d171_753 rfl rfl ?_
  refine R_hs [.ref 16, .int (f 1), .int (f 2), .ref 53] d171_754 (List.mem_of_getElem? (i := 124) rfl) ⟨by decide, by decide, Nat.le_of_ble_eq_true rfl, mcd165⟩ rfl rfl (Nat.le_of_ble_eq_true rfl) (w171 (f := f) h0 h1 h2) ?_
  refine R_p (ls' := [(0, .ref 0), (1, .ref 16), (2, .ref 42), (3, .ref 53), (4, .int 0), (5, .int 1)]) d171_757 rfl rfl ?_
  refine R_p d171_759 rfl rfl ?_
  refine R_p d171_760 rfl rfl ?_
  refine R_p d171_761 rfl rfl ?_
  refine R_ic (v := 1) d171_763 (by decide) ?_
  refine R_p d171_764 rfl rfl ?_
  refine R_nv (v := _) (v' := 1) (by decide) ?_
  refine R_sldk (n := 1) (x := (f 1)) d171_765 (vp_ok (by decide)) (by decide) rfl ?_
  refine R_p d171_766 rfl rfl ?_
  refine R_p d171_767 rfl rfl ?_
  refine R_ic (v := 2) d171_769 (by decide) ?_
  refine R_p d171_770 rfl rfl ?_
  refine R_nv (v := _) (v' := 2) (by decide) ?_
  refine R_sldk (n := 2) (x := (f 2)) d171_771 (vp_ok (by decide)) (by decide) rfl ?_
  refine R_cm [.int (f 1), .int (f 2)] d171_772 (List.mem_of_getElem? (i := 192) rfl) rfl ⟨by decide, by decide, Nat.le_of_ble_eq_true rfl, rfl, mcd145⟩ rfl rfl (Nat.le_of_ble_eq_true rfl) rfl rfl (w172 (f := f) h0 h1 h2) ?_
  refine R_p (ls' := [(0, .ref 0), (1, .ref 16), (2, .ref 42), (3, .ref 53), (4, .int 0), (5, .int 1), (6, .int 0)]) d171_775 rfl rfl ?_
  refine R_p d171_777 rfl rfl ?_
  refine R_cm [] d171_778 (List.mem_of_getElem? (i := 160) rfl) rfl ⟨by decide, by decide, Nat.le_of_ble_eq_true rfl, rfl, mcd113⟩ rfl rfl (Nat.le_of_ble_eq_true rfl) rfl rfl (w8 (f := f)) ?_
  refine R_p d171_781 rfl rfl ?_
  refine R_br 788 d171_783 (mb_t (b := ((1 : Int32) = (1 : Int32))) (by decide)) rfl ?_
  refine R_p d171_788 rfl rfl ?_
  refine R_br 805 d171_790 (mb_t (b := (¬ (1 : Int32) = (0 : Int32))) (by decide)) rfl ?_
  refine R_br 950 d171_805 rfl rfl ?_
  refine R_p (ls' := [(0, .ref 0), (1, .ref 16), (2, .ref 42), (3, .ref 53), (4, .int 5), (5, .int 1), (6, .int 0)]) d171_950 rfl rfl ?_
  refine R_br 23 d171_953 rfl rfl ?_
  refine R_p d171_23 rfl rfl ?_
  refine R_p d171_25 rfl rfl ?_
  refine R_sln d171_26 ?_
  refine R_nv (v := _) (v' := 5) (show Int32.ofNat 5 = 5 from by decide) ?_
  refine R_ic (v := 5) d171_27 (by decide) ?_
  refine R_p d171_28 rfl rfl ?_
  refine R_nv (v := _) (v' := 0) (by decide) ?_
  refine R_br 956 d171_29 (mb_t (b := ((0 : Int32) < (5 : Int32))) (by decide)) rfl ?_
  refine R_ic (v := 1) d171_956 (by decide) ?_
  exact R_iret d171_957 rfl rfl rfl
set_option maxRecDepth 4000 in
theorem w174 {f : Nat → Int32} (h0 : ¬ ((f 1) < (-536870911))) (h1 : ¬ (536870911 < (f 1))) (h2 : ¬ ((f 2) < (-536870911))) (h3 : (536870911 < (f 2))) : Run (5, f) 110 (0, [(0, .ref 16), (1, .int (f 1)), (2, .int (f 2))], [], HL0) (.inr 54, HJ1) := by
  refine R_p d110_0 rfl rfl ?_
  refine R_p d110_1 rfl rfl ?_
  refine R_p d110_2 rfl rfl ?_
  exact R_tv [.int (f 1), .int (f 2)] d110_3 (List.mem_of_getElem? (i := 30) rfl) ⟨by decide, by decide, Nat.le_of_ble_eq_true rfl, mcd97⟩ rfl rfl (Nat.le_of_ble_eq_true rfl) rfl rfl rfl (Or.inr (w25 (f := f) h0 h1 h2 h3))
set_option maxRecDepth 4000 in
theorem w175 {f : Nat → Int32} (h0 : ¬ ((f 1) < (-536870911))) (h1 : ¬ (536870911 < (f 1))) (h2 : ¬ ((f 2) < (-536870911))) (h3 : (536870911 < (f 2))) : Run (5, f) 165 (0, [(0, .ref 16), (1, .int (f 1)), (2, .int (f 2)), (3, .ref 53)], [], HL0) (.inl (some (.int 1)), HJ1) := by
  refine R_p d165_0 rfl rfl ?_
  refine R_ic (v := 0) d165_1 (by decide) ?_
  refine R_p d165_2 rfl rfl ?_
  refine R_p d165_3 rfl rfl ?_
  refine R_p d165_4 rfl rfl ?_
  refine R_tc [.int (f 1), .int (f 2)] d165_5 (List.mem_of_getElem? (i := 125) rfl) ⟨by decide, by decide, Nat.le_of_ble_eq_true rfl, mcd110⟩ rfl rfl (Nat.le_of_ble_eq_true rfl) rfl rfl rfl (cx := 10) (hp := 13) rfl (by decide) (by decide) (by decide) (Or.inl (w174 (f := f) h0 h1 h2 h3)) ?_
  refine R_p (ls' := [(0, .ref 16), (1, .int (f 1)), (2, .int (f 2)), (3, .ref 53), (4, .ref 54)]) d165_13 rfl rfl ?_
  refine R_ic (v := 1) d165_15 (by decide) ?_
  exact R_iret d165_16 rfl rfl rfl
set_option maxRecDepth 4000 in
theorem w176 {f : Nat → Int32} (h0 : ¬ ((f 1) < (-536870911))) (h1 : ¬ (536870911 < (f 1))) (h2 : ¬ ((f 2) < (-536870911))) (h3 : (536870911 < (f 2))) : Run (5, f) 145 (0, [(0, .ref 42), (1, .int (f 1)), (2, .int (f 2))], [], HJ1) (.inl (some (.int 0)), HJ2) := by
  refine R_p d145_0 rfl rfl ?_
  refine R_p d145_1 rfl rfl ?_
  refine R_p d145_2 rfl rfl ?_
  refine R_cs [.int (f 1), .int (f 2)] d145_3 (List.mem_of_getElem? (i := 162) rfl) rfl ⟨by decide, by decide, Nat.le_of_ble_eq_true rfl, rfl, mcd115⟩ rfl rfl (Nat.le_of_ble_eq_true rfl) (w29 (f := f) h0 h1 h2 h3) ?_
  refine R_br 13 d145_6 (mb_t (b := ((0 : Int32) = (0 : Int32))) (by decide)) rfl ?_
  refine R_ic (v := 1) d145_13 (by decide) ?_
  refine R_cm [.int 1] d145_14 (List.mem_of_getElem? (i := 164) rfl) rfl ⟨by decide, by decide, Nat.le_of_ble_eq_true rfl, rfl, mcd117⟩ rfl rfl (Nat.le_of_ble_eq_true rfl) rfl rfl (w6 (f := f)) ?_
  refine R_nb d145_17 rfl (mb_f (b := ((1 : Int32) = (0 : Int32))) (by decide)) ?_
  refine R_ic (v := 0) d145_20 (by decide) ?_
  exact R_iret d145_21 rfl rfl rfl
set_option maxRecDepth 4000 in
theorem law740_177 {f : Nat → Int32} (h0 : ¬ ((f 1) < (-536870911))) (h1 : ¬ (536870911 < (f 1))) (h2 : ¬ ((f 2) < (-536870911))) (h3 : (536870911 < (f 2))) : Run (5, f) 171 (740, [(0, .ref 0), (1, .ref 16), (2, .ref 42), (3, .ref 53), (4, .int 0)], [], HL0) (.inl (some (.int 1)), HJ2) := by
  refine R_p d171_740 rfl rfl ?_
  refine R_p d171_741 rfl rfl ?_
  refine R_p d171_742 rfl rfl ?_
  refine R_ic (v := 1) d171_744 (by decide) ?_
  refine R_p d171_745 rfl rfl ?_
  refine R_nv (v := _) (v' := 1) (by decide) ?_
  refine R_sldk (n := 1) (x := (f 1)) d171_746 (vp_ok (by decide)) (by decide) rfl ?_
  refine R_p d171_747 rfl rfl ?_
  refine R_p d171_748 rfl rfl ?_
  refine R_ic (v := 2) d171_750 (by decide) ?_
  refine R_p d171_751 rfl rfl ?_
  refine R_nv (v := _) (v' := 2) (by decide) ?_
  refine R_sldk (n := 2) (x := (f 2)) d171_752 (vp_ok (by decide)) (by decide) rfl ?_
  refine R_p d171_753 rfl rfl ?_
  refine R_hs [.ref 16, .int (f 1), .int (f 2), .ref 53] d171_754 (List.mem_of_getElem? (i := 124) rfl) ⟨by decide, by decide, Nat.le_of_ble_eq_true rfl, mcd165⟩ rfl rfl (Nat.le_of_ble_eq_true rfl) (w175 (f := f) h0 h1 h2 h3) ?_
  refine R_p (ls' := [(0, .ref 0), (1, .ref 16), (2, .ref 42), (3, .ref 53), (4, .int 0), (5, .int 1)]) d171_757 rfl rfl ?_
  refine R_p d171_759 rfl rfl ?_
  refine R_p d171_760 rfl rfl ?_
  refine R_p d171_761 rfl rfl ?_
  refine R_ic (v := 1) d171_763 (by decide) ?_
  refine R_p d171_764 rfl rfl ?_
  refine R_nv (v := _) (v' := 1) (by decide) ?_
  refine R_sldk (n := 1) (x := (f 1)) d171_765 (vp_ok (by decide)) (by decide) rfl ?_
  refine R_p d171_766 rfl rfl ?_
  refine R_p d171_767 rfl rfl ?_
  refine R_ic (v := 2) d171_769 (by decide) ?_
  refine R_p d171_770 rfl rfl ?_
  refine R_nv (v := _) (v' := 2) (by decide) ?_
  refine R_sldk (n := 2) (x := (f 2)) d171_771 (vp_ok (by decide)) (by decide) rfl ?_
  refine R_cm [.int (f 1), .int (f 2)] d171_772 (List.mem_of_getElem? (i := 192) rfl) rfl ⟨by decide, by decide, Nat.le_of_ble_eq_true rfl, rfl, mcd145⟩ rfl rfl (Nat.le_of_ble_eq_true rfl) rfl rfl (w176 (f := f) h0 h1 h2 h3) ?_
  refine R_p (ls' := [(0, .ref 0), (1, .ref 16), (2, .ref 42), (3, .ref 53), (4, .int 0), (5, .int 1), (6, .int 0)]) d171_775 rfl rfl ?_
  refine R_p d171_777 rfl rfl ?_
  refine R_cm [] d171_778 (List.mem_of_getElem? (i := 160) rfl) rfl ⟨by decide, by decide, Nat.le_of_ble_eq_true rfl, rfl, mcd113⟩ rfl rfl (Nat.le_of_ble_eq_true rfl) rfl rfl (w8 (f := f)) ?_
  refine R_p d171_781 rfl rfl ?_
  refine R_br 788 d171_783 (mb_t (b := ((1 : Int32) = (1 : Int32))) (by decide)) rfl ?_
  refine R_p d171_788 rfl rfl ?_
  refine R_br 805 d171_790 (mb_t (b := (¬ (1 : Int32) = (0 : Int32))) (by decide)) rfl ?_
  refine R_br 950 d171_805 rfl rfl ?_
  refine R_p (ls' := [(0, .ref 0), (1, .ref 16), (2, .ref 42), (3, .ref 53), (4, .int 5), (5, .int 1), (6, .int 0)]) d171_950 rfl rfl ?_
  refine R_br 23 d171_953 rfl rfl ?_
  refine R_p d171_23 rfl rfl ?_
  refine R_p d171_25 rfl rfl ?_
  refine R_sln d171_26 ?_
  refine R_nv (v := _) (v' := 5) (show Int32.ofNat 5 = 5 from by decide) ?_
  refine R_ic (v := 5) d171_27 (by decide) ?_
  refine R_p d171_28 rfl rfl ?_
  refine R_nv (v := _) (v' := 0) (by decide) ?_
  refine R_br 956 d171_29 (mb_t (b := ((0 : Int32) < (5 : Int32))) (by decide)) rfl ?_
  refine R_ic (v := 1) d171_956 (by decide) ?_
  exact R_iret d171_957 rfl rfl rfl
set_option maxRecDepth 4000 in
theorem w178 {f : Nat → Int32} : Run (5, f) 68 (0, [(0, .ref 17), (1, .int 40), (2, .int (f 1)), (3, .int (f 2))], [], HL0) (.inl none, (HJ17 f)) := by
  refine R_p d68_0 rfl rfl ?_
  refine R_get d68_1 (Or.inl (List.mem_of_getElem? (i := 3) rfl)) rfl rfl ?_
  refine R_p d68_4 rfl rfl ?_
  refine R_p d68_5 rfl rfl ?_
  refine R_ist d68_6 rfl (vp_ok (by decide)) ?_
  refine R_p d68_7 rfl rfl ?_
  refine R_get d68_8 (Or.inl (List.mem_of_getElem? (i := 4) rfl)) rfl rfl ?_
  refine R_p d68_11 rfl rfl ?_
  refine R_p d68_12 rfl rfl ?_
  refine R_ist d68_13 rfl (vp_ok (by decide)) ?_
  exact R_vret d68_14 rfl rfl
set_option maxRecDepth 4000 in
theorem w179 {f : Nat → Int32} : Run (5, f) 50 (0, [(0, .ref 23), (1, .int 40)], [], (HJ17 f)) (.inl (some (.int (-1))), (HJ17 f)) := by
  refine R_ic (v := 0) d50_0 (by decide) ?_
  refine R_p (ls' := [(0, .ref 23), (1, .int 40), (2, .int 0)]) d50_1 rfl rfl ?_
  refine R_p d50_2 rfl rfl ?_
  refine R_p d50_3 rfl rfl ?_
  refine R_get d50_4 (Or.inl (List.mem_of_getElem? (i := 15) rfl)) rfl rfl ?_
  refine R_br 27 d50_7 (mb_t (b := ((0 : Int32) ≤ (0 : Int32))) (by decide)) rfl ?_
  refine R_ic (v := (-1)) d50_27 (by decide) ?_
  exact R_iret d50_28 rfl rfl rfl
set_option maxRecDepth 4000 in
theorem w180 {f : Nat → Int32} (h0 : ¬ ((f 1) < (-536870911))) (h1 : ¬ (536870911 < (f 1))) (h2 : ¬ ((f 2) < (-536870911))) (h3 : ¬ (536870911 < (f 2))) : Run (5, f) 110 (0, [(0, .ref 16), (1, .int (f 1)), (2, .int (f 2))], [], HL0) (.inl (some (.int (-1))), (HJ17 f)) := by
  refine R_p d110_0 rfl rfl ?_
  refine R_p d110_1 rfl rfl ?_
  refine R_p d110_2 rfl rfl ?_
  refine R_cm [.int (f 1), .int (f 2)] d110_3 (List.mem_of_getElem? (i := 30) rfl) rfl ⟨by decide, by decide, Nat.le_of_ble_eq_true rfl, rfl, mcd97⟩ rfl rfl (Nat.le_of_ble_eq_true rfl) rfl rfl (w32 (f := f) h0 h1 h2 h3) ?_
  refine R_p d110_6 rfl rfl ?_
  refine R_get d110_7 (Or.inl (List.mem_of_getElem? (i := 43) rfl)) rfl rfl ?_
  refine R_bi (v := 40) d110_10 (by decide) ?_
  refine R_p d110_12 rfl rfl ?_
  refine R_p d110_13 rfl rfl ?_
  refine R_cm [.int 40, .int (f 1), .int (f 2)] d110_14 (List.mem_of_getElem? (i := 31) rfl) rfl ⟨by decide, by decide, Nat.le_of_ble_eq_true rfl, rfl, mcd68⟩ rfl rfl (Nat.le_of_ble_eq_true rfl) rfl rfl (w178 (f := f)) ?_
  refine R_p d110_17 rfl rfl ?_
  refine R_get d110_18 (Or.inl (List.mem_of_getElem? (i := 45) rfl)) rfl rfl ?_
  refine R_bi (v := 40) d110_21 (by decide) ?_
  refine R_cm [.int 40] d110_23 (List.mem_of_getElem? (i := 126) rfl) rfl ⟨by decide, by decide, Nat.le_of_ble_eq_true rfl, rfl, mcd50⟩ rfl rfl (Nat.le_of_ble_eq_true rfl) rfl rfl (w179 (f := f)) ?_
  exact R_iret d110_26 rfl rfl rfl
set_option maxRecDepth 4000 in
theorem w181 {f : Nat → Int32} (h0 : ¬ ((f 1) < (-536870911))) (h1 : ¬ (536870911 < (f 1))) (h2 : ¬ ((f 2) < (-536870911))) (h3 : ¬ (536870911 < (f 2))) : Run (5, f) 165 (0, [(0, .ref 16), (1, .int (f 1)), (2, .int (f 2)), (3, .ref 53)], [], HL0) (.inl (some (.int 0)), (HJ18 f)) := by
  refine R_p d165_0 rfl rfl ?_
  refine R_ic (v := 0) d165_1 (by decide) ?_
  refine R_p d165_2 rfl rfl ?_
  refine R_p d165_3 rfl rfl ?_
  refine R_p d165_4 rfl rfl ?_
  refine R_cm [.int (f 1), .int (f 2)] d165_5 (List.mem_of_getElem? (i := 125) rfl) rfl ⟨by decide, by decide, Nat.le_of_ble_eq_true rfl, rfl, mcd110⟩ rfl rfl (Nat.le_of_ble_eq_true rfl) rfl rfl (w180 (f := f) h0 h1 h2 h3) ?_
  refine R_p d165_8 rfl rfl ?_
  refine R_nw (v := _) (v' := (-1)) (by decide) ?_
  refine R_lst d165_9 rfl (vp_ok (by decide)) ?_
  refine R_br 17 d165_10 rfl rfl ?_
  refine R_ic (v := 0) d165_17 (by decide) ?_
  exact R_iret d165_18 rfl rfl rfl
set_option maxRecDepth 4000 in
theorem w182 {f : Nat → Int32} (h0 : ¬ ((f 1) < (-536870911))) (h1 : ¬ (536870911 < (f 1))) : Run (5, f) 116 (0, [(0, .int (f 1)), (1, .int (-536870911)), (2, .int 536870911)], [], (HJ18 f)) (.inl (some (.int 1)), (HJ18 f)) := by
  refine R_p d116_0 rfl rfl ?_
  refine R_p d116_1 rfl rfl ?_
  refine R_nb d116_2 rfl (mb_f (b := ((f 1) < (-536870911))) h0) ?_
  refine R_p d116_5 rfl rfl ?_
  refine R_p d116_6 rfl rfl ?_
  refine R_nb d116_7 rfl (mb_f (b := (536870911 < (f 1))) h1) ?_
  refine R_ic (v := 1) d116_10 (by decide) ?_
  refine R_br 15 d116_11 rfl rfl ?_
  exact R_iret d116_15 rfl rfl rfl
set_option maxRecDepth 4000 in
theorem w183 {f : Nat → Int32} (h2 : ¬ ((f 2) < (-536870911))) (h3 : ¬ (536870911 < (f 2))) : Run (5, f) 116 (0, [(0, .int (f 2)), (1, .int (-536870911)), (2, .int 536870911)], [], (HJ18 f)) (.inl (some (.int 1)), (HJ18 f)) := by
  refine R_p d116_0 rfl rfl ?_
  refine R_p d116_1 rfl rfl ?_
  refine R_nb d116_2 rfl (mb_f (b := ((f 2) < (-536870911))) h2) ?_
  refine R_p d116_5 rfl rfl ?_
  refine R_p d116_6 rfl rfl ?_
  refine R_nb d116_7 rfl (mb_f (b := (536870911 < (f 2))) h3) ?_
  refine R_ic (v := 1) d116_10 (by decide) ?_
  refine R_br 15 d116_11 rfl rfl ?_
  exact R_iret d116_15 rfl rfl rfl
set_option maxRecDepth 4000 in
theorem w184 {f : Nat → Int32} (h0 : ¬ ((f 1) < (-536870911))) (h1 : ¬ (536870911 < (f 1))) (h2 : ¬ ((f 2) < (-536870911))) (h3 : ¬ (536870911 < (f 2))) : Run (5, f) 115 (0, [(0, .int (f 1)), (1, .int (f 2))], [], (HJ18 f)) (.inl (some (.int 1)), (HJ18 f)) := by
  refine R_p d115_0 rfl rfl ?_
  refine R_ci (v := (-536870911)) 959 d115_1 (List.mem_of_getElem? (i := 4) rfl) ?_
  refine R_ci (v := 536870911) 960 d115_3 (List.mem_of_getElem? (i := 5) rfl) ?_
  refine R_cs [.int (f 1), .int (-536870911), .int 536870911] d115_5 (List.mem_of_getElem? (i := 163) rfl) rfl ⟨by decide, by decide, Nat.le_of_ble_eq_true rfl, rfl, mcd116⟩ rfl rfl (Nat.le_of_ble_eq_true rfl) (w182 (f := f) h0 h1) ?_
  refine R_nb d115_8 rfl (mb_f (b := ((1 : Int32) = (0 : Int32))) (by decide)) ?_
  refine R_p d115_11 rfl rfl ?_
  refine R_ci (v := (-536870911)) 959 d115_12 (List.mem_of_getElem? (i := 4) rfl) ?_
  refine R_ci (v := 536870911) 960 d115_14 (List.mem_of_getElem? (i := 5) rfl) ?_
  refine R_cs [.int (f 2), .int (-536870911), .int 536870911] d115_16 (List.mem_of_getElem? (i := 163) rfl) rfl ⟨by decide, by decide, Nat.le_of_ble_eq_true rfl, rfl, mcd116⟩ rfl rfl (Nat.le_of_ble_eq_true rfl) (w183 (f := f) h2 h3) ?_
  refine R_nb d115_19 rfl (mb_f (b := ((1 : Int32) = (0 : Int32))) (by decide)) ?_
  refine R_ic (v := 1) d115_22 (by decide) ?_
  refine R_br 27 d115_23 rfl rfl ?_
  exact R_iret d115_27 rfl rfl rfl
set_option maxRecDepth 4000 in
theorem w185 {f : Nat → Int32} : Run (5, f) 117 (0, [(0, .ref 42), (1, .int 0)], [], (HJ18 f)) (.inl (some (.int 0)), (HJ18 f)) := by
  refine R_p d117_0 rfl rfl ?_
  refine R_p d117_1 rfl rfl ?_
  refine R_put d117_2 (List.mem_of_getElem? (i := 48) rfl) rfl (by decide) rfl rfl (Or.inl rfl) ?_
  refine R_p d117_5 rfl rfl ?_
  refine R_br 13 d117_6 (mb_t (b := ((0 : Int32) ≤ (0 : Int32))) (by decide)) rfl ?_
  refine R_ic (v := 0) d117_13 (by decide) ?_
  exact R_iret d117_14 rfl rfl rfl
set_option maxRecDepth 4000 in
theorem w186 {f : Nat → Int32} : Run (5, f) 129 (0, [(0, .ref 42)], [], (HJ20 f)) (.inl (some (.int 1)), (HJ20 f)) := by
  refine R_ic (v := 1) d129_0 (by decide) ?_
  refine R_p (ls' := [(0, .ref 42), (1, .int 1)]) d129_1 rfl rfl ?_
  refine R_ic (v := 2) d129_2 (by decide) ?_
  refine R_p (ls' := [(0, .ref 42), (1, .int 1), (2, .int 2)]) d129_3 rfl rfl ?_
  refine R_p d129_4 rfl rfl ?_
  refine R_p d129_5 rfl rfl ?_
  refine R_get d129_6 (Or.inl (List.mem_of_getElem? (i := 49) rfl)) rfl rfl ?_
  refine R_br 38 d129_9 (mb_t (b := ((0 : Int32) ≤ (2 : Int32))) (by decide)) rfl ?_
  refine R_p d129_38 rfl rfl ?_
  exact R_iret d129_39 rfl rfl rfl
set_option maxRecDepth 4000 in
theorem w187 {f : Nat → Int32} : Run (5, f) 128 (0, [(0, .ref 42)], [], (HJ18 f)) (.inl none, (HJ20 f)) := by
  refine R_p d128_0 rfl rfl ?_
  refine R_get d128_1 (Or.inl (List.mem_of_getElem? (i := 54) rfl)) rfl rfl ?_
  refine R_br 8 d128_4 (mb_t (b := ((0 : Int32) = (0 : Int32))) (by decide)) rfl ?_
  refine R_p d128_8 rfl rfl ?_
  refine R_ic (v := 1) d128_9 (by decide) ?_
  refine R_put d128_10 (List.mem_of_getElem? (i := 54) rfl) rfl (by decide) (by decide) (by decide) (Or.inl rfl) ?_
  refine R_p d128_13 rfl rfl ?_
  refine R_ic (v := 0) d128_14 (by decide) ?_
  refine R_put d128_15 (List.mem_of_getElem? (i := 55) rfl) rfl (by decide) rfl rfl (Or.inl rfl) ?_
  refine R_ic (v := 0) d128_18 (by decide) ?_
  refine R_p (ls' := [(0, .ref 42), (1, .int 0)]) d128_19 rfl rfl ?_
  refine R_h (HJ19 f) rfl ?_
  refine R_meshCopy rfl rfl rfl rfl rfl ?_
  refine R_p d128_45 rfl rfl ?_
  refine R_cm [] d128_46 (List.mem_of_getElem? (i := 176) rfl) rfl ⟨by decide, by decide, Nat.le_of_ble_eq_true rfl, rfl, mcd129⟩ rfl rfl (Nat.le_of_ble_eq_true rfl) rfl rfl (w186 (f := f)) ?_
  refine R_nb d128_49 rfl (mb_f (b := ((1 : Int32) = (0 : Int32))) (by decide)) ?_
  exact R_vret d128_52 rfl rfl
set_option maxRecDepth 4000 in
theorem w188 {f : Nat → Int32} : Run (5, f) 146 (0, [(0, .ref 42), (1, .int 40)], [], (HJ21 f)) (.inl (some (.int (-1))), (HJ21 f)) := by
  refine R_ic (v := 0) d146_0 (by decide) ?_
  refine R_p (ls' := [(0, .ref 42), (1, .int 40), (2, .int 0)]) d146_1 rfl rfl ?_
  refine R_p d146_2 rfl rfl ?_
  refine R_p d146_3 rfl rfl ?_
  refine R_get d146_4 (Or.inl (List.mem_of_getElem? (i := 55) rfl)) rfl rfl ?_
  refine R_br 85 d146_7 (mb_t (b := ((0 : Int32) ≤ (0 : Int32))) (by decide)) rfl ?_
  refine R_ic (v := (-1)) d146_85 (by decide) ?_
  exact R_iret d146_86 rfl rfl rfl
set_option maxRecDepth 4000 in
theorem w189 {f : Nat → Int32} (h0 : ¬ ((f 1) < (-536870911))) (h1 : ¬ (536870911 < (f 1))) (h2 : ¬ ((f 2) < (-536870911))) (h3 : ¬ (536870911 < (f 2))) : Run (5, f) 145 (0, [(0, .ref 42), (1, .int (f 1)), (2, .int (f 2))], [], (HJ18 f)) (.inl (some (.int (-1))), (HJ21 f)) := by
  refine R_p d145_0 rfl rfl ?_
  refine R_p d145_1 rfl rfl ?_
  refine R_p d145_2 rfl rfl ?_
  refine R_cs [.int (f 1), .int (f 2)] d145_3 (List.mem_of_getElem? (i := 162) rfl) rfl ⟨by decide, by decide, Nat.le_of_ble_eq_true rfl, rfl, mcd115⟩ rfl rfl (Nat.le_of_ble_eq_true rfl) (w184 (f := f) h0 h1 h2 h3) ?_
  refine R_nb d145_6 rfl (mb_f (b := ((1 : Int32) = (0 : Int32))) (by decide)) ?_
  refine R_ic (v := 0) d145_9 (by decide) ?_
  refine R_br 14 d145_10 rfl rfl ?_
  refine R_cm [.int 0] d145_14 (List.mem_of_getElem? (i := 164) rfl) rfl ⟨by decide, by decide, Nat.le_of_ble_eq_true rfl, rfl, mcd117⟩ rfl rfl (Nat.le_of_ble_eq_true rfl) rfl rfl (w185 (f := f)) ?_
  refine R_br 22 d145_17 (mb_t (b := ((0 : Int32) = (0 : Int32))) (by decide)) rfl ?_
  refine R_p d145_22 rfl rfl ?_
  refine R_cm [] d145_23 (List.mem_of_getElem? (i := 175) rfl) rfl ⟨by decide, by decide, Nat.le_of_ble_eq_true rfl, rfl, mcd128⟩ rfl rfl (Nat.le_of_ble_eq_true rfl) rfl rfl (w187 (f := f)) ?_
  refine R_p d145_26 rfl rfl ?_
  refine R_get d145_27 (Or.inl (List.mem_of_getElem? (i := 50) rfl)) rfl rfl ?_
  refine R_bi (v := 40) d145_30 (by decide) ?_
  refine R_p d145_32 rfl rfl ?_
  refine R_p d145_33 rfl rfl ?_
  refine R_lst d145_34 rfl (vp_ok (by decide)) ?_
  refine R_p d145_35 rfl rfl ?_
  refine R_get d145_36 (Or.inl (List.mem_of_getElem? (i := 51) rfl)) rfl rfl ?_
  refine R_bi (v := 40) d145_39 (by decide) ?_
  refine R_p d145_41 rfl rfl ?_
  refine R_p d145_42 rfl rfl ?_
  refine R_lst d145_43 rfl (vp_ok (by decide)) ?_
  refine R_p d145_44 rfl rfl ?_
  refine R_bi (v := 40) d145_45 (by decide) ?_
  refine R_cm [.int 40] d145_47 (List.mem_of_getElem? (i := 193) rfl) rfl ⟨by decide, by decide, Nat.le_of_ble_eq_true rfl, rfl, mcd146⟩ rfl rfl (Nat.le_of_ble_eq_true rfl) rfl rfl (w188 (f := f)) ?_
  exact R_iret d145_50 rfl rfl rfl
set_option maxRecDepth 4000 in
theorem w190 {f : Nat → Int32} : Run (5, f) 113 (0, [(0, .ref 42)], [], (HJ21 f)) (.inl (some (.int 0)), (HJ21 f)) := by
  refine R_p d113_0 rfl rfl ?_
  refine R_get d113_1 (Or.inl (List.mem_of_getElem? (i := 48) rfl)) rfl rfl ?_
  exact R_iret d113_4 rfl rfl rfl
set_option maxRecDepth 4000 in
theorem law740_191 {f : Nat → Int32} (h0 : ¬ ((f 1) < (-536870911))) (h1 : ¬ (536870911 < (f 1))) (h2 : ¬ ((f 2) < (-536870911))) (h3 : ¬ (536870911 < (f 2))) : Run (5, f) 171 (740, [(0, .ref 0), (1, .ref 16), (2, .ref 42), (3, .ref 53), (4, .int 0)], [], HL0) (.inl (some (.int 1)), (HJ21 f)) := by
  refine R_p d171_740 rfl rfl ?_
  refine R_p d171_741 rfl rfl ?_
  refine R_p d171_742 rfl rfl ?_
  refine R_ic (v := 1) d171_744 (by decide) ?_
  refine R_p d171_745 rfl rfl ?_
  refine R_nv (v := _) (v' := 1) (by decide) ?_
  refine R_sldk (n := 1) (x := (f 1)) d171_746 (vp_ok (by decide)) (by decide) rfl ?_
  refine R_p d171_747 rfl rfl ?_
  refine R_p d171_748 rfl rfl ?_
  refine R_ic (v := 2) d171_750 (by decide) ?_
  refine R_p d171_751 rfl rfl ?_
  refine R_nv (v := _) (v' := 2) (by decide) ?_
  refine R_sldk (n := 2) (x := (f 2)) d171_752 (vp_ok (by decide)) (by decide) rfl ?_
  refine R_p d171_753 rfl rfl ?_
  refine R_hs [.ref 16, .int (f 1), .int (f 2), .ref 53] d171_754 (List.mem_of_getElem? (i := 124) rfl) ⟨by decide, by decide, Nat.le_of_ble_eq_true rfl, mcd165⟩ rfl rfl (Nat.le_of_ble_eq_true rfl) (w181 (f := f) h0 h1 h2 h3) ?_
  refine R_p (ls' := [(0, .ref 0), (1, .ref 16), (2, .ref 42), (3, .ref 53), (4, .int 0), (5, .int 0)]) d171_757 rfl rfl ?_
  refine R_p d171_759 rfl rfl ?_
  refine R_p d171_760 rfl rfl ?_
  refine R_p d171_761 rfl rfl ?_
  refine R_ic (v := 1) d171_763 (by decide) ?_
  refine R_p d171_764 rfl rfl ?_
  refine R_nv (v := _) (v' := 1) (by decide) ?_
  refine R_sldk (n := 1) (x := (f 1)) d171_765 (vp_ok (by decide)) (by decide) rfl ?_
  refine R_p d171_766 rfl rfl ?_
  refine R_p d171_767 rfl rfl ?_
  refine R_ic (v := 2) d171_769 (by decide) ?_
  refine R_p d171_770 rfl rfl ?_
  refine R_nv (v := _) (v' := 2) (by decide) ?_
  refine R_sldk (n := 2) (x := (f 2)) d171_771 (vp_ok (by decide)) (by decide) rfl ?_
  refine R_cm [.int (f 1), .int (f 2)] d171_772 (List.mem_of_getElem? (i := 192) rfl) rfl ⟨by decide, by decide, Nat.le_of_ble_eq_true rfl, rfl, mcd145⟩ rfl rfl (Nat.le_of_ble_eq_true rfl) rfl rfl (w189 (f := f) h0 h1 h2 h3) ?_
  refine R_p (ls' := [(0, .ref 0), (1, .ref 16), (2, .ref 42), (3, .ref 53), (4, .int 0), (5, .int 0), (6, .int (-1))]) d171_775 rfl rfl ?_
  refine R_p d171_777 rfl rfl ?_
  refine R_cm [] d171_778 (List.mem_of_getElem? (i := 160) rfl) rfl ⟨by decide, by decide, Nat.le_of_ble_eq_true rfl, rfl, mcd113⟩ rfl rfl (Nat.le_of_ble_eq_true rfl) rfl rfl (w190 (f := f)) ?_
  refine R_p d171_781 rfl rfl ?_
  refine R_br 788 d171_783 (mb_t (b := ((0 : Int32) = (0 : Int32))) (by decide)) rfl ?_
  refine R_p d171_788 rfl rfl ?_
  refine R_nb d171_790 rfl (mb_f (b := (¬ (0 : Int32) = (0 : Int32))) (fun q => q (by decide))) ?_
  refine R_p d171_793 rfl rfl ?_
  refine R_ic (v := 0) d171_794 (by decide) ?_
  refine R_lld d171_795 rfl (vp_ok (by decide)) ?_
  refine R_nw (v := _) (v' := (-1)) (by decide) ?_
  refine R_p d171_796 rfl rfl ?_
  refine R_p d171_798 rfl rfl ?_
  refine R_nw (v := _) (v' := (-1)) (by decide) ?_
  refine R_p d171_799 rfl rfl ?_
  refine R_nv (v := _) (v' := 0) (by decide) ?_
  refine R_br 805 d171_800 (mb_t (b := ((0 : Int32) = (0 : Int32))) (by decide)) rfl ?_
  refine R_br 950 d171_805 rfl rfl ?_
  refine R_p (ls' := [(0, .ref 0), (1, .ref 16), (2, .ref 42), (3, .ref 53), (4, .int 5), (5, .int 0), (6, .int (-1))]) d171_950 rfl rfl ?_
  refine R_br 23 d171_953 rfl rfl ?_
  refine R_p d171_23 rfl rfl ?_
  refine R_p d171_25 rfl rfl ?_
  refine R_sln d171_26 ?_
  refine R_nv (v := _) (v' := 5) (show Int32.ofNat 5 = 5 from by decide) ?_
  refine R_ic (v := 5) d171_27 (by decide) ?_
  refine R_p d171_28 rfl rfl ?_
  refine R_nv (v := _) (v' := 0) (by decide) ?_
  refine R_br 956 d171_29 (mb_t (b := ((0 : Int32) < (5 : Int32))) (by decide)) rfl ?_
  refine R_ic (v := 1) d171_956 (by decide) ?_
  exact R_iret d171_957 rfl rfl rfl
set_option maxRecDepth 4000 in
theorem w192 {f : Nat → Int32} (h0 : ((f 1) < (-536870911))) : Run (5, f) 111 (0, [(0, .ref 16), (1, .int (f 1)), (2, .int (f 2)), (3, .int (f 3)), (4, .int (f 4))], [], HL0) (.inr 54, HJ1) := by
  refine R_p d111_0 rfl rfl ?_
  refine R_p d111_1 rfl rfl ?_
  refine R_p d111_2 rfl rfl ?_
  exact R_tv [.int (f 1), .int (f 2)] d111_3 (List.mem_of_getElem? (i := 30) rfl) ⟨by decide, by decide, Nat.le_of_ble_eq_true rfl, mcd97⟩ rfl rfl (Nat.le_of_ble_eq_true rfl) rfl rfl rfl (Or.inr (w1 (f := f) h0))
set_option maxRecDepth 4000 in
theorem w193 {f : Nat → Int32} (h0 : ((f 1) < (-536870911))) : Run (5, f) 166 (0, [(0, .ref 16), (1, .int (f 1)), (2, .int (f 2)), (3, .int (f 3)), (4, .int (f 4)), (5, .ref 53)], [], HL0) (.inl (some (.int 1)), HJ1) := by
  refine R_p d166_0 rfl rfl ?_
  refine R_ic (v := 0) d166_2 (by decide) ?_
  refine R_p d166_3 rfl rfl ?_
  refine R_p d166_4 rfl rfl ?_
  refine R_p d166_5 rfl rfl ?_
  refine R_p d166_6 rfl rfl ?_
  refine R_p d166_7 rfl rfl ?_
  refine R_tc [.int (f 1), .int (f 2), .int (f 3), .int (f 4)] d166_9 (List.mem_of_getElem? (i := 128) rfl) ⟨by decide, by decide, Nat.le_of_ble_eq_true rfl, mcd111⟩ rfl rfl (Nat.le_of_ble_eq_true rfl) rfl rfl rfl (cx := 10) (hp := 17) rfl (by decide) (by decide) (by decide) (Or.inl (w192 (f := f) h0)) ?_
  refine R_p (ls' := [(0, .ref 16), (1, .int (f 1)), (2, .int (f 2)), (3, .int (f 3)), (4, .int (f 4)), (5, .ref 53), (6, .ref 54)]) d166_17 rfl rfl ?_
  refine R_ic (v := 1) d166_19 (by decide) ?_
  exact R_iret d166_20 rfl rfl rfl
set_option maxRecDepth 4000 in
theorem w194 {f : Nat → Int32} (h0 : ((f 1) < (-536870911))) : Run (5, f) 147 (0, [(0, .ref 42), (1, .int (f 1)), (2, .int (f 2)), (3, .int (f 3)), (4, .int (f 4))], [], HJ1) (.inl (some (.int 0)), HJ2) := by
  refine R_p d147_0 rfl rfl ?_
  refine R_p d147_1 rfl rfl ?_
  refine R_p d147_2 rfl rfl ?_
  refine R_cs [.int (f 1), .int (f 2)] d147_3 (List.mem_of_getElem? (i := 162) rfl) rfl ⟨by decide, by decide, Nat.le_of_ble_eq_true rfl, rfl, mcd115⟩ rfl rfl (Nat.le_of_ble_eq_true rfl) (w5 (f := f) h0) ?_
  refine R_br 22 d147_6 (mb_t (b := ((0 : Int32) = (0 : Int32))) (by decide)) rfl ?_
  refine R_ic (v := 1) d147_22 (by decide) ?_
  refine R_cm [.int 1] d147_23 (List.mem_of_getElem? (i := 164) rfl) rfl ⟨by decide, by decide, Nat.le_of_ble_eq_true rfl, rfl, mcd117⟩ rfl rfl (Nat.le_of_ble_eq_true rfl) rfl rfl (w6 (f := f)) ?_
  refine R_nb d147_26 rfl (mb_f (b := ((1 : Int32) = (0 : Int32))) (by decide)) ?_
  refine R_ic (v := 0) d147_29 (by decide) ?_
  exact R_iret d147_30 rfl rfl rfl
set_option maxRecDepth 4000 in
theorem law808_195 {f : Nat → Int32} (h0 : ((f 1) < (-536870911))) : Run (5, f) 171 (808, [(0, .ref 0), (1, .ref 16), (2, .ref 42), (3, .ref 53), (4, .int 0)], [], HL0) (.inl (some (.int 1)), HJ2) := by
  refine R_p d171_808 rfl rfl ?_
  refine R_p d171_809 rfl rfl ?_
  refine R_p d171_810 rfl rfl ?_
  refine R_ic (v := 1) d171_812 (by decide) ?_
  refine R_p d171_813 rfl rfl ?_
  refine R_nv (v := _) (v' := 1) (by decide) ?_
  refine R_sldk (n := 1) (x := (f 1)) d171_814 (vp_ok (by decide)) (by decide) rfl ?_
  refine R_p d171_815 rfl rfl ?_
  refine R_p d171_816 rfl rfl ?_
  refine R_ic (v := 2) d171_818 (by decide) ?_
  refine R_p d171_819 rfl rfl ?_
  refine R_nv (v := _) (v' := 2) (by decide) ?_
  refine R_sldk (n := 2) (x := (f 2)) d171_820 (vp_ok (by decide)) (by decide) rfl ?_
  refine R_p d171_821 rfl rfl ?_
  refine R_p d171_822 rfl rfl ?_
  refine R_ic (v := 3) d171_824 (by decide) ?_
  refine R_p d171_825 rfl rfl ?_
  refine R_nv (v := _) (v' := 3) (by decide) ?_
  refine R_sldk (n := 3) (x := (f 3)) d171_826 (vp_ok (by decide)) (by decide) rfl ?_
  refine R_p d171_827 rfl rfl ?_
  refine R_p d171_828 rfl rfl ?_
  refine R_ic (v := 4) d171_830 (by decide) ?_
  refine R_p d171_831 rfl rfl ?_
  refine R_nv (v := _) (v' := 4) (by decide) ?_
  refine R_sldk (n := 4) (x := (f 4)) d171_832 (vp_ok (by decide)) (by decide) rfl ?_
  refine R_p d171_833 rfl rfl ?_
  refine R_hs [.ref 16, .int (f 1), .int (f 2), .int (f 3), .int (f 4), .ref 53] d171_834 (List.mem_of_getElem? (i := 127) rfl) ⟨by decide, by decide, Nat.le_of_ble_eq_true rfl, mcd166⟩ rfl rfl (Nat.le_of_ble_eq_true rfl) (w193 (f := f) h0) ?_
  refine R_p (ls' := [(0, .ref 0), (1, .ref 16), (2, .ref 42), (3, .ref 53), (4, .int 0), (5, .int 1)]) d171_837 rfl rfl ?_
  refine R_p d171_839 rfl rfl ?_
  refine R_p d171_840 rfl rfl ?_
  refine R_p d171_841 rfl rfl ?_
  refine R_ic (v := 1) d171_843 (by decide) ?_
  refine R_p d171_844 rfl rfl ?_
  refine R_nv (v := _) (v' := 1) (by decide) ?_
  refine R_sldk (n := 1) (x := (f 1)) d171_845 (vp_ok (by decide)) (by decide) rfl ?_
  refine R_p d171_846 rfl rfl ?_
  refine R_p d171_847 rfl rfl ?_
  refine R_ic (v := 2) d171_849 (by decide) ?_
  refine R_p d171_850 rfl rfl ?_
  refine R_nv (v := _) (v' := 2) (by decide) ?_
  refine R_sldk (n := 2) (x := (f 2)) d171_851 (vp_ok (by decide)) (by decide) rfl ?_
  refine R_p d171_852 rfl rfl ?_
  refine R_p d171_853 rfl rfl ?_
  refine R_ic (v := 3) d171_855 (by decide) ?_
  refine R_p d171_856 rfl rfl ?_
  refine R_nv (v := _) (v' := 3) (by decide) ?_
  refine R_sldk (n := 3) (x := (f 3)) d171_857 (vp_ok (by decide)) (by decide) rfl ?_
  refine R_p d171_858 rfl rfl ?_
  refine R_p d171_859 rfl rfl ?_
  refine R_ic (v := 4) d171_861 (by decide) ?_
  refine R_p d171_862 rfl rfl ?_
  refine R_nv (v := _) (v' := 4) (by decide) ?_
  refine R_sldk (n := 4) (x := (f 4)) d171_863 (vp_ok (by decide)) (by decide) rfl ?_
  refine R_cm [.int (f 1), .int (f 2), .int (f 3), .int (f 4)] d171_864 (List.mem_of_getElem? (i := 194) rfl) rfl ⟨by decide, by decide, Nat.le_of_ble_eq_true rfl, rfl, mcd147⟩ rfl rfl (Nat.le_of_ble_eq_true rfl) rfl rfl (w194 (f := f) h0) ?_
  refine R_p (ls' := [(0, .ref 0), (1, .ref 16), (2, .ref 42), (3, .ref 53), (4, .int 0), (5, .int 1), (6, .int 0)]) d171_867 rfl rfl ?_
  refine R_p d171_869 rfl rfl ?_
  refine R_cm [] d171_870 (List.mem_of_getElem? (i := 160) rfl) rfl ⟨by decide, by decide, Nat.le_of_ble_eq_true rfl, rfl, mcd113⟩ rfl rfl (Nat.le_of_ble_eq_true rfl) rfl rfl (w8 (f := f)) ?_
  refine R_p d171_873 rfl rfl ?_
  refine R_br 880 d171_875 (mb_t (b := ((1 : Int32) = (1 : Int32))) (by decide)) rfl ?_
  refine R_p d171_880 rfl rfl ?_
  refine R_br 897 d171_882 (mb_t (b := (¬ (1 : Int32) = (0 : Int32))) (by decide)) rfl ?_
  refine R_br 950 d171_897 rfl rfl ?_
  refine R_p (ls' := [(0, .ref 0), (1, .ref 16), (2, .ref 42), (3, .ref 53), (4, .int 5), (5, .int 1), (6, .int 0)]) d171_950 rfl rfl ?_
  refine R_br 23 d171_953 rfl rfl ?_
  refine R_p d171_23 rfl rfl ?_
  refine R_p d171_25 rfl rfl ?_
  refine R_sln d171_26 ?_
  refine R_nv (v := _) (v' := 5) (show Int32.ofNat 5 = 5 from by decide) ?_
  refine R_ic (v := 5) d171_27 (by decide) ?_
  refine R_p d171_28 rfl rfl ?_
  refine R_nv (v := _) (v' := 0) (by decide) ?_
  refine R_br 956 d171_29 (mb_t (b := ((0 : Int32) < (5 : Int32))) (by decide)) rfl ?_
  refine R_ic (v := 1) d171_956 (by decide) ?_
  exact R_iret d171_957 rfl rfl rfl
set_option maxRecDepth 4000 in
theorem w196 {f : Nat → Int32} (h0 : ¬ ((f 1) < (-536870911))) (h1 : (536870911 < (f 1))) : Run (5, f) 111 (0, [(0, .ref 16), (1, .int (f 1)), (2, .int (f 2)), (3, .int (f 3)), (4, .int (f 4))], [], HL0) (.inr 54, HJ1) := by
  refine R_p d111_0 rfl rfl ?_
  refine R_p d111_1 rfl rfl ?_
  refine R_p d111_2 rfl rfl ?_
  exact R_tv [.int (f 1), .int (f 2)] d111_3 (List.mem_of_getElem? (i := 30) rfl) ⟨by decide, by decide, Nat.le_of_ble_eq_true rfl, mcd97⟩ rfl rfl (Nat.le_of_ble_eq_true rfl) rfl rfl rfl (Or.inr (w10 (f := f) h0 h1))
set_option maxRecDepth 4000 in
theorem w197 {f : Nat → Int32} (h0 : ¬ ((f 1) < (-536870911))) (h1 : (536870911 < (f 1))) : Run (5, f) 166 (0, [(0, .ref 16), (1, .int (f 1)), (2, .int (f 2)), (3, .int (f 3)), (4, .int (f 4)), (5, .ref 53)], [], HL0) (.inl (some (.int 1)), HJ1) := by
  refine R_p d166_0 rfl rfl ?_
  refine R_ic (v := 0) d166_2 (by decide) ?_
  refine R_p d166_3 rfl rfl ?_
  refine R_p d166_4 rfl rfl ?_
  refine R_p d166_5 rfl rfl ?_
  refine R_p d166_6 rfl rfl ?_
  refine R_p d166_7 rfl rfl ?_
  refine R_tc [.int (f 1), .int (f 2), .int (f 3), .int (f 4)] d166_9 (List.mem_of_getElem? (i := 128) rfl) ⟨by decide, by decide, Nat.le_of_ble_eq_true rfl, mcd111⟩ rfl rfl (Nat.le_of_ble_eq_true rfl) rfl rfl rfl (cx := 10) (hp := 17) rfl (by decide) (by decide) (by decide) (Or.inl (w196 (f := f) h0 h1)) ?_
  refine R_p (ls' := [(0, .ref 16), (1, .int (f 1)), (2, .int (f 2)), (3, .int (f 3)), (4, .int (f 4)), (5, .ref 53), (6, .ref 54)]) d166_17 rfl rfl ?_
  refine R_ic (v := 1) d166_19 (by decide) ?_
  exact R_iret d166_20 rfl rfl rfl
set_option maxRecDepth 4000 in
theorem w198 {f : Nat → Int32} (h0 : ¬ ((f 1) < (-536870911))) (h1 : (536870911 < (f 1))) : Run (5, f) 147 (0, [(0, .ref 42), (1, .int (f 1)), (2, .int (f 2)), (3, .int (f 3)), (4, .int (f 4))], [], HJ1) (.inl (some (.int 0)), HJ2) := by
  refine R_p d147_0 rfl rfl ?_
  refine R_p d147_1 rfl rfl ?_
  refine R_p d147_2 rfl rfl ?_
  refine R_cs [.int (f 1), .int (f 2)] d147_3 (List.mem_of_getElem? (i := 162) rfl) rfl ⟨by decide, by decide, Nat.le_of_ble_eq_true rfl, rfl, mcd115⟩ rfl rfl (Nat.le_of_ble_eq_true rfl) (w14 (f := f) h0 h1) ?_
  refine R_br 22 d147_6 (mb_t (b := ((0 : Int32) = (0 : Int32))) (by decide)) rfl ?_
  refine R_ic (v := 1) d147_22 (by decide) ?_
  refine R_cm [.int 1] d147_23 (List.mem_of_getElem? (i := 164) rfl) rfl ⟨by decide, by decide, Nat.le_of_ble_eq_true rfl, rfl, mcd117⟩ rfl rfl (Nat.le_of_ble_eq_true rfl) rfl rfl (w6 (f := f)) ?_
  refine R_nb d147_26 rfl (mb_f (b := ((1 : Int32) = (0 : Int32))) (by decide)) ?_
  refine R_ic (v := 0) d147_29 (by decide) ?_
  exact R_iret d147_30 rfl rfl rfl
set_option maxRecDepth 4000 in
theorem law808_199 {f : Nat → Int32} (h0 : ¬ ((f 1) < (-536870911))) (h1 : (536870911 < (f 1))) : Run (5, f) 171 (808, [(0, .ref 0), (1, .ref 16), (2, .ref 42), (3, .ref 53), (4, .int 0)], [], HL0) (.inl (some (.int 1)), HJ2) := by
  refine R_p d171_808 rfl rfl ?_
  refine R_p d171_809 rfl rfl ?_
  refine R_p d171_810 rfl rfl ?_
  refine R_ic (v := 1) d171_812 (by decide) ?_
  refine R_p d171_813 rfl rfl ?_
  refine R_nv (v := _) (v' := 1) (by decide) ?_
  refine R_sldk (n := 1) (x := (f 1)) d171_814 (vp_ok (by decide)) (by decide) rfl ?_
  refine R_p d171_815 rfl rfl ?_
  refine R_p d171_816 rfl rfl ?_
  refine R_ic (v := 2) d171_818 (by decide) ?_
  refine R_p d171_819 rfl rfl ?_
  refine R_nv (v := _) (v' := 2) (by decide) ?_
  refine R_sldk (n := 2) (x := (f 2)) d171_820 (vp_ok (by decide)) (by decide) rfl ?_
  refine R_p d171_821 rfl rfl ?_
  refine R_p d171_822 rfl rfl ?_
  refine R_ic (v := 3) d171_824 (by decide) ?_
  refine R_p d171_825 rfl rfl ?_
  refine R_nv (v := _) (v' := 3) (by decide) ?_
  refine R_sldk (n := 3) (x := (f 3)) d171_826 (vp_ok (by decide)) (by decide) rfl ?_
  refine R_p d171_827 rfl rfl ?_
  refine R_p d171_828 rfl rfl ?_
  refine R_ic (v := 4) d171_830 (by decide) ?_
  refine R_p d171_831 rfl rfl ?_
  refine R_nv (v := _) (v' := 4) (by decide) ?_
  refine R_sldk (n := 4) (x := (f 4)) d171_832 (vp_ok (by decide)) (by decide) rfl ?_
  refine R_p d171_833 rfl rfl ?_
  refine R_hs [.ref 16, .int (f 1), .int (f 2), .int (f 3), .int (f 4), .ref 53] d171_834 (List.mem_of_getElem? (i := 127) rfl) ⟨by decide, by decide, Nat.le_of_ble_eq_true rfl, mcd166⟩ rfl rfl (Nat.le_of_ble_eq_true rfl) (w197 (f := f) h0 h1) ?_
  refine R_p (ls' := [(0, .ref 0), (1, .ref 16), (2, .ref 42), (3, .ref 53), (4, .int 0), (5, .int 1)]) d171_837 rfl rfl ?_
  refine R_p d171_839 rfl rfl ?_
  refine R_p d171_840 rfl rfl ?_
  refine R_p d171_841 rfl rfl ?_
  refine R_ic (v := 1) d171_843 (by decide) ?_
  refine R_p d171_844 rfl rfl ?_
  refine R_nv (v := _) (v' := 1) (by decide) ?_
  refine R_sldk (n := 1) (x := (f 1)) d171_845 (vp_ok (by decide)) (by decide) rfl ?_
  refine R_p d171_846 rfl rfl ?_
  refine R_p d171_847 rfl rfl ?_
  refine R_ic (v := 2) d171_849 (by decide) ?_
  refine R_p d171_850 rfl rfl ?_
  refine R_nv (v := _) (v' := 2) (by decide) ?_
  refine R_sldk (n := 2) (x := (f 2)) d171_851 (vp_ok (by decide)) (by decide) rfl ?_
  refine R_p d171_852 rfl rfl ?_
  refine R_p d171_853 rfl rfl ?_
  refine R_ic (v := 3) d171_855 (by decide) ?_
  refine R_p d171_856 rfl rfl ?_
  refine R_nv (v := _) (v' := 3) (by decide) ?_
  refine R_sldk (n := 3) (x := (f 3)) d171_857 (vp_ok (by decide)) (by decide) rfl ?_
  refine R_p d171_858 rfl rfl ?_
  refine R_p d171_859 rfl rfl ?_
  refine R_ic (v := 4) d171_861 (by decide) ?_
  refine R_p d171_862 rfl rfl ?_
  refine R_nv (v := _) (v' := 4) (by decide) ?_
  refine R_sldk (n := 4) (x := (f 4)) d171_863 (vp_ok (by decide)) (by decide) rfl ?_
  refine R_cm [.int (f 1), .int (f 2), .int (f 3), .int (f 4)] d171_864 (List.mem_of_getElem? (i := 194) rfl) rfl ⟨by decide, by decide, Nat.le_of_ble_eq_true rfl, rfl, mcd147⟩ rfl rfl (Nat.le_of_ble_eq_true rfl) rfl rfl (w198 (f := f) h0 h1) ?_
  refine R_p (ls' := [(0, .ref 0), (1, .ref 16), (2, .ref 42), (3, .ref 53), (4, .int 0), (5, .int 1), (6, .int 0)]) d171_867 rfl rfl ?_
  refine R_p d171_869 rfl rfl ?_
  refine R_cm [] d171_870 (List.mem_of_getElem? (i := 160) rfl) rfl ⟨by decide, by decide, Nat.le_of_ble_eq_true rfl, rfl, mcd113⟩ rfl rfl (Nat.le_of_ble_eq_true rfl) rfl rfl (w8 (f := f)) ?_
  refine R_p d171_873 rfl rfl ?_
  refine R_br 880 d171_875 (mb_t (b := ((1 : Int32) = (1 : Int32))) (by decide)) rfl ?_
  refine R_p d171_880 rfl rfl ?_
  refine R_br 897 d171_882 (mb_t (b := (¬ (1 : Int32) = (0 : Int32))) (by decide)) rfl ?_
  refine R_br 950 d171_897 rfl rfl ?_
  refine R_p (ls' := [(0, .ref 0), (1, .ref 16), (2, .ref 42), (3, .ref 53), (4, .int 5), (5, .int 1), (6, .int 0)]) d171_950 rfl rfl ?_
  refine R_br 23 d171_953 rfl rfl ?_
  refine R_p d171_23 rfl rfl ?_
  refine R_p d171_25 rfl rfl ?_
  refine R_sln d171_26 ?_
  refine R_nv (v := _) (v' := 5) (show Int32.ofNat 5 = 5 from by decide) ?_
  refine R_ic (v := 5) d171_27 (by decide) ?_
  refine R_p d171_28 rfl rfl ?_
  refine R_nv (v := _) (v' := 0) (by decide) ?_
  refine R_br 956 d171_29 (mb_t (b := ((0 : Int32) < (5 : Int32))) (by decide)) rfl ?_
  refine R_ic (v := 1) d171_956 (by decide) ?_
  exact R_iret d171_957 rfl rfl rfl
set_option maxRecDepth 4000 in
theorem w200 {f : Nat → Int32} (h0 : ¬ ((f 1) < (-536870911))) (h1 : ¬ (536870911 < (f 1))) (h2 : ((f 2) < (-536870911))) : Run (5, f) 111 (0, [(0, .ref 16), (1, .int (f 1)), (2, .int (f 2)), (3, .int (f 3)), (4, .int (f 4))], [], HL0) (.inr 54, HJ1) := by
  refine R_p d111_0 rfl rfl ?_
  refine R_p d111_1 rfl rfl ?_
  refine R_p d111_2 rfl rfl ?_
  exact R_tv [.int (f 1), .int (f 2)] d111_3 (List.mem_of_getElem? (i := 30) rfl) ⟨by decide, by decide, Nat.le_of_ble_eq_true rfl, mcd97⟩ rfl rfl (Nat.le_of_ble_eq_true rfl) rfl rfl rfl (Or.inr (w17 (f := f) h0 h1 h2))
set_option maxRecDepth 4000 in
theorem w201 {f : Nat → Int32} (h0 : ¬ ((f 1) < (-536870911))) (h1 : ¬ (536870911 < (f 1))) (h2 : ((f 2) < (-536870911))) : Run (5, f) 166 (0, [(0, .ref 16), (1, .int (f 1)), (2, .int (f 2)), (3, .int (f 3)), (4, .int (f 4)), (5, .ref 53)], [], HL0) (.inl (some (.int 1)), HJ1) := by
  refine R_p d166_0 rfl rfl ?_
  refine R_ic (v := 0) d166_2 (by decide) ?_
  refine R_p d166_3 rfl rfl ?_
  refine R_p d166_4 rfl rfl ?_
  refine R_p d166_5 rfl rfl ?_
  refine R_p d166_6 rfl rfl ?_
  refine R_p d166_7 rfl rfl ?_
  refine R_tc [.int (f 1), .int (f 2), .int (f 3), .int (f 4)] d166_9 (List.mem_of_getElem? (i := 128) rfl) ⟨by decide, by decide, Nat.le_of_ble_eq_true rfl, mcd111⟩ rfl rfl (Nat.le_of_ble_eq_true rfl) rfl rfl rfl (cx := 10) (hp := 17) rfl (by decide) (by decide) (by decide) (Or.inl (w200 (f := f) h0 h1 h2)) ?_
  refine R_p (ls' := [(0, .ref 16), (1, .int (f 1)), (2, .int (f 2)), (3, .int (f 3)), (4, .int (f 4)), (5, .ref 53), (6, .ref 54)]) d166_17 rfl rfl ?_
  refine R_ic (v := 1) d166_19 (by decide) ?_
  exact R_iret d166_20 rfl rfl rfl
set_option maxRecDepth 4000 in
theorem w202 {f : Nat → Int32} (h0 : ¬ ((f 1) < (-536870911))) (h1 : ¬ (536870911 < (f 1))) (h2 : ((f 2) < (-536870911))) : Run (5, f) 147 (0, [(0, .ref 42), (1, .int (f 1)), (2, .int (f 2)), (3, .int (f 3)), (4, .int (f 4))], [], HJ1) (.inl (some (.int 0)), HJ2) := by
  refine R_p d147_0 rfl rfl ?_
  refine R_p d147_1 rfl rfl ?_
  refine R_p d147_2 rfl rfl ?_
  refine R_cs [.int (f 1), .int (f 2)] d147_3 (List.mem_of_getElem? (i := 162) rfl) rfl ⟨by decide, by decide, Nat.le_of_ble_eq_true rfl, rfl, mcd115⟩ rfl rfl (Nat.le_of_ble_eq_true rfl) (w22 (f := f) h0 h1 h2) ?_
  refine R_br 22 d147_6 (mb_t (b := ((0 : Int32) = (0 : Int32))) (by decide)) rfl ?_
  refine R_ic (v := 1) d147_22 (by decide) ?_
  refine R_cm [.int 1] d147_23 (List.mem_of_getElem? (i := 164) rfl) rfl ⟨by decide, by decide, Nat.le_of_ble_eq_true rfl, rfl, mcd117⟩ rfl rfl (Nat.le_of_ble_eq_true rfl) rfl rfl (w6 (f := f)) ?_
  refine R_nb d147_26 rfl (mb_f (b := ((1 : Int32) = (0 : Int32))) (by decide)) ?_
  refine R_ic (v := 0) d147_29 (by decide) ?_
  exact R_iret d147_30 rfl rfl rfl
set_option maxRecDepth 4000 in
theorem law808_203 {f : Nat → Int32} (h0 : ¬ ((f 1) < (-536870911))) (h1 : ¬ (536870911 < (f 1))) (h2 : ((f 2) < (-536870911))) : Run (5, f) 171 (808, [(0, .ref 0), (1, .ref 16), (2, .ref 42), (3, .ref 53), (4, .int 0)], [], HL0) (.inl (some (.int 1)), HJ2) := by
  refine R_p d171_808 rfl rfl ?_
  refine R_p d171_809 rfl rfl ?_
  refine R_p d171_810 rfl rfl ?_
  refine R_ic (v := 1) d171_812 (by decide) ?_
  refine R_p d171_813 rfl rfl ?_
  refine R_nv (v := _) (v' := 1) (by decide) ?_
  refine R_sldk (n := 1) (x := (f 1)) d171_814 (vp_ok (by decide)) (by decide) rfl ?_
  refine R_p d171_815 rfl rfl ?_
  refine R_p d171_816 rfl rfl ?_
  refine R_ic (v := 2) d171_818 (by decide) ?_
  refine R_p d171_819 rfl rfl ?_
  refine R_nv (v := _) (v' := 2) (by decide) ?_
  refine R_sldk (n := 2) (x := (f 2)) d171_820 (vp_ok (by decide)) (by decide) rfl ?_
  refine R_p d171_821 rfl rfl ?_
  refine R_p d171_822 rfl rfl ?_
  refine R_ic (v := 3) d171_824 (by decide) ?_
  refine R_p d171_825 rfl rfl ?_
  refine R_nv (v := _) (v' := 3) (by decide) ?_
  refine R_sldk (n := 3) (x := (f 3)) d171_826 (vp_ok (by decide)) (by decide) rfl ?_
  refine R_p d171_827 rfl rfl ?_
  refine R_p d171_828 rfl rfl ?_
  refine R_ic (v := 4) d171_830 (by decide) ?_
  refine R_p d171_831 rfl rfl ?_
  refine R_nv (v := _) (v' := 4) (by decide) ?_
  refine R_sldk (n := 4) (x := (f 4)) d171_832 (vp_ok (by decide)) (by decide) rfl ?_
  refine R_p d171_833 rfl rfl ?_
  refine R_hs [.ref 16, .int (f 1), .int (f 2), .int (f 3), .int (f 4), .ref 53] d171_834 (List.mem_of_getElem? (i := 127) rfl) ⟨by decide, by decide, Nat.le_of_ble_eq_true rfl, mcd166⟩ rfl rfl (Nat.le_of_ble_eq_true rfl) (w201 (f := f) h0 h1 h2) ?_
  refine R_p (ls' := [(0, .ref 0), (1, .ref 16), (2, .ref 42), (3, .ref 53), (4, .int 0), (5, .int 1)]) d171_837 rfl rfl ?_
  refine R_p d171_839 rfl rfl ?_
  refine R_p d171_840 rfl rfl ?_
  refine R_p d171_841 rfl rfl ?_
  refine R_ic (v := 1) d171_843 (by decide) ?_
  refine R_p d171_844 rfl rfl ?_
  refine R_nv (v := _) (v' := 1) (by decide) ?_
  refine R_sldk (n := 1) (x := (f 1)) d171_845 (vp_ok (by decide)) (by decide) rfl ?_
  refine R_p d171_846 rfl rfl ?_
  refine R_p d171_847 rfl rfl ?_
  refine R_ic (v := 2) d171_849 (by decide) ?_
  refine R_p d171_850 rfl rfl ?_
  refine R_nv (v := _) (v' := 2) (by decide) ?_
  refine R_sldk (n := 2) (x := (f 2)) d171_851 (vp_ok (by decide)) (by decide) rfl ?_
  refine R_p d171_852 rfl rfl ?_
  refine R_p d171_853 rfl rfl ?_
  refine R_ic (v := 3) d171_855 (by decide) ?_
  refine R_p d171_856 rfl rfl ?_
  refine R_nv (v := _) (v' := 3) (by decide) ?_
  refine R_sldk (n := 3) (x := (f 3)) d171_857 (vp_ok (by decide)) (by decide) rfl ?_
  refine R_p d171_858 rfl rfl ?_
  refine R_p d171_859 rfl rfl ?_
  refine R_ic (v := 4) d171_861 (by decide) ?_
  refine R_p d171_862 rfl rfl ?_
  refine R_nv (v := _) (v' := 4) (by decide) ?_
  refine R_sldk (n := 4) (x := (f 4)) d171_863 (vp_ok (by decide)) (by decide) rfl ?_
  refine R_cm [.int (f 1), .int (f 2), .int (f 3), .int (f 4)] d171_864 (List.mem_of_getElem? (i := 194) rfl) rfl ⟨by decide, by decide, Nat.le_of_ble_eq_true rfl, rfl, mcd147⟩ rfl rfl (Nat.le_of_ble_eq_true rfl) rfl rfl (w202 (f := f) h0 h1 h2) ?_
  refine R_p (ls' := [(0, .ref 0), (1, .ref 16), (2, .ref 42), (3, .ref 53), (4, .int 0), (5, .int 1), (6, .int 0)]) d171_867 rfl rfl ?_
  refine R_p d171_869 rfl rfl ?_
  refine R_cm [] d171_870 (List.mem_of_getElem? (i := 160) rfl) rfl ⟨by decide, by decide, Nat.le_of_ble_eq_true rfl, rfl, mcd113⟩ rfl rfl (Nat.le_of_ble_eq_true rfl) rfl rfl (w8 (f := f)) ?_
  refine R_p d171_873 rfl rfl ?_
  refine R_br 880 d171_875 (mb_t (b := ((1 : Int32) = (1 : Int32))) (by decide)) rfl ?_
  refine R_p d171_880 rfl rfl ?_
  refine R_br 897 d171_882 (mb_t (b := (¬ (1 : Int32) = (0 : Int32))) (by decide)) rfl ?_
  refine R_br 950 d171_897 rfl rfl ?_
  refine R_p (ls' := [(0, .ref 0), (1, .ref 16), (2, .ref 42), (3, .ref 53), (4, .int 5), (5, .int 1), (6, .int 0)]) d171_950 rfl rfl ?_
  refine R_br 23 d171_953 rfl rfl ?_
  refine R_p d171_23 rfl rfl ?_
  refine R_p d171_25 rfl rfl ?_
  refine R_sln d171_26 ?_
  refine R_nv (v := _) (v' := 5) (show Int32.ofNat 5 = 5 from by decide) ?_
  refine R_ic (v := 5) d171_27 (by decide) ?_
  refine R_p d171_28 rfl rfl ?_
  refine R_nv (v := _) (v' := 0) (by decide) ?_
  refine R_br 956 d171_29 (mb_t (b := ((0 : Int32) < (5 : Int32))) (by decide)) rfl ?_
  refine R_ic (v := 1) d171_956 (by decide) ?_
  exact R_iret d171_957 rfl rfl rfl
set_option maxRecDepth 4000 in
theorem w204 {f : Nat → Int32} (h0 : ¬ ((f 1) < (-536870911))) (h1 : ¬ (536870911 < (f 1))) (h2 : ¬ ((f 2) < (-536870911))) (h3 : (536870911 < (f 2))) : Run (5, f) 111 (0, [(0, .ref 16), (1, .int (f 1)), (2, .int (f 2)), (3, .int (f 3)), (4, .int (f 4))], [], HL0) (.inr 54, HJ1) := by
  refine R_p d111_0 rfl rfl ?_
  refine R_p d111_1 rfl rfl ?_
  refine R_p d111_2 rfl rfl ?_
  exact R_tv [.int (f 1), .int (f 2)] d111_3 (List.mem_of_getElem? (i := 30) rfl) ⟨by decide, by decide, Nat.le_of_ble_eq_true rfl, mcd97⟩ rfl rfl (Nat.le_of_ble_eq_true rfl) rfl rfl rfl (Or.inr (w25 (f := f) h0 h1 h2 h3))
set_option maxRecDepth 4000 in
theorem w205 {f : Nat → Int32} (h0 : ¬ ((f 1) < (-536870911))) (h1 : ¬ (536870911 < (f 1))) (h2 : ¬ ((f 2) < (-536870911))) (h3 : (536870911 < (f 2))) : Run (5, f) 166 (0, [(0, .ref 16), (1, .int (f 1)), (2, .int (f 2)), (3, .int (f 3)), (4, .int (f 4)), (5, .ref 53)], [], HL0) (.inl (some (.int 1)), HJ1) := by
  refine R_p d166_0 rfl rfl ?_
  refine R_ic (v := 0) d166_2 (by decide) ?_
  refine R_p d166_3 rfl rfl ?_
  refine R_p d166_4 rfl rfl ?_
  refine R_p d166_5 rfl rfl ?_
  refine R_p d166_6 rfl rfl ?_
  refine R_p d166_7 rfl rfl ?_
  refine R_tc [.int (f 1), .int (f 2), .int (f 3), .int (f 4)] d166_9 (List.mem_of_getElem? (i := 128) rfl) ⟨by decide, by decide, Nat.le_of_ble_eq_true rfl, mcd111⟩ rfl rfl (Nat.le_of_ble_eq_true rfl) rfl rfl rfl (cx := 10) (hp := 17) rfl (by decide) (by decide) (by decide) (Or.inl (w204 (f := f) h0 h1 h2 h3)) ?_
  refine R_p (ls' := [(0, .ref 16), (1, .int (f 1)), (2, .int (f 2)), (3, .int (f 3)), (4, .int (f 4)), (5, .ref 53), (6, .ref 54)]) d166_17 rfl rfl ?_
  refine R_ic (v := 1) d166_19 (by decide) ?_
  exact R_iret d166_20 rfl rfl rfl
set_option maxRecDepth 4000 in
theorem w206 {f : Nat → Int32} (h0 : ¬ ((f 1) < (-536870911))) (h1 : ¬ (536870911 < (f 1))) (h2 : ¬ ((f 2) < (-536870911))) (h3 : (536870911 < (f 2))) : Run (5, f) 147 (0, [(0, .ref 42), (1, .int (f 1)), (2, .int (f 2)), (3, .int (f 3)), (4, .int (f 4))], [], HJ1) (.inl (some (.int 0)), HJ2) := by
  refine R_p d147_0 rfl rfl ?_
  refine R_p d147_1 rfl rfl ?_
  refine R_p d147_2 rfl rfl ?_
  refine R_cs [.int (f 1), .int (f 2)] d147_3 (List.mem_of_getElem? (i := 162) rfl) rfl ⟨by decide, by decide, Nat.le_of_ble_eq_true rfl, rfl, mcd115⟩ rfl rfl (Nat.le_of_ble_eq_true rfl) (w29 (f := f) h0 h1 h2 h3) ?_
  refine R_br 22 d147_6 (mb_t (b := ((0 : Int32) = (0 : Int32))) (by decide)) rfl ?_
  refine R_ic (v := 1) d147_22 (by decide) ?_
  refine R_cm [.int 1] d147_23 (List.mem_of_getElem? (i := 164) rfl) rfl ⟨by decide, by decide, Nat.le_of_ble_eq_true rfl, rfl, mcd117⟩ rfl rfl (Nat.le_of_ble_eq_true rfl) rfl rfl (w6 (f := f)) ?_
  refine R_nb d147_26 rfl (mb_f (b := ((1 : Int32) = (0 : Int32))) (by decide)) ?_
  refine R_ic (v := 0) d147_29 (by decide) ?_
  exact R_iret d147_30 rfl rfl rfl
set_option maxRecDepth 4000 in
theorem law808_207 {f : Nat → Int32} (h0 : ¬ ((f 1) < (-536870911))) (h1 : ¬ (536870911 < (f 1))) (h2 : ¬ ((f 2) < (-536870911))) (h3 : (536870911 < (f 2))) : Run (5, f) 171 (808, [(0, .ref 0), (1, .ref 16), (2, .ref 42), (3, .ref 53), (4, .int 0)], [], HL0) (.inl (some (.int 1)), HJ2) := by
  refine R_p d171_808 rfl rfl ?_
  refine R_p d171_809 rfl rfl ?_
  refine R_p d171_810 rfl rfl ?_
  refine R_ic (v := 1) d171_812 (by decide) ?_
  refine R_p d171_813 rfl rfl ?_
  refine R_nv (v := _) (v' := 1) (by decide) ?_
  refine R_sldk (n := 1) (x := (f 1)) d171_814 (vp_ok (by decide)) (by decide) rfl ?_
  refine R_p d171_815 rfl rfl ?_
  refine R_p d171_816 rfl rfl ?_
  refine R_ic (v := 2) d171_818 (by decide) ?_
  refine R_p d171_819 rfl rfl ?_
  refine R_nv (v := _) (v' := 2) (by decide) ?_
  refine R_sldk (n := 2) (x := (f 2)) d171_820 (vp_ok (by decide)) (by decide) rfl ?_
  refine R_p d171_821 rfl rfl ?_
  refine R_p d171_822 rfl rfl ?_
  refine R_ic (v := 3) d171_824 (by decide) ?_
  refine R_p d171_825 rfl rfl ?_
  refine R_nv (v := _) (v' := 3) (by decide) ?_
  refine R_sldk (n := 3) (x := (f 3)) d171_826 (vp_ok (by decide)) (by decide) rfl ?_
  refine R_p d171_827 rfl rfl ?_
  refine R_p d171_828 rfl rfl ?_
  refine R_ic (v := 4) d171_830 (by decide) ?_
  refine R_p d171_831 rfl rfl ?_
  refine R_nv (v := _) (v' := 4) (by decide) ?_
  refine R_sldk (n := 4) (x := (f 4)) d171_832 (vp_ok (by decide)) (by decide) rfl ?_
  refine R_p d171_833 rfl rfl ?_
  refine R_hs [.ref 16, .int (f 1), .int (f 2), .int (f 3), .int (f 4), .ref 53] d171_834 (List.mem_of_getElem? (i := 127) rfl) ⟨by decide, by decide, Nat.le_of_ble_eq_true rfl, mcd166⟩ rfl rfl (Nat.le_of_ble_eq_true rfl) (w205 (f := f) h0 h1 h2 h3) ?_
  refine R_p (ls' := [(0, .ref 0), (1, .ref 16), (2, .ref 42), (3, .ref 53), (4, .int 0), (5, .int 1)]) d171_837 rfl rfl ?_
  refine R_p d171_839 rfl rfl ?_
  refine R_p d171_840 rfl rfl ?_
  refine R_p d171_841 rfl rfl ?_
  refine R_ic (v := 1) d171_843 (by decide) ?_
  refine R_p d171_844 rfl rfl ?_
  refine R_nv (v := _) (v' := 1) (by decide) ?_
  refine R_sldk (n := 1) (x := (f 1)) d171_845 (vp_ok (by decide)) (by decide) rfl ?_
  refine R_p d171_846 rfl rfl ?_
  refine R_p d171_847 rfl rfl ?_
  refine R_ic (v := 2) d171_849 (by decide) ?_
  refine R_p d171_850 rfl rfl ?_
  refine R_nv (v := _) (v' := 2) (by decide) ?_
  refine R_sldk (n := 2) (x := (f 2)) d171_851 (vp_ok (by decide)) (by decide) rfl ?_
  refine R_p d171_852 rfl rfl ?_
  refine R_p d171_853 rfl rfl ?_
  refine R_ic (v := 3) d171_855 (by decide) ?_
  refine R_p d171_856 rfl rfl ?_
  refine R_nv (v := _) (v' := 3) (by decide) ?_
  refine R_sldk (n := 3) (x := (f 3)) d171_857 (vp_ok (by decide)) (by decide) rfl ?_
  refine R_p d171_858 rfl rfl ?_
  refine R_p d171_859 rfl rfl ?_
  refine R_ic (v := 4) d171_861 (by decide) ?_
  refine R_p d171_862 rfl rfl ?_
  refine R_nv (v := _) (v' := 4) (by decide) ?_
  refine R_sldk (n := 4) (x := (f 4)) d171_863 (vp_ok (by decide)) (by decide) rfl ?_
  refine R_cm [.int (f 1), .int (f 2), .int (f 3), .int (f 4)] d171_864 (List.mem_of_getElem? (i := 194) rfl) rfl ⟨by decide, by decide, Nat.le_of_ble_eq_true rfl, rfl, mcd147⟩ rfl rfl (Nat.le_of_ble_eq_true rfl) rfl rfl (w206 (f := f) h0 h1 h2 h3) ?_
  refine R_p (ls' := [(0, .ref 0), (1, .ref 16), (2, .ref 42), (3, .ref 53), (4, .int 0), (5, .int 1), (6, .int 0)]) d171_867 rfl rfl ?_
  refine R_p d171_869 rfl rfl ?_
  refine R_cm [] d171_870 (List.mem_of_getElem? (i := 160) rfl) rfl ⟨by decide, by decide, Nat.le_of_ble_eq_true rfl, rfl, mcd113⟩ rfl rfl (Nat.le_of_ble_eq_true rfl) rfl rfl (w8 (f := f)) ?_
  refine R_p d171_873 rfl rfl ?_
  refine R_br 880 d171_875 (mb_t (b := ((1 : Int32) = (1 : Int32))) (by decide)) rfl ?_
  refine R_p d171_880 rfl rfl ?_
  refine R_br 897 d171_882 (mb_t (b := (¬ (1 : Int32) = (0 : Int32))) (by decide)) rfl ?_
  refine R_br 950 d171_897 rfl rfl ?_
  refine R_p (ls' := [(0, .ref 0), (1, .ref 16), (2, .ref 42), (3, .ref 53), (4, .int 5), (5, .int 1), (6, .int 0)]) d171_950 rfl rfl ?_
  refine R_br 23 d171_953 rfl rfl ?_
  refine R_p d171_23 rfl rfl ?_
  refine R_p d171_25 rfl rfl ?_
  refine R_sln d171_26 ?_
  refine R_nv (v := _) (v' := 5) (show Int32.ofNat 5 = 5 from by decide) ?_
  refine R_ic (v := 5) d171_27 (by decide) ?_
  refine R_p d171_28 rfl rfl ?_
  refine R_nv (v := _) (v' := 0) (by decide) ?_
  refine R_br 956 d171_29 (mb_t (b := ((0 : Int32) < (5 : Int32))) (by decide)) rfl ?_
  refine R_ic (v := 1) d171_956 (by decide) ?_
  exact R_iret d171_957 rfl rfl rfl
set_option maxRecDepth 4000 in
theorem w208 {f : Nat → Int32} (h4 : ((f 3) < (-536870911))) : RunsP 97 (0, [(0, .ref 16), (1, .int (f 3)), (2, .int (f 4))], [], HL0) (.inr 54, HJ1) := by
  refine Q_p d97_0 rfl rfl ?_
  refine Q_ci (v := (-536870911)) 369 d97_1 (List.mem_of_getElem? (i := 0) rfl) ?_
  refine Q_br 24 d97_3 (mb_t (b := ((f 3) < (-536870911))) h4) rfl ?_
  exact Q_thr 1 d97_24 d97_27 d97_28 d97_30 d97_33 rfl (List.mem_of_getElem? (i := 2) rfl) rfl (by decide) (by decide)
set_option maxRecDepth 4000 in
theorem w209 {f : Nat → Int32} (h0 : ¬ ((f 1) < (-536870911))) (h1 : ¬ (536870911 < (f 1))) (h2 : ¬ ((f 2) < (-536870911))) (h3 : ¬ (536870911 < (f 2))) (h4 : ((f 3) < (-536870911))) : Run (5, f) 111 (0, [(0, .ref 16), (1, .int (f 1)), (2, .int (f 2)), (3, .int (f 3)), (4, .int (f 4))], [], HL0) (.inr 54, HJ1) := by
  refine R_p d111_0 rfl rfl ?_
  refine R_p d111_1 rfl rfl ?_
  refine R_p d111_2 rfl rfl ?_
  refine R_cm [.int (f 1), .int (f 2)] d111_3 (List.mem_of_getElem? (i := 30) rfl) rfl ⟨by decide, by decide, Nat.le_of_ble_eq_true rfl, rfl, mcd97⟩ rfl rfl (Nat.le_of_ble_eq_true rfl) rfl rfl (w32 (f := f) h0 h1 h2 h3) ?_
  refine R_p d111_6 rfl rfl ?_
  refine R_p d111_7 rfl rfl ?_
  refine R_p d111_8 rfl rfl ?_
  exact R_tv [.int (f 3), .int (f 4)] d111_10 (List.mem_of_getElem? (i := 30) rfl) ⟨by decide, by decide, Nat.le_of_ble_eq_true rfl, mcd97⟩ rfl rfl (Nat.le_of_ble_eq_true rfl) rfl rfl rfl (Or.inr (w208 (f := f) h4))
set_option maxRecDepth 4000 in
theorem w210 {f : Nat → Int32} (h0 : ¬ ((f 1) < (-536870911))) (h1 : ¬ (536870911 < (f 1))) (h2 : ¬ ((f 2) < (-536870911))) (h3 : ¬ (536870911 < (f 2))) (h4 : ((f 3) < (-536870911))) : Run (5, f) 166 (0, [(0, .ref 16), (1, .int (f 1)), (2, .int (f 2)), (3, .int (f 3)), (4, .int (f 4)), (5, .ref 53)], [], HL0) (.inl (some (.int 1)), HJ1) := by
  refine R_p d166_0 rfl rfl ?_
  refine R_ic (v := 0) d166_2 (by decide) ?_
  refine R_p d166_3 rfl rfl ?_
  refine R_p d166_4 rfl rfl ?_
  refine R_p d166_5 rfl rfl ?_
  refine R_p d166_6 rfl rfl ?_
  refine R_p d166_7 rfl rfl ?_
  refine R_tc [.int (f 1), .int (f 2), .int (f 3), .int (f 4)] d166_9 (List.mem_of_getElem? (i := 128) rfl) ⟨by decide, by decide, Nat.le_of_ble_eq_true rfl, mcd111⟩ rfl rfl (Nat.le_of_ble_eq_true rfl) rfl rfl rfl (cx := 10) (hp := 17) rfl (by decide) (by decide) (by decide) (Or.inl (w209 (f := f) h0 h1 h2 h3 h4)) ?_
  refine R_p (ls' := [(0, .ref 16), (1, .int (f 1)), (2, .int (f 2)), (3, .int (f 3)), (4, .int (f 4)), (5, .ref 53), (6, .ref 54)]) d166_17 rfl rfl ?_
  refine R_ic (v := 1) d166_19 (by decide) ?_
  exact R_iret d166_20 rfl rfl rfl
set_option maxRecDepth 4000 in
theorem w211 {f : Nat → Int32} (h2 : ¬ ((f 2) < (-536870911))) (h3 : ¬ (536870911 < (f 2))) : Run (5, f) 116 (0, [(0, .int (f 2)), (1, .int (-536870911)), (2, .int 536870911)], [], HJ1) (.inl (some (.int 1)), HJ1) := by
  refine R_p d116_0 rfl rfl ?_
  refine R_p d116_1 rfl rfl ?_
  refine R_nb d116_2 rfl (mb_f (b := ((f 2) < (-536870911))) h2) ?_
  refine R_p d116_5 rfl rfl ?_
  refine R_p d116_6 rfl rfl ?_
  refine R_nb d116_7 rfl (mb_f (b := (536870911 < (f 2))) h3) ?_
  refine R_ic (v := 1) d116_10 (by decide) ?_
  refine R_br 15 d116_11 rfl rfl ?_
  exact R_iret d116_15 rfl rfl rfl
set_option maxRecDepth 4000 in
theorem w212 {f : Nat → Int32} (h0 : ¬ ((f 1) < (-536870911))) (h1 : ¬ (536870911 < (f 1))) (h2 : ¬ ((f 2) < (-536870911))) (h3 : ¬ (536870911 < (f 2))) : Run (5, f) 115 (0, [(0, .int (f 1)), (1, .int (f 2))], [], HJ1) (.inl (some (.int 1)), HJ1) := by
  refine R_p d115_0 rfl rfl ?_
  refine R_ci (v := (-536870911)) 959 d115_1 (List.mem_of_getElem? (i := 4) rfl) ?_
  refine R_ci (v := 536870911) 960 d115_3 (List.mem_of_getElem? (i := 5) rfl) ?_
  refine R_cs [.int (f 1), .int (-536870911), .int 536870911] d115_5 (List.mem_of_getElem? (i := 163) rfl) rfl ⟨by decide, by decide, Nat.le_of_ble_eq_true rfl, rfl, mcd116⟩ rfl rfl (Nat.le_of_ble_eq_true rfl) (w20 (f := f) h0 h1) ?_
  refine R_nb d115_8 rfl (mb_f (b := ((1 : Int32) = (0 : Int32))) (by decide)) ?_
  refine R_p d115_11 rfl rfl ?_
  refine R_ci (v := (-536870911)) 959 d115_12 (List.mem_of_getElem? (i := 4) rfl) ?_
  refine R_ci (v := 536870911) 960 d115_14 (List.mem_of_getElem? (i := 5) rfl) ?_
  refine R_cs [.int (f 2), .int (-536870911), .int 536870911] d115_16 (List.mem_of_getElem? (i := 163) rfl) rfl ⟨by decide, by decide, Nat.le_of_ble_eq_true rfl, rfl, mcd116⟩ rfl rfl (Nat.le_of_ble_eq_true rfl) (w211 (f := f) h2 h3) ?_
  refine R_nb d115_19 rfl (mb_f (b := ((1 : Int32) = (0 : Int32))) (by decide)) ?_
  refine R_ic (v := 1) d115_22 (by decide) ?_
  refine R_br 27 d115_23 rfl rfl ?_
  exact R_iret d115_27 rfl rfl rfl
set_option maxRecDepth 4000 in
theorem w213 {f : Nat → Int32} (h4 : ((f 3) < (-536870911))) : Run (5, f) 116 (0, [(0, .int (f 3)), (1, .int (-536870911)), (2, .int 536870911)], [], HJ1) (.inl (some (.int 0)), HJ1) := by
  refine R_p d116_0 rfl rfl ?_
  refine R_p d116_1 rfl rfl ?_
  refine R_br 14 d116_2 (mb_t (b := ((f 3) < (-536870911))) h4) rfl ?_
  refine R_ic (v := 0) d116_14 (by decide) ?_
  exact R_iret d116_15 rfl rfl rfl
set_option maxRecDepth 4000 in
theorem w214 {f : Nat → Int32} (h4 : ((f 3) < (-536870911))) : Run (5, f) 115 (0, [(0, .int (f 3)), (1, .int (f 4))], [], HJ1) (.inl (some (.int 0)), HJ1) := by
  refine R_p d115_0 rfl rfl ?_
  refine R_ci (v := (-536870911)) 959 d115_1 (List.mem_of_getElem? (i := 4) rfl) ?_
  refine R_ci (v := 536870911) 960 d115_3 (List.mem_of_getElem? (i := 5) rfl) ?_
  refine R_cs [.int (f 3), .int (-536870911), .int 536870911] d115_5 (List.mem_of_getElem? (i := 163) rfl) rfl ⟨by decide, by decide, Nat.le_of_ble_eq_true rfl, rfl, mcd116⟩ rfl rfl (Nat.le_of_ble_eq_true rfl) (w213 (f := f) h4) ?_
  refine R_br 26 d115_8 (mb_t (b := ((0 : Int32) = (0 : Int32))) (by decide)) rfl ?_
  refine R_ic (v := 0) d115_26 (by decide) ?_
  exact R_iret d115_27 rfl rfl rfl
set_option maxRecDepth 4000 in
theorem w215 {f : Nat → Int32} (h0 : ¬ ((f 1) < (-536870911))) (h1 : ¬ (536870911 < (f 1))) (h2 : ¬ ((f 2) < (-536870911))) (h3 : ¬ (536870911 < (f 2))) (h4 : ((f 3) < (-536870911))) : Run (5, f) 147 (0, [(0, .ref 42), (1, .int (f 1)), (2, .int (f 2)), (3, .int (f 3)), (4, .int (f 4))], [], HJ1) (.inl (some (.int 0)), HJ2) := by
  refine R_p d147_0 rfl rfl ?_
  refine R_p d147_1 rfl rfl ?_
  refine R_p d147_2 rfl rfl ?_
  refine R_cs [.int (f 1), .int (f 2)] d147_3 (List.mem_of_getElem? (i := 162) rfl) rfl ⟨by decide, by decide, Nat.le_of_ble_eq_true rfl, rfl, mcd115⟩ rfl rfl (Nat.le_of_ble_eq_true rfl) (w212 (f := f) h0 h1 h2 h3) ?_
  refine R_nb d147_6 rfl (mb_f (b := ((1 : Int32) = (0 : Int32))) (by decide)) ?_
  refine R_p d147_9 rfl rfl ?_
  refine R_p d147_10 rfl rfl ?_
  refine R_cs [.int (f 3), .int (f 4)] d147_12 (List.mem_of_getElem? (i := 162) rfl) rfl ⟨by decide, by decide, Nat.le_of_ble_eq_true rfl, rfl, mcd115⟩ rfl rfl (Nat.le_of_ble_eq_true rfl) (w214 (f := f) h4) ?_
  refine R_br 22 d147_15 (mb_t (b := ((0 : Int32) = (0 : Int32))) (by decide)) rfl ?_
  refine R_ic (v := 1) d147_22 (by decide) ?_
  refine R_cm [.int 1] d147_23 (List.mem_of_getElem? (i := 164) rfl) rfl ⟨by decide, by decide, Nat.le_of_ble_eq_true rfl, rfl, mcd117⟩ rfl rfl (Nat.le_of_ble_eq_true rfl) rfl rfl (w6 (f := f)) ?_
  refine R_nb d147_26 rfl (mb_f (b := ((1 : Int32) = (0 : Int32))) (by decide)) ?_
  refine R_ic (v := 0) d147_29 (by decide) ?_
  exact R_iret d147_30 rfl rfl rfl
set_option maxRecDepth 4000 in
theorem law808_216 {f : Nat → Int32} (h0 : ¬ ((f 1) < (-536870911))) (h1 : ¬ (536870911 < (f 1))) (h2 : ¬ ((f 2) < (-536870911))) (h3 : ¬ (536870911 < (f 2))) (h4 : ((f 3) < (-536870911))) : Run (5, f) 171 (808, [(0, .ref 0), (1, .ref 16), (2, .ref 42), (3, .ref 53), (4, .int 0)], [], HL0) (.inl (some (.int 1)), HJ2) := by
  refine R_p d171_808 rfl rfl ?_
  refine R_p d171_809 rfl rfl ?_
  refine R_p d171_810 rfl rfl ?_
  refine R_ic (v := 1) d171_812 (by decide) ?_
  refine R_p d171_813 rfl rfl ?_
  refine R_nv (v := _) (v' := 1) (by decide) ?_
  refine R_sldk (n := 1) (x := (f 1)) d171_814 (vp_ok (by decide)) (by decide) rfl ?_
  refine R_p d171_815 rfl rfl ?_
  refine R_p d171_816 rfl rfl ?_
  refine R_ic (v := 2) d171_818 (by decide) ?_
  refine R_p d171_819 rfl rfl ?_
  refine R_nv (v := _) (v' := 2) (by decide) ?_
  refine R_sldk (n := 2) (x := (f 2)) d171_820 (vp_ok (by decide)) (by decide) rfl ?_
  refine R_p d171_821 rfl rfl ?_
  refine R_p d171_822 rfl rfl ?_
  refine R_ic (v := 3) d171_824 (by decide) ?_
  refine R_p d171_825 rfl rfl ?_
  refine R_nv (v := _) (v' := 3) (by decide) ?_
  refine R_sldk (n := 3) (x := (f 3)) d171_826 (vp_ok (by decide)) (by decide) rfl ?_
  refine R_p d171_827 rfl rfl ?_
  refine R_p d171_828 rfl rfl ?_
  refine R_ic (v := 4) d171_830 (by decide) ?_
  refine R_p d171_831 rfl rfl ?_
  refine R_nv (v := _) (v' := 4) (by decide) ?_
  refine R_sldk (n := 4) (x := (f 4)) d171_832 (vp_ok (by decide)) (by decide) rfl ?_
  refine R_p d171_833 rfl rfl ?_
  refine R_hs [.ref 16, .int (f 1), .int (f 2), .int (f 3), .int (f 4), .ref 53] d171_834 (List.mem_of_getElem? (i := 127) rfl) ⟨by decide, by decide, Nat.le_of_ble_eq_true rfl, mcd166⟩ rfl rfl (Nat.le_of_ble_eq_true rfl) (w210 (f := f) h0 h1 h2 h3 h4) ?_
  refine R_p (ls' := [(0, .ref 0), (1, .ref 16), (2, .ref 42), (3, .ref 53), (4, .int 0), (5, .int 1)]) d171_837 rfl rfl ?_
  refine R_p d171_839 rfl rfl ?_
  refine R_p d171_840 rfl rfl ?_
  refine R_p d171_841 rfl rfl ?_
  refine R_ic (v := 1) d171_843 (by decide) ?_
  refine R_p d171_844 rfl rfl ?_
  refine R_nv (v := _) (v' := 1) (by decide) ?_
  refine R_sldk (n := 1) (x := (f 1)) d171_845 (vp_ok (by decide)) (by decide) rfl ?_
  refine R_p d171_846 rfl rfl ?_
  refine R_p d171_847 rfl rfl ?_
  refine R_ic (v := 2) d171_849 (by decide) ?_
  refine R_p d171_850 rfl rfl ?_
  refine R_nv (v := _) (v' := 2) (by decide) ?_
  refine R_sldk (n := 2) (x := (f 2)) d171_851 (vp_ok (by decide)) (by decide) rfl ?_
  refine R_p d171_852 rfl rfl ?_
  refine R_p d171_853 rfl rfl ?_
  refine R_ic (v := 3) d171_855 (by decide) ?_
  refine R_p d171_856 rfl rfl ?_
  refine R_nv (v := _) (v' := 3) (by decide) ?_
  refine R_sldk (n := 3) (x := (f 3)) d171_857 (vp_ok (by decide)) (by decide) rfl ?_
  refine R_p d171_858 rfl rfl ?_
  refine R_p d171_859 rfl rfl ?_
  refine R_ic (v := 4) d171_861 (by decide) ?_
  refine R_p d171_862 rfl rfl ?_
  refine R_nv (v := _) (v' := 4) (by decide) ?_
  refine R_sldk (n := 4) (x := (f 4)) d171_863 (vp_ok (by decide)) (by decide) rfl ?_
  refine R_cm [.int (f 1), .int (f 2), .int (f 3), .int (f 4)] d171_864 (List.mem_of_getElem? (i := 194) rfl) rfl ⟨by decide, by decide, Nat.le_of_ble_eq_true rfl, rfl, mcd147⟩ rfl rfl (Nat.le_of_ble_eq_true rfl) rfl rfl (w215 (f := f) h0 h1 h2 h3 h4) ?_
  refine R_p (ls' := [(0, .ref 0), (1, .ref 16), (2, .ref 42), (3, .ref 53), (4, .int 0), (5, .int 1), (6, .int 0)]) d171_867 rfl rfl ?_
  refine R_p d171_869 rfl rfl ?_
  refine R_cm [] d171_870 (List.mem_of_getElem? (i := 160) rfl) rfl ⟨by decide, by decide, Nat.le_of_ble_eq_true rfl, rfl, mcd113⟩ rfl rfl (Nat.le_of_ble_eq_true rfl) rfl rfl (w8 (f := f)) ?_
  refine R_p d171_873 rfl rfl ?_
  refine R_br 880 d171_875 (mb_t (b := ((1 : Int32) = (1 : Int32))) (by decide)) rfl ?_
  refine R_p d171_880 rfl rfl ?_
  refine R_br 897 d171_882 (mb_t (b := (¬ (1 : Int32) = (0 : Int32))) (by decide)) rfl ?_
  refine R_br 950 d171_897 rfl rfl ?_
  refine R_p (ls' := [(0, .ref 0), (1, .ref 16), (2, .ref 42), (3, .ref 53), (4, .int 5), (5, .int 1), (6, .int 0)]) d171_950 rfl rfl ?_
  refine R_br 23 d171_953 rfl rfl ?_
  refine R_p d171_23 rfl rfl ?_
  refine R_p d171_25 rfl rfl ?_
  refine R_sln d171_26 ?_
  refine R_nv (v := _) (v' := 5) (show Int32.ofNat 5 = 5 from by decide) ?_
  refine R_ic (v := 5) d171_27 (by decide) ?_
  refine R_p d171_28 rfl rfl ?_
  refine R_nv (v := _) (v' := 0) (by decide) ?_
  refine R_br 956 d171_29 (mb_t (b := ((0 : Int32) < (5 : Int32))) (by decide)) rfl ?_
  refine R_ic (v := 1) d171_956 (by decide) ?_
  exact R_iret d171_957 rfl rfl rfl
set_option maxRecDepth 4000 in
theorem w217 {f : Nat → Int32} (h4 : ¬ ((f 3) < (-536870911))) (h5 : (536870911 < (f 3))) : RunsP 97 (0, [(0, .ref 16), (1, .int (f 3)), (2, .int (f 4))], [], HL0) (.inr 54, HJ1) := by
  refine Q_p d97_0 rfl rfl ?_
  refine Q_ci (v := (-536870911)) 369 d97_1 (List.mem_of_getElem? (i := 0) rfl) ?_
  refine Q_nb d97_3 rfl (mb_f (b := ((f 3) < (-536870911))) h4) ?_
  refine Q_p d97_6 rfl rfl ?_
  refine Q_ci (v := 536870911) 370 d97_7 (List.mem_of_getElem? (i := 1) rfl) ?_
  refine Q_br 24 d97_9 (mb_t (b := (536870911 < (f 3))) h5) rfl ?_
  exact Q_thr 1 d97_24 d97_27 d97_28 d97_30 d97_33 rfl (List.mem_of_getElem? (i := 2) rfl) rfl (by decide) (by decide)
set_option maxRecDepth 4000 in
theorem w218 {f : Nat → Int32} (h0 : ¬ ((f 1) < (-536870911))) (h1 : ¬ (536870911 < (f 1))) (h2 : ¬ ((f 2) < (-536870911))) (h3 : ¬ (536870911 < (f 2))) (h4 : ¬ ((f 3) < (-536870911))) (h5 : (536870911 < (f 3))) : Run (5, f) 111 (0, [(0, .ref 16), (1, .int (f 1)), (2, .int (f 2)), (3, .int (f 3)), (4, .int (f 4))], [], HL0) (.inr 54, HJ1) := by
  refine R_p d111_0 rfl rfl ?_
  refine R_p d111_1 rfl rfl ?_
  refine R_p d111_2 rfl rfl ?_
  refine R_cm [.int (f 1), .int (f 2)] d111_3 (List.mem_of_getElem? (i := 30) rfl) rfl ⟨by decide, by decide, Nat.le_of_ble_eq_true rfl, rfl, mcd97⟩ rfl rfl (Nat.le_of_ble_eq_true rfl) rfl rfl (w32 (f := f) h0 h1 h2 h3) ?_
  refine R_p d111_6 rfl rfl ?_
  refine R_p d111_7 rfl rfl ?_
  refine R_p d111_8 rfl rfl ?_
  exact R_tv [.int (f 3), .int (f 4)] d111_10 (List.mem_of_getElem? (i := 30) rfl) ⟨by decide, by decide, Nat.le_of_ble_eq_true rfl, mcd97⟩ rfl rfl (Nat.le_of_ble_eq_true rfl) rfl rfl rfl (Or.inr (w217 (f := f) h4 h5))
set_option maxRecDepth 4000 in
theorem w219 {f : Nat → Int32} (h0 : ¬ ((f 1) < (-536870911))) (h1 : ¬ (536870911 < (f 1))) (h2 : ¬ ((f 2) < (-536870911))) (h3 : ¬ (536870911 < (f 2))) (h4 : ¬ ((f 3) < (-536870911))) (h5 : (536870911 < (f 3))) : Run (5, f) 166 (0, [(0, .ref 16), (1, .int (f 1)), (2, .int (f 2)), (3, .int (f 3)), (4, .int (f 4)), (5, .ref 53)], [], HL0) (.inl (some (.int 1)), HJ1) := by
  refine R_p d166_0 rfl rfl ?_
  refine R_ic (v := 0) d166_2 (by decide) ?_
  refine R_p d166_3 rfl rfl ?_
  refine R_p d166_4 rfl rfl ?_
  refine R_p d166_5 rfl rfl ?_
  refine R_p d166_6 rfl rfl ?_
  refine R_p d166_7 rfl rfl ?_
  refine R_tc [.int (f 1), .int (f 2), .int (f 3), .int (f 4)] d166_9 (List.mem_of_getElem? (i := 128) rfl) ⟨by decide, by decide, Nat.le_of_ble_eq_true rfl, mcd111⟩ rfl rfl (Nat.le_of_ble_eq_true rfl) rfl rfl rfl (cx := 10) (hp := 17) rfl (by decide) (by decide) (by decide) (Or.inl (w218 (f := f) h0 h1 h2 h3 h4 h5)) ?_
  refine R_p (ls' := [(0, .ref 16), (1, .int (f 1)), (2, .int (f 2)), (3, .int (f 3)), (4, .int (f 4)), (5, .ref 53), (6, .ref 54)]) d166_17 rfl rfl ?_
  refine R_ic (v := 1) d166_19 (by decide) ?_
  exact R_iret d166_20 rfl rfl rfl
set_option maxRecDepth 4000 in
theorem w220 {f : Nat → Int32} (h4 : ¬ ((f 3) < (-536870911))) (h5 : (536870911 < (f 3))) : Run (5, f) 116 (0, [(0, .int (f 3)), (1, .int (-536870911)), (2, .int 536870911)], [], HJ1) (.inl (some (.int 0)), HJ1) := by
  refine R_p d116_0 rfl rfl ?_
  refine R_p d116_1 rfl rfl ?_
  refine R_nb d116_2 rfl (mb_f (b := ((f 3) < (-536870911))) h4) ?_
  refine R_p d116_5 rfl rfl ?_
  refine R_p d116_6 rfl rfl ?_
  refine R_br 14 d116_7 (mb_t (b := (536870911 < (f 3))) h5) rfl ?_
  refine R_ic (v := 0) d116_14 (by decide) ?_
  exact R_iret d116_15 rfl rfl rfl
set_option maxRecDepth 4000 in
theorem w221 {f : Nat → Int32} (h4 : ¬ ((f 3) < (-536870911))) (h5 : (536870911 < (f 3))) : Run (5, f) 115 (0, [(0, .int (f 3)), (1, .int (f 4))], [], HJ1) (.inl (some (.int 0)), HJ1) := by
  refine R_p d115_0 rfl rfl ?_
  refine R_ci (v := (-536870911)) 959 d115_1 (List.mem_of_getElem? (i := 4) rfl) ?_
  refine R_ci (v := 536870911) 960 d115_3 (List.mem_of_getElem? (i := 5) rfl) ?_
  refine R_cs [.int (f 3), .int (-536870911), .int 536870911] d115_5 (List.mem_of_getElem? (i := 163) rfl) rfl ⟨by decide, by decide, Nat.le_of_ble_eq_true rfl, rfl, mcd116⟩ rfl rfl (Nat.le_of_ble_eq_true rfl) (w220 (f := f) h4 h5) ?_
  refine R_br 26 d115_8 (mb_t (b := ((0 : Int32) = (0 : Int32))) (by decide)) rfl ?_
  refine R_ic (v := 0) d115_26 (by decide) ?_
  exact R_iret d115_27 rfl rfl rfl
set_option maxRecDepth 4000 in
theorem w222 {f : Nat → Int32} (h0 : ¬ ((f 1) < (-536870911))) (h1 : ¬ (536870911 < (f 1))) (h2 : ¬ ((f 2) < (-536870911))) (h3 : ¬ (536870911 < (f 2))) (h4 : ¬ ((f 3) < (-536870911))) (h5 : (536870911 < (f 3))) : Run (5, f) 147 (0, [(0, .ref 42), (1, .int (f 1)), (2, .int (f 2)), (3, .int (f 3)), (4, .int (f 4))], [], HJ1) (.inl (some (.int 0)), HJ2) := by
  refine R_p d147_0 rfl rfl ?_
  refine R_p d147_1 rfl rfl ?_
  refine R_p d147_2 rfl rfl ?_
  refine R_cs [.int (f 1), .int (f 2)] d147_3 (List.mem_of_getElem? (i := 162) rfl) rfl ⟨by decide, by decide, Nat.le_of_ble_eq_true rfl, rfl, mcd115⟩ rfl rfl (Nat.le_of_ble_eq_true rfl) (w212 (f := f) h0 h1 h2 h3) ?_
  refine R_nb d147_6 rfl (mb_f (b := ((1 : Int32) = (0 : Int32))) (by decide)) ?_
  refine R_p d147_9 rfl rfl ?_
  refine R_p d147_10 rfl rfl ?_
  refine R_cs [.int (f 3), .int (f 4)] d147_12 (List.mem_of_getElem? (i := 162) rfl) rfl ⟨by decide, by decide, Nat.le_of_ble_eq_true rfl, rfl, mcd115⟩ rfl rfl (Nat.le_of_ble_eq_true rfl) (w221 (f := f) h4 h5) ?_
  refine R_br 22 d147_15 (mb_t (b := ((0 : Int32) = (0 : Int32))) (by decide)) rfl ?_
  refine R_ic (v := 1) d147_22 (by decide) ?_
  refine R_cm [.int 1] d147_23 (List.mem_of_getElem? (i := 164) rfl) rfl ⟨by decide, by decide, Nat.le_of_ble_eq_true rfl, rfl, mcd117⟩ rfl rfl (Nat.le_of_ble_eq_true rfl) rfl rfl (w6 (f := f)) ?_
  refine R_nb d147_26 rfl (mb_f (b := ((1 : Int32) = (0 : Int32))) (by decide)) ?_
  refine R_ic (v := 0) d147_29 (by decide) ?_
  exact R_iret d147_30 rfl rfl rfl
set_option maxRecDepth 4000 in
theorem law808_223 {f : Nat → Int32} (h0 : ¬ ((f 1) < (-536870911))) (h1 : ¬ (536870911 < (f 1))) (h2 : ¬ ((f 2) < (-536870911))) (h3 : ¬ (536870911 < (f 2))) (h4 : ¬ ((f 3) < (-536870911))) (h5 : (536870911 < (f 3))) : Run (5, f) 171 (808, [(0, .ref 0), (1, .ref 16), (2, .ref 42), (3, .ref 53), (4, .int 0)], [], HL0) (.inl (some (.int 1)), HJ2) := by
  refine R_p d171_808 rfl rfl ?_
  refine R_p d171_809 rfl rfl ?_
  refine R_p d171_810 rfl rfl ?_
  refine R_ic (v := 1) d171_812 (by decide) ?_
  refine R_p d171_813 rfl rfl ?_
  refine R_nv (v := _) (v' := 1) (by decide) ?_
  refine R_sldk (n := 1) (x := (f 1)) d171_814 (vp_ok (by decide)) (by decide) rfl ?_
  refine R_p d171_815 rfl rfl ?_
  refine R_p d171_816 rfl rfl ?_
  refine R_ic (v := 2) d171_818 (by decide) ?_
  refine R_p d171_819 rfl rfl ?_
  refine R_nv (v := _) (v' := 2) (by decide) ?_
  refine R_sldk (n := 2) (x := (f 2)) d171_820 (vp_ok (by decide)) (by decide) rfl ?_
  refine R_p d171_821 rfl rfl ?_
  refine R_p d171_822 rfl rfl ?_
  refine R_ic (v := 3) d171_824 (by decide) ?_
  refine R_p d171_825 rfl rfl ?_
  refine R_nv (v := _) (v' := 3) (by decide) ?_
  refine R_sldk (n := 3) (x := (f 3)) d171_826 (vp_ok (by decide)) (by decide) rfl ?_
  refine R_p d171_827 rfl rfl ?_
  refine R_p d171_828 rfl rfl ?_
  refine R_ic (v := 4) d171_830 (by decide) ?_
  refine R_p d171_831 rfl rfl ?_
  refine R_nv (v := _) (v' := 4) (by decide) ?_
  refine R_sldk (n := 4) (x := (f 4)) d171_832 (vp_ok (by decide)) (by decide) rfl ?_
  refine R_p d171_833 rfl rfl ?_
  refine R_hs [.ref 16, .int (f 1), .int (f 2), .int (f 3), .int (f 4), .ref 53] d171_834 (List.mem_of_getElem? (i := 127) rfl) ⟨by decide, by decide, Nat.le_of_ble_eq_true rfl, mcd166⟩ rfl rfl (Nat.le_of_ble_eq_true rfl) (w219 (f := f) h0 h1 h2 h3 h4 h5) ?_
  refine R_p (ls' := [(0, .ref 0), (1, .ref 16), (2, .ref 42), (3, .ref 53), (4, .int 0), (5, .int 1)]) d171_837 rfl rfl ?_
  refine R_p d171_839 rfl rfl ?_
  refine R_p d171_840 rfl rfl ?_
  refine R_p d171_841 rfl rfl ?_
  refine R_ic (v := 1) d171_843 (by decide) ?_
  refine R_p d171_844 rfl rfl ?_
  refine R_nv (v := _) (v' := 1) (by decide) ?_
  refine R_sldk (n := 1) (x := (f 1)) d171_845 (vp_ok (by decide)) (by decide) rfl ?_
  refine R_p d171_846 rfl rfl ?_
  refine R_p d171_847 rfl rfl ?_
  refine R_ic (v := 2) d171_849 (by decide) ?_
  refine R_p d171_850 rfl rfl ?_
  refine R_nv (v := _) (v' := 2) (by decide) ?_
  refine R_sldk (n := 2) (x := (f 2)) d171_851 (vp_ok (by decide)) (by decide) rfl ?_
  refine R_p d171_852 rfl rfl ?_
  refine R_p d171_853 rfl rfl ?_
  refine R_ic (v := 3) d171_855 (by decide) ?_
  refine R_p d171_856 rfl rfl ?_
  refine R_nv (v := _) (v' := 3) (by decide) ?_
  refine R_sldk (n := 3) (x := (f 3)) d171_857 (vp_ok (by decide)) (by decide) rfl ?_
  refine R_p d171_858 rfl rfl ?_
  refine R_p d171_859 rfl rfl ?_
  refine R_ic (v := 4) d171_861 (by decide) ?_
  refine R_p d171_862 rfl rfl ?_
  refine R_nv (v := _) (v' := 4) (by decide) ?_
  refine R_sldk (n := 4) (x := (f 4)) d171_863 (vp_ok (by decide)) (by decide) rfl ?_
  refine R_cm [.int (f 1), .int (f 2), .int (f 3), .int (f 4)] d171_864 (List.mem_of_getElem? (i := 194) rfl) rfl ⟨by decide, by decide, Nat.le_of_ble_eq_true rfl, rfl, mcd147⟩ rfl rfl (Nat.le_of_ble_eq_true rfl) rfl rfl (w222 (f := f) h0 h1 h2 h3 h4 h5) ?_
  refine R_p (ls' := [(0, .ref 0), (1, .ref 16), (2, .ref 42), (3, .ref 53), (4, .int 0), (5, .int 1), (6, .int 0)]) d171_867 rfl rfl ?_
  refine R_p d171_869 rfl rfl ?_
  refine R_cm [] d171_870 (List.mem_of_getElem? (i := 160) rfl) rfl ⟨by decide, by decide, Nat.le_of_ble_eq_true rfl, rfl, mcd113⟩ rfl rfl (Nat.le_of_ble_eq_true rfl) rfl rfl (w8 (f := f)) ?_
  refine R_p d171_873 rfl rfl ?_
  refine R_br 880 d171_875 (mb_t (b := ((1 : Int32) = (1 : Int32))) (by decide)) rfl ?_
  refine R_p d171_880 rfl rfl ?_
  refine R_br 897 d171_882 (mb_t (b := (¬ (1 : Int32) = (0 : Int32))) (by decide)) rfl ?_
  refine R_br 950 d171_897 rfl rfl ?_
  refine R_p (ls' := [(0, .ref 0), (1, .ref 16), (2, .ref 42), (3, .ref 53), (4, .int 5), (5, .int 1), (6, .int 0)]) d171_950 rfl rfl ?_
  refine R_br 23 d171_953 rfl rfl ?_
  refine R_p d171_23 rfl rfl ?_
  refine R_p d171_25 rfl rfl ?_
  refine R_sln d171_26 ?_
  refine R_nv (v := _) (v' := 5) (show Int32.ofNat 5 = 5 from by decide) ?_
  refine R_ic (v := 5) d171_27 (by decide) ?_
  refine R_p d171_28 rfl rfl ?_
  refine R_nv (v := _) (v' := 0) (by decide) ?_
  refine R_br 956 d171_29 (mb_t (b := ((0 : Int32) < (5 : Int32))) (by decide)) rfl ?_
  refine R_ic (v := 1) d171_956 (by decide) ?_
  exact R_iret d171_957 rfl rfl rfl
set_option maxRecDepth 4000 in
theorem w224 {f : Nat → Int32} (h4 : ¬ ((f 3) < (-536870911))) (h5 : ¬ (536870911 < (f 3))) (h6 : ((f 4) < (-536870911))) : RunsP 97 (0, [(0, .ref 16), (1, .int (f 3)), (2, .int (f 4))], [], HL0) (.inr 54, HJ1) := by
  refine Q_p d97_0 rfl rfl ?_
  refine Q_ci (v := (-536870911)) 369 d97_1 (List.mem_of_getElem? (i := 0) rfl) ?_
  refine Q_nb d97_3 rfl (mb_f (b := ((f 3) < (-536870911))) h4) ?_
  refine Q_p d97_6 rfl rfl ?_
  refine Q_ci (v := 536870911) 370 d97_7 (List.mem_of_getElem? (i := 1) rfl) ?_
  refine Q_nb d97_9 rfl (mb_f (b := (536870911 < (f 3))) h5) ?_
  refine Q_p d97_12 rfl rfl ?_
  refine Q_ci (v := (-536870911)) 369 d97_13 (List.mem_of_getElem? (i := 0) rfl) ?_
  refine Q_br 24 d97_15 (mb_t (b := ((f 4) < (-536870911))) h6) rfl ?_
  exact Q_thr 1 d97_24 d97_27 d97_28 d97_30 d97_33 rfl (List.mem_of_getElem? (i := 2) rfl) rfl (by decide) (by decide)
set_option maxRecDepth 4000 in
theorem w225 {f : Nat → Int32} (h0 : ¬ ((f 1) < (-536870911))) (h1 : ¬ (536870911 < (f 1))) (h2 : ¬ ((f 2) < (-536870911))) (h3 : ¬ (536870911 < (f 2))) (h4 : ¬ ((f 3) < (-536870911))) (h5 : ¬ (536870911 < (f 3))) (h6 : ((f 4) < (-536870911))) : Run (5, f) 111 (0, [(0, .ref 16), (1, .int (f 1)), (2, .int (f 2)), (3, .int (f 3)), (4, .int (f 4))], [], HL0) (.inr 54, HJ1) := by
  refine R_p d111_0 rfl rfl ?_
  refine R_p d111_1 rfl rfl ?_
  refine R_p d111_2 rfl rfl ?_
  refine R_cm [.int (f 1), .int (f 2)] d111_3 (List.mem_of_getElem? (i := 30) rfl) rfl ⟨by decide, by decide, Nat.le_of_ble_eq_true rfl, rfl, mcd97⟩ rfl rfl (Nat.le_of_ble_eq_true rfl) rfl rfl (w32 (f := f) h0 h1 h2 h3) ?_
  refine R_p d111_6 rfl rfl ?_
  refine R_p d111_7 rfl rfl ?_
  refine R_p d111_8 rfl rfl ?_
  exact R_tv [.int (f 3), .int (f 4)] d111_10 (List.mem_of_getElem? (i := 30) rfl) ⟨by decide, by decide, Nat.le_of_ble_eq_true rfl, mcd97⟩ rfl rfl (Nat.le_of_ble_eq_true rfl) rfl rfl rfl (Or.inr (w224 (f := f) h4 h5 h6))
set_option maxRecDepth 4000 in
theorem w226 {f : Nat → Int32} (h0 : ¬ ((f 1) < (-536870911))) (h1 : ¬ (536870911 < (f 1))) (h2 : ¬ ((f 2) < (-536870911))) (h3 : ¬ (536870911 < (f 2))) (h4 : ¬ ((f 3) < (-536870911))) (h5 : ¬ (536870911 < (f 3))) (h6 : ((f 4) < (-536870911))) : Run (5, f) 166 (0, [(0, .ref 16), (1, .int (f 1)), (2, .int (f 2)), (3, .int (f 3)), (4, .int (f 4)), (5, .ref 53)], [], HL0) (.inl (some (.int 1)), HJ1) := by
  refine R_p d166_0 rfl rfl ?_
  refine R_ic (v := 0) d166_2 (by decide) ?_
  refine R_p d166_3 rfl rfl ?_
  refine R_p d166_4 rfl rfl ?_
  refine R_p d166_5 rfl rfl ?_
  refine R_p d166_6 rfl rfl ?_
  refine R_p d166_7 rfl rfl ?_
  refine R_tc [.int (f 1), .int (f 2), .int (f 3), .int (f 4)] d166_9 (List.mem_of_getElem? (i := 128) rfl) ⟨by decide, by decide, Nat.le_of_ble_eq_true rfl, mcd111⟩ rfl rfl (Nat.le_of_ble_eq_true rfl) rfl rfl rfl (cx := 10) (hp := 17) rfl (by decide) (by decide) (by decide) (Or.inl (w225 (f := f) h0 h1 h2 h3 h4 h5 h6)) ?_
  refine R_p (ls' := [(0, .ref 16), (1, .int (f 1)), (2, .int (f 2)), (3, .int (f 3)), (4, .int (f 4)), (5, .ref 53), (6, .ref 54)]) d166_17 rfl rfl ?_
  refine R_ic (v := 1) d166_19 (by decide) ?_
  exact R_iret d166_20 rfl rfl rfl
set_option maxRecDepth 4000 in
theorem w227 {f : Nat → Int32} (h4 : ¬ ((f 3) < (-536870911))) (h5 : ¬ (536870911 < (f 3))) : Run (5, f) 116 (0, [(0, .int (f 3)), (1, .int (-536870911)), (2, .int 536870911)], [], HJ1) (.inl (some (.int 1)), HJ1) := by
  refine R_p d116_0 rfl rfl ?_
  refine R_p d116_1 rfl rfl ?_
  refine R_nb d116_2 rfl (mb_f (b := ((f 3) < (-536870911))) h4) ?_
  refine R_p d116_5 rfl rfl ?_
  refine R_p d116_6 rfl rfl ?_
  refine R_nb d116_7 rfl (mb_f (b := (536870911 < (f 3))) h5) ?_
  refine R_ic (v := 1) d116_10 (by decide) ?_
  refine R_br 15 d116_11 rfl rfl ?_
  exact R_iret d116_15 rfl rfl rfl
set_option maxRecDepth 4000 in
theorem w228 {f : Nat → Int32} (h6 : ((f 4) < (-536870911))) : Run (5, f) 116 (0, [(0, .int (f 4)), (1, .int (-536870911)), (2, .int 536870911)], [], HJ1) (.inl (some (.int 0)), HJ1) := by
  refine R_p d116_0 rfl rfl ?_
  refine R_p d116_1 rfl rfl ?_
  refine R_br 14 d116_2 (mb_t (b := ((f 4) < (-536870911))) h6) rfl ?_
  refine R_ic (v := 0) d116_14 (by decide) ?_
  exact R_iret d116_15 rfl rfl rfl
set_option maxRecDepth 4000 in
theorem w229 {f : Nat → Int32} (h4 : ¬ ((f 3) < (-536870911))) (h5 : ¬ (536870911 < (f 3))) (h6 : ((f 4) < (-536870911))) : Run (5, f) 115 (0, [(0, .int (f 3)), (1, .int (f 4))], [], HJ1) (.inl (some (.int 0)), HJ1) := by
  refine R_p d115_0 rfl rfl ?_
  refine R_ci (v := (-536870911)) 959 d115_1 (List.mem_of_getElem? (i := 4) rfl) ?_
  refine R_ci (v := 536870911) 960 d115_3 (List.mem_of_getElem? (i := 5) rfl) ?_
  refine R_cs [.int (f 3), .int (-536870911), .int 536870911] d115_5 (List.mem_of_getElem? (i := 163) rfl) rfl ⟨by decide, by decide, Nat.le_of_ble_eq_true rfl, rfl, mcd116⟩ rfl rfl (Nat.le_of_ble_eq_true rfl) (w227 (f := f) h4 h5) ?_
  refine R_nb d115_8 rfl (mb_f (b := ((1 : Int32) = (0 : Int32))) (by decide)) ?_
  refine R_p d115_11 rfl rfl ?_
  refine R_ci (v := (-536870911)) 959 d115_12 (List.mem_of_getElem? (i := 4) rfl) ?_
  refine R_ci (v := 536870911) 960 d115_14 (List.mem_of_getElem? (i := 5) rfl) ?_
  refine R_cs [.int (f 4), .int (-536870911), .int 536870911] d115_16 (List.mem_of_getElem? (i := 163) rfl) rfl ⟨by decide, by decide, Nat.le_of_ble_eq_true rfl, rfl, mcd116⟩ rfl rfl (Nat.le_of_ble_eq_true rfl) (w228 (f := f) h6) ?_
  refine R_br 26 d115_19 (mb_t (b := ((0 : Int32) = (0 : Int32))) (by decide)) rfl ?_
  refine R_ic (v := 0) d115_26 (by decide) ?_
  exact R_iret d115_27 rfl rfl rfl
set_option maxRecDepth 4000 in
theorem w230 {f : Nat → Int32} (h0 : ¬ ((f 1) < (-536870911))) (h1 : ¬ (536870911 < (f 1))) (h2 : ¬ ((f 2) < (-536870911))) (h3 : ¬ (536870911 < (f 2))) (h4 : ¬ ((f 3) < (-536870911))) (h5 : ¬ (536870911 < (f 3))) (h6 : ((f 4) < (-536870911))) : Run (5, f) 147 (0, [(0, .ref 42), (1, .int (f 1)), (2, .int (f 2)), (3, .int (f 3)), (4, .int (f 4))], [], HJ1) (.inl (some (.int 0)), HJ2) := by
  refine R_p d147_0 rfl rfl ?_
  refine R_p d147_1 rfl rfl ?_
  refine R_p d147_2 rfl rfl ?_
  refine R_cs [.int (f 1), .int (f 2)] d147_3 (List.mem_of_getElem? (i := 162) rfl) rfl ⟨by decide, by decide, Nat.le_of_ble_eq_true rfl, rfl, mcd115⟩ rfl rfl (Nat.le_of_ble_eq_true rfl) (w212 (f := f) h0 h1 h2 h3) ?_
  refine R_nb d147_6 rfl (mb_f (b := ((1 : Int32) = (0 : Int32))) (by decide)) ?_
  refine R_p d147_9 rfl rfl ?_
  refine R_p d147_10 rfl rfl ?_
  refine R_cs [.int (f 3), .int (f 4)] d147_12 (List.mem_of_getElem? (i := 162) rfl) rfl ⟨by decide, by decide, Nat.le_of_ble_eq_true rfl, rfl, mcd115⟩ rfl rfl (Nat.le_of_ble_eq_true rfl) (w229 (f := f) h4 h5 h6) ?_
  refine R_br 22 d147_15 (mb_t (b := ((0 : Int32) = (0 : Int32))) (by decide)) rfl ?_
  refine R_ic (v := 1) d147_22 (by decide) ?_
  refine R_cm [.int 1] d147_23 (List.mem_of_getElem? (i := 164) rfl) rfl ⟨by decide, by decide, Nat.le_of_ble_eq_true rfl, rfl, mcd117⟩ rfl rfl (Nat.le_of_ble_eq_true rfl) rfl rfl (w6 (f := f)) ?_
  refine R_nb d147_26 rfl (mb_f (b := ((1 : Int32) = (0 : Int32))) (by decide)) ?_
  refine R_ic (v := 0) d147_29 (by decide) ?_
  exact R_iret d147_30 rfl rfl rfl
set_option maxRecDepth 4000 in
theorem law808_231 {f : Nat → Int32} (h0 : ¬ ((f 1) < (-536870911))) (h1 : ¬ (536870911 < (f 1))) (h2 : ¬ ((f 2) < (-536870911))) (h3 : ¬ (536870911 < (f 2))) (h4 : ¬ ((f 3) < (-536870911))) (h5 : ¬ (536870911 < (f 3))) (h6 : ((f 4) < (-536870911))) : Run (5, f) 171 (808, [(0, .ref 0), (1, .ref 16), (2, .ref 42), (3, .ref 53), (4, .int 0)], [], HL0) (.inl (some (.int 1)), HJ2) := by
  refine R_p d171_808 rfl rfl ?_
  refine R_p d171_809 rfl rfl ?_
  refine R_p d171_810 rfl rfl ?_
  refine R_ic (v := 1) d171_812 (by decide) ?_
  refine R_p d171_813 rfl rfl ?_
  refine R_nv (v := _) (v' := 1) (by decide) ?_
  refine R_sldk (n := 1) (x := (f 1)) d171_814 (vp_ok (by decide)) (by decide) rfl ?_
  refine R_p d171_815 rfl rfl ?_
  refine R_p d171_816 rfl rfl ?_
  refine R_ic (v := 2) d171_818 (by decide) ?_
  refine R_p d171_819 rfl rfl ?_
  refine R_nv (v := _) (v' := 2) (by decide) ?_
  refine R_sldk (n := 2) (x := (f 2)) d171_820 (vp_ok (by decide)) (by decide) rfl ?_
  refine R_p d171_821 rfl rfl ?_
  refine R_p d171_822 rfl rfl ?_
  refine R_ic (v := 3) d171_824 (by decide) ?_
  refine R_p d171_825 rfl rfl ?_
  refine R_nv (v := _) (v' := 3) (by decide) ?_
  refine R_sldk (n := 3) (x := (f 3)) d171_826 (vp_ok (by decide)) (by decide) rfl ?_
  refine R_p d171_827 rfl rfl ?_
  refine R_p d171_828 rfl rfl ?_
  refine R_ic (v := 4) d171_830 (by decide) ?_
  refine R_p d171_831 rfl rfl ?_
  refine R_nv (v := _) (v' := 4) (by decide) ?_
  refine R_sldk (n := 4) (x := (f 4)) d171_832 (vp_ok (by decide)) (by decide) rfl ?_
  refine R_p d171_833 rfl rfl ?_
  refine R_hs [.ref 16, .int (f 1), .int (f 2), .int (f 3), .int (f 4), .ref 53] d171_834 (List.mem_of_getElem? (i := 127) rfl) ⟨by decide, by decide, Nat.le_of_ble_eq_true rfl, mcd166⟩ rfl rfl (Nat.le_of_ble_eq_true rfl) (w226 (f := f) h0 h1 h2 h3 h4 h5 h6) ?_
  refine R_p (ls' := [(0, .ref 0), (1, .ref 16), (2, .ref 42), (3, .ref 53), (4, .int 0), (5, .int 1)]) d171_837 rfl rfl ?_
  refine R_p d171_839 rfl rfl ?_
  refine R_p d171_840 rfl rfl ?_
  refine R_p d171_841 rfl rfl ?_
  refine R_ic (v := 1) d171_843 (by decide) ?_
  refine R_p d171_844 rfl rfl ?_
  refine R_nv (v := _) (v' := 1) (by decide) ?_
  refine R_sldk (n := 1) (x := (f 1)) d171_845 (vp_ok (by decide)) (by decide) rfl ?_
  refine R_p d171_846 rfl rfl ?_
  refine R_p d171_847 rfl rfl ?_
  refine R_ic (v := 2) d171_849 (by decide) ?_
  refine R_p d171_850 rfl rfl ?_
  refine R_nv (v := _) (v' := 2) (by decide) ?_
  refine R_sldk (n := 2) (x := (f 2)) d171_851 (vp_ok (by decide)) (by decide) rfl ?_
  refine R_p d171_852 rfl rfl ?_
  refine R_p d171_853 rfl rfl ?_
  refine R_ic (v := 3) d171_855 (by decide) ?_
  refine R_p d171_856 rfl rfl ?_
  refine R_nv (v := _) (v' := 3) (by decide) ?_
  refine R_sldk (n := 3) (x := (f 3)) d171_857 (vp_ok (by decide)) (by decide) rfl ?_
  refine R_p d171_858 rfl rfl ?_
  refine R_p d171_859 rfl rfl ?_
  refine R_ic (v := 4) d171_861 (by decide) ?_
  refine R_p d171_862 rfl rfl ?_
  refine R_nv (v := _) (v' := 4) (by decide) ?_
  refine R_sldk (n := 4) (x := (f 4)) d171_863 (vp_ok (by decide)) (by decide) rfl ?_
  refine R_cm [.int (f 1), .int (f 2), .int (f 3), .int (f 4)] d171_864 (List.mem_of_getElem? (i := 194) rfl) rfl ⟨by decide, by decide, Nat.le_of_ble_eq_true rfl, rfl, mcd147⟩ rfl rfl (Nat.le_of_ble_eq_true rfl) rfl rfl (w230 (f := f) h0 h1 h2 h3 h4 h5 h6) ?_
  refine R_p (ls' := [(0, .ref 0), (1, .ref 16), (2, .ref 42), (3, .ref 53), (4, .int 0), (5, .int 1), (6, .int 0)]) d171_867 rfl rfl ?_
  refine R_p d171_869 rfl rfl ?_
  refine R_cm [] d171_870 (List.mem_of_getElem? (i := 160) rfl) rfl ⟨by decide, by decide, Nat.le_of_ble_eq_true rfl, rfl, mcd113⟩ rfl rfl (Nat.le_of_ble_eq_true rfl) rfl rfl (w8 (f := f)) ?_
  refine R_p d171_873 rfl rfl ?_
  refine R_br 880 d171_875 (mb_t (b := ((1 : Int32) = (1 : Int32))) (by decide)) rfl ?_
  refine R_p d171_880 rfl rfl ?_
  refine R_br 897 d171_882 (mb_t (b := (¬ (1 : Int32) = (0 : Int32))) (by decide)) rfl ?_
  refine R_br 950 d171_897 rfl rfl ?_
  refine R_p (ls' := [(0, .ref 0), (1, .ref 16), (2, .ref 42), (3, .ref 53), (4, .int 5), (5, .int 1), (6, .int 0)]) d171_950 rfl rfl ?_
  refine R_br 23 d171_953 rfl rfl ?_
  refine R_p d171_23 rfl rfl ?_
  refine R_p d171_25 rfl rfl ?_
  refine R_sln d171_26 ?_
  refine R_nv (v := _) (v' := 5) (show Int32.ofNat 5 = 5 from by decide) ?_
  refine R_ic (v := 5) d171_27 (by decide) ?_
  refine R_p d171_28 rfl rfl ?_
  refine R_nv (v := _) (v' := 0) (by decide) ?_
  refine R_br 956 d171_29 (mb_t (b := ((0 : Int32) < (5 : Int32))) (by decide)) rfl ?_
  refine R_ic (v := 1) d171_956 (by decide) ?_
  exact R_iret d171_957 rfl rfl rfl
set_option maxRecDepth 4000 in
theorem w232 {f : Nat → Int32} (h4 : ¬ ((f 3) < (-536870911))) (h5 : ¬ (536870911 < (f 3))) (h6 : ¬ ((f 4) < (-536870911))) (h7 : (536870911 < (f 4))) : RunsP 97 (0, [(0, .ref 16), (1, .int (f 3)), (2, .int (f 4))], [], HL0) (.inr 54, HJ1) := by
  refine Q_p d97_0 rfl rfl ?_
  refine Q_ci (v := (-536870911)) 369 d97_1 (List.mem_of_getElem? (i := 0) rfl) ?_
  refine Q_nb d97_3 rfl (mb_f (b := ((f 3) < (-536870911))) h4) ?_
  refine Q_p d97_6 rfl rfl ?_
  refine Q_ci (v := 536870911) 370 d97_7 (List.mem_of_getElem? (i := 1) rfl) ?_
  refine Q_nb d97_9 rfl (mb_f (b := (536870911 < (f 3))) h5) ?_
  refine Q_p d97_12 rfl rfl ?_
  refine Q_ci (v := (-536870911)) 369 d97_13 (List.mem_of_getElem? (i := 0) rfl) ?_
  refine Q_nb d97_15 rfl (mb_f (b := ((f 4) < (-536870911))) h6) ?_
  refine Q_p d97_18 rfl rfl ?_
  refine Q_ci (v := 536870911) 370 d97_19 (List.mem_of_getElem? (i := 1) rfl) ?_
  refine Q_nb d97_21 rfl (mb_f (b := ((f 4) ≤ 536870911)) (fun q => Int32.not_lt.mpr q h7)) ?_
  exact Q_thr 1 d97_24 d97_27 d97_28 d97_30 d97_33 rfl (List.mem_of_getElem? (i := 2) rfl) rfl (by decide) (by decide)
set_option maxRecDepth 4000 in
theorem w233 {f : Nat → Int32} (h0 : ¬ ((f 1) < (-536870911))) (h1 : ¬ (536870911 < (f 1))) (h2 : ¬ ((f 2) < (-536870911))) (h3 : ¬ (536870911 < (f 2))) (h4 : ¬ ((f 3) < (-536870911))) (h5 : ¬ (536870911 < (f 3))) (h6 : ¬ ((f 4) < (-536870911))) (h7 : (536870911 < (f 4))) : Run (5, f) 111 (0, [(0, .ref 16), (1, .int (f 1)), (2, .int (f 2)), (3, .int (f 3)), (4, .int (f 4))], [], HL0) (.inr 54, HJ1) := by
  refine R_p d111_0 rfl rfl ?_
  refine R_p d111_1 rfl rfl ?_
  refine R_p d111_2 rfl rfl ?_
  refine R_cm [.int (f 1), .int (f 2)] d111_3 (List.mem_of_getElem? (i := 30) rfl) rfl ⟨by decide, by decide, Nat.le_of_ble_eq_true rfl, rfl, mcd97⟩ rfl rfl (Nat.le_of_ble_eq_true rfl) rfl rfl (w32 (f := f) h0 h1 h2 h3) ?_
  refine R_p d111_6 rfl rfl ?_
  refine R_p d111_7 rfl rfl ?_
  refine R_p d111_8 rfl rfl ?_
  exact R_tv [.int (f 3), .int (f 4)] d111_10 (List.mem_of_getElem? (i := 30) rfl) ⟨by decide, by decide, Nat.le_of_ble_eq_true rfl, mcd97⟩ rfl rfl (Nat.le_of_ble_eq_true rfl) rfl rfl rfl (Or.inr (w232 (f := f) h4 h5 h6 h7))
set_option maxRecDepth 4000 in
theorem w234 {f : Nat → Int32} (h0 : ¬ ((f 1) < (-536870911))) (h1 : ¬ (536870911 < (f 1))) (h2 : ¬ ((f 2) < (-536870911))) (h3 : ¬ (536870911 < (f 2))) (h4 : ¬ ((f 3) < (-536870911))) (h5 : ¬ (536870911 < (f 3))) (h6 : ¬ ((f 4) < (-536870911))) (h7 : (536870911 < (f 4))) : Run (5, f) 166 (0, [(0, .ref 16), (1, .int (f 1)), (2, .int (f 2)), (3, .int (f 3)), (4, .int (f 4)), (5, .ref 53)], [], HL0) (.inl (some (.int 1)), HJ1) := by
  refine R_p d166_0 rfl rfl ?_
  refine R_ic (v := 0) d166_2 (by decide) ?_
  refine R_p d166_3 rfl rfl ?_
  refine R_p d166_4 rfl rfl ?_
  refine R_p d166_5 rfl rfl ?_
  refine R_p d166_6 rfl rfl ?_
  refine R_p d166_7 rfl rfl ?_
  refine R_tc [.int (f 1), .int (f 2), .int (f 3), .int (f 4)] d166_9 (List.mem_of_getElem? (i := 128) rfl) ⟨by decide, by decide, Nat.le_of_ble_eq_true rfl, mcd111⟩ rfl rfl (Nat.le_of_ble_eq_true rfl) rfl rfl rfl (cx := 10) (hp := 17) rfl (by decide) (by decide) (by decide) (Or.inl (w233 (f := f) h0 h1 h2 h3 h4 h5 h6 h7)) ?_
  refine R_p (ls' := [(0, .ref 16), (1, .int (f 1)), (2, .int (f 2)), (3, .int (f 3)), (4, .int (f 4)), (5, .ref 53), (6, .ref 54)]) d166_17 rfl rfl ?_
  refine R_ic (v := 1) d166_19 (by decide) ?_
  exact R_iret d166_20 rfl rfl rfl
set_option maxRecDepth 4000 in
theorem w235 {f : Nat → Int32} (h6 : ¬ ((f 4) < (-536870911))) (h7 : (536870911 < (f 4))) : Run (5, f) 116 (0, [(0, .int (f 4)), (1, .int (-536870911)), (2, .int 536870911)], [], HJ1) (.inl (some (.int 0)), HJ1) := by
  refine R_p d116_0 rfl rfl ?_
  refine R_p d116_1 rfl rfl ?_
  refine R_nb d116_2 rfl (mb_f (b := ((f 4) < (-536870911))) h6) ?_
  refine R_p d116_5 rfl rfl ?_
  refine R_p d116_6 rfl rfl ?_
  refine R_br 14 d116_7 (mb_t (b := (536870911 < (f 4))) h7) rfl ?_
  refine R_ic (v := 0) d116_14 (by decide) ?_
  exact R_iret d116_15 rfl rfl rfl
set_option maxRecDepth 4000 in
theorem w236 {f : Nat → Int32} (h4 : ¬ ((f 3) < (-536870911))) (h5 : ¬ (536870911 < (f 3))) (h6 : ¬ ((f 4) < (-536870911))) (h7 : (536870911 < (f 4))) : Run (5, f) 115 (0, [(0, .int (f 3)), (1, .int (f 4))], [], HJ1) (.inl (some (.int 0)), HJ1) := by
  refine R_p d115_0 rfl rfl ?_
  refine R_ci (v := (-536870911)) 959 d115_1 (List.mem_of_getElem? (i := 4) rfl) ?_
  refine R_ci (v := 536870911) 960 d115_3 (List.mem_of_getElem? (i := 5) rfl) ?_
  refine R_cs [.int (f 3), .int (-536870911), .int 536870911] d115_5 (List.mem_of_getElem? (i := 163) rfl) rfl ⟨by decide, by decide, Nat.le_of_ble_eq_true rfl, rfl, mcd116⟩ rfl rfl (Nat.le_of_ble_eq_true rfl) (w227 (f := f) h4 h5) ?_
  refine R_nb d115_8 rfl (mb_f (b := ((1 : Int32) = (0 : Int32))) (by decide)) ?_
  refine R_p d115_11 rfl rfl ?_
  refine R_ci (v := (-536870911)) 959 d115_12 (List.mem_of_getElem? (i := 4) rfl) ?_
  refine R_ci (v := 536870911) 960 d115_14 (List.mem_of_getElem? (i := 5) rfl) ?_
  refine R_cs [.int (f 4), .int (-536870911), .int 536870911] d115_16 (List.mem_of_getElem? (i := 163) rfl) rfl ⟨by decide, by decide, Nat.le_of_ble_eq_true rfl, rfl, mcd116⟩ rfl rfl (Nat.le_of_ble_eq_true rfl) (w235 (f := f) h6 h7) ?_
  refine R_br 26 d115_19 (mb_t (b := ((0 : Int32) = (0 : Int32))) (by decide)) rfl ?_
  refine R_ic (v := 0) d115_26 (by decide) ?_
  exact R_iret d115_27 rfl rfl rfl
set_option maxRecDepth 4000 in
theorem w237 {f : Nat → Int32} (h0 : ¬ ((f 1) < (-536870911))) (h1 : ¬ (536870911 < (f 1))) (h2 : ¬ ((f 2) < (-536870911))) (h3 : ¬ (536870911 < (f 2))) (h4 : ¬ ((f 3) < (-536870911))) (h5 : ¬ (536870911 < (f 3))) (h6 : ¬ ((f 4) < (-536870911))) (h7 : (536870911 < (f 4))) : Run (5, f) 147 (0, [(0, .ref 42), (1, .int (f 1)), (2, .int (f 2)), (3, .int (f 3)), (4, .int (f 4))], [], HJ1) (.inl (some (.int 0)), HJ2) := by
  refine R_p d147_0 rfl rfl ?_
  refine R_p d147_1 rfl rfl ?_
  refine R_p d147_2 rfl rfl ?_
  refine R_cs [.int (f 1), .int (f 2)] d147_3 (List.mem_of_getElem? (i := 162) rfl) rfl ⟨by decide, by decide, Nat.le_of_ble_eq_true rfl, rfl, mcd115⟩ rfl rfl (Nat.le_of_ble_eq_true rfl) (w212 (f := f) h0 h1 h2 h3) ?_
  refine R_nb d147_6 rfl (mb_f (b := ((1 : Int32) = (0 : Int32))) (by decide)) ?_
  refine R_p d147_9 rfl rfl ?_
  refine R_p d147_10 rfl rfl ?_
  refine R_cs [.int (f 3), .int (f 4)] d147_12 (List.mem_of_getElem? (i := 162) rfl) rfl ⟨by decide, by decide, Nat.le_of_ble_eq_true rfl, rfl, mcd115⟩ rfl rfl (Nat.le_of_ble_eq_true rfl) (w236 (f := f) h4 h5 h6 h7) ?_
  refine R_br 22 d147_15 (mb_t (b := ((0 : Int32) = (0 : Int32))) (by decide)) rfl ?_
  refine R_ic (v := 1) d147_22 (by decide) ?_
  refine R_cm [.int 1] d147_23 (List.mem_of_getElem? (i := 164) rfl) rfl ⟨by decide, by decide, Nat.le_of_ble_eq_true rfl, rfl, mcd117⟩ rfl rfl (Nat.le_of_ble_eq_true rfl) rfl rfl (w6 (f := f)) ?_
  refine R_nb d147_26 rfl (mb_f (b := ((1 : Int32) = (0 : Int32))) (by decide)) ?_
  refine R_ic (v := 0) d147_29 (by decide) ?_
  exact R_iret d147_30 rfl rfl rfl
set_option maxRecDepth 4000 in
theorem law808_238 {f : Nat → Int32} (h0 : ¬ ((f 1) < (-536870911))) (h1 : ¬ (536870911 < (f 1))) (h2 : ¬ ((f 2) < (-536870911))) (h3 : ¬ (536870911 < (f 2))) (h4 : ¬ ((f 3) < (-536870911))) (h5 : ¬ (536870911 < (f 3))) (h6 : ¬ ((f 4) < (-536870911))) (h7 : (536870911 < (f 4))) : Run (5, f) 171 (808, [(0, .ref 0), (1, .ref 16), (2, .ref 42), (3, .ref 53), (4, .int 0)], [], HL0) (.inl (some (.int 1)), HJ2) := by
  refine R_p d171_808 rfl rfl ?_
  refine R_p d171_809 rfl rfl ?_
  refine R_p d171_810 rfl rfl ?_
  refine R_ic (v := 1) d171_812 (by decide) ?_
  refine R_p d171_813 rfl rfl ?_
  refine R_nv (v := _) (v' := 1) (by decide) ?_
  refine R_sldk (n := 1) (x := (f 1)) d171_814 (vp_ok (by decide)) (by decide) rfl ?_
  refine R_p d171_815 rfl rfl ?_
  refine R_p d171_816 rfl rfl ?_
  refine R_ic (v := 2) d171_818 (by decide) ?_
  refine R_p d171_819 rfl rfl ?_
  refine R_nv (v := _) (v' := 2) (by decide) ?_
  refine R_sldk (n := 2) (x := (f 2)) d171_820 (vp_ok (by decide)) (by decide) rfl ?_
  refine R_p d171_821 rfl rfl ?_
  refine R_p d171_822 rfl rfl ?_
  refine R_ic (v := 3) d171_824 (by decide) ?_
  refine R_p d171_825 rfl rfl ?_
  refine R_nv (v := _) (v' := 3) (by decide) ?_
  refine R_sldk (n := 3) (x := (f 3)) d171_826 (vp_ok (by decide)) (by decide) rfl ?_
  refine R_p d171_827 rfl rfl ?_
  refine R_p d171_828 rfl rfl ?_
  refine R_ic (v := 4) d171_830 (by decide) ?_
  refine R_p d171_831 rfl rfl ?_
  refine R_nv (v := _) (v' := 4) (by decide) ?_
  refine R_sldk (n := 4) (x := (f 4)) d171_832 (vp_ok (by decide)) (by decide) rfl ?_
  refine R_p d171_833 rfl rfl ?_
  refine R_hs [.ref 16, .int (f 1), .int (f 2), .int (f 3), .int (f 4), .ref 53] d171_834 (List.mem_of_getElem? (i := 127) rfl) ⟨by decide, by decide, Nat.le_of_ble_eq_true rfl, mcd166⟩ rfl rfl (Nat.le_of_ble_eq_true rfl) (w234 (f := f) h0 h1 h2 h3 h4 h5 h6 h7) ?_
  refine R_p (ls' := [(0, .ref 0), (1, .ref 16), (2, .ref 42), (3, .ref 53), (4, .int 0), (5, .int 1)]) d171_837 rfl rfl ?_
  refine R_p d171_839 rfl rfl ?_
  refine R_p d171_840 rfl rfl ?_
  refine R_p d171_841 rfl rfl ?_
  refine R_ic (v := 1) d171_843 (by decide) ?_
  refine R_p d171_844 rfl rfl ?_
  refine R_nv (v := _) (v' := 1) (by decide) ?_
  refine R_sldk (n := 1) (x := (f 1)) d171_845 (vp_ok (by decide)) (by decide) rfl ?_
  refine R_p d171_846 rfl rfl ?_
  refine R_p d171_847 rfl rfl ?_
  refine R_ic (v := 2) d171_849 (by decide) ?_
  refine R_p d171_850 rfl rfl ?_
  refine R_nv (v := _) (v' := 2) (by decide) ?_
  refine R_sldk (n := 2) (x := (f 2)) d171_851 (vp_ok (by decide)) (by decide) rfl ?_
  refine R_p d171_852 rfl rfl ?_
  refine R_p d171_853 rfl rfl ?_
  refine R_ic (v := 3) d171_855 (by decide) ?_
  refine R_p d171_856 rfl rfl ?_
  refine R_nv (v := _) (v' := 3) (by decide) ?_
  refine R_sldk (n := 3) (x := (f 3)) d171_857 (vp_ok (by decide)) (by decide) rfl ?_
  refine R_p d171_858 rfl rfl ?_
  refine R_p d171_859 rfl rfl ?_
  refine R_ic (v := 4) d171_861 (by decide) ?_
  refine R_p d171_862 rfl rfl ?_
  refine R_nv (v := _) (v' := 4) (by decide) ?_
  refine R_sldk (n := 4) (x := (f 4)) d171_863 (vp_ok (by decide)) (by decide) rfl ?_
  refine R_cm [.int (f 1), .int (f 2), .int (f 3), .int (f 4)] d171_864 (List.mem_of_getElem? (i := 194) rfl) rfl ⟨by decide, by decide, Nat.le_of_ble_eq_true rfl, rfl, mcd147⟩ rfl rfl (Nat.le_of_ble_eq_true rfl) rfl rfl (w237 (f := f) h0 h1 h2 h3 h4 h5 h6 h7) ?_
  refine R_p (ls' := [(0, .ref 0), (1, .ref 16), (2, .ref 42), (3, .ref 53), (4, .int 0), (5, .int 1), (6, .int 0)]) d171_867 rfl rfl ?_
  refine R_p d171_869 rfl rfl ?_
  refine R_cm [] d171_870 (List.mem_of_getElem? (i := 160) rfl) rfl ⟨by decide, by decide, Nat.le_of_ble_eq_true rfl, rfl, mcd113⟩ rfl rfl (Nat.le_of_ble_eq_true rfl) rfl rfl (w8 (f := f)) ?_
  refine R_p d171_873 rfl rfl ?_
  refine R_br 880 d171_875 (mb_t (b := ((1 : Int32) = (1 : Int32))) (by decide)) rfl ?_
  refine R_p d171_880 rfl rfl ?_
  refine R_br 897 d171_882 (mb_t (b := (¬ (1 : Int32) = (0 : Int32))) (by decide)) rfl ?_
  refine R_br 950 d171_897 rfl rfl ?_
  refine R_p (ls' := [(0, .ref 0), (1, .ref 16), (2, .ref 42), (3, .ref 53), (4, .int 5), (5, .int 1), (6, .int 0)]) d171_950 rfl rfl ?_
  refine R_br 23 d171_953 rfl rfl ?_
  refine R_p d171_23 rfl rfl ?_
  refine R_p d171_25 rfl rfl ?_
  refine R_sln d171_26 ?_
  refine R_nv (v := _) (v' := 5) (show Int32.ofNat 5 = 5 from by decide) ?_
  refine R_ic (v := 5) d171_27 (by decide) ?_
  refine R_p d171_28 rfl rfl ?_
  refine R_nv (v := _) (v' := 0) (by decide) ?_
  refine R_br 956 d171_29 (mb_t (b := ((0 : Int32) < (5 : Int32))) (by decide)) rfl ?_
  refine R_ic (v := 1) d171_956 (by decide) ?_
  exact R_iret d171_957 rfl rfl rfl
set_option maxRecDepth 4000 in
theorem w239 {f : Nat → Int32} (h4 : ¬ ((f 3) < (-536870911))) (h5 : ¬ (536870911 < (f 3))) (h6 : ¬ ((f 4) < (-536870911))) (h7 : ¬ (536870911 < (f 4))) : Run (5, f) 97 (0, [(0, .ref 16), (1, .int (f 3)), (2, .int (f 4))], [], HL0) (.inl none, HL0) := by
  refine R_p d97_0 rfl rfl ?_
  refine R_ci (v := (-536870911)) 369 d97_1 (List.mem_of_getElem? (i := 0) rfl) ?_
  refine R_nb d97_3 rfl (mb_f (b := ((f 3) < (-536870911))) h4) ?_
  refine R_p d97_6 rfl rfl ?_
  refine R_ci (v := 536870911) 370 d97_7 (List.mem_of_getElem? (i := 1) rfl) ?_
  refine R_nb d97_9 rfl (mb_f (b := (536870911 < (f 3))) h5) ?_
  refine R_p d97_12 rfl rfl ?_
  refine R_ci (v := (-536870911)) 369 d97_13 (List.mem_of_getElem? (i := 0) rfl) ?_
  refine R_nb d97_15 rfl (mb_f (b := ((f 4) < (-536870911))) h6) ?_
  refine R_p d97_18 rfl rfl ?_
  refine R_ci (v := 536870911) 370 d97_19 (List.mem_of_getElem? (i := 1) rfl) ?_
  refine R_br 34 d97_21 (mb_t (b := ((f 4) ≤ 536870911)) (Int32.not_lt.mp h7)) rfl ?_
  exact R_vret d97_34 rfl rfl
set_option maxRecDepth 4000 in
theorem w240 {f : Nat → Int32} : Run (5, f) 68 (0, [(0, .ref 17), (1, .int 41), (2, .int (f 3)), (3, .int (f 4))], [], (HJ17 f)) (.inl none, (HJ22 f)) := by
  refine R_p d68_0 rfl rfl ?_
  refine R_get d68_1 (Or.inl (List.mem_of_getElem? (i := 3) rfl)) rfl rfl ?_
  refine R_p d68_4 rfl rfl ?_
  refine R_p d68_5 rfl rfl ?_
  refine R_ist d68_6 rfl (vp_ok (by decide)) ?_
  refine R_p d68_7 rfl rfl ?_
  refine R_get d68_8 (Or.inl (List.mem_of_getElem? (i := 4) rfl)) rfl rfl ?_
  refine R_p d68_11 rfl rfl ?_
  refine R_p d68_12 rfl rfl ?_
  refine R_ist d68_13 rfl (vp_ok (by decide)) ?_
  exact R_vret d68_14 rfl rfl
set_option maxRecDepth 4000 in
theorem w241 {f : Nat → Int32} : Run (5, f) 50 (0, [(0, .ref 23), (1, .int 40)], [], (HJ22 f)) (.inl (some (.int (-1))), (HJ22 f)) := by
  refine R_ic (v := 0) d50_0 (by decide) ?_
  refine R_p (ls' := [(0, .ref 23), (1, .int 40), (2, .int 0)]) d50_1 rfl rfl ?_
  refine R_p d50_2 rfl rfl ?_
  refine R_p d50_3 rfl rfl ?_
  refine R_get d50_4 (Or.inl (List.mem_of_getElem? (i := 15) rfl)) rfl rfl ?_
  refine R_br 27 d50_7 (mb_t (b := ((0 : Int32) ≤ (0 : Int32))) (by decide)) rfl ?_
  refine R_ic (v := (-1)) d50_27 (by decide) ?_
  exact R_iret d50_28 rfl rfl rfl
set_option maxRecDepth 4000 in
theorem w242 {f : Nat → Int32} : Run (5, f) 50 (0, [(0, .ref 23), (1, .int 41)], [], (HJ22 f)) (.inl (some (.int (-1))), (HJ22 f)) := by
  refine R_ic (v := 0) d50_0 (by decide) ?_
  refine R_p (ls' := [(0, .ref 23), (1, .int 41), (2, .int 0)]) d50_1 rfl rfl ?_
  refine R_p d50_2 rfl rfl ?_
  refine R_p d50_3 rfl rfl ?_
  refine R_get d50_4 (Or.inl (List.mem_of_getElem? (i := 15) rfl)) rfl rfl ?_
  refine R_br 27 d50_7 (mb_t (b := ((0 : Int32) ≤ (0 : Int32))) (by decide)) rfl ?_
  refine R_ic (v := (-1)) d50_27 (by decide) ?_
  exact R_iret d50_28 rfl rfl rfl
set_option maxRecDepth 4000 in
theorem w243 {f : Nat → Int32} (h0 : ¬ ((f 1) < (-536870911))) (h1 : ¬ (536870911 < (f 1))) (h2 : ¬ ((f 2) < (-536870911))) (h3 : ¬ (536870911 < (f 2))) (h4 : ¬ ((f 3) < (-536870911))) (h5 : ¬ (536870911 < (f 3))) (h6 : ¬ ((f 4) < (-536870911))) (h7 : ¬ (536870911 < (f 4))) : Run (5, f) 111 (0, [(0, .ref 16), (1, .int (f 1)), (2, .int (f 2)), (3, .int (f 3)), (4, .int (f 4))], [], HL0) (.inl (some (.int (-1))), (HJ22 f)) := by
  refine R_p d111_0 rfl rfl ?_
  refine R_p d111_1 rfl rfl ?_
  refine R_p d111_2 rfl rfl ?_
  refine R_cm [.int (f 1), .int (f 2)] d111_3 (List.mem_of_getElem? (i := 30) rfl) rfl ⟨by decide, by decide, Nat.le_of_ble_eq_true rfl, rfl, mcd97⟩ rfl rfl (Nat.le_of_ble_eq_true rfl) rfl rfl (w32 (f := f) h0 h1 h2 h3) ?_
  refine R_p d111_6 rfl rfl ?_
  refine R_p d111_7 rfl rfl ?_
  refine R_p d111_8 rfl rfl ?_
  refine R_cm [.int (f 3), .int (f 4)] d111_10 (List.mem_of_getElem? (i := 30) rfl) rfl ⟨by decide, by decide, Nat.le_of_ble_eq_true rfl, rfl, mcd97⟩ rfl rfl (Nat.le_of_ble_eq_true rfl) rfl rfl (w239 (f := f) h4 h5 h6 h7) ?_
  refine R_p d111_13 rfl rfl ?_
  refine R_get d111_14 (Or.inl (List.mem_of_getElem? (i := 43) rfl)) rfl rfl ?_
  refine R_bi (v := 40) d111_17 (by decide) ?_
  refine R_p d111_19 rfl rfl ?_
  refine R_p d111_20 rfl rfl ?_
  refine R_cm [.int 40, .int (f 1), .int (f 2)] d111_21 (List.mem_of_getElem? (i := 31) rfl) rfl ⟨by decide, by decide, Nat.le_of_ble_eq_true rfl, rfl, mcd68⟩ rfl rfl (Nat.le_of_ble_eq_true rfl) rfl rfl (w178 (f := f)) ?_
  refine R_p d111_24 rfl rfl ?_
  refine R_get d111_25 (Or.inl (List.mem_of_getElem? (i := 43) rfl)) rfl rfl ?_
  refine R_bi (v := 41) d111_28 (by decide) ?_
  refine R_p d111_30 rfl rfl ?_
  refine R_p d111_31 rfl rfl ?_
  refine R_cm [.int 41, .int (f 3), .int (f 4)] d111_33 (List.mem_of_getElem? (i := 31) rfl) rfl ⟨by decide, by decide, Nat.le_of_ble_eq_true rfl, rfl, mcd68⟩ rfl rfl (Nat.le_of_ble_eq_true rfl) rfl rfl (w240 (f := f)) ?_
  refine R_p d111_36 rfl rfl ?_
  refine R_get d111_37 (Or.inl (List.mem_of_getElem? (i := 45) rfl)) rfl rfl ?_
  refine R_bi (v := 40) d111_40 (by decide) ?_
  refine R_cm [.int 40] d111_42 (List.mem_of_getElem? (i := 126) rfl) rfl ⟨by decide, by decide, Nat.le_of_ble_eq_true rfl, rfl, mcd50⟩ rfl rfl (Nat.le_of_ble_eq_true rfl) rfl rfl (w241 (f := f)) ?_
  refine R_p (ls' := [(0, .ref 16), (1, .int (f 1)), (2, .int (f 2)), (3, .int (f 3)), (4, .int (f 4)), (5, .int (-1))]) d111_45 rfl rfl ?_
  refine R_p d111_47 rfl rfl ?_
  refine R_get d111_48 (Or.inl (List.mem_of_getElem? (i := 45) rfl)) rfl rfl ?_
  refine R_bi (v := 41) d111_51 (by decide) ?_
  refine R_cm [.int 41] d111_53 (List.mem_of_getElem? (i := 126) rfl) rfl ⟨by decide, by decide, Nat.le_of_ble_eq_true rfl, rfl, mcd50⟩ rfl rfl (Nat.le_of_ble_eq_true rfl) rfl rfl (w242 (f := f)) ?_
  refine R_p (ls' := [(0, .ref 16), (1, .int (f 1)), (2, .int (f 2)), (3, .int (f 3)), (4, .int (f 4)), (5, .int (-1)), (6, .int (-1))]) d111_56 rfl rfl ?_
  refine R_p d111_58 rfl rfl ?_
  refine R_ic (v := (-1)) d111_60 (by decide) ?_
  refine R_br 84 d111_61 (mb_t (b := (((-1) : Int32) = ((-1) : Int32))) (by decide)) rfl ?_
  refine R_ic (v := (-1)) d111_84 (by decide) ?_
  exact R_iret d111_85 rfl rfl rfl
set_option maxRecDepth 4000 in
theorem w244 {f : Nat → Int32} (h0 : ¬ ((f 1) < (-536870911))) (h1 : ¬ (536870911 < (f 1))) (h2 : ¬ ((f 2) < (-536870911))) (h3 : ¬ (536870911 < (f 2))) (h4 : ¬ ((f 3) < (-536870911))) (h5 : ¬ (536870911 < (f 3))) (h6 : ¬ ((f 4) < (-536870911))) (h7 : ¬ (536870911 < (f 4))) : Run (5, f) 166 (0, [(0, .ref 16), (1, .int (f 1)), (2, .int (f 2)), (3, .int (f 3)), (4, .int (f 4)), (5, .ref 53)], [], HL0) (.inl (some (.int 0)), (HJ23 f)) := by
  refine R_p d166_0 rfl rfl ?_
  refine R_ic (v := 0) d166_2 (by decide) ?_
  refine R_p d166_3 rfl rfl ?_
  refine R_p d166_4 rfl rfl ?_
  refine R_p d166_5 rfl rfl ?_
  refine R_p d166_6 rfl rfl ?_
  refine R_p d166_7 rfl rfl ?_
  refine R_cm [.int (f 1), .int (f 2), .int (f 3), .int (f 4)] d166_9 (List.mem_of_getElem? (i := 128) rfl) rfl ⟨by decide, by decide, Nat.le_of_ble_eq_true rfl, rfl, mcd111⟩ rfl rfl (Nat.le_of_ble_eq_true rfl) rfl rfl (w243 (f := f) h0 h1 h2 h3 h4 h5 h6 h7) ?_
  refine R_p d166_12 rfl rfl ?_
  refine R_nw (v := _) (v' := (-1)) (by decide) ?_
  refine R_lst d166_13 rfl (vp_ok (by decide)) ?_
  refine R_br 21 d166_14 rfl rfl ?_
  refine R_ic (v := 0) d166_21 (by decide) ?_
  exact R_iret d166_22 rfl rfl rfl
set_option maxRecDepth 4000 in
theorem w245 {f : Nat → Int32} (h0 : ¬ ((f 1) < (-536870911))) (h1 : ¬ (536870911 < (f 1))) : Run (5, f) 116 (0, [(0, .int (f 1)), (1, .int (-536870911)), (2, .int 536870911)], [], (HJ23 f)) (.inl (some (.int 1)), (HJ23 f)) := by
  refine R_p d116_0 rfl rfl ?_
  refine R_p d116_1 rfl rfl ?_
  refine R_nb d116_2 rfl (mb_f (b := ((f 1) < (-536870911))) h0) ?_
  refine R_p d116_5 rfl rfl ?_
  refine R_p d116_6 rfl rfl ?_
  refine R_nb d116_7 rfl (mb_f (b := (536870911 < (f 1))) h1) ?_
  refine R_ic (v := 1) d116_10 (by decide) ?_
  refine R_br 15 d116_11 rfl rfl ?_
  exact R_iret d116_15 rfl rfl rfl
set_option maxRecDepth 4000 in
theorem w246 {f : Nat → Int32} (h2 : ¬ ((f 2) < (-536870911))) (h3 : ¬ (536870911 < (f 2))) : Run (5, f) 116 (0, [(0, .int (f 2)), (1, .int (-536870911)), (2, .int 536870911)], [], (HJ23 f)) (.inl (some (.int 1)), (HJ23 f)) := by
  refine R_p d116_0 rfl rfl ?_
  refine R_p d116_1 rfl rfl ?_
  refine R_nb d116_2 rfl (mb_f (b := ((f 2) < (-536870911))) h2) ?_
  refine R_p d116_5 rfl rfl ?_
  refine R_p d116_6 rfl rfl ?_
  refine R_nb d116_7 rfl (mb_f (b := (536870911 < (f 2))) h3) ?_
  refine R_ic (v := 1) d116_10 (by decide) ?_
  refine R_br 15 d116_11 rfl rfl ?_
  exact R_iret d116_15 rfl rfl rfl
set_option maxRecDepth 4000 in
theorem w247 {f : Nat → Int32} (h0 : ¬ ((f 1) < (-536870911))) (h1 : ¬ (536870911 < (f 1))) (h2 : ¬ ((f 2) < (-536870911))) (h3 : ¬ (536870911 < (f 2))) : Run (5, f) 115 (0, [(0, .int (f 1)), (1, .int (f 2))], [], (HJ23 f)) (.inl (some (.int 1)), (HJ23 f)) := by
  refine R_p d115_0 rfl rfl ?_
  refine R_ci (v := (-536870911)) 959 d115_1 (List.mem_of_getElem? (i := 4) rfl) ?_
  refine R_ci (v := 536870911) 960 d115_3 (List.mem_of_getElem? (i := 5) rfl) ?_
  refine R_cs [.int (f 1), .int (-536870911), .int 536870911] d115_5 (List.mem_of_getElem? (i := 163) rfl) rfl ⟨by decide, by decide, Nat.le_of_ble_eq_true rfl, rfl, mcd116⟩ rfl rfl (Nat.le_of_ble_eq_true rfl) (w245 (f := f) h0 h1) ?_
  refine R_nb d115_8 rfl (mb_f (b := ((1 : Int32) = (0 : Int32))) (by decide)) ?_
  refine R_p d115_11 rfl rfl ?_
  refine R_ci (v := (-536870911)) 959 d115_12 (List.mem_of_getElem? (i := 4) rfl) ?_
  refine R_ci (v := 536870911) 960 d115_14 (List.mem_of_getElem? (i := 5) rfl) ?_
  refine R_cs [.int (f 2), .int (-536870911), .int 536870911] d115_16 (List.mem_of_getElem? (i := 163) rfl) rfl ⟨by decide, by decide, Nat.le_of_ble_eq_true rfl, rfl, mcd116⟩ rfl rfl (Nat.le_of_ble_eq_true rfl) (w246 (f := f) h2 h3) ?_
  refine R_nb d115_19 rfl (mb_f (b := ((1 : Int32) = (0 : Int32))) (by decide)) ?_
  refine R_ic (v := 1) d115_22 (by decide) ?_
  refine R_br 27 d115_23 rfl rfl ?_
  exact R_iret d115_27 rfl rfl rfl
set_option maxRecDepth 4000 in
theorem w248 {f : Nat → Int32} (h4 : ¬ ((f 3) < (-536870911))) (h5 : ¬ (536870911 < (f 3))) : Run (5, f) 116 (0, [(0, .int (f 3)), (1, .int (-536870911)), (2, .int 536870911)], [], (HJ23 f)) (.inl (some (.int 1)), (HJ23 f)) := by
  refine R_p d116_0 rfl rfl ?_
  refine R_p d116_1 rfl rfl ?_
  refine R_nb d116_2 rfl (mb_f (b := ((f 3) < (-536870911))) h4) ?_
  refine R_p d116_5 rfl rfl ?_
  refine R_p d116_6 rfl rfl ?_
  refine R_nb d116_7 rfl (mb_f (b := (536870911 < (f 3))) h5) ?_
  refine R_ic (v := 1) d116_10 (by decide) ?_
  refine R_br 15 d116_11 rfl rfl ?_
  exact R_iret d116_15 rfl rfl rfl
set_option maxRecDepth 4000 in
theorem w249 {f : Nat → Int32} (h6 : ¬ ((f 4) < (-536870911))) (h7 : ¬ (536870911 < (f 4))) : Run (5, f) 116 (0, [(0, .int (f 4)), (1, .int (-536870911)), (2, .int 536870911)], [], (HJ23 f)) (.inl (some (.int 1)), (HJ23 f)) := by
  refine R_p d116_0 rfl rfl ?_
  refine R_p d116_1 rfl rfl ?_
  refine R_nb d116_2 rfl (mb_f (b := ((f 4) < (-536870911))) h6) ?_
  refine R_p d116_5 rfl rfl ?_
  refine R_p d116_6 rfl rfl ?_
  refine R_nb d116_7 rfl (mb_f (b := (536870911 < (f 4))) h7) ?_
  refine R_ic (v := 1) d116_10 (by decide) ?_
  refine R_br 15 d116_11 rfl rfl ?_
  exact R_iret d116_15 rfl rfl rfl
set_option maxRecDepth 4000 in
theorem w250 {f : Nat → Int32} (h4 : ¬ ((f 3) < (-536870911))) (h5 : ¬ (536870911 < (f 3))) (h6 : ¬ ((f 4) < (-536870911))) (h7 : ¬ (536870911 < (f 4))) : Run (5, f) 115 (0, [(0, .int (f 3)), (1, .int (f 4))], [], (HJ23 f)) (.inl (some (.int 1)), (HJ23 f)) := by
  refine R_p d115_0 rfl rfl ?_
  refine R_ci (v := (-536870911)) 959 d115_1 (List.mem_of_getElem? (i := 4) rfl) ?_
  refine R_ci (v := 536870911) 960 d115_3 (List.mem_of_getElem? (i := 5) rfl) ?_
  refine R_cs [.int (f 3), .int (-536870911), .int 536870911] d115_5 (List.mem_of_getElem? (i := 163) rfl) rfl ⟨by decide, by decide, Nat.le_of_ble_eq_true rfl, rfl, mcd116⟩ rfl rfl (Nat.le_of_ble_eq_true rfl) (w248 (f := f) h4 h5) ?_
  refine R_nb d115_8 rfl (mb_f (b := ((1 : Int32) = (0 : Int32))) (by decide)) ?_
  refine R_p d115_11 rfl rfl ?_
  refine R_ci (v := (-536870911)) 959 d115_12 (List.mem_of_getElem? (i := 4) rfl) ?_
  refine R_ci (v := 536870911) 960 d115_14 (List.mem_of_getElem? (i := 5) rfl) ?_
  refine R_cs [.int (f 4), .int (-536870911), .int 536870911] d115_16 (List.mem_of_getElem? (i := 163) rfl) rfl ⟨by decide, by decide, Nat.le_of_ble_eq_true rfl, rfl, mcd116⟩ rfl rfl (Nat.le_of_ble_eq_true rfl) (w249 (f := f) h6 h7) ?_
  refine R_nb d115_19 rfl (mb_f (b := ((1 : Int32) = (0 : Int32))) (by decide)) ?_
  refine R_ic (v := 1) d115_22 (by decide) ?_
  refine R_br 27 d115_23 rfl rfl ?_
  exact R_iret d115_27 rfl rfl rfl
set_option maxRecDepth 4000 in
theorem w251 {f : Nat → Int32} : Run (5, f) 117 (0, [(0, .ref 42), (1, .int 0)], [], (HJ23 f)) (.inl (some (.int 0)), (HJ23 f)) := by
  refine R_p d117_0 rfl rfl ?_
  refine R_p d117_1 rfl rfl ?_
  refine R_put d117_2 (List.mem_of_getElem? (i := 48) rfl) rfl (by decide) rfl rfl (Or.inl rfl) ?_
  refine R_p d117_5 rfl rfl ?_
  refine R_br 13 d117_6 (mb_t (b := ((0 : Int32) ≤ (0 : Int32))) (by decide)) rfl ?_
  refine R_ic (v := 0) d117_13 (by decide) ?_
  exact R_iret d117_14 rfl rfl rfl
set_option maxRecDepth 4000 in
theorem w252 {f : Nat → Int32} : Run (5, f) 129 (0, [(0, .ref 42)], [], (HJ25 f)) (.inl (some (.int 1)), (HJ25 f)) := by
  refine R_ic (v := 1) d129_0 (by decide) ?_
  refine R_p (ls' := [(0, .ref 42), (1, .int 1)]) d129_1 rfl rfl ?_
  refine R_ic (v := 2) d129_2 (by decide) ?_
  refine R_p (ls' := [(0, .ref 42), (1, .int 1), (2, .int 2)]) d129_3 rfl rfl ?_
  refine R_p d129_4 rfl rfl ?_
  refine R_p d129_5 rfl rfl ?_
  refine R_get d129_6 (Or.inl (List.mem_of_getElem? (i := 49) rfl)) rfl rfl ?_
  refine R_br 38 d129_9 (mb_t (b := ((0 : Int32) ≤ (2 : Int32))) (by decide)) rfl ?_
  refine R_p d129_38 rfl rfl ?_
  exact R_iret d129_39 rfl rfl rfl
set_option maxRecDepth 4000 in
theorem w253 {f : Nat → Int32} : Run (5, f) 128 (0, [(0, .ref 42)], [], (HJ23 f)) (.inl none, (HJ25 f)) := by
  refine R_p d128_0 rfl rfl ?_
  refine R_get d128_1 (Or.inl (List.mem_of_getElem? (i := 54) rfl)) rfl rfl ?_
  refine R_br 8 d128_4 (mb_t (b := ((0 : Int32) = (0 : Int32))) (by decide)) rfl ?_
  refine R_p d128_8 rfl rfl ?_
  refine R_ic (v := 1) d128_9 (by decide) ?_
  refine R_put d128_10 (List.mem_of_getElem? (i := 54) rfl) rfl (by decide) (by decide) (by decide) (Or.inl rfl) ?_
  refine R_p d128_13 rfl rfl ?_
  refine R_ic (v := 0) d128_14 (by decide) ?_
  refine R_put d128_15 (List.mem_of_getElem? (i := 55) rfl) rfl (by decide) rfl rfl (Or.inl rfl) ?_
  refine R_ic (v := 0) d128_18 (by decide) ?_
  refine R_p (ls' := [(0, .ref 42), (1, .int 0)]) d128_19 rfl rfl ?_
  refine R_h (HJ24 f) rfl ?_
  refine R_meshCopy rfl rfl rfl rfl rfl ?_
  refine R_p d128_45 rfl rfl ?_
  refine R_cm [] d128_46 (List.mem_of_getElem? (i := 176) rfl) rfl ⟨by decide, by decide, Nat.le_of_ble_eq_true rfl, rfl, mcd129⟩ rfl rfl (Nat.le_of_ble_eq_true rfl) rfl rfl (w252 (f := f)) ?_
  refine R_nb d128_49 rfl (mb_f (b := ((1 : Int32) = (0 : Int32))) (by decide)) ?_
  exact R_vret d128_52 rfl rfl
set_option maxRecDepth 4000 in
theorem w254 {f : Nat → Int32} : Run (5, f) 146 (0, [(0, .ref 42), (1, .int 40)], [], (HJ26 f)) (.inl (some (.int (-1))), (HJ26 f)) := by
  refine R_ic (v := 0) d146_0 (by decide) ?_
  refine R_p (ls' := [(0, .ref 42), (1, .int 40), (2, .int 0)]) d146_1 rfl rfl ?_
  refine R_p d146_2 rfl rfl ?_
  refine R_p d146_3 rfl rfl ?_
  refine R_get d146_4 (Or.inl (List.mem_of_getElem? (i := 55) rfl)) rfl rfl ?_
  refine R_br 85 d146_7 (mb_t (b := ((0 : Int32) ≤ (0 : Int32))) (by decide)) rfl ?_
  refine R_ic (v := (-1)) d146_85 (by decide) ?_
  exact R_iret d146_86 rfl rfl rfl
set_option maxRecDepth 4000 in
theorem w255 {f : Nat → Int32} : Run (5, f) 146 (0, [(0, .ref 42), (1, .int 41)], [], (HJ26 f)) (.inl (some (.int (-1))), (HJ26 f)) := by
  refine R_ic (v := 0) d146_0 (by decide) ?_
  refine R_p (ls' := [(0, .ref 42), (1, .int 41), (2, .int 0)]) d146_1 rfl rfl ?_
  refine R_p d146_2 rfl rfl ?_
  refine R_p d146_3 rfl rfl ?_
  refine R_get d146_4 (Or.inl (List.mem_of_getElem? (i := 55) rfl)) rfl rfl ?_
  refine R_br 85 d146_7 (mb_t (b := ((0 : Int32) ≤ (0 : Int32))) (by decide)) rfl ?_
  refine R_ic (v := (-1)) d146_85 (by decide) ?_
  exact R_iret d146_86 rfl rfl rfl
set_option maxRecDepth 4000 in
theorem w256 {f : Nat → Int32} (h0 : ¬ ((f 1) < (-536870911))) (h1 : ¬ (536870911 < (f 1))) (h2 : ¬ ((f 2) < (-536870911))) (h3 : ¬ (536870911 < (f 2))) (h4 : ¬ ((f 3) < (-536870911))) (h5 : ¬ (536870911 < (f 3))) (h6 : ¬ ((f 4) < (-536870911))) (h7 : ¬ (536870911 < (f 4))) : Run (5, f) 147 (0, [(0, .ref 42), (1, .int (f 1)), (2, .int (f 2)), (3, .int (f 3)), (4, .int (f 4))], [], (HJ23 f)) (.inl (some (.int (-1))), (HJ26 f)) := by
  refine R_p d147_0 rfl rfl ?_
  refine R_p d147_1 rfl rfl ?_
  refine R_p d147_2 rfl rfl ?_
  refine R_cs [.int (f 1), .int (f 2)] d147_3 (List.mem_of_getElem? (i := 162) rfl) rfl ⟨by decide, by decide, Nat.le_of_ble_eq_true rfl, rfl, mcd115⟩ rfl rfl (Nat.le_of_ble_eq_true rfl) (w247 (f := f) h0 h1 h2 h3) ?_
  refine R_nb d147_6 rfl (mb_f (b := ((1 : Int32) = (0 : Int32))) (by decide)) ?_
  refine R_p d147_9 rfl rfl ?_
  refine R_p d147_10 rfl rfl ?_
  refine R_cs [.int (f 3), .int (f 4)] d147_12 (List.mem_of_getElem? (i := 162) rfl) rfl ⟨by decide, by decide, Nat.le_of_ble_eq_true rfl, rfl, mcd115⟩ rfl rfl (Nat.le_of_ble_eq_true rfl) (w250 (f := f) h4 h5 h6 h7) ?_
  refine R_nb d147_15 rfl (mb_f (b := ((1 : Int32) = (0 : Int32))) (by decide)) ?_
  refine R_ic (v := 0) d147_18 (by decide) ?_
  refine R_br 23 d147_19 rfl rfl ?_
  refine R_cm [.int 0] d147_23 (List.mem_of_getElem? (i := 164) rfl) rfl ⟨by decide, by decide, Nat.le_of_ble_eq_true rfl, rfl, mcd117⟩ rfl rfl (Nat.le_of_ble_eq_true rfl) rfl rfl (w251 (f := f)) ?_
  refine R_br 31 d147_26 (mb_t (b := ((0 : Int32) = (0 : Int32))) (by decide)) rfl ?_
  refine R_p d147_31 rfl rfl ?_
  refine R_cm [] d147_32 (List.mem_of_getElem? (i := 175) rfl) rfl ⟨by decide, by decide, Nat.le_of_ble_eq_true rfl, rfl, mcd128⟩ rfl rfl (Nat.le_of_ble_eq_true rfl) rfl rfl (w253 (f := f)) ?_
  refine R_p d147_35 rfl rfl ?_
  refine R_get d147_36 (Or.inl (List.mem_of_getElem? (i := 50) rfl)) rfl rfl ?_
  refine R_bi (v := 40) d147_39 (by decide) ?_
  refine R_p d147_41 rfl rfl ?_
  refine R_p d147_42 rfl rfl ?_
  refine R_lst d147_43 rfl (vp_ok (by decide)) ?_
  refine R_p d147_44 rfl rfl ?_
  refine R_get d147_45 (Or.inl (List.mem_of_getElem? (i := 51) rfl)) rfl rfl ?_
  refine R_bi (v := 40) d147_48 (by decide) ?_
  refine R_p d147_50 rfl rfl ?_
  refine R_p d147_51 rfl rfl ?_
  refine R_lst d147_52 rfl (vp_ok (by decide)) ?_
  refine R_p d147_53 rfl rfl ?_
  refine R_get d147_54 (Or.inl (List.mem_of_getElem? (i := 50) rfl)) rfl rfl ?_
  refine R_bi (v := 41) d147_57 (by decide) ?_
  refine R_p d147_59 rfl rfl ?_
  refine R_p d147_60 rfl rfl ?_
  refine R_lst d147_61 rfl (vp_ok (by decide)) ?_
  refine R_p d147_62 rfl rfl ?_
  refine R_get d147_63 (Or.inl (List.mem_of_getElem? (i := 51) rfl)) rfl rfl ?_
  refine R_bi (v := 41) d147_66 (by decide) ?_
  refine R_p d147_68 rfl rfl ?_
  refine R_p d147_70 rfl rfl ?_
  refine R_lst d147_71 rfl (vp_ok (by decide)) ?_
  refine R_p d147_72 rfl rfl ?_
  refine R_bi (v := 40) d147_73 (by decide) ?_
  refine R_cm [.int 40] d147_75 (List.mem_of_getElem? (i := 193) rfl) rfl ⟨by decide, by decide, Nat.le_of_ble_eq_true rfl, rfl, mcd146⟩ rfl rfl (Nat.le_of_ble_eq_true rfl) rfl rfl (w254 (f := f)) ?_
  refine R_p (ls' := [(0, .ref 42), (1, .int (f 1)), (2, .int (f 2)), (3, .int (f 3)), (4, .int (f 4)), (5, .int (-1))]) d147_78 rfl rfl ?_
  refine R_p d147_80 rfl rfl ?_
  refine R_bi (v := 41) d147_81 (by decide) ?_
  refine R_cm [.int 41] d147_83 (List.mem_of_getElem? (i := 193) rfl) rfl ⟨by decide, by decide, Nat.le_of_ble_eq_true rfl, rfl, mcd146⟩ rfl rfl (Nat.le_of_ble_eq_true rfl) rfl rfl (w255 (f := f)) ?_
  refine R_p (ls' := [(0, .ref 42), (1, .int (f 1)), (2, .int (f 2)), (3, .int (f 3)), (4, .int (f 4)), (5, .int (-1)), (6, .int (-1))]) d147_86 rfl rfl ?_
  refine R_p d147_88 rfl rfl ?_
  refine R_br 98 d147_90 (mb_t (b := (((-1) : Int32) < (0 : Int32))) (by decide)) rfl ?_
  refine R_ic (v := (-1)) d147_98 (by decide) ?_
  exact R_iret d147_99 rfl rfl rfl
set_option maxRecDepth 4000 in
theorem w257 {f : Nat → Int32} : Run (5, f) 113 (0, [(0, .ref 42)], [], (HJ26 f)) (.inl (some (.int 0)), (HJ26 f)) := by
  refine R_p d113_0 rfl rfl ?_
  refine R_get d113_1 (Or.inl (List.mem_of_getElem? (i := 48) rfl)) rfl rfl ?_
  exact R_iret d113_4 rfl rfl rfl
set_option maxRecDepth 4000 in
theorem law808_258 {f : Nat → Int32} (h0 : ¬ ((f 1) < (-536870911))) (h1 : ¬ (536870911 < (f 1))) (h2 : ¬ ((f 2) < (-536870911))) (h3 : ¬ (536870911 < (f 2))) (h4 : ¬ ((f 3) < (-536870911))) (h5 : ¬ (536870911 < (f 3))) (h6 : ¬ ((f 4) < (-536870911))) (h7 : ¬ (536870911 < (f 4))) : Run (5, f) 171 (808, [(0, .ref 0), (1, .ref 16), (2, .ref 42), (3, .ref 53), (4, .int 0)], [], HL0) (.inl (some (.int 1)), (HJ26 f)) := by
  refine R_p d171_808 rfl rfl ?_
  refine R_p d171_809 rfl rfl ?_
  refine R_p d171_810 rfl rfl ?_
  refine R_ic (v := 1) d171_812 (by decide) ?_
  refine R_p d171_813 rfl rfl ?_
  refine R_nv (v := _) (v' := 1) (by decide) ?_
  refine R_sldk (n := 1) (x := (f 1)) d171_814 (vp_ok (by decide)) (by decide) rfl ?_
  refine R_p d171_815 rfl rfl ?_
  refine R_p d171_816 rfl rfl ?_
  refine R_ic (v := 2) d171_818 (by decide) ?_
  refine R_p d171_819 rfl rfl ?_
  refine R_nv (v := _) (v' := 2) (by decide) ?_
  refine R_sldk (n := 2) (x := (f 2)) d171_820 (vp_ok (by decide)) (by decide) rfl ?_
  refine R_p d171_821 rfl rfl ?_
  refine R_p d171_822 rfl rfl ?_
  refine R_ic (v := 3) d171_824 (by decide) ?_
  refine R_p d171_825 rfl rfl ?_
  refine R_nv (v := _) (v' := 3) (by decide) ?_
  refine R_sldk (n := 3) (x := (f 3)) d171_826 (vp_ok (by decide)) (by decide) rfl ?_
  refine R_p d171_827 rfl rfl ?_
  refine R_p d171_828 rfl rfl ?_
  refine R_ic (v := 4) d171_830 (by decide) ?_
  refine R_p d171_831 rfl rfl ?_
  refine R_nv (v := _) (v' := 4) (by decide) ?_
  refine R_sldk (n := 4) (x := (f 4)) d171_832 (vp_ok (by decide)) (by decide) rfl ?_
  refine R_p d171_833 rfl rfl ?_
  refine R_hs [.ref 16, .int (f 1), .int (f 2), .int (f 3), .int (f 4), .ref 53] d171_834 (List.mem_of_getElem? (i := 127) rfl) ⟨by decide, by decide, Nat.le_of_ble_eq_true rfl, mcd166⟩ rfl rfl (Nat.le_of_ble_eq_true rfl) (w244 (f := f) h0 h1 h2 h3 h4 h5 h6 h7) ?_
  refine R_p (ls' := [(0, .ref 0), (1, .ref 16), (2, .ref 42), (3, .ref 53), (4, .int 0), (5, .int 0)]) d171_837 rfl rfl ?_
  refine R_p d171_839 rfl rfl ?_
  refine R_p d171_840 rfl rfl ?_
  refine R_p d171_841 rfl rfl ?_
  refine R_ic (v := 1) d171_843 (by decide) ?_
  refine R_p d171_844 rfl rfl ?_
  refine R_nv (v := _) (v' := 1) (by decide) ?_
  refine R_sldk (n := 1) (x := (f 1)) d171_845 (vp_ok (by decide)) (by decide) rfl ?_
  refine R_p d171_846 rfl rfl ?_
  refine R_p d171_847 rfl rfl ?_
  refine R_ic (v := 2) d171_849 (by decide) ?_
  refine R_p d171_850 rfl rfl ?_
  refine R_nv (v := _) (v' := 2) (by decide) ?_
  refine R_sldk (n := 2) (x := (f 2)) d171_851 (vp_ok (by decide)) (by decide) rfl ?_
  refine R_p d171_852 rfl rfl ?_
  refine R_p d171_853 rfl rfl ?_
  refine R_ic (v := 3) d171_855 (by decide) ?_
  refine R_p d171_856 rfl rfl ?_
  refine R_nv (v := _) (v' := 3) (by decide) ?_
  refine R_sldk (n := 3) (x := (f 3)) d171_857 (vp_ok (by decide)) (by decide) rfl ?_
  refine R_p d171_858 rfl rfl ?_
  refine R_p d171_859 rfl rfl ?_
  refine R_ic (v := 4) d171_861 (by decide) ?_
  refine R_p d171_862 rfl rfl ?_
  refine R_nv (v := _) (v' := 4) (by decide) ?_
  refine R_sldk (n := 4) (x := (f 4)) d171_863 (vp_ok (by decide)) (by decide) rfl ?_
  refine R_cm [.int (f 1), .int (f 2), .int (f 3), .int (f 4)] d171_864 (List.mem_of_getElem? (i := 194) rfl) rfl ⟨by decide, by decide, Nat.le_of_ble_eq_true rfl, rfl, mcd147⟩ rfl rfl (Nat.le_of_ble_eq_true rfl) rfl rfl (w256 (f := f) h0 h1 h2 h3 h4 h5 h6 h7) ?_
  refine R_p (ls' := [(0, .ref 0), (1, .ref 16), (2, .ref 42), (3, .ref 53), (4, .int 0), (5, .int 0), (6, .int (-1))]) d171_867 rfl rfl ?_
  refine R_p d171_869 rfl rfl ?_
  refine R_cm [] d171_870 (List.mem_of_getElem? (i := 160) rfl) rfl ⟨by decide, by decide, Nat.le_of_ble_eq_true rfl, rfl, mcd113⟩ rfl rfl (Nat.le_of_ble_eq_true rfl) rfl rfl (w257 (f := f)) ?_
  refine R_p d171_873 rfl rfl ?_
  refine R_br 880 d171_875 (mb_t (b := ((0 : Int32) = (0 : Int32))) (by decide)) rfl ?_
  refine R_p d171_880 rfl rfl ?_
  refine R_nb d171_882 rfl (mb_f (b := (¬ (0 : Int32) = (0 : Int32))) (fun q => q (by decide))) ?_
  refine R_p d171_885 rfl rfl ?_
  refine R_ic (v := 0) d171_886 (by decide) ?_
  refine R_lld d171_887 rfl (vp_ok (by decide)) ?_
  refine R_nw (v := _) (v' := (-1)) (by decide) ?_
  refine R_p d171_888 rfl rfl ?_
  refine R_p d171_890 rfl rfl ?_
  refine R_nw (v := _) (v' := (-1)) (by decide) ?_
  refine R_p d171_891 rfl rfl ?_
  refine R_nv (v := _) (v' := 0) (by decide) ?_
  refine R_br 897 d171_892 (mb_t (b := ((0 : Int32) = (0 : Int32))) (by decide)) rfl ?_
  refine R_br 950 d171_897 rfl rfl ?_
  refine R_p (ls' := [(0, .ref 0), (1, .ref 16), (2, .ref 42), (3, .ref 53), (4, .int 5), (5, .int 0), (6, .int (-1))]) d171_950 rfl rfl ?_
  refine R_br 23 d171_953 rfl rfl ?_
  refine R_p d171_23 rfl rfl ?_
  refine R_p d171_25 rfl rfl ?_
  refine R_sln d171_26 ?_
  refine R_nv (v := _) (v' := 5) (show Int32.ofNat 5 = 5 from by decide) ?_
  refine R_ic (v := 5) d171_27 (by decide) ?_
  refine R_p d171_28 rfl rfl ?_
  refine R_nv (v := _) (v' := 0) (by decide) ?_
  refine R_br 956 d171_29 (mb_t (b := ((0 : Int32) < (5 : Int32))) (by decide)) rfl ?_
  refine R_ic (v := 1) d171_956 (by decide) ?_
  exact R_iret d171_957 rfl rfl rfl
set_option maxRecDepth 4000 in
theorem w259 {f : Nat → Int32} (h0 : ((f 1) < 0)) : Run (5, f) 10 (0, [(0, .ref 36), (1, .int (f 1))], [], HL0) (.inl (some (.int (-1))), HL0) := by
  refine R_p d10_0 rfl rfl ?_
  refine R_br 12 d10_1 (mb_t (b := ((f 1) < 0)) h0) rfl ?_
  refine R_ic (v := (-1)) d10_12 (by decide) ?_
  refine R_br 22 d10_13 rfl rfl ?_
  exact R_iret d10_22 rfl rfl rfl
set_option maxRecDepth 4000 in
theorem w260 {f : Nat → Int32} (h0 : ((f 1) < 0)) : Run (5, f) 79 (0, [(0, .ref 32), (1, .int (f 1))], [], HL0) (.inl (some (.int (-1))), HL0) := by
  refine R_p d79_0 rfl rfl ?_
  refine R_get d79_1 (Or.inl (List.mem_of_getElem? (i := 38) rfl)) rfl rfl ?_
  refine R_p d79_4 rfl rfl ?_
  refine R_cm [.int (f 1)] d79_5 (List.mem_of_getElem? (i := 25) rfl) rfl ⟨by decide, by decide, Nat.le_of_ble_eq_true rfl, rfl, mcd10⟩ rfl rfl (Nat.le_of_ble_eq_true rfl) rfl rfl (w259 (f := f) h0) ?_
  exact R_iret d79_8 rfl rfl rfl
set_option maxRecDepth 4000 in
theorem w261 {f : Nat → Int32} (h0 : ((f 1) < 0)) : Run (5, f) 94 (0, [(0, .ref 16), (1, .int (f 1))], [], HL0) (.inl (some (.int (-1))), HL0) := by
  refine R_p d94_0 rfl rfl ?_
  refine R_get d94_1 (Or.inl (List.mem_of_getElem? (i := 47) rfl)) rfl rfl ?_
  refine R_p d94_4 rfl rfl ?_
  refine R_cm [.int (f 1)] d94_5 (List.mem_of_getElem? (i := 24) rfl) rfl ⟨by decide, by decide, Nat.le_of_ble_eq_true rfl, rfl, mcd79⟩ rfl rfl (Nat.le_of_ble_eq_true rfl) rfl rfl (w260 (f := f) h0) ?_
  exact R_iret d94_8 rfl rfl rfl
set_option maxRecDepth 4000 in
theorem w262 {f : Nat → Int32} (h0 : ((f 1) < 0)) : Run (5, f) 116 (0, [(0, .int (f 1)), (1, .int 0), (2, .int (-1))], [], HL0) (.inl (some (.int 0)), HL0) := by
  refine R_p d116_0 rfl rfl ?_
  refine R_p d116_1 rfl rfl ?_
  refine R_br 14 d116_2 (mb_t (b := ((f 1) < 0)) h0) rfl ?_
  refine R_ic (v := 0) d116_14 (by decide) ?_
  exact R_iret d116_15 rfl rfl rfl
set_option maxRecDepth 4000 in
theorem w263 {f : Nat → Int32} (h0 : ((f 1) < 0)) : Run (5, f) 155 (0, [(0, .ref 42), (1, .int (f 1))], [], HL0) (.inl (some (.int (-1))), HL0) := by
  refine R_p d155_0 rfl rfl ?_
  refine R_ic (v := 0) d155_1 (by decide) ?_
  refine R_put d155_2 (List.mem_of_getElem? (i := 48) rfl) rfl (by decide) rfl rfl (Or.inl rfl) ?_
  refine R_p d155_5 rfl rfl ?_
  refine R_ic (v := 0) d155_6 (by decide) ?_
  refine R_p d155_7 rfl rfl ?_
  refine R_get d155_8 (Or.inl (List.mem_of_getElem? (i := 59) rfl)) rfl rfl ?_
  refine R_ic (v := 1) d155_11 (by decide) ?_
  refine R_p d155_12 rfl rfl ?_
  refine R_nv (v := _) (v' := (-1)) (by decide) ?_
  refine R_cs [.int (f 1), .int 0, .int (-1)] d155_13 (List.mem_of_getElem? (i := 163) rfl) rfl ⟨by decide, by decide, Nat.le_of_ble_eq_true rfl, rfl, mcd116⟩ rfl rfl (Nat.le_of_ble_eq_true rfl) (w262 (f := f) h0) ?_
  refine R_br 28 d155_16 (mb_t (b := ((0 : Int32) = (0 : Int32))) (by decide)) rfl ?_
  refine R_ic (v := (-1)) d155_28 (by decide) ?_
  exact R_iret d155_29 rfl rfl rfl
set_option maxRecDepth 4000 in
theorem law900_264 {f : Nat → Int32} (h0 : ((f 1) < 0)) : Run (5, f) 171 (900, [(0, .ref 0), (1, .ref 16), (2, .ref 42), (3, .ref 53), (4, .int 0)], [], HL0) (.inl (some (.int 1)), HL0) := by
  refine R_p d171_900 rfl rfl ?_
  refine R_p d171_901 rfl rfl ?_
  refine R_p d171_902 rfl rfl ?_
  refine R_ic (v := 1) d171_904 (by decide) ?_
  refine R_p d171_905 rfl rfl ?_
  refine R_nv (v := _) (v' := 1) (by decide) ?_
  refine R_sldk (n := 1) (x := (f 1)) d171_906 (vp_ok (by decide)) (by decide) rfl ?_
  refine R_cm [.int (f 1)] d171_907 (List.mem_of_getElem? (i := 23) rfl) rfl ⟨by decide, by decide, Nat.le_of_ble_eq_true rfl, rfl, mcd94⟩ rfl rfl (Nat.le_of_ble_eq_true rfl) rfl rfl (w261 (f := f) h0) ?_
  refine R_p d171_910 rfl rfl ?_
  refine R_p d171_911 rfl rfl ?_
  refine R_p d171_912 rfl rfl ?_
  refine R_ic (v := 1) d171_914 (by decide) ?_
  refine R_p d171_915 rfl rfl ?_
  refine R_nv (v := _) (v' := 1) (by decide) ?_
  refine R_sldk (n := 1) (x := (f 1)) d171_916 (vp_ok (by decide)) (by decide) rfl ?_
  refine R_cm [.int (f 1)] d171_917 (List.mem_of_getElem? (i := 202) rfl) rfl ⟨by decide, by decide, Nat.le_of_ble_eq_true rfl, rfl, mcd155⟩ rfl rfl (Nat.le_of_ble_eq_true rfl) rfl rfl (w263 (f := f) h0) ?_
  refine R_br 950 d171_920 (mb_t (b := (((-1) : Int32) = ((-1) : Int32))) (by decide)) rfl ?_
  refine R_p (ls' := [(0, .ref 0), (1, .ref 16), (2, .ref 42), (3, .ref 53), (4, .int 5)]) d171_950 rfl rfl ?_
  refine R_br 23 d171_953 rfl rfl ?_
  refine R_p d171_23 rfl rfl ?_
  refine R_p d171_25 rfl rfl ?_
  refine R_sln d171_26 ?_
  refine R_nv (v := _) (v' := 5) (show Int32.ofNat 5 = 5 from by decide) ?_
  refine R_ic (v := 5) d171_27 (by decide) ?_
  refine R_p d171_28 rfl rfl ?_
  refine R_nv (v := _) (v' := 0) (by decide) ?_
  refine R_br 956 d171_29 (mb_t (b := ((0 : Int32) < (5 : Int32))) (by decide)) rfl ?_
  refine R_ic (v := 1) d171_956 (by decide) ?_
  exact R_iret d171_957 rfl rfl rfl
set_option maxRecDepth 4000 in
theorem w265 {f : Nat → Int32} (h0 : ¬ ((f 1) < 0)) : Run (5, f) 10 (0, [(0, .ref 36), (1, .int (f 1))], [], HL0) (.inl (some (.int (-1))), HL0) := by
  refine R_p d10_0 rfl rfl ?_
  refine R_nb d10_1 rfl (mb_f (b := ((f 1) < 0)) h0) ?_
  refine R_p d10_4 rfl rfl ?_
  refine R_p d10_5 rfl rfl ?_
  refine R_get d10_6 (Or.inl (List.mem_of_getElem? (i := 35) rfl)) rfl rfl ?_
  refine R_nb d10_9 rfl (mb_f (b := ((f 1) < 0)) h0) ?_
  refine R_ic (v := (-1)) d10_12 (by decide) ?_
  refine R_br 22 d10_13 rfl rfl ?_
  exact R_iret d10_22 rfl rfl rfl
set_option maxRecDepth 4000 in
theorem w266 {f : Nat → Int32} (h0 : ¬ ((f 1) < 0)) : Run (5, f) 79 (0, [(0, .ref 32), (1, .int (f 1))], [], HL0) (.inl (some (.int (-1))), HL0) := by
  refine R_p d79_0 rfl rfl ?_
  refine R_get d79_1 (Or.inl (List.mem_of_getElem? (i := 38) rfl)) rfl rfl ?_
  refine R_p d79_4 rfl rfl ?_
  refine R_cm [.int (f 1)] d79_5 (List.mem_of_getElem? (i := 25) rfl) rfl ⟨by decide, by decide, Nat.le_of_ble_eq_true rfl, rfl, mcd10⟩ rfl rfl (Nat.le_of_ble_eq_true rfl) rfl rfl (w265 (f := f) h0) ?_
  exact R_iret d79_8 rfl rfl rfl
set_option maxRecDepth 4000 in
theorem w267 {f : Nat → Int32} (h0 : ¬ ((f 1) < 0)) : Run (5, f) 94 (0, [(0, .ref 16), (1, .int (f 1))], [], HL0) (.inl (some (.int (-1))), HL0) := by
  refine R_p d94_0 rfl rfl ?_
  refine R_get d94_1 (Or.inl (List.mem_of_getElem? (i := 47) rfl)) rfl rfl ?_
  refine R_p d94_4 rfl rfl ?_
  refine R_cm [.int (f 1)] d94_5 (List.mem_of_getElem? (i := 24) rfl) rfl ⟨by decide, by decide, Nat.le_of_ble_eq_true rfl, rfl, mcd79⟩ rfl rfl (Nat.le_of_ble_eq_true rfl) rfl rfl (w266 (f := f) h0) ?_
  exact R_iret d94_8 rfl rfl rfl
set_option maxRecDepth 4000 in
theorem w268 {f : Nat → Int32} (h0 : ¬ ((f 1) < 0)) : Run (5, f) 116 (0, [(0, .int (f 1)), (1, .int 0), (2, .int (-1))], [], HL0) (.inl (some (.int 0)), HL0) := by
  refine R_p d116_0 rfl rfl ?_
  refine R_p d116_1 rfl rfl ?_
  refine R_nb d116_2 rfl (mb_f (b := ((f 1) < 0)) h0) ?_
  refine R_p d116_5 rfl rfl ?_
  refine R_p d116_6 rfl rfl ?_
  refine R_br 14 d116_7 (mb_t (b := ((-1) < (f 1))) (m1_lt h0)) rfl ?_
  refine R_ic (v := 0) d116_14 (by decide) ?_
  exact R_iret d116_15 rfl rfl rfl
set_option maxRecDepth 4000 in
theorem w269 {f : Nat → Int32} (h0 : ¬ ((f 1) < 0)) : Run (5, f) 155 (0, [(0, .ref 42), (1, .int (f 1))], [], HL0) (.inl (some (.int (-1))), HL0) := by
  refine R_p d155_0 rfl rfl ?_
  refine R_ic (v := 0) d155_1 (by decide) ?_
  refine R_put d155_2 (List.mem_of_getElem? (i := 48) rfl) rfl (by decide) rfl rfl (Or.inl rfl) ?_
  refine R_p d155_5 rfl rfl ?_
  refine R_ic (v := 0) d155_6 (by decide) ?_
  refine R_p d155_7 rfl rfl ?_
  refine R_get d155_8 (Or.inl (List.mem_of_getElem? (i := 59) rfl)) rfl rfl ?_
  refine R_ic (v := 1) d155_11 (by decide) ?_
  refine R_p d155_12 rfl rfl ?_
  refine R_nv (v := _) (v' := (-1)) (by decide) ?_
  refine R_cs [.int (f 1), .int 0, .int (-1)] d155_13 (List.mem_of_getElem? (i := 163) rfl) rfl ⟨by decide, by decide, Nat.le_of_ble_eq_true rfl, rfl, mcd116⟩ rfl rfl (Nat.le_of_ble_eq_true rfl) (w268 (f := f) h0) ?_
  refine R_br 28 d155_16 (mb_t (b := ((0 : Int32) = (0 : Int32))) (by decide)) rfl ?_
  refine R_ic (v := (-1)) d155_28 (by decide) ?_
  exact R_iret d155_29 rfl rfl rfl
set_option maxRecDepth 4000 in
theorem law900_270 {f : Nat → Int32} (h0 : ¬ ((f 1) < 0)) : Run (5, f) 171 (900, [(0, .ref 0), (1, .ref 16), (2, .ref 42), (3, .ref 53), (4, .int 0)], [], HL0) (.inl (some (.int 1)), HL0) := by
  refine R_p d171_900 rfl rfl ?_
  refine R_p d171_901 rfl rfl ?_
  refine R_p d171_902 rfl rfl ?_
  refine R_ic (v := 1) d171_904 (by decide) ?_
  refine R_p d171_905 rfl rfl ?_
  refine R_nv (v := _) (v' := 1) (by decide) ?_
  refine R_sldk (n := 1) (x := (f 1)) d171_906 (vp_ok (by decide)) (by decide) rfl ?_
  refine R_cm [.int (f 1)] d171_907 (List.mem_of_getElem? (i := 23) rfl) rfl ⟨by decide, by decide, Nat.le_of_ble_eq_true rfl, rfl, mcd94⟩ rfl rfl (Nat.le_of_ble_eq_true rfl) rfl rfl (w267 (f := f) h0) ?_
  refine R_p d171_910 rfl rfl ?_
  refine R_p d171_911 rfl rfl ?_
  refine R_p d171_912 rfl rfl ?_
  refine R_ic (v := 1) d171_914 (by decide) ?_
  refine R_p d171_915 rfl rfl ?_
  refine R_nv (v := _) (v' := 1) (by decide) ?_
  refine R_sldk (n := 1) (x := (f 1)) d171_916 (vp_ok (by decide)) (by decide) rfl ?_
  refine R_cm [.int (f 1)] d171_917 (List.mem_of_getElem? (i := 202) rfl) rfl ⟨by decide, by decide, Nat.le_of_ble_eq_true rfl, rfl, mcd155⟩ rfl rfl (Nat.le_of_ble_eq_true rfl) rfl rfl (w269 (f := f) h0) ?_
  refine R_br 950 d171_920 (mb_t (b := (((-1) : Int32) = ((-1) : Int32))) (by decide)) rfl ?_
  refine R_p (ls' := [(0, .ref 0), (1, .ref 16), (2, .ref 42), (3, .ref 53), (4, .int 5)]) d171_950 rfl rfl ?_
  refine R_br 23 d171_953 rfl rfl ?_
  refine R_p d171_23 rfl rfl ?_
  refine R_p d171_25 rfl rfl ?_
  refine R_sln d171_26 ?_
  refine R_nv (v := _) (v' := 5) (show Int32.ofNat 5 = 5 from by decide) ?_
  refine R_ic (v := 5) d171_27 (by decide) ?_
  refine R_p d171_28 rfl rfl ?_
  refine R_nv (v := _) (v' := 0) (by decide) ?_
  refine R_br 956 d171_29 (mb_t (b := ((0 : Int32) < (5 : Int32))) (by decide)) rfl ?_
  refine R_ic (v := 1) d171_956 (by decide) ?_
  exact R_iret d171_957 rfl rfl rfl
set_option maxRecDepth 4000 in
theorem w271 {f : Nat → Int32} (h0 : ((f 1) < 0)) : Run (5, f) 80 (0, [(0, .ref 32), (1, .int (f 1))], [], HL0) (.inl (some (.int (-1))), HL0) := by
  refine R_p d80_0 rfl rfl ?_
  refine R_br 12 d80_1 (mb_t (b := ((f 1) < 0)) h0) rfl ?_
  refine R_ic (v := (-1)) d80_12 (by decide) ?_
  refine R_br 22 d80_13 rfl rfl ?_
  exact R_iret d80_22 rfl rfl rfl
set_option maxRecDepth 4000 in
theorem w272 {f : Nat → Int32} (h0 : ((f 1) < 0)) : Run (5, f) 95 (0, [(0, .ref 16), (1, .int (f 1))], [], HL0) (.inl (some (.int (-1))), HL0) := by
  refine R_p d95_0 rfl rfl ?_
  refine R_get d95_1 (Or.inl (List.mem_of_getElem? (i := 47) rfl)) rfl rfl ?_
  refine R_p d95_4 rfl rfl ?_
  refine R_cm [.int (f 1)] d95_5 (List.mem_of_getElem? (i := 27) rfl) rfl ⟨by decide, by decide, Nat.le_of_ble_eq_true rfl, rfl, mcd80⟩ rfl rfl (Nat.le_of_ble_eq_true rfl) rfl rfl (w271 (f := f) h0) ?_
  exact R_iret d95_8 rfl rfl rfl
set_option maxRecDepth 4000 in
theorem w273 {f : Nat → Int32} (h0 : ((f 1) < 0)) : Run (5, f) 156 (0, [(0, .ref 42), (1, .int (f 1))], [], HL0) (.inl (some (.int (-1))), HL0) := by
  refine R_p d156_0 rfl rfl ?_
  refine R_ic (v := 0) d156_1 (by decide) ?_
  refine R_put d156_2 (List.mem_of_getElem? (i := 48) rfl) rfl (by decide) rfl rfl (Or.inl rfl) ?_
  refine R_p d156_5 rfl rfl ?_
  refine R_ic (v := 0) d156_6 (by decide) ?_
  refine R_p d156_7 rfl rfl ?_
  refine R_get d156_8 (Or.inl (List.mem_of_getElem? (i := 57) rfl)) rfl rfl ?_
  refine R_ic (v := 1) d156_11 (by decide) ?_
  refine R_p d156_12 rfl rfl ?_
  refine R_nv (v := _) (v' := (-1)) (by decide) ?_
  refine R_cs [.int (f 1), .int 0, .int (-1)] d156_13 (List.mem_of_getElem? (i := 163) rfl) rfl ⟨by decide, by decide, Nat.le_of_ble_eq_true rfl, rfl, mcd116⟩ rfl rfl (Nat.le_of_ble_eq_true rfl) (w262 (f := f) h0) ?_
  refine R_br 28 d156_16 (mb_t (b := ((0 : Int32) = (0 : Int32))) (by decide)) rfl ?_
  refine R_ic (v := (-1)) d156_28 (by decide) ?_
  exact R_iret d156_29 rfl rfl rfl
set_option maxRecDepth 4000 in
theorem law925_274 {f : Nat → Int32} (h0 : ((f 1) < 0)) : Run (5, f) 171 (925, [(0, .ref 0), (1, .ref 16), (2, .ref 42), (3, .ref 53), (4, .int 0)], [], HL0) (.inl (some (.int 1)), HL0) := by
  refine R_p d171_925 rfl rfl ?_
  refine R_p d171_926 rfl rfl ?_
  refine R_p d171_927 rfl rfl ?_
  refine R_ic (v := 1) d171_929 (by decide) ?_
  refine R_p d171_930 rfl rfl ?_
  refine R_nv (v := _) (v' := 1) (by decide) ?_
  refine R_sldk (n := 1) (x := (f 1)) d171_931 (vp_ok (by decide)) (by decide) rfl ?_
  refine R_cm [.int (f 1)] d171_932 (List.mem_of_getElem? (i := 26) rfl) rfl ⟨by decide, by decide, Nat.le_of_ble_eq_true rfl, rfl, mcd95⟩ rfl rfl (Nat.le_of_ble_eq_true rfl) rfl rfl (w272 (f := f) h0) ?_
  refine R_p d171_935 rfl rfl ?_
  refine R_p d171_936 rfl rfl ?_
  refine R_p d171_937 rfl rfl ?_
  refine R_ic (v := 1) d171_939 (by decide) ?_
  refine R_p d171_940 rfl rfl ?_
  refine R_nv (v := _) (v' := 1) (by decide) ?_
  refine R_sldk (n := 1) (x := (f 1)) d171_941 (vp_ok (by decide)) (by decide) rfl ?_
  refine R_cm [.int (f 1)] d171_942 (List.mem_of_getElem? (i := 203) rfl) rfl ⟨by decide, by decide, Nat.le_of_ble_eq_true rfl, rfl, mcd156⟩ rfl rfl (Nat.le_of_ble_eq_true rfl) rfl rfl (w273 (f := f) h0) ?_
  refine R_br 950 d171_945 (mb_t (b := (((-1) : Int32) = ((-1) : Int32))) (by decide)) rfl ?_
  refine R_p (ls' := [(0, .ref 0), (1, .ref 16), (2, .ref 42), (3, .ref 53), (4, .int 5)]) d171_950 rfl rfl ?_
  refine R_br 23 d171_953 rfl rfl ?_
  refine R_p d171_23 rfl rfl ?_
  refine R_p d171_25 rfl rfl ?_
  refine R_sln d171_26 ?_
  refine R_nv (v := _) (v' := 5) (show Int32.ofNat 5 = 5 from by decide) ?_
  refine R_ic (v := 5) d171_27 (by decide) ?_
  refine R_p d171_28 rfl rfl ?_
  refine R_nv (v := _) (v' := 0) (by decide) ?_
  refine R_br 956 d171_29 (mb_t (b := ((0 : Int32) < (5 : Int32))) (by decide)) rfl ?_
  refine R_ic (v := 1) d171_956 (by decide) ?_
  exact R_iret d171_957 rfl rfl rfl
set_option maxRecDepth 4000 in
theorem w275 {f : Nat → Int32} (h0 : ¬ ((f 1) < 0)) : Run (5, f) 80 (0, [(0, .ref 32), (1, .int (f 1))], [], HL0) (.inl (some (.int (-1))), HL0) := by
  refine R_p d80_0 rfl rfl ?_
  refine R_nb d80_1 rfl (mb_f (b := ((f 1) < 0)) h0) ?_
  refine R_p d80_4 rfl rfl ?_
  refine R_p d80_5 rfl rfl ?_
  refine R_get d80_6 (Or.inl (List.mem_of_getElem? (i := 40) rfl)) rfl rfl ?_
  refine R_nb d80_9 rfl (mb_f (b := ((f 1) < 0)) h0) ?_
  refine R_ic (v := (-1)) d80_12 (by decide) ?_
  refine R_br 22 d80_13 rfl rfl ?_
  exact R_iret d80_22 rfl rfl rfl
set_option maxRecDepth 4000 in
theorem w276 {f : Nat → Int32} (h0 : ¬ ((f 1) < 0)) : Run (5, f) 95 (0, [(0, .ref 16), (1, .int (f 1))], [], HL0) (.inl (some (.int (-1))), HL0) := by
  refine R_p d95_0 rfl rfl ?_
  refine R_get d95_1 (Or.inl (List.mem_of_getElem? (i := 47) rfl)) rfl rfl ?_
  refine R_p d95_4 rfl rfl ?_
  refine R_cm [.int (f 1)] d95_5 (List.mem_of_getElem? (i := 27) rfl) rfl ⟨by decide, by decide, Nat.le_of_ble_eq_true rfl, rfl, mcd80⟩ rfl rfl (Nat.le_of_ble_eq_true rfl) rfl rfl (w275 (f := f) h0) ?_
  exact R_iret d95_8 rfl rfl rfl
set_option maxRecDepth 4000 in
theorem w277 {f : Nat → Int32} (h0 : ¬ ((f 1) < 0)) : Run (5, f) 156 (0, [(0, .ref 42), (1, .int (f 1))], [], HL0) (.inl (some (.int (-1))), HL0) := by
  refine R_p d156_0 rfl rfl ?_
  refine R_ic (v := 0) d156_1 (by decide) ?_
  refine R_put d156_2 (List.mem_of_getElem? (i := 48) rfl) rfl (by decide) rfl rfl (Or.inl rfl) ?_
  refine R_p d156_5 rfl rfl ?_
  refine R_ic (v := 0) d156_6 (by decide) ?_
  refine R_p d156_7 rfl rfl ?_
  refine R_get d156_8 (Or.inl (List.mem_of_getElem? (i := 57) rfl)) rfl rfl ?_
  refine R_ic (v := 1) d156_11 (by decide) ?_
  refine R_p d156_12 rfl rfl ?_
  refine R_nv (v := _) (v' := (-1)) (by decide) ?_
  refine R_cs [.int (f 1), .int 0, .int (-1)] d156_13 (List.mem_of_getElem? (i := 163) rfl) rfl ⟨by decide, by decide, Nat.le_of_ble_eq_true rfl, rfl, mcd116⟩ rfl rfl (Nat.le_of_ble_eq_true rfl) (w268 (f := f) h0) ?_
  refine R_br 28 d156_16 (mb_t (b := ((0 : Int32) = (0 : Int32))) (by decide)) rfl ?_
  refine R_ic (v := (-1)) d156_28 (by decide) ?_
  exact R_iret d156_29 rfl rfl rfl
set_option maxRecDepth 4000 in
theorem law925_278 {f : Nat → Int32} (h0 : ¬ ((f 1) < 0)) : Run (5, f) 171 (925, [(0, .ref 0), (1, .ref 16), (2, .ref 42), (3, .ref 53), (4, .int 0)], [], HL0) (.inl (some (.int 1)), HL0) := by
  refine R_p d171_925 rfl rfl ?_
  refine R_p d171_926 rfl rfl ?_
  refine R_p d171_927 rfl rfl ?_
  refine R_ic (v := 1) d171_929 (by decide) ?_
  refine R_p d171_930 rfl rfl ?_
  refine R_nv (v := _) (v' := 1) (by decide) ?_
  refine R_sldk (n := 1) (x := (f 1)) d171_931 (vp_ok (by decide)) (by decide) rfl ?_
  refine R_cm [.int (f 1)] d171_932 (List.mem_of_getElem? (i := 26) rfl) rfl ⟨by decide, by decide, Nat.le_of_ble_eq_true rfl, rfl, mcd95⟩ rfl rfl (Nat.le_of_ble_eq_true rfl) rfl rfl (w276 (f := f) h0) ?_
  refine R_p d171_935 rfl rfl ?_
  refine R_p d171_936 rfl rfl ?_
  refine R_p d171_937 rfl rfl ?_
  refine R_ic (v := 1) d171_939 (by decide) ?_
  refine R_p d171_940 rfl rfl ?_
  refine R_nv (v := _) (v' := 1) (by decide) ?_
  refine R_sldk (n := 1) (x := (f 1)) d171_941 (vp_ok (by decide)) (by decide) rfl ?_
  refine R_cm [.int (f 1)] d171_942 (List.mem_of_getElem? (i := 203) rfl) rfl ⟨by decide, by decide, Nat.le_of_ble_eq_true rfl, rfl, mcd156⟩ rfl rfl (Nat.le_of_ble_eq_true rfl) rfl rfl (w277 (f := f) h0) ?_
  refine R_br 950 d171_945 (mb_t (b := (((-1) : Int32) = ((-1) : Int32))) (by decide)) rfl ?_
  refine R_p (ls' := [(0, .ref 0), (1, .ref 16), (2, .ref 42), (3, .ref 53), (4, .int 5)]) d171_950 rfl rfl ?_
  refine R_br 23 d171_953 rfl rfl ?_
  refine R_p d171_23 rfl rfl ?_
  refine R_p d171_25 rfl rfl ?_
  refine R_sln d171_26 ?_
  refine R_nv (v := _) (v' := 5) (show Int32.ofNat 5 = 5 from by decide) ?_
  refine R_ic (v := 5) d171_27 (by decide) ?_
  refine R_p d171_28 rfl rfl ?_
  refine R_nv (v := _) (v' := 0) (by decide) ?_
  refine R_br 956 d171_29 (mb_t (b := ((0 : Int32) < (5 : Int32))) (by decide)) rfl ?_
  refine R_ic (v := 1) d171_956 (by decide) ?_
  exact R_iret d171_957 rfl rfl rfl
