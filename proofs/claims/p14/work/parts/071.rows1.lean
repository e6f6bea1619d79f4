theorem zm_23 : zMt xM 23 = some (2, (some .long), 1, 0, 0) := rfl
theorem zr_23_0 : zRow xM 23 0 = some (7, .aload_n 0, 1, 0, 0) := rfl
theorem zr_23_1 : zRp 23 1 2 (0, 0) := ⟨_, _, _, _, rfl, by decide, Option.some_ne_none _, rfl⟩
theorem zr_23_2 : zRow xM 23 2 = some (47, .putfield 65, 5, 1, 9) := rfl
theorem zr_23_5 : zRp 23 5 6 (0, 0) := ⟨_, _, _, _, rfl, by decide, Option.some_ne_none _, rfl⟩
theorem zr_23_6 : zRow xM 23 6 = some (9, .istore_n 1, 7, 1, 0) := rfl
theorem zr_23_7 : zRow xM 23 7 = some (3, .iload_n 1, 8, 1, 0) := rfl
theorem zr_23_8 : zRow xM 23 8 = some (7, .aload_n 0, 9, 0, 0) := rfl
theorem zr_23_9 : zRow xM 23 9 = some (46, .getfield 51, 12, 1, 8) := rfl
theorem zr_23_12 : zRow xM 23 12 = some (41, .if_icmp .ge 43, 15, 55, 3) := rfl
theorem zr_23_15 : zRow xM 23 15 = some (7, .aload_n 0, 16, 0, 0) := rfl
theorem zr_23_16 : zRow xM 23 16 = some (46, .getfield 23, 19, 1, 3) := rfl
theorem zr_23_19 : zRow xM 23 19 = some (3, .iload_n 1, 20, 1, 0) := rfl
theorem zr_23_20 : zRow xM 23 20 = some (48, .iaload, 21, 0, 0) := rfl
theorem zr_23_21 : zRow xM 23 21 = some (40, .ifCond .lt 17, 24, 38, 0) := rfl
theorem zr_23_24 : zRow xM 23 24 = some (7, .aload_n 0, 25, 0, 0) := rfl
theorem zr_23_25 : zRow xM 23 25 = some (7, .aload_n 0, 26, 0, 0) := rfl
theorem zr_23_26 : zRow xM 23 26 = some (46, .getfield 23, 29, 1, 3) := rfl
theorem zr_23_29 : zRow xM 23 29 = some (3, .iload_n 1, 30, 1, 0) := rfl
theorem zr_23_30 : zRow xM 23 30 = some (48, .iaload, 31, 0, 0) := rfl
theorem zr_23_31 : zRow xM 23 31 = some (36, .i2l, 32, 0, 0) := rfl
theorem zr_23_32 : zRow xM 23 32 = some (105, .invokevirtual 68, 35, 19, 1) := rfl
theorem zr_23_35 : zRow xM 23 35 = some (42, .goto 14, 36, 49, 0) := rfl
theorem zr_23_38 : zRow xM 23 38 = some (7, .aload_n 0, 39, 0, 0) := rfl
theorem zr_23_39 : zRow xM 23 39 = some (7, .aload_n 0, 40, 0, 0) := rfl
theorem zr_23_40 : zRow xM 23 40 = some (46, .getfield 23, 43, 1, 3) := rfl
theorem zr_23_43 : zRow xM 23 43 = some (3, .iload_n 1, 44, 1, 0) := rfl
theorem zr_23_44 : zRow xM 23 44 = some (48, .iaload, 45, 0, 0) := rfl
theorem zr_23_45 : zRow xM 23 45 = some (38, .ineg, 46, 0, 0) := rfl
theorem zr_23_46 : zRow xM 23 46 = some (105, .invokevirtual 72, 49, 22, 1) := rfl
theorem zr_23_49 : zRow xM 23 49 = some (15, .iinc 1 1, 52, 1, 1) := rfl
theorem zr_23_52 : zRow xM 23 52 = some (42, .goto (-45), 53, 7, 0) := rfl
theorem zr_23_55 : zRow xM 23 55 = some (7, .aload_n 0, 56, 0, 0) := rfl
theorem zr_23_56 : zRow xM 23 56 = some (105, .invokevirtual 75, 59, 20, 1) := rfl
theorem zr_23_59 : zRow xM 23 59 = some (109, .lreturn, 60, 0, 0) := rfl
theorem zm_24 : zMt xM 24 = some (6, (some .int), 5, 0, 0) := rfl
theorem zr_24_0 : zRow xM 24 0 = some (7, .aload_n 0, 1, 0, 0) := rfl
theorem zr_24_1 : zRow xM 24 1 = some (105, .invokevirtual 107, 4, 17, 3) := rfl
theorem zr_24_4 : zRow xM 24 4 = some (40, .ifCond .eq 5, 7, 9, 1) := rfl
theorem zr_24_7 : zRp 24 7 8 (0, 0) := ⟨_, _, _, _, rfl, by decide, Option.some_ne_none _, rfl⟩
theorem zr_24_8 : zRow xM 24 8 = some (108, .ireturn, 9, 0, 0) := rfl
theorem zr_24_9 : zRow xM 24 9 = some (7, .aload_n 0, 10, 0, 0) := rfl
theorem zr_24_10 : zRow xM 24 10 = some (46, .getfield 18, 13, 3, 2) := rfl
theorem zr_24_13 : zRow xM 24 13 = some (46, .getfield 111, 16, 1, 0) := rfl
theorem zr_24_16 : zRow xM 24 16 = some (12, .astore 5, 18, 5, 0) := rfl
theorem zr_24_18 : zRow xM 24 18 = some (8, .aload 5, 20, 5, 0) := rfl
theorem zr_24_20 : zRp 24 20 21 (0, 0) := ⟨_, _, _, _, rfl, by decide, Option.some_ne_none _, rfl⟩
theorem zr_24_21 : zRow xM 24 21 = some (7, .aload_n 0, 22, 0, 0) := rfl
theorem zr_24_22 : zRow xM 24 22 = some (46, .getfield 9, 25, 3, 0) := rfl
theorem zr_24_25 : zRow xM 24 25 = some (3, .iload_n 2, 26, 2, 0) := rfl
theorem zr_24_26 : zRow xM 24 26 = some (48, .iaload, 27, 0, 0) := rfl
theorem zr_24_27 : zRow xM 24 27 = some (36, .i2l, 28, 0, 0) := rfl
theorem zr_24_28 : zRow xM 24 28 = some (51, .lastore, 29, 0, 0) := rfl
theorem zr_24_29 : zRow xM 24 29 = some (8, .aload 5, 31, 5, 0) := rfl
theorem zr_24_31 : zRp 24 31 32 (0, 1) := ⟨_, _, _, _, rfl, by decide, Option.some_ne_none _, rfl⟩
theorem zr_24_32 : zRow xM 24 32 = some (7, .aload_n 0, 33, 0, 0) := rfl
theorem zr_24_33 : zRow xM 24 33 = some (46, .getfield 9, 36, 3, 0) := rfl
theorem zr_24_36 : zRow xM 24 36 = some (3, .iload_n 3, 37, 3, 0) := rfl
theorem zr_24_37 : zRow xM 24 37 = some (48, .iaload, 38, 0, 0) := rfl
theorem zr_24_38 : zRow xM 24 38 = some (36, .i2l, 39, 0, 0) := rfl
theorem zr_24_39 : zRow xM 24 39 = some (51, .lastore, 40, 0, 0) := rfl
theorem zr_24_40 : zRow xM 24 40 = some (8, .aload 5, 42, 5, 0) := rfl
theorem zr_24_42 : zRp 24 42 43 (0, 2) := ⟨_, _, _, _, rfl, by decide, Option.some_ne_none _, rfl⟩
theorem zr_24_43 : zRow xM 24 43 = some (4, .iload 4, 45, 4, 0) := rfl
theorem zr_24_45 : zRow xM 24 45 = some (36, .i2l, 46, 0, 0) := rfl
theorem zr_24_46 : zRow xM 24 46 = some (51, .lastore, 47, 0, 0) := rfl
theorem zr_24_47 : zRow xM 24 47 = some (8, .aload 5, 49, 5, 0) := rfl
theorem zr_24_49 : zRp 24 49 50 (0, 3) := ⟨_, _, _, _, rfl, by decide, Option.some_ne_none _, rfl⟩
theorem zr_24_50 : zRow xM 24 50 = some (7, .aload_n 0, 51, 0, 0) := rfl
theorem zr_24_51 : zRow xM 24 51 = some (46, .getfield 22, 54, 3, 3) := rfl
theorem zr_24_54 : zRow xM 24 54 = some (3, .iload_n 2, 55, 2, 0) := rfl
theorem zr_24_55 : zRow xM 24 55 = some (48, .iaload, 56, 0, 0) := rfl
theorem zr_24_56 : zRow xM 24 56 = some (36, .i2l, 57, 0, 0) := rfl
theorem zr_24_57 : zRow xM 24 57 = some (51, .lastore, 58, 0, 0) := rfl
theorem zr_24_58 : zRow xM 24 58 = some (8, .aload 5, 60, 5, 0) := rfl
theorem zr_24_60 : zRp 24 60 61 (0, 4) := ⟨_, _, _, _, rfl, by decide, Option.some_ne_none _, rfl⟩
theorem zr_24_61 : zRow xM 24 61 = some (7, .aload_n 0, 62, 0, 0) := rfl
theorem zr_24_62 : zRow xM 24 62 = some (46, .getfield 22, 65, 3, 3) := rfl
theorem zr_24_65 : zRow xM 24 65 = some (3, .iload_n 2, 66, 2, 0) := rfl
theorem zr_24_66 : zRow xM 24 66 = some (48, .iaload, 67, 0, 0) := rfl
theorem zr_24_67 : zRow xM 24 67 = some (40, .ifCond .le 23, 70, 90, 5) := rfl
theorem zr_24_70 : zRow xM 24 70 = some (7, .aload_n 0, 71, 0, 0) := rfl
theorem zr_24_71 : zRow xM 24 71 = some (46, .getfield 28, 74, 3, 1) := rfl
theorem zr_24_74 : zRow xM 24 74 = some (46, .getfield 68, 77, 4, 9) := rfl
theorem zr_24_77 : zRow xM 24 77 = some (3, .iload_n 1, 78, 1, 0) := rfl
theorem zr_24_78 : zRow xM 24 78 = some (48, .iaload, 79, 0, 0) := rfl
theorem zr_24_79 : zRow xM 24 79 = some (7, .aload_n 0, 80, 0, 0) := rfl
theorem zr_24_80 : zRow xM 24 80 = some (46, .getfield 25, 83, 3, 4) := rfl
theorem zr_24_83 : zRow xM 24 83 = some (3, .iload_n 2, 84, 2, 0) := rfl
theorem zr_24_84 : zRow xM 24 84 = some (48, .iaload, 85, 0, 0) := rfl
theorem zr_24_85 : zRow xM 24 85 = some (17, .isub, 86, 0, 0) := rfl
theorem zr_24_86 : zRow xM 24 86 = some (36, .i2l, 87, 0, 0) := rfl
theorem zr_24_87 : zRow xM 24 87 = some (42, .goto 4, 88, 91, 0) := rfl
theorem zr_24_90 : zRp 24 90 91 (1, 0) := ⟨_, _, _, _, rfl, by decide, Option.some_ne_none _, rfl⟩
theorem zr_24_91 : zRow xM 24 91 = some (51, .lastore, 92, 0, 0) := rfl
theorem zr_24_92 : zRow xM 24 92 = some (8, .aload 5, 94, 5, 0) := rfl
theorem zr_24_94 : zRp 24 94 95 (0, 5) := ⟨_, _, _, _, rfl, by decide, Option.some_ne_none _, rfl⟩
theorem zr_24_95 : zRow xM 24 95 = some (7, .aload_n 0, 96, 0, 0) := rfl
theorem zr_24_96 : zRow xM 24 96 = some (46, .getfield 28, 99, 3, 1) := rfl
theorem zr_24_99 : zRow xM 24 99 = some (3, .iload_n 1, 100, 1, 0) := rfl
theorem zr_24_100 : zRow xM 24 100 = some (105, .invokevirtual 95, 103, 18, 4) := rfl
theorem zr_24_103 : zRow xM 24 103 = some (40, .ifCond .eq 7, 106, 110, 1) := rfl
theorem zr_24_106 : zRp 24 106 107 (1, 1) := ⟨_, _, _, _, rfl, by decide, Option.some_ne_none _, rfl⟩
theorem zr_24_107 : zRow xM 24 107 = some (42, .goto 4, 108, 111, 0) := rfl
theorem zr_24_110 : zRp 24 110 111 (1, 0) := ⟨_, _, _, _, rfl, by decide, Option.some_ne_none _, rfl⟩
theorem zr_24_111 : zRow xM 24 111 = some (51, .lastore, 112, 0, 0) := rfl
theorem zr_24_112 : zRp 24 112 115 (1, -500) := ⟨_, _, _, _, rfl, by decide, Option.some_ne_none _, rfl⟩
theorem zr_24_115 : zRp 24 115 118 (1, 500) := ⟨_, _, _, _, rfl, by decide, Option.some_ne_none _, rfl⟩
theorem zr_24_118 : zRow xM 24 118 = some (7, .aload_n 0, 119, 0, 0) := rfl
theorem zr_24_119 : zRow xM 24 119 = some (46, .getfield 18, 122, 3, 2) := rfl
theorem zr_24_122 : zRow xM 24 122 = some (105, .invokevirtual 119, 125, 23, 1) := rfl
theorem zr_24_125 : zRow xM 24 125 = some (124, .invokestatic 123, 128, 0, 0) := rfl
theorem zr_24_128 : zRow xM 24 128 = some (123, .invokestatic 127, 131, 0, 0) := rfl
theorem zr_24_131 : zRow xM 24 131 = some (37, .l2i, 132, 0, 0) := rfl
theorem zr_24_132 : zRow xM 24 132 = some (108, .ireturn, 133, 0, 0) := rfl
theorem zm_25 : zMt xM 25 = some (4, none, 4, 0, 0) := rfl
theorem zr_25_0 : zRow xM 25 0 = some (7, .aload_n 0, 1, 0, 0) := rfl
theorem zr_25_1 : zRow xM 25 1 = some (46, .getfield 9, 4, 3, 0) := rfl
theorem zr_25_4 : zRow xM 25 4 = some (3, .iload_n 1, 5, 1, 0) := rfl
theorem zr_25_5 : zRow xM 25 5 = some (45, .dup2, 6, 0, 0) := rfl
theorem zr_25_6 : zRow xM 25 6 = some (48, .iaload, 7, 0, 0) := rfl
theorem zr_25_7 : zRow xM 25 7 = some (3, .iload_n 2, 8, 2, 0) := rfl
theorem zr_25_8 : zRow xM 25 8 = some (16, .iadd, 9, 0, 0) := rfl
theorem zr_25_9 : zRow xM 25 9 = some (49, .iastore, 10, 0, 0) := rfl
theorem zr_25_10 : zRow xM 25 10 = some (7, .aload_n 0, 11, 0, 0) := rfl
theorem zr_25_11 : zRow xM 25 11 = some (46, .getfield 22, 14, 3, 3) := rfl
theorem zr_25_14 : zRow xM 25 14 = some (3, .iload_n 1, 15, 1, 0) := rfl
theorem zr_25_15 : zRow xM 25 15 = some (45, .dup2, 16, 0, 0) := rfl
theorem zr_25_16 : zRow xM 25 16 = some (48, .iaload, 17, 0, 0) := rfl
theorem zr_25_17 : zRp 25 17 18 (0, 1) := ⟨_, _, _, _, rfl, by decide, Option.some_ne_none _, rfl⟩
theorem zr_25_18 : zRow xM 25 18 = some (16, .iadd, 19, 0, 0) := rfl
theorem zr_25_19 : zRow xM 25 19 = some (49, .iastore, 20, 0, 0) := rfl
theorem zr_25_20 : zRow xM 25 20 = some (7, .aload_n 0, 21, 0, 0) := rfl
theorem zr_25_21 : zRow xM 25 21 = some (46, .getfield 25, 24, 3, 4) := rfl
theorem zr_25_24 : zRow xM 25 24 = some (3, .iload_n 1, 25, 1, 0) := rfl
theorem zr_25_25 : zRow xM 25 25 = some (3, .iload_n 3, 26, 3, 0) := rfl
theorem zr_25_26 : zRow xM 25 26 = some (49, .iastore, 27, 0, 0) := rfl
theorem zr_25_27 : zRow xM 25 27 = some (110, .return_, 28, 0, 0) := rfl
theorem zm_26 : zMt xM 26 = some (6, none, 2, 0, 0) := rfl
theorem zr_26_0 : zRow xM 26 0 = some (7, .aload_n 0, 1, 0, 0) := rfl
theorem zr_26_1 : zRow xM 26 1 = some (46, .getfield 28, 4, 3, 1) := rfl
theorem zr_26_4 : zRow xM 26 4 = some (46, .getfield 55, 7, 4, 10) := rfl
theorem zr_26_7 : zRow xM 26 7 = some (3, .iload_n 1, 8, 1, 0) := rfl
theorem zr_26_8 : zRow xM 26 8 = some (48, .iaload, 9, 0, 0) := rfl
theorem zr_26_9 : zRow xM 26 9 = some (9, .istore_n 2, 10, 2, 0) := rfl
theorem zr_26_10 : zRow xM 26 10 = some (7, .aload_n 0, 11, 0, 0) := rfl
theorem zr_26_11 : zRow xM 26 11 = some (46, .getfield 28, 14, 3, 1) := rfl
theorem zr_26_14 : zRow xM 26 14 = some (46, .getfield 58, 17, 4, 11) := rfl
theorem zr_26_17 : zRow xM 26 17 = some (3, .iload_n 1, 18, 1, 0) := rfl
theorem zr_26_18 : zRow xM 26 18 = some (48, .iaload, 19, 0, 0) := rfl
theorem zr_26_19 : zRow xM 26 19 = some (9, .istore_n 3, 20, 3, 0) := rfl
theorem zr_26_20 : zRow xM 26 20 = some (7, .aload_n 0, 21, 0, 0) := rfl
theorem zr_26_21 : zRow xM 26 21 = some (3, .iload_n 1, 22, 1, 0) := rfl
theorem zr_26_22 : zRow xM 26 22 = some (3, .iload_n 2, 23, 2, 0) := rfl
theorem zr_26_23 : zRow xM 26 23 = some (3, .iload_n 3, 24, 3, 0) := rfl
theorem zr_26_24 : zRow xM 26 24 = some (7, .aload_n 0, 25, 0, 0) := rfl
theorem zr_26_25 : zRow xM 26 25 = some (46, .getfield 28, 28, 3, 1) := rfl
theorem zr_26_28 : zRow xM 26 28 = some (46, .getfield 61, 31, 4, 12) := rfl
theorem zr_26_31 : zRow xM 26 31 = some (3, .iload_n 1, 32, 1, 0) := rfl
theorem zr_26_32 : zRow xM 26 32 = some (48, .iaload, 33, 0, 0) := rfl
theorem zr_26_33 : zRow xM 26 33 = some (105, .invokevirtual 64, 36, 24, 3) := rfl
theorem zr_26_36 : zRow xM 26 36 = some (10, .istore 4, 38, 4, 0) := rfl
theorem zr_26_38 : zRow xM 26 38 = some (7, .aload_n 0, 39, 0, 0) := rfl
theorem zr_26_39 : zRow xM 26 39 = some (3, .iload_n 1, 40, 1, 0) := rfl
theorem zr_26_40 : zRow xM 26 40 = some (3, .iload_n 3, 41, 3, 0) := rfl
theorem zr_26_41 : zRow xM 26 41 = some (3, .iload_n 2, 42, 2, 0) := rfl
theorem zr_26_42 : zRp 26 42 43 (0, 2) := ⟨_, _, _, _, rfl, by decide, Option.some_ne_none _, rfl⟩
theorem zr_26_43 : zRow xM 26 43 = some (7, .aload_n 0, 44, 0, 0) := rfl
theorem zr_26_44 : zRow xM 26 44 = some (46, .getfield 28, 47, 3, 1) := rfl
theorem zr_26_47 : zRow xM 26 47 = some (46, .getfield 61, 50, 4, 12) := rfl
theorem zr_26_50 : zRow xM 26 50 = some (3, .iload_n 1, 51, 1, 0) := rfl
theorem zr_26_51 : zRow xM 26 51 = some (48, .iaload, 52, 0, 0) := rfl
theorem zr_26_52 : zRow xM 26 52 = some (17, .isub, 53, 0, 0) := rfl
theorem zr_26_53 : zRow xM 26 53 = some (105, .invokevirtual 64, 56, 24, 3) := rfl
theorem zr_26_56 : zRow xM 26 56 = some (10, .istore 5, 58, 5, 0) := rfl
theorem zr_26_58 : zRow xM 26 58 = some (7, .aload_n 0, 59, 0, 0) := rfl
theorem zr_26_59 : zRow xM 26 59 = some (3, .iload_n 2, 60, 2, 0) := rfl
theorem zr_26_60 : zRow xM 26 60 = some (4, .iload 4, 62, 4, 0) := rfl
theorem zr_26_62 : zRow xM 26 62 = some (7, .aload_n 0, 63, 0, 0) := rfl
theorem zr_26_63 : zRow xM 26 63 = some (46, .getfield 28, 66, 3, 1) := rfl
theorem zr_26_66 : zRow xM 26 66 = some (46, .getfield 68, 69, 4, 9) := rfl
theorem zr_26_69 : zRow xM 26 69 = some (3, .iload_n 1, 70, 1, 0) := rfl
theorem zr_26_70 : zRow xM 26 70 = some (48, .iaload, 71, 0, 0) := rfl
theorem zr_26_71 : zRow xM 26 71 = some (105, .invokevirtual 71, 74, 25, 3) := rfl
theorem zr_26_74 : zRow xM 26 74 = some (7, .aload_n 0, 75, 0, 0) := rfl
theorem zr_26_75 : zRow xM 26 75 = some (3, .iload_n 3, 76, 3, 0) := rfl
theorem zr_26_76 : zRow xM 26 76 = some (4, .iload 5, 78, 5, 0) := rfl
theorem zr_26_78 : zRow xM 26 78 = some (7, .aload_n 0, 79, 0, 0) := rfl
theorem zr_26_79 : zRow xM 26 79 = some (46, .getfield 28, 82, 3, 1) := rfl
theorem zr_26_82 : zRow xM 26 82 = some (46, .getfield 68, 85, 4, 9) := rfl
theorem zr_26_85 : zRow xM 26 85 = some (3, .iload_n 1, 86, 1, 0) := rfl
theorem zr_26_86 : zRow xM 26 86 = some (48, .iaload, 87, 0, 0) := rfl
theorem zr_26_87 : zRow xM 26 87 = some (105, .invokevirtual 71, 90, 25, 3) := rfl
theorem zr_26_90 : zRow xM 26 90 = some (7, .aload_n 0, 91, 0, 0) := rfl
theorem zr_26_91 : zRow xM 26 91 = some (4, .iload 4, 93, 4, 0) := rfl
theorem zr_26_93 : zRow xM 26 93 = some (4, .iload 5, 95, 5, 0) := rfl
theorem zr_26_95 : zRow xM 26 95 = some (16, .iadd, 96, 0, 0) := rfl
theorem zr_26_96 : zRow xM 26 96 = some (47, .putfield 75, 99, 3, 5) := rfl
theorem zr_26_99 : zRow xM 26 99 = some (110, .return_, 100, 0, 0) := rfl
theorem zm_27 : zMt xM 27 = some (2, (some .int), 2, 0, 0) := rfl
theorem zr_27_0 : zRp 27 0 1 (0, 1) := ⟨_, _, _, _, rfl, by decide, Option.some_ne_none _, rfl⟩
theorem zr_27_1 : zRow xM 27 1 = some (7, .aload_n 0, 2, 0, 0) := rfl
theorem zr_27_2 : zRow xM 27 2 = some (46, .getfield 31, 5, 4, 10) := rfl
theorem zr_27_5 : zRow xM 27 5 = some (3, .iload_n 1, 6, 1, 0) := rfl
theorem zr_27_6 : zRow xM 27 6 = some (48, .iaload, 7, 0, 0) := rfl
theorem zr_27_7 : zRow xM 27 7 = some (24, .ishl, 8, 0, 0) := rfl
theorem zr_27_8 : zRp 27 8 9 (0, 1) := ⟨_, _, _, _, rfl, by decide, Option.some_ne_none _, rfl⟩
theorem zr_27_9 : zRow xM 27 9 = some (7, .aload_n 0, 10, 0, 0) := rfl
theorem zr_27_10 : zRow xM 27 10 = some (46, .getfield 34, 13, 4, 11) := rfl
theorem zr_27_13 : zRow xM 27 13 = some (3, .iload_n 1, 14, 1, 0) := rfl
theorem zr_27_14 : zRow xM 27 14 = some (48, .iaload, 15, 0, 0) := rfl
theorem zr_27_15 : zRow xM 27 15 = some (24, .ishl, 16, 0, 0) := rfl
theorem zr_27_16 : zRow xM 27 16 = some (22, .ior, 17, 0, 0) := rfl
theorem zr_27_17 : zRow xM 27 17 = some (108, .ireturn, 18, 0, 0) := rfl
theorem zm_28 : zMt xM 28 = some (2, (some .boolean), 2, 0, 0) := rfl
theorem zr_28_0 : zRow xM 28 0 = some (3, .iload_n 1, 1, 1, 0) := rfl
theorem zr_28_1 : zRp 28 1 2 (0, 1) := ⟨_, _, _, _, rfl, by decide, Option.some_ne_none _, rfl⟩
theorem zr_28_2 : zRow xM 28 2 = some (16, .iadd, 3, 0, 0) := rfl
theorem zr_28_3 : zRow xM 28 3 = some (7, .aload_n 0, 4, 0, 0) := rfl
theorem zr_28_4 : zRow xM 28 4 = some (46, .getfield 62, 7, 4, 1) := rfl
theorem zr_28_7 : zRow xM 28 7 = some (41, .if_icmp .ge 20, 10, 27, 3) := rfl
theorem zr_28_10 : zRow xM 28 10 = some (7, .aload_n 0, 11, 0, 0) := rfl
theorem zr_28_11 : zRow xM 28 11 = some (46, .getfield 28, 14, 4, 9) := rfl
theorem zr_28_14 : zRow xM 28 14 = some (3, .iload_n 1, 15, 1, 0) := rfl
theorem zr_28_15 : zRp 28 15 16 (0, 1) := ⟨_, _, _, _, rfl, by decide, Option.some_ne_none _, rfl⟩
theorem zr_28_16 : zRow xM 28 16 = some (16, .iadd, 17, 0, 0) := rfl
theorem zr_28_17 : zRow xM 28 17 = some (48, .iaload, 18, 0, 0) := rfl
theorem zr_28_18 : zRow xM 28 18 = some (7, .aload_n 0, 19, 0, 0) := rfl
theorem zr_28_19 : zRow xM 28 19 = some (46, .getfield 28, 22, 4, 9) := rfl
theorem zr_28_22 : zRow xM 28 22 = some (3, .iload_n 1, 23, 1, 0) := rfl
theorem zr_28_23 : zRow xM 28 23 = some (48, .iaload, 24, 0, 0) := rfl
theorem zr_28_24 : zRow xM 28 24 = some (41, .if_icmp .eq 7, 27, 31, 1) := rfl
theorem zr_28_27 : zRp 28 27 28 (0, 1) := ⟨_, _, _, _, rfl, by decide, Option.some_ne_none _, rfl⟩
theorem zr_28_28 : zRow xM 28 28 = some (42, .goto 4, 29, 32, 0) := rfl
theorem zr_28_31 : zRp 28 31 32 (0, 0) := ⟨_, _, _, _, rfl, by decide, Option.some_ne_none _, rfl⟩
theorem zr_28_32 : zRow xM 28 32 = some (108, .ireturn, 33, 0, 0) := rfl
theorem zm_29 : zMt xM 29 = some (1, (some .int), 1, 0, 0) := rfl
theorem zr_29_0 : zRow xM 29 0 = some (3, .iload_n 0, 1, 0, 0) := rfl
theorem zr_29_1 : zRow xM 29 1 = some (3, .iload_n 0, 2, 0, 0) := rfl
theorem zr_29_2 : zRp 29 2 3 (0, 1) := ⟨_, _, _, _, rfl, by decide, Option.some_ne_none _, rfl⟩
theorem zr_29_3 : zRow xM 29 3 = some (26, .iushr, 4, 0, 0) := rfl
theorem zr_29_4 : zRp 29 4 7 (0, 1431655765) := ⟨_, _, _, _, rfl, by decide, Option.some_ne_none _, rfl⟩
theorem zr_29_7 : zRow xM 29 7 = some (21, .iand, 8, 0, 0) := rfl
theorem zr_29_8 : zRow xM 29 8 = some (17, .isub, 9, 0, 0) := rfl
theorem zr_29_9 : zRow xM 29 9 = some (9, .istore_n 0, 10, 0, 0) := rfl
theorem zr_29_10 : zRow xM 29 10 = some (3, .iload_n 0, 11, 0, 0) := rfl
theorem zr_29_11 : zRp 29 11 14 (0, 858993459) := ⟨_, _, _, _, rfl, by decide, Option.some_ne_none _, rfl⟩
theorem zr_29_14 : zRow xM 29 14 = some (21, .iand, 15, 0, 0) := rfl
theorem zr_29_15 : zRow xM 29 15 = some (3, .iload_n 0, 16, 0, 0) := rfl
theorem zr_29_16 : zRp 29 16 17 (0, 2) := ⟨_, _, _, _, rfl, by decide, Option.some_ne_none _, rfl⟩
theorem zr_29_17 : zRow xM 29 17 = some (26, .iushr, 18, 0, 0) := rfl
theorem zr_29_18 : zRp 29 18 21 (0, 858993459) := ⟨_, _, _, _, rfl, by decide, Option.some_ne_none _, rfl⟩
theorem zr_29_21 : zRow xM 29 21 = some (21, .iand, 22, 0, 0) := rfl
theorem zr_29_22 : zRow xM 29 22 = some (16, .iadd, 23, 0, 0) := rfl
theorem zr_29_23 : zRow xM 29 23 = some (9, .istore_n 0, 24, 0, 0) := rfl
theorem zr_29_24 : zRow xM 29 24 = some (3, .iload_n 0, 25, 0, 0) := rfl
theorem zr_29_25 : zRow xM 29 25 = some (3, .iload_n 0, 26, 0, 0) := rfl
theorem zr_29_26 : zRp 29 26 27 (0, 4) := ⟨_, _, _, _, rfl, by decide, Option.some_ne_none _, rfl⟩
theorem zr_29_27 : zRow xM 29 27 = some (26, .iushr, 28, 0, 0) := rfl
theorem zr_29_28 : zRow xM 29 28 = some (16, .iadd, 29, 0, 0) := rfl
theorem zr_29_29 : zRp 29 29 32 (0, 252645135) := ⟨_, _, _, _, rfl, by decide, Option.some_ne_none _, rfl⟩
theorem zr_29_32 : zRow xM 29 32 = some (21, .iand, 33, 0, 0) := rfl
theorem zr_29_33 : zRow xM 29 33 = some (9, .istore_n 0, 34, 0, 0) := rfl
theorem zr_29_34 : zRow xM 29 34 = some (3, .iload_n 0, 35, 0, 0) := rfl
theorem zr_29_35 : zRow xM 29 35 = some (3, .iload_n 0, 36, 0, 0) := rfl
theorem zr_29_36 : zRp 29 36 38 (0, 8) := ⟨_, _, _, _, rfl, by decide, Option.some_ne_none _, rfl⟩
theorem zr_29_38 : zRow xM 29 38 = some (26, .iushr, 39, 0, 0) := rfl
theorem zr_29_39 : zRow xM 29 39 = some (16, .iadd, 40, 0, 0) := rfl
theorem zr_29_40 : zRow xM 29 40 = some (9, .istore_n 0, 41, 0, 0) := rfl
theorem zr_29_41 : zRow xM 29 41 = some (3, .iload_n 0, 42, 0, 0) := rfl
theorem zr_29_42 : zRow xM 29 42 = some (3, .iload_n 0, 43, 0, 0) := rfl
theorem zr_29_43 : zRp 29 43 45 (0, 16) := ⟨_, _, _, _, rfl, by decide, Option.some_ne_none _, rfl⟩
theorem zr_29_45 : zRow xM 29 45 = some (26, .iushr, 46, 0, 0) := rfl
theorem zr_29_46 : zRow xM 29 46 = some (16, .iadd, 47, 0, 0) := rfl
theorem zr_29_47 : zRow xM 29 47 = some (9, .istore_n 0, 48, 0, 0) := rfl
theorem zr_29_48 : zRow xM 29 48 = some (3, .iload_n 0, 49, 0, 0) := rfl
theorem zr_29_49 : zRp 29 49 51 (0, 63) := ⟨_, _, _, _, rfl, by decide, Option.some_ne_none _, rfl⟩
theorem zr_29_51 : zRow xM 29 51 = some (21, .iand, 52, 0, 0) := rfl
theorem zr_29_52 : zRow xM 29 52 = some (108, .ireturn, 53, 0, 0) := rfl
theorem zm_30 : zMt xM 30 = some (4, (some .int), 2, 0, 0) := rfl
theorem zr_30_0 : zRp 30 0 1 (0, 0) := ⟨_, _, _, _, rfl, by decide, Option.some_ne_none _, rfl⟩
theorem zr_30_1 : zRow xM 30 1 = some (9, .istore_n 2, 2, 2, 0) := rfl
theorem zr_30_2 : zRp 30 2 3 (0, 0) := ⟨_, _, _, _, rfl, by decide, Option.some_ne_none _, rfl⟩
theorem zr_30_3 : zRow xM 30 3 = some (9, .istore_n 3, 4, 3, 0) := rfl
theorem zr_30_4 : zRow xM 30 4 = some (3, .iload_n 3, 5, 3, 0) := rfl
theorem zr_30_5 : zRow xM 30 5 = some (7, .aload_n 0, 6, 0, 0) := rfl
theorem zr_30_6 : zRow xM 30 6 = some (46, .getfield 28, 9, 3, 1) := rfl
theorem zr_30_9 : zRow xM 30 9 = some (46, .getfield 88, 12, 4, 0) := rfl
theorem zr_30_12 : zRow xM 30 12 = some (41, .if_icmp .ge 26, 15, 38, 3) := rfl
theorem zr_30_15 : zRow xM 30 15 = some (3, .iload_n 1, 16, 1, 0) := rfl
theorem zr_30_16 : zRow xM 30 16 = some (3, .iload_n 3, 17, 3, 0) := rfl
theorem zr_30_17 : zRow xM 30 17 = some (25, .ishr, 18, 0, 0) := rfl
theorem zr_30_18 : zRp 30 18 19 (0, 1) := ⟨_, _, _, _, rfl, by decide, Option.some_ne_none _, rfl⟩
theorem zr_30_19 : zRow xM 30 19 = some (21, .iand, 20, 0, 0) := rfl
theorem zr_30_20 : zRow xM 30 20 = some (40, .ifCond .eq 12, 23, 32, 1) := rfl
theorem zr_30_23 : zRow xM 30 23 = some (3, .iload_n 2, 24, 2, 0) := rfl
theorem zr_30_24 : zRow xM 30 24 = some (7, .aload_n 0, 25, 0, 0) := rfl
theorem zr_30_25 : zRow xM 30 25 = some (46, .getfield 9, 28, 3, 0) := rfl
theorem zr_30_28 : zRow xM 30 28 = some (3, .iload_n 3, 29, 3, 0) := rfl
theorem zr_30_29 : zRow xM 30 29 = some (48, .iaload, 30, 0, 0) := rfl
theorem zr_30_30 : zRow xM 30 30 = some (16, .iadd, 31, 0, 0) := rfl
theorem zr_30_31 : zRow xM 30 31 = some (9, .istore_n 2, 32, 2, 0) := rfl
theorem zr_30_32 : zRow xM 30 32 = some (15, .iinc 3 1, 35, 3, 1) := rfl
theorem zr_30_35 : zRow xM 30 35 = some (42, .goto (-31), 36, 4, 0) := rfl
theorem zr_30_38 : zRow xM 30 38 = some (3, .iload_n 2, 39, 2, 0) := rfl
theorem zr_30_39 : zRow xM 30 39 = some (108, .ireturn, 40, 0, 0) := rfl
theorem zm_31 : zMt xM 31 = some (8, none, 4, 0, 0) := rfl
theorem zr_31_0 : zRow xM 31 0 = some (7, .aload_n 0, 1, 0, 0) := rfl
theorem zr_31_1 : zRow xM 31 1 = some (46, .getfield 26, 4, 0, 0) := rfl
theorem zr_31_4 : zRp 31 4 5 (0, -1) := ⟨_, _, _, _, rfl, by decide, Option.some_ne_none _, rfl⟩
theorem zr_31_5 : zRow xM 31 5 = some (41, .if_icmp .ne 7, 8, 12, 4) := rfl
theorem zr_31_8 : zRp 31 8 9 (1, 1) := ⟨_, _, _, _, rfl, by decide, Option.some_ne_none _, rfl⟩
theorem zr_31_9 : zRow xM 31 9 = some (42, .goto 17, 10, 26, 0) := rfl
theorem zr_31_12 : zRow xM 31 12 = some (5, .lload_n 2, 13, 2, 0) := rfl
theorem zr_31_13 : zRow xM 31 13 = some (7, .aload_n 0, 14, 0, 0) := rfl
theorem zr_31_14 : zRow xM 31 14 = some (46, .getfield 90, 17, 0, 2) := rfl
theorem zr_31_17 : zRow xM 31 17 = some (29, .lmul, 18, 0, 0) := rfl
theorem zr_31_18 : zRow xM 31 18 = some (7, .aload_n 0, 19, 0, 0) := rfl
theorem zr_31_19 : zRow xM 31 19 = some (46, .getfield 94, 22, 0, 1) := rfl
theorem zr_31_22 : zRow xM 31 22 = some (6, .lload 4, 24, 4, 0) := rfl
theorem zr_31_24 : zRow xM 31 24 = some (29, .lmul, 25, 0, 0) := rfl
theorem zr_31_25 : zRow xM 31 25 = some (28, .lsub, 26, 0, 0) := rfl
theorem zr_31_26 : zRow xM 31 26 = some (14, .lstore 6, 28, 6, 0) := rfl
theorem zr_31_28 : zRow xM 31 28 = some (6, .lload 6, 30, 6, 0) := rfl
theorem zr_31_30 : zRp 31 30 31 (1, 0) := ⟨_, _, _, _, rfl, by decide, Option.some_ne_none _, rfl⟩
theorem zr_31_31 : zRow xM 31 31 = some (39, .lcmp, 32, 0, 0) := rfl
theorem zr_31_32 : zRow xM 31 32 = some (40, .ifCond .gt 18, 35, 50, 2) := rfl
theorem zr_31_35 : zRow xM 31 35 = some (6, .lload 6, 37, 6, 0) := rfl
theorem zr_31_37 : zRp 31 37 38 (1, 0) := ⟨_, _, _, _, rfl, by decide, Option.some_ne_none _, rfl⟩
theorem zr_31_38 : zRow xM 31 38 = some (39, .lcmp, 39, 0, 0) := rfl
theorem zr_31_39 : zRow xM 31 39 = some (40, .ifCond .ne 27, 42, 66, 4) := rfl
theorem zr_31_42 : zRow xM 31 42 = some (3, .iload_n 1, 43, 1, 0) := rfl
theorem zr_31_43 : zRow xM 31 43 = some (7, .aload_n 0, 44, 0, 0) := rfl
theorem zr_31_44 : zRow xM 31 44 = some (46, .getfield 26, 47, 0, 0) := rfl
theorem zr_31_47 : zRow xM 31 47 = some (41, .if_icmp .ge 19, 50, 66, 3) := rfl
theorem zr_31_50 : zRow xM 31 50 = some (7, .aload_n 0, 51, 0, 0) := rfl
theorem zr_31_51 : zRow xM 31 51 = some (3, .iload_n 1, 52, 1, 0) := rfl
theorem zr_31_52 : zRow xM 31 52 = some (47, .putfield 26, 55, 0, 0) := rfl
theorem zr_31_55 : zRow xM 31 55 = some (7, .aload_n 0, 56, 0, 0) := rfl
theorem zr_31_56 : zRow xM 31 56 = some (5, .lload_n 2, 57, 2, 0) := rfl
theorem zr_31_57 : zRow xM 31 57 = some (47, .putfield 94, 60, 0, 1) := rfl
theorem zr_31_60 : zRow xM 31 60 = some (7, .aload_n 0, 61, 0, 0) := rfl
theorem zr_31_61 : zRow xM 31 61 = some (6, .lload 4, 63, 4, 0) := rfl
theorem zr_31_63 : zRow xM 31 63 = some (47, .putfield 90, 66, 0, 2) := rfl
theorem zr_31_66 : zRow xM 31 66 = some (110, .return_, 67, 0, 0) := rfl
theorem zm_32 : zMt xM 32 = some (5, none, 3, 0, 0) := rfl
theorem zr_32_0 : zRow xM 32 0 = some (7, .aload_n 0, 1, 0, 0) := rfl
theorem zr_32_1 : zRow xM 32 1 = some (46, .getfield 9, 4, 0, 5) := rfl
theorem zr_32_4 : zRow xM 32 4 = some (3, .iload_n 1, 5, 1, 0) := rfl
theorem zr_32_5 : zRp 32 5 7 (0, 9) := ⟨_, _, _, _, rfl, by decide, Option.some_ne_none _, rfl⟩
theorem zr_32_7 : zRow xM 32 7 = some (18, .imul, 8, 0, 0) := rfl
theorem zr_32_8 : zRow xM 32 8 = some (7, .aload_n 0, 9, 0, 0) := rfl
theorem zr_32_9 : zRow xM 32 9 = some (46, .getfield 15, 12, 0, 6) := rfl
theorem zr_32_12 : zRow xM 32 12 = some (3, .iload_n 1, 13, 1, 0) := rfl
theorem zr_32_13 : zRow xM 32 13 = some (48, .iaload, 14, 0, 0) := rfl
theorem zr_32_14 : zRp 32 14 16 (0, 9) := ⟨_, _, _, _, rfl, by decide, Option.some_ne_none _, rfl⟩
theorem zr_32_16 : zRow xM 32 16 = some (20, .irem, 17, 0, 0) := rfl
theorem zr_32_17 : zRow xM 32 17 = some (16, .iadd, 18, 0, 0) := rfl
theorem zr_32_18 : zRow xM 32 18 = some (7, .aload_n 0, 19, 0, 0) := rfl
theorem zr_32_19 : zRow xM 32 19 = some (46, .getfield 22, 22, 0, 4) := rfl
theorem zr_32_22 : zRow xM 32 22 = some (46, .getfield 73, 25, 3, 0) := rfl
theorem zr_32_25 : zRow xM 32 25 = some (3, .iload_n 1, 26, 1, 0) := rfl
theorem zr_32_26 : zRow xM 32 26 = some (48, .iaload, 27, 0, 0) := rfl
theorem zr_32_27 : zRow xM 32 27 = some (49, .iastore, 28, 0, 0) := rfl
theorem zr_32_28 : zRow xM 32 28 = some (7, .aload_n 0, 29, 0, 0) := rfl
theorem zr_32_29 : zRow xM 32 29 = some (46, .getfield 15, 32, 0, 6) := rfl
theorem zr_32_32 : zRow xM 32 32 = some (3, .iload_n 1, 33, 1, 0) := rfl
theorem zr_32_33 : zRow xM 32 33 = some (45, .dup2, 34, 0, 0) := rfl
theorem zr_32_34 : zRow xM 32 34 = some (48, .iaload, 35, 0, 0) := rfl
theorem zr_32_35 : zRp 32 35 36 (0, 1) := ⟨_, _, _, _, rfl, by decide, Option.some_ne_none _, rfl⟩
theorem zr_32_36 : zRow xM 32 36 = some (16, .iadd, 37, 0, 0) := rfl
theorem zr_32_37 : zRow xM 32 37 = some (49, .iastore, 38, 0, 0) := rfl
theorem zr_32_38 : zRow xM 32 38 = some (7, .aload_n 0, 39, 0, 0) := rfl
theorem zr_32_39 : zRow xM 32 39 = some (46, .getfield 15, 42, 0, 6) := rfl
theorem zr_32_42 : zRow xM 32 42 = some (3, .iload_n 1, 43, 1, 0) := rfl
theorem zr_32_43 : zRow xM 32 43 = some (48, .iaload, 44, 0, 0) := rfl
theorem zr_32_44 : zRow xM 32 44 = some (3, .iload_n 2, 45, 2, 0) := rfl
theorem zr_32_45 : zRow xM 32 45 = some (41, .if_icmp .ge 4, 48, 49, 3) := rfl
theorem zr_32_48 : zRow xM 32 48 = some (110, .return_, 49, 0, 0) := rfl
theorem zr_32_49 : zRow xM 32 49 = some (7, .aload_n 0, 50, 0, 0) := rfl
theorem zr_32_50 : zRow xM 32 50 = some (46, .getfield 22, 53, 0, 4) := rfl
theorem zr_32_53 : zRow xM 32 53 = some (46, .getfield 73, 56, 3, 0) := rfl
theorem zr_32_56 : zRow xM 32 56 = some (3, .iload_n 1, 57, 1, 0) := rfl
theorem zr_32_57 : zRow xM 32 57 = some (48, .iaload, 58, 0, 0) := rfl
theorem zr_32_58 : zRow xM 32 58 = some (9, .istore_n 3, 59, 3, 0) := rfl
theorem zr_32_59 : zRp 32 59 60 (0, 2) := ⟨_, _, _, _, rfl, by decide, Option.some_ne_none _, rfl⟩
theorem zr_32_60 : zRow xM 32 60 = some (10, .istore 4, 62, 4, 0) := rfl
theorem zr_32_62 : zRow xM 32 62 = some (4, .iload 4, 64, 4, 0) := rfl
theorem zr_32_64 : zRow xM 32 64 = some (3, .iload_n 2, 65, 2, 0) := rfl
theorem zr_32_65 : zRow xM 32 65 = some (41, .if_icmp .gt 36, 68, 101, 2) := rfl
theorem zr_32_68 : zRow xM 32 68 = some (3, .iload_n 3, 69, 3, 0) := rfl
theorem zr_32_69 : zRow xM 32 69 = some (7, .aload_n 0, 70, 0, 0) := rfl
theorem zr_32_70 : zRow xM 32 70 = some (46, .getfield 9, 73, 0, 5) := rfl
theorem zr_32_73 : zRow xM 32 73 = some (3, .iload_n 1, 74, 1, 0) := rfl
theorem zr_32_74 : zRp 32 74 76 (0, 9) := ⟨_, _, _, _, rfl, by decide, Option.some_ne_none _, rfl⟩
theorem zr_32_76 : zRow xM 32 76 = some (18, .imul, 77, 0, 0) := rfl
theorem zr_32_77 : zRow xM 32 77 = some (7, .aload_n 0, 78, 0, 0) := rfl
theorem zr_32_78 : zRow xM 32 78 = some (46, .getfield 15, 81, 0, 6) := rfl
theorem zr_32_81 : zRow xM 32 81 = some (3, .iload_n 1, 82, 1, 0) := rfl
theorem zr_32_82 : zRow xM 32 82 = some (48, .iaload, 83, 0, 0) := rfl
theorem zr_32_83 : zRow xM 32 83 = some (4, .iload 4, 85, 4, 0) := rfl
theorem zr_32_85 : zRow xM 32 85 = some (17, .isub, 86, 0, 0) := rfl
theorem zr_32_86 : zRp 32 86 88 (0, 9) := ⟨_, _, _, _, rfl, by decide, Option.some_ne_none _, rfl⟩
theorem zr_32_88 : zRow xM 32 88 = some (20, .irem, 89, 0, 0) := rfl
theorem zr_32_89 : zRow xM 32 89 = some (16, .iadd, 90, 0, 0) := rfl
theorem zr_32_90 : zRow xM 32 90 = some (48, .iaload, 91, 0, 0) := rfl
theorem zr_32_91 : zRow xM 32 91 = some (121, .invokestatic 84, 94, 0, 0) := rfl
theorem zr_32_94 : zRow xM 32 94 = some (9, .istore_n 3, 95, 3, 0) := rfl
theorem zr_32_95 : zRow xM 32 95 = some (15, .iinc 4 1, 98, 4, 1) := rfl
theorem zr_32_98 : zRow xM 32 98 = some (42, .goto (-36), 99, 62, 0) := rfl
theorem zr_32_101 : zRow xM 32 101 = some (7, .aload_n 0, 102, 0, 0) := rfl
theorem zr_32_102 : zRow xM 32 102 = some (3, .iload_n 1, 103, 1, 0) := rfl
theorem zr_32_103 : zRow xM 32 103 = some (3, .iload_n 3, 104, 3, 0) := rfl
theorem zr_32_104 : zRow xM 32 104 = some (36, .i2l, 105, 0, 0) := rfl
theorem zr_32_105 : zRp 32 105 106 (1, 1) := ⟨_, _, _, _, rfl, by decide, Option.some_ne_none _, rfl⟩
theorem zr_32_106 : zRow xM 32 106 = some (105, .invokevirtual 76, 109, 31, 0) := rfl
theorem zr_32_109 : zRow xM 32 109 = some (110, .return_, 110, 0, 0) := rfl
theorem zm_33 : zMt xM 33 = some (7, none, 4, 0, 0) := rfl
theorem zr_33_0 : zRow xM 33 0 = some (3, .iload_n 1, 1, 1, 0) := rfl
theorem zr_33_1 : zRow xM 33 1 = some (107, .invokestatic 62, 4, 29, 0) := rfl
theorem zr_33_4 : zRow xM 33 4 = some (10, .istore 4, 6, 4, 0) := rfl
theorem zr_33_6 : zRow xM 33 6 = some (7, .aload_n 0, 7, 0, 0) := rfl
theorem zr_33_7 : zRow xM 33 7 = some (46, .getfield 22, 10, 0, 4) := rfl
theorem zr_33_10 : zRow xM 33 10 = some (3, .iload_n 1, 11, 1, 0) := rfl
theorem zr_33_11 : zRow xM 33 11 = some (105, .invokevirtual 67, 14, 30, 3) := rfl
theorem zr_33_14 : zRow xM 33 14 = some (10, .istore 5, 16, 5, 0) := rfl
theorem zr_33_16 : zRp 33 16 17 (0, 0) := ⟨_, _, _, _, rfl, by decide, Option.some_ne_none _, rfl⟩
theorem zr_33_17 : zRow xM 33 17 = some (10, .istore 6, 19, 6, 0) := rfl
theorem zr_33_19 : zRow xM 33 19 = some (4, .iload 6, 21, 6, 0) := rfl
theorem zr_33_21 : zRow xM 33 21 = some (7, .aload_n 0, 22, 0, 0) := rfl
theorem zr_33_22 : zRow xM 33 22 = some (46, .getfield 18, 25, 0, 3) := rfl
theorem zr_33_25 : zRow xM 33 25 = some (46, .getfield 70, 28, 4, 0) := rfl
theorem zr_33_28 : zRow xM 33 28 = some (41, .if_icmp .ge 87, 31, 115, 3) := rfl
theorem zr_33_31 : zRow xM 33 31 = some (3, .iload_n 1, 32, 1, 0) := rfl
theorem zr_33_32 : zRow xM 33 32 = some (4, .iload 6, 34, 6, 0) := rfl
theorem zr_33_34 : zRow xM 33 34 = some (25, .ishr, 35, 0, 0) := rfl
theorem zr_33_35 : zRp 33 35 36 (0, 1) := ⟨_, _, _, _, rfl, by decide, Option.some_ne_none _, rfl⟩
theorem zr_33_36 : zRow xM 33 36 = some (21, .iand, 37, 0, 0) := rfl
theorem zr_33_37 : zRow xM 33 37 = some (40, .ifCond .ne 6, 40, 43, 4) := rfl
theorem zr_33_40 : zRow xM 33 40 = some (42, .goto 69, 41, 109, 0) := rfl
theorem zr_33_43 : zRow xM 33 43 = some (3, .iload_n 2, 44, 2, 0) := rfl
theorem zr_33_44 : zRow xM 33 44 = some (40, .ifCond .ne 24, 47, 68, 4) := rfl
theorem zr_33_47 : zRow xM 33 47 = some (7, .aload_n 0, 48, 0, 0) := rfl
theorem zr_33_48 : zRow xM 33 48 = some (4, .iload 6, 50, 6, 0) := rfl
theorem zr_33_50 : zRow xM 33 50 = some (7, .aload_n 0, 51, 0, 0) := rfl
theorem zr_33_51 : zRow xM 33 51 = some (46, .getfield 22, 54, 0, 4) := rfl
theorem zr_33_54 : zRow xM 33 54 = some (46, .getfield 73, 57, 3, 0) := rfl
theorem zr_33_57 : zRow xM 33 57 = some (4, .iload 6, 59, 6, 0) := rfl
theorem zr_33_59 : zRow xM 33 59 = some (48, .iaload, 60, 0, 0) := rfl
theorem zr_33_60 : zRow xM 33 60 = some (36, .i2l, 61, 0, 0) := rfl
theorem zr_33_61 : zRp 33 61 62 (1, 1) := ⟨_, _, _, _, rfl, by decide, Option.some_ne_none _, rfl⟩
theorem zr_33_62 : zRow xM 33 62 = some (105, .invokevirtual 76, 65, 31, 0) := rfl
theorem zr_33_65 : zRow xM 33 65 = some (42, .goto 44, 66, 109, 0) := rfl
theorem zr_33_68 : zRow xM 33 68 = some (3, .iload_n 2, 69, 2, 0) := rfl
theorem zr_33_69 : zRp 33 69 70 (0, 1) := ⟨_, _, _, _, rfl, by decide, Option.some_ne_none _, rfl⟩
theorem zr_33_70 : zRow xM 33 70 = some (41, .if_icmp .ne 13, 73, 83, 4) := rfl
theorem zr_33_73 : zRow xM 33 73 = some (7, .aload_n 0, 74, 0, 0) := rfl
theorem zr_33_74 : zRow xM 33 74 = some (4, .iload 6, 76, 6, 0) := rfl
theorem zr_33_76 : zRow xM 33 76 = some (3, .iload_n 3, 77, 3, 0) := rfl
theorem zr_33_77 : zRow xM 33 77 = some (105, .invokevirtual 80, 80, 32, 0) := rfl
theorem zr_33_80 : zRow xM 33 80 = some (42, .goto 29, 81, 109, 0) := rfl
theorem zr_33_83 : zRow xM 33 83 = some (7, .aload_n 0, 84, 0, 0) := rfl
theorem zr_33_84 : zRow xM 33 84 = some (4, .iload 6, 86, 6, 0) := rfl
theorem zr_33_86 : zRow xM 33 86 = some (7, .aload_n 0, 87, 0, 0) := rfl
theorem zr_33_87 : zRow xM 33 87 = some (46, .getfield 22, 90, 0, 4) := rfl
theorem zr_33_90 : zRow xM 33 90 = some (46, .getfield 73, 93, 3, 0) := rfl
theorem zr_33_93 : zRow xM 33 93 = some (4, .iload 6, 95, 6, 0) := rfl
theorem zr_33_95 : zRow xM 33 95 = some (48, .iaload, 96, 0, 0) := rfl
theorem zr_33_96 : zRow xM 33 96 = some (4, .iload 4, 98, 4, 0) := rfl
theorem zr_33_98 : zRow xM 33 98 = some (18, .imul, 99, 0, 0) := rfl
theorem zr_33_99 : zRow xM 33 99 = some (4, .iload 5, 101, 5, 0) := rfl
theorem zr_33_101 : zRow xM 33 101 = some (17, .isub, 102, 0, 0) := rfl
theorem zr_33_102 : zRow xM 33 102 = some (36, .i2l, 103, 0, 0) := rfl
theorem zr_33_103 : zRow xM 33 103 = some (4, .iload 4, 105, 4, 0) := rfl
theorem zr_33_105 : zRow xM 33 105 = some (36, .i2l, 106, 0, 0) := rfl
theorem zr_33_106 : zRow xM 33 106 = some (105, .invokevirtual 76, 109, 31, 0) := rfl
theorem zr_33_109 : zRow xM 33 109 = some (15, .iinc 6 1, 112, 6, 1) := rfl
theorem zr_33_112 : zRow xM 33 112 = some (42, .goto (-93), 113, 19, 0) := rfl
theorem zr_33_115 : zRow xM 33 115 = some (110, .return_, 116, 0, 0) := rfl
theorem zm_34 : zMt xM 34 = some (6, none, 4, 0, 0) := rfl
theorem zr_34_0 : zRow xM 34 0 = some (7, .aload_n 0, 1, 0, 0) := rfl
theorem zr_34_1 : zRp 34 1 2 (0, -1) := ⟨_, _, _, _, rfl, by decide, Option.some_ne_none _, rfl⟩
theorem zr_34_2 : zRow xM 34 2 = some (47, .putfield 26, 5, 0, 0) := rfl
theorem zr_34_5 : zRow xM 34 5 = some (7, .aload_n 0, 6, 0, 0) := rfl
theorem zr_34_6 : zRow xM 34 6 = some (46, .getfield 15, 9, 0, 6) := rfl
theorem zr_34_9 : zRp 34 9 10 (0, 0) := ⟨_, _, _, _, rfl, by decide, Option.some_ne_none _, rfl⟩
theorem zr_34_10 : zRow xM 34 10 = some (107, .invokestatic 30, 13, 4, 0) := rfl
theorem zr_34_13 : zRow xM 34 13 = some (7, .aload_n 0, 14, 0, 0) := rfl
theorem zr_34_14 : zRow xM 34 14 = some (46, .getfield 22, 17, 0, 4) := rfl
theorem zr_34_17 : zRow xM 34 17 = some (3, .iload_n 1, 18, 1, 0) := rfl
theorem zr_34_18 : zRow xM 34 18 = some (105, .invokevirtual 36, 21, 16, 3) := rfl
theorem zr_34_21 : zRp 34 21 22 (0, 0) := ⟨_, _, _, _, rfl, by decide, Option.some_ne_none _, rfl⟩
theorem zr_34_22 : zRow xM 34 22 = some (10, .istore 4, 24, 4, 0) := rfl
theorem zr_34_24 : zRp 34 24 25 (0, 0) := ⟨_, _, _, _, rfl, by decide, Option.some_ne_none _, rfl⟩
theorem zr_34_25 : zRow xM 34 25 = some (10, .istore 5, 27, 5, 0) := rfl
theorem zr_34_27 : zRow xM 34 27 = some (4, .iload 5, 29, 5, 0) := rfl
theorem zr_34_29 : zRow xM 34 29 = some (7, .aload_n 0, 30, 0, 0) := rfl
theorem zr_34_30 : zRow xM 34 30 = some (46, .getfield 18, 33, 0, 3) := rfl
theorem zr_34_33 : zRow xM 34 33 = some (46, .getfield 42, 36, 4, 1) := rfl
theorem zr_34_36 : zRow xM 34 36 = some (41, .if_icmp .ge 55, 39, 91, 3) := rfl
theorem zr_34_39 : zRow xM 34 39 = some (7, .aload_n 0, 40, 0, 0) := rfl
theorem zr_34_40 : zRow xM 34 40 = some (46, .getfield 22, 43, 0, 4) := rfl
theorem zr_34_43 : zRow xM 34 43 = some (4, .iload 5, 45, 5, 0) := rfl
theorem zr_34_45 : zRow xM 34 45 = some (105, .invokevirtual 47, 48, 26, 3) := rfl
theorem zr_34_48 : zRow xM 34 48 = some (4, .iload 4, 50, 4, 0) := rfl
theorem zr_34_50 : zRow xM 34 50 = some (7, .aload_n 0, 51, 0, 0) := rfl
theorem zr_34_51 : zRow xM 34 51 = some (46, .getfield 18, 54, 0, 3) := rfl
theorem zr_34_54 : zRow xM 34 54 = some (4, .iload 5, 56, 5, 0) := rfl
theorem zr_34_56 : zRow xM 34 56 = some (105, .invokevirtual 50, 59, 27, 4) := rfl
theorem zr_34_59 : zRow xM 34 59 = some (22, .ior, 60, 0, 0) := rfl
theorem zr_34_60 : zRow xM 34 60 = some (10, .istore 4, 62, 4, 0) := rfl
theorem zr_34_62 : zRow xM 34 62 = some (7, .aload_n 0, 63, 0, 0) := rfl
theorem zr_34_63 : zRow xM 34 63 = some (46, .getfield 18, 66, 0, 3) := rfl
theorem zr_34_66 : zRow xM 34 66 = some (4, .iload 5, 68, 5, 0) := rfl
theorem zr_34_68 : zRow xM 34 68 = some (105, .invokevirtual 54, 71, 28, 4) := rfl
theorem zr_34_71 : zRow xM 34 71 = some (40, .ifCond .eq 14, 74, 85, 1) := rfl
theorem zr_34_74 : zRow xM 34 74 = some (7, .aload_n 0, 75, 0, 0) := rfl
theorem zr_34_75 : zRow xM 34 75 = some (4, .iload 4, 77, 4, 0) := rfl
theorem zr_34_77 : zRow xM 34 77 = some (3, .iload_n 2, 78, 2, 0) := rfl
theorem zr_34_78 : zRow xM 34 78 = some (3, .iload_n 3, 79, 3, 0) := rfl
theorem zr_34_79 : zRow xM 34 79 = some (105, .invokevirtual 58, 82, 33, 0) := rfl
theorem zr_34_82 : zRp 34 82 83 (0, 0) := ⟨_, _, _, _, rfl, by decide, Option.some_ne_none _, rfl⟩
theorem zr_34_83 : zRow xM 34 83 = some (10, .istore 4, 85, 4, 0) := rfl
theorem zr_34_85 : zRow xM 34 85 = some (15, .iinc 5 1, 88, 5, 1) := rfl
theorem zr_34_88 : zRow xM 34 88 = some (42, .goto (-61), 89, 27, 0) := rfl
theorem zr_34_91 : zRow xM 34 91 = some (110, .return_, 92, 0, 0) := rfl
theorem zm_37 : zMt xM 37 = some (11, (some .long), 2, 0, 0) := rfl
theorem zr_37_0 : zRow xM 37 0 = some (5, .lload_n 0, 1, 0, 0) := rfl
theorem zr_37_1 : zRow xM 37 1 = some (14, .lstore 4, 3, 4, 0) := rfl
theorem zr_37_3 : zRow xM 37 3 = some (5, .lload_n 2, 4, 2, 0) := rfl
theorem zr_37_4 : zRow xM 37 4 = some (14, .lstore 6, 6, 6, 0) := rfl
theorem zr_37_6 : zRp 37 6 7 (0, 0) := ⟨_, _, _, _, rfl, by decide, Option.some_ne_none _, rfl⟩
theorem zr_37_7 : zRow xM 37 7 = some (10, .istore 8, 9, 8, 0) := rfl
theorem zr_37_9 : zRow xM 37 9 = some (4, .iload 8, 11, 8, 0) := rfl
theorem zr_37_11 : zRp 37 11 13 (0, 100) := ⟨_, _, _, _, rfl, by decide, Option.some_ne_none _, rfl⟩
theorem zr_37_13 : zRow xM 37 13 = some (41, .if_icmp .ge 31, 16, 44, 3) := rfl
theorem zr_37_16 : zRow xM 37 16 = some (6, .lload 6, 18, 6, 0) := rfl
theorem zr_37_18 : zRp 37 18 19 (1, 0) := ⟨_, _, _, _, rfl, by decide, Option.some_ne_none _, rfl⟩
theorem zr_37_19 : zRow xM 37 19 = some (39, .lcmp, 20, 0, 0) := rfl
theorem zr_37_20 : zRow xM 37 20 = some (40, .ifCond .eq 24, 23, 44, 1) := rfl
theorem zr_37_23 : zRow xM 37 23 = some (6, .lload 4, 25, 4, 0) := rfl
theorem zr_37_25 : zRow xM 37 25 = some (6, .lload 6, 27, 6, 0) := rfl
theorem zr_37_27 : zRow xM 37 27 = some (119, .lrem, 28, 0, 0) := rfl
theorem zr_37_28 : zRow xM 37 28 = some (14, .lstore 9, 30, 9, 0) := rfl
theorem zr_37_30 : zRow xM 37 30 = some (6, .lload 6, 32, 6, 0) := rfl
theorem zr_37_32 : zRow xM 37 32 = some (14, .lstore 4, 34, 4, 0) := rfl
theorem zr_37_34 : zRow xM 37 34 = some (6, .lload 9, 36, 9, 0) := rfl
theorem zr_37_36 : zRow xM 37 36 = some (14, .lstore 6, 38, 6, 0) := rfl
theorem zr_37_38 : zRow xM 37 38 = some (15, .iinc 8 1, 41, 8, 1) := rfl
theorem zr_37_41 : zRow xM 37 41 = some (42, .goto (-32), 42, 9, 0) := rfl
theorem zr_37_44 : zRow xM 37 44 = some (6, .lload 4, 46, 4, 0) := rfl
theorem zr_37_46 : zRow xM 37 46 = some (109, .lreturn, 47, 0, 0) := rfl
theorem zm_38 : zMt xM 38 = some (7, none, 3, 0, 0) := rfl
theorem zr_38_0 : zRow xM 38 0 = some (5, .lload_n 1, 1, 1, 0) := rfl
theorem zr_38_1 : zRow xM 38 1 = some (125, .invokestatic 16, 4, 0, 0) := rfl
theorem zr_38_4 : zRow xM 38 4 = some (5, .lload_n 3, 5, 3, 0) := rfl
theorem zr_38_5 : zRow xM 38 5 = some (107, .invokestatic 22, 8, 37, 0) := rfl
theorem zr_38_8 : zRow xM 38 8 = some (14, .lstore 5, 10, 5, 0) := rfl
theorem zr_38_10 : zRow xM 38 10 = some (6, .lload 5, 12, 5, 0) := rfl
theorem zr_38_12 : zRp 38 12 13 (1, 0) := ⟨_, _, _, _, rfl, by decide, Option.some_ne_none _, rfl⟩
theorem zr_38_13 : zRow xM 38 13 = some (39, .lcmp, 14, 0, 0) := rfl
theorem zr_38_14 : zRow xM 38 14 = some (40, .ifCond .le 19, 17, 33, 5) := rfl
theorem zr_38_17 : zRow xM 38 17 = some (7, .aload_n 0, 18, 0, 0) := rfl
theorem zr_38_18 : zRow xM 38 18 = some (5, .lload_n 1, 19, 1, 0) := rfl
theorem zr_38_19 : zRow xM 38 19 = some (6, .lload 5, 21, 5, 0) := rfl
theorem zr_38_21 : zRow xM 38 21 = some (118, .ldiv, 22, 0, 0) := rfl
theorem zr_38_22 : zRow xM 38 22 = some (47, .putfield 7, 25, 2, 0) := rfl
theorem zr_38_25 : zRow xM 38 25 = some (7, .aload_n 0, 26, 0, 0) := rfl
theorem zr_38_26 : zRow xM 38 26 = some (5, .lload_n 3, 27, 3, 0) := rfl
theorem zr_38_27 : zRow xM 38 27 = some (6, .lload 5, 29, 5, 0) := rfl
theorem zr_38_29 : zRow xM 38 29 = some (118, .ldiv, 30, 0, 0) := rfl
theorem zr_38_30 : zRow xM 38 30 = some (47, .putfield 13, 33, 2, 1) := rfl
theorem zr_38_33 : zRow xM 38 33 = some (110, .return_, 34, 0, 0) := rfl
theorem zm_40 : zMt xM 40 = some (2, (some .int), 2, 0, 0) := rfl
theorem zr_40_0 : zRow xM 40 0 = some (7, .aload_n 0, 1, 0, 0) := rfl
theorem zr_40_1 : zRow xM 40 1 = some (46, .getfield 18, 4, 3, 2) := rfl
theorem zr_40_4 : zRow xM 40 4 = some (7, .aload_n 0, 5, 0, 0) := rfl
theorem zr_40_5 : zRow xM 40 5 = some (46, .getfield 28, 8, 3, 1) := rfl
theorem zr_40_8 : zRow xM 40 8 = some (3, .iload_n 1, 9, 1, 0) := rfl
theorem zr_40_9 : zRow xM 40 9 = some (105, .invokevirtual 32, 12, 15, 1) := rfl
theorem zr_40_12 : zRow xM 40 12 = some (7, .aload_n 0, 13, 0, 0) := rfl
theorem zr_40_13 : zRow xM 40 13 = some (46, .getfield 18, 16, 3, 2) := rfl
theorem zr_40_16 : zRow xM 40 16 = some (46, .getfield 36, 19, 1, 1) := rfl
theorem zr_40_19 : zRow xM 40 19 = some (108, .ireturn, 20, 0, 0) := rfl
theorem zm_41 : zMt xM 41 = some (3, none, 2, 0, 0) := rfl
theorem zr_41_0 : zRp 41 0 1 (0, 0) := ⟨_, _, _, _, rfl, by decide, Option.some_ne_none _, rfl⟩
theorem zr_41_1 : zRow xM 41 1 = some (9, .istore_n 2, 2, 2, 0) := rfl
theorem zr_41_2 : zRow xM 41 2 = some (3, .iload_n 2, 3, 2, 0) := rfl
theorem zr_41_3 : zRow xM 41 3 = some (3, .iload_n 1, 4, 1, 0) := rfl
theorem zr_41_4 : zRow xM 41 4 = some (41, .if_icmp .ge 14, 7, 18, 3) := rfl
theorem zr_41_7 : zRow xM 41 7 = some (7, .aload_n 0, 8, 0, 0) := rfl
theorem zr_41_8 : zRow xM 41 8 = some (3, .iload_n 2, 9, 2, 0) := rfl
theorem zr_41_9 : zRow xM 41 9 = some (105, .invokevirtual 51, 12, 26, 3) := rfl
theorem zr_41_12 : zRow xM 41 12 = some (15, .iinc 2 1, 15, 2, 1) := rfl
theorem zr_41_15 : zRow xM 41 15 = some (42, .goto (-13), 16, 2, 0) := rfl
theorem zr_41_18 : zRow xM 41 18 = some (110, .return_, 19, 0, 0) := rfl
theorem zm_42 : zMt xM 42 = some (5, (some .int), 3, 0, 0) := rfl
theorem zr_42_0 : zRow xM 42 0 = some (7, .aload_n 0, 1, 0, 0) := rfl
theorem zr_42_1 : zRow xM 42 1 = some (3, .iload_n 1, 2, 1, 0) := rfl
theorem zr_42_2 : zRow xM 42 2 = some (105, .invokevirtual 78, 5, 16, 3) := rfl
theorem zr_42_5 : zRp 42 5 6 (0, 0) := ⟨_, _, _, _, rfl, by decide, Option.some_ne_none _, rfl⟩
theorem zr_42_6 : zRow xM 42 6 = some (9, .istore_n 3, 7, 3, 0) := rfl
theorem zr_42_7 : zRp 42 7 8 (0, 0) := ⟨_, _, _, _, rfl, by decide, Option.some_ne_none _, rfl⟩
theorem zr_42_8 : zRow xM 42 8 = some (10, .istore 4, 10, 4, 0) := rfl
theorem zr_42_10 : zRow xM 42 10 = some (4, .iload 4, 12, 4, 0) := rfl
theorem zr_42_12 : zRow xM 42 12 = some (7, .aload_n 0, 13, 0, 0) := rfl
theorem zr_42_13 : zRow xM 42 13 = some (46, .getfield 28, 16, 3, 1) := rfl
theorem zr_42_16 : zRow xM 42 16 = some (46, .getfield 81, 19, 4, 1) := rfl
theorem zr_42_19 : zRow xM 42 19 = some (41, .if_icmp .ge 36, 22, 55, 3) := rfl
theorem zr_42_22 : zRow xM 42 22 = some (7, .aload_n 0, 23, 0, 0) := rfl
theorem zr_42_23 : zRow xM 42 23 = some (4, .iload 4, 25, 4, 0) := rfl
theorem zr_42_25 : zRow xM 42 25 = some (105, .invokevirtual 51, 28, 26, 3) := rfl
theorem zr_42_28 : zRow xM 42 28 = some (7, .aload_n 0, 29, 0, 0) := rfl
theorem zr_42_29 : zRow xM 42 29 = some (46, .getfield 28, 32, 3, 1) := rfl
theorem zr_42_32 : zRow xM 42 32 = some (46, .getfield 68, 35, 4, 9) := rfl
theorem zr_42_35 : zRow xM 42 35 = some (4, .iload 4, 37, 4, 0) := rfl
theorem zr_42_37 : zRow xM 42 37 = some (48, .iaload, 38, 0, 0) := rfl
theorem zr_42_38 : zRow xM 42 38 = some (3, .iload_n 2, 39, 2, 0) := rfl
theorem zr_42_39 : zRow xM 42 39 = some (41, .if_icmp .ne 10, 42, 49, 4) := rfl
theorem zr_42_42 : zRow xM 42 42 = some (3, .iload_n 3, 43, 3, 0) := rfl
theorem zr_42_43 : zRow xM 42 43 = some (7, .aload_n 0, 44, 0, 0) := rfl
theorem zr_42_44 : zRow xM 42 44 = some (46, .getfield 75, 47, 3, 5) := rfl
theorem zr_42_47 : zRow xM 42 47 = some (16, .iadd, 48, 0, 0) := rfl
theorem zr_42_48 : zRow xM 42 48 = some (9, .istore_n 3, 49, 3, 0) := rfl
theorem zr_42_49 : zRow xM 42 49 = some (15, .iinc 4 1, 52, 4, 1) := rfl
theorem zr_42_52 : zRow xM 42 52 = some (42, .goto (-42), 53, 10, 0) := rfl
theorem zr_42_55 : zRow xM 42 55 = some (3, .iload_n 3, 56, 3, 0) := rfl
theorem zr_42_56 : zRow xM 42 56 = some (108, .ireturn, 57, 0, 0) := rfl
theorem zm_43 : zMt xM 43 = some (7, (some .int), 5, 0, 0) := rfl
theorem zr_43_0 : zRow xM 43 0 = some (7, .aload_n 0, 1, 0, 0) := rfl
theorem zr_43_1 : zRow xM 43 1 = some (3, .iload_n 1, 2, 1, 0) := rfl
theorem zr_43_2 : zRow xM 43 2 = some (105, .invokevirtual 78, 5, 16, 3) := rfl
theorem zr_43_5 : zRp 43 5 6 (0, 0) := ⟨_, _, _, _, rfl, by decide, Option.some_ne_none _, rfl⟩
theorem zr_43_6 : zRow xM 43 6 = some (10, .istore 5, 8, 5, 0) := rfl
theorem zr_43_8 : zRow xM 43 8 = some (4, .iload 5, 10, 5, 0) := rfl
theorem zr_43_10 : zRow xM 43 10 = some (7, .aload_n 0, 11, 0, 0) := rfl
theorem zr_43_11 : zRow xM 43 11 = some (46, .getfield 28, 14, 3, 1) := rfl
theorem zr_43_14 : zRow xM 43 14 = some (46, .getfield 81, 17, 4, 1) := rfl
theorem zr_43_17 : zRow xM 43 17 = some (41, .if_icmp .ge 29, 20, 46, 3) := rfl
theorem zr_43_20 : zRow xM 43 20 = some (7, .aload_n 0, 21, 0, 0) := rfl
theorem zr_43_21 : zRow xM 43 21 = some (46, .getfield 28, 24, 3, 1) := rfl
theorem zr_43_24 : zRow xM 43 24 = some (46, .getfield 68, 27, 4, 9) := rfl
theorem zr_43_27 : zRow xM 43 27 = some (4, .iload 5, 29, 5, 0) := rfl
theorem zr_43_29 : zRow xM 43 29 = some (48, .iaload, 30, 0, 0) := rfl
theorem zr_43_30 : zRow xM 43 30 = some (3, .iload_n 2, 31, 2, 0) := rfl
theorem zr_43_31 : zRow xM 43 31 = some (41, .if_icmp .gt 15, 34, 46, 2) := rfl
theorem zr_43_34 : zRow xM 43 34 = some (7, .aload_n 0, 35, 0, 0) := rfl
theorem zr_43_35 : zRow xM 43 35 = some (4, .iload 5, 37, 5, 0) := rfl
theorem zr_43_37 : zRow xM 43 37 = some (105, .invokevirtual 51, 40, 26, 3) := rfl
theorem zr_43_40 : zRow xM 43 40 = some (15, .iinc 5 1, 43, 5, 1) := rfl
theorem zr_43_43 : zRow xM 43 43 = some (42, .goto (-35), 44, 8, 0) := rfl
theorem zr_43_46 : zRow xM 43 46 = some (7, .aload_n 0, 47, 0, 0) := rfl
theorem zr_43_47 : zRow xM 43 47 = some (4, .iload 4, 49, 4, 0) := rfl
theorem zr_43_49 : zRow xM 43 49 = some (105, .invokevirtual 84, 52, 30, 3) := rfl
theorem zr_43_52 : zRow xM 43 52 = some (10, .istore 6, 54, 6, 0) := rfl
theorem zr_43_54 : zRow xM 43 54 = some (4, .iload 5, 56, 5, 0) := rfl
theorem zr_43_56 : zRow xM 43 56 = some (7, .aload_n 0, 57, 0, 0) := rfl
theorem zr_43_57 : zRow xM 43 57 = some (46, .getfield 28, 60, 3, 1) := rfl
theorem zr_43_60 : zRow xM 43 60 = some (46, .getfield 81, 63, 4, 1) := rfl
theorem zr_43_63 : zRow xM 43 63 = some (41, .if_icmp .ge 29, 66, 92, 3) := rfl
theorem zr_43_66 : zRow xM 43 66 = some (7, .aload_n 0, 67, 0, 0) := rfl
theorem zr_43_67 : zRow xM 43 67 = some (46, .getfield 28, 70, 3, 1) := rfl
theorem zr_43_70 : zRow xM 43 70 = some (46, .getfield 68, 73, 4, 9) := rfl
theorem zr_43_73 : zRow xM 43 73 = some (4, .iload 5, 75, 5, 0) := rfl
theorem zr_43_75 : zRow xM 43 75 = some (48, .iaload, 76, 0, 0) := rfl
theorem zr_43_76 : zRow xM 43 76 = some (3, .iload_n 3, 77, 3, 0) := rfl
theorem zr_43_77 : zRow xM 43 77 = some (41, .if_icmp .gt 15, 80, 92, 2) := rfl
theorem zr_43_80 : zRow xM 43 80 = some (7, .aload_n 0, 81, 0, 0) := rfl
theorem zr_43_81 : zRow xM 43 81 = some (4, .iload 5, 83, 5, 0) := rfl
theorem zr_43_83 : zRow xM 43 83 = some (105, .invokevirtual 51, 86, 26, 3) := rfl
theorem zr_43_86 : zRow xM 43 86 = some (15, .iinc 5 1, 89, 5, 1) := rfl
theorem zr_43_89 : zRow xM 43 89 = some (42, .goto (-35), 90, 54, 0) := rfl
theorem zr_43_92 : zRow xM 43 92 = some (7, .aload_n 0, 93, 0, 0) := rfl
theorem zr_43_93 : zRow xM 43 93 = some (4, .iload 4, 95, 4, 0) := rfl
theorem zr_43_95 : zRow xM 43 95 = some (105, .invokevirtual 84, 98, 30, 3) := rfl
theorem zr_43_98 : zRow xM 43 98 = some (4, .iload 6, 100, 6, 0) := rfl
theorem zr_43_100 : zRow xM 43 100 = some (17, .isub, 101, 0, 0) := rfl
theorem zr_43_101 : zRow xM 43 101 = some (108, .ireturn, 102, 0, 0) := rfl
theorem zm_44 : zMt xM 44 = some (3, (some .boolean), 3, 0, 0) := rfl
theorem zr_44_0 : zRow xM 44 0 = some (7, .aload_n 0, 1, 0, 0) := rfl
theorem zr_44_1 : zRow xM 44 1 = some (46, .getfield 31, 4, 4, 10) := rfl
theorem zr_44_4 : zRow xM 44 4 = some (3, .iload_n 1, 5, 1, 0) := rfl
theorem zr_44_5 : zRow xM 44 5 = some (48, .iaload, 6, 0, 0) := rfl
theorem zr_44_6 : zRow xM 44 6 = some (3, .iload_n 2, 7, 2, 0) := rfl
theorem zr_44_7 : zRow xM 44 7 = some (41, .if_icmp .eq 13, 10, 20, 1) := rfl
theorem zr_44_10 : zRow xM 44 10 = some (7, .aload_n 0, 11, 0, 0) := rfl
theorem zr_44_11 : zRow xM 44 11 = some (46, .getfield 34, 14, 4, 11) := rfl
theorem zr_44_14 : zRow xM 44 14 = some (3, .iload_n 1, 15, 1, 0) := rfl
theorem zr_44_15 : zRow xM 44 15 = some (48, .iaload, 16, 0, 0) := rfl
theorem zr_44_16 : zRow xM 44 16 = some (3, .iload_n 2, 17, 2, 0) := rfl
theorem zr_44_17 : zRow xM 44 17 = some (41, .if_icmp .ne 7, 20, 24, 4) := rfl
theorem zr_44_20 : zRp 44 20 21 (0, 1) := ⟨_, _, _, _, rfl, by decide, Option.some_ne_none _, rfl⟩
theorem zr_44_21 : zRow xM 44 21 = some (42, .goto 4, 22, 25, 0) := rfl
theorem zr_44_24 : zRp 44 24 25 (0, 0) := ⟨_, _, _, _, rfl, by decide, Option.some_ne_none _, rfl⟩
theorem zr_44_25 : zRow xM 44 25 = some (108, .ireturn, 26, 0, 0) := rfl
theorem zm_45 : zMt xM 45 = some (5, (some .int), 4, 0, 0) := rfl
theorem zr_45_0 : zRow xM 45 0 = some (7, .aload_n 0, 1, 0, 0) := rfl
theorem zr_45_1 : zRow xM 45 1 = some (3, .iload_n 1, 2, 1, 0) := rfl
theorem zr_45_2 : zRow xM 45 2 = some (105, .invokevirtual 78, 5, 16, 3) := rfl
theorem zr_45_5 : zRp 45 5 6 (0, 0) := ⟨_, _, _, _, rfl, by decide, Option.some_ne_none _, rfl⟩
theorem zr_45_6 : zRow xM 45 6 = some (10, .istore 4, 8, 4, 0) := rfl
theorem zr_45_8 : zRow xM 45 8 = some (4, .iload 4, 10, 4, 0) := rfl
theorem zr_45_10 : zRow xM 45 10 = some (7, .aload_n 0, 11, 0, 0) := rfl
theorem zr_45_11 : zRow xM 45 11 = some (46, .getfield 28, 14, 3, 1) := rfl
theorem zr_45_14 : zRow xM 45 14 = some (46, .getfield 81, 17, 4, 1) := rfl
theorem zr_45_17 : zRow xM 45 17 = some (41, .if_icmp .ge 42, 20, 59, 3) := rfl
theorem zr_45_20 : zRow xM 45 20 = some (7, .aload_n 0, 21, 0, 0) := rfl
theorem zr_45_21 : zRow xM 45 21 = some (46, .getfield 28, 24, 3, 1) := rfl
theorem zr_45_24 : zRow xM 45 24 = some (46, .getfield 68, 27, 4, 9) := rfl
theorem zr_45_27 : zRow xM 45 27 = some (4, .iload 4, 29, 4, 0) := rfl
theorem zr_45_29 : zRow xM 45 29 = some (48, .iaload, 30, 0, 0) := rfl
theorem zr_45_30 : zRow xM 45 30 = some (3, .iload_n 3, 31, 3, 0) := rfl
theorem zr_45_31 : zRow xM 45 31 = some (41, .if_icmp .ne 16, 34, 47, 4) := rfl
theorem zr_45_34 : zRow xM 45 34 = some (7, .aload_n 0, 35, 0, 0) := rfl
theorem zr_45_35 : zRow xM 45 35 = some (46, .getfield 28, 38, 3, 1) := rfl
theorem zr_45_38 : zRow xM 45 38 = some (4, .iload 4, 40, 4, 0) := rfl
theorem zr_45_40 : zRow xM 45 40 = some (3, .iload_n 2, 41, 2, 0) := rfl
theorem zr_45_41 : zRow xM 45 41 = some (105, .invokevirtual 91, 44, 44, 4) := rfl
theorem zr_45_44 : zRow xM 45 44 = some (40, .ifCond .ne 9, 47, 53, 4) := rfl
theorem zr_45_47 : zRow xM 45 47 = some (7, .aload_n 0, 48, 0, 0) := rfl
theorem zr_45_48 : zRow xM 45 48 = some (4, .iload 4, 50, 4, 0) := rfl
theorem zr_45_50 : zRow xM 45 50 = some (105, .invokevirtual 51, 53, 26, 3) := rfl
theorem zr_45_53 : zRow xM 45 53 = some (15, .iinc 4 1, 56, 4, 1) := rfl
theorem zr_45_56 : zRow xM 45 56 = some (42, .goto (-48), 57, 8, 0) := rfl
theorem zr_45_59 : zRow xM 45 59 = some (7, .aload_n 0, 60, 0, 0) := rfl
theorem zr_45_60 : zRow xM 45 60 = some (46, .getfield 9, 63, 3, 0) := rfl
theorem zr_45_63 : zRow xM 45 63 = some (3, .iload_n 2, 64, 2, 0) := rfl
theorem zr_45_64 : zRow xM 45 64 = some (48, .iaload, 65, 0, 0) := rfl
theorem zr_45_65 : zRow xM 45 65 = some (108, .ireturn, 66, 0, 0) := rfl
theorem zm_46 : zMt xM 46 = some (3, (some .int), 2, 0, 0) := rfl
theorem zr_46_0 : zRow xM 46 0 = some (7, .aload_n 0, 1, 0, 0) := rfl
theorem zr_46_1 : zRow xM 46 1 = some (46, .getfield 9, 4, 3, 0) := rfl
theorem zr_46_4 : zRow xM 46 4 = some (7, .aload_n 0, 5, 0, 0) := rfl
theorem zr_46_5 : zRow xM 46 5 = some (46, .getfield 28, 8, 3, 1) := rfl
theorem zr_46_8 : zRow xM 46 8 = some (46, .getfield 55, 11, 4, 10) := rfl
theorem zr_46_11 : zRow xM 46 11 = some (3, .iload_n 1, 12, 1, 0) := rfl
theorem zr_46_12 : zRow xM 46 12 = some (48, .iaload, 13, 0, 0) := rfl
theorem zr_46_13 : zRow xM 46 13 = some (48, .iaload, 14, 0, 0) := rfl
theorem zr_46_14 : zRow xM 46 14 = some (7, .aload_n 0, 15, 0, 0) := rfl
theorem zr_46_15 : zRow xM 46 15 = some (46, .getfield 9, 18, 3, 0) := rfl
theorem zr_46_18 : zRow xM 46 18 = some (7, .aload_n 0, 19, 0, 0) := rfl
theorem zr_46_19 : zRow xM 46 19 = some (46, .getfield 28, 22, 3, 1) := rfl
theorem zr_46_22 : zRow xM 46 22 = some (46, .getfield 58, 25, 4, 11) := rfl
theorem zr_46_25 : zRow xM 46 25 = some (3, .iload_n 1, 26, 1, 0) := rfl
theorem zr_46_26 : zRow xM 46 26 = some (48, .iaload, 27, 0, 0) := rfl
theorem zr_46_27 : zRow xM 46 27 = some (48, .iaload, 28, 0, 0) := rfl
theorem zr_46_28 : zRow xM 46 28 = some (17, .isub, 29, 0, 0) := rfl
theorem zr_46_29 : zRow xM 46 29 = some (9, .istore_n 2, 30, 2, 0) := rfl
theorem zr_46_30 : zRow xM 46 30 = some (7, .aload_n 0, 31, 0, 0) := rfl
theorem zr_46_31 : zRow xM 46 31 = some (46, .getfield 28, 34, 3, 1) := rfl
theorem zr_46_34 : zRow xM 46 34 = some (46, .getfield 61, 37, 4, 12) := rfl
theorem zr_46_37 : zRow xM 46 37 = some (3, .iload_n 1, 38, 1, 0) := rfl
theorem zr_46_38 : zRow xM 46 38 = some (48, .iaload, 39, 0, 0) := rfl
theorem zr_46_39 : zRow xM 46 39 = some (112, .lookupswitch 45 #[(0, 25), (2, 35)], 40, 0, 0) := rfl
theorem zr_46_64 : zRow xM 46 64 = some (3, .iload_n 2, 65, 2, 0) := rfl
theorem zr_46_65 : zRow xM 46 65 = some (40, .ifCond .ge 7, 68, 72, 3) := rfl
theorem zr_46_68 : zRp 46 68 69 (0, 2) := ⟨_, _, _, _, rfl, by decide, Option.some_ne_none _, rfl⟩
theorem zr_46_69 : zRow xM 46 69 = some (42, .goto 4, 70, 73, 0) := rfl
theorem zr_46_72 : zRp 46 72 73 (0, 0) := ⟨_, _, _, _, rfl, by decide, Option.some_ne_none _, rfl⟩
theorem zr_46_73 : zRow xM 46 73 = some (108, .ireturn, 74, 0, 0) := rfl
theorem zr_46_74 : zRow xM 46 74 = some (3, .iload_n 2, 75, 2, 0) := rfl
theorem zr_46_75 : zRow xM 46 75 = some (40, .ifCond .le 7, 78, 82, 5) := rfl
theorem zr_46_78 : zRp 46 78 79 (0, 2) := ⟨_, _, _, _, rfl, by decide, Option.some_ne_none _, rfl⟩
theorem zr_46_79 : zRow xM 46 79 = some (42, .goto 4, 80, 83, 0) := rfl
theorem zr_46_82 : zRp 46 82 83 (0, 0) := ⟨_, _, _, _, rfl, by decide, Option.some_ne_none _, rfl⟩
theorem zr_46_83 : zRow xM 46 83 = some (108, .ireturn, 84, 0, 0) := rfl
theorem zr_46_84 : zRow xM 46 84 = some (3, .iload_n 2, 85, 2, 0) := rfl
theorem zr_46_85 : zRow xM 46 85 = some (122, .invokestatic 102, 88, 0, 0) := rfl
theorem zr_46_88 : zRp 46 88 90 (0, 50) := ⟨_, _, _, _, rfl, by decide, Option.some_ne_none _, rfl⟩
theorem zr_46_90 : zRow xM 46 90 = some (41, .if_icmp .gt 7, 93, 97, 2) := rfl
theorem zr_46_93 : zRp 46 93 94 (0, 1) := ⟨_, _, _, _, rfl, by decide, Option.some_ne_none _, rfl⟩
theorem zr_46_94 : zRow xM 46 94 = some (42, .goto 4, 95, 98, 0) := rfl
theorem zr_46_97 : zRp 46 97 98 (0, 0) := ⟨_, _, _, _, rfl, by decide, Option.some_ne_none _, rfl⟩
theorem zr_46_98 : zRow xM 46 98 = some (108, .ireturn, 99, 0, 0) := rfl
theorem zm_47 : zMt xM 47 = some (4, (some .int), 2, 0, 0) := rfl
theorem zr_47_0 : zRow xM 47 0 = some (7, .aload_n 0, 1, 0, 0) := rfl
theorem zr_47_1 : zRow xM 47 1 = some (3, .iload_n 1, 2, 1, 0) := rfl
theorem zr_47_2 : zRow xM 47 2 = some (105, .invokevirtual 78, 5, 16, 3) := rfl
theorem zr_47_5 : zRp 47 5 6 (0, 0) := ⟨_, _, _, _, rfl, by decide, Option.some_ne_none _, rfl⟩
theorem zr_47_6 : zRow xM 47 6 = some (9, .istore_n 2, 7, 2, 0) := rfl
theorem zr_47_7 : zRp 47 7 8 (0, 0) := ⟨_, _, _, _, rfl, by decide, Option.some_ne_none _, rfl⟩
theorem zr_47_8 : zRow xM 47 8 = some (9, .istore_n 3, 9, 3, 0) := rfl
theorem zr_47_9 : zRow xM 47 9 = some (3, .iload_n 3, 10, 3, 0) := rfl
theorem zr_47_10 : zRow xM 47 10 = some (7, .aload_n 0, 11, 0, 0) := rfl
theorem zr_47_11 : zRow xM 47 11 = some (46, .getfield 28, 14, 3, 1) := rfl
theorem zr_47_14 : zRow xM 47 14 = some (46, .getfield 81, 17, 4, 1) := rfl
theorem zr_47_17 : zRow xM 47 17 = some (41, .if_icmp .ge 33, 20, 50, 3) := rfl
theorem zr_47_20 : zRow xM 47 20 = some (7, .aload_n 0, 21, 0, 0) := rfl
theorem zr_47_21 : zRow xM 47 21 = some (46, .getfield 28, 24, 3, 1) := rfl
theorem zr_47_24 : zRow xM 47 24 = some (3, .iload_n 3, 25, 3, 0) := rfl
theorem zr_47_25 : zRow xM 47 25 = some (105, .invokevirtual 95, 28, 18, 4) := rfl
theorem zr_47_28 : zRow xM 47 28 = some (40, .ifCond .ne 11, 31, 39, 4) := rfl
theorem zr_47_31 : zRow xM 47 31 = some (3, .iload_n 2, 32, 2, 0) := rfl
theorem zr_47_32 : zRow xM 47 32 = some (7, .aload_n 0, 33, 0, 0) := rfl
theorem zr_47_33 : zRow xM 47 33 = some (3, .iload_n 3, 34, 3, 0) := rfl
theorem zr_47_34 : zRow xM 47 34 = some (105, .invokevirtual 99, 37, 46, 3) := rfl
theorem zr_47_37 : zRow xM 47 37 = some (16, .iadd, 38, 0, 0) := rfl
theorem zr_47_38 : zRow xM 47 38 = some (9, .istore_n 2, 39, 2, 0) := rfl
theorem zr_47_39 : zRow xM 47 39 = some (7, .aload_n 0, 40, 0, 0) := rfl
theorem zr_47_40 : zRow xM 47 40 = some (3, .iload_n 3, 41, 3, 0) := rfl
theorem zr_47_41 : zRow xM 47 41 = some (105, .invokevirtual 51, 44, 26, 3) := rfl
theorem zr_47_44 : zRow xM 47 44 = some (15, .iinc 3 1, 47, 3, 1) := rfl
theorem zr_47_47 : zRow xM 47 47 = some (42, .goto (-38), 48, 9, 0) := rfl
theorem zr_47_50 : zRow xM 47 50 = some (3, .iload_n 2, 51, 2, 0) := rfl
theorem zr_47_51 : zRow xM 47 51 = some (108, .ireturn, 52, 0, 0) := rfl
theorem zm_49 : zMt xM 49 = some (2, (some .boolean), 2, 0, 0) := rfl
theorem zr_49_0 : zRow xM 49 0 = some (3, .iload_n 1, 1, 1, 0) := rfl
theorem zr_49_1 : zRow xM 49 1 = some (40, .ifCond .lt 15, 4, 16, 0) := rfl
theorem zr_49_4 : zRow xM 49 4 = some (3, .iload_n 1, 5, 1, 0) := rfl
theorem zr_49_5 : zRow xM 49 5 = some (7, .aload_n 0, 6, 0, 0) := rfl
theorem zr_49_6 : zRow xM 49 6 = some (46, .getfield 55, 9, 4, 0) := rfl
theorem zr_49_9 : zRow xM 49 9 = some (41, .if_icmp .ge 7, 12, 16, 3) := rfl
theorem zr_49_12 : zRp 49 12 13 (0, 1) := ⟨_, _, _, _, rfl, by decide, Option.some_ne_none _, rfl⟩
theorem zr_49_13 : zRow xM 49 13 = some (42, .goto 4, 14, 17, 0) := rfl
theorem zr_49_16 : zRp 49 16 17 (0, 0) := ⟨_, _, _, _, rfl, by decide, Option.some_ne_none _, rfl⟩
theorem zr_49_17 : zRow xM 49 17 = some (108, .ireturn, 18, 0, 0) := rfl
theorem zm_50 : zMt xM 50 = some (3, (some .boolean), 3, 0, 0) := rfl
theorem zr_50_0 : zRow xM 50 0 = some (7, .aload_n 0, 1, 0, 0) := rfl
theorem zr_50_1 : zRow xM 50 1 = some (3, .iload_n 1, 2, 1, 0) := rfl
theorem zr_50_2 : zRow xM 50 2 = some (105, .invokevirtual 58, 5, 49, 4) := rfl
theorem zr_50_5 : zRow xM 50 5 = some (40, .ifCond .eq 20, 8, 25, 1) := rfl
theorem zr_50_8 : zRow xM 50 8 = some (7, .aload_n 0, 9, 0, 0) := rfl
theorem zr_50_9 : zRow xM 50 9 = some (3, .iload_n 2, 10, 2, 0) := rfl
theorem zr_50_10 : zRow xM 50 10 = some (105, .invokevirtual 58, 13, 49, 4) := rfl
theorem zr_50_13 : zRow xM 50 13 = some (40, .ifCond .eq 12, 16, 25, 1) := rfl
theorem zr_50_16 : zRow xM 50 16 = some (3, .iload_n 1, 17, 1, 0) := rfl
theorem zr_50_17 : zRow xM 50 17 = some (3, .iload_n 2, 18, 2, 0) := rfl
theorem zr_50_18 : zRow xM 50 18 = some (41, .if_icmp .eq 7, 21, 25, 1) := rfl
theorem zr_50_21 : zRp 50 21 22 (0, 1) := ⟨_, _, _, _, rfl, by decide, Option.some_ne_none _, rfl⟩
theorem zr_50_22 : zRow xM 50 22 = some (42, .goto 4, 23, 26, 0) := rfl
theorem zr_50_25 : zRp 50 25 26 (0, 0) := ⟨_, _, _, _, rfl, by decide, Option.some_ne_none _, rfl⟩
theorem zr_50_26 : zRow xM 50 26 = some (108, .ireturn, 27, 0, 0) := rfl
theorem zm_51 : zMt xM 51 = some (1, (some .int), 1, 0, 0) := rfl
theorem zr_51_0 : zRow xM 51 0 = some (7, .aload_n 0, 1, 0, 0) := rfl
theorem zr_51_1 : zRow xM 51 1 = some (46, .getfield 62, 4, 4, 1) := rfl
theorem zr_51_4 : zRow xM 51 4 = some (40, .ifCond .le 17, 7, 21, 5) := rfl
theorem zr_51_7 : zRow xM 51 7 = some (7, .aload_n 0, 8, 0, 0) := rfl
theorem zr_51_8 : zRow xM 51 8 = some (46, .getfield 28, 11, 4, 9) := rfl
theorem zr_51_11 : zRow xM 51 11 = some (7, .aload_n 0, 12, 0, 0) := rfl
theorem zr_51_12 : zRow xM 51 12 = some (46, .getfield 62, 15, 4, 1) := rfl
theorem zr_51_15 : zRp 51 15 16 (0, 1) := ⟨_, _, _, _, rfl, by decide, Option.some_ne_none _, rfl⟩
theorem zr_51_16 : zRow xM 51 16 = some (17, .isub, 17, 0, 0) := rfl
theorem zr_51_17 : zRow xM 51 17 = some (48, .iaload, 18, 0, 0) := rfl
theorem zr_51_18 : zRow xM 51 18 = some (42, .goto 4, 19, 22, 0) := rfl
theorem zr_51_21 : zRp 51 21 22 (0, 0) := ⟨_, _, _, _, rfl, by decide, Option.some_ne_none _, rfl⟩
theorem zr_51_22 : zRow xM 51 22 = some (108, .ireturn, 23, 0, 0) := rfl
theorem zm_52 : zMt xM 52 = some (7, (some .int), 6, 0, 0) := rfl
theorem zr_52_0 : zRow xM 52 0 = some (7, .aload_n 0, 1, 0, 0) := rfl
theorem zr_52_1 : zRow xM 52 1 = some (46, .getfield 62, 4, 4, 1) := rfl
theorem zr_52_4 : zRow xM 52 4 = some (10, .istore 6, 6, 6, 0) := rfl
theorem zr_52_6 : zRow xM 52 6 = some (7, .aload_n 0, 7, 0, 0) := rfl
theorem zr_52_7 : zRow xM 52 7 = some (46, .getfield 28, 10, 4, 9) := rfl
theorem zr_52_10 : zRow xM 52 10 = some (4, .iload 6, 12, 6, 0) := rfl
theorem zr_52_12 : zRow xM 52 12 = some (3, .iload_n 1, 13, 1, 0) := rfl
theorem zr_52_13 : zRow xM 52 13 = some (49, .iastore, 14, 0, 0) := rfl
theorem zr_52_14 : zRow xM 52 14 = some (7, .aload_n 0, 15, 0, 0) := rfl
theorem zr_52_15 : zRow xM 52 15 = some (46, .getfield 31, 18, 4, 10) := rfl
theorem zr_52_18 : zRow xM 52 18 = some (4, .iload 6, 20, 6, 0) := rfl
theorem zr_52_20 : zRow xM 52 20 = some (3, .iload_n 2, 21, 2, 0) := rfl
theorem zr_52_21 : zRow xM 52 21 = some (49, .iastore, 22, 0, 0) := rfl
theorem zr_52_22 : zRow xM 52 22 = some (7, .aload_n 0, 23, 0, 0) := rfl
theorem zr_52_23 : zRow xM 52 23 = some (46, .getfield 34, 26, 4, 11) := rfl
theorem zr_52_26 : zRow xM 52 26 = some (4, .iload 6, 28, 6, 0) := rfl
theorem zr_52_28 : zRow xM 52 28 = some (3, .iload_n 3, 29, 3, 0) := rfl
theorem zr_52_29 : zRow xM 52 29 = some (49, .iastore, 30, 0, 0) := rfl
theorem zr_52_30 : zRow xM 52 30 = some (7, .aload_n 0, 31, 0, 0) := rfl
theorem zr_52_31 : zRow xM 52 31 = some (46, .getfield 37, 34, 4, 12) := rfl
theorem zr_52_34 : zRow xM 52 34 = some (4, .iload 6, 36, 6, 0) := rfl
theorem zr_52_36 : zRow xM 52 36 = some (4, .iload 4, 38, 4, 0) := rfl
theorem zr_52_38 : zRow xM 52 38 = some (49, .iastore, 39, 0, 0) := rfl
theorem zr_52_39 : zRow xM 52 39 = some (4, .iload 5, 41, 5, 0) := rfl
theorem zr_52_41 : zRow xM 52 41 = some (40, .ifCond .eq 16, 44, 57, 1) := rfl
theorem zr_52_44 : zRow xM 52 44 = some (7, .aload_n 0, 45, 0, 0) := rfl
theorem zr_52_45 : zRow xM 52 45 = some (43, .dup, 46, 0, 0) := rfl
theorem zr_52_46 : zRow xM 52 46 = some (46, .getfield 65, 49, 4, 2) := rfl
theorem zr_52_49 : zRp 52 49 50 (1, 1) := ⟨_, _, _, _, rfl, by decide, Option.some_ne_none _, rfl⟩
theorem zr_52_50 : zRow xM 52 50 = some (4, .iload 6, 52, 6, 0) := rfl
theorem zr_52_52 : zRow xM 52 52 = some (33, .lshl, 53, 0, 0) := rfl
theorem zr_52_53 : zRow xM 52 53 = some (31, .lor, 54, 0, 0) := rfl
theorem zr_52_54 : zRow xM 52 54 = some (47, .putfield 65, 57, 4, 2) := rfl
theorem zr_52_57 : zRow xM 52 57 = some (7, .aload_n 0, 58, 0, 0) := rfl
theorem zr_52_58 : zRow xM 52 58 = some (43, .dup, 59, 0, 0) := rfl
theorem zr_52_59 : zRow xM 52 59 = some (46, .getfield 62, 62, 4, 1) := rfl
theorem zr_52_62 : zRp 52 62 63 (0, 1) := ⟨_, _, _, _, rfl, by decide, Option.some_ne_none _, rfl⟩
theorem zr_52_63 : zRow xM 52 63 = some (16, .iadd, 64, 0, 0) := rfl
theorem zr_52_64 : zRow xM 52 64 = some (47, .putfield 62, 67, 4, 1) := rfl
theorem zr_52_67 : zRow xM 52 67 = some (4, .iload 6, 69, 6, 0) := rfl
theorem zr_52_69 : zRow xM 52 69 = some (108, .ireturn, 70, 0, 0) := rfl
theorem zm_53 : zMt xM 53 = some (1, (some .long), 1, 0, 0) := rfl
theorem zr_53_0 : zRp 53 0 1 (1, 1) := ⟨_, _, _, _, rfl, by decide, Option.some_ne_none _, rfl⟩
theorem zr_53_1 : zRow xM 53 1 = some (7, .aload_n 0, 2, 0, 0) := rfl
theorem zr_53_2 : zRow xM 53 2 = some (46, .getfield 62, 5, 4, 1) := rfl
theorem zr_53_5 : zRow xM 53 5 = some (33, .lshl, 6, 0, 0) := rfl
theorem zr_53_6 : zRp 53 6 7 (1, 1) := ⟨_, _, _, _, rfl, by decide, Option.some_ne_none _, rfl⟩
theorem zr_53_7 : zRow xM 53 7 = some (28, .lsub, 8, 0, 0) := rfl
theorem zr_53_8 : zRow xM 53 8 = some (7, .aload_n 0, 9, 0, 0) := rfl
theorem zr_53_9 : zRow xM 53 9 = some (46, .getfield 65, 12, 4, 2) := rfl
theorem zr_53_12 : zRp 53 12 15 (1, -1) := ⟨_, _, _, _, rfl, by decide, Option.some_ne_none _, rfl⟩
theorem zr_53_15 : zRow xM 53 15 = some (32, .lxor, 16, 0, 0) := rfl
theorem zr_53_16 : zRow xM 53 16 = some (30, .land, 17, 0, 0) := rfl
theorem zr_53_17 : zRow xM 53 17 = some (7, .aload_n 0, 18, 0, 0) := rfl
theorem zr_53_18 : zRow xM 53 18 = some (46, .getfield 71, 21, 4, 3) := rfl
theorem zr_53_21 : zRp 53 21 24 (1, -1) := ⟨_, _, _, _, rfl, by decide, Option.some_ne_none _, rfl⟩
theorem zr_53_24 : zRow xM 53 24 = some (32, .lxor, 25, 0, 0) := rfl
theorem zr_53_25 : zRow xM 53 25 = some (30, .land, 26, 0, 0) := rfl
theorem zr_53_26 : zRow xM 53 26 = some (109, .lreturn, 27, 0, 0) := rfl
theorem zm_54 : zMt xM 54 = some (3, (some .int), 3, 0, 0) := rfl
theorem zr_54_0 : zRow xM 54 0 = some (7, .aload_n 0, 1, 0, 0) := rfl
theorem zr_54_1 : zRow xM 54 1 = some (46, .getfield 31, 4, 4, 10) := rfl
theorem zr_54_4 : zRow xM 54 4 = some (3, .iload_n 1, 5, 1, 0) := rfl
theorem zr_54_5 : zRow xM 54 5 = some (48, .iaload, 6, 0, 0) := rfl
theorem zr_54_6 : zRow xM 54 6 = some (3, .iload_n 2, 7, 2, 0) := rfl
theorem zr_54_7 : zRow xM 54 7 = some (41, .if_icmp .ne 12, 10, 19, 4) := rfl
theorem zr_54_10 : zRow xM 54 10 = some (7, .aload_n 0, 11, 0, 0) := rfl
theorem zr_54_11 : zRow xM 54 11 = some (46, .getfield 34, 14, 4, 11) := rfl
theorem zr_54_14 : zRow xM 54 14 = some (3, .iload_n 1, 15, 1, 0) := rfl
theorem zr_54_15 : zRow xM 54 15 = some (48, .iaload, 16, 0, 0) := rfl
theorem zr_54_16 : zRow xM 54 16 = some (42, .goto 9, 17, 25, 0) := rfl
theorem zr_54_19 : zRow xM 54 19 = some (7, .aload_n 0, 20, 0, 0) := rfl
theorem zr_54_20 : zRow xM 54 20 = some (46, .getfield 31, 23, 4, 10) := rfl
theorem zr_54_23 : zRow xM 54 23 = some (3, .iload_n 1, 24, 1, 0) := rfl
theorem zr_54_24 : zRow xM 54 24 = some (48, .iaload, 25, 0, 0) := rfl
theorem zr_54_25 : zRow xM 54 25 = some (108, .ireturn, 26, 0, 0) := rfl
theorem zm_55 : zMt xM 55 = some (4, (some .int), 2, 0, 0) := rfl
theorem zr_55_0 : zRp 55 0 1 (0, 0) := ⟨_, _, _, _, rfl, by decide, Option.some_ne_none _, rfl⟩
theorem zr_55_1 : zRow xM 55 1 = some (9, .istore_n 2, 2, 2, 0) := rfl
theorem zr_55_2 : zRp 55 2 3 (0, 0) := ⟨_, _, _, _, rfl, by decide, Option.some_ne_none _, rfl⟩
theorem zr_55_3 : zRow xM 55 3 = some (9, .istore_n 3, 4, 3, 0) := rfl
theorem zr_55_4 : zRow xM 55 4 = some (3, .iload_n 3, 5, 3, 0) := rfl
theorem zr_55_5 : zRow xM 55 5 = some (7, .aload_n 0, 6, 0, 0) := rfl
theorem zr_55_6 : zRow xM 55 6 = some (46, .getfield 62, 9, 4, 1) := rfl
theorem zr_55_9 : zRow xM 55 9 = some (41, .if_icmp .ge 27, 12, 36, 3) := rfl
theorem zr_55_12 : zRow xM 55 12 = some (7, .aload_n 0, 13, 0, 0) := rfl
theorem zr_55_13 : zRow xM 55 13 = some (46, .getfield 28, 16, 4, 9) := rfl
theorem zr_55_16 : zRow xM 55 16 = some (3, .iload_n 3, 17, 3, 0) := rfl
theorem zr_55_17 : zRow xM 55 17 = some (48, .iaload, 18, 0, 0) := rfl
theorem zr_55_18 : zRow xM 55 18 = some (3, .iload_n 1, 19, 1, 0) := rfl
theorem zr_55_19 : zRow xM 55 19 = some (41, .if_icmp .ne 11, 22, 30, 4) := rfl
theorem zr_55_22 : zRow xM 55 22 = some (3, .iload_n 2, 23, 2, 0) := rfl
theorem zr_55_23 : zRow xM 55 23 = some (7, .aload_n 0, 24, 0, 0) := rfl
theorem zr_55_24 : zRow xM 55 24 = some (3, .iload_n 3, 25, 3, 0) := rfl
theorem zr_55_25 : zRow xM 55 25 = some (105, .invokevirtual 74, 28, 27, 4) := rfl
theorem zr_55_28 : zRow xM 55 28 = some (22, .ior, 29, 0, 0) := rfl
theorem zr_55_29 : zRow xM 55 29 = some (9, .istore_n 2, 30, 2, 0) := rfl
theorem zr_55_30 : zRow xM 55 30 = some (15, .iinc 3 1, 33, 3, 1) := rfl
theorem zr_55_33 : zRow xM 55 33 = some (42, .goto (-29), 34, 4, 0) := rfl
theorem zr_55_36 : zRow xM 55 36 = some (3, .iload_n 2, 37, 2, 0) := rfl
theorem zr_55_37 : zRow xM 55 37 = some (108, .ireturn, 38, 0, 0) := rfl
theorem zm_56 : zMt xM 56 = some (5, (some .int), 3, 0, 0) := rfl
theorem zr_56_0 : zRp 56 0 1 (0, 0) := ⟨_, _, _, _, rfl, by decide, Option.some_ne_none _, rfl⟩
theorem zr_56_1 : zRow xM 56 1 = some (9, .istore_n 3, 2, 3, 0) := rfl
theorem zr_56_2 : zRp 56 2 3 (0, 0) := ⟨_, _, _, _, rfl, by decide, Option.some_ne_none _, rfl⟩
theorem zr_56_3 : zRow xM 56 3 = some (10, .istore 4, 5, 4, 0) := rfl
theorem zr_56_5 : zRow xM 56 5 = some (4, .iload 4, 7, 4, 0) := rfl
theorem zr_56_7 : zRow xM 56 7 = some (7, .aload_n 0, 8, 0, 0) := rfl
theorem zr_56_8 : zRow xM 56 8 = some (46, .getfield 62, 11, 4, 1) := rfl
theorem zr_56_11 : zRow xM 56 11 = some (41, .if_icmp .ge 32, 14, 43, 3) := rfl
theorem zr_56_14 : zRow xM 56 14 = some (7, .aload_n 0, 15, 0, 0) := rfl
theorem zr_56_15 : zRow xM 56 15 = some (4, .iload 4, 17, 4, 0) := rfl
theorem zr_56_17 : zRow xM 56 17 = some (3, .iload_n 1, 18, 1, 0) := rfl
theorem zr_56_18 : zRow xM 56 18 = some (105, .invokevirtual 78, 21, 44, 4) := rfl
theorem zr_56_21 : zRow xM 56 21 = some (40, .ifCond .eq 16, 24, 37, 1) := rfl
theorem zr_56_24 : zRow xM 56 24 = some (7, .aload_n 0, 25, 0, 0) := rfl
theorem zr_56_25 : zRow xM 56 25 = some (4, .iload 4, 27, 4, 0) := rfl
theorem zr_56_27 : zRow xM 56 27 = some (3, .iload_n 2, 28, 2, 0) := rfl
theorem zr_56_28 : zRow xM 56 28 = some (105, .invokevirtual 78, 31, 44, 4) := rfl
theorem zr_56_31 : zRow xM 56 31 = some (40, .ifCond .eq 6, 34, 37, 1) := rfl
theorem zr_56_34 : zRow xM 56 34 = some (15, .iinc 3 1, 37, 3, 1) := rfl
theorem zr_56_37 : zRow xM 56 37 = some (15, .iinc 4 1, 40, 4, 1) := rfl
theorem zr_56_40 : zRow xM 56 40 = some (42, .goto (-35), 41, 5, 0) := rfl
theorem zr_56_43 : zRow xM 56 43 = some (3, .iload_n 3, 44, 3, 0) := rfl
theorem zr_56_44 : zRow xM 56 44 = some (108, .ireturn, 45, 0, 0) := rfl
theorem zm_57 : zMt xM 57 = some (5, (some .int), 3, 0, 0) := rfl
theorem zr_57_0 : zRp 57 0 1 (0, 0) := ⟨_, _, _, _, rfl, by decide, Option.some_ne_none _, rfl⟩
theorem zr_57_1 : zRow xM 57 1 = some (9, .istore_n 3, 2, 3, 0) := rfl
theorem zr_57_2 : zRp 57 2 3 (0, 0) := ⟨_, _, _, _, rfl, by decide, Option.some_ne_none _, rfl⟩
theorem zr_57_3 : zRow xM 57 3 = some (10, .istore 4, 5, 4, 0) := rfl
theorem zr_57_5 : zRow xM 57 5 = some (4, .iload 4, 7, 4, 0) := rfl
theorem zr_57_7 : zRow xM 57 7 = some (7, .aload_n 0, 8, 0, 0) := rfl
theorem zr_57_8 : zRow xM 57 8 = some (46, .getfield 62, 11, 4, 1) := rfl
theorem zr_57_11 : zRow xM 57 11 = some (41, .if_icmp .ge 43, 14, 54, 3) := rfl
theorem zr_57_14 : zRow xM 57 14 = some (7, .aload_n 0, 15, 0, 0) := rfl
theorem zr_57_15 : zRow xM 57 15 = some (4, .iload 4, 17, 4, 0) := rfl
theorem zr_57_17 : zRow xM 57 17 = some (3, .iload_n 1, 18, 1, 0) := rfl
theorem zr_57_18 : zRow xM 57 18 = some (105, .invokevirtual 78, 21, 44, 4) := rfl
theorem zr_57_21 : zRow xM 57 21 = some (40, .ifCond .eq 27, 24, 48, 1) := rfl
theorem zr_57_24 : zRow xM 57 24 = some (7, .aload_n 0, 25, 0, 0) := rfl
theorem zr_57_25 : zRow xM 57 25 = some (4, .iload 4, 27, 4, 0) := rfl
theorem zr_57_27 : zRow xM 57 27 = some (3, .iload_n 2, 28, 2, 0) := rfl
theorem zr_57_28 : zRow xM 57 28 = some (105, .invokevirtual 78, 31, 44, 4) := rfl
theorem zr_57_31 : zRow xM 57 31 = some (40, .ifCond .eq 17, 34, 48, 1) := rfl
theorem zr_57_34 : zRow xM 57 34 = some (7, .aload_n 0, 35, 0, 0) := rfl
theorem zr_57_35 : zRow xM 57 35 = some (46, .getfield 37, 38, 4, 12) := rfl
theorem zr_57_38 : zRow xM 57 38 = some (4, .iload 4, 40, 4, 0) := rfl
theorem zr_57_40 : zRow xM 57 40 = some (48, .iaload, 41, 0, 0) := rfl
theorem zr_57_41 : zRp 57 41 42 (0, 1) := ⟨_, _, _, _, rfl, by decide, Option.some_ne_none _, rfl⟩
theorem zr_57_42 : zRow xM 57 42 = some (41, .if_icmp .ne 6, 45, 48, 4) := rfl
theorem zr_57_45 : zRow xM 57 45 = some (15, .iinc 3 1, 48, 3, 1) := rfl
theorem zr_57_48 : zRow xM 57 48 = some (15, .iinc 4 1, 51, 4, 1) := rfl
theorem zr_57_51 : zRow xM 57 51 = some (42, .goto (-46), 52, 5, 0) := rfl
theorem zr_57_54 : zRow xM 57 54 = some (3, .iload_n 3, 55, 3, 0) := rfl
theorem zr_57_55 : zRow xM 57 55 = some (108, .ireturn, 56, 0, 0) := rfl
theorem zm_58 : zMt xM 58 = some (3, (some .int), 3, 0, 0) := rfl
theorem zr_58_0 : zRow xM 58 0 = some (7, .aload_n 0, 1, 0, 0) := rfl
theorem zr_58_1 : zRow xM 58 1 = some (46, .getfield 49, 4, 4, 16) := rfl
theorem zr_58_4 : zRp 58 4 5 (0, 0) := ⟨_, _, _, _, rfl, by decide, Option.some_ne_none _, rfl⟩
theorem zr_58_5 : zRp 58 5 8 (0, 159) := ⟨_, _, _, _, rfl, by decide, Option.some_ne_none _, rfl⟩
theorem zr_58_8 : zRow xM 58 8 = some (3, .iload_n 2, 9, 2, 0) := rfl
theorem zr_58_9 : zRow xM 58 9 = some (7, .aload_n 0, 10, 0, 0) := rfl
theorem zr_58_10 : zRow xM 58 10 = some (46, .getfield 18, 13, 4, 6) := rfl
theorem zr_58_13 : zRow xM 58 13 = some (3, .iload_n 1, 14, 1, 0) := rfl
theorem zr_58_14 : zRow xM 58 14 = some (48, .iaload, 15, 0, 0) := rfl
theorem zr_58_15 : zRow xM 58 15 = some (17, .isub, 16, 0, 0) := rfl
theorem zr_58_16 : zRow xM 58 16 = some (121, .invokestatic 82, 19, 0, 0) := rfl
theorem zr_58_19 : zRow xM 58 19 = some (120, .invokestatic 88, 22, 0, 0) := rfl
theorem zr_58_22 : zRow xM 58 22 = some (48, .iaload, 23, 0, 0) := rfl
theorem zr_58_23 : zRow xM 58 23 = some (108, .ireturn, 24, 0, 0) := rfl
theorem zm_59 : zMt xM 59 = some (4, (some .int), 2, 0, 0) := rfl
theorem zr_59_0 : zRp 59 0 1 (0, 0) := ⟨_, _, _, _, rfl, by decide, Option.some_ne_none _, rfl⟩
theorem zr_59_1 : zRow xM 59 1 = some (9, .istore_n 2, 2, 2, 0) := rfl
theorem zr_59_2 : zRp 59 2 3 (0, 0) := ⟨_, _, _, _, rfl, by decide, Option.some_ne_none _, rfl⟩
theorem zr_59_3 : zRow xM 59 3 = some (9, .istore_n 3, 4, 3, 0) := rfl
theorem zr_59_4 : zRow xM 59 4 = some (3, .iload_n 3, 5, 3, 0) := rfl
theorem zr_59_5 : zRp 59 5 6 (0, 4) := ⟨_, _, _, _, rfl, by decide, Option.some_ne_none _, rfl⟩
theorem zr_59_6 : zRow xM 59 6 = some (41, .if_icmp .ge 22, 9, 28, 3) := rfl
theorem zr_59_9 : zRow xM 59 9 = some (3, .iload_n 2, 10, 2, 0) := rfl
theorem zr_59_10 : zRow xM 59 10 = some (7, .aload_n 0, 11, 0, 0) := rfl
theorem zr_59_11 : zRow xM 59 11 = some (46, .getfield 22, 14, 4, 7) := rfl
theorem zr_59_14 : zRow xM 59 14 = some (3, .iload_n 1, 15, 1, 0) := rfl
theorem zr_59_15 : zRp 59 15 16 (0, 4) := ⟨_, _, _, _, rfl, by decide, Option.some_ne_none _, rfl⟩
theorem zr_59_16 : zRow xM 59 16 = some (18, .imul, 17, 0, 0) := rfl
theorem zr_59_17 : zRow xM 59 17 = some (3, .iload_n 3, 18, 3, 0) := rfl
theorem zr_59_18 : zRow xM 59 18 = some (16, .iadd, 19, 0, 0) := rfl
theorem zr_59_19 : zRow xM 59 19 = some (48, .iaload, 20, 0, 0) := rfl
theorem zr_59_20 : zRow xM 59 20 = some (16, .iadd, 21, 0, 0) := rfl
theorem zr_59_21 : zRow xM 59 21 = some (9, .istore_n 2, 22, 2, 0) := rfl
theorem zr_59_22 : zRow xM 59 22 = some (15, .iinc 3 1, 25, 3, 1) := rfl
theorem zr_59_25 : zRow xM 59 25 = some (42, .goto (-21), 26, 4, 0) := rfl
theorem zr_59_28 : zRow xM 59 28 = some (3, .iload_n 2, 29, 2, 0) := rfl
theorem zr_59_29 : zRow xM 59 29 = some (108, .ireturn, 30, 0, 0) := rfl
theorem zm_60 : zMt xM 60 = some (4, (some .int), 2, 0, 0) := rfl
theorem zr_60_0 : zRp 60 0 1 (0, 0) := ⟨_, _, _, _, rfl, by decide, Option.some_ne_none _, rfl⟩
theorem zr_60_1 : zRow xM 60 1 = some (9, .istore_n 2, 2, 2, 0) := rfl
theorem zr_60_2 : zRp 60 2 3 (0, 0) := ⟨_, _, _, _, rfl, by decide, Option.some_ne_none _, rfl⟩
theorem zr_60_3 : zRow xM 60 3 = some (9, .istore_n 3, 4, 3, 0) := rfl
theorem zr_60_4 : zRow xM 60 4 = some (3, .iload_n 3, 5, 3, 0) := rfl
theorem zr_60_5 : zRp 60 5 6 (0, 4) := ⟨_, _, _, _, rfl, by decide, Option.some_ne_none _, rfl⟩
theorem zr_60_6 : zRow xM 60 6 = some (41, .if_icmp .ge 22, 9, 28, 3) := rfl
theorem zr_60_9 : zRow xM 60 9 = some (3, .iload_n 2, 10, 2, 0) := rfl
theorem zr_60_10 : zRow xM 60 10 = some (7, .aload_n 0, 11, 0, 0) := rfl
theorem zr_60_11 : zRow xM 60 11 = some (46, .getfield 25, 14, 4, 8) := rfl
theorem zr_60_14 : zRow xM 60 14 = some (3, .iload_n 1, 15, 1, 0) := rfl
theorem zr_60_15 : zRp 60 15 16 (0, 4) := ⟨_, _, _, _, rfl, by decide, Option.some_ne_none _, rfl⟩
theorem zr_60_16 : zRow xM 60 16 = some (18, .imul, 17, 0, 0) := rfl
theorem zr_60_17 : zRow xM 60 17 = some (3, .iload_n 3, 18, 3, 0) := rfl
theorem zr_60_18 : zRow xM 60 18 = some (16, .iadd, 19, 0, 0) := rfl
theorem zr_60_19 : zRow xM 60 19 = some (48, .iaload, 20, 0, 0) := rfl
theorem zr_60_20 : zRow xM 60 20 = some (16, .iadd, 21, 0, 0) := rfl
theorem zr_60_21 : zRow xM 60 21 = some (9, .istore_n 2, 22, 2, 0) := rfl
theorem zr_60_22 : zRow xM 60 22 = some (15, .iinc 3 1, 25, 3, 1) := rfl
theorem zr_60_25 : zRow xM 60 25 = some (42, .goto (-21), 26, 4, 0) := rfl
theorem zr_60_28 : zRow xM 60 28 = some (3, .iload_n 2, 29, 2, 0) := rfl
theorem zr_60_29 : zRow xM 60 29 = some (108, .ireturn, 30, 0, 0) := rfl
theorem zm_61 : zMt xM 61 = some (2, none, 2, 0, 0) := rfl
theorem zr_61_0 : zRow xM 61 0 = some (7, .aload_n 0, 1, 0, 0) := rfl
theorem zr_61_1 : zRow xM 61 1 = some (7, .aload_n 1, 2, 1, 0) := rfl
theorem zr_61_2 : zRow xM 61 2 = some (46, .getfield 55, 5, 4, 0) := rfl
theorem zr_61_5 : zRow xM 61 5 = some (47, .putfield 55, 8, 4, 0) := rfl
theorem zr_61_8 : zRow xM 61 8 = some (7, .aload_n 0, 9, 0, 0) := rfl
theorem zr_61_9 : zRow xM 61 9 = some (7, .aload_n 1, 10, 1, 0) := rfl
theorem zr_61_10 : zRow xM 61 10 = some (46, .getfield 62, 13, 4, 1) := rfl
theorem zr_61_13 : zRow xM 61 13 = some (47, .putfield 62, 16, 4, 1) := rfl
theorem zr_61_16 : zRow xM 61 16 = some (7, .aload_n 0, 17, 0, 0) := rfl
theorem zr_61_17 : zRow xM 61 17 = some (7, .aload_n 1, 18, 1, 0) := rfl
theorem zr_61_18 : zRow xM 61 18 = some (46, .getfield 65, 21, 4, 2) := rfl
theorem zr_61_21 : zRow xM 61 21 = some (47, .putfield 65, 24, 4, 2) := rfl
theorem zr_61_24 : zRow xM 61 24 = some (7, .aload_n 0, 25, 0, 0) := rfl
theorem zr_61_25 : zRow xM 61 25 = some (7, .aload_n 1, 26, 1, 0) := rfl
theorem zr_61_26 : zRow xM 61 26 = some (46, .getfield 71, 29, 4, 3) := rfl
theorem zr_61_29 : zRow xM 61 29 = some (47, .putfield 71, 32, 4, 3) := rfl
theorem zr_61_32 : zRow xM 61 32 = some (7, .aload_n 0, 33, 0, 0) := rfl
theorem zr_61_33 : zRow xM 61 33 = some (7, .aload_n 1, 34, 1, 0) := rfl
theorem zr_61_34 : zRow xM 61 34 = some (46, .getfield 9, 37, 4, 4) := rfl
theorem zr_61_37 : zRow xM 61 37 = some (47, .putfield 9, 40, 4, 4) := rfl
theorem zr_61_40 : zRow xM 61 40 = some (7, .aload_n 0, 41, 0, 0) := rfl
theorem zr_61_41 : zRow xM 61 41 = some (7, .aload_n 1, 42, 1, 0) := rfl
theorem zr_61_42 : zRow xM 61 42 = some (46, .getfield 15, 45, 4, 5) := rfl
theorem zr_61_45 : zRow xM 61 45 = some (47, .putfield 15, 48, 4, 5) := rfl
theorem zr_61_48 : zRow xM 61 48 = some (7, .aload_n 1, 49, 1, 0) := rfl
theorem zr_61_49 : zRow xM 61 49 = some (46, .getfield 18, 52, 4, 6) := rfl
theorem zr_61_52 : zRp 61 52 53 (0, 0) := ⟨_, _, _, _, rfl, by decide, Option.some_ne_none _, rfl⟩
theorem zr_61_53 : zRow xM 61 53 = some (7, .aload_n 0, 54, 0, 0) := rfl
theorem zr_61_54 : zRow xM 61 54 = some (46, .getfield 18, 57, 4, 6) := rfl
theorem zr_61_57 : zRp 61 57 58 (0, 0) := ⟨_, _, _, _, rfl, by decide, Option.some_ne_none _, rfl⟩
theorem zr_61_58 : zRp 61 58 60 (0, 10) := ⟨_, _, _, _, rfl, by decide, Option.some_ne_none _, rfl⟩
theorem zr_61_60 : zRow xM 61 60 = some (114, .invokestatic 91, 63, 998, 0) := rfl
theorem zr_61_63 : zRow xM 61 63 = some (7, .aload_n 1, 64, 1, 0) := rfl
theorem zr_61_64 : zRow xM 61 64 = some (46, .getfield 22, 67, 4, 7) := rfl
theorem zr_61_67 : zRp 61 67 68 (0, 0) := ⟨_, _, _, _, rfl, by decide, Option.some_ne_none _, rfl⟩
theorem zr_61_68 : zRow xM 61 68 = some (7, .aload_n 0, 69, 0, 0) := rfl
theorem zr_61_69 : zRow xM 61 69 = some (46, .getfield 22, 72, 4, 7) := rfl
theorem zr_61_72 : zRp 61 72 73 (0, 0) := ⟨_, _, _, _, rfl, by decide, Option.some_ne_none _, rfl⟩
theorem zr_61_73 : zRp 61 73 75 (0, 40) := ⟨_, _, _, _, rfl, by decide, Option.some_ne_none _, rfl⟩
theorem zr_61_75 : zRow xM 61 75 = some (114, .invokestatic 91, 78, 998, 0) := rfl
theorem zr_61_78 : zRow xM 61 78 = some (7, .aload_n 1, 79, 1, 0) := rfl
theorem zr_61_79 : zRow xM 61 79 = some (46, .getfield 25, 82, 4, 8) := rfl
theorem zr_61_82 : zRp 61 82 83 (0, 0) := ⟨_, _, _, _, rfl, by decide, Option.some_ne_none _, rfl⟩
theorem zr_61_83 : zRow xM 61 83 = some (7, .aload_n 0, 84, 0, 0) := rfl
theorem zr_61_84 : zRow xM 61 84 = some (46, .getfield 25, 87, 4, 8) := rfl
theorem zr_61_87 : zRp 61 87 88 (0, 0) := ⟨_, _, _, _, rfl, by decide, Option.some_ne_none _, rfl⟩
theorem zr_61_88 : zRp 61 88 90 (0, 40) := ⟨_, _, _, _, rfl, by decide, Option.some_ne_none _, rfl⟩
theorem zr_61_90 : zRow xM 61 90 = some (114, .invokestatic 91, 93, 998, 0) := rfl
theorem zr_61_93 : zRow xM 61 93 = some (7, .aload_n 1, 94, 1, 0) := rfl
theorem zr_61_94 : zRow xM 61 94 = some (46, .getfield 28, 97, 4, 9) := rfl
theorem zr_61_97 : zRp 61 97 98 (0, 0) := ⟨_, _, _, _, rfl, by decide, Option.some_ne_none _, rfl⟩
theorem zr_61_98 : zRow xM 61 98 = some (7, .aload_n 0, 99, 0, 0) := rfl
theorem zr_61_99 : zRow xM 61 99 = some (46, .getfield 28, 102, 4, 9) := rfl
theorem zr_61_102 : zRp 61 102 103 (0, 0) := ⟨_, _, _, _, rfl, by decide, Option.some_ne_none _, rfl⟩
theorem zr_61_103 : zRp 61 103 105 (0, 60) := ⟨_, _, _, _, rfl, by decide, Option.some_ne_none _, rfl⟩
theorem zr_61_105 : zRow xM 61 105 = some (114, .invokestatic 91, 108, 998, 0) := rfl
theorem zr_61_108 : zRow xM 61 108 = some (7, .aload_n 1, 109, 1, 0) := rfl
theorem zr_61_109 : zRow xM 61 109 = some (46, .getfield 31, 112, 4, 10) := rfl
theorem zr_61_112 : zRp 61 112 113 (0, 0) := ⟨_, _, _, _, rfl, by decide, Option.some_ne_none _, rfl⟩
theorem zr_61_113 : zRow xM 61 113 = some (7, .aload_n 0, 114, 0, 0) := rfl
theorem zr_61_114 : zRow xM 61 114 = some (46, .getfield 31, 117, 4, 10) := rfl
theorem zr_61_117 : zRp 61 117 118 (0, 0) := ⟨_, _, _, _, rfl, by decide, Option.some_ne_none _, rfl⟩
theorem zr_61_118 : zRp 61 118 120 (0, 60) := ⟨_, _, _, _, rfl, by decide, Option.some_ne_none _, rfl⟩
theorem zr_61_120 : zRow xM 61 120 = some (114, .invokestatic 91, 123, 998, 0) := rfl
theorem zr_61_123 : zRow xM 61 123 = some (7, .aload_n 1, 124, 1, 0) := rfl
theorem zr_61_124 : zRow xM 61 124 = some (46, .getfield 34, 127, 4, 11) := rfl
theorem zr_61_127 : zRp 61 127 128 (0, 0) := ⟨_, _, _, _, rfl, by decide, Option.some_ne_none _, rfl⟩
theorem zr_61_128 : zRow xM 61 128 = some (7, .aload_n 0, 129, 0, 0) := rfl
theorem zr_61_129 : zRow xM 61 129 = some (46, .getfield 34, 132, 4, 11) := rfl
theorem zr_61_132 : zRp 61 132 133 (0, 0) := ⟨_, _, _, _, rfl, by decide, Option.some_ne_none _, rfl⟩
theorem zr_61_133 : zRp 61 133 135 (0, 60) := ⟨_, _, _, _, rfl, by decide, Option.some_ne_none _, rfl⟩
theorem zr_61_135 : zRow xM 61 135 = some (114, .invokestatic 91, 138, 998, 0) := rfl
theorem zr_61_138 : zRow xM 61 138 = some (7, .aload_n 1, 139, 1, 0) := rfl
theorem zr_61_139 : zRow xM 61 139 = some (46, .getfield 37, 142, 4, 12) := rfl
theorem zr_61_142 : zRp 61 142 143 (0, 0) := ⟨_, _, _, _, rfl, by decide, Option.some_ne_none _, rfl⟩
theorem zr_61_143 : zRow xM 61 143 = some (7, .aload_n 0, 144, 0, 0) := rfl
theorem zr_61_144 : zRow xM 61 144 = some (46, .getfield 37, 147, 4, 12) := rfl
theorem zr_61_147 : zRp 61 147 148 (0, 0) := ⟨_, _, _, _, rfl, by decide, Option.some_ne_none _, rfl⟩
theorem zr_61_148 : zRp 61 148 150 (0, 60) := ⟨_, _, _, _, rfl, by decide, Option.some_ne_none _, rfl⟩
theorem zr_61_150 : zRow xM 61 150 = some (114, .invokestatic 91, 153, 998, 0) := rfl
theorem zr_61_153 : zRow xM 61 153 = some (7, .aload_n 1, 154, 1, 0) := rfl
theorem zr_61_154 : zRow xM 61 154 = some (46, .getfield 40, 157, 4, 13) := rfl
theorem zr_61_157 : zRp 61 157 158 (0, 0) := ⟨_, _, _, _, rfl, by decide, Option.some_ne_none _, rfl⟩
theorem zr_61_158 : zRow xM 61 158 = some (7, .aload_n 0, 159, 0, 0) := rfl
theorem zr_61_159 : zRow xM 61 159 = some (46, .getfield 40, 162, 4, 13) := rfl
theorem zr_61_162 : zRp 61 162 163 (0, 0) := ⟨_, _, _, _, rfl, by decide, Option.some_ne_none _, rfl⟩
theorem zr_61_163 : zRp 61 163 164 (0, 4) := ⟨_, _, _, _, rfl, by decide, Option.some_ne_none _, rfl⟩
theorem zr_61_164 : zRow xM 61 164 = some (114, .invokestatic 91, 167, 998, 0) := rfl
theorem zr_61_167 : zRow xM 61 167 = some (7, .aload_n 1, 168, 1, 0) := rfl
theorem zr_61_168 : zRow xM 61 168 = some (46, .getfield 43, 171, 4, 14) := rfl
theorem zr_61_171 : zRp 61 171 172 (0, 0) := ⟨_, _, _, _, rfl, by decide, Option.some_ne_none _, rfl⟩
theorem zr_61_172 : zRow xM 61 172 = some (7, .aload_n 0, 173, 0, 0) := rfl
theorem zr_61_173 : zRow xM 61 173 = some (46, .getfield 43, 176, 4, 14) := rfl
theorem zr_61_176 : zRp 61 176 177 (0, 0) := ⟨_, _, _, _, rfl, by decide, Option.some_ne_none _, rfl⟩
theorem zr_61_177 : zRp 61 177 178 (0, 4) := ⟨_, _, _, _, rfl, by decide, Option.some_ne_none _, rfl⟩
theorem zr_61_178 : zRow xM 61 178 = some (114, .invokestatic 91, 181, 998, 0) := rfl
theorem zr_61_181 : zRow xM 61 181 = some (7, .aload_n 1, 182, 1, 0) := rfl
theorem zr_61_182 : zRow xM 61 182 = some (46, .getfield 46, 185, 4, 15) := rfl
theorem zr_61_185 : zRp 61 185 186 (0, 0) := ⟨_, _, _, _, rfl, by decide, Option.some_ne_none _, rfl⟩
theorem zr_61_186 : zRow xM 61 186 = some (7, .aload_n 0, 187, 0, 0) := rfl
theorem zr_61_187 : zRow xM 61 187 = some (46, .getfield 46, 190, 4, 15) := rfl
theorem zr_61_190 : zRp 61 190 191 (0, 0) := ⟨_, _, _, _, rfl, by decide, Option.some_ne_none _, rfl⟩
theorem zr_61_191 : zRp 61 191 194 (0, 200) := ⟨_, _, _, _, rfl, by decide, Option.some_ne_none _, rfl⟩
theorem zr_61_194 : zRow xM 61 194 = some (114, .invokestatic 91, 197, 998, 0) := rfl
theorem zr_61_197 : zRow xM 61 197 = some (7, .aload_n 1, 198, 1, 0) := rfl
theorem zr_61_198 : zRow xM 61 198 = some (46, .getfield 49, 201, 4, 16) := rfl
theorem zr_61_201 : zRp 61 201 202 (0, 0) := ⟨_, _, _, _, rfl, by decide, Option.some_ne_none _, rfl⟩
theorem zr_61_202 : zRow xM 61 202 = some (7, .aload_n 0, 203, 0, 0) := rfl
theorem zr_61_203 : zRow xM 61 203 = some (46, .getfield 49, 206, 4, 16) := rfl
theorem zr_61_206 : zRp 61 206 207 (0, 0) := ⟨_, _, _, _, rfl, by decide, Option.some_ne_none _, rfl⟩
theorem zr_61_207 : zRp 61 207 210 (0, 160) := ⟨_, _, _, _, rfl, by decide, Option.some_ne_none _, rfl⟩
theorem zr_61_210 : zRow xM 61 210 = some (114, .invokestatic 91, 213, 998, 0) := rfl
theorem zr_61_213 : zRow xM 61 213 = some (7, .aload_n 1, 214, 1, 0) := rfl
theorem zr_61_214 : zRow xM 61 214 = some (46, .getfield 52, 217, 4, 17) := rfl
theorem zr_61_217 : zRp 61 217 218 (0, 0) := ⟨_, _, _, _, rfl, by decide, Option.some_ne_none _, rfl⟩
theorem zr_61_218 : zRow xM 61 218 = some (7, .aload_n 0, 219, 0, 0) := rfl
theorem zr_61_219 : zRow xM 61 219 = some (46, .getfield 52, 222, 4, 17) := rfl
theorem zr_61_222 : zRp 61 222 223 (0, 0) := ⟨_, _, _, _, rfl, by decide, Option.some_ne_none _, rfl⟩
theorem zr_61_223 : zRp 61 223 224 (0, 4) := ⟨_, _, _, _, rfl, by decide, Option.some_ne_none _, rfl⟩
theorem zr_61_224 : zRow xM 61 224 = some (114, .invokestatic 91, 227, 998, 0) := rfl
theorem zr_61_227 : zRow xM 61 227 = some (110, .return_, 228, 0, 0) := rfl
theorem zm_62 : zMt xM 62 = some (7, (some .long), 2, 0, 0) := rfl
theorem zr_62_0 : zRow xM 62 0 = some (5, .lload_n 1, 1, 1, 0) := rfl
theorem zr_62_1 : zRow xM 62 1 = some (13, .lstore_n 3, 2, 3, 0) := rfl
theorem zr_62_2 : zRp 62 2 3 (0, 0) := ⟨_, _, _, _, rfl, by decide, Option.some_ne_none _, rfl⟩
theorem zr_62_3 : zRow xM 62 3 = some (10, .istore 5, 5, 5, 0) := rfl
theorem zr_62_5 : zRow xM 62 5 = some (4, .iload 5, 7, 5, 0) := rfl
theorem zr_62_7 : zRow xM 62 7 = some (7, .aload_n 0, 8, 0, 0) := rfl
theorem zr_62_8 : zRow xM 62 8 = some (46, .getfield 55, 11, 4, 0) := rfl
theorem zr_62_11 : zRow xM 62 11 = some (41, .if_icmp .ge 79, 14, 90, 3) := rfl
theorem zr_62_14 : zRp 62 14 17 (1, 31) := ⟨_, _, _, _, rfl, by decide, Option.some_ne_none _, rfl⟩
theorem zr_62_17 : zRow xM 62 17 = some (5, .lload_n 3, 18, 3, 0) := rfl
theorem zr_62_18 : zRow xM 62 18 = some (29, .lmul, 19, 0, 0) := rfl
theorem zr_62_19 : zRow xM 62 19 = some (7, .aload_n 0, 20, 0, 0) := rfl
theorem zr_62_20 : zRow xM 62 20 = some (46, .getfield 18, 23, 4, 6) := rfl
theorem zr_62_23 : zRow xM 62 23 = some (4, .iload 5, 25, 5, 0) := rfl
theorem zr_62_25 : zRow xM 62 25 = some (48, .iaload, 26, 0, 0) := rfl
theorem zr_62_26 : zRow xM 62 26 = some (36, .i2l, 27, 0, 0) := rfl
theorem zr_62_27 : zRow xM 62 27 = some (27, .ladd, 28, 0, 0) := rfl
theorem zr_62_28 : zRow xM 62 28 = some (13, .lstore_n 3, 29, 3, 0) := rfl
theorem zr_62_29 : zRp 62 29 30 (0, 0) := ⟨_, _, _, _, rfl, by decide, Option.some_ne_none _, rfl⟩
theorem zr_62_30 : zRow xM 62 30 = some (10, .istore 6, 32, 6, 0) := rfl
theorem zr_62_32 : zRow xM 62 32 = some (4, .iload 6, 34, 6, 0) := rfl
theorem zr_62_34 : zRp 62 34 35 (0, 4) := ⟨_, _, _, _, rfl, by decide, Option.some_ne_none _, rfl⟩
theorem zr_62_35 : zRow xM 62 35 = some (41, .if_icmp .ge 49, 38, 84, 3) := rfl
theorem zr_62_38 : zRp 62 38 41 (1, 31) := ⟨_, _, _, _, rfl, by decide, Option.some_ne_none _, rfl⟩
theorem zr_62_41 : zRow xM 62 41 = some (5, .lload_n 3, 42, 3, 0) := rfl
theorem zr_62_42 : zRow xM 62 42 = some (29, .lmul, 43, 0, 0) := rfl
theorem zr_62_43 : zRow xM 62 43 = some (7, .aload_n 0, 44, 0, 0) := rfl
theorem zr_62_44 : zRow xM 62 44 = some (46, .getfield 22, 47, 4, 7) := rfl
theorem zr_62_47 : zRow xM 62 47 = some (4, .iload 5, 49, 5, 0) := rfl
theorem zr_62_49 : zRp 62 49 50 (0, 4) := ⟨_, _, _, _, rfl, by decide, Option.some_ne_none _, rfl⟩
theorem zr_62_50 : zRow xM 62 50 = some (18, .imul, 51, 0, 0) := rfl
theorem zr_62_51 : zRow xM 62 51 = some (4, .iload 6, 53, 6, 0) := rfl
theorem zr_62_53 : zRow xM 62 53 = some (16, .iadd, 54, 0, 0) := rfl
theorem zr_62_54 : zRow xM 62 54 = some (48, .iaload, 55, 0, 0) := rfl
theorem zr_62_55 : zRow xM 62 55 = some (36, .i2l, 56, 0, 0) := rfl
theorem zr_62_56 : zRow xM 62 56 = some (27, .ladd, 57, 0, 0) := rfl
theorem zr_62_57 : zRow xM 62 57 = some (13, .lstore_n 3, 58, 3, 0) := rfl
theorem zr_62_58 : zRp 62 58 61 (1, 31) := ⟨_, _, _, _, rfl, by decide, Option.some_ne_none _, rfl⟩
theorem zr_62_61 : zRow xM 62 61 = some (5, .lload_n 3, 62, 3, 0) := rfl
theorem zr_62_62 : zRow xM 62 62 = some (29, .lmul, 63, 0, 0) := rfl
theorem zr_62_63 : zRow xM 62 63 = some (7, .aload_n 0, 64, 0, 0) := rfl
theorem zr_62_64 : zRow xM 62 64 = some (46, .getfield 25, 67, 4, 8) := rfl
theorem zr_62_67 : zRow xM 62 67 = some (4, .iload 5, 69, 5, 0) := rfl
theorem zr_62_69 : zRp 62 69 70 (0, 4) := ⟨_, _, _, _, rfl, by decide, Option.some_ne_none _, rfl⟩
theorem zr_62_70 : zRow xM 62 70 = some (18, .imul, 71, 0, 0) := rfl
theorem zr_62_71 : zRow xM 62 71 = some (4, .iload 6, 73, 6, 0) := rfl
theorem zr_62_73 : zRow xM 62 73 = some (16, .iadd, 74, 0, 0) := rfl
theorem zr_62_74 : zRow xM 62 74 = some (48, .iaload, 75, 0, 0) := rfl
theorem zr_62_75 : zRow xM 62 75 = some (36, .i2l, 76, 0, 0) := rfl
theorem zr_62_76 : zRow xM 62 76 = some (27, .ladd, 77, 0, 0) := rfl
theorem zr_62_77 : zRow xM 62 77 = some (13, .lstore_n 3, 78, 3, 0) := rfl
theorem zr_62_78 : zRow xM 62 78 = some (15, .iinc 6 1, 81, 6, 1) := rfl
theorem zr_62_81 : zRow xM 62 81 = some (42, .goto (-49), 82, 32, 0) := rfl
theorem zr_62_84 : zRow xM 62 84 = some (15, .iinc 5 1, 87, 5, 1) := rfl
theorem zr_62_87 : zRow xM 62 87 = some (42, .goto (-82), 88, 5, 0) := rfl
theorem zr_62_90 : zRow xM 62 90 = some (5, .lload_n 3, 91, 3, 0) := rfl
theorem zr_62_91 : zRow xM 62 91 = some (109, .lreturn, 92, 0, 0) := rfl
theorem zm_63 : zMt xM 63 = some (6, (some .long), 2, 0, 0) := rfl
theorem zr_63_0 : zRow xM 63 0 = some (5, .lload_n 1, 1, 1, 0) := rfl
theorem zr_63_1 : zRow xM 63 1 = some (13, .lstore_n 3, 2, 3, 0) := rfl
theorem zr_63_2 : zRp 63 2 3 (0, 0) := ⟨_, _, _, _, rfl, by decide, Option.some_ne_none _, rfl⟩
theorem zr_63_3 : zRow xM 63 3 = some (10, .istore 5, 5, 5, 0) := rfl
theorem zr_63_5 : zRow xM 63 5 = some (4, .iload 5, 7, 5, 0) := rfl
theorem zr_63_7 : zRow xM 63 7 = some (7, .aload_n 0, 8, 0, 0) := rfl
theorem zr_63_8 : zRow xM 63 8 = some (46, .getfield 62, 11, 4, 1) := rfl
theorem zr_63_11 : zRow xM 63 11 = some (41, .if_icmp .ge 101, 14, 112, 3) := rfl
theorem zr_63_14 : zRp 63 14 17 (1, 31) := ⟨_, _, _, _, rfl, by decide, Option.some_ne_none _, rfl⟩
theorem zr_63_17 : zRow xM 63 17 = some (5, .lload_n 3, 18, 3, 0) := rfl
theorem zr_63_18 : zRow xM 63 18 = some (29, .lmul, 19, 0, 0) := rfl
theorem zr_63_19 : zRow xM 63 19 = some (7, .aload_n 0, 20, 0, 0) := rfl
theorem zr_63_20 : zRow xM 63 20 = some (46, .getfield 28, 23, 4, 9) := rfl
theorem zr_63_23 : zRow xM 63 23 = some (4, .iload 5, 25, 5, 0) := rfl
theorem zr_63_25 : zRow xM 63 25 = some (48, .iaload, 26, 0, 0) := rfl
theorem zr_63_26 : zRow xM 63 26 = some (36, .i2l, 27, 0, 0) := rfl
theorem zr_63_27 : zRow xM 63 27 = some (27, .ladd, 28, 0, 0) := rfl
theorem zr_63_28 : zRow xM 63 28 = some (13, .lstore_n 3, 29, 3, 0) := rfl
theorem zr_63_29 : zRp 63 29 32 (1, 31) := ⟨_, _, _, _, rfl, by decide, Option.some_ne_none _, rfl⟩
theorem zr_63_32 : zRow xM 63 32 = some (5, .lload_n 3, 33, 3, 0) := rfl
theorem zr_63_33 : zRow xM 63 33 = some (29, .lmul, 34, 0, 0) := rfl
theorem zr_63_34 : zRow xM 63 34 = some (7, .aload_n 0, 35, 0, 0) := rfl
theorem zr_63_35 : zRow xM 63 35 = some (46, .getfield 31, 38, 4, 10) := rfl
theorem zr_63_38 : zRow xM 63 38 = some (4, .iload 5, 40, 5, 0) := rfl
theorem zr_63_40 : zRow xM 63 40 = some (48, .iaload, 41, 0, 0) := rfl
theorem zr_63_41 : zRow xM 63 41 = some (36, .i2l, 42, 0, 0) := rfl
theorem zr_63_42 : zRow xM 63 42 = some (27, .ladd, 43, 0, 0) := rfl
theorem zr_63_43 : zRow xM 63 43 = some (13, .lstore_n 3, 44, 3, 0) := rfl
theorem zr_63_44 : zRp 63 44 47 (1, 31) := ⟨_, _, _, _, rfl, by decide, Option.some_ne_none _, rfl⟩
theorem zr_63_47 : zRow xM 63 47 = some (5, .lload_n 3, 48, 3, 0) := rfl
theorem zr_63_48 : zRow xM 63 48 = some (29, .lmul, 49, 0, 0) := rfl
theorem zr_63_49 : zRow xM 63 49 = some (7, .aload_n 0, 50, 0, 0) := rfl
theorem zr_63_50 : zRow xM 63 50 = some (46, .getfield 34, 53, 4, 11) := rfl
theorem zr_63_53 : zRow xM 63 53 = some (4, .iload 5, 55, 5, 0) := rfl
theorem zr_63_55 : zRow xM 63 55 = some (48, .iaload, 56, 0, 0) := rfl
theorem zr_63_56 : zRow xM 63 56 = some (36, .i2l, 57, 0, 0) := rfl
theorem zr_63_57 : zRow xM 63 57 = some (27, .ladd, 58, 0, 0) := rfl
theorem zr_63_58 : zRow xM 63 58 = some (13, .lstore_n 3, 59, 3, 0) := rfl
theorem zr_63_59 : zRp 63 59 62 (1, 31) := ⟨_, _, _, _, rfl, by decide, Option.some_ne_none _, rfl⟩
theorem zr_63_62 : zRow xM 63 62 = some (5, .lload_n 3, 63, 3, 0) := rfl
theorem zr_63_63 : zRow xM 63 63 = some (29, .lmul, 64, 0, 0) := rfl
theorem zr_63_64 : zRow xM 63 64 = some (7, .aload_n 0, 65, 0, 0) := rfl
theorem zr_63_65 : zRow xM 63 65 = some (46, .getfield 37, 68, 4, 12) := rfl
theorem zr_63_68 : zRow xM 63 68 = some (4, .iload 5, 70, 5, 0) := rfl
theorem zr_63_70 : zRow xM 63 70 = some (48, .iaload, 71, 0, 0) := rfl
theorem zr_63_71 : zRow xM 63 71 = some (36, .i2l, 72, 0, 0) := rfl
theorem zr_63_72 : zRow xM 63 72 = some (27, .ladd, 73, 0, 0) := rfl
theorem zr_63_73 : zRow xM 63 73 = some (13, .lstore_n 3, 74, 3, 0) := rfl
theorem zr_63_74 : zRp 63 74 77 (1, 31) := ⟨_, _, _, _, rfl, by decide, Option.some_ne_none _, rfl⟩
theorem zr_63_77 : zRow xM 63 77 = some (5, .lload_n 3, 78, 3, 0) := rfl
theorem zr_63_78 : zRow xM 63 78 = some (29, .lmul, 79, 0, 0) := rfl
theorem zr_63_79 : zRow xM 63 79 = some (7, .aload_n 0, 80, 0, 0) := rfl
theorem zr_63_80 : zRow xM 63 80 = some (46, .getfield 65, 83, 4, 2) := rfl
theorem zr_63_83 : zRow xM 63 83 = some (4, .iload 5, 85, 5, 0) := rfl
theorem zr_63_85 : zRow xM 63 85 = some (34, .lshr, 86, 0, 0) := rfl
theorem zr_63_86 : zRp 63 86 87 (1, 1) := ⟨_, _, _, _, rfl, by decide, Option.some_ne_none _, rfl⟩
theorem zr_63_87 : zRow xM 63 87 = some (30, .land, 88, 0, 0) := rfl
theorem zr_63_88 : zRow xM 63 88 = some (27, .ladd, 89, 0, 0) := rfl
theorem zr_63_89 : zRow xM 63 89 = some (13, .lstore_n 3, 90, 3, 0) := rfl
theorem zr_63_90 : zRp 63 90 93 (1, 31) := ⟨_, _, _, _, rfl, by decide, Option.some_ne_none _, rfl⟩
theorem zr_63_93 : zRow xM 63 93 = some (5, .lload_n 3, 94, 3, 0) := rfl
theorem zr_63_94 : zRow xM 63 94 = some (29, .lmul, 95, 0, 0) := rfl
theorem zr_63_95 : zRow xM 63 95 = some (7, .aload_n 0, 96, 0, 0) := rfl
theorem zr_63_96 : zRow xM 63 96 = some (46, .getfield 71, 99, 4, 3) := rfl
theorem zr_63_99 : zRow xM 63 99 = some (4, .iload 5, 101, 5, 0) := rfl
theorem zr_63_101 : zRow xM 63 101 = some (34, .lshr, 102, 0, 0) := rfl
theorem zr_63_102 : zRp 63 102 103 (1, 1) := ⟨_, _, _, _, rfl, by decide, Option.some_ne_none _, rfl⟩
theorem zr_63_103 : zRow xM 63 103 = some (30, .land, 104, 0, 0) := rfl
theorem zr_63_104 : zRow xM 63 104 = some (27, .ladd, 105, 0, 0) := rfl
theorem zr_63_105 : zRow xM 63 105 = some (13, .lstore_n 3, 106, 3, 0) := rfl
theorem zr_63_106 : zRow xM 63 106 = some (15, .iinc 5 1, 109, 5, 1) := rfl
theorem zr_63_109 : zRow xM 63 109 = some (42, .goto (-104), 110, 5, 0) := rfl
theorem zr_63_112 : zRow xM 63 112 = some (5, .lload_n 3, 113, 3, 0) := rfl
theorem zr_63_113 : zRow xM 63 113 = some (109, .lreturn, 114, 0, 0) := rfl
theorem zm_64 : zMt xM 64 = some (7, (some .long), 2, 0, 0) := rfl
theorem zr_64_0 : zRow xM 64 0 = some (7, .aload_n 0, 1, 0, 0) := rfl
theorem zr_64_1 : zRow xM 64 1 = some (5, .lload_n 1, 2, 1, 0) := rfl
theorem zr_64_2 : zRow xM 64 2 = some (105, .invokevirtual 97, 5, 62, 4) := rfl
theorem zr_64_5 : zRow xM 64 5 = some (13, .lstore_n 3, 6, 3, 0) := rfl
theorem zr_64_6 : zRow xM 64 6 = some (7, .aload_n 0, 7, 0, 0) := rfl
theorem zr_64_7 : zRow xM 64 7 = some (5, .lload_n 3, 8, 3, 0) := rfl
theorem zr_64_8 : zRow xM 64 8 = some (105, .invokevirtual 101, 11, 63, 4) := rfl
theorem zr_64_11 : zRow xM 64 11 = some (13, .lstore_n 3, 12, 3, 0) := rfl
theorem zr_64_12 : zRp 64 12 13 (0, 0) := ⟨_, _, _, _, rfl, by decide, Option.some_ne_none _, rfl⟩
theorem zr_64_13 : zRow xM 64 13 = some (10, .istore 5, 15, 5, 0) := rfl
theorem zr_64_15 : zRow xM 64 15 = some (4, .iload 5, 17, 5, 0) := rfl
theorem zr_64_17 : zRp 64 17 18 (0, 4) := ⟨_, _, _, _, rfl, by decide, Option.some_ne_none _, rfl⟩
theorem zr_64_18 : zRow xM 64 18 = some (41, .if_icmp .ge 81, 21, 99, 3) := rfl
theorem zr_64_21 : zRp 64 21 24 (1, 31) := ⟨_, _, _, _, rfl, by decide, Option.some_ne_none _, rfl⟩
theorem zr_64_24 : zRow xM 64 24 = some (5, .lload_n 3, 25, 3, 0) := rfl
theorem zr_64_25 : zRow xM 64 25 = some (29, .lmul, 26, 0, 0) := rfl
theorem zr_64_26 : zRow xM 64 26 = some (7, .aload_n 0, 27, 0, 0) := rfl
theorem zr_64_27 : zRow xM 64 27 = some (46, .getfield 40, 30, 4, 13) := rfl
theorem zr_64_30 : zRow xM 64 30 = some (4, .iload 5, 32, 5, 0) := rfl
theorem zr_64_32 : zRow xM 64 32 = some (48, .iaload, 33, 0, 0) := rfl
theorem zr_64_33 : zRow xM 64 33 = some (36, .i2l, 34, 0, 0) := rfl
theorem zr_64_34 : zRow xM 64 34 = some (27, .ladd, 35, 0, 0) := rfl
theorem zr_64_35 : zRow xM 64 35 = some (13, .lstore_n 3, 36, 3, 0) := rfl
theorem zr_64_36 : zRp 64 36 39 (1, 31) := ⟨_, _, _, _, rfl, by decide, Option.some_ne_none _, rfl⟩
theorem zr_64_39 : zRow xM 64 39 = some (5, .lload_n 3, 40, 3, 0) := rfl
theorem zr_64_40 : zRow xM 64 40 = some (29, .lmul, 41, 0, 0) := rfl
theorem zr_64_41 : zRow xM 64 41 = some (7, .aload_n 0, 42, 0, 0) := rfl
theorem zr_64_42 : zRow xM 64 42 = some (46, .getfield 43, 45, 4, 14) := rfl
theorem zr_64_45 : zRow xM 64 45 = some (4, .iload 5, 47, 5, 0) := rfl
theorem zr_64_47 : zRow xM 64 47 = some (48, .iaload, 48, 0, 0) := rfl
theorem zr_64_48 : zRow xM 64 48 = some (36, .i2l, 49, 0, 0) := rfl
theorem zr_64_49 : zRow xM 64 49 = some (27, .ladd, 50, 0, 0) := rfl
theorem zr_64_50 : zRow xM 64 50 = some (13, .lstore_n 3, 51, 3, 0) := rfl
theorem zr_64_51 : zRp 64 51 52 (0, 0) := ⟨_, _, _, _, rfl, by decide, Option.some_ne_none _, rfl⟩
theorem zr_64_52 : zRow xM 64 52 = some (10, .istore 6, 54, 6, 0) := rfl
theorem zr_64_54 : zRow xM 64 54 = some (4, .iload 6, 56, 6, 0) := rfl
theorem zr_64_56 : zRow xM 64 56 = some (7, .aload_n 0, 57, 0, 0) := rfl
theorem zr_64_57 : zRow xM 64 57 = some (46, .getfield 43, 60, 4, 14) := rfl
theorem zr_64_60 : zRow xM 64 60 = some (4, .iload 5, 62, 5, 0) := rfl
theorem zr_64_62 : zRow xM 64 62 = some (48, .iaload, 63, 0, 0) := rfl
theorem zr_64_63 : zRow xM 64 63 = some (41, .if_icmp .ge 30, 66, 93, 3) := rfl
theorem zr_64_66 : zRp 64 66 69 (1, 31) := ⟨_, _, _, _, rfl, by decide, Option.some_ne_none _, rfl⟩
theorem zr_64_69 : zRow xM 64 69 = some (5, .lload_n 3, 70, 3, 0) := rfl
theorem zr_64_70 : zRow xM 64 70 = some (29, .lmul, 71, 0, 0) := rfl
theorem zr_64_71 : zRow xM 64 71 = some (7, .aload_n 0, 72, 0, 0) := rfl
theorem zr_64_72 : zRow xM 64 72 = some (46, .getfield 46, 75, 4, 15) := rfl
theorem zr_64_75 : zRow xM 64 75 = some (4, .iload 5, 77, 5, 0) := rfl
theorem zr_64_77 : zRp 64 77 79 (0, 50) := ⟨_, _, _, _, rfl, by decide, Option.some_ne_none _, rfl⟩
theorem zr_64_79 : zRow xM 64 79 = some (18, .imul, 80, 0, 0) := rfl
theorem zr_64_80 : zRow xM 64 80 = some (4, .iload 6, 82, 6, 0) := rfl
theorem zr_64_82 : zRow xM 64 82 = some (16, .iadd, 83, 0, 0) := rfl
theorem zr_64_83 : zRow xM 64 83 = some (48, .iaload, 84, 0, 0) := rfl
theorem zr_64_84 : zRow xM 64 84 = some (36, .i2l, 85, 0, 0) := rfl
theorem zr_64_85 : zRow xM 64 85 = some (27, .ladd, 86, 0, 0) := rfl
theorem zr_64_86 : zRow xM 64 86 = some (13, .lstore_n 3, 87, 3, 0) := rfl
theorem zr_64_87 : zRow xM 64 87 = some (15, .iinc 6 1, 90, 6, 1) := rfl
theorem zr_64_90 : zRow xM 64 90 = some (42, .goto (-36), 91, 54, 0) := rfl
theorem zr_64_93 : zRow xM 64 93 = some (15, .iinc 5 1, 96, 5, 1) := rfl
theorem zr_64_96 : zRow xM 64 96 = some (42, .goto (-81), 97, 15, 0) := rfl
theorem zr_64_99 : zRp 64 99 100 (0, 0) := ⟨_, _, _, _, rfl, by decide, Option.some_ne_none _, rfl⟩
theorem zr_64_100 : zRow xM 64 100 = some (10, .istore 5, 102, 5, 0) := rfl
theorem zr_64_102 : zRow xM 64 102 = some (4, .iload 5, 104, 5, 0) := rfl
theorem zr_64_104 : zRp 64 104 107 (0, 160) := ⟨_, _, _, _, rfl, by decide, Option.some_ne_none _, rfl⟩
theorem zr_64_107 : zRow xM 64 107 = some (41, .if_icmp .ge 24, 110, 131, 3) := rfl
theorem zr_64_110 : zRp 64 110 113 (1, 31) := ⟨_, _, _, _, rfl, by decide, Option.some_ne_none _, rfl⟩
theorem zr_64_113 : zRow xM 64 113 = some (5, .lload_n 3, 114, 3, 0) := rfl
theorem zr_64_114 : zRow xM 64 114 = some (29, .lmul, 115, 0, 0) := rfl
theorem zr_64_115 : zRow xM 64 115 = some (7, .aload_n 0, 116, 0, 0) := rfl
theorem zr_64_116 : zRow xM 64 116 = some (46, .getfield 49, 119, 4, 16) := rfl
theorem zr_64_119 : zRow xM 64 119 = some (4, .iload 5, 121, 5, 0) := rfl
theorem zr_64_121 : zRow xM 64 121 = some (48, .iaload, 122, 0, 0) := rfl
theorem zr_64_122 : zRow xM 64 122 = some (36, .i2l, 123, 0, 0) := rfl
theorem zr_64_123 : zRow xM 64 123 = some (27, .ladd, 124, 0, 0) := rfl
theorem zr_64_124 : zRow xM 64 124 = some (13, .lstore_n 3, 125, 3, 0) := rfl
theorem zr_64_125 : zRow xM 64 125 = some (15, .iinc 5 1, 128, 5, 1) := rfl
theorem zr_64_128 : zRow xM 64 128 = some (42, .goto (-26), 129, 102, 0) := rfl
theorem zr_64_131 : zRp 64 131 134 (1, 31) := ⟨_, _, _, _, rfl, by decide, Option.some_ne_none _, rfl⟩
theorem zr_64_134 : zRow xM 64 134 = some (5, .lload_n 3, 135, 3, 0) := rfl
theorem zr_64_135 : zRow xM 64 135 = some (29, .lmul, 136, 0, 0) := rfl
theorem zr_64_136 : zRow xM 64 136 = some (7, .aload_n 0, 137, 0, 0) := rfl
theorem zr_64_137 : zRow xM 64 137 = some (46, .getfield 9, 140, 4, 4) := rfl
theorem zr_64_140 : zRow xM 64 140 = some (36, .i2l, 141, 0, 0) := rfl
theorem zr_64_141 : zRow xM 64 141 = some (27, .ladd, 142, 0, 0) := rfl
theorem zr_64_142 : zRow xM 64 142 = some (13, .lstore_n 3, 143, 3, 0) := rfl
theorem zr_64_143 : zRp 64 143 146 (1, 31) := ⟨_, _, _, _, rfl, by decide, Option.some_ne_none _, rfl⟩
theorem zr_64_146 : zRow xM 64 146 = some (5, .lload_n 3, 147, 3, 0) := rfl
theorem zr_64_147 : zRow xM 64 147 = some (29, .lmul, 148, 0, 0) := rfl
theorem zr_64_148 : zRow xM 64 148 = some (7, .aload_n 0, 149, 0, 0) := rfl
theorem zr_64_149 : zRow xM 64 149 = some (46, .getfield 15, 152, 4, 5) := rfl
theorem zr_64_152 : zRow xM 64 152 = some (36, .i2l, 153, 0, 0) := rfl
theorem zr_64_153 : zRow xM 64 153 = some (27, .ladd, 154, 0, 0) := rfl
theorem zr_64_154 : zRow xM 64 154 = some (13, .lstore_n 3, 155, 3, 0) := rfl
theorem zr_64_155 : zRp 64 155 156 (0, 0) := ⟨_, _, _, _, rfl, by decide, Option.some_ne_none _, rfl⟩
theorem zr_64_156 : zRow xM 64 156 = some (10, .istore 5, 158, 5, 0) := rfl
theorem zr_64_158 : zRow xM 64 158 = some (4, .iload 5, 160, 5, 0) := rfl
theorem zr_64_160 : zRp 64 160 161 (0, 4) := ⟨_, _, _, _, rfl, by decide, Option.some_ne_none _, rfl⟩
theorem zr_64_161 : zRow xM 64 161 = some (41, .if_icmp .ge 24, 164, 185, 3) := rfl
theorem zr_64_164 : zRp 64 164 167 (1, 31) := ⟨_, _, _, _, rfl, by decide, Option.some_ne_none _, rfl⟩
theorem zr_64_167 : zRow xM 64 167 = some (5, .lload_n 3, 168, 3, 0) := rfl
theorem zr_64_168 : zRow xM 64 168 = some (29, .lmul, 169, 0, 0) := rfl
theorem zr_64_169 : zRow xM 64 169 = some (7, .aload_n 0, 170, 0, 0) := rfl
theorem zr_64_170 : zRow xM 64 170 = some (46, .getfield 52, 173, 4, 17) := rfl
theorem zr_64_173 : zRow xM 64 173 = some (4, .iload 5, 175, 5, 0) := rfl
theorem zr_64_175 : zRow xM 64 175 = some (48, .iaload, 176, 0, 0) := rfl
theorem zr_64_176 : zRow xM 64 176 = some (36, .i2l, 177, 0, 0) := rfl
theorem zr_64_177 : zRow xM 64 177 = some (27, .ladd, 178, 0, 0) := rfl
theorem zr_64_178 : zRow xM 64 178 = some (13, .lstore_n 3, 179, 3, 0) := rfl
theorem zr_64_179 : zRow xM 64 179 = some (15, .iinc 5 1, 182, 5, 1) := rfl
theorem zr_64_182 : zRow xM 64 182 = some (42, .goto (-24), 183, 158, 0) := rfl
theorem zr_64_185 : zRow xM 64 185 = some (5, .lload_n 3, 186, 3, 0) := rfl
theorem zr_64_186 : zRow xM 64 186 = some (109, .lreturn, 187, 0, 0) := rfl
theorem zm_66 : zMt xM 66 = some (4, none, 2, 0, 0) := rfl
theorem zr_66_0 : zRow xM 66 0 = some (7, .aload_n 0, 1, 0, 0) := rfl
theorem zr_66_1 : zRow xM 66 1 = some (46, .getfield 9, 4, 5, 1) := rfl
theorem zr_66_4 : zRp 66 4 5 (0, 0) := ⟨_, _, _, _, rfl, by decide, Option.some_ne_none _, rfl⟩
theorem zr_66_5 : zRow xM 66 5 = some (107, .invokestatic 67, 8, 4, 0) := rfl
theorem zr_66_8 : zRp 66 8 9 (0, 0) := ⟨_, _, _, _, rfl, by decide, Option.some_ne_none _, rfl⟩
theorem zr_66_9 : zRow xM 66 9 = some (9, .istore_n 3, 10, 3, 0) := rfl
theorem zr_66_10 : zRow xM 66 10 = some (3, .iload_n 3, 11, 3, 0) := rfl
theorem zr_66_11 : zRow xM 66 11 = some (7, .aload_n 0, 12, 0, 0) := rfl
theorem zr_66_12 : zRow xM 66 12 = some (46, .getfield 18, 15, 5, 0) := rfl
theorem zr_66_15 : zRow xM 66 15 = some (46, .getfield 56, 18, 4, 1) := rfl
theorem zr_66_18 : zRow xM 66 18 = some (41, .if_icmp .ge 75, 21, 93, 3) := rfl
theorem zr_66_21 : zRow xM 66 21 = some (5, .lload_n 1, 22, 1, 0) := rfl
theorem zr_66_22 : zRow xM 66 22 = some (3, .iload_n 3, 23, 3, 0) := rfl
theorem zr_66_23 : zRow xM 66 23 = some (34, .lshr, 24, 0, 0) := rfl
theorem zr_66_24 : zRp 66 24 25 (1, 1) := ⟨_, _, _, _, rfl, by decide, Option.some_ne_none _, rfl⟩
theorem zr_66_25 : zRow xM 66 25 = some (30, .land, 26, 0, 0) := rfl
theorem zr_66_26 : zRp 66 26 27 (1, 0) := ⟨_, _, _, _, rfl, by decide, Option.some_ne_none _, rfl⟩
theorem zr_66_27 : zRow xM 66 27 = some (39, .lcmp, 28, 0, 0) := rfl
theorem zr_66_28 : zRow xM 66 28 = some (40, .ifCond .eq 59, 31, 87, 1) := rfl
theorem zr_66_31 : zRow xM 66 31 = some (7, .aload_n 0, 32, 0, 0) := rfl
theorem zr_66_32 : zRow xM 66 32 = some (46, .getfield 9, 35, 5, 1) := rfl
theorem zr_66_35 : zRow xM 66 35 = some (7, .aload_n 0, 36, 0, 0) := rfl
theorem zr_66_36 : zRow xM 66 36 = some (46, .getfield 18, 39, 5, 0) := rfl
theorem zr_66_39 : zRow xM 66 39 = some (46, .getfield 61, 42, 4, 10) := rfl
theorem zr_66_42 : zRow xM 66 42 = some (3, .iload_n 3, 43, 3, 0) := rfl
theorem zr_66_43 : zRow xM 66 43 = some (48, .iaload, 44, 0, 0) := rfl
theorem zr_66_44 : zRow xM 66 44 = some (45, .dup2, 45, 0, 0) := rfl
theorem zr_66_45 : zRow xM 66 45 = some (48, .iaload, 46, 0, 0) := rfl
theorem zr_66_46 : zRp 66 46 47 (0, 1) := ⟨_, _, _, _, rfl, by decide, Option.some_ne_none _, rfl⟩
theorem zr_66_47 : zRow xM 66 47 = some (7, .aload_n 0, 48, 0, 0) := rfl
theorem zr_66_48 : zRow xM 66 48 = some (46, .getfield 18, 51, 5, 0) := rfl
theorem zr_66_51 : zRow xM 66 51 = some (46, .getfield 64, 54, 4, 11) := rfl
theorem zr_66_54 : zRow xM 66 54 = some (3, .iload_n 3, 55, 3, 0) := rfl
theorem zr_66_55 : zRow xM 66 55 = some (48, .iaload, 56, 0, 0) := rfl
theorem zr_66_56 : zRow xM 66 56 = some (24, .ishl, 57, 0, 0) := rfl
theorem zr_66_57 : zRow xM 66 57 = some (22, .ior, 58, 0, 0) := rfl
theorem zr_66_58 : zRow xM 66 58 = some (49, .iastore, 59, 0, 0) := rfl
theorem zr_66_59 : zRow xM 66 59 = some (7, .aload_n 0, 60, 0, 0) := rfl
theorem zr_66_60 : zRow xM 66 60 = some (46, .getfield 9, 63, 5, 1) := rfl
theorem zr_66_63 : zRow xM 66 63 = some (7, .aload_n 0, 64, 0, 0) := rfl
theorem zr_66_64 : zRow xM 66 64 = some (46, .getfield 18, 67, 5, 0) := rfl
theorem zr_66_67 : zRow xM 66 67 = some (46, .getfield 64, 70, 4, 11) := rfl
theorem zr_66_70 : zRow xM 66 70 = some (3, .iload_n 3, 71, 3, 0) := rfl
theorem zr_66_71 : zRow xM 66 71 = some (48, .iaload, 72, 0, 0) := rfl
theorem zr_66_72 : zRow xM 66 72 = some (45, .dup2, 73, 0, 0) := rfl
theorem zr_66_73 : zRow xM 66 73 = some (48, .iaload, 74, 0, 0) := rfl
theorem zr_66_74 : zRp 66 74 75 (0, 1) := ⟨_, _, _, _, rfl, by decide, Option.some_ne_none _, rfl⟩
theorem zr_66_75 : zRow xM 66 75 = some (7, .aload_n 0, 76, 0, 0) := rfl
theorem zr_66_76 : zRow xM 66 76 = some (46, .getfield 18, 79, 5, 0) := rfl
theorem zr_66_79 : zRow xM 66 79 = some (46, .getfield 61, 82, 4, 10) := rfl
theorem zr_66_82 : zRow xM 66 82 = some (3, .iload_n 3, 83, 3, 0) := rfl
theorem zr_66_83 : zRow xM 66 83 = some (48, .iaload, 84, 0, 0) := rfl
theorem zr_66_84 : zRow xM 66 84 = some (24, .ishl, 85, 0, 0) := rfl
theorem zr_66_85 : zRow xM 66 85 = some (22, .ior, 86, 0, 0) := rfl
theorem zr_66_86 : zRow xM 66 86 = some (49, .iastore, 87, 0, 0) := rfl
theorem zr_66_87 : zRow xM 66 87 = some (15, .iinc 3 1, 90, 3, 1) := rfl
theorem zr_66_90 : zRow xM 66 90 = some (42, .goto (-80), 91, 10, 0) := rfl
theorem zr_66_93 : zRow xM 66 93 = some (110, .return_, 94, 0, 0) := rfl
theorem zm_67 : zMt xM 67 = some (7, none, 2, 0, 0) := rfl
theorem zr_67_0 : zRow xM 67 0 = some (7, .aload_n 0, 1, 0, 0) := rfl
theorem zr_67_1 : zRow xM 67 1 = some (46, .getfield 15, 4, 5, 2) := rfl
theorem zr_67_4 : zRp 67 4 5 (0, -1) := ⟨_, _, _, _, rfl, by decide, Option.some_ne_none _, rfl⟩
theorem zr_67_5 : zRow xM 67 5 = some (107, .invokestatic 67, 8, 4, 0) := rfl
theorem zr_67_8 : zRp 67 8 9 (0, 0) := ⟨_, _, _, _, rfl, by decide, Option.some_ne_none _, rfl⟩
theorem zr_67_9 : zRow xM 67 9 = some (9, .istore_n 2, 10, 2, 0) := rfl
theorem zr_67_10 : zRp 67 10 11 (0, 1) := ⟨_, _, _, _, rfl, by decide, Option.some_ne_none _, rfl⟩
theorem zr_67_11 : zRow xM 67 11 = some (3, .iload_n 1, 12, 1, 0) := rfl
theorem zr_67_12 : zRow xM 67 12 = some (24, .ishl, 13, 0, 0) := rfl
theorem zr_67_13 : zRow xM 67 13 = some (9, .istore_n 3, 14, 3, 0) := rfl
theorem zr_67_14 : zRp 67 14 15 (0, 0) := ⟨_, _, _, _, rfl, by decide, Option.some_ne_none _, rfl⟩
theorem zr_67_15 : zRow xM 67 15 = some (10, .istore 4, 17, 4, 0) := rfl
theorem zr_67_17 : zRow xM 67 17 = some (4, .iload 4, 19, 4, 0) := rfl
theorem zr_67_19 : zRp 67 19 21 (0, 10) := ⟨_, _, _, _, rfl, by decide, Option.some_ne_none _, rfl⟩
theorem zr_67_21 : zRow xM 67 21 = some (41, .if_icmp .ge 78, 24, 99, 3) := rfl
theorem zr_67_24 : zRow xM 67 24 = some (3, .iload_n 3, 25, 3, 0) := rfl
theorem zr_67_25 : zRow xM 67 25 = some (40, .ifCond .eq 74, 28, 99, 1) := rfl
theorem zr_67_28 : zRow xM 67 28 = some (3, .iload_n 2, 29, 2, 0) := rfl
theorem zr_67_29 : zRow xM 67 29 = some (3, .iload_n 3, 30, 3, 0) := rfl
theorem zr_67_30 : zRow xM 67 30 = some (22, .ior, 31, 0, 0) := rfl
theorem zr_67_31 : zRow xM 67 31 = some (9, .istore_n 2, 32, 2, 0) := rfl
theorem zr_67_32 : zRp 67 32 33 (0, 0) := ⟨_, _, _, _, rfl, by decide, Option.some_ne_none _, rfl⟩
theorem zr_67_33 : zRow xM 67 33 = some (10, .istore 5, 35, 5, 0) := rfl
theorem zr_67_35 : zRp 67 35 36 (0, 0) := ⟨_, _, _, _, rfl, by decide, Option.some_ne_none _, rfl⟩
theorem zr_67_36 : zRow xM 67 36 = some (10, .istore 6, 38, 6, 0) := rfl
theorem zr_67_38 : zRow xM 67 38 = some (4, .iload 6, 40, 6, 0) := rfl
theorem zr_67_40 : zRow xM 67 40 = some (7, .aload_n 0, 41, 0, 0) := rfl
theorem zr_67_41 : zRow xM 67 41 = some (46, .getfield 18, 44, 5, 0) := rfl
theorem zr_67_44 : zRow xM 67 44 = some (46, .getfield 36, 47, 4, 0) := rfl
theorem zr_67_47 : zRow xM 67 47 = some (41, .if_icmp .ge 39, 50, 86, 3) := rfl
theorem zr_67_50 : zRow xM 67 50 = some (3, .iload_n 3, 51, 3, 0) := rfl
theorem zr_67_51 : zRow xM 67 51 = some (4, .iload 6, 53, 6, 0) := rfl
theorem zr_67_53 : zRow xM 67 53 = some (25, .ishr, 54, 0, 0) := rfl
theorem zr_67_54 : zRp 67 54 55 (0, 1) := ⟨_, _, _, _, rfl, by decide, Option.some_ne_none _, rfl⟩
theorem zr_67_55 : zRow xM 67 55 = some (21, .iand, 56, 0, 0) := rfl
theorem zr_67_56 : zRow xM 67 56 = some (40, .ifCond .eq 24, 59, 80, 1) := rfl
theorem zr_67_59 : zRow xM 67 59 = some (7, .aload_n 0, 60, 0, 0) := rfl
theorem zr_67_60 : zRow xM 67 60 = some (46, .getfield 15, 63, 5, 2) := rfl
theorem zr_67_63 : zRow xM 67 63 = some (4, .iload 6, 65, 6, 0) := rfl
theorem zr_67_65 : zRow xM 67 65 = some (4, .iload 4, 67, 4, 0) := rfl
theorem zr_67_67 : zRow xM 67 67 = some (49, .iastore, 68, 0, 0) := rfl
theorem zr_67_68 : zRow xM 67 68 = some (4, .iload 5, 70, 5, 0) := rfl
theorem zr_67_70 : zRow xM 67 70 = some (7, .aload_n 0, 71, 0, 0) := rfl
theorem zr_67_71 : zRow xM 67 71 = some (46, .getfield 9, 74, 5, 1) := rfl
theorem zr_67_74 : zRow xM 67 74 = some (4, .iload 6, 76, 6, 0) := rfl
theorem zr_67_76 : zRow xM 67 76 = some (48, .iaload, 77, 0, 0) := rfl
theorem zr_67_77 : zRow xM 67 77 = some (22, .ior, 78, 0, 0) := rfl
theorem zr_67_78 : zRow xM 67 78 = some (10, .istore 5, 80, 5, 0) := rfl
theorem zr_67_80 : zRow xM 67 80 = some (15, .iinc 6 1, 83, 6, 1) := rfl
theorem zr_67_83 : zRow xM 67 83 = some (42, .goto (-45), 84, 38, 0) := rfl
theorem zr_67_86 : zRow xM 67 86 = some (4, .iload 5, 88, 5, 0) := rfl
theorem zr_67_88 : zRow xM 67 88 = some (3, .iload_n 2, 89, 2, 0) := rfl
theorem zr_67_89 : zRp 67 89 90 (0, -1) := ⟨_, _, _, _, rfl, by decide, Option.some_ne_none _, rfl⟩
theorem zr_67_90 : zRow xM 67 90 = some (23, .ixor, 91, 0, 0) := rfl
theorem zr_67_91 : zRow xM 67 91 = some (21, .iand, 92, 0, 0) := rfl
theorem zr_67_92 : zRow xM 67 92 = some (9, .istore_n 3, 93, 3, 0) := rfl
theorem zr_67_93 : zRow xM 67 93 = some (15, .iinc 4 1, 96, 4, 1) := rfl
theorem zr_67_96 : zRow xM 67 96 = some (42, .goto (-79), 97, 17, 0) := rfl
theorem zr_67_99 : zRow xM 67 99 = some (110, .return_, 100, 0, 0) := rfl
