theorem zm_193 : zMt xM 193 = some (4, none, 3, 0, 0) := rfl
theorem zr_193_0 : zRow xM 193 0 = some (7, .aload_n 0, 1, 0, 0) := rfl
theorem zr_193_1 : zRp 193 1 2 (0, 0) := ⟨_, _, _, _, rfl, by decide, Option.some_ne_none _, rfl⟩
theorem zr_193_2 : zRow xM 193 2 = some (47, .putfield 236, 5, 9, 23) := rfl
theorem zr_193_5 : zRp 193 5 6 (0, 0) := ⟨_, _, _, _, rfl, by decide, Option.some_ne_none _, rfl⟩
theorem zr_193_6 : zRow xM 193 6 = some (9, .istore_n 3, 7, 3, 0) := rfl
theorem zr_193_7 : zRow xM 193 7 = some (3, .iload_n 3, 8, 3, 0) := rfl
theorem zr_193_8 : zRp 193 8 10 (0, 100) := ⟨_, _, _, _, rfl, by decide, Option.some_ne_none _, rfl⟩
theorem zr_193_10 : zRow xM 193 10 = some (41, .if_icmp .ge 49, 13, 59, 3) := rfl
theorem zr_193_13 : zRow xM 193 13 = some (7, .aload_n 0, 14, 0, 0) := rfl
theorem zr_193_14 : zRow xM 193 14 = some (3, .iload_n 2, 15, 2, 0) := rfl
theorem zr_193_15 : zRow xM 193 15 = some (3, .iload_n 3, 16, 3, 0) := rfl
theorem zr_193_16 : zRow xM 193 16 = some (105, .invokevirtual 193, 19, 172, 9) := rfl
theorem zr_193_19 : zRow xM 193 19 = some (40, .ifCond .eq 34, 22, 53, 1) := rfl
theorem zr_193_22 : zRow xM 193 22 = some (7, .aload_n 0, 23, 0, 0) := rfl
theorem zr_193_23 : zRow xM 193 23 = some (3, .iload_n 1, 24, 1, 0) := rfl
theorem zr_193_24 : zRow xM 193 24 = some (3, .iload_n 3, 25, 3, 0) := rfl
theorem zr_193_25 : zRow xM 193 25 = some (105, .invokevirtual 190, 28, 167, 9) := rfl
theorem zr_193_28 : zRow xM 193 28 = some (7, .aload_n 0, 29, 0, 0) := rfl
theorem zr_193_29 : zRow xM 193 29 = some (46, .getfield 52, 32, 9, 22) := rfl
theorem zr_193_32 : zRow xM 193 32 = some (7, .aload_n 0, 33, 0, 0) := rfl
theorem zr_193_33 : zRow xM 193 33 = some (46, .getfield 236, 36, 9, 23) := rfl
theorem zr_193_36 : zRow xM 193 36 = some (7, .aload_n 0, 37, 0, 0) := rfl
theorem zr_193_37 : zRow xM 193 37 = some (46, .getfield 34, 40, 9, 14) := rfl
theorem zr_193_40 : zRow xM 193 40 = some (3, .iload_n 2, 41, 2, 0) := rfl
theorem zr_193_41 : zRow xM 193 41 = some (48, .iaload, 42, 0, 0) := rfl
theorem zr_193_42 : zRow xM 193 42 = some (49, .iastore, 43, 0, 0) := rfl
theorem zr_193_43 : zRow xM 193 43 = some (7, .aload_n 0, 44, 0, 0) := rfl
theorem zr_193_44 : zRow xM 193 44 = some (43, .dup, 45, 0, 0) := rfl
theorem zr_193_45 : zRow xM 193 45 = some (46, .getfield 236, 48, 9, 23) := rfl
theorem zr_193_48 : zRp 193 48 49 (0, 1) := ⟨_, _, _, _, rfl, by decide, Option.some_ne_none _, rfl⟩
theorem zr_193_49 : zRow xM 193 49 = some (16, .iadd, 50, 0, 0) := rfl
theorem zr_193_50 : zRow xM 193 50 = some (47, .putfield 236, 53, 9, 23) := rfl
theorem zr_193_53 : zRow xM 193 53 = some (15, .iinc 3 1, 56, 3, 1) := rfl
theorem zr_193_56 : zRow xM 193 56 = some (42, .goto (-49), 57, 7, 0) := rfl
theorem zr_193_59 : zRow xM 193 59 = some (110, .return_, 60, 0, 0) := rfl
theorem zm_194 : zMt xM 194 = some (7, (some .boolean), 4, 0, 0) := rfl
theorem zr_194_0 : zRow xM 194 0 = some (7, .aload_n 0, 1, 0, 0) := rfl
theorem zr_194_1 : zRow xM 194 1 = some (3, .iload_n 1, 2, 1, 0) := rfl
theorem zr_194_2 : zRow xM 194 2 = some (3, .iload_n 2, 3, 2, 0) := rfl
theorem zr_194_3 : zRow xM 194 3 = some (105, .invokevirtual 239, 6, 193, 9) := rfl
theorem zr_194_6 : zRp 194 6 7 (0, 0) := ⟨_, _, _, _, rfl, by decide, Option.some_ne_none _, rfl⟩
theorem zr_194_7 : zRow xM 194 7 = some (10, .istore 4, 9, 4, 0) := rfl
theorem zr_194_9 : zRow xM 194 9 = some (4, .iload 4, 11, 4, 0) := rfl
theorem zr_194_11 : zRow xM 194 11 = some (3, .iload_n 3, 12, 3, 0) := rfl
theorem zr_194_12 : zRow xM 194 12 = some (16, .iadd, 13, 0, 0) := rfl
theorem zr_194_13 : zRow xM 194 13 = some (7, .aload_n 0, 14, 0, 0) := rfl
theorem zr_194_14 : zRow xM 194 14 = some (46, .getfield 236, 17, 9, 23) := rfl
theorem zr_194_17 : zRow xM 194 17 = some (41, .if_icmp .gt 90, 20, 107, 2) := rfl
theorem zr_194_20 : zRow xM 194 20 = some (7, .aload_n 0, 21, 0, 0) := rfl
theorem zr_194_21 : zRow xM 194 21 = some (46, .getfield 52, 24, 9, 22) := rfl
theorem zr_194_24 : zRow xM 194 24 = some (4, .iload 4, 26, 4, 0) := rfl
theorem zr_194_26 : zRow xM 194 26 = some (48, .iaload, 27, 0, 0) := rfl
theorem zr_194_27 : zRow xM 194 27 = some (10, .istore 5, 29, 5, 0) := rfl
theorem zr_194_29 : zRow xM 194 29 = some (4, .iload 4, 31, 4, 0) := rfl
theorem zr_194_31 : zRow xM 194 31 = some (10, .istore 6, 33, 6, 0) := rfl
theorem zr_194_33 : zRow xM 194 33 = some (4, .iload 6, 35, 6, 0) := rfl
theorem zr_194_35 : zRow xM 194 35 = some (4, .iload 4, 37, 4, 0) := rfl
theorem zr_194_37 : zRow xM 194 37 = some (3, .iload_n 3, 38, 3, 0) := rfl
theorem zr_194_38 : zRow xM 194 38 = some (16, .iadd, 39, 0, 0) := rfl
theorem zr_194_39 : zRow xM 194 39 = some (41, .if_icmp .ge 35, 42, 74, 3) := rfl
theorem zr_194_42 : zRow xM 194 42 = some (7, .aload_n 0, 43, 0, 0) := rfl
theorem zr_194_43 : zRow xM 194 43 = some (46, .getfield 52, 46, 9, 22) := rfl
theorem zr_194_46 : zRow xM 194 46 = some (4, .iload 6, 48, 6, 0) := rfl
theorem zr_194_48 : zRow xM 194 48 = some (48, .iaload, 49, 0, 0) := rfl
theorem zr_194_49 : zRow xM 194 49 = some (4, .iload 5, 51, 5, 0) := rfl
theorem zr_194_51 : zRow xM 194 51 = some (41, .if_icmp .ge 13, 54, 64, 3) := rfl
theorem zr_194_54 : zRow xM 194 54 = some (7, .aload_n 0, 55, 0, 0) := rfl
theorem zr_194_55 : zRow xM 194 55 = some (46, .getfield 52, 58, 9, 22) := rfl
theorem zr_194_58 : zRow xM 194 58 = some (4, .iload 6, 60, 6, 0) := rfl
theorem zr_194_60 : zRow xM 194 60 = some (48, .iaload, 61, 0, 0) := rfl
theorem zr_194_61 : zRow xM 194 61 = some (42, .goto 5, 62, 66, 0) := rfl
theorem zr_194_64 : zRow xM 194 64 = some (4, .iload 5, 66, 5, 0) := rfl
theorem zr_194_66 : zRow xM 194 66 = some (10, .istore 5, 68, 5, 0) := rfl
theorem zr_194_68 : zRow xM 194 68 = some (15, .iinc 6 1, 71, 6, 1) := rfl
theorem zr_194_71 : zRow xM 194 71 = some (42, .goto (-38), 72, 33, 0) := rfl
theorem zr_194_74 : zRow xM 194 74 = some (7, .aload_n 0, 75, 0, 0) := rfl
theorem zr_194_75 : zRow xM 194 75 = some (4, .iload 4, 77, 4, 0) := rfl
theorem zr_194_77 : zRow xM 194 77 = some (40, .ifCond .eq 12, 80, 89, 1) := rfl
theorem zr_194_80 : zRow xM 194 80 = some (4, .iload 5, 82, 5, 0) := rfl
theorem zr_194_82 : zRow xM 194 82 = some (7, .aload_n 0, 83, 0, 0) := rfl
theorem zr_194_83 : zRow xM 194 83 = some (46, .getfield 242, 86, 9, 24) := rfl
theorem zr_194_86 : zRow xM 194 86 = some (41, .if_icmp .le 8, 89, 94, 5) := rfl
theorem zr_194_89 : zRow xM 194 89 = some (4, .iload 5, 91, 5, 0) := rfl
theorem zr_194_91 : zRow xM 194 91 = some (42, .goto 7, 92, 98, 0) := rfl
theorem zr_194_94 : zRow xM 194 94 = some (7, .aload_n 0, 95, 0, 0) := rfl
theorem zr_194_95 : zRow xM 194 95 = some (46, .getfield 242, 98, 9, 24) := rfl
theorem zr_194_98 : zRow xM 194 98 = some (47, .putfield 242, 101, 9, 24) := rfl
theorem zr_194_101 : zRow xM 194 101 = some (15, .iinc 4 1, 104, 4, 1) := rfl
theorem zr_194_104 : zRow xM 194 104 = some (42, .goto (-95), 105, 9, 0) := rfl
theorem zr_194_107 : zRow xM 194 107 = some (7, .aload_n 0, 108, 0, 0) := rfl
theorem zr_194_108 : zRow xM 194 108 = some (46, .getfield 236, 111, 9, 23) := rfl
theorem zr_194_111 : zRow xM 194 111 = some (3, .iload_n 3, 112, 3, 0) := rfl
theorem zr_194_112 : zRow xM 194 112 = some (41, .if_icmp .lt 7, 115, 119, 0) := rfl
theorem zr_194_115 : zRp 194 115 116 (0, 1) := ⟨_, _, _, _, rfl, by decide, Option.some_ne_none _, rfl⟩
theorem zr_194_116 : zRow xM 194 116 = some (42, .goto 4, 117, 120, 0) := rfl
theorem zr_194_119 : zRp 194 119 120 (0, 0) := ⟨_, _, _, _, rfl, by decide, Option.some_ne_none _, rfl⟩
theorem zr_194_120 : zRow xM 194 120 = some (108, .ireturn, 121, 0, 0) := rfl
theorem zm_195 : zMt xM 195 = some (15, (some .int), 2, 0, 0) := rfl
theorem zr_195_0 : zRp 195 0 1 (0, -1) := ⟨_, _, _, _, rfl, by decide, Option.some_ne_none _, rfl⟩
theorem zr_195_1 : zRow xM 195 1 = some (9, .istore_n 2, 2, 2, 0) := rfl
theorem zr_195_2 : zRp 195 2 3 (1, 0) := ⟨_, _, _, _, rfl, by decide, Option.some_ne_none _, rfl⟩
theorem zr_195_3 : zRow xM 195 3 = some (13, .lstore_n 3, 4, 3, 0) := rfl
theorem zr_195_4 : zRp 195 4 5 (1, 1) := ⟨_, _, _, _, rfl, by decide, Option.some_ne_none _, rfl⟩
theorem zr_195_5 : zRow xM 195 5 = some (14, .lstore 5, 7, 5, 0) := rfl
theorem zr_195_7 : zRp 195 7 8 (0, 0) := ⟨_, _, _, _, rfl, by decide, Option.some_ne_none _, rfl⟩
theorem zr_195_8 : zRow xM 195 8 = some (10, .istore 7, 10, 7, 0) := rfl
theorem zr_195_10 : zRow xM 195 10 = some (4, .iload 7, 12, 7, 0) := rfl
theorem zr_195_12 : zRow xM 195 12 = some (7, .aload_n 0, 13, 0, 0) := rfl
theorem zr_195_13 : zRow xM 195 13 = some (105, .invokevirtual 61, 16, 141, 9) := rfl
theorem zr_195_16 : zRow xM 195 16 = some (41, .if_icmp .ge 141, 19, 157, 3) := rfl
theorem zr_195_19 : zRp 195 19 20 (0, 0) := ⟨_, _, _, _, rfl, by decide, Option.some_ne_none _, rfl⟩
theorem zr_195_20 : zRow xM 195 20 = some (10, .istore 8, 22, 8, 0) := rfl
theorem zr_195_22 : zRow xM 195 22 = some (4, .iload 8, 24, 8, 0) := rfl
theorem zr_195_24 : zRp 195 24 26 (0, 100) := ⟨_, _, _, _, rfl, by decide, Option.some_ne_none _, rfl⟩
theorem zr_195_26 : zRow xM 195 26 = some (41, .if_icmp .ge 125, 29, 151, 3) := rfl
theorem zr_195_29 : zRow xM 195 29 = some (7, .aload_n 0, 30, 0, 0) := rfl
theorem zr_195_30 : zRow xM 195 30 = some (4, .iload 7, 32, 7, 0) := rfl
theorem zr_195_32 : zRow xM 195 32 = some (4, .iload 8, 34, 8, 0) := rfl
theorem zr_195_34 : zRow xM 195 34 = some (105, .invokevirtual 193, 37, 172, 9) := rfl
theorem zr_195_37 : zRow xM 195 37 = some (40, .ifCond .eq 108, 40, 145, 1) := rfl
theorem zr_195_40 : zRow xM 195 40 = some (7, .aload_n 0, 41, 0, 0) := rfl
theorem zr_195_41 : zRow xM 195 41 = some (3, .iload_n 1, 42, 1, 0) := rfl
theorem zr_195_42 : zRow xM 195 42 = some (4, .iload 8, 44, 8, 0) := rfl
theorem zr_195_44 : zRow xM 195 44 = some (105, .invokevirtual 190, 47, 167, 9) := rfl
theorem zr_195_47 : zRp 195 47 48 (1, 0) := ⟨_, _, _, _, rfl, by decide, Option.some_ne_none _, rfl⟩
theorem zr_195_48 : zRow xM 195 48 = some (14, .lstore 9, 50, 9, 0) := rfl
theorem zr_195_50 : zRp 195 50 51 (1, 0) := ⟨_, _, _, _, rfl, by decide, Option.some_ne_none _, rfl⟩
theorem zr_195_51 : zRow xM 195 51 = some (14, .lstore 11, 53, 11, 0) := rfl
theorem zr_195_53 : zRp 195 53 54 (0, 0) := ⟨_, _, _, _, rfl, by decide, Option.some_ne_none _, rfl⟩
theorem zr_195_54 : zRow xM 195 54 = some (10, .istore 13, 56, 13, 0) := rfl
theorem zr_195_56 : zRow xM 195 56 = some (4, .iload 13, 58, 13, 0) := rfl
theorem zr_195_58 : zRow xM 195 58 = some (7, .aload_n 0, 59, 0, 0) := rfl
theorem zr_195_59 : zRow xM 195 59 = some (105, .invokevirtual 61, 62, 141, 9) := rfl
theorem zr_195_62 : zRow xM 195 62 = some (41, .if_icmp .ge 39, 65, 101, 3) := rfl
theorem zr_195_65 : zRow xM 195 65 = some (7, .aload_n 0, 66, 0, 0) := rfl
theorem zr_195_66 : zRow xM 195 66 = some (4, .iload 13, 68, 13, 0) := rfl
theorem zr_195_68 : zRow xM 195 68 = some (4, .iload 8, 70, 8, 0) := rfl
theorem zr_195_70 : zRow xM 195 70 = some (105, .invokevirtual 193, 73, 172, 9) := rfl
theorem zr_195_73 : zRow xM 195 73 = some (40, .ifCond .eq 22, 76, 95, 1) := rfl
theorem zr_195_76 : zRow xM 195 76 = some (6, .lload 9, 78, 9, 0) := rfl
theorem zr_195_78 : zRow xM 195 78 = some (7, .aload_n 0, 79, 0, 0) := rfl
theorem zr_195_79 : zRow xM 195 79 = some (46, .getfield 34, 82, 9, 14) := rfl
theorem zr_195_82 : zRow xM 195 82 = some (4, .iload 13, 84, 13, 0) := rfl
theorem zr_195_84 : zRow xM 195 84 = some (48, .iaload, 85, 0, 0) := rfl
theorem zr_195_85 : zRow xM 195 85 = some (36, .i2l, 86, 0, 0) := rfl
theorem zr_195_86 : zRow xM 195 86 = some (27, .ladd, 87, 0, 0) := rfl
theorem zr_195_87 : zRow xM 195 87 = some (14, .lstore 9, 89, 9, 0) := rfl
theorem zr_195_89 : zRow xM 195 89 = some (6, .lload 11, 91, 11, 0) := rfl
theorem zr_195_91 : zRp 195 91 92 (1, 1) := ⟨_, _, _, _, rfl, by decide, Option.some_ne_none _, rfl⟩
theorem zr_195_92 : zRow xM 195 92 = some (27, .ladd, 93, 0, 0) := rfl
theorem zr_195_93 : zRow xM 195 93 = some (14, .lstore 11, 95, 11, 0) := rfl
theorem zr_195_95 : zRow xM 195 95 = some (15, .iinc 13 1, 98, 13, 1) := rfl
theorem zr_195_98 : zRow xM 195 98 = some (42, .goto (-42), 99, 56, 0) := rfl
theorem zr_195_101 : zRow xM 195 101 = some (6, .lload 11, 103, 11, 0) := rfl
theorem zr_195_103 : zRow xM 195 103 = some (7, .aload_n 0, 104, 0, 0) := rfl
theorem zr_195_104 : zRow xM 195 104 = some (46, .getfield 34, 107, 9, 14) := rfl
theorem zr_195_107 : zRow xM 195 107 = some (4, .iload 7, 109, 7, 0) := rfl
theorem zr_195_109 : zRow xM 195 109 = some (48, .iaload, 110, 0, 0) := rfl
theorem zr_195_110 : zRow xM 195 110 = some (36, .i2l, 111, 0, 0) := rfl
theorem zr_195_111 : zRow xM 195 111 = some (29, .lmul, 112, 0, 0) := rfl
theorem zr_195_112 : zRow xM 195 112 = some (6, .lload 9, 114, 9, 0) := rfl
theorem zr_195_114 : zRow xM 195 114 = some (28, .lsub, 115, 0, 0) := rfl
theorem zr_195_115 : zRow xM 195 115 = some (14, .lstore 13, 117, 13, 0) := rfl
theorem zr_195_117 : zRow xM 195 117 = some (3, .iload_n 2, 118, 2, 0) := rfl
theorem zr_195_118 : zRp 195 118 119 (0, -1) := ⟨_, _, _, _, rfl, by decide, Option.some_ne_none _, rfl⟩
theorem zr_195_119 : zRow xM 195 119 = some (41, .if_icmp .eq 16, 122, 135, 1) := rfl
theorem zr_195_122 : zRow xM 195 122 = some (6, .lload 13, 124, 13, 0) := rfl
theorem zr_195_124 : zRow xM 195 124 = some (6, .lload 5, 126, 5, 0) := rfl
theorem zr_195_126 : zRow xM 195 126 = some (29, .lmul, 127, 0, 0) := rfl
theorem zr_195_127 : zRow xM 195 127 = some (5, .lload_n 3, 128, 3, 0) := rfl
theorem zr_195_128 : zRow xM 195 128 = some (6, .lload 11, 130, 11, 0) := rfl
theorem zr_195_130 : zRow xM 195 130 = some (29, .lmul, 131, 0, 0) := rfl
theorem zr_195_131 : zRow xM 195 131 = some (39, .lcmp, 132, 0, 0) := rfl
theorem zr_195_132 : zRow xM 195 132 = some (40, .ifCond .le 13, 135, 145, 5) := rfl
theorem zr_195_135 : zRow xM 195 135 = some (4, .iload 7, 137, 7, 0) := rfl
theorem zr_195_137 : zRow xM 195 137 = some (9, .istore_n 2, 138, 2, 0) := rfl
theorem zr_195_138 : zRow xM 195 138 = some (6, .lload 13, 140, 13, 0) := rfl
theorem zr_195_140 : zRow xM 195 140 = some (13, .lstore_n 3, 141, 3, 0) := rfl
theorem zr_195_141 : zRow xM 195 141 = some (6, .lload 11, 143, 11, 0) := rfl
theorem zr_195_143 : zRow xM 195 143 = some (14, .lstore 5, 145, 5, 0) := rfl
theorem zr_195_145 : zRow xM 195 145 = some (15, .iinc 8 1, 148, 8, 1) := rfl
theorem zr_195_148 : zRow xM 195 148 = some (42, .goto (-126), 149, 22, 0) := rfl
theorem zr_195_151 : zRow xM 195 151 = some (15, .iinc 7 1, 154, 7, 1) := rfl
theorem zr_195_154 : zRow xM 195 154 = some (42, .goto (-144), 155, 10, 0) := rfl
theorem zr_195_157 : zRow xM 195 157 = some (3, .iload_n 2, 158, 2, 0) := rfl
theorem zr_195_158 : zRp 195 158 159 (0, -1) := ⟨_, _, _, _, rfl, by decide, Option.some_ne_none _, rfl⟩
theorem zr_195_159 : zRow xM 195 159 = some (41, .if_icmp .eq 10, 162, 169, 1) := rfl
theorem zr_195_162 : zRow xM 195 162 = some (7, .aload_n 0, 163, 0, 0) := rfl
theorem zr_195_163 : zRow xM 195 163 = some (5, .lload_n 3, 164, 3, 0) := rfl
theorem zr_195_164 : zRow xM 195 164 = some (6, .lload 5, 166, 5, 0) := rfl
theorem zr_195_166 : zRow xM 195 166 = some (105, .invokevirtual 196, 169, 173, 9) := rfl
theorem zr_195_169 : zRow xM 195 169 = some (3, .iload_n 2, 170, 2, 0) := rfl
theorem zr_195_170 : zRow xM 195 170 = some (108, .ireturn, 171, 0, 0) := rfl
theorem zm_196 : zMt xM 196 = some (7, (some .int), 4, 0, 0) := rfl
theorem zr_196_0 : zRow xM 196 0 = some (3, .iload_n 1, 1, 1, 0) := rfl
theorem zr_196_1 : zRow xM 196 1 = some (107, .invokestatic 88, 4, 148, 0) := rfl
theorem zr_196_4 : zRow xM 196 4 = some (40, .ifCond .eq 32, 7, 36, 1) := rfl
theorem zr_196_7 : zRow xM 196 7 = some (3, .iload_n 2, 8, 2, 0) := rfl
theorem zr_196_8 : zRow xM 196 8 = some (36, .i2l, 9, 0, 0) := rfl
theorem zr_196_9 : zRp 196 9 10 (1, 0) := ⟨_, _, _, _, rfl, by decide, Option.some_ne_none _, rfl⟩
theorem zr_196_10 : zRp 196 10 13 (1, 2) := ⟨_, _, _, _, rfl, by decide, Option.some_ne_none _, rfl⟩
theorem zr_196_13 : zRow xM 196 13 = some (107, .invokestatic 65, 16, 140, 0) := rfl
theorem zr_196_16 : zRow xM 196 16 = some (40, .ifCond .eq 20, 19, 36, 1) := rfl
theorem zr_196_19 : zRow xM 196 19 = some (3, .iload_n 2, 20, 2, 0) := rfl
theorem zr_196_20 : zRp 196 20 21 (0, 1) := ⟨_, _, _, _, rfl, by decide, Option.some_ne_none _, rfl⟩
theorem zr_196_21 : zRow xM 196 21 = some (41, .if_icmp .ne 18, 24, 39, 4) := rfl
theorem zr_196_24 : zRow xM 196 24 = some (3, .iload_n 3, 25, 3, 0) := rfl
theorem zr_196_25 : zRow xM 196 25 = some (36, .i2l, 26, 0, 0) := rfl
theorem zr_196_26 : zRp 196 26 27 (1, 1) := ⟨_, _, _, _, rfl, by decide, Option.some_ne_none _, rfl⟩
theorem zr_196_27 : zRp 196 27 30 (1, 9) := ⟨_, _, _, _, rfl, by decide, Option.some_ne_none _, rfl⟩
theorem zr_196_30 : zRow xM 196 30 = some (107, .invokestatic 65, 33, 140, 0) := rfl
theorem zr_196_33 : zRow xM 196 33 = some (40, .ifCond .ne 6, 36, 39, 4) := rfl
theorem zr_196_36 : zRp 196 36 38 (0, -2) := ⟨_, _, _, _, rfl, by decide, Option.some_ne_none _, rfl⟩
theorem zr_196_38 : zRow xM 196 38 = some (108, .ireturn, 39, 0, 0) := rfl
theorem zr_196_39 : zRow xM 196 39 = some (3, .iload_n 2, 40, 2, 0) := rfl
theorem zr_196_40 : zRp 196 40 41 (0, 2) := ⟨_, _, _, _, rfl, by decide, Option.some_ne_none _, rfl⟩
theorem zr_196_41 : zRow xM 196 41 = some (41, .if_icmp .ne 9, 44, 50, 4) := rfl
theorem zr_196_44 : zRow xM 196 44 = some (7, .aload_n 0, 45, 0, 0) := rfl
theorem zr_196_45 : zRow xM 196 45 = some (3, .iload_n 1, 46, 1, 0) := rfl
theorem zr_196_46 : zRow xM 196 46 = some (105, .invokevirtual 247, 49, 195, 9) := rfl
theorem zr_196_49 : zRow xM 196 49 = some (108, .ireturn, 50, 0, 0) := rfl
theorem zr_196_50 : zRp 196 50 51 (0, -1) := ⟨_, _, _, _, rfl, by decide, Option.some_ne_none _, rfl⟩
theorem zr_196_51 : zRow xM 196 51 = some (10, .istore 4, 53, 4, 0) := rfl
theorem zr_196_53 : zRp 196 53 54 (0, 0) := ⟨_, _, _, _, rfl, by decide, Option.some_ne_none _, rfl⟩
theorem zr_196_54 : zRow xM 196 54 = some (10, .istore 5, 56, 5, 0) := rfl
theorem zr_196_56 : zRp 196 56 57 (0, 0) := ⟨_, _, _, _, rfl, by decide, Option.some_ne_none _, rfl⟩
theorem zr_196_57 : zRow xM 196 57 = some (10, .istore 6, 59, 6, 0) := rfl
theorem zr_196_59 : zRow xM 196 59 = some (4, .iload 6, 61, 6, 0) := rfl
theorem zr_196_61 : zRow xM 196 61 = some (7, .aload_n 0, 62, 0, 0) := rfl
theorem zr_196_62 : zRow xM 196 62 = some (105, .invokevirtual 61, 65, 141, 9) := rfl
theorem zr_196_65 : zRow xM 196 65 = some (41, .if_icmp .ge 53, 68, 118, 3) := rfl
theorem zr_196_68 : zRow xM 196 68 = some (7, .aload_n 0, 69, 0, 0) := rfl
theorem zr_196_69 : zRow xM 196 69 = some (3, .iload_n 1, 70, 1, 0) := rfl
theorem zr_196_70 : zRow xM 196 70 = some (4, .iload 6, 72, 6, 0) := rfl
theorem zr_196_72 : zRow xM 196 72 = some (3, .iload_n 2, 73, 2, 0) := rfl
theorem zr_196_73 : zRow xM 196 73 = some (40, .ifCond .ne 7, 76, 80, 4) := rfl
theorem zr_196_76 : zRp 196 76 77 (0, 1) := ⟨_, _, _, _, rfl, by decide, Option.some_ne_none _, rfl⟩
theorem zr_196_77 : zRow xM 196 77 = some (42, .goto 4, 78, 81, 0) := rfl
theorem zr_196_80 : zRow xM 196 80 = some (3, .iload_n 3, 81, 3, 0) := rfl
theorem zr_196_81 : zRow xM 196 81 = some (105, .invokevirtual 250, 84, 194, 9) := rfl
theorem zr_196_84 : zRow xM 196 84 = some (40, .ifCond .eq 28, 87, 112, 1) := rfl
theorem zr_196_87 : zRow xM 196 87 = some (4, .iload 4, 89, 4, 0) := rfl
theorem zr_196_89 : zRp 196 89 90 (0, -1) := ⟨_, _, _, _, rfl, by decide, Option.some_ne_none _, rfl⟩
theorem zr_196_90 : zRow xM 196 90 = some (41, .if_icmp .eq 12, 93, 102, 1) := rfl
theorem zr_196_93 : zRow xM 196 93 = some (7, .aload_n 0, 94, 0, 0) := rfl
theorem zr_196_94 : zRow xM 196 94 = some (46, .getfield 242, 97, 9, 24) := rfl
theorem zr_196_97 : zRow xM 196 97 = some (4, .iload 5, 99, 5, 0) := rfl
theorem zr_196_99 : zRow xM 196 99 = some (41, .if_icmp .le 13, 102, 112, 5) := rfl
theorem zr_196_102 : zRow xM 196 102 = some (4, .iload 6, 104, 6, 0) := rfl
theorem zr_196_104 : zRow xM 196 104 = some (10, .istore 4, 106, 4, 0) := rfl
theorem zr_196_106 : zRow xM 196 106 = some (7, .aload_n 0, 107, 0, 0) := rfl
theorem zr_196_107 : zRow xM 196 107 = some (46, .getfield 242, 110, 9, 24) := rfl
theorem zr_196_110 : zRow xM 196 110 = some (10, .istore 5, 112, 5, 0) := rfl
theorem zr_196_112 : zRow xM 196 112 = some (15, .iinc 6 1, 115, 6, 1) := rfl
theorem zr_196_115 : zRow xM 196 115 = some (42, .goto (-56), 116, 59, 0) := rfl
theorem zr_196_118 : zRow xM 196 118 = some (4, .iload 4, 120, 4, 0) := rfl
theorem zr_196_120 : zRow xM 196 120 = some (108, .ireturn, 121, 0, 0) := rfl
theorem zm_197 : zMt xM 197 = some (6, (some .boolean), 3, 0, 0) := rfl
theorem zr_197_0 : zRp 197 0 1 (0, 0) := ⟨_, _, _, _, rfl, by decide, Option.some_ne_none _, rfl⟩
theorem zr_197_1 : zRow xM 197 1 = some (9, .istore_n 3, 2, 3, 0) := rfl
theorem zr_197_2 : zRp 197 2 3 (0, 0) := ⟨_, _, _, _, rfl, by decide, Option.some_ne_none _, rfl⟩
theorem zr_197_3 : zRow xM 197 3 = some (10, .istore 4, 5, 4, 0) := rfl
theorem zr_197_5 : zRow xM 197 5 = some (4, .iload 4, 7, 4, 0) := rfl
theorem zr_197_7 : zRow xM 197 7 = some (7, .aload_n 0, 8, 0, 0) := rfl
theorem zr_197_8 : zRow xM 197 8 = some (105, .invokevirtual 73, 11, 142, 9) := rfl
theorem zr_197_11 : zRow xM 197 11 = some (41, .if_icmp .ge 106, 14, 117, 3) := rfl
theorem zr_197_14 : zRow xM 197 14 = some (7, .aload_n 0, 15, 0, 0) := rfl
theorem zr_197_15 : zRow xM 197 15 = some (4, .iload 4, 17, 4, 0) := rfl
theorem zr_197_17 : zRp 197 17 18 (0, 1) := ⟨_, _, _, _, rfl, by decide, Option.some_ne_none _, rfl⟩
theorem zr_197_18 : zRow xM 197 18 = some (105, .invokevirtual 76, 21, 144, 9) := rfl
theorem zr_197_21 : zRow xM 197 21 = some (3, .iload_n 1, 22, 1, 0) := rfl
theorem zr_197_22 : zRow xM 197 22 = some (41, .if_icmp .ne 25, 25, 47, 4) := rfl
theorem zr_197_25 : zRow xM 197 25 = some (7, .aload_n 0, 26, 0, 0) := rfl
theorem zr_197_26 : zRow xM 197 26 = some (4, .iload 4, 28, 4, 0) := rfl
theorem zr_197_28 : zRp 197 28 29 (0, 2) := ⟨_, _, _, _, rfl, by decide, Option.some_ne_none _, rfl⟩
theorem zr_197_29 : zRow xM 197 29 = some (105, .invokevirtual 76, 32, 144, 9) := rfl
theorem zr_197_32 : zRow xM 197 32 = some (3, .iload_n 2, 33, 2, 0) := rfl
theorem zr_197_33 : zRow xM 197 33 = some (41, .if_icmp .ne 14, 36, 47, 4) := rfl
theorem zr_197_36 : zRow xM 197 36 = some (7, .aload_n 0, 37, 0, 0) := rfl
theorem zr_197_37 : zRow xM 197 37 = some (4, .iload 4, 39, 4, 0) := rfl
theorem zr_197_39 : zRp 197 39 40 (0, 3) := ⟨_, _, _, _, rfl, by decide, Option.some_ne_none _, rfl⟩
theorem zr_197_40 : zRow xM 197 40 = some (105, .invokevirtual 76, 43, 144, 9) := rfl
theorem zr_197_43 : zRp 197 43 44 (0, 2) := ⟨_, _, _, _, rfl, by decide, Option.some_ne_none _, rfl⟩
theorem zr_197_44 : zRow xM 197 44 = some (41, .if_icmp .eq 35, 47, 79, 1) := rfl
theorem zr_197_47 : zRow xM 197 47 = some (7, .aload_n 0, 48, 0, 0) := rfl
theorem zr_197_48 : zRow xM 197 48 = some (4, .iload 4, 50, 4, 0) := rfl
theorem zr_197_50 : zRp 197 50 51 (0, 1) := ⟨_, _, _, _, rfl, by decide, Option.some_ne_none _, rfl⟩
theorem zr_197_51 : zRow xM 197 51 = some (105, .invokevirtual 76, 54, 144, 9) := rfl
theorem zr_197_54 : zRow xM 197 54 = some (3, .iload_n 2, 55, 2, 0) := rfl
theorem zr_197_55 : zRow xM 197 55 = some (41, .if_icmp .ne 28, 58, 83, 4) := rfl
theorem zr_197_58 : zRow xM 197 58 = some (7, .aload_n 0, 59, 0, 0) := rfl
theorem zr_197_59 : zRow xM 197 59 = some (4, .iload 4, 61, 4, 0) := rfl
theorem zr_197_61 : zRp 197 61 62 (0, 2) := ⟨_, _, _, _, rfl, by decide, Option.some_ne_none _, rfl⟩
theorem zr_197_62 : zRow xM 197 62 = some (105, .invokevirtual 76, 65, 144, 9) := rfl
theorem zr_197_65 : zRow xM 197 65 = some (3, .iload_n 1, 66, 1, 0) := rfl
theorem zr_197_66 : zRow xM 197 66 = some (41, .if_icmp .ne 17, 69, 83, 4) := rfl
theorem zr_197_69 : zRow xM 197 69 = some (7, .aload_n 0, 70, 0, 0) := rfl
theorem zr_197_70 : zRow xM 197 70 = some (4, .iload 4, 72, 4, 0) := rfl
theorem zr_197_72 : zRp 197 72 73 (0, 3) := ⟨_, _, _, _, rfl, by decide, Option.some_ne_none _, rfl⟩
theorem zr_197_73 : zRow xM 197 73 = some (105, .invokevirtual 76, 76, 144, 9) := rfl
theorem zr_197_76 : zRow xM 197 76 = some (40, .ifCond .ne 7, 79, 83, 4) := rfl
theorem zr_197_79 : zRp 197 79 80 (0, 1) := ⟨_, _, _, _, rfl, by decide, Option.some_ne_none _, rfl⟩
theorem zr_197_80 : zRow xM 197 80 = some (42, .goto 4, 81, 84, 0) := rfl
theorem zr_197_83 : zRp 197 83 84 (0, 0) := ⟨_, _, _, _, rfl, by decide, Option.some_ne_none _, rfl⟩
theorem zr_197_84 : zRow xM 197 84 = some (10, .istore 5, 86, 5, 0) := rfl
theorem zr_197_86 : zRow xM 197 86 = some (3, .iload_n 3, 87, 3, 0) := rfl
theorem zr_197_87 : zRow xM 197 87 = some (40, .ifCond .ne 18, 90, 105, 4) := rfl
theorem zr_197_90 : zRow xM 197 90 = some (4, .iload 5, 92, 5, 0) := rfl
theorem zr_197_92 : zRow xM 197 92 = some (40, .ifCond .eq 17, 95, 109, 1) := rfl
theorem zr_197_95 : zRow xM 197 95 = some (7, .aload_n 0, 96, 0, 0) := rfl
theorem zr_197_96 : zRow xM 197 96 = some (4, .iload 4, 98, 4, 0) := rfl
theorem zr_197_98 : zRp 197 98 99 (0, 4) := ⟨_, _, _, _, rfl, by decide, Option.some_ne_none _, rfl⟩
theorem zr_197_99 : zRow xM 197 99 = some (105, .invokevirtual 76, 102, 144, 9) := rfl
theorem zr_197_102 : zRow xM 197 102 = some (40, .ifCond .ne 7, 105, 109, 4) := rfl
theorem zr_197_105 : zRp 197 105 106 (0, 1) := ⟨_, _, _, _, rfl, by decide, Option.some_ne_none _, rfl⟩
theorem zr_197_106 : zRow xM 197 106 = some (42, .goto 4, 107, 110, 0) := rfl
theorem zr_197_109 : zRp 197 109 110 (0, 0) := ⟨_, _, _, _, rfl, by decide, Option.some_ne_none _, rfl⟩
theorem zr_197_110 : zRow xM 197 110 = some (9, .istore_n 3, 111, 3, 0) := rfl
theorem zr_197_111 : zRow xM 197 111 = some (15, .iinc 4 1, 114, 4, 1) := rfl
theorem zr_197_114 : zRow xM 197 114 = some (42, .goto (-109), 115, 5, 0) := rfl
theorem zr_197_117 : zRow xM 197 117 = some (3, .iload_n 3, 118, 3, 0) := rfl
theorem zr_197_118 : zRow xM 197 118 = some (108, .ireturn, 119, 0, 0) := rfl
theorem zm_198 : zMt xM 198 = some (5, (some .int), 1, 0, 0) := rfl
theorem zr_198_0 : zRp 198 0 1 (0, 0) := ⟨_, _, _, _, rfl, by decide, Option.some_ne_none _, rfl⟩
theorem zr_198_1 : zRow xM 198 1 = some (9, .istore_n 1, 2, 1, 0) := rfl
theorem zr_198_2 : zRp 198 2 3 (0, 0) := ⟨_, _, _, _, rfl, by decide, Option.some_ne_none _, rfl⟩
theorem zr_198_3 : zRow xM 198 3 = some (9, .istore_n 2, 4, 2, 0) := rfl
theorem zr_198_4 : zRow xM 198 4 = some (3, .iload_n 2, 5, 2, 0) := rfl
theorem zr_198_5 : zRow xM 198 5 = some (7, .aload_n 0, 6, 0, 0) := rfl
theorem zr_198_6 : zRow xM 198 6 = some (105, .invokevirtual 61, 9, 141, 9) := rfl
theorem zr_198_9 : zRow xM 198 9 = some (41, .if_icmp .ge 90, 12, 99, 3) := rfl
theorem zr_198_12 : zRow xM 198 12 = some (3, .iload_n 2, 13, 2, 0) := rfl
theorem zr_198_13 : zRp 198 13 14 (0, 1) := ⟨_, _, _, _, rfl, by decide, Option.some_ne_none _, rfl⟩
theorem zr_198_14 : zRow xM 198 14 = some (16, .iadd, 15, 0, 0) := rfl
theorem zr_198_15 : zRow xM 198 15 = some (9, .istore_n 3, 16, 3, 0) := rfl
theorem zr_198_16 : zRow xM 198 16 = some (3, .iload_n 3, 17, 3, 0) := rfl
theorem zr_198_17 : zRow xM 198 17 = some (7, .aload_n 0, 18, 0, 0) := rfl
theorem zr_198_18 : zRow xM 198 18 = some (105, .invokevirtual 61, 21, 141, 9) := rfl
theorem zr_198_21 : zRow xM 198 21 = some (41, .if_icmp .ge 72, 24, 93, 3) := rfl
theorem zr_198_24 : zRow xM 198 24 = some (3, .iload_n 2, 25, 2, 0) := rfl
theorem zr_198_25 : zRp 198 25 26 (0, 1) := ⟨_, _, _, _, rfl, by decide, Option.some_ne_none _, rfl⟩
theorem zr_198_26 : zRow xM 198 26 = some (16, .iadd, 27, 0, 0) := rfl
theorem zr_198_27 : zRow xM 198 27 = some (10, .istore 4, 29, 4, 0) := rfl
theorem zr_198_29 : zRow xM 198 29 = some (4, .iload 4, 31, 4, 0) := rfl
theorem zr_198_31 : zRow xM 198 31 = some (7, .aload_n 0, 32, 0, 0) := rfl
theorem zr_198_32 : zRow xM 198 32 = some (105, .invokevirtual 61, 35, 141, 9) := rfl
theorem zr_198_35 : zRow xM 198 35 = some (41, .if_icmp .ge 52, 38, 87, 3) := rfl
theorem zr_198_38 : zRow xM 198 38 = some (3, .iload_n 1, 39, 1, 0) := rfl
theorem zr_198_39 : zRow xM 198 39 = some (3, .iload_n 3, 40, 3, 0) := rfl
theorem zr_198_40 : zRow xM 198 40 = some (4, .iload 4, 42, 4, 0) := rfl
theorem zr_198_42 : zRow xM 198 42 = some (41, .if_icmp .eq 36, 45, 78, 1) := rfl
theorem zr_198_45 : zRow xM 198 45 = some (7, .aload_n 0, 46, 0, 0) := rfl
theorem zr_198_46 : zRow xM 198 46 = some (3, .iload_n 2, 47, 2, 0) := rfl
theorem zr_198_47 : zRow xM 198 47 = some (3, .iload_n 3, 48, 3, 0) := rfl
theorem zr_198_48 : zRow xM 198 48 = some (105, .invokevirtual 253, 51, 197, 9) := rfl
theorem zr_198_51 : zRow xM 198 51 = some (40, .ifCond .eq 27, 54, 78, 1) := rfl
theorem zr_198_54 : zRow xM 198 54 = some (7, .aload_n 0, 55, 0, 0) := rfl
theorem zr_198_55 : zRow xM 198 55 = some (3, .iload_n 3, 56, 3, 0) := rfl
theorem zr_198_56 : zRow xM 198 56 = some (4, .iload 4, 58, 4, 0) := rfl
theorem zr_198_58 : zRow xM 198 58 = some (105, .invokevirtual 253, 61, 197, 9) := rfl
theorem zr_198_61 : zRow xM 198 61 = some (40, .ifCond .eq 17, 64, 78, 1) := rfl
theorem zr_198_64 : zRow xM 198 64 = some (7, .aload_n 0, 65, 0, 0) := rfl
theorem zr_198_65 : zRow xM 198 65 = some (4, .iload 4, 67, 4, 0) := rfl
theorem zr_198_67 : zRow xM 198 67 = some (3, .iload_n 2, 68, 2, 0) := rfl
theorem zr_198_68 : zRow xM 198 68 = some (105, .invokevirtual 253, 71, 197, 9) := rfl
theorem zr_198_71 : zRow xM 198 71 = some (40, .ifCond .eq 7, 74, 78, 1) := rfl
theorem zr_198_74 : zRp 198 74 75 (0, 1) := ⟨_, _, _, _, rfl, by decide, Option.some_ne_none _, rfl⟩
theorem zr_198_75 : zRow xM 198 75 = some (42, .goto 4, 76, 79, 0) := rfl
theorem zr_198_78 : zRp 198 78 79 (0, 0) := ⟨_, _, _, _, rfl, by decide, Option.some_ne_none _, rfl⟩
theorem zr_198_79 : zRow xM 198 79 = some (16, .iadd, 80, 0, 0) := rfl
theorem zr_198_80 : zRow xM 198 80 = some (9, .istore_n 1, 81, 1, 0) := rfl
theorem zr_198_81 : zRow xM 198 81 = some (15, .iinc 4 1, 84, 4, 1) := rfl
theorem zr_198_84 : zRow xM 198 84 = some (42, .goto (-55), 85, 29, 0) := rfl
theorem zr_198_87 : zRow xM 198 87 = some (15, .iinc 3 1, 90, 3, 1) := rfl
theorem zr_198_90 : zRow xM 198 90 = some (42, .goto (-74), 91, 16, 0) := rfl
theorem zr_198_93 : zRow xM 198 93 = some (15, .iinc 2 1, 96, 2, 1) := rfl
theorem zr_198_96 : zRow xM 198 96 = some (42, .goto (-92), 97, 4, 0) := rfl
theorem zr_198_99 : zRow xM 198 99 = some (3, .iload_n 1, 100, 1, 0) := rfl
theorem zr_198_100 : zRow xM 198 100 = some (108, .ireturn, 101, 0, 0) := rfl
theorem zm_199 : zMt xM 199 = some (10, (some .int), 2, 0, 0) := rfl
theorem zr_199_0 : zRow xM 199 0 = some (3, .iload_n 1, 1, 1, 0) := rfl
theorem zr_199_1 : zRp 199 1 2 (0, -1) := ⟨_, _, _, _, rfl, by decide, Option.some_ne_none _, rfl⟩
theorem zr_199_2 : zRow xM 199 2 = some (41, .if_icmp .eq 14, 5, 16, 1) := rfl
theorem zr_199_5 : zRow xM 199 5 = some (7, .aload_n 0, 6, 0, 0) := rfl
theorem zr_199_6 : zRow xM 199 6 = some (3, .iload_n 1, 7, 1, 0) := rfl
theorem zr_199_7 : zRow xM 199 7 = some (105, .invokevirtual 80, 10, 143, 9) := rfl
theorem zr_199_10 : zRow xM 199 10 = some (40, .ifCond .ne 6, 13, 16, 4) := rfl
theorem zr_199_13 : zRp 199 13 15 (0, -2) := ⟨_, _, _, _, rfl, by decide, Option.some_ne_none _, rfl⟩
theorem zr_199_15 : zRow xM 199 15 = some (108, .ireturn, 16, 0, 0) := rfl
theorem zr_199_16 : zRp 199 16 17 (0, 0) := ⟨_, _, _, _, rfl, by decide, Option.some_ne_none _, rfl⟩
theorem zr_199_17 : zRow xM 199 17 = some (9, .istore_n 2, 18, 2, 0) := rfl
theorem zr_199_18 : zRow xM 199 18 = some (3, .iload_n 2, 19, 2, 0) := rfl
theorem zr_199_19 : zRp 199 19 21 (0, 100) := ⟨_, _, _, _, rfl, by decide, Option.some_ne_none _, rfl⟩
theorem zr_199_21 : zRow xM 199 21 = some (41, .if_icmp .ge 16, 24, 37, 3) := rfl
theorem zr_199_24 : zRow xM 199 24 = some (7, .aload_n 0, 25, 0, 0) := rfl
theorem zr_199_25 : zRow xM 199 25 = some (46, .getfield 55, 28, 9, 25) := rfl
theorem zr_199_28 : zRow xM 199 28 = some (3, .iload_n 2, 29, 2, 0) := rfl
theorem zr_199_29 : zRp 199 29 30 (0, 0) := ⟨_, _, _, _, rfl, by decide, Option.some_ne_none _, rfl⟩
theorem zr_199_30 : zRow xM 199 30 = some (49, .iastore, 31, 0, 0) := rfl
theorem zr_199_31 : zRow xM 199 31 = some (15, .iinc 2 1, 34, 2, 1) := rfl
theorem zr_199_34 : zRow xM 199 34 = some (42, .goto (-16), 35, 18, 0) := rfl
theorem zr_199_37 : zRp 199 37 38 (0, 0) := ⟨_, _, _, _, rfl, by decide, Option.some_ne_none _, rfl⟩
theorem zr_199_38 : zRow xM 199 38 = some (9, .istore_n 2, 39, 2, 0) := rfl
theorem zr_199_39 : zRow xM 199 39 = some (3, .iload_n 2, 40, 2, 0) := rfl
theorem zr_199_40 : zRow xM 199 40 = some (7, .aload_n 0, 41, 0, 0) := rfl
theorem zr_199_41 : zRow xM 199 41 = some (105, .invokevirtual 73, 44, 142, 9) := rfl
theorem zr_199_44 : zRow xM 199 44 = some (41, .if_icmp .ge 83, 47, 127, 3) := rfl
theorem zr_199_47 : zRow xM 199 47 = some (7, .aload_n 0, 48, 0, 0) := rfl
theorem zr_199_48 : zRow xM 199 48 = some (3, .iload_n 2, 49, 2, 0) := rfl
theorem zr_199_49 : zRp 199 49 50 (0, 4) := ⟨_, _, _, _, rfl, by decide, Option.some_ne_none _, rfl⟩
theorem zr_199_50 : zRow xM 199 50 = some (105, .invokevirtual 76, 53, 144, 9) := rfl
theorem zr_199_53 : zRow xM 199 53 = some (40, .ifCond .ne 68, 56, 121, 4) := rfl
theorem zr_199_56 : zRow xM 199 56 = some (7, .aload_n 0, 57, 0, 0) := rfl
theorem zr_199_57 : zRow xM 199 57 = some (3, .iload_n 2, 58, 2, 0) := rfl
theorem zr_199_58 : zRp 199 58 59 (0, 3) := ⟨_, _, _, _, rfl, by decide, Option.some_ne_none _, rfl⟩
theorem zr_199_59 : zRow xM 199 59 = some (105, .invokevirtual 76, 62, 144, 9) := rfl
theorem zr_199_62 : zRp 199 62 63 (0, 1) := ⟨_, _, _, _, rfl, by decide, Option.some_ne_none _, rfl⟩
theorem zr_199_63 : zRow xM 199 63 = some (41, .if_icmp .eq 58, 66, 121, 1) := rfl
theorem zr_199_66 : zRow xM 199 66 = some (7, .aload_n 0, 67, 0, 0) := rfl
theorem zr_199_67 : zRow xM 199 67 = some (3, .iload_n 2, 68, 2, 0) := rfl
theorem zr_199_68 : zRp 199 68 69 (0, 3) := ⟨_, _, _, _, rfl, by decide, Option.some_ne_none _, rfl⟩
theorem zr_199_69 : zRow xM 199 69 = some (105, .invokevirtual 76, 72, 144, 9) := rfl
theorem zr_199_72 : zRp 199 72 73 (0, 2) := ⟨_, _, _, _, rfl, by decide, Option.some_ne_none _, rfl⟩
theorem zr_199_73 : zRow xM 199 73 = some (41, .if_icmp .ne 12, 76, 85, 4) := rfl
theorem zr_199_76 : zRow xM 199 76 = some (7, .aload_n 0, 77, 0, 0) := rfl
theorem zr_199_77 : zRow xM 199 77 = some (3, .iload_n 2, 78, 2, 0) := rfl
theorem zr_199_78 : zRp 199 78 79 (0, 1) := ⟨_, _, _, _, rfl, by decide, Option.some_ne_none _, rfl⟩
theorem zr_199_79 : zRow xM 199 79 = some (105, .invokevirtual 76, 82, 144, 9) := rfl
theorem zr_199_82 : zRow xM 199 82 = some (42, .goto 9, 83, 91, 0) := rfl
theorem zr_199_85 : zRow xM 199 85 = some (7, .aload_n 0, 86, 0, 0) := rfl
theorem zr_199_86 : zRow xM 199 86 = some (3, .iload_n 2, 87, 2, 0) := rfl
theorem zr_199_87 : zRp 199 87 88 (0, 2) := ⟨_, _, _, _, rfl, by decide, Option.some_ne_none _, rfl⟩
theorem zr_199_88 : zRow xM 199 88 = some (105, .invokevirtual 76, 91, 144, 9) := rfl
theorem zr_199_91 : zRow xM 199 91 = some (9, .istore_n 3, 92, 3, 0) := rfl
theorem zr_199_92 : zRow xM 199 92 = some (7, .aload_n 0, 93, 0, 0) := rfl
theorem zr_199_93 : zRow xM 199 93 = some (46, .getfield 55, 96, 9, 25) := rfl
theorem zr_199_96 : zRp 199 96 98 (0, 10) := ⟨_, _, _, _, rfl, by decide, Option.some_ne_none _, rfl⟩
theorem zr_199_98 : zRow xM 199 98 = some (3, .iload_n 3, 99, 3, 0) := rfl
theorem zr_199_99 : zRow xM 199 99 = some (18, .imul, 100, 0, 0) := rfl
theorem zr_199_100 : zRow xM 199 100 = some (7, .aload_n 0, 101, 0, 0) := rfl
theorem zr_199_101 : zRow xM 199 101 = some (3, .iload_n 2, 102, 2, 0) := rfl
theorem zr_199_102 : zRp 199 102 103 (0, 1) := ⟨_, _, _, _, rfl, by decide, Option.some_ne_none _, rfl⟩
theorem zr_199_103 : zRow xM 199 103 = some (105, .invokevirtual 76, 106, 144, 9) := rfl
theorem zr_199_106 : zRow xM 199 106 = some (16, .iadd, 107, 0, 0) := rfl
theorem zr_199_107 : zRow xM 199 107 = some (7, .aload_n 0, 108, 0, 0) := rfl
theorem zr_199_108 : zRow xM 199 108 = some (3, .iload_n 2, 109, 2, 0) := rfl
theorem zr_199_109 : zRp 199 109 110 (0, 2) := ⟨_, _, _, _, rfl, by decide, Option.some_ne_none _, rfl⟩
theorem zr_199_110 : zRow xM 199 110 = some (105, .invokevirtual 76, 113, 144, 9) := rfl
theorem zr_199_113 : zRow xM 199 113 = some (16, .iadd, 114, 0, 0) := rfl
theorem zr_199_114 : zRow xM 199 114 = some (3, .iload_n 3, 115, 3, 0) := rfl
theorem zr_199_115 : zRow xM 199 115 = some (17, .isub, 116, 0, 0) := rfl
theorem zr_199_116 : zRow xM 199 116 = some (45, .dup2, 117, 0, 0) := rfl
theorem zr_199_117 : zRow xM 199 117 = some (48, .iaload, 118, 0, 0) := rfl
theorem zr_199_118 : zRp 199 118 119 (0, 1) := ⟨_, _, _, _, rfl, by decide, Option.some_ne_none _, rfl⟩
theorem zr_199_119 : zRow xM 199 119 = some (16, .iadd, 120, 0, 0) := rfl
theorem zr_199_120 : zRow xM 199 120 = some (49, .iastore, 121, 0, 0) := rfl
theorem zr_199_121 : zRow xM 199 121 = some (15, .iinc 2 1, 124, 2, 1) := rfl
theorem zr_199_124 : zRow xM 199 124 = some (42, .goto (-85), 125, 39, 0) := rfl
theorem zr_199_127 : zRp 199 127 128 (0, 1) := ⟨_, _, _, _, rfl, by decide, Option.some_ne_none _, rfl⟩
theorem zr_199_128 : zRow xM 199 128 = some (9, .istore_n 2, 129, 2, 0) := rfl
theorem zr_199_129 : zRp 199 129 130 (0, 0) := ⟨_, _, _, _, rfl, by decide, Option.some_ne_none _, rfl⟩
theorem zr_199_130 : zRow xM 199 130 = some (9, .istore_n 3, 131, 3, 0) := rfl
theorem zr_199_131 : zRow xM 199 131 = some (3, .iload_n 3, 132, 3, 0) := rfl
theorem zr_199_132 : zRow xM 199 132 = some (7, .aload_n 0, 133, 0, 0) := rfl
theorem zr_199_133 : zRow xM 199 133 = some (105, .invokevirtual 61, 136, 141, 9) := rfl
theorem zr_199_136 : zRow xM 199 136 = some (41, .if_icmp .ge 13, 139, 149, 3) := rfl
theorem zr_199_139 : zRow xM 199 139 = some (3, .iload_n 2, 140, 2, 0) := rfl
theorem zr_199_140 : zRp 199 140 141 (0, 3) := ⟨_, _, _, _, rfl, by decide, Option.some_ne_none _, rfl⟩
theorem zr_199_141 : zRow xM 199 141 = some (18, .imul, 142, 0, 0) := rfl
theorem zr_199_142 : zRow xM 199 142 = some (9, .istore_n 2, 143, 2, 0) := rfl
theorem zr_199_143 : zRow xM 199 143 = some (15, .iinc 3 1, 146, 3, 1) := rfl
theorem zr_199_146 : zRow xM 199 146 = some (42, .goto (-15), 147, 131, 0) := rfl
theorem zr_199_149 : zRp 199 149 150 (0, 0) := ⟨_, _, _, _, rfl, by decide, Option.some_ne_none _, rfl⟩
theorem zr_199_150 : zRow xM 199 150 = some (9, .istore_n 3, 151, 3, 0) := rfl
theorem zr_199_151 : zRp 199 151 152 (0, -1) := ⟨_, _, _, _, rfl, by decide, Option.some_ne_none _, rfl⟩
theorem zr_199_152 : zRow xM 199 152 = some (10, .istore 4, 154, 4, 0) := rfl
theorem zr_199_154 : zRp 199 154 155 (0, 0) := ⟨_, _, _, _, rfl, by decide, Option.some_ne_none _, rfl⟩
theorem zr_199_155 : zRow xM 199 155 = some (10, .istore 5, 157, 5, 0) := rfl
theorem zr_199_157 : zRow xM 199 157 = some (4, .iload 5, 159, 5, 0) := rfl
theorem zr_199_159 : zRow xM 199 159 = some (3, .iload_n 2, 160, 2, 0) := rfl
theorem zr_199_160 : zRow xM 199 160 = some (41, .if_icmp .ge 161, 163, 321, 3) := rfl
theorem zr_199_163 : zRow xM 199 163 = some (4, .iload 5, 165, 5, 0) := rfl
theorem zr_199_165 : zRow xM 199 165 = some (10, .istore 6, 167, 6, 0) := rfl
theorem zr_199_167 : zRow xM 199 167 = some (7, .aload_n 0, 168, 0, 0) := rfl
theorem zr_199_168 : zRow xM 199 168 = some (105, .invokevirtual 61, 171, 141, 9) := rfl
theorem zr_199_171 : zRp 199 171 172 (0, 1) := ⟨_, _, _, _, rfl, by decide, Option.some_ne_none _, rfl⟩
theorem zr_199_172 : zRow xM 199 172 = some (17, .isub, 173, 0, 0) := rfl
theorem zr_199_173 : zRow xM 199 173 = some (10, .istore 7, 175, 7, 0) := rfl
theorem zr_199_175 : zRow xM 199 175 = some (4, .iload 7, 177, 7, 0) := rfl
theorem zr_199_177 : zRow xM 199 177 = some (40, .ifCond .lt 26, 180, 203, 0) := rfl
theorem zr_199_180 : zRow xM 199 180 = some (7, .aload_n 0, 181, 0, 0) := rfl
theorem zr_199_181 : zRow xM 199 181 = some (46, .getfield 58, 184, 9, 26) := rfl
theorem zr_199_184 : zRow xM 199 184 = some (4, .iload 7, 186, 7, 0) := rfl
theorem zr_199_186 : zRow xM 199 186 = some (4, .iload 6, 188, 6, 0) := rfl
theorem zr_199_188 : zRp 199 188 189 (0, 3) := ⟨_, _, _, _, rfl, by decide, Option.some_ne_none _, rfl⟩
theorem zr_199_189 : zRow xM 199 189 = some (20, .irem, 190, 0, 0) := rfl
theorem zr_199_190 : zRow xM 199 190 = some (49, .iastore, 191, 0, 0) := rfl
theorem zr_199_191 : zRow xM 199 191 = some (4, .iload 6, 193, 6, 0) := rfl
theorem zr_199_193 : zRp 199 193 194 (0, 3) := ⟨_, _, _, _, rfl, by decide, Option.some_ne_none _, rfl⟩
theorem zr_199_194 : zRow xM 199 194 = some (19, .idiv, 195, 0, 0) := rfl
theorem zr_199_195 : zRow xM 199 195 = some (10, .istore 6, 197, 6, 0) := rfl
theorem zr_199_197 : zRow xM 199 197 = some (15, .iinc 7 (-1), 200, 7, 4294967295) := rfl
theorem zr_199_200 : zRow xM 199 200 = some (42, .goto (-25), 201, 175, 0) := rfl
theorem zr_199_203 : zRp 199 203 204 (0, 0) := ⟨_, _, _, _, rfl, by decide, Option.some_ne_none _, rfl⟩
theorem zr_199_204 : zRow xM 199 204 = some (10, .istore 7, 206, 7, 0) := rfl
theorem zr_199_206 : zRp 199 206 207 (0, 0) := ⟨_, _, _, _, rfl, by decide, Option.some_ne_none _, rfl⟩
theorem zr_199_207 : zRow xM 199 207 = some (10, .istore 8, 209, 8, 0) := rfl
theorem zr_199_209 : zRow xM 199 209 = some (4, .iload 8, 211, 8, 0) := rfl
theorem zr_199_211 : zRow xM 199 211 = some (7, .aload_n 0, 212, 0, 0) := rfl
theorem zr_199_212 : zRow xM 199 212 = some (105, .invokevirtual 61, 215, 141, 9) := rfl
theorem zr_199_215 : zRow xM 199 215 = some (41, .if_icmp .ge 70, 218, 285, 3) := rfl
theorem zr_199_218 : zRp 199 218 219 (0, 0) := ⟨_, _, _, _, rfl, by decide, Option.some_ne_none _, rfl⟩
theorem zr_199_219 : zRow xM 199 219 = some (10, .istore 9, 221, 9, 0) := rfl
theorem zr_199_221 : zRow xM 199 221 = some (4, .iload 9, 223, 9, 0) := rfl
theorem zr_199_223 : zRow xM 199 223 = some (7, .aload_n 0, 224, 0, 0) := rfl
theorem zr_199_224 : zRow xM 199 224 = some (105, .invokevirtual 61, 227, 141, 9) := rfl
theorem zr_199_227 : zRow xM 199 227 = some (41, .if_icmp .ge 52, 230, 279, 3) := rfl
theorem zr_199_230 : zRow xM 199 230 = some (4, .iload 7, 232, 7, 0) := rfl
theorem zr_199_232 : zRow xM 199 232 = some (7, .aload_n 0, 233, 0, 0) := rfl
theorem zr_199_233 : zRow xM 199 233 = some (46, .getfield 58, 236, 9, 26) := rfl
theorem zr_199_236 : zRow xM 199 236 = some (4, .iload 8, 238, 8, 0) := rfl
theorem zr_199_238 : zRow xM 199 238 = some (48, .iaload, 239, 0, 0) := rfl
theorem zr_199_239 : zRp 199 239 240 (0, 1) := ⟨_, _, _, _, rfl, by decide, Option.some_ne_none _, rfl⟩
theorem zr_199_240 : zRow xM 199 240 = some (16, .iadd, 241, 0, 0) := rfl
theorem zr_199_241 : zRp 199 241 242 (0, 3) := ⟨_, _, _, _, rfl, by decide, Option.some_ne_none _, rfl⟩
theorem zr_199_242 : zRow xM 199 242 = some (20, .irem, 243, 0, 0) := rfl
theorem zr_199_243 : zRow xM 199 243 = some (7, .aload_n 0, 244, 0, 0) := rfl
theorem zr_199_244 : zRow xM 199 244 = some (46, .getfield 58, 247, 9, 26) := rfl
theorem zr_199_247 : zRow xM 199 247 = some (4, .iload 9, 249, 9, 0) := rfl
theorem zr_199_249 : zRow xM 199 249 = some (48, .iaload, 250, 0, 0) := rfl
theorem zr_199_250 : zRow xM 199 250 = some (41, .if_icmp .ne 19, 253, 269, 4) := rfl
theorem zr_199_253 : zRow xM 199 253 = some (7, .aload_n 0, 254, 0, 0) := rfl
theorem zr_199_254 : zRow xM 199 254 = some (46, .getfield 55, 257, 9, 25) := rfl
theorem zr_199_257 : zRp 199 257 259 (0, 10) := ⟨_, _, _, _, rfl, by decide, Option.some_ne_none _, rfl⟩
theorem zr_199_259 : zRow xM 199 259 = some (4, .iload 8, 261, 8, 0) := rfl
theorem zr_199_261 : zRow xM 199 261 = some (18, .imul, 262, 0, 0) := rfl
theorem zr_199_262 : zRow xM 199 262 = some (4, .iload 9, 264, 9, 0) := rfl
theorem zr_199_264 : zRow xM 199 264 = some (16, .iadd, 265, 0, 0) := rfl
theorem zr_199_265 : zRow xM 199 265 = some (48, .iaload, 266, 0, 0) := rfl
theorem zr_199_266 : zRow xM 199 266 = some (42, .goto 4, 267, 270, 0) := rfl
theorem zr_199_269 : zRp 199 269 270 (0, 0) := ⟨_, _, _, _, rfl, by decide, Option.some_ne_none _, rfl⟩
theorem zr_199_270 : zRow xM 199 270 = some (16, .iadd, 271, 0, 0) := rfl
theorem zr_199_271 : zRow xM 199 271 = some (10, .istore 7, 273, 7, 0) := rfl
theorem zr_199_273 : zRow xM 199 273 = some (15, .iinc 9 1, 276, 9, 1) := rfl
theorem zr_199_276 : zRow xM 199 276 = some (42, .goto (-55), 277, 221, 0) := rfl
theorem zr_199_279 : zRow xM 199 279 = some (15, .iinc 8 1, 282, 8, 1) := rfl
theorem zr_199_282 : zRow xM 199 282 = some (42, .goto (-73), 283, 209, 0) := rfl
theorem zr_199_285 : zRow xM 199 285 = some (4, .iload 7, 287, 7, 0) := rfl
theorem zr_199_287 : zRow xM 199 287 = some (4, .iload 4, 289, 4, 0) := rfl
theorem zr_199_289 : zRow xM 199 289 = some (41, .if_icmp .le 8, 292, 297, 5) := rfl
theorem zr_199_292 : zRow xM 199 292 = some (4, .iload 5, 294, 5, 0) := rfl
theorem zr_199_294 : zRow xM 199 294 = some (42, .goto 4, 295, 298, 0) := rfl
theorem zr_199_297 : zRow xM 199 297 = some (3, .iload_n 3, 298, 3, 0) := rfl
theorem zr_199_298 : zRow xM 199 298 = some (9, .istore_n 3, 299, 3, 0) := rfl
theorem zr_199_299 : zRow xM 199 299 = some (4, .iload 7, 301, 7, 0) := rfl
theorem zr_199_301 : zRow xM 199 301 = some (4, .iload 4, 303, 4, 0) := rfl
theorem zr_199_303 : zRow xM 199 303 = some (41, .if_icmp .le 8, 306, 311, 5) := rfl
theorem zr_199_306 : zRow xM 199 306 = some (4, .iload 7, 308, 7, 0) := rfl
theorem zr_199_308 : zRow xM 199 308 = some (42, .goto 5, 309, 313, 0) := rfl
theorem zr_199_311 : zRow xM 199 311 = some (4, .iload 4, 313, 4, 0) := rfl
theorem zr_199_313 : zRow xM 199 313 = some (10, .istore 4, 315, 4, 0) := rfl
theorem zr_199_315 : zRow xM 199 315 = some (15, .iinc 5 1, 318, 5, 1) := rfl
theorem zr_199_318 : zRow xM 199 318 = some (42, .goto (-161), 319, 157, 0) := rfl
theorem zr_199_321 : zRow xM 199 321 = some (3, .iload_n 1, 322, 1, 0) := rfl
theorem zr_199_322 : zRp 199 322 323 (0, -1) := ⟨_, _, _, _, rfl, by decide, Option.some_ne_none _, rfl⟩
theorem zr_199_323 : zRow xM 199 323 = some (41, .if_icmp .ne 6, 326, 329, 4) := rfl
theorem zr_199_326 : zRow xM 199 326 = some (4, .iload 4, 328, 4, 0) := rfl
theorem zr_199_328 : zRow xM 199 328 = some (108, .ireturn, 329, 0, 0) := rfl
theorem zr_199_329 : zRow xM 199 329 = some (7, .aload_n 0, 330, 0, 0) := rfl
theorem zr_199_330 : zRow xM 199 330 = some (105, .invokevirtual 61, 333, 141, 9) := rfl
theorem zr_199_333 : zRp 199 333 334 (0, 1) := ⟨_, _, _, _, rfl, by decide, Option.some_ne_none _, rfl⟩
theorem zr_199_334 : zRow xM 199 334 = some (17, .isub, 335, 0, 0) := rfl
theorem zr_199_335 : zRow xM 199 335 = some (10, .istore 5, 337, 5, 0) := rfl
theorem zr_199_337 : zRow xM 199 337 = some (4, .iload 5, 339, 5, 0) := rfl
theorem zr_199_339 : zRow xM 199 339 = some (3, .iload_n 1, 340, 1, 0) := rfl
theorem zr_199_340 : zRow xM 199 340 = some (41, .if_icmp .le 13, 343, 353, 5) := rfl
theorem zr_199_343 : zRow xM 199 343 = some (3, .iload_n 3, 344, 3, 0) := rfl
theorem zr_199_344 : zRp 199 344 345 (0, 3) := ⟨_, _, _, _, rfl, by decide, Option.some_ne_none _, rfl⟩
theorem zr_199_345 : zRow xM 199 345 = some (19, .idiv, 346, 0, 0) := rfl
theorem zr_199_346 : zRow xM 199 346 = some (9, .istore_n 3, 347, 3, 0) := rfl
theorem zr_199_347 : zRow xM 199 347 = some (15, .iinc 5 (-1), 350, 5, 4294967295) := rfl
theorem zr_199_350 : zRow xM 199 350 = some (42, .goto (-13), 351, 337, 0) := rfl
theorem zr_199_353 : zRow xM 199 353 = some (3, .iload_n 3, 354, 3, 0) := rfl
theorem zr_199_354 : zRp 199 354 355 (0, 3) := ⟨_, _, _, _, rfl, by decide, Option.some_ne_none _, rfl⟩
theorem zr_199_355 : zRow xM 199 355 = some (20, .irem, 356, 0, 0) := rfl
theorem zr_199_356 : zRow xM 199 356 = some (108, .ireturn, 357, 0, 0) := rfl
theorem zm_200 : zMt xM 200 = some (6, (some .int), 4, 0, 0) := rfl
theorem zr_200_0 : zRp 200 0 1 (0, 0) := ⟨_, _, _, _, rfl, by decide, Option.some_ne_none _, rfl⟩
theorem zr_200_1 : zRow xM 200 1 = some (10, .istore 4, 3, 4, 0) := rfl
theorem zr_200_3 : zRp 200 3 4 (0, 0) := ⟨_, _, _, _, rfl, by decide, Option.some_ne_none _, rfl⟩
theorem zr_200_4 : zRow xM 200 4 = some (10, .istore 5, 6, 5, 0) := rfl
theorem zr_200_6 : zRow xM 200 6 = some (4, .iload 5, 8, 5, 0) := rfl
theorem zr_200_8 : zRow xM 200 8 = some (7, .aload_n 0, 9, 0, 0) := rfl
theorem zr_200_9 : zRow xM 200 9 = some (105, .invokevirtual 73, 12, 142, 9) := rfl
theorem zr_200_12 : zRow xM 200 12 = some (41, .if_icmp .ge 54, 15, 66, 3) := rfl
theorem zr_200_15 : zRow xM 200 15 = some (4, .iload 4, 17, 4, 0) := rfl
theorem zr_200_17 : zRow xM 200 17 = some (7, .aload_n 0, 18, 0, 0) := rfl
theorem zr_200_18 : zRow xM 200 18 = some (4, .iload 5, 20, 5, 0) := rfl
theorem zr_200_20 : zRow xM 200 20 = some (3, .iload_n 1, 21, 1, 0) := rfl
theorem zr_200_21 : zRow xM 200 21 = some (105, .invokevirtual 183, 24, 171, 9) := rfl
theorem zr_200_24 : zRow xM 200 24 = some (40, .ifCond .eq 32, 27, 56, 1) := rfl
theorem zr_200_27 : zRow xM 200 27 = some (7, .aload_n 0, 28, 0, 0) := rfl
theorem zr_200_28 : zRow xM 200 28 = some (4, .iload 5, 30, 5, 0) := rfl
theorem zr_200_30 : zRow xM 200 30 = some (3, .iload_n 2, 31, 2, 0) := rfl
theorem zr_200_31 : zRow xM 200 31 = some (105, .invokevirtual 183, 34, 171, 9) := rfl
theorem zr_200_34 : zRow xM 200 34 = some (40, .ifCond .eq 22, 37, 56, 1) := rfl
theorem zr_200_37 : zRow xM 200 37 = some (3, .iload_n 3, 38, 3, 0) := rfl
theorem zr_200_38 : zRow xM 200 38 = some (40, .ifCond .eq 14, 41, 52, 1) := rfl
theorem zr_200_41 : zRow xM 200 41 = some (7, .aload_n 0, 42, 0, 0) := rfl
theorem zr_200_42 : zRow xM 200 42 = some (4, .iload 5, 44, 5, 0) := rfl
theorem zr_200_44 : zRp 200 44 45 (0, 3) := ⟨_, _, _, _, rfl, by decide, Option.some_ne_none _, rfl⟩
theorem zr_200_45 : zRow xM 200 45 = some (105, .invokevirtual 76, 48, 144, 9) := rfl
theorem zr_200_48 : zRp 200 48 49 (0, 1) := ⟨_, _, _, _, rfl, by decide, Option.some_ne_none _, rfl⟩
theorem zr_200_49 : zRow xM 200 49 = some (41, .if_icmp .ne 7, 52, 56, 4) := rfl
theorem zr_200_52 : zRp 200 52 53 (0, 1) := ⟨_, _, _, _, rfl, by decide, Option.some_ne_none _, rfl⟩
theorem zr_200_53 : zRow xM 200 53 = some (42, .goto 4, 54, 57, 0) := rfl
theorem zr_200_56 : zRp 200 56 57 (0, 0) := ⟨_, _, _, _, rfl, by decide, Option.some_ne_none _, rfl⟩
theorem zr_200_57 : zRow xM 200 57 = some (16, .iadd, 58, 0, 0) := rfl
theorem zr_200_58 : zRow xM 200 58 = some (10, .istore 4, 60, 4, 0) := rfl
theorem zr_200_60 : zRow xM 200 60 = some (15, .iinc 5 1, 63, 5, 1) := rfl
theorem zr_200_63 : zRow xM 200 63 = some (42, .goto (-57), 64, 6, 0) := rfl
theorem zr_200_66 : zRow xM 200 66 = some (4, .iload 4, 68, 4, 0) := rfl
theorem zr_200_68 : zRow xM 200 68 = some (108, .ireturn, 69, 0, 0) := rfl
theorem zm_201 : zMt xM 201 = some (6, (some .long), 2, 0, 0) := rfl
theorem zr_201_0 : zRp 201 0 1 (1, 1) := ⟨_, _, _, _, rfl, by decide, Option.some_ne_none _, rfl⟩
theorem zr_201_1 : zRow xM 201 1 = some (13, .lstore_n 3, 2, 3, 0) := rfl
theorem zr_201_2 : zRp 201 2 3 (0, 0) := ⟨_, _, _, _, rfl, by decide, Option.some_ne_none _, rfl⟩
theorem zr_201_3 : zRow xM 201 3 = some (10, .istore 5, 5, 5, 0) := rfl
theorem zr_201_5 : zRow xM 201 5 = some (4, .iload 5, 7, 5, 0) := rfl
theorem zr_201_7 : zRow xM 201 7 = some (3, .iload_n 2, 8, 2, 0) := rfl
theorem zr_201_8 : zRow xM 201 8 = some (41, .if_icmp .ge 13, 11, 21, 3) := rfl
theorem zr_201_11 : zRow xM 201 11 = some (5, .lload_n 3, 12, 3, 0) := rfl
theorem zr_201_12 : zRow xM 201 12 = some (5, .lload_n 0, 13, 0, 0) := rfl
theorem zr_201_13 : zRow xM 201 13 = some (29, .lmul, 14, 0, 0) := rfl
theorem zr_201_14 : zRow xM 201 14 = some (13, .lstore_n 3, 15, 3, 0) := rfl
theorem zr_201_15 : zRow xM 201 15 = some (15, .iinc 5 1, 18, 5, 1) := rfl
theorem zr_201_18 : zRow xM 201 18 = some (42, .goto (-13), 19, 5, 0) := rfl
theorem zr_201_21 : zRow xM 201 21 = some (5, .lload_n 3, 22, 3, 0) := rfl
theorem zr_201_22 : zRow xM 201 22 = some (109, .lreturn, 23, 0, 0) := rfl
theorem zm_202 : zMt xM 202 = some (12, (some .int), 5, 0, 0) := rfl
theorem zr_202_0 : zRow xM 202 0 = some (7, .aload_n 0, 1, 0, 0) := rfl
theorem zr_202_1 : zRow xM 202 1 = some (3, .iload_n 1, 2, 1, 0) := rfl
theorem zr_202_2 : zRow xM 202 2 = some (105, .invokevirtual 80, 5, 143, 9) := rfl
theorem zr_202_5 : zRow xM 202 5 = some (40, .ifCond .eq 45, 8, 50, 1) := rfl
theorem zr_202_8 : zRow xM 202 8 = some (7, .aload_n 0, 9, 0, 0) := rfl
theorem zr_202_9 : zRow xM 202 9 = some (3, .iload_n 2, 10, 2, 0) := rfl
theorem zr_202_10 : zRow xM 202 10 = some (105, .invokevirtual 80, 13, 143, 9) := rfl
theorem zr_202_13 : zRow xM 202 13 = some (40, .ifCond .eq 37, 16, 50, 1) := rfl
theorem zr_202_16 : zRow xM 202 16 = some (3, .iload_n 1, 17, 1, 0) := rfl
theorem zr_202_17 : zRow xM 202 17 = some (3, .iload_n 2, 18, 2, 0) := rfl
theorem zr_202_18 : zRow xM 202 18 = some (41, .if_icmp .eq 32, 21, 50, 1) := rfl
theorem zr_202_21 : zRow xM 202 21 = some (4, .iload 4, 23, 4, 0) := rfl
theorem zr_202_23 : zRow xM 202 23 = some (36, .i2l, 24, 0, 0) := rfl
theorem zr_202_24 : zRp 202 24 27 (1, 2) := ⟨_, _, _, _, rfl, by decide, Option.some_ne_none _, rfl⟩
theorem zr_202_27 : zRp 202 27 30 (1, 9) := ⟨_, _, _, _, rfl, by decide, Option.some_ne_none _, rfl⟩
theorem zr_202_30 : zRow xM 202 30 = some (107, .invokestatic 65, 33, 140, 0) := rfl
theorem zr_202_33 : zRow xM 202 33 = some (40, .ifCond .eq 17, 36, 50, 1) := rfl
theorem zr_202_36 : zRow xM 202 36 = some (3, .iload_n 3, 37, 3, 0) := rfl
theorem zr_202_37 : zRow xM 202 37 = some (36, .i2l, 38, 0, 0) := rfl
theorem zr_202_38 : zRp 202 38 39 (1, 1) := ⟨_, _, _, _, rfl, by decide, Option.some_ne_none _, rfl⟩
theorem zr_202_39 : zRow xM 202 39 = some (4, .iload 4, 41, 4, 0) := rfl
theorem zr_202_41 : zRp 202 41 42 (0, 1) := ⟨_, _, _, _, rfl, by decide, Option.some_ne_none _, rfl⟩
theorem zr_202_42 : zRow xM 202 42 = some (17, .isub, 43, 0, 0) := rfl
theorem zr_202_43 : zRow xM 202 43 = some (36, .i2l, 44, 0, 0) := rfl
theorem zr_202_44 : zRow xM 202 44 = some (107, .invokestatic 65, 47, 140, 0) := rfl
theorem zr_202_47 : zRow xM 202 47 = some (40, .ifCond .ne 6, 50, 53, 4) := rfl
theorem zr_202_50 : zRp 202 50 52 (0, -2) := ⟨_, _, _, _, rfl, by decide, Option.some_ne_none _, rfl⟩
theorem zr_202_52 : zRow xM 202 52 = some (108, .ireturn, 53, 0, 0) := rfl
theorem zr_202_53 : zRow xM 202 53 = some (7, .aload_n 0, 54, 0, 0) := rfl
theorem zr_202_54 : zRow xM 202 54 = some (3, .iload_n 1, 55, 1, 0) := rfl
theorem zr_202_55 : zRow xM 202 55 = some (3, .iload_n 2, 56, 2, 0) := rfl
theorem zr_202_56 : zRp 202 56 57 (0, 0) := ⟨_, _, _, _, rfl, by decide, Option.some_ne_none _, rfl⟩
theorem zr_202_57 : zRow xM 202 57 = some (105, .invokevirtual 256, 60, 200, 9) := rfl
theorem zr_202_60 : zRow xM 202 60 = some (10, .istore 5, 62, 5, 0) := rfl
theorem zr_202_62 : zRow xM 202 62 = some (7, .aload_n 0, 63, 0, 0) := rfl
theorem zr_202_63 : zRow xM 202 63 = some (3, .iload_n 1, 64, 1, 0) := rfl
theorem zr_202_64 : zRow xM 202 64 = some (3, .iload_n 2, 65, 2, 0) := rfl
theorem zr_202_65 : zRp 202 65 66 (0, 1) := ⟨_, _, _, _, rfl, by decide, Option.some_ne_none _, rfl⟩
theorem zr_202_66 : zRow xM 202 66 = some (105, .invokevirtual 256, 69, 200, 9) := rfl
theorem zr_202_69 : zRow xM 202 69 = some (10, .istore 6, 71, 6, 0) := rfl
theorem zr_202_71 : zRow xM 202 71 = some (4, .iload 5, 73, 5, 0) := rfl
theorem zr_202_73 : zRow xM 202 73 = some (36, .i2l, 74, 0, 0) := rfl
theorem zr_202_74 : zRp 202 74 75 (1, 1) := ⟨_, _, _, _, rfl, by decide, Option.some_ne_none _, rfl⟩
theorem zr_202_75 : zRp 202 75 78 (1, 15) := ⟨_, _, _, _, rfl, by decide, Option.some_ne_none _, rfl⟩
theorem zr_202_78 : zRow xM 202 78 = some (107, .invokestatic 65, 81, 140, 0) := rfl
theorem zr_202_81 : zRow xM 202 81 = some (40, .ifCond .ne 6, 84, 87, 4) := rfl
theorem zr_202_84 : zRp 202 84 86 (0, -3) := ⟨_, _, _, _, rfl, by decide, Option.some_ne_none _, rfl⟩
theorem zr_202_86 : zRow xM 202 86 = some (108, .ireturn, 87, 0, 0) := rfl
theorem zr_202_87 : zRp 202 87 88 (1, 0) := ⟨_, _, _, _, rfl, by decide, Option.some_ne_none _, rfl⟩
theorem zr_202_88 : zRow xM 202 88 = some (14, .lstore 7, 90, 7, 0) := rfl
theorem zr_202_90 : zRp 202 90 91 (1, 1) := ⟨_, _, _, _, rfl, by decide, Option.some_ne_none _, rfl⟩
theorem zr_202_91 : zRow xM 202 91 = some (14, .lstore 9, 93, 9, 0) := rfl
theorem zr_202_93 : zRp 202 93 94 (0, 0) := ⟨_, _, _, _, rfl, by decide, Option.some_ne_none _, rfl⟩
theorem zr_202_94 : zRow xM 202 94 = some (10, .istore 11, 96, 11, 0) := rfl
theorem zr_202_96 : zRow xM 202 96 = some (4, .iload 11, 98, 11, 0) := rfl
theorem zr_202_98 : zRow xM 202 98 = some (4, .iload 5, 100, 5, 0) := rfl
theorem zr_202_100 : zRow xM 202 100 = some (41, .if_icmp .gt 66, 103, 166, 2) := rfl
theorem zr_202_103 : zRow xM 202 103 = some (6, .lload 7, 105, 7, 0) := rfl
theorem zr_202_105 : zRow xM 202 105 = some (4, .iload 11, 107, 11, 0) := rfl
theorem zr_202_107 : zRow xM 202 107 = some (4, .iload 6, 109, 6, 0) := rfl
theorem zr_202_109 : zRow xM 202 109 = some (41, .if_icmp .lt 30, 112, 139, 0) := rfl
theorem zr_202_112 : zRow xM 202 112 = some (6, .lload 9, 114, 9, 0) := rfl
theorem zr_202_114 : zRow xM 202 114 = some (3, .iload_n 3, 115, 3, 0) := rfl
theorem zr_202_115 : zRow xM 202 115 = some (36, .i2l, 116, 0, 0) := rfl
theorem zr_202_116 : zRow xM 202 116 = some (4, .iload 11, 118, 11, 0) := rfl
theorem zr_202_118 : zRow xM 202 118 = some (107, .invokestatic 262, 121, 201, 0) := rfl
theorem zr_202_121 : zRow xM 202 121 = some (29, .lmul, 122, 0, 0) := rfl
theorem zr_202_122 : zRow xM 202 122 = some (4, .iload 4, 124, 4, 0) := rfl
theorem zr_202_124 : zRow xM 202 124 = some (3, .iload_n 3, 125, 3, 0) := rfl
theorem zr_202_125 : zRow xM 202 125 = some (17, .isub, 126, 0, 0) := rfl
theorem zr_202_126 : zRow xM 202 126 = some (36, .i2l, 127, 0, 0) := rfl
theorem zr_202_127 : zRow xM 202 127 = some (4, .iload 5, 129, 5, 0) := rfl
theorem zr_202_129 : zRow xM 202 129 = some (4, .iload 11, 131, 11, 0) := rfl
theorem zr_202_131 : zRow xM 202 131 = some (17, .isub, 132, 0, 0) := rfl
theorem zr_202_132 : zRow xM 202 132 = some (107, .invokestatic 262, 135, 201, 0) := rfl
theorem zr_202_135 : zRow xM 202 135 = some (29, .lmul, 136, 0, 0) := rfl
theorem zr_202_136 : zRow xM 202 136 = some (42, .goto 4, 137, 140, 0) := rfl
theorem zr_202_139 : zRp 202 139 140 (1, 0) := ⟨_, _, _, _, rfl, by decide, Option.some_ne_none _, rfl⟩
theorem zr_202_140 : zRow xM 202 140 = some (27, .ladd, 141, 0, 0) := rfl
theorem zr_202_141 : zRow xM 202 141 = some (14, .lstore 7, 143, 7, 0) := rfl
theorem zr_202_143 : zRow xM 202 143 = some (6, .lload 9, 145, 9, 0) := rfl
theorem zr_202_145 : zRow xM 202 145 = some (4, .iload 5, 147, 5, 0) := rfl
theorem zr_202_147 : zRow xM 202 147 = some (4, .iload 11, 149, 11, 0) := rfl
theorem zr_202_149 : zRow xM 202 149 = some (17, .isub, 150, 0, 0) := rfl
theorem zr_202_150 : zRow xM 202 150 = some (36, .i2l, 151, 0, 0) := rfl
theorem zr_202_151 : zRow xM 202 151 = some (29, .lmul, 152, 0, 0) := rfl
theorem zr_202_152 : zRow xM 202 152 = some (4, .iload 11, 154, 11, 0) := rfl
theorem zr_202_154 : zRp 202 154 155 (0, 1) := ⟨_, _, _, _, rfl, by decide, Option.some_ne_none _, rfl⟩
theorem zr_202_155 : zRow xM 202 155 = some (16, .iadd, 156, 0, 0) := rfl
theorem zr_202_156 : zRow xM 202 156 = some (36, .i2l, 157, 0, 0) := rfl
theorem zr_202_157 : zRow xM 202 157 = some (118, .ldiv, 158, 0, 0) := rfl
theorem zr_202_158 : zRow xM 202 158 = some (14, .lstore 9, 160, 9, 0) := rfl
theorem zr_202_160 : zRow xM 202 160 = some (15, .iinc 11 1, 163, 11, 1) := rfl
theorem zr_202_163 : zRow xM 202 163 = some (42, .goto (-67), 164, 96, 0) := rfl
theorem zr_202_166 : zRow xM 202 166 = some (7, .aload_n 0, 167, 0, 0) := rfl
theorem zr_202_167 : zRow xM 202 167 = some (6, .lload 7, 169, 7, 0) := rfl
theorem zr_202_169 : zRow xM 202 169 = some (4, .iload 4, 171, 4, 0) := rfl
theorem zr_202_171 : zRow xM 202 171 = some (36, .i2l, 172, 0, 0) := rfl
theorem zr_202_172 : zRow xM 202 172 = some (4, .iload 5, 174, 5, 0) := rfl
theorem zr_202_174 : zRow xM 202 174 = some (107, .invokestatic 262, 177, 201, 0) := rfl
theorem zr_202_177 : zRow xM 202 177 = some (105, .invokevirtual 196, 180, 173, 9) := rfl
theorem zr_202_180 : zRp 202 180 181 (0, 1) := ⟨_, _, _, _, rfl, by decide, Option.some_ne_none _, rfl⟩
theorem zr_202_181 : zRow xM 202 181 = some (108, .ireturn, 182, 0, 0) := rfl
theorem zm_203 : zMt xM 203 = some (4, (some .int), 1, 0, 0) := rfl
theorem zr_203_0 : zRp 203 0 1 (0, 0) := ⟨_, _, _, _, rfl, by decide, Option.some_ne_none _, rfl⟩
theorem zr_203_1 : zRow xM 203 1 = some (9, .istore_n 1, 2, 1, 0) := rfl
theorem zr_203_2 : zRp 203 2 3 (0, 0) := ⟨_, _, _, _, rfl, by decide, Option.some_ne_none _, rfl⟩
theorem zr_203_3 : zRow xM 203 3 = some (9, .istore_n 2, 4, 2, 0) := rfl
theorem zr_203_4 : zRow xM 203 4 = some (3, .iload_n 2, 5, 2, 0) := rfl
theorem zr_203_5 : zRow xM 203 5 = some (7, .aload_n 0, 6, 0, 0) := rfl
theorem zr_203_6 : zRow xM 203 6 = some (105, .invokevirtual 61, 9, 141, 9) := rfl
theorem zr_203_9 : zRow xM 203 9 = some (41, .if_icmp .ge 40, 12, 49, 3) := rfl
theorem zr_203_12 : zRp 203 12 13 (0, 0) := ⟨_, _, _, _, rfl, by decide, Option.some_ne_none _, rfl⟩
theorem zr_203_13 : zRow xM 203 13 = some (9, .istore_n 3, 14, 3, 0) := rfl
theorem zr_203_14 : zRow xM 203 14 = some (3, .iload_n 3, 15, 3, 0) := rfl
theorem zr_203_15 : zRow xM 203 15 = some (3, .iload_n 2, 16, 2, 0) := rfl
theorem zr_203_16 : zRow xM 203 16 = some (41, .if_icmp .ge 27, 19, 43, 3) := rfl
theorem zr_203_19 : zRow xM 203 19 = some (3, .iload_n 1, 20, 1, 0) := rfl
theorem zr_203_20 : zRow xM 203 20 = some (7, .aload_n 0, 21, 0, 0) := rfl
theorem zr_203_21 : zRow xM 203 21 = some (3, .iload_n 2, 22, 2, 0) := rfl
theorem zr_203_22 : zRow xM 203 22 = some (3, .iload_n 3, 23, 3, 0) := rfl
theorem zr_203_23 : zRp 203 23 24 (0, 0) := ⟨_, _, _, _, rfl, by decide, Option.some_ne_none _, rfl⟩
theorem zr_203_24 : zRow xM 203 24 = some (105, .invokevirtual 256, 27, 200, 9) := rfl
theorem zr_203_27 : zRow xM 203 27 = some (40, .ifCond .le 7, 30, 34, 5) := rfl
theorem zr_203_30 : zRp 203 30 31 (0, 1) := ⟨_, _, _, _, rfl, by decide, Option.some_ne_none _, rfl⟩
theorem zr_203_31 : zRow xM 203 31 = some (42, .goto 4, 32, 35, 0) := rfl
theorem zr_203_34 : zRp 203 34 35 (0, 0) := ⟨_, _, _, _, rfl, by decide, Option.some_ne_none _, rfl⟩
theorem zr_203_35 : zRow xM 203 35 = some (16, .iadd, 36, 0, 0) := rfl
theorem zr_203_36 : zRow xM 203 36 = some (9, .istore_n 1, 37, 1, 0) := rfl
theorem zr_203_37 : zRow xM 203 37 = some (15, .iinc 3 1, 40, 3, 1) := rfl
theorem zr_203_40 : zRow xM 203 40 = some (42, .goto (-26), 41, 14, 0) := rfl
theorem zr_203_43 : zRow xM 203 43 = some (15, .iinc 2 1, 46, 2, 1) := rfl
theorem zr_203_46 : zRow xM 203 46 = some (42, .goto (-42), 47, 4, 0) := rfl
theorem zr_203_49 : zRow xM 203 49 = some (3, .iload_n 1, 50, 1, 0) := rfl
theorem zr_203_50 : zRow xM 203 50 = some (108, .ireturn, 51, 0, 0) := rfl
theorem zm_204 : zMt xM 204 = some (5, (some .int), 5, 0, 0) := rfl
theorem zr_204_0 : zRow xM 204 0 = some (7, .aload_n 0, 1, 0, 0) := rfl
theorem zr_204_1 : zRow xM 204 1 = some (3, .iload_n 1, 2, 1, 0) := rfl
theorem zr_204_2 : zRow xM 204 2 = some (105, .invokevirtual 80, 5, 143, 9) := rfl
theorem zr_204_5 : zRow xM 204 5 = some (40, .ifCond .eq 35, 8, 40, 1) := rfl
theorem zr_204_8 : zRow xM 204 8 = some (3, .iload_n 2, 9, 2, 0) := rfl
theorem zr_204_9 : zRow xM 204 9 = some (107, .invokestatic 88, 12, 148, 0) := rfl
theorem zr_204_12 : zRow xM 204 12 = some (40, .ifCond .eq 28, 15, 40, 1) := rfl
theorem zr_204_15 : zRow xM 204 15 = some (4, .iload 4, 17, 4, 0) := rfl
theorem zr_204_17 : zRow xM 204 17 = some (36, .i2l, 18, 0, 0) := rfl
theorem zr_204_18 : zRp 204 18 19 (1, 1) := ⟨_, _, _, _, rfl, by decide, Option.some_ne_none _, rfl⟩
theorem zr_204_19 : zRp 204 19 22 (1, 99) := ⟨_, _, _, _, rfl, by decide, Option.some_ne_none _, rfl⟩
theorem zr_204_22 : zRow xM 204 22 = some (107, .invokestatic 65, 25, 140, 0) := rfl
theorem zr_204_25 : zRow xM 204 25 = some (40, .ifCond .eq 15, 28, 40, 1) := rfl
theorem zr_204_28 : zRow xM 204 28 = some (3, .iload_n 3, 29, 3, 0) := rfl
theorem zr_204_29 : zRow xM 204 29 = some (36, .i2l, 30, 0, 0) := rfl
theorem zr_204_30 : zRp 204 30 31 (1, 0) := ⟨_, _, _, _, rfl, by decide, Option.some_ne_none _, rfl⟩
theorem zr_204_31 : zRow xM 204 31 = some (4, .iload 4, 33, 4, 0) := rfl
theorem zr_204_33 : zRow xM 204 33 = some (36, .i2l, 34, 0, 0) := rfl
theorem zr_204_34 : zRow xM 204 34 = some (107, .invokestatic 65, 37, 140, 0) := rfl
theorem zr_204_37 : zRow xM 204 37 = some (40, .ifCond .ne 6, 40, 43, 4) := rfl
theorem zr_204_40 : zRp 204 40 42 (0, -2) := ⟨_, _, _, _, rfl, by decide, Option.some_ne_none _, rfl⟩
theorem zr_204_42 : zRow xM 204 42 = some (108, .ireturn, 43, 0, 0) := rfl
theorem zr_204_43 : zRow xM 204 43 = some (7, .aload_n 0, 44, 0, 0) := rfl
theorem zr_204_44 : zRow xM 204 44 = some (46, .getfield 7, 47, 9, 0) := rfl
theorem zr_204_47 : zRp 204 47 49 (0, 10) := ⟨_, _, _, _, rfl, by decide, Option.some_ne_none _, rfl⟩
theorem zr_204_49 : zRp 204 49 51 (0, 8) := ⟨_, _, _, _, rfl, by decide, Option.some_ne_none _, rfl⟩
theorem zr_204_51 : zRow xM 204 51 = some (3, .iload_n 1, 52, 1, 0) := rfl
theorem zr_204_52 : zRow xM 204 52 = some (18, .imul, 53, 0, 0) := rfl
theorem zr_204_53 : zRow xM 204 53 = some (16, .iadd, 54, 0, 0) := rfl
theorem zr_204_54 : zRp 204 54 55 (0, 2) := ⟨_, _, _, _, rfl, by decide, Option.some_ne_none _, rfl⟩
theorem zr_204_55 : zRow xM 204 55 = some (3, .iload_n 2, 56, 2, 0) := rfl
theorem zr_204_56 : zRow xM 204 56 = some (18, .imul, 57, 0, 0) := rfl
theorem zr_204_57 : zRow xM 204 57 = some (16, .iadd, 58, 0, 0) := rfl
theorem zr_204_58 : zRow xM 204 58 = some (3, .iload_n 3, 59, 3, 0) := rfl
theorem zr_204_59 : zRow xM 204 59 = some (49, .iastore, 60, 0, 0) := rfl
theorem zr_204_60 : zRow xM 204 60 = some (7, .aload_n 0, 61, 0, 0) := rfl
theorem zr_204_61 : zRow xM 204 61 = some (46, .getfield 7, 64, 9, 0) := rfl
theorem zr_204_64 : zRp 204 64 66 (0, 10) := ⟨_, _, _, _, rfl, by decide, Option.some_ne_none _, rfl⟩
theorem zr_204_66 : zRp 204 66 68 (0, 8) := ⟨_, _, _, _, rfl, by decide, Option.some_ne_none _, rfl⟩
theorem zr_204_68 : zRow xM 204 68 = some (3, .iload_n 1, 69, 1, 0) := rfl
theorem zr_204_69 : zRow xM 204 69 = some (18, .imul, 70, 0, 0) := rfl
theorem zr_204_70 : zRow xM 204 70 = some (16, .iadd, 71, 0, 0) := rfl
theorem zr_204_71 : zRp 204 71 72 (0, 2) := ⟨_, _, _, _, rfl, by decide, Option.some_ne_none _, rfl⟩
theorem zr_204_72 : zRow xM 204 72 = some (3, .iload_n 2, 73, 2, 0) := rfl
theorem zr_204_73 : zRow xM 204 73 = some (18, .imul, 74, 0, 0) := rfl
theorem zr_204_74 : zRow xM 204 74 = some (16, .iadd, 75, 0, 0) := rfl
theorem zr_204_75 : zRp 204 75 76 (0, 1) := ⟨_, _, _, _, rfl, by decide, Option.some_ne_none _, rfl⟩
theorem zr_204_76 : zRow xM 204 76 = some (16, .iadd, 77, 0, 0) := rfl
theorem zr_204_77 : zRow xM 204 77 = some (4, .iload 4, 79, 4, 0) := rfl
theorem zr_204_79 : zRow xM 204 79 = some (49, .iastore, 80, 0, 0) := rfl
theorem zr_204_80 : zRp 204 80 81 (0, 1) := ⟨_, _, _, _, rfl, by decide, Option.some_ne_none _, rfl⟩
theorem zr_204_81 : zRow xM 204 81 = some (108, .ireturn, 82, 0, 0) := rfl
theorem zm_205 : zMt xM 205 = some (4, (some .int), 3, 0, 0) := rfl
theorem zr_205_0 : zRow xM 205 0 = some (3, .iload_n 1, 1, 1, 0) := rfl
theorem zr_205_1 : zRow xM 205 1 = some (107, .invokestatic 88, 4, 148, 0) := rfl
theorem zr_205_4 : zRow xM 205 4 = some (40, .ifCond .eq 15, 7, 19, 1) := rfl
theorem zr_205_7 : zRow xM 205 7 = some (3, .iload_n 2, 8, 2, 0) := rfl
theorem zr_205_8 : zRow xM 205 8 = some (36, .i2l, 9, 0, 0) := rfl
theorem zr_205_9 : zRp 205 9 10 (1, 1) := ⟨_, _, _, _, rfl, by decide, Option.some_ne_none _, rfl⟩
theorem zr_205_10 : zRp 205 10 13 (1, 9) := ⟨_, _, _, _, rfl, by decide, Option.some_ne_none _, rfl⟩
theorem zr_205_13 : zRow xM 205 13 = some (107, .invokestatic 65, 16, 140, 0) := rfl
theorem zr_205_16 : zRow xM 205 16 = some (40, .ifCond .ne 6, 19, 22, 4) := rfl
theorem zr_205_19 : zRp 205 19 21 (0, -2) := ⟨_, _, _, _, rfl, by decide, Option.some_ne_none _, rfl⟩
theorem zr_205_21 : zRow xM 205 21 = some (108, .ireturn, 22, 0, 0) := rfl
theorem zr_205_22 : zRow xM 205 22 = some (7, .aload_n 0, 23, 0, 0) := rfl
theorem zr_205_23 : zRow xM 205 23 = some (46, .getfield 7, 26, 9, 0) := rfl
theorem zr_205_26 : zRp 205 26 29 (0, 818) := ⟨_, _, _, _, rfl, by decide, Option.some_ne_none _, rfl⟩
theorem zr_205_29 : zRow xM 205 29 = some (3, .iload_n 1, 30, 1, 0) := rfl
theorem zr_205_30 : zRow xM 205 30 = some (16, .iadd, 31, 0, 0) := rfl
theorem zr_205_31 : zRow xM 205 31 = some (48, .iaload, 32, 0, 0) := rfl
theorem zr_205_32 : zRow xM 205 32 = some (9, .istore_n 3, 33, 3, 0) := rfl
theorem zr_205_33 : zRow xM 205 33 = some (7, .aload_n 0, 34, 0, 0) := rfl
theorem zr_205_34 : zRow xM 205 34 = some (46, .getfield 7, 37, 9, 0) := rfl
theorem zr_205_37 : zRp 205 37 40 (0, 818) := ⟨_, _, _, _, rfl, by decide, Option.some_ne_none _, rfl⟩
theorem zr_205_40 : zRow xM 205 40 = some (3, .iload_n 1, 41, 1, 0) := rfl
theorem zr_205_41 : zRow xM 205 41 = some (16, .iadd, 42, 0, 0) := rfl
theorem zr_205_42 : zRow xM 205 42 = some (3, .iload_n 2, 43, 2, 0) := rfl
theorem zr_205_43 : zRow xM 205 43 = some (49, .iastore, 44, 0, 0) := rfl
theorem zr_205_44 : zRow xM 205 44 = some (3, .iload_n 3, 45, 3, 0) := rfl
theorem zr_205_45 : zRow xM 205 45 = some (108, .ireturn, 46, 0, 0) := rfl
theorem zm_206 : zMt xM 206 = some (18, (some .int), 3, 0, 0) := rfl
theorem zr_206_0 : zRow xM 206 0 = some (7, .aload_n 0, 1, 0, 0) := rfl
theorem zr_206_1 : zRow xM 206 1 = some (3, .iload_n 1, 2, 1, 0) := rfl
theorem zr_206_2 : zRow xM 206 2 = some (105, .invokevirtual 80, 5, 143, 9) := rfl
theorem zr_206_5 : zRow xM 206 5 = some (40, .ifCond .eq 13, 8, 18, 1) := rfl
theorem zr_206_8 : zRow xM 206 8 = some (3, .iload_n 2, 9, 2, 0) := rfl
theorem zr_206_9 : zRow xM 206 9 = some (36, .i2l, 10, 0, 0) := rfl
theorem zr_206_10 : zRp 206 10 11 (1, 0) := ⟨_, _, _, _, rfl, by decide, Option.some_ne_none _, rfl⟩
theorem zr_206_11 : zRp 206 11 12 (1, 1) := ⟨_, _, _, _, rfl, by decide, Option.some_ne_none _, rfl⟩
theorem zr_206_12 : zRow xM 206 12 = some (107, .invokestatic 65, 15, 140, 0) := rfl
theorem zr_206_15 : zRow xM 206 15 = some (40, .ifCond .ne 6, 18, 21, 4) := rfl
theorem zr_206_18 : zRp 206 18 20 (0, -2) := ⟨_, _, _, _, rfl, by decide, Option.some_ne_none _, rfl⟩
theorem zr_206_20 : zRow xM 206 20 = some (108, .ireturn, 21, 0, 0) := rfl
theorem zr_206_21 : zRp 206 21 22 (1, 0) := ⟨_, _, _, _, rfl, by decide, Option.some_ne_none _, rfl⟩
theorem zr_206_22 : zRow xM 206 22 = some (13, .lstore_n 3, 23, 3, 0) := rfl
theorem zr_206_23 : zRp 206 23 24 (1, 0) := ⟨_, _, _, _, rfl, by decide, Option.some_ne_none _, rfl⟩
theorem zr_206_24 : zRow xM 206 24 = some (14, .lstore 5, 26, 5, 0) := rfl
theorem zr_206_26 : zRp 206 26 27 (1, 0) := ⟨_, _, _, _, rfl, by decide, Option.some_ne_none _, rfl⟩
theorem zr_206_27 : zRow xM 206 27 = some (14, .lstore 7, 29, 7, 0) := rfl
theorem zr_206_29 : zRp 206 29 30 (1, 1) := ⟨_, _, _, _, rfl, by decide, Option.some_ne_none _, rfl⟩
theorem zr_206_30 : zRow xM 206 30 = some (14, .lstore 9, 32, 9, 0) := rfl
theorem zr_206_32 : zRp 206 32 33 (1, 0) := ⟨_, _, _, _, rfl, by decide, Option.some_ne_none _, rfl⟩
theorem zr_206_33 : zRow xM 206 33 = some (14, .lstore 11, 35, 11, 0) := rfl
theorem zr_206_35 : zRp 206 35 36 (0, 0) := ⟨_, _, _, _, rfl, by decide, Option.some_ne_none _, rfl⟩
theorem zr_206_36 : zRow xM 206 36 = some (10, .istore 13, 38, 13, 0) := rfl
theorem zr_206_38 : zRow xM 206 38 = some (4, .iload 13, 40, 13, 0) := rfl
theorem zr_206_40 : zRp 206 40 41 (0, 4) := ⟨_, _, _, _, rfl, by decide, Option.some_ne_none _, rfl⟩
theorem zr_206_41 : zRow xM 206 41 = some (41, .if_icmp .ge 120, 44, 161, 3) := rfl
theorem zr_206_44 : zRow xM 206 44 = some (7, .aload_n 0, 45, 0, 0) := rfl
theorem zr_206_45 : zRow xM 206 45 = some (46, .getfield 7, 48, 9, 0) := rfl
theorem zr_206_48 : zRp 206 48 50 (0, 10) := ⟨_, _, _, _, rfl, by decide, Option.some_ne_none _, rfl⟩
theorem zr_206_50 : zRp 206 50 52 (0, 8) := ⟨_, _, _, _, rfl, by decide, Option.some_ne_none _, rfl⟩
theorem zr_206_52 : zRow xM 206 52 = some (3, .iload_n 1, 53, 1, 0) := rfl
theorem zr_206_53 : zRow xM 206 53 = some (18, .imul, 54, 0, 0) := rfl
theorem zr_206_54 : zRow xM 206 54 = some (16, .iadd, 55, 0, 0) := rfl
theorem zr_206_55 : zRp 206 55 56 (0, 2) := ⟨_, _, _, _, rfl, by decide, Option.some_ne_none _, rfl⟩
theorem zr_206_56 : zRow xM 206 56 = some (4, .iload 13, 58, 13, 0) := rfl
theorem zr_206_58 : zRow xM 206 58 = some (18, .imul, 59, 0, 0) := rfl
theorem zr_206_59 : zRow xM 206 59 = some (16, .iadd, 60, 0, 0) := rfl
theorem zr_206_60 : zRow xM 206 60 = some (48, .iaload, 61, 0, 0) := rfl
theorem zr_206_61 : zRow xM 206 61 = some (36, .i2l, 62, 0, 0) := rfl
theorem zr_206_62 : zRow xM 206 62 = some (14, .lstore 14, 64, 14, 0) := rfl
theorem zr_206_64 : zRow xM 206 64 = some (7, .aload_n 0, 65, 0, 0) := rfl
theorem zr_206_65 : zRow xM 206 65 = some (46, .getfield 7, 68, 9, 0) := rfl
theorem zr_206_68 : zRp 206 68 70 (0, 10) := ⟨_, _, _, _, rfl, by decide, Option.some_ne_none _, rfl⟩
theorem zr_206_70 : zRp 206 70 72 (0, 8) := ⟨_, _, _, _, rfl, by decide, Option.some_ne_none _, rfl⟩
theorem zr_206_72 : zRow xM 206 72 = some (3, .iload_n 1, 73, 1, 0) := rfl
theorem zr_206_73 : zRow xM 206 73 = some (18, .imul, 74, 0, 0) := rfl
theorem zr_206_74 : zRow xM 206 74 = some (16, .iadd, 75, 0, 0) := rfl
theorem zr_206_75 : zRp 206 75 76 (0, 2) := ⟨_, _, _, _, rfl, by decide, Option.some_ne_none _, rfl⟩
theorem zr_206_76 : zRow xM 206 76 = some (4, .iload 13, 78, 13, 0) := rfl
theorem zr_206_78 : zRow xM 206 78 = some (18, .imul, 79, 0, 0) := rfl
theorem zr_206_79 : zRow xM 206 79 = some (16, .iadd, 80, 0, 0) := rfl
theorem zr_206_80 : zRp 206 80 81 (0, 1) := ⟨_, _, _, _, rfl, by decide, Option.some_ne_none _, rfl⟩
theorem zr_206_81 : zRow xM 206 81 = some (16, .iadd, 82, 0, 0) := rfl
theorem zr_206_82 : zRow xM 206 82 = some (48, .iaload, 83, 0, 0) := rfl
theorem zr_206_83 : zRow xM 206 83 = some (36, .i2l, 84, 0, 0) := rfl
theorem zr_206_84 : zRow xM 206 84 = some (14, .lstore 16, 86, 16, 0) := rfl
theorem zr_206_86 : zRow xM 206 86 = some (6, .lload 16, 88, 16, 0) := rfl
theorem zr_206_88 : zRp 206 88 89 (1, 0) := ⟨_, _, _, _, rfl, by decide, Option.some_ne_none _, rfl⟩
theorem zr_206_89 : zRow xM 206 89 = some (39, .lcmp, 90, 0, 0) := rfl
theorem zr_206_90 : zRow xM 206 90 = some (40, .ifCond .le 65, 93, 155, 5) := rfl
theorem zr_206_93 : zRow xM 206 93 = some (5, .lload_n 3, 94, 3, 0) := rfl
theorem zr_206_94 : zRow xM 206 94 = some (6, .lload 14, 96, 14, 0) := rfl
theorem zr_206_96 : zRow xM 206 96 = some (27, .ladd, 97, 0, 0) := rfl
theorem zr_206_97 : zRow xM 206 97 = some (13, .lstore_n 3, 98, 3, 0) := rfl
theorem zr_206_98 : zRow xM 206 98 = some (6, .lload 5, 100, 5, 0) := rfl
theorem zr_206_100 : zRow xM 206 100 = some (6, .lload 16, 102, 16, 0) := rfl
theorem zr_206_102 : zRow xM 206 102 = some (27, .ladd, 103, 0, 0) := rfl
theorem zr_206_103 : zRow xM 206 103 = some (14, .lstore 5, 105, 5, 0) := rfl
theorem zr_206_105 : zRow xM 206 105 = some (6, .lload 7, 107, 7, 0) := rfl
theorem zr_206_107 : zRow xM 206 107 = some (6, .lload 16, 109, 16, 0) := rfl
theorem zr_206_109 : zRow xM 206 109 = some (29, .lmul, 110, 0, 0) := rfl
theorem zr_206_110 : zRow xM 206 110 = some (7, .aload_n 0, 111, 0, 0) := rfl
theorem zr_206_111 : zRow xM 206 111 = some (46, .getfield 7, 114, 9, 0) := rfl
theorem zr_206_114 : zRp 206 114 117 (0, 818) := ⟨_, _, _, _, rfl, by decide, Option.some_ne_none _, rfl⟩
theorem zr_206_117 : zRow xM 206 117 = some (4, .iload 13, 119, 13, 0) := rfl
theorem zr_206_119 : zRow xM 206 119 = some (16, .iadd, 120, 0, 0) := rfl
theorem zr_206_120 : zRow xM 206 120 = some (48, .iaload, 121, 0, 0) := rfl
theorem zr_206_121 : zRow xM 206 121 = some (36, .i2l, 122, 0, 0) := rfl
theorem zr_206_122 : zRow xM 206 122 = some (6, .lload 14, 124, 14, 0) := rfl
theorem zr_206_124 : zRow xM 206 124 = some (29, .lmul, 125, 0, 0) := rfl
theorem zr_206_125 : zRow xM 206 125 = some (6, .lload 9, 127, 9, 0) := rfl
theorem zr_206_127 : zRow xM 206 127 = some (29, .lmul, 128, 0, 0) := rfl
theorem zr_206_128 : zRow xM 206 128 = some (27, .ladd, 129, 0, 0) := rfl
theorem zr_206_129 : zRow xM 206 129 = some (14, .lstore 7, 131, 7, 0) := rfl
theorem zr_206_131 : zRow xM 206 131 = some (6, .lload 9, 133, 9, 0) := rfl
theorem zr_206_133 : zRow xM 206 133 = some (6, .lload 16, 135, 16, 0) := rfl
theorem zr_206_135 : zRow xM 206 135 = some (29, .lmul, 136, 0, 0) := rfl
theorem zr_206_136 : zRow xM 206 136 = some (14, .lstore 9, 138, 9, 0) := rfl
theorem zr_206_138 : zRow xM 206 138 = some (6, .lload 11, 140, 11, 0) := rfl
theorem zr_206_140 : zRow xM 206 140 = some (7, .aload_n 0, 141, 0, 0) := rfl
theorem zr_206_141 : zRow xM 206 141 = some (46, .getfield 7, 144, 9, 0) := rfl
theorem zr_206_144 : zRp 206 144 147 (0, 818) := ⟨_, _, _, _, rfl, by decide, Option.some_ne_none _, rfl⟩
theorem zr_206_147 : zRow xM 206 147 = some (4, .iload 13, 149, 13, 0) := rfl
theorem zr_206_149 : zRow xM 206 149 = some (16, .iadd, 150, 0, 0) := rfl
theorem zr_206_150 : zRow xM 206 150 = some (48, .iaload, 151, 0, 0) := rfl
theorem zr_206_151 : zRow xM 206 151 = some (36, .i2l, 152, 0, 0) := rfl
theorem zr_206_152 : zRow xM 206 152 = some (27, .ladd, 153, 0, 0) := rfl
theorem zr_206_153 : zRow xM 206 153 = some (14, .lstore 11, 155, 11, 0) := rfl
theorem zr_206_155 : zRow xM 206 155 = some (15, .iinc 13 1, 158, 13, 1) := rfl
theorem zr_206_158 : zRow xM 206 158 = some (42, .goto (-120), 159, 38, 0) := rfl
theorem zr_206_161 : zRow xM 206 161 = some (6, .lload 5, 163, 5, 0) := rfl
theorem zr_206_163 : zRp 206 163 164 (1, 0) := ⟨_, _, _, _, rfl, by decide, Option.some_ne_none _, rfl⟩
theorem zr_206_164 : zRow xM 206 164 = some (39, .lcmp, 165, 0, 0) := rfl
theorem zr_206_165 : zRow xM 206 165 = some (40, .ifCond .ne 6, 168, 171, 4) := rfl
theorem zr_206_168 : zRp 206 168 170 (0, -3) := ⟨_, _, _, _, rfl, by decide, Option.some_ne_none _, rfl⟩
theorem zr_206_170 : zRow xM 206 170 = some (108, .ireturn, 171, 0, 0) := rfl
theorem zr_206_171 : zRow xM 206 171 = some (3, .iload_n 2, 172, 2, 0) := rfl
theorem zr_206_172 : zRow xM 206 172 = some (40, .ifCond .ne 13, 175, 185, 4) := rfl
theorem zr_206_175 : zRow xM 206 175 = some (7, .aload_n 0, 176, 0, 0) := rfl
theorem zr_206_176 : zRow xM 206 176 = some (5, .lload_n 3, 177, 3, 0) := rfl
theorem zr_206_177 : zRow xM 206 177 = some (6, .lload 5, 179, 5, 0) := rfl
theorem zr_206_179 : zRow xM 206 179 = some (105, .invokevirtual 196, 182, 173, 9) := rfl
theorem zr_206_182 : zRow xM 206 182 = some (42, .goto 14, 183, 196, 0) := rfl
theorem zr_206_185 : zRow xM 206 185 = some (7, .aload_n 0, 186, 0, 0) := rfl
theorem zr_206_186 : zRow xM 206 186 = some (6, .lload 7, 188, 7, 0) := rfl
theorem zr_206_188 : zRow xM 206 188 = some (6, .lload 9, 190, 9, 0) := rfl
theorem zr_206_190 : zRow xM 206 190 = some (6, .lload 11, 192, 11, 0) := rfl
theorem zr_206_192 : zRow xM 206 192 = some (29, .lmul, 193, 0, 0) := rfl
theorem zr_206_193 : zRow xM 206 193 = some (105, .invokevirtual 196, 196, 173, 9) := rfl
theorem zr_206_196 : zRp 206 196 197 (0, 1) := ⟨_, _, _, _, rfl, by decide, Option.some_ne_none _, rfl⟩
theorem zr_206_197 : zRow xM 206 197 = some (108, .ireturn, 198, 0, 0) := rfl
theorem zm_207 : zMt xM 207 = some (2, (some .long), 2, 0, 0) := rfl
theorem zr_207_0 : zRow xM 207 0 = some (3, .iload_n 1, 1, 1, 0) := rfl
theorem zr_207_1 : zRow xM 207 1 = some (40, .ifCond .ne 10, 4, 11, 4) := rfl
theorem zr_207_4 : zRow xM 207 4 = some (7, .aload_n 0, 5, 0, 0) := rfl
theorem zr_207_5 : zRow xM 207 5 = some (46, .getfield 187, 8, 9, 3) := rfl
theorem zr_207_8 : zRow xM 207 8 = some (42, .goto 18, 9, 26, 0) := rfl
theorem zr_207_11 : zRow xM 207 11 = some (3, .iload_n 1, 12, 1, 0) := rfl
theorem zr_207_12 : zRp 207 12 13 (0, 1) := ⟨_, _, _, _, rfl, by decide, Option.some_ne_none _, rfl⟩
theorem zr_207_13 : zRow xM 207 13 = some (41, .if_icmp .ne 10, 16, 23, 4) := rfl
theorem zr_207_16 : zRow xM 207 16 = some (7, .aload_n 0, 17, 0, 0) := rfl
theorem zr_207_17 : zRow xM 207 17 = some (46, .getfield 20, 20, 9, 4) := rfl
theorem zr_207_20 : zRow xM 207 20 = some (42, .goto 6, 21, 26, 0) := rfl
theorem zr_207_23 : zRp 207 23 26 (1, -1000000000000) := ⟨_, _, _, _, rfl, by decide, Option.some_ne_none _, rfl⟩
theorem zr_207_26 : zRow xM 207 26 = some (109, .lreturn, 27, 0, 0) := rfl
theorem zm_208 : zMt xM 208 = some (3, (some .int), 2, 0, 0) := rfl
theorem zr_208_0 : zRow xM 208 0 = some (3, .iload_n 1, 1, 1, 0) := rfl
theorem zr_208_1 : zRow xM 208 1 = some (36, .i2l, 2, 0, 0) := rfl
theorem zr_208_2 : zRp 208 2 3 (1, 0) := ⟨_, _, _, _, rfl, by decide, Option.some_ne_none _, rfl⟩
theorem zr_208_3 : zRp 208 3 4 (1, 1) := ⟨_, _, _, _, rfl, by decide, Option.some_ne_none _, rfl⟩
theorem zr_208_4 : zRow xM 208 4 = some (107, .invokestatic 65, 7, 140, 0) := rfl
theorem zr_208_7 : zRow xM 208 7 = some (40, .ifCond .ne 6, 10, 13, 4) := rfl
theorem zr_208_10 : zRp 208 10 12 (0, -2) := ⟨_, _, _, _, rfl, by decide, Option.some_ne_none _, rfl⟩
theorem zr_208_12 : zRow xM 208 12 = some (108, .ireturn, 13, 0, 0) := rfl
theorem zr_208_13 : zRp 208 13 14 (0, 0) := ⟨_, _, _, _, rfl, by decide, Option.some_ne_none _, rfl⟩
theorem zr_208_14 : zRow xM 208 14 = some (9, .istore_n 2, 15, 2, 0) := rfl
theorem zr_208_15 : zRow xM 208 15 = some (3, .iload_n 2, 16, 2, 0) := rfl
theorem zr_208_16 : zRp 208 16 19 (0, 826) := ⟨_, _, _, _, rfl, by decide, Option.some_ne_none _, rfl⟩
theorem zr_208_19 : zRow xM 208 19 = some (41, .if_icmp .ge 27, 22, 46, 3) := rfl
theorem zr_208_22 : zRow xM 208 22 = some (7, .aload_n 0, 23, 0, 0) := rfl
theorem zr_208_23 : zRow xM 208 23 = some (46, .getfield 13, 26, 9, 1) := rfl
theorem zr_208_26 : zRp 208 26 29 (0, 826) := ⟨_, _, _, _, rfl, by decide, Option.some_ne_none _, rfl⟩
theorem zr_208_29 : zRow xM 208 29 = some (3, .iload_n 1, 30, 1, 0) := rfl
theorem zr_208_30 : zRow xM 208 30 = some (18, .imul, 31, 0, 0) := rfl
theorem zr_208_31 : zRow xM 208 31 = some (3, .iload_n 2, 32, 2, 0) := rfl
theorem zr_208_32 : zRow xM 208 32 = some (16, .iadd, 33, 0, 0) := rfl
theorem zr_208_33 : zRow xM 208 33 = some (7, .aload_n 0, 34, 0, 0) := rfl
theorem zr_208_34 : zRow xM 208 34 = some (46, .getfield 7, 37, 9, 0) := rfl
theorem zr_208_37 : zRow xM 208 37 = some (3, .iload_n 2, 38, 2, 0) := rfl
theorem zr_208_38 : zRow xM 208 38 = some (48, .iaload, 39, 0, 0) := rfl
theorem zr_208_39 : zRow xM 208 39 = some (49, .iastore, 40, 0, 0) := rfl
theorem zr_208_40 : zRow xM 208 40 = some (15, .iinc 2 1, 43, 2, 1) := rfl
theorem zr_208_43 : zRow xM 208 43 = some (42, .goto (-28), 44, 15, 0) := rfl
theorem zr_208_46 : zRow xM 208 46 = some (7, .aload_n 0, 47, 0, 0) := rfl
theorem zr_208_47 : zRow xM 208 47 = some (46, .getfield 16, 50, 9, 2) := rfl
theorem zr_208_50 : zRow xM 208 50 = some (3, .iload_n 1, 51, 1, 0) := rfl
theorem zr_208_51 : zRp 208 51 52 (0, 1) := ⟨_, _, _, _, rfl, by decide, Option.some_ne_none _, rfl⟩
theorem zr_208_52 : zRow xM 208 52 = some (53, .bastore, 53, 0, 0) := rfl
theorem zr_208_53 : zRp 208 53 54 (0, 1) := ⟨_, _, _, _, rfl, by decide, Option.some_ne_none _, rfl⟩
theorem zr_208_54 : zRow xM 208 54 = some (108, .ireturn, 55, 0, 0) := rfl
theorem zm_209 : zMt xM 209 = some (3, (some .int), 2, 0, 0) := rfl
theorem zr_209_0 : zRow xM 209 0 = some (3, .iload_n 1, 1, 1, 0) := rfl
theorem zr_209_1 : zRow xM 209 1 = some (36, .i2l, 2, 0, 0) := rfl
theorem zr_209_2 : zRp 209 2 3 (1, 0) := ⟨_, _, _, _, rfl, by decide, Option.some_ne_none _, rfl⟩
theorem zr_209_3 : zRp 209 3 4 (1, 1) := ⟨_, _, _, _, rfl, by decide, Option.some_ne_none _, rfl⟩
theorem zr_209_4 : zRow xM 209 4 = some (107, .invokestatic 65, 7, 140, 0) := rfl
theorem zr_209_7 : zRow xM 209 7 = some (40, .ifCond .ne 6, 10, 13, 4) := rfl
theorem zr_209_10 : zRp 209 10 12 (0, -2) := ⟨_, _, _, _, rfl, by decide, Option.some_ne_none _, rfl⟩
theorem zr_209_12 : zRow xM 209 12 = some (108, .ireturn, 13, 0, 0) := rfl
theorem zr_209_13 : zRow xM 209 13 = some (7, .aload_n 0, 14, 0, 0) := rfl
theorem zr_209_14 : zRow xM 209 14 = some (46, .getfield 16, 17, 9, 2) := rfl
theorem zr_209_17 : zRow xM 209 17 = some (3, .iload_n 1, 18, 1, 0) := rfl
theorem zr_209_18 : zRow xM 209 18 = some (52, .baload, 19, 0, 0) := rfl
theorem zr_209_19 : zRow xM 209 19 = some (40, .ifCond .ne 6, 22, 25, 4) := rfl
theorem zr_209_22 : zRp 209 22 24 (0, -3) := ⟨_, _, _, _, rfl, by decide, Option.some_ne_none _, rfl⟩
theorem zr_209_24 : zRow xM 209 24 = some (108, .ireturn, 25, 0, 0) := rfl
theorem zr_209_25 : zRp 209 25 26 (0, 0) := ⟨_, _, _, _, rfl, by decide, Option.some_ne_none _, rfl⟩
theorem zr_209_26 : zRow xM 209 26 = some (9, .istore_n 2, 27, 2, 0) := rfl
theorem zr_209_27 : zRow xM 209 27 = some (3, .iload_n 2, 28, 2, 0) := rfl
theorem zr_209_28 : zRp 209 28 31 (0, 826) := ⟨_, _, _, _, rfl, by decide, Option.some_ne_none _, rfl⟩
theorem zr_209_31 : zRow xM 209 31 = some (41, .if_icmp .ge 27, 34, 58, 3) := rfl
theorem zr_209_34 : zRow xM 209 34 = some (7, .aload_n 0, 35, 0, 0) := rfl
theorem zr_209_35 : zRow xM 209 35 = some (46, .getfield 7, 38, 9, 0) := rfl
theorem zr_209_38 : zRow xM 209 38 = some (3, .iload_n 2, 39, 2, 0) := rfl
theorem zr_209_39 : zRow xM 209 39 = some (7, .aload_n 0, 40, 0, 0) := rfl
theorem zr_209_40 : zRow xM 209 40 = some (46, .getfield 13, 43, 9, 1) := rfl
theorem zr_209_43 : zRp 209 43 46 (0, 826) := ⟨_, _, _, _, rfl, by decide, Option.some_ne_none _, rfl⟩
theorem zr_209_46 : zRow xM 209 46 = some (3, .iload_n 1, 47, 1, 0) := rfl
theorem zr_209_47 : zRow xM 209 47 = some (18, .imul, 48, 0, 0) := rfl
theorem zr_209_48 : zRow xM 209 48 = some (3, .iload_n 2, 49, 2, 0) := rfl
theorem zr_209_49 : zRow xM 209 49 = some (16, .iadd, 50, 0, 0) := rfl
theorem zr_209_50 : zRow xM 209 50 = some (48, .iaload, 51, 0, 0) := rfl
theorem zr_209_51 : zRow xM 209 51 = some (49, .iastore, 52, 0, 0) := rfl
theorem zr_209_52 : zRow xM 209 52 = some (15, .iinc 2 1, 55, 2, 1) := rfl
theorem zr_209_55 : zRow xM 209 55 = some (42, .goto (-28), 56, 27, 0) := rfl
theorem zr_209_58 : zRp 209 58 59 (0, 1) := ⟨_, _, _, _, rfl, by decide, Option.some_ne_none _, rfl⟩
theorem zr_209_59 : zRow xM 209 59 = some (108, .ireturn, 60, 0, 0) := rfl
theorem zm_210 : zMt xM 210 = some (4, (some .int), 2, 0, 0) := rfl
theorem zr_210_0 : zRow xM 210 0 = some (3, .iload_n 1, 1, 1, 0) := rfl
theorem zr_210_1 : zRow xM 210 1 = some (36, .i2l, 2, 0, 0) := rfl
theorem zr_210_2 : zRp 210 2 3 (1, 0) := ⟨_, _, _, _, rfl, by decide, Option.some_ne_none _, rfl⟩
theorem zr_210_3 : zRp 210 3 6 (1, 3) := ⟨_, _, _, _, rfl, by decide, Option.some_ne_none _, rfl⟩
theorem zr_210_6 : zRow xM 210 6 = some (107, .invokestatic 65, 9, 140, 0) := rfl
theorem zr_210_9 : zRow xM 210 9 = some (40, .ifCond .ne 6, 12, 15, 4) := rfl
theorem zr_210_12 : zRp 210 12 14 (0, -2) := ⟨_, _, _, _, rfl, by decide, Option.some_ne_none _, rfl⟩
theorem zr_210_14 : zRow xM 210 14 = some (108, .ireturn, 15, 0, 0) := rfl
theorem zr_210_15 : zRp 210 15 16 (0, 0) := ⟨_, _, _, _, rfl, by decide, Option.some_ne_none _, rfl⟩
theorem zr_210_16 : zRow xM 210 16 = some (9, .istore_n 2, 17, 2, 0) := rfl
theorem zr_210_17 : zRp 210 17 18 (0, 0) := ⟨_, _, _, _, rfl, by decide, Option.some_ne_none _, rfl⟩
theorem zr_210_18 : zRow xM 210 18 = some (9, .istore_n 3, 19, 3, 0) := rfl
theorem zr_210_19 : zRow xM 210 19 = some (3, .iload_n 3, 20, 3, 0) := rfl
theorem zr_210_20 : zRow xM 210 20 = some (7, .aload_n 0, 21, 0, 0) := rfl
theorem zr_210_21 : zRow xM 210 21 = some (105, .invokevirtual 73, 24, 142, 9) := rfl
theorem zr_210_24 : zRow xM 210 24 = some (41, .if_icmp .ge 27, 27, 51, 3) := rfl
theorem zr_210_27 : zRow xM 210 27 = some (3, .iload_n 1, 28, 1, 0) := rfl
theorem zr_210_28 : zRp 210 28 29 (0, 1) := ⟨_, _, _, _, rfl, by decide, Option.some_ne_none _, rfl⟩
theorem zr_210_29 : zRow xM 210 29 = some (41, .if_icmp .le 22, 32, 51, 5) := rfl
theorem zr_210_32 : zRow xM 210 32 = some (3, .iload_n 2, 33, 2, 0) := rfl
theorem zr_210_33 : zRow xM 210 33 = some (7, .aload_n 0, 34, 0, 0) := rfl
theorem zr_210_34 : zRow xM 210 34 = some (3, .iload_n 3, 35, 3, 0) := rfl
theorem zr_210_35 : zRp 210 35 36 (0, 4) := ⟨_, _, _, _, rfl, by decide, Option.some_ne_none _, rfl⟩
theorem zr_210_36 : zRow xM 210 36 = some (3, .iload_n 1, 37, 1, 0) := rfl
theorem zr_210_37 : zRow xM 210 37 = some (16, .iadd, 38, 0, 0) := rfl
theorem zr_210_38 : zRp 210 38 39 (0, 2) := ⟨_, _, _, _, rfl, by decide, Option.some_ne_none _, rfl⟩
theorem zr_210_39 : zRow xM 210 39 = some (17, .isub, 40, 0, 0) := rfl
theorem zr_210_40 : zRow xM 210 40 = some (105, .invokevirtual 76, 43, 144, 9) := rfl
theorem zr_210_43 : zRow xM 210 43 = some (16, .iadd, 44, 0, 0) := rfl
theorem zr_210_44 : zRow xM 210 44 = some (9, .istore_n 2, 45, 2, 0) := rfl
theorem zr_210_45 : zRow xM 210 45 = some (15, .iinc 3 1, 48, 3, 1) := rfl
theorem zr_210_48 : zRow xM 210 48 = some (42, .goto (-29), 49, 19, 0) := rfl
theorem zr_210_51 : zRow xM 210 51 = some (3, .iload_n 1, 52, 1, 0) := rfl
theorem zr_210_52 : zRow xM 210 52 = some (40, .ifCond .ne 10, 55, 62, 4) := rfl
theorem zr_210_55 : zRow xM 210 55 = some (7, .aload_n 0, 56, 0, 0) := rfl
theorem zr_210_56 : zRow xM 210 56 = some (105, .invokevirtual 61, 59, 141, 9) := rfl
theorem zr_210_59 : zRow xM 210 59 = some (42, .goto 16, 60, 75, 0) := rfl
theorem zr_210_62 : zRow xM 210 62 = some (3, .iload_n 1, 63, 1, 0) := rfl
theorem zr_210_63 : zRp 210 63 64 (0, 1) := ⟨_, _, _, _, rfl, by decide, Option.some_ne_none _, rfl⟩
theorem zr_210_64 : zRow xM 210 64 = some (41, .if_icmp .ne 10, 67, 74, 4) := rfl
theorem zr_210_67 : zRow xM 210 67 = some (7, .aload_n 0, 68, 0, 0) := rfl
theorem zr_210_68 : zRow xM 210 68 = some (105, .invokevirtual 73, 71, 142, 9) := rfl
theorem zr_210_71 : zRow xM 210 71 = some (42, .goto 4, 72, 75, 0) := rfl
theorem zr_210_74 : zRow xM 210 74 = some (3, .iload_n 2, 75, 2, 0) := rfl
theorem zr_210_75 : zRow xM 210 75 = some (108, .ireturn, 76, 0, 0) := rfl
theorem zm_211 : zMt xM 211 = some (8, (some .long), 4, 0, 0) := rfl
theorem zr_211_0 : zRow xM 211 0 = some (5, .lload_n 1, 1, 1, 0) := rfl
theorem zr_211_1 : zRow xM 211 1 = some (14, .lstore 5, 3, 5, 0) := rfl
theorem zr_211_3 : zRp 211 3 4 (0, 0) := ⟨_, _, _, _, rfl, by decide, Option.some_ne_none _, rfl⟩
theorem zr_211_4 : zRow xM 211 4 = some (10, .istore 7, 6, 7, 0) := rfl
theorem zr_211_6 : zRow xM 211 6 = some (4, .iload 7, 8, 7, 0) := rfl
theorem zr_211_8 : zRow xM 211 8 = some (4, .iload 4, 10, 4, 0) := rfl
theorem zr_211_10 : zRow xM 211 10 = some (41, .if_icmp .ge 28, 13, 38, 3) := rfl
theorem zr_211_13 : zRp 211 13 16 (1, 31) := ⟨_, _, _, _, rfl, by decide, Option.some_ne_none _, rfl⟩
theorem zr_211_16 : zRow xM 211 16 = some (6, .lload 5, 18, 5, 0) := rfl
theorem zr_211_18 : zRow xM 211 18 = some (29, .lmul, 19, 0, 0) := rfl
theorem zr_211_19 : zRow xM 211 19 = some (7, .aload_n 0, 20, 0, 0) := rfl
theorem zr_211_20 : zRow xM 211 20 = some (46, .getfield 7, 23, 9, 0) := rfl
theorem zr_211_23 : zRow xM 211 23 = some (3, .iload_n 3, 24, 3, 0) := rfl
theorem zr_211_24 : zRow xM 211 24 = some (4, .iload 7, 26, 7, 0) := rfl
theorem zr_211_26 : zRow xM 211 26 = some (16, .iadd, 27, 0, 0) := rfl
theorem zr_211_27 : zRow xM 211 27 = some (48, .iaload, 28, 0, 0) := rfl
theorem zr_211_28 : zRow xM 211 28 = some (36, .i2l, 29, 0, 0) := rfl
theorem zr_211_29 : zRow xM 211 29 = some (27, .ladd, 30, 0, 0) := rfl
theorem zr_211_30 : zRow xM 211 30 = some (14, .lstore 5, 32, 5, 0) := rfl
theorem zr_211_32 : zRow xM 211 32 = some (15, .iinc 7 1, 35, 7, 1) := rfl
theorem zr_211_35 : zRow xM 211 35 = some (42, .goto (-29), 36, 6, 0) := rfl
theorem zr_211_38 : zRow xM 211 38 = some (6, .lload 5, 40, 5, 0) := rfl
theorem zr_211_40 : zRow xM 211 40 = some (109, .lreturn, 41, 0, 0) := rfl
theorem zm_212 : zMt xM 212 = some (4, (some .long), 1, 0, 0) := rfl
theorem zr_212_0 : zRp 212 0 3 (1, 449) := ⟨_, _, _, _, rfl, by decide, Option.some_ne_none _, rfl⟩
theorem zr_212_3 : zRow xM 212 3 = some (13, .lstore_n 1, 4, 1, 0) := rfl
theorem zr_212_4 : zRp 212 4 5 (0, 0) := ⟨_, _, _, _, rfl, by decide, Option.some_ne_none _, rfl⟩
theorem zr_212_5 : zRow xM 212 5 = some (9, .istore_n 3, 6, 3, 0) := rfl
theorem zr_212_6 : zRow xM 212 6 = some (3, .iload_n 3, 7, 3, 0) := rfl
theorem zr_212_7 : zRp 212 7 8 (0, 4) := ⟨_, _, _, _, rfl, by decide, Option.some_ne_none _, rfl⟩
theorem zr_212_8 : zRow xM 212 8 = some (41, .if_icmp .ge 22, 11, 30, 3) := rfl
theorem zr_212_11 : zRp 212 11 14 (1, 31) := ⟨_, _, _, _, rfl, by decide, Option.some_ne_none _, rfl⟩
theorem zr_212_14 : zRow xM 212 14 = some (5, .lload_n 1, 15, 1, 0) := rfl
theorem zr_212_15 : zRow xM 212 15 = some (29, .lmul, 16, 0, 0) := rfl
theorem zr_212_16 : zRow xM 212 16 = some (7, .aload_n 0, 17, 0, 0) := rfl
theorem zr_212_17 : zRow xM 212 17 = some (3, .iload_n 3, 18, 3, 0) := rfl
theorem zr_212_18 : zRow xM 212 18 = some (105, .invokevirtual 272, 21, 210, 9) := rfl
theorem zr_212_21 : zRow xM 212 21 = some (36, .i2l, 22, 0, 0) := rfl
theorem zr_212_22 : zRow xM 212 22 = some (27, .ladd, 23, 0, 0) := rfl
theorem zr_212_23 : zRow xM 212 23 = some (13, .lstore_n 1, 24, 1, 0) := rfl
theorem zr_212_24 : zRow xM 212 24 = some (15, .iinc 3 1, 27, 3, 1) := rfl
theorem zr_212_27 : zRow xM 212 27 = some (42, .goto (-21), 28, 6, 0) := rfl
theorem zr_212_30 : zRp 212 30 31 (0, 0) := ⟨_, _, _, _, rfl, by decide, Option.some_ne_none _, rfl⟩
theorem zr_212_31 : zRow xM 212 31 = some (9, .istore_n 3, 32, 3, 0) := rfl
theorem zr_212_32 : zRow xM 212 32 = some (3, .iload_n 3, 33, 3, 0) := rfl
theorem zr_212_33 : zRow xM 212 33 = some (7, .aload_n 0, 34, 0, 0) := rfl
theorem zr_212_34 : zRow xM 212 34 = some (105, .invokevirtual 61, 37, 141, 9) := rfl
theorem zr_212_37 : zRow xM 212 37 = some (41, .if_icmp .ge 38, 40, 75, 3) := rfl
theorem zr_212_40 : zRow xM 212 40 = some (7, .aload_n 0, 41, 0, 0) := rfl
theorem zr_212_41 : zRp 212 41 44 (1, 31) := ⟨_, _, _, _, rfl, by decide, Option.some_ne_none _, rfl⟩
theorem zr_212_44 : zRow xM 212 44 = some (5, .lload_n 1, 45, 1, 0) := rfl
theorem zr_212_45 : zRow xM 212 45 = some (29, .lmul, 46, 0, 0) := rfl
theorem zr_212_46 : zRow xM 212 46 = some (7, .aload_n 0, 47, 0, 0) := rfl
theorem zr_212_47 : zRow xM 212 47 = some (46, .getfield 7, 50, 9, 0) := rfl
theorem zr_212_50 : zRp 212 50 51 (0, 0) := ⟨_, _, _, _, rfl, by decide, Option.some_ne_none _, rfl⟩
theorem zr_212_51 : zRow xM 212 51 = some (3, .iload_n 3, 52, 3, 0) := rfl
theorem zr_212_52 : zRow xM 212 52 = some (16, .iadd, 53, 0, 0) := rfl
theorem zr_212_53 : zRow xM 212 53 = some (48, .iaload, 54, 0, 0) := rfl
theorem zr_212_54 : zRow xM 212 54 = some (36, .i2l, 55, 0, 0) := rfl
theorem zr_212_55 : zRow xM 212 55 = some (27, .ladd, 56, 0, 0) := rfl
theorem zr_212_56 : zRp 212 56 58 (0, 10) := ⟨_, _, _, _, rfl, by decide, Option.some_ne_none _, rfl⟩
theorem zr_212_58 : zRp 212 58 60 (0, 8) := ⟨_, _, _, _, rfl, by decide, Option.some_ne_none _, rfl⟩
theorem zr_212_60 : zRow xM 212 60 = some (3, .iload_n 3, 61, 3, 0) := rfl
theorem zr_212_61 : zRow xM 212 61 = some (18, .imul, 62, 0, 0) := rfl
theorem zr_212_62 : zRow xM 212 62 = some (16, .iadd, 63, 0, 0) := rfl
theorem zr_212_63 : zRp 212 63 65 (0, 8) := ⟨_, _, _, _, rfl, by decide, Option.some_ne_none _, rfl⟩
theorem zr_212_65 : zRow xM 212 65 = some (105, .invokevirtual 275, 68, 211, 9) := rfl
theorem zr_212_68 : zRow xM 212 68 = some (13, .lstore_n 1, 69, 1, 0) := rfl
theorem zr_212_69 : zRow xM 212 69 = some (15, .iinc 3 1, 72, 3, 1) := rfl
theorem zr_212_72 : zRow xM 212 72 = some (42, .goto (-40), 73, 32, 0) := rfl
theorem zr_212_75 : zRow xM 212 75 = some (7, .aload_n 0, 76, 0, 0) := rfl
theorem zr_212_76 : zRow xM 212 76 = some (5, .lload_n 1, 77, 1, 0) := rfl
theorem zr_212_77 : zRp 212 77 79 (0, 90) := ⟨_, _, _, _, rfl, by decide, Option.some_ne_none _, rfl⟩
theorem zr_212_79 : zRp 212 79 81 (0, 6) := ⟨_, _, _, _, rfl, by decide, Option.some_ne_none _, rfl⟩
theorem zr_212_81 : zRow xM 212 81 = some (7, .aload_n 0, 82, 0, 0) := rfl
theorem zr_212_82 : zRow xM 212 82 = some (105, .invokevirtual 73, 85, 142, 9) := rfl
theorem zr_212_85 : zRow xM 212 85 = some (18, .imul, 86, 0, 0) := rfl
theorem zr_212_86 : zRow xM 212 86 = some (105, .invokevirtual 275, 89, 211, 9) := rfl
theorem zr_212_89 : zRow xM 212 89 = some (13, .lstore_n 1, 90, 1, 0) := rfl
theorem zr_212_90 : zRp 212 90 91 (0, 0) := ⟨_, _, _, _, rfl, by decide, Option.some_ne_none _, rfl⟩
theorem zr_212_91 : zRow xM 212 91 = some (9, .istore_n 3, 92, 3, 0) := rfl
theorem zr_212_92 : zRow xM 212 92 = some (3, .iload_n 3, 93, 3, 0) := rfl
theorem zr_212_93 : zRp 212 93 94 (0, 4) := ⟨_, _, _, _, rfl, by decide, Option.some_ne_none _, rfl⟩
theorem zr_212_94 : zRow xM 212 94 = some (41, .if_icmp .ge 40, 97, 134, 3) := rfl
theorem zr_212_97 : zRow xM 212 97 = some (7, .aload_n 0, 98, 0, 0) := rfl
theorem zr_212_98 : zRow xM 212 98 = some (5, .lload_n 1, 99, 1, 0) := rfl
theorem zr_212_99 : zRp 212 99 102 (0, 450) := ⟨_, _, _, _, rfl, by decide, Option.some_ne_none _, rfl⟩
theorem zr_212_102 : zRp 212 102 104 (0, 52) := ⟨_, _, _, _, rfl, by decide, Option.some_ne_none _, rfl⟩
theorem zr_212_104 : zRow xM 212 104 = some (3, .iload_n 3, 105, 3, 0) := rfl
theorem zr_212_105 : zRow xM 212 105 = some (18, .imul, 106, 0, 0) := rfl
theorem zr_212_106 : zRow xM 212 106 = some (16, .iadd, 107, 0, 0) := rfl
theorem zr_212_107 : zRp 212 107 108 (0, 2) := ⟨_, _, _, _, rfl, by decide, Option.some_ne_none _, rfl⟩
theorem zr_212_108 : zRow xM 212 108 = some (7, .aload_n 0, 109, 0, 0) := rfl
theorem zr_212_109 : zRow xM 212 109 = some (46, .getfield 7, 112, 9, 0) := rfl
theorem zr_212_112 : zRp 212 112 115 (0, 450) := ⟨_, _, _, _, rfl, by decide, Option.some_ne_none _, rfl⟩
theorem zr_212_115 : zRp 212 115 117 (0, 52) := ⟨_, _, _, _, rfl, by decide, Option.some_ne_none _, rfl⟩
theorem zr_212_117 : zRow xM 212 117 = some (3, .iload_n 3, 118, 3, 0) := rfl
theorem zr_212_118 : zRow xM 212 118 = some (18, .imul, 119, 0, 0) := rfl
theorem zr_212_119 : zRow xM 212 119 = some (16, .iadd, 120, 0, 0) := rfl
theorem zr_212_120 : zRp 212 120 121 (0, 1) := ⟨_, _, _, _, rfl, by decide, Option.some_ne_none _, rfl⟩
theorem zr_212_121 : zRow xM 212 121 = some (16, .iadd, 122, 0, 0) := rfl
theorem zr_212_122 : zRow xM 212 122 = some (48, .iaload, 123, 0, 0) := rfl
theorem zr_212_123 : zRow xM 212 123 = some (16, .iadd, 124, 0, 0) := rfl
theorem zr_212_124 : zRow xM 212 124 = some (105, .invokevirtual 275, 127, 211, 9) := rfl
theorem zr_212_127 : zRow xM 212 127 = some (13, .lstore_n 1, 128, 1, 0) := rfl
theorem zr_212_128 : zRow xM 212 128 = some (15, .iinc 3 1, 131, 3, 1) := rfl
theorem zr_212_131 : zRow xM 212 131 = some (42, .goto (-39), 132, 92, 0) := rfl
theorem zr_212_134 : zRow xM 212 134 = some (7, .aload_n 0, 135, 0, 0) := rfl
theorem zr_212_135 : zRow xM 212 135 = some (5, .lload_n 1, 136, 1, 0) := rfl
theorem zr_212_136 : zRp 212 136 139 (0, 658) := ⟨_, _, _, _, rfl, by decide, Option.some_ne_none _, rfl⟩
theorem zr_212_139 : zRp 212 139 142 (0, 160) := ⟨_, _, _, _, rfl, by decide, Option.some_ne_none _, rfl⟩
theorem zr_212_142 : zRow xM 212 142 = some (105, .invokevirtual 275, 145, 211, 9) := rfl
theorem zr_212_145 : zRow xM 212 145 = some (13, .lstore_n 1, 146, 1, 0) := rfl
theorem zr_212_146 : zRow xM 212 146 = some (7, .aload_n 0, 147, 0, 0) := rfl
theorem zr_212_147 : zRow xM 212 147 = some (7, .aload_n 0, 148, 0, 0) := rfl
theorem zr_212_148 : zRow xM 212 148 = some (5, .lload_n 1, 149, 1, 0) := rfl
theorem zr_212_149 : zRp 212 149 152 (0, 824) := ⟨_, _, _, _, rfl, by decide, Option.some_ne_none _, rfl⟩
theorem zr_212_152 : zRp 212 152 153 (0, 2) := ⟨_, _, _, _, rfl, by decide, Option.some_ne_none _, rfl⟩
theorem zr_212_153 : zRow xM 212 153 = some (105, .invokevirtual 275, 156, 211, 9) := rfl
theorem zr_212_156 : zRp 212 156 159 (0, 818) := ⟨_, _, _, _, rfl, by decide, Option.some_ne_none _, rfl⟩
theorem zr_212_159 : zRp 212 159 160 (0, 4) := ⟨_, _, _, _, rfl, by decide, Option.some_ne_none _, rfl⟩
theorem zr_212_160 : zRow xM 212 160 = some (105, .invokevirtual 275, 163, 211, 9) := rfl
theorem zr_212_163 : zRow xM 212 163 = some (13, .lstore_n 1, 164, 1, 0) := rfl
theorem zr_212_164 : zRp 212 164 167 (1, 31) := ⟨_, _, _, _, rfl, by decide, Option.some_ne_none _, rfl⟩
theorem zr_212_167 : zRp 212 167 170 (1, 31) := ⟨_, _, _, _, rfl, by decide, Option.some_ne_none _, rfl⟩
theorem zr_212_170 : zRow xM 212 170 = some (5, .lload_n 1, 171, 1, 0) := rfl
theorem zr_212_171 : zRow xM 212 171 = some (29, .lmul, 172, 0, 0) := rfl
theorem zr_212_172 : zRow xM 212 172 = some (7, .aload_n 0, 173, 0, 0) := rfl
theorem zr_212_173 : zRow xM 212 173 = some (46, .getfield 187, 176, 9, 3) := rfl
theorem zr_212_176 : zRow xM 212 176 = some (27, .ladd, 177, 0, 0) := rfl
theorem zr_212_177 : zRow xM 212 177 = some (29, .lmul, 178, 0, 0) := rfl
theorem zr_212_178 : zRow xM 212 178 = some (7, .aload_n 0, 179, 0, 0) := rfl
theorem zr_212_179 : zRow xM 212 179 = some (46, .getfield 20, 182, 9, 4) := rfl
theorem zr_212_182 : zRow xM 212 182 = some (27, .ladd, 183, 0, 0) := rfl
theorem zr_212_183 : zRow xM 212 183 = some (109, .lreturn, 184, 0, 0) := rfl
