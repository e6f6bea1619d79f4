theorem zm_162 : zMt xM 162 = some (2, (some .boolean), 2, 0, 0) := rfl
theorem zr_162_0 : zRow xM 162 0 = some (7, .aload_n 0, 1, 0, 0) := rfl
theorem zr_162_1 : zRow xM 162 1 = some (3, .iload_n 1, 2, 1, 0) := rfl
theorem zr_162_2 : zRow xM 162 2 = some (47, .putfield 95, 5, 9, 5) := rfl
theorem zr_162_5 : zRow xM 162 5 = some (7, .aload_n 0, 6, 0, 0) := rfl
theorem zr_162_6 : zRow xM 162 6 = some (105, .invokevirtual 151, 9, 161, 9) := rfl
theorem zr_162_9 : zRow xM 162 9 = some (108, .ireturn, 10, 0, 0) := rfl
theorem zm_163 : zMt xM 163 = some (3, (some .int), 2, 0, 0) := rfl
theorem zr_163_0 : zRow xM 163 0 = some (3, .iload_n 1, 1, 1, 0) := rfl
theorem zr_163_1 : zRow xM 163 1 = some (107, .invokestatic 88, 4, 148, 0) := rfl
theorem zr_163_4 : zRow xM 163 4 = some (40, .ifCond .ne 6, 7, 10, 4) := rfl
theorem zr_163_7 : zRp 163 7 9 (0, -2) := ⟨_, _, _, _, rfl, by decide, Option.some_ne_none _, rfl⟩
theorem zr_163_9 : zRow xM 163 9 = some (108, .ireturn, 10, 0, 0) := rfl
theorem zr_163_10 : zRow xM 163 10 = some (7, .aload_n 0, 11, 0, 0) := rfl
theorem zr_163_11 : zRow xM 163 11 = some (3, .iload_n 1, 12, 1, 0) := rfl
theorem zr_163_12 : zRow xM 163 12 = some (105, .invokevirtual 155, 15, 162, 9) := rfl
theorem zr_163_15 : zRow xM 163 15 = some (9, .istore_n 2, 16, 2, 0) := rfl
theorem zr_163_16 : zRow xM 163 16 = some (7, .aload_n 0, 17, 0, 0) := rfl
theorem zr_163_17 : zRow xM 163 17 = some (46, .getfield 125, 20, 9, 7) := rfl
theorem zr_163_20 : zRow xM 163 20 = some (108, .ireturn, 21, 0, 0) := rfl
theorem zm_164 : zMt xM 164 = some (3, none, 2, 0, 0) := rfl
theorem zr_164_0 : zRp 164 0 1 (0, 0) := ⟨_, _, _, _, rfl, by decide, Option.some_ne_none _, rfl⟩
theorem zr_164_1 : zRow xM 164 1 = some (9, .istore_n 2, 2, 2, 0) := rfl
theorem zr_164_2 : zRow xM 164 2 = some (3, .iload_n 2, 3, 2, 0) := rfl
theorem zr_164_3 : zRp 164 3 5 (0, 10) := ⟨_, _, _, _, rfl, by decide, Option.some_ne_none _, rfl⟩
theorem zr_164_5 : zRow xM 164 5 = some (41, .if_icmp .ge 42, 8, 47, 3) := rfl
theorem zr_164_8 : zRow xM 164 8 = some (7, .aload_n 0, 9, 0, 0) := rfl
theorem zr_164_9 : zRow xM 164 9 = some (46, .getfield 34, 12, 9, 14) := rfl
theorem zr_164_12 : zRow xM 164 12 = some (3, .iload_n 2, 13, 2, 0) := rfl
theorem zr_164_13 : zRow xM 164 13 = some (7, .aload_n 0, 14, 0, 0) := rfl
theorem zr_164_14 : zRow xM 164 14 = some (46, .getfield 7, 17, 9, 0) := rfl
theorem zr_164_17 : zRp 164 17 20 (0, 450) := ⟨_, _, _, _, rfl, by decide, Option.some_ne_none _, rfl⟩
theorem zr_164_20 : zRp 164 20 22 (0, 52) := ⟨_, _, _, _, rfl, by decide, Option.some_ne_none _, rfl⟩
theorem zr_164_22 : zRow xM 164 22 = some (3, .iload_n 1, 23, 1, 0) := rfl
theorem zr_164_23 : zRow xM 164 23 = some (18, .imul, 24, 0, 0) := rfl
theorem zr_164_24 : zRow xM 164 24 = some (16, .iadd, 25, 0, 0) := rfl
theorem zr_164_25 : zRow xM 164 25 = some (48, .iaload, 26, 0, 0) := rfl
theorem zr_164_26 : zRow xM 164 26 = some (49, .iastore, 27, 0, 0) := rfl
theorem zr_164_27 : zRow xM 164 27 = some (7, .aload_n 0, 28, 0, 0) := rfl
theorem zr_164_28 : zRow xM 164 28 = some (46, .getfield 37, 31, 9, 15) := rfl
theorem zr_164_31 : zRow xM 164 31 = some (3, .iload_n 2, 32, 2, 0) := rfl
theorem zr_164_32 : zRp 164 32 33 (0, 0) := ⟨_, _, _, _, rfl, by decide, Option.some_ne_none _, rfl⟩
theorem zr_164_33 : zRow xM 164 33 = some (49, .iastore, 34, 0, 0) := rfl
theorem zr_164_34 : zRow xM 164 34 = some (7, .aload_n 0, 35, 0, 0) := rfl
theorem zr_164_35 : zRow xM 164 35 = some (46, .getfield 40, 38, 9, 16) := rfl
theorem zr_164_38 : zRow xM 164 38 = some (3, .iload_n 2, 39, 2, 0) := rfl
theorem zr_164_39 : zRp 164 39 40 (0, -1) := ⟨_, _, _, _, rfl, by decide, Option.some_ne_none _, rfl⟩
theorem zr_164_40 : zRow xM 164 40 = some (49, .iastore, 41, 0, 0) := rfl
theorem zr_164_41 : zRow xM 164 41 = some (15, .iinc 2 1, 44, 2, 1) := rfl
theorem zr_164_44 : zRow xM 164 44 = some (42, .goto (-42), 45, 2, 0) := rfl
theorem zr_164_47 : zRow xM 164 47 = some (110, .return_, 48, 0, 0) := rfl
theorem zm_165 : zMt xM 165 = some (5, (some .int), 5, 0, 0) := rfl
theorem zr_165_0 : zRow xM 165 0 = some (7, .aload_n 0, 1, 0, 0) := rfl
theorem zr_165_1 : zRow xM 165 1 = some (46, .getfield 31, 4, 9, 12) := rfl
theorem zr_165_4 : zRp 165 4 5 (0, 0) := ⟨_, _, _, _, rfl, by decide, Option.some_ne_none _, rfl⟩
theorem zr_165_5 : zRow xM 165 5 = some (7, .aload_n 0, 6, 0, 0) := rfl
theorem zr_165_6 : zRow xM 165 6 = some (46, .getfield 34, 9, 9, 14) := rfl
theorem zr_165_9 : zRow xM 165 9 = some (3, .iload_n 2, 10, 2, 0) := rfl
theorem zr_165_10 : zRow xM 165 10 = some (48, .iaload, 11, 0, 0) := rfl
theorem zr_165_11 : zRow xM 165 11 = some (36, .i2l, 12, 0, 0) := rfl
theorem zr_165_12 : zRow xM 165 12 = some (51, .lastore, 13, 0, 0) := rfl
theorem zr_165_13 : zRow xM 165 13 = some (7, .aload_n 0, 14, 0, 0) := rfl
theorem zr_165_14 : zRow xM 165 14 = some (46, .getfield 31, 17, 9, 12) := rfl
theorem zr_165_17 : zRp 165 17 18 (0, 1) := ⟨_, _, _, _, rfl, by decide, Option.some_ne_none _, rfl⟩
theorem zr_165_18 : zRow xM 165 18 = some (7, .aload_n 0, 19, 0, 0) := rfl
theorem zr_165_19 : zRow xM 165 19 = some (46, .getfield 34, 22, 9, 14) := rfl
theorem zr_165_22 : zRow xM 165 22 = some (3, .iload_n 3, 23, 3, 0) := rfl
theorem zr_165_23 : zRow xM 165 23 = some (48, .iaload, 24, 0, 0) := rfl
theorem zr_165_24 : zRow xM 165 24 = some (36, .i2l, 25, 0, 0) := rfl
theorem zr_165_25 : zRow xM 165 25 = some (51, .lastore, 26, 0, 0) := rfl
theorem zr_165_26 : zRow xM 165 26 = some (7, .aload_n 0, 27, 0, 0) := rfl
theorem zr_165_27 : zRow xM 165 27 = some (46, .getfield 31, 30, 9, 12) := rfl
theorem zr_165_30 : zRp 165 30 31 (0, 2) := ⟨_, _, _, _, rfl, by decide, Option.some_ne_none _, rfl⟩
theorem zr_165_31 : zRow xM 165 31 = some (4, .iload 4, 33, 4, 0) := rfl
theorem zr_165_33 : zRow xM 165 33 = some (36, .i2l, 34, 0, 0) := rfl
theorem zr_165_34 : zRow xM 165 34 = some (51, .lastore, 35, 0, 0) := rfl
theorem zr_165_35 : zRow xM 165 35 = some (7, .aload_n 0, 36, 0, 0) := rfl
theorem zr_165_36 : zRow xM 165 36 = some (46, .getfield 31, 39, 9, 12) := rfl
theorem zr_165_39 : zRp 165 39 40 (0, 3) := ⟨_, _, _, _, rfl, by decide, Option.some_ne_none _, rfl⟩
theorem zr_165_40 : zRow xM 165 40 = some (7, .aload_n 0, 41, 0, 0) := rfl
theorem zr_165_41 : zRow xM 165 41 = some (46, .getfield 37, 44, 9, 15) := rfl
theorem zr_165_44 : zRow xM 165 44 = some (3, .iload_n 2, 45, 2, 0) := rfl
theorem zr_165_45 : zRow xM 165 45 = some (48, .iaload, 46, 0, 0) := rfl
theorem zr_165_46 : zRow xM 165 46 = some (36, .i2l, 47, 0, 0) := rfl
theorem zr_165_47 : zRow xM 165 47 = some (51, .lastore, 48, 0, 0) := rfl
theorem zr_165_48 : zRow xM 165 48 = some (7, .aload_n 0, 49, 0, 0) := rfl
theorem zr_165_49 : zRow xM 165 49 = some (46, .getfield 31, 52, 9, 12) := rfl
theorem zr_165_52 : zRp 165 52 53 (0, 4) := ⟨_, _, _, _, rfl, by decide, Option.some_ne_none _, rfl⟩
theorem zr_165_53 : zRow xM 165 53 = some (7, .aload_n 0, 54, 0, 0) := rfl
theorem zr_165_54 : zRow xM 165 54 = some (46, .getfield 40, 57, 9, 16) := rfl
theorem zr_165_57 : zRow xM 165 57 = some (3, .iload_n 2, 58, 2, 0) := rfl
theorem zr_165_58 : zRow xM 165 58 = some (48, .iaload, 59, 0, 0) := rfl
theorem zr_165_59 : zRp 165 59 60 (0, -1) := ⟨_, _, _, _, rfl, by decide, Option.some_ne_none _, rfl⟩
theorem zr_165_60 : zRow xM 165 60 = some (41, .if_icmp .ne 7, 63, 67, 4) := rfl
theorem zr_165_63 : zRp 165 63 64 (1, 0) := ⟨_, _, _, _, rfl, by decide, Option.some_ne_none _, rfl⟩
theorem zr_165_64 : zRow xM 165 64 = some (42, .goto 17, 65, 81, 0) := rfl
theorem zr_165_67 : zRow xM 165 67 = some (7, .aload_n 0, 68, 0, 0) := rfl
theorem zr_165_68 : zRow xM 165 68 = some (3, .iload_n 1, 69, 1, 0) := rfl
theorem zr_165_69 : zRp 165 69 70 (0, 0) := ⟨_, _, _, _, rfl, by decide, Option.some_ne_none _, rfl⟩
theorem zr_165_70 : zRow xM 165 70 = some (105, .invokevirtual 76, 73, 144, 9) := rfl
theorem zr_165_73 : zRow xM 165 73 = some (7, .aload_n 0, 74, 0, 0) := rfl
theorem zr_165_74 : zRow xM 165 74 = some (46, .getfield 40, 77, 9, 16) := rfl
theorem zr_165_77 : zRow xM 165 77 = some (3, .iload_n 2, 78, 2, 0) := rfl
theorem zr_165_78 : zRow xM 165 78 = some (48, .iaload, 79, 0, 0) := rfl
theorem zr_165_79 : zRow xM 165 79 = some (17, .isub, 80, 0, 0) := rfl
theorem zr_165_80 : zRow xM 165 80 = some (36, .i2l, 81, 0, 0) := rfl
theorem zr_165_81 : zRow xM 165 81 = some (51, .lastore, 82, 0, 0) := rfl
theorem zr_165_82 : zRow xM 165 82 = some (7, .aload_n 0, 83, 0, 0) := rfl
theorem zr_165_83 : zRow xM 165 83 = some (46, .getfield 31, 86, 9, 12) := rfl
theorem zr_165_86 : zRp 165 86 87 (0, 5) := ⟨_, _, _, _, rfl, by decide, Option.some_ne_none _, rfl⟩
theorem zr_165_87 : zRow xM 165 87 = some (7, .aload_n 0, 88, 0, 0) := rfl
theorem zr_165_88 : zRow xM 165 88 = some (3, .iload_n 1, 89, 1, 0) := rfl
theorem zr_165_89 : zRp 165 89 90 (0, 4) := ⟨_, _, _, _, rfl, by decide, Option.some_ne_none _, rfl⟩
theorem zr_165_90 : zRow xM 165 90 = some (105, .invokevirtual 76, 93, 144, 9) := rfl
theorem zr_165_93 : zRow xM 165 93 = some (36, .i2l, 94, 0, 0) := rfl
theorem zr_165_94 : zRow xM 165 94 = some (51, .lastore, 95, 0, 0) := rfl
theorem zr_165_95 : zRow xM 165 95 = some (7, .aload_n 0, 96, 0, 0) := rfl
theorem zr_165_96 : zRow xM 165 96 = some (105, .invokevirtual 151, 99, 161, 9) := rfl
theorem zr_165_99 : zRow xM 165 99 = some (40, .ifCond .ne 5, 102, 104, 4) := rfl
theorem zr_165_102 : zRp 165 102 103 (0, 0) := ⟨_, _, _, _, rfl, by decide, Option.some_ne_none _, rfl⟩
theorem zr_165_103 : zRow xM 165 103 = some (108, .ireturn, 104, 0, 0) := rfl
theorem zr_165_104 : zRow xM 165 104 = some (7, .aload_n 0, 105, 0, 0) := rfl
theorem zr_165_105 : zRow xM 165 105 = some (46, .getfield 148, 108, 9, 13) := rfl
theorem zr_165_108 : zRp 165 108 111 (1, -500) := ⟨_, _, _, _, rfl, by decide, Option.some_ne_none _, rfl⟩
theorem zr_165_111 : zRow xM 165 111 = some (39, .lcmp, 112, 0, 0) := rfl
theorem zr_165_112 : zRow xM 165 112 = some (40, .ifCond .ge 9, 115, 121, 3) := rfl
theorem zr_165_115 : zRp 165 115 118 (1, -500) := ⟨_, _, _, _, rfl, by decide, Option.some_ne_none _, rfl⟩
theorem zr_165_118 : zRow xM 165 118 = some (42, .goto 24, 119, 142, 0) := rfl
theorem zr_165_121 : zRow xM 165 121 = some (7, .aload_n 0, 122, 0, 0) := rfl
theorem zr_165_122 : zRow xM 165 122 = some (46, .getfield 148, 125, 9, 13) := rfl
theorem zr_165_125 : zRp 165 125 128 (1, 500) := ⟨_, _, _, _, rfl, by decide, Option.some_ne_none _, rfl⟩
theorem zr_165_128 : zRow xM 165 128 = some (39, .lcmp, 129, 0, 0) := rfl
theorem zr_165_129 : zRow xM 165 129 = some (40, .ifCond .le 9, 132, 138, 5) := rfl
theorem zr_165_132 : zRp 165 132 135 (1, 500) := ⟨_, _, _, _, rfl, by decide, Option.some_ne_none _, rfl⟩
theorem zr_165_135 : zRow xM 165 135 = some (42, .goto 7, 136, 142, 0) := rfl
theorem zr_165_138 : zRow xM 165 138 = some (7, .aload_n 0, 139, 0, 0) := rfl
theorem zr_165_139 : zRow xM 165 139 = some (46, .getfield 148, 142, 9, 13) := rfl
theorem zr_165_142 : zRow xM 165 142 = some (37, .l2i, 143, 0, 0) := rfl
theorem zr_165_143 : zRow xM 165 143 = some (108, .ireturn, 144, 0, 0) := rfl
theorem zm_166 : zMt xM 166 = some (5, none, 3, 0, 0) := rfl
theorem zr_166_0 : zRow xM 166 0 = some (7, .aload_n 0, 1, 0, 0) := rfl
theorem zr_166_1 : zRow xM 166 1 = some (3, .iload_n 1, 2, 1, 0) := rfl
theorem zr_166_2 : zRow xM 166 2 = some (47, .putfield 95, 5, 9, 5) := rfl
theorem zr_166_5 : zRow xM 166 5 = some (7, .aload_n 0, 6, 0, 0) := rfl
theorem zr_166_6 : zRow xM 166 6 = some (3, .iload_n 2, 7, 2, 0) := rfl
theorem zr_166_7 : zRp 166 7 8 (0, 1) := ⟨_, _, _, _, rfl, by decide, Option.some_ne_none _, rfl⟩
theorem zr_166_8 : zRow xM 166 8 = some (105, .invokevirtual 76, 11, 144, 9) := rfl
theorem zr_166_11 : zRow xM 166 11 = some (9, .istore_n 3, 12, 3, 0) := rfl
theorem zr_166_12 : zRow xM 166 12 = some (7, .aload_n 0, 13, 0, 0) := rfl
theorem zr_166_13 : zRow xM 166 13 = some (3, .iload_n 2, 14, 2, 0) := rfl
theorem zr_166_14 : zRp 166 14 15 (0, 2) := ⟨_, _, _, _, rfl, by decide, Option.some_ne_none _, rfl⟩
theorem zr_166_15 : zRow xM 166 15 = some (105, .invokevirtual 76, 18, 144, 9) := rfl
theorem zr_166_18 : zRow xM 166 18 = some (10, .istore 4, 20, 4, 0) := rfl
theorem zr_166_20 : zRow xM 166 20 = some (7, .aload_n 0, 21, 0, 0) := rfl
theorem zr_166_21 : zRow xM 166 21 = some (7, .aload_n 0, 22, 0, 0) := rfl
theorem zr_166_22 : zRow xM 166 22 = some (3, .iload_n 2, 23, 2, 0) := rfl
theorem zr_166_23 : zRow xM 166 23 = some (3, .iload_n 3, 24, 3, 0) := rfl
theorem zr_166_24 : zRow xM 166 24 = some (4, .iload 4, 26, 4, 0) := rfl
theorem zr_166_26 : zRow xM 166 26 = some (7, .aload_n 0, 27, 0, 0) := rfl
theorem zr_166_27 : zRow xM 166 27 = some (3, .iload_n 2, 28, 2, 0) := rfl
theorem zr_166_28 : zRp 166 28 29 (0, 3) := ⟨_, _, _, _, rfl, by decide, Option.some_ne_none _, rfl⟩
theorem zr_166_29 : zRow xM 166 29 = some (105, .invokevirtual 76, 32, 144, 9) := rfl
theorem zr_166_32 : zRow xM 166 32 = some (105, .invokevirtual 162, 35, 165, 9) := rfl
theorem zr_166_35 : zRow xM 166 35 = some (47, .putfield 166, 38, 9, 17) := rfl
theorem zr_166_38 : zRow xM 166 38 = some (7, .aload_n 0, 39, 0, 0) := rfl
theorem zr_166_39 : zRow xM 166 39 = some (7, .aload_n 0, 40, 0, 0) := rfl
theorem zr_166_40 : zRow xM 166 40 = some (3, .iload_n 2, 41, 2, 0) := rfl
theorem zr_166_41 : zRow xM 166 41 = some (4, .iload 4, 43, 4, 0) := rfl
theorem zr_166_43 : zRow xM 166 43 = some (3, .iload_n 3, 44, 3, 0) := rfl
theorem zr_166_44 : zRp 166 44 45 (0, 2) := ⟨_, _, _, _, rfl, by decide, Option.some_ne_none _, rfl⟩
theorem zr_166_45 : zRow xM 166 45 = some (7, .aload_n 0, 46, 0, 0) := rfl
theorem zr_166_46 : zRow xM 166 46 = some (3, .iload_n 2, 47, 2, 0) := rfl
theorem zr_166_47 : zRp 166 47 48 (0, 3) := ⟨_, _, _, _, rfl, by decide, Option.some_ne_none _, rfl⟩
theorem zr_166_48 : zRow xM 166 48 = some (105, .invokevirtual 76, 51, 144, 9) := rfl
theorem zr_166_51 : zRow xM 166 51 = some (17, .isub, 52, 0, 0) := rfl
theorem zr_166_52 : zRow xM 166 52 = some (105, .invokevirtual 162, 55, 165, 9) := rfl
theorem zr_166_55 : zRow xM 166 55 = some (47, .putfield 169, 58, 9, 18) := rfl
theorem zr_166_58 : zRow xM 166 58 = some (7, .aload_n 0, 59, 0, 0) := rfl
theorem zr_166_59 : zRow xM 166 59 = some (46, .getfield 34, 62, 9, 14) := rfl
theorem zr_166_62 : zRow xM 166 62 = some (3, .iload_n 3, 63, 3, 0) := rfl
theorem zr_166_63 : zRow xM 166 63 = some (45, .dup2, 64, 0, 0) := rfl
theorem zr_166_64 : zRow xM 166 64 = some (48, .iaload, 65, 0, 0) := rfl
theorem zr_166_65 : zRow xM 166 65 = some (7, .aload_n 0, 66, 0, 0) := rfl
theorem zr_166_66 : zRow xM 166 66 = some (46, .getfield 166, 69, 9, 17) := rfl
theorem zr_166_69 : zRow xM 166 69 = some (16, .iadd, 70, 0, 0) := rfl
theorem zr_166_70 : zRow xM 166 70 = some (49, .iastore, 71, 0, 0) := rfl
theorem zr_166_71 : zRow xM 166 71 = some (7, .aload_n 0, 72, 0, 0) := rfl
theorem zr_166_72 : zRow xM 166 72 = some (46, .getfield 34, 75, 9, 14) := rfl
theorem zr_166_75 : zRow xM 166 75 = some (4, .iload 4, 77, 4, 0) := rfl
theorem zr_166_77 : zRow xM 166 77 = some (45, .dup2, 78, 0, 0) := rfl
theorem zr_166_78 : zRow xM 166 78 = some (48, .iaload, 79, 0, 0) := rfl
theorem zr_166_79 : zRow xM 166 79 = some (7, .aload_n 0, 80, 0, 0) := rfl
theorem zr_166_80 : zRow xM 166 80 = some (46, .getfield 169, 83, 9, 18) := rfl
theorem zr_166_83 : zRow xM 166 83 = some (16, .iadd, 84, 0, 0) := rfl
theorem zr_166_84 : zRow xM 166 84 = some (49, .iastore, 85, 0, 0) := rfl
theorem zr_166_85 : zRow xM 166 85 = some (7, .aload_n 0, 86, 0, 0) := rfl
theorem zr_166_86 : zRow xM 166 86 = some (46, .getfield 37, 89, 9, 15) := rfl
theorem zr_166_89 : zRow xM 166 89 = some (3, .iload_n 3, 90, 3, 0) := rfl
theorem zr_166_90 : zRow xM 166 90 = some (45, .dup2, 91, 0, 0) := rfl
theorem zr_166_91 : zRow xM 166 91 = some (48, .iaload, 92, 0, 0) := rfl
theorem zr_166_92 : zRp 166 92 93 (0, 1) := ⟨_, _, _, _, rfl, by decide, Option.some_ne_none _, rfl⟩
theorem zr_166_93 : zRow xM 166 93 = some (16, .iadd, 94, 0, 0) := rfl
theorem zr_166_94 : zRow xM 166 94 = some (49, .iastore, 95, 0, 0) := rfl
theorem zr_166_95 : zRow xM 166 95 = some (7, .aload_n 0, 96, 0, 0) := rfl
theorem zr_166_96 : zRow xM 166 96 = some (46, .getfield 37, 99, 9, 15) := rfl
theorem zr_166_99 : zRow xM 166 99 = some (4, .iload 4, 101, 4, 0) := rfl
theorem zr_166_101 : zRow xM 166 101 = some (45, .dup2, 102, 0, 0) := rfl
theorem zr_166_102 : zRow xM 166 102 = some (48, .iaload, 103, 0, 0) := rfl
theorem zr_166_103 : zRp 166 103 104 (0, 1) := ⟨_, _, _, _, rfl, by decide, Option.some_ne_none _, rfl⟩
theorem zr_166_104 : zRow xM 166 104 = some (16, .iadd, 105, 0, 0) := rfl
theorem zr_166_105 : zRow xM 166 105 = some (49, .iastore, 106, 0, 0) := rfl
theorem zr_166_106 : zRow xM 166 106 = some (7, .aload_n 0, 107, 0, 0) := rfl
theorem zr_166_107 : zRow xM 166 107 = some (46, .getfield 40, 110, 9, 16) := rfl
theorem zr_166_110 : zRow xM 166 110 = some (3, .iload_n 3, 111, 3, 0) := rfl
theorem zr_166_111 : zRow xM 166 111 = some (7, .aload_n 0, 112, 0, 0) := rfl
theorem zr_166_112 : zRow xM 166 112 = some (3, .iload_n 2, 113, 2, 0) := rfl
theorem zr_166_113 : zRp 166 113 114 (0, 0) := ⟨_, _, _, _, rfl, by decide, Option.some_ne_none _, rfl⟩
theorem zr_166_114 : zRow xM 166 114 = some (105, .invokevirtual 76, 117, 144, 9) := rfl
theorem zr_166_117 : zRow xM 166 117 = some (49, .iastore, 118, 0, 0) := rfl
theorem zr_166_118 : zRow xM 166 118 = some (7, .aload_n 0, 119, 0, 0) := rfl
theorem zr_166_119 : zRow xM 166 119 = some (46, .getfield 40, 122, 9, 16) := rfl
theorem zr_166_122 : zRow xM 166 122 = some (4, .iload 4, 124, 4, 0) := rfl
theorem zr_166_124 : zRow xM 166 124 = some (7, .aload_n 0, 125, 0, 0) := rfl
theorem zr_166_125 : zRow xM 166 125 = some (3, .iload_n 2, 126, 2, 0) := rfl
theorem zr_166_126 : zRp 166 126 127 (0, 0) := ⟨_, _, _, _, rfl, by decide, Option.some_ne_none _, rfl⟩
theorem zr_166_127 : zRow xM 166 127 = some (105, .invokevirtual 76, 130, 144, 9) := rfl
theorem zr_166_130 : zRow xM 166 130 = some (49, .iastore, 131, 0, 0) := rfl
theorem zr_166_131 : zRow xM 166 131 = some (110, .return_, 132, 0, 0) := rfl
theorem zm_167 : zMt xM 167 = some (4, none, 3, 0, 0) := rfl
theorem zr_167_0 : zRow xM 167 0 = some (7, .aload_n 0, 1, 0, 0) := rfl
theorem zr_167_1 : zRow xM 167 1 = some (3, .iload_n 1, 2, 1, 0) := rfl
theorem zr_167_2 : zRow xM 167 2 = some (105, .invokevirtual 172, 5, 164, 9) := rfl
theorem zr_167_5 : zRp 167 5 6 (0, 0) := ⟨_, _, _, _, rfl, by decide, Option.some_ne_none _, rfl⟩
theorem zr_167_6 : zRow xM 167 6 = some (9, .istore_n 3, 7, 3, 0) := rfl
theorem zr_167_7 : zRow xM 167 7 = some (3, .iload_n 3, 8, 3, 0) := rfl
theorem zr_167_8 : zRow xM 167 8 = some (7, .aload_n 0, 9, 0, 0) := rfl
theorem zr_167_9 : zRow xM 167 9 = some (105, .invokevirtual 73, 12, 142, 9) := rfl
theorem zr_167_12 : zRow xM 167 12 = some (41, .if_icmp .ge 25, 15, 37, 3) := rfl
theorem zr_167_15 : zRow xM 167 15 = some (7, .aload_n 0, 16, 0, 0) := rfl
theorem zr_167_16 : zRow xM 167 16 = some (3, .iload_n 3, 17, 3, 0) := rfl
theorem zr_167_17 : zRp 167 17 18 (0, 0) := ⟨_, _, _, _, rfl, by decide, Option.some_ne_none _, rfl⟩
theorem zr_167_18 : zRow xM 167 18 = some (105, .invokevirtual 76, 21, 144, 9) := rfl
theorem zr_167_21 : zRow xM 167 21 = some (3, .iload_n 2, 22, 2, 0) := rfl
theorem zr_167_22 : zRow xM 167 22 = some (41, .if_icmp .gt 15, 25, 37, 2) := rfl
theorem zr_167_25 : zRow xM 167 25 = some (7, .aload_n 0, 26, 0, 0) := rfl
theorem zr_167_26 : zRow xM 167 26 = some (3, .iload_n 1, 27, 1, 0) := rfl
theorem zr_167_27 : zRow xM 167 27 = some (3, .iload_n 3, 28, 3, 0) := rfl
theorem zr_167_28 : zRow xM 167 28 = some (105, .invokevirtual 175, 31, 166, 9) := rfl
theorem zr_167_31 : zRow xM 167 31 = some (15, .iinc 3 1, 34, 3, 1) := rfl
theorem zr_167_34 : zRow xM 167 34 = some (42, .goto (-27), 35, 7, 0) := rfl
theorem zr_167_37 : zRow xM 167 37 = some (110, .return_, 38, 0, 0) := rfl
theorem zm_168 : zMt xM 168 = some (5, (some .int), 4, 0, 0) := rfl
theorem zr_168_0 : zRow xM 168 0 = some (3, .iload_n 1, 1, 1, 0) := rfl
theorem zr_168_1 : zRow xM 168 1 = some (107, .invokestatic 88, 4, 148, 0) := rfl
theorem zr_168_4 : zRow xM 168 4 = some (40, .ifCond .eq 25, 7, 29, 1) := rfl
theorem zr_168_7 : zRow xM 168 7 = some (7, .aload_n 0, 8, 0, 0) := rfl
theorem zr_168_8 : zRow xM 168 8 = some (3, .iload_n 2, 9, 2, 0) := rfl
theorem zr_168_9 : zRow xM 168 9 = some (105, .invokevirtual 80, 12, 143, 9) := rfl
theorem zr_168_12 : zRow xM 168 12 = some (40, .ifCond .eq 17, 15, 29, 1) := rfl
theorem zr_168_15 : zRow xM 168 15 = some (3, .iload_n 3, 16, 3, 0) := rfl
theorem zr_168_16 : zRow xM 168 16 = some (36, .i2l, 17, 0, 0) := rfl
theorem zr_168_17 : zRp 168 17 18 (1, 0) := ⟨_, _, _, _, rfl, by decide, Option.some_ne_none _, rfl⟩
theorem zr_168_18 : zRow xM 168 18 = some (7, .aload_n 0, 19, 0, 0) := rfl
theorem zr_168_19 : zRow xM 168 19 = some (105, .invokevirtual 73, 22, 142, 9) := rfl
theorem zr_168_22 : zRow xM 168 22 = some (36, .i2l, 23, 0, 0) := rfl
theorem zr_168_23 : zRow xM 168 23 = some (107, .invokestatic 65, 26, 140, 0) := rfl
theorem zr_168_26 : zRow xM 168 26 = some (40, .ifCond .ne 6, 29, 32, 4) := rfl
theorem zr_168_29 : zRp 168 29 31 (0, -100000) := ⟨_, _, _, _, rfl, by decide, Option.some_ne_none _, rfl⟩
theorem zr_168_31 : zRow xM 168 31 = some (108, .ireturn, 32, 0, 0) := rfl
theorem zr_168_32 : zRow xM 168 32 = some (7, .aload_n 0, 33, 0, 0) := rfl
theorem zr_168_33 : zRow xM 168 33 = some (3, .iload_n 1, 34, 1, 0) := rfl
theorem zr_168_34 : zRow xM 168 34 = some (105, .invokevirtual 172, 37, 164, 9) := rfl
theorem zr_168_37 : zRp 168 37 38 (0, 0) := ⟨_, _, _, _, rfl, by decide, Option.some_ne_none _, rfl⟩
theorem zr_168_38 : zRow xM 168 38 = some (10, .istore 4, 40, 4, 0) := rfl
theorem zr_168_40 : zRow xM 168 40 = some (4, .iload 4, 42, 4, 0) := rfl
theorem zr_168_42 : zRow xM 168 42 = some (3, .iload_n 3, 43, 3, 0) := rfl
theorem zr_168_43 : zRow xM 168 43 = some (41, .if_icmp .ge 16, 46, 59, 3) := rfl
theorem zr_168_46 : zRow xM 168 46 = some (7, .aload_n 0, 47, 0, 0) := rfl
theorem zr_168_47 : zRow xM 168 47 = some (3, .iload_n 1, 48, 1, 0) := rfl
theorem zr_168_48 : zRow xM 168 48 = some (4, .iload 4, 50, 4, 0) := rfl
theorem zr_168_50 : zRow xM 168 50 = some (105, .invokevirtual 175, 53, 166, 9) := rfl
theorem zr_168_53 : zRow xM 168 53 = some (15, .iinc 4 1, 56, 4, 1) := rfl
theorem zr_168_56 : zRow xM 168 56 = some (42, .goto (-16), 57, 40, 0) := rfl
theorem zr_168_59 : zRow xM 168 59 = some (7, .aload_n 0, 60, 0, 0) := rfl
theorem zr_168_60 : zRow xM 168 60 = some (46, .getfield 34, 63, 9, 14) := rfl
theorem zr_168_63 : zRow xM 168 63 = some (3, .iload_n 2, 64, 2, 0) := rfl
theorem zr_168_64 : zRow xM 168 64 = some (48, .iaload, 65, 0, 0) := rfl
theorem zr_168_65 : zRow xM 168 65 = some (108, .ireturn, 66, 0, 0) := rfl
theorem zm_169 : zMt xM 169 = some (1, (some .boolean), 1, 0, 0) := rfl
theorem zr_169_0 : zRow xM 169 0 = some (3, .iload_n 0, 1, 0, 0) := rfl
theorem zr_169_1 : zRow xM 169 1 = some (36, .i2l, 2, 0, 0) := rfl
theorem zr_169_2 : zRp 169 2 3 (1, 0) := ⟨_, _, _, _, rfl, by decide, Option.some_ne_none _, rfl⟩
theorem zr_169_3 : zRp 169 3 6 (1, 99) := ⟨_, _, _, _, rfl, by decide, Option.some_ne_none _, rfl⟩
theorem zr_169_6 : zRow xM 169 6 = some (107, .invokestatic 65, 9, 140, 0) := rfl
theorem zr_169_9 : zRow xM 169 9 = some (108, .ireturn, 10, 0, 0) := rfl
theorem zm_170 : zMt xM 170 = some (5, (some .int), 3, 0, 0) := rfl
theorem zr_170_0 : zRow xM 170 0 = some (3, .iload_n 1, 1, 1, 0) := rfl
theorem zr_170_1 : zRow xM 170 1 = some (107, .invokestatic 88, 4, 148, 0) := rfl
theorem zr_170_4 : zRow xM 170 4 = some (40, .ifCond .eq 10, 7, 14, 1) := rfl
theorem zr_170_7 : zRow xM 170 7 = some (3, .iload_n 2, 8, 2, 0) := rfl
theorem zr_170_8 : zRow xM 170 8 = some (107, .invokestatic 180, 11, 169, 0) := rfl
theorem zr_170_11 : zRow xM 170 11 = some (40, .ifCond .ne 6, 14, 17, 4) := rfl
theorem zr_170_14 : zRp 170 14 16 (0, -100000) := ⟨_, _, _, _, rfl, by decide, Option.some_ne_none _, rfl⟩
theorem zr_170_16 : zRow xM 170 16 = some (108, .ireturn, 17, 0, 0) := rfl
theorem zr_170_17 : zRow xM 170 17 = some (7, .aload_n 0, 18, 0, 0) := rfl
theorem zr_170_18 : zRow xM 170 18 = some (3, .iload_n 1, 19, 1, 0) := rfl
theorem zr_170_19 : zRow xM 170 19 = some (105, .invokevirtual 172, 22, 164, 9) := rfl
theorem zr_170_22 : zRp 170 22 23 (0, 0) := ⟨_, _, _, _, rfl, by decide, Option.some_ne_none _, rfl⟩
theorem zr_170_23 : zRow xM 170 23 = some (9, .istore_n 3, 24, 3, 0) := rfl
theorem zr_170_24 : zRp 170 24 25 (0, 0) := ⟨_, _, _, _, rfl, by decide, Option.some_ne_none _, rfl⟩
theorem zr_170_25 : zRow xM 170 25 = some (10, .istore 4, 27, 4, 0) := rfl
theorem zr_170_27 : zRow xM 170 27 = some (4, .iload 4, 29, 4, 0) := rfl
theorem zr_170_29 : zRow xM 170 29 = some (7, .aload_n 0, 30, 0, 0) := rfl
theorem zr_170_30 : zRow xM 170 30 = some (105, .invokevirtual 73, 33, 142, 9) := rfl
theorem zr_170_33 : zRow xM 170 33 = some (41, .if_icmp .ge 43, 36, 76, 3) := rfl
theorem zr_170_36 : zRow xM 170 36 = some (7, .aload_n 0, 37, 0, 0) := rfl
theorem zr_170_37 : zRow xM 170 37 = some (3, .iload_n 1, 38, 1, 0) := rfl
theorem zr_170_38 : zRow xM 170 38 = some (4, .iload 4, 40, 4, 0) := rfl
theorem zr_170_40 : zRow xM 170 40 = some (105, .invokevirtual 175, 43, 166, 9) := rfl
theorem zr_170_43 : zRow xM 170 43 = some (3, .iload_n 3, 44, 3, 0) := rfl
theorem zr_170_44 : zRow xM 170 44 = some (7, .aload_n 0, 45, 0, 0) := rfl
theorem zr_170_45 : zRow xM 170 45 = some (4, .iload 4, 47, 4, 0) := rfl
theorem zr_170_47 : zRp 170 47 48 (0, 0) := ⟨_, _, _, _, rfl, by decide, Option.some_ne_none _, rfl⟩
theorem zr_170_48 : zRow xM 170 48 = some (105, .invokevirtual 76, 51, 144, 9) := rfl
theorem zr_170_51 : zRow xM 170 51 = some (3, .iload_n 2, 52, 2, 0) := rfl
theorem zr_170_52 : zRow xM 170 52 = some (41, .if_icmp .ne 15, 55, 67, 4) := rfl
theorem zr_170_55 : zRow xM 170 55 = some (7, .aload_n 0, 56, 0, 0) := rfl
theorem zr_170_56 : zRow xM 170 56 = some (46, .getfield 166, 59, 9, 17) := rfl
theorem zr_170_59 : zRow xM 170 59 = some (7, .aload_n 0, 60, 0, 0) := rfl
theorem zr_170_60 : zRow xM 170 60 = some (46, .getfield 169, 63, 9, 18) := rfl
theorem zr_170_63 : zRow xM 170 63 = some (16, .iadd, 64, 0, 0) := rfl
theorem zr_170_64 : zRow xM 170 64 = some (42, .goto 4, 65, 68, 0) := rfl
theorem zr_170_67 : zRp 170 67 68 (0, 0) := ⟨_, _, _, _, rfl, by decide, Option.some_ne_none _, rfl⟩
theorem zr_170_68 : zRow xM 170 68 = some (16, .iadd, 69, 0, 0) := rfl
theorem zr_170_69 : zRow xM 170 69 = some (9, .istore_n 3, 70, 3, 0) := rfl
theorem zr_170_70 : zRow xM 170 70 = some (15, .iinc 4 1, 73, 4, 1) := rfl
theorem zr_170_73 : zRow xM 170 73 = some (42, .goto (-46), 74, 27, 0) := rfl
theorem zr_170_76 : zRow xM 170 76 = some (3, .iload_n 3, 77, 3, 0) := rfl
theorem zr_170_77 : zRow xM 170 77 = some (108, .ireturn, 78, 0, 0) := rfl
theorem zm_171 : zMt xM 171 = some (3, (some .boolean), 3, 0, 0) := rfl
theorem zr_171_0 : zRow xM 171 0 = some (7, .aload_n 0, 1, 0, 0) := rfl
theorem zr_171_1 : zRow xM 171 1 = some (3, .iload_n 1, 2, 1, 0) := rfl
theorem zr_171_2 : zRp 171 2 3 (0, 1) := ⟨_, _, _, _, rfl, by decide, Option.some_ne_none _, rfl⟩
theorem zr_171_3 : zRow xM 171 3 = some (105, .invokevirtual 76, 6, 144, 9) := rfl
theorem zr_171_6 : zRow xM 171 6 = some (3, .iload_n 2, 7, 2, 0) := rfl
theorem zr_171_7 : zRow xM 171 7 = some (41, .if_icmp .eq 13, 10, 20, 1) := rfl
theorem zr_171_10 : zRow xM 171 10 = some (7, .aload_n 0, 11, 0, 0) := rfl
theorem zr_171_11 : zRow xM 171 11 = some (3, .iload_n 1, 12, 1, 0) := rfl
theorem zr_171_12 : zRp 171 12 13 (0, 2) := ⟨_, _, _, _, rfl, by decide, Option.some_ne_none _, rfl⟩
theorem zr_171_13 : zRow xM 171 13 = some (105, .invokevirtual 76, 16, 144, 9) := rfl
theorem zr_171_16 : zRow xM 171 16 = some (3, .iload_n 2, 17, 2, 0) := rfl
theorem zr_171_17 : zRow xM 171 17 = some (41, .if_icmp .ne 7, 20, 24, 4) := rfl
theorem zr_171_20 : zRp 171 20 21 (0, 1) := ⟨_, _, _, _, rfl, by decide, Option.some_ne_none _, rfl⟩
theorem zr_171_21 : zRow xM 171 21 = some (42, .goto 4, 22, 25, 0) := rfl
theorem zr_171_24 : zRp 171 24 25 (0, 0) := ⟨_, _, _, _, rfl, by decide, Option.some_ne_none _, rfl⟩
theorem zr_171_25 : zRow xM 171 25 = some (108, .ireturn, 26, 0, 0) := rfl
theorem zm_172 : zMt xM 172 = some (5, (some .boolean), 3, 0, 0) := rfl
theorem zr_172_0 : zRp 172 0 1 (0, 0) := ⟨_, _, _, _, rfl, by decide, Option.some_ne_none _, rfl⟩
theorem zr_172_1 : zRow xM 172 1 = some (9, .istore_n 3, 2, 3, 0) := rfl
theorem zr_172_2 : zRp 172 2 3 (0, 0) := ⟨_, _, _, _, rfl, by decide, Option.some_ne_none _, rfl⟩
theorem zr_172_3 : zRow xM 172 3 = some (10, .istore 4, 5, 4, 0) := rfl
theorem zr_172_5 : zRow xM 172 5 = some (4, .iload 4, 7, 4, 0) := rfl
theorem zr_172_7 : zRow xM 172 7 = some (7, .aload_n 0, 8, 0, 0) := rfl
theorem zr_172_8 : zRow xM 172 8 = some (105, .invokevirtual 73, 11, 142, 9) := rfl
theorem zr_172_11 : zRow xM 172 11 = some (41, .if_icmp .ge 40, 14, 51, 3) := rfl
theorem zr_172_14 : zRow xM 172 14 = some (3, .iload_n 3, 15, 3, 0) := rfl
theorem zr_172_15 : zRow xM 172 15 = some (40, .ifCond .ne 24, 18, 39, 4) := rfl
theorem zr_172_18 : zRow xM 172 18 = some (7, .aload_n 0, 19, 0, 0) := rfl
theorem zr_172_19 : zRow xM 172 19 = some (4, .iload 4, 21, 4, 0) := rfl
theorem zr_172_21 : zRp 172 21 22 (0, 0) := ⟨_, _, _, _, rfl, by decide, Option.some_ne_none _, rfl⟩
theorem zr_172_22 : zRow xM 172 22 = some (105, .invokevirtual 76, 25, 144, 9) := rfl
theorem zr_172_25 : zRow xM 172 25 = some (3, .iload_n 2, 26, 2, 0) := rfl
theorem zr_172_26 : zRow xM 172 26 = some (41, .if_icmp .ne 17, 29, 43, 4) := rfl
theorem zr_172_29 : zRow xM 172 29 = some (7, .aload_n 0, 30, 0, 0) := rfl
theorem zr_172_30 : zRow xM 172 30 = some (4, .iload 4, 32, 4, 0) := rfl
theorem zr_172_32 : zRow xM 172 32 = some (3, .iload_n 1, 33, 1, 0) := rfl
theorem zr_172_33 : zRow xM 172 33 = some (105, .invokevirtual 183, 36, 171, 9) := rfl
theorem zr_172_36 : zRow xM 172 36 = some (40, .ifCond .eq 7, 39, 43, 1) := rfl
theorem zr_172_39 : zRp 172 39 40 (0, 1) := ⟨_, _, _, _, rfl, by decide, Option.some_ne_none _, rfl⟩
theorem zr_172_40 : zRow xM 172 40 = some (42, .goto 4, 41, 44, 0) := rfl
theorem zr_172_43 : zRp 172 43 44 (0, 0) := ⟨_, _, _, _, rfl, by decide, Option.some_ne_none _, rfl⟩
theorem zr_172_44 : zRow xM 172 44 = some (9, .istore_n 3, 45, 3, 0) := rfl
theorem zr_172_45 : zRow xM 172 45 = some (15, .iinc 4 1, 48, 4, 1) := rfl
theorem zr_172_48 : zRow xM 172 48 = some (42, .goto (-43), 49, 5, 0) := rfl
theorem zr_172_51 : zRow xM 172 51 = some (3, .iload_n 3, 52, 3, 0) := rfl
theorem zr_172_52 : zRow xM 172 52 = some (108, .ireturn, 53, 0, 0) := rfl
theorem zm_173 : zMt xM 173 = some (11, none, 3, 0, 0) := rfl
theorem zr_173_0 : zRow xM 173 0 = some (5, .lload_n 1, 1, 1, 0) := rfl
theorem zr_173_1 : zRp 173 1 2 (1, 0) := ⟨_, _, _, _, rfl, by decide, Option.some_ne_none _, rfl⟩
theorem zr_173_2 : zRow xM 173 2 = some (39, .lcmp, 3, 0, 0) := rfl
theorem zr_173_3 : zRow xM 173 3 = some (40, .ifCond .ge 8, 6, 11, 3) := rfl
theorem zr_173_6 : zRow xM 173 6 = some (5, .lload_n 1, 7, 1, 0) := rfl
theorem zr_173_7 : zRow xM 173 7 = some (117, .lneg, 8, 0, 0) := rfl
theorem zr_173_8 : zRow xM 173 8 = some (42, .goto 4, 9, 12, 0) := rfl
theorem zr_173_11 : zRow xM 173 11 = some (5, .lload_n 1, 12, 1, 0) := rfl
theorem zr_173_12 : zRow xM 173 12 = some (14, .lstore 5, 14, 5, 0) := rfl
theorem zr_173_14 : zRow xM 173 14 = some (5, .lload_n 3, 15, 3, 0) := rfl
theorem zr_173_15 : zRow xM 173 15 = some (14, .lstore 7, 17, 7, 0) := rfl
theorem zr_173_17 : zRow xM 173 17 = some (6, .lload 7, 19, 7, 0) := rfl
theorem zr_173_19 : zRp 173 19 20 (1, 0) := ⟨_, _, _, _, rfl, by decide, Option.some_ne_none _, rfl⟩
theorem zr_173_20 : zRow xM 173 20 = some (39, .lcmp, 21, 0, 0) := rfl
theorem zr_173_21 : zRow xM 173 21 = some (40, .ifCond .eq 21, 24, 42, 1) := rfl
theorem zr_173_24 : zRow xM 173 24 = some (6, .lload 5, 26, 5, 0) := rfl
theorem zr_173_26 : zRow xM 173 26 = some (6, .lload 7, 28, 7, 0) := rfl
theorem zr_173_28 : zRow xM 173 28 = some (119, .lrem, 29, 0, 0) := rfl
theorem zr_173_29 : zRow xM 173 29 = some (14, .lstore 9, 31, 9, 0) := rfl
theorem zr_173_31 : zRow xM 173 31 = some (6, .lload 7, 33, 7, 0) := rfl
theorem zr_173_33 : zRow xM 173 33 = some (14, .lstore 5, 35, 5, 0) := rfl
theorem zr_173_35 : zRow xM 173 35 = some (6, .lload 9, 37, 9, 0) := rfl
theorem zr_173_37 : zRow xM 173 37 = some (14, .lstore 7, 39, 7, 0) := rfl
theorem zr_173_39 : zRow xM 173 39 = some (42, .goto (-22), 40, 17, 0) := rfl
theorem zr_173_42 : zRow xM 173 42 = some (7, .aload_n 0, 43, 0, 0) := rfl
theorem zr_173_43 : zRow xM 173 43 = some (5, .lload_n 1, 44, 1, 0) := rfl
theorem zr_173_44 : zRow xM 173 44 = some (6, .lload 5, 46, 5, 0) := rfl
theorem zr_173_46 : zRow xM 173 46 = some (118, .ldiv, 47, 0, 0) := rfl
theorem zr_173_47 : zRow xM 173 47 = some (47, .putfield 187, 50, 9, 3) := rfl
theorem zr_173_50 : zRow xM 173 50 = some (7, .aload_n 0, 51, 0, 0) := rfl
theorem zr_173_51 : zRow xM 173 51 = some (5, .lload_n 3, 52, 3, 0) := rfl
theorem zr_173_52 : zRow xM 173 52 = some (6, .lload 5, 54, 5, 0) := rfl
theorem zr_173_54 : zRow xM 173 54 = some (118, .ldiv, 55, 0, 0) := rfl
theorem zr_173_55 : zRow xM 173 55 = some (47, .putfield 20, 58, 9, 4) := rfl
theorem zr_173_58 : zRow xM 173 58 = some (110, .return_, 59, 0, 0) := rfl
theorem zm_174 : zMt xM 174 = some (8, (some .int), 4, 0, 0) := rfl
theorem zr_174_0 : zRow xM 174 0 = some (3, .iload_n 1, 1, 1, 0) := rfl
theorem zr_174_1 : zRow xM 174 1 = some (107, .invokestatic 88, 4, 148, 0) := rfl
theorem zr_174_4 : zRow xM 174 4 = some (40, .ifCond .eq 25, 7, 29, 1) := rfl
theorem zr_174_7 : zRow xM 174 7 = some (3, .iload_n 2, 8, 2, 0) := rfl
theorem zr_174_8 : zRow xM 174 8 = some (107, .invokestatic 180, 11, 169, 0) := rfl
theorem zr_174_11 : zRow xM 174 11 = some (40, .ifCond .eq 18, 14, 29, 1) := rfl
theorem zr_174_14 : zRow xM 174 14 = some (3, .iload_n 3, 15, 3, 0) := rfl
theorem zr_174_15 : zRow xM 174 15 = some (36, .i2l, 16, 0, 0) := rfl
theorem zr_174_16 : zRow xM 174 16 = some (3, .iload_n 2, 17, 2, 0) := rfl
theorem zr_174_17 : zRow xM 174 17 = some (36, .i2l, 18, 0, 0) := rfl
theorem zr_174_18 : zRp 174 18 19 (1, 1) := ⟨_, _, _, _, rfl, by decide, Option.some_ne_none _, rfl⟩
theorem zr_174_19 : zRow xM 174 19 = some (27, .ladd, 20, 0, 0) := rfl
theorem zr_174_20 : zRp 174 20 23 (1, 99) := ⟨_, _, _, _, rfl, by decide, Option.some_ne_none _, rfl⟩
theorem zr_174_23 : zRow xM 174 23 = some (107, .invokestatic 65, 26, 140, 0) := rfl
theorem zr_174_26 : zRow xM 174 26 = some (40, .ifCond .ne 6, 29, 32, 4) := rfl
theorem zr_174_29 : zRp 174 29 31 (0, -2) := ⟨_, _, _, _, rfl, by decide, Option.some_ne_none _, rfl⟩
theorem zr_174_31 : zRow xM 174 31 = some (108, .ireturn, 32, 0, 0) := rfl
theorem zr_174_32 : zRow xM 174 32 = some (7, .aload_n 0, 33, 0, 0) := rfl
theorem zr_174_33 : zRow xM 174 33 = some (3, .iload_n 1, 34, 1, 0) := rfl
theorem zr_174_34 : zRow xM 174 34 = some (3, .iload_n 2, 35, 2, 0) := rfl
theorem zr_174_35 : zRow xM 174 35 = some (105, .invokevirtual 190, 38, 167, 9) := rfl
theorem zr_174_38 : zRp 174 38 39 (0, 0) := ⟨_, _, _, _, rfl, by decide, Option.some_ne_none _, rfl⟩
theorem zr_174_39 : zRow xM 174 39 = some (10, .istore 4, 41, 4, 0) := rfl
theorem zr_174_41 : zRow xM 174 41 = some (4, .iload 4, 43, 4, 0) := rfl
theorem zr_174_43 : zRow xM 174 43 = some (7, .aload_n 0, 44, 0, 0) := rfl
theorem zr_174_44 : zRow xM 174 44 = some (105, .invokevirtual 61, 47, 141, 9) := rfl
theorem zr_174_47 : zRow xM 174 47 = some (41, .if_icmp .ge 23, 50, 70, 3) := rfl
theorem zr_174_50 : zRow xM 174 50 = some (7, .aload_n 0, 51, 0, 0) := rfl
theorem zr_174_51 : zRow xM 174 51 = some (46, .getfield 43, 54, 9, 19) := rfl
theorem zr_174_54 : zRow xM 174 54 = some (4, .iload 4, 56, 4, 0) := rfl
theorem zr_174_56 : zRow xM 174 56 = some (7, .aload_n 0, 57, 0, 0) := rfl
theorem zr_174_57 : zRow xM 174 57 = some (46, .getfield 34, 60, 9, 14) := rfl
theorem zr_174_60 : zRow xM 174 60 = some (4, .iload 4, 62, 4, 0) := rfl
theorem zr_174_62 : zRow xM 174 62 = some (48, .iaload, 63, 0, 0) := rfl
theorem zr_174_63 : zRow xM 174 63 = some (49, .iastore, 64, 0, 0) := rfl
theorem zr_174_64 : zRow xM 174 64 = some (15, .iinc 4 1, 67, 4, 1) := rfl
theorem zr_174_67 : zRow xM 174 67 = some (42, .goto (-26), 68, 41, 0) := rfl
theorem zr_174_70 : zRow xM 174 70 = some (7, .aload_n 0, 71, 0, 0) := rfl
theorem zr_174_71 : zRow xM 174 71 = some (3, .iload_n 1, 72, 1, 0) := rfl
theorem zr_174_72 : zRow xM 174 72 = some (3, .iload_n 3, 73, 3, 0) := rfl
theorem zr_174_73 : zRow xM 174 73 = some (105, .invokevirtual 190, 76, 167, 9) := rfl
theorem zr_174_76 : zRp 174 76 77 (0, 0) := ⟨_, _, _, _, rfl, by decide, Option.some_ne_none _, rfl⟩
theorem zr_174_77 : zRow xM 174 77 = some (10, .istore 4, 79, 4, 0) := rfl
theorem zr_174_79 : zRp 174 79 80 (1, 0) := ⟨_, _, _, _, rfl, by decide, Option.some_ne_none _, rfl⟩
theorem zr_174_80 : zRow xM 174 80 = some (14, .lstore 5, 82, 5, 0) := rfl
theorem zr_174_82 : zRp 174 82 83 (0, 0) := ⟨_, _, _, _, rfl, by decide, Option.some_ne_none _, rfl⟩
theorem zr_174_83 : zRow xM 174 83 = some (10, .istore 7, 85, 7, 0) := rfl
theorem zr_174_85 : zRow xM 174 85 = some (4, .iload 7, 87, 7, 0) := rfl
theorem zr_174_87 : zRow xM 174 87 = some (7, .aload_n 0, 88, 0, 0) := rfl
theorem zr_174_88 : zRow xM 174 88 = some (105, .invokevirtual 61, 91, 141, 9) := rfl
theorem zr_174_91 : zRow xM 174 91 = some (41, .if_icmp .ge 53, 94, 144, 3) := rfl
theorem zr_174_94 : zRow xM 174 94 = some (7, .aload_n 0, 95, 0, 0) := rfl
theorem zr_174_95 : zRow xM 174 95 = some (4, .iload 7, 97, 7, 0) := rfl
theorem zr_174_97 : zRow xM 174 97 = some (3, .iload_n 2, 98, 2, 0) := rfl
theorem zr_174_98 : zRow xM 174 98 = some (105, .invokevirtual 193, 101, 172, 9) := rfl
theorem zr_174_101 : zRow xM 174 101 = some (40, .ifCond .eq 37, 104, 138, 1) := rfl
theorem zr_174_104 : zRow xM 174 104 = some (7, .aload_n 0, 105, 0, 0) := rfl
theorem zr_174_105 : zRow xM 174 105 = some (4, .iload 7, 107, 7, 0) := rfl
theorem zr_174_107 : zRow xM 174 107 = some (3, .iload_n 3, 108, 3, 0) := rfl
theorem zr_174_108 : zRow xM 174 108 = some (105, .invokevirtual 193, 111, 172, 9) := rfl
theorem zr_174_111 : zRow xM 174 111 = some (40, .ifCond .eq 27, 114, 138, 1) := rfl
theorem zr_174_114 : zRow xM 174 114 = some (15, .iinc 4 1, 117, 4, 1) := rfl
theorem zr_174_117 : zRow xM 174 117 = some (6, .lload 5, 119, 5, 0) := rfl
theorem zr_174_119 : zRow xM 174 119 = some (7, .aload_n 0, 120, 0, 0) := rfl
theorem zr_174_120 : zRow xM 174 120 = some (46, .getfield 34, 123, 9, 14) := rfl
theorem zr_174_123 : zRow xM 174 123 = some (4, .iload 7, 125, 7, 0) := rfl
theorem zr_174_125 : zRow xM 174 125 = some (48, .iaload, 126, 0, 0) := rfl
theorem zr_174_126 : zRow xM 174 126 = some (7, .aload_n 0, 127, 0, 0) := rfl
theorem zr_174_127 : zRow xM 174 127 = some (46, .getfield 43, 130, 9, 19) := rfl
theorem zr_174_130 : zRow xM 174 130 = some (4, .iload 7, 132, 7, 0) := rfl
theorem zr_174_132 : zRow xM 174 132 = some (48, .iaload, 133, 0, 0) := rfl
theorem zr_174_133 : zRow xM 174 133 = some (17, .isub, 134, 0, 0) := rfl
theorem zr_174_134 : zRow xM 174 134 = some (36, .i2l, 135, 0, 0) := rfl
theorem zr_174_135 : zRow xM 174 135 = some (27, .ladd, 136, 0, 0) := rfl
theorem zr_174_136 : zRow xM 174 136 = some (14, .lstore 5, 138, 5, 0) := rfl
theorem zr_174_138 : zRow xM 174 138 = some (15, .iinc 7 1, 141, 7, 1) := rfl
theorem zr_174_141 : zRow xM 174 141 = some (42, .goto (-56), 142, 85, 0) := rfl
theorem zr_174_144 : zRow xM 174 144 = some (4, .iload 4, 146, 4, 0) := rfl
theorem zr_174_146 : zRow xM 174 146 = some (40, .ifCond .ne 5, 149, 151, 4) := rfl
theorem zr_174_149 : zRp 174 149 150 (0, 0) := ⟨_, _, _, _, rfl, by decide, Option.some_ne_none _, rfl⟩
theorem zr_174_150 : zRow xM 174 150 = some (108, .ireturn, 151, 0, 0) := rfl
theorem zr_174_151 : zRow xM 174 151 = some (7, .aload_n 0, 152, 0, 0) := rfl
theorem zr_174_152 : zRow xM 174 152 = some (6, .lload 5, 154, 5, 0) := rfl
theorem zr_174_154 : zRow xM 174 154 = some (4, .iload 4, 156, 4, 0) := rfl
theorem zr_174_156 : zRow xM 174 156 = some (36, .i2l, 157, 0, 0) := rfl
theorem zr_174_157 : zRow xM 174 157 = some (105, .invokevirtual 196, 160, 173, 9) := rfl
theorem zr_174_160 : zRp 174 160 161 (0, 1) := ⟨_, _, _, _, rfl, by decide, Option.some_ne_none _, rfl⟩
theorem zr_174_161 : zRow xM 174 161 = some (108, .ireturn, 162, 0, 0) := rfl
theorem zm_175 : zMt xM 175 = some (6, (some .int), 4, 0, 0) := rfl
theorem zr_175_0 : zRow xM 175 0 = some (3, .iload_n 1, 1, 1, 0) := rfl
theorem zr_175_1 : zRow xM 175 1 = some (107, .invokestatic 88, 4, 148, 0) := rfl
theorem zr_175_4 : zRow xM 175 4 = some (40, .ifCond .eq 18, 7, 22, 1) := rfl
theorem zr_175_7 : zRow xM 175 7 = some (7, .aload_n 0, 8, 0, 0) := rfl
theorem zr_175_8 : zRow xM 175 8 = some (3, .iload_n 2, 9, 2, 0) := rfl
theorem zr_175_9 : zRow xM 175 9 = some (105, .invokevirtual 80, 12, 143, 9) := rfl
theorem zr_175_12 : zRow xM 175 12 = some (40, .ifCond .eq 10, 15, 22, 1) := rfl
theorem zr_175_15 : zRow xM 175 15 = some (3, .iload_n 3, 16, 3, 0) := rfl
theorem zr_175_16 : zRow xM 175 16 = some (107, .invokestatic 180, 19, 169, 0) := rfl
theorem zr_175_19 : zRow xM 175 19 = some (40, .ifCond .ne 6, 22, 25, 4) := rfl
theorem zr_175_22 : zRp 175 22 24 (0, -100000) := ⟨_, _, _, _, rfl, by decide, Option.some_ne_none _, rfl⟩
theorem zr_175_24 : zRow xM 175 24 = some (108, .ireturn, 25, 0, 0) := rfl
theorem zr_175_25 : zRow xM 175 25 = some (7, .aload_n 0, 26, 0, 0) := rfl
theorem zr_175_26 : zRow xM 175 26 = some (3, .iload_n 1, 27, 1, 0) := rfl
theorem zr_175_27 : zRp 175 27 29 (0, 99) := ⟨_, _, _, _, rfl, by decide, Option.some_ne_none _, rfl⟩
theorem zr_175_29 : zRow xM 175 29 = some (105, .invokevirtual 190, 32, 167, 9) := rfl
theorem zr_175_32 : zRow xM 175 32 = some (7, .aload_n 0, 33, 0, 0) := rfl
theorem zr_175_33 : zRow xM 175 33 = some (46, .getfield 34, 36, 9, 14) := rfl
theorem zr_175_36 : zRow xM 175 36 = some (3, .iload_n 2, 37, 2, 0) := rfl
theorem zr_175_37 : zRow xM 175 37 = some (48, .iaload, 38, 0, 0) := rfl
theorem zr_175_38 : zRow xM 175 38 = some (10, .istore 4, 40, 4, 0) := rfl
theorem zr_175_40 : zRow xM 175 40 = some (7, .aload_n 0, 41, 0, 0) := rfl
theorem zr_175_41 : zRow xM 175 41 = some (3, .iload_n 1, 42, 1, 0) := rfl
theorem zr_175_42 : zRow xM 175 42 = some (105, .invokevirtual 172, 45, 164, 9) := rfl
theorem zr_175_45 : zRp 175 45 46 (0, 0) := ⟨_, _, _, _, rfl, by decide, Option.some_ne_none _, rfl⟩
theorem zr_175_46 : zRow xM 175 46 = some (10, .istore 5, 48, 5, 0) := rfl
theorem zr_175_48 : zRow xM 175 48 = some (4, .iload 5, 50, 5, 0) := rfl
theorem zr_175_50 : zRow xM 175 50 = some (7, .aload_n 0, 51, 0, 0) := rfl
theorem zr_175_51 : zRow xM 175 51 = some (105, .invokevirtual 73, 54, 142, 9) := rfl
theorem zr_175_54 : zRow xM 175 54 = some (41, .if_icmp .ge 37, 57, 91, 3) := rfl
theorem zr_175_57 : zRow xM 175 57 = some (7, .aload_n 0, 58, 0, 0) := rfl
theorem zr_175_58 : zRow xM 175 58 = some (4, .iload 5, 60, 5, 0) := rfl
theorem zr_175_60 : zRp 175 60 61 (0, 0) := ⟨_, _, _, _, rfl, by decide, Option.some_ne_none _, rfl⟩
theorem zr_175_61 : zRow xM 175 61 = some (105, .invokevirtual 76, 64, 144, 9) := rfl
theorem zr_175_64 : zRow xM 175 64 = some (3, .iload_n 3, 65, 3, 0) := rfl
theorem zr_175_65 : zRow xM 175 65 = some (41, .if_icmp .ne 13, 68, 78, 4) := rfl
theorem zr_175_68 : zRow xM 175 68 = some (7, .aload_n 0, 69, 0, 0) := rfl
theorem zr_175_69 : zRow xM 175 69 = some (4, .iload 5, 71, 5, 0) := rfl
theorem zr_175_71 : zRow xM 175 71 = some (3, .iload_n 2, 72, 2, 0) := rfl
theorem zr_175_72 : zRow xM 175 72 = some (105, .invokevirtual 183, 75, 171, 9) := rfl
theorem zr_175_75 : zRow xM 175 75 = some (40, .ifCond .ne 10, 78, 85, 4) := rfl
theorem zr_175_78 : zRow xM 175 78 = some (7, .aload_n 0, 79, 0, 0) := rfl
theorem zr_175_79 : zRow xM 175 79 = some (3, .iload_n 1, 80, 1, 0) := rfl
theorem zr_175_80 : zRow xM 175 80 = some (4, .iload 5, 82, 5, 0) := rfl
theorem zr_175_82 : zRow xM 175 82 = some (105, .invokevirtual 175, 85, 166, 9) := rfl
theorem zr_175_85 : zRow xM 175 85 = some (15, .iinc 5 1, 88, 5, 1) := rfl
theorem zr_175_88 : zRow xM 175 88 = some (42, .goto (-40), 89, 48, 0) := rfl
theorem zr_175_91 : zRow xM 175 91 = some (7, .aload_n 0, 92, 0, 0) := rfl
theorem zr_175_92 : zRow xM 175 92 = some (46, .getfield 34, 95, 9, 14) := rfl
theorem zr_175_95 : zRow xM 175 95 = some (3, .iload_n 2, 96, 2, 0) := rfl
theorem zr_175_96 : zRow xM 175 96 = some (48, .iaload, 97, 0, 0) := rfl
theorem zr_175_97 : zRow xM 175 97 = some (4, .iload 4, 99, 4, 0) := rfl
theorem zr_175_99 : zRow xM 175 99 = some (17, .isub, 100, 0, 0) := rfl
theorem zr_175_100 : zRow xM 175 100 = some (108, .ireturn, 101, 0, 0) := rfl
theorem zm_176 : zMt xM 176 = some (6, (some .int), 2, 0, 0) := rfl
theorem zr_176_0 : zRow xM 176 0 = some (7, .aload_n 0, 1, 0, 0) := rfl
theorem zr_176_1 : zRow xM 176 1 = some (3, .iload_n 1, 2, 1, 0) := rfl
theorem zr_176_2 : zRow xM 176 2 = some (105, .invokevirtual 172, 5, 164, 9) := rfl
theorem zr_176_5 : zRp 176 5 6 (0, 0) := ⟨_, _, _, _, rfl, by decide, Option.some_ne_none _, rfl⟩
theorem zr_176_6 : zRow xM 176 6 = some (9, .istore_n 2, 7, 2, 0) := rfl
theorem zr_176_7 : zRp 176 7 8 (0, 0) := ⟨_, _, _, _, rfl, by decide, Option.some_ne_none _, rfl⟩
theorem zr_176_8 : zRow xM 176 8 = some (9, .istore_n 3, 9, 3, 0) := rfl
theorem zr_176_9 : zRow xM 176 9 = some (3, .iload_n 3, 10, 3, 0) := rfl
theorem zr_176_10 : zRow xM 176 10 = some (7, .aload_n 0, 11, 0, 0) := rfl
theorem zr_176_11 : zRow xM 176 11 = some (105, .invokevirtual 73, 14, 142, 9) := rfl
theorem zr_176_14 : zRow xM 176 14 = some (41, .if_icmp .ge 115, 17, 129, 3) := rfl
theorem zr_176_17 : zRow xM 176 17 = some (7, .aload_n 0, 18, 0, 0) := rfl
theorem zr_176_18 : zRow xM 176 18 = some (46, .getfield 34, 21, 9, 14) := rfl
theorem zr_176_21 : zRow xM 176 21 = some (7, .aload_n 0, 22, 0, 0) := rfl
theorem zr_176_22 : zRow xM 176 22 = some (3, .iload_n 3, 23, 3, 0) := rfl
theorem zr_176_23 : zRp 176 23 24 (0, 1) := ⟨_, _, _, _, rfl, by decide, Option.some_ne_none _, rfl⟩
theorem zr_176_24 : zRow xM 176 24 = some (105, .invokevirtual 76, 27, 144, 9) := rfl
theorem zr_176_27 : zRow xM 176 27 = some (48, .iaload, 28, 0, 0) := rfl
theorem zr_176_28 : zRow xM 176 28 = some (7, .aload_n 0, 29, 0, 0) := rfl
theorem zr_176_29 : zRow xM 176 29 = some (46, .getfield 34, 32, 9, 14) := rfl
theorem zr_176_32 : zRow xM 176 32 = some (7, .aload_n 0, 33, 0, 0) := rfl
theorem zr_176_33 : zRow xM 176 33 = some (3, .iload_n 3, 34, 3, 0) := rfl
theorem zr_176_34 : zRp 176 34 35 (0, 2) := ⟨_, _, _, _, rfl, by decide, Option.some_ne_none _, rfl⟩
theorem zr_176_35 : zRow xM 176 35 = some (105, .invokevirtual 76, 38, 144, 9) := rfl
theorem zr_176_38 : zRow xM 176 38 = some (48, .iaload, 39, 0, 0) := rfl
theorem zr_176_39 : zRow xM 176 39 = some (17, .isub, 40, 0, 0) := rfl
theorem zr_176_40 : zRow xM 176 40 = some (10, .istore 4, 42, 4, 0) := rfl
theorem zr_176_42 : zRow xM 176 42 = some (7, .aload_n 0, 43, 0, 0) := rfl
theorem zr_176_43 : zRow xM 176 43 = some (3, .iload_n 3, 44, 3, 0) := rfl
theorem zr_176_44 : zRp 176 44 45 (0, 3) := ⟨_, _, _, _, rfl, by decide, Option.some_ne_none _, rfl⟩
theorem zr_176_45 : zRow xM 176 45 = some (105, .invokevirtual 76, 48, 144, 9) := rfl
theorem zr_176_48 : zRow xM 176 48 = some (10, .istore 5, 50, 5, 0) := rfl
theorem zr_176_50 : zRow xM 176 50 = some (7, .aload_n 0, 51, 0, 0) := rfl
theorem zr_176_51 : zRow xM 176 51 = some (3, .iload_n 3, 52, 3, 0) := rfl
theorem zr_176_52 : zRp 176 52 53 (0, 4) := ⟨_, _, _, _, rfl, by decide, Option.some_ne_none _, rfl⟩
theorem zr_176_53 : zRow xM 176 53 = some (105, .invokevirtual 76, 56, 144, 9) := rfl
theorem zr_176_56 : zRow xM 176 56 = some (40, .ifCond .ne 61, 59, 117, 4) := rfl
theorem zr_176_59 : zRow xM 176 59 = some (3, .iload_n 2, 60, 2, 0) := rfl
theorem zr_176_60 : zRow xM 176 60 = some (4, .iload 5, 62, 5, 0) := rfl
theorem zr_176_62 : zRp 176 62 63 (0, 1) := ⟨_, _, _, _, rfl, by decide, Option.some_ne_none _, rfl⟩
theorem zr_176_63 : zRow xM 176 63 = some (41, .if_icmp .ne 26, 66, 89, 4) := rfl
theorem zr_176_66 : zRow xM 176 66 = some (4, .iload 4, 68, 4, 0) := rfl
theorem zr_176_68 : zRow xM 176 68 = some (36, .i2l, 69, 0, 0) := rfl
theorem zr_176_69 : zRp 176 69 72 (1, -50) := ⟨_, _, _, _, rfl, by decide, Option.some_ne_none _, rfl⟩
theorem zr_176_72 : zRp 176 72 75 (1, 50) := ⟨_, _, _, _, rfl, by decide, Option.some_ne_none _, rfl⟩
theorem zr_176_75 : zRow xM 176 75 = some (107, .invokestatic 65, 78, 140, 0) := rfl
theorem zr_176_78 : zRow xM 176 78 = some (40, .ifCond .eq 7, 81, 85, 1) := rfl
theorem zr_176_81 : zRp 176 81 82 (0, 1) := ⟨_, _, _, _, rfl, by decide, Option.some_ne_none _, rfl⟩
theorem zr_176_82 : zRow xM 176 82 = some (42, .goto 33, 83, 115, 0) := rfl
theorem zr_176_85 : zRp 176 85 86 (0, 0) := ⟨_, _, _, _, rfl, by decide, Option.some_ne_none _, rfl⟩
theorem zr_176_86 : zRow xM 176 86 = some (42, .goto 29, 87, 115, 0) := rfl
theorem zr_176_89 : zRow xM 176 89 = some (4, .iload 5, 91, 5, 0) := rfl
theorem zr_176_91 : zRp 176 91 92 (0, 2) := ⟨_, _, _, _, rfl, by decide, Option.some_ne_none _, rfl⟩
theorem zr_176_92 : zRow xM 176 92 = some (41, .if_icmp .ne 8, 95, 100, 4) := rfl
theorem zr_176_95 : zRow xM 176 95 = some (4, .iload 4, 97, 4, 0) := rfl
theorem zr_176_97 : zRow xM 176 97 = some (40, .ifCond .gt 13, 100, 110, 2) := rfl
theorem zr_176_100 : zRow xM 176 100 = some (4, .iload 5, 102, 5, 0) := rfl
theorem zr_176_102 : zRow xM 176 102 = some (40, .ifCond .ne 12, 105, 114, 4) := rfl
theorem zr_176_105 : zRow xM 176 105 = some (4, .iload 4, 107, 4, 0) := rfl
theorem zr_176_107 : zRow xM 176 107 = some (40, .ifCond .ge 7, 110, 114, 3) := rfl
theorem zr_176_110 : zRp 176 110 111 (0, 2) := ⟨_, _, _, _, rfl, by decide, Option.some_ne_none _, rfl⟩
theorem zr_176_111 : zRow xM 176 111 = some (42, .goto 4, 112, 115, 0) := rfl
theorem zr_176_114 : zRp 176 114 115 (0, 0) := ⟨_, _, _, _, rfl, by decide, Option.some_ne_none _, rfl⟩
theorem zr_176_115 : zRow xM 176 115 = some (16, .iadd, 116, 0, 0) := rfl
theorem zr_176_116 : zRow xM 176 116 = some (9, .istore_n 2, 117, 2, 0) := rfl
theorem zr_176_117 : zRow xM 176 117 = some (7, .aload_n 0, 118, 0, 0) := rfl
theorem zr_176_118 : zRow xM 176 118 = some (3, .iload_n 1, 119, 1, 0) := rfl
theorem zr_176_119 : zRow xM 176 119 = some (3, .iload_n 3, 120, 3, 0) := rfl
theorem zr_176_120 : zRow xM 176 120 = some (105, .invokevirtual 175, 123, 166, 9) := rfl
theorem zr_176_123 : zRow xM 176 123 = some (15, .iinc 3 1, 126, 3, 1) := rfl
theorem zr_176_126 : zRow xM 176 126 = some (42, .goto (-117), 127, 9, 0) := rfl
theorem zr_176_129 : zRow xM 176 129 = some (3, .iload_n 2, 130, 2, 0) := rfl
theorem zr_176_130 : zRow xM 176 130 = some (108, .ireturn, 131, 0, 0) := rfl
theorem zm_177 : zMt xM 177 = some (2, (some .int), 2, 0, 0) := rfl
theorem zr_177_0 : zRow xM 177 0 = some (3, .iload_n 1, 1, 1, 0) := rfl
theorem zr_177_1 : zRow xM 177 1 = some (107, .invokestatic 88, 4, 148, 0) := rfl
theorem zr_177_4 : zRow xM 177 4 = some (40, .ifCond .eq 11, 7, 15, 1) := rfl
theorem zr_177_7 : zRow xM 177 7 = some (7, .aload_n 0, 8, 0, 0) := rfl
theorem zr_177_8 : zRow xM 177 8 = some (3, .iload_n 1, 9, 1, 0) := rfl
theorem zr_177_9 : zRow xM 177 9 = some (105, .invokevirtual 204, 12, 176, 9) := rfl
theorem zr_177_12 : zRow xM 177 12 = some (42, .goto 5, 13, 17, 0) := rfl
theorem zr_177_15 : zRp 177 15 17 (0, -2) := ⟨_, _, _, _, rfl, by decide, Option.some_ne_none _, rfl⟩
theorem zr_177_17 : zRow xM 177 17 = some (108, .ireturn, 18, 0, 0) := rfl
theorem zm_178 : zMt xM 178 = some (5, (some .int), 1, 0, 0) := rfl
theorem zr_178_0 : zRp 178 0 1 (0, -1) := ⟨_, _, _, _, rfl, by decide, Option.some_ne_none _, rfl⟩
theorem zr_178_1 : zRow xM 178 1 = some (9, .istore_n 1, 2, 1, 0) := rfl
theorem zr_178_2 : zRp 178 2 3 (0, 0) := ⟨_, _, _, _, rfl, by decide, Option.some_ne_none _, rfl⟩
theorem zr_178_3 : zRow xM 178 3 = some (9, .istore_n 2, 4, 2, 0) := rfl
theorem zr_178_4 : zRp 178 4 5 (0, 0) := ⟨_, _, _, _, rfl, by decide, Option.some_ne_none _, rfl⟩
theorem zr_178_5 : zRow xM 178 5 = some (9, .istore_n 3, 6, 3, 0) := rfl
theorem zr_178_6 : zRow xM 178 6 = some (3, .iload_n 3, 7, 3, 0) := rfl
theorem zr_178_7 : zRp 178 7 8 (0, 4) := ⟨_, _, _, _, rfl, by decide, Option.some_ne_none _, rfl⟩
theorem zr_178_8 : zRow xM 178 8 = some (41, .if_icmp .ge 40, 11, 48, 3) := rfl
theorem zr_178_11 : zRow xM 178 11 = some (7, .aload_n 0, 12, 0, 0) := rfl
theorem zr_178_12 : zRow xM 178 12 = some (3, .iload_n 3, 13, 3, 0) := rfl
theorem zr_178_13 : zRow xM 178 13 = some (105, .invokevirtual 155, 16, 162, 9) := rfl
theorem zr_178_16 : zRow xM 178 16 = some (40, .ifCond .eq 26, 19, 42, 1) := rfl
theorem zr_178_19 : zRow xM 178 19 = some (7, .aload_n 0, 20, 0, 0) := rfl
theorem zr_178_20 : zRow xM 178 20 = some (3, .iload_n 3, 21, 3, 0) := rfl
theorem zr_178_21 : zRow xM 178 21 = some (105, .invokevirtual 204, 24, 176, 9) := rfl
theorem zr_178_24 : zRow xM 178 24 = some (10, .istore 4, 26, 4, 0) := rfl
theorem zr_178_26 : zRow xM 178 26 = some (3, .iload_n 1, 27, 1, 0) := rfl
theorem zr_178_27 : zRp 178 27 28 (0, -1) := ⟨_, _, _, _, rfl, by decide, Option.some_ne_none _, rfl⟩
theorem zr_178_28 : zRow xM 178 28 = some (41, .if_icmp .eq 9, 31, 37, 1) := rfl
theorem zr_178_31 : zRow xM 178 31 = some (4, .iload 4, 33, 4, 0) := rfl
theorem zr_178_33 : zRow xM 178 33 = some (3, .iload_n 2, 34, 2, 0) := rfl
theorem zr_178_34 : zRow xM 178 34 = some (41, .if_icmp .le 8, 37, 42, 5) := rfl
theorem zr_178_37 : zRow xM 178 37 = some (3, .iload_n 3, 38, 3, 0) := rfl
theorem zr_178_38 : zRow xM 178 38 = some (9, .istore_n 1, 39, 1, 0) := rfl
theorem zr_178_39 : zRow xM 178 39 = some (4, .iload 4, 41, 4, 0) := rfl
theorem zr_178_41 : zRow xM 178 41 = some (9, .istore_n 2, 42, 2, 0) := rfl
theorem zr_178_42 : zRow xM 178 42 = some (15, .iinc 3 1, 45, 3, 1) := rfl
theorem zr_178_45 : zRow xM 178 45 = some (42, .goto (-39), 46, 6, 0) := rfl
theorem zr_178_48 : zRow xM 178 48 = some (3, .iload_n 1, 49, 1, 0) := rfl
theorem zr_178_49 : zRow xM 178 49 = some (108, .ireturn, 50, 0, 0) := rfl
theorem zm_179 : zMt xM 179 = some (4, (some .int), 3, 0, 0) := rfl
theorem zr_179_0 : zRow xM 179 0 = some (3, .iload_n 1, 1, 1, 0) := rfl
theorem zr_179_1 : zRow xM 179 1 = some (36, .i2l, 2, 0, 0) := rfl
theorem zr_179_2 : zRp 179 2 3 (1, 0) := ⟨_, _, _, _, rfl, by decide, Option.some_ne_none _, rfl⟩
theorem zr_179_3 : zRp 179 3 6 (1, 159) := ⟨_, _, _, _, rfl, by decide, Option.some_ne_none _, rfl⟩
theorem zr_179_6 : zRow xM 179 6 = some (107, .invokestatic 65, 9, 140, 0) := rfl
theorem zr_179_9 : zRow xM 179 9 = some (40, .ifCond .eq 17, 12, 26, 1) := rfl
theorem zr_179_12 : zRow xM 179 12 = some (3, .iload_n 2, 13, 2, 0) := rfl
theorem zr_179_13 : zRow xM 179 13 = some (36, .i2l, 14, 0, 0) := rfl
theorem zr_179_14 : zRp 179 14 17 (1, -500) := ⟨_, _, _, _, rfl, by decide, Option.some_ne_none _, rfl⟩
theorem zr_179_17 : zRp 179 17 20 (1, 500) := ⟨_, _, _, _, rfl, by decide, Option.some_ne_none _, rfl⟩
theorem zr_179_20 : zRow xM 179 20 = some (107, .invokestatic 65, 23, 140, 0) := rfl
theorem zr_179_23 : zRow xM 179 23 = some (40, .ifCond .ne 6, 26, 29, 4) := rfl
theorem zr_179_26 : zRp 179 26 28 (0, -100000) := ⟨_, _, _, _, rfl, by decide, Option.some_ne_none _, rfl⟩
theorem zr_179_28 : zRow xM 179 28 = some (108, .ireturn, 29, 0, 0) := rfl
theorem zr_179_29 : zRow xM 179 29 = some (7, .aload_n 0, 30, 0, 0) := rfl
theorem zr_179_30 : zRow xM 179 30 = some (46, .getfield 7, 33, 9, 0) := rfl
theorem zr_179_33 : zRp 179 33 36 (0, 658) := ⟨_, _, _, _, rfl, by decide, Option.some_ne_none _, rfl⟩
theorem zr_179_36 : zRow xM 179 36 = some (3, .iload_n 1, 37, 1, 0) := rfl
theorem zr_179_37 : zRow xM 179 37 = some (16, .iadd, 38, 0, 0) := rfl
theorem zr_179_38 : zRow xM 179 38 = some (48, .iaload, 39, 0, 0) := rfl
theorem zr_179_39 : zRow xM 179 39 = some (9, .istore_n 3, 40, 3, 0) := rfl
theorem zr_179_40 : zRow xM 179 40 = some (7, .aload_n 0, 41, 0, 0) := rfl
theorem zr_179_41 : zRow xM 179 41 = some (46, .getfield 7, 44, 9, 0) := rfl
theorem zr_179_44 : zRp 179 44 47 (0, 658) := ⟨_, _, _, _, rfl, by decide, Option.some_ne_none _, rfl⟩
theorem zr_179_47 : zRow xM 179 47 = some (3, .iload_n 1, 48, 1, 0) := rfl
theorem zr_179_48 : zRow xM 179 48 = some (16, .iadd, 49, 0, 0) := rfl
theorem zr_179_49 : zRow xM 179 49 = some (3, .iload_n 2, 50, 2, 0) := rfl
theorem zr_179_50 : zRow xM 179 50 = some (49, .iastore, 51, 0, 0) := rfl
theorem zr_179_51 : zRow xM 179 51 = some (3, .iload_n 3, 52, 3, 0) := rfl
theorem zr_179_52 : zRow xM 179 52 = some (108, .ireturn, 53, 0, 0) := rfl
theorem zm_180 : zMt xM 180 = some (3, (some .int), 3, 0, 0) := rfl
theorem zr_180_0 : zRow xM 180 0 = some (3, .iload_n 1, 1, 1, 0) := rfl
theorem zr_180_1 : zRow xM 180 1 = some (36, .i2l, 2, 0, 0) := rfl
theorem zr_180_2 : zRp 180 2 3 (1, 1) := ⟨_, _, _, _, rfl, by decide, Option.some_ne_none _, rfl⟩
theorem zr_180_3 : zRp 180 3 6 (1, 1000) := ⟨_, _, _, _, rfl, by decide, Option.some_ne_none _, rfl⟩
theorem zr_180_6 : zRow xM 180 6 = some (107, .invokestatic 65, 9, 140, 0) := rfl
theorem zr_180_9 : zRow xM 180 9 = some (40, .ifCond .eq 15, 12, 24, 1) := rfl
theorem zr_180_12 : zRow xM 180 12 = some (3, .iload_n 2, 13, 2, 0) := rfl
theorem zr_180_13 : zRow xM 180 13 = some (36, .i2l, 14, 0, 0) := rfl
theorem zr_180_14 : zRp 180 14 15 (1, 0) := ⟨_, _, _, _, rfl, by decide, Option.some_ne_none _, rfl⟩
theorem zr_180_15 : zRp 180 15 18 (1, 500) := ⟨_, _, _, _, rfl, by decide, Option.some_ne_none _, rfl⟩
theorem zr_180_18 : zRow xM 180 18 = some (107, .invokestatic 65, 21, 140, 0) := rfl
theorem zr_180_21 : zRow xM 180 21 = some (40, .ifCond .ne 6, 24, 27, 4) := rfl
theorem zr_180_24 : zRp 180 24 26 (0, -2) := ⟨_, _, _, _, rfl, by decide, Option.some_ne_none _, rfl⟩
theorem zr_180_26 : zRow xM 180 26 = some (108, .ireturn, 27, 0, 0) := rfl
theorem zr_180_27 : zRow xM 180 27 = some (7, .aload_n 0, 28, 0, 0) := rfl
theorem zr_180_28 : zRow xM 180 28 = some (46, .getfield 7, 31, 9, 0) := rfl
theorem zr_180_31 : zRp 180 31 34 (0, 824) := ⟨_, _, _, _, rfl, by decide, Option.some_ne_none _, rfl⟩
theorem zr_180_34 : zRow xM 180 34 = some (3, .iload_n 1, 35, 1, 0) := rfl
theorem zr_180_35 : zRow xM 180 35 = some (49, .iastore, 36, 0, 0) := rfl
theorem zr_180_36 : zRow xM 180 36 = some (7, .aload_n 0, 37, 0, 0) := rfl
theorem zr_180_37 : zRow xM 180 37 = some (46, .getfield 7, 40, 9, 0) := rfl
theorem zr_180_40 : zRp 180 40 43 (0, 825) := ⟨_, _, _, _, rfl, by decide, Option.some_ne_none _, rfl⟩
theorem zr_180_43 : zRow xM 180 43 = some (3, .iload_n 2, 44, 2, 0) := rfl
theorem zr_180_44 : zRow xM 180 44 = some (49, .iastore, 45, 0, 0) := rfl
theorem zr_180_45 : zRp 180 45 46 (0, 1) := ⟨_, _, _, _, rfl, by decide, Option.some_ne_none _, rfl⟩
theorem zr_180_46 : zRow xM 180 46 = some (108, .ireturn, 47, 0, 0) := rfl
theorem zm_181 : zMt xM 181 = some (2, (some .boolean), 2, 0, 0) := rfl
theorem zr_181_0 : zRow xM 181 0 = some (7, .aload_n 0, 1, 0, 0) := rfl
theorem zr_181_1 : zRow xM 181 1 = some (3, .iload_n 1, 2, 1, 0) := rfl
theorem zr_181_2 : zRp 181 2 3 (0, 4) := ⟨_, _, _, _, rfl, by decide, Option.some_ne_none _, rfl⟩
theorem zr_181_3 : zRow xM 181 3 = some (105, .invokevirtual 76, 6, 144, 9) := rfl
theorem zr_181_6 : zRow xM 181 6 = some (40, .ifCond .ne 16, 9, 22, 4) := rfl
theorem zr_181_9 : zRow xM 181 9 = some (7, .aload_n 0, 10, 0, 0) := rfl
theorem zr_181_10 : zRow xM 181 10 = some (3, .iload_n 1, 11, 1, 0) := rfl
theorem zr_181_11 : zRp 181 11 12 (0, 5) := ⟨_, _, _, _, rfl, by decide, Option.some_ne_none _, rfl⟩
theorem zr_181_12 : zRow xM 181 12 = some (105, .invokevirtual 76, 15, 144, 9) := rfl
theorem zr_181_15 : zRow xM 181 15 = some (40, .ifCond .ne 7, 18, 22, 4) := rfl
theorem zr_181_18 : zRp 181 18 19 (0, 1) := ⟨_, _, _, _, rfl, by decide, Option.some_ne_none _, rfl⟩
theorem zr_181_19 : zRow xM 181 19 = some (42, .goto 4, 20, 23, 0) := rfl
theorem zr_181_22 : zRp 181 22 23 (0, 0) := ⟨_, _, _, _, rfl, by decide, Option.some_ne_none _, rfl⟩
theorem zr_181_23 : zRow xM 181 23 = some (108, .ireturn, 24, 0, 0) := rfl
theorem zm_182 : zMt xM 182 = some (4, (some .int), 3, 0, 0) := rfl
theorem zr_182_0 : zRow xM 182 0 = some (3, .iload_n 2, 1, 2, 0) := rfl
theorem zr_182_1 : zRow xM 182 1 = some (7, .aload_n 0, 2, 0, 0) := rfl
theorem zr_182_2 : zRow xM 182 2 = some (46, .getfield 7, 5, 9, 0) := rfl
theorem zr_182_5 : zRp 182 5 6 (0, 0) := ⟨_, _, _, _, rfl, by decide, Option.some_ne_none _, rfl⟩
theorem zr_182_6 : zRow xM 182 6 = some (3, .iload_n 1, 7, 1, 0) := rfl
theorem zr_182_7 : zRow xM 182 7 = some (16, .iadd, 8, 0, 0) := rfl
theorem zr_182_8 : zRow xM 182 8 = some (48, .iaload, 9, 0, 0) := rfl
theorem zr_182_9 : zRow xM 182 9 = some (17, .isub, 10, 0, 0) := rfl
theorem zr_182_10 : zRow xM 182 10 = some (9, .istore_n 3, 11, 3, 0) := rfl
theorem zr_182_11 : zRow xM 182 11 = some (3, .iload_n 3, 12, 3, 0) := rfl
theorem zr_182_12 : zRow xM 182 12 = some (40, .ifCond .ge 7, 15, 19, 3) := rfl
theorem zr_182_15 : zRp 182 15 16 (0, 0) := ⟨_, _, _, _, rfl, by decide, Option.some_ne_none _, rfl⟩
theorem zr_182_16 : zRow xM 182 16 = some (42, .goto 17, 17, 33, 0) := rfl
theorem zr_182_19 : zRow xM 182 19 = some (3, .iload_n 3, 20, 3, 0) := rfl
theorem zr_182_20 : zRp 182 20 23 (0, 159) := ⟨_, _, _, _, rfl, by decide, Option.some_ne_none _, rfl⟩
theorem zr_182_23 : zRow xM 182 23 = some (41, .if_icmp .le 9, 26, 32, 5) := rfl
theorem zr_182_26 : zRp 182 26 29 (0, 159) := ⟨_, _, _, _, rfl, by decide, Option.some_ne_none _, rfl⟩
theorem zr_182_29 : zRow xM 182 29 = some (42, .goto 4, 30, 33, 0) := rfl
theorem zr_182_32 : zRow xM 182 32 = some (3, .iload_n 3, 33, 3, 0) := rfl
theorem zr_182_33 : zRow xM 182 33 = some (9, .istore_n 3, 34, 3, 0) := rfl
theorem zr_182_34 : zRow xM 182 34 = some (7, .aload_n 0, 35, 0, 0) := rfl
theorem zr_182_35 : zRow xM 182 35 = some (46, .getfield 7, 38, 9, 0) := rfl
theorem zr_182_38 : zRp 182 38 41 (0, 658) := ⟨_, _, _, _, rfl, by decide, Option.some_ne_none _, rfl⟩
theorem zr_182_41 : zRow xM 182 41 = some (3, .iload_n 3, 42, 3, 0) := rfl
theorem zr_182_42 : zRow xM 182 42 = some (16, .iadd, 43, 0, 0) := rfl
theorem zr_182_43 : zRow xM 182 43 = some (48, .iaload, 44, 0, 0) := rfl
theorem zr_182_44 : zRow xM 182 44 = some (108, .ireturn, 45, 0, 0) := rfl
theorem zm_183 : zMt xM 183 = some (5, none, 4, 0, 0) := rfl
theorem zr_183_0 : zRp 183 0 2 (0, 10) := ⟨_, _, _, _, rfl, by decide, Option.some_ne_none _, rfl⟩
theorem zr_183_2 : zRow xM 183 2 = some (3, .iload_n 2, 3, 2, 0) := rfl
theorem zr_183_3 : zRow xM 183 3 = some (18, .imul, 4, 0, 0) := rfl
theorem zr_183_4 : zRow xM 183 4 = some (3, .iload_n 1, 5, 1, 0) := rfl
theorem zr_183_5 : zRow xM 183 5 = some (16, .iadd, 6, 0, 0) := rfl
theorem zr_183_6 : zRow xM 183 6 = some (10, .istore 4, 8, 4, 0) := rfl
theorem zr_183_8 : zRow xM 183 8 = some (7, .aload_n 0, 9, 0, 0) := rfl
theorem zr_183_9 : zRow xM 183 9 = some (46, .getfield 46, 12, 9, 20) := rfl
theorem zr_183_12 : zRow xM 183 12 = some (4, .iload 4, 14, 4, 0) := rfl
theorem zr_183_14 : zRow xM 183 14 = some (3, .iload_n 3, 15, 3, 0) := rfl
theorem zr_183_15 : zRow xM 183 15 = some (7, .aload_n 0, 16, 0, 0) := rfl
theorem zr_183_16 : zRow xM 183 16 = some (46, .getfield 46, 19, 9, 20) := rfl
theorem zr_183_19 : zRow xM 183 19 = some (4, .iload 4, 21, 4, 0) := rfl
theorem zr_183_21 : zRow xM 183 21 = some (48, .iaload, 22, 0, 0) := rfl
theorem zr_183_22 : zRow xM 183 22 = some (41, .if_icmp .ge 7, 25, 29, 3) := rfl
theorem zr_183_25 : zRow xM 183 25 = some (3, .iload_n 3, 26, 3, 0) := rfl
theorem zr_183_26 : zRow xM 183 26 = some (42, .goto 10, 27, 36, 0) := rfl
theorem zr_183_29 : zRow xM 183 29 = some (7, .aload_n 0, 30, 0, 0) := rfl
theorem zr_183_30 : zRow xM 183 30 = some (46, .getfield 46, 33, 9, 20) := rfl
theorem zr_183_33 : zRow xM 183 33 = some (4, .iload 4, 35, 4, 0) := rfl
theorem zr_183_35 : zRow xM 183 35 = some (48, .iaload, 36, 0, 0) := rfl
theorem zr_183_36 : zRow xM 183 36 = some (49, .iastore, 37, 0, 0) := rfl
theorem zr_183_37 : zRow xM 183 37 = some (110, .return_, 38, 0, 0) := rfl
theorem zm_184 : zMt xM 184 = some (11, (some .boolean), 4, 0, 0) := rfl
theorem zr_184_0 : zRp 184 0 1 (0, 0) := ⟨_, _, _, _, rfl, by decide, Option.some_ne_none _, rfl⟩
theorem zr_184_1 : zRow xM 184 1 = some (10, .istore 4, 3, 4, 0) := rfl
theorem zr_184_3 : zRow xM 184 3 = some (4, .iload 4, 5, 4, 0) := rfl
theorem zr_184_5 : zRp 184 5 7 (0, 100) := ⟨_, _, _, _, rfl, by decide, Option.some_ne_none _, rfl⟩
theorem zr_184_7 : zRow xM 184 7 = some (41, .if_icmp .ge 35, 10, 42, 3) := rfl
theorem zr_184_10 : zRow xM 184 10 = some (7, .aload_n 0, 11, 0, 0) := rfl
theorem zr_184_11 : zRow xM 184 11 = some (46, .getfield 46, 14, 9, 20) := rfl
theorem zr_184_14 : zRow xM 184 14 = some (4, .iload 4, 16, 4, 0) := rfl
theorem zr_184_16 : zRow xM 184 16 = some (4, .iload 4, 18, 4, 0) := rfl
theorem zr_184_18 : zRp 184 18 20 (0, 10) := ⟨_, _, _, _, rfl, by decide, Option.some_ne_none _, rfl⟩
theorem zr_184_20 : zRow xM 184 20 = some (19, .idiv, 21, 0, 0) := rfl
theorem zr_184_21 : zRow xM 184 21 = some (4, .iload 4, 23, 4, 0) := rfl
theorem zr_184_23 : zRp 184 23 25 (0, 10) := ⟨_, _, _, _, rfl, by decide, Option.some_ne_none _, rfl⟩
theorem zr_184_25 : zRow xM 184 25 = some (20, .irem, 26, 0, 0) := rfl
theorem zr_184_26 : zRow xM 184 26 = some (41, .if_icmp .ne 7, 29, 33, 4) := rfl
theorem zr_184_29 : zRp 184 29 30 (0, 0) := ⟨_, _, _, _, rfl, by decide, Option.some_ne_none _, rfl⟩
theorem zr_184_30 : zRow xM 184 30 = some (42, .goto 5, 31, 35, 0) := rfl
theorem zr_184_33 : zRp 184 33 35 (0, 100000000) := ⟨_, _, _, _, rfl, by decide, Option.some_ne_none _, rfl⟩
theorem zr_184_35 : zRow xM 184 35 = some (49, .iastore, 36, 0, 0) := rfl
theorem zr_184_36 : zRow xM 184 36 = some (15, .iinc 4 1, 39, 4, 1) := rfl
theorem zr_184_39 : zRow xM 184 39 = some (42, .goto (-36), 40, 3, 0) := rfl
theorem zr_184_42 : zRp 184 42 43 (0, 0) := ⟨_, _, _, _, rfl, by decide, Option.some_ne_none _, rfl⟩
theorem zr_184_43 : zRow xM 184 43 = some (10, .istore 4, 45, 4, 0) := rfl
theorem zr_184_45 : zRow xM 184 45 = some (4, .iload 4, 47, 4, 0) := rfl
theorem zr_184_47 : zRow xM 184 47 = some (7, .aload_n 0, 48, 0, 0) := rfl
theorem zr_184_48 : zRow xM 184 48 = some (105, .invokevirtual 73, 51, 142, 9) := rfl
theorem zr_184_51 : zRow xM 184 51 = some (41, .if_icmp .ge 194, 54, 245, 3) := rfl
theorem zr_184_54 : zRow xM 184 54 = some (7, .aload_n 0, 55, 0, 0) := rfl
theorem zr_184_55 : zRow xM 184 55 = some (4, .iload 4, 57, 4, 0) := rfl
theorem zr_184_57 : zRow xM 184 57 = some (105, .invokevirtual 212, 60, 181, 9) := rfl
theorem zr_184_60 : zRow xM 184 60 = some (40, .ifCond .eq 179, 63, 239, 1) := rfl
theorem zr_184_63 : zRow xM 184 63 = some (4, .iload 4, 65, 4, 0) := rfl
theorem zr_184_65 : zRow xM 184 65 = some (3, .iload_n 1, 66, 1, 0) := rfl
theorem zr_184_66 : zRow xM 184 66 = some (41, .if_icmp .eq 173, 69, 239, 1) := rfl
theorem zr_184_69 : zRow xM 184 69 = some (4, .iload 4, 71, 4, 0) := rfl
theorem zr_184_71 : zRow xM 184 71 = some (3, .iload_n 2, 72, 2, 0) := rfl
theorem zr_184_72 : zRow xM 184 72 = some (41, .if_icmp .eq 167, 75, 239, 1) := rfl
theorem zr_184_75 : zRow xM 184 75 = some (4, .iload 4, 77, 4, 0) := rfl
theorem zr_184_77 : zRow xM 184 77 = some (3, .iload_n 3, 78, 3, 0) := rfl
theorem zr_184_78 : zRow xM 184 78 = some (41, .if_icmp .eq 161, 81, 239, 1) := rfl
theorem zr_184_81 : zRow xM 184 81 = some (7, .aload_n 0, 82, 0, 0) := rfl
theorem zr_184_82 : zRow xM 184 82 = some (4, .iload 4, 84, 4, 0) := rfl
theorem zr_184_84 : zRp 184 84 85 (0, 1) := ⟨_, _, _, _, rfl, by decide, Option.some_ne_none _, rfl⟩
theorem zr_184_85 : zRow xM 184 85 = some (105, .invokevirtual 76, 88, 144, 9) := rfl
theorem zr_184_88 : zRow xM 184 88 = some (10, .istore 5, 90, 5, 0) := rfl
theorem zr_184_90 : zRow xM 184 90 = some (7, .aload_n 0, 91, 0, 0) := rfl
theorem zr_184_91 : zRow xM 184 91 = some (4, .iload 4, 93, 4, 0) := rfl
theorem zr_184_93 : zRp 184 93 94 (0, 2) := ⟨_, _, _, _, rfl, by decide, Option.some_ne_none _, rfl⟩
theorem zr_184_94 : zRow xM 184 94 = some (105, .invokevirtual 76, 97, 144, 9) := rfl
theorem zr_184_97 : zRow xM 184 97 = some (10, .istore 6, 99, 6, 0) := rfl
theorem zr_184_99 : zRow xM 184 99 = some (7, .aload_n 0, 100, 0, 0) := rfl
theorem zr_184_100 : zRow xM 184 100 = some (4, .iload 5, 102, 5, 0) := rfl
theorem zr_184_102 : zRow xM 184 102 = some (7, .aload_n 0, 103, 0, 0) := rfl
theorem zr_184_103 : zRow xM 184 103 = some (4, .iload 4, 105, 4, 0) := rfl
theorem zr_184_105 : zRp 184 105 106 (0, 0) := ⟨_, _, _, _, rfl, by decide, Option.some_ne_none _, rfl⟩
theorem zr_184_106 : zRow xM 184 106 = some (105, .invokevirtual 76, 109, 144, 9) := rfl
theorem zr_184_109 : zRow xM 184 109 = some (105, .invokevirtual 215, 112, 182, 9) := rfl
theorem zr_184_112 : zRow xM 184 112 = some (7, .aload_n 0, 113, 0, 0) := rfl
theorem zr_184_113 : zRow xM 184 113 = some (4, .iload 6, 115, 6, 0) := rfl
theorem zr_184_115 : zRow xM 184 115 = some (7, .aload_n 0, 116, 0, 0) := rfl
theorem zr_184_116 : zRow xM 184 116 = some (4, .iload 4, 118, 4, 0) := rfl
theorem zr_184_118 : zRp 184 118 119 (0, 0) := ⟨_, _, _, _, rfl, by decide, Option.some_ne_none _, rfl⟩
theorem zr_184_119 : zRow xM 184 119 = some (105, .invokevirtual 76, 122, 144, 9) := rfl
theorem zr_184_122 : zRow xM 184 122 = some (105, .invokevirtual 215, 125, 182, 9) := rfl
theorem zr_184_125 : zRow xM 184 125 = some (17, .isub, 126, 0, 0) := rfl
theorem zr_184_126 : zRow xM 184 126 = some (10, .istore 7, 128, 7, 0) := rfl
theorem zr_184_128 : zRow xM 184 128 = some (7, .aload_n 0, 129, 0, 0) := rfl
theorem zr_184_129 : zRow xM 184 129 = some (4, .iload 4, 131, 4, 0) := rfl
theorem zr_184_131 : zRp 184 131 132 (0, 3) := ⟨_, _, _, _, rfl, by decide, Option.some_ne_none _, rfl⟩
theorem zr_184_132 : zRow xM 184 132 = some (105, .invokevirtual 76, 135, 144, 9) := rfl
theorem zr_184_135 : zRow xM 184 135 = some (10, .istore 8, 137, 8, 0) := rfl
theorem zr_184_137 : zRow xM 184 137 = some (4, .iload 8, 139, 8, 0) := rfl
theorem zr_184_139 : zRp 184 139 140 (0, 2) := ⟨_, _, _, _, rfl, by decide, Option.some_ne_none _, rfl⟩
theorem zr_184_140 : zRow xM 184 140 = some (41, .if_icmp .ne 7, 143, 147, 4) := rfl
theorem zr_184_143 : zRp 184 143 144 (0, 1) := ⟨_, _, _, _, rfl, by decide, Option.some_ne_none _, rfl⟩
theorem zr_184_144 : zRow xM 184 144 = some (42, .goto 30, 145, 174, 0) := rfl
theorem zr_184_147 : zRow xM 184 147 = some (4, .iload 8, 149, 8, 0) := rfl
theorem zr_184_149 : zRp 184 149 150 (0, 1) := ⟨_, _, _, _, rfl, by decide, Option.some_ne_none _, rfl⟩
theorem zr_184_150 : zRow xM 184 150 = some (41, .if_icmp .ne 15, 153, 165, 4) := rfl
theorem zr_184_153 : zRow xM 184 153 = some (7, .aload_n 0, 154, 0, 0) := rfl
theorem zr_184_154 : zRow xM 184 154 = some (46, .getfield 7, 157, 9, 0) := rfl
theorem zr_184_157 : zRp 184 157 160 (0, 825) := ⟨_, _, _, _, rfl, by decide, Option.some_ne_none _, rfl⟩
theorem zr_184_160 : zRow xM 184 160 = some (48, .iaload, 161, 0, 0) := rfl
theorem zr_184_161 : zRow xM 184 161 = some (38, .ineg, 162, 0, 0) := rfl
theorem zr_184_162 : zRow xM 184 162 = some (42, .goto 12, 163, 174, 0) := rfl
theorem zr_184_165 : zRow xM 184 165 = some (7, .aload_n 0, 166, 0, 0) := rfl
theorem zr_184_166 : zRow xM 184 166 = some (46, .getfield 7, 169, 9, 0) := rfl
theorem zr_184_169 : zRp 184 169 172 (0, 824) := ⟨_, _, _, _, rfl, by decide, Option.some_ne_none _, rfl⟩
theorem zr_184_172 : zRow xM 184 172 = some (48, .iaload, 173, 0, 0) := rfl
theorem zr_184_173 : zRow xM 184 173 = some (38, .ineg, 174, 0, 0) := rfl
theorem zr_184_174 : zRow xM 184 174 = some (10, .istore 9, 176, 9, 0) := rfl
theorem zr_184_176 : zRow xM 184 176 = some (4, .iload 8, 178, 8, 0) := rfl
theorem zr_184_178 : zRp 184 178 179 (0, 2) := ⟨_, _, _, _, rfl, by decide, Option.some_ne_none _, rfl⟩
theorem zr_184_179 : zRow xM 184 179 = some (41, .if_icmp .ne 14, 182, 193, 4) := rfl
theorem zr_184_182 : zRow xM 184 182 = some (7, .aload_n 0, 183, 0, 0) := rfl
theorem zr_184_183 : zRow xM 184 183 = some (46, .getfield 7, 186, 9, 0) := rfl
theorem zr_184_186 : zRp 184 186 189 (0, 824) := ⟨_, _, _, _, rfl, by decide, Option.some_ne_none _, rfl⟩
theorem zr_184_189 : zRow xM 184 189 = some (48, .iaload, 190, 0, 0) := rfl
theorem zr_184_190 : zRow xM 184 190 = some (42, .goto 21, 191, 211, 0) := rfl
theorem zr_184_193 : zRow xM 184 193 = some (4, .iload 8, 195, 8, 0) := rfl
theorem zr_184_195 : zRp 184 195 196 (0, 1) := ⟨_, _, _, _, rfl, by decide, Option.some_ne_none _, rfl⟩
theorem zr_184_196 : zRow xM 184 196 = some (41, .if_icmp .ne 14, 199, 210, 4) := rfl
theorem zr_184_199 : zRow xM 184 199 = some (7, .aload_n 0, 200, 0, 0) := rfl
theorem zr_184_200 : zRow xM 184 200 = some (46, .getfield 7, 203, 9, 0) := rfl
theorem zr_184_203 : zRp 184 203 206 (0, 825) := ⟨_, _, _, _, rfl, by decide, Option.some_ne_none _, rfl⟩
theorem zr_184_206 : zRow xM 184 206 = some (48, .iaload, 207, 0, 0) := rfl
theorem zr_184_207 : zRow xM 184 207 = some (42, .goto 4, 208, 211, 0) := rfl
theorem zr_184_210 : zRp 184 210 211 (0, -1) := ⟨_, _, _, _, rfl, by decide, Option.some_ne_none _, rfl⟩
theorem zr_184_211 : zRow xM 184 211 = some (10, .istore 10, 213, 10, 0) := rfl
theorem zr_184_213 : zRow xM 184 213 = some (7, .aload_n 0, 214, 0, 0) := rfl
theorem zr_184_214 : zRow xM 184 214 = some (4, .iload 5, 216, 5, 0) := rfl
theorem zr_184_216 : zRow xM 184 216 = some (4, .iload 6, 218, 6, 0) := rfl
theorem zr_184_218 : zRow xM 184 218 = some (4, .iload 10, 220, 10, 0) := rfl
theorem zr_184_220 : zRow xM 184 220 = some (4, .iload 7, 222, 7, 0) := rfl
theorem zr_184_222 : zRow xM 184 222 = some (17, .isub, 223, 0, 0) := rfl
theorem zr_184_223 : zRow xM 184 223 = some (105, .invokevirtual 218, 226, 183, 9) := rfl
theorem zr_184_226 : zRow xM 184 226 = some (7, .aload_n 0, 227, 0, 0) := rfl
theorem zr_184_227 : zRow xM 184 227 = some (4, .iload 6, 229, 6, 0) := rfl
theorem zr_184_229 : zRow xM 184 229 = some (4, .iload 5, 231, 5, 0) := rfl
theorem zr_184_231 : zRow xM 184 231 = some (4, .iload 7, 233, 7, 0) := rfl
theorem zr_184_233 : zRow xM 184 233 = some (4, .iload 9, 235, 9, 0) := rfl
theorem zr_184_235 : zRow xM 184 235 = some (17, .isub, 236, 0, 0) := rfl
theorem zr_184_236 : zRow xM 184 236 = some (105, .invokevirtual 218, 239, 183, 9) := rfl
theorem zr_184_239 : zRow xM 184 239 = some (15, .iinc 4 1, 242, 4, 1) := rfl
theorem zr_184_242 : zRow xM 184 242 = some (42, .goto (-197), 243, 45, 0) := rfl
theorem zr_184_245 : zRp 184 245 246 (0, 0) := ⟨_, _, _, _, rfl, by decide, Option.some_ne_none _, rfl⟩
theorem zr_184_246 : zRow xM 184 246 = some (10, .istore 4, 248, 4, 0) := rfl
theorem zr_184_248 : zRow xM 184 248 = some (4, .iload 4, 250, 4, 0) := rfl
theorem zr_184_250 : zRp 184 250 252 (0, 10) := ⟨_, _, _, _, rfl, by decide, Option.some_ne_none _, rfl⟩
theorem zr_184_252 : zRow xM 184 252 = some (41, .if_icmp .ge 198, 255, 450, 3) := rfl
theorem zr_184_255 : zRp 184 255 256 (0, 0) := ⟨_, _, _, _, rfl, by decide, Option.some_ne_none _, rfl⟩
theorem zr_184_256 : zRow xM 184 256 = some (10, .istore 5, 258, 5, 0) := rfl
theorem zr_184_258 : zRow xM 184 258 = some (4, .iload 5, 260, 5, 0) := rfl
theorem zr_184_260 : zRp 184 260 262 (0, 10) := ⟨_, _, _, _, rfl, by decide, Option.some_ne_none _, rfl⟩
theorem zr_184_262 : zRow xM 184 262 = some (41, .if_icmp .ge 151, 265, 413, 3) := rfl
theorem zr_184_265 : zRp 184 265 266 (0, 0) := ⟨_, _, _, _, rfl, by decide, Option.some_ne_none _, rfl⟩
theorem zr_184_266 : zRow xM 184 266 = some (10, .istore 6, 268, 6, 0) := rfl
theorem zr_184_268 : zRow xM 184 268 = some (4, .iload 6, 270, 6, 0) := rfl
theorem zr_184_270 : zRp 184 270 272 (0, 10) := ⟨_, _, _, _, rfl, by decide, Option.some_ne_none _, rfl⟩
theorem zr_184_272 : zRow xM 184 272 = some (41, .if_icmp .ge 135, 275, 407, 3) := rfl
theorem zr_184_275 : zRow xM 184 275 = some (7, .aload_n 0, 276, 0, 0) := rfl
theorem zr_184_276 : zRow xM 184 276 = some (46, .getfield 46, 279, 9, 20) := rfl
theorem zr_184_279 : zRp 184 279 281 (0, 10) := ⟨_, _, _, _, rfl, by decide, Option.some_ne_none _, rfl⟩
theorem zr_184_281 : zRow xM 184 281 = some (4, .iload 5, 283, 5, 0) := rfl
theorem zr_184_283 : zRow xM 184 283 = some (18, .imul, 284, 0, 0) := rfl
theorem zr_184_284 : zRow xM 184 284 = some (4, .iload 4, 286, 4, 0) := rfl
theorem zr_184_286 : zRow xM 184 286 = some (16, .iadd, 287, 0, 0) := rfl
theorem zr_184_287 : zRow xM 184 287 = some (48, .iaload, 288, 0, 0) := rfl
theorem zr_184_288 : zRow xM 184 288 = some (7, .aload_n 0, 289, 0, 0) := rfl
theorem zr_184_289 : zRow xM 184 289 = some (46, .getfield 46, 292, 9, 20) := rfl
theorem zr_184_292 : zRp 184 292 294 (0, 10) := ⟨_, _, _, _, rfl, by decide, Option.some_ne_none _, rfl⟩
theorem zr_184_294 : zRow xM 184 294 = some (4, .iload 4, 296, 4, 0) := rfl
theorem zr_184_296 : zRow xM 184 296 = some (18, .imul, 297, 0, 0) := rfl
theorem zr_184_297 : zRow xM 184 297 = some (4, .iload 6, 299, 6, 0) := rfl
theorem zr_184_299 : zRow xM 184 299 = some (16, .iadd, 300, 0, 0) := rfl
theorem zr_184_300 : zRow xM 184 300 = some (48, .iaload, 301, 0, 0) := rfl
theorem zr_184_301 : zRow xM 184 301 = some (16, .iadd, 302, 0, 0) := rfl
theorem zr_184_302 : zRow xM 184 302 = some (10, .istore 7, 304, 7, 0) := rfl
theorem zr_184_304 : zRow xM 184 304 = some (7, .aload_n 0, 305, 0, 0) := rfl
theorem zr_184_305 : zRow xM 184 305 = some (46, .getfield 46, 308, 9, 20) := rfl
theorem zr_184_308 : zRp 184 308 310 (0, 10) := ⟨_, _, _, _, rfl, by decide, Option.some_ne_none _, rfl⟩
theorem zr_184_310 : zRow xM 184 310 = some (4, .iload 5, 312, 5, 0) := rfl
theorem zr_184_312 : zRow xM 184 312 = some (18, .imul, 313, 0, 0) := rfl
theorem zr_184_313 : zRow xM 184 313 = some (4, .iload 4, 315, 4, 0) := rfl
theorem zr_184_315 : zRow xM 184 315 = some (16, .iadd, 316, 0, 0) := rfl
theorem zr_184_316 : zRow xM 184 316 = some (48, .iaload, 317, 0, 0) := rfl
theorem zr_184_317 : zRp 184 317 319 (0, 100000000) := ⟨_, _, _, _, rfl, by decide, Option.some_ne_none _, rfl⟩
theorem zr_184_319 : zRow xM 184 319 = some (41, .if_icmp .ge 25, 322, 344, 3) := rfl
theorem zr_184_322 : zRow xM 184 322 = some (7, .aload_n 0, 323, 0, 0) := rfl
theorem zr_184_323 : zRow xM 184 323 = some (46, .getfield 46, 326, 9, 20) := rfl
theorem zr_184_326 : zRp 184 326 328 (0, 10) := ⟨_, _, _, _, rfl, by decide, Option.some_ne_none _, rfl⟩
theorem zr_184_328 : zRow xM 184 328 = some (4, .iload 4, 330, 4, 0) := rfl
theorem zr_184_330 : zRow xM 184 330 = some (18, .imul, 331, 0, 0) := rfl
theorem zr_184_331 : zRow xM 184 331 = some (4, .iload 6, 333, 6, 0) := rfl
theorem zr_184_333 : zRow xM 184 333 = some (16, .iadd, 334, 0, 0) := rfl
theorem zr_184_334 : zRow xM 184 334 = some (48, .iaload, 335, 0, 0) := rfl
theorem zr_184_335 : zRp 184 335 337 (0, 100000000) := ⟨_, _, _, _, rfl, by decide, Option.some_ne_none _, rfl⟩
theorem zr_184_337 : zRow xM 184 337 = some (41, .if_icmp .ge 7, 340, 344, 3) := rfl
theorem zr_184_340 : zRp 184 340 341 (0, 1) := ⟨_, _, _, _, rfl, by decide, Option.some_ne_none _, rfl⟩
theorem zr_184_341 : zRow xM 184 341 = some (42, .goto 4, 342, 345, 0) := rfl
theorem zr_184_344 : zRp 184 344 345 (0, 0) := ⟨_, _, _, _, rfl, by decide, Option.some_ne_none _, rfl⟩
theorem zr_184_345 : zRow xM 184 345 = some (10, .istore 8, 347, 8, 0) := rfl
theorem zr_184_347 : zRow xM 184 347 = some (7, .aload_n 0, 348, 0, 0) := rfl
theorem zr_184_348 : zRow xM 184 348 = some (46, .getfield 46, 351, 9, 20) := rfl
theorem zr_184_351 : zRp 184 351 353 (0, 10) := ⟨_, _, _, _, rfl, by decide, Option.some_ne_none _, rfl⟩
theorem zr_184_353 : zRow xM 184 353 = some (4, .iload 5, 355, 5, 0) := rfl
theorem zr_184_355 : zRow xM 184 355 = some (18, .imul, 356, 0, 0) := rfl
theorem zr_184_356 : zRow xM 184 356 = some (4, .iload 6, 358, 6, 0) := rfl
theorem zr_184_358 : zRow xM 184 358 = some (16, .iadd, 359, 0, 0) := rfl
theorem zr_184_359 : zRow xM 184 359 = some (4, .iload 8, 361, 8, 0) := rfl
theorem zr_184_361 : zRow xM 184 361 = some (40, .ifCond .eq 26, 364, 387, 1) := rfl
theorem zr_184_364 : zRow xM 184 364 = some (4, .iload 7, 366, 7, 0) := rfl
theorem zr_184_366 : zRow xM 184 366 = some (7, .aload_n 0, 367, 0, 0) := rfl
theorem zr_184_367 : zRow xM 184 367 = some (46, .getfield 46, 370, 9, 20) := rfl
theorem zr_184_370 : zRp 184 370 372 (0, 10) := ⟨_, _, _, _, rfl, by decide, Option.some_ne_none _, rfl⟩
theorem zr_184_372 : zRow xM 184 372 = some (4, .iload 5, 374, 5, 0) := rfl
theorem zr_184_374 : zRow xM 184 374 = some (18, .imul, 375, 0, 0) := rfl
theorem zr_184_375 : zRow xM 184 375 = some (4, .iload 6, 377, 6, 0) := rfl
theorem zr_184_377 : zRow xM 184 377 = some (16, .iadd, 378, 0, 0) := rfl
theorem zr_184_378 : zRow xM 184 378 = some (48, .iaload, 379, 0, 0) := rfl
theorem zr_184_379 : zRow xM 184 379 = some (41, .if_icmp .ge 8, 382, 387, 3) := rfl
theorem zr_184_382 : zRow xM 184 382 = some (4, .iload 7, 384, 7, 0) := rfl
theorem zr_184_384 : zRow xM 184 384 = some (42, .goto 16, 385, 400, 0) := rfl
theorem zr_184_387 : zRow xM 184 387 = some (7, .aload_n 0, 388, 0, 0) := rfl
theorem zr_184_388 : zRow xM 184 388 = some (46, .getfield 46, 391, 9, 20) := rfl
theorem zr_184_391 : zRp 184 391 393 (0, 10) := ⟨_, _, _, _, rfl, by decide, Option.some_ne_none _, rfl⟩
theorem zr_184_393 : zRow xM 184 393 = some (4, .iload 5, 395, 5, 0) := rfl
theorem zr_184_395 : zRow xM 184 395 = some (18, .imul, 396, 0, 0) := rfl
theorem zr_184_396 : zRow xM 184 396 = some (4, .iload 6, 398, 6, 0) := rfl
theorem zr_184_398 : zRow xM 184 398 = some (16, .iadd, 399, 0, 0) := rfl
theorem zr_184_399 : zRow xM 184 399 = some (48, .iaload, 400, 0, 0) := rfl
theorem zr_184_400 : zRow xM 184 400 = some (49, .iastore, 401, 0, 0) := rfl
theorem zr_184_401 : zRow xM 184 401 = some (15, .iinc 6 1, 404, 6, 1) := rfl
theorem zr_184_404 : zRow xM 184 404 = some (42, .goto (-136), 405, 268, 0) := rfl
theorem zr_184_407 : zRow xM 184 407 = some (15, .iinc 5 1, 410, 5, 1) := rfl
theorem zr_184_410 : zRow xM 184 410 = some (42, .goto (-152), 411, 258, 0) := rfl
theorem zr_184_413 : zRp 184 413 414 (0, 0) := ⟨_, _, _, _, rfl, by decide, Option.some_ne_none _, rfl⟩
theorem zr_184_414 : zRow xM 184 414 = some (10, .istore 5, 416, 5, 0) := rfl
theorem zr_184_416 : zRow xM 184 416 = some (4, .iload 5, 418, 5, 0) := rfl
theorem zr_184_418 : zRp 184 418 420 (0, 10) := ⟨_, _, _, _, rfl, by decide, Option.some_ne_none _, rfl⟩
theorem zr_184_420 : zRow xM 184 420 = some (41, .if_icmp .ge 24, 423, 444, 3) := rfl
theorem zr_184_423 : zRow xM 184 423 = some (7, .aload_n 0, 424, 0, 0) := rfl
theorem zr_184_424 : zRow xM 184 424 = some (46, .getfield 46, 427, 9, 20) := rfl
theorem zr_184_427 : zRp 184 427 429 (0, 11) := ⟨_, _, _, _, rfl, by decide, Option.some_ne_none _, rfl⟩
theorem zr_184_429 : zRow xM 184 429 = some (4, .iload 5, 431, 5, 0) := rfl
theorem zr_184_431 : zRow xM 184 431 = some (18, .imul, 432, 0, 0) := rfl
theorem zr_184_432 : zRow xM 184 432 = some (48, .iaload, 433, 0, 0) := rfl
theorem zr_184_433 : zRow xM 184 433 = some (40, .ifCond .ge 5, 436, 438, 3) := rfl
theorem zr_184_436 : zRp 184 436 437 (0, 0) := ⟨_, _, _, _, rfl, by decide, Option.some_ne_none _, rfl⟩
theorem zr_184_437 : zRow xM 184 437 = some (108, .ireturn, 438, 0, 0) := rfl
theorem zr_184_438 : zRow xM 184 438 = some (15, .iinc 5 1, 441, 5, 1) := rfl
theorem zr_184_441 : zRow xM 184 441 = some (42, .goto (-25), 442, 416, 0) := rfl
theorem zr_184_444 : zRow xM 184 444 = some (15, .iinc 4 1, 447, 4, 1) := rfl
theorem zr_184_447 : zRow xM 184 447 = some (42, .goto (-199), 448, 248, 0) := rfl
theorem zr_184_450 : zRp 184 450 451 (0, 1) := ⟨_, _, _, _, rfl, by decide, Option.some_ne_none _, rfl⟩
theorem zr_184_451 : zRow xM 184 451 = some (108, .ireturn, 452, 0, 0) := rfl
theorem zm_185 : zMt xM 185 = some (1, (some .int), 1, 0, 0) := rfl
theorem zr_185_0 : zRow xM 185 0 = some (7, .aload_n 0, 1, 0, 0) := rfl
theorem zr_185_1 : zRp 185 1 2 (0, -1) := ⟨_, _, _, _, rfl, by decide, Option.some_ne_none _, rfl⟩
theorem zr_185_2 : zRp 185 2 3 (0, -1) := ⟨_, _, _, _, rfl, by decide, Option.some_ne_none _, rfl⟩
theorem zr_185_3 : zRp 185 3 4 (0, -1) := ⟨_, _, _, _, rfl, by decide, Option.some_ne_none _, rfl⟩
theorem zr_185_4 : zRow xM 185 4 = some (105, .invokevirtual 222, 7, 184, 9) := rfl
theorem zr_185_7 : zRow xM 185 7 = some (40, .ifCond .eq 7, 10, 14, 1) := rfl
theorem zr_185_10 : zRp 185 10 11 (0, 0) := ⟨_, _, _, _, rfl, by decide, Option.some_ne_none _, rfl⟩
theorem zr_185_11 : zRow xM 185 11 = some (42, .goto 4, 12, 15, 0) := rfl
theorem zr_185_14 : zRp 185 14 15 (0, 1) := ⟨_, _, _, _, rfl, by decide, Option.some_ne_none _, rfl⟩
theorem zr_185_15 : zRow xM 185 15 = some (108, .ireturn, 16, 0, 0) := rfl
theorem zm_186 : zMt xM 186 = some (4, (some .int), 4, 0, 0) := rfl
theorem zr_186_0 : zRow xM 186 0 = some (7, .aload_n 0, 1, 0, 0) := rfl
theorem zr_186_1 : zRow xM 186 1 = some (3, .iload_n 1, 2, 1, 0) := rfl
theorem zr_186_2 : zRow xM 186 2 = some (105, .invokevirtual 80, 5, 143, 9) := rfl
theorem zr_186_5 : zRow xM 186 5 = some (40, .ifCond .eq 26, 8, 31, 1) := rfl
theorem zr_186_8 : zRow xM 186 8 = some (7, .aload_n 0, 9, 0, 0) := rfl
theorem zr_186_9 : zRow xM 186 9 = some (3, .iload_n 2, 10, 2, 0) := rfl
theorem zr_186_10 : zRow xM 186 10 = some (105, .invokevirtual 80, 13, 143, 9) := rfl
theorem zr_186_13 : zRow xM 186 13 = some (40, .ifCond .eq 18, 16, 31, 1) := rfl
theorem zr_186_16 : zRow xM 186 16 = some (3, .iload_n 1, 17, 1, 0) := rfl
theorem zr_186_17 : zRow xM 186 17 = some (3, .iload_n 2, 18, 2, 0) := rfl
theorem zr_186_18 : zRow xM 186 18 = some (41, .if_icmp .eq 13, 21, 31, 1) := rfl
theorem zr_186_21 : zRow xM 186 21 = some (3, .iload_n 3, 22, 3, 0) := rfl
theorem zr_186_22 : zRow xM 186 22 = some (36, .i2l, 23, 0, 0) := rfl
theorem zr_186_23 : zRp 186 23 24 (1, 0) := ⟨_, _, _, _, rfl, by decide, Option.some_ne_none _, rfl⟩
theorem zr_186_24 : zRp 186 24 25 (1, 1) := ⟨_, _, _, _, rfl, by decide, Option.some_ne_none _, rfl⟩
theorem zr_186_25 : zRow xM 186 25 = some (107, .invokestatic 65, 28, 140, 0) := rfl
theorem zr_186_28 : zRow xM 186 28 = some (40, .ifCond .ne 6, 31, 34, 4) := rfl
theorem zr_186_31 : zRp 186 31 33 (0, -100000) := ⟨_, _, _, _, rfl, by decide, Option.some_ne_none _, rfl⟩
theorem zr_186_33 : zRow xM 186 33 = some (108, .ireturn, 34, 0, 0) := rfl
theorem zr_186_34 : zRow xM 186 34 = some (7, .aload_n 0, 35, 0, 0) := rfl
theorem zr_186_35 : zRp 186 35 36 (0, -1) := ⟨_, _, _, _, rfl, by decide, Option.some_ne_none _, rfl⟩
theorem zr_186_36 : zRp 186 36 37 (0, -1) := ⟨_, _, _, _, rfl, by decide, Option.some_ne_none _, rfl⟩
theorem zr_186_37 : zRp 186 37 38 (0, -1) := ⟨_, _, _, _, rfl, by decide, Option.some_ne_none _, rfl⟩
theorem zr_186_38 : zRow xM 186 38 = some (105, .invokevirtual 222, 41, 184, 9) := rfl
theorem zr_186_41 : zRow xM 186 41 = some (40, .ifCond .ne 6, 44, 47, 4) := rfl
theorem zr_186_44 : zRp 186 44 46 (0, -200000) := ⟨_, _, _, _, rfl, by decide, Option.some_ne_none _, rfl⟩
theorem zr_186_46 : zRow xM 186 46 = some (108, .ireturn, 47, 0, 0) := rfl
theorem zr_186_47 : zRow xM 186 47 = some (7, .aload_n 0, 48, 0, 0) := rfl
theorem zr_186_48 : zRow xM 186 48 = some (46, .getfield 46, 51, 9, 20) := rfl
theorem zr_186_51 : zRp 186 51 53 (0, 10) := ⟨_, _, _, _, rfl, by decide, Option.some_ne_none _, rfl⟩
theorem zr_186_53 : zRow xM 186 53 = some (3, .iload_n 2, 54, 2, 0) := rfl
theorem zr_186_54 : zRow xM 186 54 = some (18, .imul, 55, 0, 0) := rfl
theorem zr_186_55 : zRow xM 186 55 = some (3, .iload_n 1, 56, 1, 0) := rfl
theorem zr_186_56 : zRow xM 186 56 = some (16, .iadd, 57, 0, 0) := rfl
theorem zr_186_57 : zRow xM 186 57 = some (48, .iaload, 58, 0, 0) := rfl
theorem zr_186_58 : zRp 186 58 60 (0, 100000000) := ⟨_, _, _, _, rfl, by decide, Option.some_ne_none _, rfl⟩
theorem zr_186_60 : zRow xM 186 60 = some (41, .if_icmp .ne 6, 63, 66, 4) := rfl
theorem zr_186_63 : zRp 186 63 65 (0, -300000) := ⟨_, _, _, _, rfl, by decide, Option.some_ne_none _, rfl⟩
theorem zr_186_65 : zRow xM 186 65 = some (108, .ireturn, 66, 0, 0) := rfl
theorem zr_186_66 : zRow xM 186 66 = some (3, .iload_n 3, 67, 3, 0) := rfl
theorem zr_186_67 : zRow xM 186 67 = some (40, .ifCond .ne 18, 70, 85, 4) := rfl
theorem zr_186_70 : zRow xM 186 70 = some (7, .aload_n 0, 71, 0, 0) := rfl
theorem zr_186_71 : zRow xM 186 71 = some (46, .getfield 46, 74, 9, 20) := rfl
theorem zr_186_74 : zRp 186 74 76 (0, 10) := ⟨_, _, _, _, rfl, by decide, Option.some_ne_none _, rfl⟩
theorem zr_186_76 : zRow xM 186 76 = some (3, .iload_n 1, 77, 1, 0) := rfl
theorem zr_186_77 : zRow xM 186 77 = some (18, .imul, 78, 0, 0) := rfl
theorem zr_186_78 : zRow xM 186 78 = some (3, .iload_n 2, 79, 2, 0) := rfl
theorem zr_186_79 : zRow xM 186 79 = some (16, .iadd, 80, 0, 0) := rfl
theorem zr_186_80 : zRow xM 186 80 = some (48, .iaload, 81, 0, 0) := rfl
theorem zr_186_81 : zRow xM 186 81 = some (38, .ineg, 82, 0, 0) := rfl
theorem zr_186_82 : zRow xM 186 82 = some (42, .goto 14, 83, 96, 0) := rfl
theorem zr_186_85 : zRow xM 186 85 = some (7, .aload_n 0, 86, 0, 0) := rfl
theorem zr_186_86 : zRow xM 186 86 = some (46, .getfield 46, 89, 9, 20) := rfl
theorem zr_186_89 : zRp 186 89 91 (0, 10) := ⟨_, _, _, _, rfl, by decide, Option.some_ne_none _, rfl⟩
theorem zr_186_91 : zRow xM 186 91 = some (3, .iload_n 2, 92, 2, 0) := rfl
theorem zr_186_92 : zRow xM 186 92 = some (18, .imul, 93, 0, 0) := rfl
theorem zr_186_93 : zRow xM 186 93 = some (3, .iload_n 1, 94, 1, 0) := rfl
theorem zr_186_94 : zRow xM 186 94 = some (16, .iadd, 95, 0, 0) := rfl
theorem zr_186_95 : zRow xM 186 95 = some (48, .iaload, 96, 0, 0) := rfl
theorem zr_186_96 : zRow xM 186 96 = some (108, .ireturn, 97, 0, 0) := rfl
theorem zm_187 : zMt xM 187 = some (4, (some .long), 1, 0, 0) := rfl
theorem zr_187_0 : zRow xM 187 0 = some (7, .aload_n 0, 1, 0, 0) := rfl
theorem zr_187_1 : zRp 187 1 2 (0, -1) := ⟨_, _, _, _, rfl, by decide, Option.some_ne_none _, rfl⟩
theorem zr_187_2 : zRp 187 2 3 (0, -1) := ⟨_, _, _, _, rfl, by decide, Option.some_ne_none _, rfl⟩
theorem zr_187_3 : zRp 187 3 4 (0, -1) := ⟨_, _, _, _, rfl, by decide, Option.some_ne_none _, rfl⟩
theorem zr_187_4 : zRow xM 187 4 = some (105, .invokevirtual 222, 7, 184, 9) := rfl
theorem zr_187_7 : zRow xM 187 7 = some (40, .ifCond .eq 5, 10, 12, 1) := rfl
theorem zr_187_10 : zRp 187 10 11 (1, 0) := ⟨_, _, _, _, rfl, by decide, Option.some_ne_none _, rfl⟩
theorem zr_187_11 : zRow xM 187 11 = some (109, .lreturn, 12, 0, 0) := rfl
theorem zr_187_12 : zRp 187 12 13 (0, 0) := ⟨_, _, _, _, rfl, by decide, Option.some_ne_none _, rfl⟩
theorem zr_187_13 : zRow xM 187 13 = some (9, .istore_n 1, 14, 1, 0) := rfl
theorem zr_187_14 : zRow xM 187 14 = some (3, .iload_n 1, 15, 1, 0) := rfl
theorem zr_187_15 : zRow xM 187 15 = some (7, .aload_n 0, 16, 0, 0) := rfl
theorem zr_187_16 : zRow xM 187 16 = some (105, .invokevirtual 73, 19, 142, 9) := rfl
theorem zr_187_19 : zRow xM 187 19 = some (41, .if_icmp .ge 31, 22, 50, 3) := rfl
theorem zr_187_22 : zRow xM 187 22 = some (7, .aload_n 0, 23, 0, 0) := rfl
theorem zr_187_23 : zRow xM 187 23 = some (3, .iload_n 1, 24, 1, 0) := rfl
theorem zr_187_24 : zRow xM 187 24 = some (105, .invokevirtual 212, 27, 181, 9) := rfl
theorem zr_187_27 : zRow xM 187 27 = some (40, .ifCond .eq 17, 30, 44, 1) := rfl
theorem zr_187_30 : zRow xM 187 30 = some (7, .aload_n 0, 31, 0, 0) := rfl
theorem zr_187_31 : zRow xM 187 31 = some (3, .iload_n 1, 32, 1, 0) := rfl
theorem zr_187_32 : zRp 187 32 33 (0, -1) := ⟨_, _, _, _, rfl, by decide, Option.some_ne_none _, rfl⟩
theorem zr_187_33 : zRp 187 33 34 (0, -1) := ⟨_, _, _, _, rfl, by decide, Option.some_ne_none _, rfl⟩
theorem zr_187_34 : zRow xM 187 34 = some (105, .invokevirtual 222, 37, 184, 9) := rfl
theorem zr_187_37 : zRow xM 187 37 = some (40, .ifCond .eq 7, 40, 44, 1) := rfl
theorem zr_187_40 : zRp 187 40 41 (1, 1) := ⟨_, _, _, _, rfl, by decide, Option.some_ne_none _, rfl⟩
theorem zr_187_41 : zRow xM 187 41 = some (3, .iload_n 1, 42, 1, 0) := rfl
theorem zr_187_42 : zRow xM 187 42 = some (33, .lshl, 43, 0, 0) := rfl
theorem zr_187_43 : zRow xM 187 43 = some (109, .lreturn, 44, 0, 0) := rfl
theorem zr_187_44 : zRow xM 187 44 = some (15, .iinc 1 1, 47, 1, 1) := rfl
theorem zr_187_47 : zRow xM 187 47 = some (42, .goto (-33), 48, 14, 0) := rfl
theorem zr_187_50 : zRp 187 50 51 (0, 0) := ⟨_, _, _, _, rfl, by decide, Option.some_ne_none _, rfl⟩
theorem zr_187_51 : zRow xM 187 51 = some (9, .istore_n 1, 52, 1, 0) := rfl
theorem zr_187_52 : zRow xM 187 52 = some (3, .iload_n 1, 53, 1, 0) := rfl
theorem zr_187_53 : zRow xM 187 53 = some (7, .aload_n 0, 54, 0, 0) := rfl
theorem zr_187_54 : zRow xM 187 54 = some (105, .invokevirtual 73, 57, 142, 9) := rfl
theorem zr_187_57 : zRow xM 187 57 = some (41, .if_icmp .ge 56, 60, 113, 3) := rfl
theorem zr_187_60 : zRp 187 60 61 (0, 0) := ⟨_, _, _, _, rfl, by decide, Option.some_ne_none _, rfl⟩
theorem zr_187_61 : zRow xM 187 61 = some (9, .istore_n 2, 62, 2, 0) := rfl
theorem zr_187_62 : zRow xM 187 62 = some (3, .iload_n 2, 63, 2, 0) := rfl
theorem zr_187_63 : zRow xM 187 63 = some (3, .iload_n 1, 64, 1, 0) := rfl
theorem zr_187_64 : zRow xM 187 64 = some (41, .if_icmp .ge 43, 67, 107, 3) := rfl
theorem zr_187_67 : zRow xM 187 67 = some (7, .aload_n 0, 68, 0, 0) := rfl
theorem zr_187_68 : zRow xM 187 68 = some (3, .iload_n 2, 69, 2, 0) := rfl
theorem zr_187_69 : zRow xM 187 69 = some (105, .invokevirtual 212, 72, 181, 9) := rfl
theorem zr_187_72 : zRow xM 187 72 = some (40, .ifCond .eq 29, 75, 101, 1) := rfl
theorem zr_187_75 : zRow xM 187 75 = some (7, .aload_n 0, 76, 0, 0) := rfl
theorem zr_187_76 : zRow xM 187 76 = some (3, .iload_n 1, 77, 1, 0) := rfl
theorem zr_187_77 : zRow xM 187 77 = some (105, .invokevirtual 212, 80, 181, 9) := rfl
theorem zr_187_80 : zRow xM 187 80 = some (40, .ifCond .eq 21, 83, 101, 1) := rfl
theorem zr_187_83 : zRow xM 187 83 = some (7, .aload_n 0, 84, 0, 0) := rfl
theorem zr_187_84 : zRow xM 187 84 = some (3, .iload_n 2, 85, 2, 0) := rfl
theorem zr_187_85 : zRow xM 187 85 = some (3, .iload_n 1, 86, 1, 0) := rfl
theorem zr_187_86 : zRp 187 86 87 (0, -1) := ⟨_, _, _, _, rfl, by decide, Option.some_ne_none _, rfl⟩
theorem zr_187_87 : zRow xM 187 87 = some (105, .invokevirtual 222, 90, 184, 9) := rfl
theorem zr_187_90 : zRow xM 187 90 = some (40, .ifCond .eq 11, 93, 101, 1) := rfl
theorem zr_187_93 : zRp 187 93 94 (1, 1) := ⟨_, _, _, _, rfl, by decide, Option.some_ne_none _, rfl⟩
theorem zr_187_94 : zRow xM 187 94 = some (3, .iload_n 2, 95, 2, 0) := rfl
theorem zr_187_95 : zRow xM 187 95 = some (33, .lshl, 96, 0, 0) := rfl
theorem zr_187_96 : zRp 187 96 97 (1, 1) := ⟨_, _, _, _, rfl, by decide, Option.some_ne_none _, rfl⟩
theorem zr_187_97 : zRow xM 187 97 = some (3, .iload_n 1, 98, 1, 0) := rfl
theorem zr_187_98 : zRow xM 187 98 = some (33, .lshl, 99, 0, 0) := rfl
theorem zr_187_99 : zRow xM 187 99 = some (31, .lor, 100, 0, 0) := rfl
theorem zr_187_100 : zRow xM 187 100 = some (109, .lreturn, 101, 0, 0) := rfl
theorem zr_187_101 : zRow xM 187 101 = some (15, .iinc 2 1, 104, 2, 1) := rfl
theorem zr_187_104 : zRow xM 187 104 = some (42, .goto (-42), 105, 62, 0) := rfl
theorem zr_187_107 : zRow xM 187 107 = some (15, .iinc 1 1, 110, 1, 1) := rfl
theorem zr_187_110 : zRow xM 187 110 = some (42, .goto (-58), 111, 52, 0) := rfl
theorem zr_187_113 : zRp 187 113 114 (0, 0) := ⟨_, _, _, _, rfl, by decide, Option.some_ne_none _, rfl⟩
theorem zr_187_114 : zRow xM 187 114 = some (9, .istore_n 1, 115, 1, 0) := rfl
theorem zr_187_115 : zRow xM 187 115 = some (3, .iload_n 1, 116, 1, 0) := rfl
theorem zr_187_116 : zRow xM 187 116 = some (7, .aload_n 0, 117, 0, 0) := rfl
theorem zr_187_117 : zRow xM 187 117 = some (105, .invokevirtual 73, 120, 142, 9) := rfl
theorem zr_187_120 : zRow xM 187 120 = some (41, .if_icmp .ge 81, 123, 201, 3) := rfl
theorem zr_187_123 : zRp 187 123 124 (0, 0) := ⟨_, _, _, _, rfl, by decide, Option.some_ne_none _, rfl⟩
theorem zr_187_124 : zRow xM 187 124 = some (9, .istore_n 2, 125, 2, 0) := rfl
theorem zr_187_125 : zRow xM 187 125 = some (3, .iload_n 2, 126, 2, 0) := rfl
theorem zr_187_126 : zRow xM 187 126 = some (3, .iload_n 1, 127, 1, 0) := rfl
theorem zr_187_127 : zRow xM 187 127 = some (41, .if_icmp .ge 68, 130, 195, 3) := rfl
theorem zr_187_130 : zRp 187 130 131 (0, 0) := ⟨_, _, _, _, rfl, by decide, Option.some_ne_none _, rfl⟩
theorem zr_187_131 : zRow xM 187 131 = some (9, .istore_n 3, 132, 3, 0) := rfl
theorem zr_187_132 : zRow xM 187 132 = some (3, .iload_n 3, 133, 3, 0) := rfl
theorem zr_187_133 : zRow xM 187 133 = some (3, .iload_n 2, 134, 2, 0) := rfl
theorem zr_187_134 : zRow xM 187 134 = some (41, .if_icmp .ge 55, 137, 189, 3) := rfl
theorem zr_187_137 : zRow xM 187 137 = some (7, .aload_n 0, 138, 0, 0) := rfl
theorem zr_187_138 : zRow xM 187 138 = some (3, .iload_n 3, 139, 3, 0) := rfl
theorem zr_187_139 : zRow xM 187 139 = some (105, .invokevirtual 212, 142, 181, 9) := rfl
theorem zr_187_142 : zRow xM 187 142 = some (40, .ifCond .eq 41, 145, 183, 1) := rfl
theorem zr_187_145 : zRow xM 187 145 = some (7, .aload_n 0, 146, 0, 0) := rfl
theorem zr_187_146 : zRow xM 187 146 = some (3, .iload_n 2, 147, 2, 0) := rfl
theorem zr_187_147 : zRow xM 187 147 = some (105, .invokevirtual 212, 150, 181, 9) := rfl
theorem zr_187_150 : zRow xM 187 150 = some (40, .ifCond .eq 33, 153, 183, 1) := rfl
theorem zr_187_153 : zRow xM 187 153 = some (7, .aload_n 0, 154, 0, 0) := rfl
theorem zr_187_154 : zRow xM 187 154 = some (3, .iload_n 1, 155, 1, 0) := rfl
theorem zr_187_155 : zRow xM 187 155 = some (105, .invokevirtual 212, 158, 181, 9) := rfl
theorem zr_187_158 : zRow xM 187 158 = some (40, .ifCond .eq 25, 161, 183, 1) := rfl
theorem zr_187_161 : zRow xM 187 161 = some (7, .aload_n 0, 162, 0, 0) := rfl
theorem zr_187_162 : zRow xM 187 162 = some (3, .iload_n 3, 163, 3, 0) := rfl
theorem zr_187_163 : zRow xM 187 163 = some (3, .iload_n 2, 164, 2, 0) := rfl
theorem zr_187_164 : zRow xM 187 164 = some (3, .iload_n 1, 165, 1, 0) := rfl
theorem zr_187_165 : zRow xM 187 165 = some (105, .invokevirtual 222, 168, 184, 9) := rfl
theorem zr_187_168 : zRow xM 187 168 = some (40, .ifCond .eq 15, 171, 183, 1) := rfl
theorem zr_187_171 : zRp 187 171 172 (1, 1) := ⟨_, _, _, _, rfl, by decide, Option.some_ne_none _, rfl⟩
theorem zr_187_172 : zRow xM 187 172 = some (3, .iload_n 3, 173, 3, 0) := rfl
theorem zr_187_173 : zRow xM 187 173 = some (33, .lshl, 174, 0, 0) := rfl
theorem zr_187_174 : zRp 187 174 175 (1, 1) := ⟨_, _, _, _, rfl, by decide, Option.some_ne_none _, rfl⟩
theorem zr_187_175 : zRow xM 187 175 = some (3, .iload_n 2, 176, 2, 0) := rfl
theorem zr_187_176 : zRow xM 187 176 = some (33, .lshl, 177, 0, 0) := rfl
theorem zr_187_177 : zRow xM 187 177 = some (31, .lor, 178, 0, 0) := rfl
theorem zr_187_178 : zRp 187 178 179 (1, 1) := ⟨_, _, _, _, rfl, by decide, Option.some_ne_none _, rfl⟩
theorem zr_187_179 : zRow xM 187 179 = some (3, .iload_n 1, 180, 1, 0) := rfl
theorem zr_187_180 : zRow xM 187 180 = some (33, .lshl, 181, 0, 0) := rfl
theorem zr_187_181 : zRow xM 187 181 = some (31, .lor, 182, 0, 0) := rfl
theorem zr_187_182 : zRow xM 187 182 = some (109, .lreturn, 183, 0, 0) := rfl
theorem zr_187_183 : zRow xM 187 183 = some (15, .iinc 3 1, 186, 3, 1) := rfl
theorem zr_187_186 : zRow xM 187 186 = some (42, .goto (-54), 187, 132, 0) := rfl
theorem zr_187_189 : zRow xM 187 189 = some (15, .iinc 2 1, 192, 2, 1) := rfl
theorem zr_187_192 : zRow xM 187 192 = some (42, .goto (-67), 193, 125, 0) := rfl
theorem zr_187_195 : zRow xM 187 195 = some (15, .iinc 1 1, 198, 1, 1) := rfl
theorem zr_187_198 : zRow xM 187 198 = some (42, .goto (-83), 199, 115, 0) := rfl
theorem zr_187_201 : zRp 187 201 204 (1, -5) := ⟨_, _, _, _, rfl, by decide, Option.some_ne_none _, rfl⟩
theorem zr_187_204 : zRow xM 187 204 = some (109, .lreturn, 205, 0, 0) := rfl
theorem zm_188 : zMt xM 188 = some (7, none, 3, 0, 0) := rfl
theorem zr_188_0 : zRp 188 0 1 (0, 0) := ⟨_, _, _, _, rfl, by decide, Option.some_ne_none _, rfl⟩
theorem zr_188_1 : zRow xM 188 1 = some (9, .istore_n 3, 2, 3, 0) := rfl
theorem zr_188_2 : zRow xM 188 2 = some (3, .iload_n 3, 3, 3, 0) := rfl
theorem zr_188_3 : zRp 188 3 5 (0, 10) := ⟨_, _, _, _, rfl, by decide, Option.some_ne_none _, rfl⟩
theorem zr_188_5 : zRow xM 188 5 = some (41, .if_icmp .ge 26, 8, 31, 3) := rfl
theorem zr_188_8 : zRow xM 188 8 = some (7, .aload_n 0, 9, 0, 0) := rfl
theorem zr_188_9 : zRow xM 188 9 = some (46, .getfield 49, 12, 9, 21) := rfl
theorem zr_188_12 : zRow xM 188 12 = some (3, .iload_n 3, 13, 3, 0) := rfl
theorem zr_188_13 : zRow xM 188 13 = some (3, .iload_n 3, 14, 3, 0) := rfl
theorem zr_188_14 : zRow xM 188 14 = some (3, .iload_n 1, 15, 1, 0) := rfl
theorem zr_188_15 : zRow xM 188 15 = some (41, .if_icmp .ne 7, 18, 22, 4) := rfl
theorem zr_188_18 : zRp 188 18 19 (0, 0) := ⟨_, _, _, _, rfl, by decide, Option.some_ne_none _, rfl⟩
theorem zr_188_19 : zRow xM 188 19 = some (42, .goto 5, 20, 24, 0) := rfl
theorem zr_188_22 : zRp 188 22 24 (0, 100000000) := ⟨_, _, _, _, rfl, by decide, Option.some_ne_none _, rfl⟩
theorem zr_188_24 : zRow xM 188 24 = some (49, .iastore, 25, 0, 0) := rfl
theorem zr_188_25 : zRow xM 188 25 = some (15, .iinc 3 1, 28, 3, 1) := rfl
theorem zr_188_28 : zRow xM 188 28 = some (42, .goto (-26), 29, 2, 0) := rfl
theorem zr_188_31 : zRp 188 31 32 (0, 0) := ⟨_, _, _, _, rfl, by decide, Option.some_ne_none _, rfl⟩
theorem zr_188_32 : zRow xM 188 32 = some (9, .istore_n 3, 33, 3, 0) := rfl
theorem zr_188_33 : zRow xM 188 33 = some (3, .iload_n 3, 34, 3, 0) := rfl
theorem zr_188_34 : zRp 188 34 36 (0, 10) := ⟨_, _, _, _, rfl, by decide, Option.some_ne_none _, rfl⟩
theorem zr_188_36 : zRow xM 188 36 = some (41, .if_icmp .ge 150, 39, 186, 3) := rfl
theorem zr_188_39 : zRp 188 39 40 (0, 0) := ⟨_, _, _, _, rfl, by decide, Option.some_ne_none _, rfl⟩
theorem zr_188_40 : zRow xM 188 40 = some (10, .istore 4, 42, 4, 0) := rfl
theorem zr_188_42 : zRow xM 188 42 = some (4, .iload 4, 44, 4, 0) := rfl
theorem zr_188_44 : zRow xM 188 44 = some (7, .aload_n 0, 45, 0, 0) := rfl
theorem zr_188_45 : zRow xM 188 45 = some (105, .invokevirtual 73, 48, 142, 9) := rfl
theorem zr_188_48 : zRow xM 188 48 = some (41, .if_icmp .ge 132, 51, 180, 3) := rfl
theorem zr_188_51 : zRow xM 188 51 = some (7, .aload_n 0, 52, 0, 0) := rfl
theorem zr_188_52 : zRow xM 188 52 = some (4, .iload 4, 54, 4, 0) := rfl
theorem zr_188_54 : zRow xM 188 54 = some (105, .invokevirtual 212, 57, 181, 9) := rfl
theorem zr_188_57 : zRow xM 188 57 = some (40, .ifCond .eq 117, 60, 174, 1) := rfl
theorem zr_188_60 : zRow xM 188 60 = some (4, .iload 4, 62, 4, 0) := rfl
theorem zr_188_62 : zRow xM 188 62 = some (3, .iload_n 2, 63, 2, 0) := rfl
theorem zr_188_63 : zRow xM 188 63 = some (41, .if_icmp .eq 111, 66, 174, 1) := rfl
theorem zr_188_66 : zRow xM 188 66 = some (7, .aload_n 0, 67, 0, 0) := rfl
theorem zr_188_67 : zRow xM 188 67 = some (4, .iload 4, 69, 4, 0) := rfl
theorem zr_188_69 : zRp 188 69 70 (0, 1) := ⟨_, _, _, _, rfl, by decide, Option.some_ne_none _, rfl⟩
theorem zr_188_70 : zRow xM 188 70 = some (105, .invokevirtual 76, 73, 144, 9) := rfl
theorem zr_188_73 : zRow xM 188 73 = some (10, .istore 5, 75, 5, 0) := rfl
theorem zr_188_75 : zRow xM 188 75 = some (7, .aload_n 0, 76, 0, 0) := rfl
theorem zr_188_76 : zRow xM 188 76 = some (4, .iload 4, 78, 4, 0) := rfl
theorem zr_188_78 : zRp 188 78 79 (0, 2) := ⟨_, _, _, _, rfl, by decide, Option.some_ne_none _, rfl⟩
theorem zr_188_79 : zRow xM 188 79 = some (105, .invokevirtual 76, 82, 144, 9) := rfl
theorem zr_188_82 : zRow xM 188 82 = some (10, .istore 6, 84, 6, 0) := rfl
theorem zr_188_84 : zRow xM 188 84 = some (7, .aload_n 0, 85, 0, 0) := rfl
theorem zr_188_85 : zRow xM 188 85 = some (46, .getfield 49, 88, 9, 21) := rfl
theorem zr_188_88 : zRow xM 188 88 = some (4, .iload 5, 90, 5, 0) := rfl
theorem zr_188_90 : zRow xM 188 90 = some (7, .aload_n 0, 91, 0, 0) := rfl
theorem zr_188_91 : zRow xM 188 91 = some (46, .getfield 49, 94, 9, 21) := rfl
theorem zr_188_94 : zRow xM 188 94 = some (4, .iload 6, 96, 6, 0) := rfl
theorem zr_188_96 : zRow xM 188 96 = some (48, .iaload, 97, 0, 0) := rfl
theorem zr_188_97 : zRp 188 97 98 (0, 1) := ⟨_, _, _, _, rfl, by decide, Option.some_ne_none _, rfl⟩
theorem zr_188_98 : zRow xM 188 98 = some (16, .iadd, 99, 0, 0) := rfl
theorem zr_188_99 : zRow xM 188 99 = some (7, .aload_n 0, 100, 0, 0) := rfl
theorem zr_188_100 : zRow xM 188 100 = some (46, .getfield 49, 103, 9, 21) := rfl
theorem zr_188_103 : zRow xM 188 103 = some (4, .iload 5, 105, 5, 0) := rfl
theorem zr_188_105 : zRow xM 188 105 = some (48, .iaload, 106, 0, 0) := rfl
theorem zr_188_106 : zRow xM 188 106 = some (41, .if_icmp .ge 15, 109, 121, 3) := rfl
theorem zr_188_109 : zRow xM 188 109 = some (7, .aload_n 0, 110, 0, 0) := rfl
theorem zr_188_110 : zRow xM 188 110 = some (46, .getfield 49, 113, 9, 21) := rfl
theorem zr_188_113 : zRow xM 188 113 = some (4, .iload 6, 115, 6, 0) := rfl
theorem zr_188_115 : zRow xM 188 115 = some (48, .iaload, 116, 0, 0) := rfl
theorem zr_188_116 : zRp 188 116 117 (0, 1) := ⟨_, _, _, _, rfl, by decide, Option.some_ne_none _, rfl⟩
theorem zr_188_117 : zRow xM 188 117 = some (16, .iadd, 118, 0, 0) := rfl
theorem zr_188_118 : zRow xM 188 118 = some (42, .goto 10, 119, 128, 0) := rfl
theorem zr_188_121 : zRow xM 188 121 = some (7, .aload_n 0, 122, 0, 0) := rfl
theorem zr_188_122 : zRow xM 188 122 = some (46, .getfield 49, 125, 9, 21) := rfl
theorem zr_188_125 : zRow xM 188 125 = some (4, .iload 5, 127, 5, 0) := rfl
theorem zr_188_127 : zRow xM 188 127 = some (48, .iaload, 128, 0, 0) := rfl
theorem zr_188_128 : zRow xM 188 128 = some (49, .iastore, 129, 0, 0) := rfl
theorem zr_188_129 : zRow xM 188 129 = some (7, .aload_n 0, 130, 0, 0) := rfl
theorem zr_188_130 : zRow xM 188 130 = some (46, .getfield 49, 133, 9, 21) := rfl
theorem zr_188_133 : zRow xM 188 133 = some (4, .iload 6, 135, 6, 0) := rfl
theorem zr_188_135 : zRow xM 188 135 = some (7, .aload_n 0, 136, 0, 0) := rfl
theorem zr_188_136 : zRow xM 188 136 = some (46, .getfield 49, 139, 9, 21) := rfl
theorem zr_188_139 : zRow xM 188 139 = some (4, .iload 5, 141, 5, 0) := rfl
theorem zr_188_141 : zRow xM 188 141 = some (48, .iaload, 142, 0, 0) := rfl
theorem zr_188_142 : zRp 188 142 143 (0, 1) := ⟨_, _, _, _, rfl, by decide, Option.some_ne_none _, rfl⟩
theorem zr_188_143 : zRow xM 188 143 = some (16, .iadd, 144, 0, 0) := rfl
theorem zr_188_144 : zRow xM 188 144 = some (7, .aload_n 0, 145, 0, 0) := rfl
theorem zr_188_145 : zRow xM 188 145 = some (46, .getfield 49, 148, 9, 21) := rfl
theorem zr_188_148 : zRow xM 188 148 = some (4, .iload 6, 150, 6, 0) := rfl
theorem zr_188_150 : zRow xM 188 150 = some (48, .iaload, 151, 0, 0) := rfl
theorem zr_188_151 : zRow xM 188 151 = some (41, .if_icmp .ge 15, 154, 166, 3) := rfl
theorem zr_188_154 : zRow xM 188 154 = some (7, .aload_n 0, 155, 0, 0) := rfl
theorem zr_188_155 : zRow xM 188 155 = some (46, .getfield 49, 158, 9, 21) := rfl
theorem zr_188_158 : zRow xM 188 158 = some (4, .iload 5, 160, 5, 0) := rfl
theorem zr_188_160 : zRow xM 188 160 = some (48, .iaload, 161, 0, 0) := rfl
theorem zr_188_161 : zRp 188 161 162 (0, 1) := ⟨_, _, _, _, rfl, by decide, Option.some_ne_none _, rfl⟩
theorem zr_188_162 : zRow xM 188 162 = some (16, .iadd, 163, 0, 0) := rfl
theorem zr_188_163 : zRow xM 188 163 = some (42, .goto 10, 164, 173, 0) := rfl
theorem zr_188_166 : zRow xM 188 166 = some (7, .aload_n 0, 167, 0, 0) := rfl
theorem zr_188_167 : zRow xM 188 167 = some (46, .getfield 49, 170, 9, 21) := rfl
theorem zr_188_170 : zRow xM 188 170 = some (4, .iload 6, 172, 6, 0) := rfl
theorem zr_188_172 : zRow xM 188 172 = some (48, .iaload, 173, 0, 0) := rfl
theorem zr_188_173 : zRow xM 188 173 = some (49, .iastore, 174, 0, 0) := rfl
theorem zr_188_174 : zRow xM 188 174 = some (15, .iinc 4 1, 177, 4, 1) := rfl
theorem zr_188_177 : zRow xM 188 177 = some (42, .goto (-135), 178, 42, 0) := rfl
theorem zr_188_180 : zRow xM 188 180 = some (15, .iinc 3 1, 183, 3, 1) := rfl
theorem zr_188_183 : zRow xM 188 183 = some (42, .goto (-150), 184, 33, 0) := rfl
theorem zr_188_186 : zRow xM 188 186 = some (110, .return_, 187, 0, 0) := rfl
theorem zm_189 : zMt xM 189 = some (3, (some .int), 2, 0, 0) := rfl
theorem zr_189_0 : zRow xM 189 0 = some (7, .aload_n 0, 1, 0, 0) := rfl
theorem zr_189_1 : zRow xM 189 1 = some (3, .iload_n 1, 2, 1, 0) := rfl
theorem zr_189_2 : zRp 189 2 3 (0, -1) := ⟨_, _, _, _, rfl, by decide, Option.some_ne_none _, rfl⟩
theorem zr_189_3 : zRow xM 189 3 = some (105, .invokevirtual 230, 6, 188, 9) := rfl
theorem zr_189_6 : zRp 189 6 7 (0, 0) := ⟨_, _, _, _, rfl, by decide, Option.some_ne_none _, rfl⟩
theorem zr_189_7 : zRow xM 189 7 = some (9, .istore_n 2, 8, 2, 0) := rfl
theorem zr_189_8 : zRow xM 189 8 = some (7, .aload_n 0, 9, 0, 0) := rfl
theorem zr_189_9 : zRow xM 189 9 = some (46, .getfield 49, 12, 9, 21) := rfl
theorem zr_189_12 : zRow xM 189 12 = some (3, .iload_n 2, 13, 2, 0) := rfl
theorem zr_189_13 : zRow xM 189 13 = some (48, .iaload, 14, 0, 0) := rfl
theorem zr_189_14 : zRp 189 14 16 (0, 100000000) := ⟨_, _, _, _, rfl, by decide, Option.some_ne_none _, rfl⟩
theorem zr_189_16 : zRow xM 189 16 = some (41, .if_icmp .lt 9, 19, 25, 0) := rfl
theorem zr_189_19 : zRow xM 189 19 = some (15, .iinc 2 1, 22, 2, 1) := rfl
theorem zr_189_22 : zRow xM 189 22 = some (42, .goto (-14), 23, 8, 0) := rfl
theorem zr_189_25 : zRow xM 189 25 = some (3, .iload_n 2, 26, 2, 0) := rfl
theorem zr_189_26 : zRow xM 189 26 = some (108, .ireturn, 27, 0, 0) := rfl
theorem zm_190 : zMt xM 190 = some (4, (some .int), 2, 0, 0) := rfl
theorem zr_190_0 : zRow xM 190 0 = some (3, .iload_n 1, 1, 1, 0) := rfl
theorem zr_190_1 : zRp 190 1 2 (0, -1) := ⟨_, _, _, _, rfl, by decide, Option.some_ne_none _, rfl⟩
theorem zr_190_2 : zRow xM 190 2 = some (41, .if_icmp .eq 14, 5, 16, 1) := rfl
theorem zr_190_5 : zRow xM 190 5 = some (7, .aload_n 0, 6, 0, 0) := rfl
theorem zr_190_6 : zRow xM 190 6 = some (3, .iload_n 1, 7, 1, 0) := rfl
theorem zr_190_7 : zRow xM 190 7 = some (105, .invokevirtual 80, 10, 143, 9) := rfl
theorem zr_190_10 : zRow xM 190 10 = some (40, .ifCond .ne 6, 13, 16, 4) := rfl
theorem zr_190_13 : zRp 190 13 15 (0, -2) := ⟨_, _, _, _, rfl, by decide, Option.some_ne_none _, rfl⟩
theorem zr_190_15 : zRow xM 190 15 = some (108, .ireturn, 16, 0, 0) := rfl
theorem zr_190_16 : zRow xM 190 16 = some (3, .iload_n 1, 17, 1, 0) := rfl
theorem zr_190_17 : zRp 190 17 18 (0, -1) := ⟨_, _, _, _, rfl, by decide, Option.some_ne_none _, rfl⟩
theorem zr_190_18 : zRow xM 190 18 = some (41, .if_icmp .eq 9, 21, 27, 1) := rfl
theorem zr_190_21 : zRow xM 190 21 = some (7, .aload_n 0, 22, 0, 0) := rfl
theorem zr_190_22 : zRow xM 190 22 = some (3, .iload_n 1, 23, 1, 0) := rfl
theorem zr_190_23 : zRow xM 190 23 = some (105, .invokevirtual 233, 26, 189, 9) := rfl
theorem zr_190_26 : zRow xM 190 26 = some (108, .ireturn, 27, 0, 0) := rfl
theorem zr_190_27 : zRp 190 27 28 (0, 0) := ⟨_, _, _, _, rfl, by decide, Option.some_ne_none _, rfl⟩
theorem zr_190_28 : zRow xM 190 28 = some (9, .istore_n 2, 29, 2, 0) := rfl
theorem zr_190_29 : zRp 190 29 30 (0, 0) := ⟨_, _, _, _, rfl, by decide, Option.some_ne_none _, rfl⟩
theorem zr_190_30 : zRow xM 190 30 = some (9, .istore_n 3, 31, 3, 0) := rfl
theorem zr_190_31 : zRow xM 190 31 = some (3, .iload_n 3, 32, 3, 0) := rfl
theorem zr_190_32 : zRow xM 190 32 = some (7, .aload_n 0, 33, 0, 0) := rfl
theorem zr_190_33 : zRow xM 190 33 = some (105, .invokevirtual 61, 36, 141, 9) := rfl
theorem zr_190_36 : zRow xM 190 36 = some (41, .if_icmp .ge 26, 39, 62, 3) := rfl
theorem zr_190_39 : zRow xM 190 39 = some (3, .iload_n 2, 40, 2, 0) := rfl
theorem zr_190_40 : zRow xM 190 40 = some (7, .aload_n 0, 41, 0, 0) := rfl
theorem zr_190_41 : zRow xM 190 41 = some (3, .iload_n 3, 42, 3, 0) := rfl
theorem zr_190_42 : zRow xM 190 42 = some (105, .invokevirtual 233, 45, 189, 9) := rfl
theorem zr_190_45 : zRow xM 190 45 = some (3, .iload_n 3, 46, 3, 0) := rfl
theorem zr_190_46 : zRow xM 190 46 = some (41, .if_icmp .ne 7, 49, 53, 4) := rfl
theorem zr_190_49 : zRp 190 49 50 (0, 1) := ⟨_, _, _, _, rfl, by decide, Option.some_ne_none _, rfl⟩
theorem zr_190_50 : zRow xM 190 50 = some (42, .goto 4, 51, 54, 0) := rfl
theorem zr_190_53 : zRp 190 53 54 (0, 0) := ⟨_, _, _, _, rfl, by decide, Option.some_ne_none _, rfl⟩
theorem zr_190_54 : zRow xM 190 54 = some (16, .iadd, 55, 0, 0) := rfl
theorem zr_190_55 : zRow xM 190 55 = some (9, .istore_n 2, 56, 2, 0) := rfl
theorem zr_190_56 : zRow xM 190 56 = some (15, .iinc 3 1, 59, 3, 1) := rfl
theorem zr_190_59 : zRow xM 190 59 = some (42, .goto (-28), 60, 31, 0) := rfl
theorem zr_190_62 : zRow xM 190 62 = some (3, .iload_n 2, 63, 2, 0) := rfl
theorem zr_190_63 : zRow xM 190 63 = some (108, .ireturn, 64, 0, 0) := rfl
theorem zm_191 : zMt xM 191 = some (10, (some .int), 4, 0, 0) := rfl
theorem zr_191_0 : zRow xM 191 0 = some (7, .aload_n 0, 1, 0, 0) := rfl
theorem zr_191_1 : zRow xM 191 1 = some (3, .iload_n 1, 2, 1, 0) := rfl
theorem zr_191_2 : zRow xM 191 2 = some (105, .invokevirtual 80, 5, 143, 9) := rfl
theorem zr_191_5 : zRow xM 191 5 = some (40, .ifCond .eq 16, 8, 21, 1) := rfl
theorem zr_191_8 : zRow xM 191 8 = some (7, .aload_n 0, 9, 0, 0) := rfl
theorem zr_191_9 : zRow xM 191 9 = some (3, .iload_n 2, 10, 2, 0) := rfl
theorem zr_191_10 : zRow xM 191 10 = some (105, .invokevirtual 80, 13, 143, 9) := rfl
theorem zr_191_13 : zRow xM 191 13 = some (40, .ifCond .eq 8, 16, 21, 1) := rfl
theorem zr_191_16 : zRow xM 191 16 = some (3, .iload_n 3, 17, 3, 0) := rfl
theorem zr_191_17 : zRp 191 17 18 (0, -1) := ⟨_, _, _, _, rfl, by decide, Option.some_ne_none _, rfl⟩
theorem zr_191_18 : zRow xM 191 18 = some (41, .if_icmp .ge 6, 21, 24, 3) := rfl
theorem zr_191_21 : zRp 191 21 23 (0, -10) := ⟨_, _, _, _, rfl, by decide, Option.some_ne_none _, rfl⟩
theorem zr_191_23 : zRow xM 191 23 = some (108, .ireturn, 24, 0, 0) := rfl
theorem zr_191_24 : zRow xM 191 24 = some (7, .aload_n 0, 25, 0, 0) := rfl
theorem zr_191_25 : zRow xM 191 25 = some (3, .iload_n 2, 26, 2, 0) := rfl
theorem zr_191_26 : zRp 191 26 27 (0, -1) := ⟨_, _, _, _, rfl, by decide, Option.some_ne_none _, rfl⟩
theorem zr_191_27 : zRow xM 191 27 = some (105, .invokevirtual 230, 30, 188, 9) := rfl
theorem zr_191_30 : zRow xM 191 30 = some (7, .aload_n 0, 31, 0, 0) := rfl
theorem zr_191_31 : zRow xM 191 31 = some (46, .getfield 49, 34, 9, 21) := rfl
theorem zr_191_34 : zRow xM 191 34 = some (3, .iload_n 1, 35, 1, 0) := rfl
theorem zr_191_35 : zRow xM 191 35 = some (48, .iaload, 36, 0, 0) := rfl
theorem zr_191_36 : zRp 191 36 38 (0, 100000000) := ⟨_, _, _, _, rfl, by decide, Option.some_ne_none _, rfl⟩
theorem zr_191_38 : zRow xM 191 38 = some (41, .if_icmp .lt 6, 41, 44, 0) := rfl
theorem zr_191_41 : zRp 191 41 43 (0, -5) := ⟨_, _, _, _, rfl, by decide, Option.some_ne_none _, rfl⟩
theorem zr_191_43 : zRow xM 191 43 = some (108, .ireturn, 44, 0, 0) := rfl
theorem zr_191_44 : zRow xM 191 44 = some (3, .iload_n 3, 45, 3, 0) := rfl
theorem zr_191_45 : zRp 191 45 46 (0, -1) := ⟨_, _, _, _, rfl, by decide, Option.some_ne_none _, rfl⟩
theorem zr_191_46 : zRow xM 191 46 = some (41, .if_icmp .ne 10, 49, 56, 4) := rfl
theorem zr_191_49 : zRow xM 191 49 = some (7, .aload_n 0, 50, 0, 0) := rfl
theorem zr_191_50 : zRow xM 191 50 = some (46, .getfield 49, 53, 9, 21) := rfl
theorem zr_191_53 : zRow xM 191 53 = some (3, .iload_n 1, 54, 1, 0) := rfl
theorem zr_191_54 : zRow xM 191 54 = some (48, .iaload, 55, 0, 0) := rfl
theorem zr_191_55 : zRow xM 191 55 = some (108, .ireturn, 56, 0, 0) := rfl
theorem zr_191_56 : zRow xM 191 56 = some (3, .iload_n 3, 57, 3, 0) := rfl
theorem zr_191_57 : zRow xM 191 57 = some (7, .aload_n 0, 58, 0, 0) := rfl
theorem zr_191_58 : zRow xM 191 58 = some (46, .getfield 49, 61, 9, 21) := rfl
theorem zr_191_61 : zRow xM 191 61 = some (3, .iload_n 1, 62, 1, 0) := rfl
theorem zr_191_62 : zRow xM 191 62 = some (48, .iaload, 63, 0, 0) := rfl
theorem zr_191_63 : zRow xM 191 63 = some (41, .if_icmp .lt 6, 66, 69, 0) := rfl
theorem zr_191_66 : zRp 191 66 68 (0, -5) := ⟨_, _, _, _, rfl, by decide, Option.some_ne_none _, rfl⟩
theorem zr_191_68 : zRow xM 191 68 = some (108, .ireturn, 69, 0, 0) := rfl
theorem zr_191_69 : zRow xM 191 69 = some (3, .iload_n 1, 70, 1, 0) := rfl
theorem zr_191_70 : zRow xM 191 70 = some (10, .istore 4, 72, 4, 0) := rfl
theorem zr_191_72 : zRp 191 72 73 (0, -1) := ⟨_, _, _, _, rfl, by decide, Option.some_ne_none _, rfl⟩
theorem zr_191_73 : zRow xM 191 73 = some (10, .istore 5, 75, 5, 0) := rfl
theorem zr_191_75 : zRp 191 75 76 (0, 0) := ⟨_, _, _, _, rfl, by decide, Option.some_ne_none _, rfl⟩
theorem zr_191_76 : zRow xM 191 76 = some (10, .istore 6, 78, 6, 0) := rfl
theorem zr_191_78 : zRow xM 191 78 = some (4, .iload 6, 80, 6, 0) := rfl
theorem zr_191_80 : zRow xM 191 80 = some (3, .iload_n 3, 81, 3, 0) := rfl
theorem zr_191_81 : zRow xM 191 81 = some (41, .if_icmp .gt 114, 84, 195, 2) := rfl
theorem zr_191_84 : zRp 191 84 85 (0, -1) := ⟨_, _, _, _, rfl, by decide, Option.some_ne_none _, rfl⟩
theorem zr_191_85 : zRow xM 191 85 = some (10, .istore 7, 87, 7, 0) := rfl
theorem zr_191_87 : zRp 191 87 88 (0, 0) := ⟨_, _, _, _, rfl, by decide, Option.some_ne_none _, rfl⟩
theorem zr_191_88 : zRow xM 191 88 = some (10, .istore 8, 90, 8, 0) := rfl
theorem zr_191_90 : zRow xM 191 90 = some (4, .iload 8, 92, 8, 0) := rfl
theorem zr_191_92 : zRow xM 191 92 = some (7, .aload_n 0, 93, 0, 0) := rfl
theorem zr_191_93 : zRow xM 191 93 = some (105, .invokevirtual 73, 96, 142, 9) := rfl
theorem zr_191_96 : zRow xM 191 96 = some (41, .if_icmp .ge 89, 99, 185, 3) := rfl
theorem zr_191_99 : zRow xM 191 99 = some (7, .aload_n 0, 100, 0, 0) := rfl
theorem zr_191_100 : zRow xM 191 100 = some (4, .iload 8, 102, 8, 0) := rfl
theorem zr_191_102 : zRow xM 191 102 = some (105, .invokevirtual 212, 105, 181, 9) := rfl
theorem zr_191_105 : zRow xM 191 105 = some (40, .ifCond .eq 74, 108, 179, 1) := rfl
theorem zr_191_108 : zRow xM 191 108 = some (7, .aload_n 0, 109, 0, 0) := rfl
theorem zr_191_109 : zRow xM 191 109 = some (4, .iload 8, 111, 8, 0) := rfl
theorem zr_191_111 : zRow xM 191 111 = some (4, .iload 4, 113, 4, 0) := rfl
theorem zr_191_113 : zRow xM 191 113 = some (105, .invokevirtual 183, 116, 171, 9) := rfl
theorem zr_191_116 : zRow xM 191 116 = some (40, .ifCond .eq 63, 119, 179, 1) := rfl
theorem zr_191_119 : zRow xM 191 119 = some (7, .aload_n 0, 120, 0, 0) := rfl
theorem zr_191_120 : zRow xM 191 120 = some (4, .iload 8, 122, 8, 0) := rfl
theorem zr_191_122 : zRp 191 122 123 (0, 1) := ⟨_, _, _, _, rfl, by decide, Option.some_ne_none _, rfl⟩
theorem zr_191_123 : zRow xM 191 123 = some (105, .invokevirtual 76, 126, 144, 9) := rfl
theorem zr_191_126 : zRow xM 191 126 = some (7, .aload_n 0, 127, 0, 0) := rfl
theorem zr_191_127 : zRow xM 191 127 = some (4, .iload 8, 129, 8, 0) := rfl
theorem zr_191_129 : zRp 191 129 130 (0, 2) := ⟨_, _, _, _, rfl, by decide, Option.some_ne_none _, rfl⟩
theorem zr_191_130 : zRow xM 191 130 = some (105, .invokevirtual 76, 133, 144, 9) := rfl
theorem zr_191_133 : zRow xM 191 133 = some (16, .iadd, 134, 0, 0) := rfl
theorem zr_191_134 : zRow xM 191 134 = some (4, .iload 4, 136, 4, 0) := rfl
theorem zr_191_136 : zRow xM 191 136 = some (17, .isub, 137, 0, 0) := rfl
theorem zr_191_137 : zRow xM 191 137 = some (10, .istore 9, 139, 9, 0) := rfl
theorem zr_191_139 : zRow xM 191 139 = some (7, .aload_n 0, 140, 0, 0) := rfl
theorem zr_191_140 : zRow xM 191 140 = some (46, .getfield 49, 143, 9, 21) := rfl
theorem zr_191_143 : zRow xM 191 143 = some (4, .iload 9, 145, 9, 0) := rfl
theorem zr_191_145 : zRow xM 191 145 = some (48, .iaload, 146, 0, 0) := rfl
theorem zr_191_146 : zRow xM 191 146 = some (7, .aload_n 0, 147, 0, 0) := rfl
theorem zr_191_147 : zRow xM 191 147 = some (46, .getfield 49, 150, 9, 21) := rfl
theorem zr_191_150 : zRow xM 191 150 = some (4, .iload 4, 152, 4, 0) := rfl
theorem zr_191_152 : zRow xM 191 152 = some (48, .iaload, 153, 0, 0) := rfl
theorem zr_191_153 : zRp 191 153 154 (0, 1) := ⟨_, _, _, _, rfl, by decide, Option.some_ne_none _, rfl⟩
theorem zr_191_154 : zRow xM 191 154 = some (17, .isub, 155, 0, 0) := rfl
theorem zr_191_155 : zRow xM 191 155 = some (41, .if_icmp .ne 24, 158, 179, 4) := rfl
theorem zr_191_158 : zRow xM 191 158 = some (4, .iload 7, 160, 7, 0) := rfl
theorem zr_191_160 : zRp 191 160 161 (0, -1) := ⟨_, _, _, _, rfl, by decide, Option.some_ne_none _, rfl⟩
theorem zr_191_161 : zRow xM 191 161 = some (41, .if_icmp .eq 10, 164, 171, 1) := rfl
theorem zr_191_164 : zRow xM 191 164 = some (4, .iload 9, 166, 9, 0) := rfl
theorem zr_191_166 : zRow xM 191 166 = some (4, .iload 7, 168, 7, 0) := rfl
theorem zr_191_168 : zRow xM 191 168 = some (41, .if_icmp .ge 11, 171, 179, 3) := rfl
theorem zr_191_171 : zRow xM 191 171 = some (4, .iload 9, 173, 9, 0) := rfl
theorem zr_191_173 : zRow xM 191 173 = some (10, .istore 7, 175, 7, 0) := rfl
theorem zr_191_175 : zRow xM 191 175 = some (4, .iload 8, 177, 8, 0) := rfl
theorem zr_191_177 : zRow xM 191 177 = some (10, .istore 5, 179, 5, 0) := rfl
theorem zr_191_179 : zRow xM 191 179 = some (15, .iinc 8 1, 182, 8, 1) := rfl
theorem zr_191_182 : zRow xM 191 182 = some (42, .goto (-92), 183, 90, 0) := rfl
theorem zr_191_185 : zRow xM 191 185 = some (4, .iload 7, 187, 7, 0) := rfl
theorem zr_191_187 : zRow xM 191 187 = some (10, .istore 4, 189, 4, 0) := rfl
theorem zr_191_189 : zRow xM 191 189 = some (15, .iinc 6 1, 192, 6, 1) := rfl
theorem zr_191_192 : zRow xM 191 192 = some (42, .goto (-114), 193, 78, 0) := rfl
theorem zr_191_195 : zRow xM 191 195 = some (4, .iload 5, 197, 5, 0) := rfl
theorem zr_191_197 : zRow xM 191 197 = some (108, .ireturn, 198, 0, 0) := rfl
theorem zm_192 : zMt xM 192 = some (4, (some .long), 1, 0, 0) := rfl
theorem zr_192_0 : zRp 192 0 1 (1, 0) := ⟨_, _, _, _, rfl, by decide, Option.some_ne_none _, rfl⟩
theorem zr_192_1 : zRow xM 192 1 = some (13, .lstore_n 1, 2, 1, 0) := rfl
theorem zr_192_2 : zRp 192 2 3 (0, 0) := ⟨_, _, _, _, rfl, by decide, Option.some_ne_none _, rfl⟩
theorem zr_192_3 : zRow xM 192 3 = some (9, .istore_n 3, 4, 3, 0) := rfl
theorem zr_192_4 : zRow xM 192 4 = some (3, .iload_n 3, 5, 3, 0) := rfl
theorem zr_192_5 : zRow xM 192 5 = some (7, .aload_n 0, 6, 0, 0) := rfl
theorem zr_192_6 : zRow xM 192 6 = some (105, .invokevirtual 73, 9, 142, 9) := rfl
theorem zr_192_9 : zRow xM 192 9 = some (41, .if_icmp .ge 54, 12, 63, 3) := rfl
theorem zr_192_12 : zRow xM 192 12 = some (7, .aload_n 0, 13, 0, 0) := rfl
theorem zr_192_13 : zRow xM 192 13 = some (3, .iload_n 3, 14, 3, 0) := rfl
theorem zr_192_14 : zRow xM 192 14 = some (105, .invokevirtual 212, 17, 181, 9) := rfl
theorem zr_192_17 : zRow xM 192 17 = some (40, .ifCond .eq 40, 20, 57, 1) := rfl
theorem zr_192_20 : zRow xM 192 20 = some (7, .aload_n 0, 21, 0, 0) := rfl
theorem zr_192_21 : zRow xM 192 21 = some (7, .aload_n 0, 22, 0, 0) := rfl
theorem zr_192_22 : zRow xM 192 22 = some (3, .iload_n 3, 23, 3, 0) := rfl
theorem zr_192_23 : zRp 192 23 24 (0, 1) := ⟨_, _, _, _, rfl, by decide, Option.some_ne_none _, rfl⟩
theorem zr_192_24 : zRow xM 192 24 = some (105, .invokevirtual 76, 27, 144, 9) := rfl
theorem zr_192_27 : zRow xM 192 27 = some (3, .iload_n 3, 28, 3, 0) := rfl
theorem zr_192_28 : zRow xM 192 28 = some (105, .invokevirtual 230, 31, 188, 9) := rfl
theorem zr_192_31 : zRow xM 192 31 = some (5, .lload_n 1, 32, 1, 0) := rfl
theorem zr_192_32 : zRow xM 192 32 = some (7, .aload_n 0, 33, 0, 0) := rfl
theorem zr_192_33 : zRow xM 192 33 = some (46, .getfield 49, 36, 9, 21) := rfl
theorem zr_192_36 : zRow xM 192 36 = some (7, .aload_n 0, 37, 0, 0) := rfl
theorem zr_192_37 : zRow xM 192 37 = some (3, .iload_n 3, 38, 3, 0) := rfl
theorem zr_192_38 : zRp 192 38 39 (0, 2) := ⟨_, _, _, _, rfl, by decide, Option.some_ne_none _, rfl⟩
theorem zr_192_39 : zRow xM 192 39 = some (105, .invokevirtual 76, 42, 144, 9) := rfl
theorem zr_192_42 : zRow xM 192 42 = some (48, .iaload, 43, 0, 0) := rfl
theorem zr_192_43 : zRp 192 43 45 (0, 100000000) := ⟨_, _, _, _, rfl, by decide, Option.some_ne_none _, rfl⟩
theorem zr_192_45 : zRow xM 192 45 = some (41, .if_icmp .lt 9, 48, 54, 0) := rfl
theorem zr_192_48 : zRp 192 48 49 (1, 1) := ⟨_, _, _, _, rfl, by decide, Option.some_ne_none _, rfl⟩
theorem zr_192_49 : zRow xM 192 49 = some (3, .iload_n 3, 50, 3, 0) := rfl
theorem zr_192_50 : zRow xM 192 50 = some (33, .lshl, 51, 0, 0) := rfl
theorem zr_192_51 : zRow xM 192 51 = some (42, .goto 4, 52, 55, 0) := rfl
theorem zr_192_54 : zRp 192 54 55 (1, 0) := ⟨_, _, _, _, rfl, by decide, Option.some_ne_none _, rfl⟩
theorem zr_192_55 : zRow xM 192 55 = some (31, .lor, 56, 0, 0) := rfl
theorem zr_192_56 : zRow xM 192 56 = some (13, .lstore_n 1, 57, 1, 0) := rfl
theorem zr_192_57 : zRow xM 192 57 = some (15, .iinc 3 1, 60, 3, 1) := rfl
theorem zr_192_60 : zRow xM 192 60 = some (42, .goto (-56), 61, 4, 0) := rfl
theorem zr_192_63 : zRow xM 192 63 = some (5, .lload_n 1, 64, 1, 0) := rfl
theorem zr_192_64 : zRow xM 192 64 = some (109, .lreturn, 65, 0, 0) := rfl
