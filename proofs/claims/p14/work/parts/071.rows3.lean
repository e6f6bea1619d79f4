theorem zm_116 : zMt xM 116 = some (3, (some .int), 3, 0, 0) := rfl
theorem zr_116_0 : zRow xM 116 0 = some (3, .iload_n 1, 1, 1, 0) := rfl
theorem zr_116_1 : zRp 116 1 2 (0, 1) := ⟨_, _, _, _, rfl, by decide, Option.some_ne_none _, rfl⟩
theorem zr_116_2 : zRp 116 2 5 (0, 1000) := ⟨_, _, _, _, rfl, by decide, Option.some_ne_none _, rfl⟩
theorem zr_116_5 : zRow xM 116 5 = some (107, .invokestatic 85, 8, 100, 0) := rfl
theorem zr_116_8 : zRow xM 116 8 = some (40, .ifCond .eq 14, 11, 22, 1) := rfl
theorem zr_116_11 : zRow xM 116 11 = some (3, .iload_n 2, 12, 2, 0) := rfl
theorem zr_116_12 : zRp 116 12 13 (0, 0) := ⟨_, _, _, _, rfl, by decide, Option.some_ne_none _, rfl⟩
theorem zr_116_13 : zRp 116 13 16 (0, 500) := ⟨_, _, _, _, rfl, by decide, Option.some_ne_none _, rfl⟩
theorem zr_116_16 : zRow xM 116 16 = some (107, .invokestatic 85, 19, 100, 0) := rfl
theorem zr_116_19 : zRow xM 116 19 = some (40, .ifCond .ne 6, 22, 25, 4) := rfl
theorem zr_116_22 : zRp 116 22 24 (0, -2) := ⟨_, _, _, _, rfl, by decide, Option.some_ne_none _, rfl⟩
theorem zr_116_24 : zRow xM 116 24 = some (108, .ireturn, 25, 0, 0) := rfl
theorem zr_116_25 : zRow xM 116 25 = some (7, .aload_n 0, 26, 0, 0) := rfl
theorem zr_116_26 : zRow xM 116 26 = some (46, .getfield 10, 29, 8, 0) := rfl
theorem zr_116_29 : zRow xM 116 29 = some (3, .iload_n 1, 30, 1, 0) := rfl
theorem zr_116_30 : zRow xM 116 30 = some (47, .putfield 171, 33, 4, 4) := rfl
theorem zr_116_33 : zRow xM 116 33 = some (7, .aload_n 0, 34, 0, 0) := rfl
theorem zr_116_34 : zRow xM 116 34 = some (46, .getfield 10, 37, 8, 0) := rfl
theorem zr_116_37 : zRow xM 116 37 = some (3, .iload_n 2, 38, 2, 0) := rfl
theorem zr_116_38 : zRow xM 116 38 = some (47, .putfield 174, 41, 4, 5) := rfl
theorem zr_116_41 : zRp 116 41 42 (0, 1) := ⟨_, _, _, _, rfl, by decide, Option.some_ne_none _, rfl⟩
theorem zr_116_42 : zRow xM 116 42 = some (108, .ireturn, 43, 0, 0) := rfl
theorem zm_117 : zMt xM 117 = some (1, (some .int), 1, 0, 0) := rfl
theorem zr_117_0 : zRow xM 117 0 = some (7, .aload_n 0, 1, 0, 0) := rfl
theorem zr_117_1 : zRow xM 117 1 = some (46, .getfield 52, 4, 8, 6) := rfl
theorem zr_117_4 : zRow xM 117 4 = some (105, .invokevirtual 177, 7, 84, 6) := rfl
theorem zr_117_7 : zRow xM 117 7 = some (40, .ifCond .eq 7, 10, 14, 1) := rfl
theorem zr_117_10 : zRp 117 10 11 (0, 0) := ⟨_, _, _, _, rfl, by decide, Option.some_ne_none _, rfl⟩
theorem zr_117_11 : zRow xM 117 11 = some (42, .goto 4, 12, 15, 0) := rfl
theorem zr_117_14 : zRp 117 14 15 (0, 1) := ⟨_, _, _, _, rfl, by decide, Option.some_ne_none _, rfl⟩
theorem zr_117_15 : zRow xM 117 15 = some (108, .ireturn, 16, 0, 0) := rfl
theorem zm_118 : zMt xM 118 = some (4, (some .int), 4, 0, 0) := rfl
theorem zr_118_0 : zRow xM 118 0 = some (7, .aload_n 0, 1, 0, 0) := rfl
theorem zr_118_1 : zRow xM 118 1 = some (46, .getfield 10, 4, 8, 0) := rfl
theorem zr_118_4 : zRow xM 118 4 = some (3, .iload_n 1, 5, 1, 0) := rfl
theorem zr_118_5 : zRow xM 118 5 = some (3, .iload_n 2, 6, 2, 0) := rfl
theorem zr_118_6 : zRow xM 118 6 = some (105, .invokevirtual 81, 9, 50, 4) := rfl
theorem zr_118_9 : zRow xM 118 9 = some (40, .ifCond .eq 12, 12, 21, 1) := rfl
theorem zr_118_12 : zRow xM 118 12 = some (3, .iload_n 3, 13, 3, 0) := rfl
theorem zr_118_13 : zRp 118 13 14 (0, 0) := ⟨_, _, _, _, rfl, by decide, Option.some_ne_none _, rfl⟩
theorem zr_118_14 : zRp 118 14 15 (0, 1) := ⟨_, _, _, _, rfl, by decide, Option.some_ne_none _, rfl⟩
theorem zr_118_15 : zRow xM 118 15 = some (107, .invokestatic 85, 18, 100, 0) := rfl
theorem zr_118_18 : zRow xM 118 18 = some (40, .ifCond .ne 6, 21, 24, 4) := rfl
theorem zr_118_21 : zRp 118 21 23 (0, -100000) := ⟨_, _, _, _, rfl, by decide, Option.some_ne_none _, rfl⟩
theorem zr_118_23 : zRow xM 118 23 = some (108, .ireturn, 24, 0, 0) := rfl
theorem zr_118_24 : zRow xM 118 24 = some (7, .aload_n 0, 25, 0, 0) := rfl
theorem zr_118_25 : zRow xM 118 25 = some (46, .getfield 52, 28, 8, 6) := rfl
theorem zr_118_28 : zRow xM 118 28 = some (105, .invokevirtual 177, 31, 84, 6) := rfl
theorem zr_118_31 : zRow xM 118 31 = some (40, .ifCond .ne 6, 34, 37, 4) := rfl
theorem zr_118_34 : zRp 118 34 36 (0, -200000) := ⟨_, _, _, _, rfl, by decide, Option.some_ne_none _, rfl⟩
theorem zr_118_36 : zRow xM 118 36 = some (108, .ireturn, 37, 0, 0) := rfl
theorem zr_118_37 : zRow xM 118 37 = some (7, .aload_n 0, 38, 0, 0) := rfl
theorem zr_118_38 : zRow xM 118 38 = some (46, .getfield 59, 41, 8, 7) := rfl
theorem zr_118_41 : zRow xM 118 41 = some (3, .iload_n 1, 42, 1, 0) := rfl
theorem zr_118_42 : zRow xM 118 42 = some (3, .iload_n 2, 43, 2, 0) := rfl
theorem zr_118_43 : zRow xM 118 43 = some (105, .invokevirtual 181, 46, 68, 5) := rfl
theorem zr_118_46 : zRow xM 118 46 = some (40, .ifCond .ne 6, 49, 52, 4) := rfl
theorem zr_118_49 : zRp 118 49 51 (0, -300000) := ⟨_, _, _, _, rfl, by decide, Option.some_ne_none _, rfl⟩
theorem zr_118_51 : zRow xM 118 51 = some (108, .ireturn, 52, 0, 0) := rfl
theorem zr_118_52 : zRow xM 118 52 = some (3, .iload_n 3, 53, 3, 0) := rfl
theorem zr_118_53 : zRow xM 118 53 = some (40, .ifCond .ne 16, 56, 69, 4) := rfl
theorem zr_118_56 : zRow xM 118 56 = some (7, .aload_n 0, 57, 0, 0) := rfl
theorem zr_118_57 : zRow xM 118 57 = some (46, .getfield 52, 60, 8, 6) := rfl
theorem zr_118_60 : zRow xM 118 60 = some (3, .iload_n 2, 61, 2, 0) := rfl
theorem zr_118_61 : zRow xM 118 61 = some (3, .iload_n 1, 62, 1, 0) := rfl
theorem zr_118_62 : zRow xM 118 62 = some (105, .invokevirtual 185, 65, 85, 6) := rfl
theorem zr_118_65 : zRow xM 118 65 = some (38, .ineg, 66, 0, 0) := rfl
theorem zr_118_66 : zRow xM 118 66 = some (42, .goto 12, 67, 78, 0) := rfl
theorem zr_118_69 : zRow xM 118 69 = some (7, .aload_n 0, 70, 0, 0) := rfl
theorem zr_118_70 : zRow xM 118 70 = some (46, .getfield 52, 73, 8, 6) := rfl
theorem zr_118_73 : zRow xM 118 73 = some (3, .iload_n 1, 74, 1, 0) := rfl
theorem zr_118_74 : zRow xM 118 74 = some (3, .iload_n 2, 75, 2, 0) := rfl
theorem zr_118_75 : zRow xM 118 75 = some (105, .invokevirtual 185, 78, 85, 6) := rfl
theorem zr_118_78 : zRow xM 118 78 = some (108, .ireturn, 79, 0, 0) := rfl
theorem zm_119 : zMt xM 119 = some (1, (some .long), 1, 0, 0) := rfl
theorem zr_119_0 : zRow xM 119 0 = some (7, .aload_n 0, 1, 0, 0) := rfl
theorem zr_119_1 : zRow xM 119 1 = some (46, .getfield 52, 4, 8, 6) := rfl
theorem zr_119_4 : zRow xM 119 4 = some (105, .invokevirtual 188, 7, 88, 6) := rfl
theorem zr_119_7 : zRow xM 119 7 = some (109, .lreturn, 8, 0, 0) := rfl
theorem zm_120 : zMt xM 120 = some (2, (some .int), 2, 0, 0) := rfl
theorem zr_120_0 : zRow xM 120 0 = some (3, .iload_n 1, 1, 1, 0) := rfl
theorem zr_120_1 : zRp 120 1 2 (0, -1) := ⟨_, _, _, _, rfl, by decide, Option.some_ne_none _, rfl⟩
theorem zr_120_2 : zRow xM 120 2 = some (41, .if_icmp .ne 11, 5, 13, 4) := rfl
theorem zr_120_5 : zRow xM 120 5 = some (7, .aload_n 0, 6, 0, 0) := rfl
theorem zr_120_6 : zRow xM 120 6 = some (46, .getfield 59, 9, 8, 7) := rfl
theorem zr_120_9 : zRow xM 120 9 = some (105, .invokevirtual 192, 12, 70, 5) := rfl
theorem zr_120_12 : zRow xM 120 12 = some (108, .ireturn, 13, 0, 0) := rfl
theorem zr_120_13 : zRow xM 120 13 = some (7, .aload_n 0, 14, 0, 0) := rfl
theorem zr_120_14 : zRow xM 120 14 = some (46, .getfield 10, 17, 8, 0) := rfl
theorem zr_120_17 : zRow xM 120 17 = some (3, .iload_n 1, 18, 1, 0) := rfl
theorem zr_120_18 : zRow xM 120 18 = some (105, .invokevirtual 123, 21, 49, 4) := rfl
theorem zr_120_21 : zRow xM 120 21 = some (40, .ifCond .eq 14, 24, 35, 1) := rfl
theorem zr_120_24 : zRow xM 120 24 = some (7, .aload_n 0, 25, 0, 0) := rfl
theorem zr_120_25 : zRow xM 120 25 = some (46, .getfield 59, 28, 8, 7) := rfl
theorem zr_120_28 : zRow xM 120 28 = some (3, .iload_n 1, 29, 1, 0) := rfl
theorem zr_120_29 : zRow xM 120 29 = some (105, .invokevirtual 195, 32, 71, 5) := rfl
theorem zr_120_32 : zRow xM 120 32 = some (42, .goto 5, 33, 37, 0) := rfl
theorem zr_120_35 : zRp 120 35 37 (0, -2) := ⟨_, _, _, _, rfl, by decide, Option.some_ne_none _, rfl⟩
theorem zr_120_37 : zRow xM 120 37 = some (108, .ireturn, 38, 0, 0) := rfl
theorem zm_121 : zMt xM 121 = some (5, (some .int), 4, 0, 0) := rfl
theorem zr_121_0 : zRow xM 121 0 = some (7, .aload_n 0, 1, 0, 0) := rfl
theorem zr_121_1 : zRow xM 121 1 = some (46, .getfield 10, 4, 8, 0) := rfl
theorem zr_121_4 : zRow xM 121 4 = some (3, .iload_n 1, 5, 1, 0) := rfl
theorem zr_121_5 : zRow xM 121 5 = some (105, .invokevirtual 123, 8, 49, 4) := rfl
theorem zr_121_8 : zRow xM 121 8 = some (40, .ifCond .eq 19, 11, 27, 1) := rfl
theorem zr_121_11 : zRow xM 121 11 = some (7, .aload_n 0, 12, 0, 0) := rfl
theorem zr_121_12 : zRow xM 121 12 = some (46, .getfield 10, 15, 8, 0) := rfl
theorem zr_121_15 : zRow xM 121 15 = some (3, .iload_n 2, 16, 2, 0) := rfl
theorem zr_121_16 : zRow xM 121 16 = some (105, .invokevirtual 123, 19, 49, 4) := rfl
theorem zr_121_19 : zRow xM 121 19 = some (40, .ifCond .eq 8, 22, 27, 1) := rfl
theorem zr_121_22 : zRow xM 121 22 = some (3, .iload_n 3, 23, 3, 0) := rfl
theorem zr_121_23 : zRp 121 23 24 (0, -1) := ⟨_, _, _, _, rfl, by decide, Option.some_ne_none _, rfl⟩
theorem zr_121_24 : zRow xM 121 24 = some (41, .if_icmp .ge 6, 27, 30, 3) := rfl
theorem zr_121_27 : zRp 121 27 29 (0, -10) := ⟨_, _, _, _, rfl, by decide, Option.some_ne_none _, rfl⟩
theorem zr_121_29 : zRow xM 121 29 = some (108, .ireturn, 30, 0, 0) := rfl
theorem zr_121_30 : zRow xM 121 30 = some (7, .aload_n 0, 31, 0, 0) := rfl
theorem zr_121_31 : zRow xM 121 31 = some (46, .getfield 59, 34, 8, 7) := rfl
theorem zr_121_34 : zRow xM 121 34 = some (3, .iload_n 1, 35, 1, 0) := rfl
theorem zr_121_35 : zRow xM 121 35 = some (3, .iload_n 2, 36, 2, 0) := rfl
theorem zr_121_36 : zRow xM 121 36 = some (105, .invokevirtual 198, 39, 72, 5) := rfl
theorem zr_121_39 : zRow xM 121 39 = some (10, .istore 4, 41, 4, 0) := rfl
theorem zr_121_41 : zRow xM 121 41 = some (3, .iload_n 3, 42, 3, 0) := rfl
theorem zr_121_42 : zRp 121 42 43 (0, -1) := ⟨_, _, _, _, rfl, by decide, Option.some_ne_none _, rfl⟩
theorem zr_121_43 : zRow xM 121 43 = some (41, .if_icmp .ne 6, 46, 49, 4) := rfl
theorem zr_121_46 : zRow xM 121 46 = some (4, .iload 4, 48, 4, 0) := rfl
theorem zr_121_48 : zRow xM 121 48 = some (108, .ireturn, 49, 0, 0) := rfl
theorem zr_121_49 : zRow xM 121 49 = some (3, .iload_n 3, 50, 3, 0) := rfl
theorem zr_121_50 : zRow xM 121 50 = some (4, .iload 4, 52, 4, 0) := rfl
theorem zr_121_52 : zRow xM 121 52 = some (41, .if_icmp .ge 15, 55, 67, 3) := rfl
theorem zr_121_55 : zRow xM 121 55 = some (7, .aload_n 0, 56, 0, 0) := rfl
theorem zr_121_56 : zRow xM 121 56 = some (46, .getfield 59, 59, 8, 7) := rfl
theorem zr_121_59 : zRow xM 121 59 = some (3, .iload_n 1, 60, 1, 0) := rfl
theorem zr_121_60 : zRow xM 121 60 = some (3, .iload_n 3, 61, 3, 0) := rfl
theorem zr_121_61 : zRow xM 121 61 = some (105, .invokevirtual 200, 64, 75, 5) := rfl
theorem zr_121_64 : zRow xM 121 64 = some (42, .goto 5, 65, 69, 0) := rfl
theorem zr_121_67 : zRp 121 67 69 (0, -5) := ⟨_, _, _, _, rfl, by decide, Option.some_ne_none _, rfl⟩
theorem zr_121_69 : zRow xM 121 69 = some (108, .ireturn, 70, 0, 0) := rfl
theorem zm_122 : zMt xM 122 = some (1, (some .long), 1, 0, 0) := rfl
theorem zr_122_0 : zRow xM 122 0 = some (7, .aload_n 0, 1, 0, 0) := rfl
theorem zr_122_1 : zRow xM 122 1 = some (46, .getfield 59, 4, 8, 7) := rfl
theorem zr_122_4 : zRow xM 122 4 = some (105, .invokevirtual 203, 7, 76, 5) := rfl
theorem zr_122_7 : zRow xM 122 7 = some (109, .lreturn, 8, 0, 0) := rfl
theorem zm_123 : zMt xM 123 = some (4, (some .int), 4, 0, 0) := rfl
theorem zr_123_0 : zRow xM 123 0 = some (3, .iload_n 1, 1, 1, 0) := rfl
theorem zr_123_1 : zRow xM 123 1 = some (107, .invokestatic 107, 4, 104, 0) := rfl
theorem zr_123_4 : zRow xM 123 4 = some (40, .ifCond .eq 12, 7, 16, 1) := rfl
theorem zr_123_7 : zRow xM 123 7 = some (3, .iload_n 2, 8, 2, 0) := rfl
theorem zr_123_8 : zRp 123 8 9 (0, 0) := ⟨_, _, _, _, rfl, by decide, Option.some_ne_none _, rfl⟩
theorem zr_123_9 : zRp 123 9 10 (0, 2) := ⟨_, _, _, _, rfl, by decide, Option.some_ne_none _, rfl⟩
theorem zr_123_10 : zRow xM 123 10 = some (107, .invokestatic 85, 13, 100, 0) := rfl
theorem zr_123_13 : zRow xM 123 13 = some (40, .ifCond .ne 6, 16, 19, 4) := rfl
theorem zr_123_16 : zRp 123 16 18 (0, -2) := ⟨_, _, _, _, rfl, by decide, Option.some_ne_none _, rfl⟩
theorem zr_123_18 : zRow xM 123 18 = some (108, .ireturn, 19, 0, 0) := rfl
theorem zr_123_19 : zRow xM 123 19 = some (3, .iload_n 2, 20, 2, 0) := rfl
theorem zr_123_20 : zRp 123 20 21 (0, 1) := ⟨_, _, _, _, rfl, by decide, Option.some_ne_none _, rfl⟩
theorem zr_123_21 : zRow xM 123 21 = some (41, .if_icmp .ne 16, 24, 37, 4) := rfl
theorem zr_123_24 : zRow xM 123 24 = some (3, .iload_n 3, 25, 3, 0) := rfl
theorem zr_123_25 : zRp 123 25 26 (0, 1) := ⟨_, _, _, _, rfl, by decide, Option.some_ne_none _, rfl⟩
theorem zr_123_26 : zRp 123 26 28 (0, 9) := ⟨_, _, _, _, rfl, by decide, Option.some_ne_none _, rfl⟩
theorem zr_123_28 : zRow xM 123 28 = some (107, .invokestatic 85, 31, 100, 0) := rfl
theorem zr_123_31 : zRow xM 123 31 = some (40, .ifCond .ne 6, 34, 37, 4) := rfl
theorem zr_123_34 : zRp 123 34 36 (0, -2) := ⟨_, _, _, _, rfl, by decide, Option.some_ne_none _, rfl⟩
theorem zr_123_36 : zRow xM 123 36 = some (108, .ireturn, 37, 0, 0) := rfl
theorem zr_123_37 : zRow xM 123 37 = some (7, .aload_n 0, 38, 0, 0) := rfl
theorem zr_123_38 : zRow xM 123 38 = some (46, .getfield 45, 41, 8, 5) := rfl
theorem zr_123_41 : zRow xM 123 41 = some (3, .iload_n 1, 42, 1, 0) := rfl
theorem zr_123_42 : zRow xM 123 42 = some (3, .iload_n 2, 43, 2, 0) := rfl
theorem zr_123_43 : zRow xM 123 43 = some (3, .iload_n 3, 44, 3, 0) := rfl
theorem zr_123_44 : zRow xM 123 44 = some (105, .invokevirtual 206, 47, 34, 0) := rfl
theorem zr_123_47 : zRow xM 123 47 = some (3, .iload_n 2, 48, 2, 0) := rfl
theorem zr_123_48 : zRp 123 48 49 (0, 2) := ⟨_, _, _, _, rfl, by decide, Option.some_ne_none _, rfl⟩
theorem zr_123_49 : zRow xM 123 49 = some (41, .if_icmp .ne 35, 52, 84, 4) := rfl
theorem zr_123_52 : zRow xM 123 52 = some (7, .aload_n 0, 53, 0, 0) := rfl
theorem zr_123_53 : zRow xM 123 53 = some (46, .getfield 45, 56, 8, 5) := rfl
theorem zr_123_56 : zRow xM 123 56 = some (46, .getfield 210, 59, 0, 0) := rfl
theorem zr_123_59 : zRp 123 59 60 (0, -1) := ⟨_, _, _, _, rfl, by decide, Option.some_ne_none _, rfl⟩
theorem zr_123_60 : zRow xM 123 60 = some (41, .if_icmp .eq 24, 63, 84, 1) := rfl
theorem zr_123_63 : zRow xM 123 63 = some (7, .aload_n 0, 64, 0, 0) := rfl
theorem zr_123_64 : zRow xM 123 64 = some (46, .getfield 27, 67, 8, 3) := rfl
theorem zr_123_67 : zRow xM 123 67 = some (7, .aload_n 0, 68, 0, 0) := rfl
theorem zr_123_68 : zRow xM 123 68 = some (46, .getfield 45, 71, 8, 5) := rfl
theorem zr_123_71 : zRow xM 123 71 = some (46, .getfield 213, 74, 0, 1) := rfl
theorem zr_123_74 : zRow xM 123 74 = some (7, .aload_n 0, 75, 0, 0) := rfl
theorem zr_123_75 : zRow xM 123 75 = some (46, .getfield 45, 78, 8, 5) := rfl
theorem zr_123_78 : zRow xM 123 78 = some (46, .getfield 216, 81, 0, 2) := rfl
theorem zr_123_81 : zRow xM 123 81 = some (105, .invokevirtual 153, 84, 38, 2) := rfl
theorem zr_123_84 : zRow xM 123 84 = some (7, .aload_n 0, 85, 0, 0) := rfl
theorem zr_123_85 : zRow xM 123 85 = some (46, .getfield 45, 88, 8, 5) := rfl
theorem zr_123_88 : zRow xM 123 88 = some (46, .getfield 210, 91, 0, 0) := rfl
theorem zr_123_91 : zRow xM 123 91 = some (108, .ireturn, 92, 0, 0) := rfl
theorem zm_124 : zMt xM 124 = some (1, (some .int), 1, 0, 0) := rfl
theorem zr_124_0 : zRow xM 124 0 = some (7, .aload_n 0, 1, 0, 0) := rfl
theorem zr_124_1 : zRow xM 124 1 = some (46, .getfield 66, 4, 8, 8) := rfl
theorem zr_124_4 : zRow xM 124 4 = some (105, .invokevirtual 219, 7, 93, 7) := rfl
theorem zr_124_7 : zRow xM 124 7 = some (108, .ireturn, 8, 0, 0) := rfl
theorem zm_125 : zMt xM 125 = some (2, (some .int), 2, 0, 0) := rfl
theorem zr_125_0 : zRow xM 125 0 = some (3, .iload_n 1, 1, 1, 0) := rfl
theorem zr_125_1 : zRp 125 1 2 (0, -1) := ⟨_, _, _, _, rfl, by decide, Option.some_ne_none _, rfl⟩
theorem zr_125_2 : zRow xM 125 2 = some (41, .if_icmp .eq 17, 5, 19, 1) := rfl
theorem zr_125_5 : zRow xM 125 5 = some (7, .aload_n 0, 6, 0, 0) := rfl
theorem zr_125_6 : zRow xM 125 6 = some (46, .getfield 10, 9, 8, 0) := rfl
theorem zr_125_9 : zRow xM 125 9 = some (3, .iload_n 1, 10, 1, 0) := rfl
theorem zr_125_10 : zRow xM 125 10 = some (105, .invokevirtual 123, 13, 49, 4) := rfl
theorem zr_125_13 : zRow xM 125 13 = some (40, .ifCond .ne 6, 16, 19, 4) := rfl
theorem zr_125_16 : zRp 125 16 18 (0, -2) := ⟨_, _, _, _, rfl, by decide, Option.some_ne_none _, rfl⟩
theorem zr_125_18 : zRow xM 125 18 = some (108, .ireturn, 19, 0, 0) := rfl
theorem zr_125_19 : zRow xM 125 19 = some (7, .aload_n 0, 20, 0, 0) := rfl
theorem zr_125_20 : zRow xM 125 20 = some (46, .getfield 66, 23, 8, 8) := rfl
theorem zr_125_23 : zRow xM 125 23 = some (105, .invokevirtual 222, 26, 97, 7) := rfl
theorem zr_125_26 : zRow xM 125 26 = some (3, .iload_n 1, 27, 1, 0) := rfl
theorem zr_125_27 : zRp 125 27 28 (0, -1) := ⟨_, _, _, _, rfl, by decide, Option.some_ne_none _, rfl⟩
theorem zr_125_28 : zRow xM 125 28 = some (41, .if_icmp .ne 13, 31, 41, 4) := rfl
theorem zr_125_31 : zRow xM 125 31 = some (7, .aload_n 0, 32, 0, 0) := rfl
theorem zr_125_32 : zRow xM 125 32 = some (46, .getfield 66, 35, 8, 8) := rfl
theorem zr_125_35 : zRow xM 125 35 = some (46, .getfield 225, 38, 7, 0) := rfl
theorem zr_125_38 : zRow xM 125 38 = some (42, .goto 12, 39, 50, 0) := rfl
theorem zr_125_41 : zRow xM 125 41 = some (7, .aload_n 0, 42, 0, 0) := rfl
theorem zr_125_42 : zRow xM 125 42 = some (46, .getfield 66, 45, 8, 8) := rfl
theorem zr_125_45 : zRow xM 125 45 = some (46, .getfield 228, 48, 7, 1) := rfl
theorem zr_125_48 : zRow xM 125 48 = some (3, .iload_n 1, 49, 1, 0) := rfl
theorem zr_125_49 : zRow xM 125 49 = some (48, .iaload, 50, 0, 0) := rfl
theorem zr_125_50 : zRow xM 125 50 = some (108, .ireturn, 51, 0, 0) := rfl
theorem zm_126 : zMt xM 126 = some (6, (some .int), 5, 0, 0) := rfl
theorem zr_126_0 : zRow xM 126 0 = some (7, .aload_n 0, 1, 0, 0) := rfl
theorem zr_126_1 : zRow xM 126 1 = some (46, .getfield 10, 4, 8, 0) := rfl
theorem zr_126_4 : zRow xM 126 4 = some (3, .iload_n 1, 5, 1, 0) := rfl
theorem zr_126_5 : zRow xM 126 5 = some (3, .iload_n 2, 6, 2, 0) := rfl
theorem zr_126_6 : zRow xM 126 6 = some (105, .invokevirtual 81, 9, 50, 4) := rfl
theorem zr_126_9 : zRow xM 126 9 = some (40, .ifCond .eq 21, 12, 30, 1) := rfl
theorem zr_126_12 : zRow xM 126 12 = some (3, .iload_n 3, 13, 3, 0) := rfl
theorem zr_126_13 : zRp 126 13 14 (0, 1) := ⟨_, _, _, _, rfl, by decide, Option.some_ne_none _, rfl⟩
theorem zr_126_14 : zRow xM 126 14 = some (41, .if_icmp .lt 16, 17, 30, 0) := rfl
theorem zr_126_17 : zRow xM 126 17 = some (4, .iload 4, 19, 4, 0) := rfl
theorem zr_126_19 : zRow xM 126 19 = some (3, .iload_n 3, 20, 3, 0) := rfl
theorem zr_126_20 : zRow xM 126 20 = some (41, .if_icmp .le 10, 23, 30, 5) := rfl
theorem zr_126_23 : zRow xM 126 23 = some (4, .iload 4, 25, 4, 0) := rfl
theorem zr_126_25 : zRp 126 25 27 (0, 9) := ⟨_, _, _, _, rfl, by decide, Option.some_ne_none _, rfl⟩
theorem zr_126_27 : zRow xM 126 27 = some (41, .if_icmp .le 6, 30, 33, 5) := rfl
theorem zr_126_30 : zRp 126 30 32 (0, -2) := ⟨_, _, _, _, rfl, by decide, Option.some_ne_none _, rfl⟩
theorem zr_126_32 : zRow xM 126 32 = some (108, .ireturn, 33, 0, 0) := rfl
theorem zr_126_33 : zRow xM 126 33 = some (7, .aload_n 0, 34, 0, 0) := rfl
theorem zr_126_34 : zRow xM 126 34 = some (46, .getfield 10, 37, 8, 0) := rfl
theorem zr_126_37 : zRow xM 126 37 = some (3, .iload_n 1, 38, 1, 0) := rfl
theorem zr_126_38 : zRow xM 126 38 = some (3, .iload_n 2, 39, 2, 0) := rfl
theorem zr_126_39 : zRow xM 126 39 = some (105, .invokevirtual 231, 42, 56, 4) := rfl
theorem zr_126_42 : zRow xM 126 42 = some (10, .istore 5, 44, 5, 0) := rfl
theorem zr_126_44 : zRow xM 126 44 = some (4, .iload 5, 46, 5, 0) := rfl
theorem zr_126_46 : zRp 126 46 47 (0, 1) := ⟨_, _, _, _, rfl, by decide, Option.some_ne_none _, rfl⟩
theorem zr_126_47 : zRp 126 47 49 (0, 15) := ⟨_, _, _, _, rfl, by decide, Option.some_ne_none _, rfl⟩
theorem zr_126_49 : zRow xM 126 49 = some (107, .invokestatic 85, 52, 100, 0) := rfl
theorem zr_126_52 : zRow xM 126 52 = some (40, .ifCond .ne 6, 55, 58, 4) := rfl
theorem zr_126_55 : zRp 126 55 57 (0, -3) := ⟨_, _, _, _, rfl, by decide, Option.some_ne_none _, rfl⟩
theorem zr_126_57 : zRow xM 126 57 = some (108, .ireturn, 58, 0, 0) := rfl
theorem zr_126_58 : zRow xM 126 58 = some (7, .aload_n 0, 59, 0, 0) := rfl
theorem zr_126_59 : zRow xM 126 59 = some (46, .getfield 27, 62, 8, 3) := rfl
theorem zr_126_62 : zRow xM 126 62 = some (4, .iload 5, 64, 5, 0) := rfl
theorem zr_126_64 : zRow xM 126 64 = some (7, .aload_n 0, 65, 0, 0) := rfl
theorem zr_126_65 : zRow xM 126 65 = some (46, .getfield 10, 68, 8, 0) := rfl
theorem zr_126_68 : zRow xM 126 68 = some (3, .iload_n 1, 69, 1, 0) := rfl
theorem zr_126_69 : zRow xM 126 69 = some (3, .iload_n 2, 70, 2, 0) := rfl
theorem zr_126_70 : zRow xM 126 70 = some (105, .invokevirtual 234, 73, 57, 4) := rfl
theorem zr_126_73 : zRow xM 126 73 = some (3, .iload_n 3, 74, 3, 0) := rfl
theorem zr_126_74 : zRow xM 126 74 = some (4, .iload 4, 76, 4, 0) := rfl
theorem zr_126_76 : zRow xM 126 76 = some (107, .invokestatic 237, 79, 2, 0) := rfl
theorem zr_126_79 : zRow xM 126 79 = some (4, .iload 4, 81, 4, 0) := rfl
theorem zr_126_81 : zRow xM 126 81 = some (4, .iload 5, 83, 5, 0) := rfl
theorem zr_126_83 : zRow xM 126 83 = some (107, .invokestatic 243, 86, 1, 0) := rfl
theorem zr_126_86 : zRow xM 126 86 = some (105, .invokevirtual 153, 89, 38, 2) := rfl
theorem zr_126_89 : zRp 126 89 90 (0, 1) := ⟨_, _, _, _, rfl, by decide, Option.some_ne_none _, rfl⟩
theorem zr_126_90 : zRow xM 126 90 = some (108, .ireturn, 91, 0, 0) := rfl
theorem zm_127 : zMt xM 127 = some (4, (some .int), 1, 0, 0) := rfl
theorem zr_127_0 : zRp 127 0 1 (0, 0) := ⟨_, _, _, _, rfl, by decide, Option.some_ne_none _, rfl⟩
theorem zr_127_1 : zRow xM 127 1 = some (9, .istore_n 1, 2, 1, 0) := rfl
theorem zr_127_2 : zRp 127 2 3 (0, 0) := ⟨_, _, _, _, rfl, by decide, Option.some_ne_none _, rfl⟩
theorem zr_127_3 : zRow xM 127 3 = some (9, .istore_n 2, 4, 2, 0) := rfl
theorem zr_127_4 : zRow xM 127 4 = some (3, .iload_n 2, 5, 2, 0) := rfl
theorem zr_127_5 : zRow xM 127 5 = some (7, .aload_n 0, 6, 0, 0) := rfl
theorem zr_127_6 : zRow xM 127 6 = some (46, .getfield 10, 9, 8, 0) := rfl
theorem zr_127_9 : zRow xM 127 9 = some (46, .getfield 70, 12, 4, 0) := rfl
theorem zr_127_12 : zRow xM 127 12 = some (41, .if_icmp .ge 51, 15, 63, 3) := rfl
theorem zr_127_15 : zRow xM 127 15 = some (3, .iload_n 2, 16, 2, 0) := rfl
theorem zr_127_16 : zRp 127 16 17 (0, 1) := ⟨_, _, _, _, rfl, by decide, Option.some_ne_none _, rfl⟩
theorem zr_127_17 : zRow xM 127 17 = some (16, .iadd, 18, 0, 0) := rfl
theorem zr_127_18 : zRow xM 127 18 = some (9, .istore_n 3, 19, 3, 0) := rfl
theorem zr_127_19 : zRow xM 127 19 = some (3, .iload_n 3, 20, 3, 0) := rfl
theorem zr_127_20 : zRow xM 127 20 = some (7, .aload_n 0, 21, 0, 0) := rfl
theorem zr_127_21 : zRow xM 127 21 = some (46, .getfield 10, 24, 8, 0) := rfl
theorem zr_127_24 : zRow xM 127 24 = some (46, .getfield 70, 27, 4, 0) := rfl
theorem zr_127_27 : zRow xM 127 27 = some (41, .if_icmp .ge 30, 30, 57, 3) := rfl
theorem zr_127_30 : zRow xM 127 30 = some (7, .aload_n 0, 31, 0, 0) := rfl
theorem zr_127_31 : zRow xM 127 31 = some (46, .getfield 10, 34, 8, 0) := rfl
theorem zr_127_34 : zRow xM 127 34 = some (3, .iload_n 2, 35, 2, 0) := rfl
theorem zr_127_35 : zRow xM 127 35 = some (3, .iload_n 3, 36, 3, 0) := rfl
theorem zr_127_36 : zRow xM 127 36 = some (105, .invokevirtual 231, 39, 56, 4) := rfl
theorem zr_127_39 : zRp 127 39 40 (0, 1) := ⟨_, _, _, _, rfl, by decide, Option.some_ne_none _, rfl⟩
theorem zr_127_40 : zRp 127 40 42 (0, 15) := ⟨_, _, _, _, rfl, by decide, Option.some_ne_none _, rfl⟩
theorem zr_127_42 : zRow xM 127 42 = some (107, .invokestatic 85, 45, 100, 0) := rfl
theorem zr_127_45 : zRow xM 127 45 = some (40, .ifCond .eq 6, 48, 51, 1) := rfl
theorem zr_127_48 : zRow xM 127 48 = some (15, .iinc 1 1, 51, 1, 1) := rfl
theorem zr_127_51 : zRow xM 127 51 = some (15, .iinc 3 1, 54, 3, 1) := rfl
theorem zr_127_54 : zRow xM 127 54 = some (42, .goto (-35), 55, 19, 0) := rfl
theorem zr_127_57 : zRow xM 127 57 = some (15, .iinc 2 1, 60, 2, 1) := rfl
theorem zr_127_60 : zRow xM 127 60 = some (42, .goto (-56), 61, 4, 0) := rfl
theorem zr_127_63 : zRow xM 127 63 = some (3, .iload_n 1, 64, 1, 0) := rfl
theorem zr_127_64 : zRow xM 127 64 = some (108, .ireturn, 65, 0, 0) := rfl
theorem zm_128 : zMt xM 128 = some (1, (some .boolean), 1, 0, 0) := rfl
theorem zr_128_0 : zRow xM 128 0 = some (3, .iload_n 0, 1, 0, 0) := rfl
theorem zr_128_1 : zRp 128 1 2 (0, 0) := ⟨_, _, _, _, rfl, by decide, Option.some_ne_none _, rfl⟩
theorem zr_128_2 : zRp 128 2 3 (0, 3) := ⟨_, _, _, _, rfl, by decide, Option.some_ne_none _, rfl⟩
theorem zr_128_3 : zRow xM 128 3 = some (107, .invokestatic 85, 6, 100, 0) := rfl
theorem zr_128_6 : zRow xM 128 6 = some (108, .ireturn, 7, 0, 0) := rfl
theorem zm_129 : zMt xM 129 = some (5, (some .int), 5, 0, 0) := rfl
theorem zr_129_0 : zRow xM 129 0 = some (7, .aload_n 0, 1, 0, 0) := rfl
theorem zr_129_1 : zRow xM 129 1 = some (46, .getfield 10, 4, 8, 0) := rfl
theorem zr_129_4 : zRow xM 129 4 = some (3, .iload_n 1, 5, 1, 0) := rfl
theorem zr_129_5 : zRow xM 129 5 = some (105, .invokevirtual 123, 8, 49, 4) := rfl
theorem zr_129_8 : zRow xM 129 8 = some (40, .ifCond .eq 10, 11, 18, 1) := rfl
theorem zr_129_11 : zRow xM 129 11 = some (3, .iload_n 2, 12, 2, 0) := rfl
theorem zr_129_12 : zRow xM 129 12 = some (107, .invokestatic 247, 15, 128, 0) := rfl
theorem zr_129_15 : zRow xM 129 15 = some (40, .ifCond .ne 6, 18, 21, 4) := rfl
theorem zr_129_18 : zRp 129 18 20 (0, -2) := ⟨_, _, _, _, rfl, by decide, Option.some_ne_none _, rfl⟩
theorem zr_129_20 : zRow xM 129 20 = some (108, .ireturn, 21, 0, 0) := rfl
theorem zr_129_21 : zRow xM 129 21 = some (4, .iload 4, 23, 4, 0) := rfl
theorem zr_129_23 : zRp 129 23 24 (0, 1) := ⟨_, _, _, _, rfl, by decide, Option.some_ne_none _, rfl⟩
theorem zr_129_24 : zRp 129 24 26 (0, 99) := ⟨_, _, _, _, rfl, by decide, Option.some_ne_none _, rfl⟩
theorem zr_129_26 : zRow xM 129 26 = some (107, .invokestatic 85, 29, 100, 0) := rfl
theorem zr_129_29 : zRow xM 129 29 = some (40, .ifCond .eq 13, 32, 42, 1) := rfl
theorem zr_129_32 : zRow xM 129 32 = some (3, .iload_n 3, 33, 3, 0) := rfl
theorem zr_129_33 : zRp 129 33 34 (0, 0) := ⟨_, _, _, _, rfl, by decide, Option.some_ne_none _, rfl⟩
theorem zr_129_34 : zRow xM 129 34 = some (4, .iload 4, 36, 4, 0) := rfl
theorem zr_129_36 : zRow xM 129 36 = some (107, .invokestatic 85, 39, 100, 0) := rfl
theorem zr_129_39 : zRow xM 129 39 = some (40, .ifCond .ne 6, 42, 45, 4) := rfl
theorem zr_129_42 : zRp 129 42 44 (0, -2) := ⟨_, _, _, _, rfl, by decide, Option.some_ne_none _, rfl⟩
theorem zr_129_44 : zRow xM 129 44 = some (108, .ireturn, 45, 0, 0) := rfl
theorem zr_129_45 : zRow xM 129 45 = some (7, .aload_n 0, 46, 0, 0) := rfl
theorem zr_129_46 : zRow xM 129 46 = some (46, .getfield 10, 49, 8, 0) := rfl
theorem zr_129_49 : zRow xM 129 49 = some (46, .getfield 250, 52, 4, 7) := rfl
theorem zr_129_52 : zRow xM 129 52 = some (3, .iload_n 1, 53, 1, 0) := rfl
theorem zr_129_53 : zRp 129 53 54 (0, 4) := ⟨_, _, _, _, rfl, by decide, Option.some_ne_none _, rfl⟩
theorem zr_129_54 : zRow xM 129 54 = some (18, .imul, 55, 0, 0) := rfl
theorem zr_129_55 : zRow xM 129 55 = some (3, .iload_n 2, 56, 2, 0) := rfl
theorem zr_129_56 : zRow xM 129 56 = some (16, .iadd, 57, 0, 0) := rfl
theorem zr_129_57 : zRow xM 129 57 = some (3, .iload_n 3, 58, 3, 0) := rfl
theorem zr_129_58 : zRow xM 129 58 = some (49, .iastore, 59, 0, 0) := rfl
theorem zr_129_59 : zRow xM 129 59 = some (7, .aload_n 0, 60, 0, 0) := rfl
theorem zr_129_60 : zRow xM 129 60 = some (46, .getfield 10, 63, 8, 0) := rfl
theorem zr_129_63 : zRow xM 129 63 = some (46, .getfield 253, 66, 4, 8) := rfl
theorem zr_129_66 : zRow xM 129 66 = some (3, .iload_n 1, 67, 1, 0) := rfl
theorem zr_129_67 : zRp 129 67 68 (0, 4) := ⟨_, _, _, _, rfl, by decide, Option.some_ne_none _, rfl⟩
theorem zr_129_68 : zRow xM 129 68 = some (18, .imul, 69, 0, 0) := rfl
theorem zr_129_69 : zRow xM 129 69 = some (3, .iload_n 2, 70, 2, 0) := rfl
theorem zr_129_70 : zRow xM 129 70 = some (16, .iadd, 71, 0, 0) := rfl
theorem zr_129_71 : zRow xM 129 71 = some (4, .iload 4, 73, 4, 0) := rfl
theorem zr_129_73 : zRow xM 129 73 = some (49, .iastore, 74, 0, 0) := rfl
theorem zr_129_74 : zRp 129 74 75 (0, 1) := ⟨_, _, _, _, rfl, by decide, Option.some_ne_none _, rfl⟩
theorem zr_129_75 : zRow xM 129 75 = some (108, .ireturn, 76, 0, 0) := rfl
theorem zm_130 : zMt xM 130 = some (4, (some .int), 3, 0, 0) := rfl
theorem zr_130_0 : zRow xM 130 0 = some (3, .iload_n 1, 1, 1, 0) := rfl
theorem zr_130_1 : zRow xM 130 1 = some (107, .invokestatic 247, 4, 128, 0) := rfl
theorem zr_130_4 : zRow xM 130 4 = some (40, .ifCond .eq 13, 7, 17, 1) := rfl
theorem zr_130_7 : zRow xM 130 7 = some (3, .iload_n 2, 8, 2, 0) := rfl
theorem zr_130_8 : zRp 130 8 9 (0, 1) := ⟨_, _, _, _, rfl, by decide, Option.some_ne_none _, rfl⟩
theorem zr_130_9 : zRp 130 9 11 (0, 9) := ⟨_, _, _, _, rfl, by decide, Option.some_ne_none _, rfl⟩
theorem zr_130_11 : zRow xM 130 11 = some (107, .invokestatic 85, 14, 100, 0) := rfl
theorem zr_130_14 : zRow xM 130 14 = some (40, .ifCond .ne 6, 17, 20, 4) := rfl
theorem zr_130_17 : zRp 130 17 19 (0, -2) := ⟨_, _, _, _, rfl, by decide, Option.some_ne_none _, rfl⟩
theorem zr_130_19 : zRow xM 130 19 = some (108, .ireturn, 20, 0, 0) := rfl
theorem zr_130_20 : zRow xM 130 20 = some (7, .aload_n 0, 21, 0, 0) := rfl
theorem zr_130_21 : zRow xM 130 21 = some (46, .getfield 10, 24, 8, 0) := rfl
theorem zr_130_24 : zRow xM 130 24 = some (46, .getfield 256, 27, 4, 17) := rfl
theorem zr_130_27 : zRow xM 130 27 = some (3, .iload_n 1, 28, 1, 0) := rfl
theorem zr_130_28 : zRow xM 130 28 = some (48, .iaload, 29, 0, 0) := rfl
theorem zr_130_29 : zRow xM 130 29 = some (9, .istore_n 3, 30, 3, 0) := rfl
theorem zr_130_30 : zRow xM 130 30 = some (7, .aload_n 0, 31, 0, 0) := rfl
theorem zr_130_31 : zRow xM 130 31 = some (46, .getfield 10, 34, 8, 0) := rfl
theorem zr_130_34 : zRow xM 130 34 = some (46, .getfield 256, 37, 4, 17) := rfl
theorem zr_130_37 : zRow xM 130 37 = some (3, .iload_n 1, 38, 1, 0) := rfl
theorem zr_130_38 : zRow xM 130 38 = some (3, .iload_n 2, 39, 2, 0) := rfl
theorem zr_130_39 : zRow xM 130 39 = some (49, .iastore, 40, 0, 0) := rfl
theorem zr_130_40 : zRow xM 130 40 = some (3, .iload_n 3, 41, 3, 0) := rfl
theorem zr_130_41 : zRow xM 130 41 = some (108, .ireturn, 42, 0, 0) := rfl
theorem zm_131 : zMt xM 131 = some (10, none, 2, 0, 0) := rfl
theorem zr_131_0 : zRp 131 0 1 (1, 0) := ⟨_, _, _, _, rfl, by decide, Option.some_ne_none _, rfl⟩
theorem zr_131_1 : zRow xM 131 1 = some (13, .lstore_n 2, 2, 2, 0) := rfl
theorem zr_131_2 : zRp 131 2 3 (1, 1) := ⟨_, _, _, _, rfl, by decide, Option.some_ne_none _, rfl⟩
theorem zr_131_3 : zRow xM 131 3 = some (14, .lstore 4, 5, 4, 0) := rfl
theorem zr_131_5 : zRp 131 5 6 (0, 0) := ⟨_, _, _, _, rfl, by decide, Option.some_ne_none _, rfl⟩
theorem zr_131_6 : zRow xM 131 6 = some (10, .istore 6, 8, 6, 0) := rfl
theorem zr_131_8 : zRp 131 8 9 (0, 0) := ⟨_, _, _, _, rfl, by decide, Option.some_ne_none _, rfl⟩
theorem zr_131_9 : zRow xM 131 9 = some (10, .istore 7, 11, 7, 0) := rfl
theorem zr_131_11 : zRow xM 131 11 = some (4, .iload 7, 13, 7, 0) := rfl
theorem zr_131_13 : zRp 131 13 14 (0, 4) := ⟨_, _, _, _, rfl, by decide, Option.some_ne_none _, rfl⟩
theorem zr_131_14 : zRow xM 131 14 = some (41, .if_icmp .ge 94, 17, 108, 3) := rfl
theorem zr_131_17 : zRow xM 131 17 = some (7, .aload_n 0, 18, 0, 0) := rfl
theorem zr_131_18 : zRow xM 131 18 = some (46, .getfield 10, 21, 8, 0) := rfl
theorem zr_131_21 : zRow xM 131 21 = some (46, .getfield 250, 24, 4, 7) := rfl
theorem zr_131_24 : zRow xM 131 24 = some (3, .iload_n 1, 25, 1, 0) := rfl
theorem zr_131_25 : zRp 131 25 26 (0, 4) := ⟨_, _, _, _, rfl, by decide, Option.some_ne_none _, rfl⟩
theorem zr_131_26 : zRow xM 131 26 = some (18, .imul, 27, 0, 0) := rfl
theorem zr_131_27 : zRow xM 131 27 = some (4, .iload 7, 29, 7, 0) := rfl
theorem zr_131_29 : zRow xM 131 29 = some (16, .iadd, 30, 0, 0) := rfl
theorem zr_131_30 : zRow xM 131 30 = some (48, .iaload, 31, 0, 0) := rfl
theorem zr_131_31 : zRow xM 131 31 = some (10, .istore 8, 33, 8, 0) := rfl
theorem zr_131_33 : zRow xM 131 33 = some (7, .aload_n 0, 34, 0, 0) := rfl
theorem zr_131_34 : zRow xM 131 34 = some (46, .getfield 10, 37, 8, 0) := rfl
theorem zr_131_37 : zRow xM 131 37 = some (46, .getfield 253, 40, 4, 8) := rfl
theorem zr_131_40 : zRow xM 131 40 = some (3, .iload_n 1, 41, 1, 0) := rfl
theorem zr_131_41 : zRp 131 41 42 (0, 4) := ⟨_, _, _, _, rfl, by decide, Option.some_ne_none _, rfl⟩
theorem zr_131_42 : zRow xM 131 42 = some (18, .imul, 43, 0, 0) := rfl
theorem zr_131_43 : zRow xM 131 43 = some (4, .iload 7, 45, 7, 0) := rfl
theorem zr_131_45 : zRow xM 131 45 = some (16, .iadd, 46, 0, 0) := rfl
theorem zr_131_46 : zRow xM 131 46 = some (48, .iaload, 47, 0, 0) := rfl
theorem zr_131_47 : zRow xM 131 47 = some (10, .istore 9, 49, 9, 0) := rfl
theorem zr_131_49 : zRow xM 131 49 = some (4, .iload 9, 51, 9, 0) := rfl
theorem zr_131_51 : zRow xM 131 51 = some (40, .ifCond .le 51, 54, 102, 5) := rfl
theorem zr_131_54 : zRow xM 131 54 = some (5, .lload_n 2, 55, 2, 0) := rfl
theorem zr_131_55 : zRow xM 131 55 = some (4, .iload 9, 57, 9, 0) := rfl
theorem zr_131_57 : zRow xM 131 57 = some (36, .i2l, 58, 0, 0) := rfl
theorem zr_131_58 : zRow xM 131 58 = some (29, .lmul, 59, 0, 0) := rfl
theorem zr_131_59 : zRow xM 131 59 = some (6, .lload 4, 61, 4, 0) := rfl
theorem zr_131_61 : zRow xM 131 61 = some (7, .aload_n 0, 62, 0, 0) := rfl
theorem zr_131_62 : zRow xM 131 62 = some (46, .getfield 10, 65, 8, 0) := rfl
theorem zr_131_65 : zRow xM 131 65 = some (46, .getfield 256, 68, 4, 17) := rfl
theorem zr_131_68 : zRow xM 131 68 = some (4, .iload 7, 70, 7, 0) := rfl
theorem zr_131_70 : zRow xM 131 70 = some (48, .iaload, 71, 0, 0) := rfl
theorem zr_131_71 : zRow xM 131 71 = some (36, .i2l, 72, 0, 0) := rfl
theorem zr_131_72 : zRow xM 131 72 = some (29, .lmul, 73, 0, 0) := rfl
theorem zr_131_73 : zRow xM 131 73 = some (4, .iload 8, 75, 8, 0) := rfl
theorem zr_131_75 : zRow xM 131 75 = some (36, .i2l, 76, 0, 0) := rfl
theorem zr_131_76 : zRow xM 131 76 = some (29, .lmul, 77, 0, 0) := rfl
theorem zr_131_77 : zRow xM 131 77 = some (27, .ladd, 78, 0, 0) := rfl
theorem zr_131_78 : zRow xM 131 78 = some (13, .lstore_n 2, 79, 2, 0) := rfl
theorem zr_131_79 : zRow xM 131 79 = some (6, .lload 4, 81, 4, 0) := rfl
theorem zr_131_81 : zRow xM 131 81 = some (4, .iload 9, 83, 9, 0) := rfl
theorem zr_131_83 : zRow xM 131 83 = some (36, .i2l, 84, 0, 0) := rfl
theorem zr_131_84 : zRow xM 131 84 = some (29, .lmul, 85, 0, 0) := rfl
theorem zr_131_85 : zRow xM 131 85 = some (14, .lstore 4, 87, 4, 0) := rfl
theorem zr_131_87 : zRow xM 131 87 = some (4, .iload 6, 89, 6, 0) := rfl
theorem zr_131_89 : zRow xM 131 89 = some (7, .aload_n 0, 90, 0, 0) := rfl
theorem zr_131_90 : zRow xM 131 90 = some (46, .getfield 10, 93, 8, 0) := rfl
theorem zr_131_93 : zRow xM 131 93 = some (46, .getfield 256, 96, 4, 17) := rfl
theorem zr_131_96 : zRow xM 131 96 = some (4, .iload 7, 98, 7, 0) := rfl
theorem zr_131_98 : zRow xM 131 98 = some (48, .iaload, 99, 0, 0) := rfl
theorem zr_131_99 : zRow xM 131 99 = some (16, .iadd, 100, 0, 0) := rfl
theorem zr_131_100 : zRow xM 131 100 = some (10, .istore 6, 102, 6, 0) := rfl
theorem zr_131_102 : zRow xM 131 102 = some (15, .iinc 7 1, 105, 7, 1) := rfl
theorem zr_131_105 : zRow xM 131 105 = some (42, .goto (-94), 106, 11, 0) := rfl
theorem zr_131_108 : zRow xM 131 108 = some (7, .aload_n 0, 109, 0, 0) := rfl
theorem zr_131_109 : zRow xM 131 109 = some (46, .getfield 27, 112, 8, 3) := rfl
theorem zr_131_112 : zRow xM 131 112 = some (5, .lload_n 2, 113, 2, 0) := rfl
theorem zr_131_113 : zRow xM 131 113 = some (6, .lload 4, 115, 4, 0) := rfl
theorem zr_131_115 : zRow xM 131 115 = some (4, .iload 6, 117, 6, 0) := rfl
theorem zr_131_117 : zRow xM 131 117 = some (36, .i2l, 118, 0, 0) := rfl
theorem zr_131_118 : zRow xM 131 118 = some (29, .lmul, 119, 0, 0) := rfl
theorem zr_131_119 : zRow xM 131 119 = some (105, .invokevirtual 153, 122, 38, 2) := rfl
theorem zr_131_122 : zRow xM 131 122 = some (110, .return_, 123, 0, 0) := rfl
theorem zm_132 : zMt xM 132 = some (3, (some .int), 3, 0, 0) := rfl
theorem zr_132_0 : zRow xM 132 0 = some (7, .aload_n 0, 1, 0, 0) := rfl
theorem zr_132_1 : zRow xM 132 1 = some (46, .getfield 10, 4, 8, 0) := rfl
theorem zr_132_4 : zRow xM 132 4 = some (3, .iload_n 1, 5, 1, 0) := rfl
theorem zr_132_5 : zRow xM 132 5 = some (105, .invokevirtual 123, 8, 49, 4) := rfl
theorem zr_132_8 : zRow xM 132 8 = some (40, .ifCond .eq 12, 11, 20, 1) := rfl
theorem zr_132_11 : zRow xM 132 11 = some (3, .iload_n 2, 12, 2, 0) := rfl
theorem zr_132_12 : zRp 132 12 13 (0, 0) := ⟨_, _, _, _, rfl, by decide, Option.some_ne_none _, rfl⟩
theorem zr_132_13 : zRp 132 13 14 (0, 1) := ⟨_, _, _, _, rfl, by decide, Option.some_ne_none _, rfl⟩
theorem zr_132_14 : zRow xM 132 14 = some (107, .invokestatic 85, 17, 100, 0) := rfl
theorem zr_132_17 : zRow xM 132 17 = some (40, .ifCond .ne 6, 20, 23, 4) := rfl
theorem zr_132_20 : zRp 132 20 22 (0, -2) := ⟨_, _, _, _, rfl, by decide, Option.some_ne_none _, rfl⟩
theorem zr_132_22 : zRow xM 132 22 = some (108, .ireturn, 23, 0, 0) := rfl
theorem zr_132_23 : zRow xM 132 23 = some (7, .aload_n 0, 24, 0, 0) := rfl
theorem zr_132_24 : zRow xM 132 24 = some (46, .getfield 10, 27, 8, 0) := rfl
theorem zr_132_27 : zRow xM 132 27 = some (3, .iload_n 1, 28, 1, 0) := rfl
theorem zr_132_28 : zRow xM 132 28 = some (105, .invokevirtual 259, 31, 60, 4) := rfl
theorem zr_132_31 : zRow xM 132 31 = some (40, .ifCond .ne 6, 34, 37, 4) := rfl
theorem zr_132_34 : zRp 132 34 36 (0, -3) := ⟨_, _, _, _, rfl, by decide, Option.some_ne_none _, rfl⟩
theorem zr_132_36 : zRow xM 132 36 = some (108, .ireturn, 37, 0, 0) := rfl
theorem zr_132_37 : zRow xM 132 37 = some (3, .iload_n 2, 38, 2, 0) := rfl
theorem zr_132_38 : zRow xM 132 38 = some (40, .ifCond .ne 31, 41, 69, 4) := rfl
theorem zr_132_41 : zRow xM 132 41 = some (7, .aload_n 0, 42, 0, 0) := rfl
theorem zr_132_42 : zRow xM 132 42 = some (46, .getfield 27, 45, 8, 3) := rfl
theorem zr_132_45 : zRow xM 132 45 = some (7, .aload_n 0, 46, 0, 0) := rfl
theorem zr_132_46 : zRow xM 132 46 = some (46, .getfield 10, 49, 8, 0) := rfl
theorem zr_132_49 : zRow xM 132 49 = some (3, .iload_n 1, 50, 1, 0) := rfl
theorem zr_132_50 : zRow xM 132 50 = some (105, .invokevirtual 262, 53, 59, 4) := rfl
theorem zr_132_53 : zRow xM 132 53 = some (36, .i2l, 54, 0, 0) := rfl
theorem zr_132_54 : zRow xM 132 54 = some (7, .aload_n 0, 55, 0, 0) := rfl
theorem zr_132_55 : zRow xM 132 55 = some (46, .getfield 10, 58, 8, 0) := rfl
theorem zr_132_58 : zRow xM 132 58 = some (3, .iload_n 1, 59, 1, 0) := rfl
theorem zr_132_59 : zRow xM 132 59 = some (105, .invokevirtual 259, 62, 60, 4) := rfl
theorem zr_132_62 : zRow xM 132 62 = some (36, .i2l, 63, 0, 0) := rfl
theorem zr_132_63 : zRow xM 132 63 = some (105, .invokevirtual 153, 66, 38, 2) := rfl
theorem zr_132_66 : zRow xM 132 66 = some (42, .goto 8, 67, 74, 0) := rfl
theorem zr_132_69 : zRow xM 132 69 = some (7, .aload_n 0, 70, 0, 0) := rfl
theorem zr_132_70 : zRow xM 132 70 = some (3, .iload_n 1, 71, 1, 0) := rfl
theorem zr_132_71 : zRow xM 132 71 = some (105, .invokevirtual 265, 74, 131, 8) := rfl
theorem zr_132_74 : zRp 132 74 75 (0, 1) := ⟨_, _, _, _, rfl, by decide, Option.some_ne_none _, rfl⟩
theorem zr_132_75 : zRow xM 132 75 = some (108, .ireturn, 76, 0, 0) := rfl
theorem zm_133 : zMt xM 133 = some (2, (some .long), 2, 0, 0) := rfl
theorem zr_133_0 : zRow xM 133 0 = some (3, .iload_n 1, 1, 1, 0) := rfl
theorem zr_133_1 : zRp 133 1 2 (0, 0) := ⟨_, _, _, _, rfl, by decide, Option.some_ne_none _, rfl⟩
theorem zr_133_2 : zRp 133 2 3 (0, 1) := ⟨_, _, _, _, rfl, by decide, Option.some_ne_none _, rfl⟩
theorem zr_133_3 : zRow xM 133 3 = some (107, .invokestatic 85, 6, 100, 0) := rfl
theorem zr_133_6 : zRow xM 133 6 = some (40, .ifCond .ne 7, 9, 13, 4) := rfl
theorem zr_133_9 : zRp 133 9 12 (1, -1000000000000) := ⟨_, _, _, _, rfl, by decide, Option.some_ne_none _, rfl⟩
theorem zr_133_12 : zRow xM 133 12 = some (109, .lreturn, 13, 0, 0) := rfl
theorem zr_133_13 : zRow xM 133 13 = some (3, .iload_n 1, 14, 1, 0) := rfl
theorem zr_133_14 : zRow xM 133 14 = some (40, .ifCond .ne 13, 17, 27, 4) := rfl
theorem zr_133_17 : zRow xM 133 17 = some (7, .aload_n 0, 18, 0, 0) := rfl
theorem zr_133_18 : zRow xM 133 18 = some (46, .getfield 27, 21, 8, 3) := rfl
theorem zr_133_21 : zRow xM 133 21 = some (46, .getfield 270, 24, 2, 0) := rfl
theorem zr_133_24 : zRow xM 133 24 = some (42, .goto 10, 25, 34, 0) := rfl
theorem zr_133_27 : zRow xM 133 27 = some (7, .aload_n 0, 28, 0, 0) := rfl
theorem zr_133_28 : zRow xM 133 28 = some (46, .getfield 27, 31, 8, 3) := rfl
theorem zr_133_31 : zRow xM 133 31 = some (46, .getfield 271, 34, 2, 1) := rfl
theorem zr_133_34 : zRow xM 133 34 = some (109, .lreturn, 35, 0, 0) := rfl
theorem zm_134 : zMt xM 134 = some (2, (some .int), 2, 0, 0) := rfl
theorem zr_134_0 : zRow xM 134 0 = some (3, .iload_n 1, 1, 1, 0) := rfl
theorem zr_134_1 : zRp 134 1 2 (0, 0) := ⟨_, _, _, _, rfl, by decide, Option.some_ne_none _, rfl⟩
theorem zr_134_2 : zRp 134 2 3 (0, 1) := ⟨_, _, _, _, rfl, by decide, Option.some_ne_none _, rfl⟩
theorem zr_134_3 : zRow xM 134 3 = some (107, .invokestatic 85, 6, 100, 0) := rfl
theorem zr_134_6 : zRow xM 134 6 = some (40, .ifCond .ne 6, 9, 12, 4) := rfl
theorem zr_134_9 : zRp 134 9 11 (0, -2) := ⟨_, _, _, _, rfl, by decide, Option.some_ne_none _, rfl⟩
theorem zr_134_11 : zRow xM 134 11 = some (108, .ireturn, 12, 0, 0) := rfl
theorem zr_134_12 : zRow xM 134 12 = some (7, .aload_n 0, 13, 0, 0) := rfl
theorem zr_134_13 : zRow xM 134 13 = some (46, .getfield 16, 16, 8, 1) := rfl
theorem zr_134_16 : zRow xM 134 16 = some (3, .iload_n 1, 17, 1, 0) := rfl
theorem zr_134_17 : zRow xM 134 17 = some (54, .aaload, 18, 0, 0) := rfl
theorem zr_134_18 : zRow xM 134 18 = some (7, .aload_n 0, 19, 0, 0) := rfl
theorem zr_134_19 : zRow xM 134 19 = some (46, .getfield 10, 22, 8, 0) := rfl
theorem zr_134_22 : zRow xM 134 22 = some (105, .invokevirtual 272, 25, 61, 4) := rfl
theorem zr_134_25 : zRow xM 134 25 = some (7, .aload_n 0, 26, 0, 0) := rfl
theorem zr_134_26 : zRow xM 134 26 = some (46, .getfield 20, 29, 8, 2) := rfl
theorem zr_134_29 : zRow xM 134 29 = some (3, .iload_n 1, 30, 1, 0) := rfl
theorem zr_134_30 : zRp 134 30 31 (0, 1) := ⟨_, _, _, _, rfl, by decide, Option.some_ne_none _, rfl⟩
theorem zr_134_31 : zRow xM 134 31 = some (49, .iastore, 32, 0, 0) := rfl
theorem zr_134_32 : zRp 134 32 33 (0, 1) := ⟨_, _, _, _, rfl, by decide, Option.some_ne_none _, rfl⟩
theorem zr_134_33 : zRow xM 134 33 = some (108, .ireturn, 34, 0, 0) := rfl
theorem zm_135 : zMt xM 135 = some (2, (some .int), 2, 0, 0) := rfl
theorem zr_135_0 : zRow xM 135 0 = some (3, .iload_n 1, 1, 1, 0) := rfl
theorem zr_135_1 : zRp 135 1 2 (0, 0) := ⟨_, _, _, _, rfl, by decide, Option.some_ne_none _, rfl⟩
theorem zr_135_2 : zRp 135 2 3 (0, 1) := ⟨_, _, _, _, rfl, by decide, Option.some_ne_none _, rfl⟩
theorem zr_135_3 : zRow xM 135 3 = some (107, .invokestatic 85, 6, 100, 0) := rfl
theorem zr_135_6 : zRow xM 135 6 = some (40, .ifCond .ne 6, 9, 12, 4) := rfl
theorem zr_135_9 : zRp 135 9 11 (0, -2) := ⟨_, _, _, _, rfl, by decide, Option.some_ne_none _, rfl⟩
theorem zr_135_11 : zRow xM 135 11 = some (108, .ireturn, 12, 0, 0) := rfl
theorem zr_135_12 : zRow xM 135 12 = some (7, .aload_n 0, 13, 0, 0) := rfl
theorem zr_135_13 : zRow xM 135 13 = some (46, .getfield 20, 16, 8, 2) := rfl
theorem zr_135_16 : zRow xM 135 16 = some (3, .iload_n 1, 17, 1, 0) := rfl
theorem zr_135_17 : zRow xM 135 17 = some (48, .iaload, 18, 0, 0) := rfl
theorem zr_135_18 : zRow xM 135 18 = some (40, .ifCond .ne 6, 21, 24, 4) := rfl
theorem zr_135_21 : zRp 135 21 23 (0, -3) := ⟨_, _, _, _, rfl, by decide, Option.some_ne_none _, rfl⟩
theorem zr_135_23 : zRow xM 135 23 = some (108, .ireturn, 24, 0, 0) := rfl
theorem zr_135_24 : zRow xM 135 24 = some (7, .aload_n 0, 25, 0, 0) := rfl
theorem zr_135_25 : zRow xM 135 25 = some (46, .getfield 10, 28, 8, 0) := rfl
theorem zr_135_28 : zRow xM 135 28 = some (7, .aload_n 0, 29, 0, 0) := rfl
theorem zr_135_29 : zRow xM 135 29 = some (46, .getfield 16, 32, 8, 1) := rfl
theorem zr_135_32 : zRow xM 135 32 = some (3, .iload_n 1, 33, 1, 0) := rfl
theorem zr_135_33 : zRow xM 135 33 = some (54, .aaload, 34, 0, 0) := rfl
theorem zr_135_34 : zRow xM 135 34 = some (105, .invokevirtual 272, 37, 61, 4) := rfl
theorem zr_135_37 : zRp 135 37 38 (0, 1) := ⟨_, _, _, _, rfl, by decide, Option.some_ne_none _, rfl⟩
theorem zr_135_38 : zRow xM 135 38 = some (108, .ireturn, 39, 0, 0) := rfl
theorem zm_136 : zMt xM 136 = some (2, (some .int), 1, 0, 0) := rfl
theorem zr_136_0 : zRow xM 136 0 = some (5, .lload_n 0, 1, 0, 0) := rfl
theorem zr_136_1 : zRow xM 136 1 = some (5, .lload_n 0, 2, 0, 0) := rfl
theorem zr_136_2 : zRp 136 2 3 (0, 1) := ⟨_, _, _, _, rfl, by decide, Option.some_ne_none _, rfl⟩
theorem zr_136_3 : zRow xM 136 3 = some (35, .lushr, 4, 0, 0) := rfl
theorem zr_136_4 : zRp 136 4 7 (1, 6148914691236517205) := ⟨_, _, _, _, rfl, by decide, Option.some_ne_none _, rfl⟩
theorem zr_136_7 : zRow xM 136 7 = some (30, .land, 8, 0, 0) := rfl
theorem zr_136_8 : zRow xM 136 8 = some (28, .lsub, 9, 0, 0) := rfl
theorem zr_136_9 : zRow xM 136 9 = some (13, .lstore_n 0, 10, 0, 0) := rfl
theorem zr_136_10 : zRow xM 136 10 = some (5, .lload_n 0, 11, 0, 0) := rfl
theorem zr_136_11 : zRp 136 11 14 (1, 3689348814741910323) := ⟨_, _, _, _, rfl, by decide, Option.some_ne_none _, rfl⟩
theorem zr_136_14 : zRow xM 136 14 = some (30, .land, 15, 0, 0) := rfl
theorem zr_136_15 : zRow xM 136 15 = some (5, .lload_n 0, 16, 0, 0) := rfl
theorem zr_136_16 : zRp 136 16 17 (0, 2) := ⟨_, _, _, _, rfl, by decide, Option.some_ne_none _, rfl⟩
theorem zr_136_17 : zRow xM 136 17 = some (35, .lushr, 18, 0, 0) := rfl
theorem zr_136_18 : zRp 136 18 21 (1, 3689348814741910323) := ⟨_, _, _, _, rfl, by decide, Option.some_ne_none _, rfl⟩
theorem zr_136_21 : zRow xM 136 21 = some (30, .land, 22, 0, 0) := rfl
theorem zr_136_22 : zRow xM 136 22 = some (27, .ladd, 23, 0, 0) := rfl
theorem zr_136_23 : zRow xM 136 23 = some (13, .lstore_n 0, 24, 0, 0) := rfl
theorem zr_136_24 : zRow xM 136 24 = some (5, .lload_n 0, 25, 0, 0) := rfl
theorem zr_136_25 : zRow xM 136 25 = some (5, .lload_n 0, 26, 0, 0) := rfl
theorem zr_136_26 : zRp 136 26 27 (0, 4) := ⟨_, _, _, _, rfl, by decide, Option.some_ne_none _, rfl⟩
theorem zr_136_27 : zRow xM 136 27 = some (35, .lushr, 28, 0, 0) := rfl
theorem zr_136_28 : zRow xM 136 28 = some (27, .ladd, 29, 0, 0) := rfl
theorem zr_136_29 : zRp 136 29 32 (1, 1085102592571150095) := ⟨_, _, _, _, rfl, by decide, Option.some_ne_none _, rfl⟩
theorem zr_136_32 : zRow xM 136 32 = some (30, .land, 33, 0, 0) := rfl
theorem zr_136_33 : zRow xM 136 33 = some (13, .lstore_n 0, 34, 0, 0) := rfl
theorem zr_136_34 : zRow xM 136 34 = some (5, .lload_n 0, 35, 0, 0) := rfl
theorem zr_136_35 : zRow xM 136 35 = some (5, .lload_n 0, 36, 0, 0) := rfl
theorem zr_136_36 : zRp 136 36 38 (0, 8) := ⟨_, _, _, _, rfl, by decide, Option.some_ne_none _, rfl⟩
theorem zr_136_38 : zRow xM 136 38 = some (35, .lushr, 39, 0, 0) := rfl
theorem zr_136_39 : zRow xM 136 39 = some (27, .ladd, 40, 0, 0) := rfl
theorem zr_136_40 : zRow xM 136 40 = some (13, .lstore_n 0, 41, 0, 0) := rfl
theorem zr_136_41 : zRow xM 136 41 = some (5, .lload_n 0, 42, 0, 0) := rfl
theorem zr_136_42 : zRow xM 136 42 = some (5, .lload_n 0, 43, 0, 0) := rfl
theorem zr_136_43 : zRp 136 43 45 (0, 16) := ⟨_, _, _, _, rfl, by decide, Option.some_ne_none _, rfl⟩
theorem zr_136_45 : zRow xM 136 45 = some (35, .lushr, 46, 0, 0) := rfl
theorem zr_136_46 : zRow xM 136 46 = some (27, .ladd, 47, 0, 0) := rfl
theorem zr_136_47 : zRow xM 136 47 = some (13, .lstore_n 0, 48, 0, 0) := rfl
theorem zr_136_48 : zRow xM 136 48 = some (5, .lload_n 0, 49, 0, 0) := rfl
theorem zr_136_49 : zRow xM 136 49 = some (5, .lload_n 0, 50, 0, 0) := rfl
theorem zr_136_50 : zRp 136 50 52 (0, 32) := ⟨_, _, _, _, rfl, by decide, Option.some_ne_none _, rfl⟩
theorem zr_136_52 : zRow xM 136 52 = some (35, .lushr, 53, 0, 0) := rfl
theorem zr_136_53 : zRow xM 136 53 = some (27, .ladd, 54, 0, 0) := rfl
theorem zr_136_54 : zRow xM 136 54 = some (13, .lstore_n 0, 55, 0, 0) := rfl
theorem zr_136_55 : zRow xM 136 55 = some (5, .lload_n 0, 56, 0, 0) := rfl
theorem zr_136_56 : zRow xM 136 56 = some (37, .l2i, 57, 0, 0) := rfl
theorem zr_136_57 : zRp 136 57 59 (0, 127) := ⟨_, _, _, _, rfl, by decide, Option.some_ne_none _, rfl⟩
theorem zr_136_59 : zRow xM 136 59 = some (21, .iand, 60, 0, 0) := rfl
theorem zr_136_60 : zRow xM 136 60 = some (108, .ireturn, 61, 0, 0) := rfl
theorem zm_137 : zMt xM 137 = some (2, (some .int), 2, 0, 0) := rfl
theorem zr_137_0 : zRow xM 137 0 = some (3, .iload_n 1, 1, 1, 0) := rfl
theorem zr_137_1 : zRow xM 137 1 = some (111, .tableswitch 69 0 3 #[31, 39, 47, 58], 2, 0, 1) := rfl
theorem zr_137_32 : zRow xM 137 32 = some (7, .aload_n 0, 33, 0, 0) := rfl
theorem zr_137_33 : zRow xM 137 33 = some (46, .getfield 10, 36, 8, 0) := rfl
theorem zr_137_36 : zRow xM 137 36 = some (46, .getfield 70, 39, 4, 0) := rfl
theorem zr_137_39 : zRow xM 137 39 = some (108, .ireturn, 40, 0, 0) := rfl
theorem zr_137_40 : zRow xM 137 40 = some (7, .aload_n 0, 41, 0, 0) := rfl
theorem zr_137_41 : zRow xM 137 41 = some (46, .getfield 10, 44, 8, 0) := rfl
theorem zr_137_44 : zRow xM 137 44 = some (46, .getfield 93, 47, 4, 1) := rfl
theorem zr_137_47 : zRow xM 137 47 = some (108, .ireturn, 48, 0, 0) := rfl
theorem zr_137_48 : zRow xM 137 48 = some (7, .aload_n 0, 49, 0, 0) := rfl
theorem zr_137_49 : zRow xM 137 49 = some (46, .getfield 10, 52, 8, 0) := rfl
theorem zr_137_52 : zRow xM 137 52 = some (46, .getfield 100, 55, 4, 2) := rfl
theorem zr_137_55 : zRow xM 137 55 = some (107, .invokestatic 275, 58, 136, 0) := rfl
theorem zr_137_58 : zRow xM 137 58 = some (108, .ireturn, 59, 0, 0) := rfl
theorem zr_137_59 : zRow xM 137 59 = some (7, .aload_n 0, 60, 0, 0) := rfl
theorem zr_137_60 : zRow xM 137 60 = some (46, .getfield 10, 63, 8, 0) := rfl
theorem zr_137_63 : zRow xM 137 63 = some (46, .getfield 104, 66, 4, 3) := rfl
theorem zr_137_66 : zRow xM 137 66 = some (107, .invokestatic 275, 69, 136, 0) := rfl
theorem zr_137_69 : zRow xM 137 69 = some (108, .ireturn, 70, 0, 0) := rfl
theorem zr_137_70 : zRp 137 70 72 (0, -2) := ⟨_, _, _, _, rfl, by decide, Option.some_ne_none _, rfl⟩
theorem zr_137_72 : zRow xM 137 72 = some (108, .ireturn, 73, 0, 0) := rfl
theorem zm_138 : zMt xM 138 = some (4, (some .long), 1, 0, 0) := rfl
theorem zr_138_0 : zRp 138 0 3 (1, 449) := ⟨_, _, _, _, rfl, by decide, Option.some_ne_none _, rfl⟩
theorem zr_138_3 : zRow xM 138 3 = some (13, .lstore_n 1, 4, 1, 0) := rfl
theorem zr_138_4 : zRp 138 4 5 (0, 0) := ⟨_, _, _, _, rfl, by decide, Option.some_ne_none _, rfl⟩
theorem zr_138_5 : zRow xM 138 5 = some (9, .istore_n 3, 6, 3, 0) := rfl
theorem zr_138_6 : zRow xM 138 6 = some (3, .iload_n 3, 7, 3, 0) := rfl
theorem zr_138_7 : zRp 138 7 8 (0, 4) := ⟨_, _, _, _, rfl, by decide, Option.some_ne_none _, rfl⟩
theorem zr_138_8 : zRow xM 138 8 = some (41, .if_icmp .ge 22, 11, 30, 3) := rfl
theorem zr_138_11 : zRp 138 11 14 (1, 31) := ⟨_, _, _, _, rfl, by decide, Option.some_ne_none _, rfl⟩
theorem zr_138_14 : zRow xM 138 14 = some (5, .lload_n 1, 15, 1, 0) := rfl
theorem zr_138_15 : zRow xM 138 15 = some (29, .lmul, 16, 0, 0) := rfl
theorem zr_138_16 : zRow xM 138 16 = some (7, .aload_n 0, 17, 0, 0) := rfl
theorem zr_138_17 : zRow xM 138 17 = some (3, .iload_n 3, 18, 3, 0) := rfl
theorem zr_138_18 : zRow xM 138 18 = some (105, .invokevirtual 284, 21, 137, 8) := rfl
theorem zr_138_21 : zRow xM 138 21 = some (36, .i2l, 22, 0, 0) := rfl
theorem zr_138_22 : zRow xM 138 22 = some (27, .ladd, 23, 0, 0) := rfl
theorem zr_138_23 : zRow xM 138 23 = some (13, .lstore_n 1, 24, 1, 0) := rfl
theorem zr_138_24 : zRow xM 138 24 = some (15, .iinc 3 1, 27, 3, 1) := rfl
theorem zr_138_27 : zRow xM 138 27 = some (42, .goto (-21), 28, 6, 0) := rfl
theorem zr_138_30 : zRow xM 138 30 = some (7, .aload_n 0, 31, 0, 0) := rfl
theorem zr_138_31 : zRow xM 138 31 = some (46, .getfield 10, 34, 8, 0) := rfl
theorem zr_138_34 : zRow xM 138 34 = some (5, .lload_n 1, 35, 1, 0) := rfl
theorem zr_138_35 : zRow xM 138 35 = some (105, .invokevirtual 287, 38, 64, 4) := rfl
theorem zr_138_38 : zRow xM 138 38 = some (13, .lstore_n 1, 39, 1, 0) := rfl
theorem zr_138_39 : zRp 138 39 42 (1, 31) := ⟨_, _, _, _, rfl, by decide, Option.some_ne_none _, rfl⟩
theorem zr_138_42 : zRow xM 138 42 = some (5, .lload_n 1, 43, 1, 0) := rfl
theorem zr_138_43 : zRow xM 138 43 = some (29, .lmul, 44, 0, 0) := rfl
theorem zr_138_44 : zRow xM 138 44 = some (7, .aload_n 0, 45, 0, 0) := rfl
theorem zr_138_45 : zRow xM 138 45 = some (46, .getfield 27, 48, 8, 3) := rfl
theorem zr_138_48 : zRow xM 138 48 = some (46, .getfield 270, 51, 2, 0) := rfl
theorem zr_138_51 : zRow xM 138 51 = some (27, .ladd, 52, 0, 0) := rfl
theorem zr_138_52 : zRow xM 138 52 = some (13, .lstore_n 1, 53, 1, 0) := rfl
theorem zr_138_53 : zRp 138 53 56 (1, 31) := ⟨_, _, _, _, rfl, by decide, Option.some_ne_none _, rfl⟩
theorem zr_138_56 : zRow xM 138 56 = some (5, .lload_n 1, 57, 1, 0) := rfl
theorem zr_138_57 : zRow xM 138 57 = some (29, .lmul, 58, 0, 0) := rfl
theorem zr_138_58 : zRow xM 138 58 = some (7, .aload_n 0, 59, 0, 0) := rfl
theorem zr_138_59 : zRow xM 138 59 = some (46, .getfield 27, 62, 8, 3) := rfl
theorem zr_138_62 : zRow xM 138 62 = some (46, .getfield 271, 65, 2, 1) := rfl
theorem zr_138_65 : zRow xM 138 65 = some (27, .ladd, 66, 0, 0) := rfl
theorem zr_138_66 : zRow xM 138 66 = some (109, .lreturn, 67, 0, 0) := rfl
theorem zm_140 : zMt xM 140 = some (6, (some .boolean), 3, 0, 0) := rfl
theorem zr_140_0 : zRow xM 140 0 = some (5, .lload_n 0, 1, 0, 0) := rfl
theorem zr_140_1 : zRow xM 140 1 = some (5, .lload_n 2, 2, 2, 0) := rfl
theorem zr_140_2 : zRow xM 140 2 = some (39, .lcmp, 3, 0, 0) := rfl
theorem zr_140_3 : zRow xM 140 3 = some (40, .ifCond .lt 14, 6, 17, 0) := rfl
theorem zr_140_6 : zRow xM 140 6 = some (5, .lload_n 0, 7, 0, 0) := rfl
theorem zr_140_7 : zRow xM 140 7 = some (6, .lload 4, 9, 4, 0) := rfl
theorem zr_140_9 : zRow xM 140 9 = some (39, .lcmp, 10, 0, 0) := rfl
theorem zr_140_10 : zRow xM 140 10 = some (40, .ifCond .gt 7, 13, 17, 2) := rfl
theorem zr_140_13 : zRp 140 13 14 (0, 1) := ⟨_, _, _, _, rfl, by decide, Option.some_ne_none _, rfl⟩
theorem zr_140_14 : zRow xM 140 14 = some (42, .goto 4, 15, 18, 0) := rfl
theorem zr_140_17 : zRp 140 17 18 (0, 0) := ⟨_, _, _, _, rfl, by decide, Option.some_ne_none _, rfl⟩
theorem zr_140_18 : zRow xM 140 18 = some (108, .ireturn, 19, 0, 0) := rfl
theorem zm_141 : zMt xM 141 = some (1, (some .int), 1, 0, 0) := rfl
theorem zr_141_0 : zRow xM 141 0 = some (7, .aload_n 0, 1, 0, 0) := rfl
theorem zr_141_1 : zRow xM 141 1 = some (46, .getfield 7, 4, 9, 0) := rfl
theorem zr_141_4 : zRp 141 4 7 (0, 822) := ⟨_, _, _, _, rfl, by decide, Option.some_ne_none _, rfl⟩
theorem zr_141_7 : zRow xM 141 7 = some (48, .iaload, 8, 0, 0) := rfl
theorem zr_141_8 : zRow xM 141 8 = some (108, .ireturn, 9, 0, 0) := rfl
theorem zm_142 : zMt xM 142 = some (1, (some .int), 1, 0, 0) := rfl
theorem zr_142_0 : zRow xM 142 0 = some (7, .aload_n 0, 1, 0, 0) := rfl
theorem zr_142_1 : zRow xM 142 1 = some (46, .getfield 7, 4, 9, 0) := rfl
theorem zr_142_4 : zRp 142 4 7 (0, 823) := ⟨_, _, _, _, rfl, by decide, Option.some_ne_none _, rfl⟩
theorem zr_142_7 : zRow xM 142 7 = some (48, .iaload, 8, 0, 0) := rfl
theorem zr_142_8 : zRow xM 142 8 = some (108, .ireturn, 9, 0, 0) := rfl
theorem zm_143 : zMt xM 143 = some (2, (some .boolean), 2, 0, 0) := rfl
theorem zr_143_0 : zRow xM 143 0 = some (3, .iload_n 1, 1, 1, 0) := rfl
theorem zr_143_1 : zRow xM 143 1 = some (36, .i2l, 2, 0, 0) := rfl
theorem zr_143_2 : zRp 143 2 3 (1, 0) := ⟨_, _, _, _, rfl, by decide, Option.some_ne_none _, rfl⟩
theorem zr_143_3 : zRow xM 143 3 = some (7, .aload_n 0, 4, 0, 0) := rfl
theorem zr_143_4 : zRow xM 143 4 = some (105, .invokevirtual 61, 7, 141, 9) := rfl
theorem zr_143_7 : zRp 143 7 8 (0, 1) := ⟨_, _, _, _, rfl, by decide, Option.some_ne_none _, rfl⟩
theorem zr_143_8 : zRow xM 143 8 = some (17, .isub, 9, 0, 0) := rfl
theorem zr_143_9 : zRow xM 143 9 = some (36, .i2l, 10, 0, 0) := rfl
theorem zr_143_10 : zRow xM 143 10 = some (107, .invokestatic 65, 13, 140, 0) := rfl
theorem zr_143_13 : zRow xM 143 13 = some (108, .ireturn, 14, 0, 0) := rfl
theorem zm_144 : zMt xM 144 = some (3, (some .int), 3, 0, 0) := rfl
theorem zr_144_0 : zRow xM 144 0 = some (7, .aload_n 0, 1, 0, 0) := rfl
theorem zr_144_1 : zRow xM 144 1 = some (46, .getfield 7, 4, 9, 0) := rfl
theorem zr_144_4 : zRp 144 4 6 (0, 90) := ⟨_, _, _, _, rfl, by decide, Option.some_ne_none _, rfl⟩
theorem zr_144_6 : zRp 144 6 8 (0, 6) := ⟨_, _, _, _, rfl, by decide, Option.some_ne_none _, rfl⟩
theorem zr_144_8 : zRow xM 144 8 = some (3, .iload_n 1, 9, 1, 0) := rfl
theorem zr_144_9 : zRow xM 144 9 = some (18, .imul, 10, 0, 0) := rfl
theorem zr_144_10 : zRow xM 144 10 = some (16, .iadd, 11, 0, 0) := rfl
theorem zr_144_11 : zRow xM 144 11 = some (3, .iload_n 2, 12, 2, 0) := rfl
theorem zr_144_12 : zRow xM 144 12 = some (16, .iadd, 13, 0, 0) := rfl
theorem zr_144_13 : zRow xM 144 13 = some (48, .iaload, 14, 0, 0) := rfl
theorem zr_144_14 : zRow xM 144 14 = some (108, .ireturn, 15, 0, 0) := rfl
theorem zm_145 : zMt xM 145 = some (2, (some .int), 2, 0, 0) := rfl
theorem zr_145_0 : zRow xM 145 0 = some (3, .iload_n 1, 1, 1, 0) := rfl
theorem zr_145_1 : zRow xM 145 1 = some (36, .i2l, 2, 0, 0) := rfl
theorem zr_145_2 : zRp 145 2 5 (1, -60) := ⟨_, _, _, _, rfl, by decide, Option.some_ne_none _, rfl⟩
theorem zr_145_5 : zRp 145 5 8 (1, 99) := ⟨_, _, _, _, rfl, by decide, Option.some_ne_none _, rfl⟩
theorem zr_145_8 : zRow xM 145 8 = some (107, .invokestatic 65, 11, 140, 0) := rfl
theorem zr_145_11 : zRow xM 145 11 = some (40, .ifCond .ne 6, 14, 17, 4) := rfl
theorem zr_145_14 : zRp 145 14 16 (0, -2) := ⟨_, _, _, _, rfl, by decide, Option.some_ne_none _, rfl⟩
theorem zr_145_16 : zRow xM 145 16 = some (108, .ireturn, 17, 0, 0) := rfl
theorem zr_145_17 : zRow xM 145 17 = some (7, .aload_n 0, 18, 0, 0) := rfl
theorem zr_145_18 : zRow xM 145 18 = some (105, .invokevirtual 61, 21, 141, 9) := rfl
theorem zr_145_21 : zRp 145 21 23 (0, 10) := ⟨_, _, _, _, rfl, by decide, Option.some_ne_none _, rfl⟩
theorem zr_145_23 : zRow xM 145 23 = some (41, .if_icmp .ne 6, 26, 29, 4) := rfl
theorem zr_145_26 : zRp 145 26 28 (0, -4) := ⟨_, _, _, _, rfl, by decide, Option.some_ne_none _, rfl⟩
theorem zr_145_28 : zRow xM 145 28 = some (108, .ireturn, 29, 0, 0) := rfl
theorem zr_145_29 : zRow xM 145 29 = some (7, .aload_n 0, 30, 0, 0) := rfl
theorem zr_145_30 : zRow xM 145 30 = some (46, .getfield 7, 33, 9, 0) := rfl
theorem zr_145_33 : zRp 145 33 34 (0, 0) := ⟨_, _, _, _, rfl, by decide, Option.some_ne_none _, rfl⟩
theorem zr_145_34 : zRow xM 145 34 = some (7, .aload_n 0, 35, 0, 0) := rfl
theorem zr_145_35 : zRow xM 145 35 = some (105, .invokevirtual 61, 38, 141, 9) := rfl
theorem zr_145_38 : zRow xM 145 38 = some (16, .iadd, 39, 0, 0) := rfl
theorem zr_145_39 : zRow xM 145 39 = some (3, .iload_n 1, 40, 1, 0) := rfl
theorem zr_145_40 : zRow xM 145 40 = some (49, .iastore, 41, 0, 0) := rfl
theorem zr_145_41 : zRow xM 145 41 = some (7, .aload_n 0, 42, 0, 0) := rfl
theorem zr_145_42 : zRow xM 145 42 = some (46, .getfield 7, 45, 9, 0) := rfl
theorem zr_145_45 : zRp 145 45 48 (0, 822) := ⟨_, _, _, _, rfl, by decide, Option.some_ne_none _, rfl⟩
theorem zr_145_48 : zRow xM 145 48 = some (45, .dup2, 49, 0, 0) := rfl
theorem zr_145_49 : zRow xM 145 49 = some (48, .iaload, 50, 0, 0) := rfl
theorem zr_145_50 : zRp 145 50 51 (0, 1) := ⟨_, _, _, _, rfl, by decide, Option.some_ne_none _, rfl⟩
theorem zr_145_51 : zRow xM 145 51 = some (16, .iadd, 52, 0, 0) := rfl
theorem zr_145_52 : zRow xM 145 52 = some (49, .iastore, 53, 0, 0) := rfl
theorem zr_145_53 : zRow xM 145 53 = some (7, .aload_n 0, 54, 0, 0) := rfl
theorem zr_145_54 : zRow xM 145 54 = some (105, .invokevirtual 61, 57, 141, 9) := rfl
theorem zr_145_57 : zRp 145 57 58 (0, 1) := ⟨_, _, _, _, rfl, by decide, Option.some_ne_none _, rfl⟩
theorem zr_145_58 : zRow xM 145 58 = some (17, .isub, 59, 0, 0) := rfl
theorem zr_145_59 : zRow xM 145 59 = some (108, .ireturn, 60, 0, 0) := rfl
theorem zm_146 : zMt xM 146 = some (8, (some .int), 6, 0, 0) := rfl
theorem zr_146_0 : zRow xM 146 0 = some (7, .aload_n 0, 1, 0, 0) := rfl
theorem zr_146_1 : zRow xM 146 1 = some (105, .invokevirtual 73, 4, 142, 9) := rfl
theorem zr_146_4 : zRow xM 146 4 = some (40, .ifCond .ne 7, 7, 11, 4) := rfl
theorem zr_146_7 : zRp 146 7 8 (0, 0) := ⟨_, _, _, _, rfl, by decide, Option.some_ne_none _, rfl⟩
theorem zr_146_8 : zRow xM 146 8 = some (42, .goto 14, 9, 22, 0) := rfl
theorem zr_146_11 : zRow xM 146 11 = some (7, .aload_n 0, 12, 0, 0) := rfl
theorem zr_146_12 : zRow xM 146 12 = some (7, .aload_n 0, 13, 0, 0) := rfl
theorem zr_146_13 : zRow xM 146 13 = some (105, .invokevirtual 73, 16, 142, 9) := rfl
theorem zr_146_16 : zRp 146 16 17 (0, 1) := ⟨_, _, _, _, rfl, by decide, Option.some_ne_none _, rfl⟩
theorem zr_146_17 : zRow xM 146 17 = some (17, .isub, 18, 0, 0) := rfl
theorem zr_146_18 : zRp 146 18 19 (0, 0) := ⟨_, _, _, _, rfl, by decide, Option.some_ne_none _, rfl⟩
theorem zr_146_19 : zRow xM 146 19 = some (105, .invokevirtual 76, 22, 144, 9) := rfl
theorem zr_146_22 : zRow xM 146 22 = some (10, .istore 6, 24, 6, 0) := rfl
theorem zr_146_24 : zRow xM 146 24 = some (3, .iload_n 1, 25, 1, 0) := rfl
theorem zr_146_25 : zRow xM 146 25 = some (36, .i2l, 26, 0, 0) := rfl
theorem zr_146_26 : zRow xM 146 26 = some (4, .iload 6, 28, 6, 0) := rfl
theorem zr_146_28 : zRow xM 146 28 = some (36, .i2l, 29, 0, 0) := rfl
theorem zr_146_29 : zRp 146 29 32 (1, 99) := ⟨_, _, _, _, rfl, by decide, Option.some_ne_none _, rfl⟩
theorem zr_146_32 : zRow xM 146 32 = some (107, .invokestatic 65, 35, 140, 0) := rfl
theorem zr_146_35 : zRow xM 146 35 = some (40, .ifCond .eq 37, 38, 72, 1) := rfl
theorem zr_146_38 : zRow xM 146 38 = some (7, .aload_n 0, 39, 0, 0) := rfl
theorem zr_146_39 : zRow xM 146 39 = some (3, .iload_n 2, 40, 2, 0) := rfl
theorem zr_146_40 : zRow xM 146 40 = some (105, .invokevirtual 80, 43, 143, 9) := rfl
theorem zr_146_43 : zRow xM 146 43 = some (40, .ifCond .eq 29, 46, 72, 1) := rfl
theorem zr_146_46 : zRow xM 146 46 = some (7, .aload_n 0, 47, 0, 0) := rfl
theorem zr_146_47 : zRow xM 146 47 = some (3, .iload_n 3, 48, 3, 0) := rfl
theorem zr_146_48 : zRow xM 146 48 = some (105, .invokevirtual 80, 51, 143, 9) := rfl
theorem zr_146_51 : zRow xM 146 51 = some (40, .ifCond .eq 21, 54, 72, 1) := rfl
theorem zr_146_54 : zRow xM 146 54 = some (3, .iload_n 2, 55, 2, 0) := rfl
theorem zr_146_55 : zRow xM 146 55 = some (3, .iload_n 3, 56, 3, 0) := rfl
theorem zr_146_56 : zRow xM 146 56 = some (41, .if_icmp .eq 16, 59, 72, 1) := rfl
theorem zr_146_59 : zRow xM 146 59 = some (4, .iload 4, 61, 4, 0) := rfl
theorem zr_146_61 : zRow xM 146 61 = some (36, .i2l, 62, 0, 0) := rfl
theorem zr_146_62 : zRp 146 62 63 (1, 0) := ⟨_, _, _, _, rfl, by decide, Option.some_ne_none _, rfl⟩
theorem zr_146_63 : zRp 146 63 66 (1, 2) := ⟨_, _, _, _, rfl, by decide, Option.some_ne_none _, rfl⟩
theorem zr_146_66 : zRow xM 146 66 = some (107, .invokestatic 65, 69, 140, 0) := rfl
theorem zr_146_69 : zRow xM 146 69 = some (40, .ifCond .ne 6, 72, 75, 4) := rfl
theorem zr_146_72 : zRp 146 72 74 (0, -2) := ⟨_, _, _, _, rfl, by decide, Option.some_ne_none _, rfl⟩
theorem zr_146_74 : zRow xM 146 74 = some (108, .ireturn, 75, 0, 0) := rfl
theorem zr_146_75 : zRow xM 146 75 = some (7, .aload_n 0, 76, 0, 0) := rfl
theorem zr_146_76 : zRow xM 146 76 = some (105, .invokevirtual 73, 79, 142, 9) := rfl
theorem zr_146_79 : zRp 146 79 81 (0, 60) := ⟨_, _, _, _, rfl, by decide, Option.some_ne_none _, rfl⟩
theorem zr_146_81 : zRow xM 146 81 = some (41, .if_icmp .ne 6, 84, 87, 4) := rfl
theorem zr_146_84 : zRp 146 84 86 (0, -4) := ⟨_, _, _, _, rfl, by decide, Option.some_ne_none _, rfl⟩
theorem zr_146_86 : zRow xM 146 86 = some (108, .ireturn, 87, 0, 0) := rfl
theorem zr_146_87 : zRp 146 87 89 (0, 90) := ⟨_, _, _, _, rfl, by decide, Option.some_ne_none _, rfl⟩
theorem zr_146_89 : zRp 146 89 91 (0, 6) := ⟨_, _, _, _, rfl, by decide, Option.some_ne_none _, rfl⟩
theorem zr_146_91 : zRow xM 146 91 = some (7, .aload_n 0, 92, 0, 0) := rfl
theorem zr_146_92 : zRow xM 146 92 = some (105, .invokevirtual 73, 95, 142, 9) := rfl
theorem zr_146_95 : zRow xM 146 95 = some (18, .imul, 96, 0, 0) := rfl
theorem zr_146_96 : zRow xM 146 96 = some (16, .iadd, 97, 0, 0) := rfl
theorem zr_146_97 : zRow xM 146 97 = some (10, .istore 7, 99, 7, 0) := rfl
theorem zr_146_99 : zRow xM 146 99 = some (7, .aload_n 0, 100, 0, 0) := rfl
theorem zr_146_100 : zRow xM 146 100 = some (46, .getfield 7, 103, 9, 0) := rfl
theorem zr_146_103 : zRow xM 146 103 = some (4, .iload 7, 105, 7, 0) := rfl
theorem zr_146_105 : zRp 146 105 106 (0, 0) := ⟨_, _, _, _, rfl, by decide, Option.some_ne_none _, rfl⟩
theorem zr_146_106 : zRow xM 146 106 = some (16, .iadd, 107, 0, 0) := rfl
theorem zr_146_107 : zRow xM 146 107 = some (3, .iload_n 1, 108, 1, 0) := rfl
theorem zr_146_108 : zRow xM 146 108 = some (49, .iastore, 109, 0, 0) := rfl
theorem zr_146_109 : zRow xM 146 109 = some (7, .aload_n 0, 110, 0, 0) := rfl
theorem zr_146_110 : zRow xM 146 110 = some (46, .getfield 7, 113, 9, 0) := rfl
theorem zr_146_113 : zRow xM 146 113 = some (4, .iload 7, 115, 7, 0) := rfl
theorem zr_146_115 : zRp 146 115 116 (0, 1) := ⟨_, _, _, _, rfl, by decide, Option.some_ne_none _, rfl⟩
theorem zr_146_116 : zRow xM 146 116 = some (16, .iadd, 117, 0, 0) := rfl
theorem zr_146_117 : zRow xM 146 117 = some (3, .iload_n 2, 118, 2, 0) := rfl
theorem zr_146_118 : zRow xM 146 118 = some (49, .iastore, 119, 0, 0) := rfl
theorem zr_146_119 : zRow xM 146 119 = some (7, .aload_n 0, 120, 0, 0) := rfl
theorem zr_146_120 : zRow xM 146 120 = some (46, .getfield 7, 123, 9, 0) := rfl
theorem zr_146_123 : zRow xM 146 123 = some (4, .iload 7, 125, 7, 0) := rfl
theorem zr_146_125 : zRp 146 125 126 (0, 2) := ⟨_, _, _, _, rfl, by decide, Option.some_ne_none _, rfl⟩
theorem zr_146_126 : zRow xM 146 126 = some (16, .iadd, 127, 0, 0) := rfl
theorem zr_146_127 : zRow xM 146 127 = some (3, .iload_n 3, 128, 3, 0) := rfl
theorem zr_146_128 : zRow xM 146 128 = some (49, .iastore, 129, 0, 0) := rfl
theorem zr_146_129 : zRow xM 146 129 = some (7, .aload_n 0, 130, 0, 0) := rfl
theorem zr_146_130 : zRow xM 146 130 = some (46, .getfield 7, 133, 9, 0) := rfl
theorem zr_146_133 : zRow xM 146 133 = some (4, .iload 7, 135, 7, 0) := rfl
theorem zr_146_135 : zRp 146 135 136 (0, 3) := ⟨_, _, _, _, rfl, by decide, Option.some_ne_none _, rfl⟩
theorem zr_146_136 : zRow xM 146 136 = some (16, .iadd, 137, 0, 0) := rfl
theorem zr_146_137 : zRow xM 146 137 = some (4, .iload 4, 139, 4, 0) := rfl
theorem zr_146_139 : zRow xM 146 139 = some (49, .iastore, 140, 0, 0) := rfl
theorem zr_146_140 : zRow xM 146 140 = some (7, .aload_n 0, 141, 0, 0) := rfl
theorem zr_146_141 : zRow xM 146 141 = some (46, .getfield 7, 144, 9, 0) := rfl
theorem zr_146_144 : zRow xM 146 144 = some (4, .iload 7, 146, 7, 0) := rfl
theorem zr_146_146 : zRp 146 146 147 (0, 4) := ⟨_, _, _, _, rfl, by decide, Option.some_ne_none _, rfl⟩
theorem zr_146_147 : zRow xM 146 147 = some (16, .iadd, 148, 0, 0) := rfl
theorem zr_146_148 : zRow xM 146 148 = some (4, .iload 5, 150, 5, 0) := rfl
theorem zr_146_150 : zRow xM 146 150 = some (40, .ifCond .eq 7, 153, 157, 1) := rfl
theorem zr_146_153 : zRp 146 153 154 (0, 1) := ⟨_, _, _, _, rfl, by decide, Option.some_ne_none _, rfl⟩
theorem zr_146_154 : zRow xM 146 154 = some (42, .goto 4, 155, 158, 0) := rfl
theorem zr_146_157 : zRp 146 157 158 (0, 0) := ⟨_, _, _, _, rfl, by decide, Option.some_ne_none _, rfl⟩
theorem zr_146_158 : zRow xM 146 158 = some (49, .iastore, 159, 0, 0) := rfl
theorem zr_146_159 : zRow xM 146 159 = some (7, .aload_n 0, 160, 0, 0) := rfl
theorem zr_146_160 : zRow xM 146 160 = some (46, .getfield 7, 163, 9, 0) := rfl
theorem zr_146_163 : zRow xM 146 163 = some (4, .iload 7, 165, 7, 0) := rfl
theorem zr_146_165 : zRp 146 165 166 (0, 5) := ⟨_, _, _, _, rfl, by decide, Option.some_ne_none _, rfl⟩
theorem zr_146_166 : zRow xM 146 166 = some (16, .iadd, 167, 0, 0) := rfl
theorem zr_146_167 : zRp 146 167 168 (0, 0) := ⟨_, _, _, _, rfl, by decide, Option.some_ne_none _, rfl⟩
theorem zr_146_168 : zRow xM 146 168 = some (49, .iastore, 169, 0, 0) := rfl
theorem zr_146_169 : zRow xM 146 169 = some (7, .aload_n 0, 170, 0, 0) := rfl
theorem zr_146_170 : zRow xM 146 170 = some (46, .getfield 7, 173, 9, 0) := rfl
theorem zr_146_173 : zRp 146 173 176 (0, 823) := ⟨_, _, _, _, rfl, by decide, Option.some_ne_none _, rfl⟩
theorem zr_146_176 : zRow xM 146 176 = some (45, .dup2, 177, 0, 0) := rfl
theorem zr_146_177 : zRow xM 146 177 = some (48, .iaload, 178, 0, 0) := rfl
theorem zr_146_178 : zRp 146 178 179 (0, 1) := ⟨_, _, _, _, rfl, by decide, Option.some_ne_none _, rfl⟩
theorem zr_146_179 : zRow xM 146 179 = some (16, .iadd, 180, 0, 0) := rfl
theorem zr_146_180 : zRow xM 146 180 = some (49, .iastore, 181, 0, 0) := rfl
theorem zr_146_181 : zRow xM 146 181 = some (7, .aload_n 0, 182, 0, 0) := rfl
theorem zr_146_182 : zRow xM 146 182 = some (105, .invokevirtual 73, 185, 142, 9) := rfl
theorem zr_146_185 : zRp 146 185 186 (0, 1) := ⟨_, _, _, _, rfl, by decide, Option.some_ne_none _, rfl⟩
theorem zr_146_186 : zRow xM 146 186 = some (17, .isub, 187, 0, 0) := rfl
theorem zr_146_187 : zRow xM 146 187 = some (108, .ireturn, 188, 0, 0) := rfl
theorem zm_147 : zMt xM 147 = some (4, (some .int), 4, 0, 0) := rfl
theorem zr_147_0 : zRow xM 147 0 = some (3, .iload_n 1, 1, 1, 0) := rfl
theorem zr_147_1 : zRow xM 147 1 = some (36, .i2l, 2, 0, 0) := rfl
theorem zr_147_2 : zRp 147 2 3 (1, 0) := ⟨_, _, _, _, rfl, by decide, Option.some_ne_none _, rfl⟩
theorem zr_147_3 : zRow xM 147 3 = some (7, .aload_n 0, 4, 0, 0) := rfl
theorem zr_147_4 : zRow xM 147 4 = some (105, .invokevirtual 73, 7, 142, 9) := rfl
theorem zr_147_7 : zRp 147 7 8 (0, 1) := ⟨_, _, _, _, rfl, by decide, Option.some_ne_none _, rfl⟩
theorem zr_147_8 : zRow xM 147 8 = some (17, .isub, 9, 0, 0) := rfl
theorem zr_147_9 : zRow xM 147 9 = some (36, .i2l, 10, 0, 0) := rfl
theorem zr_147_10 : zRow xM 147 10 = some (107, .invokestatic 65, 13, 140, 0) := rfl
theorem zr_147_13 : zRow xM 147 13 = some (40, .ifCond .eq 13, 16, 26, 1) := rfl
theorem zr_147_16 : zRow xM 147 16 = some (3, .iload_n 2, 17, 2, 0) := rfl
theorem zr_147_17 : zRow xM 147 17 = some (36, .i2l, 18, 0, 0) := rfl
theorem zr_147_18 : zRp 147 18 19 (1, 0) := ⟨_, _, _, _, rfl, by decide, Option.some_ne_none _, rfl⟩
theorem zr_147_19 : zRp 147 19 20 (1, 1) := ⟨_, _, _, _, rfl, by decide, Option.some_ne_none _, rfl⟩
theorem zr_147_20 : zRow xM 147 20 = some (107, .invokestatic 65, 23, 140, 0) := rfl
theorem zr_147_23 : zRow xM 147 23 = some (40, .ifCond .ne 6, 26, 29, 4) := rfl
theorem zr_147_26 : zRp 147 26 28 (0, -2) := ⟨_, _, _, _, rfl, by decide, Option.some_ne_none _, rfl⟩
theorem zr_147_28 : zRow xM 147 28 = some (108, .ireturn, 29, 0, 0) := rfl
theorem zr_147_29 : zRow xM 147 29 = some (7, .aload_n 0, 30, 0, 0) := rfl
theorem zr_147_30 : zRow xM 147 30 = some (3, .iload_n 1, 31, 1, 0) := rfl
theorem zr_147_31 : zRp 147 31 32 (0, 4) := ⟨_, _, _, _, rfl, by decide, Option.some_ne_none _, rfl⟩
theorem zr_147_32 : zRow xM 147 32 = some (3, .iload_n 2, 33, 2, 0) := rfl
theorem zr_147_33 : zRow xM 147 33 = some (16, .iadd, 34, 0, 0) := rfl
theorem zr_147_34 : zRow xM 147 34 = some (105, .invokevirtual 76, 37, 144, 9) := rfl
theorem zr_147_37 : zRp 147 37 38 (0, 1) := ⟨_, _, _, _, rfl, by decide, Option.some_ne_none _, rfl⟩
theorem zr_147_38 : zRow xM 147 38 = some (41, .if_icmp .ne 7, 41, 45, 4) := rfl
theorem zr_147_41 : zRp 147 41 42 (0, 1) := ⟨_, _, _, _, rfl, by decide, Option.some_ne_none _, rfl⟩
theorem zr_147_42 : zRow xM 147 42 = some (42, .goto 4, 43, 46, 0) := rfl
theorem zr_147_45 : zRp 147 45 46 (0, 0) := ⟨_, _, _, _, rfl, by decide, Option.some_ne_none _, rfl⟩
theorem zr_147_46 : zRow xM 147 46 = some (3, .iload_n 3, 47, 3, 0) := rfl
theorem zr_147_47 : zRow xM 147 47 = some (41, .if_icmp .ne 6, 50, 53, 4) := rfl
theorem zr_147_50 : zRp 147 50 52 (0, -3) := ⟨_, _, _, _, rfl, by decide, Option.some_ne_none _, rfl⟩
theorem zr_147_52 : zRow xM 147 52 = some (108, .ireturn, 53, 0, 0) := rfl
theorem zr_147_53 : zRow xM 147 53 = some (7, .aload_n 0, 54, 0, 0) := rfl
theorem zr_147_54 : zRow xM 147 54 = some (46, .getfield 7, 57, 9, 0) := rfl
theorem zr_147_57 : zRp 147 57 59 (0, 90) := ⟨_, _, _, _, rfl, by decide, Option.some_ne_none _, rfl⟩
theorem zr_147_59 : zRp 147 59 61 (0, 6) := ⟨_, _, _, _, rfl, by decide, Option.some_ne_none _, rfl⟩
theorem zr_147_61 : zRow xM 147 61 = some (3, .iload_n 1, 62, 1, 0) := rfl
theorem zr_147_62 : zRow xM 147 62 = some (18, .imul, 63, 0, 0) := rfl
theorem zr_147_63 : zRow xM 147 63 = some (16, .iadd, 64, 0, 0) := rfl
theorem zr_147_64 : zRp 147 64 65 (0, 4) := ⟨_, _, _, _, rfl, by decide, Option.some_ne_none _, rfl⟩
theorem zr_147_65 : zRow xM 147 65 = some (16, .iadd, 66, 0, 0) := rfl
theorem zr_147_66 : zRow xM 147 66 = some (3, .iload_n 2, 67, 2, 0) := rfl
theorem zr_147_67 : zRow xM 147 67 = some (16, .iadd, 68, 0, 0) := rfl
theorem zr_147_68 : zRow xM 147 68 = some (3, .iload_n 3, 69, 3, 0) := rfl
theorem zr_147_69 : zRow xM 147 69 = some (40, .ifCond .eq 7, 72, 76, 1) := rfl
theorem zr_147_72 : zRp 147 72 73 (0, 1) := ⟨_, _, _, _, rfl, by decide, Option.some_ne_none _, rfl⟩
theorem zr_147_73 : zRow xM 147 73 = some (42, .goto 4, 74, 77, 0) := rfl
theorem zr_147_76 : zRp 147 76 77 (0, 0) := ⟨_, _, _, _, rfl, by decide, Option.some_ne_none _, rfl⟩
theorem zr_147_77 : zRow xM 147 77 = some (49, .iastore, 78, 0, 0) := rfl
theorem zr_147_78 : zRp 147 78 79 (0, 1) := ⟨_, _, _, _, rfl, by decide, Option.some_ne_none _, rfl⟩
theorem zr_147_79 : zRow xM 147 79 = some (108, .ireturn, 80, 0, 0) := rfl
theorem zm_148 : zMt xM 148 = some (1, (some .boolean), 1, 0, 0) := rfl
theorem zr_148_0 : zRow xM 148 0 = some (3, .iload_n 0, 1, 0, 0) := rfl
theorem zr_148_1 : zRow xM 148 1 = some (36, .i2l, 2, 0, 0) := rfl
theorem zr_148_2 : zRp 148 2 3 (1, 0) := ⟨_, _, _, _, rfl, by decide, Option.some_ne_none _, rfl⟩
theorem zr_148_3 : zRp 148 3 6 (1, 3) := ⟨_, _, _, _, rfl, by decide, Option.some_ne_none _, rfl⟩
theorem zr_148_6 : zRow xM 148 6 = some (107, .invokestatic 65, 9, 140, 0) := rfl
theorem zr_148_9 : zRow xM 148 9 = some (108, .ireturn, 10, 0, 0) := rfl
theorem zm_149 : zMt xM 149 = some (4, (some .int), 3, 0, 0) := rfl
theorem zr_149_0 : zRow xM 149 0 = some (3, .iload_n 1, 1, 1, 0) := rfl
theorem zr_149_1 : zRow xM 149 1 = some (107, .invokestatic 88, 4, 148, 0) := rfl
theorem zr_149_4 : zRow xM 149 4 = some (40, .ifCond .eq 15, 7, 19, 1) := rfl
theorem zr_149_7 : zRow xM 149 7 = some (3, .iload_n 2, 8, 2, 0) := rfl
theorem zr_149_8 : zRow xM 149 8 = some (36, .i2l, 9, 0, 0) := rfl
theorem zr_149_9 : zRp 149 9 10 (1, 0) := ⟨_, _, _, _, rfl, by decide, Option.some_ne_none _, rfl⟩
theorem zr_149_10 : zRp 149 10 13 (1, 9999) := ⟨_, _, _, _, rfl, by decide, Option.some_ne_none _, rfl⟩
theorem zr_149_13 : zRow xM 149 13 = some (107, .invokestatic 65, 16, 140, 0) := rfl
theorem zr_149_16 : zRow xM 149 16 = some (40, .ifCond .ne 6, 19, 22, 4) := rfl
theorem zr_149_19 : zRp 149 19 21 (0, -2) := ⟨_, _, _, _, rfl, by decide, Option.some_ne_none _, rfl⟩
theorem zr_149_21 : zRow xM 149 21 = some (108, .ireturn, 22, 0, 0) := rfl
theorem zr_149_22 : zRow xM 149 22 = some (7, .aload_n 0, 23, 0, 0) := rfl
theorem zr_149_23 : zRow xM 149 23 = some (46, .getfield 7, 26, 9, 0) := rfl
theorem zr_149_26 : zRp 149 26 29 (0, 450) := ⟨_, _, _, _, rfl, by decide, Option.some_ne_none _, rfl⟩
theorem zr_149_29 : zRp 149 29 31 (0, 52) := ⟨_, _, _, _, rfl, by decide, Option.some_ne_none _, rfl⟩
theorem zr_149_31 : zRow xM 149 31 = some (3, .iload_n 1, 32, 1, 0) := rfl
theorem zr_149_32 : zRow xM 149 32 = some (18, .imul, 33, 0, 0) := rfl
theorem zr_149_33 : zRow xM 149 33 = some (16, .iadd, 34, 0, 0) := rfl
theorem zr_149_34 : zRow xM 149 34 = some (48, .iaload, 35, 0, 0) := rfl
theorem zr_149_35 : zRow xM 149 35 = some (9, .istore_n 3, 36, 3, 0) := rfl
theorem zr_149_36 : zRow xM 149 36 = some (7, .aload_n 0, 37, 0, 0) := rfl
theorem zr_149_37 : zRow xM 149 37 = some (46, .getfield 7, 40, 9, 0) := rfl
theorem zr_149_40 : zRp 149 40 43 (0, 450) := ⟨_, _, _, _, rfl, by decide, Option.some_ne_none _, rfl⟩
theorem zr_149_43 : zRp 149 43 45 (0, 52) := ⟨_, _, _, _, rfl, by decide, Option.some_ne_none _, rfl⟩
theorem zr_149_45 : zRow xM 149 45 = some (3, .iload_n 1, 46, 1, 0) := rfl
theorem zr_149_46 : zRow xM 149 46 = some (18, .imul, 47, 0, 0) := rfl
theorem zr_149_47 : zRow xM 149 47 = some (16, .iadd, 48, 0, 0) := rfl
theorem zr_149_48 : zRow xM 149 48 = some (3, .iload_n 2, 49, 2, 0) := rfl
theorem zr_149_49 : zRow xM 149 49 = some (49, .iastore, 50, 0, 0) := rfl
theorem zr_149_50 : zRow xM 149 50 = some (3, .iload_n 3, 51, 3, 0) := rfl
theorem zr_149_51 : zRow xM 149 51 = some (108, .ireturn, 52, 0, 0) := rfl
theorem zm_150 : zMt xM 150 = some (4, (some .int), 3, 0, 0) := rfl
theorem zr_150_0 : zRow xM 150 0 = some (3, .iload_n 1, 1, 1, 0) := rfl
theorem zr_150_1 : zRow xM 150 1 = some (107, .invokestatic 88, 4, 148, 0) := rfl
theorem zr_150_4 : zRow xM 150 4 = some (40, .ifCond .eq 15, 7, 19, 1) := rfl
theorem zr_150_7 : zRow xM 150 7 = some (3, .iload_n 2, 8, 2, 0) := rfl
theorem zr_150_8 : zRow xM 150 8 = some (36, .i2l, 9, 0, 0) := rfl
theorem zr_150_9 : zRp 150 9 10 (1, 0) := ⟨_, _, _, _, rfl, by decide, Option.some_ne_none _, rfl⟩
theorem zr_150_10 : zRp 150 10 13 (1, 127) := ⟨_, _, _, _, rfl, by decide, Option.some_ne_none _, rfl⟩
theorem zr_150_13 : zRow xM 150 13 = some (107, .invokestatic 65, 16, 140, 0) := rfl
theorem zr_150_16 : zRow xM 150 16 = some (40, .ifCond .ne 6, 19, 22, 4) := rfl
theorem zr_150_19 : zRp 150 19 21 (0, -2) := ⟨_, _, _, _, rfl, by decide, Option.some_ne_none _, rfl⟩
theorem zr_150_21 : zRow xM 150 21 = some (108, .ireturn, 22, 0, 0) := rfl
theorem zr_150_22 : zRow xM 150 22 = some (7, .aload_n 0, 23, 0, 0) := rfl
theorem zr_150_23 : zRow xM 150 23 = some (46, .getfield 7, 26, 9, 0) := rfl
theorem zr_150_26 : zRp 150 26 29 (0, 450) := ⟨_, _, _, _, rfl, by decide, Option.some_ne_none _, rfl⟩
theorem zr_150_29 : zRp 150 29 31 (0, 52) := ⟨_, _, _, _, rfl, by decide, Option.some_ne_none _, rfl⟩
theorem zr_150_31 : zRow xM 150 31 = some (3, .iload_n 1, 32, 1, 0) := rfl
theorem zr_150_32 : zRow xM 150 32 = some (18, .imul, 33, 0, 0) := rfl
theorem zr_150_33 : zRow xM 150 33 = some (16, .iadd, 34, 0, 0) := rfl
theorem zr_150_34 : zRp 150 34 35 (0, 1) := ⟨_, _, _, _, rfl, by decide, Option.some_ne_none _, rfl⟩
theorem zr_150_35 : zRow xM 150 35 = some (16, .iadd, 36, 0, 0) := rfl
theorem zr_150_36 : zRow xM 150 36 = some (48, .iaload, 37, 0, 0) := rfl
theorem zr_150_37 : zRow xM 150 37 = some (9, .istore_n 3, 38, 3, 0) := rfl
theorem zr_150_38 : zRow xM 150 38 = some (3, .iload_n 3, 39, 3, 0) := rfl
theorem zr_150_39 : zRp 150 39 41 (0, 50) := ⟨_, _, _, _, rfl, by decide, Option.some_ne_none _, rfl⟩
theorem zr_150_41 : zRow xM 150 41 = some (41, .if_icmp .ne 6, 44, 47, 4) := rfl
theorem zr_150_44 : zRp 150 44 46 (0, -4) := ⟨_, _, _, _, rfl, by decide, Option.some_ne_none _, rfl⟩
theorem zr_150_46 : zRow xM 150 46 = some (108, .ireturn, 47, 0, 0) := rfl
theorem zr_150_47 : zRow xM 150 47 = some (7, .aload_n 0, 48, 0, 0) := rfl
theorem zr_150_48 : zRow xM 150 48 = some (46, .getfield 7, 51, 9, 0) := rfl
theorem zr_150_51 : zRp 150 51 54 (0, 450) := ⟨_, _, _, _, rfl, by decide, Option.some_ne_none _, rfl⟩
theorem zr_150_54 : zRp 150 54 56 (0, 52) := ⟨_, _, _, _, rfl, by decide, Option.some_ne_none _, rfl⟩
theorem zr_150_56 : zRow xM 150 56 = some (3, .iload_n 1, 57, 1, 0) := rfl
theorem zr_150_57 : zRow xM 150 57 = some (18, .imul, 58, 0, 0) := rfl
theorem zr_150_58 : zRow xM 150 58 = some (16, .iadd, 59, 0, 0) := rfl
theorem zr_150_59 : zRp 150 59 60 (0, 2) := ⟨_, _, _, _, rfl, by decide, Option.some_ne_none _, rfl⟩
theorem zr_150_60 : zRow xM 150 60 = some (16, .iadd, 61, 0, 0) := rfl
theorem zr_150_61 : zRow xM 150 61 = some (3, .iload_n 3, 62, 3, 0) := rfl
theorem zr_150_62 : zRow xM 150 62 = some (16, .iadd, 63, 0, 0) := rfl
theorem zr_150_63 : zRow xM 150 63 = some (3, .iload_n 2, 64, 2, 0) := rfl
theorem zr_150_64 : zRow xM 150 64 = some (49, .iastore, 65, 0, 0) := rfl
theorem zr_150_65 : zRow xM 150 65 = some (7, .aload_n 0, 66, 0, 0) := rfl
theorem zr_150_66 : zRow xM 150 66 = some (46, .getfield 7, 69, 9, 0) := rfl
theorem zr_150_69 : zRp 150 69 72 (0, 450) := ⟨_, _, _, _, rfl, by decide, Option.some_ne_none _, rfl⟩
theorem zr_150_72 : zRp 150 72 74 (0, 52) := ⟨_, _, _, _, rfl, by decide, Option.some_ne_none _, rfl⟩
theorem zr_150_74 : zRow xM 150 74 = some (3, .iload_n 1, 75, 1, 0) := rfl
theorem zr_150_75 : zRow xM 150 75 = some (18, .imul, 76, 0, 0) := rfl
theorem zr_150_76 : zRow xM 150 76 = some (16, .iadd, 77, 0, 0) := rfl
theorem zr_150_77 : zRp 150 77 78 (0, 1) := ⟨_, _, _, _, rfl, by decide, Option.some_ne_none _, rfl⟩
theorem zr_150_78 : zRow xM 150 78 = some (16, .iadd, 79, 0, 0) := rfl
theorem zr_150_79 : zRow xM 150 79 = some (3, .iload_n 3, 80, 3, 0) := rfl
theorem zr_150_80 : zRp 150 80 81 (0, 1) := ⟨_, _, _, _, rfl, by decide, Option.some_ne_none _, rfl⟩
theorem zr_150_81 : zRow xM 150 81 = some (16, .iadd, 82, 0, 0) := rfl
theorem zr_150_82 : zRow xM 150 82 = some (49, .iastore, 83, 0, 0) := rfl
theorem zr_150_83 : zRow xM 150 83 = some (3, .iload_n 3, 84, 3, 0) := rfl
theorem zr_150_84 : zRp 150 84 85 (0, 1) := ⟨_, _, _, _, rfl, by decide, Option.some_ne_none _, rfl⟩
theorem zr_150_85 : zRow xM 150 85 = some (16, .iadd, 86, 0, 0) := rfl
theorem zr_150_86 : zRow xM 150 86 = some (108, .ireturn, 87, 0, 0) := rfl
theorem zm_151 : zMt xM 151 = some (3, (some .int), 2, 0, 0) := rfl
theorem zr_151_0 : zRow xM 151 0 = some (3, .iload_n 1, 1, 1, 0) := rfl
theorem zr_151_1 : zRow xM 151 1 = some (107, .invokestatic 88, 4, 148, 0) := rfl
theorem zr_151_4 : zRow xM 151 4 = some (40, .ifCond .ne 6, 7, 10, 4) := rfl
theorem zr_151_7 : zRp 151 7 9 (0, -2) := ⟨_, _, _, _, rfl, by decide, Option.some_ne_none _, rfl⟩
theorem zr_151_9 : zRow xM 151 9 = some (108, .ireturn, 10, 0, 0) := rfl
theorem zr_151_10 : zRow xM 151 10 = some (7, .aload_n 0, 11, 0, 0) := rfl
theorem zr_151_11 : zRow xM 151 11 = some (46, .getfield 7, 14, 9, 0) := rfl
theorem zr_151_14 : zRp 151 14 17 (0, 450) := ⟨_, _, _, _, rfl, by decide, Option.some_ne_none _, rfl⟩
theorem zr_151_17 : zRp 151 17 19 (0, 52) := ⟨_, _, _, _, rfl, by decide, Option.some_ne_none _, rfl⟩
theorem zr_151_19 : zRow xM 151 19 = some (3, .iload_n 1, 20, 1, 0) := rfl
theorem zr_151_20 : zRow xM 151 20 = some (18, .imul, 21, 0, 0) := rfl
theorem zr_151_21 : zRow xM 151 21 = some (16, .iadd, 22, 0, 0) := rfl
theorem zr_151_22 : zRp 151 22 23 (0, 1) := ⟨_, _, _, _, rfl, by decide, Option.some_ne_none _, rfl⟩
theorem zr_151_23 : zRow xM 151 23 = some (16, .iadd, 24, 0, 0) := rfl
theorem zr_151_24 : zRow xM 151 24 = some (48, .iaload, 25, 0, 0) := rfl
theorem zr_151_25 : zRow xM 151 25 = some (9, .istore_n 2, 26, 2, 0) := rfl
theorem zr_151_26 : zRow xM 151 26 = some (7, .aload_n 0, 27, 0, 0) := rfl
theorem zr_151_27 : zRow xM 151 27 = some (46, .getfield 7, 30, 9, 0) := rfl
theorem zr_151_30 : zRp 151 30 33 (0, 450) := ⟨_, _, _, _, rfl, by decide, Option.some_ne_none _, rfl⟩
theorem zr_151_33 : zRp 151 33 35 (0, 52) := ⟨_, _, _, _, rfl, by decide, Option.some_ne_none _, rfl⟩
theorem zr_151_35 : zRow xM 151 35 = some (3, .iload_n 1, 36, 1, 0) := rfl
theorem zr_151_36 : zRow xM 151 36 = some (18, .imul, 37, 0, 0) := rfl
theorem zr_151_37 : zRow xM 151 37 = some (16, .iadd, 38, 0, 0) := rfl
theorem zr_151_38 : zRp 151 38 39 (0, 1) := ⟨_, _, _, _, rfl, by decide, Option.some_ne_none _, rfl⟩
theorem zr_151_39 : zRow xM 151 39 = some (16, .iadd, 40, 0, 0) := rfl
theorem zr_151_40 : zRp 151 40 41 (0, 0) := ⟨_, _, _, _, rfl, by decide, Option.some_ne_none _, rfl⟩
theorem zr_151_41 : zRow xM 151 41 = some (49, .iastore, 42, 0, 0) := rfl
theorem zr_151_42 : zRow xM 151 42 = some (3, .iload_n 2, 43, 2, 0) := rfl
theorem zr_151_43 : zRow xM 151 43 = some (108, .ireturn, 44, 0, 0) := rfl
theorem zm_152 : zMt xM 152 = some (1, (some .int), 1, 0, 0) := rfl
theorem zr_152_0 : zRow xM 152 0 = some (7, .aload_n 0, 1, 0, 0) := rfl
theorem zr_152_1 : zRow xM 152 1 = some (46, .getfield 7, 4, 9, 0) := rfl
theorem zr_152_4 : zRp 152 4 7 (0, 450) := ⟨_, _, _, _, rfl, by decide, Option.some_ne_none _, rfl⟩
theorem zr_152_7 : zRp 152 7 9 (0, 52) := ⟨_, _, _, _, rfl, by decide, Option.some_ne_none _, rfl⟩
theorem zr_152_9 : zRow xM 152 9 = some (7, .aload_n 0, 10, 0, 0) := rfl
theorem zr_152_10 : zRow xM 152 10 = some (46, .getfield 95, 13, 9, 5) := rfl
theorem zr_152_13 : zRow xM 152 13 = some (18, .imul, 14, 0, 0) := rfl
theorem zr_152_14 : zRow xM 152 14 = some (16, .iadd, 15, 0, 0) := rfl
theorem zr_152_15 : zRp 152 15 16 (0, 1) := ⟨_, _, _, _, rfl, by decide, Option.some_ne_none _, rfl⟩
theorem zr_152_16 : zRow xM 152 16 = some (16, .iadd, 17, 0, 0) := rfl
theorem zr_152_17 : zRow xM 152 17 = some (48, .iaload, 18, 0, 0) := rfl
theorem zr_152_18 : zRow xM 152 18 = some (108, .ireturn, 19, 0, 0) := rfl
theorem zm_153 : zMt xM 153 = some (2, (some .int), 2, 0, 0) := rfl
theorem zr_153_0 : zRow xM 153 0 = some (7, .aload_n 0, 1, 0, 0) := rfl
theorem zr_153_1 : zRow xM 153 1 = some (46, .getfield 7, 4, 9, 0) := rfl
theorem zr_153_4 : zRp 153 4 7 (0, 450) := ⟨_, _, _, _, rfl, by decide, Option.some_ne_none _, rfl⟩
theorem zr_153_7 : zRp 153 7 9 (0, 52) := ⟨_, _, _, _, rfl, by decide, Option.some_ne_none _, rfl⟩
theorem zr_153_9 : zRow xM 153 9 = some (7, .aload_n 0, 10, 0, 0) := rfl
theorem zr_153_10 : zRow xM 153 10 = some (46, .getfield 95, 13, 9, 5) := rfl
theorem zr_153_13 : zRow xM 153 13 = some (18, .imul, 14, 0, 0) := rfl
theorem zr_153_14 : zRow xM 153 14 = some (16, .iadd, 15, 0, 0) := rfl
theorem zr_153_15 : zRp 153 15 16 (0, 2) := ⟨_, _, _, _, rfl, by decide, Option.some_ne_none _, rfl⟩
theorem zr_153_16 : zRow xM 153 16 = some (16, .iadd, 17, 0, 0) := rfl
theorem zr_153_17 : zRow xM 153 17 = some (3, .iload_n 1, 18, 1, 0) := rfl
theorem zr_153_18 : zRow xM 153 18 = some (16, .iadd, 19, 0, 0) := rfl
theorem zr_153_19 : zRow xM 153 19 = some (48, .iaload, 20, 0, 0) := rfl
theorem zr_153_20 : zRow xM 153 20 = some (108, .ireturn, 21, 0, 0) := rfl
theorem zm_154 : zMt xM 154 = some (1, (some .int), 1, 0, 0) := rfl
theorem zr_154_0 : zRow xM 154 0 = some (7, .aload_n 0, 1, 0, 0) := rfl
theorem zr_154_1 : zRow xM 154 1 = some (46, .getfield 99, 4, 9, 6) := rfl
theorem zr_154_4 : zRow xM 154 4 = some (7, .aload_n 0, 5, 0, 0) := rfl
theorem zr_154_5 : zRow xM 154 5 = some (105, .invokevirtual 102, 8, 152, 9) := rfl
theorem zr_154_8 : zRow xM 154 8 = some (41, .if_icmp .ge 29, 11, 37, 3) := rfl
theorem zr_154_11 : zRow xM 154 11 = some (7, .aload_n 0, 12, 0, 0) := rfl
theorem zr_154_12 : zRow xM 154 12 = some (7, .aload_n 0, 13, 0, 0) := rfl
theorem zr_154_13 : zRow xM 154 13 = some (46, .getfield 99, 16, 9, 6) := rfl
theorem zr_154_16 : zRow xM 154 16 = some (105, .invokevirtual 105, 19, 153, 9) := rfl
theorem zr_154_19 : zRp 154 19 21 (0, 32) := ⟨_, _, _, _, rfl, by decide, Option.some_ne_none _, rfl⟩
theorem zr_154_21 : zRow xM 154 21 = some (41, .if_icmp .ne 16, 24, 37, 4) := rfl
theorem zr_154_24 : zRow xM 154 24 = some (7, .aload_n 0, 25, 0, 0) := rfl
theorem zr_154_25 : zRow xM 154 25 = some (43, .dup, 26, 0, 0) := rfl
theorem zr_154_26 : zRow xM 154 26 = some (46, .getfield 99, 29, 9, 6) := rfl
theorem zr_154_29 : zRp 154 29 30 (0, 1) := ⟨_, _, _, _, rfl, by decide, Option.some_ne_none _, rfl⟩
theorem zr_154_30 : zRow xM 154 30 = some (16, .iadd, 31, 0, 0) := rfl
theorem zr_154_31 : zRow xM 154 31 = some (47, .putfield 99, 34, 9, 6) := rfl
theorem zr_154_34 : zRow xM 154 34 = some (42, .goto (-34), 35, 0, 0) := rfl
theorem zr_154_37 : zRow xM 154 37 = some (7, .aload_n 0, 38, 0, 0) := rfl
theorem zr_154_38 : zRow xM 154 38 = some (46, .getfield 99, 41, 9, 6) := rfl
theorem zr_154_41 : zRow xM 154 41 = some (7, .aload_n 0, 42, 0, 0) := rfl
theorem zr_154_42 : zRow xM 154 42 = some (105, .invokevirtual 102, 45, 152, 9) := rfl
theorem zr_154_45 : zRow xM 154 45 = some (41, .if_icmp .ge 14, 48, 59, 3) := rfl
theorem zr_154_48 : zRow xM 154 48 = some (7, .aload_n 0, 49, 0, 0) := rfl
theorem zr_154_49 : zRow xM 154 49 = some (7, .aload_n 0, 50, 0, 0) := rfl
theorem zr_154_50 : zRow xM 154 50 = some (46, .getfield 99, 53, 9, 6) := rfl
theorem zr_154_53 : zRow xM 154 53 = some (105, .invokevirtual 105, 56, 153, 9) := rfl
theorem zr_154_56 : zRow xM 154 56 = some (42, .goto 4, 57, 60, 0) := rfl
theorem zr_154_59 : zRp 154 59 60 (0, -1) := ⟨_, _, _, _, rfl, by decide, Option.some_ne_none _, rfl⟩
theorem zr_154_60 : zRow xM 154 60 = some (108, .ireturn, 61, 0, 0) := rfl
theorem zm_155 : zMt xM 155 = some (1, (some .int), 1, 0, 0) := rfl
theorem zr_155_0 : zRow xM 155 0 = some (3, .iload_n 0, 1, 0, 0) := rfl
theorem zr_155_1 : zRow xM 155 1 = some (112, .lookupswitch 93 #[(38, 85), (42, 91), (43, 89), (45, 89), (47, 91), (60, 87), (61, 87), (62, 87), (124, 83)], 2, 0, 0) := rfl
theorem zr_155_84 : zRp 155 84 85 (0, 1) := ⟨_, _, _, _, rfl, by decide, Option.some_ne_none _, rfl⟩
theorem zr_155_85 : zRow xM 155 85 = some (108, .ireturn, 86, 0, 0) := rfl
theorem zr_155_86 : zRp 155 86 87 (0, 2) := ⟨_, _, _, _, rfl, by decide, Option.some_ne_none _, rfl⟩
theorem zr_155_87 : zRow xM 155 87 = some (108, .ireturn, 88, 0, 0) := rfl
theorem zr_155_88 : zRp 155 88 89 (0, 3) := ⟨_, _, _, _, rfl, by decide, Option.some_ne_none _, rfl⟩
theorem zr_155_89 : zRow xM 155 89 = some (108, .ireturn, 90, 0, 0) := rfl
theorem zr_155_90 : zRp 155 90 91 (0, 4) := ⟨_, _, _, _, rfl, by decide, Option.some_ne_none _, rfl⟩
theorem zr_155_91 : zRow xM 155 91 = some (108, .ireturn, 92, 0, 0) := rfl
theorem zr_155_92 : zRp 155 92 93 (0, 5) := ⟨_, _, _, _, rfl, by decide, Option.some_ne_none _, rfl⟩
theorem zr_155_93 : zRow xM 155 93 = some (108, .ireturn, 94, 0, 0) := rfl
theorem zr_155_94 : zRp 155 94 95 (0, 0) := ⟨_, _, _, _, rfl, by decide, Option.some_ne_none _, rfl⟩
theorem zr_155_95 : zRow xM 155 95 = some (108, .ireturn, 96, 0, 0) := rfl
theorem zm_156 : zMt xM 156 = some (7, none, 1, 0, 0) := rfl
theorem zr_156_0 : zRow xM 156 0 = some (7, .aload_n 0, 1, 0, 0) := rfl
theorem zr_156_1 : zRow xM 156 1 = some (43, .dup, 2, 0, 0) := rfl
theorem zr_156_2 : zRow xM 156 2 = some (46, .getfield 109, 5, 9, 11) := rfl
theorem zr_156_5 : zRp 156 5 6 (0, 1) := ⟨_, _, _, _, rfl, by decide, Option.some_ne_none _, rfl⟩
theorem zr_156_6 : zRow xM 156 6 = some (17, .isub, 7, 0, 0) := rfl
theorem zr_156_7 : zRow xM 156 7 = some (47, .putfield 109, 10, 9, 11) := rfl
theorem zr_156_10 : zRow xM 156 10 = some (7, .aload_n 0, 11, 0, 0) := rfl
theorem zr_156_11 : zRow xM 156 11 = some (43, .dup, 12, 0, 0) := rfl
theorem zr_156_12 : zRow xM 156 12 = some (46, .getfield 112, 15, 9, 9) := rfl
theorem zr_156_15 : zRp 156 15 16 (0, 1) := ⟨_, _, _, _, rfl, by decide, Option.some_ne_none _, rfl⟩
theorem zr_156_16 : zRow xM 156 16 = some (17, .isub, 17, 0, 0) := rfl
theorem zr_156_17 : zRow xM 156 17 = some (47, .putfield 112, 20, 9, 9) := rfl
theorem zr_156_20 : zRow xM 156 20 = some (7, .aload_n 0, 21, 0, 0) := rfl
theorem zr_156_21 : zRow xM 156 21 = some (46, .getfield 24, 24, 9, 8) := rfl
theorem zr_156_24 : zRow xM 156 24 = some (7, .aload_n 0, 25, 0, 0) := rfl
theorem zr_156_25 : zRow xM 156 25 = some (46, .getfield 112, 28, 9, 9) := rfl
theorem zr_156_28 : zRp 156 28 29 (0, 1) := ⟨_, _, _, _, rfl, by decide, Option.some_ne_none _, rfl⟩
theorem zr_156_29 : zRow xM 156 29 = some (17, .isub, 30, 0, 0) := rfl
theorem zr_156_30 : zRow xM 156 30 = some (50, .laload, 31, 0, 0) := rfl
theorem zr_156_31 : zRow xM 156 31 = some (13, .lstore_n 1, 32, 1, 0) := rfl
theorem zr_156_32 : zRow xM 156 32 = some (7, .aload_n 0, 33, 0, 0) := rfl
theorem zr_156_33 : zRow xM 156 33 = some (46, .getfield 24, 36, 9, 8) := rfl
theorem zr_156_36 : zRow xM 156 36 = some (7, .aload_n 0, 37, 0, 0) := rfl
theorem zr_156_37 : zRow xM 156 37 = some (46, .getfield 112, 40, 9, 9) := rfl
theorem zr_156_40 : zRow xM 156 40 = some (50, .laload, 41, 0, 0) := rfl
theorem zr_156_41 : zRow xM 156 41 = some (13, .lstore_n 3, 42, 3, 0) := rfl
theorem zr_156_42 : zRp 156 42 43 (1, 0) := ⟨_, _, _, _, rfl, by decide, Option.some_ne_none _, rfl⟩
theorem zr_156_43 : zRow xM 156 43 = some (14, .lstore 5, 45, 5, 0) := rfl
theorem zr_156_45 : zRow xM 156 45 = some (7, .aload_n 0, 46, 0, 0) := rfl
theorem zr_156_46 : zRow xM 156 46 = some (46, .getfield 28, 49, 9, 10) := rfl
theorem zr_156_49 : zRow xM 156 49 = some (7, .aload_n 0, 50, 0, 0) := rfl
theorem zr_156_50 : zRow xM 156 50 = some (46, .getfield 109, 53, 9, 11) := rfl
theorem zr_156_53 : zRow xM 156 53 = some (48, .iaload, 54, 0, 0) := rfl
theorem zr_156_54 : zRow xM 156 54 = some (112, .lookupswitch 190 #[(38, 96), (42, 182), (43, 166), (45, 174), (60, 118), (61, 150), (62, 134), (124, 74)], 55, 0, 0) := rfl
theorem zr_156_128 : zRow xM 156 128 = some (5, .lload_n 1, 129, 1, 0) := rfl
theorem zr_156_129 : zRp 156 129 130 (1, 0) := ⟨_, _, _, _, rfl, by decide, Option.some_ne_none _, rfl⟩
theorem zr_156_130 : zRow xM 156 130 = some (39, .lcmp, 131, 0, 0) := rfl
theorem zr_156_131 : zRow xM 156 131 = some (40, .ifCond .ne 9, 134, 140, 4) := rfl
theorem zr_156_134 : zRow xM 156 134 = some (5, .lload_n 3, 135, 3, 0) := rfl
theorem zr_156_135 : zRp 156 135 136 (1, 0) := ⟨_, _, _, _, rfl, by decide, Option.some_ne_none _, rfl⟩
theorem zr_156_136 : zRow xM 156 136 = some (39, .lcmp, 137, 0, 0) := rfl
theorem zr_156_137 : zRow xM 156 137 = some (40, .ifCond .eq 7, 140, 144, 1) := rfl
theorem zr_156_140 : zRp 156 140 141 (1, 1) := ⟨_, _, _, _, rfl, by decide, Option.some_ne_none _, rfl⟩
theorem zr_156_141 : zRow xM 156 141 = some (42, .goto 4, 142, 145, 0) := rfl
theorem zr_156_144 : zRp 156 144 145 (1, 0) := ⟨_, _, _, _, rfl, by decide, Option.some_ne_none _, rfl⟩
theorem zr_156_145 : zRow xM 156 145 = some (14, .lstore 5, 147, 5, 0) := rfl
theorem zr_156_147 : zRow xM 156 147 = some (42, .goto 112, 148, 259, 0) := rfl
theorem zr_156_150 : zRow xM 156 150 = some (5, .lload_n 1, 151, 1, 0) := rfl
theorem zr_156_151 : zRp 156 151 152 (1, 0) := ⟨_, _, _, _, rfl, by decide, Option.some_ne_none _, rfl⟩
theorem zr_156_152 : zRow xM 156 152 = some (39, .lcmp, 153, 0, 0) := rfl
theorem zr_156_153 : zRow xM 156 153 = some (40, .ifCond .eq 13, 156, 166, 1) := rfl
theorem zr_156_156 : zRow xM 156 156 = some (5, .lload_n 3, 157, 3, 0) := rfl
theorem zr_156_157 : zRp 156 157 158 (1, 0) := ⟨_, _, _, _, rfl, by decide, Option.some_ne_none _, rfl⟩
theorem zr_156_158 : zRow xM 156 158 = some (39, .lcmp, 159, 0, 0) := rfl
theorem zr_156_159 : zRow xM 156 159 = some (40, .ifCond .eq 7, 162, 166, 1) := rfl
theorem zr_156_162 : zRp 156 162 163 (1, 1) := ⟨_, _, _, _, rfl, by decide, Option.some_ne_none _, rfl⟩
theorem zr_156_163 : zRow xM 156 163 = some (42, .goto 4, 164, 167, 0) := rfl
theorem zr_156_166 : zRp 156 166 167 (1, 0) := ⟨_, _, _, _, rfl, by decide, Option.some_ne_none _, rfl⟩
theorem zr_156_167 : zRow xM 156 167 = some (14, .lstore 5, 169, 5, 0) := rfl
theorem zr_156_169 : zRow xM 156 169 = some (42, .goto 90, 170, 259, 0) := rfl
theorem zr_156_172 : zRow xM 156 172 = some (5, .lload_n 1, 173, 1, 0) := rfl
theorem zr_156_173 : zRow xM 156 173 = some (5, .lload_n 3, 174, 3, 0) := rfl
theorem zr_156_174 : zRow xM 156 174 = some (39, .lcmp, 175, 0, 0) := rfl
theorem zr_156_175 : zRow xM 156 175 = some (40, .ifCond .ge 7, 178, 182, 3) := rfl
theorem zr_156_178 : zRp 156 178 179 (1, 1) := ⟨_, _, _, _, rfl, by decide, Option.some_ne_none _, rfl⟩
theorem zr_156_179 : zRow xM 156 179 = some (42, .goto 4, 180, 183, 0) := rfl
theorem zr_156_182 : zRp 156 182 183 (1, 0) := ⟨_, _, _, _, rfl, by decide, Option.some_ne_none _, rfl⟩
theorem zr_156_183 : zRow xM 156 183 = some (14, .lstore 5, 185, 5, 0) := rfl
theorem zr_156_185 : zRow xM 156 185 = some (42, .goto 74, 186, 259, 0) := rfl
theorem zr_156_188 : zRow xM 156 188 = some (5, .lload_n 1, 189, 1, 0) := rfl
theorem zr_156_189 : zRow xM 156 189 = some (5, .lload_n 3, 190, 3, 0) := rfl
theorem zr_156_190 : zRow xM 156 190 = some (39, .lcmp, 191, 0, 0) := rfl
theorem zr_156_191 : zRow xM 156 191 = some (40, .ifCond .le 7, 194, 198, 5) := rfl
theorem zr_156_194 : zRp 156 194 195 (1, 1) := ⟨_, _, _, _, rfl, by decide, Option.some_ne_none _, rfl⟩
theorem zr_156_195 : zRow xM 156 195 = some (42, .goto 4, 196, 199, 0) := rfl
theorem zr_156_198 : zRp 156 198 199 (1, 0) := ⟨_, _, _, _, rfl, by decide, Option.some_ne_none _, rfl⟩
theorem zr_156_199 : zRow xM 156 199 = some (14, .lstore 5, 201, 5, 0) := rfl
theorem zr_156_201 : zRow xM 156 201 = some (42, .goto 58, 202, 259, 0) := rfl
theorem zr_156_204 : zRow xM 156 204 = some (5, .lload_n 1, 205, 1, 0) := rfl
theorem zr_156_205 : zRow xM 156 205 = some (5, .lload_n 3, 206, 3, 0) := rfl
theorem zr_156_206 : zRow xM 156 206 = some (39, .lcmp, 207, 0, 0) := rfl
theorem zr_156_207 : zRow xM 156 207 = some (40, .ifCond .ne 7, 210, 214, 4) := rfl
theorem zr_156_210 : zRp 156 210 211 (1, 1) := ⟨_, _, _, _, rfl, by decide, Option.some_ne_none _, rfl⟩
theorem zr_156_211 : zRow xM 156 211 = some (42, .goto 4, 212, 215, 0) := rfl
theorem zr_156_214 : zRp 156 214 215 (1, 0) := ⟨_, _, _, _, rfl, by decide, Option.some_ne_none _, rfl⟩
theorem zr_156_215 : zRow xM 156 215 = some (14, .lstore 5, 217, 5, 0) := rfl
theorem zr_156_217 : zRow xM 156 217 = some (42, .goto 42, 218, 259, 0) := rfl
theorem zr_156_220 : zRow xM 156 220 = some (5, .lload_n 1, 221, 1, 0) := rfl
theorem zr_156_221 : zRow xM 156 221 = some (5, .lload_n 3, 222, 3, 0) := rfl
theorem zr_156_222 : zRow xM 156 222 = some (27, .ladd, 223, 0, 0) := rfl
theorem zr_156_223 : zRow xM 156 223 = some (14, .lstore 5, 225, 5, 0) := rfl
theorem zr_156_225 : zRow xM 156 225 = some (42, .goto 34, 226, 259, 0) := rfl
theorem zr_156_228 : zRow xM 156 228 = some (5, .lload_n 1, 229, 1, 0) := rfl
theorem zr_156_229 : zRow xM 156 229 = some (5, .lload_n 3, 230, 3, 0) := rfl
theorem zr_156_230 : zRow xM 156 230 = some (28, .lsub, 231, 0, 0) := rfl
theorem zr_156_231 : zRow xM 156 231 = some (14, .lstore 5, 233, 5, 0) := rfl
theorem zr_156_233 : zRow xM 156 233 = some (42, .goto 26, 234, 259, 0) := rfl
theorem zr_156_236 : zRow xM 156 236 = some (5, .lload_n 1, 237, 1, 0) := rfl
theorem zr_156_237 : zRow xM 156 237 = some (5, .lload_n 3, 238, 3, 0) := rfl
theorem zr_156_238 : zRow xM 156 238 = some (29, .lmul, 239, 0, 0) := rfl
theorem zr_156_239 : zRow xM 156 239 = some (14, .lstore 5, 241, 5, 0) := rfl
theorem zr_156_241 : zRow xM 156 241 = some (42, .goto 18, 242, 259, 0) := rfl
theorem zr_156_244 : zRow xM 156 244 = some (5, .lload_n 3, 245, 3, 0) := rfl
theorem zr_156_245 : zRp 156 245 246 (1, 0) := ⟨_, _, _, _, rfl, by decide, Option.some_ne_none _, rfl⟩
theorem zr_156_246 : zRow xM 156 246 = some (39, .lcmp, 247, 0, 0) := rfl
theorem zr_156_247 : zRow xM 156 247 = some (40, .ifCond .ne 7, 250, 254, 4) := rfl
theorem zr_156_250 : zRp 156 250 251 (1, 0) := ⟨_, _, _, _, rfl, by decide, Option.some_ne_none _, rfl⟩
theorem zr_156_251 : zRow xM 156 251 = some (42, .goto 6, 252, 257, 0) := rfl
theorem zr_156_254 : zRow xM 156 254 = some (5, .lload_n 1, 255, 1, 0) := rfl
theorem zr_156_255 : zRow xM 156 255 = some (5, .lload_n 3, 256, 3, 0) := rfl
theorem zr_156_256 : zRow xM 156 256 = some (118, .ldiv, 257, 0, 0) := rfl
theorem zr_156_257 : zRow xM 156 257 = some (14, .lstore 5, 259, 5, 0) := rfl
theorem zr_156_259 : zRow xM 156 259 = some (7, .aload_n 0, 260, 0, 0) := rfl
theorem zr_156_260 : zRow xM 156 260 = some (46, .getfield 24, 263, 9, 8) := rfl
theorem zr_156_263 : zRow xM 156 263 = some (7, .aload_n 0, 264, 0, 0) := rfl
theorem zr_156_264 : zRow xM 156 264 = some (46, .getfield 112, 267, 9, 9) := rfl
theorem zr_156_267 : zRp 156 267 268 (0, 1) := ⟨_, _, _, _, rfl, by decide, Option.some_ne_none _, rfl⟩
theorem zr_156_268 : zRow xM 156 268 = some (17, .isub, 269, 0, 0) := rfl
theorem zr_156_269 : zRow xM 156 269 = some (6, .lload 5, 271, 5, 0) := rfl
theorem zr_156_271 : zRow xM 156 271 = some (51, .lastore, 272, 0, 0) := rfl
theorem zr_156_272 : zRow xM 156 272 = some (110, .return_, 273, 0, 0) := rfl
theorem zm_157 : zMt xM 157 = some (2, none, 2, 0, 0) := rfl
theorem zr_157_0 : zRow xM 157 0 = some (7, .aload_n 0, 1, 0, 0) := rfl
theorem zr_157_1 : zRow xM 157 1 = some (46, .getfield 109, 4, 9, 11) := rfl
theorem zr_157_4 : zRow xM 157 4 = some (40, .ifCond .le 45, 7, 49, 5) := rfl
theorem zr_157_7 : zRow xM 157 7 = some (7, .aload_n 0, 8, 0, 0) := rfl
theorem zr_157_8 : zRow xM 157 8 = some (46, .getfield 28, 11, 9, 10) := rfl
theorem zr_157_11 : zRow xM 157 11 = some (7, .aload_n 0, 12, 0, 0) := rfl
theorem zr_157_12 : zRow xM 157 12 = some (46, .getfield 109, 15, 9, 11) := rfl
theorem zr_157_15 : zRp 157 15 16 (0, 1) := ⟨_, _, _, _, rfl, by decide, Option.some_ne_none _, rfl⟩
theorem zr_157_16 : zRow xM 157 16 = some (17, .isub, 17, 0, 0) := rfl
theorem zr_157_17 : zRow xM 157 17 = some (48, .iaload, 18, 0, 0) := rfl
theorem zr_157_18 : zRp 157 18 21 (0, 1000) := ⟨_, _, _, _, rfl, by decide, Option.some_ne_none _, rfl⟩
theorem zr_157_21 : zRow xM 157 21 = some (41, .if_icmp .ge 28, 24, 49, 3) := rfl
theorem zr_157_24 : zRow xM 157 24 = some (7, .aload_n 0, 25, 0, 0) := rfl
theorem zr_157_25 : zRow xM 157 25 = some (46, .getfield 28, 28, 9, 10) := rfl
theorem zr_157_28 : zRow xM 157 28 = some (7, .aload_n 0, 29, 0, 0) := rfl
theorem zr_157_29 : zRow xM 157 29 = some (46, .getfield 109, 32, 9, 11) := rfl
theorem zr_157_32 : zRp 157 32 33 (0, 1) := ⟨_, _, _, _, rfl, by decide, Option.some_ne_none _, rfl⟩
theorem zr_157_33 : zRow xM 157 33 = some (17, .isub, 34, 0, 0) := rfl
theorem zr_157_34 : zRow xM 157 34 = some (48, .iaload, 35, 0, 0) := rfl
theorem zr_157_35 : zRow xM 157 35 = some (107, .invokestatic 115, 38, 155, 0) := rfl
theorem zr_157_38 : zRow xM 157 38 = some (3, .iload_n 1, 39, 1, 0) := rfl
theorem zr_157_39 : zRow xM 157 39 = some (41, .if_icmp .lt 10, 42, 49, 0) := rfl
theorem zr_157_42 : zRow xM 157 42 = some (7, .aload_n 0, 43, 0, 0) := rfl
theorem zr_157_43 : zRow xM 157 43 = some (105, .invokevirtual 118, 46, 156, 9) := rfl
theorem zr_157_46 : zRow xM 157 46 = some (42, .goto (-46), 47, 0, 0) := rfl
theorem zr_157_49 : zRow xM 157 49 = some (110, .return_, 50, 0, 0) := rfl
theorem zm_158 : zMt xM 158 = some (5, none, 2, 0, 0) := rfl
theorem zr_158_0 : zRow xM 158 0 = some (5, .lload_n 1, 1, 1, 0) := rfl
theorem zr_158_1 : zRow xM 158 1 = some (13, .lstore_n 3, 2, 3, 0) := rfl
theorem zr_158_2 : zRow xM 158 2 = some (7, .aload_n 0, 3, 0, 0) := rfl
theorem zr_158_3 : zRow xM 158 3 = some (46, .getfield 109, 6, 9, 11) := rfl
theorem zr_158_6 : zRow xM 158 6 = some (40, .ifCond .le 67, 9, 73, 5) := rfl
theorem zr_158_9 : zRow xM 158 9 = some (7, .aload_n 0, 10, 0, 0) := rfl
theorem zr_158_10 : zRow xM 158 10 = some (46, .getfield 28, 13, 9, 10) := rfl
theorem zr_158_13 : zRow xM 158 13 = some (7, .aload_n 0, 14, 0, 0) := rfl
theorem zr_158_14 : zRow xM 158 14 = some (46, .getfield 109, 17, 9, 11) := rfl
theorem zr_158_17 : zRp 158 17 18 (0, 1) := ⟨_, _, _, _, rfl, by decide, Option.some_ne_none _, rfl⟩
theorem zr_158_18 : zRow xM 158 18 = some (17, .isub, 19, 0, 0) := rfl
theorem zr_158_19 : zRow xM 158 19 = some (48, .iaload, 20, 0, 0) := rfl
theorem zr_158_20 : zRp 158 20 23 (0, 1000) := ⟨_, _, _, _, rfl, by decide, Option.some_ne_none _, rfl⟩
theorem zr_158_23 : zRow xM 158 23 = some (41, .if_icmp .le 50, 26, 73, 5) := rfl
theorem zr_158_26 : zRow xM 158 26 = some (7, .aload_n 0, 27, 0, 0) := rfl
theorem zr_158_27 : zRow xM 158 27 = some (46, .getfield 28, 30, 9, 10) := rfl
theorem zr_158_30 : zRow xM 158 30 = some (7, .aload_n 0, 31, 0, 0) := rfl
theorem zr_158_31 : zRow xM 158 31 = some (46, .getfield 109, 34, 9, 11) := rfl
theorem zr_158_34 : zRp 158 34 35 (0, 1) := ⟨_, _, _, _, rfl, by decide, Option.some_ne_none _, rfl⟩
theorem zr_158_35 : zRow xM 158 35 = some (17, .isub, 36, 0, 0) := rfl
theorem zr_158_36 : zRow xM 158 36 = some (48, .iaload, 37, 0, 0) := rfl
theorem zr_158_37 : zRp 158 37 40 (0, 1001) := ⟨_, _, _, _, rfl, by decide, Option.some_ne_none _, rfl⟩
theorem zr_158_40 : zRow xM 158 40 = some (41, .if_icmp .ne 17, 43, 57, 4) := rfl
theorem zr_158_43 : zRow xM 158 43 = some (5, .lload_n 3, 44, 3, 0) := rfl
theorem zr_158_44 : zRp 158 44 45 (1, 0) := ⟨_, _, _, _, rfl, by decide, Option.some_ne_none _, rfl⟩
theorem zr_158_45 : zRow xM 158 45 = some (39, .lcmp, 46, 0, 0) := rfl
theorem zr_158_46 : zRow xM 158 46 = some (40, .ifCond .ne 7, 49, 53, 4) := rfl
theorem zr_158_49 : zRp 158 49 50 (1, 1) := ⟨_, _, _, _, rfl, by decide, Option.some_ne_none _, rfl⟩
theorem zr_158_50 : zRow xM 158 50 = some (42, .goto 9, 51, 59, 0) := rfl
theorem zr_158_53 : zRp 158 53 54 (1, 0) := ⟨_, _, _, _, rfl, by decide, Option.some_ne_none _, rfl⟩
theorem zr_158_54 : zRow xM 158 54 = some (42, .goto 5, 55, 59, 0) := rfl
theorem zr_158_57 : zRow xM 158 57 = some (5, .lload_n 3, 58, 3, 0) := rfl
theorem zr_158_58 : zRow xM 158 58 = some (117, .lneg, 59, 0, 0) := rfl
theorem zr_158_59 : zRow xM 158 59 = some (13, .lstore_n 3, 60, 3, 0) := rfl
theorem zr_158_60 : zRow xM 158 60 = some (7, .aload_n 0, 61, 0, 0) := rfl
theorem zr_158_61 : zRow xM 158 61 = some (43, .dup, 62, 0, 0) := rfl
theorem zr_158_62 : zRow xM 158 62 = some (46, .getfield 109, 65, 9, 11) := rfl
theorem zr_158_65 : zRp 158 65 66 (0, 1) := ⟨_, _, _, _, rfl, by decide, Option.some_ne_none _, rfl⟩
theorem zr_158_66 : zRow xM 158 66 = some (17, .isub, 67, 0, 0) := rfl
theorem zr_158_67 : zRow xM 158 67 = some (47, .putfield 109, 70, 9, 11) := rfl
theorem zr_158_70 : zRow xM 158 70 = some (42, .goto (-68), 71, 2, 0) := rfl
theorem zr_158_73 : zRow xM 158 73 = some (7, .aload_n 0, 74, 0, 0) := rfl
theorem zr_158_74 : zRow xM 158 74 = some (46, .getfield 24, 77, 9, 8) := rfl
theorem zr_158_77 : zRow xM 158 77 = some (7, .aload_n 0, 78, 0, 0) := rfl
theorem zr_158_78 : zRow xM 158 78 = some (46, .getfield 112, 81, 9, 9) := rfl
theorem zr_158_81 : zRow xM 158 81 = some (5, .lload_n 3, 82, 3, 0) := rfl
theorem zr_158_82 : zRow xM 158 82 = some (51, .lastore, 83, 0, 0) := rfl
theorem zr_158_83 : zRow xM 158 83 = some (7, .aload_n 0, 84, 0, 0) := rfl
theorem zr_158_84 : zRow xM 158 84 = some (43, .dup, 85, 0, 0) := rfl
theorem zr_158_85 : zRow xM 158 85 = some (46, .getfield 112, 88, 9, 9) := rfl
theorem zr_158_88 : zRp 158 88 89 (0, 1) := ⟨_, _, _, _, rfl, by decide, Option.some_ne_none _, rfl⟩
theorem zr_158_89 : zRow xM 158 89 = some (16, .iadd, 90, 0, 0) := rfl
theorem zr_158_90 : zRow xM 158 90 = some (47, .putfield 112, 93, 9, 9) := rfl
theorem zr_158_93 : zRow xM 158 93 = some (110, .return_, 94, 0, 0) := rfl
theorem zm_159 : zMt xM 159 = some (1, (some .int), 1, 0, 0) := rfl
theorem zr_159_0 : zRow xM 159 0 = some (3, .iload_n 0, 1, 0, 0) := rfl
theorem zr_159_1 : zRp 159 1 3 (0, 120) := ⟨_, _, _, _, rfl, by decide, Option.some_ne_none _, rfl⟩
theorem zr_159_3 : zRow xM 159 3 = some (41, .if_icmp .ne 7, 6, 10, 4) := rfl
theorem zr_159_6 : zRp 159 6 7 (0, 0) := ⟨_, _, _, _, rfl, by decide, Option.some_ne_none _, rfl⟩
theorem zr_159_7 : zRow xM 159 7 = some (42, .goto 54, 8, 61, 0) := rfl
theorem zr_159_10 : zRow xM 159 10 = some (3, .iload_n 0, 11, 0, 0) := rfl
theorem zr_159_11 : zRp 159 11 13 (0, 111) := ⟨_, _, _, _, rfl, by decide, Option.some_ne_none _, rfl⟩
theorem zr_159_13 : zRow xM 159 13 = some (41, .if_icmp .ne 7, 16, 20, 4) := rfl
theorem zr_159_16 : zRp 159 16 17 (0, 1) := ⟨_, _, _, _, rfl, by decide, Option.some_ne_none _, rfl⟩
theorem zr_159_17 : zRow xM 159 17 = some (42, .goto 44, 18, 61, 0) := rfl
theorem zr_159_20 : zRow xM 159 20 = some (3, .iload_n 0, 21, 0, 0) := rfl
theorem zr_159_21 : zRp 159 21 23 (0, 101) := ⟨_, _, _, _, rfl, by decide, Option.some_ne_none _, rfl⟩
theorem zr_159_23 : zRow xM 159 23 = some (41, .if_icmp .ne 7, 26, 30, 4) := rfl
theorem zr_159_26 : zRp 159 26 27 (0, 2) := ⟨_, _, _, _, rfl, by decide, Option.some_ne_none _, rfl⟩
theorem zr_159_27 : zRow xM 159 27 = some (42, .goto 34, 28, 61, 0) := rfl
theorem zr_159_30 : zRow xM 159 30 = some (3, .iload_n 0, 31, 0, 0) := rfl
theorem zr_159_31 : zRp 159 31 33 (0, 109) := ⟨_, _, _, _, rfl, by decide, Option.some_ne_none _, rfl⟩
theorem zr_159_33 : zRow xM 159 33 = some (41, .if_icmp .ne 7, 36, 40, 4) := rfl
theorem zr_159_36 : zRp 159 36 37 (0, 3) := ⟨_, _, _, _, rfl, by decide, Option.some_ne_none _, rfl⟩
theorem zr_159_37 : zRow xM 159 37 = some (42, .goto 24, 38, 61, 0) := rfl
theorem zr_159_40 : zRow xM 159 40 = some (3, .iload_n 0, 41, 0, 0) := rfl
theorem zr_159_41 : zRp 159 41 43 (0, 121) := ⟨_, _, _, _, rfl, by decide, Option.some_ne_none _, rfl⟩
theorem zr_159_43 : zRow xM 159 43 = some (41, .if_icmp .ne 7, 46, 50, 4) := rfl
theorem zr_159_46 : zRp 159 46 47 (0, 4) := ⟨_, _, _, _, rfl, by decide, Option.some_ne_none _, rfl⟩
theorem zr_159_47 : zRow xM 159 47 = some (42, .goto 14, 48, 61, 0) := rfl
theorem zr_159_50 : zRow xM 159 50 = some (3, .iload_n 0, 51, 0, 0) := rfl
theorem zr_159_51 : zRp 159 51 53 (0, 103) := ⟨_, _, _, _, rfl, by decide, Option.some_ne_none _, rfl⟩
theorem zr_159_53 : zRow xM 159 53 = some (41, .if_icmp .ne 7, 56, 60, 4) := rfl
theorem zr_159_56 : zRp 159 56 57 (0, 5) := ⟨_, _, _, _, rfl, by decide, Option.some_ne_none _, rfl⟩
theorem zr_159_57 : zRow xM 159 57 = some (42, .goto 4, 58, 61, 0) := rfl
theorem zr_159_60 : zRp 159 60 61 (0, -1) := ⟨_, _, _, _, rfl, by decide, Option.some_ne_none _, rfl⟩
theorem zr_159_61 : zRow xM 159 61 = some (108, .ireturn, 62, 0, 0) := rfl
theorem zm_160 : zMt xM 160 = some (4, (some .long), 1, 0, 0) := rfl
theorem zr_160_0 : zRow xM 160 0 = some (7, .aload_n 0, 1, 0, 0) := rfl
theorem zr_160_1 : zRow xM 160 1 = some (46, .getfield 99, 4, 9, 6) := rfl
theorem zr_160_4 : zRow xM 160 4 = some (9, .istore_n 1, 5, 1, 0) := rfl
theorem zr_160_5 : zRp 160 5 6 (1, 0) := ⟨_, _, _, _, rfl, by decide, Option.some_ne_none _, rfl⟩
theorem zr_160_6 : zRow xM 160 6 = some (13, .lstore_n 2, 7, 2, 0) := rfl
theorem zr_160_7 : zRow xM 160 7 = some (7, .aload_n 0, 8, 0, 0) := rfl
theorem zr_160_8 : zRow xM 160 8 = some (46, .getfield 99, 11, 9, 6) := rfl
theorem zr_160_11 : zRow xM 160 11 = some (7, .aload_n 0, 12, 0, 0) := rfl
theorem zr_160_12 : zRow xM 160 12 = some (105, .invokevirtual 102, 15, 152, 9) := rfl
theorem zr_160_15 : zRow xM 160 15 = some (41, .if_icmp .ge 80, 18, 95, 3) := rfl
theorem zr_160_18 : zRow xM 160 18 = some (7, .aload_n 0, 19, 0, 0) := rfl
theorem zr_160_19 : zRow xM 160 19 = some (7, .aload_n 0, 20, 0, 0) := rfl
theorem zr_160_20 : zRow xM 160 20 = some (46, .getfield 99, 23, 9, 6) := rfl
theorem zr_160_23 : zRow xM 160 23 = some (105, .invokevirtual 105, 26, 153, 9) := rfl
theorem zr_160_26 : zRow xM 160 26 = some (36, .i2l, 27, 0, 0) := rfl
theorem zr_160_27 : zRp 160 27 30 (1, 48) := ⟨_, _, _, _, rfl, by decide, Option.some_ne_none _, rfl⟩
theorem zr_160_30 : zRp 160 30 33 (1, 57) := ⟨_, _, _, _, rfl, by decide, Option.some_ne_none _, rfl⟩
theorem zr_160_33 : zRow xM 160 33 = some (107, .invokestatic 65, 36, 140, 0) := rfl
theorem zr_160_36 : zRow xM 160 36 = some (40, .ifCond .eq 59, 39, 95, 1) := rfl
theorem zr_160_39 : zRow xM 160 39 = some (7, .aload_n 0, 40, 0, 0) := rfl
theorem zr_160_40 : zRow xM 160 40 = some (46, .getfield 99, 43, 9, 6) := rfl
theorem zr_160_43 : zRow xM 160 43 = some (3, .iload_n 1, 44, 1, 0) := rfl
theorem zr_160_44 : zRow xM 160 44 = some (17, .isub, 45, 0, 0) := rfl
theorem zr_160_45 : zRp 160 45 47 (0, 6) := ⟨_, _, _, _, rfl, by decide, Option.some_ne_none _, rfl⟩
theorem zr_160_47 : zRow xM 160 47 = some (41, .if_icmp .ne 15, 50, 62, 4) := rfl
theorem zr_160_50 : zRow xM 160 50 = some (7, .aload_n 0, 51, 0, 0) := rfl
theorem zr_160_51 : zRp 160 51 53 (0, 10) := ⟨_, _, _, _, rfl, by decide, Option.some_ne_none _, rfl⟩
theorem zr_160_53 : zRow xM 160 53 = some (3, .iload_n 1, 54, 1, 0) := rfl
theorem zr_160_54 : zRow xM 160 54 = some (18, .imul, 55, 0, 0) := rfl
theorem zr_160_55 : zRp 160 55 56 (0, 2) := ⟨_, _, _, _, rfl, by decide, Option.some_ne_none _, rfl⟩
theorem zr_160_56 : zRow xM 160 56 = some (16, .iadd, 57, 0, 0) := rfl
theorem zr_160_57 : zRow xM 160 57 = some (47, .putfield 125, 60, 9, 7) := rfl
theorem zr_160_60 : zRp 160 60 61 (1, 0) := ⟨_, _, _, _, rfl, by decide, Option.some_ne_none _, rfl⟩
theorem zr_160_61 : zRow xM 160 61 = some (109, .lreturn, 62, 0, 0) := rfl
theorem zr_160_62 : zRp 160 62 65 (1, 10) := ⟨_, _, _, _, rfl, by decide, Option.some_ne_none _, rfl⟩
theorem zr_160_65 : zRow xM 160 65 = some (5, .lload_n 2, 66, 2, 0) := rfl
theorem zr_160_66 : zRow xM 160 66 = some (29, .lmul, 67, 0, 0) := rfl
theorem zr_160_67 : zRow xM 160 67 = some (7, .aload_n 0, 68, 0, 0) := rfl
theorem zr_160_68 : zRow xM 160 68 = some (7, .aload_n 0, 69, 0, 0) := rfl
theorem zr_160_69 : zRow xM 160 69 = some (46, .getfield 99, 72, 9, 6) := rfl
theorem zr_160_72 : zRow xM 160 72 = some (105, .invokevirtual 105, 75, 153, 9) := rfl
theorem zr_160_75 : zRow xM 160 75 = some (36, .i2l, 76, 0, 0) := rfl
theorem zr_160_76 : zRow xM 160 76 = some (27, .ladd, 77, 0, 0) := rfl
theorem zr_160_77 : zRp 160 77 80 (1, 48) := ⟨_, _, _, _, rfl, by decide, Option.some_ne_none _, rfl⟩
theorem zr_160_80 : zRow xM 160 80 = some (28, .lsub, 81, 0, 0) := rfl
theorem zr_160_81 : zRow xM 160 81 = some (13, .lstore_n 2, 82, 2, 0) := rfl
theorem zr_160_82 : zRow xM 160 82 = some (7, .aload_n 0, 83, 0, 0) := rfl
theorem zr_160_83 : zRow xM 160 83 = some (43, .dup, 84, 0, 0) := rfl
theorem zr_160_84 : zRow xM 160 84 = some (46, .getfield 99, 87, 9, 6) := rfl
theorem zr_160_87 : zRp 160 87 88 (0, 1) := ⟨_, _, _, _, rfl, by decide, Option.some_ne_none _, rfl⟩
theorem zr_160_88 : zRow xM 160 88 = some (16, .iadd, 89, 0, 0) := rfl
theorem zr_160_89 : zRow xM 160 89 = some (47, .putfield 99, 92, 9, 6) := rfl
theorem zr_160_92 : zRow xM 160 92 = some (42, .goto (-85), 93, 7, 0) := rfl
theorem zr_160_95 : zRow xM 160 95 = some (5, .lload_n 2, 96, 2, 0) := rfl
theorem zr_160_96 : zRow xM 160 96 = some (109, .lreturn, 97, 0, 0) := rfl
theorem zm_161 : zMt xM 161 = some (5, (some .boolean), 1, 0, 0) := rfl
theorem zr_161_0 : zRow xM 161 0 = some (7, .aload_n 0, 1, 0, 0) := rfl
theorem zr_161_1 : zRp 161 1 2 (0, 0) := ⟨_, _, _, _, rfl, by decide, Option.some_ne_none _, rfl⟩
theorem zr_161_2 : zRow xM 161 2 = some (47, .putfield 99, 5, 9, 6) := rfl
theorem zr_161_5 : zRow xM 161 5 = some (7, .aload_n 0, 6, 0, 0) := rfl
theorem zr_161_6 : zRp 161 6 7 (0, -1) := ⟨_, _, _, _, rfl, by decide, Option.some_ne_none _, rfl⟩
theorem zr_161_7 : zRow xM 161 7 = some (47, .putfield 125, 10, 9, 7) := rfl
theorem zr_161_10 : zRow xM 161 10 = some (7, .aload_n 0, 11, 0, 0) := rfl
theorem zr_161_11 : zRp 161 11 12 (0, 0) := ⟨_, _, _, _, rfl, by decide, Option.some_ne_none _, rfl⟩
theorem zr_161_12 : zRow xM 161 12 = some (47, .putfield 112, 15, 9, 9) := rfl
theorem zr_161_15 : zRow xM 161 15 = some (7, .aload_n 0, 16, 0, 0) := rfl
theorem zr_161_16 : zRp 161 16 17 (0, 0) := ⟨_, _, _, _, rfl, by decide, Option.some_ne_none _, rfl⟩
theorem zr_161_17 : zRow xM 161 17 = some (47, .putfield 109, 20, 9, 11) := rfl
theorem zr_161_20 : zRp 161 20 21 (0, 0) := ⟨_, _, _, _, rfl, by decide, Option.some_ne_none _, rfl⟩
theorem zr_161_21 : zRow xM 161 21 = some (9, .istore_n 1, 22, 1, 0) := rfl
theorem zr_161_22 : zRp 161 22 23 (0, 1) := ⟨_, _, _, _, rfl, by decide, Option.some_ne_none _, rfl⟩
theorem zr_161_23 : zRow xM 161 23 = some (9, .istore_n 2, 24, 2, 0) := rfl
theorem zr_161_24 : zRp 161 24 25 (0, 1) := ⟨_, _, _, _, rfl, by decide, Option.some_ne_none _, rfl⟩
theorem zr_161_25 : zRow xM 161 25 = some (9, .istore_n 3, 26, 3, 0) := rfl
theorem zr_161_26 : zRow xM 161 26 = some (3, .iload_n 3, 27, 3, 0) := rfl
theorem zr_161_27 : zRow xM 161 27 = some (40, .ifCond .eq 461, 30, 488, 1) := rfl
theorem zr_161_30 : zRow xM 161 30 = some (7, .aload_n 0, 31, 0, 0) := rfl
theorem zr_161_31 : zRow xM 161 31 = some (46, .getfield 125, 34, 9, 7) := rfl
theorem zr_161_34 : zRp 161 34 35 (0, -1) := ⟨_, _, _, _, rfl, by decide, Option.some_ne_none _, rfl⟩
theorem zr_161_35 : zRow xM 161 35 = some (41, .if_icmp .ne 453, 38, 488, 4) := rfl
theorem zr_161_38 : zRow xM 161 38 = some (7, .aload_n 0, 39, 0, 0) := rfl
theorem zr_161_39 : zRow xM 161 39 = some (105, .invokevirtual 130, 42, 154, 9) := rfl
theorem zr_161_42 : zRow xM 161 42 = some (10, .istore 4, 44, 4, 0) := rfl
theorem zr_161_44 : zRow xM 161 44 = some (3, .iload_n 2, 45, 2, 0) := rfl
theorem zr_161_45 : zRow xM 161 45 = some (40, .ifCond .eq 209, 48, 254, 1) := rfl
theorem zr_161_48 : zRow xM 161 48 = some (4, .iload 4, 50, 4, 0) := rfl
theorem zr_161_50 : zRow xM 161 50 = some (36, .i2l, 51, 0, 0) := rfl
theorem zr_161_51 : zRp 161 51 54 (1, 48) := ⟨_, _, _, _, rfl, by decide, Option.some_ne_none _, rfl⟩
theorem zr_161_54 : zRp 161 54 57 (1, 57) := ⟨_, _, _, _, rfl, by decide, Option.some_ne_none _, rfl⟩
theorem zr_161_57 : zRow xM 161 57 = some (107, .invokestatic 65, 60, 140, 0) := rfl
theorem zr_161_60 : zRow xM 161 60 = some (40, .ifCond .eq 16, 63, 76, 1) := rfl
theorem zr_161_63 : zRow xM 161 63 = some (7, .aload_n 0, 64, 0, 0) := rfl
theorem zr_161_64 : zRow xM 161 64 = some (7, .aload_n 0, 65, 0, 0) := rfl
theorem zr_161_65 : zRow xM 161 65 = some (105, .invokevirtual 133, 68, 160, 9) := rfl
theorem zr_161_68 : zRow xM 161 68 = some (105, .invokevirtual 137, 71, 158, 9) := rfl
theorem zr_161_71 : zRp 161 71 72 (0, 0) := ⟨_, _, _, _, rfl, by decide, Option.some_ne_none _, rfl⟩
theorem zr_161_72 : zRow xM 161 72 = some (9, .istore_n 2, 73, 2, 0) := rfl
theorem zr_161_73 : zRow xM 161 73 = some (42, .goto 412, 74, 485, 0) := rfl
theorem zr_161_76 : zRow xM 161 76 = some (4, .iload 4, 78, 4, 0) := rfl
theorem zr_161_78 : zRow xM 161 78 = some (107, .invokestatic 141, 81, 159, 0) := rfl
theorem zr_161_81 : zRp 161 81 82 (0, -1) := ⟨_, _, _, _, rfl, by decide, Option.some_ne_none _, rfl⟩
theorem zr_161_82 : zRow xM 161 82 = some (41, .if_icmp .eq 32, 85, 114, 1) := rfl
theorem zr_161_85 : zRow xM 161 85 = some (7, .aload_n 0, 86, 0, 0) := rfl
theorem zr_161_86 : zRow xM 161 86 = some (43, .dup, 87, 0, 0) := rfl
theorem zr_161_87 : zRow xM 161 87 = some (46, .getfield 99, 90, 9, 6) := rfl
theorem zr_161_90 : zRp 161 90 91 (0, 1) := ⟨_, _, _, _, rfl, by decide, Option.some_ne_none _, rfl⟩
theorem zr_161_91 : zRow xM 161 91 = some (16, .iadd, 92, 0, 0) := rfl
theorem zr_161_92 : zRow xM 161 92 = some (47, .putfield 99, 95, 9, 6) := rfl
theorem zr_161_95 : zRow xM 161 95 = some (7, .aload_n 0, 96, 0, 0) := rfl
theorem zr_161_96 : zRow xM 161 96 = some (7, .aload_n 0, 97, 0, 0) := rfl
theorem zr_161_97 : zRow xM 161 97 = some (46, .getfield 31, 100, 9, 12) := rfl
theorem zr_161_100 : zRow xM 161 100 = some (4, .iload 4, 102, 4, 0) := rfl
theorem zr_161_102 : zRow xM 161 102 = some (107, .invokestatic 141, 105, 159, 0) := rfl
theorem zr_161_105 : zRow xM 161 105 = some (50, .laload, 106, 0, 0) := rfl
theorem zr_161_106 : zRow xM 161 106 = some (105, .invokevirtual 137, 109, 158, 9) := rfl
theorem zr_161_109 : zRp 161 109 110 (0, 0) := ⟨_, _, _, _, rfl, by decide, Option.some_ne_none _, rfl⟩
theorem zr_161_110 : zRow xM 161 110 = some (9, .istore_n 2, 111, 2, 0) := rfl
theorem zr_161_111 : zRow xM 161 111 = some (42, .goto 374, 112, 485, 0) := rfl
theorem zr_161_114 : zRow xM 161 114 = some (4, .iload 4, 116, 4, 0) := rfl
theorem zr_161_116 : zRp 161 116 118 (0, 33) := ⟨_, _, _, _, rfl, by decide, Option.some_ne_none _, rfl⟩
theorem zr_161_118 : zRow xM 161 118 = some (41, .if_icmp .eq 10, 121, 128, 1) := rfl
theorem zr_161_121 : zRow xM 161 121 = some (4, .iload 4, 123, 4, 0) := rfl
theorem zr_161_123 : zRp 161 123 125 (0, 45) := ⟨_, _, _, _, rfl, by decide, Option.some_ne_none _, rfl⟩
theorem zr_161_125 : zRow xM 161 125 = some (41, .if_icmp .ne 51, 128, 176, 4) := rfl
theorem zr_161_128 : zRow xM 161 128 = some (7, .aload_n 0, 129, 0, 0) := rfl
theorem zr_161_129 : zRow xM 161 129 = some (43, .dup, 130, 0, 0) := rfl
theorem zr_161_130 : zRow xM 161 130 = some (46, .getfield 99, 133, 9, 6) := rfl
theorem zr_161_133 : zRp 161 133 134 (0, 1) := ⟨_, _, _, _, rfl, by decide, Option.some_ne_none _, rfl⟩
theorem zr_161_134 : zRow xM 161 134 = some (16, .iadd, 135, 0, 0) := rfl
theorem zr_161_135 : zRow xM 161 135 = some (47, .putfield 99, 138, 9, 6) := rfl
theorem zr_161_138 : zRow xM 161 138 = some (7, .aload_n 0, 139, 0, 0) := rfl
theorem zr_161_139 : zRow xM 161 139 = some (46, .getfield 28, 142, 9, 10) := rfl
theorem zr_161_142 : zRow xM 161 142 = some (7, .aload_n 0, 143, 0, 0) := rfl
theorem zr_161_143 : zRow xM 161 143 = some (46, .getfield 109, 146, 9, 11) := rfl
theorem zr_161_146 : zRow xM 161 146 = some (4, .iload 4, 148, 4, 0) := rfl
theorem zr_161_148 : zRp 161 148 150 (0, 33) := ⟨_, _, _, _, rfl, by decide, Option.some_ne_none _, rfl⟩
theorem zr_161_150 : zRow xM 161 150 = some (41, .if_icmp .ne 9, 153, 159, 4) := rfl
theorem zr_161_153 : zRp 161 153 156 (0, 1001) := ⟨_, _, _, _, rfl, by decide, Option.some_ne_none _, rfl⟩
theorem zr_161_156 : zRow xM 161 156 = some (42, .goto 6, 157, 162, 0) := rfl
theorem zr_161_159 : zRp 161 159 162 (0, 1002) := ⟨_, _, _, _, rfl, by decide, Option.some_ne_none _, rfl⟩
theorem zr_161_162 : zRow xM 161 162 = some (49, .iastore, 163, 0, 0) := rfl
theorem zr_161_163 : zRow xM 161 163 = some (7, .aload_n 0, 164, 0, 0) := rfl
theorem zr_161_164 : zRow xM 161 164 = some (43, .dup, 165, 0, 0) := rfl
theorem zr_161_165 : zRow xM 161 165 = some (46, .getfield 109, 168, 9, 11) := rfl
theorem zr_161_168 : zRp 161 168 169 (0, 1) := ⟨_, _, _, _, rfl, by decide, Option.some_ne_none _, rfl⟩
theorem zr_161_169 : zRow xM 161 169 = some (16, .iadd, 170, 0, 0) := rfl
theorem zr_161_170 : zRow xM 161 170 = some (47, .putfield 109, 173, 9, 11) := rfl
theorem zr_161_173 : zRow xM 161 173 = some (42, .goto 312, 174, 485, 0) := rfl
theorem zr_161_176 : zRow xM 161 176 = some (4, .iload 4, 178, 4, 0) := rfl
theorem zr_161_178 : zRp 161 178 180 (0, 40) := ⟨_, _, _, _, rfl, by decide, Option.some_ne_none _, rfl⟩
theorem zr_161_180 : zRow xM 161 180 = some (41, .if_icmp .ne 47, 183, 227, 4) := rfl
theorem zr_161_183 : zRow xM 161 183 = some (3, .iload_n 1, 184, 1, 0) := rfl
theorem zr_161_184 : zRp 161 184 186 (0, 8) := ⟨_, _, _, _, rfl, by decide, Option.some_ne_none _, rfl⟩
theorem zr_161_186 : zRow xM 161 186 = some (41, .if_icmp .ge 41, 189, 227, 3) := rfl
theorem zr_161_189 : zRow xM 161 189 = some (7, .aload_n 0, 190, 0, 0) := rfl
theorem zr_161_190 : zRow xM 161 190 = some (43, .dup, 191, 0, 0) := rfl
theorem zr_161_191 : zRow xM 161 191 = some (46, .getfield 99, 194, 9, 6) := rfl
theorem zr_161_194 : zRp 161 194 195 (0, 1) := ⟨_, _, _, _, rfl, by decide, Option.some_ne_none _, rfl⟩
theorem zr_161_195 : zRow xM 161 195 = some (16, .iadd, 196, 0, 0) := rfl
theorem zr_161_196 : zRow xM 161 196 = some (47, .putfield 99, 199, 9, 6) := rfl
theorem zr_161_199 : zRow xM 161 199 = some (15, .iinc 1 1, 202, 1, 1) := rfl
theorem zr_161_202 : zRow xM 161 202 = some (7, .aload_n 0, 203, 0, 0) := rfl
theorem zr_161_203 : zRow xM 161 203 = some (46, .getfield 28, 206, 9, 10) := rfl
theorem zr_161_206 : zRow xM 161 206 = some (7, .aload_n 0, 207, 0, 0) := rfl
theorem zr_161_207 : zRow xM 161 207 = some (46, .getfield 109, 210, 9, 11) := rfl
theorem zr_161_210 : zRp 161 210 213 (0, 1000) := ⟨_, _, _, _, rfl, by decide, Option.some_ne_none _, rfl⟩
theorem zr_161_213 : zRow xM 161 213 = some (49, .iastore, 214, 0, 0) := rfl
theorem zr_161_214 : zRow xM 161 214 = some (7, .aload_n 0, 215, 0, 0) := rfl
theorem zr_161_215 : zRow xM 161 215 = some (43, .dup, 216, 0, 0) := rfl
theorem zr_161_216 : zRow xM 161 216 = some (46, .getfield 109, 219, 9, 11) := rfl
theorem zr_161_219 : zRp 161 219 220 (0, 1) := ⟨_, _, _, _, rfl, by decide, Option.some_ne_none _, rfl⟩
theorem zr_161_220 : zRow xM 161 220 = some (16, .iadd, 221, 0, 0) := rfl
theorem zr_161_221 : zRow xM 161 221 = some (47, .putfield 109, 224, 9, 11) := rfl
theorem zr_161_224 : zRow xM 161 224 = some (42, .goto 261, 225, 485, 0) := rfl
theorem zr_161_227 : zRow xM 161 227 = some (7, .aload_n 0, 228, 0, 0) := rfl
theorem zr_161_228 : zRp 161 228 230 (0, 10) := ⟨_, _, _, _, rfl, by decide, Option.some_ne_none _, rfl⟩
theorem zr_161_230 : zRow xM 161 230 = some (7, .aload_n 0, 231, 0, 0) := rfl
theorem zr_161_231 : zRow xM 161 231 = some (46, .getfield 99, 234, 9, 6) := rfl
theorem zr_161_234 : zRow xM 161 234 = some (18, .imul, 235, 0, 0) := rfl
theorem zr_161_235 : zRow xM 161 235 = some (4, .iload 4, 237, 4, 0) := rfl
theorem zr_161_237 : zRp 161 237 239 (0, 40) := ⟨_, _, _, _, rfl, by decide, Option.some_ne_none _, rfl⟩
theorem zr_161_239 : zRow xM 161 239 = some (41, .if_icmp .ne 7, 242, 246, 4) := rfl
theorem zr_161_242 : zRp 161 242 243 (0, 3) := ⟨_, _, _, _, rfl, by decide, Option.some_ne_none _, rfl⟩
theorem zr_161_243 : zRow xM 161 243 = some (42, .goto 4, 244, 247, 0) := rfl
theorem zr_161_246 : zRp 161 246 247 (0, 1) := ⟨_, _, _, _, rfl, by decide, Option.some_ne_none _, rfl⟩
theorem zr_161_247 : zRow xM 161 247 = some (16, .iadd, 248, 0, 0) := rfl
theorem zr_161_248 : zRow xM 161 248 = some (47, .putfield 125, 251, 9, 7) := rfl
theorem zr_161_251 : zRow xM 161 251 = some (42, .goto 234, 252, 485, 0) := rfl
theorem zr_161_254 : zRow xM 161 254 = some (4, .iload 4, 256, 4, 0) := rfl
theorem zr_161_256 : zRp 161 256 258 (0, 41) := ⟨_, _, _, _, rfl, by decide, Option.some_ne_none _, rfl⟩
theorem zr_161_258 : zRow xM 161 258 = some (41, .if_icmp .ne 61, 261, 319, 4) := rfl
theorem zr_161_261 : zRow xM 161 261 = some (3, .iload_n 1, 262, 1, 0) := rfl
theorem zr_161_262 : zRow xM 161 262 = some (40, .ifCond .le 57, 265, 319, 5) := rfl
theorem zr_161_265 : zRow xM 161 265 = some (7, .aload_n 0, 266, 0, 0) := rfl
theorem zr_161_266 : zRow xM 161 266 = some (43, .dup, 267, 0, 0) := rfl
theorem zr_161_267 : zRow xM 161 267 = some (46, .getfield 99, 270, 9, 6) := rfl
theorem zr_161_270 : zRp 161 270 271 (0, 1) := ⟨_, _, _, _, rfl, by decide, Option.some_ne_none _, rfl⟩
theorem zr_161_271 : zRow xM 161 271 = some (16, .iadd, 272, 0, 0) := rfl
theorem zr_161_272 : zRow xM 161 272 = some (47, .putfield 99, 275, 9, 6) := rfl
theorem zr_161_275 : zRow xM 161 275 = some (15, .iinc 1 (-1), 278, 1, 4294967295) := rfl
theorem zr_161_278 : zRow xM 161 278 = some (7, .aload_n 0, 279, 0, 0) := rfl
theorem zr_161_279 : zRp 161 279 280 (0, 1) := ⟨_, _, _, _, rfl, by decide, Option.some_ne_none _, rfl⟩
theorem zr_161_280 : zRow xM 161 280 = some (105, .invokevirtual 144, 283, 157, 9) := rfl
theorem zr_161_283 : zRow xM 161 283 = some (7, .aload_n 0, 284, 0, 0) := rfl
theorem zr_161_284 : zRow xM 161 284 = some (43, .dup, 285, 0, 0) := rfl
theorem zr_161_285 : zRow xM 161 285 = some (46, .getfield 109, 288, 9, 11) := rfl
theorem zr_161_288 : zRp 161 288 289 (0, 1) := ⟨_, _, _, _, rfl, by decide, Option.some_ne_none _, rfl⟩
theorem zr_161_289 : zRow xM 161 289 = some (17, .isub, 290, 0, 0) := rfl
theorem zr_161_290 : zRow xM 161 290 = some (47, .putfield 109, 293, 9, 11) := rfl
theorem zr_161_293 : zRow xM 161 293 = some (7, .aload_n 0, 294, 0, 0) := rfl
theorem zr_161_294 : zRow xM 161 294 = some (43, .dup, 295, 0, 0) := rfl
theorem zr_161_295 : zRow xM 161 295 = some (46, .getfield 112, 298, 9, 9) := rfl
theorem zr_161_298 : zRp 161 298 299 (0, 1) := ⟨_, _, _, _, rfl, by decide, Option.some_ne_none _, rfl⟩
theorem zr_161_299 : zRow xM 161 299 = some (17, .isub, 300, 0, 0) := rfl
theorem zr_161_300 : zRow xM 161 300 = some (47, .putfield 112, 303, 9, 9) := rfl
theorem zr_161_303 : zRow xM 161 303 = some (7, .aload_n 0, 304, 0, 0) := rfl
theorem zr_161_304 : zRow xM 161 304 = some (7, .aload_n 0, 305, 0, 0) := rfl
theorem zr_161_305 : zRow xM 161 305 = some (46, .getfield 24, 308, 9, 8) := rfl
theorem zr_161_308 : zRow xM 161 308 = some (7, .aload_n 0, 309, 0, 0) := rfl
theorem zr_161_309 : zRow xM 161 309 = some (46, .getfield 112, 312, 9, 9) := rfl
theorem zr_161_312 : zRow xM 161 312 = some (50, .laload, 313, 0, 0) := rfl
theorem zr_161_313 : zRow xM 161 313 = some (105, .invokevirtual 137, 316, 158, 9) := rfl
theorem zr_161_316 : zRow xM 161 316 = some (42, .goto 169, 317, 485, 0) := rfl
theorem zr_161_319 : zRow xM 161 319 = some (4, .iload 4, 321, 4, 0) := rfl
theorem zr_161_321 : zRow xM 161 321 = some (107, .invokestatic 115, 324, 155, 0) := rfl
theorem zr_161_324 : zRow xM 161 324 = some (40, .ifCond .le 128, 327, 452, 5) := rfl
theorem zr_161_327 : zRow xM 161 327 = some (7, .aload_n 0, 328, 0, 0) := rfl
theorem zr_161_328 : zRow xM 161 328 = some (4, .iload 4, 330, 4, 0) := rfl
theorem zr_161_330 : zRow xM 161 330 = some (107, .invokestatic 115, 333, 155, 0) := rfl
theorem zr_161_333 : zRp 161 333 334 (0, 3) := ⟨_, _, _, _, rfl, by decide, Option.some_ne_none _, rfl⟩
theorem zr_161_334 : zRow xM 161 334 = some (41, .if_icmp .ne 7, 337, 341, 4) := rfl
theorem zr_161_337 : zRp 161 337 338 (0, 4) := ⟨_, _, _, _, rfl, by decide, Option.some_ne_none _, rfl⟩
theorem zr_161_338 : zRow xM 161 338 = some (42, .goto 8, 339, 346, 0) := rfl
theorem zr_161_341 : zRow xM 161 341 = some (4, .iload 4, 343, 4, 0) := rfl
theorem zr_161_343 : zRow xM 161 343 = some (107, .invokestatic 115, 346, 155, 0) := rfl
theorem zr_161_346 : zRow xM 161 346 = some (105, .invokevirtual 144, 349, 157, 9) := rfl
theorem zr_161_349 : zRow xM 161 349 = some (4, .iload 4, 351, 4, 0) := rfl
theorem zr_161_351 : zRow xM 161 351 = some (107, .invokestatic 115, 354, 155, 0) := rfl
theorem zr_161_354 : zRp 161 354 355 (0, 3) := ⟨_, _, _, _, rfl, by decide, Option.some_ne_none _, rfl⟩
theorem zr_161_355 : zRow xM 161 355 = some (41, .if_icmp .ne 61, 358, 416, 4) := rfl
theorem zr_161_358 : zRow xM 161 358 = some (7, .aload_n 0, 359, 0, 0) := rfl
theorem zr_161_359 : zRow xM 161 359 = some (46, .getfield 109, 362, 9, 11) := rfl
theorem zr_161_362 : zRow xM 161 362 = some (40, .ifCond .le 54, 365, 416, 5) := rfl
theorem zr_161_365 : zRow xM 161 365 = some (7, .aload_n 0, 366, 0, 0) := rfl
theorem zr_161_366 : zRow xM 161 366 = some (46, .getfield 28, 369, 9, 10) := rfl
theorem zr_161_369 : zRow xM 161 369 = some (7, .aload_n 0, 370, 0, 0) := rfl
theorem zr_161_370 : zRow xM 161 370 = some (46, .getfield 109, 373, 9, 11) := rfl
theorem zr_161_373 : zRp 161 373 374 (0, 1) := ⟨_, _, _, _, rfl, by decide, Option.some_ne_none _, rfl⟩
theorem zr_161_374 : zRow xM 161 374 = some (17, .isub, 375, 0, 0) := rfl
theorem zr_161_375 : zRow xM 161 375 = some (48, .iaload, 376, 0, 0) := rfl
theorem zr_161_376 : zRp 161 376 379 (0, 1000) := ⟨_, _, _, _, rfl, by decide, Option.some_ne_none _, rfl⟩
theorem zr_161_379 : zRow xM 161 379 = some (41, .if_icmp .ge 37, 382, 416, 3) := rfl
theorem zr_161_382 : zRow xM 161 382 = some (7, .aload_n 0, 383, 0, 0) := rfl
theorem zr_161_383 : zRow xM 161 383 = some (46, .getfield 28, 386, 9, 10) := rfl
theorem zr_161_386 : zRow xM 161 386 = some (7, .aload_n 0, 387, 0, 0) := rfl
theorem zr_161_387 : zRow xM 161 387 = some (46, .getfield 109, 390, 9, 11) := rfl
theorem zr_161_390 : zRp 161 390 391 (0, 1) := ⟨_, _, _, _, rfl, by decide, Option.some_ne_none _, rfl⟩
theorem zr_161_391 : zRow xM 161 391 = some (17, .isub, 392, 0, 0) := rfl
theorem zr_161_392 : zRow xM 161 392 = some (48, .iaload, 393, 0, 0) := rfl
theorem zr_161_393 : zRow xM 161 393 = some (107, .invokestatic 115, 396, 155, 0) := rfl
theorem zr_161_396 : zRp 161 396 397 (0, 3) := ⟨_, _, _, _, rfl, by decide, Option.some_ne_none _, rfl⟩
theorem zr_161_397 : zRow xM 161 397 = some (41, .if_icmp .ne 19, 400, 416, 4) := rfl
theorem zr_161_400 : zRow xM 161 400 = some (7, .aload_n 0, 401, 0, 0) := rfl
theorem zr_161_401 : zRp 161 401 403 (0, 10) := ⟨_, _, _, _, rfl, by decide, Option.some_ne_none _, rfl⟩
theorem zr_161_403 : zRow xM 161 403 = some (7, .aload_n 0, 404, 0, 0) := rfl
theorem zr_161_404 : zRow xM 161 404 = some (46, .getfield 99, 407, 9, 6) := rfl
theorem zr_161_407 : zRow xM 161 407 = some (18, .imul, 408, 0, 0) := rfl
theorem zr_161_408 : zRp 161 408 409 (0, 1) := ⟨_, _, _, _, rfl, by decide, Option.some_ne_none _, rfl⟩
theorem zr_161_409 : zRow xM 161 409 = some (16, .iadd, 410, 0, 0) := rfl
theorem zr_161_410 : zRow xM 161 410 = some (47, .putfield 125, 413, 9, 7) := rfl
theorem zr_161_413 : zRow xM 161 413 = some (42, .goto 72, 414, 485, 0) := rfl
theorem zr_161_416 : zRow xM 161 416 = some (7, .aload_n 0, 417, 0, 0) := rfl
theorem zr_161_417 : zRow xM 161 417 = some (43, .dup, 418, 0, 0) := rfl
theorem zr_161_418 : zRow xM 161 418 = some (46, .getfield 99, 421, 9, 6) := rfl
theorem zr_161_421 : zRp 161 421 422 (0, 1) := ⟨_, _, _, _, rfl, by decide, Option.some_ne_none _, rfl⟩
theorem zr_161_422 : zRow xM 161 422 = some (16, .iadd, 423, 0, 0) := rfl
theorem zr_161_423 : zRow xM 161 423 = some (47, .putfield 99, 426, 9, 6) := rfl
theorem zr_161_426 : zRow xM 161 426 = some (7, .aload_n 0, 427, 0, 0) := rfl
theorem zr_161_427 : zRow xM 161 427 = some (46, .getfield 28, 430, 9, 10) := rfl
theorem zr_161_430 : zRow xM 161 430 = some (7, .aload_n 0, 431, 0, 0) := rfl
theorem zr_161_431 : zRow xM 161 431 = some (46, .getfield 109, 434, 9, 11) := rfl
theorem zr_161_434 : zRow xM 161 434 = some (4, .iload 4, 436, 4, 0) := rfl
theorem zr_161_436 : zRow xM 161 436 = some (49, .iastore, 437, 0, 0) := rfl
theorem zr_161_437 : zRow xM 161 437 = some (7, .aload_n 0, 438, 0, 0) := rfl
theorem zr_161_438 : zRow xM 161 438 = some (43, .dup, 439, 0, 0) := rfl
theorem zr_161_439 : zRow xM 161 439 = some (46, .getfield 109, 442, 9, 11) := rfl
theorem zr_161_442 : zRp 161 442 443 (0, 1) := ⟨_, _, _, _, rfl, by decide, Option.some_ne_none _, rfl⟩
theorem zr_161_443 : zRow xM 161 443 = some (16, .iadd, 444, 0, 0) := rfl
theorem zr_161_444 : zRow xM 161 444 = some (47, .putfield 109, 447, 9, 11) := rfl
theorem zr_161_447 : zRp 161 447 448 (0, 1) := ⟨_, _, _, _, rfl, by decide, Option.some_ne_none _, rfl⟩
theorem zr_161_448 : zRow xM 161 448 = some (9, .istore_n 2, 449, 2, 0) := rfl
theorem zr_161_449 : zRow xM 161 449 = some (42, .goto 36, 450, 485, 0) := rfl
theorem zr_161_452 : zRow xM 161 452 = some (4, .iload 4, 454, 4, 0) := rfl
theorem zr_161_454 : zRp 161 454 455 (0, -1) := ⟨_, _, _, _, rfl, by decide, Option.some_ne_none _, rfl⟩
theorem zr_161_455 : zRow xM 161 455 = some (41, .if_icmp .ne 17, 458, 472, 4) := rfl
theorem zr_161_458 : zRow xM 161 458 = some (3, .iload_n 1, 459, 1, 0) := rfl
theorem zr_161_459 : zRow xM 161 459 = some (40, .ifCond .ne 13, 462, 472, 4) := rfl
theorem zr_161_462 : zRow xM 161 462 = some (7, .aload_n 0, 463, 0, 0) := rfl
theorem zr_161_463 : zRp 161 463 464 (0, 1) := ⟨_, _, _, _, rfl, by decide, Option.some_ne_none _, rfl⟩
theorem zr_161_464 : zRow xM 161 464 = some (105, .invokevirtual 144, 467, 157, 9) := rfl
theorem zr_161_467 : zRp 161 467 468 (0, 0) := ⟨_, _, _, _, rfl, by decide, Option.some_ne_none _, rfl⟩
theorem zr_161_468 : zRow xM 161 468 = some (9, .istore_n 3, 469, 3, 0) := rfl
theorem zr_161_469 : zRow xM 161 469 = some (42, .goto 16, 470, 485, 0) := rfl
theorem zr_161_472 : zRow xM 161 472 = some (7, .aload_n 0, 473, 0, 0) := rfl
theorem zr_161_473 : zRp 161 473 475 (0, 10) := ⟨_, _, _, _, rfl, by decide, Option.some_ne_none _, rfl⟩
theorem zr_161_475 : zRow xM 161 475 = some (7, .aload_n 0, 476, 0, 0) := rfl
theorem zr_161_476 : zRow xM 161 476 = some (46, .getfield 99, 479, 9, 6) := rfl
theorem zr_161_479 : zRow xM 161 479 = some (18, .imul, 480, 0, 0) := rfl
theorem zr_161_480 : zRp 161 480 481 (0, 1) := ⟨_, _, _, _, rfl, by decide, Option.some_ne_none _, rfl⟩
theorem zr_161_481 : zRow xM 161 481 = some (16, .iadd, 482, 0, 0) := rfl
theorem zr_161_482 : zRow xM 161 482 = some (47, .putfield 125, 485, 9, 7) := rfl
theorem zr_161_485 : zRow xM 161 485 = some (42, .goto (-459), 486, 26, 0) := rfl
theorem zr_161_488 : zRow xM 161 488 = some (7, .aload_n 0, 489, 0, 0) := rfl
theorem zr_161_489 : zRow xM 161 489 = some (7, .aload_n 0, 490, 0, 0) := rfl
theorem zr_161_490 : zRow xM 161 490 = some (46, .getfield 125, 493, 9, 7) := rfl
theorem zr_161_493 : zRp 161 493 494 (0, -1) := ⟨_, _, _, _, rfl, by decide, Option.some_ne_none _, rfl⟩
theorem zr_161_494 : zRow xM 161 494 = some (41, .if_icmp .ne 12, 497, 506, 4) := rfl
theorem zr_161_497 : zRow xM 161 497 = some (7, .aload_n 0, 498, 0, 0) := rfl
theorem zr_161_498 : zRow xM 161 498 = some (46, .getfield 24, 501, 9, 8) := rfl
theorem zr_161_501 : zRp 161 501 502 (0, 0) := ⟨_, _, _, _, rfl, by decide, Option.some_ne_none _, rfl⟩
theorem zr_161_502 : zRow xM 161 502 = some (50, .laload, 503, 0, 0) := rfl
theorem zr_161_503 : zRow xM 161 503 = some (42, .goto 4, 504, 507, 0) := rfl
theorem zr_161_506 : zRp 161 506 507 (1, 0) := ⟨_, _, _, _, rfl, by decide, Option.some_ne_none _, rfl⟩
theorem zr_161_507 : zRow xM 161 507 = some (47, .putfield 148, 510, 9, 13) := rfl
theorem zr_161_510 : zRow xM 161 510 = some (7, .aload_n 0, 511, 0, 0) := rfl
theorem zr_161_511 : zRow xM 161 511 = some (46, .getfield 125, 514, 9, 7) := rfl
theorem zr_161_514 : zRp 161 514 515 (0, -1) := ⟨_, _, _, _, rfl, by decide, Option.some_ne_none _, rfl⟩
theorem zr_161_515 : zRow xM 161 515 = some (41, .if_icmp .ne 7, 518, 522, 4) := rfl
theorem zr_161_518 : zRp 161 518 519 (0, 1) := ⟨_, _, _, _, rfl, by decide, Option.some_ne_none _, rfl⟩
theorem zr_161_519 : zRow xM 161 519 = some (42, .goto 4, 520, 523, 0) := rfl
theorem zr_161_522 : zRp 161 522 523 (0, 0) := ⟨_, _, _, _, rfl, by decide, Option.some_ne_none _, rfl⟩
theorem zr_161_523 : zRow xM 161 523 = some (108, .ireturn, 524, 0, 0) := rfl
