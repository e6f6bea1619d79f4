theorem zm_68 : zMt xM 68 = some (3, (some .boolean), 3, 0, 0) := rfl
theorem zr_68_0 : zRow xM 68 0 = some (7, .aload_n 0, 1, 0, 0) := rfl
theorem zr_68_1 : zRow xM 68 1 = some (7, .aload_n 0, 2, 0, 0) := rfl
theorem zr_68_2 : zRow xM 68 2 = some (46, .getfield 18, 5, 5, 0) := rfl
theorem zr_68_5 : zRow xM 68 5 = some (105, .invokevirtual 22, 8, 53, 4) := rfl
theorem zr_68_8 : zRow xM 68 8 = some (105, .invokevirtual 28, 11, 66, 5) := rfl
theorem zr_68_11 : zRow xM 68 11 = some (7, .aload_n 0, 12, 0, 0) := rfl
theorem zr_68_12 : zRow xM 68 12 = some (3, .iload_n 2, 13, 2, 0) := rfl
theorem zr_68_13 : zRow xM 68 13 = some (105, .invokevirtual 32, 16, 67, 5) := rfl
theorem zr_68_16 : zRow xM 68 16 = some (7, .aload_n 0, 17, 0, 0) := rfl
theorem zr_68_17 : zRow xM 68 17 = some (46, .getfield 15, 20, 5, 2) := rfl
theorem zr_68_20 : zRow xM 68 20 = some (3, .iload_n 1, 21, 1, 0) := rfl
theorem zr_68_21 : zRow xM 68 21 = some (48, .iaload, 22, 0, 0) := rfl
theorem zr_68_22 : zRp 68 22 23 (0, -1) := ⟨_, _, _, _, rfl, by decide, Option.some_ne_none _, rfl⟩
theorem zr_68_23 : zRow xM 68 23 = some (41, .if_icmp .eq 7, 26, 30, 1) := rfl
theorem zr_68_26 : zRp 68 26 27 (0, 1) := ⟨_, _, _, _, rfl, by decide, Option.some_ne_none _, rfl⟩
theorem zr_68_27 : zRow xM 68 27 = some (42, .goto 4, 28, 31, 0) := rfl
theorem zr_68_30 : zRp 68 30 31 (0, 0) := ⟨_, _, _, _, rfl, by decide, Option.some_ne_none _, rfl⟩
theorem zr_68_31 : zRow xM 68 31 = some (108, .ireturn, 32, 0, 0) := rfl
theorem zm_69 : zMt xM 69 = some (2, (some .int), 1, 0, 0) := rfl
theorem zr_69_0 : zRp 69 0 1 (0, 0) := ⟨_, _, _, _, rfl, by decide, Option.some_ne_none _, rfl⟩
theorem zr_69_1 : zRow xM 69 1 = some (9, .istore_n 1, 2, 1, 0) := rfl
theorem zr_69_2 : zRow xM 69 2 = some (3, .iload_n 1, 3, 1, 0) := rfl
theorem zr_69_3 : zRow xM 69 3 = some (7, .aload_n 0, 4, 0, 0) := rfl
theorem zr_69_4 : zRow xM 69 4 = some (46, .getfield 18, 7, 5, 0) := rfl
theorem zr_69_7 : zRow xM 69 7 = some (46, .getfield 36, 10, 4, 0) := rfl
theorem zr_69_10 : zRow xM 69 10 = some (41, .if_icmp .ge 21, 13, 31, 3) := rfl
theorem zr_69_13 : zRow xM 69 13 = some (7, .aload_n 0, 14, 0, 0) := rfl
theorem zr_69_14 : zRow xM 69 14 = some (46, .getfield 15, 17, 5, 2) := rfl
theorem zr_69_17 : zRow xM 69 17 = some (3, .iload_n 1, 18, 1, 0) := rfl
theorem zr_69_18 : zRow xM 69 18 = some (48, .iaload, 19, 0, 0) := rfl
theorem zr_69_19 : zRp 69 19 20 (0, -1) := ⟨_, _, _, _, rfl, by decide, Option.some_ne_none _, rfl⟩
theorem zr_69_20 : zRow xM 69 20 = some (41, .if_icmp .eq 5, 23, 25, 1) := rfl
theorem zr_69_23 : zRow xM 69 23 = some (3, .iload_n 1, 24, 1, 0) := rfl
theorem zr_69_24 : zRow xM 69 24 = some (108, .ireturn, 25, 0, 0) := rfl
theorem zr_69_25 : zRow xM 69 25 = some (15, .iinc 1 1, 28, 1, 1) := rfl
theorem zr_69_28 : zRow xM 69 28 = some (42, .goto (-26), 29, 2, 0) := rfl
theorem zr_69_31 : zRp 69 31 32 (0, -1) := ⟨_, _, _, _, rfl, by decide, Option.some_ne_none _, rfl⟩
theorem zr_69_32 : zRow xM 69 32 = some (108, .ireturn, 33, 0, 0) := rfl
theorem zm_70 : zMt xM 70 = some (3, (some .int), 1, 0, 0) := rfl
theorem zr_70_0 : zRp 70 0 1 (0, 0) := ⟨_, _, _, _, rfl, by decide, Option.some_ne_none _, rfl⟩
theorem zr_70_1 : zRow xM 70 1 = some (9, .istore_n 1, 2, 1, 0) := rfl
theorem zr_70_2 : zRow xM 70 2 = some (7, .aload_n 0, 3, 0, 0) := rfl
theorem zr_70_3 : zRow xM 70 3 = some (7, .aload_n 0, 4, 0, 0) := rfl
theorem zr_70_4 : zRow xM 70 4 = some (46, .getfield 18, 7, 5, 0) := rfl
theorem zr_70_7 : zRow xM 70 7 = some (105, .invokevirtual 22, 10, 53, 4) := rfl
theorem zr_70_10 : zRow xM 70 10 = some (105, .invokevirtual 28, 13, 66, 5) := rfl
theorem zr_70_13 : zRp 70 13 14 (0, 0) := ⟨_, _, _, _, rfl, by decide, Option.some_ne_none _, rfl⟩
theorem zr_70_14 : zRow xM 70 14 = some (9, .istore_n 2, 15, 2, 0) := rfl
theorem zr_70_15 : zRow xM 70 15 = some (3, .iload_n 2, 16, 2, 0) := rfl
theorem zr_70_16 : zRow xM 70 16 = some (7, .aload_n 0, 17, 0, 0) := rfl
theorem zr_70_17 : zRow xM 70 17 = some (46, .getfield 18, 20, 5, 0) := rfl
theorem zr_70_20 : zRow xM 70 20 = some (46, .getfield 36, 23, 4, 0) := rfl
theorem zr_70_23 : zRow xM 70 23 = some (41, .if_icmp .ge 25, 26, 48, 3) := rfl
theorem zr_70_26 : zRow xM 70 26 = some (7, .aload_n 0, 27, 0, 0) := rfl
theorem zr_70_27 : zRow xM 70 27 = some (3, .iload_n 2, 28, 2, 0) := rfl
theorem zr_70_28 : zRow xM 70 28 = some (105, .invokevirtual 32, 31, 67, 5) := rfl
theorem zr_70_31 : zRow xM 70 31 = some (7, .aload_n 0, 32, 0, 0) := rfl
theorem zr_70_32 : zRow xM 70 32 = some (105, .invokevirtual 40, 35, 69, 5) := rfl
theorem zr_70_35 : zRow xM 70 35 = some (3, .iload_n 2, 36, 2, 0) := rfl
theorem zr_70_36 : zRow xM 70 36 = some (41, .if_icmp .ne 6, 39, 42, 4) := rfl
theorem zr_70_39 : zRow xM 70 39 = some (15, .iinc 1 1, 42, 1, 1) := rfl
theorem zr_70_42 : zRow xM 70 42 = some (15, .iinc 2 1, 45, 2, 1) := rfl
theorem zr_70_45 : zRow xM 70 45 = some (42, .goto (-30), 46, 15, 0) := rfl
theorem zr_70_48 : zRow xM 70 48 = some (3, .iload_n 1, 49, 1, 0) := rfl
theorem zr_70_49 : zRow xM 70 49 = some (108, .ireturn, 50, 0, 0) := rfl
theorem zm_71 : zMt xM 71 = some (2, (some .int), 2, 0, 0) := rfl
theorem zr_71_0 : zRow xM 71 0 = some (7, .aload_n 0, 1, 0, 0) := rfl
theorem zr_71_1 : zRow xM 71 1 = some (7, .aload_n 0, 2, 0, 0) := rfl
theorem zr_71_2 : zRow xM 71 2 = some (46, .getfield 18, 5, 5, 0) := rfl
theorem zr_71_5 : zRow xM 71 5 = some (105, .invokevirtual 22, 8, 53, 4) := rfl
theorem zr_71_8 : zRow xM 71 8 = some (105, .invokevirtual 28, 11, 66, 5) := rfl
theorem zr_71_11 : zRow xM 71 11 = some (7, .aload_n 0, 12, 0, 0) := rfl
theorem zr_71_12 : zRow xM 71 12 = some (3, .iload_n 1, 13, 1, 0) := rfl
theorem zr_71_13 : zRow xM 71 13 = some (105, .invokevirtual 32, 16, 67, 5) := rfl
theorem zr_71_16 : zRow xM 71 16 = some (7, .aload_n 0, 17, 0, 0) := rfl
theorem zr_71_17 : zRow xM 71 17 = some (105, .invokevirtual 40, 20, 69, 5) := rfl
theorem zr_71_20 : zRow xM 71 20 = some (108, .ireturn, 21, 0, 0) := rfl
theorem zm_72 : zMt xM 72 = some (3, (some .int), 3, 0, 0) := rfl
theorem zr_72_0 : zRow xM 72 0 = some (7, .aload_n 0, 1, 0, 0) := rfl
theorem zr_72_1 : zRow xM 72 1 = some (3, .iload_n 1, 2, 1, 0) := rfl
theorem zr_72_2 : zRow xM 72 2 = some (3, .iload_n 2, 3, 2, 0) := rfl
theorem zr_72_3 : zRow xM 72 3 = some (105, .invokevirtual 44, 6, 68, 5) := rfl
theorem zr_72_6 : zRow xM 72 6 = some (40, .ifCond .eq 12, 9, 18, 1) := rfl
theorem zr_72_9 : zRow xM 72 9 = some (7, .aload_n 0, 10, 0, 0) := rfl
theorem zr_72_10 : zRow xM 72 10 = some (46, .getfield 15, 13, 5, 2) := rfl
theorem zr_72_13 : zRow xM 72 13 = some (3, .iload_n 1, 14, 1, 0) := rfl
theorem zr_72_14 : zRow xM 72 14 = some (48, .iaload, 15, 0, 0) := rfl
theorem zr_72_15 : zRow xM 72 15 = some (42, .goto 5, 16, 20, 0) := rfl
theorem zr_72_18 : zRp 72 18 20 (0, -5) := ⟨_, _, _, _, rfl, by decide, Option.some_ne_none _, rfl⟩
theorem zr_72_20 : zRow xM 72 20 = some (108, .ireturn, 21, 0, 0) := rfl
theorem zm_73 : zMt xM 73 = some (3, (some .int), 2, 0, 0) := rfl
theorem zr_73_0 : zRp 73 0 1 (0, 0) := ⟨_, _, _, _, rfl, by decide, Option.some_ne_none _, rfl⟩
theorem zr_73_1 : zRow xM 73 1 = some (9, .istore_n 2, 2, 2, 0) := rfl
theorem zr_73_2 : zRow xM 73 2 = some (3, .iload_n 2, 3, 2, 0) := rfl
theorem zr_73_3 : zRow xM 73 3 = some (7, .aload_n 0, 4, 0, 0) := rfl
theorem zr_73_4 : zRow xM 73 4 = some (46, .getfield 18, 7, 5, 0) := rfl
theorem zr_73_7 : zRow xM 73 7 = some (46, .getfield 36, 10, 4, 0) := rfl
theorem zr_73_10 : zRow xM 73 10 = some (41, .if_icmp .ge 41, 13, 51, 3) := rfl
theorem zr_73_13 : zRow xM 73 13 = some (7, .aload_n 0, 14, 0, 0) := rfl
theorem zr_73_14 : zRow xM 73 14 = some (46, .getfield 9, 17, 5, 1) := rfl
theorem zr_73_17 : zRow xM 73 17 = some (3, .iload_n 1, 18, 1, 0) := rfl
theorem zr_73_18 : zRow xM 73 18 = some (48, .iaload, 19, 0, 0) := rfl
theorem zr_73_19 : zRow xM 73 19 = some (3, .iload_n 2, 20, 2, 0) := rfl
theorem zr_73_20 : zRow xM 73 20 = some (25, .ishr, 21, 0, 0) := rfl
theorem zr_73_21 : zRp 73 21 22 (0, 1) := ⟨_, _, _, _, rfl, by decide, Option.some_ne_none _, rfl⟩
theorem zr_73_22 : zRow xM 73 22 = some (21, .iand, 23, 0, 0) := rfl
theorem zr_73_23 : zRow xM 73 23 = some (40, .ifCond .eq 22, 26, 45, 1) := rfl
theorem zr_73_26 : zRow xM 73 26 = some (7, .aload_n 0, 27, 0, 0) := rfl
theorem zr_73_27 : zRow xM 73 27 = some (46, .getfield 15, 30, 5, 2) := rfl
theorem zr_73_30 : zRow xM 73 30 = some (3, .iload_n 2, 31, 2, 0) := rfl
theorem zr_73_31 : zRow xM 73 31 = some (48, .iaload, 32, 0, 0) := rfl
theorem zr_73_32 : zRow xM 73 32 = some (7, .aload_n 0, 33, 0, 0) := rfl
theorem zr_73_33 : zRow xM 73 33 = some (46, .getfield 15, 36, 5, 2) := rfl
theorem zr_73_36 : zRow xM 73 36 = some (3, .iload_n 1, 37, 1, 0) := rfl
theorem zr_73_37 : zRow xM 73 37 = some (48, .iaload, 38, 0, 0) := rfl
theorem zr_73_38 : zRp 73 38 39 (0, 1) := ⟨_, _, _, _, rfl, by decide, Option.some_ne_none _, rfl⟩
theorem zr_73_39 : zRow xM 73 39 = some (17, .isub, 40, 0, 0) := rfl
theorem zr_73_40 : zRow xM 73 40 = some (41, .if_icmp .ne 5, 43, 45, 4) := rfl
theorem zr_73_43 : zRow xM 73 43 = some (3, .iload_n 2, 44, 2, 0) := rfl
theorem zr_73_44 : zRow xM 73 44 = some (108, .ireturn, 45, 0, 0) := rfl
theorem zr_73_45 : zRow xM 73 45 = some (15, .iinc 2 1, 48, 2, 1) := rfl
theorem zr_73_48 : zRow xM 73 48 = some (42, .goto (-46), 49, 2, 0) := rfl
theorem zr_73_51 : zRow xM 73 51 = some (3, .iload_n 1, 52, 1, 0) := rfl
theorem zr_73_52 : zRow xM 73 52 = some (108, .ireturn, 53, 0, 0) := rfl
theorem zm_74 : zMt xM 74 = some (6, (some .int), 3, 0, 0) := rfl
theorem zr_74_0 : zRow xM 74 0 = some (7, .aload_n 0, 1, 0, 0) := rfl
theorem zr_74_1 : zRow xM 74 1 = some (46, .getfield 18, 4, 5, 0) := rfl
theorem zr_74_4 : zRow xM 74 4 = some (105, .invokevirtual 22, 7, 53, 4) := rfl
theorem zr_74_7 : zRow xM 74 7 = some (13, .lstore_n 3, 8, 3, 0) := rfl
theorem zr_74_8 : zRp 74 8 9 (0, 0) := ⟨_, _, _, _, rfl, by decide, Option.some_ne_none _, rfl⟩
theorem zr_74_9 : zRow xM 74 9 = some (10, .istore 5, 11, 5, 0) := rfl
theorem zr_74_11 : zRow xM 74 11 = some (4, .iload 5, 13, 5, 0) := rfl
theorem zr_74_13 : zRow xM 74 13 = some (7, .aload_n 0, 14, 0, 0) := rfl
theorem zr_74_14 : zRow xM 74 14 = some (46, .getfield 18, 17, 5, 0) := rfl
theorem zr_74_17 : zRow xM 74 17 = some (46, .getfield 56, 20, 4, 1) := rfl
theorem zr_74_20 : zRow xM 74 20 = some (41, .if_icmp .ge 49, 23, 69, 3) := rfl
theorem zr_74_23 : zRow xM 74 23 = some (5, .lload_n 3, 24, 3, 0) := rfl
theorem zr_74_24 : zRow xM 74 24 = some (4, .iload 5, 26, 5, 0) := rfl
theorem zr_74_26 : zRow xM 74 26 = some (34, .lshr, 27, 0, 0) := rfl
theorem zr_74_27 : zRp 74 27 28 (1, 1) := ⟨_, _, _, _, rfl, by decide, Option.some_ne_none _, rfl⟩
theorem zr_74_28 : zRow xM 74 28 = some (30, .land, 29, 0, 0) := rfl
theorem zr_74_29 : zRp 74 29 30 (1, 0) := ⟨_, _, _, _, rfl, by decide, Option.some_ne_none _, rfl⟩
theorem zr_74_30 : zRow xM 74 30 = some (39, .lcmp, 31, 0, 0) := rfl
theorem zr_74_31 : zRow xM 74 31 = some (40, .ifCond .eq 32, 34, 63, 1) := rfl
theorem zr_74_34 : zRow xM 74 34 = some (7, .aload_n 0, 35, 0, 0) := rfl
theorem zr_74_35 : zRow xM 74 35 = some (46, .getfield 18, 38, 5, 0) := rfl
theorem zr_74_38 : zRow xM 74 38 = some (4, .iload 5, 40, 5, 0) := rfl
theorem zr_74_40 : zRow xM 74 40 = some (3, .iload_n 1, 41, 1, 0) := rfl
theorem zr_74_41 : zRow xM 74 41 = some (105, .invokevirtual 73, 44, 44, 4) := rfl
theorem zr_74_44 : zRow xM 74 44 = some (40, .ifCond .eq 19, 47, 63, 1) := rfl
theorem zr_74_47 : zRow xM 74 47 = some (7, .aload_n 0, 48, 0, 0) := rfl
theorem zr_74_48 : zRow xM 74 48 = some (46, .getfield 18, 51, 5, 0) := rfl
theorem zr_74_51 : zRow xM 74 51 = some (4, .iload 5, 53, 5, 0) := rfl
theorem zr_74_53 : zRow xM 74 53 = some (3, .iload_n 2, 54, 2, 0) := rfl
theorem zr_74_54 : zRow xM 74 54 = some (105, .invokevirtual 73, 57, 44, 4) := rfl
theorem zr_74_57 : zRow xM 74 57 = some (40, .ifCond .eq 6, 60, 63, 1) := rfl
theorem zr_74_60 : zRow xM 74 60 = some (4, .iload 5, 62, 5, 0) := rfl
theorem zr_74_62 : zRow xM 74 62 = some (108, .ireturn, 63, 0, 0) := rfl
theorem zr_74_63 : zRow xM 74 63 = some (15, .iinc 5 1, 66, 5, 1) := rfl
theorem zr_74_66 : zRow xM 74 66 = some (42, .goto (-55), 67, 11, 0) := rfl
theorem zr_74_69 : zRp 74 69 71 (0, -5) := ⟨_, _, _, _, rfl, by decide, Option.some_ne_none _, rfl⟩
theorem zr_74_71 : zRow xM 74 71 = some (108, .ireturn, 72, 0, 0) := rfl
theorem zm_75 : zMt xM 75 = some (5, (some .int), 3, 0, 0) := rfl
theorem zr_75_0 : zRow xM 75 0 = some (3, .iload_n 1, 1, 1, 0) := rfl
theorem zr_75_1 : zRow xM 75 1 = some (9, .istore_n 3, 2, 3, 0) := rfl
theorem zr_75_2 : zRp 75 2 3 (0, 0) := ⟨_, _, _, _, rfl, by decide, Option.some_ne_none _, rfl⟩
theorem zr_75_3 : zRow xM 75 3 = some (10, .istore 4, 5, 4, 0) := rfl
theorem zr_75_5 : zRow xM 75 5 = some (4, .iload 4, 7, 4, 0) := rfl
theorem zr_75_7 : zRow xM 75 7 = some (3, .iload_n 2, 8, 2, 0) := rfl
theorem zr_75_8 : zRow xM 75 8 = some (41, .if_icmp .ge 22, 11, 30, 3) := rfl
theorem zr_75_11 : zRow xM 75 11 = some (4, .iload 4, 13, 4, 0) := rfl
theorem zr_75_13 : zRp 75 13 15 (0, 10) := ⟨_, _, _, _, rfl, by decide, Option.some_ne_none _, rfl⟩
theorem zr_75_15 : zRow xM 75 15 = some (41, .if_icmp .ge 15, 18, 30, 3) := rfl
theorem zr_75_18 : zRow xM 75 18 = some (7, .aload_n 0, 19, 0, 0) := rfl
theorem zr_75_19 : zRow xM 75 19 = some (3, .iload_n 3, 20, 3, 0) := rfl
theorem zr_75_20 : zRow xM 75 20 = some (105, .invokevirtual 48, 23, 73, 5) := rfl
theorem zr_75_23 : zRow xM 75 23 = some (9, .istore_n 3, 24, 3, 0) := rfl
theorem zr_75_24 : zRow xM 75 24 = some (15, .iinc 4 1, 27, 4, 1) := rfl
theorem zr_75_27 : zRow xM 75 27 = some (42, .goto (-22), 28, 5, 0) := rfl
theorem zr_75_30 : zRow xM 75 30 = some (7, .aload_n 0, 31, 0, 0) := rfl
theorem zr_75_31 : zRow xM 75 31 = some (3, .iload_n 3, 32, 3, 0) := rfl
theorem zr_75_32 : zRow xM 75 32 = some (7, .aload_n 0, 33, 0, 0) := rfl
theorem zr_75_33 : zRow xM 75 33 = some (3, .iload_n 3, 34, 3, 0) := rfl
theorem zr_75_34 : zRow xM 75 34 = some (105, .invokevirtual 48, 37, 73, 5) := rfl
theorem zr_75_37 : zRow xM 75 37 = some (105, .invokevirtual 52, 40, 74, 5) := rfl
theorem zr_75_40 : zRow xM 75 40 = some (108, .ireturn, 41, 0, 0) := rfl
theorem zm_76 : zMt xM 76 = some (8, (some .long), 1, 0, 0) := rfl
theorem zr_76_0 : zRow xM 76 0 = some (7, .aload_n 0, 1, 0, 0) := rfl
theorem zr_76_1 : zRow xM 76 1 = some (46, .getfield 18, 4, 5, 0) := rfl
theorem zr_76_4 : zRow xM 76 4 = some (105, .invokevirtual 22, 7, 53, 4) := rfl
theorem zr_76_7 : zRow xM 76 7 = some (13, .lstore_n 1, 8, 1, 0) := rfl
theorem zr_76_8 : zRp 76 8 9 (1, 0) := ⟨_, _, _, _, rfl, by decide, Option.some_ne_none _, rfl⟩
theorem zr_76_9 : zRow xM 76 9 = some (13, .lstore_n 3, 10, 3, 0) := rfl
theorem zr_76_10 : zRp 76 10 11 (0, 0) := ⟨_, _, _, _, rfl, by decide, Option.some_ne_none _, rfl⟩
theorem zr_76_11 : zRow xM 76 11 = some (10, .istore 5, 13, 5, 0) := rfl
theorem zr_76_13 : zRow xM 76 13 = some (4, .iload 5, 15, 5, 0) := rfl
theorem zr_76_15 : zRow xM 76 15 = some (7, .aload_n 0, 16, 0, 0) := rfl
theorem zr_76_16 : zRow xM 76 16 = some (46, .getfield 18, 19, 5, 0) := rfl
theorem zr_76_19 : zRow xM 76 19 = some (46, .getfield 56, 22, 4, 1) := rfl
theorem zr_76_22 : zRow xM 76 22 = some (41, .if_icmp .ge 78, 25, 100, 3) := rfl
theorem zr_76_25 : zRp 76 25 26 (1, 1) := ⟨_, _, _, _, rfl, by decide, Option.some_ne_none _, rfl⟩
theorem zr_76_26 : zRow xM 76 26 = some (4, .iload 5, 28, 5, 0) := rfl
theorem zr_76_28 : zRow xM 76 28 = some (33, .lshl, 29, 0, 0) := rfl
theorem zr_76_29 : zRow xM 76 29 = some (14, .lstore 6, 31, 6, 0) := rfl
theorem zr_76_31 : zRow xM 76 31 = some (5, .lload_n 1, 32, 1, 0) := rfl
theorem zr_76_32 : zRow xM 76 32 = some (6, .lload 6, 34, 6, 0) := rfl
theorem zr_76_34 : zRow xM 76 34 = some (30, .land, 35, 0, 0) := rfl
theorem zr_76_35 : zRp 76 35 36 (1, 0) := ⟨_, _, _, _, rfl, by decide, Option.some_ne_none _, rfl⟩
theorem zr_76_36 : zRow xM 76 36 = some (39, .lcmp, 37, 0, 0) := rfl
theorem zr_76_37 : zRow xM 76 37 = some (40, .ifCond .eq 57, 40, 94, 1) := rfl
theorem zr_76_40 : zRow xM 76 40 = some (7, .aload_n 0, 41, 0, 0) := rfl
theorem zr_76_41 : zRow xM 76 41 = some (5, .lload_n 1, 42, 1, 0) := rfl
theorem zr_76_42 : zRow xM 76 42 = some (6, .lload 6, 44, 6, 0) := rfl
theorem zr_76_44 : zRp 76 44 47 (1, -1) := ⟨_, _, _, _, rfl, by decide, Option.some_ne_none _, rfl⟩
theorem zr_76_47 : zRow xM 76 47 = some (32, .lxor, 48, 0, 0) := rfl
theorem zr_76_48 : zRow xM 76 48 = some (30, .land, 49, 0, 0) := rfl
theorem zr_76_49 : zRow xM 76 49 = some (105, .invokevirtual 28, 52, 66, 5) := rfl
theorem zr_76_52 : zRow xM 76 52 = some (7, .aload_n 0, 53, 0, 0) := rfl
theorem zr_76_53 : zRow xM 76 53 = some (7, .aload_n 0, 54, 0, 0) := rfl
theorem zr_76_54 : zRow xM 76 54 = some (46, .getfield 18, 57, 5, 0) := rfl
theorem zr_76_57 : zRow xM 76 57 = some (46, .getfield 61, 60, 4, 10) := rfl
theorem zr_76_60 : zRow xM 76 60 = some (4, .iload 5, 62, 5, 0) := rfl
theorem zr_76_62 : zRow xM 76 62 = some (48, .iaload, 63, 0, 0) := rfl
theorem zr_76_63 : zRow xM 76 63 = some (105, .invokevirtual 32, 66, 67, 5) := rfl
theorem zr_76_66 : zRow xM 76 66 = some (5, .lload_n 3, 67, 3, 0) := rfl
theorem zr_76_67 : zRow xM 76 67 = some (7, .aload_n 0, 68, 0, 0) := rfl
theorem zr_76_68 : zRow xM 76 68 = some (46, .getfield 15, 71, 5, 2) := rfl
theorem zr_76_71 : zRow xM 76 71 = some (7, .aload_n 0, 72, 0, 0) := rfl
theorem zr_76_72 : zRow xM 76 72 = some (46, .getfield 18, 75, 5, 0) := rfl
theorem zr_76_75 : zRow xM 76 75 = some (46, .getfield 64, 78, 4, 11) := rfl
theorem zr_76_78 : zRow xM 76 78 = some (4, .iload 5, 80, 5, 0) := rfl
theorem zr_76_80 : zRow xM 76 80 = some (48, .iaload, 81, 0, 0) := rfl
theorem zr_76_81 : zRow xM 76 81 = some (48, .iaload, 82, 0, 0) := rfl
theorem zr_76_82 : zRp 76 82 83 (0, -1) := ⟨_, _, _, _, rfl, by decide, Option.some_ne_none _, rfl⟩
theorem zr_76_83 : zRow xM 76 83 = some (41, .if_icmp .ne 8, 86, 91, 4) := rfl
theorem zr_76_86 : zRow xM 76 86 = some (6, .lload 6, 88, 6, 0) := rfl
theorem zr_76_88 : zRow xM 76 88 = some (42, .goto 4, 89, 92, 0) := rfl
theorem zr_76_91 : zRp 76 91 92 (1, 0) := ⟨_, _, _, _, rfl, by decide, Option.some_ne_none _, rfl⟩
theorem zr_76_92 : zRow xM 76 92 = some (31, .lor, 93, 0, 0) := rfl
theorem zr_76_93 : zRow xM 76 93 = some (13, .lstore_n 3, 94, 3, 0) := rfl
theorem zr_76_94 : zRow xM 76 94 = some (15, .iinc 5 1, 97, 5, 1) := rfl
theorem zr_76_97 : zRow xM 76 97 = some (42, .goto (-84), 98, 13, 0) := rfl
theorem zr_76_100 : zRow xM 76 100 = some (5, .lload_n 3, 101, 3, 0) := rfl
theorem zr_76_101 : zRow xM 76 101 = some (109, .lreturn, 102, 0, 0) := rfl
theorem zm_78 : zMt xM 78 = some (5, none, 1, 0, 0) := rfl
theorem zr_78_0 : zRp 78 0 1 (0, 0) := ⟨_, _, _, _, rfl, by decide, Option.some_ne_none _, rfl⟩
theorem zr_78_1 : zRow xM 78 1 = some (9, .istore_n 1, 2, 1, 0) := rfl
theorem zr_78_2 : zRow xM 78 2 = some (3, .iload_n 1, 3, 1, 0) := rfl
theorem zr_78_3 : zRow xM 78 3 = some (7, .aload_n 0, 4, 0, 0) := rfl
theorem zr_78_4 : zRow xM 78 4 = some (46, .getfield 24, 7, 6, 0) := rfl
theorem zr_78_7 : zRow xM 78 7 = some (46, .getfield 68, 10, 4, 1) := rfl
theorem zr_78_10 : zRow xM 78 10 = some (41, .if_icmp .ge 157, 13, 167, 3) := rfl
theorem zr_78_13 : zRow xM 78 13 = some (7, .aload_n 0, 14, 0, 0) := rfl
theorem zr_78_14 : zRow xM 78 14 = some (46, .getfield 24, 17, 6, 0) := rfl
theorem zr_78_17 : zRow xM 78 17 = some (46, .getfield 72, 20, 4, 9) := rfl
theorem zr_78_20 : zRow xM 78 20 = some (3, .iload_n 1, 21, 1, 0) := rfl
theorem zr_78_21 : zRow xM 78 21 = some (48, .iaload, 22, 0, 0) := rfl
theorem zr_78_22 : zRow xM 78 22 = some (9, .istore_n 2, 23, 2, 0) := rfl
theorem zr_78_23 : zRow xM 78 23 = some (7, .aload_n 0, 24, 0, 0) := rfl
theorem zr_78_24 : zRow xM 78 24 = some (46, .getfield 24, 27, 6, 0) := rfl
theorem zr_78_27 : zRow xM 78 27 = some (7, .aload_n 0, 28, 0, 0) := rfl
theorem zr_78_28 : zRow xM 78 28 = some (46, .getfield 24, 31, 6, 0) := rfl
theorem zr_78_31 : zRow xM 78 31 = some (46, .getfield 75, 34, 4, 10) := rfl
theorem zr_78_34 : zRow xM 78 34 = some (3, .iload_n 1, 35, 1, 0) := rfl
theorem zr_78_35 : zRow xM 78 35 = some (48, .iaload, 36, 0, 0) := rfl
theorem zr_78_36 : zRow xM 78 36 = some (3, .iload_n 2, 37, 2, 0) := rfl
theorem zr_78_37 : zRow xM 78 37 = some (105, .invokevirtual 78, 40, 58, 4) := rfl
theorem zr_78_40 : zRow xM 78 40 = some (7, .aload_n 0, 41, 0, 0) := rfl
theorem zr_78_41 : zRow xM 78 41 = some (46, .getfield 24, 44, 6, 0) := rfl
theorem zr_78_44 : zRow xM 78 44 = some (7, .aload_n 0, 45, 0, 0) := rfl
theorem zr_78_45 : zRow xM 78 45 = some (46, .getfield 24, 48, 6, 0) := rfl
theorem zr_78_48 : zRow xM 78 48 = some (46, .getfield 82, 51, 4, 11) := rfl
theorem zr_78_51 : zRow xM 78 51 = some (3, .iload_n 1, 52, 1, 0) := rfl
theorem zr_78_52 : zRow xM 78 52 = some (48, .iaload, 53, 0, 0) := rfl
theorem zr_78_53 : zRow xM 78 53 = some (3, .iload_n 2, 54, 2, 0) := rfl
theorem zr_78_54 : zRow xM 78 54 = some (105, .invokevirtual 78, 57, 58, 4) := rfl
theorem zr_78_57 : zRow xM 78 57 = some (17, .isub, 58, 0, 0) := rfl
theorem zr_78_58 : zRow xM 78 58 = some (9, .istore_n 3, 59, 3, 0) := rfl
theorem zr_78_59 : zRow xM 78 59 = some (7, .aload_n 0, 60, 0, 0) := rfl
theorem zr_78_60 : zRow xM 78 60 = some (46, .getfield 24, 63, 6, 0) := rfl
theorem zr_78_63 : zRow xM 78 63 = some (46, .getfield 85, 66, 4, 12) := rfl
theorem zr_78_66 : zRow xM 78 66 = some (3, .iload_n 1, 67, 1, 0) := rfl
theorem zr_78_67 : zRow xM 78 67 = some (48, .iaload, 68, 0, 0) := rfl
theorem zr_78_68 : zRow xM 78 68 = some (10, .istore 4, 70, 4, 0) := rfl
theorem zr_78_70 : zRow xM 78 70 = some (4, .iload 4, 72, 4, 0) := rfl
theorem zr_78_72 : zRp 78 72 73 (0, 1) := ⟨_, _, _, _, rfl, by decide, Option.some_ne_none _, rfl⟩
theorem zr_78_73 : zRow xM 78 73 = some (41, .if_icmp .ne 37, 76, 110, 4) := rfl
theorem zr_78_76 : zRow xM 78 76 = some (7, .aload_n 0, 77, 0, 0) := rfl
theorem zr_78_77 : zRow xM 78 77 = some (46, .getfield 9, 80, 6, 1) := rfl
theorem zr_78_80 : zRow xM 78 80 = some (3, .iload_n 1, 81, 1, 0) := rfl
theorem zr_78_81 : zRow xM 78 81 = some (7, .aload_n 0, 82, 0, 0) := rfl
theorem zr_78_82 : zRow xM 78 82 = some (46, .getfield 24, 85, 6, 0) := rfl
theorem zr_78_85 : zRow xM 78 85 = some (46, .getfield 88, 88, 4, 5) := rfl
theorem zr_78_88 : zRow xM 78 88 = some (38, .ineg, 89, 0, 0) := rfl
theorem zr_78_89 : zRow xM 78 89 = some (3, .iload_n 3, 90, 3, 0) := rfl
theorem zr_78_90 : zRow xM 78 90 = some (17, .isub, 91, 0, 0) := rfl
theorem zr_78_91 : zRow xM 78 91 = some (49, .iastore, 92, 0, 0) := rfl
theorem zr_78_92 : zRow xM 78 92 = some (7, .aload_n 0, 93, 0, 0) := rfl
theorem zr_78_93 : zRow xM 78 93 = some (46, .getfield 15, 96, 6, 2) := rfl
theorem zr_78_96 : zRow xM 78 96 = some (3, .iload_n 1, 97, 1, 0) := rfl
theorem zr_78_97 : zRow xM 78 97 = some (7, .aload_n 0, 98, 0, 0) := rfl
theorem zr_78_98 : zRow xM 78 98 = some (46, .getfield 24, 101, 6, 0) := rfl
theorem zr_78_101 : zRow xM 78 101 = some (46, .getfield 88, 104, 4, 5) := rfl
theorem zr_78_104 : zRow xM 78 104 = some (3, .iload_n 3, 105, 3, 0) := rfl
theorem zr_78_105 : zRow xM 78 105 = some (17, .isub, 106, 0, 0) := rfl
theorem zr_78_106 : zRow xM 78 106 = some (49, .iastore, 107, 0, 0) := rfl
theorem zr_78_107 : zRow xM 78 107 = some (42, .goto 54, 108, 161, 0) := rfl
theorem zr_78_110 : zRow xM 78 110 = some (7, .aload_n 0, 111, 0, 0) := rfl
theorem zr_78_111 : zRow xM 78 111 = some (46, .getfield 9, 114, 6, 1) := rfl
theorem zr_78_114 : zRow xM 78 114 = some (3, .iload_n 1, 115, 1, 0) := rfl
theorem zr_78_115 : zRow xM 78 115 = some (4, .iload 4, 117, 4, 0) := rfl
theorem zr_78_117 : zRp 78 117 118 (0, 2) := ⟨_, _, _, _, rfl, by decide, Option.some_ne_none _, rfl⟩
theorem zr_78_118 : zRow xM 78 118 = some (41, .if_icmp .ne 7, 121, 125, 4) := rfl
theorem zr_78_121 : zRp 78 121 122 (0, 1) := ⟨_, _, _, _, rfl, by decide, Option.some_ne_none _, rfl⟩
theorem zr_78_122 : zRow xM 78 122 = some (42, .goto 11, 123, 133, 0) := rfl
theorem zr_78_125 : zRow xM 78 125 = some (7, .aload_n 0, 126, 0, 0) := rfl
theorem zr_78_126 : zRow xM 78 126 = some (46, .getfield 24, 129, 6, 0) := rfl
theorem zr_78_129 : zRow xM 78 129 = some (46, .getfield 91, 132, 4, 4) := rfl
theorem zr_78_132 : zRow xM 78 132 = some (38, .ineg, 133, 0, 0) := rfl
theorem zr_78_133 : zRow xM 78 133 = some (3, .iload_n 3, 134, 3, 0) := rfl
theorem zr_78_134 : zRow xM 78 134 = some (17, .isub, 135, 0, 0) := rfl
theorem zr_78_135 : zRow xM 78 135 = some (49, .iastore, 136, 0, 0) := rfl
theorem zr_78_136 : zRow xM 78 136 = some (7, .aload_n 0, 137, 0, 0) := rfl
theorem zr_78_137 : zRow xM 78 137 = some (46, .getfield 15, 140, 6, 2) := rfl
theorem zr_78_140 : zRow xM 78 140 = some (3, .iload_n 1, 141, 1, 0) := rfl
theorem zr_78_141 : zRow xM 78 141 = some (4, .iload 4, 143, 4, 0) := rfl
theorem zr_78_143 : zRp 78 143 144 (0, 2) := ⟨_, _, _, _, rfl, by decide, Option.some_ne_none _, rfl⟩
theorem zr_78_144 : zRow xM 78 144 = some (41, .if_icmp .ne 13, 147, 157, 4) := rfl
theorem zr_78_147 : zRow xM 78 147 = some (7, .aload_n 0, 148, 0, 0) := rfl
theorem zr_78_148 : zRow xM 78 148 = some (46, .getfield 24, 151, 6, 0) := rfl
theorem zr_78_151 : zRow xM 78 151 = some (46, .getfield 91, 154, 4, 4) := rfl
theorem zr_78_154 : zRow xM 78 154 = some (42, .goto 4, 155, 158, 0) := rfl
theorem zr_78_157 : zRp 78 157 158 (0, -1) := ⟨_, _, _, _, rfl, by decide, Option.some_ne_none _, rfl⟩
theorem zr_78_158 : zRow xM 78 158 = some (3, .iload_n 3, 159, 3, 0) := rfl
theorem zr_78_159 : zRow xM 78 159 = some (17, .isub, 160, 0, 0) := rfl
theorem zr_78_160 : zRow xM 78 160 = some (49, .iastore, 161, 0, 0) := rfl
theorem zr_78_161 : zRow xM 78 161 = some (15, .iinc 1 1, 164, 1, 1) := rfl
theorem zr_78_164 : zRow xM 78 164 = some (42, .goto (-162), 165, 2, 0) := rfl
theorem zr_78_167 : zRow xM 78 167 = some (110, .return_, 168, 0, 0) := rfl
theorem zm_79 : zMt xM 79 = some (5, (some .boolean), 5, 0, 0) := rfl
theorem zr_79_0 : zRow xM 79 0 = some (7, .aload_n 0, 1, 0, 0) := rfl
theorem zr_79_1 : zRow xM 79 1 = some (46, .getfield 18, 4, 6, 3) := rfl
theorem zr_79_4 : zRow xM 79 4 = some (3, .iload_n 2, 5, 2, 0) := rfl
theorem zr_79_5 : zRow xM 79 5 = some (48, .iaload, 6, 0, 0) := rfl
theorem zr_79_6 : zRp 79 6 8 (0, 1000000) := ⟨_, _, _, _, rfl, by decide, Option.some_ne_none _, rfl⟩
theorem zr_79_8 : zRow xM 79 8 = some (41, .if_icmp .eq 20, 11, 28, 1) := rfl
theorem zr_79_11 : zRow xM 79 11 = some (7, .aload_n 0, 12, 0, 0) := rfl
theorem zr_79_12 : zRow xM 79 12 = some (46, .getfield 18, 15, 6, 3) := rfl
theorem zr_79_15 : zRow xM 79 15 = some (3, .iload_n 1, 16, 1, 0) := rfl
theorem zr_79_16 : zRow xM 79 16 = some (48, .iaload, 17, 0, 0) := rfl
theorem zr_79_17 : zRow xM 79 17 = some (7, .aload_n 0, 18, 0, 0) := rfl
theorem zr_79_18 : zRow xM 79 18 = some (46, .getfield 18, 21, 6, 3) := rfl
theorem zr_79_21 : zRow xM 79 21 = some (3, .iload_n 2, 22, 2, 0) := rfl
theorem zr_79_22 : zRow xM 79 22 = some (48, .iaload, 23, 0, 0) := rfl
theorem zr_79_23 : zRow xM 79 23 = some (3, .iload_n 3, 24, 3, 0) := rfl
theorem zr_79_24 : zRow xM 79 24 = some (16, .iadd, 25, 0, 0) := rfl
theorem zr_79_25 : zRow xM 79 25 = some (41, .if_icmp .gt 5, 28, 30, 2) := rfl
theorem zr_79_28 : zRp 79 28 29 (0, 0) := ⟨_, _, _, _, rfl, by decide, Option.some_ne_none _, rfl⟩
theorem zr_79_29 : zRow xM 79 29 = some (108, .ireturn, 30, 0, 0) := rfl
theorem zr_79_30 : zRow xM 79 30 = some (7, .aload_n 0, 31, 0, 0) := rfl
theorem zr_79_31 : zRow xM 79 31 = some (46, .getfield 18, 34, 6, 3) := rfl
theorem zr_79_34 : zRow xM 79 34 = some (3, .iload_n 1, 35, 1, 0) := rfl
theorem zr_79_35 : zRow xM 79 35 = some (7, .aload_n 0, 36, 0, 0) := rfl
theorem zr_79_36 : zRow xM 79 36 = some (46, .getfield 18, 39, 6, 3) := rfl
theorem zr_79_39 : zRow xM 79 39 = some (3, .iload_n 2, 40, 2, 0) := rfl
theorem zr_79_40 : zRow xM 79 40 = some (48, .iaload, 41, 0, 0) := rfl
theorem zr_79_41 : zRow xM 79 41 = some (3, .iload_n 3, 42, 3, 0) := rfl
theorem zr_79_42 : zRow xM 79 42 = some (16, .iadd, 43, 0, 0) := rfl
theorem zr_79_43 : zRow xM 79 43 = some (49, .iastore, 44, 0, 0) := rfl
theorem zr_79_44 : zRow xM 79 44 = some (7, .aload_n 0, 45, 0, 0) := rfl
theorem zr_79_45 : zRow xM 79 45 = some (46, .getfield 21, 48, 6, 4) := rfl
theorem zr_79_48 : zRow xM 79 48 = some (3, .iload_n 1, 49, 1, 0) := rfl
theorem zr_79_49 : zRow xM 79 49 = some (4, .iload 4, 51, 4, 0) := rfl
theorem zr_79_51 : zRow xM 79 51 = some (49, .iastore, 52, 0, 0) := rfl
theorem zr_79_52 : zRp 79 52 53 (0, 1) := ⟨_, _, _, _, rfl, by decide, Option.some_ne_none _, rfl⟩
theorem zr_79_53 : zRow xM 79 53 = some (108, .ireturn, 54, 0, 0) := rfl
theorem zm_80 : zMt xM 80 = some (9, (some .boolean), 2, 0, 0) := rfl
theorem zr_80_0 : zRp 80 0 1 (0, 0) := ⟨_, _, _, _, rfl, by decide, Option.some_ne_none _, rfl⟩
theorem zr_80_1 : zRow xM 80 1 = some (9, .istore_n 3, 2, 3, 0) := rfl
theorem zr_80_2 : zRp 80 2 3 (0, 0) := ⟨_, _, _, _, rfl, by decide, Option.some_ne_none _, rfl⟩
theorem zr_80_3 : zRow xM 80 3 = some (10, .istore 4, 5, 4, 0) := rfl
theorem zr_80_5 : zRow xM 80 5 = some (4, .iload 4, 7, 4, 0) := rfl
theorem zr_80_7 : zRow xM 80 7 = some (7, .aload_n 0, 8, 0, 0) := rfl
theorem zr_80_8 : zRow xM 80 8 = some (46, .getfield 24, 11, 6, 0) := rfl
theorem zr_80_11 : zRow xM 80 11 = some (46, .getfield 68, 14, 4, 1) := rfl
theorem zr_80_14 : zRow xM 80 14 = some (41, .if_icmp .ge 103, 17, 117, 3) := rfl
theorem zr_80_17 : zRow xM 80 17 = some (5, .lload_n 1, 18, 1, 0) := rfl
theorem zr_80_18 : zRow xM 80 18 = some (4, .iload 4, 20, 4, 0) := rfl
theorem zr_80_20 : zRow xM 80 20 = some (34, .lshr, 21, 0, 0) := rfl
theorem zr_80_21 : zRp 80 21 22 (1, 1) := ⟨_, _, _, _, rfl, by decide, Option.some_ne_none _, rfl⟩
theorem zr_80_22 : zRow xM 80 22 = some (30, .land, 23, 0, 0) := rfl
theorem zr_80_23 : zRp 80 23 24 (1, 0) := ⟨_, _, _, _, rfl, by decide, Option.some_ne_none _, rfl⟩
theorem zr_80_24 : zRow xM 80 24 = some (39, .lcmp, 25, 0, 0) := rfl
theorem zr_80_25 : zRow xM 80 25 = some (40, .ifCond .eq 86, 28, 111, 1) := rfl
theorem zr_80_28 : zRow xM 80 28 = some (7, .aload_n 0, 29, 0, 0) := rfl
theorem zr_80_29 : zRow xM 80 29 = some (46, .getfield 24, 32, 6, 0) := rfl
theorem zr_80_32 : zRow xM 80 32 = some (46, .getfield 75, 35, 4, 10) := rfl
theorem zr_80_35 : zRow xM 80 35 = some (4, .iload 4, 37, 4, 0) := rfl
theorem zr_80_37 : zRow xM 80 37 = some (48, .iaload, 38, 0, 0) := rfl
theorem zr_80_38 : zRow xM 80 38 = some (10, .istore 5, 40, 5, 0) := rfl
theorem zr_80_40 : zRow xM 80 40 = some (7, .aload_n 0, 41, 0, 0) := rfl
theorem zr_80_41 : zRow xM 80 41 = some (46, .getfield 24, 44, 6, 0) := rfl
theorem zr_80_44 : zRow xM 80 44 = some (46, .getfield 82, 47, 4, 11) := rfl
theorem zr_80_47 : zRow xM 80 47 = some (4, .iload 4, 49, 4, 0) := rfl
theorem zr_80_49 : zRow xM 80 49 = some (48, .iaload, 50, 0, 0) := rfl
theorem zr_80_50 : zRow xM 80 50 = some (10, .istore 6, 52, 6, 0) := rfl
theorem zr_80_52 : zRow xM 80 52 = some (7, .aload_n 0, 53, 0, 0) := rfl
theorem zr_80_53 : zRow xM 80 53 = some (4, .iload 5, 55, 5, 0) := rfl
theorem zr_80_55 : zRow xM 80 55 = some (4, .iload 6, 57, 6, 0) := rfl
theorem zr_80_57 : zRow xM 80 57 = some (7, .aload_n 0, 58, 0, 0) := rfl
theorem zr_80_58 : zRow xM 80 58 = some (46, .getfield 15, 61, 6, 2) := rfl
theorem zr_80_61 : zRow xM 80 61 = some (4, .iload 4, 63, 4, 0) := rfl
theorem zr_80_63 : zRow xM 80 63 = some (48, .iaload, 64, 0, 0) := rfl
theorem zr_80_64 : zRow xM 80 64 = some (4, .iload 4, 66, 4, 0) := rfl
theorem zr_80_66 : zRow xM 80 66 = some (105, .invokevirtual 97, 69, 79, 6) := rfl
theorem zr_80_69 : zRow xM 80 69 = some (10, .istore 7, 71, 7, 0) := rfl
theorem zr_80_71 : zRow xM 80 71 = some (7, .aload_n 0, 72, 0, 0) := rfl
theorem zr_80_72 : zRow xM 80 72 = some (4, .iload 6, 74, 6, 0) := rfl
theorem zr_80_74 : zRow xM 80 74 = some (4, .iload 5, 76, 5, 0) := rfl
theorem zr_80_76 : zRow xM 80 76 = some (7, .aload_n 0, 77, 0, 0) := rfl
theorem zr_80_77 : zRow xM 80 77 = some (46, .getfield 9, 80, 6, 1) := rfl
theorem zr_80_80 : zRow xM 80 80 = some (4, .iload 4, 82, 4, 0) := rfl
theorem zr_80_82 : zRow xM 80 82 = some (48, .iaload, 83, 0, 0) := rfl
theorem zr_80_83 : zRow xM 80 83 = some (38, .ineg, 84, 0, 0) := rfl
theorem zr_80_84 : zRow xM 80 84 = some (4, .iload 4, 86, 4, 0) := rfl
theorem zr_80_86 : zRow xM 80 86 = some (105, .invokevirtual 97, 89, 79, 6) := rfl
theorem zr_80_89 : zRow xM 80 89 = some (10, .istore 8, 91, 8, 0) := rfl
theorem zr_80_91 : zRow xM 80 91 = some (3, .iload_n 3, 92, 3, 0) := rfl
theorem zr_80_92 : zRow xM 80 92 = some (40, .ifCond .ne 13, 95, 105, 4) := rfl
theorem zr_80_95 : zRow xM 80 95 = some (4, .iload 7, 97, 7, 0) := rfl
theorem zr_80_97 : zRow xM 80 97 = some (40, .ifCond .ne 8, 100, 105, 4) := rfl
theorem zr_80_100 : zRow xM 80 100 = some (4, .iload 8, 102, 8, 0) := rfl
theorem zr_80_102 : zRow xM 80 102 = some (40, .ifCond .eq 7, 105, 109, 1) := rfl
theorem zr_80_105 : zRp 80 105 106 (0, 1) := ⟨_, _, _, _, rfl, by decide, Option.some_ne_none _, rfl⟩
theorem zr_80_106 : zRow xM 80 106 = some (42, .goto 4, 107, 110, 0) := rfl
theorem zr_80_109 : zRp 80 109 110 (0, 0) := ⟨_, _, _, _, rfl, by decide, Option.some_ne_none _, rfl⟩
theorem zr_80_110 : zRow xM 80 110 = some (9, .istore_n 3, 111, 3, 0) := rfl
theorem zr_80_111 : zRow xM 80 111 = some (15, .iinc 4 1, 114, 4, 1) := rfl
theorem zr_80_114 : zRow xM 80 114 = some (42, .goto (-109), 115, 5, 0) := rfl
theorem zr_80_117 : zRow xM 80 117 = some (3, .iload_n 3, 118, 3, 0) := rfl
theorem zr_80_118 : zRow xM 80 118 = some (108, .ireturn, 119, 0, 0) := rfl
theorem zm_81 : zMt xM 81 = some (6, (some .long), 2, 0, 0) := rfl
theorem zr_81_0 : zRp 81 0 1 (1, 0) := ⟨_, _, _, _, rfl, by decide, Option.some_ne_none _, rfl⟩
theorem zr_81_1 : zRow xM 81 1 = some (13, .lstore_n 2, 2, 2, 0) := rfl
theorem zr_81_2 : zRow xM 81 2 = some (3, .iload_n 1, 3, 1, 0) := rfl
theorem zr_81_3 : zRow xM 81 3 = some (10, .istore 4, 5, 4, 0) := rfl
theorem zr_81_5 : zRp 81 5 6 (0, 0) := ⟨_, _, _, _, rfl, by decide, Option.some_ne_none _, rfl⟩
theorem zr_81_6 : zRow xM 81 6 = some (10, .istore 5, 8, 5, 0) := rfl
theorem zr_81_8 : zRow xM 81 8 = some (4, .iload 5, 10, 5, 0) := rfl
theorem zr_81_10 : zRp 81 10 12 (0, 10) := ⟨_, _, _, _, rfl, by decide, Option.some_ne_none _, rfl⟩
theorem zr_81_12 : zRow xM 81 12 = some (41, .if_icmp .ge 58, 15, 70, 3) := rfl
theorem zr_81_15 : zRow xM 81 15 = some (7, .aload_n 0, 16, 0, 0) := rfl
theorem zr_81_16 : zRow xM 81 16 = some (46, .getfield 21, 19, 6, 4) := rfl
theorem zr_81_19 : zRow xM 81 19 = some (4, .iload 4, 21, 4, 0) := rfl
theorem zr_81_21 : zRow xM 81 21 = some (48, .iaload, 22, 0, 0) := rfl
theorem zr_81_22 : zRp 81 22 23 (0, -1) := ⟨_, _, _, _, rfl, by decide, Option.some_ne_none _, rfl⟩
theorem zr_81_23 : zRow xM 81 23 = some (41, .if_icmp .eq 47, 26, 70, 1) := rfl
theorem zr_81_26 : zRow xM 81 26 = some (5, .lload_n 2, 27, 2, 0) := rfl
theorem zr_81_27 : zRp 81 27 28 (1, 1) := ⟨_, _, _, _, rfl, by decide, Option.some_ne_none _, rfl⟩
theorem zr_81_28 : zRow xM 81 28 = some (7, .aload_n 0, 29, 0, 0) := rfl
theorem zr_81_29 : zRow xM 81 29 = some (46, .getfield 21, 32, 6, 4) := rfl
theorem zr_81_32 : zRow xM 81 32 = some (4, .iload 4, 34, 4, 0) := rfl
theorem zr_81_34 : zRow xM 81 34 = some (48, .iaload, 35, 0, 0) := rfl
theorem zr_81_35 : zRow xM 81 35 = some (33, .lshl, 36, 0, 0) := rfl
theorem zr_81_36 : zRow xM 81 36 = some (31, .lor, 37, 0, 0) := rfl
theorem zr_81_37 : zRow xM 81 37 = some (13, .lstore_n 2, 38, 2, 0) := rfl
theorem zr_81_38 : zRow xM 81 38 = some (7, .aload_n 0, 39, 0, 0) := rfl
theorem zr_81_39 : zRow xM 81 39 = some (46, .getfield 24, 42, 6, 0) := rfl
theorem zr_81_42 : zRow xM 81 42 = some (7, .aload_n 0, 43, 0, 0) := rfl
theorem zr_81_43 : zRow xM 81 43 = some (46, .getfield 21, 46, 6, 4) := rfl
theorem zr_81_46 : zRow xM 81 46 = some (4, .iload 4, 48, 4, 0) := rfl
theorem zr_81_48 : zRow xM 81 48 = some (48, .iaload, 49, 0, 0) := rfl
theorem zr_81_49 : zRow xM 81 49 = some (4, .iload 4, 51, 4, 0) := rfl
theorem zr_81_51 : zRow xM 81 51 = some (105, .invokevirtual 104, 54, 54, 4) := rfl
theorem zr_81_54 : zRow xM 81 54 = some (10, .istore 4, 56, 4, 0) := rfl
theorem zr_81_56 : zRow xM 81 56 = some (4, .iload 4, 58, 4, 0) := rfl
theorem zr_81_58 : zRow xM 81 58 = some (3, .iload_n 1, 59, 1, 0) := rfl
theorem zr_81_59 : zRow xM 81 59 = some (41, .if_icmp .ne 5, 62, 64, 4) := rfl
theorem zr_81_62 : zRow xM 81 62 = some (5, .lload_n 2, 63, 2, 0) := rfl
theorem zr_81_63 : zRow xM 81 63 = some (109, .lreturn, 64, 0, 0) := rfl
theorem zr_81_64 : zRow xM 81 64 = some (15, .iinc 5 1, 67, 5, 1) := rfl
theorem zr_81_67 : zRow xM 81 67 = some (42, .goto (-59), 68, 8, 0) := rfl
theorem zr_81_70 : zRow xM 81 70 = some (5, .lload_n 2, 71, 2, 0) := rfl
theorem zr_81_71 : zRow xM 81 71 = some (109, .lreturn, 72, 0, 0) := rfl
theorem zm_82 : zMt xM 82 = some (4, (some .long), 1, 0, 0) := rfl
theorem zr_82_0 : zRp 82 0 1 (0, 0) := ⟨_, _, _, _, rfl, by decide, Option.some_ne_none _, rfl⟩
theorem zr_82_1 : zRow xM 82 1 = some (9, .istore_n 1, 2, 1, 0) := rfl
theorem zr_82_2 : zRow xM 82 2 = some (3, .iload_n 1, 3, 1, 0) := rfl
theorem zr_82_3 : zRow xM 82 3 = some (7, .aload_n 0, 4, 0, 0) := rfl
theorem zr_82_4 : zRow xM 82 4 = some (46, .getfield 24, 7, 6, 0) := rfl
theorem zr_82_7 : zRow xM 82 7 = some (46, .getfield 101, 10, 4, 0) := rfl
theorem zr_82_10 : zRow xM 82 10 = some (41, .if_icmp .ge 66, 13, 76, 3) := rfl
theorem zr_82_13 : zRow xM 82 13 = some (3, .iload_n 1, 14, 1, 0) := rfl
theorem zr_82_14 : zRow xM 82 14 = some (9, .istore_n 2, 15, 2, 0) := rfl
theorem zr_82_15 : zRp 82 15 16 (0, 0) := ⟨_, _, _, _, rfl, by decide, Option.some_ne_none _, rfl⟩
theorem zr_82_16 : zRow xM 82 16 = some (9, .istore_n 3, 17, 3, 0) := rfl
theorem zr_82_17 : zRow xM 82 17 = some (3, .iload_n 3, 18, 3, 0) := rfl
theorem zr_82_18 : zRp 82 18 20 (0, 10) := ⟨_, _, _, _, rfl, by decide, Option.some_ne_none _, rfl⟩
theorem zr_82_20 : zRow xM 82 20 = some (41, .if_icmp .ge 34, 23, 54, 3) := rfl
theorem zr_82_23 : zRow xM 82 23 = some (7, .aload_n 0, 24, 0, 0) := rfl
theorem zr_82_24 : zRow xM 82 24 = some (46, .getfield 21, 27, 6, 4) := rfl
theorem zr_82_27 : zRow xM 82 27 = some (3, .iload_n 2, 28, 2, 0) := rfl
theorem zr_82_28 : zRow xM 82 28 = some (48, .iaload, 29, 0, 0) := rfl
theorem zr_82_29 : zRp 82 29 30 (0, -1) := ⟨_, _, _, _, rfl, by decide, Option.some_ne_none _, rfl⟩
theorem zr_82_30 : zRow xM 82 30 = some (41, .if_icmp .eq 24, 33, 54, 1) := rfl
theorem zr_82_33 : zRow xM 82 33 = some (7, .aload_n 0, 34, 0, 0) := rfl
theorem zr_82_34 : zRow xM 82 34 = some (46, .getfield 24, 37, 6, 0) := rfl
theorem zr_82_37 : zRow xM 82 37 = some (7, .aload_n 0, 38, 0, 0) := rfl
theorem zr_82_38 : zRow xM 82 38 = some (46, .getfield 21, 41, 6, 4) := rfl
theorem zr_82_41 : zRow xM 82 41 = some (3, .iload_n 2, 42, 2, 0) := rfl
theorem zr_82_42 : zRow xM 82 42 = some (48, .iaload, 43, 0, 0) := rfl
theorem zr_82_43 : zRow xM 82 43 = some (3, .iload_n 2, 44, 2, 0) := rfl
theorem zr_82_44 : zRow xM 82 44 = some (105, .invokevirtual 104, 47, 54, 4) := rfl
theorem zr_82_47 : zRow xM 82 47 = some (9, .istore_n 2, 48, 2, 0) := rfl
theorem zr_82_48 : zRow xM 82 48 = some (15, .iinc 3 1, 51, 3, 1) := rfl
theorem zr_82_51 : zRow xM 82 51 = some (42, .goto (-34), 52, 17, 0) := rfl
theorem zr_82_54 : zRow xM 82 54 = some (7, .aload_n 0, 55, 0, 0) := rfl
theorem zr_82_55 : zRow xM 82 55 = some (46, .getfield 21, 58, 6, 4) := rfl
theorem zr_82_58 : zRow xM 82 58 = some (3, .iload_n 2, 59, 2, 0) := rfl
theorem zr_82_59 : zRow xM 82 59 = some (48, .iaload, 60, 0, 0) := rfl
theorem zr_82_60 : zRp 82 60 61 (0, -1) := ⟨_, _, _, _, rfl, by decide, Option.some_ne_none _, rfl⟩
theorem zr_82_61 : zRow xM 82 61 = some (41, .if_icmp .eq 9, 64, 70, 1) := rfl
theorem zr_82_64 : zRow xM 82 64 = some (7, .aload_n 0, 65, 0, 0) := rfl
theorem zr_82_65 : zRow xM 82 65 = some (3, .iload_n 2, 66, 2, 0) := rfl
theorem zr_82_66 : zRow xM 82 66 = some (105, .invokevirtual 107, 69, 81, 6) := rfl
theorem zr_82_69 : zRow xM 82 69 = some (109, .lreturn, 70, 0, 0) := rfl
theorem zr_82_70 : zRow xM 82 70 = some (15, .iinc 1 1, 73, 1, 1) := rfl
theorem zr_82_73 : zRow xM 82 73 = some (42, .goto (-71), 74, 2, 0) := rfl
theorem zr_82_76 : zRp 82 76 77 (1, 0) := ⟨_, _, _, _, rfl, by decide, Option.some_ne_none _, rfl⟩
theorem zr_82_77 : zRow xM 82 77 = some (109, .lreturn, 78, 0, 0) := rfl
theorem zm_83 : zMt xM 83 = some (6, (some .long), 2, 0, 0) := rfl
theorem zr_83_0 : zRow xM 83 0 = some (7, .aload_n 0, 1, 0, 0) := rfl
theorem zr_83_1 : zRow xM 83 1 = some (46, .getfield 18, 4, 6, 3) := rfl
theorem zr_83_4 : zRp 83 4 5 (0, 0) := ⟨_, _, _, _, rfl, by decide, Option.some_ne_none _, rfl⟩
theorem zr_83_5 : zRow xM 83 5 = some (107, .invokestatic 42, 8, 4, 0) := rfl
theorem zr_83_8 : zRow xM 83 8 = some (7, .aload_n 0, 9, 0, 0) := rfl
theorem zr_83_9 : zRow xM 83 9 = some (46, .getfield 21, 12, 6, 4) := rfl
theorem zr_83_12 : zRp 83 12 13 (0, -1) := ⟨_, _, _, _, rfl, by decide, Option.some_ne_none _, rfl⟩
theorem zr_83_13 : zRow xM 83 13 = some (107, .invokestatic 42, 16, 4, 0) := rfl
theorem zr_83_16 : zRp 83 16 17 (0, 0) := ⟨_, _, _, _, rfl, by decide, Option.some_ne_none _, rfl⟩
theorem zr_83_17 : zRow xM 83 17 = some (9, .istore_n 3, 18, 3, 0) := rfl
theorem zr_83_18 : zRow xM 83 18 = some (3, .iload_n 3, 19, 3, 0) := rfl
theorem zr_83_19 : zRp 83 19 21 (0, 10) := ⟨_, _, _, _, rfl, by decide, Option.some_ne_none _, rfl⟩
theorem zr_83_21 : zRow xM 83 21 = some (41, .if_icmp .ge 33, 24, 54, 3) := rfl
theorem zr_83_24 : zRow xM 83 24 = some (7, .aload_n 0, 25, 0, 0) := rfl
theorem zr_83_25 : zRow xM 83 25 = some (5, .lload_n 1, 26, 1, 0) := rfl
theorem zr_83_26 : zRow xM 83 26 = some (105, .invokevirtual 48, 29, 80, 6) := rfl
theorem zr_83_29 : zRow xM 83 29 = some (40, .ifCond .eq 25, 32, 54, 1) := rfl
theorem zr_83_32 : zRow xM 83 32 = some (7, .aload_n 0, 33, 0, 0) := rfl
theorem zr_83_33 : zRow xM 83 33 = some (105, .invokevirtual 94, 36, 82, 6) := rfl
theorem zr_83_36 : zRow xM 83 36 = some (14, .lstore 4, 38, 4, 0) := rfl
theorem zr_83_38 : zRow xM 83 38 = some (6, .lload 4, 40, 4, 0) := rfl
theorem zr_83_40 : zRp 83 40 41 (1, 0) := ⟨_, _, _, _, rfl, by decide, Option.some_ne_none _, rfl⟩
theorem zr_83_41 : zRow xM 83 41 = some (39, .lcmp, 42, 0, 0) := rfl
theorem zr_83_42 : zRow xM 83 42 = some (40, .ifCond .eq 6, 45, 48, 1) := rfl
theorem zr_83_45 : zRow xM 83 45 = some (6, .lload 4, 47, 4, 0) := rfl
theorem zr_83_47 : zRow xM 83 47 = some (109, .lreturn, 48, 0, 0) := rfl
theorem zr_83_48 : zRow xM 83 48 = some (15, .iinc 3 1, 51, 3, 1) := rfl
theorem zr_83_51 : zRow xM 83 51 = some (42, .goto (-33), 52, 18, 0) := rfl
theorem zr_83_54 : zRp 83 54 55 (1, 0) := ⟨_, _, _, _, rfl, by decide, Option.some_ne_none _, rfl⟩
theorem zr_83_55 : zRow xM 83 55 = some (109, .lreturn, 56, 0, 0) := rfl
theorem zm_84 : zMt xM 84 = some (1, (some .boolean), 1, 0, 0) := rfl
theorem zr_84_0 : zRow xM 84 0 = some (7, .aload_n 0, 1, 0, 0) := rfl
theorem zr_84_1 : zRow xM 84 1 = some (105, .invokevirtual 28, 4, 78, 6) := rfl
theorem zr_84_4 : zRow xM 84 4 = some (7, .aload_n 0, 5, 0, 0) := rfl
theorem zr_84_5 : zRow xM 84 5 = some (7, .aload_n 0, 6, 0, 0) := rfl
theorem zr_84_6 : zRow xM 84 6 = some (46, .getfield 24, 9, 6, 0) := rfl
theorem zr_84_9 : zRow xM 84 9 = some (105, .invokevirtual 31, 12, 53, 4) := rfl
theorem zr_84_12 : zRow xM 84 12 = some (105, .invokevirtual 37, 15, 83, 6) := rfl
theorem zr_84_15 : zRp 84 15 16 (1, 0) := ⟨_, _, _, _, rfl, by decide, Option.some_ne_none _, rfl⟩
theorem zr_84_16 : zRow xM 84 16 = some (39, .lcmp, 17, 0, 0) := rfl
theorem zr_84_17 : zRow xM 84 17 = some (40, .ifCond .ne 7, 20, 24, 4) := rfl
theorem zr_84_20 : zRp 84 20 21 (0, 1) := ⟨_, _, _, _, rfl, by decide, Option.some_ne_none _, rfl⟩
theorem zr_84_21 : zRow xM 84 21 = some (42, .goto 4, 22, 25, 0) := rfl
theorem zr_84_24 : zRp 84 24 25 (0, 0) := ⟨_, _, _, _, rfl, by decide, Option.some_ne_none _, rfl⟩
theorem zr_84_25 : zRow xM 84 25 = some (108, .ireturn, 26, 0, 0) := rfl
theorem zm_85 : zMt xM 85 = some (7, (some .int), 3, 0, 0) := rfl
theorem zr_85_0 : zRow xM 85 0 = some (7, .aload_n 0, 1, 0, 0) := rfl
theorem zr_85_1 : zRow xM 85 1 = some (105, .invokevirtual 28, 4, 78, 6) := rfl
theorem zr_85_4 : zRow xM 85 4 = some (7, .aload_n 0, 5, 0, 0) := rfl
theorem zr_85_5 : zRow xM 85 5 = some (46, .getfield 18, 8, 6, 3) := rfl
theorem zr_85_8 : zRp 85 8 10 (0, 1000000) := ⟨_, _, _, _, rfl, by decide, Option.some_ne_none _, rfl⟩
theorem zr_85_10 : zRow xM 85 10 = some (107, .invokestatic 42, 13, 4, 0) := rfl
theorem zr_85_13 : zRow xM 85 13 = some (7, .aload_n 0, 14, 0, 0) := rfl
theorem zr_85_14 : zRow xM 85 14 = some (46, .getfield 18, 17, 6, 3) := rfl
theorem zr_85_17 : zRow xM 85 17 = some (3, .iload_n 2, 18, 2, 0) := rfl
theorem zr_85_18 : zRp 85 18 19 (0, 0) := ⟨_, _, _, _, rfl, by decide, Option.some_ne_none _, rfl⟩
theorem zr_85_19 : zRow xM 85 19 = some (49, .iastore, 20, 0, 0) := rfl
theorem zr_85_20 : zRow xM 85 20 = some (7, .aload_n 0, 21, 0, 0) := rfl
theorem zr_85_21 : zRow xM 85 21 = some (46, .getfield 24, 24, 6, 0) := rfl
theorem zr_85_24 : zRow xM 85 24 = some (105, .invokevirtual 31, 27, 53, 4) := rfl
theorem zr_85_27 : zRow xM 85 27 = some (13, .lstore_n 3, 28, 3, 0) := rfl
theorem zr_85_28 : zRp 85 28 29 (0, 1) := ⟨_, _, _, _, rfl, by decide, Option.some_ne_none _, rfl⟩
theorem zr_85_29 : zRow xM 85 29 = some (10, .istore 5, 31, 5, 0) := rfl
theorem zr_85_31 : zRp 85 31 32 (0, 0) := ⟨_, _, _, _, rfl, by decide, Option.some_ne_none _, rfl⟩
theorem zr_85_32 : zRow xM 85 32 = some (10, .istore 6, 34, 6, 0) := rfl
theorem zr_85_34 : zRow xM 85 34 = some (4, .iload 6, 36, 6, 0) := rfl
theorem zr_85_36 : zRp 85 36 38 (0, 10) := ⟨_, _, _, _, rfl, by decide, Option.some_ne_none _, rfl⟩
theorem zr_85_38 : zRow xM 85 38 = some (41, .if_icmp .ge 21, 41, 59, 3) := rfl
theorem zr_85_41 : zRow xM 85 41 = some (4, .iload 5, 43, 5, 0) := rfl
theorem zr_85_43 : zRow xM 85 43 = some (40, .ifCond .eq 16, 46, 59, 1) := rfl
theorem zr_85_46 : zRow xM 85 46 = some (7, .aload_n 0, 47, 0, 0) := rfl
theorem zr_85_47 : zRow xM 85 47 = some (5, .lload_n 3, 48, 3, 0) := rfl
theorem zr_85_48 : zRow xM 85 48 = some (105, .invokevirtual 48, 51, 80, 6) := rfl
theorem zr_85_51 : zRow xM 85 51 = some (10, .istore 5, 53, 5, 0) := rfl
theorem zr_85_53 : zRow xM 85 53 = some (15, .iinc 6 1, 56, 6, 1) := rfl
theorem zr_85_56 : zRow xM 85 56 = some (42, .goto (-22), 57, 34, 0) := rfl
theorem zr_85_59 : zRow xM 85 59 = some (7, .aload_n 0, 60, 0, 0) := rfl
theorem zr_85_60 : zRow xM 85 60 = some (46, .getfield 18, 63, 6, 3) := rfl
theorem zr_85_63 : zRow xM 85 63 = some (3, .iload_n 1, 64, 1, 0) := rfl
theorem zr_85_64 : zRow xM 85 64 = some (48, .iaload, 65, 0, 0) := rfl
theorem zr_85_65 : zRow xM 85 65 = some (108, .ireturn, 66, 0, 0) := rfl
theorem zm_86 : zMt xM 86 = some (8, (some .int), 2, 0, 0) := rfl
theorem zr_86_0 : zRow xM 86 0 = some (5, .lload_n 1, 1, 1, 0) := rfl
theorem zr_86_1 : zRow xM 86 1 = some (13, .lstore_n 3, 2, 3, 0) := rfl
theorem zr_86_2 : zRp 86 2 3 (0, 0) := ⟨_, _, _, _, rfl, by decide, Option.some_ne_none _, rfl⟩
theorem zr_86_3 : zRow xM 86 3 = some (10, .istore 5, 5, 5, 0) := rfl
theorem zr_86_5 : zRow xM 86 5 = some (4, .iload 5, 7, 5, 0) := rfl
theorem zr_86_7 : zRp 86 7 8 (0, 3) := ⟨_, _, _, _, rfl, by decide, Option.some_ne_none _, rfl⟩
theorem zr_86_8 : zRow xM 86 8 = some (41, .if_icmp .gt 35, 11, 43, 2) := rfl
theorem zr_86_11 : zRow xM 86 11 = some (7, .aload_n 0, 12, 0, 0) := rfl
theorem zr_86_12 : zRow xM 86 12 = some (5, .lload_n 3, 13, 3, 0) := rfl
theorem zr_86_13 : zRow xM 86 13 = some (105, .invokevirtual 37, 16, 83, 6) := rfl
theorem zr_86_16 : zRow xM 86 16 = some (14, .lstore 6, 18, 6, 0) := rfl
theorem zr_86_18 : zRow xM 86 18 = some (6, .lload 6, 20, 6, 0) := rfl
theorem zr_86_20 : zRp 86 20 21 (1, 0) := ⟨_, _, _, _, rfl, by decide, Option.some_ne_none _, rfl⟩
theorem zr_86_21 : zRow xM 86 21 = some (39, .lcmp, 22, 0, 0) := rfl
theorem zr_86_22 : zRow xM 86 22 = some (40, .ifCond .ne 6, 25, 28, 4) := rfl
theorem zr_86_25 : zRow xM 86 25 = some (4, .iload 5, 27, 5, 0) := rfl
theorem zr_86_27 : zRow xM 86 27 = some (108, .ireturn, 28, 0, 0) := rfl
theorem zr_86_28 : zRow xM 86 28 = some (5, .lload_n 3, 29, 3, 0) := rfl
theorem zr_86_29 : zRow xM 86 29 = some (6, .lload 6, 31, 6, 0) := rfl
theorem zr_86_31 : zRp 86 31 34 (1, -1) := ⟨_, _, _, _, rfl, by decide, Option.some_ne_none _, rfl⟩
theorem zr_86_34 : zRow xM 86 34 = some (32, .lxor, 35, 0, 0) := rfl
theorem zr_86_35 : zRow xM 86 35 = some (30, .land, 36, 0, 0) := rfl
theorem zr_86_36 : zRow xM 86 36 = some (13, .lstore_n 3, 37, 3, 0) := rfl
theorem zr_86_37 : zRow xM 86 37 = some (15, .iinc 5 1, 40, 5, 1) := rfl
theorem zr_86_40 : zRow xM 86 40 = some (42, .goto (-35), 41, 5, 0) := rfl
theorem zr_86_43 : zRp 86 43 44 (0, 4) := ⟨_, _, _, _, rfl, by decide, Option.some_ne_none _, rfl⟩
theorem zr_86_44 : zRow xM 86 44 = some (108, .ireturn, 45, 0, 0) := rfl
theorem zm_87 : zMt xM 87 = some (15, none, 5, 0, 0) := rfl
theorem zr_87_0 : zRow xM 87 0 = some (7, .aload_n 0, 1, 0, 0) := rfl
theorem zr_87_1 : zRow xM 87 1 = some (46, .getfield 58, 4, 6, 5) := rfl
theorem zr_87_4 : zRp 87 4 7 (1, -1) := ⟨_, _, _, _, rfl, by decide, Option.some_ne_none _, rfl⟩
theorem zr_87_7 : zRow xM 87 7 = some (39, .lcmp, 8, 0, 0) := rfl
theorem zr_87_8 : zRow xM 87 8 = some (40, .ifCond .eq 13, 11, 21, 1) := rfl
theorem zr_87_11 : zRow xM 87 11 = some (5, .lload_n 3, 12, 3, 0) := rfl
theorem zr_87_12 : zRow xM 87 12 = some (7, .aload_n 0, 13, 0, 0) := rfl
theorem zr_87_13 : zRow xM 87 13 = some (46, .getfield 58, 16, 6, 5) := rfl
theorem zr_87_16 : zRow xM 87 16 = some (39, .lcmp, 17, 0, 0) := rfl
theorem zr_87_17 : zRow xM 87 17 = some (40, .ifCond .lt 4, 20, 21, 0) := rfl
theorem zr_87_20 : zRow xM 87 20 = some (110, .return_, 21, 0, 0) := rfl
theorem zr_87_21 : zRow xM 87 21 = some (7, .aload_n 0, 22, 0, 0) := rfl
theorem zr_87_22 : zRow xM 87 22 = some (5, .lload_n 1, 23, 1, 0) := rfl
theorem zr_87_23 : zRow xM 87 23 = some (5, .lload_n 3, 24, 3, 0) := rfl
theorem zr_87_24 : zRp 87 24 27 (1, -1) := ⟨_, _, _, _, rfl, by decide, Option.some_ne_none _, rfl⟩
theorem zr_87_27 : zRow xM 87 27 = some (32, .lxor, 28, 0, 0) := rfl
theorem zr_87_28 : zRow xM 87 28 = some (30, .land, 29, 0, 0) := rfl
theorem zr_87_29 : zRow xM 87 29 = some (105, .invokevirtual 37, 32, 83, 6) := rfl
theorem zr_87_32 : zRow xM 87 32 = some (14, .lstore 8, 34, 8, 0) := rfl
theorem zr_87_34 : zRow xM 87 34 = some (6, .lload 8, 36, 8, 0) := rfl
theorem zr_87_36 : zRp 87 36 37 (1, 0) := ⟨_, _, _, _, rfl, by decide, Option.some_ne_none _, rfl⟩
theorem zr_87_37 : zRow xM 87 37 = some (39, .lcmp, 38, 0, 0) := rfl
theorem zr_87_38 : zRow xM 87 38 = some (40, .ifCond .ne 9, 41, 47, 4) := rfl
theorem zr_87_41 : zRow xM 87 41 = some (7, .aload_n 0, 42, 0, 0) := rfl
theorem zr_87_42 : zRow xM 87 42 = some (5, .lload_n 3, 43, 3, 0) := rfl
theorem zr_87_43 : zRow xM 87 43 = some (47, .putfield 58, 46, 6, 5) := rfl
theorem zr_87_46 : zRow xM 87 46 = some (110, .return_, 47, 0, 0) := rfl
theorem zr_87_47 : zRow xM 87 47 = some (4, .iload 7, 49, 7, 0) := rfl
theorem zr_87_49 : zRow xM 87 49 = some (40, .ifCond .gt 4, 52, 53, 2) := rfl
theorem zr_87_52 : zRow xM 87 52 = some (110, .return_, 53, 0, 0) := rfl
theorem zr_87_53 : zRow xM 87 53 = some (6, .lload 5, 55, 5, 0) := rfl
theorem zr_87_55 : zRow xM 87 55 = some (14, .lstore 10, 57, 10, 0) := rfl
theorem zr_87_57 : zRp 87 57 58 (0, 0) := ⟨_, _, _, _, rfl, by decide, Option.some_ne_none _, rfl⟩
theorem zr_87_58 : zRow xM 87 58 = some (10, .istore 12, 60, 12, 0) := rfl
theorem zr_87_60 : zRow xM 87 60 = some (4, .iload 12, 62, 12, 0) := rfl
theorem zr_87_62 : zRow xM 87 62 = some (7, .aload_n 0, 63, 0, 0) := rfl
theorem zr_87_63 : zRow xM 87 63 = some (46, .getfield 24, 66, 6, 0) := rfl
theorem zr_87_66 : zRow xM 87 66 = some (46, .getfield 68, 69, 4, 1) := rfl
theorem zr_87_69 : zRow xM 87 69 = some (41, .if_icmp .ge 54, 72, 123, 3) := rfl
theorem zr_87_72 : zRp 87 72 73 (1, 1) := ⟨_, _, _, _, rfl, by decide, Option.some_ne_none _, rfl⟩
theorem zr_87_73 : zRow xM 87 73 = some (4, .iload 12, 75, 12, 0) := rfl
theorem zr_87_75 : zRow xM 87 75 = some (33, .lshl, 76, 0, 0) := rfl
theorem zr_87_76 : zRow xM 87 76 = some (14, .lstore 13, 78, 13, 0) := rfl
theorem zr_87_78 : zRow xM 87 78 = some (6, .lload 8, 80, 8, 0) := rfl
theorem zr_87_80 : zRow xM 87 80 = some (6, .lload 10, 82, 10, 0) := rfl
theorem zr_87_82 : zRp 87 82 85 (1, -1) := ⟨_, _, _, _, rfl, by decide, Option.some_ne_none _, rfl⟩
theorem zr_87_85 : zRow xM 87 85 = some (32, .lxor, 86, 0, 0) := rfl
theorem zr_87_86 : zRow xM 87 86 = some (30, .land, 87, 0, 0) := rfl
theorem zr_87_87 : zRow xM 87 87 = some (6, .lload 13, 89, 13, 0) := rfl
theorem zr_87_89 : zRow xM 87 89 = some (30, .land, 90, 0, 0) := rfl
theorem zr_87_90 : zRp 87 90 91 (1, 0) := ⟨_, _, _, _, rfl, by decide, Option.some_ne_none _, rfl⟩
theorem zr_87_91 : zRow xM 87 91 = some (39, .lcmp, 92, 0, 0) := rfl
theorem zr_87_92 : zRow xM 87 92 = some (40, .ifCond .eq 25, 95, 117, 1) := rfl
theorem zr_87_95 : zRow xM 87 95 = some (7, .aload_n 0, 96, 0, 0) := rfl
theorem zr_87_96 : zRow xM 87 96 = some (5, .lload_n 1, 97, 1, 0) := rfl
theorem zr_87_97 : zRow xM 87 97 = some (5, .lload_n 3, 98, 3, 0) := rfl
theorem zr_87_98 : zRow xM 87 98 = some (6, .lload 13, 100, 13, 0) := rfl
theorem zr_87_100 : zRow xM 87 100 = some (31, .lor, 101, 0, 0) := rfl
theorem zr_87_101 : zRow xM 87 101 = some (6, .lload 10, 103, 10, 0) := rfl
theorem zr_87_103 : zRow xM 87 103 = some (4, .iload 7, 105, 7, 0) := rfl
theorem zr_87_105 : zRp 87 105 106 (0, 1) := ⟨_, _, _, _, rfl, by decide, Option.some_ne_none _, rfl⟩
theorem zr_87_106 : zRow xM 87 106 = some (17, .isub, 107, 0, 0) := rfl
theorem zr_87_107 : zRow xM 87 107 = some (105, .invokevirtual 62, 110, 87, 6) := rfl
theorem zr_87_110 : zRow xM 87 110 = some (6, .lload 10, 112, 10, 0) := rfl
theorem zr_87_112 : zRow xM 87 112 = some (6, .lload 13, 114, 13, 0) := rfl
theorem zr_87_114 : zRow xM 87 114 = some (31, .lor, 115, 0, 0) := rfl
theorem zr_87_115 : zRow xM 87 115 = some (14, .lstore 10, 117, 10, 0) := rfl
theorem zr_87_117 : zRow xM 87 117 = some (15, .iinc 12 1, 120, 12, 1) := rfl
theorem zr_87_120 : zRow xM 87 120 = some (42, .goto (-60), 121, 60, 0) := rfl
theorem zr_87_123 : zRow xM 87 123 = some (110, .return_, 124, 0, 0) := rfl
theorem zm_88 : zMt xM 88 = some (4, (some .long), 1, 0, 0) := rfl
theorem zr_88_0 : zRow xM 88 0 = some (7, .aload_n 0, 1, 0, 0) := rfl
theorem zr_88_1 : zRow xM 88 1 = some (105, .invokevirtual 28, 4, 78, 6) := rfl
theorem zr_88_4 : zRow xM 88 4 = some (7, .aload_n 0, 5, 0, 0) := rfl
theorem zr_88_5 : zRow xM 88 5 = some (46, .getfield 24, 8, 6, 0) := rfl
theorem zr_88_8 : zRow xM 88 8 = some (105, .invokevirtual 31, 11, 53, 4) := rfl
theorem zr_88_11 : zRow xM 88 11 = some (13, .lstore_n 1, 12, 1, 0) := rfl
theorem zr_88_12 : zRow xM 88 12 = some (7, .aload_n 0, 13, 0, 0) := rfl
theorem zr_88_13 : zRow xM 88 13 = some (5, .lload_n 1, 14, 1, 0) := rfl
theorem zr_88_14 : zRow xM 88 14 = some (105, .invokevirtual 52, 17, 86, 6) := rfl
theorem zr_88_17 : zRow xM 88 17 = some (9, .istore_n 3, 18, 3, 0) := rfl
theorem zr_88_18 : zRow xM 88 18 = some (3, .iload_n 3, 19, 3, 0) := rfl
theorem zr_88_19 : zRp 88 19 20 (0, 3) := ⟨_, _, _, _, rfl, by decide, Option.some_ne_none _, rfl⟩
theorem zr_88_20 : zRow xM 88 20 = some (41, .if_icmp .gt 40, 23, 60, 2) := rfl
theorem zr_88_23 : zRow xM 88 23 = some (7, .aload_n 0, 24, 0, 0) := rfl
theorem zr_88_24 : zRp 88 24 27 (1, -1) := ⟨_, _, _, _, rfl, by decide, Option.some_ne_none _, rfl⟩
theorem zr_88_27 : zRow xM 88 27 = some (47, .putfield 58, 30, 6, 5) := rfl
theorem zr_88_30 : zRow xM 88 30 = some (7, .aload_n 0, 31, 0, 0) := rfl
theorem zr_88_31 : zRow xM 88 31 = some (5, .lload_n 1, 32, 1, 0) := rfl
theorem zr_88_32 : zRp 88 32 33 (1, 0) := ⟨_, _, _, _, rfl, by decide, Option.some_ne_none _, rfl⟩
theorem zr_88_33 : zRp 88 33 34 (1, 0) := ⟨_, _, _, _, rfl, by decide, Option.some_ne_none _, rfl⟩
theorem zr_88_34 : zRow xM 88 34 = some (3, .iload_n 3, 35, 3, 0) := rfl
theorem zr_88_35 : zRow xM 88 35 = some (105, .invokevirtual 62, 38, 87, 6) := rfl
theorem zr_88_38 : zRow xM 88 38 = some (7, .aload_n 0, 39, 0, 0) := rfl
theorem zr_88_39 : zRow xM 88 39 = some (46, .getfield 58, 42, 6, 5) := rfl
theorem zr_88_42 : zRp 88 42 45 (1, -1) := ⟨_, _, _, _, rfl, by decide, Option.some_ne_none _, rfl⟩
theorem zr_88_45 : zRow xM 88 45 = some (39, .lcmp, 46, 0, 0) := rfl
theorem zr_88_46 : zRow xM 88 46 = some (40, .ifCond .eq 8, 49, 54, 1) := rfl
theorem zr_88_49 : zRow xM 88 49 = some (7, .aload_n 0, 50, 0, 0) := rfl
theorem zr_88_50 : zRow xM 88 50 = some (46, .getfield 58, 53, 6, 5) := rfl
theorem zr_88_53 : zRow xM 88 53 = some (109, .lreturn, 54, 0, 0) := rfl
theorem zr_88_54 : zRow xM 88 54 = some (15, .iinc 3 1, 57, 3, 1) := rfl
theorem zr_88_57 : zRow xM 88 57 = some (42, .goto (-39), 58, 18, 0) := rfl
theorem zr_88_60 : zRp 88 60 63 (1, -5) := ⟨_, _, _, _, rfl, by decide, Option.some_ne_none _, rfl⟩
theorem zr_88_63 : zRow xM 88 63 = some (109, .lreturn, 64, 0, 0) := rfl
theorem zm_90 : zMt xM 90 = some (4, none, 1, 0, 0) := rfl
theorem zr_90_0 : zRow xM 90 0 = some (7, .aload_n 0, 1, 0, 0) := rfl
theorem zr_90_1 : zRow xM 90 1 = some (46, .getfield 15, 4, 7, 3) := rfl
theorem zr_90_4 : zRp 90 4 5 (0, 0) := ⟨_, _, _, _, rfl, by decide, Option.some_ne_none _, rfl⟩
theorem zr_90_5 : zRow xM 90 5 = some (107, .invokestatic 58, 8, 4, 0) := rfl
theorem zr_90_8 : zRp 90 8 9 (0, 0) := ⟨_, _, _, _, rfl, by decide, Option.some_ne_none _, rfl⟩
theorem zr_90_9 : zRow xM 90 9 = some (9, .istore_n 1, 10, 1, 0) := rfl
theorem zr_90_10 : zRow xM 90 10 = some (3, .iload_n 1, 11, 1, 0) := rfl
theorem zr_90_11 : zRow xM 90 11 = some (7, .aload_n 0, 12, 0, 0) := rfl
theorem zr_90_12 : zRow xM 90 12 = some (46, .getfield 27, 15, 7, 2) := rfl
theorem zr_90_15 : zRow xM 90 15 = some (46, .getfield 64, 18, 4, 1) := rfl
theorem zr_90_18 : zRow xM 90 18 = some (41, .if_icmp .ge 90, 21, 108, 3) := rfl
theorem zr_90_21 : zRow xM 90 21 = some (7, .aload_n 0, 22, 0, 0) := rfl
theorem zr_90_22 : zRow xM 90 22 = some (46, .getfield 27, 25, 7, 2) := rfl
theorem zr_90_25 : zRow xM 90 25 = some (46, .getfield 67, 28, 4, 10) := rfl
theorem zr_90_28 : zRow xM 90 28 = some (3, .iload_n 1, 29, 1, 0) := rfl
theorem zr_90_29 : zRow xM 90 29 = some (48, .iaload, 30, 0, 0) := rfl
theorem zr_90_30 : zRow xM 90 30 = some (9, .istore_n 2, 31, 2, 0) := rfl
theorem zr_90_31 : zRow xM 90 31 = some (7, .aload_n 0, 32, 0, 0) := rfl
theorem zr_90_32 : zRow xM 90 32 = some (46, .getfield 27, 35, 7, 2) := rfl
theorem zr_90_35 : zRow xM 90 35 = some (46, .getfield 70, 38, 4, 11) := rfl
theorem zr_90_38 : zRow xM 90 38 = some (3, .iload_n 1, 39, 1, 0) := rfl
theorem zr_90_39 : zRow xM 90 39 = some (48, .iaload, 40, 0, 0) := rfl
theorem zr_90_40 : zRow xM 90 40 = some (9, .istore_n 3, 41, 3, 0) := rfl
theorem zr_90_41 : zRow xM 90 41 = some (7, .aload_n 0, 42, 0, 0) := rfl
theorem zr_90_42 : zRow xM 90 42 = some (46, .getfield 27, 45, 7, 2) := rfl
theorem zr_90_45 : zRow xM 90 45 = some (3, .iload_n 1, 46, 1, 0) := rfl
theorem zr_90_46 : zRow xM 90 46 = some (105, .invokevirtual 73, 49, 18, 4) := rfl
theorem zr_90_49 : zRow xM 90 49 = some (40, .ifCond .ne 53, 52, 102, 4) := rfl
theorem zr_90_52 : zRow xM 90 52 = some (7, .aload_n 0, 53, 0, 0) := rfl
theorem zr_90_53 : zRow xM 90 53 = some (46, .getfield 27, 56, 7, 2) := rfl
theorem zr_90_56 : zRow xM 90 56 = some (46, .getfield 77, 59, 4, 12) := rfl
theorem zr_90_59 : zRow xM 90 59 = some (3, .iload_n 1, 60, 1, 0) := rfl
theorem zr_90_60 : zRow xM 90 60 = some (48, .iaload, 61, 0, 0) := rfl
theorem zr_90_61 : zRp 90 61 62 (0, 1) := ⟨_, _, _, _, rfl, by decide, Option.some_ne_none _, rfl⟩
theorem zr_90_62 : zRow xM 90 62 = some (41, .if_icmp .eq 40, 65, 102, 1) := rfl
theorem zr_90_65 : zRow xM 90 65 = some (7, .aload_n 0, 66, 0, 0) := rfl
theorem zr_90_66 : zRow xM 90 66 = some (46, .getfield 15, 69, 7, 3) := rfl
theorem zr_90_69 : zRow xM 90 69 = some (7, .aload_n 0, 70, 0, 0) := rfl
theorem zr_90_70 : zRow xM 90 70 = some (46, .getfield 27, 73, 7, 2) := rfl
theorem zr_90_73 : zRow xM 90 73 = some (46, .getfield 77, 76, 4, 12) := rfl
theorem zr_90_76 : zRow xM 90 76 = some (3, .iload_n 1, 77, 1, 0) := rfl
theorem zr_90_77 : zRow xM 90 77 = some (48, .iaload, 78, 0, 0) := rfl
theorem zr_90_78 : zRp 90 78 79 (0, 2) := ⟨_, _, _, _, rfl, by decide, Option.some_ne_none _, rfl⟩
theorem zr_90_79 : zRow xM 90 79 = some (41, .if_icmp .ne 12, 82, 91, 4) := rfl
theorem zr_90_82 : zRow xM 90 82 = some (3, .iload_n 2, 83, 2, 0) := rfl
theorem zr_90_83 : zRp 90 83 85 (0, 10) := ⟨_, _, _, _, rfl, by decide, Option.some_ne_none _, rfl⟩
theorem zr_90_85 : zRow xM 90 85 = some (18, .imul, 86, 0, 0) := rfl
theorem zr_90_86 : zRow xM 90 86 = some (3, .iload_n 3, 87, 3, 0) := rfl
theorem zr_90_87 : zRow xM 90 87 = some (16, .iadd, 88, 0, 0) := rfl
theorem zr_90_88 : zRow xM 90 88 = some (42, .goto 9, 89, 97, 0) := rfl
theorem zr_90_91 : zRow xM 90 91 = some (3, .iload_n 3, 92, 3, 0) := rfl
theorem zr_90_92 : zRp 90 92 94 (0, 10) := ⟨_, _, _, _, rfl, by decide, Option.some_ne_none _, rfl⟩
theorem zr_90_94 : zRow xM 90 94 = some (18, .imul, 95, 0, 0) := rfl
theorem zr_90_95 : zRow xM 90 95 = some (3, .iload_n 2, 96, 2, 0) := rfl
theorem zr_90_96 : zRow xM 90 96 = some (16, .iadd, 97, 0, 0) := rfl
theorem zr_90_97 : zRow xM 90 97 = some (45, .dup2, 98, 0, 0) := rfl
theorem zr_90_98 : zRow xM 90 98 = some (48, .iaload, 99, 0, 0) := rfl
theorem zr_90_99 : zRp 90 99 100 (0, 1) := ⟨_, _, _, _, rfl, by decide, Option.some_ne_none _, rfl⟩
theorem zr_90_100 : zRow xM 90 100 = some (16, .iadd, 101, 0, 0) := rfl
theorem zr_90_101 : zRow xM 90 101 = some (49, .iastore, 102, 0, 0) := rfl
theorem zr_90_102 : zRow xM 90 102 = some (15, .iinc 1 1, 105, 1, 1) := rfl
theorem zr_90_105 : zRow xM 90 105 = some (42, .goto (-95), 106, 10, 0) := rfl
theorem zr_90_108 : zRow xM 90 108 = some (110, .return_, 109, 0, 0) := rfl
theorem zm_91 : zMt xM 91 = some (3, (some .int), 3, 0, 0) := rfl
theorem zr_91_0 : zRow xM 91 0 = some (7, .aload_n 0, 1, 0, 0) := rfl
theorem zr_91_1 : zRow xM 91 1 = some (46, .getfield 15, 4, 7, 3) := rfl
theorem zr_91_4 : zRow xM 91 4 = some (3, .iload_n 1, 5, 1, 0) := rfl
theorem zr_91_5 : zRp 91 5 7 (0, 10) := ⟨_, _, _, _, rfl, by decide, Option.some_ne_none _, rfl⟩
theorem zr_91_7 : zRow xM 91 7 = some (18, .imul, 8, 0, 0) := rfl
theorem zr_91_8 : zRow xM 91 8 = some (3, .iload_n 2, 9, 2, 0) := rfl
theorem zr_91_9 : zRow xM 91 9 = some (16, .iadd, 10, 0, 0) := rfl
theorem zr_91_10 : zRow xM 91 10 = some (48, .iaload, 11, 0, 0) := rfl
theorem zr_91_11 : zRow xM 91 11 = some (108, .ireturn, 12, 0, 0) := rfl
theorem zm_92 : zMt xM 92 = some (5, (some .int), 4, 0, 0) := rfl
theorem zr_92_0 : zRow xM 92 0 = some (7, .aload_n 0, 1, 0, 0) := rfl
theorem zr_92_1 : zRow xM 92 1 = some (3, .iload_n 1, 2, 1, 0) := rfl
theorem zr_92_2 : zRow xM 92 2 = some (3, .iload_n 2, 3, 2, 0) := rfl
theorem zr_92_3 : zRow xM 92 3 = some (105, .invokevirtual 54, 6, 91, 7) := rfl
theorem zr_92_6 : zRow xM 92 6 = some (40, .ifCond .le 25, 9, 31, 5) := rfl
theorem zr_92_9 : zRow xM 92 9 = some (7, .aload_n 0, 10, 0, 0) := rfl
theorem zr_92_10 : zRow xM 92 10 = some (3, .iload_n 2, 11, 2, 0) := rfl
theorem zr_92_11 : zRow xM 92 11 = some (3, .iload_n 3, 12, 3, 0) := rfl
theorem zr_92_12 : zRow xM 92 12 = some (105, .invokevirtual 54, 15, 91, 7) := rfl
theorem zr_92_15 : zRow xM 92 15 = some (40, .ifCond .le 16, 18, 31, 5) := rfl
theorem zr_92_18 : zRow xM 92 18 = some (7, .aload_n 0, 19, 0, 0) := rfl
theorem zr_92_19 : zRow xM 92 19 = some (3, .iload_n 3, 20, 3, 0) := rfl
theorem zr_92_20 : zRow xM 92 20 = some (3, .iload_n 1, 21, 1, 0) := rfl
theorem zr_92_21 : zRow xM 92 21 = some (105, .invokevirtual 54, 24, 91, 7) := rfl
theorem zr_92_24 : zRow xM 92 24 = some (40, .ifCond .le 7, 27, 31, 5) := rfl
theorem zr_92_27 : zRp 92 27 28 (0, 1) := ⟨_, _, _, _, rfl, by decide, Option.some_ne_none _, rfl⟩
theorem zr_92_28 : zRow xM 92 28 = some (42, .goto 4, 29, 32, 0) := rfl
theorem zr_92_31 : zRp 92 31 32 (0, 0) := ⟨_, _, _, _, rfl, by decide, Option.some_ne_none _, rfl⟩
theorem zr_92_32 : zRow xM 92 32 = some (10, .istore 4, 34, 4, 0) := rfl
theorem zr_92_34 : zRow xM 92 34 = some (4, .iload 4, 36, 4, 0) := rfl
theorem zr_92_36 : zRow xM 92 36 = some (40, .ifCond .eq 7, 39, 43, 1) := rfl
theorem zr_92_39 : zRp 92 39 40 (0, 1) := ⟨_, _, _, _, rfl, by decide, Option.some_ne_none _, rfl⟩
theorem zr_92_40 : zRow xM 92 40 = some (42, .goto 4, 41, 44, 0) := rfl
theorem zr_92_43 : zRp 92 43 44 (0, 0) := ⟨_, _, _, _, rfl, by decide, Option.some_ne_none _, rfl⟩
theorem zr_92_44 : zRow xM 92 44 = some (108, .ireturn, 45, 0, 0) := rfl
theorem zm_93 : zMt xM 93 = some (5, (some .int), 1, 0, 0) := rfl
theorem zr_93_0 : zRow xM 93 0 = some (7, .aload_n 0, 1, 0, 0) := rfl
theorem zr_93_1 : zRow xM 93 1 = some (105, .invokevirtual 31, 4, 90, 7) := rfl
theorem zr_93_4 : zRp 93 4 5 (0, 0) := ⟨_, _, _, _, rfl, by decide, Option.some_ne_none _, rfl⟩
theorem zr_93_5 : zRow xM 93 5 = some (9, .istore_n 1, 6, 1, 0) := rfl
theorem zr_93_6 : zRp 93 6 7 (0, 0) := ⟨_, _, _, _, rfl, by decide, Option.some_ne_none _, rfl⟩
theorem zr_93_7 : zRow xM 93 7 = some (9, .istore_n 2, 8, 2, 0) := rfl
theorem zr_93_8 : zRow xM 93 8 = some (3, .iload_n 2, 9, 2, 0) := rfl
theorem zr_93_9 : zRow xM 93 9 = some (7, .aload_n 0, 10, 0, 0) := rfl
theorem zr_93_10 : zRow xM 93 10 = some (46, .getfield 27, 13, 7, 2) := rfl
theorem zr_93_13 : zRow xM 93 13 = some (46, .getfield 34, 16, 4, 0) := rfl
theorem zr_93_16 : zRow xM 93 16 = some (41, .if_icmp .ge 73, 19, 89, 3) := rfl
theorem zr_93_19 : zRow xM 93 19 = some (3, .iload_n 2, 20, 2, 0) := rfl
theorem zr_93_20 : zRp 93 20 21 (0, 1) := ⟨_, _, _, _, rfl, by decide, Option.some_ne_none _, rfl⟩
theorem zr_93_21 : zRow xM 93 21 = some (16, .iadd, 22, 0, 0) := rfl
theorem zr_93_22 : zRow xM 93 22 = some (9, .istore_n 3, 23, 3, 0) := rfl
theorem zr_93_23 : zRow xM 93 23 = some (3, .iload_n 3, 24, 3, 0) := rfl
theorem zr_93_24 : zRow xM 93 24 = some (7, .aload_n 0, 25, 0, 0) := rfl
theorem zr_93_25 : zRow xM 93 25 = some (46, .getfield 27, 28, 7, 2) := rfl
theorem zr_93_28 : zRow xM 93 28 = some (46, .getfield 34, 31, 4, 0) := rfl
theorem zr_93_31 : zRow xM 93 31 = some (41, .if_icmp .ge 52, 34, 83, 3) := rfl
theorem zr_93_34 : zRow xM 93 34 = some (3, .iload_n 3, 35, 3, 0) := rfl
theorem zr_93_35 : zRp 93 35 36 (0, 1) := ⟨_, _, _, _, rfl, by decide, Option.some_ne_none _, rfl⟩
theorem zr_93_36 : zRow xM 93 36 = some (16, .iadd, 37, 0, 0) := rfl
theorem zr_93_37 : zRow xM 93 37 = some (10, .istore 4, 39, 4, 0) := rfl
theorem zr_93_39 : zRow xM 93 39 = some (4, .iload 4, 41, 4, 0) := rfl
theorem zr_93_41 : zRow xM 93 41 = some (7, .aload_n 0, 42, 0, 0) := rfl
theorem zr_93_42 : zRow xM 93 42 = some (46, .getfield 27, 45, 7, 2) := rfl
theorem zr_93_45 : zRow xM 93 45 = some (46, .getfield 34, 48, 4, 0) := rfl
theorem zr_93_48 : zRow xM 93 48 = some (41, .if_icmp .ge 29, 51, 77, 3) := rfl
theorem zr_93_51 : zRow xM 93 51 = some (3, .iload_n 1, 52, 1, 0) := rfl
theorem zr_93_52 : zRow xM 93 52 = some (7, .aload_n 0, 53, 0, 0) := rfl
theorem zr_93_53 : zRow xM 93 53 = some (3, .iload_n 2, 54, 2, 0) := rfl
theorem zr_93_54 : zRow xM 93 54 = some (3, .iload_n 3, 55, 3, 0) := rfl
theorem zr_93_55 : zRow xM 93 55 = some (4, .iload 4, 57, 4, 0) := rfl
theorem zr_93_57 : zRow xM 93 57 = some (105, .invokevirtual 40, 60, 92, 7) := rfl
theorem zr_93_60 : zRow xM 93 60 = some (7, .aload_n 0, 61, 0, 0) := rfl
theorem zr_93_61 : zRow xM 93 61 = some (3, .iload_n 2, 62, 2, 0) := rfl
theorem zr_93_62 : zRow xM 93 62 = some (4, .iload 4, 64, 4, 0) := rfl
theorem zr_93_64 : zRow xM 93 64 = some (3, .iload_n 3, 65, 3, 0) := rfl
theorem zr_93_65 : zRow xM 93 65 = some (105, .invokevirtual 40, 68, 92, 7) := rfl
theorem zr_93_68 : zRow xM 93 68 = some (16, .iadd, 69, 0, 0) := rfl
theorem zr_93_69 : zRow xM 93 69 = some (16, .iadd, 70, 0, 0) := rfl
theorem zr_93_70 : zRow xM 93 70 = some (9, .istore_n 1, 71, 1, 0) := rfl
theorem zr_93_71 : zRow xM 93 71 = some (15, .iinc 4 1, 74, 4, 1) := rfl
theorem zr_93_74 : zRow xM 93 74 = some (42, .goto (-35), 75, 39, 0) := rfl
theorem zr_93_77 : zRow xM 93 77 = some (15, .iinc 3 1, 80, 3, 1) := rfl
theorem zr_93_80 : zRow xM 93 80 = some (42, .goto (-57), 81, 23, 0) := rfl
theorem zr_93_83 : zRow xM 93 83 = some (15, .iinc 2 1, 86, 2, 1) := rfl
theorem zr_93_86 : zRow xM 93 86 = some (42, .goto (-78), 87, 8, 0) := rfl
theorem zr_93_89 : zRow xM 93 89 = some (3, .iload_n 1, 90, 1, 0) := rfl
theorem zr_93_90 : zRow xM 93 90 = some (108, .ireturn, 91, 0, 0) := rfl
theorem zm_94 : zMt xM 94 = some (3, none, 1, 0, 0) := rfl
theorem zr_94_0 : zRow xM 94 0 = some (7, .aload_n 0, 1, 0, 0) := rfl
theorem zr_94_1 : zRow xM 94 1 = some (46, .getfield 24, 4, 7, 6) := rfl
theorem zr_94_4 : zRp 94 4 5 (0, 0) := ⟨_, _, _, _, rfl, by decide, Option.some_ne_none _, rfl⟩
theorem zr_94_5 : zRow xM 94 5 = some (107, .invokestatic 58, 8, 4, 0) := rfl
theorem zr_94_8 : zRow xM 94 8 = some (7, .aload_n 0, 9, 0, 0) := rfl
theorem zr_94_9 : zRow xM 94 9 = some (46, .getfield 27, 12, 7, 2) := rfl
theorem zr_94_12 : zRow xM 94 12 = some (46, .getfield 34, 15, 4, 0) := rfl
theorem zr_94_15 : zRp 94 15 16 (0, 1) := ⟨_, _, _, _, rfl, by decide, Option.some_ne_none _, rfl⟩
theorem zr_94_16 : zRow xM 94 16 = some (17, .isub, 17, 0, 0) := rfl
theorem zr_94_17 : zRow xM 94 17 = some (9, .istore_n 1, 18, 1, 0) := rfl
theorem zr_94_18 : zRow xM 94 18 = some (3, .iload_n 1, 19, 1, 0) := rfl
theorem zr_94_19 : zRow xM 94 19 = some (40, .ifCond .lt 60, 22, 79, 0) := rfl
theorem zr_94_22 : zRow xM 94 22 = some (7, .aload_n 0, 23, 0, 0) := rfl
theorem zr_94_23 : zRow xM 94 23 = some (46, .getfield 24, 26, 7, 6) := rfl
theorem zr_94_26 : zRow xM 94 26 = some (3, .iload_n 1, 27, 1, 0) := rfl
theorem zr_94_27 : zRow xM 94 27 = some (7, .aload_n 0, 28, 0, 0) := rfl
theorem zr_94_28 : zRow xM 94 28 = some (46, .getfield 24, 31, 7, 6) := rfl
theorem zr_94_31 : zRow xM 94 31 = some (3, .iload_n 1, 32, 1, 0) := rfl
theorem zr_94_32 : zRp 94 32 33 (0, 1) := ⟨_, _, _, _, rfl, by decide, Option.some_ne_none _, rfl⟩
theorem zr_94_33 : zRow xM 94 33 = some (16, .iadd, 34, 0, 0) := rfl
theorem zr_94_34 : zRow xM 94 34 = some (48, .iaload, 35, 0, 0) := rfl
theorem zr_94_35 : zRow xM 94 35 = some (49, .iastore, 36, 0, 0) := rfl
theorem zr_94_36 : zRp 94 36 37 (0, 0) := ⟨_, _, _, _, rfl, by decide, Option.some_ne_none _, rfl⟩
theorem zr_94_37 : zRow xM 94 37 = some (9, .istore_n 2, 38, 2, 0) := rfl
theorem zr_94_38 : zRow xM 94 38 = some (3, .iload_n 2, 39, 2, 0) := rfl
theorem zr_94_39 : zRow xM 94 39 = some (3, .iload_n 1, 40, 1, 0) := rfl
theorem zr_94_40 : zRow xM 94 40 = some (41, .if_icmp .ge 33, 43, 73, 3) := rfl
theorem zr_94_43 : zRow xM 94 43 = some (7, .aload_n 0, 44, 0, 0) := rfl
theorem zr_94_44 : zRow xM 94 44 = some (46, .getfield 24, 47, 7, 6) := rfl
theorem zr_94_47 : zRow xM 94 47 = some (3, .iload_n 1, 48, 1, 0) := rfl
theorem zr_94_48 : zRow xM 94 48 = some (45, .dup2, 49, 0, 0) := rfl
theorem zr_94_49 : zRow xM 94 49 = some (48, .iaload, 50, 0, 0) := rfl
theorem zr_94_50 : zRow xM 94 50 = some (7, .aload_n 0, 51, 0, 0) := rfl
theorem zr_94_51 : zRow xM 94 51 = some (3, .iload_n 1, 52, 1, 0) := rfl
theorem zr_94_52 : zRow xM 94 52 = some (3, .iload_n 2, 53, 2, 0) := rfl
theorem zr_94_53 : zRow xM 94 53 = some (105, .invokevirtual 54, 56, 91, 7) := rfl
theorem zr_94_56 : zRow xM 94 56 = some (7, .aload_n 0, 57, 0, 0) := rfl
theorem zr_94_57 : zRow xM 94 57 = some (3, .iload_n 2, 58, 2, 0) := rfl
theorem zr_94_58 : zRow xM 94 58 = some (3, .iload_n 1, 59, 1, 0) := rfl
theorem zr_94_59 : zRow xM 94 59 = some (105, .invokevirtual 54, 62, 91, 7) := rfl
theorem zr_94_62 : zRow xM 94 62 = some (120, .invokestatic 80, 65, 0, 0) := rfl
theorem zr_94_65 : zRow xM 94 65 = some (16, .iadd, 66, 0, 0) := rfl
theorem zr_94_66 : zRow xM 94 66 = some (49, .iastore, 67, 0, 0) := rfl
theorem zr_94_67 : zRow xM 94 67 = some (15, .iinc 2 1, 70, 2, 1) := rfl
theorem zr_94_70 : zRow xM 94 70 = some (42, .goto (-32), 71, 38, 0) := rfl
theorem zr_94_73 : zRow xM 94 73 = some (15, .iinc 1 (-1), 76, 1, 4294967295) := rfl
theorem zr_94_76 : zRow xM 94 76 = some (42, .goto (-58), 77, 18, 0) := rfl
theorem zr_94_79 : zRow xM 94 79 = some (110, .return_, 80, 0, 0) := rfl
theorem zm_95 : zMt xM 95 = some (3, none, 2, 0, 0) := rfl
theorem zr_95_0 : zRp 95 0 1 (0, 0) := ⟨_, _, _, _, rfl, by decide, Option.some_ne_none _, rfl⟩
theorem zr_95_1 : zRow xM 95 1 = some (9, .istore_n 2, 2, 2, 0) := rfl
theorem zr_95_2 : zRow xM 95 2 = some (3, .iload_n 2, 3, 2, 0) := rfl
theorem zr_95_3 : zRp 95 3 4 (0, 3) := ⟨_, _, _, _, rfl, by decide, Option.some_ne_none _, rfl⟩
theorem zr_95_4 : zRow xM 95 4 = some (41, .if_icmp .ge 20, 7, 24, 3) := rfl
theorem zr_95_7 : zRow xM 95 7 = some (7, .aload_n 0, 8, 0, 0) := rfl
theorem zr_95_8 : zRow xM 95 8 = some (46, .getfield 21, 11, 7, 5) := rfl
theorem zr_95_11 : zRow xM 95 11 = some (3, .iload_n 1, 12, 1, 0) := rfl
theorem zr_95_12 : zRp 95 12 13 (0, 3) := ⟨_, _, _, _, rfl, by decide, Option.some_ne_none _, rfl⟩
theorem zr_95_13 : zRow xM 95 13 = some (18, .imul, 14, 0, 0) := rfl
theorem zr_95_14 : zRow xM 95 14 = some (3, .iload_n 2, 15, 2, 0) := rfl
theorem zr_95_15 : zRow xM 95 15 = some (16, .iadd, 16, 0, 0) := rfl
theorem zr_95_16 : zRp 95 16 17 (0, 0) := ⟨_, _, _, _, rfl, by decide, Option.some_ne_none _, rfl⟩
theorem zr_95_17 : zRow xM 95 17 = some (49, .iastore, 18, 0, 0) := rfl
theorem zr_95_18 : zRow xM 95 18 = some (15, .iinc 2 1, 21, 2, 1) := rfl
theorem zr_95_21 : zRow xM 95 21 = some (42, .goto (-19), 22, 2, 0) := rfl
theorem zr_95_24 : zRp 95 24 25 (0, 0) := ⟨_, _, _, _, rfl, by decide, Option.some_ne_none _, rfl⟩
theorem zr_95_25 : zRow xM 95 25 = some (9, .istore_n 2, 26, 2, 0) := rfl
theorem zr_95_26 : zRow xM 95 26 = some (3, .iload_n 2, 27, 2, 0) := rfl
theorem zr_95_27 : zRow xM 95 27 = some (3, .iload_n 1, 28, 1, 0) := rfl
theorem zr_95_28 : zRow xM 95 28 = some (41, .if_icmp .ge 65, 31, 93, 3) := rfl
theorem zr_95_31 : zRow xM 95 31 = some (7, .aload_n 0, 32, 0, 0) := rfl
theorem zr_95_32 : zRow xM 95 32 = some (46, .getfield 21, 35, 7, 5) := rfl
theorem zr_95_35 : zRow xM 95 35 = some (3, .iload_n 1, 36, 1, 0) := rfl
theorem zr_95_36 : zRp 95 36 37 (0, 3) := ⟨_, _, _, _, rfl, by decide, Option.some_ne_none _, rfl⟩
theorem zr_95_37 : zRow xM 95 37 = some (18, .imul, 38, 0, 0) := rfl
theorem zr_95_38 : zRow xM 95 38 = some (7, .aload_n 0, 39, 0, 0) := rfl
theorem zr_95_39 : zRow xM 95 39 = some (46, .getfield 18, 42, 7, 4) := rfl
theorem zr_95_42 : zRow xM 95 42 = some (3, .iload_n 2, 43, 2, 0) := rfl
theorem zr_95_43 : zRow xM 95 43 = some (48, .iaload, 44, 0, 0) := rfl
theorem zr_95_44 : zRp 95 44 45 (0, 1) := ⟨_, _, _, _, rfl, by decide, Option.some_ne_none _, rfl⟩
theorem zr_95_45 : zRow xM 95 45 = some (16, .iadd, 46, 0, 0) := rfl
theorem zr_95_46 : zRp 95 46 47 (0, 3) := ⟨_, _, _, _, rfl, by decide, Option.some_ne_none _, rfl⟩
theorem zr_95_47 : zRow xM 95 47 = some (20, .irem, 48, 0, 0) := rfl
theorem zr_95_48 : zRow xM 95 48 = some (16, .iadd, 49, 0, 0) := rfl
theorem zr_95_49 : zRow xM 95 49 = some (45, .dup2, 50, 0, 0) := rfl
theorem zr_95_50 : zRow xM 95 50 = some (48, .iaload, 51, 0, 0) := rfl
theorem zr_95_51 : zRow xM 95 51 = some (7, .aload_n 0, 52, 0, 0) := rfl
theorem zr_95_52 : zRow xM 95 52 = some (3, .iload_n 2, 53, 2, 0) := rfl
theorem zr_95_53 : zRow xM 95 53 = some (3, .iload_n 1, 54, 1, 0) := rfl
theorem zr_95_54 : zRow xM 95 54 = some (105, .invokevirtual 54, 57, 91, 7) := rfl
theorem zr_95_57 : zRow xM 95 57 = some (16, .iadd, 58, 0, 0) := rfl
theorem zr_95_58 : zRow xM 95 58 = some (49, .iastore, 59, 0, 0) := rfl
theorem zr_95_59 : zRow xM 95 59 = some (7, .aload_n 0, 60, 0, 0) := rfl
theorem zr_95_60 : zRow xM 95 60 = some (46, .getfield 21, 63, 7, 5) := rfl
theorem zr_95_63 : zRow xM 95 63 = some (3, .iload_n 1, 64, 1, 0) := rfl
theorem zr_95_64 : zRp 95 64 65 (0, 3) := ⟨_, _, _, _, rfl, by decide, Option.some_ne_none _, rfl⟩
theorem zr_95_65 : zRow xM 95 65 = some (18, .imul, 66, 0, 0) := rfl
theorem zr_95_66 : zRow xM 95 66 = some (7, .aload_n 0, 67, 0, 0) := rfl
theorem zr_95_67 : zRow xM 95 67 = some (46, .getfield 18, 70, 7, 4) := rfl
theorem zr_95_70 : zRow xM 95 70 = some (3, .iload_n 2, 71, 2, 0) := rfl
theorem zr_95_71 : zRow xM 95 71 = some (48, .iaload, 72, 0, 0) := rfl
theorem zr_95_72 : zRp 95 72 73 (0, 2) := ⟨_, _, _, _, rfl, by decide, Option.some_ne_none _, rfl⟩
theorem zr_95_73 : zRow xM 95 73 = some (16, .iadd, 74, 0, 0) := rfl
theorem zr_95_74 : zRp 95 74 75 (0, 3) := ⟨_, _, _, _, rfl, by decide, Option.some_ne_none _, rfl⟩
theorem zr_95_75 : zRow xM 95 75 = some (20, .irem, 76, 0, 0) := rfl
theorem zr_95_76 : zRow xM 95 76 = some (16, .iadd, 77, 0, 0) := rfl
theorem zr_95_77 : zRow xM 95 77 = some (45, .dup2, 78, 0, 0) := rfl
theorem zr_95_78 : zRow xM 95 78 = some (48, .iaload, 79, 0, 0) := rfl
theorem zr_95_79 : zRow xM 95 79 = some (7, .aload_n 0, 80, 0, 0) := rfl
theorem zr_95_80 : zRow xM 95 80 = some (3, .iload_n 1, 81, 1, 0) := rfl
theorem zr_95_81 : zRow xM 95 81 = some (3, .iload_n 2, 82, 2, 0) := rfl
theorem zr_95_82 : zRow xM 95 82 = some (105, .invokevirtual 54, 85, 91, 7) := rfl
theorem zr_95_85 : zRow xM 95 85 = some (16, .iadd, 86, 0, 0) := rfl
theorem zr_95_86 : zRow xM 95 86 = some (49, .iastore, 87, 0, 0) := rfl
theorem zr_95_87 : zRow xM 95 87 = some (15, .iinc 2 1, 90, 2, 1) := rfl
theorem zr_95_90 : zRow xM 95 90 = some (42, .goto (-64), 91, 26, 0) := rfl
theorem zr_95_93 : zRow xM 95 93 = some (110, .return_, 94, 0, 0) := rfl
theorem zm_96 : zMt xM 96 = some (6, none, 3, 0, 0) := rfl
theorem zr_96_0 : zRow xM 96 0 = some (3, .iload_n 1, 1, 1, 0) := rfl
theorem zr_96_1 : zRow xM 96 1 = some (7, .aload_n 0, 2, 0, 0) := rfl
theorem zr_96_2 : zRow xM 96 2 = some (46, .getfield 27, 5, 7, 2) := rfl
theorem zr_96_5 : zRow xM 96 5 = some (46, .getfield 34, 8, 4, 0) := rfl
theorem zr_96_8 : zRow xM 96 8 = some (41, .if_icmp .lt 32, 11, 40, 0) := rfl
theorem zr_96_11 : zRow xM 96 11 = some (3, .iload_n 2, 12, 2, 0) := rfl
theorem zr_96_12 : zRow xM 96 12 = some (7, .aload_n 0, 13, 0, 0) := rfl
theorem zr_96_13 : zRow xM 96 13 = some (46, .getfield 47, 16, 7, 0) := rfl
theorem zr_96_16 : zRow xM 96 16 = some (41, .if_icmp .le 23, 19, 39, 5) := rfl
theorem zr_96_19 : zRow xM 96 19 = some (7, .aload_n 0, 20, 0, 0) := rfl
theorem zr_96_20 : zRow xM 96 20 = some (3, .iload_n 2, 21, 2, 0) := rfl
theorem zr_96_21 : zRow xM 96 21 = some (47, .putfield 47, 24, 7, 0) := rfl
theorem zr_96_24 : zRow xM 96 24 = some (7, .aload_n 0, 25, 0, 0) := rfl
theorem zr_96_25 : zRow xM 96 25 = some (46, .getfield 18, 28, 7, 4) := rfl
theorem zr_96_28 : zRp 96 28 29 (0, 0) := ⟨_, _, _, _, rfl, by decide, Option.some_ne_none _, rfl⟩
theorem zr_96_29 : zRow xM 96 29 = some (7, .aload_n 0, 30, 0, 0) := rfl
theorem zr_96_30 : zRow xM 96 30 = some (46, .getfield 9, 33, 7, 1) := rfl
theorem zr_96_33 : zRp 96 33 34 (0, 0) := ⟨_, _, _, _, rfl, by decide, Option.some_ne_none _, rfl⟩
theorem zr_96_34 : zRp 96 34 36 (0, 10) := ⟨_, _, _, _, rfl, by decide, Option.some_ne_none _, rfl⟩
theorem zr_96_36 : zRow xM 96 36 = some (114, .invokestatic 85, 39, 998, 0) := rfl
theorem zr_96_39 : zRow xM 96 39 = some (110, .return_, 40, 0, 0) := rfl
theorem zr_96_40 : zRow xM 96 40 = some (7, .aload_n 0, 41, 0, 0) := rfl
theorem zr_96_41 : zRow xM 96 41 = some (3, .iload_n 1, 42, 1, 0) := rfl
theorem zr_96_42 : zRow xM 96 42 = some (105, .invokevirtual 91, 45, 95, 7) := rfl
theorem zr_96_45 : zRow xM 96 45 = some (3, .iload_n 1, 46, 1, 0) := rfl
theorem zr_96_46 : zRow xM 96 46 = some (40, .ifCond .ne 7, 49, 53, 4) := rfl
theorem zr_96_49 : zRp 96 49 50 (0, 1) := ⟨_, _, _, _, rfl, by decide, Option.some_ne_none _, rfl⟩
theorem zr_96_50 : zRow xM 96 50 = some (42, .goto 4, 51, 54, 0) := rfl
theorem zr_96_53 : zRp 96 53 54 (0, 3) := ⟨_, _, _, _, rfl, by decide, Option.some_ne_none _, rfl⟩
theorem zr_96_54 : zRow xM 96 54 = some (9, .istore_n 3, 55, 3, 0) := rfl
theorem zr_96_55 : zRp 96 55 56 (0, 0) := ⟨_, _, _, _, rfl, by decide, Option.some_ne_none _, rfl⟩
theorem zr_96_56 : zRow xM 96 56 = some (10, .istore 4, 58, 4, 0) := rfl
theorem zr_96_58 : zRow xM 96 58 = some (4, .iload 4, 60, 4, 0) := rfl
theorem zr_96_60 : zRow xM 96 60 = some (3, .iload_n 3, 61, 3, 0) := rfl
theorem zr_96_61 : zRow xM 96 61 = some (41, .if_icmp .ge 59, 64, 120, 3) := rfl
theorem zr_96_64 : zRow xM 96 64 = some (3, .iload_n 2, 65, 2, 0) := rfl
theorem zr_96_65 : zRow xM 96 65 = some (7, .aload_n 0, 66, 0, 0) := rfl
theorem zr_96_66 : zRow xM 96 66 = some (46, .getfield 21, 69, 7, 5) := rfl
theorem zr_96_69 : zRow xM 96 69 = some (3, .iload_n 1, 70, 1, 0) := rfl
theorem zr_96_70 : zRp 96 70 71 (0, 3) := ⟨_, _, _, _, rfl, by decide, Option.some_ne_none _, rfl⟩
theorem zr_96_71 : zRow xM 96 71 = some (18, .imul, 72, 0, 0) := rfl
theorem zr_96_72 : zRow xM 96 72 = some (4, .iload 4, 74, 4, 0) := rfl
theorem zr_96_74 : zRow xM 96 74 = some (16, .iadd, 75, 0, 0) := rfl
theorem zr_96_75 : zRow xM 96 75 = some (48, .iaload, 76, 0, 0) := rfl
theorem zr_96_76 : zRow xM 96 76 = some (16, .iadd, 77, 0, 0) := rfl
theorem zr_96_77 : zRow xM 96 77 = some (10, .istore 5, 79, 5, 0) := rfl
theorem zr_96_79 : zRow xM 96 79 = some (4, .iload 5, 81, 5, 0) := rfl
theorem zr_96_81 : zRow xM 96 81 = some (7, .aload_n 0, 82, 0, 0) := rfl
theorem zr_96_82 : zRow xM 96 82 = some (46, .getfield 24, 85, 7, 6) := rfl
theorem zr_96_85 : zRow xM 96 85 = some (3, .iload_n 1, 86, 1, 0) := rfl
theorem zr_96_86 : zRp 96 86 87 (0, 1) := ⟨_, _, _, _, rfl, by decide, Option.some_ne_none _, rfl⟩
theorem zr_96_87 : zRow xM 96 87 = some (16, .iadd, 88, 0, 0) := rfl
theorem zr_96_88 : zRow xM 96 88 = some (48, .iaload, 89, 0, 0) := rfl
theorem zr_96_89 : zRow xM 96 89 = some (16, .iadd, 90, 0, 0) := rfl
theorem zr_96_90 : zRow xM 96 90 = some (7, .aload_n 0, 91, 0, 0) := rfl
theorem zr_96_91 : zRow xM 96 91 = some (46, .getfield 47, 94, 7, 0) := rfl
theorem zr_96_94 : zRow xM 96 94 = some (41, .if_icmp .le 20, 97, 114, 5) := rfl
theorem zr_96_97 : zRow xM 96 97 = some (7, .aload_n 0, 98, 0, 0) := rfl
theorem zr_96_98 : zRow xM 96 98 = some (46, .getfield 18, 101, 7, 4) := rfl
theorem zr_96_101 : zRow xM 96 101 = some (3, .iload_n 1, 102, 1, 0) := rfl
theorem zr_96_102 : zRow xM 96 102 = some (4, .iload 4, 104, 4, 0) := rfl
theorem zr_96_104 : zRow xM 96 104 = some (49, .iastore, 105, 0, 0) := rfl
theorem zr_96_105 : zRow xM 96 105 = some (7, .aload_n 0, 106, 0, 0) := rfl
theorem zr_96_106 : zRow xM 96 106 = some (3, .iload_n 1, 107, 1, 0) := rfl
theorem zr_96_107 : zRp 96 107 108 (0, 1) := ⟨_, _, _, _, rfl, by decide, Option.some_ne_none _, rfl⟩
theorem zr_96_108 : zRow xM 96 108 = some (16, .iadd, 109, 0, 0) := rfl
theorem zr_96_109 : zRow xM 96 109 = some (4, .iload 5, 111, 5, 0) := rfl
theorem zr_96_111 : zRow xM 96 111 = some (105, .invokevirtual 50, 114, 96, 7) := rfl
theorem zr_96_114 : zRow xM 96 114 = some (15, .iinc 4 1, 117, 4, 1) := rfl
theorem zr_96_117 : zRow xM 96 117 = some (42, .goto (-59), 118, 58, 0) := rfl
theorem zr_96_120 : zRow xM 96 120 = some (110, .return_, 121, 0, 0) := rfl
theorem zm_97 : zMt xM 97 = some (1, none, 1, 0, 0) := rfl
theorem zr_97_0 : zRow xM 97 0 = some (7, .aload_n 0, 1, 0, 0) := rfl
theorem zr_97_1 : zRow xM 97 1 = some (105, .invokevirtual 31, 4, 90, 7) := rfl
theorem zr_97_4 : zRow xM 97 4 = some (7, .aload_n 0, 5, 0, 0) := rfl
theorem zr_97_5 : zRow xM 97 5 = some (105, .invokevirtual 44, 8, 94, 7) := rfl
theorem zr_97_8 : zRow xM 97 8 = some (7, .aload_n 0, 9, 0, 0) := rfl
theorem zr_97_9 : zRp 97 9 10 (0, -1) := ⟨_, _, _, _, rfl, by decide, Option.some_ne_none _, rfl⟩
theorem zr_97_10 : zRow xM 97 10 = some (47, .putfield 47, 13, 7, 0) := rfl
theorem zr_97_13 : zRow xM 97 13 = some (7, .aload_n 0, 14, 0, 0) := rfl
theorem zr_97_14 : zRp 97 14 15 (0, 0) := ⟨_, _, _, _, rfl, by decide, Option.some_ne_none _, rfl⟩
theorem zr_97_15 : zRp 97 15 16 (0, 0) := ⟨_, _, _, _, rfl, by decide, Option.some_ne_none _, rfl⟩
theorem zr_97_16 : zRow xM 97 16 = some (105, .invokevirtual 50, 19, 96, 7) := rfl
theorem zr_97_19 : zRow xM 97 19 = some (110, .return_, 20, 0, 0) := rfl
theorem zm_99 : zMt xM 99 = some (2, (some .int), 2, 0, 0) := rfl
theorem zr_99_0 : zRow xM 99 0 = some (3, .iload_n 1, 1, 1, 0) := rfl
theorem zr_99_1 : zRp 99 1 3 (0, -60) := ⟨_, _, _, _, rfl, by decide, Option.some_ne_none _, rfl⟩
theorem zr_99_3 : zRow xM 99 3 = some (41, .if_icmp .lt 9, 6, 12, 0) := rfl
theorem zr_99_6 : zRow xM 99 6 = some (3, .iload_n 1, 7, 1, 0) := rfl
theorem zr_99_7 : zRp 99 7 9 (0, 100) := ⟨_, _, _, _, rfl, by decide, Option.some_ne_none _, rfl⟩
theorem zr_99_9 : zRow xM 99 9 = some (41, .if_icmp .lt 6, 12, 15, 0) := rfl
theorem zr_99_12 : zRp 99 12 14 (0, -2) := ⟨_, _, _, _, rfl, by decide, Option.some_ne_none _, rfl⟩
theorem zr_99_14 : zRow xM 99 14 = some (108, .ireturn, 15, 0, 0) := rfl
theorem zr_99_15 : zRow xM 99 15 = some (7, .aload_n 0, 16, 0, 0) := rfl
theorem zr_99_16 : zRow xM 99 16 = some (46, .getfield 10, 19, 8, 0) := rfl
theorem zr_99_19 : zRow xM 99 19 = some (46, .getfield 70, 22, 4, 0) := rfl
theorem zr_99_22 : zRp 99 22 24 (0, 10) := ⟨_, _, _, _, rfl, by decide, Option.some_ne_none _, rfl⟩
theorem zr_99_24 : zRow xM 99 24 = some (41, .if_icmp .lt 6, 27, 30, 0) := rfl
theorem zr_99_27 : zRp 99 27 29 (0, -4) := ⟨_, _, _, _, rfl, by decide, Option.some_ne_none _, rfl⟩
theorem zr_99_29 : zRow xM 99 29 = some (108, .ireturn, 30, 0, 0) := rfl
theorem zr_99_30 : zRow xM 99 30 = some (7, .aload_n 0, 31, 0, 0) := rfl
theorem zr_99_31 : zRow xM 99 31 = some (46, .getfield 10, 34, 8, 0) := rfl
theorem zr_99_34 : zRow xM 99 34 = some (46, .getfield 74, 37, 4, 6) := rfl
theorem zr_99_37 : zRow xM 99 37 = some (7, .aload_n 0, 38, 0, 0) := rfl
theorem zr_99_38 : zRow xM 99 38 = some (46, .getfield 10, 41, 8, 0) := rfl
theorem zr_99_41 : zRow xM 99 41 = some (46, .getfield 70, 44, 4, 0) := rfl
theorem zr_99_44 : zRow xM 99 44 = some (3, .iload_n 1, 45, 1, 0) := rfl
theorem zr_99_45 : zRow xM 99 45 = some (49, .iastore, 46, 0, 0) := rfl
theorem zr_99_46 : zRow xM 99 46 = some (7, .aload_n 0, 47, 0, 0) := rfl
theorem zr_99_47 : zRow xM 99 47 = some (46, .getfield 10, 50, 8, 0) := rfl
theorem zr_99_50 : zRow xM 99 50 = some (43, .dup, 51, 0, 0) := rfl
theorem zr_99_51 : zRow xM 99 51 = some (46, .getfield 70, 54, 4, 0) := rfl
theorem zr_99_54 : zRow xM 99 54 = some (44, .dup_x1, 55, 0, 0) := rfl
theorem zr_99_55 : zRp 99 55 56 (0, 1) := ⟨_, _, _, _, rfl, by decide, Option.some_ne_none _, rfl⟩
theorem zr_99_56 : zRow xM 99 56 = some (16, .iadd, 57, 0, 0) := rfl
theorem zr_99_57 : zRow xM 99 57 = some (47, .putfield 70, 60, 4, 0) := rfl
theorem zr_99_60 : zRow xM 99 60 = some (108, .ireturn, 61, 0, 0) := rfl
theorem zm_100 : zMt xM 100 = some (3, (some .boolean), 3, 0, 0) := rfl
theorem zr_100_0 : zRow xM 100 0 = some (3, .iload_n 0, 1, 0, 0) := rfl
theorem zr_100_1 : zRow xM 100 1 = some (3, .iload_n 1, 2, 1, 0) := rfl
theorem zr_100_2 : zRow xM 100 2 = some (41, .if_icmp .lt 12, 5, 14, 0) := rfl
theorem zr_100_5 : zRow xM 100 5 = some (3, .iload_n 0, 6, 0, 0) := rfl
theorem zr_100_6 : zRow xM 100 6 = some (3, .iload_n 2, 7, 2, 0) := rfl
theorem zr_100_7 : zRow xM 100 7 = some (41, .if_icmp .gt 7, 10, 14, 2) := rfl
theorem zr_100_10 : zRp 100 10 11 (0, 1) := ⟨_, _, _, _, rfl, by decide, Option.some_ne_none _, rfl⟩
theorem zr_100_11 : zRow xM 100 11 = some (42, .goto 4, 12, 15, 0) := rfl
theorem zr_100_14 : zRp 100 14 15 (0, 0) := ⟨_, _, _, _, rfl, by decide, Option.some_ne_none _, rfl⟩
theorem zr_100_15 : zRow xM 100 15 = some (108, .ireturn, 16, 0, 0) := rfl
theorem zm_101 : zMt xM 101 = some (1, (some .boolean), 1, 0, 0) := rfl
theorem zr_101_0 : zRow xM 101 0 = some (3, .iload_n 0, 1, 0, 0) := rfl
theorem zr_101_1 : zRp 101 1 2 (0, 0) := ⟨_, _, _, _, rfl, by decide, Option.some_ne_none _, rfl⟩
theorem zr_101_2 : zRp 101 2 4 (0, 99) := ⟨_, _, _, _, rfl, by decide, Option.some_ne_none _, rfl⟩
theorem zr_101_4 : zRow xM 101 4 = some (107, .invokestatic 85, 7, 100, 0) := rfl
theorem zr_101_7 : zRow xM 101 7 = some (108, .ireturn, 8, 0, 0) := rfl
theorem zm_102 : zMt xM 102 = some (6, (some .int), 6, 0, 0) := rfl
theorem zr_102_0 : zRow xM 102 0 = some (3, .iload_n 1, 1, 1, 0) := rfl
theorem zr_102_1 : zRow xM 102 1 = some (107, .invokestatic 77, 4, 101, 0) := rfl
theorem zr_102_4 : zRow xM 102 4 = some (40, .ifCond .eq 36, 7, 40, 1) := rfl
theorem zr_102_7 : zRow xM 102 7 = some (7, .aload_n 0, 8, 0, 0) := rfl
theorem zr_102_8 : zRow xM 102 8 = some (46, .getfield 10, 11, 8, 0) := rfl
theorem zr_102_11 : zRow xM 102 11 = some (3, .iload_n 2, 12, 2, 0) := rfl
theorem zr_102_12 : zRow xM 102 12 = some (3, .iload_n 3, 13, 3, 0) := rfl
theorem zr_102_13 : zRow xM 102 13 = some (105, .invokevirtual 81, 16, 50, 4) := rfl
theorem zr_102_16 : zRow xM 102 16 = some (40, .ifCond .eq 24, 19, 40, 1) := rfl
theorem zr_102_19 : zRow xM 102 19 = some (4, .iload 4, 21, 4, 0) := rfl
theorem zr_102_21 : zRp 102 21 22 (0, 0) := ⟨_, _, _, _, rfl, by decide, Option.some_ne_none _, rfl⟩
theorem zr_102_22 : zRp 102 22 23 (0, 2) := ⟨_, _, _, _, rfl, by decide, Option.some_ne_none _, rfl⟩
theorem zr_102_23 : zRow xM 102 23 = some (107, .invokestatic 85, 26, 100, 0) := rfl
theorem zr_102_26 : zRow xM 102 26 = some (40, .ifCond .eq 14, 29, 40, 1) := rfl
theorem zr_102_29 : zRow xM 102 29 = some (3, .iload_n 1, 30, 1, 0) := rfl
theorem zr_102_30 : zRow xM 102 30 = some (7, .aload_n 0, 31, 0, 0) := rfl
theorem zr_102_31 : zRow xM 102 31 = some (46, .getfield 10, 34, 8, 0) := rfl
theorem zr_102_34 : zRow xM 102 34 = some (105, .invokevirtual 89, 37, 51, 4) := rfl
theorem zr_102_37 : zRow xM 102 37 = some (41, .if_icmp .ge 6, 40, 43, 3) := rfl
theorem zr_102_40 : zRp 102 40 42 (0, -2) := ⟨_, _, _, _, rfl, by decide, Option.some_ne_none _, rfl⟩
theorem zr_102_42 : zRow xM 102 42 = some (108, .ireturn, 43, 0, 0) := rfl
theorem zr_102_43 : zRow xM 102 43 = some (7, .aload_n 0, 44, 0, 0) := rfl
theorem zr_102_44 : zRow xM 102 44 = some (46, .getfield 10, 47, 8, 0) := rfl
theorem zr_102_47 : zRow xM 102 47 = some (46, .getfield 93, 50, 4, 1) := rfl
theorem zr_102_50 : zRp 102 50 52 (0, 60) := ⟨_, _, _, _, rfl, by decide, Option.some_ne_none _, rfl⟩
theorem zr_102_52 : zRow xM 102 52 = some (41, .if_icmp .lt 6, 55, 58, 0) := rfl
theorem zr_102_55 : zRp 102 55 57 (0, -4) := ⟨_, _, _, _, rfl, by decide, Option.some_ne_none _, rfl⟩
theorem zr_102_57 : zRow xM 102 57 = some (108, .ireturn, 58, 0, 0) := rfl
theorem zr_102_58 : zRow xM 102 58 = some (7, .aload_n 0, 59, 0, 0) := rfl
theorem zr_102_59 : zRow xM 102 59 = some (46, .getfield 10, 62, 8, 0) := rfl
theorem zr_102_62 : zRow xM 102 62 = some (3, .iload_n 1, 63, 1, 0) := rfl
theorem zr_102_63 : zRow xM 102 63 = some (3, .iload_n 2, 64, 2, 0) := rfl
theorem zr_102_64 : zRow xM 102 64 = some (3, .iload_n 3, 65, 3, 0) := rfl
theorem zr_102_65 : zRow xM 102 65 = some (4, .iload 4, 67, 4, 0) := rfl
theorem zr_102_67 : zRow xM 102 67 = some (4, .iload 5, 69, 5, 0) := rfl
theorem zr_102_69 : zRow xM 102 69 = some (105, .invokevirtual 96, 72, 52, 4) := rfl
theorem zr_102_72 : zRow xM 102 72 = some (108, .ireturn, 73, 0, 0) := rfl
theorem zm_103 : zMt xM 103 = some (8, (some .int), 4, 0, 0) := rfl
theorem zr_103_0 : zRow xM 103 0 = some (3, .iload_n 1, 1, 1, 0) := rfl
theorem zr_103_1 : zRp 103 1 2 (0, 0) := ⟨_, _, _, _, rfl, by decide, Option.some_ne_none _, rfl⟩
theorem zr_103_2 : zRow xM 103 2 = some (7, .aload_n 0, 3, 0, 0) := rfl
theorem zr_103_3 : zRow xM 103 3 = some (46, .getfield 10, 6, 8, 0) := rfl
theorem zr_103_6 : zRow xM 103 6 = some (46, .getfield 93, 9, 4, 1) := rfl
theorem zr_103_9 : zRp 103 9 10 (0, 1) := ⟨_, _, _, _, rfl, by decide, Option.some_ne_none _, rfl⟩
theorem zr_103_10 : zRow xM 103 10 = some (17, .isub, 11, 0, 0) := rfl
theorem zr_103_11 : zRow xM 103 11 = some (107, .invokestatic 85, 14, 100, 0) := rfl
theorem zr_103_14 : zRow xM 103 14 = some (40, .ifCond .eq 12, 17, 26, 1) := rfl
theorem zr_103_17 : zRow xM 103 17 = some (3, .iload_n 2, 18, 2, 0) := rfl
theorem zr_103_18 : zRp 103 18 19 (0, 0) := ⟨_, _, _, _, rfl, by decide, Option.some_ne_none _, rfl⟩
theorem zr_103_19 : zRp 103 19 20 (0, 1) := ⟨_, _, _, _, rfl, by decide, Option.some_ne_none _, rfl⟩
theorem zr_103_20 : zRow xM 103 20 = some (107, .invokestatic 85, 23, 100, 0) := rfl
theorem zr_103_23 : zRow xM 103 23 = some (40, .ifCond .ne 6, 26, 29, 4) := rfl
theorem zr_103_26 : zRp 103 26 28 (0, -2) := ⟨_, _, _, _, rfl, by decide, Option.some_ne_none _, rfl⟩
theorem zr_103_28 : zRow xM 103 28 = some (108, .ireturn, 29, 0, 0) := rfl
theorem zr_103_29 : zRp 103 29 30 (1, 1) := ⟨_, _, _, _, rfl, by decide, Option.some_ne_none _, rfl⟩
theorem zr_103_30 : zRow xM 103 30 = some (3, .iload_n 1, 31, 1, 0) := rfl
theorem zr_103_31 : zRow xM 103 31 = some (33, .lshl, 32, 0, 0) := rfl
theorem zr_103_32 : zRow xM 103 32 = some (14, .lstore 4, 34, 4, 0) := rfl
theorem zr_103_34 : zRow xM 103 34 = some (3, .iload_n 2, 35, 2, 0) := rfl
theorem zr_103_35 : zRow xM 103 35 = some (40, .ifCond .ne 13, 38, 48, 4) := rfl
theorem zr_103_38 : zRow xM 103 38 = some (7, .aload_n 0, 39, 0, 0) := rfl
theorem zr_103_39 : zRow xM 103 39 = some (46, .getfield 10, 42, 8, 0) := rfl
theorem zr_103_42 : zRow xM 103 42 = some (46, .getfield 100, 45, 4, 2) := rfl
theorem zr_103_45 : zRow xM 103 45 = some (42, .goto 10, 46, 55, 0) := rfl
theorem zr_103_48 : zRow xM 103 48 = some (7, .aload_n 0, 49, 0, 0) := rfl
theorem zr_103_49 : zRow xM 103 49 = some (46, .getfield 10, 52, 8, 0) := rfl
theorem zr_103_52 : zRow xM 103 52 = some (46, .getfield 104, 55, 4, 3) := rfl
theorem zr_103_55 : zRow xM 103 55 = some (14, .lstore 6, 57, 6, 0) := rfl
theorem zr_103_57 : zRow xM 103 57 = some (6, .lload 6, 59, 6, 0) := rfl
theorem zr_103_59 : zRow xM 103 59 = some (6, .lload 4, 61, 4, 0) := rfl
theorem zr_103_61 : zRow xM 103 61 = some (30, .land, 62, 0, 0) := rfl
theorem zr_103_62 : zRp 103 62 63 (1, 0) := ⟨_, _, _, _, rfl, by decide, Option.some_ne_none _, rfl⟩
theorem zr_103_63 : zRow xM 103 63 = some (39, .lcmp, 64, 0, 0) := rfl
theorem zr_103_64 : zRow xM 103 64 = some (40, .ifCond .eq 7, 67, 71, 1) := rfl
theorem zr_103_67 : zRp 103 67 68 (0, 1) := ⟨_, _, _, _, rfl, by decide, Option.some_ne_none _, rfl⟩
theorem zr_103_68 : zRow xM 103 68 = some (42, .goto 4, 69, 72, 0) := rfl
theorem zr_103_71 : zRp 103 71 72 (0, 0) := ⟨_, _, _, _, rfl, by decide, Option.some_ne_none _, rfl⟩
theorem zr_103_72 : zRow xM 103 72 = some (3, .iload_n 3, 73, 3, 0) := rfl
theorem zr_103_73 : zRow xM 103 73 = some (41, .if_icmp .ne 6, 76, 79, 4) := rfl
theorem zr_103_76 : zRp 103 76 78 (0, -3) := ⟨_, _, _, _, rfl, by decide, Option.some_ne_none _, rfl⟩
theorem zr_103_78 : zRow xM 103 78 = some (108, .ireturn, 79, 0, 0) := rfl
theorem zr_103_79 : zRow xM 103 79 = some (3, .iload_n 2, 80, 2, 0) := rfl
theorem zr_103_80 : zRow xM 103 80 = some (40, .ifCond .ne 20, 83, 100, 4) := rfl
theorem zr_103_83 : zRow xM 103 83 = some (7, .aload_n 0, 84, 0, 0) := rfl
theorem zr_103_84 : zRow xM 103 84 = some (46, .getfield 10, 87, 8, 0) := rfl
theorem zr_103_87 : zRow xM 103 87 = some (43, .dup, 88, 0, 0) := rfl
theorem zr_103_88 : zRow xM 103 88 = some (46, .getfield 100, 91, 4, 2) := rfl
theorem zr_103_91 : zRow xM 103 91 = some (6, .lload 4, 93, 4, 0) := rfl
theorem zr_103_93 : zRow xM 103 93 = some (32, .lxor, 94, 0, 0) := rfl
theorem zr_103_94 : zRow xM 103 94 = some (47, .putfield 100, 97, 4, 2) := rfl
theorem zr_103_97 : zRow xM 103 97 = some (42, .goto 17, 98, 114, 0) := rfl
theorem zr_103_100 : zRow xM 103 100 = some (7, .aload_n 0, 101, 0, 0) := rfl
theorem zr_103_101 : zRow xM 103 101 = some (46, .getfield 10, 104, 8, 0) := rfl
theorem zr_103_104 : zRow xM 103 104 = some (43, .dup, 105, 0, 0) := rfl
theorem zr_103_105 : zRow xM 103 105 = some (46, .getfield 104, 108, 4, 3) := rfl
theorem zr_103_108 : zRow xM 103 108 = some (6, .lload 4, 110, 4, 0) := rfl
theorem zr_103_110 : zRow xM 103 110 = some (32, .lxor, 111, 0, 0) := rfl
theorem zr_103_111 : zRow xM 103 111 = some (47, .putfield 104, 114, 4, 3) := rfl
theorem zr_103_114 : zRp 103 114 115 (0, 1) := ⟨_, _, _, _, rfl, by decide, Option.some_ne_none _, rfl⟩
theorem zr_103_115 : zRow xM 103 115 = some (108, .ireturn, 116, 0, 0) := rfl
theorem zm_104 : zMt xM 104 = some (1, (some .boolean), 1, 0, 0) := rfl
theorem zr_104_0 : zRow xM 104 0 = some (3, .iload_n 0, 1, 0, 0) := rfl
theorem zr_104_1 : zRp 104 1 2 (0, 0) := ⟨_, _, _, _, rfl, by decide, Option.some_ne_none _, rfl⟩
theorem zr_104_2 : zRp 104 2 3 (0, 3) := ⟨_, _, _, _, rfl, by decide, Option.some_ne_none _, rfl⟩
theorem zr_104_3 : zRow xM 104 3 = some (107, .invokestatic 85, 6, 100, 0) := rfl
theorem zr_104_6 : zRow xM 104 6 = some (108, .ireturn, 7, 0, 0) := rfl
theorem zm_105 : zMt xM 105 = some (4, (some .int), 3, 0, 0) := rfl
theorem zr_105_0 : zRow xM 105 0 = some (3, .iload_n 1, 1, 1, 0) := rfl
theorem zr_105_1 : zRow xM 105 1 = some (107, .invokestatic 107, 4, 104, 0) := rfl
theorem zr_105_4 : zRow xM 105 4 = some (40, .ifCond .eq 14, 7, 18, 1) := rfl
theorem zr_105_7 : zRow xM 105 7 = some (3, .iload_n 2, 8, 2, 0) := rfl
theorem zr_105_8 : zRp 105 8 9 (0, 0) := ⟨_, _, _, _, rfl, by decide, Option.some_ne_none _, rfl⟩
theorem zr_105_9 : zRp 105 9 12 (0, 9999) := ⟨_, _, _, _, rfl, by decide, Option.some_ne_none _, rfl⟩
theorem zr_105_12 : zRow xM 105 12 = some (107, .invokestatic 85, 15, 100, 0) := rfl
theorem zr_105_15 : zRow xM 105 15 = some (40, .ifCond .ne 6, 18, 21, 4) := rfl
theorem zr_105_18 : zRp 105 18 20 (0, -2) := ⟨_, _, _, _, rfl, by decide, Option.some_ne_none _, rfl⟩
theorem zr_105_20 : zRow xM 105 20 = some (108, .ireturn, 21, 0, 0) := rfl
theorem zr_105_21 : zRow xM 105 21 = some (7, .aload_n 0, 22, 0, 0) := rfl
theorem zr_105_22 : zRow xM 105 22 = some (46, .getfield 10, 25, 8, 0) := rfl
theorem zr_105_25 : zRow xM 105 25 = some (46, .getfield 110, 28, 4, 13) := rfl
theorem zr_105_28 : zRow xM 105 28 = some (3, .iload_n 1, 29, 1, 0) := rfl
theorem zr_105_29 : zRow xM 105 29 = some (48, .iaload, 30, 0, 0) := rfl
theorem zr_105_30 : zRow xM 105 30 = some (9, .istore_n 3, 31, 3, 0) := rfl
theorem zr_105_31 : zRow xM 105 31 = some (7, .aload_n 0, 32, 0, 0) := rfl
theorem zr_105_32 : zRow xM 105 32 = some (46, .getfield 10, 35, 8, 0) := rfl
theorem zr_105_35 : zRow xM 105 35 = some (46, .getfield 110, 38, 4, 13) := rfl
theorem zr_105_38 : zRow xM 105 38 = some (3, .iload_n 1, 39, 1, 0) := rfl
theorem zr_105_39 : zRow xM 105 39 = some (3, .iload_n 2, 40, 2, 0) := rfl
theorem zr_105_40 : zRow xM 105 40 = some (49, .iastore, 41, 0, 0) := rfl
theorem zr_105_41 : zRow xM 105 41 = some (3, .iload_n 3, 42, 3, 0) := rfl
theorem zr_105_42 : zRow xM 105 42 = some (108, .ireturn, 43, 0, 0) := rfl
theorem zm_106 : zMt xM 106 = some (4, (some .int), 3, 0, 0) := rfl
theorem zr_106_0 : zRow xM 106 0 = some (3, .iload_n 1, 1, 1, 0) := rfl
theorem zr_106_1 : zRow xM 106 1 = some (107, .invokestatic 107, 4, 104, 0) := rfl
theorem zr_106_4 : zRow xM 106 4 = some (40, .ifCond .eq 13, 7, 17, 1) := rfl
theorem zr_106_7 : zRow xM 106 7 = some (3, .iload_n 2, 8, 2, 0) := rfl
theorem zr_106_8 : zRp 106 8 9 (0, 0) := ⟨_, _, _, _, rfl, by decide, Option.some_ne_none _, rfl⟩
theorem zr_106_9 : zRp 106 9 11 (0, 127) := ⟨_, _, _, _, rfl, by decide, Option.some_ne_none _, rfl⟩
theorem zr_106_11 : zRow xM 106 11 = some (107, .invokestatic 85, 14, 100, 0) := rfl
theorem zr_106_14 : zRow xM 106 14 = some (40, .ifCond .ne 6, 17, 20, 4) := rfl
theorem zr_106_17 : zRp 106 17 19 (0, -2) := ⟨_, _, _, _, rfl, by decide, Option.some_ne_none _, rfl⟩
theorem zr_106_19 : zRow xM 106 19 = some (108, .ireturn, 20, 0, 0) := rfl
theorem zr_106_20 : zRow xM 106 20 = some (7, .aload_n 0, 21, 0, 0) := rfl
theorem zr_106_21 : zRow xM 106 21 = some (46, .getfield 10, 24, 8, 0) := rfl
theorem zr_106_24 : zRow xM 106 24 = some (46, .getfield 113, 27, 4, 14) := rfl
theorem zr_106_27 : zRow xM 106 27 = some (3, .iload_n 1, 28, 1, 0) := rfl
theorem zr_106_28 : zRow xM 106 28 = some (48, .iaload, 29, 0, 0) := rfl
theorem zr_106_29 : zRow xM 106 29 = some (9, .istore_n 3, 30, 3, 0) := rfl
theorem zr_106_30 : zRow xM 106 30 = some (3, .iload_n 3, 31, 3, 0) := rfl
theorem zr_106_31 : zRp 106 31 33 (0, 50) := ⟨_, _, _, _, rfl, by decide, Option.some_ne_none _, rfl⟩
theorem zr_106_33 : zRow xM 106 33 = some (41, .if_icmp .lt 6, 36, 39, 0) := rfl
theorem zr_106_36 : zRp 106 36 38 (0, -4) := ⟨_, _, _, _, rfl, by decide, Option.some_ne_none _, rfl⟩
theorem zr_106_38 : zRow xM 106 38 = some (108, .ireturn, 39, 0, 0) := rfl
theorem zr_106_39 : zRow xM 106 39 = some (7, .aload_n 0, 40, 0, 0) := rfl
theorem zr_106_40 : zRow xM 106 40 = some (46, .getfield 10, 43, 8, 0) := rfl
theorem zr_106_43 : zRow xM 106 43 = some (46, .getfield 116, 46, 4, 15) := rfl
theorem zr_106_46 : zRow xM 106 46 = some (3, .iload_n 1, 47, 1, 0) := rfl
theorem zr_106_47 : zRp 106 47 49 (0, 50) := ⟨_, _, _, _, rfl, by decide, Option.some_ne_none _, rfl⟩
theorem zr_106_49 : zRow xM 106 49 = some (18, .imul, 50, 0, 0) := rfl
theorem zr_106_50 : zRow xM 106 50 = some (3, .iload_n 3, 51, 3, 0) := rfl
theorem zr_106_51 : zRow xM 106 51 = some (16, .iadd, 52, 0, 0) := rfl
theorem zr_106_52 : zRow xM 106 52 = some (3, .iload_n 2, 53, 2, 0) := rfl
theorem zr_106_53 : zRow xM 106 53 = some (49, .iastore, 54, 0, 0) := rfl
theorem zr_106_54 : zRow xM 106 54 = some (7, .aload_n 0, 55, 0, 0) := rfl
theorem zr_106_55 : zRow xM 106 55 = some (46, .getfield 10, 58, 8, 0) := rfl
theorem zr_106_58 : zRow xM 106 58 = some (46, .getfield 113, 61, 4, 14) := rfl
theorem zr_106_61 : zRow xM 106 61 = some (3, .iload_n 1, 62, 1, 0) := rfl
theorem zr_106_62 : zRow xM 106 62 = some (3, .iload_n 3, 63, 3, 0) := rfl
theorem zr_106_63 : zRp 106 63 64 (0, 1) := ⟨_, _, _, _, rfl, by decide, Option.some_ne_none _, rfl⟩
theorem zr_106_64 : zRow xM 106 64 = some (16, .iadd, 65, 0, 0) := rfl
theorem zr_106_65 : zRow xM 106 65 = some (49, .iastore, 66, 0, 0) := rfl
theorem zr_106_66 : zRow xM 106 66 = some (3, .iload_n 3, 67, 3, 0) := rfl
theorem zr_106_67 : zRp 106 67 68 (0, 1) := ⟨_, _, _, _, rfl, by decide, Option.some_ne_none _, rfl⟩
theorem zr_106_68 : zRow xM 106 68 = some (16, .iadd, 69, 0, 0) := rfl
theorem zr_106_69 : zRow xM 106 69 = some (108, .ireturn, 70, 0, 0) := rfl
theorem zm_107 : zMt xM 107 = some (3, (some .int), 2, 0, 0) := rfl
theorem zr_107_0 : zRow xM 107 0 = some (3, .iload_n 1, 1, 1, 0) := rfl
theorem zr_107_1 : zRow xM 107 1 = some (107, .invokestatic 107, 4, 104, 0) := rfl
theorem zr_107_4 : zRow xM 107 4 = some (40, .ifCond .ne 6, 7, 10, 4) := rfl
theorem zr_107_7 : zRp 107 7 9 (0, -2) := ⟨_, _, _, _, rfl, by decide, Option.some_ne_none _, rfl⟩
theorem zr_107_9 : zRow xM 107 9 = some (108, .ireturn, 10, 0, 0) := rfl
theorem zr_107_10 : zRow xM 107 10 = some (7, .aload_n 0, 11, 0, 0) := rfl
theorem zr_107_11 : zRow xM 107 11 = some (46, .getfield 10, 14, 8, 0) := rfl
theorem zr_107_14 : zRow xM 107 14 = some (46, .getfield 113, 17, 4, 14) := rfl
theorem zr_107_17 : zRow xM 107 17 = some (3, .iload_n 1, 18, 1, 0) := rfl
theorem zr_107_18 : zRow xM 107 18 = some (48, .iaload, 19, 0, 0) := rfl
theorem zr_107_19 : zRow xM 107 19 = some (9, .istore_n 2, 20, 2, 0) := rfl
theorem zr_107_20 : zRow xM 107 20 = some (7, .aload_n 0, 21, 0, 0) := rfl
theorem zr_107_21 : zRow xM 107 21 = some (46, .getfield 10, 24, 8, 0) := rfl
theorem zr_107_24 : zRow xM 107 24 = some (46, .getfield 113, 27, 4, 14) := rfl
theorem zr_107_27 : zRow xM 107 27 = some (3, .iload_n 1, 28, 1, 0) := rfl
theorem zr_107_28 : zRp 107 28 29 (0, 0) := ⟨_, _, _, _, rfl, by decide, Option.some_ne_none _, rfl⟩
theorem zr_107_29 : zRow xM 107 29 = some (49, .iastore, 30, 0, 0) := rfl
theorem zr_107_30 : zRow xM 107 30 = some (3, .iload_n 2, 31, 2, 0) := rfl
theorem zr_107_31 : zRow xM 107 31 = some (108, .ireturn, 32, 0, 0) := rfl
theorem zm_108 : zMt xM 108 = some (2, (some .int), 2, 0, 0) := rfl
theorem zr_108_0 : zRow xM 108 0 = some (3, .iload_n 1, 1, 1, 0) := rfl
theorem zr_108_1 : zRow xM 108 1 = some (107, .invokestatic 107, 4, 104, 0) := rfl
theorem zr_108_4 : zRow xM 108 4 = some (40, .ifCond .eq 14, 7, 18, 1) := rfl
theorem zr_108_7 : zRow xM 108 7 = some (7, .aload_n 0, 8, 0, 0) := rfl
theorem zr_108_8 : zRow xM 108 8 = some (46, .getfield 36, 11, 8, 4) := rfl
theorem zr_108_11 : zRow xM 108 11 = some (3, .iload_n 1, 12, 1, 0) := rfl
theorem zr_108_12 : zRow xM 108 12 = some (105, .invokevirtual 119, 15, 40, 3) := rfl
theorem zr_108_15 : zRow xM 108 15 = some (42, .goto 5, 16, 20, 0) := rfl
theorem zr_108_18 : zRp 108 18 20 (0, -2) := ⟨_, _, _, _, rfl, by decide, Option.some_ne_none _, rfl⟩
theorem zr_108_20 : zRow xM 108 20 = some (108, .ireturn, 21, 0, 0) := rfl
theorem zm_109 : zMt xM 109 = some (4, (some .int), 4, 0, 0) := rfl
theorem zr_109_0 : zRow xM 109 0 = some (3, .iload_n 1, 1, 1, 0) := rfl
theorem zr_109_1 : zRow xM 109 1 = some (107, .invokestatic 107, 4, 104, 0) := rfl
theorem zr_109_4 : zRow xM 109 4 = some (40, .ifCond .eq 29, 7, 33, 1) := rfl
theorem zr_109_7 : zRow xM 109 7 = some (7, .aload_n 0, 8, 0, 0) := rfl
theorem zr_109_8 : zRow xM 109 8 = some (46, .getfield 10, 11, 8, 0) := rfl
theorem zr_109_11 : zRow xM 109 11 = some (3, .iload_n 2, 12, 2, 0) := rfl
theorem zr_109_12 : zRow xM 109 12 = some (105, .invokevirtual 123, 15, 49, 4) := rfl
theorem zr_109_15 : zRow xM 109 15 = some (40, .ifCond .eq 18, 18, 33, 1) := rfl
theorem zr_109_18 : zRow xM 109 18 = some (3, .iload_n 3, 19, 3, 0) := rfl
theorem zr_109_19 : zRp 109 19 20 (0, 0) := ⟨_, _, _, _, rfl, by decide, Option.some_ne_none _, rfl⟩
theorem zr_109_20 : zRow xM 109 20 = some (7, .aload_n 0, 21, 0, 0) := rfl
theorem zr_109_21 : zRow xM 109 21 = some (46, .getfield 10, 24, 8, 0) := rfl
theorem zr_109_24 : zRow xM 109 24 = some (46, .getfield 93, 27, 4, 1) := rfl
theorem zr_109_27 : zRow xM 109 27 = some (107, .invokestatic 85, 30, 100, 0) := rfl
theorem zr_109_30 : zRow xM 109 30 = some (40, .ifCond .ne 6, 33, 36, 4) := rfl
theorem zr_109_33 : zRp 109 33 35 (0, -100000) := ⟨_, _, _, _, rfl, by decide, Option.some_ne_none _, rfl⟩
theorem zr_109_35 : zRow xM 109 35 = some (108, .ireturn, 36, 0, 0) := rfl
theorem zr_109_36 : zRow xM 109 36 = some (7, .aload_n 0, 37, 0, 0) := rfl
theorem zr_109_37 : zRow xM 109 37 = some (46, .getfield 36, 40, 8, 4) := rfl
theorem zr_109_40 : zRow xM 109 40 = some (3, .iload_n 1, 41, 1, 0) := rfl
theorem zr_109_41 : zRow xM 109 41 = some (105, .invokevirtual 127, 44, 16, 3) := rfl
theorem zr_109_44 : zRow xM 109 44 = some (7, .aload_n 0, 45, 0, 0) := rfl
theorem zr_109_45 : zRow xM 109 45 = some (46, .getfield 36, 48, 8, 4) := rfl
theorem zr_109_48 : zRow xM 109 48 = some (3, .iload_n 3, 49, 3, 0) := rfl
theorem zr_109_49 : zRow xM 109 49 = some (105, .invokevirtual 131, 52, 41, 3) := rfl
theorem zr_109_52 : zRow xM 109 52 = some (7, .aload_n 0, 53, 0, 0) := rfl
theorem zr_109_53 : zRow xM 109 53 = some (46, .getfield 36, 56, 8, 4) := rfl
theorem zr_109_56 : zRow xM 109 56 = some (46, .getfield 134, 59, 3, 0) := rfl
theorem zr_109_59 : zRow xM 109 59 = some (3, .iload_n 2, 60, 2, 0) := rfl
theorem zr_109_60 : zRow xM 109 60 = some (48, .iaload, 61, 0, 0) := rfl
theorem zr_109_61 : zRow xM 109 61 = some (108, .ireturn, 62, 0, 0) := rfl
theorem zm_110 : zMt xM 110 = some (3, (some .int), 3, 0, 0) := rfl
theorem zr_110_0 : zRow xM 110 0 = some (3, .iload_n 1, 1, 1, 0) := rfl
theorem zr_110_1 : zRow xM 110 1 = some (107, .invokestatic 107, 4, 104, 0) := rfl
theorem zr_110_4 : zRow xM 110 4 = some (40, .ifCond .eq 10, 7, 14, 1) := rfl
theorem zr_110_7 : zRow xM 110 7 = some (3, .iload_n 2, 8, 2, 0) := rfl
theorem zr_110_8 : zRow xM 110 8 = some (107, .invokestatic 77, 11, 101, 0) := rfl
theorem zr_110_11 : zRow xM 110 11 = some (40, .ifCond .ne 6, 14, 17, 4) := rfl
theorem zr_110_14 : zRp 110 14 16 (0, -100000) := ⟨_, _, _, _, rfl, by decide, Option.some_ne_none _, rfl⟩
theorem zr_110_16 : zRow xM 110 16 = some (108, .ireturn, 17, 0, 0) := rfl
theorem zr_110_17 : zRow xM 110 17 = some (7, .aload_n 0, 18, 0, 0) := rfl
theorem zr_110_18 : zRow xM 110 18 = some (46, .getfield 36, 21, 8, 4) := rfl
theorem zr_110_21 : zRow xM 110 21 = some (3, .iload_n 1, 22, 1, 0) := rfl
theorem zr_110_22 : zRow xM 110 22 = some (3, .iload_n 2, 23, 2, 0) := rfl
theorem zr_110_23 : zRow xM 110 23 = some (105, .invokevirtual 137, 26, 42, 3) := rfl
theorem zr_110_26 : zRow xM 110 26 = some (108, .ireturn, 27, 0, 0) := rfl
theorem zm_111 : zMt xM 111 = some (5, (some .int), 4, 0, 0) := rfl
theorem zr_111_0 : zRow xM 111 0 = some (3, .iload_n 1, 1, 1, 0) := rfl
theorem zr_111_1 : zRow xM 111 1 = some (107, .invokestatic 107, 4, 104, 0) := rfl
theorem zr_111_4 : zRow xM 111 4 = some (40, .ifCond .eq 22, 7, 26, 1) := rfl
theorem zr_111_7 : zRow xM 111 7 = some (3, .iload_n 2, 8, 2, 0) := rfl
theorem zr_111_8 : zRow xM 111 8 = some (107, .invokestatic 77, 11, 101, 0) := rfl
theorem zr_111_11 : zRow xM 111 11 = some (40, .ifCond .eq 15, 14, 26, 1) := rfl
theorem zr_111_14 : zRow xM 111 14 = some (3, .iload_n 3, 15, 3, 0) := rfl
theorem zr_111_15 : zRow xM 111 15 = some (107, .invokestatic 77, 18, 101, 0) := rfl
theorem zr_111_18 : zRow xM 111 18 = some (40, .ifCond .eq 8, 21, 26, 1) := rfl
theorem zr_111_21 : zRow xM 111 21 = some (3, .iload_n 3, 22, 3, 0) := rfl
theorem zr_111_22 : zRow xM 111 22 = some (3, .iload_n 2, 23, 2, 0) := rfl
theorem zr_111_23 : zRow xM 111 23 = some (41, .if_icmp .gt 6, 26, 29, 2) := rfl
theorem zr_111_26 : zRp 111 26 28 (0, -2) := ⟨_, _, _, _, rfl, by decide, Option.some_ne_none _, rfl⟩
theorem zr_111_28 : zRow xM 111 28 = some (108, .ireturn, 29, 0, 0) := rfl
theorem zr_111_29 : zRow xM 111 29 = some (7, .aload_n 0, 30, 0, 0) := rfl
theorem zr_111_30 : zRow xM 111 30 = some (46, .getfield 10, 33, 8, 0) := rfl
theorem zr_111_33 : zRow xM 111 33 = some (3, .iload_n 2, 34, 2, 0) := rfl
theorem zr_111_34 : zRow xM 111 34 = some (105, .invokevirtual 141, 37, 55, 4) := rfl
theorem zr_111_37 : zRow xM 111 37 = some (7, .aload_n 0, 38, 0, 0) := rfl
theorem zr_111_38 : zRow xM 111 38 = some (46, .getfield 10, 41, 8, 0) := rfl
theorem zr_111_41 : zRow xM 111 41 = some (3, .iload_n 3, 42, 3, 0) := rfl
theorem zr_111_42 : zRow xM 111 42 = some (105, .invokevirtual 141, 45, 55, 4) := rfl
theorem zr_111_45 : zRow xM 111 45 = some (21, .iand, 46, 0, 0) := rfl
theorem zr_111_46 : zRow xM 111 46 = some (10, .istore 4, 48, 4, 0) := rfl
theorem zr_111_48 : zRow xM 111 48 = some (4, .iload 4, 50, 4, 0) := rfl
theorem zr_111_50 : zRow xM 111 50 = some (40, .ifCond .ne 5, 53, 55, 4) := rfl
theorem zr_111_53 : zRp 111 53 54 (0, 0) := ⟨_, _, _, _, rfl, by decide, Option.some_ne_none _, rfl⟩
theorem zr_111_54 : zRow xM 111 54 = some (108, .ireturn, 55, 0, 0) := rfl
theorem zr_111_55 : zRow xM 111 55 = some (7, .aload_n 0, 56, 0, 0) := rfl
theorem zr_111_56 : zRow xM 111 56 = some (46, .getfield 27, 59, 8, 3) := rfl
theorem zr_111_59 : zRow xM 111 59 = some (7, .aload_n 0, 60, 0, 0) := rfl
theorem zr_111_60 : zRow xM 111 60 = some (46, .getfield 36, 63, 8, 4) := rfl
theorem zr_111_63 : zRow xM 111 63 = some (3, .iload_n 1, 64, 1, 0) := rfl
theorem zr_111_64 : zRow xM 111 64 = some (3, .iload_n 2, 65, 2, 0) := rfl
theorem zr_111_65 : zRow xM 111 65 = some (3, .iload_n 3, 66, 3, 0) := rfl
theorem zr_111_66 : zRow xM 111 66 = some (4, .iload 4, 68, 4, 0) := rfl
theorem zr_111_68 : zRow xM 111 68 = some (105, .invokevirtual 144, 71, 43, 3) := rfl
theorem zr_111_71 : zRow xM 111 71 = some (36, .i2l, 72, 0, 0) := rfl
theorem zr_111_72 : zRow xM 111 72 = some (4, .iload 4, 74, 4, 0) := rfl
theorem zr_111_74 : zRow xM 111 74 = some (107, .invokestatic 148, 77, 29, 0) := rfl
theorem zr_111_77 : zRow xM 111 77 = some (36, .i2l, 78, 0, 0) := rfl
theorem zr_111_78 : zRow xM 111 78 = some (105, .invokevirtual 153, 81, 38, 2) := rfl
theorem zr_111_81 : zRp 111 81 82 (0, 1) := ⟨_, _, _, _, rfl, by decide, Option.some_ne_none _, rfl⟩
theorem zr_111_82 : zRow xM 111 82 = some (108, .ireturn, 83, 0, 0) := rfl
theorem zm_112 : zMt xM 112 = some (5, (some .int), 4, 0, 0) := rfl
theorem zr_112_0 : zRow xM 112 0 = some (3, .iload_n 1, 1, 1, 0) := rfl
theorem zr_112_1 : zRow xM 112 1 = some (107, .invokestatic 107, 4, 104, 0) := rfl
theorem zr_112_4 : zRow xM 112 4 = some (40, .ifCond .eq 21, 7, 25, 1) := rfl
theorem zr_112_7 : zRow xM 112 7 = some (7, .aload_n 0, 8, 0, 0) := rfl
theorem zr_112_8 : zRow xM 112 8 = some (46, .getfield 10, 11, 8, 0) := rfl
theorem zr_112_11 : zRow xM 112 11 = some (3, .iload_n 2, 12, 2, 0) := rfl
theorem zr_112_12 : zRow xM 112 12 = some (105, .invokevirtual 123, 15, 49, 4) := rfl
theorem zr_112_15 : zRow xM 112 15 = some (40, .ifCond .eq 10, 18, 25, 1) := rfl
theorem zr_112_18 : zRow xM 112 18 = some (3, .iload_n 3, 19, 3, 0) := rfl
theorem zr_112_19 : zRow xM 112 19 = some (107, .invokestatic 77, 22, 101, 0) := rfl
theorem zr_112_22 : zRow xM 112 22 = some (40, .ifCond .ne 6, 25, 28, 4) := rfl
theorem zr_112_25 : zRp 112 25 27 (0, -100000) := ⟨_, _, _, _, rfl, by decide, Option.some_ne_none _, rfl⟩
theorem zr_112_27 : zRow xM 112 27 = some (108, .ireturn, 28, 0, 0) := rfl
theorem zr_112_28 : zRow xM 112 28 = some (7, .aload_n 0, 29, 0, 0) := rfl
theorem zr_112_29 : zRow xM 112 29 = some (46, .getfield 36, 32, 8, 4) := rfl
theorem zr_112_32 : zRow xM 112 32 = some (3, .iload_n 1, 33, 1, 0) := rfl
theorem zr_112_33 : zRow xM 112 33 = some (3, .iload_n 2, 34, 2, 0) := rfl
theorem zr_112_34 : zRow xM 112 34 = some (3, .iload_n 3, 35, 3, 0) := rfl
theorem zr_112_35 : zRow xM 112 35 = some (105, .invokevirtual 157, 38, 45, 3) := rfl
theorem zr_112_38 : zRow xM 112 38 = some (10, .istore 4, 40, 4, 0) := rfl
theorem zr_112_40 : zRow xM 112 40 = some (7, .aload_n 0, 41, 0, 0) := rfl
theorem zr_112_41 : zRow xM 112 41 = some (46, .getfield 36, 44, 8, 4) := rfl
theorem zr_112_44 : zRow xM 112 44 = some (3, .iload_n 1, 45, 1, 0) := rfl
theorem zr_112_45 : zRow xM 112 45 = some (105, .invokevirtual 127, 48, 16, 3) := rfl
theorem zr_112_48 : zRow xM 112 48 = some (7, .aload_n 0, 49, 0, 0) := rfl
theorem zr_112_49 : zRow xM 112 49 = some (46, .getfield 36, 52, 8, 4) := rfl
theorem zr_112_52 : zRow xM 112 52 = some (7, .aload_n 0, 53, 0, 0) := rfl
theorem zr_112_53 : zRow xM 112 53 = some (46, .getfield 10, 56, 8, 0) := rfl
theorem zr_112_56 : zRow xM 112 56 = some (46, .getfield 93, 59, 4, 1) := rfl
theorem zr_112_59 : zRow xM 112 59 = some (105, .invokevirtual 131, 62, 41, 3) := rfl
theorem zr_112_62 : zRow xM 112 62 = some (4, .iload 4, 64, 4, 0) := rfl
theorem zr_112_64 : zRow xM 112 64 = some (7, .aload_n 0, 65, 0, 0) := rfl
theorem zr_112_65 : zRow xM 112 65 = some (46, .getfield 36, 68, 8, 4) := rfl
theorem zr_112_68 : zRow xM 112 68 = some (46, .getfield 134, 71, 3, 0) := rfl
theorem zr_112_71 : zRow xM 112 71 = some (3, .iload_n 2, 72, 2, 0) := rfl
theorem zr_112_72 : zRow xM 112 72 = some (48, .iaload, 73, 0, 0) := rfl
theorem zr_112_73 : zRow xM 112 73 = some (17, .isub, 74, 0, 0) := rfl
theorem zr_112_74 : zRow xM 112 74 = some (108, .ireturn, 75, 0, 0) := rfl
theorem zm_113 : zMt xM 113 = some (2, (some .int), 2, 0, 0) := rfl
theorem zr_113_0 : zRow xM 113 0 = some (3, .iload_n 1, 1, 1, 0) := rfl
theorem zr_113_1 : zRow xM 113 1 = some (107, .invokestatic 107, 4, 104, 0) := rfl
theorem zr_113_4 : zRow xM 113 4 = some (40, .ifCond .eq 14, 7, 18, 1) := rfl
theorem zr_113_7 : zRow xM 113 7 = some (7, .aload_n 0, 8, 0, 0) := rfl
theorem zr_113_8 : zRow xM 113 8 = some (46, .getfield 36, 11, 8, 4) := rfl
theorem zr_113_11 : zRow xM 113 11 = some (3, .iload_n 1, 12, 1, 0) := rfl
theorem zr_113_12 : zRow xM 113 12 = some (105, .invokevirtual 161, 15, 47, 3) := rfl
theorem zr_113_15 : zRow xM 113 15 = some (42, .goto 5, 16, 20, 0) := rfl
theorem zr_113_18 : zRp 113 18 20 (0, -2) := ⟨_, _, _, _, rfl, by decide, Option.some_ne_none _, rfl⟩
theorem zr_113_20 : zRow xM 113 20 = some (108, .ireturn, 21, 0, 0) := rfl
theorem zm_114 : zMt xM 114 = some (5, (some .int), 1, 0, 0) := rfl
theorem zr_114_0 : zRp 114 0 1 (0, -1) := ⟨_, _, _, _, rfl, by decide, Option.some_ne_none _, rfl⟩
theorem zr_114_1 : zRow xM 114 1 = some (9, .istore_n 1, 2, 1, 0) := rfl
theorem zr_114_2 : zRp 114 2 3 (0, -1) := ⟨_, _, _, _, rfl, by decide, Option.some_ne_none _, rfl⟩
theorem zr_114_3 : zRow xM 114 3 = some (9, .istore_n 2, 4, 2, 0) := rfl
theorem zr_114_4 : zRp 114 4 5 (0, 0) := ⟨_, _, _, _, rfl, by decide, Option.some_ne_none _, rfl⟩
theorem zr_114_5 : zRow xM 114 5 = some (9, .istore_n 3, 6, 3, 0) := rfl
theorem zr_114_6 : zRow xM 114 6 = some (3, .iload_n 3, 7, 3, 0) := rfl
theorem zr_114_7 : zRp 114 7 8 (0, 4) := ⟨_, _, _, _, rfl, by decide, Option.some_ne_none _, rfl⟩
theorem zr_114_8 : zRow xM 114 8 = some (41, .if_icmp .ge 40, 11, 48, 3) := rfl
theorem zr_114_11 : zRow xM 114 11 = some (7, .aload_n 0, 12, 0, 0) := rfl
theorem zr_114_12 : zRow xM 114 12 = some (46, .getfield 36, 15, 8, 4) := rfl
theorem zr_114_15 : zRow xM 114 15 = some (3, .iload_n 3, 16, 3, 0) := rfl
theorem zr_114_16 : zRow xM 114 16 = some (105, .invokevirtual 161, 19, 47, 3) := rfl
theorem zr_114_19 : zRow xM 114 19 = some (10, .istore 4, 21, 4, 0) := rfl
theorem zr_114_21 : zRow xM 114 21 = some (7, .aload_n 0, 22, 0, 0) := rfl
theorem zr_114_22 : zRow xM 114 22 = some (46, .getfield 36, 25, 8, 4) := rfl
theorem zr_114_25 : zRow xM 114 25 = some (105, .invokevirtual 164, 28, 17, 3) := rfl
theorem zr_114_28 : zRow xM 114 28 = some (40, .ifCond .ne 14, 31, 42, 4) := rfl
theorem zr_114_31 : zRow xM 114 31 = some (4, .iload 4, 33, 4, 0) := rfl
theorem zr_114_33 : zRow xM 114 33 = some (3, .iload_n 2, 34, 2, 0) := rfl
theorem zr_114_34 : zRow xM 114 34 = some (41, .if_icmp .le 8, 37, 42, 5) := rfl
theorem zr_114_37 : zRow xM 114 37 = some (3, .iload_n 3, 38, 3, 0) := rfl
theorem zr_114_38 : zRow xM 114 38 = some (9, .istore_n 1, 39, 1, 0) := rfl
theorem zr_114_39 : zRow xM 114 39 = some (4, .iload 4, 41, 4, 0) := rfl
theorem zr_114_41 : zRow xM 114 41 = some (9, .istore_n 2, 42, 2, 0) := rfl
theorem zr_114_42 : zRow xM 114 42 = some (15, .iinc 3 1, 45, 3, 1) := rfl
theorem zr_114_45 : zRow xM 114 45 = some (42, .goto (-39), 46, 6, 0) := rfl
theorem zr_114_48 : zRow xM 114 48 = some (3, .iload_n 1, 49, 1, 0) := rfl
theorem zr_114_49 : zRow xM 114 49 = some (108, .ireturn, 50, 0, 0) := rfl
theorem zm_115 : zMt xM 115 = some (4, (some .int), 3, 0, 0) := rfl
theorem zr_115_0 : zRow xM 115 0 = some (3, .iload_n 1, 1, 1, 0) := rfl
theorem zr_115_1 : zRp 115 1 2 (0, 0) := ⟨_, _, _, _, rfl, by decide, Option.some_ne_none _, rfl⟩
theorem zr_115_2 : zRp 115 2 5 (0, 159) := ⟨_, _, _, _, rfl, by decide, Option.some_ne_none _, rfl⟩
theorem zr_115_5 : zRow xM 115 5 = some (107, .invokestatic 85, 8, 100, 0) := rfl
theorem zr_115_8 : zRow xM 115 8 = some (40, .ifCond .eq 16, 11, 24, 1) := rfl
theorem zr_115_11 : zRow xM 115 11 = some (3, .iload_n 2, 12, 2, 0) := rfl
theorem zr_115_12 : zRp 115 12 15 (0, -500) := ⟨_, _, _, _, rfl, by decide, Option.some_ne_none _, rfl⟩
theorem zr_115_15 : zRp 115 15 18 (0, 500) := ⟨_, _, _, _, rfl, by decide, Option.some_ne_none _, rfl⟩
theorem zr_115_18 : zRow xM 115 18 = some (107, .invokestatic 85, 21, 100, 0) := rfl
theorem zr_115_21 : zRow xM 115 21 = some (40, .ifCond .ne 6, 24, 27, 4) := rfl
theorem zr_115_24 : zRp 115 24 26 (0, -100000) := ⟨_, _, _, _, rfl, by decide, Option.some_ne_none _, rfl⟩
theorem zr_115_26 : zRow xM 115 26 = some (108, .ireturn, 27, 0, 0) := rfl
theorem zr_115_27 : zRow xM 115 27 = some (7, .aload_n 0, 28, 0, 0) := rfl
theorem zr_115_28 : zRow xM 115 28 = some (46, .getfield 10, 31, 8, 0) := rfl
theorem zr_115_31 : zRow xM 115 31 = some (46, .getfield 168, 34, 4, 16) := rfl
theorem zr_115_34 : zRow xM 115 34 = some (3, .iload_n 1, 35, 1, 0) := rfl
theorem zr_115_35 : zRow xM 115 35 = some (48, .iaload, 36, 0, 0) := rfl
theorem zr_115_36 : zRow xM 115 36 = some (9, .istore_n 3, 37, 3, 0) := rfl
theorem zr_115_37 : zRow xM 115 37 = some (7, .aload_n 0, 38, 0, 0) := rfl
theorem zr_115_38 : zRow xM 115 38 = some (46, .getfield 10, 41, 8, 0) := rfl
theorem zr_115_41 : zRow xM 115 41 = some (46, .getfield 168, 44, 4, 16) := rfl
theorem zr_115_44 : zRow xM 115 44 = some (3, .iload_n 1, 45, 1, 0) := rfl
theorem zr_115_45 : zRow xM 115 45 = some (3, .iload_n 2, 46, 2, 0) := rfl
theorem zr_115_46 : zRow xM 115 46 = some (49, .iastore, 47, 0, 0) := rfl
theorem zr_115_47 : zRow xM 115 47 = some (3, .iload_n 3, 48, 3, 0) := rfl
theorem zr_115_48 : zRow xM 115 48 = some (108, .ireturn, 49, 0, 0) := rfl
