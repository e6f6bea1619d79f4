abbrev W_61_1_28 : List (Nat × Nat) := [(1, 0), (1, 1), (1, 2), (1, 3), (1, 4), (1, 5), (2, 1000), (3, 1000), (4, 1000), (5, 1000), (6, 1000), (7, 1000), (8, 1000), (9, 1000), (10, 1000), (11, 1000), (12, 1000), (13, 1000)]
set_option maxHeartbeats 8000000 in
theorem th_61_1_28 {E : zE} {d : Nat} {m0 : zM} {g0 : Int} {g1 : Int} {g2 : Int} {g3 : Int} {g4 : Int} {g5 : Int} {F2 : Nat → Int} {F3 : Nat → Int} {F4 : Nat → Int} {F5 : Nat → Int} {F6 : Nat → Int} {F7 : Nat → Int} {F8 : Nat → Int} {F9 : Nat → Int} {F10 : Nat → Int} {F11 : Nat → Int} {F12 : Nat → Int} {F13 : Nat → Int} {F29 : Nat → Int} {F30 : Nat → Int} {F31 : Nat → Int} {F32 : Nat → Int} {F33 : Nat → Int} {F34 : Nat → Int} {F35 : Nat → Int} {F36 : Nat → Int} {F37 : Nat → Int} {F38 : Nat → Int} {F39 : Nat → Int} {F40 : Nat → Int} (hd : 1 ≤ d) (hI0 : zInv m0) (hg0 : m0 28 0 = g0) (hg1 : m0 28 1 = g1) (hg2 : m0 28 2 = g2) (hg3 : m0 28 3 = g3) (hg4 : m0 28 4 = g4) (hg5 : m0 28 5 = g5) (hG2 : m0 2 = F2) (hG3 : m0 3 = F3) (hG4 : m0 4 = F4) (hG5 : m0 5 = F5) (hG6 : m0 6 = F6) (hG7 : m0 7 = F7) (hG8 : m0 8 = F8) (hG9 : m0 9 = F9) (hG10 : m0 10 = F10) (hG11 : m0 11 = F11) (hG12 : m0 12 = F12) (hG13 : m0 13 = F13) (hG29 : m0 29 = F29) (hG30 : m0 30 = F30) (hG31 : m0 31 = F31) (hG32 : m0 32 = F32) (hG33 : m0 33 = F33) (hG34 : m0 34 = F34) (hG35 : m0 35 = F35) (hG36 : m0 36 = F36) (hG37 : m0 37 = F37) (hG38 : m0 38 = F38) (hG39 : m0 39 = F39) (hG40 : m0 40 = F40) : zC E d 61 [(2, 1), (2, 28)] m0 (fun v m' => v = (9, 0) ∧ zInv m' ∧ zFr W_61_1_28 m0 m' ∧ (zTk_1_28 m0 m')) := by
  have hF0 : zFr W_61_1_28 m0 m0 := zFr.rfl
  have bg0 := ib_28_0 hI0
  rw [hg0] at bg0
  have bg1 := ib_28_1 hI0
  rw [hg1] at bg1
  have bg2 := ib_28_2 hI0
  rw [hg2] at bg2
  have bg3 := ib_28_3 hI0
  rw [hg3] at bg3
  have bg4 := ib_28_4 hI0
  rw [hg4] at bg4
  have bg5 := ib_28_5 hI0
  rw [hg5] at bg5
  generalize hQ : (fun (v : zV) (m' : zM) => v = (9, 0) ∧ zInv m' ∧ zFr W_61_1_28 m0 m' ∧ (zTk_1_28 m0 m')) = Q
  show zW E d 61 0 [(2, 1), (2, 28)] [] m0 Q
  refine zw_7 zr_61_0 rfl ?_
  refine zw_7 zr_61_1 rfl ?_
  refine zw_46i zr_61_2 hg0 rfl rfl rfl ?_
  refine zw_47 (c := 1) zr_61_5 rfl ⟨rfl, by decide, rfl⟩ ?_
  intro m1 em1
  have hIm1 : zInv m1 := by rw [em1]; exact hI0.bd (r := 1) (k := 0) (lo := 0) (hi := 10) rfl (by omega) (by decide) (by decide) (by decide)
  have hFm1 : zFr W_61_1_28 m0 m1 := by rw [em1]; exact hF0.up rfl
  have km1_28_0 : m1 28 0 = g0 := by rw [em1, zUp_ne (by omega)]; exact hg0
  have km1_28_1 : m1 28 1 = g1 := by rw [em1, zUp_ne (by omega)]; exact hg1
  have km1_28_2 : m1 28 2 = g2 := by rw [em1, zUp_ne (by omega)]; exact hg2
  have km1_28_3 : m1 28 3 = g3 := by rw [em1, zUp_ne (by omega)]; exact hg3
  have km1_28_4 : m1 28 4 = g4 := by rw [em1, zUp_ne (by omega)]; exact hg4
  have km1_28_5 : m1 28 5 = g5 := by rw [em1, zUp_ne (by omega)]; exact hg5
  have km1_1_0 : m1 1 0 = g0 := by rw [em1]; exact zUp_eq _ _ _ _
  have fm1_2 : m1 2 = F2 := by rw [em1, zUp_fn (by decide)]; exact hG2
  have fm1_3 : m1 3 = F3 := by rw [em1, zUp_fn (by decide)]; exact hG3
  have fm1_4 : m1 4 = F4 := by rw [em1, zUp_fn (by decide)]; exact hG4
  have fm1_5 : m1 5 = F5 := by rw [em1, zUp_fn (by decide)]; exact hG5
  have fm1_6 : m1 6 = F6 := by rw [em1, zUp_fn (by decide)]; exact hG6
  have fm1_7 : m1 7 = F7 := by rw [em1, zUp_fn (by decide)]; exact hG7
  have fm1_8 : m1 8 = F8 := by rw [em1, zUp_fn (by decide)]; exact hG8
  have fm1_9 : m1 9 = F9 := by rw [em1, zUp_fn (by decide)]; exact hG9
  have fm1_10 : m1 10 = F10 := by rw [em1, zUp_fn (by decide)]; exact hG10
  have fm1_11 : m1 11 = F11 := by rw [em1, zUp_fn (by decide)]; exact hG11
  have fm1_12 : m1 12 = F12 := by rw [em1, zUp_fn (by decide)]; exact hG12
  have fm1_13 : m1 13 = F13 := by rw [em1, zUp_fn (by decide)]; exact hG13
  have fm1_29 : m1 29 = F29 := by rw [em1, zUp_fn (by decide)]; exact hG29
  have fm1_30 : m1 30 = F30 := by rw [em1, zUp_fn (by decide)]; exact hG30
  have fm1_31 : m1 31 = F31 := by rw [em1, zUp_fn (by decide)]; exact hG31
  have fm1_32 : m1 32 = F32 := by rw [em1, zUp_fn (by decide)]; exact hG32
  have fm1_33 : m1 33 = F33 := by rw [em1, zUp_fn (by decide)]; exact hG33
  have fm1_34 : m1 34 = F34 := by rw [em1, zUp_fn (by decide)]; exact hG34
  have fm1_35 : m1 35 = F35 := by rw [em1, zUp_fn (by decide)]; exact hG35
  have fm1_36 : m1 36 = F36 := by rw [em1, zUp_fn (by decide)]; exact hG36
  have fm1_37 : m1 37 = F37 := by rw [em1, zUp_fn (by decide)]; exact hG37
  have fm1_38 : m1 38 = F38 := by rw [em1, zUp_fn (by decide)]; exact hG38
  have fm1_39 : m1 39 = F39 := by rw [em1, zUp_fn (by decide)]; exact hG39
  have fm1_40 : m1 40 = F40 := by rw [em1, zUp_fn (by decide)]; exact hG40
  clear em1
  refine zw_7 zr_61_8 rfl ?_
  refine zw_7 zr_61_9 rfl ?_
  refine zw_46i zr_61_10 km1_28_1 rfl rfl rfl ?_
  refine zw_47 (c := 1) zr_61_13 rfl ⟨rfl, by decide, rfl⟩ ?_
  intro m2 em2
  have hIm2 : zInv m2 := by rw [em2]; exact hIm1.bd (r := 1) (k := 1) (lo := 0) (hi := 60) rfl (by omega) (by decide) (by decide) (by decide)
  have hFm2 : zFr W_61_1_28 m0 m2 := by rw [em2]; exact hFm1.up rfl
  have km2_28_0 : m2 28 0 = g0 := by rw [em2, zUp_ne (by omega)]; exact km1_28_0
  have km2_28_1 : m2 28 1 = g1 := by rw [em2, zUp_ne (by omega)]; exact km1_28_1
  have km2_28_2 : m2 28 2 = g2 := by rw [em2, zUp_ne (by omega)]; exact km1_28_2
  have km2_28_3 : m2 28 3 = g3 := by rw [em2, zUp_ne (by omega)]; exact km1_28_3
  have km2_28_4 : m2 28 4 = g4 := by rw [em2, zUp_ne (by omega)]; exact km1_28_4
  have km2_28_5 : m2 28 5 = g5 := by rw [em2, zUp_ne (by omega)]; exact km1_28_5
  have km2_1_0 : m2 1 0 = g0 := by rw [em2, zUp_ne (by omega)]; exact km1_1_0
  have km2_1_1 : m2 1 1 = g1 := by rw [em2]; exact zUp_eq _ _ _ _
  have fm2_2 : m2 2 = F2 := by rw [em2, zUp_fn (by decide)]; exact fm1_2
  have fm2_3 : m2 3 = F3 := by rw [em2, zUp_fn (by decide)]; exact fm1_3
  have fm2_4 : m2 4 = F4 := by rw [em2, zUp_fn (by decide)]; exact fm1_4
  have fm2_5 : m2 5 = F5 := by rw [em2, zUp_fn (by decide)]; exact fm1_5
  have fm2_6 : m2 6 = F6 := by rw [em2, zUp_fn (by decide)]; exact fm1_6
  have fm2_7 : m2 7 = F7 := by rw [em2, zUp_fn (by decide)]; exact fm1_7
  have fm2_8 : m2 8 = F8 := by rw [em2, zUp_fn (by decide)]; exact fm1_8
  have fm2_9 : m2 9 = F9 := by rw [em2, zUp_fn (by decide)]; exact fm1_9
  have fm2_10 : m2 10 = F10 := by rw [em2, zUp_fn (by decide)]; exact fm1_10
  have fm2_11 : m2 11 = F11 := by rw [em2, zUp_fn (by decide)]; exact fm1_11
  have fm2_12 : m2 12 = F12 := by rw [em2, zUp_fn (by decide)]; exact fm1_12
  have fm2_13 : m2 13 = F13 := by rw [em2, zUp_fn (by decide)]; exact fm1_13
  have fm2_29 : m2 29 = F29 := by rw [em2, zUp_fn (by decide)]; exact fm1_29
  have fm2_30 : m2 30 = F30 := by rw [em2, zUp_fn (by decide)]; exact fm1_30
  have fm2_31 : m2 31 = F31 := by rw [em2, zUp_fn (by decide)]; exact fm1_31
  have fm2_32 : m2 32 = F32 := by rw [em2, zUp_fn (by decide)]; exact fm1_32
  have fm2_33 : m2 33 = F33 := by rw [em2, zUp_fn (by decide)]; exact fm1_33
  have fm2_34 : m2 34 = F34 := by rw [em2, zUp_fn (by decide)]; exact fm1_34
  have fm2_35 : m2 35 = F35 := by rw [em2, zUp_fn (by decide)]; exact fm1_35
  have fm2_36 : m2 36 = F36 := by rw [em2, zUp_fn (by decide)]; exact fm1_36
  have fm2_37 : m2 37 = F37 := by rw [em2, zUp_fn (by decide)]; exact fm1_37
  have fm2_38 : m2 38 = F38 := by rw [em2, zUp_fn (by decide)]; exact fm1_38
  have fm2_39 : m2 39 = F39 := by rw [em2, zUp_fn (by decide)]; exact fm1_39
  have fm2_40 : m2 40 = F40 := by rw [em2, zUp_fn (by decide)]; exact fm1_40
  clear em2
  refine zw_7 zr_61_16 rfl ?_
  refine zw_7 zr_61_17 rfl ?_
  refine zw_46l zr_61_18 km2_28_2 rfl rfl rfl ?_
  refine zw_47 (c := 1) zr_61_21 rfl ⟨rfl, by decide, rfl⟩ ?_
  intro m3 em3
  have hIm3 : zInv m3 := by rw [em3]; exact hIm2.bdl (r := 1) (k := 2) (lo := 0) (hi := 1152921504606846975) rfl (by omega) (by decide) (by decide) (by decide) (by decide)
  have hFm3 : zFr W_61_1_28 m0 m3 := by rw [em3]; exact hFm2.up rfl
  have km3_28_0 : m3 28 0 = g0 := by rw [em3, zUp_ne (by omega)]; exact km2_28_0
  have km3_28_1 : m3 28 1 = g1 := by rw [em3, zUp_ne (by omega)]; exact km2_28_1
  have km3_28_2 : m3 28 2 = g2 := by rw [em3, zUp_ne (by omega)]; exact km2_28_2
  have km3_28_3 : m3 28 3 = g3 := by rw [em3, zUp_ne (by omega)]; exact km2_28_3
  have km3_28_4 : m3 28 4 = g4 := by rw [em3, zUp_ne (by omega)]; exact km2_28_4
  have km3_28_5 : m3 28 5 = g5 := by rw [em3, zUp_ne (by omega)]; exact km2_28_5
  have km3_1_0 : m3 1 0 = g0 := by rw [em3, zUp_ne (by omega)]; exact km2_1_0
  have km3_1_1 : m3 1 1 = g1 := by rw [em3, zUp_ne (by omega)]; exact km2_1_1
  have km3_1_2 : m3 1 2 = g2 := by rw [em3]; exact zUp_eq _ _ _ _
  have fm3_2 : m3 2 = F2 := by rw [em3, zUp_fn (by decide)]; exact fm2_2
  have fm3_3 : m3 3 = F3 := by rw [em3, zUp_fn (by decide)]; exact fm2_3
  have fm3_4 : m3 4 = F4 := by rw [em3, zUp_fn (by decide)]; exact fm2_4
  have fm3_5 : m3 5 = F5 := by rw [em3, zUp_fn (by decide)]; exact fm2_5
  have fm3_6 : m3 6 = F6 := by rw [em3, zUp_fn (by decide)]; exact fm2_6
  have fm3_7 : m3 7 = F7 := by rw [em3, zUp_fn (by decide)]; exact fm2_7
  have fm3_8 : m3 8 = F8 := by rw [em3, zUp_fn (by decide)]; exact fm2_8
  have fm3_9 : m3 9 = F9 := by rw [em3, zUp_fn (by decide)]; exact fm2_9
  have fm3_10 : m3 10 = F10 := by rw [em3, zUp_fn (by decide)]; exact fm2_10
  have fm3_11 : m3 11 = F11 := by rw [em3, zUp_fn (by decide)]; exact fm2_11
  have fm3_12 : m3 12 = F12 := by rw [em3, zUp_fn (by decide)]; exact fm2_12
  have fm3_13 : m3 13 = F13 := by rw [em3, zUp_fn (by decide)]; exact fm2_13
  have fm3_29 : m3 29 = F29 := by rw [em3, zUp_fn (by decide)]; exact fm2_29
  have fm3_30 : m3 30 = F30 := by rw [em3, zUp_fn (by decide)]; exact fm2_30
  have fm3_31 : m3 31 = F31 := by rw [em3, zUp_fn (by decide)]; exact fm2_31
  have fm3_32 : m3 32 = F32 := by rw [em3, zUp_fn (by decide)]; exact fm2_32
  have fm3_33 : m3 33 = F33 := by rw [em3, zUp_fn (by decide)]; exact fm2_33
  have fm3_34 : m3 34 = F34 := by rw [em3, zUp_fn (by decide)]; exact fm2_34
  have fm3_35 : m3 35 = F35 := by rw [em3, zUp_fn (by decide)]; exact fm2_35
  have fm3_36 : m3 36 = F36 := by rw [em3, zUp_fn (by decide)]; exact fm2_36
  have fm3_37 : m3 37 = F37 := by rw [em3, zUp_fn (by decide)]; exact fm2_37
  have fm3_38 : m3 38 = F38 := by rw [em3, zUp_fn (by decide)]; exact fm2_38
  have fm3_39 : m3 39 = F39 := by rw [em3, zUp_fn (by decide)]; exact fm2_39
  have fm3_40 : m3 40 = F40 := by rw [em3, zUp_fn (by decide)]; exact fm2_40
  clear em3
  refine zw_7 zr_61_24 rfl ?_
  refine zw_7 zr_61_25 rfl ?_
  refine zw_46l zr_61_26 km3_28_3 rfl rfl rfl ?_
  refine zw_47 (c := 1) zr_61_29 rfl ⟨rfl, by decide, rfl⟩ ?_
  intro m4 em4
  have hIm4 : zInv m4 := by rw [em4]; exact hIm3.bdl (r := 1) (k := 3) (lo := 0) (hi := 1152921504606846975) rfl (by omega) (by decide) (by decide) (by decide) (by decide)
  have hFm4 : zFr W_61_1_28 m0 m4 := by rw [em4]; exact hFm3.up rfl
  have km4_28_0 : m4 28 0 = g0 := by rw [em4, zUp_ne (by omega)]; exact km3_28_0
  have km4_28_1 : m4 28 1 = g1 := by rw [em4, zUp_ne (by omega)]; exact km3_28_1
  have km4_28_2 : m4 28 2 = g2 := by rw [em4, zUp_ne (by omega)]; exact km3_28_2
  have km4_28_3 : m4 28 3 = g3 := by rw [em4, zUp_ne (by omega)]; exact km3_28_3
  have km4_28_4 : m4 28 4 = g4 := by rw [em4, zUp_ne (by omega)]; exact km3_28_4
  have km4_28_5 : m4 28 5 = g5 := by rw [em4, zUp_ne (by omega)]; exact km3_28_5
  have km4_1_0 : m4 1 0 = g0 := by rw [em4, zUp_ne (by omega)]; exact km3_1_0
  have km4_1_1 : m4 1 1 = g1 := by rw [em4, zUp_ne (by omega)]; exact km3_1_1
  have km4_1_2 : m4 1 2 = g2 := by rw [em4, zUp_ne (by omega)]; exact km3_1_2
  have km4_1_3 : m4 1 3 = g3 := by rw [em4]; exact zUp_eq _ _ _ _
  have fm4_2 : m4 2 = F2 := by rw [em4, zUp_fn (by decide)]; exact fm3_2
  have fm4_3 : m4 3 = F3 := by rw [em4, zUp_fn (by decide)]; exact fm3_3
  have fm4_4 : m4 4 = F4 := by rw [em4, zUp_fn (by decide)]; exact fm3_4
  have fm4_5 : m4 5 = F5 := by rw [em4, zUp_fn (by decide)]; exact fm3_5
  have fm4_6 : m4 6 = F6 := by rw [em4, zUp_fn (by decide)]; exact fm3_6
  have fm4_7 : m4 7 = F7 := by rw [em4, zUp_fn (by decide)]; exact fm3_7
  have fm4_8 : m4 8 = F8 := by rw [em4, zUp_fn (by decide)]; exact fm3_8
  have fm4_9 : m4 9 = F9 := by rw [em4, zUp_fn (by decide)]; exact fm3_9
  have fm4_10 : m4 10 = F10 := by rw [em4, zUp_fn (by decide)]; exact fm3_10
  have fm4_11 : m4 11 = F11 := by rw [em4, zUp_fn (by decide)]; exact fm3_11
  have fm4_12 : m4 12 = F12 := by rw [em4, zUp_fn (by decide)]; exact fm3_12
  have fm4_13 : m4 13 = F13 := by rw [em4, zUp_fn (by decide)]; exact fm3_13
  have fm4_29 : m4 29 = F29 := by rw [em4, zUp_fn (by decide)]; exact fm3_29
  have fm4_30 : m4 30 = F30 := by rw [em4, zUp_fn (by decide)]; exact fm3_30
  have fm4_31 : m4 31 = F31 := by rw [em4, zUp_fn (by decide)]; exact fm3_31
  have fm4_32 : m4 32 = F32 := by rw [em4, zUp_fn (by decide)]; exact fm3_32
  have fm4_33 : m4 33 = F33 := by rw [em4, zUp_fn (by decide)]; exact fm3_33
  have fm4_34 : m4 34 = F34 := by rw [em4, zUp_fn (by decide)]; exact fm3_34
  have fm4_35 : m4 35 = F35 := by rw [em4, zUp_fn (by decide)]; exact fm3_35
  have fm4_36 : m4 36 = F36 := by rw [em4, zUp_fn (by decide)]; exact fm3_36
  have fm4_37 : m4 37 = F37 := by rw [em4, zUp_fn (by decide)]; exact fm3_37
  have fm4_38 : m4 38 = F38 := by rw [em4, zUp_fn (by decide)]; exact fm3_38
  have fm4_39 : m4 39 = F39 := by rw [em4, zUp_fn (by decide)]; exact fm3_39
  have fm4_40 : m4 40 = F40 := by rw [em4, zUp_fn (by decide)]; exact fm3_40
  clear em4
  refine zw_7 zr_61_32 rfl ?_
  refine zw_7 zr_61_33 rfl ?_
  refine zw_46i zr_61_34 km4_28_4 rfl rfl rfl ?_
  refine zw_47 (c := 1) zr_61_37 rfl ⟨rfl, by decide, rfl⟩ ?_
  intro m5 em5
  have hIm5 : zInv m5 := by rw [em5]; exact hIm4.bd (r := 1) (k := 4) (lo := 1) (hi := 1000) rfl (by omega) (by decide) (by decide) (by decide)
  have hFm5 : zFr W_61_1_28 m0 m5 := by rw [em5]; exact hFm4.up rfl
  have km5_28_0 : m5 28 0 = g0 := by rw [em5, zUp_ne (by omega)]; exact km4_28_0
  have km5_28_1 : m5 28 1 = g1 := by rw [em5, zUp_ne (by omega)]; exact km4_28_1
  have km5_28_2 : m5 28 2 = g2 := by rw [em5, zUp_ne (by omega)]; exact km4_28_2
  have km5_28_3 : m5 28 3 = g3 := by rw [em5, zUp_ne (by omega)]; exact km4_28_3
  have km5_28_4 : m5 28 4 = g4 := by rw [em5, zUp_ne (by omega)]; exact km4_28_4
  have km5_28_5 : m5 28 5 = g5 := by rw [em5, zUp_ne (by omega)]; exact km4_28_5
  have km5_1_0 : m5 1 0 = g0 := by rw [em5, zUp_ne (by omega)]; exact km4_1_0
  have km5_1_1 : m5 1 1 = g1 := by rw [em5, zUp_ne (by omega)]; exact km4_1_1
  have km5_1_2 : m5 1 2 = g2 := by rw [em5, zUp_ne (by omega)]; exact km4_1_2
  have km5_1_3 : m5 1 3 = g3 := by rw [em5, zUp_ne (by omega)]; exact km4_1_3
  have km5_1_4 : m5 1 4 = g4 := by rw [em5]; exact zUp_eq _ _ _ _
  have fm5_2 : m5 2 = F2 := by rw [em5, zUp_fn (by decide)]; exact fm4_2
  have fm5_3 : m5 3 = F3 := by rw [em5, zUp_fn (by decide)]; exact fm4_3
  have fm5_4 : m5 4 = F4 := by rw [em5, zUp_fn (by decide)]; exact fm4_4
  have fm5_5 : m5 5 = F5 := by rw [em5, zUp_fn (by decide)]; exact fm4_5
  have fm5_6 : m5 6 = F6 := by rw [em5, zUp_fn (by decide)]; exact fm4_6
  have fm5_7 : m5 7 = F7 := by rw [em5, zUp_fn (by decide)]; exact fm4_7
  have fm5_8 : m5 8 = F8 := by rw [em5, zUp_fn (by decide)]; exact fm4_8
  have fm5_9 : m5 9 = F9 := by rw [em5, zUp_fn (by decide)]; exact fm4_9
  have fm5_10 : m5 10 = F10 := by rw [em5, zUp_fn (by decide)]; exact fm4_10
  have fm5_11 : m5 11 = F11 := by rw [em5, zUp_fn (by decide)]; exact fm4_11
  have fm5_12 : m5 12 = F12 := by rw [em5, zUp_fn (by decide)]; exact fm4_12
  have fm5_13 : m5 13 = F13 := by rw [em5, zUp_fn (by decide)]; exact fm4_13
  have fm5_29 : m5 29 = F29 := by rw [em5, zUp_fn (by decide)]; exact fm4_29
  have fm5_30 : m5 30 = F30 := by rw [em5, zUp_fn (by decide)]; exact fm4_30
  have fm5_31 : m5 31 = F31 := by rw [em5, zUp_fn (by decide)]; exact fm4_31
  have fm5_32 : m5 32 = F32 := by rw [em5, zUp_fn (by decide)]; exact fm4_32
  have fm5_33 : m5 33 = F33 := by rw [em5, zUp_fn (by decide)]; exact fm4_33
  have fm5_34 : m5 34 = F34 := by rw [em5, zUp_fn (by decide)]; exact fm4_34
  have fm5_35 : m5 35 = F35 := by rw [em5, zUp_fn (by decide)]; exact fm4_35
  have fm5_36 : m5 36 = F36 := by rw [em5, zUp_fn (by decide)]; exact fm4_36
  have fm5_37 : m5 37 = F37 := by rw [em5, zUp_fn (by decide)]; exact fm4_37
  have fm5_38 : m5 38 = F38 := by rw [em5, zUp_fn (by decide)]; exact fm4_38
  have fm5_39 : m5 39 = F39 := by rw [em5, zUp_fn (by decide)]; exact fm4_39
  have fm5_40 : m5 40 = F40 := by rw [em5, zUp_fn (by decide)]; exact fm4_40
  clear em5
  refine zw_7 zr_61_40 rfl ?_
  refine zw_7 zr_61_41 rfl ?_
  refine zw_46i zr_61_42 km5_28_5 rfl rfl rfl ?_
  refine zw_47 (c := 1) zr_61_45 rfl ⟨rfl, by decide, rfl⟩ ?_
  intro m6 em6
  have hIm6 : zInv m6 := by rw [em6]; exact hIm5.bd (r := 1) (k := 5) (lo := 0) (hi := 500) rfl (by omega) (by decide) (by decide) (by decide)
  have hFm6 : zFr W_61_1_28 m0 m6 := by rw [em6]; exact hFm5.up rfl
  have km6_28_0 : m6 28 0 = g0 := by rw [em6, zUp_ne (by omega)]; exact km5_28_0
  have km6_28_1 : m6 28 1 = g1 := by rw [em6, zUp_ne (by omega)]; exact km5_28_1
  have km6_28_2 : m6 28 2 = g2 := by rw [em6, zUp_ne (by omega)]; exact km5_28_2
  have km6_28_3 : m6 28 3 = g3 := by rw [em6, zUp_ne (by omega)]; exact km5_28_3
  have km6_28_4 : m6 28 4 = g4 := by rw [em6, zUp_ne (by omega)]; exact km5_28_4
  have km6_28_5 : m6 28 5 = g5 := by rw [em6, zUp_ne (by omega)]; exact km5_28_5
  have km6_1_0 : m6 1 0 = g0 := by rw [em6, zUp_ne (by omega)]; exact km5_1_0
  have km6_1_1 : m6 1 1 = g1 := by rw [em6, zUp_ne (by omega)]; exact km5_1_1
  have km6_1_2 : m6 1 2 = g2 := by rw [em6, zUp_ne (by omega)]; exact km5_1_2
  have km6_1_3 : m6 1 3 = g3 := by rw [em6, zUp_ne (by omega)]; exact km5_1_3
  have km6_1_4 : m6 1 4 = g4 := by rw [em6, zUp_ne (by omega)]; exact km5_1_4
  have km6_1_5 : m6 1 5 = g5 := by rw [em6]; exact zUp_eq _ _ _ _
  have fm6_2 : m6 2 = F2 := by rw [em6, zUp_fn (by decide)]; exact fm5_2
  have fm6_3 : m6 3 = F3 := by rw [em6, zUp_fn (by decide)]; exact fm5_3
  have fm6_4 : m6 4 = F4 := by rw [em6, zUp_fn (by decide)]; exact fm5_4
  have fm6_5 : m6 5 = F5 := by rw [em6, zUp_fn (by decide)]; exact fm5_5
  have fm6_6 : m6 6 = F6 := by rw [em6, zUp_fn (by decide)]; exact fm5_6
  have fm6_7 : m6 7 = F7 := by rw [em6, zUp_fn (by decide)]; exact fm5_7
  have fm6_8 : m6 8 = F8 := by rw [em6, zUp_fn (by decide)]; exact fm5_8
  have fm6_9 : m6 9 = F9 := by rw [em6, zUp_fn (by decide)]; exact fm5_9
  have fm6_10 : m6 10 = F10 := by rw [em6, zUp_fn (by decide)]; exact fm5_10
  have fm6_11 : m6 11 = F11 := by rw [em6, zUp_fn (by decide)]; exact fm5_11
  have fm6_12 : m6 12 = F12 := by rw [em6, zUp_fn (by decide)]; exact fm5_12
  have fm6_13 : m6 13 = F13 := by rw [em6, zUp_fn (by decide)]; exact fm5_13
  have fm6_29 : m6 29 = F29 := by rw [em6, zUp_fn (by decide)]; exact fm5_29
  have fm6_30 : m6 30 = F30 := by rw [em6, zUp_fn (by decide)]; exact fm5_30
  have fm6_31 : m6 31 = F31 := by rw [em6, zUp_fn (by decide)]; exact fm5_31
  have fm6_32 : m6 32 = F32 := by rw [em6, zUp_fn (by decide)]; exact fm5_32
  have fm6_33 : m6 33 = F33 := by rw [em6, zUp_fn (by decide)]; exact fm5_33
  have fm6_34 : m6 34 = F34 := by rw [em6, zUp_fn (by decide)]; exact fm5_34
  have fm6_35 : m6 35 = F35 := by rw [em6, zUp_fn (by decide)]; exact fm5_35
  have fm6_36 : m6 36 = F36 := by rw [em6, zUp_fn (by decide)]; exact fm5_36
  have fm6_37 : m6 37 = F37 := by rw [em6, zUp_fn (by decide)]; exact fm5_37
  have fm6_38 : m6 38 = F38 := by rw [em6, zUp_fn (by decide)]; exact fm5_38
  have fm6_39 : m6 39 = F39 := by rw [em6, zUp_fn (by decide)]; exact fm5_39
  have fm6_40 : m6 40 = F40 := by rw [em6, zUp_fn (by decide)]; exact fm5_40
  clear em6
  refine zw_7 zr_61_48 rfl ?_
  refine zw_46r (s := 29) zr_61_49 rfl rfl rfl rfl ?_
  refine zw_push zr_61_52 ?_
  refine zw_7 zr_61_53 rfl ?_
  refine zw_46r (s := 2) zr_61_54 rfl rfl rfl rfl ?_
  refine zw_push zr_61_57 ?_
  refine zw_push zr_61_58 ?_
  refine zw_114 (c1 := 2) (c2 := 29) (l1 := 10) (l2 := 10) zr_61_60 rfl rfl rfl rfl (by decide) (Nat.le_of_ble_eq_true rfl) (by omega) (by omega) ?_
  intro m7 em7
  have hIm7 : zInv m7 := by rw [em7]; exact zInv.cpS hIm6 (l2 := 10) (fun _ => rfl) rfl (by decide) (by decide) (by decide)
  have hFm7 : zFr W_61_1_28 m0 m7 := by rw [em7]; exact hFm6.cp rfl
  have km7_28_0 : m7 28 0 = g0 := by rw [em7, zCp_ne (by decide)]; exact km6_28_0
  have km7_28_1 : m7 28 1 = g1 := by rw [em7, zCp_ne (by decide)]; exact km6_28_1
  have km7_28_2 : m7 28 2 = g2 := by rw [em7, zCp_ne (by decide)]; exact km6_28_2
  have km7_28_3 : m7 28 3 = g3 := by rw [em7, zCp_ne (by decide)]; exact km6_28_3
  have km7_28_4 : m7 28 4 = g4 := by rw [em7, zCp_ne (by decide)]; exact km6_28_4
  have km7_28_5 : m7 28 5 = g5 := by rw [em7, zCp_ne (by decide)]; exact km6_28_5
  have km7_1_0 : m7 1 0 = g0 := by rw [em7, zCp_ne (by decide)]; exact km6_1_0
  have km7_1_1 : m7 1 1 = g1 := by rw [em7, zCp_ne (by decide)]; exact km6_1_1
  have km7_1_2 : m7 1 2 = g2 := by rw [em7, zCp_ne (by decide)]; exact km6_1_2
  have km7_1_3 : m7 1 3 = g3 := by rw [em7, zCp_ne (by decide)]; exact km6_1_3
  have km7_1_4 : m7 1 4 = g4 := by rw [em7, zCp_ne (by decide)]; exact km6_1_4
  have km7_1_5 : m7 1 5 = g5 := by rw [em7, zCp_ne (by decide)]; exact km6_1_5
  have fm7_2 : m7 2 = zCf F2 F29 10 := by rw [em7]; exact (zCp_ff (m := m6) (c1 := 2) (c2 := 29) (n := 10) rfl rfl).trans (by rw [fm6_2, fm6_29])
  have fm7_3 : m7 3 = F3 := by rw [em7, zCp_fn (by decide)]; exact fm6_3
  have fm7_4 : m7 4 = F4 := by rw [em7, zCp_fn (by decide)]; exact fm6_4
  have fm7_5 : m7 5 = F5 := by rw [em7, zCp_fn (by decide)]; exact fm6_5
  have fm7_6 : m7 6 = F6 := by rw [em7, zCp_fn (by decide)]; exact fm6_6
  have fm7_7 : m7 7 = F7 := by rw [em7, zCp_fn (by decide)]; exact fm6_7
  have fm7_8 : m7 8 = F8 := by rw [em7, zCp_fn (by decide)]; exact fm6_8
  have fm7_9 : m7 9 = F9 := by rw [em7, zCp_fn (by decide)]; exact fm6_9
  have fm7_10 : m7 10 = F10 := by rw [em7, zCp_fn (by decide)]; exact fm6_10
  have fm7_11 : m7 11 = F11 := by rw [em7, zCp_fn (by decide)]; exact fm6_11
  have fm7_12 : m7 12 = F12 := by rw [em7, zCp_fn (by decide)]; exact fm6_12
  have fm7_13 : m7 13 = F13 := by rw [em7, zCp_fn (by decide)]; exact fm6_13
  have fm7_29 : m7 29 = F29 := by rw [em7, zCp_fn (by decide)]; exact fm6_29
  have fm7_30 : m7 30 = F30 := by rw [em7, zCp_fn (by decide)]; exact fm6_30
  have fm7_31 : m7 31 = F31 := by rw [em7, zCp_fn (by decide)]; exact fm6_31
  have fm7_32 : m7 32 = F32 := by rw [em7, zCp_fn (by decide)]; exact fm6_32
  have fm7_33 : m7 33 = F33 := by rw [em7, zCp_fn (by decide)]; exact fm6_33
  have fm7_34 : m7 34 = F34 := by rw [em7, zCp_fn (by decide)]; exact fm6_34
  have fm7_35 : m7 35 = F35 := by rw [em7, zCp_fn (by decide)]; exact fm6_35
  have fm7_36 : m7 36 = F36 := by rw [em7, zCp_fn (by decide)]; exact fm6_36
  have fm7_37 : m7 37 = F37 := by rw [em7, zCp_fn (by decide)]; exact fm6_37
  have fm7_38 : m7 38 = F38 := by rw [em7, zCp_fn (by decide)]; exact fm6_38
  have fm7_39 : m7 39 = F39 := by rw [em7, zCp_fn (by decide)]; exact fm6_39
  have fm7_40 : m7 40 = F40 := by rw [em7, zCp_fn (by decide)]; exact fm6_40
  clear em7
  refine zw_7 zr_61_63 rfl ?_
  refine zw_46r (s := 30) zr_61_64 rfl rfl rfl rfl ?_
  refine zw_push zr_61_67 ?_
  refine zw_7 zr_61_68 rfl ?_
  refine zw_46r (s := 3) zr_61_69 rfl rfl rfl rfl ?_
  refine zw_push zr_61_72 ?_
  refine zw_push zr_61_73 ?_
  refine zw_114 (c1 := 3) (c2 := 30) (l1 := 40) (l2 := 40) zr_61_75 rfl rfl rfl rfl (by decide) (Nat.le_of_ble_eq_true rfl) (by omega) (by omega) ?_
  intro m8 em8
  have hIm8 : zInv m8 := by rw [em8]; exact zInv.cpS hIm7 (l2 := 40) (fun _ => rfl) rfl (by decide) (by decide) (by decide)
  have hFm8 : zFr W_61_1_28 m0 m8 := by rw [em8]; exact hFm7.cp rfl
  have km8_28_0 : m8 28 0 = g0 := by rw [em8, zCp_ne (by decide)]; exact km7_28_0
  have km8_28_1 : m8 28 1 = g1 := by rw [em8, zCp_ne (by decide)]; exact km7_28_1
  have km8_28_2 : m8 28 2 = g2 := by rw [em8, zCp_ne (by decide)]; exact km7_28_2
  have km8_28_3 : m8 28 3 = g3 := by rw [em8, zCp_ne (by decide)]; exact km7_28_3
  have km8_28_4 : m8 28 4 = g4 := by rw [em8, zCp_ne (by decide)]; exact km7_28_4
  have km8_28_5 : m8 28 5 = g5 := by rw [em8, zCp_ne (by decide)]; exact km7_28_5
  have km8_1_0 : m8 1 0 = g0 := by rw [em8, zCp_ne (by decide)]; exact km7_1_0
  have km8_1_1 : m8 1 1 = g1 := by rw [em8, zCp_ne (by decide)]; exact km7_1_1
  have km8_1_2 : m8 1 2 = g2 := by rw [em8, zCp_ne (by decide)]; exact km7_1_2
  have km8_1_3 : m8 1 3 = g3 := by rw [em8, zCp_ne (by decide)]; exact km7_1_3
  have km8_1_4 : m8 1 4 = g4 := by rw [em8, zCp_ne (by decide)]; exact km7_1_4
  have km8_1_5 : m8 1 5 = g5 := by rw [em8, zCp_ne (by decide)]; exact km7_1_5
  have fm8_2 : m8 2 = zCf F2 F29 10 := by rw [em8, zCp_fn (by decide)]; exact fm7_2
  have fm8_3 : m8 3 = zCf F3 F30 40 := by rw [em8]; exact (zCp_ff (m := m7) (c1 := 3) (c2 := 30) (n := 40) rfl rfl).trans (by rw [fm7_3, fm7_30])
  have fm8_4 : m8 4 = F4 := by rw [em8, zCp_fn (by decide)]; exact fm7_4
  have fm8_5 : m8 5 = F5 := by rw [em8, zCp_fn (by decide)]; exact fm7_5
  have fm8_6 : m8 6 = F6 := by rw [em8, zCp_fn (by decide)]; exact fm7_6
  have fm8_7 : m8 7 = F7 := by rw [em8, zCp_fn (by decide)]; exact fm7_7
  have fm8_8 : m8 8 = F8 := by rw [em8, zCp_fn (by decide)]; exact fm7_8
  have fm8_9 : m8 9 = F9 := by rw [em8, zCp_fn (by decide)]; exact fm7_9
  have fm8_10 : m8 10 = F10 := by rw [em8, zCp_fn (by decide)]; exact fm7_10
  have fm8_11 : m8 11 = F11 := by rw [em8, zCp_fn (by decide)]; exact fm7_11
  have fm8_12 : m8 12 = F12 := by rw [em8, zCp_fn (by decide)]; exact fm7_12
  have fm8_13 : m8 13 = F13 := by rw [em8, zCp_fn (by decide)]; exact fm7_13
  have fm8_29 : m8 29 = F29 := by rw [em8, zCp_fn (by decide)]; exact fm7_29
  have fm8_30 : m8 30 = F30 := by rw [em8, zCp_fn (by decide)]; exact fm7_30
  have fm8_31 : m8 31 = F31 := by rw [em8, zCp_fn (by decide)]; exact fm7_31
  have fm8_32 : m8 32 = F32 := by rw [em8, zCp_fn (by decide)]; exact fm7_32
  have fm8_33 : m8 33 = F33 := by rw [em8, zCp_fn (by decide)]; exact fm7_33
  have fm8_34 : m8 34 = F34 := by rw [em8, zCp_fn (by decide)]; exact fm7_34
  have fm8_35 : m8 35 = F35 := by rw [em8, zCp_fn (by decide)]; exact fm7_35
  have fm8_36 : m8 36 = F36 := by rw [em8, zCp_fn (by decide)]; exact fm7_36
  have fm8_37 : m8 37 = F37 := by rw [em8, zCp_fn (by decide)]; exact fm7_37
  have fm8_38 : m8 38 = F38 := by rw [em8, zCp_fn (by decide)]; exact fm7_38
  have fm8_39 : m8 39 = F39 := by rw [em8, zCp_fn (by decide)]; exact fm7_39
  have fm8_40 : m8 40 = F40 := by rw [em8, zCp_fn (by decide)]; exact fm7_40
  clear em8
  refine zw_7 zr_61_78 rfl ?_
  refine zw_46r (s := 31) zr_61_79 rfl rfl rfl rfl ?_
  refine zw_push zr_61_82 ?_
  refine zw_7 zr_61_83 rfl ?_
  refine zw_46r (s := 4) zr_61_84 rfl rfl rfl rfl ?_
  refine zw_push zr_61_87 ?_
  refine zw_push zr_61_88 ?_
  refine zw_114 (c1 := 4) (c2 := 31) (l1 := 40) (l2 := 40) zr_61_90 rfl rfl rfl rfl (by decide) (Nat.le_of_ble_eq_true rfl) (by omega) (by omega) ?_
  intro m9 em9
  have hIm9 : zInv m9 := by rw [em9]; exact zInv.cpS hIm8 (l2 := 40) (fun _ => rfl) rfl (by decide) (by decide) (by decide)
  have hFm9 : zFr W_61_1_28 m0 m9 := by rw [em9]; exact hFm8.cp rfl
  have km9_28_0 : m9 28 0 = g0 := by rw [em9, zCp_ne (by decide)]; exact km8_28_0
  have km9_28_1 : m9 28 1 = g1 := by rw [em9, zCp_ne (by decide)]; exact km8_28_1
  have km9_28_2 : m9 28 2 = g2 := by rw [em9, zCp_ne (by decide)]; exact km8_28_2
  have km9_28_3 : m9 28 3 = g3 := by rw [em9, zCp_ne (by decide)]; exact km8_28_3
  have km9_28_4 : m9 28 4 = g4 := by rw [em9, zCp_ne (by decide)]; exact km8_28_4
  have km9_28_5 : m9 28 5 = g5 := by rw [em9, zCp_ne (by decide)]; exact km8_28_5
  have km9_1_0 : m9 1 0 = g0 := by rw [em9, zCp_ne (by decide)]; exact km8_1_0
  have km9_1_1 : m9 1 1 = g1 := by rw [em9, zCp_ne (by decide)]; exact km8_1_1
  have km9_1_2 : m9 1 2 = g2 := by rw [em9, zCp_ne (by decide)]; exact km8_1_2
  have km9_1_3 : m9 1 3 = g3 := by rw [em9, zCp_ne (by decide)]; exact km8_1_3
  have km9_1_4 : m9 1 4 = g4 := by rw [em9, zCp_ne (by decide)]; exact km8_1_4
  have km9_1_5 : m9 1 5 = g5 := by rw [em9, zCp_ne (by decide)]; exact km8_1_5
  have fm9_2 : m9 2 = zCf F2 F29 10 := by rw [em9, zCp_fn (by decide)]; exact fm8_2
  have fm9_3 : m9 3 = zCf F3 F30 40 := by rw [em9, zCp_fn (by decide)]; exact fm8_3
  have fm9_4 : m9 4 = zCf F4 F31 40 := by rw [em9]; exact (zCp_ff (m := m8) (c1 := 4) (c2 := 31) (n := 40) rfl rfl).trans (by rw [fm8_4, fm8_31])
  have fm9_5 : m9 5 = F5 := by rw [em9, zCp_fn (by decide)]; exact fm8_5
  have fm9_6 : m9 6 = F6 := by rw [em9, zCp_fn (by decide)]; exact fm8_6
  have fm9_7 : m9 7 = F7 := by rw [em9, zCp_fn (by decide)]; exact fm8_7
  have fm9_8 : m9 8 = F8 := by rw [em9, zCp_fn (by decide)]; exact fm8_8
  have fm9_9 : m9 9 = F9 := by rw [em9, zCp_fn (by decide)]; exact fm8_9
  have fm9_10 : m9 10 = F10 := by rw [em9, zCp_fn (by decide)]; exact fm8_10
  have fm9_11 : m9 11 = F11 := by rw [em9, zCp_fn (by decide)]; exact fm8_11
  have fm9_12 : m9 12 = F12 := by rw [em9, zCp_fn (by decide)]; exact fm8_12
  have fm9_13 : m9 13 = F13 := by rw [em9, zCp_fn (by decide)]; exact fm8_13
  have fm9_29 : m9 29 = F29 := by rw [em9, zCp_fn (by decide)]; exact fm8_29
  have fm9_30 : m9 30 = F30 := by rw [em9, zCp_fn (by decide)]; exact fm8_30
  have fm9_31 : m9 31 = F31 := by rw [em9, zCp_fn (by decide)]; exact fm8_31
  have fm9_32 : m9 32 = F32 := by rw [em9, zCp_fn (by decide)]; exact fm8_32
  have fm9_33 : m9 33 = F33 := by rw [em9, zCp_fn (by decide)]; exact fm8_33
  have fm9_34 : m9 34 = F34 := by rw [em9, zCp_fn (by decide)]; exact fm8_34
  have fm9_35 : m9 35 = F35 := by rw [em9, zCp_fn (by decide)]; exact fm8_35
  have fm9_36 : m9 36 = F36 := by rw [em9, zCp_fn (by decide)]; exact fm8_36
  have fm9_37 : m9 37 = F37 := by rw [em9, zCp_fn (by decide)]; exact fm8_37
  have fm9_38 : m9 38 = F38 := by rw [em9, zCp_fn (by decide)]; exact fm8_38
  have fm9_39 : m9 39 = F39 := by rw [em9, zCp_fn (by decide)]; exact fm8_39
  have fm9_40 : m9 40 = F40 := by rw [em9, zCp_fn (by decide)]; exact fm8_40
  clear em9
  refine zw_7 zr_61_93 rfl ?_
  refine zw_46r (s := 32) zr_61_94 rfl rfl rfl rfl ?_
  refine zw_push zr_61_97 ?_
  refine zw_7 zr_61_98 rfl ?_
  refine zw_46r (s := 5) zr_61_99 rfl rfl rfl rfl ?_
  refine zw_push zr_61_102 ?_
  refine zw_push zr_61_103 ?_
  refine zw_114 (c1 := 5) (c2 := 32) (l1 := 60) (l2 := 60) zr_61_105 rfl rfl rfl rfl (by decide) (Nat.le_of_ble_eq_true rfl) (by omega) (by omega) ?_
  intro m10 em10
  have hIm10 : zInv m10 := by rw [em10]; exact zInv.cpS hIm9 (l2 := 60) (fun _ => rfl) rfl (by decide) (by decide) (by decide)
  have hFm10 : zFr W_61_1_28 m0 m10 := by rw [em10]; exact hFm9.cp rfl
  have km10_28_0 : m10 28 0 = g0 := by rw [em10, zCp_ne (by decide)]; exact km9_28_0
  have km10_28_1 : m10 28 1 = g1 := by rw [em10, zCp_ne (by decide)]; exact km9_28_1
  have km10_28_2 : m10 28 2 = g2 := by rw [em10, zCp_ne (by decide)]; exact km9_28_2
  have km10_28_3 : m10 28 3 = g3 := by rw [em10, zCp_ne (by decide)]; exact km9_28_3
  have km10_28_4 : m10 28 4 = g4 := by rw [em10, zCp_ne (by decide)]; exact km9_28_4
  have km10_28_5 : m10 28 5 = g5 := by rw [em10, zCp_ne (by decide)]; exact km9_28_5
  have km10_1_0 : m10 1 0 = g0 := by rw [em10, zCp_ne (by decide)]; exact km9_1_0
  have km10_1_1 : m10 1 1 = g1 := by rw [em10, zCp_ne (by decide)]; exact km9_1_1
  have km10_1_2 : m10 1 2 = g2 := by rw [em10, zCp_ne (by decide)]; exact km9_1_2
  have km10_1_3 : m10 1 3 = g3 := by rw [em10, zCp_ne (by decide)]; exact km9_1_3
  have km10_1_4 : m10 1 4 = g4 := by rw [em10, zCp_ne (by decide)]; exact km9_1_4
  have km10_1_5 : m10 1 5 = g5 := by rw [em10, zCp_ne (by decide)]; exact km9_1_5
  have fm10_2 : m10 2 = zCf F2 F29 10 := by rw [em10, zCp_fn (by decide)]; exact fm9_2
  have fm10_3 : m10 3 = zCf F3 F30 40 := by rw [em10, zCp_fn (by decide)]; exact fm9_3
  have fm10_4 : m10 4 = zCf F4 F31 40 := by rw [em10, zCp_fn (by decide)]; exact fm9_4
  have fm10_5 : m10 5 = zCf F5 F32 60 := by rw [em10]; exact (zCp_ff (m := m9) (c1 := 5) (c2 := 32) (n := 60) rfl rfl).trans (by rw [fm9_5, fm9_32])
  have fm10_6 : m10 6 = F6 := by rw [em10, zCp_fn (by decide)]; exact fm9_6
  have fm10_7 : m10 7 = F7 := by rw [em10, zCp_fn (by decide)]; exact fm9_7
  have fm10_8 : m10 8 = F8 := by rw [em10, zCp_fn (by decide)]; exact fm9_8
  have fm10_9 : m10 9 = F9 := by rw [em10, zCp_fn (by decide)]; exact fm9_9
  have fm10_10 : m10 10 = F10 := by rw [em10, zCp_fn (by decide)]; exact fm9_10
  have fm10_11 : m10 11 = F11 := by rw [em10, zCp_fn (by decide)]; exact fm9_11
  have fm10_12 : m10 12 = F12 := by rw [em10, zCp_fn (by decide)]; exact fm9_12
  have fm10_13 : m10 13 = F13 := by rw [em10, zCp_fn (by decide)]; exact fm9_13
  have fm10_29 : m10 29 = F29 := by rw [em10, zCp_fn (by decide)]; exact fm9_29
  have fm10_30 : m10 30 = F30 := by rw [em10, zCp_fn (by decide)]; exact fm9_30
  have fm10_31 : m10 31 = F31 := by rw [em10, zCp_fn (by decide)]; exact fm9_31
  have fm10_32 : m10 32 = F32 := by rw [em10, zCp_fn (by decide)]; exact fm9_32
  have fm10_33 : m10 33 = F33 := by rw [em10, zCp_fn (by decide)]; exact fm9_33
  have fm10_34 : m10 34 = F34 := by rw [em10, zCp_fn (by decide)]; exact fm9_34
  have fm10_35 : m10 35 = F35 := by rw [em10, zCp_fn (by decide)]; exact fm9_35
  have fm10_36 : m10 36 = F36 := by rw [em10, zCp_fn (by decide)]; exact fm9_36
  have fm10_37 : m10 37 = F37 := by rw [em10, zCp_fn (by decide)]; exact fm9_37
  have fm10_38 : m10 38 = F38 := by rw [em10, zCp_fn (by decide)]; exact fm9_38
  have fm10_39 : m10 39 = F39 := by rw [em10, zCp_fn (by decide)]; exact fm9_39
  have fm10_40 : m10 40 = F40 := by rw [em10, zCp_fn (by decide)]; exact fm9_40
  clear em10
  refine zw_7 zr_61_108 rfl ?_
  refine zw_46r (s := 33) zr_61_109 rfl rfl rfl rfl ?_
  refine zw_push zr_61_112 ?_
  refine zw_7 zr_61_113 rfl ?_
  refine zw_46r (s := 6) zr_61_114 rfl rfl rfl rfl ?_
  refine zw_push zr_61_117 ?_
  refine zw_push zr_61_118 ?_
  refine zw_114 (c1 := 6) (c2 := 33) (l1 := 60) (l2 := 60) zr_61_120 rfl rfl rfl rfl (by decide) (Nat.le_of_ble_eq_true rfl) (by omega) (by omega) ?_
  intro m11 em11
  have hIm11 : zInv m11 := by rw [em11]; exact zInv.cpS hIm10 (l2 := 60) (fun _ => rfl) rfl (by decide) (by decide) (by decide)
  have hFm11 : zFr W_61_1_28 m0 m11 := by rw [em11]; exact hFm10.cp rfl
  have km11_28_0 : m11 28 0 = g0 := by rw [em11, zCp_ne (by decide)]; exact km10_28_0
  have km11_28_1 : m11 28 1 = g1 := by rw [em11, zCp_ne (by decide)]; exact km10_28_1
  have km11_28_2 : m11 28 2 = g2 := by rw [em11, zCp_ne (by decide)]; exact km10_28_2
  have km11_28_3 : m11 28 3 = g3 := by rw [em11, zCp_ne (by decide)]; exact km10_28_3
  have km11_28_4 : m11 28 4 = g4 := by rw [em11, zCp_ne (by decide)]; exact km10_28_4
  have km11_28_5 : m11 28 5 = g5 := by rw [em11, zCp_ne (by decide)]; exact km10_28_5
  have km11_1_0 : m11 1 0 = g0 := by rw [em11, zCp_ne (by decide)]; exact km10_1_0
  have km11_1_1 : m11 1 1 = g1 := by rw [em11, zCp_ne (by decide)]; exact km10_1_1
  have km11_1_2 : m11 1 2 = g2 := by rw [em11, zCp_ne (by decide)]; exact km10_1_2
  have km11_1_3 : m11 1 3 = g3 := by rw [em11, zCp_ne (by decide)]; exact km10_1_3
  have km11_1_4 : m11 1 4 = g4 := by rw [em11, zCp_ne (by decide)]; exact km10_1_4
  have km11_1_5 : m11 1 5 = g5 := by rw [em11, zCp_ne (by decide)]; exact km10_1_5
  have fm11_2 : m11 2 = zCf F2 F29 10 := by rw [em11, zCp_fn (by decide)]; exact fm10_2
  have fm11_3 : m11 3 = zCf F3 F30 40 := by rw [em11, zCp_fn (by decide)]; exact fm10_3
  have fm11_4 : m11 4 = zCf F4 F31 40 := by rw [em11, zCp_fn (by decide)]; exact fm10_4
  have fm11_5 : m11 5 = zCf F5 F32 60 := by rw [em11, zCp_fn (by decide)]; exact fm10_5
  have fm11_6 : m11 6 = zCf F6 F33 60 := by rw [em11]; exact (zCp_ff (m := m10) (c1 := 6) (c2 := 33) (n := 60) rfl rfl).trans (by rw [fm10_6, fm10_33])
  have fm11_7 : m11 7 = F7 := by rw [em11, zCp_fn (by decide)]; exact fm10_7
  have fm11_8 : m11 8 = F8 := by rw [em11, zCp_fn (by decide)]; exact fm10_8
  have fm11_9 : m11 9 = F9 := by rw [em11, zCp_fn (by decide)]; exact fm10_9
  have fm11_10 : m11 10 = F10 := by rw [em11, zCp_fn (by decide)]; exact fm10_10
  have fm11_11 : m11 11 = F11 := by rw [em11, zCp_fn (by decide)]; exact fm10_11
  have fm11_12 : m11 12 = F12 := by rw [em11, zCp_fn (by decide)]; exact fm10_12
  have fm11_13 : m11 13 = F13 := by rw [em11, zCp_fn (by decide)]; exact fm10_13
  have fm11_29 : m11 29 = F29 := by rw [em11, zCp_fn (by decide)]; exact fm10_29
  have fm11_30 : m11 30 = F30 := by rw [em11, zCp_fn (by decide)]; exact fm10_30
  have fm11_31 : m11 31 = F31 := by rw [em11, zCp_fn (by decide)]; exact fm10_31
  have fm11_32 : m11 32 = F32 := by rw [em11, zCp_fn (by decide)]; exact fm10_32
  have fm11_33 : m11 33 = F33 := by rw [em11, zCp_fn (by decide)]; exact fm10_33
  have fm11_34 : m11 34 = F34 := by rw [em11, zCp_fn (by decide)]; exact fm10_34
  have fm11_35 : m11 35 = F35 := by rw [em11, zCp_fn (by decide)]; exact fm10_35
  have fm11_36 : m11 36 = F36 := by rw [em11, zCp_fn (by decide)]; exact fm10_36
  have fm11_37 : m11 37 = F37 := by rw [em11, zCp_fn (by decide)]; exact fm10_37
  have fm11_38 : m11 38 = F38 := by rw [em11, zCp_fn (by decide)]; exact fm10_38
  have fm11_39 : m11 39 = F39 := by rw [em11, zCp_fn (by decide)]; exact fm10_39
  have fm11_40 : m11 40 = F40 := by rw [em11, zCp_fn (by decide)]; exact fm10_40
  clear em11
  refine zw_7 zr_61_123 rfl ?_
  refine zw_46r (s := 34) zr_61_124 rfl rfl rfl rfl ?_
  refine zw_push zr_61_127 ?_
  refine zw_7 zr_61_128 rfl ?_
  refine zw_46r (s := 7) zr_61_129 rfl rfl rfl rfl ?_
  refine zw_push zr_61_132 ?_
  refine zw_push zr_61_133 ?_
  refine zw_114 (c1 := 7) (c2 := 34) (l1 := 60) (l2 := 60) zr_61_135 rfl rfl rfl rfl (by decide) (Nat.le_of_ble_eq_true rfl) (by omega) (by omega) ?_
  intro m12 em12
  have hIm12 : zInv m12 := by rw [em12]; exact zInv.cpS hIm11 (l2 := 60) (fun _ => rfl) rfl (by decide) (by decide) (by decide)
  have hFm12 : zFr W_61_1_28 m0 m12 := by rw [em12]; exact hFm11.cp rfl
  have km12_28_0 : m12 28 0 = g0 := by rw [em12, zCp_ne (by decide)]; exact km11_28_0
  have km12_28_1 : m12 28 1 = g1 := by rw [em12, zCp_ne (by decide)]; exact km11_28_1
  have km12_28_2 : m12 28 2 = g2 := by rw [em12, zCp_ne (by decide)]; exact km11_28_2
  have km12_28_3 : m12 28 3 = g3 := by rw [em12, zCp_ne (by decide)]; exact km11_28_3
  have km12_28_4 : m12 28 4 = g4 := by rw [em12, zCp_ne (by decide)]; exact km11_28_4
  have km12_28_5 : m12 28 5 = g5 := by rw [em12, zCp_ne (by decide)]; exact km11_28_5
  have km12_1_0 : m12 1 0 = g0 := by rw [em12, zCp_ne (by decide)]; exact km11_1_0
  have km12_1_1 : m12 1 1 = g1 := by rw [em12, zCp_ne (by decide)]; exact km11_1_1
  have km12_1_2 : m12 1 2 = g2 := by rw [em12, zCp_ne (by decide)]; exact km11_1_2
  have km12_1_3 : m12 1 3 = g3 := by rw [em12, zCp_ne (by decide)]; exact km11_1_3
  have km12_1_4 : m12 1 4 = g4 := by rw [em12, zCp_ne (by decide)]; exact km11_1_4
  have km12_1_5 : m12 1 5 = g5 := by rw [em12, zCp_ne (by decide)]; exact km11_1_5
  have fm12_2 : m12 2 = zCf F2 F29 10 := by rw [em12, zCp_fn (by decide)]; exact fm11_2
  have fm12_3 : m12 3 = zCf F3 F30 40 := by rw [em12, zCp_fn (by decide)]; exact fm11_3
  have fm12_4 : m12 4 = zCf F4 F31 40 := by rw [em12, zCp_fn (by decide)]; exact fm11_4
  have fm12_5 : m12 5 = zCf F5 F32 60 := by rw [em12, zCp_fn (by decide)]; exact fm11_5
  have fm12_6 : m12 6 = zCf F6 F33 60 := by rw [em12, zCp_fn (by decide)]; exact fm11_6
  have fm12_7 : m12 7 = zCf F7 F34 60 := by rw [em12]; exact (zCp_ff (m := m11) (c1 := 7) (c2 := 34) (n := 60) rfl rfl).trans (by rw [fm11_7, fm11_34])
  have fm12_8 : m12 8 = F8 := by rw [em12, zCp_fn (by decide)]; exact fm11_8
  have fm12_9 : m12 9 = F9 := by rw [em12, zCp_fn (by decide)]; exact fm11_9
  have fm12_10 : m12 10 = F10 := by rw [em12, zCp_fn (by decide)]; exact fm11_10
  have fm12_11 : m12 11 = F11 := by rw [em12, zCp_fn (by decide)]; exact fm11_11
  have fm12_12 : m12 12 = F12 := by rw [em12, zCp_fn (by decide)]; exact fm11_12
  have fm12_13 : m12 13 = F13 := by rw [em12, zCp_fn (by decide)]; exact fm11_13
  have fm12_29 : m12 29 = F29 := by rw [em12, zCp_fn (by decide)]; exact fm11_29
  have fm12_30 : m12 30 = F30 := by rw [em12, zCp_fn (by decide)]; exact fm11_30
  have fm12_31 : m12 31 = F31 := by rw [em12, zCp_fn (by decide)]; exact fm11_31
  have fm12_32 : m12 32 = F32 := by rw [em12, zCp_fn (by decide)]; exact fm11_32
  have fm12_33 : m12 33 = F33 := by rw [em12, zCp_fn (by decide)]; exact fm11_33
  have fm12_34 : m12 34 = F34 := by rw [em12, zCp_fn (by decide)]; exact fm11_34
  have fm12_35 : m12 35 = F35 := by rw [em12, zCp_fn (by decide)]; exact fm11_35
  have fm12_36 : m12 36 = F36 := by rw [em12, zCp_fn (by decide)]; exact fm11_36
  have fm12_37 : m12 37 = F37 := by rw [em12, zCp_fn (by decide)]; exact fm11_37
  have fm12_38 : m12 38 = F38 := by rw [em12, zCp_fn (by decide)]; exact fm11_38
  have fm12_39 : m12 39 = F39 := by rw [em12, zCp_fn (by decide)]; exact fm11_39
  have fm12_40 : m12 40 = F40 := by rw [em12, zCp_fn (by decide)]; exact fm11_40
  clear em12
  refine zw_7 zr_61_138 rfl ?_
  refine zw_46r (s := 35) zr_61_139 rfl rfl rfl rfl ?_
  refine zw_push zr_61_142 ?_
  refine zw_7 zr_61_143 rfl ?_
  refine zw_46r (s := 8) zr_61_144 rfl rfl rfl rfl ?_
  refine zw_push zr_61_147 ?_
  refine zw_push zr_61_148 ?_
  refine zw_114 (c1 := 8) (c2 := 35) (l1 := 60) (l2 := 60) zr_61_150 rfl rfl rfl rfl (by decide) (Nat.le_of_ble_eq_true rfl) (by omega) (by omega) ?_
  intro m13 em13
  have hIm13 : zInv m13 := by rw [em13]; exact zInv.cpS hIm12 (l2 := 60) (fun _ => rfl) rfl (by decide) (by decide) (by decide)
  have hFm13 : zFr W_61_1_28 m0 m13 := by rw [em13]; exact hFm12.cp rfl
  have km13_28_0 : m13 28 0 = g0 := by rw [em13, zCp_ne (by decide)]; exact km12_28_0
  have km13_28_1 : m13 28 1 = g1 := by rw [em13, zCp_ne (by decide)]; exact km12_28_1
  have km13_28_2 : m13 28 2 = g2 := by rw [em13, zCp_ne (by decide)]; exact km12_28_2
  have km13_28_3 : m13 28 3 = g3 := by rw [em13, zCp_ne (by decide)]; exact km12_28_3
  have km13_28_4 : m13 28 4 = g4 := by rw [em13, zCp_ne (by decide)]; exact km12_28_4
  have km13_28_5 : m13 28 5 = g5 := by rw [em13, zCp_ne (by decide)]; exact km12_28_5
  have km13_1_0 : m13 1 0 = g0 := by rw [em13, zCp_ne (by decide)]; exact km12_1_0
  have km13_1_1 : m13 1 1 = g1 := by rw [em13, zCp_ne (by decide)]; exact km12_1_1
  have km13_1_2 : m13 1 2 = g2 := by rw [em13, zCp_ne (by decide)]; exact km12_1_2
  have km13_1_3 : m13 1 3 = g3 := by rw [em13, zCp_ne (by decide)]; exact km12_1_3
  have km13_1_4 : m13 1 4 = g4 := by rw [em13, zCp_ne (by decide)]; exact km12_1_4
  have km13_1_5 : m13 1 5 = g5 := by rw [em13, zCp_ne (by decide)]; exact km12_1_5
  have fm13_2 : m13 2 = zCf F2 F29 10 := by rw [em13, zCp_fn (by decide)]; exact fm12_2
  have fm13_3 : m13 3 = zCf F3 F30 40 := by rw [em13, zCp_fn (by decide)]; exact fm12_3
  have fm13_4 : m13 4 = zCf F4 F31 40 := by rw [em13, zCp_fn (by decide)]; exact fm12_4
  have fm13_5 : m13 5 = zCf F5 F32 60 := by rw [em13, zCp_fn (by decide)]; exact fm12_5
  have fm13_6 : m13 6 = zCf F6 F33 60 := by rw [em13, zCp_fn (by decide)]; exact fm12_6
  have fm13_7 : m13 7 = zCf F7 F34 60 := by rw [em13, zCp_fn (by decide)]; exact fm12_7
  have fm13_8 : m13 8 = zCf F8 F35 60 := by rw [em13]; exact (zCp_ff (m := m12) (c1 := 8) (c2 := 35) (n := 60) rfl rfl).trans (by rw [fm12_8, fm12_35])
  have fm13_9 : m13 9 = F9 := by rw [em13, zCp_fn (by decide)]; exact fm12_9
  have fm13_10 : m13 10 = F10 := by rw [em13, zCp_fn (by decide)]; exact fm12_10
  have fm13_11 : m13 11 = F11 := by rw [em13, zCp_fn (by decide)]; exact fm12_11
  have fm13_12 : m13 12 = F12 := by rw [em13, zCp_fn (by decide)]; exact fm12_12
  have fm13_13 : m13 13 = F13 := by rw [em13, zCp_fn (by decide)]; exact fm12_13
  have fm13_29 : m13 29 = F29 := by rw [em13, zCp_fn (by decide)]; exact fm12_29
  have fm13_30 : m13 30 = F30 := by rw [em13, zCp_fn (by decide)]; exact fm12_30
  have fm13_31 : m13 31 = F31 := by rw [em13, zCp_fn (by decide)]; exact fm12_31
  have fm13_32 : m13 32 = F32 := by rw [em13, zCp_fn (by decide)]; exact fm12_32
  have fm13_33 : m13 33 = F33 := by rw [em13, zCp_fn (by decide)]; exact fm12_33
  have fm13_34 : m13 34 = F34 := by rw [em13, zCp_fn (by decide)]; exact fm12_34
  have fm13_35 : m13 35 = F35 := by rw [em13, zCp_fn (by decide)]; exact fm12_35
  have fm13_36 : m13 36 = F36 := by rw [em13, zCp_fn (by decide)]; exact fm12_36
  have fm13_37 : m13 37 = F37 := by rw [em13, zCp_fn (by decide)]; exact fm12_37
  have fm13_38 : m13 38 = F38 := by rw [em13, zCp_fn (by decide)]; exact fm12_38
  have fm13_39 : m13 39 = F39 := by rw [em13, zCp_fn (by decide)]; exact fm12_39
  have fm13_40 : m13 40 = F40 := by rw [em13, zCp_fn (by decide)]; exact fm12_40
  clear em13
  refine zw_7 zr_61_153 rfl ?_
  refine zw_46r (s := 36) zr_61_154 rfl rfl rfl rfl ?_
  refine zw_push zr_61_157 ?_
  refine zw_7 zr_61_158 rfl ?_
  refine zw_46r (s := 9) zr_61_159 rfl rfl rfl rfl ?_
  refine zw_push zr_61_162 ?_
  refine zw_push zr_61_163 ?_
  refine zw_114 (c1 := 9) (c2 := 36) (l1 := 4) (l2 := 4) zr_61_164 rfl rfl rfl rfl (by decide) (Nat.le_of_ble_eq_true rfl) (by omega) (by omega) ?_
  intro m14 em14
  have hIm14 : zInv m14 := by rw [em14]; exact zInv.cpS hIm13 (l2 := 4) (fun _ => rfl) rfl (by decide) (by decide) (by decide)
  have hFm14 : zFr W_61_1_28 m0 m14 := by rw [em14]; exact hFm13.cp rfl
  have km14_28_0 : m14 28 0 = g0 := by rw [em14, zCp_ne (by decide)]; exact km13_28_0
  have km14_28_1 : m14 28 1 = g1 := by rw [em14, zCp_ne (by decide)]; exact km13_28_1
  have km14_28_2 : m14 28 2 = g2 := by rw [em14, zCp_ne (by decide)]; exact km13_28_2
  have km14_28_3 : m14 28 3 = g3 := by rw [em14, zCp_ne (by decide)]; exact km13_28_3
  have km14_28_4 : m14 28 4 = g4 := by rw [em14, zCp_ne (by decide)]; exact km13_28_4
  have km14_28_5 : m14 28 5 = g5 := by rw [em14, zCp_ne (by decide)]; exact km13_28_5
  have km14_1_0 : m14 1 0 = g0 := by rw [em14, zCp_ne (by decide)]; exact km13_1_0
  have km14_1_1 : m14 1 1 = g1 := by rw [em14, zCp_ne (by decide)]; exact km13_1_1
  have km14_1_2 : m14 1 2 = g2 := by rw [em14, zCp_ne (by decide)]; exact km13_1_2
  have km14_1_3 : m14 1 3 = g3 := by rw [em14, zCp_ne (by decide)]; exact km13_1_3
  have km14_1_4 : m14 1 4 = g4 := by rw [em14, zCp_ne (by decide)]; exact km13_1_4
  have km14_1_5 : m14 1 5 = g5 := by rw [em14, zCp_ne (by decide)]; exact km13_1_5
  have fm14_2 : m14 2 = zCf F2 F29 10 := by rw [em14, zCp_fn (by decide)]; exact fm13_2
  have fm14_3 : m14 3 = zCf F3 F30 40 := by rw [em14, zCp_fn (by decide)]; exact fm13_3
  have fm14_4 : m14 4 = zCf F4 F31 40 := by rw [em14, zCp_fn (by decide)]; exact fm13_4
  have fm14_5 : m14 5 = zCf F5 F32 60 := by rw [em14, zCp_fn (by decide)]; exact fm13_5
  have fm14_6 : m14 6 = zCf F6 F33 60 := by rw [em14, zCp_fn (by decide)]; exact fm13_6
  have fm14_7 : m14 7 = zCf F7 F34 60 := by rw [em14, zCp_fn (by decide)]; exact fm13_7
  have fm14_8 : m14 8 = zCf F8 F35 60 := by rw [em14, zCp_fn (by decide)]; exact fm13_8
  have fm14_9 : m14 9 = zCf F9 F36 4 := by rw [em14]; exact (zCp_ff (m := m13) (c1 := 9) (c2 := 36) (n := 4) rfl rfl).trans (by rw [fm13_9, fm13_36])
  have fm14_10 : m14 10 = F10 := by rw [em14, zCp_fn (by decide)]; exact fm13_10
  have fm14_11 : m14 11 = F11 := by rw [em14, zCp_fn (by decide)]; exact fm13_11
  have fm14_12 : m14 12 = F12 := by rw [em14, zCp_fn (by decide)]; exact fm13_12
  have fm14_13 : m14 13 = F13 := by rw [em14, zCp_fn (by decide)]; exact fm13_13
  have fm14_29 : m14 29 = F29 := by rw [em14, zCp_fn (by decide)]; exact fm13_29
  have fm14_30 : m14 30 = F30 := by rw [em14, zCp_fn (by decide)]; exact fm13_30
  have fm14_31 : m14 31 = F31 := by rw [em14, zCp_fn (by decide)]; exact fm13_31
  have fm14_32 : m14 32 = F32 := by rw [em14, zCp_fn (by decide)]; exact fm13_32
  have fm14_33 : m14 33 = F33 := by rw [em14, zCp_fn (by decide)]; exact fm13_33
  have fm14_34 : m14 34 = F34 := by rw [em14, zCp_fn (by decide)]; exact fm13_34
  have fm14_35 : m14 35 = F35 := by rw [em14, zCp_fn (by decide)]; exact fm13_35
  have fm14_36 : m14 36 = F36 := by rw [em14, zCp_fn (by decide)]; exact fm13_36
  have fm14_37 : m14 37 = F37 := by rw [em14, zCp_fn (by decide)]; exact fm13_37
  have fm14_38 : m14 38 = F38 := by rw [em14, zCp_fn (by decide)]; exact fm13_38
  have fm14_39 : m14 39 = F39 := by rw [em14, zCp_fn (by decide)]; exact fm13_39
  have fm14_40 : m14 40 = F40 := by rw [em14, zCp_fn (by decide)]; exact fm13_40
  clear em14
  refine zw_7 zr_61_167 rfl ?_
  refine zw_46r (s := 37) zr_61_168 rfl rfl rfl rfl ?_
  refine zw_push zr_61_171 ?_
  refine zw_7 zr_61_172 rfl ?_
  refine zw_46r (s := 10) zr_61_173 rfl rfl rfl rfl ?_
  refine zw_push zr_61_176 ?_
  refine zw_push zr_61_177 ?_
  refine zw_114 (c1 := 10) (c2 := 37) (l1 := 4) (l2 := 4) zr_61_178 rfl rfl rfl rfl (by decide) (Nat.le_of_ble_eq_true rfl) (by omega) (by omega) ?_
  intro m15 em15
  have hIm15 : zInv m15 := by rw [em15]; exact zInv.cpS hIm14 (l2 := 4) (fun _ => rfl) rfl (by decide) (by decide) (by decide)
  have hFm15 : zFr W_61_1_28 m0 m15 := by rw [em15]; exact hFm14.cp rfl
  have km15_28_0 : m15 28 0 = g0 := by rw [em15, zCp_ne (by decide)]; exact km14_28_0
  have km15_28_1 : m15 28 1 = g1 := by rw [em15, zCp_ne (by decide)]; exact km14_28_1
  have km15_28_2 : m15 28 2 = g2 := by rw [em15, zCp_ne (by decide)]; exact km14_28_2
  have km15_28_3 : m15 28 3 = g3 := by rw [em15, zCp_ne (by decide)]; exact km14_28_3
  have km15_28_4 : m15 28 4 = g4 := by rw [em15, zCp_ne (by decide)]; exact km14_28_4
  have km15_28_5 : m15 28 5 = g5 := by rw [em15, zCp_ne (by decide)]; exact km14_28_5
  have km15_1_0 : m15 1 0 = g0 := by rw [em15, zCp_ne (by decide)]; exact km14_1_0
  have km15_1_1 : m15 1 1 = g1 := by rw [em15, zCp_ne (by decide)]; exact km14_1_1
  have km15_1_2 : m15 1 2 = g2 := by rw [em15, zCp_ne (by decide)]; exact km14_1_2
  have km15_1_3 : m15 1 3 = g3 := by rw [em15, zCp_ne (by decide)]; exact km14_1_3
  have km15_1_4 : m15 1 4 = g4 := by rw [em15, zCp_ne (by decide)]; exact km14_1_4
  have km15_1_5 : m15 1 5 = g5 := by rw [em15, zCp_ne (by decide)]; exact km14_1_5
  have fm15_2 : m15 2 = zCf F2 F29 10 := by rw [em15, zCp_fn (by decide)]; exact fm14_2
  have fm15_3 : m15 3 = zCf F3 F30 40 := by rw [em15, zCp_fn (by decide)]; exact fm14_3
  have fm15_4 : m15 4 = zCf F4 F31 40 := by rw [em15, zCp_fn (by decide)]; exact fm14_4
  have fm15_5 : m15 5 = zCf F5 F32 60 := by rw [em15, zCp_fn (by decide)]; exact fm14_5
  have fm15_6 : m15 6 = zCf F6 F33 60 := by rw [em15, zCp_fn (by decide)]; exact fm14_6
  have fm15_7 : m15 7 = zCf F7 F34 60 := by rw [em15, zCp_fn (by decide)]; exact fm14_7
  have fm15_8 : m15 8 = zCf F8 F35 60 := by rw [em15, zCp_fn (by decide)]; exact fm14_8
  have fm15_9 : m15 9 = zCf F9 F36 4 := by rw [em15, zCp_fn (by decide)]; exact fm14_9
  have fm15_10 : m15 10 = zCf F10 F37 4 := by rw [em15]; exact (zCp_ff (m := m14) (c1 := 10) (c2 := 37) (n := 4) rfl rfl).trans (by rw [fm14_10, fm14_37])
  have fm15_11 : m15 11 = F11 := by rw [em15, zCp_fn (by decide)]; exact fm14_11
  have fm15_12 : m15 12 = F12 := by rw [em15, zCp_fn (by decide)]; exact fm14_12
  have fm15_13 : m15 13 = F13 := by rw [em15, zCp_fn (by decide)]; exact fm14_13
  have fm15_29 : m15 29 = F29 := by rw [em15, zCp_fn (by decide)]; exact fm14_29
  have fm15_30 : m15 30 = F30 := by rw [em15, zCp_fn (by decide)]; exact fm14_30
  have fm15_31 : m15 31 = F31 := by rw [em15, zCp_fn (by decide)]; exact fm14_31
  have fm15_32 : m15 32 = F32 := by rw [em15, zCp_fn (by decide)]; exact fm14_32
  have fm15_33 : m15 33 = F33 := by rw [em15, zCp_fn (by decide)]; exact fm14_33
  have fm15_34 : m15 34 = F34 := by rw [em15, zCp_fn (by decide)]; exact fm14_34
  have fm15_35 : m15 35 = F35 := by rw [em15, zCp_fn (by decide)]; exact fm14_35
  have fm15_36 : m15 36 = F36 := by rw [em15, zCp_fn (by decide)]; exact fm14_36
  have fm15_37 : m15 37 = F37 := by rw [em15, zCp_fn (by decide)]; exact fm14_37
  have fm15_38 : m15 38 = F38 := by rw [em15, zCp_fn (by decide)]; exact fm14_38
  have fm15_39 : m15 39 = F39 := by rw [em15, zCp_fn (by decide)]; exact fm14_39
  have fm15_40 : m15 40 = F40 := by rw [em15, zCp_fn (by decide)]; exact fm14_40
  clear em15
  refine zw_7 zr_61_181 rfl ?_
  refine zw_46r (s := 38) zr_61_182 rfl rfl rfl rfl ?_
  refine zw_push zr_61_185 ?_
  refine zw_7 zr_61_186 rfl ?_
  refine zw_46r (s := 11) zr_61_187 rfl rfl rfl rfl ?_
  refine zw_push zr_61_190 ?_
  refine zw_push zr_61_191 ?_
  refine zw_114 (c1 := 11) (c2 := 38) (l1 := 200) (l2 := 200) zr_61_194 rfl rfl rfl rfl (by decide) (Nat.le_of_ble_eq_true rfl) (by omega) (by omega) ?_
  intro m16 em16
  have hIm16 : zInv m16 := by rw [em16]; exact zInv.cpS hIm15 (l2 := 200) (fun _ => rfl) rfl (by decide) (by decide) (by decide)
  have hFm16 : zFr W_61_1_28 m0 m16 := by rw [em16]; exact hFm15.cp rfl
  have km16_28_0 : m16 28 0 = g0 := by rw [em16, zCp_ne (by decide)]; exact km15_28_0
  have km16_28_1 : m16 28 1 = g1 := by rw [em16, zCp_ne (by decide)]; exact km15_28_1
  have km16_28_2 : m16 28 2 = g2 := by rw [em16, zCp_ne (by decide)]; exact km15_28_2
  have km16_28_3 : m16 28 3 = g3 := by rw [em16, zCp_ne (by decide)]; exact km15_28_3
  have km16_28_4 : m16 28 4 = g4 := by rw [em16, zCp_ne (by decide)]; exact km15_28_4
  have km16_28_5 : m16 28 5 = g5 := by rw [em16, zCp_ne (by decide)]; exact km15_28_5
  have km16_1_0 : m16 1 0 = g0 := by rw [em16, zCp_ne (by decide)]; exact km15_1_0
  have km16_1_1 : m16 1 1 = g1 := by rw [em16, zCp_ne (by decide)]; exact km15_1_1
  have km16_1_2 : m16 1 2 = g2 := by rw [em16, zCp_ne (by decide)]; exact km15_1_2
  have km16_1_3 : m16 1 3 = g3 := by rw [em16, zCp_ne (by decide)]; exact km15_1_3
  have km16_1_4 : m16 1 4 = g4 := by rw [em16, zCp_ne (by decide)]; exact km15_1_4
  have km16_1_5 : m16 1 5 = g5 := by rw [em16, zCp_ne (by decide)]; exact km15_1_5
  have fm16_2 : m16 2 = zCf F2 F29 10 := by rw [em16, zCp_fn (by decide)]; exact fm15_2
  have fm16_3 : m16 3 = zCf F3 F30 40 := by rw [em16, zCp_fn (by decide)]; exact fm15_3
  have fm16_4 : m16 4 = zCf F4 F31 40 := by rw [em16, zCp_fn (by decide)]; exact fm15_4
  have fm16_5 : m16 5 = zCf F5 F32 60 := by rw [em16, zCp_fn (by decide)]; exact fm15_5
  have fm16_6 : m16 6 = zCf F6 F33 60 := by rw [em16, zCp_fn (by decide)]; exact fm15_6
  have fm16_7 : m16 7 = zCf F7 F34 60 := by rw [em16, zCp_fn (by decide)]; exact fm15_7
  have fm16_8 : m16 8 = zCf F8 F35 60 := by rw [em16, zCp_fn (by decide)]; exact fm15_8
  have fm16_9 : m16 9 = zCf F9 F36 4 := by rw [em16, zCp_fn (by decide)]; exact fm15_9
  have fm16_10 : m16 10 = zCf F10 F37 4 := by rw [em16, zCp_fn (by decide)]; exact fm15_10
  have fm16_11 : m16 11 = zCf F11 F38 200 := by rw [em16]; exact (zCp_ff (m := m15) (c1 := 11) (c2 := 38) (n := 200) rfl rfl).trans (by rw [fm15_11, fm15_38])
  have fm16_12 : m16 12 = F12 := by rw [em16, zCp_fn (by decide)]; exact fm15_12
  have fm16_13 : m16 13 = F13 := by rw [em16, zCp_fn (by decide)]; exact fm15_13
  have fm16_29 : m16 29 = F29 := by rw [em16, zCp_fn (by decide)]; exact fm15_29
  have fm16_30 : m16 30 = F30 := by rw [em16, zCp_fn (by decide)]; exact fm15_30
  have fm16_31 : m16 31 = F31 := by rw [em16, zCp_fn (by decide)]; exact fm15_31
  have fm16_32 : m16 32 = F32 := by rw [em16, zCp_fn (by decide)]; exact fm15_32
  have fm16_33 : m16 33 = F33 := by rw [em16, zCp_fn (by decide)]; exact fm15_33
  have fm16_34 : m16 34 = F34 := by rw [em16, zCp_fn (by decide)]; exact fm15_34
  have fm16_35 : m16 35 = F35 := by rw [em16, zCp_fn (by decide)]; exact fm15_35
  have fm16_36 : m16 36 = F36 := by rw [em16, zCp_fn (by decide)]; exact fm15_36
  have fm16_37 : m16 37 = F37 := by rw [em16, zCp_fn (by decide)]; exact fm15_37
  have fm16_38 : m16 38 = F38 := by rw [em16, zCp_fn (by decide)]; exact fm15_38
  have fm16_39 : m16 39 = F39 := by rw [em16, zCp_fn (by decide)]; exact fm15_39
  have fm16_40 : m16 40 = F40 := by rw [em16, zCp_fn (by decide)]; exact fm15_40
  clear em16
  refine zw_7 zr_61_197 rfl ?_
  refine zw_46r (s := 39) zr_61_198 rfl rfl rfl rfl ?_
  refine zw_push zr_61_201 ?_
  refine zw_7 zr_61_202 rfl ?_
  refine zw_46r (s := 12) zr_61_203 rfl rfl rfl rfl ?_
  refine zw_push zr_61_206 ?_
  refine zw_push zr_61_207 ?_
  refine zw_114 (c1 := 12) (c2 := 39) (l1 := 160) (l2 := 160) zr_61_210 rfl rfl rfl rfl (by decide) (Nat.le_of_ble_eq_true rfl) (by omega) (by omega) ?_
  intro m17 em17
  have hIm17 : zInv m17 := by rw [em17]; exact zInv.cpS hIm16 (l2 := 160) (fun _ => rfl) rfl (by decide) (by decide) (by decide)
  have hFm17 : zFr W_61_1_28 m0 m17 := by rw [em17]; exact hFm16.cp rfl
  have km17_28_0 : m17 28 0 = g0 := by rw [em17, zCp_ne (by decide)]; exact km16_28_0
  have km17_28_1 : m17 28 1 = g1 := by rw [em17, zCp_ne (by decide)]; exact km16_28_1
  have km17_28_2 : m17 28 2 = g2 := by rw [em17, zCp_ne (by decide)]; exact km16_28_2
  have km17_28_3 : m17 28 3 = g3 := by rw [em17, zCp_ne (by decide)]; exact km16_28_3
  have km17_28_4 : m17 28 4 = g4 := by rw [em17, zCp_ne (by decide)]; exact km16_28_4
  have km17_28_5 : m17 28 5 = g5 := by rw [em17, zCp_ne (by decide)]; exact km16_28_5
  have km17_1_0 : m17 1 0 = g0 := by rw [em17, zCp_ne (by decide)]; exact km16_1_0
  have km17_1_1 : m17 1 1 = g1 := by rw [em17, zCp_ne (by decide)]; exact km16_1_1
  have km17_1_2 : m17 1 2 = g2 := by rw [em17, zCp_ne (by decide)]; exact km16_1_2
  have km17_1_3 : m17 1 3 = g3 := by rw [em17, zCp_ne (by decide)]; exact km16_1_3
  have km17_1_4 : m17 1 4 = g4 := by rw [em17, zCp_ne (by decide)]; exact km16_1_4
  have km17_1_5 : m17 1 5 = g5 := by rw [em17, zCp_ne (by decide)]; exact km16_1_5
  have fm17_2 : m17 2 = zCf F2 F29 10 := by rw [em17, zCp_fn (by decide)]; exact fm16_2
  have fm17_3 : m17 3 = zCf F3 F30 40 := by rw [em17, zCp_fn (by decide)]; exact fm16_3
  have fm17_4 : m17 4 = zCf F4 F31 40 := by rw [em17, zCp_fn (by decide)]; exact fm16_4
  have fm17_5 : m17 5 = zCf F5 F32 60 := by rw [em17, zCp_fn (by decide)]; exact fm16_5
  have fm17_6 : m17 6 = zCf F6 F33 60 := by rw [em17, zCp_fn (by decide)]; exact fm16_6
  have fm17_7 : m17 7 = zCf F7 F34 60 := by rw [em17, zCp_fn (by decide)]; exact fm16_7
  have fm17_8 : m17 8 = zCf F8 F35 60 := by rw [em17, zCp_fn (by decide)]; exact fm16_8
  have fm17_9 : m17 9 = zCf F9 F36 4 := by rw [em17, zCp_fn (by decide)]; exact fm16_9
  have fm17_10 : m17 10 = zCf F10 F37 4 := by rw [em17, zCp_fn (by decide)]; exact fm16_10
  have fm17_11 : m17 11 = zCf F11 F38 200 := by rw [em17, zCp_fn (by decide)]; exact fm16_11
  have fm17_12 : m17 12 = zCf F12 F39 160 := by rw [em17]; exact (zCp_ff (m := m16) (c1 := 12) (c2 := 39) (n := 160) rfl rfl).trans (by rw [fm16_12, fm16_39])
  have fm17_13 : m17 13 = F13 := by rw [em17, zCp_fn (by decide)]; exact fm16_13
  have fm17_29 : m17 29 = F29 := by rw [em17, zCp_fn (by decide)]; exact fm16_29
  have fm17_30 : m17 30 = F30 := by rw [em17, zCp_fn (by decide)]; exact fm16_30
  have fm17_31 : m17 31 = F31 := by rw [em17, zCp_fn (by decide)]; exact fm16_31
  have fm17_32 : m17 32 = F32 := by rw [em17, zCp_fn (by decide)]; exact fm16_32
  have fm17_33 : m17 33 = F33 := by rw [em17, zCp_fn (by decide)]; exact fm16_33
  have fm17_34 : m17 34 = F34 := by rw [em17, zCp_fn (by decide)]; exact fm16_34
  have fm17_35 : m17 35 = F35 := by rw [em17, zCp_fn (by decide)]; exact fm16_35
  have fm17_36 : m17 36 = F36 := by rw [em17, zCp_fn (by decide)]; exact fm16_36
  have fm17_37 : m17 37 = F37 := by rw [em17, zCp_fn (by decide)]; exact fm16_37
  have fm17_38 : m17 38 = F38 := by rw [em17, zCp_fn (by decide)]; exact fm16_38
  have fm17_39 : m17 39 = F39 := by rw [em17, zCp_fn (by decide)]; exact fm16_39
  have fm17_40 : m17 40 = F40 := by rw [em17, zCp_fn (by decide)]; exact fm16_40
  clear em17
  refine zw_7 zr_61_213 rfl ?_
  refine zw_46r (s := 40) zr_61_214 rfl rfl rfl rfl ?_
  refine zw_push zr_61_217 ?_
  refine zw_7 zr_61_218 rfl ?_
  refine zw_46r (s := 13) zr_61_219 rfl rfl rfl rfl ?_
  refine zw_push zr_61_222 ?_
  refine zw_push zr_61_223 ?_
  refine zw_114 (c1 := 13) (c2 := 40) (l1 := 4) (l2 := 4) zr_61_224 rfl rfl rfl rfl (by decide) (Nat.le_of_ble_eq_true rfl) (by omega) (by omega) ?_
  intro m18 em18
  have hIm18 : zInv m18 := by rw [em18]; exact zInv.cpS hIm17 (l2 := 4) (fun _ => rfl) rfl (by decide) (by decide) (by decide)
  have hFm18 : zFr W_61_1_28 m0 m18 := by rw [em18]; exact hFm17.cp rfl
  have km18_28_0 : m18 28 0 = g0 := by rw [em18, zCp_ne (by decide)]; exact km17_28_0
  have km18_28_1 : m18 28 1 = g1 := by rw [em18, zCp_ne (by decide)]; exact km17_28_1
  have km18_28_2 : m18 28 2 = g2 := by rw [em18, zCp_ne (by decide)]; exact km17_28_2
  have km18_28_3 : m18 28 3 = g3 := by rw [em18, zCp_ne (by decide)]; exact km17_28_3
  have km18_28_4 : m18 28 4 = g4 := by rw [em18, zCp_ne (by decide)]; exact km17_28_4
  have km18_28_5 : m18 28 5 = g5 := by rw [em18, zCp_ne (by decide)]; exact km17_28_5
  have km18_1_0 : m18 1 0 = g0 := by rw [em18, zCp_ne (by decide)]; exact km17_1_0
  have km18_1_1 : m18 1 1 = g1 := by rw [em18, zCp_ne (by decide)]; exact km17_1_1
  have km18_1_2 : m18 1 2 = g2 := by rw [em18, zCp_ne (by decide)]; exact km17_1_2
  have km18_1_3 : m18 1 3 = g3 := by rw [em18, zCp_ne (by decide)]; exact km17_1_3
  have km18_1_4 : m18 1 4 = g4 := by rw [em18, zCp_ne (by decide)]; exact km17_1_4
  have km18_1_5 : m18 1 5 = g5 := by rw [em18, zCp_ne (by decide)]; exact km17_1_5
  have fm18_2 : m18 2 = zCf F2 F29 10 := by rw [em18, zCp_fn (by decide)]; exact fm17_2
  have fm18_3 : m18 3 = zCf F3 F30 40 := by rw [em18, zCp_fn (by decide)]; exact fm17_3
  have fm18_4 : m18 4 = zCf F4 F31 40 := by rw [em18, zCp_fn (by decide)]; exact fm17_4
  have fm18_5 : m18 5 = zCf F5 F32 60 := by rw [em18, zCp_fn (by decide)]; exact fm17_5
  have fm18_6 : m18 6 = zCf F6 F33 60 := by rw [em18, zCp_fn (by decide)]; exact fm17_6
  have fm18_7 : m18 7 = zCf F7 F34 60 := by rw [em18, zCp_fn (by decide)]; exact fm17_7
  have fm18_8 : m18 8 = zCf F8 F35 60 := by rw [em18, zCp_fn (by decide)]; exact fm17_8
  have fm18_9 : m18 9 = zCf F9 F36 4 := by rw [em18, zCp_fn (by decide)]; exact fm17_9
  have fm18_10 : m18 10 = zCf F10 F37 4 := by rw [em18, zCp_fn (by decide)]; exact fm17_10
  have fm18_11 : m18 11 = zCf F11 F38 200 := by rw [em18, zCp_fn (by decide)]; exact fm17_11
  have fm18_12 : m18 12 = zCf F12 F39 160 := by rw [em18, zCp_fn (by decide)]; exact fm17_12
  have fm18_13 : m18 13 = zCf F13 F40 4 := by rw [em18]; exact (zCp_ff (m := m17) (c1 := 13) (c2 := 40) (n := 4) rfl rfl).trans (by rw [fm17_13, fm17_40])
  have fm18_29 : m18 29 = F29 := by rw [em18, zCp_fn (by decide)]; exact fm17_29
  have fm18_30 : m18 30 = F30 := by rw [em18, zCp_fn (by decide)]; exact fm17_30
  have fm18_31 : m18 31 = F31 := by rw [em18, zCp_fn (by decide)]; exact fm17_31
  have fm18_32 : m18 32 = F32 := by rw [em18, zCp_fn (by decide)]; exact fm17_32
  have fm18_33 : m18 33 = F33 := by rw [em18, zCp_fn (by decide)]; exact fm17_33
  have fm18_34 : m18 34 = F34 := by rw [em18, zCp_fn (by decide)]; exact fm17_34
  have fm18_35 : m18 35 = F35 := by rw [em18, zCp_fn (by decide)]; exact fm17_35
  have fm18_36 : m18 36 = F36 := by rw [em18, zCp_fn (by decide)]; exact fm17_36
  have fm18_37 : m18 37 = F37 := by rw [em18, zCp_fn (by decide)]; exact fm17_37
  have fm18_38 : m18 38 = F38 := by rw [em18, zCp_fn (by decide)]; exact fm17_38
  have fm18_39 : m18 39 = F39 := by rw [em18, zCp_fn (by decide)]; exact fm17_39
  have fm18_40 : m18 40 = F40 := by rw [em18, zCp_fn (by decide)]; exact fm17_40
  clear em18
  refine zw_R zr_61_227 (by decide) zm_61 (v := (9, 0)) rfl ?_
  rw [← hQ]; exact ⟨rfl, hIm18, hFm18, ⟨(km18_1_0.trans hg0.symm), (km18_1_1.trans hg1.symm), (km18_1_2.trans hg2.symm), (km18_1_3.trans hg3.symm), (km18_1_4.trans hg4.symm), (km18_1_5.trans hg5.symm), fun k hk => by rw [fm18_2, hG29]; exact zCf_lt hk, fun k hk => by rw [fm18_3, hG30]; exact zCf_lt hk, fun k hk => by rw [fm18_4, hG31]; exact zCf_lt hk, fun k hk => by rw [fm18_5, hG32]; exact zCf_lt hk, fun k hk => by rw [fm18_6, hG33]; exact zCf_lt hk, fun k hk => by rw [fm18_7, hG34]; exact zCf_lt hk, fun k hk => by rw [fm18_8, hG35]; exact zCf_lt hk, fun k hk => by rw [fm18_9, hG36]; exact zCf_lt hk, fun k hk => by rw [fm18_10, hG37]; exact zCf_lt hk, fun k hk => by rw [fm18_11, hG38]; exact zCf_lt hk, fun k hk => by rw [fm18_12, hG39]; exact zCf_lt hk, fun k hk => by rw [fm18_13, hG40]; exact zCf_lt hk⟩⟩

abbrev W_135 : List (Nat × Nat) := [(1, 0), (1, 1), (1, 2), (1, 3), (1, 4), (1, 5), (2, 1000), (3, 1000), (4, 1000), (5, 1000), (6, 1000), (7, 1000), (8, 1000), (9, 1000), (10, 1000), (11, 1000), (12, 1000), (13, 1000)]
set_option maxHeartbeats 8000000 in
theorem th_135 {E : zE} {d : Nat} {m0 : zM} {a0 : Int} {F41 : Nat → Int} (hd : 2 ≤ d) (hI0 : zInv m0) (hG41 : m0 41 = F41) (ha0 : (-2147483648) ≤ a0 ∧ a0 ≤ 2147483647) : zC E d 135 [(2, 0), (0, a0)] m0 (fun v m' => ∃ r : Int, v = (0, r) ∧ (-3) ≤ r ∧ r ≤ 1 ∧ zInv m' ∧ zFr W_135 m0 m' ∧ (zCm m0 m' a0 r)) := by
  have hF0 : zFr W_135 m0 m0 := zFr.rfl
  generalize hQ : (fun (v : zV) (m' : zM) => ∃ r : Int, v = (0, r) ∧ (-3) ≤ r ∧ r ≤ 1 ∧ zInv m' ∧ zFr W_135 m0 m' ∧ (zCm m0 m' a0 r)) = Q
  show zW E d 135 0 [(2, 0), (0, a0)] [] m0 Q
  refine zw_3 zr_135_0 rfl ?_
  refine zw_push zr_135_1 ?_
  refine zw_push zr_135_2 ?_
  refine zw_C zr_135_3 (Or.inr rfl) zm_100 rfl rfl ⟨Nat.le_of_ble_eq_true rfl, Nat.le_of_ble_eq_true rfl, Nat.le_of_ble_eq_true rfl, rfl, by decide⟩ (by omega) (P := (fun v m' => zW E (d) 135 6 [(2, 0), (0, a0)] (if v.1 = 9 then [] else v :: []) m' Q)) ?_ (fun _ _ h => h)
  generalize hQ1 : (fun v m' => zW E (d) 135 6 [(2, 0), (0, a0)] (if v.1 = 9 then [] else v :: []) m' Q) = Q1
  show zW E (d - 1) 100 0 [(0, a0), (0, 0), (0, 1)] [] m0 Q1
  refine zw_3 zr_100_0 rfl ?_
  refine zw_3 zr_100_1 rfl ?_
  refine zw_41_0 zr_100_2 ?_ ?_
  · intro h1
    refine zw_push zr_100_14 ?_
    refine zw_R zr_100_15 (by decide) zm_100 (v := (0, 0)) (zRetB (by omega)) ?_
    rw [← hQ1]
    show zW E (d) 135 6 [(2, 0), (0, a0)] [(0, 0)] m0 Q
    refine zw_40_4 zr_135_6 ?_ ?_
    · intro h2; omega
    · intro h3
      refine zw_push zr_135_9 ?_
      refine zw_R zr_135_11 (by decide) zm_135 (v := (0, (-2))) rfl ?_
      rw [← hQ]; exact ⟨_, rfl, by omega, by omega, hI0, hF0, by first | exact Or.inl ⟨rfl, by omega, rfl⟩ | exact Or.inr (Or.inl ⟨rfl, by omega, by rw [hG41]; omega, rfl⟩) | exact Or.inr (Or.inr (Or.inl ⟨rfl, by omega, by rw [hG41]; omega, zz⟩)) | exact Or.inr (Or.inr (Or.inr ⟨rfl, by omega, by rw [hG41]; omega, zz⟩))⟩
  · intro h5
    refine zw_3 zr_100_5 rfl ?_
    refine zw_3 zr_100_6 rfl ?_
    refine zw_41_2 zr_100_7 ?_ ?_
    · intro h6
      refine zw_push zr_100_14 ?_
      refine zw_R zr_100_15 (by decide) zm_100 (v := (0, 0)) (zRetB (by omega)) ?_
      rw [← hQ1]
      show zW E (d) 135 6 [(2, 0), (0, a0)] [(0, 0)] m0 Q
      refine zw_40_4 zr_135_6 ?_ ?_
      · intro h7; omega
      · intro h8
        refine zw_push zr_135_9 ?_
        refine zw_R zr_135_11 (by decide) zm_135 (v := (0, (-2))) rfl ?_
        rw [← hQ]; exact ⟨_, rfl, by omega, by omega, hI0, hF0, by first | exact Or.inl ⟨rfl, by omega, rfl⟩ | exact Or.inr (Or.inl ⟨rfl, by omega, by rw [hG41]; omega, rfl⟩) | exact Or.inr (Or.inr (Or.inl ⟨rfl, by omega, by rw [hG41]; omega, zz⟩)) | exact Or.inr (Or.inr (Or.inr ⟨rfl, by omega, by rw [hG41]; omega, zz⟩))⟩
    · intro h10
      refine zw_push zr_100_10 ?_
      refine zw_42 zr_100_11 ?_
      refine zw_R zr_100_15 (by decide) zm_100 (v := (0, 1)) (zRetB (by omega)) ?_
      rw [← hQ1]
      show zW E (d) 135 6 [(2, 0), (0, a0)] [(0, 1)] m0 Q
      refine zw_40_4 zr_135_6 ?_ ?_
      · intro h11
        refine zw_7 zr_135_12 rfl ?_
        refine zw_46r (s := 41) zr_135_13 rfl rfl rfl rfl ?_
        refine zw_3 zr_135_16 rfl ?_
        refine zw_48 (c := 41) (len := 2) zr_135_17 rfl rfl (by omega) (by omega) ?_
        intro x12 ex12
        have bx12 := ib_41 hI0 (k := (a0).toNat) (by omega)
        rw [← ex12] at bx12
        have qx12 : x12 = F41 (a0).toNat := by rw [← hG41]; exact ex12
        clear ex12
        refine zw_40_4 zr_135_18 ?_ ?_
        · intro h13
          refine zw_7 zr_135_24 rfl ?_
          refine zw_46r (s := 1) zr_135_25 rfl rfl rfl rfl ?_
          refine zw_7 zr_135_28 rfl ?_
          refine zw_46r (s := 14) zr_135_29 rfl rfl rfl rfl ?_
          refine zw_3 zr_135_32 rfl ?_
          by_cases h14 : a0 = 0
          · rw [h14]
            refine zw_54 (s := 15) zr_135_33 rfl ?_
            obtain ⟨f15, ef15⟩ : ∃ v, m0 15 0 = v := ⟨_, rfl⟩
            have bf15 := ib_15_0 hI0
            rw [ef15] at bf15
            obtain ⟨f16, ef16⟩ : ∃ v, m0 15 1 = v := ⟨_, rfl⟩
            have bf16 := ib_15_1 hI0
            rw [ef16] at bf16
            obtain ⟨f17, ef17⟩ : ∃ v, m0 15 2 = v := ⟨_, rfl⟩
            have bf17 := ib_15_2 hI0
            rw [ef17] at bf17
            obtain ⟨f18, ef18⟩ : ∃ v, m0 15 3 = v := ⟨_, rfl⟩
            have bf18 := ib_15_3 hI0
            rw [ef18] at bf18
            obtain ⟨f19, ef19⟩ : ∃ v, m0 15 4 = v := ⟨_, rfl⟩
            have bf19 := ib_15_4 hI0
            rw [ef19] at bf19
            obtain ⟨f20, ef20⟩ : ∃ v, m0 15 5 = v := ⟨_, rfl⟩
            have bf20 := ib_15_5 hI0
            rw [ef20] at bf20
            refine zw_C zr_135_34 (Or.inl rfl) zm_61 rfl rfl ⟨Nat.le_of_ble_eq_true rfl, Nat.le_of_ble_eq_true rfl, Nat.le_of_ble_eq_true rfl, rfl, by decide⟩ (by omega) (th_61_1_15 (d := d - 1) (by omega) hI0  (g0 := f15) (g1 := f16) (g2 := f17) (g3 := f18) (g4 := f19) (g5 := f20)  (F2 := m0 2) (F3 := m0 3) (F4 := m0 4) (F5 := m0 5) (F6 := m0 6) (F7 := m0 7) (F8 := m0 8) (F9 := m0 9) (F10 := m0 10) (F11 := m0 11) (F12 := m0 12) (F13 := m0 13) (F16 := m0 16) (F17 := m0 17) (F18 := m0 18) (F19 := m0 19) (F20 := m0 20) (F21 := m0 21) (F22 := m0 22) (F23 := m0 23) (F24 := m0 24) (F25 := m0 25) (F26 := m0 26) (F27 := m0 27) ef15 ef16 ef17 ef18 ef19 ef20 rfl rfl rfl rfl rfl rfl rfl rfl rfl rfl rfl rfl rfl rfl rfl rfl rfl rfl rfl rfl rfl rfl rfl rfl  ) ?_
            rintro _ m21 ⟨rfl, hIm21, gm21, po0_m21⟩
            have hFm21 : zFr W_135 m0 m21 := hF0.trans gm21 rfl
            have km21_15_0 : m21 15 0 = f15 := (gm21 15 0 rfl).trans ef15
            have km21_15_1 : m21 15 1 = f16 := (gm21 15 1 rfl).trans ef16
            have km21_15_2 : m21 15 2 = f17 := (gm21 15 2 rfl).trans ef17
            have km21_15_3 : m21 15 3 = f18 := (gm21 15 3 rfl).trans ef18
            have km21_15_4 : m21 15 4 = f19 := (gm21 15 4 rfl).trans ef19
            have km21_15_5 : m21 15 5 = f20 := (gm21 15 5 rfl).trans ef20
            have fm21_41 : m21 41 = F41 := (funext fun k => gm21 41 k rfl).trans hG41
            show zW E (d) 135 37 [(2, 0), (0, 0)] [] m21 Q
            refine zw_push zr_135_37 ?_
            refine zw_R zr_135_38 (by decide) zm_135 (v := (0, 1)) rfl ?_
            rw [← hQ]; exact ⟨_, rfl, by omega, by omega, hIm21, hFm21, by first | exact Or.inl ⟨rfl, by omega, rfl⟩ | exact Or.inr (Or.inl ⟨rfl, by omega, by rw [hG41]; omega, rfl⟩) | exact Or.inr (Or.inr (Or.inl ⟨rfl, by omega, by rw [hG41]; omega, po0_m21⟩)) | exact Or.inr (Or.inr (Or.inr ⟨rfl, by omega, by rw [hG41]; omega, po0_m21⟩))⟩
          by_cases h23 : a0 = 1
          · rw [h23]
            refine zw_54 (s := 28) zr_135_33 rfl ?_
            obtain ⟨f24, ef24⟩ : ∃ v, m0 28 0 = v := ⟨_, rfl⟩
            have bf24 := ib_28_0 hI0
            rw [ef24] at bf24
            obtain ⟨f25, ef25⟩ : ∃ v, m0 28 1 = v := ⟨_, rfl⟩
            have bf25 := ib_28_1 hI0
            rw [ef25] at bf25
            obtain ⟨f26, ef26⟩ : ∃ v, m0 28 2 = v := ⟨_, rfl⟩
            have bf26 := ib_28_2 hI0
            rw [ef26] at bf26
            obtain ⟨f27, ef27⟩ : ∃ v, m0 28 3 = v := ⟨_, rfl⟩
            have bf27 := ib_28_3 hI0
            rw [ef27] at bf27
            obtain ⟨f28, ef28⟩ : ∃ v, m0 28 4 = v := ⟨_, rfl⟩
            have bf28 := ib_28_4 hI0
            rw [ef28] at bf28
            obtain ⟨f29, ef29⟩ : ∃ v, m0 28 5 = v := ⟨_, rfl⟩
            have bf29 := ib_28_5 hI0
            rw [ef29] at bf29
            refine zw_C zr_135_34 (Or.inl rfl) zm_61 rfl rfl ⟨Nat.le_of_ble_eq_true rfl, Nat.le_of_ble_eq_true rfl, Nat.le_of_ble_eq_true rfl, rfl, by decide⟩ (by omega) (th_61_1_28 (d := d - 1) (by omega) hI0  (g0 := f24) (g1 := f25) (g2 := f26) (g3 := f27) (g4 := f28) (g5 := f29)  (F2 := m0 2) (F3 := m0 3) (F4 := m0 4) (F5 := m0 5) (F6 := m0 6) (F7 := m0 7) (F8 := m0 8) (F9 := m0 9) (F10 := m0 10) (F11 := m0 11) (F12 := m0 12) (F13 := m0 13) (F29 := m0 29) (F30 := m0 30) (F31 := m0 31) (F32 := m0 32) (F33 := m0 33) (F34 := m0 34) (F35 := m0 35) (F36 := m0 36) (F37 := m0 37) (F38 := m0 38) (F39 := m0 39) (F40 := m0 40) ef24 ef25 ef26 ef27 ef28 ef29 rfl rfl rfl rfl rfl rfl rfl rfl rfl rfl rfl rfl rfl rfl rfl rfl rfl rfl rfl rfl rfl rfl rfl rfl  ) ?_
            rintro _ m30 ⟨rfl, hIm30, gm30, po0_m30⟩
            have hFm30 : zFr W_135 m0 m30 := hF0.trans gm30 rfl
            have km30_28_0 : m30 28 0 = f24 := (gm30 28 0 rfl).trans ef24
            have km30_28_1 : m30 28 1 = f25 := (gm30 28 1 rfl).trans ef25
            have km30_28_2 : m30 28 2 = f26 := (gm30 28 2 rfl).trans ef26
            have km30_28_3 : m30 28 3 = f27 := (gm30 28 3 rfl).trans ef27
            have km30_28_4 : m30 28 4 = f28 := (gm30 28 4 rfl).trans ef28
            have km30_28_5 : m30 28 5 = f29 := (gm30 28 5 rfl).trans ef29
            have fm30_41 : m30 41 = F41 := (funext fun k => gm30 41 k rfl).trans hG41
            show zW E (d) 135 37 [(2, 0), (0, 1)] [] m30 Q
            refine zw_push zr_135_37 ?_
            refine zw_R zr_135_38 (by decide) zm_135 (v := (0, 1)) rfl ?_
            rw [← hQ]; exact ⟨_, rfl, by omega, by omega, hIm30, hFm30, by first | exact Or.inl ⟨rfl, by omega, rfl⟩ | exact Or.inr (Or.inl ⟨rfl, by omega, by rw [hG41]; omega, rfl⟩) | exact Or.inr (Or.inr (Or.inl ⟨rfl, by omega, by rw [hG41]; omega, po0_m30⟩)) | exact Or.inr (Or.inr (Or.inr ⟨rfl, by omega, by rw [hG41]; omega, po0_m30⟩))⟩
          exfalso; omega
        · intro h32
          refine zw_push zr_135_21 ?_
          refine zw_R zr_135_23 (by decide) zm_135 (v := (0, (-3))) rfl ?_
          rw [← hQ]; exact ⟨_, rfl, by omega, by omega, hI0, hF0, by first | exact Or.inl ⟨rfl, by omega, rfl⟩ | exact Or.inr (Or.inl ⟨rfl, by omega, by rw [hG41]; omega, rfl⟩) | exact Or.inr (Or.inr (Or.inl ⟨rfl, by omega, by rw [hG41]; omega, zz⟩)) | exact Or.inr (Or.inr (Or.inr ⟨rfl, by omega, by rw [hG41]; omega, zz⟩))⟩
      · intro h34; omega

set_option maxHeartbeats 8000000 in
theorem th_137 {E : zE} {d : Nat} {m0 : zM} {a0 : Int} {g0 : Int} {g1 : Int} {g2 : Int} {g3 : Int} (hd : 2 ≤ d) (hI0 : zInv m0) (hg0 : m0 1 0 = g0) (hg1 : m0 1 1 = g1) (hg2 : m0 1 2 = g2) (hg3 : m0 1 3 = g3) (ha0 : (-2147483648) ≤ a0 ∧ a0 ≤ 2147483647) : zC E d 137 [(2, 0), (0, a0)] m0 (fun v m' => ∃ r : Int, v = (0, r) ∧ (-2) ≤ r ∧ r ≤ 127 ∧ m0 = m' ∧ ((a0 = 0 ∧ r = g0) ∨ (a0 = 1 ∧ r = g1) ∨ (a0 = 2 ∧ r = ((bs g2.toNat 64 : Nat) : Int)) ∨ (a0 = 3 ∧ r = ((bs g3.toNat 64 : Nat) : Int)) ∨ ((a0 < 0 ∨ 3 < a0) ∧ r = -2))) := by
  have bg0 := ib_1_0 hI0
  rw [hg0] at bg0
  have bg1 := ib_1_1 hI0
  rw [hg1] at bg1
  have bg2 := ib_1_2 hI0
  rw [hg2] at bg2
  have bg3 := ib_1_3 hI0
  rw [hg3] at bg3
  generalize hQ : (fun (v : zV) (m' : zM) => ∃ r : Int, v = (0, r) ∧ (-2) ≤ r ∧ r ≤ 127 ∧ m0 = m' ∧ ((a0 = 0 ∧ r = g0) ∨ (a0 = 1 ∧ r = g1) ∨ (a0 = 2 ∧ r = ((bs g2.toNat 64 : Nat) : Int)) ∨ (a0 = 3 ∧ r = ((bs g3.toNat 64 : Nat) : Int)) ∨ ((a0 < 0 ∨ 3 < a0) ∧ r = -2))) = Q
  show zW E d 137 0 [(2, 0), (0, a0)] [] m0 Q
  refine zw_3 zr_137_0 rfl ?_
  by_cases h1 : a0 = 0
  · refine zw_111 (t := 32) zr_137_1 (by rw [h1]; rfl) ?_
    refine zw_7 zr_137_32 rfl ?_
    refine zw_46r (s := 1) zr_137_33 rfl rfl rfl rfl ?_
    refine zw_46i zr_137_36 hg0 rfl rfl rfl ?_
    refine zw_R zr_137_39 (by decide) zm_137 (v := (0, g0)) rfl ?_
    rw [← hQ]; exact ⟨_, rfl, by omega, by omega, rfl, by omega⟩
  by_cases h3 : a0 = 1
  · refine zw_111 (t := 40) zr_137_1 (by rw [h3]; rfl) ?_
    refine zw_7 zr_137_40 rfl ?_
    refine zw_46r (s := 1) zr_137_41 rfl rfl rfl rfl ?_
    refine zw_46i zr_137_44 hg1 rfl rfl rfl ?_
    refine zw_R zr_137_47 (by decide) zm_137 (v := (0, g1)) rfl ?_
    rw [← hQ]; exact ⟨_, rfl, by omega, by omega, rfl, by omega⟩
  by_cases h5 : a0 = 2
  · refine zw_111 (t := 48) zr_137_1 (by rw [h5]; rfl) ?_
    refine zw_7 zr_137_48 rfl ?_
    refine zw_46r (s := 1) zr_137_49 rfl rfl rfl rfl ?_
    refine zw_46l zr_137_52 hg2 rfl rfl rfl ?_
    refine zw_C zr_137_55 (Or.inr rfl) zm_136 rfl rfl ⟨Nat.le_of_ble_eq_true rfl, Nat.le_of_ble_eq_true rfl, Nat.le_of_ble_eq_true rfl, rfl, by decide⟩ (by omega) (th_136 (d := d - 1) (by omega) hI0 (a0 := g2)      (by omega) ) ?_
    rintro _ _ ⟨r6, rfl, hr6a, hr6b, rfl, po0_r6⟩
    show zW E (d) 137 58 [(2, 0), (0, a0)] [(0, r6)] m0 Q
    refine zw_R zr_137_58 (by decide) zm_137 (v := (0, r6)) rfl ?_
    rw [← hQ]; exact ⟨_, rfl, by omega, by omega, rfl, by omega⟩
  by_cases h8 : a0 = 3
  · refine zw_111 (t := 59) zr_137_1 (by rw [h8]; rfl) ?_
    refine zw_7 zr_137_59 rfl ?_
    refine zw_46r (s := 1) zr_137_60 rfl rfl rfl rfl ?_
    refine zw_46l zr_137_63 hg3 rfl rfl rfl ?_
    refine zw_C zr_137_66 (Or.inr rfl) zm_136 rfl rfl ⟨Nat.le_of_ble_eq_true rfl, Nat.le_of_ble_eq_true rfl, Nat.le_of_ble_eq_true rfl, rfl, by decide⟩ (by omega) (th_136 (d := d - 1) (by omega) hI0 (a0 := g3)      (by omega) ) ?_
    rintro _ _ ⟨r9, rfl, hr9a, hr9b, rfl, po0_r9⟩
    show zW E (d) 137 69 [(2, 0), (0, a0)] [(0, r9)] m0 Q
    refine zw_R zr_137_69 (by decide) zm_137 (v := (0, r9)) rfl ?_
    rw [← hQ]; exact ⟨_, rfl, by omega, by omega, rfl, by omega⟩
  refine zw_111d (t := 70) zr_137_1 (by omega) rfl ?_
  refine zw_push zr_137_70 ?_
  refine zw_R zr_137_72 (by decide) zm_137 (v := (0, (-2))) rfl ?_
  rw [← hQ]; exact ⟨_, rfl, by omega, by omega, rfl, by omega⟩

set_option maxHeartbeats 8000000 in
theorem th_210 {E : zE} {d : Nat} {m0 : zM} {a0 : Int} {g0 : Int} {g1 : Int} {F70 : Nat → Int} (hd : 2 ≤ d) (hI0 : zInv m0) (hg0 : m0 70 822 = g0) (hg1 : m0 70 823 = g1) (hG70 : m0 70 = F70) (ha0 : (-2147483648) ≤ a0 ∧ a0 ≤ 2147483647) : zC E d 210 [(2, 69), (0, a0)] m0 (fun v m' => ∃ r : Int, v = (0, r) ∧ (-2) ≤ r ∧ r ≤ 60 ∧ m0 = m' ∧ ((r = -2 ∧ (a0 < 0 ∨ 3 < a0)) ∨ (a0 = 0 ∧ r = g0) ∨ (a0 = 1 ∧ r = g1) ∨ (2 ≤ a0 ∧ a0 ≤ 3 ∧ r = sfl F70 (a0 - 2).toNat g1.toNat))) := by
  have bg0 : 0 ≤ m0 70 822 ∧ m0 70 822 ≤ 10 := ib_70_players hI0 (by omega)
  rw [hg0] at bg0
  have bg1 : 0 ≤ m0 70 823 ∧ m0 70 823 ≤ 60 := ib_70_meetings hI0 (by omega)
  rw [hg1] at bg1
  generalize hQ : (fun (v : zV) (m' : zM) => ∃ r : Int, v = (0, r) ∧ (-2) ≤ r ∧ r ≤ 60 ∧ m0 = m' ∧ ((r = -2 ∧ (a0 < 0 ∨ 3 < a0)) ∨ (a0 = 0 ∧ r = g0) ∨ (a0 = 1 ∧ r = g1) ∨ (2 ≤ a0 ∧ a0 ≤ 3 ∧ r = sfl F70 (a0 - 2).toNat g1.toNat))) = Q
  show zW E d 210 0 [(2, 69), (0, a0), (9, 0), (9, 0)] [] m0 Q
  refine zw_3 zr_210_0 rfl ?_
  refine zw_36 zr_210_1 ?_
  refine zw_push zr_210_2 ?_
  refine zw_push zr_210_3 ?_
  refine zw_C zr_210_6 (Or.inr rfl) zm_140 rfl rfl ⟨Nat.le_of_ble_eq_true rfl, Nat.le_of_ble_eq_true rfl, Nat.le_of_ble_eq_true rfl, rfl, by decide⟩ (by omega) (P := (fun v m' => zW E (d) 210 9 [(2, 69), (0, a0), (9, 0), (9, 0)] (if v.1 = 9 then [] else v :: []) m' Q)) ?_ (fun _ _ h => h)
  generalize hQ1 : (fun v m' => zW E (d) 210 9 [(2, 69), (0, a0), (9, 0), (9, 0)] (if v.1 = 9 then [] else v :: []) m' Q) = Q1
  show zW E (d - 1) 140 0 [(1, a0), (9, 0), (1, 0), (9, 0), (1, 3), (9, 0)] [] m0 Q1
  refine zw_5 zr_140_0 rfl ?_
  refine zw_5 zr_140_1 rfl ?_
  refine zw_39_0 zr_140_2 zr_140_3 ?_ ?_
  · intro h1
    refine zw_push zr_140_17 ?_
    refine zw_R zr_140_18 (by decide) zm_140 (v := (0, 0)) (zRetB (by omega)) ?_
    rw [← hQ1]
    show zW E (d) 210 9 [(2, 69), (0, a0), (9, 0), (9, 0)] [(0, 0)] m0 Q
    refine zw_40_4 zr_210_9 ?_ ?_
    · intro h2; omega
    · intro h3
      refine zw_push zr_210_12 ?_
      refine zw_R zr_210_14 (by decide) zm_210 (v := (0, (-2))) rfl ?_
      rw [← hQ]; exact ⟨_, rfl, by omega, by omega, rfl, by first | omega | (rw [show g1 = zz by omega]; omega)⟩
  · intro h5
    refine zw_5 zr_140_6 rfl ?_
    refine zw_6 zr_140_7 rfl ?_
    refine zw_39_2 zr_140_9 zr_140_10 ?_ ?_
    · intro h6
      refine zw_push zr_140_17 ?_
      refine zw_R zr_140_18 (by decide) zm_140 (v := (0, 0)) (zRetB (by omega)) ?_
      rw [← hQ1]
      show zW E (d) 210 9 [(2, 69), (0, a0), (9, 0), (9, 0)] [(0, 0)] m0 Q
      refine zw_40_4 zr_210_9 ?_ ?_
      · intro h7; omega
      · intro h8
        refine zw_push zr_210_12 ?_
        refine zw_R zr_210_14 (by decide) zm_210 (v := (0, (-2))) rfl ?_
        rw [← hQ]; exact ⟨_, rfl, by omega, by omega, rfl, by first | omega | (rw [show g1 = zz by omega]; omega)⟩
    · intro h10
      refine zw_push zr_140_13 ?_
      refine zw_42 zr_140_14 ?_
      refine zw_R zr_140_18 (by decide) zm_140 (v := (0, 1)) (zRetB (by omega)) ?_
      rw [← hQ1]
      show zW E (d) 210 9 [(2, 69), (0, a0), (9, 0), (9, 0)] [(0, 1)] m0 Q
      refine zw_40_4 zr_210_9 ?_ ?_
      · intro h11
        refine zw_push zr_210_15 ?_
        refine zw_9 (L' := [(2, 69), (0, a0), (0, 0), (9, 0)]) zr_210_16 (Nat.le_of_ble_eq_true rfl) rfl ?_
        refine zw_push zr_210_17 ?_
        refine zw_9 (L' := [(2, 69), (0, a0), (0, 0), (0, 0)]) zr_210_18 (Nat.le_of_ble_eq_true rfl) rfl ?_
        have lp19_14 : ∀ (nlp19_14 : Nat) (i12 i13 : Int), 0 ≤ i12 → i12 ≤ 60 → 0 ≤ i13 → i13 ≤ 60 → (i12 ≤ i13) → (i12 = sfl F70 (a0 - 2).toNat (i13).toNat) → (i13 ≤ g1) → (60 - i13).toNat < nlp19_14 → zW E (d) 210 19 [(2, 69), (0, a0), (0, i12), (0, i13)] [] m0 Q := by
          intro nlp19_14
          induction nlp19_14 with
          | zero =>
            intros
            exact absurd (by assumption : _ < 0) (Nat.not_lt_zero _)
          | succ nlp19_14 ihlp19_14 =>
            intro i12 i13 li12 ui12 li13 ui13 hv0lp19_14 hv1lp19_14 hv2lp19_14 hmlp19_14
            refine zw_3 zr_210_19 rfl ?_
            refine zw_7 zr_210_20 rfl ?_
            refine zw_C zr_210_21 (Or.inl rfl) zm_142 rfl rfl ⟨Nat.le_of_ble_eq_true rfl, Nat.le_of_ble_eq_true rfl, Nat.le_of_ble_eq_true rfl, rfl, by decide⟩ (by omega) (P := (fun v m' => zW E (d) 210 24 [(2, 69), (0, a0), (0, i12), (0, i13)] (if v.1 = 9 then [(0, i13)] else v :: [(0, i13)]) m' Q)) ?_ (fun _ _ h => h)
            generalize hQ1 : (fun v m' => zW E (d) 210 24 [(2, 69), (0, a0), (0, i12), (0, i13)] (if v.1 = 9 then [(0, i13)] else v :: [(0, i13)]) m' Q) = Q1
            show zW E (d - 1) 142 0 [(2, 69)] [] m0 Q1
            refine zw_7 zr_142_0 rfl ?_
            refine zw_46r (s := 70) zr_142_1 rfl rfl rfl rfl ?_
            refine zw_push zr_142_4 ?_
            refine zw_48k (c := 70) (len := 826) zr_142_7 rfl rfl (by omega) (by omega) (show (823 : Int).toNat = 823 by omega) hg1 ?_
            refine zw_R zr_142_8 (by decide) zm_142 (v := (0, g1)) rfl ?_
            rw [← hQ1]
            show zW E (d) 210 24 [(2, 69), (0, a0), (0, i12), (0, i13)] [(0, g1), (0, i13)] m0 Q
            refine zw_41_3 zr_210_24 ?_ ?_
            · intro h16
              refine zw_3 zr_210_51 rfl ?_
              refine zw_40_4 zr_210_52 ?_ ?_
              · intro h17
                refine zw_3 zr_210_62 rfl ?_
                refine zw_push zr_210_63 ?_
                refine zw_41_4 zr_210_64 ?_ ?_
                · intro h18
                  refine zw_3 zr_210_74 rfl ?_
                  refine zw_R zr_210_75 (by decide) zm_210 (v := (0, i12)) rfl ?_
                  rw [← hQ]; exact ⟨_, rfl, by omega, by omega, rfl, by first | omega | (rw [show g1 = i13 by omega]; omega)⟩
                · intro h20
                  refine zw_7 zr_210_67 rfl ?_
                  refine zw_C zr_210_68 (Or.inl rfl) zm_142 rfl rfl ⟨Nat.le_of_ble_eq_true rfl, Nat.le_of_ble_eq_true rfl, Nat.le_of_ble_eq_true rfl, rfl, by decide⟩ (by omega) (P := (fun v m' => zW E (d) 210 71 [(2, 69), (0, a0), (0, i12), (0, i13)] (if v.1 = 9 then [] else v :: []) m' Q)) ?_ (fun _ _ h => h)
                  generalize hQ1 : (fun v m' => zW E (d) 210 71 [(2, 69), (0, a0), (0, i12), (0, i13)] (if v.1 = 9 then [] else v :: []) m' Q) = Q1
                  show zW E (d - 1) 142 0 [(2, 69)] [] m0 Q1
                  refine zw_7 zr_142_0 rfl ?_
                  refine zw_46r (s := 70) zr_142_1 rfl rfl rfl rfl ?_
                  refine zw_push zr_142_4 ?_
                  refine zw_48k (c := 70) (len := 826) zr_142_7 rfl rfl (by omega) (by omega) (show (823 : Int).toNat = 823 by omega) hg1 ?_
                  refine zw_R zr_142_8 (by decide) zm_142 (v := (0, g1)) rfl ?_
                  rw [← hQ1]
                  show zW E (d) 210 71 [(2, 69), (0, a0), (0, i12), (0, i13)] [(0, g1)] m0 Q
                  refine zw_42 zr_210_71 ?_
                  refine zw_R zr_210_75 (by decide) zm_210 (v := (0, g1)) rfl ?_
                  rw [← hQ]; exact ⟨_, rfl, by omega, by omega, rfl, by first | omega | (rw [show g1 = i13 by omega]; omega)⟩
              · intro h22
                refine zw_7 zr_210_55 rfl ?_
                refine zw_C zr_210_56 (Or.inl rfl) zm_141 rfl rfl ⟨Nat.le_of_ble_eq_true rfl, Nat.le_of_ble_eq_true rfl, Nat.le_of_ble_eq_true rfl, rfl, by decide⟩ (by omega) (P := (fun v m' => zW E (d) 210 59 [(2, 69), (0, a0), (0, i12), (0, i13)] (if v.1 = 9 then [] else v :: []) m' Q)) ?_ (fun _ _ h => h)
                generalize hQ1 : (fun v m' => zW E (d) 210 59 [(2, 69), (0, a0), (0, i12), (0, i13)] (if v.1 = 9 then [] else v :: []) m' Q) = Q1
                show zW E (d - 1) 141 0 [(2, 69)] [] m0 Q1
                refine zw_7 zr_141_0 rfl ?_
                refine zw_46r (s := 70) zr_141_1 rfl rfl rfl rfl ?_
                refine zw_push zr_141_4 ?_
                refine zw_48k (c := 70) (len := 826) zr_141_7 rfl rfl (by omega) (by omega) (show (822 : Int).toNat = 822 by omega) hg0 ?_
                refine zw_R zr_141_8 (by decide) zm_141 (v := (0, g0)) rfl ?_
                rw [← hQ1]
                show zW E (d) 210 59 [(2, 69), (0, a0), (0, i12), (0, i13)] [(0, g0)] m0 Q
                refine zw_42 zr_210_59 ?_
                refine zw_R zr_210_75 (by decide) zm_210 (v := (0, g0)) rfl ?_
                rw [← hQ]; exact ⟨_, rfl, by omega, by omega, rfl, by first | omega | (rw [show g1 = i13 by omega]; omega)⟩
            · intro h24
              refine zw_3 zr_210_27 rfl ?_
              refine zw_push zr_210_28 ?_
              refine zw_41_5 zr_210_29 ?_ ?_
              · intro h25
                refine zw_3 zr_210_51 rfl ?_
                refine zw_40_4 zr_210_52 ?_ ?_
                · intro h26
                  refine zw_3 zr_210_62 rfl ?_
                  refine zw_push zr_210_63 ?_
                  refine zw_41_4 zr_210_64 ?_ ?_
                  · intro h27; omega
                  · intro h28
                    refine zw_7 zr_210_67 rfl ?_
                    refine zw_C zr_210_68 (Or.inl rfl) zm_142 rfl rfl ⟨Nat.le_of_ble_eq_true rfl, Nat.le_of_ble_eq_true rfl, Nat.le_of_ble_eq_true rfl, rfl, by decide⟩ (by omega) (P := (fun v m' => zW E (d) 210 71 [(2, 69), (0, a0), (0, i12), (0, i13)] (if v.1 = 9 then [] else v :: []) m' Q)) ?_ (fun _ _ h => h)
                    generalize hQ1 : (fun v m' => zW E (d) 210 71 [(2, 69), (0, a0), (0, i12), (0, i13)] (if v.1 = 9 then [] else v :: []) m' Q) = Q1
                    show zW E (d - 1) 142 0 [(2, 69)] [] m0 Q1
                    refine zw_7 zr_142_0 rfl ?_
                    refine zw_46r (s := 70) zr_142_1 rfl rfl rfl rfl ?_
                    refine zw_push zr_142_4 ?_
                    refine zw_48k (c := 70) (len := 826) zr_142_7 rfl rfl (by omega) (by omega) (show (823 : Int).toNat = 823 by omega) hg1 ?_
                    refine zw_R zr_142_8 (by decide) zm_142 (v := (0, g1)) rfl ?_
                    rw [← hQ1]
                    show zW E (d) 210 71 [(2, 69), (0, a0), (0, i12), (0, i13)] [(0, g1)] m0 Q
                    refine zw_42 zr_210_71 ?_
                    refine zw_R zr_210_75 (by decide) zm_210 (v := (0, g1)) rfl ?_
                    rw [← hQ]; exact ⟨_, rfl, by omega, by omega, rfl, by first | omega | (rw [show g1 = i13 by omega]; omega)⟩
                · intro h30
                  refine zw_7 zr_210_55 rfl ?_
                  refine zw_C zr_210_56 (Or.inl rfl) zm_141 rfl rfl ⟨Nat.le_of_ble_eq_true rfl, Nat.le_of_ble_eq_true rfl, Nat.le_of_ble_eq_true rfl, rfl, by decide⟩ (by omega) (P := (fun v m' => zW E (d) 210 59 [(2, 69), (0, a0), (0, i12), (0, i13)] (if v.1 = 9 then [] else v :: []) m' Q)) ?_ (fun _ _ h => h)
                  generalize hQ1 : (fun v m' => zW E (d) 210 59 [(2, 69), (0, a0), (0, i12), (0, i13)] (if v.1 = 9 then [] else v :: []) m' Q) = Q1
                  show zW E (d - 1) 141 0 [(2, 69)] [] m0 Q1
                  refine zw_7 zr_141_0 rfl ?_
                  refine zw_46r (s := 70) zr_141_1 rfl rfl rfl rfl ?_
                  refine zw_push zr_141_4 ?_
                  refine zw_48k (c := 70) (len := 826) zr_141_7 rfl rfl (by omega) (by omega) (show (822 : Int).toNat = 822 by omega) hg0 ?_
                  refine zw_R zr_141_8 (by decide) zm_141 (v := (0, g0)) rfl ?_
                  rw [← hQ1]
                  show zW E (d) 210 59 [(2, 69), (0, a0), (0, i12), (0, i13)] [(0, g0)] m0 Q
                  refine zw_42 zr_210_59 ?_
                  refine zw_R zr_210_75 (by decide) zm_210 (v := (0, g0)) rfl ?_
                  rw [← hQ]; exact ⟨_, rfl, by omega, by omega, rfl, by first | omega | (rw [show g1 = i13 by omega]; omega)⟩
              · intro h32
                have z33 := zsf F70 (a0 - 2).toNat (i13).toNat (i13 + 1).toNat ((90 + (6 * i13)) + ((4 + a0) - 2)).toNat (by omega) (by omega)
                refine zw_3 zr_210_32 rfl ?_
                refine zw_7 zr_210_33 rfl ?_
                refine zw_3 zr_210_34 rfl ?_
                refine zw_push zr_210_35 ?_
                refine zw_3 zr_210_36 rfl ?_
                refine zw_16 zr_210_37 (by omega) ?_
                refine zw_push zr_210_38 ?_
                refine zw_17 zr_210_39 (by omega) ?_
                refine zw_C zr_210_40 (Or.inl rfl) zm_144 rfl rfl ⟨Nat.le_of_ble_eq_true rfl, Nat.le_of_ble_eq_true rfl, Nat.le_of_ble_eq_true rfl, rfl, by decide⟩ (by omega) (P := (fun v m' => zW E (d) 210 43 [(2, 69), (0, a0), (0, i12), (0, i13)] (if v.1 = 9 then [(0, i12)] else v :: [(0, i12)]) m' Q)) ?_ (fun _ _ h => h)
                generalize hQ1 : (fun v m' => zW E (d) 210 43 [(2, 69), (0, a0), (0, i12), (0, i13)] (if v.1 = 9 then [(0, i12)] else v :: [(0, i12)]) m' Q) = Q1
                show zW E (d - 1) 144 0 [(2, 69), (0, i13), (0, ((4 + a0) - 2))] [] m0 Q1
                refine zw_7 zr_144_0 rfl ?_
                refine zw_46r (s := 70) zr_144_1 rfl rfl rfl rfl ?_
                refine zw_push zr_144_4 ?_
                refine zw_push zr_144_6 ?_
                refine zw_3 zr_144_8 rfl ?_
                refine zw_18 zr_144_9 (by omega) ?_
                refine zw_16 zr_144_10 (by omega) ?_
                refine zw_3 zr_144_11 rfl ?_
                refine zw_16 zr_144_12 (by omega) ?_
                refine zw_48 (c := 70) (len := 826) zr_144_13 rfl rfl (by omega) (by omega) ?_
                intro x34 ex34
                have bx34 := ib_70_m45 hI0 (k := (((90 + (6 * i13)) + ((4 + a0) - 2))).toNat) (by omega)
                rw [← ex34] at bx34
                have qx34 : x34 = F70 (((90 + (6 * i13)) + ((4 + a0) - 2))).toNat := by rw [← hG70]; exact ex34
                clear ex34
                refine zw_R zr_144_14 (by decide) zm_144 (v := (0, x34)) rfl ?_
                rw [← hQ1]
                show zW E (d) 210 43 [(2, 69), (0, a0), (0, i12), (0, i13)] [(0, x34), (0, i12)] m0 Q
                refine zw_16 zr_210_43 (by omega) ?_
                refine zw_9 (L' := [(2, 69), (0, a0), (0, (i12 + x34)), (0, i13)]) zr_210_44 (Nat.le_of_ble_eq_true rfl) rfl ?_
                refine zw_15 (c := 1) (L' := [(2, 69), (0, a0), (0, (i12 + x34)), (0, (i13 + 1))]) zr_210_45 rfl (by decide) (by omega) rfl ?_
                refine zw_42 zr_210_48 ?_
                exact zw_less (L := [(2, 69), (0, a0), (0, (i12 + x34)), (0, (i13 + 1))]) ⟨Or.inr rfl, Or.inr rfl, Or.inr rfl, Or.inr rfl, trivial⟩ (ihlp19_14 ((i12 + x34)) ((i13 + 1))  (by omega) (by omega) (by omega) (by omega) (by omega) (by omega) (by omega) (by omega))
        exact lp19_14 _ (0) (0)  (by omega) (by omega) (by omega) (by omega) (by omega) (by simp only [sfl, Int.toNat_zero]) (by omega) (Nat.lt_succ_self _)
      · intro h36; omega

set_option maxHeartbeats 8000000 in
theorem th_62 {E : zE} {d : Nat} {m0 : zM} {a0 : Int} (hd : 1 ≤ d) (hI0 : zInv m0) (ha0 : (-9223372036854775808) ≤ a0 ∧ a0 ≤ 9223372036854775807) : zC E d 62 [(2, 1), (1, a0)] m0 (fun v m' => ∃ r : Int, v = (1, r) ∧ (-9223372036854775808) ≤ r ∧ r ≤ 9223372036854775807 ∧ m0 = m') := by
  generalize hQ : (fun (v : zV) (m' : zM) => ∃ r : Int, v = (1, r) ∧ (-9223372036854775808) ≤ r ∧ r ≤ 9223372036854775807 ∧ m0 = m') = Q
  show zW E d 62 0 [(2, 1), (1, a0), (9, 0), (9, 0), (9, 0), (9, 0), (9, 0)] [] m0 Q
  refine zw_5 zr_62_0 rfl ?_
  refine zw_13 (L' := [(2, 1), (1, a0), (9, 0), (1, a0), (9, 0), (9, 0), (9, 0)]) zr_62_1 (Nat.le_of_ble_eq_true rfl) rfl ?_
  refine zw_push zr_62_2 ?_
  refine zw_10 (L' := [(2, 1), (1, a0), (9, 0), (1, a0), (9, 0), (0, 0), (9, 0)]) zr_62_3 (Nat.le_of_ble_eq_true rfl) rfl ?_
  have lp5_3 : ∀ (nlp5_3 : Nat) (i1 i2 : Int), (-9223372036854775808) ≤ i1 → i1 ≤ 9223372036854775807 → 0 ≤ i2 → i2 ≤ 10 → (10 - i2).toNat < nlp5_3 → zW E (d) 62 5 [(2, 1), (1, a0), (9, 0), (1, i1), (9, 0), (0, i2), (9, 0)] [] m0 Q := by
    intro nlp5_3
    induction nlp5_3 with
    | zero =>
      intros
      exact absurd (by assumption : _ < 0) (Nat.not_lt_zero _)
    | succ nlp5_3 ihlp5_3 =>
      intro i1 i2 li1 ui1 li2 ui2 hmlp5_3
      refine zw_4 zr_62_5 rfl ?_
      refine zw_7 zr_62_7 rfl ?_
      obtain ⟨f5, ef5⟩ : ∃ v, m0 1 0 = v := ⟨_, rfl⟩
      have bf5 := ib_1_0 hI0
      rw [ef5] at bf5
      refine zw_46i zr_62_8 ef5 rfl rfl rfl ?_
      refine zw_41_3 zr_62_11 ?_ ?_
      · intro h6
        refine zw_5 zr_62_90 rfl ?_
        refine zw_R zr_62_91 (by decide) zm_62 (v := (1, i1)) rfl ?_
        rw [← hQ]; exact ⟨_, rfl, by omega, by omega, rfl⟩
      · intro h7
        refine zw_push zr_62_14 ?_
        refine zw_5 zr_62_17 rfl ?_
        refine zw_29h zr_62_18 ?_
        intro x8 hx8a hx8b
        refine zw_7 zr_62_19 rfl ?_
        refine zw_46r (s := 2) zr_62_20 rfl rfl rfl rfl ?_
        refine zw_4 zr_62_23 rfl ?_
        refine zw_48 (c := 2) (len := 10) zr_62_25 rfl rfl (by omega) (by omega) ?_
        intro x9 ex9
        have bx9 := ib_2 hI0 (k := (i2).toNat) (by omega)
        rw [← ex9] at bx9
        clear ex9
        refine zw_36 zr_62_26 ?_
        refine zw_27h zr_62_27 ?_
        intro x10 hx10a hx10b
        refine zw_13 (L' := [(2, 1), (1, a0), (9, 0), (1, x10), (9, 0), (0, i2), (9, 0)]) zr_62_28 (Nat.le_of_ble_eq_true rfl) rfl ?_
        refine zw_push zr_62_29 ?_
        refine zw_10 (L' := [(2, 1), (1, a0), (9, 0), (1, x10), (9, 0), (0, i2), (0, 0)]) zr_62_30 (Nat.le_of_ble_eq_true rfl) rfl ?_
        have lp32_13 : ∀ (nlp32_13 : Nat) (i11 i12 : Int), (-9223372036854775808) ≤ i11 → i11 ≤ 9223372036854775807 → 0 ≤ i12 → i12 ≤ 4 → (4 - i12).toNat < nlp32_13 → zW E (d) 62 32 [(2, 1), (1, a0), (9, 0), (1, i11), (9, 0), (0, i2), (0, i12)] [] m0 Q := by
          intro nlp32_13
          induction nlp32_13 with
          | zero =>
            intros
            exact absurd (by assumption : _ < 0) (Nat.not_lt_zero _)
          | succ nlp32_13 ihlp32_13 =>
            intro i11 i12 li11 ui11 li12 ui12 hmlp32_13
            refine zw_4 zr_62_32 rfl ?_
            refine zw_push zr_62_34 ?_
            refine zw_41_3 zr_62_35 ?_ ?_
            · intro h15
              refine zw_15 (c := 1) (L' := [(2, 1), (1, a0), (9, 0), (1, i11), (9, 0), (0, (i2 + 1)), (0, i12)]) zr_62_84 rfl (by decide) (by omega) rfl ?_
              refine zw_42 zr_62_87 ?_
              exact zw_less (L := [(2, 1), (1, a0), (9, 0), (1, i11), (9, 0), (0, (i2 + 1)), (9, 0)]) ⟨Or.inr rfl, Or.inr rfl, Or.inl rfl, Or.inr rfl, Or.inl rfl, Or.inr rfl, Or.inl rfl, trivial⟩ (ihlp5_3 (i11) ((i2 + 1))  (by omega) (by omega) (by omega) (by omega)  (by omega))
            · intro h16
              refine zw_push zr_62_38 ?_
              refine zw_5 zr_62_41 rfl ?_
              refine zw_29h zr_62_42 ?_
              intro x17 hx17a hx17b
              refine zw_7 zr_62_43 rfl ?_
              refine zw_46r (s := 3) zr_62_44 rfl rfl rfl rfl ?_
              refine zw_4 zr_62_47 rfl ?_
              refine zw_push zr_62_49 ?_
              refine zw_18 zr_62_50 (by omega) ?_
              refine zw_4 zr_62_51 rfl ?_
              refine zw_16 zr_62_53 (by omega) ?_
              refine zw_48 (c := 3) (len := 40) zr_62_54 rfl rfl (by omega) (by omega) ?_
              intro x18 ex18
              have bx18 := ib_3 hI0 (k := (((i2 * 4) + i12)).toNat) (by omega)
              rw [← ex18] at bx18
              clear ex18
              refine zw_36 zr_62_55 ?_
              refine zw_27h zr_62_56 ?_
              intro x19 hx19a hx19b
              refine zw_13 (L' := [(2, 1), (1, a0), (9, 0), (1, x19), (9, 0), (0, i2), (0, i12)]) zr_62_57 (Nat.le_of_ble_eq_true rfl) rfl ?_
              refine zw_push zr_62_58 ?_
              refine zw_5 zr_62_61 rfl ?_
              refine zw_29h zr_62_62 ?_
              intro x20 hx20a hx20b
              refine zw_7 zr_62_63 rfl ?_
              refine zw_46r (s := 4) zr_62_64 rfl rfl rfl rfl ?_
              refine zw_4 zr_62_67 rfl ?_
              refine zw_push zr_62_69 ?_
              refine zw_18 zr_62_70 (by omega) ?_
              refine zw_4 zr_62_71 rfl ?_
              refine zw_16 zr_62_73 (by omega) ?_
              refine zw_48 (c := 4) (len := 40) zr_62_74 rfl rfl (by omega) (by omega) ?_
              intro x21 ex21
              have bx21 := ib_4 hI0 (k := (((i2 * 4) + i12)).toNat) (by omega)
              rw [← ex21] at bx21
              clear ex21
              refine zw_36 zr_62_75 ?_
              refine zw_27h zr_62_76 ?_
              intro x22 hx22a hx22b
              refine zw_13 (L' := [(2, 1), (1, a0), (9, 0), (1, x22), (9, 0), (0, i2), (0, i12)]) zr_62_77 (Nat.le_of_ble_eq_true rfl) rfl ?_
              refine zw_15 (c := 1) (L' := [(2, 1), (1, a0), (9, 0), (1, x22), (9, 0), (0, i2), (0, (i12 + 1))]) zr_62_78 rfl (by decide) (by omega) rfl ?_
              refine zw_42 zr_62_81 ?_
              exact zw_less (L := [(2, 1), (1, a0), (9, 0), (1, x22), (9, 0), (0, i2), (0, (i12 + 1))]) ⟨Or.inr rfl, Or.inr rfl, Or.inl rfl, Or.inr rfl, Or.inl rfl, Or.inr rfl, Or.inr rfl, trivial⟩ (ihlp32_13 (x22) ((i12 + 1))  (by omega) (by omega) (by omega) (by omega)  (by omega))
        exact lp32_13 _ (x10) (0)  (by omega) (by omega) (by omega) (by omega)  (Nat.lt_succ_self _)
  exact lp5_3 _ (a0) (0)  (by omega) (by omega) (by omega) (by omega)  (Nat.lt_succ_self _)

set_option maxHeartbeats 8000000 in
theorem th_63 {E : zE} {d : Nat} {m0 : zM} {a0 : Int} (hd : 1 ≤ d) (hI0 : zInv m0) (ha0 : (-9223372036854775808) ≤ a0 ∧ a0 ≤ 9223372036854775807) : zC E d 63 [(2, 1), (1, a0)] m0 (fun v m' => ∃ r : Int, v = (1, r) ∧ (-9223372036854775808) ≤ r ∧ r ≤ 9223372036854775807 ∧ m0 = m') := by
  generalize hQ : (fun (v : zV) (m' : zM) => ∃ r : Int, v = (1, r) ∧ (-9223372036854775808) ≤ r ∧ r ≤ 9223372036854775807 ∧ m0 = m') = Q
  show zW E d 63 0 [(2, 1), (1, a0), (9, 0), (9, 0), (9, 0), (9, 0)] [] m0 Q
  refine zw_5 zr_63_0 rfl ?_
  refine zw_13 (L' := [(2, 1), (1, a0), (9, 0), (1, a0), (9, 0), (9, 0)]) zr_63_1 (Nat.le_of_ble_eq_true rfl) rfl ?_
  refine zw_push zr_63_2 ?_
  refine zw_10 (L' := [(2, 1), (1, a0), (9, 0), (1, a0), (9, 0), (0, 0)]) zr_63_3 (Nat.le_of_ble_eq_true rfl) rfl ?_
  have lp5_3 : ∀ (nlp5_3 : Nat) (i1 i2 : Int), (-9223372036854775808) ≤ i1 → i1 ≤ 9223372036854775807 → 0 ≤ i2 → i2 ≤ 60 → (60 - i2).toNat < nlp5_3 → zW E (d) 63 5 [(2, 1), (1, a0), (9, 0), (1, i1), (9, 0), (0, i2)] [] m0 Q := by
    intro nlp5_3
    induction nlp5_3 with
    | zero =>
      intros
      exact absurd (by assumption : _ < 0) (Nat.not_lt_zero _)
    | succ nlp5_3 ihlp5_3 =>
      intro i1 i2 li1 ui1 li2 ui2 hmlp5_3
      refine zw_4 zr_63_5 rfl ?_
      refine zw_7 zr_63_7 rfl ?_
      obtain ⟨f5, ef5⟩ : ∃ v, m0 1 1 = v := ⟨_, rfl⟩
      have bf5 := ib_1_1 hI0
      rw [ef5] at bf5
      refine zw_46i zr_63_8 ef5 rfl rfl rfl ?_
      refine zw_41_3 zr_63_11 ?_ ?_
      · intro h6
        refine zw_5 zr_63_112 rfl ?_
        refine zw_R zr_63_113 (by decide) zm_63 (v := (1, i1)) rfl ?_
        rw [← hQ]; exact ⟨_, rfl, by omega, by omega, rfl⟩
      · intro h7
        refine zw_push zr_63_14 ?_
        refine zw_5 zr_63_17 rfl ?_
        refine zw_29h zr_63_18 ?_
        intro x8 hx8a hx8b
        refine zw_7 zr_63_19 rfl ?_
        refine zw_46r (s := 5) zr_63_20 rfl rfl rfl rfl ?_
        refine zw_4 zr_63_23 rfl ?_
        refine zw_48 (c := 5) (len := 60) zr_63_25 rfl rfl (by omega) (by omega) ?_
        intro x9 ex9
        have bx9 := ib_5 hI0 (k := (i2).toNat) (by omega)
        rw [← ex9] at bx9
        clear ex9
        refine zw_36 zr_63_26 ?_
        refine zw_27h zr_63_27 ?_
        intro x10 hx10a hx10b
        refine zw_13 (L' := [(2, 1), (1, a0), (9, 0), (1, x10), (9, 0), (0, i2)]) zr_63_28 (Nat.le_of_ble_eq_true rfl) rfl ?_
        refine zw_push zr_63_29 ?_
        refine zw_5 zr_63_32 rfl ?_
        refine zw_29h zr_63_33 ?_
        intro x11 hx11a hx11b
        refine zw_7 zr_63_34 rfl ?_
        refine zw_46r (s := 6) zr_63_35 rfl rfl rfl rfl ?_
        refine zw_4 zr_63_38 rfl ?_
        refine zw_48 (c := 6) (len := 60) zr_63_40 rfl rfl (by omega) (by omega) ?_
        intro x12 ex12
        have bx12 := ib_6 hI0 (k := (i2).toNat) (by omega)
        rw [← ex12] at bx12
        clear ex12
        refine zw_36 zr_63_41 ?_
        refine zw_27h zr_63_42 ?_
        intro x13 hx13a hx13b
        refine zw_13 (L' := [(2, 1), (1, a0), (9, 0), (1, x13), (9, 0), (0, i2)]) zr_63_43 (Nat.le_of_ble_eq_true rfl) rfl ?_
        refine zw_push zr_63_44 ?_
        refine zw_5 zr_63_47 rfl ?_
        refine zw_29h zr_63_48 ?_
        intro x14 hx14a hx14b
        refine zw_7 zr_63_49 rfl ?_
        refine zw_46r (s := 7) zr_63_50 rfl rfl rfl rfl ?_
        refine zw_4 zr_63_53 rfl ?_
        refine zw_48 (c := 7) (len := 60) zr_63_55 rfl rfl (by omega) (by omega) ?_
        intro x15 ex15
        have bx15 := ib_7 hI0 (k := (i2).toNat) (by omega)
        rw [← ex15] at bx15
        clear ex15
        refine zw_36 zr_63_56 ?_
        refine zw_27h zr_63_57 ?_
        intro x16 hx16a hx16b
        refine zw_13 (L' := [(2, 1), (1, a0), (9, 0), (1, x16), (9, 0), (0, i2)]) zr_63_58 (Nat.le_of_ble_eq_true rfl) rfl ?_
        refine zw_push zr_63_59 ?_
        refine zw_5 zr_63_62 rfl ?_
        refine zw_29h zr_63_63 ?_
        intro x17 hx17a hx17b
        refine zw_7 zr_63_64 rfl ?_
        refine zw_46r (s := 8) zr_63_65 rfl rfl rfl rfl ?_
        refine zw_4 zr_63_68 rfl ?_
        refine zw_48 (c := 8) (len := 60) zr_63_70 rfl rfl (by omega) (by omega) ?_
        intro x18 ex18
        have bx18 := ib_8 hI0 (k := (i2).toNat) (by omega)
        rw [← ex18] at bx18
        clear ex18
        refine zw_36 zr_63_71 ?_
        refine zw_27h zr_63_72 ?_
        intro x19 hx19a hx19b
        refine zw_13 (L' := [(2, 1), (1, a0), (9, 0), (1, x19), (9, 0), (0, i2)]) zr_63_73 (Nat.le_of_ble_eq_true rfl) rfl ?_
        refine zw_push zr_63_74 ?_
        refine zw_5 zr_63_77 rfl ?_
        refine zw_29h zr_63_78 ?_
        intro x20 hx20a hx20b
        refine zw_7 zr_63_79 rfl ?_
        obtain ⟨f21, ef21⟩ : ∃ v, m0 1 2 = v := ⟨_, rfl⟩
        have bf21 := ib_1_2 hI0
        rw [ef21] at bf21
        refine zw_46l zr_63_80 ef21 rfl rfl rfl ?_
        refine zw_4 zr_63_83 rfl ?_
        refine zw_34p zr_63_85 (by omega) (by omega) ?_
        intro x22 hx22c hx22a hx22b
        refine zw_push zr_63_86 ?_
        refine zw_30o zr_63_87 (by omega) ?_
        refine zw_27h zr_63_88 ?_
        intro x23 hx23a hx23b
        refine zw_13 (L' := [(2, 1), (1, a0), (9, 0), (1, x23), (9, 0), (0, i2)]) zr_63_89 (Nat.le_of_ble_eq_true rfl) rfl ?_
        refine zw_push zr_63_90 ?_
        refine zw_5 zr_63_93 rfl ?_
        refine zw_29h zr_63_94 ?_
        intro x24 hx24a hx24b
        refine zw_7 zr_63_95 rfl ?_
        obtain ⟨f25, ef25⟩ : ∃ v, m0 1 3 = v := ⟨_, rfl⟩
        have bf25 := ib_1_3 hI0
        rw [ef25] at bf25
        refine zw_46l zr_63_96 ef25 rfl rfl rfl ?_
        refine zw_4 zr_63_99 rfl ?_
        refine zw_34p zr_63_101 (by omega) (by omega) ?_
        intro x26 hx26c hx26a hx26b
        refine zw_push zr_63_102 ?_
        refine zw_30o zr_63_103 (by omega) ?_
        refine zw_27h zr_63_104 ?_
        intro x27 hx27a hx27b
        refine zw_13 (L' := [(2, 1), (1, a0), (9, 0), (1, x27), (9, 0), (0, i2)]) zr_63_105 (Nat.le_of_ble_eq_true rfl) rfl ?_
        refine zw_15 (c := 1) (L' := [(2, 1), (1, a0), (9, 0), (1, x27), (9, 0), (0, (i2 + 1))]) zr_63_106 rfl (by decide) (by omega) rfl ?_
        refine zw_42 zr_63_109 ?_
        exact zw_less (L := [(2, 1), (1, a0), (9, 0), (1, x27), (9, 0), (0, (i2 + 1))]) ⟨Or.inr rfl, Or.inr rfl, Or.inl rfl, Or.inr rfl, Or.inl rfl, Or.inr rfl, trivial⟩ (ihlp5_3 (x27) ((i2 + 1))  (by omega) (by omega) (by omega) (by omega)  (by omega))
  exact lp5_3 _ (a0) (0)  (by omega) (by omega) (by omega) (by omega)  (Nat.lt_succ_self _)

set_option maxHeartbeats 8000000 in
theorem th_64 {E : zE} {d : Nat} {m0 : zM} {a0 : Int} (hd : 2 ≤ d) (hI0 : zInv m0) (ha0 : (-9223372036854775808) ≤ a0 ∧ a0 ≤ 9223372036854775807) : zC E d 64 [(2, 1), (1, a0)] m0 (fun v m' => ∃ r : Int, v = (1, r) ∧ (-9223372036854775808) ≤ r ∧ r ≤ 9223372036854775807 ∧ m0 = m') := by
  generalize hQ : (fun (v : zV) (m' : zM) => ∃ r : Int, v = (1, r) ∧ (-9223372036854775808) ≤ r ∧ r ≤ 9223372036854775807 ∧ m0 = m') = Q
  show zW E d 64 0 [(2, 1), (1, a0), (9, 0), (9, 0), (9, 0), (9, 0), (9, 0)] [] m0 Q
  refine zw_7 zr_64_0 rfl ?_
  refine zw_5 zr_64_1 rfl ?_
  refine zw_C zr_64_2 (Or.inl rfl) zm_62 rfl rfl ⟨Nat.le_of_ble_eq_true rfl, Nat.le_of_ble_eq_true rfl, Nat.le_of_ble_eq_true rfl, rfl, by decide⟩ (by omega) (th_62 (d := d - 1) (by omega) hI0 (a0 := a0)      (by omega) ) ?_
  rintro _ _ ⟨r1, rfl, hr1a, hr1b, rfl⟩
  show zW E (d) 64 5 [(2, 1), (1, a0), (9, 0), (9, 0), (9, 0), (9, 0), (9, 0)] [(1, r1)] m0 Q
  refine zw_13 (L' := [(2, 1), (1, a0), (9, 0), (1, r1), (9, 0), (9, 0), (9, 0)]) zr_64_5 (Nat.le_of_ble_eq_true rfl) rfl ?_
  refine zw_7 zr_64_6 rfl ?_
  refine zw_5 zr_64_7 rfl ?_
  refine zw_C zr_64_8 (Or.inl rfl) zm_63 rfl rfl ⟨Nat.le_of_ble_eq_true rfl, Nat.le_of_ble_eq_true rfl, Nat.le_of_ble_eq_true rfl, rfl, by decide⟩ (by omega) (th_63 (d := d - 1) (by omega) hI0 (a0 := r1)      (by omega) ) ?_
  rintro _ _ ⟨r2, rfl, hr2a, hr2b, rfl⟩
  show zW E (d) 64 11 [(2, 1), (1, a0), (9, 0), (1, r1), (9, 0), (9, 0), (9, 0)] [(1, r2)] m0 Q
  refine zw_13 (L' := [(2, 1), (1, a0), (9, 0), (1, r2), (9, 0), (9, 0), (9, 0)]) zr_64_11 (Nat.le_of_ble_eq_true rfl) rfl ?_
  refine zw_push zr_64_12 ?_
  refine zw_10 (L' := [(2, 1), (1, a0), (9, 0), (1, r2), (9, 0), (0, 0), (9, 0)]) zr_64_13 (Nat.le_of_ble_eq_true rfl) rfl ?_
  have lp15_5 : ∀ (nlp15_5 : Nat) (i3 i4 : Int), (-9223372036854775808) ≤ i3 → i3 ≤ 9223372036854775807 → 0 ≤ i4 → i4 ≤ 4 → (4 - i4).toNat < nlp15_5 → zW E (d) 64 15 [(2, 1), (1, a0), (9, 0), (1, i3), (9, 0), (0, i4), (9, 0)] [] m0 Q := by
    intro nlp15_5
    induction nlp15_5 with
    | zero =>
      intros
      exact absurd (by assumption : _ < 0) (Nat.not_lt_zero _)
    | succ nlp15_5 ihlp15_5 =>
      intro i3 i4 li3 ui3 li4 ui4 hmlp15_5
      refine zw_4 zr_64_15 rfl ?_
      refine zw_push zr_64_17 ?_
      refine zw_41_3 zr_64_18 ?_ ?_
      · intro h7
        refine zw_push zr_64_99 ?_
        refine zw_10 (L' := [(2, 1), (1, a0), (9, 0), (1, i3), (9, 0), (0, 0), (9, 0)]) zr_64_100 (Nat.le_of_ble_eq_true rfl) rfl ?_
        have lp102_10 : ∀ (nlp102_10 : Nat) (i8 i9 : Int), (-9223372036854775808) ≤ i8 → i8 ≤ 9223372036854775807 → 0 ≤ i9 → i9 ≤ 160 → (160 - i9).toNat < nlp102_10 → zW E (d) 64 102 [(2, 1), (1, a0), (9, 0), (1, i8), (9, 0), (0, i9), (9, 0)] [] m0 Q := by
          intro nlp102_10
          induction nlp102_10 with
          | zero =>
            intros
            exact absurd (by assumption : _ < 0) (Nat.not_lt_zero _)
          | succ nlp102_10 ihlp102_10 =>
            intro i8 i9 li8 ui8 li9 ui9 hmlp102_10
            refine zw_4 zr_64_102 rfl ?_
            refine zw_push zr_64_104 ?_
            refine zw_41_3 zr_64_107 ?_ ?_
            · intro h12
              refine zw_push zr_64_131 ?_
              refine zw_5 zr_64_134 rfl ?_
              refine zw_29h zr_64_135 ?_
              intro x13 hx13a hx13b
              refine zw_7 zr_64_136 rfl ?_
              obtain ⟨f14, ef14⟩ : ∃ v, m0 1 4 = v := ⟨_, rfl⟩
              have bf14 := ib_1_4 hI0
              rw [ef14] at bf14
              refine zw_46i zr_64_137 ef14 rfl rfl rfl ?_
              refine zw_36 zr_64_140 ?_
              refine zw_27h zr_64_141 ?_
              intro x15 hx15a hx15b
              refine zw_13 (L' := [(2, 1), (1, a0), (9, 0), (1, x15), (9, 0), (0, i9), (9, 0)]) zr_64_142 (Nat.le_of_ble_eq_true rfl) rfl ?_
              refine zw_push zr_64_143 ?_
              refine zw_5 zr_64_146 rfl ?_
              refine zw_29h zr_64_147 ?_
              intro x16 hx16a hx16b
              refine zw_7 zr_64_148 rfl ?_
              obtain ⟨f17, ef17⟩ : ∃ v, m0 1 5 = v := ⟨_, rfl⟩
              have bf17 := ib_1_5 hI0
              rw [ef17] at bf17
              refine zw_46i zr_64_149 ef17 rfl rfl rfl ?_
              refine zw_36 zr_64_152 ?_
              refine zw_27h zr_64_153 ?_
              intro x18 hx18a hx18b
              refine zw_13 (L' := [(2, 1), (1, a0), (9, 0), (1, x18), (9, 0), (0, i9), (9, 0)]) zr_64_154 (Nat.le_of_ble_eq_true rfl) rfl ?_
              refine zw_push zr_64_155 ?_
              refine zw_10 (L' := [(2, 1), (1, a0), (9, 0), (1, x18), (9, 0), (0, 0), (9, 0)]) zr_64_156 (Nat.le_of_ble_eq_true rfl) rfl ?_
              have lp158_21 : ∀ (nlp158_21 : Nat) (i19 i20 : Int), (-9223372036854775808) ≤ i19 → i19 ≤ 9223372036854775807 → 0 ≤ i20 → i20 ≤ 4 → (4 - i20).toNat < nlp158_21 → zW E (d) 64 158 [(2, 1), (1, a0), (9, 0), (1, i19), (9, 0), (0, i20), (9, 0)] [] m0 Q := by
                intro nlp158_21
                induction nlp158_21 with
                | zero =>
                  intros
                  exact absurd (by assumption : _ < 0) (Nat.not_lt_zero _)
                | succ nlp158_21 ihlp158_21 =>
                  intro i19 i20 li19 ui19 li20 ui20 hmlp158_21
                  refine zw_4 zr_64_158 rfl ?_
                  refine zw_push zr_64_160 ?_
                  refine zw_41_3 zr_64_161 ?_ ?_
                  · intro h23
                    refine zw_5 zr_64_185 rfl ?_
                    refine zw_R zr_64_186 (by decide) zm_64 (v := (1, i19)) rfl ?_
                    rw [← hQ]; exact ⟨_, rfl, by omega, by omega, rfl⟩
                  · intro h24
                    refine zw_push zr_64_164 ?_
                    refine zw_5 zr_64_167 rfl ?_
                    refine zw_29h zr_64_168 ?_
                    intro x25 hx25a hx25b
                    refine zw_7 zr_64_169 rfl ?_
                    refine zw_46r (s := 13) zr_64_170 rfl rfl rfl rfl ?_
                    refine zw_4 zr_64_173 rfl ?_
                    refine zw_48 (c := 13) (len := 4) zr_64_175 rfl rfl (by omega) (by omega) ?_
                    intro x26 ex26
                    have bx26 := ib_13 hI0 (k := (i20).toNat) (by omega)
                    rw [← ex26] at bx26
                    clear ex26
                    refine zw_36 zr_64_176 ?_
                    refine zw_27h zr_64_177 ?_
                    intro x27 hx27a hx27b
                    refine zw_13 (L' := [(2, 1), (1, a0), (9, 0), (1, x27), (9, 0), (0, i20), (9, 0)]) zr_64_178 (Nat.le_of_ble_eq_true rfl) rfl ?_
                    refine zw_15 (c := 1) (L' := [(2, 1), (1, a0), (9, 0), (1, x27), (9, 0), (0, (i20 + 1)), (9, 0)]) zr_64_179 rfl (by decide) (by omega) rfl ?_
                    refine zw_42 zr_64_182 ?_
                    exact zw_less (L := [(2, 1), (1, a0), (9, 0), (1, x27), (9, 0), (0, (i20 + 1)), (9, 0)]) ⟨Or.inr rfl, Or.inr rfl, Or.inl rfl, Or.inr rfl, Or.inl rfl, Or.inr rfl, Or.inl rfl, trivial⟩ (ihlp158_21 (x27) ((i20 + 1))  (by omega) (by omega) (by omega) (by omega)  (by omega))
              exact lp158_21 _ (x18) (0)  (by omega) (by omega) (by omega) (by omega)  (Nat.lt_succ_self _)
            · intro h28
              refine zw_push zr_64_110 ?_
              refine zw_5 zr_64_113 rfl ?_
              refine zw_29h zr_64_114 ?_
              intro x29 hx29a hx29b
              refine zw_7 zr_64_115 rfl ?_
              refine zw_46r (s := 12) zr_64_116 rfl rfl rfl rfl ?_
              refine zw_4 zr_64_119 rfl ?_
              refine zw_48 (c := 12) (len := 160) zr_64_121 rfl rfl (by omega) (by omega) ?_
              intro x30 ex30
              have bx30 := ib_12 hI0 (k := (i9).toNat) (by omega)
              rw [← ex30] at bx30
              clear ex30
              refine zw_36 zr_64_122 ?_
              refine zw_27h zr_64_123 ?_
              intro x31 hx31a hx31b
              refine zw_13 (L' := [(2, 1), (1, a0), (9, 0), (1, x31), (9, 0), (0, i9), (9, 0)]) zr_64_124 (Nat.le_of_ble_eq_true rfl) rfl ?_
              refine zw_15 (c := 1) (L' := [(2, 1), (1, a0), (9, 0), (1, x31), (9, 0), (0, (i9 + 1)), (9, 0)]) zr_64_125 rfl (by decide) (by omega) rfl ?_
              refine zw_42 zr_64_128 ?_
              exact zw_less (L := [(2, 1), (1, a0), (9, 0), (1, x31), (9, 0), (0, (i9 + 1)), (9, 0)]) ⟨Or.inr rfl, Or.inr rfl, Or.inl rfl, Or.inr rfl, Or.inl rfl, Or.inr rfl, Or.inl rfl, trivial⟩ (ihlp102_10 (x31) ((i9 + 1))  (by omega) (by omega) (by omega) (by omega)  (by omega))
        exact lp102_10 _ (i3) (0)  (by omega) (by omega) (by omega) (by omega)  (Nat.lt_succ_self _)
      · intro h32
        refine zw_push zr_64_21 ?_
        refine zw_5 zr_64_24 rfl ?_
        refine zw_29h zr_64_25 ?_
        intro x33 hx33a hx33b
        refine zw_7 zr_64_26 rfl ?_
        refine zw_46r (s := 9) zr_64_27 rfl rfl rfl rfl ?_
        refine zw_4 zr_64_30 rfl ?_
        refine zw_48 (c := 9) (len := 4) zr_64_32 rfl rfl (by omega) (by omega) ?_
        intro x34 ex34
        have bx34 := ib_9 hI0 (k := (i4).toNat) (by omega)
        rw [← ex34] at bx34
        clear ex34
        refine zw_36 zr_64_33 ?_
        refine zw_27h zr_64_34 ?_
        intro x35 hx35a hx35b
        refine zw_13 (L' := [(2, 1), (1, a0), (9, 0), (1, x35), (9, 0), (0, i4), (9, 0)]) zr_64_35 (Nat.le_of_ble_eq_true rfl) rfl ?_
        refine zw_push zr_64_36 ?_
        refine zw_5 zr_64_39 rfl ?_
        refine zw_29h zr_64_40 ?_
        intro x36 hx36a hx36b
        refine zw_7 zr_64_41 rfl ?_
        refine zw_46r (s := 10) zr_64_42 rfl rfl rfl rfl ?_
        refine zw_4 zr_64_45 rfl ?_
        refine zw_48 (c := 10) (len := 4) zr_64_47 rfl rfl (by omega) (by omega) ?_
        intro x37 ex37
        have bx37 := ib_10 hI0 (k := (i4).toNat) (by omega)
        rw [← ex37] at bx37
        refine zw_36 zr_64_48 ?_
        refine zw_27h zr_64_49 ?_
        intro x38 hx38a hx38b
        refine zw_13 (L' := [(2, 1), (1, a0), (9, 0), (1, x38), (9, 0), (0, i4), (9, 0)]) zr_64_50 (Nat.le_of_ble_eq_true rfl) rfl ?_
        refine zw_push zr_64_51 ?_
        refine zw_10 (L' := [(2, 1), (1, a0), (9, 0), (1, x38), (9, 0), (0, i4), (0, 0)]) zr_64_52 (Nat.le_of_ble_eq_true rfl) rfl ?_
        have lp54_41 : ∀ (nlp54_41 : Nat) (i39 i40 : Int), (-9223372036854775808) ≤ i39 → i39 ≤ 9223372036854775807 → 0 ≤ i40 → i40 ≤ 50 → (50 - i40).toNat < nlp54_41 → zW E (d) 64 54 [(2, 1), (1, a0), (9, 0), (1, i39), (9, 0), (0, i4), (0, i40)] [] m0 Q := by
          intro nlp54_41
          induction nlp54_41 with
          | zero =>
            intros
            exact absurd (by assumption : _ < 0) (Nat.not_lt_zero _)
          | succ nlp54_41 ihlp54_41 =>
            intro i39 i40 li39 ui39 li40 ui40 hmlp54_41
            refine zw_4 zr_64_54 rfl ?_
            refine zw_7 zr_64_56 rfl ?_
            refine zw_46r (s := 10) zr_64_57 rfl rfl rfl rfl ?_
            refine zw_4 zr_64_60 rfl ?_
            refine zw_48k (c := 10) (len := 4) zr_64_62 rfl rfl (by omega) (by omega) rfl ex37.symm ?_
            refine zw_41_3 zr_64_63 ?_ ?_
            · intro h43
              refine zw_15 (c := 1) (L' := [(2, 1), (1, a0), (9, 0), (1, i39), (9, 0), (0, (i4 + 1)), (0, i40)]) zr_64_93 rfl (by decide) (by omega) rfl ?_
              refine zw_42 zr_64_96 ?_
              exact zw_less (L := [(2, 1), (1, a0), (9, 0), (1, i39), (9, 0), (0, (i4 + 1)), (9, 0)]) ⟨Or.inr rfl, Or.inr rfl, Or.inl rfl, Or.inr rfl, Or.inl rfl, Or.inr rfl, Or.inl rfl, trivial⟩ (ihlp15_5 (i39) ((i4 + 1))  (by omega) (by omega) (by omega) (by omega)  (by omega))
            · intro h44
              refine zw_push zr_64_66 ?_
              refine zw_5 zr_64_69 rfl ?_
              refine zw_29h zr_64_70 ?_
              intro x45 hx45a hx45b
              refine zw_7 zr_64_71 rfl ?_
              refine zw_46r (s := 11) zr_64_72 rfl rfl rfl rfl ?_
              refine zw_4 zr_64_75 rfl ?_
              refine zw_push zr_64_77 ?_
              refine zw_18 zr_64_79 (by omega) ?_
              refine zw_4 zr_64_80 rfl ?_
              refine zw_16 zr_64_82 (by omega) ?_
              refine zw_48 (c := 11) (len := 200) zr_64_83 rfl rfl (by omega) (by omega) ?_
              intro x46 ex46
              have bx46 := ib_11 hI0 (k := (((i4 * 50) + i40)).toNat) (by omega)
              rw [← ex46] at bx46
              clear ex46
              refine zw_36 zr_64_84 ?_
              refine zw_27h zr_64_85 ?_
              intro x47 hx47a hx47b
              refine zw_13 (L' := [(2, 1), (1, a0), (9, 0), (1, x47), (9, 0), (0, i4), (0, i40)]) zr_64_86 (Nat.le_of_ble_eq_true rfl) rfl ?_
              refine zw_15 (c := 1) (L' := [(2, 1), (1, a0), (9, 0), (1, x47), (9, 0), (0, i4), (0, (i40 + 1))]) zr_64_87 rfl (by decide) (by omega) rfl ?_
              refine zw_42 zr_64_90 ?_
              exact zw_less (L := [(2, 1), (1, a0), (9, 0), (1, x47), (9, 0), (0, i4), (0, (i40 + 1))]) ⟨Or.inr rfl, Or.inr rfl, Or.inl rfl, Or.inr rfl, Or.inl rfl, Or.inr rfl, Or.inr rfl, trivial⟩ (ihlp54_41 (x47) ((i40 + 1))  (by omega) (by omega) (by omega) (by omega)  (by omega))
        exact lp54_41 _ (x38) (0)  (by omega) (by omega) (by omega) (by omega)  (Nat.lt_succ_self _)
  exact lp15_5 _ (r2) (0)  (by omega) (by omega) (by omega) (by omega)  (Nat.lt_succ_self _)

set_option maxHeartbeats 8000000 in
theorem th_138 {E : zE} {d : Nat} {m0 : zM} (hd : 3 ≤ d) (hI0 : zInv m0) : zC E d 138 [(2, 0)] m0 (fun v m' => ∃ r : Int, v = (1, r) ∧ (-9223372036854775808) ≤ r ∧ r ≤ 9223372036854775807 ∧ m0 = m') := by
  generalize hQ : (fun (v : zV) (m' : zM) => ∃ r : Int, v = (1, r) ∧ (-9223372036854775808) ≤ r ∧ r ≤ 9223372036854775807 ∧ m0 = m') = Q
  show zW E d 138 0 [(2, 0), (9, 0), (9, 0), (9, 0)] [] m0 Q
  refine zw_push zr_138_0 ?_
  refine zw_13 (L' := [(2, 0), (1, 449), (9, 0), (9, 0)]) zr_138_3 (Nat.le_of_ble_eq_true rfl) rfl ?_
  refine zw_push zr_138_4 ?_
  refine zw_9 (L' := [(2, 0), (1, 449), (9, 0), (0, 0)]) zr_138_5 (Nat.le_of_ble_eq_true rfl) rfl ?_
  have lp6_3 : ∀ (nlp6_3 : Nat) (i1 i2 : Int), (-9223372036854775808) ≤ i1 → i1 ≤ 9223372036854775807 → 0 ≤ i2 → i2 ≤ 4 → (4 - i2).toNat < nlp6_3 → zW E (d) 138 6 [(2, 0), (1, i1), (9, 0), (0, i2)] [] m0 Q := by
    intro nlp6_3
    induction nlp6_3 with
    | zero =>
      intros
      exact absurd (by assumption : _ < 0) (Nat.not_lt_zero _)
    | succ nlp6_3 ihlp6_3 =>
      intro i1 i2 li1 ui1 li2 ui2 hmlp6_3
      refine zw_3 zr_138_6 rfl ?_
      refine zw_push zr_138_7 ?_
      refine zw_41_3 zr_138_8 ?_ ?_
      · intro h5
        refine zw_7 zr_138_30 rfl ?_
        refine zw_46r (s := 1) zr_138_31 rfl rfl rfl rfl ?_
        refine zw_5 zr_138_34 rfl ?_
        refine zw_C zr_138_35 (Or.inl rfl) zm_64 rfl rfl ⟨Nat.le_of_ble_eq_true rfl, Nat.le_of_ble_eq_true rfl, Nat.le_of_ble_eq_true rfl, rfl, by decide⟩ (by omega) (th_64 (d := d - 1) (by omega) hI0 (a0 := i1)      (by omega) ) ?_
        rintro _ _ ⟨r6, rfl, hr6a, hr6b, rfl⟩
        show zW E (d) 138 38 [(2, 0), (1, i1), (9, 0), (0, i2)] [(1, r6)] m0 Q
        refine zw_13 (L' := [(2, 0), (1, r6), (9, 0), (0, i2)]) zr_138_38 (Nat.le_of_ble_eq_true rfl) rfl ?_
        refine zw_push zr_138_39 ?_
        refine zw_5 zr_138_42 rfl ?_
        refine zw_29h zr_138_43 ?_
        intro x7 hx7a hx7b
        refine zw_7 zr_138_44 rfl ?_
        refine zw_46r (s := 42) zr_138_45 rfl rfl rfl rfl ?_
        obtain ⟨f8, ef8⟩ : ∃ v, m0 42 0 = v := ⟨_, rfl⟩
        have bf8 := hI0.fl (c := 42) (k := 0) rfl
        rw [ef8] at bf8
        refine zw_46l zr_138_48 ef8 rfl rfl rfl ?_
        refine zw_27h zr_138_51 ?_
        intro x9 hx9a hx9b
        refine zw_13 (L' := [(2, 0), (1, x9), (9, 0), (0, i2)]) zr_138_52 (Nat.le_of_ble_eq_true rfl) rfl ?_
        refine zw_push zr_138_53 ?_
        refine zw_5 zr_138_56 rfl ?_
        refine zw_29h zr_138_57 ?_
        intro x10 hx10a hx10b
        refine zw_7 zr_138_58 rfl ?_
        refine zw_46r (s := 42) zr_138_59 rfl rfl rfl rfl ?_
        obtain ⟨f11, ef11⟩ : ∃ v, m0 42 1 = v := ⟨_, rfl⟩
        have bf11 := hI0.fl (c := 42) (k := 1) rfl
        rw [ef11] at bf11
        refine zw_46l zr_138_62 ef11 rfl rfl rfl ?_
        refine zw_27h zr_138_65 ?_
        intro x12 hx12a hx12b
        refine zw_R zr_138_66 (by decide) zm_138 (v := (1, x12)) rfl ?_
        rw [← hQ]; exact ⟨_, rfl, by omega, by omega, rfl⟩
      · intro h13
        refine zw_push zr_138_11 ?_
        refine zw_5 zr_138_14 rfl ?_
        refine zw_29h zr_138_15 ?_
        intro x14 hx14a hx14b
        refine zw_7 zr_138_16 rfl ?_
        refine zw_3 zr_138_17 rfl ?_
        obtain ⟨f15, ef15⟩ : ∃ v, m0 1 0 = v := ⟨_, rfl⟩
        have bf15 := ib_1_0 hI0
        rw [ef15] at bf15
        obtain ⟨f16, ef16⟩ : ∃ v, m0 1 1 = v := ⟨_, rfl⟩
        have bf16 := ib_1_1 hI0
        rw [ef16] at bf16
        obtain ⟨f17, ef17⟩ : ∃ v, m0 1 2 = v := ⟨_, rfl⟩
        have bf17 := ib_1_2 hI0
        rw [ef17] at bf17
        obtain ⟨f18, ef18⟩ : ∃ v, m0 1 3 = v := ⟨_, rfl⟩
        have bf18 := ib_1_3 hI0
        rw [ef18] at bf18
        refine zw_C zr_138_18 (Or.inl rfl) zm_137 rfl rfl ⟨Nat.le_of_ble_eq_true rfl, Nat.le_of_ble_eq_true rfl, Nat.le_of_ble_eq_true rfl, rfl, by decide⟩ (by omega) (th_137 (d := d - 1) (by omega) hI0 (a0 := i2) (g0 := f15) (g1 := f16) (g2 := f17) (g3 := f18)   ef15 ef16 ef17 ef18  (by omega) ) ?_
        rintro _ _ ⟨r19, rfl, hr19a, hr19b, rfl, po0_r19⟩
        show zW E (d) 138 21 [(2, 0), (1, i1), (9, 0), (0, i2)] [(0, r19), (1, x14)] m0 Q
        refine zw_36 zr_138_21 ?_
        refine zw_27h zr_138_22 ?_
        intro x20 hx20a hx20b
        refine zw_13 (L' := [(2, 0), (1, x20), (9, 0), (0, i2)]) zr_138_23 (Nat.le_of_ble_eq_true rfl) rfl ?_
        refine zw_15 (c := 1) (L' := [(2, 0), (1, x20), (9, 0), (0, (i2 + 1))]) zr_138_24 rfl (by decide) (by omega) rfl ?_
        refine zw_42 zr_138_27 ?_
        exact zw_less (L := [(2, 0), (1, x20), (9, 0), (0, (i2 + 1))]) ⟨Or.inr rfl, Or.inr rfl, Or.inl rfl, Or.inr rfl, trivial⟩ (ihlp6_3 (x20) ((i2 + 1))  (by omega) (by omega) (by omega) (by omega)  (by omega))
  exact lp6_3 _ (449) (0)  (by omega) (by omega) (by omega) (by omega)  (Nat.lt_succ_self _)

set_option maxHeartbeats 8000000 in
theorem th_211 {E : zE} {d : Nat} {m0 : zM} {a0 : Int} {a1 : Int} {a2 : Int} (hd : 1 ≤ d) (hI0 : zInv m0) (ha0 : (-9223372036854775808) ≤ a0 ∧ a0 ≤ 9223372036854775807) (ha1 : 10 ≤ a1 ∧ a1 ≤ 826) (ha2 : 0 ≤ a2 ∧ a2 ≤ 360) (hp0 : a1 + a2 ≤ 826) : zC E d 211 [(2, 69), (1, a0), (0, a1), (0, a2)] m0 (fun v m' => ∃ r : Int, v = (1, r) ∧ (-9223372036854775808) ≤ r ∧ r ≤ 9223372036854775807 ∧ m0 = m') := by
  generalize hQ : (fun (v : zV) (m' : zM) => ∃ r : Int, v = (1, r) ∧ (-9223372036854775808) ≤ r ∧ r ≤ 9223372036854775807 ∧ m0 = m') = Q
  show zW E d 211 0 [(2, 69), (1, a0), (9, 0), (0, a1), (0, a2), (9, 0), (9, 0), (9, 0)] [] m0 Q
  refine zw_5 zr_211_0 rfl ?_
  refine zw_14 (L' := [(2, 69), (1, a0), (9, 0), (0, a1), (0, a2), (1, a0), (9, 0), (9, 0)]) zr_211_1 (Nat.le_of_ble_eq_true rfl) rfl ?_
  refine zw_push zr_211_3 ?_
  refine zw_10 (L' := [(2, 69), (1, a0), (9, 0), (0, a1), (0, a2), (1, a0), (9, 0), (0, 0)]) zr_211_4 (Nat.le_of_ble_eq_true rfl) rfl ?_
  have lp6_3 : ∀ (nlp6_3 : Nat) (i1 i2 : Int), (-9223372036854775808) ≤ i1 → i1 ≤ 9223372036854775807 → 0 ≤ i2 → i2 ≤ 360 → (360 - i2).toNat < nlp6_3 → zW E (d) 211 6 [(2, 69), (1, a0), (9, 0), (0, a1), (0, a2), (1, i1), (9, 0), (0, i2)] [] m0 Q := by
    intro nlp6_3
    induction nlp6_3 with
    | zero =>
      intros
      exact absurd (by assumption : _ < 0) (Nat.not_lt_zero _)
    | succ nlp6_3 ihlp6_3 =>
      intro i1 i2 li1 ui1 li2 ui2 hmlp6_3
      refine zw_4 zr_211_6 rfl ?_
      refine zw_4 zr_211_8 rfl ?_
      refine zw_41_3 zr_211_10 ?_ ?_
      · intro h5
        refine zw_6 zr_211_38 rfl ?_
        refine zw_R zr_211_40 (by decide) zm_211 (v := (1, i1)) rfl ?_
        rw [← hQ]; exact ⟨_, rfl, by omega, by omega, rfl⟩
      · intro h6
        refine zw_push zr_211_13 ?_
        refine zw_6 zr_211_16 rfl ?_
        refine zw_29h zr_211_18 ?_
        intro x7 hx7a hx7b
        refine zw_7 zr_211_19 rfl ?_
        refine zw_46r (s := 70) zr_211_20 rfl rfl rfl rfl ?_
        refine zw_3 zr_211_23 rfl ?_
        refine zw_4 zr_211_24 rfl ?_
        refine zw_16 zr_211_26 (by omega) ?_
        refine zw_48 (c := 70) (len := 826) zr_211_27 rfl rfl (by omega) (by omega) ?_
        intro x8 ex8
        have bx8 := hI0.ra (c := 70) (len := 826) (k := ((a1 + i2)).toNat) rfl (by omega)
        rw [← ex8] at bx8
        clear ex8
        refine zw_36 zr_211_28 ?_
        refine zw_27h zr_211_29 ?_
        intro x9 hx9a hx9b
        refine zw_14 (L' := [(2, 69), (1, a0), (9, 0), (0, a1), (0, a2), (1, x9), (9, 0), (0, i2)]) zr_211_30 (Nat.le_of_ble_eq_true rfl) rfl ?_
        refine zw_15 (c := 1) (L' := [(2, 69), (1, a0), (9, 0), (0, a1), (0, a2), (1, x9), (9, 0), (0, (i2 + 1))]) zr_211_32 rfl (by decide) (by omega) rfl ?_
        refine zw_42 zr_211_35 ?_
        exact zw_less (L := [(2, 69), (1, a0), (9, 0), (0, a1), (0, a2), (1, x9), (9, 0), (0, (i2 + 1))]) ⟨Or.inr rfl, Or.inr rfl, Or.inl rfl, Or.inr rfl, Or.inr rfl, Or.inr rfl, Or.inl rfl, Or.inr rfl, trivial⟩ (ihlp6_3 (x9) ((i2 + 1))  (by omega) (by omega) (by omega) (by omega)  (by omega))
  exact lp6_3 _ (a0) (0)  (by omega) (by omega) (by omega) (by omega)  (Nat.lt_succ_self _)

set_option maxHeartbeats 8000000 in
theorem th_212 {E : zE} {d : Nat} {m0 : zM} (hd : 3 ≤ d) (hI0 : zInv m0) : zC E d 212 [(2, 69)] m0 (fun v m' => ∃ r : Int, v = (1, r) ∧ (-9223372036854775808) ≤ r ∧ r ≤ 9223372036854775807 ∧ m0 = m') := by
  generalize hQ : (fun (v : zV) (m' : zM) => ∃ r : Int, v = (1, r) ∧ (-9223372036854775808) ≤ r ∧ r ≤ 9223372036854775807 ∧ m0 = m') = Q
  show zW E d 212 0 [(2, 69), (9, 0), (9, 0), (9, 0)] [] m0 Q
  refine zw_push zr_212_0 ?_
  refine zw_13 (L' := [(2, 69), (1, 449), (9, 0), (9, 0)]) zr_212_3 (Nat.le_of_ble_eq_true rfl) rfl ?_
  refine zw_push zr_212_4 ?_
  refine zw_9 (L' := [(2, 69), (1, 449), (9, 0), (0, 0)]) zr_212_5 (Nat.le_of_ble_eq_true rfl) rfl ?_
  have lp6_3 : ∀ (nlp6_3 : Nat) (i1 i2 : Int), (-9223372036854775808) ≤ i1 → i1 ≤ 9223372036854775807 → 0 ≤ i2 → i2 ≤ 4 → (4 - i2).toNat < nlp6_3 → zW E (d) 212 6 [(2, 69), (1, i1), (9, 0), (0, i2)] [] m0 Q := by
    intro nlp6_3
    induction nlp6_3 with
    | zero =>
      intros
      exact absurd (by assumption : _ < 0) (Nat.not_lt_zero _)
    | succ nlp6_3 ihlp6_3 =>
      intro i1 i2 li1 ui1 li2 ui2 hmlp6_3
      refine zw_3 zr_212_6 rfl ?_
      refine zw_push zr_212_7 ?_
      refine zw_41_3 zr_212_8 ?_ ?_
      · intro h5
        refine zw_push zr_212_30 ?_
        refine zw_9 (L' := [(2, 69), (1, i1), (9, 0), (0, 0)]) zr_212_31 (Nat.le_of_ble_eq_true rfl) rfl ?_
        have lp32_8 : ∀ (nlp32_8 : Nat) (i6 i7 : Int), (-9223372036854775808) ≤ i6 → i6 ≤ 9223372036854775807 → 0 ≤ i7 → i7 ≤ 10 → (10 - i7).toNat < nlp32_8 → zW E (d) 212 32 [(2, 69), (1, i6), (9, 0), (0, i7)] [] m0 Q := by
          intro nlp32_8
          induction nlp32_8 with
          | zero =>
            intros
            exact absurd (by assumption : _ < 0) (Nat.not_lt_zero _)
          | succ nlp32_8 ihlp32_8 =>
            intro i6 i7 li6 ui6 li7 ui7 hmlp32_8
            refine zw_3 zr_212_32 rfl ?_
            refine zw_7 zr_212_33 rfl ?_
            refine zw_C zr_212_34 (Or.inl rfl) zm_141 rfl rfl ⟨Nat.le_of_ble_eq_true rfl, Nat.le_of_ble_eq_true rfl, Nat.le_of_ble_eq_true rfl, rfl, by decide⟩ (by omega) (P := (fun v m' => zW E (d) 212 37 [(2, 69), (1, i6), (9, 0), (0, i7)] (if v.1 = 9 then [(0, i7)] else v :: [(0, i7)]) m' Q)) ?_ (fun _ _ h => h)
            generalize hQ1 : (fun v m' => zW E (d) 212 37 [(2, 69), (1, i6), (9, 0), (0, i7)] (if v.1 = 9 then [(0, i7)] else v :: [(0, i7)]) m' Q) = Q1
            show zW E (d - 1) 141 0 [(2, 69)] [] m0 Q1
            refine zw_7 zr_141_0 rfl ?_
            refine zw_46r (s := 70) zr_141_1 rfl rfl rfl rfl ?_
            refine zw_push zr_141_4 ?_
            obtain ⟨f10, ef10⟩ : ∃ v, m0 70 822 = v := ⟨_, rfl⟩
            have bf10 : 0 ≤ m0 70 822 ∧ m0 70 822 ≤ 10 := ib_70_players hI0 (by omega)
            rw [ef10] at bf10
            refine zw_48k (c := 70) (len := 826) zr_141_7 rfl rfl (by omega) (by omega) (show (822 : Int).toNat = 822 by omega) ef10 ?_
            refine zw_R zr_141_8 (by decide) zm_141 (v := (0, f10)) rfl ?_
            rw [← hQ1]
            show zW E (d) 212 37 [(2, 69), (1, i6), (9, 0), (0, i7)] [(0, f10), (0, i7)] m0 Q
            refine zw_41_3 zr_212_37 ?_ ?_
            · intro h11
              refine zw_7 zr_212_75 rfl ?_
              refine zw_5 zr_212_76 rfl ?_
              refine zw_push zr_212_77 ?_
              refine zw_push zr_212_79 ?_
              refine zw_7 zr_212_81 rfl ?_
              refine zw_C zr_212_82 (Or.inl rfl) zm_142 rfl rfl ⟨Nat.le_of_ble_eq_true rfl, Nat.le_of_ble_eq_true rfl, Nat.le_of_ble_eq_true rfl, rfl, by decide⟩ (by omega) (P := (fun v m' => zW E (d) 212 85 [(2, 69), (1, i6), (9, 0), (0, i7)] (if v.1 = 9 then [(0, 6), (0, 90), (1, i6), (2, 69)] else v :: [(0, 6), (0, 90), (1, i6), (2, 69)]) m' Q)) ?_ (fun _ _ h => h)
              generalize hQ1 : (fun v m' => zW E (d) 212 85 [(2, 69), (1, i6), (9, 0), (0, i7)] (if v.1 = 9 then [(0, 6), (0, 90), (1, i6), (2, 69)] else v :: [(0, 6), (0, 90), (1, i6), (2, 69)]) m' Q) = Q1
              show zW E (d - 1) 142 0 [(2, 69)] [] m0 Q1
              refine zw_7 zr_142_0 rfl ?_
              refine zw_46r (s := 70) zr_142_1 rfl rfl rfl rfl ?_
              refine zw_push zr_142_4 ?_
              obtain ⟨f12, ef12⟩ : ∃ v, m0 70 823 = v := ⟨_, rfl⟩
              have bf12 : 0 ≤ m0 70 823 ∧ m0 70 823 ≤ 60 := ib_70_meetings hI0 (by omega)
              rw [ef12] at bf12
              refine zw_48k (c := 70) (len := 826) zr_142_7 rfl rfl (by omega) (by omega) (show (823 : Int).toNat = 823 by omega) ef12 ?_
              refine zw_R zr_142_8 (by decide) zm_142 (v := (0, f12)) rfl ?_
              rw [← hQ1]
              show zW E (d) 212 85 [(2, 69), (1, i6), (9, 0), (0, i7)] [(0, f12), (0, 6), (0, 90), (1, i6), (2, 69)] m0 Q
              refine zw_18 zr_212_85 (by omega) ?_
              refine zw_C zr_212_86 (Or.inl rfl) zm_211 rfl rfl ⟨Nat.le_of_ble_eq_true rfl, Nat.le_of_ble_eq_true rfl, Nat.le_of_ble_eq_true rfl, rfl, by decide⟩ (by omega) (th_211 (d := d - 1) (by omega) hI0 (a0 := i6) (a1 := 90) (a2 := (6 * f12))      (by omega) (by omega) (by omega) (by omega)) ?_
              rintro _ _ ⟨r13, rfl, hr13a, hr13b, rfl⟩
              show zW E (d) 212 89 [(2, 69), (1, i6), (9, 0), (0, i7)] [(1, r13)] m0 Q
              refine zw_13 (L' := [(2, 69), (1, r13), (9, 0), (0, i7)]) zr_212_89 (Nat.le_of_ble_eq_true rfl) rfl ?_
              refine zw_push zr_212_90 ?_
              refine zw_9 (L' := [(2, 69), (1, r13), (9, 0), (0, 0)]) zr_212_91 (Nat.le_of_ble_eq_true rfl) rfl ?_
              have lp92_16 : ∀ (nlp92_16 : Nat) (i14 i15 : Int), (-9223372036854775808) ≤ i14 → i14 ≤ 9223372036854775807 → 0 ≤ i15 → i15 ≤ 4 → (4 - i15).toNat < nlp92_16 → zW E (d) 212 92 [(2, 69), (1, i14), (9, 0), (0, i15)] [] m0 Q := by
                intro nlp92_16
                induction nlp92_16 with
                | zero =>
                  intros
                  exact absurd (by assumption : _ < 0) (Nat.not_lt_zero _)
                | succ nlp92_16 ihlp92_16 =>
                  intro i14 i15 li14 ui14 li15 ui15 hmlp92_16
                  refine zw_3 zr_212_92 rfl ?_
                  refine zw_push zr_212_93 ?_
                  refine zw_41_3 zr_212_94 ?_ ?_
                  · intro h18
                    refine zw_7 zr_212_134 rfl ?_
                    refine zw_5 zr_212_135 rfl ?_
                    refine zw_push zr_212_136 ?_
                    refine zw_push zr_212_139 ?_
                    refine zw_C zr_212_142 (Or.inl rfl) zm_211 rfl rfl ⟨Nat.le_of_ble_eq_true rfl, Nat.le_of_ble_eq_true rfl, Nat.le_of_ble_eq_true rfl, rfl, by decide⟩ (by omega) (th_211 (d := d - 1) (by omega) hI0 (a0 := i14) (a1 := 658) (a2 := 160)      (by omega) (by omega) (by omega) (by omega)) ?_
                    rintro _ _ ⟨r19, rfl, hr19a, hr19b, rfl⟩
                    show zW E (d) 212 145 [(2, 69), (1, i14), (9, 0), (0, i15)] [(1, r19)] m0 Q
                    refine zw_13 (L' := [(2, 69), (1, r19), (9, 0), (0, i15)]) zr_212_145 (Nat.le_of_ble_eq_true rfl) rfl ?_
                    refine zw_7 zr_212_146 rfl ?_
                    refine zw_7 zr_212_147 rfl ?_
                    refine zw_5 zr_212_148 rfl ?_
                    refine zw_push zr_212_149 ?_
                    refine zw_push zr_212_152 ?_
                    refine zw_C zr_212_153 (Or.inl rfl) zm_211 rfl rfl ⟨Nat.le_of_ble_eq_true rfl, Nat.le_of_ble_eq_true rfl, Nat.le_of_ble_eq_true rfl, rfl, by decide⟩ (by omega) (th_211 (d := d - 1) (by omega) hI0 (a0 := r19) (a1 := 824) (a2 := 2)      (by omega) (by omega) (by omega) (by omega)) ?_
                    rintro _ _ ⟨r20, rfl, hr20a, hr20b, rfl⟩
                    show zW E (d) 212 156 [(2, 69), (1, r19), (9, 0), (0, i15)] [(1, r20), (2, 69)] m0 Q
                    refine zw_push zr_212_156 ?_
                    refine zw_push zr_212_159 ?_
                    refine zw_C zr_212_160 (Or.inl rfl) zm_211 rfl rfl ⟨Nat.le_of_ble_eq_true rfl, Nat.le_of_ble_eq_true rfl, Nat.le_of_ble_eq_true rfl, rfl, by decide⟩ (by omega) (th_211 (d := d - 1) (by omega) hI0 (a0 := r20) (a1 := 818) (a2 := 4)      (by omega) (by omega) (by omega) (by omega)) ?_
                    rintro _ _ ⟨r21, rfl, hr21a, hr21b, rfl⟩
                    show zW E (d) 212 163 [(2, 69), (1, r19), (9, 0), (0, i15)] [(1, r21)] m0 Q
                    refine zw_13 (L' := [(2, 69), (1, r21), (9, 0), (0, i15)]) zr_212_163 (Nat.le_of_ble_eq_true rfl) rfl ?_
                    refine zw_push zr_212_164 ?_
                    refine zw_push zr_212_167 ?_
                    refine zw_5 zr_212_170 rfl ?_
                    refine zw_29h zr_212_171 ?_
                    intro x22 hx22a hx22b
                    refine zw_7 zr_212_172 rfl ?_
                    obtain ⟨f23, ef23⟩ : ∃ v, m0 69 3 = v := ⟨_, rfl⟩
                    have bf23 := hI0.fl (c := 69) (k := 3) rfl
                    rw [ef23] at bf23
                    refine zw_46l zr_212_173 ef23 rfl rfl rfl ?_
                    refine zw_27h zr_212_176 ?_
                    intro x24 hx24a hx24b
                    refine zw_29h zr_212_177 ?_
                    intro x25 hx25a hx25b
                    refine zw_7 zr_212_178 rfl ?_
                    obtain ⟨f26, ef26⟩ : ∃ v, m0 69 4 = v := ⟨_, rfl⟩
                    have bf26 := hI0.fl (c := 69) (k := 4) rfl
                    rw [ef26] at bf26
                    refine zw_46l zr_212_179 ef26 rfl rfl rfl ?_
                    refine zw_27h zr_212_182 ?_
                    intro x27 hx27a hx27b
                    refine zw_R zr_212_183 (by decide) zm_212 (v := (1, x27)) rfl ?_
                    rw [← hQ]; exact ⟨_, rfl, by omega, by omega, rfl⟩
                  · intro h28
                    refine zw_7 zr_212_97 rfl ?_
                    refine zw_5 zr_212_98 rfl ?_
                    refine zw_push zr_212_99 ?_
                    refine zw_push zr_212_102 ?_
                    refine zw_3 zr_212_104 rfl ?_
                    refine zw_18 zr_212_105 (by omega) ?_
                    refine zw_16 zr_212_106 (by omega) ?_
                    refine zw_push zr_212_107 ?_
                    refine zw_7 zr_212_108 rfl ?_
                    refine zw_46r (s := 70) zr_212_109 rfl rfl rfl rfl ?_
                    refine zw_push zr_212_112 ?_
                    refine zw_push zr_212_115 ?_
                    refine zw_3 zr_212_117 rfl ?_
                    refine zw_18 zr_212_118 (by omega) ?_
                    refine zw_16 zr_212_119 (by omega) ?_
                    refine zw_push zr_212_120 ?_
                    refine zw_16 zr_212_121 (by omega) ?_
                    refine zw_48 (c := 70) (len := 826) zr_212_122 rfl rfl (by omega) (by omega) ?_
                    intro x29 ex29
                    have bx29 := ib_70_s1 hI0 (k := (((450 + (52 * i15)) + 1)).toNat) (by omega)
                    rw [← ex29] at bx29
                    clear ex29
                    refine zw_16 zr_212_123 (by omega) ?_
                    refine zw_C zr_212_124 (Or.inl rfl) zm_211 rfl rfl ⟨Nat.le_of_ble_eq_true rfl, Nat.le_of_ble_eq_true rfl, Nat.le_of_ble_eq_true rfl, rfl, by decide⟩ (by omega) (th_211 (d := d - 1) (by omega) hI0 (a0 := i14) (a1 := (450 + (52 * i15))) (a2 := (2 + x29))      (by omega) (by omega) (by omega) (by omega)) ?_
                    rintro _ _ ⟨r30, rfl, hr30a, hr30b, rfl⟩
                    show zW E (d) 212 127 [(2, 69), (1, i14), (9, 0), (0, i15)] [(1, r30)] m0 Q
                    refine zw_13 (L' := [(2, 69), (1, r30), (9, 0), (0, i15)]) zr_212_127 (Nat.le_of_ble_eq_true rfl) rfl ?_
                    refine zw_15 (c := 1) (L' := [(2, 69), (1, r30), (9, 0), (0, (i15 + 1))]) zr_212_128 rfl (by decide) (by omega) rfl ?_
                    refine zw_42 zr_212_131 ?_
                    exact zw_less (L := [(2, 69), (1, r30), (9, 0), (0, (i15 + 1))]) ⟨Or.inr rfl, Or.inr rfl, Or.inl rfl, Or.inr rfl, trivial⟩ (ihlp92_16 (r30) ((i15 + 1))  (by omega) (by omega) (by omega) (by omega)  (by omega))
              exact lp92_16 _ (r13) (0)  (by omega) (by omega) (by omega) (by omega)  (Nat.lt_succ_self _)
            · intro h31
              refine zw_7 zr_212_40 rfl ?_
              refine zw_push zr_212_41 ?_
              refine zw_5 zr_212_44 rfl ?_
              refine zw_29h zr_212_45 ?_
              intro x32 hx32a hx32b
              refine zw_7 zr_212_46 rfl ?_
              refine zw_46r (s := 70) zr_212_47 rfl rfl rfl rfl ?_
              refine zw_push zr_212_50 ?_
              refine zw_3 zr_212_51 rfl ?_
              refine zw_16 zr_212_52 (by omega) ?_
              refine zw_48 (c := 70) (len := 826) zr_212_53 rfl rfl (by omega) (by omega) ?_
              intro x33 ex33
              have bx33 := ib_70_born hI0 (k := ((0 + i7)).toNat) (by omega)
              rw [← ex33] at bx33
              clear ex33
              refine zw_36 zr_212_54 ?_
              refine zw_27h zr_212_55 ?_
              intro x34 hx34a hx34b
              refine zw_push zr_212_56 ?_
              refine zw_push zr_212_58 ?_
              refine zw_3 zr_212_60 rfl ?_
              refine zw_18 zr_212_61 (by omega) ?_
              refine zw_16 zr_212_62 (by omega) ?_
              refine zw_push zr_212_63 ?_
              refine zw_C zr_212_65 (Or.inl rfl) zm_211 rfl rfl ⟨Nat.le_of_ble_eq_true rfl, Nat.le_of_ble_eq_true rfl, Nat.le_of_ble_eq_true rfl, rfl, by decide⟩ (by omega) (th_211 (d := d - 1) (by omega) hI0 (a0 := x34) (a1 := (10 + (8 * i7))) (a2 := 8)      (by omega) (by omega) (by omega) (by omega)) ?_
              rintro _ _ ⟨r35, rfl, hr35a, hr35b, rfl⟩
              show zW E (d) 212 68 [(2, 69), (1, i6), (9, 0), (0, i7)] [(1, r35)] m0 Q
              refine zw_13 (L' := [(2, 69), (1, r35), (9, 0), (0, i7)]) zr_212_68 (Nat.le_of_ble_eq_true rfl) rfl ?_
              refine zw_15 (c := 1) (L' := [(2, 69), (1, r35), (9, 0), (0, (i7 + 1))]) zr_212_69 rfl (by decide) (by omega) rfl ?_
              refine zw_42 zr_212_72 ?_
              exact zw_less (L := [(2, 69), (1, r35), (9, 0), (0, (i7 + 1))]) ⟨Or.inr rfl, Or.inr rfl, Or.inl rfl, Or.inr rfl, trivial⟩ (ihlp32_8 (r35) ((i7 + 1))  (by omega) (by omega) (by omega) (by omega)  (by omega))
        exact lp32_8 _ (i1) (0)  (by omega) (by omega) (by omega) (by omega)  (Nat.lt_succ_self _)
      · intro h36
        refine zw_push zr_212_11 ?_
        refine zw_5 zr_212_14 rfl ?_
        refine zw_29h zr_212_15 ?_
        intro x37 hx37a hx37b
        refine zw_7 zr_212_16 rfl ?_
        refine zw_3 zr_212_17 rfl ?_
        obtain ⟨f38, ef38⟩ : ∃ v, m0 70 822 = v := ⟨_, rfl⟩
        have bf38 : 0 ≤ m0 70 822 ∧ m0 70 822 ≤ 10 := ib_70_players hI0 (by omega)
        rw [ef38] at bf38
        obtain ⟨f39, ef39⟩ : ∃ v, m0 70 823 = v := ⟨_, rfl⟩
        have bf39 : 0 ≤ m0 70 823 ∧ m0 70 823 ≤ 60 := ib_70_meetings hI0 (by omega)
        rw [ef39] at bf39
        refine zw_C zr_212_18 (Or.inl rfl) zm_210 rfl rfl ⟨Nat.le_of_ble_eq_true rfl, Nat.le_of_ble_eq_true rfl, Nat.le_of_ble_eq_true rfl, rfl, by decide⟩ (by omega) (th_210 (d := d - 1) (by omega) hI0 (a0 := i2) (g0 := f38) (g1 := f39)  (F70 := m0 70) ef38 ef39 rfl (by omega) ) ?_
        rintro _ _ ⟨r40, rfl, hr40a, hr40b, rfl, po0_r40⟩
        show zW E (d) 212 21 [(2, 69), (1, i1), (9, 0), (0, i2)] [(0, r40), (1, x37)] m0 Q
        refine zw_36 zr_212_21 ?_
        refine zw_27h zr_212_22 ?_
        intro x41 hx41a hx41b
        refine zw_13 (L' := [(2, 69), (1, x41), (9, 0), (0, i2)]) zr_212_23 (Nat.le_of_ble_eq_true rfl) rfl ?_
        refine zw_15 (c := 1) (L' := [(2, 69), (1, x41), (9, 0), (0, (i2 + 1))]) zr_212_24 rfl (by decide) (by omega) rfl ?_
        refine zw_42 zr_212_27 ?_
        exact zw_less (L := [(2, 69), (1, x41), (9, 0), (0, (i2 + 1))]) ⟨Or.inr rfl, Or.inr rfl, Or.inl rfl, Or.inr rfl, trivial⟩ (ihlp6_3 (x41) ((i2 + 1))  (by omega) (by omega) (by omega) (by omega)  (by omega))
  exact lp6_3 _ (449) (0)  (by omega) (by omega) (by omega) (by omega)  (Nat.lt_succ_self _)
