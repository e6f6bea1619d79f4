set_option maxHeartbeats 8000000 in
theorem th_133 {E : zE} {d : Nat} {m0 : zM} {a0 : Int} (hd : 2 ≤ d) (hI0 : zInv m0) (ha0 : (-2147483648) ≤ a0 ∧ a0 ≤ 2147483647) : zC E d 133 [(2, 0), (0, a0)] m0 (fun v m' => ∃ r : Int, v = (1, r) ∧ (-9223372036854775808) ≤ r ∧ r ≤ 9223372036854775807 ∧ m0 = m') := by
  generalize hQ : (fun (v : zV) (m' : zM) => ∃ r : Int, v = (1, r) ∧ (-9223372036854775808) ≤ r ∧ r ≤ 9223372036854775807 ∧ m0 = m') = Q
  show zW E d 133 0 [(2, 0), (0, a0)] [] m0 Q
  refine zw_3 zr_133_0 rfl ?_
  refine zw_push zr_133_1 ?_
  refine zw_push zr_133_2 ?_
  refine zw_C zr_133_3 (Or.inr rfl) zm_100 rfl rfl ⟨Nat.le_of_ble_eq_true rfl, Nat.le_of_ble_eq_true rfl, Nat.le_of_ble_eq_true rfl, rfl, by decide⟩ (by omega) (P := (fun v m' => zW E (d) 133 6 [(2, 0), (0, a0)] (if v.1 = 9 then [] else v :: []) m' Q)) ?_ (fun _ _ h => h)
  generalize hQ1 : (fun v m' => zW E (d) 133 6 [(2, 0), (0, a0)] (if v.1 = 9 then [] else v :: []) m' Q) = Q1
  show zW E (d - 1) 100 0 [(0, a0), (0, 0), (0, 1)] [] m0 Q1
  refine zw_3 zr_100_0 rfl ?_
  refine zw_3 zr_100_1 rfl ?_
  refine zw_41_0 zr_100_2 ?_ ?_
  · intro h1
    refine zw_push zr_100_14 ?_
    refine zw_R zr_100_15 (by decide) zm_100 (v := (0, 0)) (zRetB (by omega)) ?_
    rw [← hQ1]
    show zW E (d) 133 6 [(2, 0), (0, a0)] [(0, 0)] m0 Q
    refine zw_40_4 zr_133_6 ?_ ?_
    · intro h2; omega
    · intro h3
      refine zw_push zr_133_9 ?_
      refine zw_R zr_133_12 (by decide) zm_133 (v := (1, (-1000000000000))) rfl ?_
      rw [← hQ]; exact ⟨_, rfl, by omega, by omega, rfl⟩
  · intro h4
    refine zw_3 zr_100_5 rfl ?_
    refine zw_3 zr_100_6 rfl ?_
    refine zw_41_2 zr_100_7 ?_ ?_
    · intro h5
      refine zw_push zr_100_14 ?_
      refine zw_R zr_100_15 (by decide) zm_100 (v := (0, 0)) (zRetB (by omega)) ?_
      rw [← hQ1]
      show zW E (d) 133 6 [(2, 0), (0, a0)] [(0, 0)] m0 Q
      refine zw_40_4 zr_133_6 ?_ ?_
      · intro h6; omega
      · intro h7
        refine zw_push zr_133_9 ?_
        refine zw_R zr_133_12 (by decide) zm_133 (v := (1, (-1000000000000))) rfl ?_
        rw [← hQ]; exact ⟨_, rfl, by omega, by omega, rfl⟩
    · intro h8
      refine zw_push zr_100_10 ?_
      refine zw_42 zr_100_11 ?_
      refine zw_R zr_100_15 (by decide) zm_100 (v := (0, 1)) (zRetB (by omega)) ?_
      rw [← hQ1]
      show zW E (d) 133 6 [(2, 0), (0, a0)] [(0, 1)] m0 Q
      refine zw_40_4 zr_133_6 ?_ ?_
      · intro h9
        refine zw_3 zr_133_13 rfl ?_
        refine zw_40_4 zr_133_14 ?_ ?_
        · intro h10
          refine zw_7 zr_133_27 rfl ?_
          refine zw_46r (s := 42) zr_133_28 rfl rfl rfl rfl ?_
          obtain ⟨f11, ef11⟩ : ∃ v, m0 42 1 = v := ⟨_, rfl⟩
          have bf11 := hI0.fl (c := 42) (k := 1) rfl
          rw [ef11] at bf11
          refine zw_46l zr_133_31 ef11 rfl rfl rfl ?_
          refine zw_R zr_133_34 (by decide) zm_133 (v := (1, f11)) rfl ?_
          rw [← hQ]; exact ⟨_, rfl, by omega, by omega, rfl⟩
        · intro h12
          refine zw_7 zr_133_17 rfl ?_
          refine zw_46r (s := 42) zr_133_18 rfl rfl rfl rfl ?_
          obtain ⟨f13, ef13⟩ : ∃ v, m0 42 0 = v := ⟨_, rfl⟩
          have bf13 := hI0.fl (c := 42) (k := 0) rfl
          rw [ef13] at bf13
          refine zw_46l zr_133_21 ef13 rfl rfl rfl ?_
          refine zw_42 zr_133_24 ?_
          refine zw_R zr_133_34 (by decide) zm_133 (v := (1, f13)) rfl ?_
          rw [← hQ]; exact ⟨_, rfl, by omega, by omega, rfl⟩
      · intro h14; omega

set_option maxHeartbeats 8000000 in
theorem th_207 {E : zE} {d : Nat} {m0 : zM} {a0 : Int} (hd : 1 ≤ d) (hI0 : zInv m0) (ha0 : (-2147483648) ≤ a0 ∧ a0 ≤ 2147483647) : zC E d 207 [(2, 69), (0, a0)] m0 (fun v m' => ∃ r : Int, v = (1, r) ∧ (-9223372036854775808) ≤ r ∧ r ≤ 9223372036854775807 ∧ m0 = m') := by
  generalize hQ : (fun (v : zV) (m' : zM) => ∃ r : Int, v = (1, r) ∧ (-9223372036854775808) ≤ r ∧ r ≤ 9223372036854775807 ∧ m0 = m') = Q
  show zW E d 207 0 [(2, 69), (0, a0)] [] m0 Q
  refine zw_3 zr_207_0 rfl ?_
  refine zw_40_4 zr_207_1 ?_ ?_
  · intro h1
    refine zw_3 zr_207_11 rfl ?_
    refine zw_push zr_207_12 ?_
    refine zw_41_4 zr_207_13 ?_ ?_
    · intro h2
      refine zw_push zr_207_23 ?_
      refine zw_R zr_207_26 (by decide) zm_207 (v := (1, (-1000000000000))) rfl ?_
      rw [← hQ]; exact ⟨_, rfl, by omega, by omega, rfl⟩
    · intro h3
      refine zw_7 zr_207_16 rfl ?_
      obtain ⟨f4, ef4⟩ : ∃ v, m0 69 4 = v := ⟨_, rfl⟩
      have bf4 := hI0.fl (c := 69) (k := 4) rfl
      rw [ef4] at bf4
      refine zw_46l zr_207_17 ef4 rfl rfl rfl ?_
      refine zw_42 zr_207_20 ?_
      refine zw_R zr_207_26 (by decide) zm_207 (v := (1, f4)) rfl ?_
      rw [← hQ]; exact ⟨_, rfl, by omega, by omega, rfl⟩
  · intro h5
    refine zw_7 zr_207_4 rfl ?_
    obtain ⟨f6, ef6⟩ : ∃ v, m0 69 3 = v := ⟨_, rfl⟩
    have bf6 := hI0.fl (c := 69) (k := 3) rfl
    rw [ef6] at bf6
    refine zw_46l zr_207_5 ef6 rfl rfl rfl ?_
    refine zw_42 zr_207_8 ?_
    refine zw_R zr_207_26 (by decide) zm_207 (v := (1, f6)) rfl ?_
    rw [← hQ]; exact ⟨_, rfl, by omega, by omega, rfl⟩

abbrev W_61_15_1 : List (Nat × Nat) := [(15, 0), (15, 1), (15, 2), (15, 3), (15, 4), (15, 5), (16, 1000), (17, 1000), (18, 1000), (19, 1000), (20, 1000), (21, 1000), (22, 1000), (23, 1000), (24, 1000), (25, 1000), (26, 1000), (27, 1000)]
set_option maxHeartbeats 8000000 in
theorem th_61_15_1 {E : zE} {d : Nat} {m0 : zM} {g0 : Int} {g1 : Int} {g2 : Int} {g3 : Int} {g4 : Int} {g5 : Int} {F16 : Nat → Int} {F17 : Nat → Int} {F18 : Nat → Int} {F19 : Nat → Int} {F20 : Nat → Int} {F21 : Nat → Int} {F22 : Nat → Int} {F23 : Nat → Int} {F24 : Nat → Int} {F25 : Nat → Int} {F26 : Nat → Int} {F27 : Nat → Int} {F2 : Nat → Int} {F3 : Nat → Int} {F4 : Nat → Int} {F5 : Nat → Int} {F6 : Nat → Int} {F7 : Nat → Int} {F8 : Nat → Int} {F9 : Nat → Int} {F10 : Nat → Int} {F11 : Nat → Int} {F12 : Nat → Int} {F13 : Nat → Int} (hd : 1 ≤ d) (hI0 : zInv m0) (hg0 : m0 1 0 = g0) (hg1 : m0 1 1 = g1) (hg2 : m0 1 2 = g2) (hg3 : m0 1 3 = g3) (hg4 : m0 1 4 = g4) (hg5 : m0 1 5 = g5) (hG16 : m0 16 = F16) (hG17 : m0 17 = F17) (hG18 : m0 18 = F18) (hG19 : m0 19 = F19) (hG20 : m0 20 = F20) (hG21 : m0 21 = F21) (hG22 : m0 22 = F22) (hG23 : m0 23 = F23) (hG24 : m0 24 = F24) (hG25 : m0 25 = F25) (hG26 : m0 26 = F26) (hG27 : m0 27 = F27) (hG2 : m0 2 = F2) (hG3 : m0 3 = F3) (hG4 : m0 4 = F4) (hG5 : m0 5 = F5) (hG6 : m0 6 = F6) (hG7 : m0 7 = F7) (hG8 : m0 8 = F8) (hG9 : m0 9 = F9) (hG10 : m0 10 = F10) (hG11 : m0 11 = F11) (hG12 : m0 12 = F12) (hG13 : m0 13 = F13) : zC E d 61 [(2, 15), (2, 1)] m0 (fun v m' => v = (9, 0) ∧ zInv m' ∧ zFr W_61_15_1 m0 m' ∧ (zTk_15_1 m0 m')) := by
  have hF0 : zFr W_61_15_1 m0 m0 := zFr.rfl
  have bg0 := ib_1_0 hI0
  rw [hg0] at bg0
  have bg1 := ib_1_1 hI0
  rw [hg1] at bg1
  have bg2 := ib_1_2 hI0
  rw [hg2] at bg2
  have bg3 := ib_1_3 hI0
  rw [hg3] at bg3
  have bg4 := ib_1_4 hI0
  rw [hg4] at bg4
  have bg5 := ib_1_5 hI0
  rw [hg5] at bg5
  generalize hQ : (fun (v : zV) (m' : zM) => v = (9, 0) ∧ zInv m' ∧ zFr W_61_15_1 m0 m' ∧ (zTk_15_1 m0 m')) = Q
  show zW E d 61 0 [(2, 15), (2, 1)] [] m0 Q
  refine zw_7 zr_61_0 rfl ?_
  refine zw_7 zr_61_1 rfl ?_
  refine zw_46i zr_61_2 hg0 rfl rfl rfl ?_
  refine zw_47 (c := 15) zr_61_5 rfl ⟨rfl, by decide, rfl⟩ ?_
  intro m1 em1
  have hIm1 : zInv m1 := by rw [em1]; exact hI0.bd (r := 15) (k := 0) (lo := 0) (hi := 10) rfl (by omega) (by decide) (by decide) (by decide)
  have hFm1 : zFr W_61_15_1 m0 m1 := by rw [em1]; exact hF0.up rfl
  have km1_1_0 : m1 1 0 = g0 := by rw [em1, zUp_ne (by omega)]; exact hg0
  have km1_1_1 : m1 1 1 = g1 := by rw [em1, zUp_ne (by omega)]; exact hg1
  have km1_1_2 : m1 1 2 = g2 := by rw [em1, zUp_ne (by omega)]; exact hg2
  have km1_1_3 : m1 1 3 = g3 := by rw [em1, zUp_ne (by omega)]; exact hg3
  have km1_1_4 : m1 1 4 = g4 := by rw [em1, zUp_ne (by omega)]; exact hg4
  have km1_1_5 : m1 1 5 = g5 := by rw [em1, zUp_ne (by omega)]; exact hg5
  have km1_15_0 : m1 15 0 = g0 := by rw [em1]; exact zUp_eq _ _ _ _
  have fm1_16 : m1 16 = F16 := by rw [em1, zUp_fn (by decide)]; exact hG16
  have fm1_17 : m1 17 = F17 := by rw [em1, zUp_fn (by decide)]; exact hG17
  have fm1_18 : m1 18 = F18 := by rw [em1, zUp_fn (by decide)]; exact hG18
  have fm1_19 : m1 19 = F19 := by rw [em1, zUp_fn (by decide)]; exact hG19
  have fm1_20 : m1 20 = F20 := by rw [em1, zUp_fn (by decide)]; exact hG20
  have fm1_21 : m1 21 = F21 := by rw [em1, zUp_fn (by decide)]; exact hG21
  have fm1_22 : m1 22 = F22 := by rw [em1, zUp_fn (by decide)]; exact hG22
  have fm1_23 : m1 23 = F23 := by rw [em1, zUp_fn (by decide)]; exact hG23
  have fm1_24 : m1 24 = F24 := by rw [em1, zUp_fn (by decide)]; exact hG24
  have fm1_25 : m1 25 = F25 := by rw [em1, zUp_fn (by decide)]; exact hG25
  have fm1_26 : m1 26 = F26 := by rw [em1, zUp_fn (by decide)]; exact hG26
  have fm1_27 : m1 27 = F27 := by rw [em1, zUp_fn (by decide)]; exact hG27
  have fm1_2 : m1 2 = F2 := by rw [em1, zUp_fn (by decide)]; exact hG2
  have fm1_3 : m1 3 = F3 := by rw [em1, zUp_fn (by decide)]; exact hG3
  have fm1_4 : m1 4 = F4 := by rw [em1, zUp_fn (by decide)]; exact hG4
  have fm1_5 : m1 5 = F5 := by rw [em1, zUp_fn (by decide)]; exact hG5
  have fm1_6 : m1 6 = F6 := by rw [em1, zUp_fn (by decide)]; exact hG6
  have fm1_7 : m1 7 = F7 := by rw [em1, zUp_fn (by decide)]; exact hG7
  have fm1_8 : m1 8 = F8 := by rw [em1, zUp_fn (by decide)]; exact hG8
  have fm1_9 : m1 9 = F9 := by rw [em1, zUp_fn (by decide)]; exact hG9
  have fm1_10 : m1 10 = F10 := by rw [em1, zUp_fn (by decide)]; exact hG10
  have fm1_11 : m1 11 = F11 := by rw [em1, zUp_fn (by decide)]; exact hG11
  have fm1_12 : m1 12 = F12 := by rw [em1, zUp_fn (by decide)]; exact hG12
  have fm1_13 : m1 13 = F13 := by rw [em1, zUp_fn (by decide)]; exact hG13
  clear em1
  refine zw_7 zr_61_8 rfl ?_
  refine zw_7 zr_61_9 rfl ?_
  refine zw_46i zr_61_10 km1_1_1 rfl rfl rfl ?_
  refine zw_47 (c := 15) zr_61_13 rfl ⟨rfl, by decide, rfl⟩ ?_
  intro m2 em2
  have hIm2 : zInv m2 := by rw [em2]; exact hIm1.bd (r := 15) (k := 1) (lo := 0) (hi := 60) rfl (by omega) (by decide) (by decide) (by decide)
  have hFm2 : zFr W_61_15_1 m0 m2 := by rw [em2]; exact hFm1.up rfl
  have km2_1_0 : m2 1 0 = g0 := by rw [em2, zUp_ne (by omega)]; exact km1_1_0
  have km2_1_1 : m2 1 1 = g1 := by rw [em2, zUp_ne (by omega)]; exact km1_1_1
  have km2_1_2 : m2 1 2 = g2 := by rw [em2, zUp_ne (by omega)]; exact km1_1_2
  have km2_1_3 : m2 1 3 = g3 := by rw [em2, zUp_ne (by omega)]; exact km1_1_3
  have km2_1_4 : m2 1 4 = g4 := by rw [em2, zUp_ne (by omega)]; exact km1_1_4
  have km2_1_5 : m2 1 5 = g5 := by rw [em2, zUp_ne (by omega)]; exact km1_1_5
  have km2_15_0 : m2 15 0 = g0 := by rw [em2, zUp_ne (by omega)]; exact km1_15_0
  have km2_15_1 : m2 15 1 = g1 := by rw [em2]; exact zUp_eq _ _ _ _
  have fm2_16 : m2 16 = F16 := by rw [em2, zUp_fn (by decide)]; exact fm1_16
  have fm2_17 : m2 17 = F17 := by rw [em2, zUp_fn (by decide)]; exact fm1_17
  have fm2_18 : m2 18 = F18 := by rw [em2, zUp_fn (by decide)]; exact fm1_18
  have fm2_19 : m2 19 = F19 := by rw [em2, zUp_fn (by decide)]; exact fm1_19
  have fm2_20 : m2 20 = F20 := by rw [em2, zUp_fn (by decide)]; exact fm1_20
  have fm2_21 : m2 21 = F21 := by rw [em2, zUp_fn (by decide)]; exact fm1_21
  have fm2_22 : m2 22 = F22 := by rw [em2, zUp_fn (by decide)]; exact fm1_22
  have fm2_23 : m2 23 = F23 := by rw [em2, zUp_fn (by decide)]; exact fm1_23
  have fm2_24 : m2 24 = F24 := by rw [em2, zUp_fn (by decide)]; exact fm1_24
  have fm2_25 : m2 25 = F25 := by rw [em2, zUp_fn (by decide)]; exact fm1_25
  have fm2_26 : m2 26 = F26 := by rw [em2, zUp_fn (by decide)]; exact fm1_26
  have fm2_27 : m2 27 = F27 := by rw [em2, zUp_fn (by decide)]; exact fm1_27
  have fm2_2 : m2 2 = F2 := by rw [em2, zUp_fn (by decide)]; exact fm1_2
  have fm2_3 : m2 3 = F3 := by rw [em2, zUp_fn (by decide)]; exact fm1_3
  have fm2_4 : m2 4 = F4 := by rw [em2, zUp_fn (by decide)]; exact fm1_4
  have fm2_5 : m2 5 = F5 := by rw [em2, zUp_fn (by decide)]; exact fm1_5
  have fm2_6 : m2 6 = F6 := by rw [em2, zUp_fn (by decide)]; exact fm1_6
  have fm2_7 : m2 7 = F7 := by rw [em2, zUp_fn (by decide)]; exact fm1_7
  have fm2_8 : m2 8 = F8 := by rw [em2, zUp_fn (by decide)]; exact fm1_8
  have fm2_9 : m2 9 = F9 := by rw [em2, zUp_fn (by decide)]; exact fm1_9
  have fm2_10 : m2 10 = F10 := by rw [em2, zUp_fn (by decide)]; exact fm1_10
  have fm2_11 : m2 11 = F11 := by rw [em2, zUp_fn (by decide)]; exact fm1_11
  have fm2_12 : m2 12 = F12 := by rw [em2, zUp_fn (by decide)]; exact fm1_12
  have fm2_13 : m2 13 = F13 := by rw [em2, zUp_fn (by decide)]; exact fm1_13
  clear em2
  refine zw_7 zr_61_16 rfl ?_
  refine zw_7 zr_61_17 rfl ?_
  refine zw_46l zr_61_18 km2_1_2 rfl rfl rfl ?_
  refine zw_47 (c := 15) zr_61_21 rfl ⟨rfl, by decide, rfl⟩ ?_
  intro m3 em3
  have hIm3 : zInv m3 := by rw [em3]; exact hIm2.bdl (r := 15) (k := 2) (lo := 0) (hi := 1152921504606846975) rfl (by omega) (by decide) (by decide) (by decide) (by decide)
  have hFm3 : zFr W_61_15_1 m0 m3 := by rw [em3]; exact hFm2.up rfl
  have km3_1_0 : m3 1 0 = g0 := by rw [em3, zUp_ne (by omega)]; exact km2_1_0
  have km3_1_1 : m3 1 1 = g1 := by rw [em3, zUp_ne (by omega)]; exact km2_1_1
  have km3_1_2 : m3 1 2 = g2 := by rw [em3, zUp_ne (by omega)]; exact km2_1_2
  have km3_1_3 : m3 1 3 = g3 := by rw [em3, zUp_ne (by omega)]; exact km2_1_3
  have km3_1_4 : m3 1 4 = g4 := by rw [em3, zUp_ne (by omega)]; exact km2_1_4
  have km3_1_5 : m3 1 5 = g5 := by rw [em3, zUp_ne (by omega)]; exact km2_1_5
  have km3_15_0 : m3 15 0 = g0 := by rw [em3, zUp_ne (by omega)]; exact km2_15_0
  have km3_15_1 : m3 15 1 = g1 := by rw [em3, zUp_ne (by omega)]; exact km2_15_1
  have km3_15_2 : m3 15 2 = g2 := by rw [em3]; exact zUp_eq _ _ _ _
  have fm3_16 : m3 16 = F16 := by rw [em3, zUp_fn (by decide)]; exact fm2_16
  have fm3_17 : m3 17 = F17 := by rw [em3, zUp_fn (by decide)]; exact fm2_17
  have fm3_18 : m3 18 = F18 := by rw [em3, zUp_fn (by decide)]; exact fm2_18
  have fm3_19 : m3 19 = F19 := by rw [em3, zUp_fn (by decide)]; exact fm2_19
  have fm3_20 : m3 20 = F20 := by rw [em3, zUp_fn (by decide)]; exact fm2_20
  have fm3_21 : m3 21 = F21 := by rw [em3, zUp_fn (by decide)]; exact fm2_21
  have fm3_22 : m3 22 = F22 := by rw [em3, zUp_fn (by decide)]; exact fm2_22
  have fm3_23 : m3 23 = F23 := by rw [em3, zUp_fn (by decide)]; exact fm2_23
  have fm3_24 : m3 24 = F24 := by rw [em3, zUp_fn (by decide)]; exact fm2_24
  have fm3_25 : m3 25 = F25 := by rw [em3, zUp_fn (by decide)]; exact fm2_25
  have fm3_26 : m3 26 = F26 := by rw [em3, zUp_fn (by decide)]; exact fm2_26
  have fm3_27 : m3 27 = F27 := by rw [em3, zUp_fn (by decide)]; exact fm2_27
  have fm3_2 : m3 2 = F2 := by rw [em3, zUp_fn (by decide)]; exact fm2_2
  have fm3_3 : m3 3 = F3 := by rw [em3, zUp_fn (by decide)]; exact fm2_3
  have fm3_4 : m3 4 = F4 := by rw [em3, zUp_fn (by decide)]; exact fm2_4
  have fm3_5 : m3 5 = F5 := by rw [em3, zUp_fn (by decide)]; exact fm2_5
  have fm3_6 : m3 6 = F6 := by rw [em3, zUp_fn (by decide)]; exact fm2_6
  have fm3_7 : m3 7 = F7 := by rw [em3, zUp_fn (by decide)]; exact fm2_7
  have fm3_8 : m3 8 = F8 := by rw [em3, zUp_fn (by decide)]; exact fm2_8
  have fm3_9 : m3 9 = F9 := by rw [em3, zUp_fn (by decide)]; exact fm2_9
  have fm3_10 : m3 10 = F10 := by rw [em3, zUp_fn (by decide)]; exact fm2_10
  have fm3_11 : m3 11 = F11 := by rw [em3, zUp_fn (by decide)]; exact fm2_11
  have fm3_12 : m3 12 = F12 := by rw [em3, zUp_fn (by decide)]; exact fm2_12
  have fm3_13 : m3 13 = F13 := by rw [em3, zUp_fn (by decide)]; exact fm2_13
  clear em3
  refine zw_7 zr_61_24 rfl ?_
  refine zw_7 zr_61_25 rfl ?_
  refine zw_46l zr_61_26 km3_1_3 rfl rfl rfl ?_
  refine zw_47 (c := 15) zr_61_29 rfl ⟨rfl, by decide, rfl⟩ ?_
  intro m4 em4
  have hIm4 : zInv m4 := by rw [em4]; exact hIm3.bdl (r := 15) (k := 3) (lo := 0) (hi := 1152921504606846975) rfl (by omega) (by decide) (by decide) (by decide) (by decide)
  have hFm4 : zFr W_61_15_1 m0 m4 := by rw [em4]; exact hFm3.up rfl
  have km4_1_0 : m4 1 0 = g0 := by rw [em4, zUp_ne (by omega)]; exact km3_1_0
  have km4_1_1 : m4 1 1 = g1 := by rw [em4, zUp_ne (by omega)]; exact km3_1_1
  have km4_1_2 : m4 1 2 = g2 := by rw [em4, zUp_ne (by omega)]; exact km3_1_2
  have km4_1_3 : m4 1 3 = g3 := by rw [em4, zUp_ne (by omega)]; exact km3_1_3
  have km4_1_4 : m4 1 4 = g4 := by rw [em4, zUp_ne (by omega)]; exact km3_1_4
  have km4_1_5 : m4 1 5 = g5 := by rw [em4, zUp_ne (by omega)]; exact km3_1_5
  have km4_15_0 : m4 15 0 = g0 := by rw [em4, zUp_ne (by omega)]; exact km3_15_0
  have km4_15_1 : m4 15 1 = g1 := by rw [em4, zUp_ne (by omega)]; exact km3_15_1
  have km4_15_2 : m4 15 2 = g2 := by rw [em4, zUp_ne (by omega)]; exact km3_15_2
  have km4_15_3 : m4 15 3 = g3 := by rw [em4]; exact zUp_eq _ _ _ _
  have fm4_16 : m4 16 = F16 := by rw [em4, zUp_fn (by decide)]; exact fm3_16
  have fm4_17 : m4 17 = F17 := by rw [em4, zUp_fn (by decide)]; exact fm3_17
  have fm4_18 : m4 18 = F18 := by rw [em4, zUp_fn (by decide)]; exact fm3_18
  have fm4_19 : m4 19 = F19 := by rw [em4, zUp_fn (by decide)]; exact fm3_19
  have fm4_20 : m4 20 = F20 := by rw [em4, zUp_fn (by decide)]; exact fm3_20
  have fm4_21 : m4 21 = F21 := by rw [em4, zUp_fn (by decide)]; exact fm3_21
  have fm4_22 : m4 22 = F22 := by rw [em4, zUp_fn (by decide)]; exact fm3_22
  have fm4_23 : m4 23 = F23 := by rw [em4, zUp_fn (by decide)]; exact fm3_23
  have fm4_24 : m4 24 = F24 := by rw [em4, zUp_fn (by decide)]; exact fm3_24
  have fm4_25 : m4 25 = F25 := by rw [em4, zUp_fn (by decide)]; exact fm3_25
  have fm4_26 : m4 26 = F26 := by rw [em4, zUp_fn (by decide)]; exact fm3_26
  have fm4_27 : m4 27 = F27 := by rw [em4, zUp_fn (by decide)]; exact fm3_27
  have fm4_2 : m4 2 = F2 := by rw [em4, zUp_fn (by decide)]; exact fm3_2
  have fm4_3 : m4 3 = F3 := by rw [em4, zUp_fn (by decide)]; exact fm3_3
  have fm4_4 : m4 4 = F4 := by rw [em4, zUp_fn (by decide)]; exact fm3_4
  have fm4_5 : m4 5 = F5 := by rw [em4, zUp_fn (by decide)]; exact fm3_5
  have fm4_6 : m4 6 = F6 := by rw [em4, zUp_fn (by decide)]; exact fm3_6
  have fm4_7 : m4 7 = F7 := by rw [em4, zUp_fn (by decide)]; exact fm3_7
  have fm4_8 : m4 8 = F8 := by rw [em4, zUp_fn (by decide)]; exact fm3_8
  have fm4_9 : m4 9 = F9 := by rw [em4, zUp_fn (by decide)]; exact fm3_9
  have fm4_10 : m4 10 = F10 := by rw [em4, zUp_fn (by decide)]; exact fm3_10
  have fm4_11 : m4 11 = F11 := by rw [em4, zUp_fn (by decide)]; exact fm3_11
  have fm4_12 : m4 12 = F12 := by rw [em4, zUp_fn (by decide)]; exact fm3_12
  have fm4_13 : m4 13 = F13 := by rw [em4, zUp_fn (by decide)]; exact fm3_13
  clear em4
  refine zw_7 zr_61_32 rfl ?_
  refine zw_7 zr_61_33 rfl ?_
  refine zw_46i zr_61_34 km4_1_4 rfl rfl rfl ?_
  refine zw_47 (c := 15) zr_61_37 rfl ⟨rfl, by decide, rfl⟩ ?_
  intro m5 em5
  have hIm5 : zInv m5 := by rw [em5]; exact hIm4.bd (r := 15) (k := 4) (lo := 1) (hi := 1000) rfl (by omega) (by decide) (by decide) (by decide)
  have hFm5 : zFr W_61_15_1 m0 m5 := by rw [em5]; exact hFm4.up rfl
  have km5_1_0 : m5 1 0 = g0 := by rw [em5, zUp_ne (by omega)]; exact km4_1_0
  have km5_1_1 : m5 1 1 = g1 := by rw [em5, zUp_ne (by omega)]; exact km4_1_1
  have km5_1_2 : m5 1 2 = g2 := by rw [em5, zUp_ne (by omega)]; exact km4_1_2
  have km5_1_3 : m5 1 3 = g3 := by rw [em5, zUp_ne (by omega)]; exact km4_1_3
  have km5_1_4 : m5 1 4 = g4 := by rw [em5, zUp_ne (by omega)]; exact km4_1_4
  have km5_1_5 : m5 1 5 = g5 := by rw [em5, zUp_ne (by omega)]; exact km4_1_5
  have km5_15_0 : m5 15 0 = g0 := by rw [em5, zUp_ne (by omega)]; exact km4_15_0
  have km5_15_1 : m5 15 1 = g1 := by rw [em5, zUp_ne (by omega)]; exact km4_15_1
  have km5_15_2 : m5 15 2 = g2 := by rw [em5, zUp_ne (by omega)]; exact km4_15_2
  have km5_15_3 : m5 15 3 = g3 := by rw [em5, zUp_ne (by omega)]; exact km4_15_3
  have km5_15_4 : m5 15 4 = g4 := by rw [em5]; exact zUp_eq _ _ _ _
  have fm5_16 : m5 16 = F16 := by rw [em5, zUp_fn (by decide)]; exact fm4_16
  have fm5_17 : m5 17 = F17 := by rw [em5, zUp_fn (by decide)]; exact fm4_17
  have fm5_18 : m5 18 = F18 := by rw [em5, zUp_fn (by decide)]; exact fm4_18
  have fm5_19 : m5 19 = F19 := by rw [em5, zUp_fn (by decide)]; exact fm4_19
  have fm5_20 : m5 20 = F20 := by rw [em5, zUp_fn (by decide)]; exact fm4_20
  have fm5_21 : m5 21 = F21 := by rw [em5, zUp_fn (by decide)]; exact fm4_21
  have fm5_22 : m5 22 = F22 := by rw [em5, zUp_fn (by decide)]; exact fm4_22
  have fm5_23 : m5 23 = F23 := by rw [em5, zUp_fn (by decide)]; exact fm4_23
  have fm5_24 : m5 24 = F24 := by rw [em5, zUp_fn (by decide)]; exact fm4_24
  have fm5_25 : m5 25 = F25 := by rw [em5, zUp_fn (by decide)]; exact fm4_25
  have fm5_26 : m5 26 = F26 := by rw [em5, zUp_fn (by decide)]; exact fm4_26
  have fm5_27 : m5 27 = F27 := by rw [em5, zUp_fn (by decide)]; exact fm4_27
  have fm5_2 : m5 2 = F2 := by rw [em5, zUp_fn (by decide)]; exact fm4_2
  have fm5_3 : m5 3 = F3 := by rw [em5, zUp_fn (by decide)]; exact fm4_3
  have fm5_4 : m5 4 = F4 := by rw [em5, zUp_fn (by decide)]; exact fm4_4
  have fm5_5 : m5 5 = F5 := by rw [em5, zUp_fn (by decide)]; exact fm4_5
  have fm5_6 : m5 6 = F6 := by rw [em5, zUp_fn (by decide)]; exact fm4_6
  have fm5_7 : m5 7 = F7 := by rw [em5, zUp_fn (by decide)]; exact fm4_7
  have fm5_8 : m5 8 = F8 := by rw [em5, zUp_fn (by decide)]; exact fm4_8
  have fm5_9 : m5 9 = F9 := by rw [em5, zUp_fn (by decide)]; exact fm4_9
  have fm5_10 : m5 10 = F10 := by rw [em5, zUp_fn (by decide)]; exact fm4_10
  have fm5_11 : m5 11 = F11 := by rw [em5, zUp_fn (by decide)]; exact fm4_11
  have fm5_12 : m5 12 = F12 := by rw [em5, zUp_fn (by decide)]; exact fm4_12
  have fm5_13 : m5 13 = F13 := by rw [em5, zUp_fn (by decide)]; exact fm4_13
  clear em5
  refine zw_7 zr_61_40 rfl ?_
  refine zw_7 zr_61_41 rfl ?_
  refine zw_46i zr_61_42 km5_1_5 rfl rfl rfl ?_
  refine zw_47 (c := 15) zr_61_45 rfl ⟨rfl, by decide, rfl⟩ ?_
  intro m6 em6
  have hIm6 : zInv m6 := by rw [em6]; exact hIm5.bd (r := 15) (k := 5) (lo := 0) (hi := 500) rfl (by omega) (by decide) (by decide) (by decide)
  have hFm6 : zFr W_61_15_1 m0 m6 := by rw [em6]; exact hFm5.up rfl
  have km6_1_0 : m6 1 0 = g0 := by rw [em6, zUp_ne (by omega)]; exact km5_1_0
  have km6_1_1 : m6 1 1 = g1 := by rw [em6, zUp_ne (by omega)]; exact km5_1_1
  have km6_1_2 : m6 1 2 = g2 := by rw [em6, zUp_ne (by omega)]; exact km5_1_2
  have km6_1_3 : m6 1 3 = g3 := by rw [em6, zUp_ne (by omega)]; exact km5_1_3
  have km6_1_4 : m6 1 4 = g4 := by rw [em6, zUp_ne (by omega)]; exact km5_1_4
  have km6_1_5 : m6 1 5 = g5 := by rw [em6, zUp_ne (by omega)]; exact km5_1_5
  have km6_15_0 : m6 15 0 = g0 := by rw [em6, zUp_ne (by omega)]; exact km5_15_0
  have km6_15_1 : m6 15 1 = g1 := by rw [em6, zUp_ne (by omega)]; exact km5_15_1
  have km6_15_2 : m6 15 2 = g2 := by rw [em6, zUp_ne (by omega)]; exact km5_15_2
  have km6_15_3 : m6 15 3 = g3 := by rw [em6, zUp_ne (by omega)]; exact km5_15_3
  have km6_15_4 : m6 15 4 = g4 := by rw [em6, zUp_ne (by omega)]; exact km5_15_4
  have km6_15_5 : m6 15 5 = g5 := by rw [em6]; exact zUp_eq _ _ _ _
  have fm6_16 : m6 16 = F16 := by rw [em6, zUp_fn (by decide)]; exact fm5_16
  have fm6_17 : m6 17 = F17 := by rw [em6, zUp_fn (by decide)]; exact fm5_17
  have fm6_18 : m6 18 = F18 := by rw [em6, zUp_fn (by decide)]; exact fm5_18
  have fm6_19 : m6 19 = F19 := by rw [em6, zUp_fn (by decide)]; exact fm5_19
  have fm6_20 : m6 20 = F20 := by rw [em6, zUp_fn (by decide)]; exact fm5_20
  have fm6_21 : m6 21 = F21 := by rw [em6, zUp_fn (by decide)]; exact fm5_21
  have fm6_22 : m6 22 = F22 := by rw [em6, zUp_fn (by decide)]; exact fm5_22
  have fm6_23 : m6 23 = F23 := by rw [em6, zUp_fn (by decide)]; exact fm5_23
  have fm6_24 : m6 24 = F24 := by rw [em6, zUp_fn (by decide)]; exact fm5_24
  have fm6_25 : m6 25 = F25 := by rw [em6, zUp_fn (by decide)]; exact fm5_25
  have fm6_26 : m6 26 = F26 := by rw [em6, zUp_fn (by decide)]; exact fm5_26
  have fm6_27 : m6 27 = F27 := by rw [em6, zUp_fn (by decide)]; exact fm5_27
  have fm6_2 : m6 2 = F2 := by rw [em6, zUp_fn (by decide)]; exact fm5_2
  have fm6_3 : m6 3 = F3 := by rw [em6, zUp_fn (by decide)]; exact fm5_3
  have fm6_4 : m6 4 = F4 := by rw [em6, zUp_fn (by decide)]; exact fm5_4
  have fm6_5 : m6 5 = F5 := by rw [em6, zUp_fn (by decide)]; exact fm5_5
  have fm6_6 : m6 6 = F6 := by rw [em6, zUp_fn (by decide)]; exact fm5_6
  have fm6_7 : m6 7 = F7 := by rw [em6, zUp_fn (by decide)]; exact fm5_7
  have fm6_8 : m6 8 = F8 := by rw [em6, zUp_fn (by decide)]; exact fm5_8
  have fm6_9 : m6 9 = F9 := by rw [em6, zUp_fn (by decide)]; exact fm5_9
  have fm6_10 : m6 10 = F10 := by rw [em6, zUp_fn (by decide)]; exact fm5_10
  have fm6_11 : m6 11 = F11 := by rw [em6, zUp_fn (by decide)]; exact fm5_11
  have fm6_12 : m6 12 = F12 := by rw [em6, zUp_fn (by decide)]; exact fm5_12
  have fm6_13 : m6 13 = F13 := by rw [em6, zUp_fn (by decide)]; exact fm5_13
  clear em6
  refine zw_7 zr_61_48 rfl ?_
  refine zw_46r (s := 2) zr_61_49 rfl rfl rfl rfl ?_
  refine zw_push zr_61_52 ?_
  refine zw_7 zr_61_53 rfl ?_
  refine zw_46r (s := 16) zr_61_54 rfl rfl rfl rfl ?_
  refine zw_push zr_61_57 ?_
  refine zw_push zr_61_58 ?_
  refine zw_114 (c1 := 16) (c2 := 2) (l1 := 10) (l2 := 10) zr_61_60 rfl rfl rfl rfl (by decide) (Nat.le_of_ble_eq_true rfl) (by omega) (by omega) ?_
  intro m7 em7
  have hIm7 : zInv m7 := by rw [em7]; exact zInv.cpS hIm6 (l2 := 10) (fun _ => rfl) rfl (by decide) (by decide) (by decide)
  have hFm7 : zFr W_61_15_1 m0 m7 := by rw [em7]; exact hFm6.cp rfl
  have km7_1_0 : m7 1 0 = g0 := by rw [em7, zCp_ne (by decide)]; exact km6_1_0
  have km7_1_1 : m7 1 1 = g1 := by rw [em7, zCp_ne (by decide)]; exact km6_1_1
  have km7_1_2 : m7 1 2 = g2 := by rw [em7, zCp_ne (by decide)]; exact km6_1_2
  have km7_1_3 : m7 1 3 = g3 := by rw [em7, zCp_ne (by decide)]; exact km6_1_3
  have km7_1_4 : m7 1 4 = g4 := by rw [em7, zCp_ne (by decide)]; exact km6_1_4
  have km7_1_5 : m7 1 5 = g5 := by rw [em7, zCp_ne (by decide)]; exact km6_1_5
  have km7_15_0 : m7 15 0 = g0 := by rw [em7, zCp_ne (by decide)]; exact km6_15_0
  have km7_15_1 : m7 15 1 = g1 := by rw [em7, zCp_ne (by decide)]; exact km6_15_1
  have km7_15_2 : m7 15 2 = g2 := by rw [em7, zCp_ne (by decide)]; exact km6_15_2
  have km7_15_3 : m7 15 3 = g3 := by rw [em7, zCp_ne (by decide)]; exact km6_15_3
  have km7_15_4 : m7 15 4 = g4 := by rw [em7, zCp_ne (by decide)]; exact km6_15_4
  have km7_15_5 : m7 15 5 = g5 := by rw [em7, zCp_ne (by decide)]; exact km6_15_5
  have fm7_16 : m7 16 = zCf F16 F2 10 := by rw [em7]; exact (zCp_ff (m := m6) (c1 := 16) (c2 := 2) (n := 10) rfl rfl).trans (by rw [fm6_16, fm6_2])
  have fm7_17 : m7 17 = F17 := by rw [em7, zCp_fn (by decide)]; exact fm6_17
  have fm7_18 : m7 18 = F18 := by rw [em7, zCp_fn (by decide)]; exact fm6_18
  have fm7_19 : m7 19 = F19 := by rw [em7, zCp_fn (by decide)]; exact fm6_19
  have fm7_20 : m7 20 = F20 := by rw [em7, zCp_fn (by decide)]; exact fm6_20
  have fm7_21 : m7 21 = F21 := by rw [em7, zCp_fn (by decide)]; exact fm6_21
  have fm7_22 : m7 22 = F22 := by rw [em7, zCp_fn (by decide)]; exact fm6_22
  have fm7_23 : m7 23 = F23 := by rw [em7, zCp_fn (by decide)]; exact fm6_23
  have fm7_24 : m7 24 = F24 := by rw [em7, zCp_fn (by decide)]; exact fm6_24
  have fm7_25 : m7 25 = F25 := by rw [em7, zCp_fn (by decide)]; exact fm6_25
  have fm7_26 : m7 26 = F26 := by rw [em7, zCp_fn (by decide)]; exact fm6_26
  have fm7_27 : m7 27 = F27 := by rw [em7, zCp_fn (by decide)]; exact fm6_27
  have fm7_2 : m7 2 = F2 := by rw [em7, zCp_fn (by decide)]; exact fm6_2
  have fm7_3 : m7 3 = F3 := by rw [em7, zCp_fn (by decide)]; exact fm6_3
  have fm7_4 : m7 4 = F4 := by rw [em7, zCp_fn (by decide)]; exact fm6_4
  have fm7_5 : m7 5 = F5 := by rw [em7, zCp_fn (by decide)]; exact fm6_5
  have fm7_6 : m7 6 = F6 := by rw [em7, zCp_fn (by decide)]; exact fm6_6
  have fm7_7 : m7 7 = F7 := by rw [em7, zCp_fn (by decide)]; exact fm6_7
  have fm7_8 : m7 8 = F8 := by rw [em7, zCp_fn (by decide)]; exact fm6_8
  have fm7_9 : m7 9 = F9 := by rw [em7, zCp_fn (by decide)]; exact fm6_9
  have fm7_10 : m7 10 = F10 := by rw [em7, zCp_fn (by decide)]; exact fm6_10
  have fm7_11 : m7 11 = F11 := by rw [em7, zCp_fn (by decide)]; exact fm6_11
  have fm7_12 : m7 12 = F12 := by rw [em7, zCp_fn (by decide)]; exact fm6_12
  have fm7_13 : m7 13 = F13 := by rw [em7, zCp_fn (by decide)]; exact fm6_13
  clear em7
  refine zw_7 zr_61_63 rfl ?_
  refine zw_46r (s := 3) zr_61_64 rfl rfl rfl rfl ?_
  refine zw_push zr_61_67 ?_
  refine zw_7 zr_61_68 rfl ?_
  refine zw_46r (s := 17) zr_61_69 rfl rfl rfl rfl ?_
  refine zw_push zr_61_72 ?_
  refine zw_push zr_61_73 ?_
  refine zw_114 (c1 := 17) (c2 := 3) (l1 := 40) (l2 := 40) zr_61_75 rfl rfl rfl rfl (by decide) (Nat.le_of_ble_eq_true rfl) (by omega) (by omega) ?_
  intro m8 em8
  have hIm8 : zInv m8 := by rw [em8]; exact zInv.cpS hIm7 (l2 := 40) (fun _ => rfl) rfl (by decide) (by decide) (by decide)
  have hFm8 : zFr W_61_15_1 m0 m8 := by rw [em8]; exact hFm7.cp rfl
  have km8_1_0 : m8 1 0 = g0 := by rw [em8, zCp_ne (by decide)]; exact km7_1_0
  have km8_1_1 : m8 1 1 = g1 := by rw [em8, zCp_ne (by decide)]; exact km7_1_1
  have km8_1_2 : m8 1 2 = g2 := by rw [em8, zCp_ne (by decide)]; exact km7_1_2
  have km8_1_3 : m8 1 3 = g3 := by rw [em8, zCp_ne (by decide)]; exact km7_1_3
  have km8_1_4 : m8 1 4 = g4 := by rw [em8, zCp_ne (by decide)]; exact km7_1_4
  have km8_1_5 : m8 1 5 = g5 := by rw [em8, zCp_ne (by decide)]; exact km7_1_5
  have km8_15_0 : m8 15 0 = g0 := by rw [em8, zCp_ne (by decide)]; exact km7_15_0
  have km8_15_1 : m8 15 1 = g1 := by rw [em8, zCp_ne (by decide)]; exact km7_15_1
  have km8_15_2 : m8 15 2 = g2 := by rw [em8, zCp_ne (by decide)]; exact km7_15_2
  have km8_15_3 : m8 15 3 = g3 := by rw [em8, zCp_ne (by decide)]; exact km7_15_3
  have km8_15_4 : m8 15 4 = g4 := by rw [em8, zCp_ne (by decide)]; exact km7_15_4
  have km8_15_5 : m8 15 5 = g5 := by rw [em8, zCp_ne (by decide)]; exact km7_15_5
  have fm8_16 : m8 16 = zCf F16 F2 10 := by rw [em8, zCp_fn (by decide)]; exact fm7_16
  have fm8_17 : m8 17 = zCf F17 F3 40 := by rw [em8]; exact (zCp_ff (m := m7) (c1 := 17) (c2 := 3) (n := 40) rfl rfl).trans (by rw [fm7_17, fm7_3])
  have fm8_18 : m8 18 = F18 := by rw [em8, zCp_fn (by decide)]; exact fm7_18
  have fm8_19 : m8 19 = F19 := by rw [em8, zCp_fn (by decide)]; exact fm7_19
  have fm8_20 : m8 20 = F20 := by rw [em8, zCp_fn (by decide)]; exact fm7_20
  have fm8_21 : m8 21 = F21 := by rw [em8, zCp_fn (by decide)]; exact fm7_21
  have fm8_22 : m8 22 = F22 := by rw [em8, zCp_fn (by decide)]; exact fm7_22
  have fm8_23 : m8 23 = F23 := by rw [em8, zCp_fn (by decide)]; exact fm7_23
  have fm8_24 : m8 24 = F24 := by rw [em8, zCp_fn (by decide)]; exact fm7_24
  have fm8_25 : m8 25 = F25 := by rw [em8, zCp_fn (by decide)]; exact fm7_25
  have fm8_26 : m8 26 = F26 := by rw [em8, zCp_fn (by decide)]; exact fm7_26
  have fm8_27 : m8 27 = F27 := by rw [em8, zCp_fn (by decide)]; exact fm7_27
  have fm8_2 : m8 2 = F2 := by rw [em8, zCp_fn (by decide)]; exact fm7_2
  have fm8_3 : m8 3 = F3 := by rw [em8, zCp_fn (by decide)]; exact fm7_3
  have fm8_4 : m8 4 = F4 := by rw [em8, zCp_fn (by decide)]; exact fm7_4
  have fm8_5 : m8 5 = F5 := by rw [em8, zCp_fn (by decide)]; exact fm7_5
  have fm8_6 : m8 6 = F6 := by rw [em8, zCp_fn (by decide)]; exact fm7_6
  have fm8_7 : m8 7 = F7 := by rw [em8, zCp_fn (by decide)]; exact fm7_7
  have fm8_8 : m8 8 = F8 := by rw [em8, zCp_fn (by decide)]; exact fm7_8
  have fm8_9 : m8 9 = F9 := by rw [em8, zCp_fn (by decide)]; exact fm7_9
  have fm8_10 : m8 10 = F10 := by rw [em8, zCp_fn (by decide)]; exact fm7_10
  have fm8_11 : m8 11 = F11 := by rw [em8, zCp_fn (by decide)]; exact fm7_11
  have fm8_12 : m8 12 = F12 := by rw [em8, zCp_fn (by decide)]; exact fm7_12
  have fm8_13 : m8 13 = F13 := by rw [em8, zCp_fn (by decide)]; exact fm7_13
  clear em8
  refine zw_7 zr_61_78 rfl ?_
  refine zw_46r (s := 4) zr_61_79 rfl rfl rfl rfl ?_
  refine zw_push zr_61_82 ?_
  refine zw_7 zr_61_83 rfl ?_
  refine zw_46r (s := 18) zr_61_84 rfl rfl rfl rfl ?_
  refine zw_push zr_61_87 ?_
  refine zw_push zr_61_88 ?_
  refine zw_114 (c1 := 18) (c2 := 4) (l1 := 40) (l2 := 40) zr_61_90 rfl rfl rfl rfl (by decide) (Nat.le_of_ble_eq_true rfl) (by omega) (by omega) ?_
  intro m9 em9
  have hIm9 : zInv m9 := by rw [em9]; exact zInv.cpS hIm8 (l2 := 40) (fun _ => rfl) rfl (by decide) (by decide) (by decide)
  have hFm9 : zFr W_61_15_1 m0 m9 := by rw [em9]; exact hFm8.cp rfl
  have km9_1_0 : m9 1 0 = g0 := by rw [em9, zCp_ne (by decide)]; exact km8_1_0
  have km9_1_1 : m9 1 1 = g1 := by rw [em9, zCp_ne (by decide)]; exact km8_1_1
  have km9_1_2 : m9 1 2 = g2 := by rw [em9, zCp_ne (by decide)]; exact km8_1_2
  have km9_1_3 : m9 1 3 = g3 := by rw [em9, zCp_ne (by decide)]; exact km8_1_3
  have km9_1_4 : m9 1 4 = g4 := by rw [em9, zCp_ne (by decide)]; exact km8_1_4
  have km9_1_5 : m9 1 5 = g5 := by rw [em9, zCp_ne (by decide)]; exact km8_1_5
  have km9_15_0 : m9 15 0 = g0 := by rw [em9, zCp_ne (by decide)]; exact km8_15_0
  have km9_15_1 : m9 15 1 = g1 := by rw [em9, zCp_ne (by decide)]; exact km8_15_1
  have km9_15_2 : m9 15 2 = g2 := by rw [em9, zCp_ne (by decide)]; exact km8_15_2
  have km9_15_3 : m9 15 3 = g3 := by rw [em9, zCp_ne (by decide)]; exact km8_15_3
  have km9_15_4 : m9 15 4 = g4 := by rw [em9, zCp_ne (by decide)]; exact km8_15_4
  have km9_15_5 : m9 15 5 = g5 := by rw [em9, zCp_ne (by decide)]; exact km8_15_5
  have fm9_16 : m9 16 = zCf F16 F2 10 := by rw [em9, zCp_fn (by decide)]; exact fm8_16
  have fm9_17 : m9 17 = zCf F17 F3 40 := by rw [em9, zCp_fn (by decide)]; exact fm8_17
  have fm9_18 : m9 18 = zCf F18 F4 40 := by rw [em9]; exact (zCp_ff (m := m8) (c1 := 18) (c2 := 4) (n := 40) rfl rfl).trans (by rw [fm8_18, fm8_4])
  have fm9_19 : m9 19 = F19 := by rw [em9, zCp_fn (by decide)]; exact fm8_19
  have fm9_20 : m9 20 = F20 := by rw [em9, zCp_fn (by decide)]; exact fm8_20
  have fm9_21 : m9 21 = F21 := by rw [em9, zCp_fn (by decide)]; exact fm8_21
  have fm9_22 : m9 22 = F22 := by rw [em9, zCp_fn (by decide)]; exact fm8_22
  have fm9_23 : m9 23 = F23 := by rw [em9, zCp_fn (by decide)]; exact fm8_23
  have fm9_24 : m9 24 = F24 := by rw [em9, zCp_fn (by decide)]; exact fm8_24
  have fm9_25 : m9 25 = F25 := by rw [em9, zCp_fn (by decide)]; exact fm8_25
  have fm9_26 : m9 26 = F26 := by rw [em9, zCp_fn (by decide)]; exact fm8_26
  have fm9_27 : m9 27 = F27 := by rw [em9, zCp_fn (by decide)]; exact fm8_27
  have fm9_2 : m9 2 = F2 := by rw [em9, zCp_fn (by decide)]; exact fm8_2
  have fm9_3 : m9 3 = F3 := by rw [em9, zCp_fn (by decide)]; exact fm8_3
  have fm9_4 : m9 4 = F4 := by rw [em9, zCp_fn (by decide)]; exact fm8_4
  have fm9_5 : m9 5 = F5 := by rw [em9, zCp_fn (by decide)]; exact fm8_5
  have fm9_6 : m9 6 = F6 := by rw [em9, zCp_fn (by decide)]; exact fm8_6
  have fm9_7 : m9 7 = F7 := by rw [em9, zCp_fn (by decide)]; exact fm8_7
  have fm9_8 : m9 8 = F8 := by rw [em9, zCp_fn (by decide)]; exact fm8_8
  have fm9_9 : m9 9 = F9 := by rw [em9, zCp_fn (by decide)]; exact fm8_9
  have fm9_10 : m9 10 = F10 := by rw [em9, zCp_fn (by decide)]; exact fm8_10
  have fm9_11 : m9 11 = F11 := by rw [em9, zCp_fn (by decide)]; exact fm8_11
  have fm9_12 : m9 12 = F12 := by rw [em9, zCp_fn (by decide)]; exact fm8_12
  have fm9_13 : m9 13 = F13 := by rw [em9, zCp_fn (by decide)]; exact fm8_13
  clear em9
  refine zw_7 zr_61_93 rfl ?_
  refine zw_46r (s := 5) zr_61_94 rfl rfl rfl rfl ?_
  refine zw_push zr_61_97 ?_
  refine zw_7 zr_61_98 rfl ?_
  refine zw_46r (s := 19) zr_61_99 rfl rfl rfl rfl ?_
  refine zw_push zr_61_102 ?_
  refine zw_push zr_61_103 ?_
  refine zw_114 (c1 := 19) (c2 := 5) (l1 := 60) (l2 := 60) zr_61_105 rfl rfl rfl rfl (by decide) (Nat.le_of_ble_eq_true rfl) (by omega) (by omega) ?_
  intro m10 em10
  have hIm10 : zInv m10 := by rw [em10]; exact zInv.cpS hIm9 (l2 := 60) (fun _ => rfl) rfl (by decide) (by decide) (by decide)
  have hFm10 : zFr W_61_15_1 m0 m10 := by rw [em10]; exact hFm9.cp rfl
  have km10_1_0 : m10 1 0 = g0 := by rw [em10, zCp_ne (by decide)]; exact km9_1_0
  have km10_1_1 : m10 1 1 = g1 := by rw [em10, zCp_ne (by decide)]; exact km9_1_1
  have km10_1_2 : m10 1 2 = g2 := by rw [em10, zCp_ne (by decide)]; exact km9_1_2
  have km10_1_3 : m10 1 3 = g3 := by rw [em10, zCp_ne (by decide)]; exact km9_1_3
  have km10_1_4 : m10 1 4 = g4 := by rw [em10, zCp_ne (by decide)]; exact km9_1_4
  have km10_1_5 : m10 1 5 = g5 := by rw [em10, zCp_ne (by decide)]; exact km9_1_5
  have km10_15_0 : m10 15 0 = g0 := by rw [em10, zCp_ne (by decide)]; exact km9_15_0
  have km10_15_1 : m10 15 1 = g1 := by rw [em10, zCp_ne (by decide)]; exact km9_15_1
  have km10_15_2 : m10 15 2 = g2 := by rw [em10, zCp_ne (by decide)]; exact km9_15_2
  have km10_15_3 : m10 15 3 = g3 := by rw [em10, zCp_ne (by decide)]; exact km9_15_3
  have km10_15_4 : m10 15 4 = g4 := by rw [em10, zCp_ne (by decide)]; exact km9_15_4
  have km10_15_5 : m10 15 5 = g5 := by rw [em10, zCp_ne (by decide)]; exact km9_15_5
  have fm10_16 : m10 16 = zCf F16 F2 10 := by rw [em10, zCp_fn (by decide)]; exact fm9_16
  have fm10_17 : m10 17 = zCf F17 F3 40 := by rw [em10, zCp_fn (by decide)]; exact fm9_17
  have fm10_18 : m10 18 = zCf F18 F4 40 := by rw [em10, zCp_fn (by decide)]; exact fm9_18
  have fm10_19 : m10 19 = zCf F19 F5 60 := by rw [em10]; exact (zCp_ff (m := m9) (c1 := 19) (c2 := 5) (n := 60) rfl rfl).trans (by rw [fm9_19, fm9_5])
  have fm10_20 : m10 20 = F20 := by rw [em10, zCp_fn (by decide)]; exact fm9_20
  have fm10_21 : m10 21 = F21 := by rw [em10, zCp_fn (by decide)]; exact fm9_21
  have fm10_22 : m10 22 = F22 := by rw [em10, zCp_fn (by decide)]; exact fm9_22
  have fm10_23 : m10 23 = F23 := by rw [em10, zCp_fn (by decide)]; exact fm9_23
  have fm10_24 : m10 24 = F24 := by rw [em10, zCp_fn (by decide)]; exact fm9_24
  have fm10_25 : m10 25 = F25 := by rw [em10, zCp_fn (by decide)]; exact fm9_25
  have fm10_26 : m10 26 = F26 := by rw [em10, zCp_fn (by decide)]; exact fm9_26
  have fm10_27 : m10 27 = F27 := by rw [em10, zCp_fn (by decide)]; exact fm9_27
  have fm10_2 : m10 2 = F2 := by rw [em10, zCp_fn (by decide)]; exact fm9_2
  have fm10_3 : m10 3 = F3 := by rw [em10, zCp_fn (by decide)]; exact fm9_3
  have fm10_4 : m10 4 = F4 := by rw [em10, zCp_fn (by decide)]; exact fm9_4
  have fm10_5 : m10 5 = F5 := by rw [em10, zCp_fn (by decide)]; exact fm9_5
  have fm10_6 : m10 6 = F6 := by rw [em10, zCp_fn (by decide)]; exact fm9_6
  have fm10_7 : m10 7 = F7 := by rw [em10, zCp_fn (by decide)]; exact fm9_7
  have fm10_8 : m10 8 = F8 := by rw [em10, zCp_fn (by decide)]; exact fm9_8
  have fm10_9 : m10 9 = F9 := by rw [em10, zCp_fn (by decide)]; exact fm9_9
  have fm10_10 : m10 10 = F10 := by rw [em10, zCp_fn (by decide)]; exact fm9_10
  have fm10_11 : m10 11 = F11 := by rw [em10, zCp_fn (by decide)]; exact fm9_11
  have fm10_12 : m10 12 = F12 := by rw [em10, zCp_fn (by decide)]; exact fm9_12
  have fm10_13 : m10 13 = F13 := by rw [em10, zCp_fn (by decide)]; exact fm9_13
  clear em10
  refine zw_7 zr_61_108 rfl ?_
  refine zw_46r (s := 6) zr_61_109 rfl rfl rfl rfl ?_
  refine zw_push zr_61_112 ?_
  refine zw_7 zr_61_113 rfl ?_
  refine zw_46r (s := 20) zr_61_114 rfl rfl rfl rfl ?_
  refine zw_push zr_61_117 ?_
  refine zw_push zr_61_118 ?_
  refine zw_114 (c1 := 20) (c2 := 6) (l1 := 60) (l2 := 60) zr_61_120 rfl rfl rfl rfl (by decide) (Nat.le_of_ble_eq_true rfl) (by omega) (by omega) ?_
  intro m11 em11
  have hIm11 : zInv m11 := by rw [em11]; exact zInv.cpS hIm10 (l2 := 60) (fun _ => rfl) rfl (by decide) (by decide) (by decide)
  have hFm11 : zFr W_61_15_1 m0 m11 := by rw [em11]; exact hFm10.cp rfl
  have km11_1_0 : m11 1 0 = g0 := by rw [em11, zCp_ne (by decide)]; exact km10_1_0
  have km11_1_1 : m11 1 1 = g1 := by rw [em11, zCp_ne (by decide)]; exact km10_1_1
  have km11_1_2 : m11 1 2 = g2 := by rw [em11, zCp_ne (by decide)]; exact km10_1_2
  have km11_1_3 : m11 1 3 = g3 := by rw [em11, zCp_ne (by decide)]; exact km10_1_3
  have km11_1_4 : m11 1 4 = g4 := by rw [em11, zCp_ne (by decide)]; exact km10_1_4
  have km11_1_5 : m11 1 5 = g5 := by rw [em11, zCp_ne (by decide)]; exact km10_1_5
  have km11_15_0 : m11 15 0 = g0 := by rw [em11, zCp_ne (by decide)]; exact km10_15_0
  have km11_15_1 : m11 15 1 = g1 := by rw [em11, zCp_ne (by decide)]; exact km10_15_1
  have km11_15_2 : m11 15 2 = g2 := by rw [em11, zCp_ne (by decide)]; exact km10_15_2
  have km11_15_3 : m11 15 3 = g3 := by rw [em11, zCp_ne (by decide)]; exact km10_15_3
  have km11_15_4 : m11 15 4 = g4 := by rw [em11, zCp_ne (by decide)]; exact km10_15_4
  have km11_15_5 : m11 15 5 = g5 := by rw [em11, zCp_ne (by decide)]; exact km10_15_5
  have fm11_16 : m11 16 = zCf F16 F2 10 := by rw [em11, zCp_fn (by decide)]; exact fm10_16
  have fm11_17 : m11 17 = zCf F17 F3 40 := by rw [em11, zCp_fn (by decide)]; exact fm10_17
  have fm11_18 : m11 18 = zCf F18 F4 40 := by rw [em11, zCp_fn (by decide)]; exact fm10_18
  have fm11_19 : m11 19 = zCf F19 F5 60 := by rw [em11, zCp_fn (by decide)]; exact fm10_19
  have fm11_20 : m11 20 = zCf F20 F6 60 := by rw [em11]; exact (zCp_ff (m := m10) (c1 := 20) (c2 := 6) (n := 60) rfl rfl).trans (by rw [fm10_20, fm10_6])
  have fm11_21 : m11 21 = F21 := by rw [em11, zCp_fn (by decide)]; exact fm10_21
  have fm11_22 : m11 22 = F22 := by rw [em11, zCp_fn (by decide)]; exact fm10_22
  have fm11_23 : m11 23 = F23 := by rw [em11, zCp_fn (by decide)]; exact fm10_23
  have fm11_24 : m11 24 = F24 := by rw [em11, zCp_fn (by decide)]; exact fm10_24
  have fm11_25 : m11 25 = F25 := by rw [em11, zCp_fn (by decide)]; exact fm10_25
  have fm11_26 : m11 26 = F26 := by rw [em11, zCp_fn (by decide)]; exact fm10_26
  have fm11_27 : m11 27 = F27 := by rw [em11, zCp_fn (by decide)]; exact fm10_27
  have fm11_2 : m11 2 = F2 := by rw [em11, zCp_fn (by decide)]; exact fm10_2
  have fm11_3 : m11 3 = F3 := by rw [em11, zCp_fn (by decide)]; exact fm10_3
  have fm11_4 : m11 4 = F4 := by rw [em11, zCp_fn (by decide)]; exact fm10_4
  have fm11_5 : m11 5 = F5 := by rw [em11, zCp_fn (by decide)]; exact fm10_5
  have fm11_6 : m11 6 = F6 := by rw [em11, zCp_fn (by decide)]; exact fm10_6
  have fm11_7 : m11 7 = F7 := by rw [em11, zCp_fn (by decide)]; exact fm10_7
  have fm11_8 : m11 8 = F8 := by rw [em11, zCp_fn (by decide)]; exact fm10_8
  have fm11_9 : m11 9 = F9 := by rw [em11, zCp_fn (by decide)]; exact fm10_9
  have fm11_10 : m11 10 = F10 := by rw [em11, zCp_fn (by decide)]; exact fm10_10
  have fm11_11 : m11 11 = F11 := by rw [em11, zCp_fn (by decide)]; exact fm10_11
  have fm11_12 : m11 12 = F12 := by rw [em11, zCp_fn (by decide)]; exact fm10_12
  have fm11_13 : m11 13 = F13 := by rw [em11, zCp_fn (by decide)]; exact fm10_13
  clear em11
  refine zw_7 zr_61_123 rfl ?_
  refine zw_46r (s := 7) zr_61_124 rfl rfl rfl rfl ?_
  refine zw_push zr_61_127 ?_
  refine zw_7 zr_61_128 rfl ?_
  refine zw_46r (s := 21) zr_61_129 rfl rfl rfl rfl ?_
  refine zw_push zr_61_132 ?_
  refine zw_push zr_61_133 ?_
  refine zw_114 (c1 := 21) (c2 := 7) (l1 := 60) (l2 := 60) zr_61_135 rfl rfl rfl rfl (by decide) (Nat.le_of_ble_eq_true rfl) (by omega) (by omega) ?_
  intro m12 em12
  have hIm12 : zInv m12 := by rw [em12]; exact zInv.cpS hIm11 (l2 := 60) (fun _ => rfl) rfl (by decide) (by decide) (by decide)
  have hFm12 : zFr W_61_15_1 m0 m12 := by rw [em12]; exact hFm11.cp rfl
  have km12_1_0 : m12 1 0 = g0 := by rw [em12, zCp_ne (by decide)]; exact km11_1_0
  have km12_1_1 : m12 1 1 = g1 := by rw [em12, zCp_ne (by decide)]; exact km11_1_1
  have km12_1_2 : m12 1 2 = g2 := by rw [em12, zCp_ne (by decide)]; exact km11_1_2
  have km12_1_3 : m12 1 3 = g3 := by rw [em12, zCp_ne (by decide)]; exact km11_1_3
  have km12_1_4 : m12 1 4 = g4 := by rw [em12, zCp_ne (by decide)]; exact km11_1_4
  have km12_1_5 : m12 1 5 = g5 := by rw [em12, zCp_ne (by decide)]; exact km11_1_5
  have km12_15_0 : m12 15 0 = g0 := by rw [em12, zCp_ne (by decide)]; exact km11_15_0
  have km12_15_1 : m12 15 1 = g1 := by rw [em12, zCp_ne (by decide)]; exact km11_15_1
  have km12_15_2 : m12 15 2 = g2 := by rw [em12, zCp_ne (by decide)]; exact km11_15_2
  have km12_15_3 : m12 15 3 = g3 := by rw [em12, zCp_ne (by decide)]; exact km11_15_3
  have km12_15_4 : m12 15 4 = g4 := by rw [em12, zCp_ne (by decide)]; exact km11_15_4
  have km12_15_5 : m12 15 5 = g5 := by rw [em12, zCp_ne (by decide)]; exact km11_15_5
  have fm12_16 : m12 16 = zCf F16 F2 10 := by rw [em12, zCp_fn (by decide)]; exact fm11_16
  have fm12_17 : m12 17 = zCf F17 F3 40 := by rw [em12, zCp_fn (by decide)]; exact fm11_17
  have fm12_18 : m12 18 = zCf F18 F4 40 := by rw [em12, zCp_fn (by decide)]; exact fm11_18
  have fm12_19 : m12 19 = zCf F19 F5 60 := by rw [em12, zCp_fn (by decide)]; exact fm11_19
  have fm12_20 : m12 20 = zCf F20 F6 60 := by rw [em12, zCp_fn (by decide)]; exact fm11_20
  have fm12_21 : m12 21 = zCf F21 F7 60 := by rw [em12]; exact (zCp_ff (m := m11) (c1 := 21) (c2 := 7) (n := 60) rfl rfl).trans (by rw [fm11_21, fm11_7])
  have fm12_22 : m12 22 = F22 := by rw [em12, zCp_fn (by decide)]; exact fm11_22
  have fm12_23 : m12 23 = F23 := by rw [em12, zCp_fn (by decide)]; exact fm11_23
  have fm12_24 : m12 24 = F24 := by rw [em12, zCp_fn (by decide)]; exact fm11_24
  have fm12_25 : m12 25 = F25 := by rw [em12, zCp_fn (by decide)]; exact fm11_25
  have fm12_26 : m12 26 = F26 := by rw [em12, zCp_fn (by decide)]; exact fm11_26
  have fm12_27 : m12 27 = F27 := by rw [em12, zCp_fn (by decide)]; exact fm11_27
  have fm12_2 : m12 2 = F2 := by rw [em12, zCp_fn (by decide)]; exact fm11_2
  have fm12_3 : m12 3 = F3 := by rw [em12, zCp_fn (by decide)]; exact fm11_3
  have fm12_4 : m12 4 = F4 := by rw [em12, zCp_fn (by decide)]; exact fm11_4
  have fm12_5 : m12 5 = F5 := by rw [em12, zCp_fn (by decide)]; exact fm11_5
  have fm12_6 : m12 6 = F6 := by rw [em12, zCp_fn (by decide)]; exact fm11_6
  have fm12_7 : m12 7 = F7 := by rw [em12, zCp_fn (by decide)]; exact fm11_7
  have fm12_8 : m12 8 = F8 := by rw [em12, zCp_fn (by decide)]; exact fm11_8
  have fm12_9 : m12 9 = F9 := by rw [em12, zCp_fn (by decide)]; exact fm11_9
  have fm12_10 : m12 10 = F10 := by rw [em12, zCp_fn (by decide)]; exact fm11_10
  have fm12_11 : m12 11 = F11 := by rw [em12, zCp_fn (by decide)]; exact fm11_11
  have fm12_12 : m12 12 = F12 := by rw [em12, zCp_fn (by decide)]; exact fm11_12
  have fm12_13 : m12 13 = F13 := by rw [em12, zCp_fn (by decide)]; exact fm11_13
  clear em12
  refine zw_7 zr_61_138 rfl ?_
  refine zw_46r (s := 8) zr_61_139 rfl rfl rfl rfl ?_
  refine zw_push zr_61_142 ?_
  refine zw_7 zr_61_143 rfl ?_
  refine zw_46r (s := 22) zr_61_144 rfl rfl rfl rfl ?_
  refine zw_push zr_61_147 ?_
  refine zw_push zr_61_148 ?_
  refine zw_114 (c1 := 22) (c2 := 8) (l1 := 60) (l2 := 60) zr_61_150 rfl rfl rfl rfl (by decide) (Nat.le_of_ble_eq_true rfl) (by omega) (by omega) ?_
  intro m13 em13
  have hIm13 : zInv m13 := by rw [em13]; exact zInv.cpS hIm12 (l2 := 60) (fun _ => rfl) rfl (by decide) (by decide) (by decide)
  have hFm13 : zFr W_61_15_1 m0 m13 := by rw [em13]; exact hFm12.cp rfl
  have km13_1_0 : m13 1 0 = g0 := by rw [em13, zCp_ne (by decide)]; exact km12_1_0
  have km13_1_1 : m13 1 1 = g1 := by rw [em13, zCp_ne (by decide)]; exact km12_1_1
  have km13_1_2 : m13 1 2 = g2 := by rw [em13, zCp_ne (by decide)]; exact km12_1_2
  have km13_1_3 : m13 1 3 = g3 := by rw [em13, zCp_ne (by decide)]; exact km12_1_3
  have km13_1_4 : m13 1 4 = g4 := by rw [em13, zCp_ne (by decide)]; exact km12_1_4
  have km13_1_5 : m13 1 5 = g5 := by rw [em13, zCp_ne (by decide)]; exact km12_1_5
  have km13_15_0 : m13 15 0 = g0 := by rw [em13, zCp_ne (by decide)]; exact km12_15_0
  have km13_15_1 : m13 15 1 = g1 := by rw [em13, zCp_ne (by decide)]; exact km12_15_1
  have km13_15_2 : m13 15 2 = g2 := by rw [em13, zCp_ne (by decide)]; exact km12_15_2
  have km13_15_3 : m13 15 3 = g3 := by rw [em13, zCp_ne (by decide)]; exact km12_15_3
  have km13_15_4 : m13 15 4 = g4 := by rw [em13, zCp_ne (by decide)]; exact km12_15_4
  have km13_15_5 : m13 15 5 = g5 := by rw [em13, zCp_ne (by decide)]; exact km12_15_5
  have fm13_16 : m13 16 = zCf F16 F2 10 := by rw [em13, zCp_fn (by decide)]; exact fm12_16
  have fm13_17 : m13 17 = zCf F17 F3 40 := by rw [em13, zCp_fn (by decide)]; exact fm12_17
  have fm13_18 : m13 18 = zCf F18 F4 40 := by rw [em13, zCp_fn (by decide)]; exact fm12_18
  have fm13_19 : m13 19 = zCf F19 F5 60 := by rw [em13, zCp_fn (by decide)]; exact fm12_19
  have fm13_20 : m13 20 = zCf F20 F6 60 := by rw [em13, zCp_fn (by decide)]; exact fm12_20
  have fm13_21 : m13 21 = zCf F21 F7 60 := by rw [em13, zCp_fn (by decide)]; exact fm12_21
  have fm13_22 : m13 22 = zCf F22 F8 60 := by rw [em13]; exact (zCp_ff (m := m12) (c1 := 22) (c2 := 8) (n := 60) rfl rfl).trans (by rw [fm12_22, fm12_8])
  have fm13_23 : m13 23 = F23 := by rw [em13, zCp_fn (by decide)]; exact fm12_23
  have fm13_24 : m13 24 = F24 := by rw [em13, zCp_fn (by decide)]; exact fm12_24
  have fm13_25 : m13 25 = F25 := by rw [em13, zCp_fn (by decide)]; exact fm12_25
  have fm13_26 : m13 26 = F26 := by rw [em13, zCp_fn (by decide)]; exact fm12_26
  have fm13_27 : m13 27 = F27 := by rw [em13, zCp_fn (by decide)]; exact fm12_27
  have fm13_2 : m13 2 = F2 := by rw [em13, zCp_fn (by decide)]; exact fm12_2
  have fm13_3 : m13 3 = F3 := by rw [em13, zCp_fn (by decide)]; exact fm12_3
  have fm13_4 : m13 4 = F4 := by rw [em13, zCp_fn (by decide)]; exact fm12_4
  have fm13_5 : m13 5 = F5 := by rw [em13, zCp_fn (by decide)]; exact fm12_5
  have fm13_6 : m13 6 = F6 := by rw [em13, zCp_fn (by decide)]; exact fm12_6
  have fm13_7 : m13 7 = F7 := by rw [em13, zCp_fn (by decide)]; exact fm12_7
  have fm13_8 : m13 8 = F8 := by rw [em13, zCp_fn (by decide)]; exact fm12_8
  have fm13_9 : m13 9 = F9 := by rw [em13, zCp_fn (by decide)]; exact fm12_9
  have fm13_10 : m13 10 = F10 := by rw [em13, zCp_fn (by decide)]; exact fm12_10
  have fm13_11 : m13 11 = F11 := by rw [em13, zCp_fn (by decide)]; exact fm12_11
  have fm13_12 : m13 12 = F12 := by rw [em13, zCp_fn (by decide)]; exact fm12_12
  have fm13_13 : m13 13 = F13 := by rw [em13, zCp_fn (by decide)]; exact fm12_13
  clear em13
  refine zw_7 zr_61_153 rfl ?_
  refine zw_46r (s := 9) zr_61_154 rfl rfl rfl rfl ?_
  refine zw_push zr_61_157 ?_
  refine zw_7 zr_61_158 rfl ?_
  refine zw_46r (s := 23) zr_61_159 rfl rfl rfl rfl ?_
  refine zw_push zr_61_162 ?_
  refine zw_push zr_61_163 ?_
  refine zw_114 (c1 := 23) (c2 := 9) (l1 := 4) (l2 := 4) zr_61_164 rfl rfl rfl rfl (by decide) (Nat.le_of_ble_eq_true rfl) (by omega) (by omega) ?_
  intro m14 em14
  have hIm14 : zInv m14 := by rw [em14]; exact zInv.cpS hIm13 (l2 := 4) (fun _ => rfl) rfl (by decide) (by decide) (by decide)
  have hFm14 : zFr W_61_15_1 m0 m14 := by rw [em14]; exact hFm13.cp rfl
  have km14_1_0 : m14 1 0 = g0 := by rw [em14, zCp_ne (by decide)]; exact km13_1_0
  have km14_1_1 : m14 1 1 = g1 := by rw [em14, zCp_ne (by decide)]; exact km13_1_1
  have km14_1_2 : m14 1 2 = g2 := by rw [em14, zCp_ne (by decide)]; exact km13_1_2
  have km14_1_3 : m14 1 3 = g3 := by rw [em14, zCp_ne (by decide)]; exact km13_1_3
  have km14_1_4 : m14 1 4 = g4 := by rw [em14, zCp_ne (by decide)]; exact km13_1_4
  have km14_1_5 : m14 1 5 = g5 := by rw [em14, zCp_ne (by decide)]; exact km13_1_5
  have km14_15_0 : m14 15 0 = g0 := by rw [em14, zCp_ne (by decide)]; exact km13_15_0
  have km14_15_1 : m14 15 1 = g1 := by rw [em14, zCp_ne (by decide)]; exact km13_15_1
  have km14_15_2 : m14 15 2 = g2 := by rw [em14, zCp_ne (by decide)]; exact km13_15_2
  have km14_15_3 : m14 15 3 = g3 := by rw [em14, zCp_ne (by decide)]; exact km13_15_3
  have km14_15_4 : m14 15 4 = g4 := by rw [em14, zCp_ne (by decide)]; exact km13_15_4
  have km14_15_5 : m14 15 5 = g5 := by rw [em14, zCp_ne (by decide)]; exact km13_15_5
  have fm14_16 : m14 16 = zCf F16 F2 10 := by rw [em14, zCp_fn (by decide)]; exact fm13_16
  have fm14_17 : m14 17 = zCf F17 F3 40 := by rw [em14, zCp_fn (by decide)]; exact fm13_17
  have fm14_18 : m14 18 = zCf F18 F4 40 := by rw [em14, zCp_fn (by decide)]; exact fm13_18
  have fm14_19 : m14 19 = zCf F19 F5 60 := by rw [em14, zCp_fn (by decide)]; exact fm13_19
  have fm14_20 : m14 20 = zCf F20 F6 60 := by rw [em14, zCp_fn (by decide)]; exact fm13_20
  have fm14_21 : m14 21 = zCf F21 F7 60 := by rw [em14, zCp_fn (by decide)]; exact fm13_21
  have fm14_22 : m14 22 = zCf F22 F8 60 := by rw [em14, zCp_fn (by decide)]; exact fm13_22
  have fm14_23 : m14 23 = zCf F23 F9 4 := by rw [em14]; exact (zCp_ff (m := m13) (c1 := 23) (c2 := 9) (n := 4) rfl rfl).trans (by rw [fm13_23, fm13_9])
  have fm14_24 : m14 24 = F24 := by rw [em14, zCp_fn (by decide)]; exact fm13_24
  have fm14_25 : m14 25 = F25 := by rw [em14, zCp_fn (by decide)]; exact fm13_25
  have fm14_26 : m14 26 = F26 := by rw [em14, zCp_fn (by decide)]; exact fm13_26
  have fm14_27 : m14 27 = F27 := by rw [em14, zCp_fn (by decide)]; exact fm13_27
  have fm14_2 : m14 2 = F2 := by rw [em14, zCp_fn (by decide)]; exact fm13_2
  have fm14_3 : m14 3 = F3 := by rw [em14, zCp_fn (by decide)]; exact fm13_3
  have fm14_4 : m14 4 = F4 := by rw [em14, zCp_fn (by decide)]; exact fm13_4
  have fm14_5 : m14 5 = F5 := by rw [em14, zCp_fn (by decide)]; exact fm13_5
  have fm14_6 : m14 6 = F6 := by rw [em14, zCp_fn (by decide)]; exact fm13_6
  have fm14_7 : m14 7 = F7 := by rw [em14, zCp_fn (by decide)]; exact fm13_7
  have fm14_8 : m14 8 = F8 := by rw [em14, zCp_fn (by decide)]; exact fm13_8
  have fm14_9 : m14 9 = F9 := by rw [em14, zCp_fn (by decide)]; exact fm13_9
  have fm14_10 : m14 10 = F10 := by rw [em14, zCp_fn (by decide)]; exact fm13_10
  have fm14_11 : m14 11 = F11 := by rw [em14, zCp_fn (by decide)]; exact fm13_11
  have fm14_12 : m14 12 = F12 := by rw [em14, zCp_fn (by decide)]; exact fm13_12
  have fm14_13 : m14 13 = F13 := by rw [em14, zCp_fn (by decide)]; exact fm13_13
  clear em14
  refine zw_7 zr_61_167 rfl ?_
  refine zw_46r (s := 10) zr_61_168 rfl rfl rfl rfl ?_
  refine zw_push zr_61_171 ?_
  refine zw_7 zr_61_172 rfl ?_
  refine zw_46r (s := 24) zr_61_173 rfl rfl rfl rfl ?_
  refine zw_push zr_61_176 ?_
  refine zw_push zr_61_177 ?_
  refine zw_114 (c1 := 24) (c2 := 10) (l1 := 4) (l2 := 4) zr_61_178 rfl rfl rfl rfl (by decide) (Nat.le_of_ble_eq_true rfl) (by omega) (by omega) ?_
  intro m15 em15
  have hIm15 : zInv m15 := by rw [em15]; exact zInv.cpS hIm14 (l2 := 4) (fun _ => rfl) rfl (by decide) (by decide) (by decide)
  have hFm15 : zFr W_61_15_1 m0 m15 := by rw [em15]; exact hFm14.cp rfl
  have km15_1_0 : m15 1 0 = g0 := by rw [em15, zCp_ne (by decide)]; exact km14_1_0
  have km15_1_1 : m15 1 1 = g1 := by rw [em15, zCp_ne (by decide)]; exact km14_1_1
  have km15_1_2 : m15 1 2 = g2 := by rw [em15, zCp_ne (by decide)]; exact km14_1_2
  have km15_1_3 : m15 1 3 = g3 := by rw [em15, zCp_ne (by decide)]; exact km14_1_3
  have km15_1_4 : m15 1 4 = g4 := by rw [em15, zCp_ne (by decide)]; exact km14_1_4
  have km15_1_5 : m15 1 5 = g5 := by rw [em15, zCp_ne (by decide)]; exact km14_1_5
  have km15_15_0 : m15 15 0 = g0 := by rw [em15, zCp_ne (by decide)]; exact km14_15_0
  have km15_15_1 : m15 15 1 = g1 := by rw [em15, zCp_ne (by decide)]; exact km14_15_1
  have km15_15_2 : m15 15 2 = g2 := by rw [em15, zCp_ne (by decide)]; exact km14_15_2
  have km15_15_3 : m15 15 3 = g3 := by rw [em15, zCp_ne (by decide)]; exact km14_15_3
  have km15_15_4 : m15 15 4 = g4 := by rw [em15, zCp_ne (by decide)]; exact km14_15_4
  have km15_15_5 : m15 15 5 = g5 := by rw [em15, zCp_ne (by decide)]; exact km14_15_5
  have fm15_16 : m15 16 = zCf F16 F2 10 := by rw [em15, zCp_fn (by decide)]; exact fm14_16
  have fm15_17 : m15 17 = zCf F17 F3 40 := by rw [em15, zCp_fn (by decide)]; exact fm14_17
  have fm15_18 : m15 18 = zCf F18 F4 40 := by rw [em15, zCp_fn (by decide)]; exact fm14_18
  have fm15_19 : m15 19 = zCf F19 F5 60 := by rw [em15, zCp_fn (by decide)]; exact fm14_19
  have fm15_20 : m15 20 = zCf F20 F6 60 := by rw [em15, zCp_fn (by decide)]; exact fm14_20
  have fm15_21 : m15 21 = zCf F21 F7 60 := by rw [em15, zCp_fn (by decide)]; exact fm14_21
  have fm15_22 : m15 22 = zCf F22 F8 60 := by rw [em15, zCp_fn (by decide)]; exact fm14_22
  have fm15_23 : m15 23 = zCf F23 F9 4 := by rw [em15, zCp_fn (by decide)]; exact fm14_23
  have fm15_24 : m15 24 = zCf F24 F10 4 := by rw [em15]; exact (zCp_ff (m := m14) (c1 := 24) (c2 := 10) (n := 4) rfl rfl).trans (by rw [fm14_24, fm14_10])
  have fm15_25 : m15 25 = F25 := by rw [em15, zCp_fn (by decide)]; exact fm14_25
  have fm15_26 : m15 26 = F26 := by rw [em15, zCp_fn (by decide)]; exact fm14_26
  have fm15_27 : m15 27 = F27 := by rw [em15, zCp_fn (by decide)]; exact fm14_27
  have fm15_2 : m15 2 = F2 := by rw [em15, zCp_fn (by decide)]; exact fm14_2
  have fm15_3 : m15 3 = F3 := by rw [em15, zCp_fn (by decide)]; exact fm14_3
  have fm15_4 : m15 4 = F4 := by rw [em15, zCp_fn (by decide)]; exact fm14_4
  have fm15_5 : m15 5 = F5 := by rw [em15, zCp_fn (by decide)]; exact fm14_5
  have fm15_6 : m15 6 = F6 := by rw [em15, zCp_fn (by decide)]; exact fm14_6
  have fm15_7 : m15 7 = F7 := by rw [em15, zCp_fn (by decide)]; exact fm14_7
  have fm15_8 : m15 8 = F8 := by rw [em15, zCp_fn (by decide)]; exact fm14_8
  have fm15_9 : m15 9 = F9 := by rw [em15, zCp_fn (by decide)]; exact fm14_9
  have fm15_10 : m15 10 = F10 := by rw [em15, zCp_fn (by decide)]; exact fm14_10
  have fm15_11 : m15 11 = F11 := by rw [em15, zCp_fn (by decide)]; exact fm14_11
  have fm15_12 : m15 12 = F12 := by rw [em15, zCp_fn (by decide)]; exact fm14_12
  have fm15_13 : m15 13 = F13 := by rw [em15, zCp_fn (by decide)]; exact fm14_13
  clear em15
  refine zw_7 zr_61_181 rfl ?_
  refine zw_46r (s := 11) zr_61_182 rfl rfl rfl rfl ?_
  refine zw_push zr_61_185 ?_
  refine zw_7 zr_61_186 rfl ?_
  refine zw_46r (s := 25) zr_61_187 rfl rfl rfl rfl ?_
  refine zw_push zr_61_190 ?_
  refine zw_push zr_61_191 ?_
  refine zw_114 (c1 := 25) (c2 := 11) (l1 := 200) (l2 := 200) zr_61_194 rfl rfl rfl rfl (by decide) (Nat.le_of_ble_eq_true rfl) (by omega) (by omega) ?_
  intro m16 em16
  have hIm16 : zInv m16 := by rw [em16]; exact zInv.cpS hIm15 (l2 := 200) (fun _ => rfl) rfl (by decide) (by decide) (by decide)
  have hFm16 : zFr W_61_15_1 m0 m16 := by rw [em16]; exact hFm15.cp rfl
  have km16_1_0 : m16 1 0 = g0 := by rw [em16, zCp_ne (by decide)]; exact km15_1_0
  have km16_1_1 : m16 1 1 = g1 := by rw [em16, zCp_ne (by decide)]; exact km15_1_1
  have km16_1_2 : m16 1 2 = g2 := by rw [em16, zCp_ne (by decide)]; exact km15_1_2
  have km16_1_3 : m16 1 3 = g3 := by rw [em16, zCp_ne (by decide)]; exact km15_1_3
  have km16_1_4 : m16 1 4 = g4 := by rw [em16, zCp_ne (by decide)]; exact km15_1_4
  have km16_1_5 : m16 1 5 = g5 := by rw [em16, zCp_ne (by decide)]; exact km15_1_5
  have km16_15_0 : m16 15 0 = g0 := by rw [em16, zCp_ne (by decide)]; exact km15_15_0
  have km16_15_1 : m16 15 1 = g1 := by rw [em16, zCp_ne (by decide)]; exact km15_15_1
  have km16_15_2 : m16 15 2 = g2 := by rw [em16, zCp_ne (by decide)]; exact km15_15_2
  have km16_15_3 : m16 15 3 = g3 := by rw [em16, zCp_ne (by decide)]; exact km15_15_3
  have km16_15_4 : m16 15 4 = g4 := by rw [em16, zCp_ne (by decide)]; exact km15_15_4
  have km16_15_5 : m16 15 5 = g5 := by rw [em16, zCp_ne (by decide)]; exact km15_15_5
  have fm16_16 : m16 16 = zCf F16 F2 10 := by rw [em16, zCp_fn (by decide)]; exact fm15_16
  have fm16_17 : m16 17 = zCf F17 F3 40 := by rw [em16, zCp_fn (by decide)]; exact fm15_17
  have fm16_18 : m16 18 = zCf F18 F4 40 := by rw [em16, zCp_fn (by decide)]; exact fm15_18
  have fm16_19 : m16 19 = zCf F19 F5 60 := by rw [em16, zCp_fn (by decide)]; exact fm15_19
  have fm16_20 : m16 20 = zCf F20 F6 60 := by rw [em16, zCp_fn (by decide)]; exact fm15_20
  have fm16_21 : m16 21 = zCf F21 F7 60 := by rw [em16, zCp_fn (by decide)]; exact fm15_21
  have fm16_22 : m16 22 = zCf F22 F8 60 := by rw [em16, zCp_fn (by decide)]; exact fm15_22
  have fm16_23 : m16 23 = zCf F23 F9 4 := by rw [em16, zCp_fn (by decide)]; exact fm15_23
  have fm16_24 : m16 24 = zCf F24 F10 4 := by rw [em16, zCp_fn (by decide)]; exact fm15_24
  have fm16_25 : m16 25 = zCf F25 F11 200 := by rw [em16]; exact (zCp_ff (m := m15) (c1 := 25) (c2 := 11) (n := 200) rfl rfl).trans (by rw [fm15_25, fm15_11])
  have fm16_26 : m16 26 = F26 := by rw [em16, zCp_fn (by decide)]; exact fm15_26
  have fm16_27 : m16 27 = F27 := by rw [em16, zCp_fn (by decide)]; exact fm15_27
  have fm16_2 : m16 2 = F2 := by rw [em16, zCp_fn (by decide)]; exact fm15_2
  have fm16_3 : m16 3 = F3 := by rw [em16, zCp_fn (by decide)]; exact fm15_3
  have fm16_4 : m16 4 = F4 := by rw [em16, zCp_fn (by decide)]; exact fm15_4
  have fm16_5 : m16 5 = F5 := by rw [em16, zCp_fn (by decide)]; exact fm15_5
  have fm16_6 : m16 6 = F6 := by rw [em16, zCp_fn (by decide)]; exact fm15_6
  have fm16_7 : m16 7 = F7 := by rw [em16, zCp_fn (by decide)]; exact fm15_7
  have fm16_8 : m16 8 = F8 := by rw [em16, zCp_fn (by decide)]; exact fm15_8
  have fm16_9 : m16 9 = F9 := by rw [em16, zCp_fn (by decide)]; exact fm15_9
  have fm16_10 : m16 10 = F10 := by rw [em16, zCp_fn (by decide)]; exact fm15_10
  have fm16_11 : m16 11 = F11 := by rw [em16, zCp_fn (by decide)]; exact fm15_11
  have fm16_12 : m16 12 = F12 := by rw [em16, zCp_fn (by decide)]; exact fm15_12
  have fm16_13 : m16 13 = F13 := by rw [em16, zCp_fn (by decide)]; exact fm15_13
  clear em16
  refine zw_7 zr_61_197 rfl ?_
  refine zw_46r (s := 12) zr_61_198 rfl rfl rfl rfl ?_
  refine zw_push zr_61_201 ?_
  refine zw_7 zr_61_202 rfl ?_
  refine zw_46r (s := 26) zr_61_203 rfl rfl rfl rfl ?_
  refine zw_push zr_61_206 ?_
  refine zw_push zr_61_207 ?_
  refine zw_114 (c1 := 26) (c2 := 12) (l1 := 160) (l2 := 160) zr_61_210 rfl rfl rfl rfl (by decide) (Nat.le_of_ble_eq_true rfl) (by omega) (by omega) ?_
  intro m17 em17
  have hIm17 : zInv m17 := by rw [em17]; exact zInv.cpS hIm16 (l2 := 160) (fun _ => rfl) rfl (by decide) (by decide) (by decide)
  have hFm17 : zFr W_61_15_1 m0 m17 := by rw [em17]; exact hFm16.cp rfl
  have km17_1_0 : m17 1 0 = g0 := by rw [em17, zCp_ne (by decide)]; exact km16_1_0
  have km17_1_1 : m17 1 1 = g1 := by rw [em17, zCp_ne (by decide)]; exact km16_1_1
  have km17_1_2 : m17 1 2 = g2 := by rw [em17, zCp_ne (by decide)]; exact km16_1_2
  have km17_1_3 : m17 1 3 = g3 := by rw [em17, zCp_ne (by decide)]; exact km16_1_3
  have km17_1_4 : m17 1 4 = g4 := by rw [em17, zCp_ne (by decide)]; exact km16_1_4
  have km17_1_5 : m17 1 5 = g5 := by rw [em17, zCp_ne (by decide)]; exact km16_1_5
  have km17_15_0 : m17 15 0 = g0 := by rw [em17, zCp_ne (by decide)]; exact km16_15_0
  have km17_15_1 : m17 15 1 = g1 := by rw [em17, zCp_ne (by decide)]; exact km16_15_1
  have km17_15_2 : m17 15 2 = g2 := by rw [em17, zCp_ne (by decide)]; exact km16_15_2
  have km17_15_3 : m17 15 3 = g3 := by rw [em17, zCp_ne (by decide)]; exact km16_15_3
  have km17_15_4 : m17 15 4 = g4 := by rw [em17, zCp_ne (by decide)]; exact km16_15_4
  have km17_15_5 : m17 15 5 = g5 := by rw [em17, zCp_ne (by decide)]; exact km16_15_5
  have fm17_16 : m17 16 = zCf F16 F2 10 := by rw [em17, zCp_fn (by decide)]; exact fm16_16
  have fm17_17 : m17 17 = zCf F17 F3 40 := by rw [em17, zCp_fn (by decide)]; exact fm16_17
  have fm17_18 : m17 18 = zCf F18 F4 40 := by rw [em17, zCp_fn (by decide)]; exact fm16_18
  have fm17_19 : m17 19 = zCf F19 F5 60 := by rw [em17, zCp_fn (by decide)]; exact fm16_19
  have fm17_20 : m17 20 = zCf F20 F6 60 := by rw [em17, zCp_fn (by decide)]; exact fm16_20
  have fm17_21 : m17 21 = zCf F21 F7 60 := by rw [em17, zCp_fn (by decide)]; exact fm16_21
  have fm17_22 : m17 22 = zCf F22 F8 60 := by rw [em17, zCp_fn (by decide)]; exact fm16_22
  have fm17_23 : m17 23 = zCf F23 F9 4 := by rw [em17, zCp_fn (by decide)]; exact fm16_23
  have fm17_24 : m17 24 = zCf F24 F10 4 := by rw [em17, zCp_fn (by decide)]; exact fm16_24
  have fm17_25 : m17 25 = zCf F25 F11 200 := by rw [em17, zCp_fn (by decide)]; exact fm16_25
  have fm17_26 : m17 26 = zCf F26 F12 160 := by rw [em17]; exact (zCp_ff (m := m16) (c1 := 26) (c2 := 12) (n := 160) rfl rfl).trans (by rw [fm16_26, fm16_12])
  have fm17_27 : m17 27 = F27 := by rw [em17, zCp_fn (by decide)]; exact fm16_27
  have fm17_2 : m17 2 = F2 := by rw [em17, zCp_fn (by decide)]; exact fm16_2
  have fm17_3 : m17 3 = F3 := by rw [em17, zCp_fn (by decide)]; exact fm16_3
  have fm17_4 : m17 4 = F4 := by rw [em17, zCp_fn (by decide)]; exact fm16_4
  have fm17_5 : m17 5 = F5 := by rw [em17, zCp_fn (by decide)]; exact fm16_5
  have fm17_6 : m17 6 = F6 := by rw [em17, zCp_fn (by decide)]; exact fm16_6
  have fm17_7 : m17 7 = F7 := by rw [em17, zCp_fn (by decide)]; exact fm16_7
  have fm17_8 : m17 8 = F8 := by rw [em17, zCp_fn (by decide)]; exact fm16_8
  have fm17_9 : m17 9 = F9 := by rw [em17, zCp_fn (by decide)]; exact fm16_9
  have fm17_10 : m17 10 = F10 := by rw [em17, zCp_fn (by decide)]; exact fm16_10
  have fm17_11 : m17 11 = F11 := by rw [em17, zCp_fn (by decide)]; exact fm16_11
  have fm17_12 : m17 12 = F12 := by rw [em17, zCp_fn (by decide)]; exact fm16_12
  have fm17_13 : m17 13 = F13 := by rw [em17, zCp_fn (by decide)]; exact fm16_13
  clear em17
  refine zw_7 zr_61_213 rfl ?_
  refine zw_46r (s := 13) zr_61_214 rfl rfl rfl rfl ?_
  refine zw_push zr_61_217 ?_
  refine zw_7 zr_61_218 rfl ?_
  refine zw_46r (s := 27) zr_61_219 rfl rfl rfl rfl ?_
  refine zw_push zr_61_222 ?_
  refine zw_push zr_61_223 ?_
  refine zw_114 (c1 := 27) (c2 := 13) (l1 := 4) (l2 := 4) zr_61_224 rfl rfl rfl rfl (by decide) (Nat.le_of_ble_eq_true rfl) (by omega) (by omega) ?_
  intro m18 em18
  have hIm18 : zInv m18 := by rw [em18]; exact zInv.cpS hIm17 (l2 := 4) (fun _ => rfl) rfl (by decide) (by decide) (by decide)
  have hFm18 : zFr W_61_15_1 m0 m18 := by rw [em18]; exact hFm17.cp rfl
  have km18_1_0 : m18 1 0 = g0 := by rw [em18, zCp_ne (by decide)]; exact km17_1_0
  have km18_1_1 : m18 1 1 = g1 := by rw [em18, zCp_ne (by decide)]; exact km17_1_1
  have km18_1_2 : m18 1 2 = g2 := by rw [em18, zCp_ne (by decide)]; exact km17_1_2
  have km18_1_3 : m18 1 3 = g3 := by rw [em18, zCp_ne (by decide)]; exact km17_1_3
  have km18_1_4 : m18 1 4 = g4 := by rw [em18, zCp_ne (by decide)]; exact km17_1_4
  have km18_1_5 : m18 1 5 = g5 := by rw [em18, zCp_ne (by decide)]; exact km17_1_5
  have km18_15_0 : m18 15 0 = g0 := by rw [em18, zCp_ne (by decide)]; exact km17_15_0
  have km18_15_1 : m18 15 1 = g1 := by rw [em18, zCp_ne (by decide)]; exact km17_15_1
  have km18_15_2 : m18 15 2 = g2 := by rw [em18, zCp_ne (by decide)]; exact km17_15_2
  have km18_15_3 : m18 15 3 = g3 := by rw [em18, zCp_ne (by decide)]; exact km17_15_3
  have km18_15_4 : m18 15 4 = g4 := by rw [em18, zCp_ne (by decide)]; exact km17_15_4
  have km18_15_5 : m18 15 5 = g5 := by rw [em18, zCp_ne (by decide)]; exact km17_15_5
  have fm18_16 : m18 16 = zCf F16 F2 10 := by rw [em18, zCp_fn (by decide)]; exact fm17_16
  have fm18_17 : m18 17 = zCf F17 F3 40 := by rw [em18, zCp_fn (by decide)]; exact fm17_17
  have fm18_18 : m18 18 = zCf F18 F4 40 := by rw [em18, zCp_fn (by decide)]; exact fm17_18
  have fm18_19 : m18 19 = zCf F19 F5 60 := by rw [em18, zCp_fn (by decide)]; exact fm17_19
  have fm18_20 : m18 20 = zCf F20 F6 60 := by rw [em18, zCp_fn (by decide)]; exact fm17_20
  have fm18_21 : m18 21 = zCf F21 F7 60 := by rw [em18, zCp_fn (by decide)]; exact fm17_21
  have fm18_22 : m18 22 = zCf F22 F8 60 := by rw [em18, zCp_fn (by decide)]; exact fm17_22
  have fm18_23 : m18 23 = zCf F23 F9 4 := by rw [em18, zCp_fn (by decide)]; exact fm17_23
  have fm18_24 : m18 24 = zCf F24 F10 4 := by rw [em18, zCp_fn (by decide)]; exact fm17_24
  have fm18_25 : m18 25 = zCf F25 F11 200 := by rw [em18, zCp_fn (by decide)]; exact fm17_25
  have fm18_26 : m18 26 = zCf F26 F12 160 := by rw [em18, zCp_fn (by decide)]; exact fm17_26
  have fm18_27 : m18 27 = zCf F27 F13 4 := by rw [em18]; exact (zCp_ff (m := m17) (c1 := 27) (c2 := 13) (n := 4) rfl rfl).trans (by rw [fm17_27, fm17_13])
  have fm18_2 : m18 2 = F2 := by rw [em18, zCp_fn (by decide)]; exact fm17_2
  have fm18_3 : m18 3 = F3 := by rw [em18, zCp_fn (by decide)]; exact fm17_3
  have fm18_4 : m18 4 = F4 := by rw [em18, zCp_fn (by decide)]; exact fm17_4
  have fm18_5 : m18 5 = F5 := by rw [em18, zCp_fn (by decide)]; exact fm17_5
  have fm18_6 : m18 6 = F6 := by rw [em18, zCp_fn (by decide)]; exact fm17_6
  have fm18_7 : m18 7 = F7 := by rw [em18, zCp_fn (by decide)]; exact fm17_7
  have fm18_8 : m18 8 = F8 := by rw [em18, zCp_fn (by decide)]; exact fm17_8
  have fm18_9 : m18 9 = F9 := by rw [em18, zCp_fn (by decide)]; exact fm17_9
  have fm18_10 : m18 10 = F10 := by rw [em18, zCp_fn (by decide)]; exact fm17_10
  have fm18_11 : m18 11 = F11 := by rw [em18, zCp_fn (by decide)]; exact fm17_11
  have fm18_12 : m18 12 = F12 := by rw [em18, zCp_fn (by decide)]; exact fm17_12
  have fm18_13 : m18 13 = F13 := by rw [em18, zCp_fn (by decide)]; exact fm17_13
  clear em18
  refine zw_R zr_61_227 (by decide) zm_61 (v := (9, 0)) rfl ?_
  rw [← hQ]; exact ⟨rfl, hIm18, hFm18, ⟨(km18_15_0.trans hg0.symm), (km18_15_1.trans hg1.symm), (km18_15_2.trans hg2.symm), (km18_15_3.trans hg3.symm), (km18_15_4.trans hg4.symm), (km18_15_5.trans hg5.symm), fun k hk => by rw [fm18_16, hG2]; exact zCf_lt hk, fun k hk => by rw [fm18_17, hG3]; exact zCf_lt hk, fun k hk => by rw [fm18_18, hG4]; exact zCf_lt hk, fun k hk => by rw [fm18_19, hG5]; exact zCf_lt hk, fun k hk => by rw [fm18_20, hG6]; exact zCf_lt hk, fun k hk => by rw [fm18_21, hG7]; exact zCf_lt hk, fun k hk => by rw [fm18_22, hG8]; exact zCf_lt hk, fun k hk => by rw [fm18_23, hG9]; exact zCf_lt hk, fun k hk => by rw [fm18_24, hG10]; exact zCf_lt hk, fun k hk => by rw [fm18_25, hG11]; exact zCf_lt hk, fun k hk => by rw [fm18_26, hG12]; exact zCf_lt hk, fun k hk => by rw [fm18_27, hG13]; exact zCf_lt hk⟩⟩

abbrev W_61_28_1 : List (Nat × Nat) := [(28, 0), (28, 1), (28, 2), (28, 3), (28, 4), (28, 5), (29, 1000), (30, 1000), (31, 1000), (32, 1000), (33, 1000), (34, 1000), (35, 1000), (36, 1000), (37, 1000), (38, 1000), (39, 1000), (40, 1000)]
set_option maxHeartbeats 8000000 in
theorem th_61_28_1 {E : zE} {d : Nat} {m0 : zM} {g0 : Int} {g1 : Int} {g2 : Int} {g3 : Int} {g4 : Int} {g5 : Int} {F29 : Nat → Int} {F30 : Nat → Int} {F31 : Nat → Int} {F32 : Nat → Int} {F33 : Nat → Int} {F34 : Nat → Int} {F35 : Nat → Int} {F36 : Nat → Int} {F37 : Nat → Int} {F38 : Nat → Int} {F39 : Nat → Int} {F40 : Nat → Int} {F2 : Nat → Int} {F3 : Nat → Int} {F4 : Nat → Int} {F5 : Nat → Int} {F6 : Nat → Int} {F7 : Nat → Int} {F8 : Nat → Int} {F9 : Nat → Int} {F10 : Nat → Int} {F11 : Nat → Int} {F12 : Nat → Int} {F13 : Nat → Int} (hd : 1 ≤ d) (hI0 : zInv m0) (hg0 : m0 1 0 = g0) (hg1 : m0 1 1 = g1) (hg2 : m0 1 2 = g2) (hg3 : m0 1 3 = g3) (hg4 : m0 1 4 = g4) (hg5 : m0 1 5 = g5) (hG29 : m0 29 = F29) (hG30 : m0 30 = F30) (hG31 : m0 31 = F31) (hG32 : m0 32 = F32) (hG33 : m0 33 = F33) (hG34 : m0 34 = F34) (hG35 : m0 35 = F35) (hG36 : m0 36 = F36) (hG37 : m0 37 = F37) (hG38 : m0 38 = F38) (hG39 : m0 39 = F39) (hG40 : m0 40 = F40) (hG2 : m0 2 = F2) (hG3 : m0 3 = F3) (hG4 : m0 4 = F4) (hG5 : m0 5 = F5) (hG6 : m0 6 = F6) (hG7 : m0 7 = F7) (hG8 : m0 8 = F8) (hG9 : m0 9 = F9) (hG10 : m0 10 = F10) (hG11 : m0 11 = F11) (hG12 : m0 12 = F12) (hG13 : m0 13 = F13) : zC E d 61 [(2, 28), (2, 1)] m0 (fun v m' => v = (9, 0) ∧ zInv m' ∧ zFr W_61_28_1 m0 m' ∧ (zTk_28_1 m0 m')) := by
  have hF0 : zFr W_61_28_1 m0 m0 := zFr.rfl
  have bg0 := ib_1_0 hI0
  rw [hg0] at bg0
  have bg1 := ib_1_1 hI0
  rw [hg1] at bg1
  have bg2 := ib_1_2 hI0
  rw [hg2] at bg2
  have bg3 := ib_1_3 hI0
  rw [hg3] at bg3
  have bg4 := ib_1_4 hI0
  rw [hg4] at bg4
  have bg5 := ib_1_5 hI0
  rw [hg5] at bg5
  generalize hQ : (fun (v : zV) (m' : zM) => v = (9, 0) ∧ zInv m' ∧ zFr W_61_28_1 m0 m' ∧ (zTk_28_1 m0 m')) = Q
  show zW E d 61 0 [(2, 28), (2, 1)] [] m0 Q
  refine zw_7 zr_61_0 rfl ?_
  refine zw_7 zr_61_1 rfl ?_
  refine zw_46i zr_61_2 hg0 rfl rfl rfl ?_
  refine zw_47 (c := 28) zr_61_5 rfl ⟨rfl, by decide, rfl⟩ ?_
  intro m1 em1
  have hIm1 : zInv m1 := by rw [em1]; exact hI0.bd (r := 28) (k := 0) (lo := 0) (hi := 10) rfl (by omega) (by decide) (by decide) (by decide)
  have hFm1 : zFr W_61_28_1 m0 m1 := by rw [em1]; exact hF0.up rfl
  have km1_1_0 : m1 1 0 = g0 := by rw [em1, zUp_ne (by omega)]; exact hg0
  have km1_1_1 : m1 1 1 = g1 := by rw [em1, zUp_ne (by omega)]; exact hg1
  have km1_1_2 : m1 1 2 = g2 := by rw [em1, zUp_ne (by omega)]; exact hg2
  have km1_1_3 : m1 1 3 = g3 := by rw [em1, zUp_ne (by omega)]; exact hg3
  have km1_1_4 : m1 1 4 = g4 := by rw [em1, zUp_ne (by omega)]; exact hg4
  have km1_1_5 : m1 1 5 = g5 := by rw [em1, zUp_ne (by omega)]; exact hg5
  have km1_28_0 : m1 28 0 = g0 := by rw [em1]; exact zUp_eq _ _ _ _
  have fm1_29 : m1 29 = F29 := by rw [em1, zUp_fn (by decide)]; exact hG29
  have fm1_30 : m1 30 = F30 := by rw [em1, zUp_fn (by decide)]; exact hG30
  have fm1_31 : m1 31 = F31 := by rw [em1, zUp_fn (by decide)]; exact hG31
  have fm1_32 : m1 32 = F32 := by rw [em1, zUp_fn (by decide)]; exact hG32
  have fm1_33 : m1 33 = F33 := by rw [em1, zUp_fn (by decide)]; exact hG33
  have fm1_34 : m1 34 = F34 := by rw [em1, zUp_fn (by decide)]; exact hG34
  have fm1_35 : m1 35 = F35 := by rw [em1, zUp_fn (by decide)]; exact hG35
  have fm1_36 : m1 36 = F36 := by rw [em1, zUp_fn (by decide)]; exact hG36
  have fm1_37 : m1 37 = F37 := by rw [em1, zUp_fn (by decide)]; exact hG37
  have fm1_38 : m1 38 = F38 := by rw [em1, zUp_fn (by decide)]; exact hG38
  have fm1_39 : m1 39 = F39 := by rw [em1, zUp_fn (by decide)]; exact hG39
  have fm1_40 : m1 40 = F40 := by rw [em1, zUp_fn (by decide)]; exact hG40
  have fm1_2 : m1 2 = F2 := by rw [em1, zUp_fn (by decide)]; exact hG2
  have fm1_3 : m1 3 = F3 := by rw [em1, zUp_fn (by decide)]; exact hG3
  have fm1_4 : m1 4 = F4 := by rw [em1, zUp_fn (by decide)]; exact hG4
  have fm1_5 : m1 5 = F5 := by rw [em1, zUp_fn (by decide)]; exact hG5
  have fm1_6 : m1 6 = F6 := by rw [em1, zUp_fn (by decide)]; exact hG6
  have fm1_7 : m1 7 = F7 := by rw [em1, zUp_fn (by decide)]; exact hG7
  have fm1_8 : m1 8 = F8 := by rw [em1, zUp_fn (by decide)]; exact hG8
  have fm1_9 : m1 9 = F9 := by rw [em1, zUp_fn (by decide)]; exact hG9
  have fm1_10 : m1 10 = F10 := by rw [em1, zUp_fn (by decide)]; exact hG10
  have fm1_11 : m1 11 = F11 := by rw [em1, zUp_fn (by decide)]; exact hG11
  have fm1_12 : m1 12 = F12 := by rw [em1, zUp_fn (by decide)]; exact hG12
  have fm1_13 : m1 13 = F13 := by rw [em1, zUp_fn (by decide)]; exact hG13
  clear em1
  refine zw_7 zr_61_8 rfl ?_
  refine zw_7 zr_61_9 rfl ?_
  refine zw_46i zr_61_10 km1_1_1 rfl rfl rfl ?_
  refine zw_47 (c := 28) zr_61_13 rfl ⟨rfl, by decide, rfl⟩ ?_
  intro m2 em2
  have hIm2 : zInv m2 := by rw [em2]; exact hIm1.bd (r := 28) (k := 1) (lo := 0) (hi := 60) rfl (by omega) (by decide) (by decide) (by decide)
  have hFm2 : zFr W_61_28_1 m0 m2 := by rw [em2]; exact hFm1.up rfl
  have km2_1_0 : m2 1 0 = g0 := by rw [em2, zUp_ne (by omega)]; exact km1_1_0
  have km2_1_1 : m2 1 1 = g1 := by rw [em2, zUp_ne (by omega)]; exact km1_1_1
  have km2_1_2 : m2 1 2 = g2 := by rw [em2, zUp_ne (by omega)]; exact km1_1_2
  have km2_1_3 : m2 1 3 = g3 := by rw [em2, zUp_ne (by omega)]; exact km1_1_3
  have km2_1_4 : m2 1 4 = g4 := by rw [em2, zUp_ne (by omega)]; exact km1_1_4
  have km2_1_5 : m2 1 5 = g5 := by rw [em2, zUp_ne (by omega)]; exact km1_1_5
  have km2_28_0 : m2 28 0 = g0 := by rw [em2, zUp_ne (by omega)]; exact km1_28_0
  have km2_28_1 : m2 28 1 = g1 := by rw [em2]; exact zUp_eq _ _ _ _
  have fm2_29 : m2 29 = F29 := by rw [em2, zUp_fn (by decide)]; exact fm1_29
  have fm2_30 : m2 30 = F30 := by rw [em2, zUp_fn (by decide)]; exact fm1_30
  have fm2_31 : m2 31 = F31 := by rw [em2, zUp_fn (by decide)]; exact fm1_31
  have fm2_32 : m2 32 = F32 := by rw [em2, zUp_fn (by decide)]; exact fm1_32
  have fm2_33 : m2 33 = F33 := by rw [em2, zUp_fn (by decide)]; exact fm1_33
  have fm2_34 : m2 34 = F34 := by rw [em2, zUp_fn (by decide)]; exact fm1_34
  have fm2_35 : m2 35 = F35 := by rw [em2, zUp_fn (by decide)]; exact fm1_35
  have fm2_36 : m2 36 = F36 := by rw [em2, zUp_fn (by decide)]; exact fm1_36
  have fm2_37 : m2 37 = F37 := by rw [em2, zUp_fn (by decide)]; exact fm1_37
  have fm2_38 : m2 38 = F38 := by rw [em2, zUp_fn (by decide)]; exact fm1_38
  have fm2_39 : m2 39 = F39 := by rw [em2, zUp_fn (by decide)]; exact fm1_39
  have fm2_40 : m2 40 = F40 := by rw [em2, zUp_fn (by decide)]; exact fm1_40
  have fm2_2 : m2 2 = F2 := by rw [em2, zUp_fn (by decide)]; exact fm1_2
  have fm2_3 : m2 3 = F3 := by rw [em2, zUp_fn (by decide)]; exact fm1_3
  have fm2_4 : m2 4 = F4 := by rw [em2, zUp_fn (by decide)]; exact fm1_4
  have fm2_5 : m2 5 = F5 := by rw [em2, zUp_fn (by decide)]; exact fm1_5
  have fm2_6 : m2 6 = F6 := by rw [em2, zUp_fn (by decide)]; exact fm1_6
  have fm2_7 : m2 7 = F7 := by rw [em2, zUp_fn (by decide)]; exact fm1_7
  have fm2_8 : m2 8 = F8 := by rw [em2, zUp_fn (by decide)]; exact fm1_8
  have fm2_9 : m2 9 = F9 := by rw [em2, zUp_fn (by decide)]; exact fm1_9
  have fm2_10 : m2 10 = F10 := by rw [em2, zUp_fn (by decide)]; exact fm1_10
  have fm2_11 : m2 11 = F11 := by rw [em2, zUp_fn (by decide)]; exact fm1_11
  have fm2_12 : m2 12 = F12 := by rw [em2, zUp_fn (by decide)]; exact fm1_12
  have fm2_13 : m2 13 = F13 := by rw [em2, zUp_fn (by decide)]; exact fm1_13
  clear em2
  refine zw_7 zr_61_16 rfl ?_
  refine zw_7 zr_61_17 rfl ?_
  refine zw_46l zr_61_18 km2_1_2 rfl rfl rfl ?_
  refine zw_47 (c := 28) zr_61_21 rfl ⟨rfl, by decide, rfl⟩ ?_
  intro m3 em3
  have hIm3 : zInv m3 := by rw [em3]; exact hIm2.bdl (r := 28) (k := 2) (lo := 0) (hi := 1152921504606846975) rfl (by omega) (by decide) (by decide) (by decide) (by decide)
  have hFm3 : zFr W_61_28_1 m0 m3 := by rw [em3]; exact hFm2.up rfl
  have km3_1_0 : m3 1 0 = g0 := by rw [em3, zUp_ne (by omega)]; exact km2_1_0
  have km3_1_1 : m3 1 1 = g1 := by rw [em3, zUp_ne (by omega)]; exact km2_1_1
  have km3_1_2 : m3 1 2 = g2 := by rw [em3, zUp_ne (by omega)]; exact km2_1_2
  have km3_1_3 : m3 1 3 = g3 := by rw [em3, zUp_ne (by omega)]; exact km2_1_3
  have km3_1_4 : m3 1 4 = g4 := by rw [em3, zUp_ne (by omega)]; exact km2_1_4
  have km3_1_5 : m3 1 5 = g5 := by rw [em3, zUp_ne (by omega)]; exact km2_1_5
  have km3_28_0 : m3 28 0 = g0 := by rw [em3, zUp_ne (by omega)]; exact km2_28_0
  have km3_28_1 : m3 28 1 = g1 := by rw [em3, zUp_ne (by omega)]; exact km2_28_1
  have km3_28_2 : m3 28 2 = g2 := by rw [em3]; exact zUp_eq _ _ _ _
  have fm3_29 : m3 29 = F29 := by rw [em3, zUp_fn (by decide)]; exact fm2_29
  have fm3_30 : m3 30 = F30 := by rw [em3, zUp_fn (by decide)]; exact fm2_30
  have fm3_31 : m3 31 = F31 := by rw [em3, zUp_fn (by decide)]; exact fm2_31
  have fm3_32 : m3 32 = F32 := by rw [em3, zUp_fn (by decide)]; exact fm2_32
  have fm3_33 : m3 33 = F33 := by rw [em3, zUp_fn (by decide)]; exact fm2_33
  have fm3_34 : m3 34 = F34 := by rw [em3, zUp_fn (by decide)]; exact fm2_34
  have fm3_35 : m3 35 = F35 := by rw [em3, zUp_fn (by decide)]; exact fm2_35
  have fm3_36 : m3 36 = F36 := by rw [em3, zUp_fn (by decide)]; exact fm2_36
  have fm3_37 : m3 37 = F37 := by rw [em3, zUp_fn (by decide)]; exact fm2_37
  have fm3_38 : m3 38 = F38 := by rw [em3, zUp_fn (by decide)]; exact fm2_38
  have fm3_39 : m3 39 = F39 := by rw [em3, zUp_fn (by decide)]; exact fm2_39
  have fm3_40 : m3 40 = F40 := by rw [em3, zUp_fn (by decide)]; exact fm2_40
  have fm3_2 : m3 2 = F2 := by rw [em3, zUp_fn (by decide)]; exact fm2_2
  have fm3_3 : m3 3 = F3 := by rw [em3, zUp_fn (by decide)]; exact fm2_3
  have fm3_4 : m3 4 = F4 := by rw [em3, zUp_fn (by decide)]; exact fm2_4
  have fm3_5 : m3 5 = F5 := by rw [em3, zUp_fn (by decide)]; exact fm2_5
  have fm3_6 : m3 6 = F6 := by rw [em3, zUp_fn (by decide)]; exact fm2_6
  have fm3_7 : m3 7 = F7 := by rw [em3, zUp_fn (by decide)]; exact fm2_7
  have fm3_8 : m3 8 = F8 := by rw [em3, zUp_fn (by decide)]; exact fm2_8
  have fm3_9 : m3 9 = F9 := by rw [em3, zUp_fn (by decide)]; exact fm2_9
  have fm3_10 : m3 10 = F10 := by rw [em3, zUp_fn (by decide)]; exact fm2_10
  have fm3_11 : m3 11 = F11 := by rw [em3, zUp_fn (by decide)]; exact fm2_11
  have fm3_12 : m3 12 = F12 := by rw [em3, zUp_fn (by decide)]; exact fm2_12
  have fm3_13 : m3 13 = F13 := by rw [em3, zUp_fn (by decide)]; exact fm2_13
  clear em3
  refine zw_7 zr_61_24 rfl ?_
  refine zw_7 zr_61_25 rfl ?_
  refine zw_46l zr_61_26 km3_1_3 rfl rfl rfl ?_
  refine zw_47 (c := 28) zr_61_29 rfl ⟨rfl, by decide, rfl⟩ ?_
  intro m4 em4
  have hIm4 : zInv m4 := by rw [em4]; exact hIm3.bdl (r := 28) (k := 3) (lo := 0) (hi := 1152921504606846975) rfl (by omega) (by decide) (by decide) (by decide) (by decide)
  have hFm4 : zFr W_61_28_1 m0 m4 := by rw [em4]; exact hFm3.up rfl
  have km4_1_0 : m4 1 0 = g0 := by rw [em4, zUp_ne (by omega)]; exact km3_1_0
  have km4_1_1 : m4 1 1 = g1 := by rw [em4, zUp_ne (by omega)]; exact km3_1_1
  have km4_1_2 : m4 1 2 = g2 := by rw [em4, zUp_ne (by omega)]; exact km3_1_2
  have km4_1_3 : m4 1 3 = g3 := by rw [em4, zUp_ne (by omega)]; exact km3_1_3
  have km4_1_4 : m4 1 4 = g4 := by rw [em4, zUp_ne (by omega)]; exact km3_1_4
  have km4_1_5 : m4 1 5 = g5 := by rw [em4, zUp_ne (by omega)]; exact km3_1_5
  have km4_28_0 : m4 28 0 = g0 := by rw [em4, zUp_ne (by omega)]; exact km3_28_0
  have km4_28_1 : m4 28 1 = g1 := by rw [em4, zUp_ne (by omega)]; exact km3_28_1
  have km4_28_2 : m4 28 2 = g2 := by rw [em4, zUp_ne (by omega)]; exact km3_28_2
  have km4_28_3 : m4 28 3 = g3 := by rw [em4]; exact zUp_eq _ _ _ _
  have fm4_29 : m4 29 = F29 := by rw [em4, zUp_fn (by decide)]; exact fm3_29
  have fm4_30 : m4 30 = F30 := by rw [em4, zUp_fn (by decide)]; exact fm3_30
  have fm4_31 : m4 31 = F31 := by rw [em4, zUp_fn (by decide)]; exact fm3_31
  have fm4_32 : m4 32 = F32 := by rw [em4, zUp_fn (by decide)]; exact fm3_32
  have fm4_33 : m4 33 = F33 := by rw [em4, zUp_fn (by decide)]; exact fm3_33
  have fm4_34 : m4 34 = F34 := by rw [em4, zUp_fn (by decide)]; exact fm3_34
  have fm4_35 : m4 35 = F35 := by rw [em4, zUp_fn (by decide)]; exact fm3_35
  have fm4_36 : m4 36 = F36 := by rw [em4, zUp_fn (by decide)]; exact fm3_36
  have fm4_37 : m4 37 = F37 := by rw [em4, zUp_fn (by decide)]; exact fm3_37
  have fm4_38 : m4 38 = F38 := by rw [em4, zUp_fn (by decide)]; exact fm3_38
  have fm4_39 : m4 39 = F39 := by rw [em4, zUp_fn (by decide)]; exact fm3_39
  have fm4_40 : m4 40 = F40 := by rw [em4, zUp_fn (by decide)]; exact fm3_40
  have fm4_2 : m4 2 = F2 := by rw [em4, zUp_fn (by decide)]; exact fm3_2
  have fm4_3 : m4 3 = F3 := by rw [em4, zUp_fn (by decide)]; exact fm3_3
  have fm4_4 : m4 4 = F4 := by rw [em4, zUp_fn (by decide)]; exact fm3_4
  have fm4_5 : m4 5 = F5 := by rw [em4, zUp_fn (by decide)]; exact fm3_5
  have fm4_6 : m4 6 = F6 := by rw [em4, zUp_fn (by decide)]; exact fm3_6
  have fm4_7 : m4 7 = F7 := by rw [em4, zUp_fn (by decide)]; exact fm3_7
  have fm4_8 : m4 8 = F8 := by rw [em4, zUp_fn (by decide)]; exact fm3_8
  have fm4_9 : m4 9 = F9 := by rw [em4, zUp_fn (by decide)]; exact fm3_9
  have fm4_10 : m4 10 = F10 := by rw [em4, zUp_fn (by decide)]; exact fm3_10
  have fm4_11 : m4 11 = F11 := by rw [em4, zUp_fn (by decide)]; exact fm3_11
  have fm4_12 : m4 12 = F12 := by rw [em4, zUp_fn (by decide)]; exact fm3_12
  have fm4_13 : m4 13 = F13 := by rw [em4, zUp_fn (by decide)]; exact fm3_13
  clear em4
  refine zw_7 zr_61_32 rfl ?_
  refine zw_7 zr_61_33 rfl ?_
  refine zw_46i zr_61_34 km4_1_4 rfl rfl rfl ?_
  refine zw_47 (c := 28) zr_61_37 rfl ⟨rfl, by decide, rfl⟩ ?_
  intro m5 em5
  have hIm5 : zInv m5 := by rw [em5]; exact hIm4.bd (r := 28) (k := 4) (lo := 1) (hi := 1000) rfl (by omega) (by decide) (by decide) (by decide)
  have hFm5 : zFr W_61_28_1 m0 m5 := by rw [em5]; exact hFm4.up rfl
  have km5_1_0 : m5 1 0 = g0 := by rw [em5, zUp_ne (by omega)]; exact km4_1_0
  have km5_1_1 : m5 1 1 = g1 := by rw [em5, zUp_ne (by omega)]; exact km4_1_1
  have km5_1_2 : m5 1 2 = g2 := by rw [em5, zUp_ne (by omega)]; exact km4_1_2
  have km5_1_3 : m5 1 3 = g3 := by rw [em5, zUp_ne (by omega)]; exact km4_1_3
  have km5_1_4 : m5 1 4 = g4 := by rw [em5, zUp_ne (by omega)]; exact km4_1_4
  have km5_1_5 : m5 1 5 = g5 := by rw [em5, zUp_ne (by omega)]; exact km4_1_5
  have km5_28_0 : m5 28 0 = g0 := by rw [em5, zUp_ne (by omega)]; exact km4_28_0
  have km5_28_1 : m5 28 1 = g1 := by rw [em5, zUp_ne (by omega)]; exact km4_28_1
  have km5_28_2 : m5 28 2 = g2 := by rw [em5, zUp_ne (by omega)]; exact km4_28_2
  have km5_28_3 : m5 28 3 = g3 := by rw [em5, zUp_ne (by omega)]; exact km4_28_3
  have km5_28_4 : m5 28 4 = g4 := by rw [em5]; exact zUp_eq _ _ _ _
  have fm5_29 : m5 29 = F29 := by rw [em5, zUp_fn (by decide)]; exact fm4_29
  have fm5_30 : m5 30 = F30 := by rw [em5, zUp_fn (by decide)]; exact fm4_30
  have fm5_31 : m5 31 = F31 := by rw [em5, zUp_fn (by decide)]; exact fm4_31
  have fm5_32 : m5 32 = F32 := by rw [em5, zUp_fn (by decide)]; exact fm4_32
  have fm5_33 : m5 33 = F33 := by rw [em5, zUp_fn (by decide)]; exact fm4_33
  have fm5_34 : m5 34 = F34 := by rw [em5, zUp_fn (by decide)]; exact fm4_34
  have fm5_35 : m5 35 = F35 := by rw [em5, zUp_fn (by decide)]; exact fm4_35
  have fm5_36 : m5 36 = F36 := by rw [em5, zUp_fn (by decide)]; exact fm4_36
  have fm5_37 : m5 37 = F37 := by rw [em5, zUp_fn (by decide)]; exact fm4_37
  have fm5_38 : m5 38 = F38 := by rw [em5, zUp_fn (by decide)]; exact fm4_38
  have fm5_39 : m5 39 = F39 := by rw [em5, zUp_fn (by decide)]; exact fm4_39
  have fm5_40 : m5 40 = F40 := by rw [em5, zUp_fn (by decide)]; exact fm4_40
  have fm5_2 : m5 2 = F2 := by rw [em5, zUp_fn (by decide)]; exact fm4_2
  have fm5_3 : m5 3 = F3 := by rw [em5, zUp_fn (by decide)]; exact fm4_3
  have fm5_4 : m5 4 = F4 := by rw [em5, zUp_fn (by decide)]; exact fm4_4
  have fm5_5 : m5 5 = F5 := by rw [em5, zUp_fn (by decide)]; exact fm4_5
  have fm5_6 : m5 6 = F6 := by rw [em5, zUp_fn (by decide)]; exact fm4_6
  have fm5_7 : m5 7 = F7 := by rw [em5, zUp_fn (by decide)]; exact fm4_7
  have fm5_8 : m5 8 = F8 := by rw [em5, zUp_fn (by decide)]; exact fm4_8
  have fm5_9 : m5 9 = F9 := by rw [em5, zUp_fn (by decide)]; exact fm4_9
  have fm5_10 : m5 10 = F10 := by rw [em5, zUp_fn (by decide)]; exact fm4_10
  have fm5_11 : m5 11 = F11 := by rw [em5, zUp_fn (by decide)]; exact fm4_11
  have fm5_12 : m5 12 = F12 := by rw [em5, zUp_fn (by decide)]; exact fm4_12
  have fm5_13 : m5 13 = F13 := by rw [em5, zUp_fn (by decide)]; exact fm4_13
  clear em5
  refine zw_7 zr_61_40 rfl ?_
  refine zw_7 zr_61_41 rfl ?_
  refine zw_46i zr_61_42 km5_1_5 rfl rfl rfl ?_
  refine zw_47 (c := 28) zr_61_45 rfl ⟨rfl, by decide, rfl⟩ ?_
  intro m6 em6
  have hIm6 : zInv m6 := by rw [em6]; exact hIm5.bd (r := 28) (k := 5) (lo := 0) (hi := 500) rfl (by omega) (by decide) (by decide) (by decide)
  have hFm6 : zFr W_61_28_1 m0 m6 := by rw [em6]; exact hFm5.up rfl
  have km6_1_0 : m6 1 0 = g0 := by rw [em6, zUp_ne (by omega)]; exact km5_1_0
  have km6_1_1 : m6 1 1 = g1 := by rw [em6, zUp_ne (by omega)]; exact km5_1_1
  have km6_1_2 : m6 1 2 = g2 := by rw [em6, zUp_ne (by omega)]; exact km5_1_2
  have km6_1_3 : m6 1 3 = g3 := by rw [em6, zUp_ne (by omega)]; exact km5_1_3
  have km6_1_4 : m6 1 4 = g4 := by rw [em6, zUp_ne (by omega)]; exact km5_1_4
  have km6_1_5 : m6 1 5 = g5 := by rw [em6, zUp_ne (by omega)]; exact km5_1_5
  have km6_28_0 : m6 28 0 = g0 := by rw [em6, zUp_ne (by omega)]; exact km5_28_0
  have km6_28_1 : m6 28 1 = g1 := by rw [em6, zUp_ne (by omega)]; exact km5_28_1
  have km6_28_2 : m6 28 2 = g2 := by rw [em6, zUp_ne (by omega)]; exact km5_28_2
  have km6_28_3 : m6 28 3 = g3 := by rw [em6, zUp_ne (by omega)]; exact km5_28_3
  have km6_28_4 : m6 28 4 = g4 := by rw [em6, zUp_ne (by omega)]; exact km5_28_4
  have km6_28_5 : m6 28 5 = g5 := by rw [em6]; exact zUp_eq _ _ _ _
  have fm6_29 : m6 29 = F29 := by rw [em6, zUp_fn (by decide)]; exact fm5_29
  have fm6_30 : m6 30 = F30 := by rw [em6, zUp_fn (by decide)]; exact fm5_30
  have fm6_31 : m6 31 = F31 := by rw [em6, zUp_fn (by decide)]; exact fm5_31
  have fm6_32 : m6 32 = F32 := by rw [em6, zUp_fn (by decide)]; exact fm5_32
  have fm6_33 : m6 33 = F33 := by rw [em6, zUp_fn (by decide)]; exact fm5_33
  have fm6_34 : m6 34 = F34 := by rw [em6, zUp_fn (by decide)]; exact fm5_34
  have fm6_35 : m6 35 = F35 := by rw [em6, zUp_fn (by decide)]; exact fm5_35
  have fm6_36 : m6 36 = F36 := by rw [em6, zUp_fn (by decide)]; exact fm5_36
  have fm6_37 : m6 37 = F37 := by rw [em6, zUp_fn (by decide)]; exact fm5_37
  have fm6_38 : m6 38 = F38 := by rw [em6, zUp_fn (by decide)]; exact fm5_38
  have fm6_39 : m6 39 = F39 := by rw [em6, zUp_fn (by decide)]; exact fm5_39
  have fm6_40 : m6 40 = F40 := by rw [em6, zUp_fn (by decide)]; exact fm5_40
  have fm6_2 : m6 2 = F2 := by rw [em6, zUp_fn (by decide)]; exact fm5_2
  have fm6_3 : m6 3 = F3 := by rw [em6, zUp_fn (by decide)]; exact fm5_3
  have fm6_4 : m6 4 = F4 := by rw [em6, zUp_fn (by decide)]; exact fm5_4
  have fm6_5 : m6 5 = F5 := by rw [em6, zUp_fn (by decide)]; exact fm5_5
  have fm6_6 : m6 6 = F6 := by rw [em6, zUp_fn (by decide)]; exact fm5_6
  have fm6_7 : m6 7 = F7 := by rw [em6, zUp_fn (by decide)]; exact fm5_7
  have fm6_8 : m6 8 = F8 := by rw [em6, zUp_fn (by decide)]; exact fm5_8
  have fm6_9 : m6 9 = F9 := by rw [em6, zUp_fn (by decide)]; exact fm5_9
  have fm6_10 : m6 10 = F10 := by rw [em6, zUp_fn (by decide)]; exact fm5_10
  have fm6_11 : m6 11 = F11 := by rw [em6, zUp_fn (by decide)]; exact fm5_11
  have fm6_12 : m6 12 = F12 := by rw [em6, zUp_fn (by decide)]; exact fm5_12
  have fm6_13 : m6 13 = F13 := by rw [em6, zUp_fn (by decide)]; exact fm5_13
  clear em6
  refine zw_7 zr_61_48 rfl ?_
  refine zw_46r (s := 2) zr_61_49 rfl rfl rfl rfl ?_
  refine zw_push zr_61_52 ?_
  refine zw_7 zr_61_53 rfl ?_
  refine zw_46r (s := 29) zr_61_54 rfl rfl rfl rfl ?_
  refine zw_push zr_61_57 ?_
  refine zw_push zr_61_58 ?_
  refine zw_114 (c1 := 29) (c2 := 2) (l1 := 10) (l2 := 10) zr_61_60 rfl rfl rfl rfl (by decide) (Nat.le_of_ble_eq_true rfl) (by omega) (by omega) ?_
  intro m7 em7
  have hIm7 : zInv m7 := by rw [em7]; exact zInv.cpS hIm6 (l2 := 10) (fun _ => rfl) rfl (by decide) (by decide) (by decide)
  have hFm7 : zFr W_61_28_1 m0 m7 := by rw [em7]; exact hFm6.cp rfl
  have km7_1_0 : m7 1 0 = g0 := by rw [em7, zCp_ne (by decide)]; exact km6_1_0
  have km7_1_1 : m7 1 1 = g1 := by rw [em7, zCp_ne (by decide)]; exact km6_1_1
  have km7_1_2 : m7 1 2 = g2 := by rw [em7, zCp_ne (by decide)]; exact km6_1_2
  have km7_1_3 : m7 1 3 = g3 := by rw [em7, zCp_ne (by decide)]; exact km6_1_3
  have km7_1_4 : m7 1 4 = g4 := by rw [em7, zCp_ne (by decide)]; exact km6_1_4
  have km7_1_5 : m7 1 5 = g5 := by rw [em7, zCp_ne (by decide)]; exact km6_1_5
  have km7_28_0 : m7 28 0 = g0 := by rw [em7, zCp_ne (by decide)]; exact km6_28_0
  have km7_28_1 : m7 28 1 = g1 := by rw [em7, zCp_ne (by decide)]; exact km6_28_1
  have km7_28_2 : m7 28 2 = g2 := by rw [em7, zCp_ne (by decide)]; exact km6_28_2
  have km7_28_3 : m7 28 3 = g3 := by rw [em7, zCp_ne (by decide)]; exact km6_28_3
  have km7_28_4 : m7 28 4 = g4 := by rw [em7, zCp_ne (by decide)]; exact km6_28_4
  have km7_28_5 : m7 28 5 = g5 := by rw [em7, zCp_ne (by decide)]; exact km6_28_5
  have fm7_29 : m7 29 = zCf F29 F2 10 := by rw [em7]; exact (zCp_ff (m := m6) (c1 := 29) (c2 := 2) (n := 10) rfl rfl).trans (by rw [fm6_29, fm6_2])
  have fm7_30 : m7 30 = F30 := by rw [em7, zCp_fn (by decide)]; exact fm6_30
  have fm7_31 : m7 31 = F31 := by rw [em7, zCp_fn (by decide)]; exact fm6_31
  have fm7_32 : m7 32 = F32 := by rw [em7, zCp_fn (by decide)]; exact fm6_32
  have fm7_33 : m7 33 = F33 := by rw [em7, zCp_fn (by decide)]; exact fm6_33
  have fm7_34 : m7 34 = F34 := by rw [em7, zCp_fn (by decide)]; exact fm6_34
  have fm7_35 : m7 35 = F35 := by rw [em7, zCp_fn (by decide)]; exact fm6_35
  have fm7_36 : m7 36 = F36 := by rw [em7, zCp_fn (by decide)]; exact fm6_36
  have fm7_37 : m7 37 = F37 := by rw [em7, zCp_fn (by decide)]; exact fm6_37
  have fm7_38 : m7 38 = F38 := by rw [em7, zCp_fn (by decide)]; exact fm6_38
  have fm7_39 : m7 39 = F39 := by rw [em7, zCp_fn (by decide)]; exact fm6_39
  have fm7_40 : m7 40 = F40 := by rw [em7, zCp_fn (by decide)]; exact fm6_40
  have fm7_2 : m7 2 = F2 := by rw [em7, zCp_fn (by decide)]; exact fm6_2
  have fm7_3 : m7 3 = F3 := by rw [em7, zCp_fn (by decide)]; exact fm6_3
  have fm7_4 : m7 4 = F4 := by rw [em7, zCp_fn (by decide)]; exact fm6_4
  have fm7_5 : m7 5 = F5 := by rw [em7, zCp_fn (by decide)]; exact fm6_5
  have fm7_6 : m7 6 = F6 := by rw [em7, zCp_fn (by decide)]; exact fm6_6
  have fm7_7 : m7 7 = F7 := by rw [em7, zCp_fn (by decide)]; exact fm6_7
  have fm7_8 : m7 8 = F8 := by rw [em7, zCp_fn (by decide)]; exact fm6_8
  have fm7_9 : m7 9 = F9 := by rw [em7, zCp_fn (by decide)]; exact fm6_9
  have fm7_10 : m7 10 = F10 := by rw [em7, zCp_fn (by decide)]; exact fm6_10
  have fm7_11 : m7 11 = F11 := by rw [em7, zCp_fn (by decide)]; exact fm6_11
  have fm7_12 : m7 12 = F12 := by rw [em7, zCp_fn (by decide)]; exact fm6_12
  have fm7_13 : m7 13 = F13 := by rw [em7, zCp_fn (by decide)]; exact fm6_13
  clear em7
  refine zw_7 zr_61_63 rfl ?_
  refine zw_46r (s := 3) zr_61_64 rfl rfl rfl rfl ?_
  refine zw_push zr_61_67 ?_
  refine zw_7 zr_61_68 rfl ?_
  refine zw_46r (s := 30) zr_61_69 rfl rfl rfl rfl ?_
  refine zw_push zr_61_72 ?_
  refine zw_push zr_61_73 ?_
  refine zw_114 (c1 := 30) (c2 := 3) (l1 := 40) (l2 := 40) zr_61_75 rfl rfl rfl rfl (by decide) (Nat.le_of_ble_eq_true rfl) (by omega) (by omega) ?_
  intro m8 em8
  have hIm8 : zInv m8 := by rw [em8]; exact zInv.cpS hIm7 (l2 := 40) (fun _ => rfl) rfl (by decide) (by decide) (by decide)
  have hFm8 : zFr W_61_28_1 m0 m8 := by rw [em8]; exact hFm7.cp rfl
  have km8_1_0 : m8 1 0 = g0 := by rw [em8, zCp_ne (by decide)]; exact km7_1_0
  have km8_1_1 : m8 1 1 = g1 := by rw [em8, zCp_ne (by decide)]; exact km7_1_1
  have km8_1_2 : m8 1 2 = g2 := by rw [em8, zCp_ne (by decide)]; exact km7_1_2
  have km8_1_3 : m8 1 3 = g3 := by rw [em8, zCp_ne (by decide)]; exact km7_1_3
  have km8_1_4 : m8 1 4 = g4 := by rw [em8, zCp_ne (by decide)]; exact km7_1_4
  have km8_1_5 : m8 1 5 = g5 := by rw [em8, zCp_ne (by decide)]; exact km7_1_5
  have km8_28_0 : m8 28 0 = g0 := by rw [em8, zCp_ne (by decide)]; exact km7_28_0
  have km8_28_1 : m8 28 1 = g1 := by rw [em8, zCp_ne (by decide)]; exact km7_28_1
  have km8_28_2 : m8 28 2 = g2 := by rw [em8, zCp_ne (by decide)]; exact km7_28_2
  have km8_28_3 : m8 28 3 = g3 := by rw [em8, zCp_ne (by decide)]; exact km7_28_3
  have km8_28_4 : m8 28 4 = g4 := by rw [em8, zCp_ne (by decide)]; exact km7_28_4
  have km8_28_5 : m8 28 5 = g5 := by rw [em8, zCp_ne (by decide)]; exact km7_28_5
  have fm8_29 : m8 29 = zCf F29 F2 10 := by rw [em8, zCp_fn (by decide)]; exact fm7_29
  have fm8_30 : m8 30 = zCf F30 F3 40 := by rw [em8]; exact (zCp_ff (m := m7) (c1 := 30) (c2 := 3) (n := 40) rfl rfl).trans (by rw [fm7_30, fm7_3])
  have fm8_31 : m8 31 = F31 := by rw [em8, zCp_fn (by decide)]; exact fm7_31
  have fm8_32 : m8 32 = F32 := by rw [em8, zCp_fn (by decide)]; exact fm7_32
  have fm8_33 : m8 33 = F33 := by rw [em8, zCp_fn (by decide)]; exact fm7_33
  have fm8_34 : m8 34 = F34 := by rw [em8, zCp_fn (by decide)]; exact fm7_34
  have fm8_35 : m8 35 = F35 := by rw [em8, zCp_fn (by decide)]; exact fm7_35
  have fm8_36 : m8 36 = F36 := by rw [em8, zCp_fn (by decide)]; exact fm7_36
  have fm8_37 : m8 37 = F37 := by rw [em8, zCp_fn (by decide)]; exact fm7_37
  have fm8_38 : m8 38 = F38 := by rw [em8, zCp_fn (by decide)]; exact fm7_38
  have fm8_39 : m8 39 = F39 := by rw [em8, zCp_fn (by decide)]; exact fm7_39
  have fm8_40 : m8 40 = F40 := by rw [em8, zCp_fn (by decide)]; exact fm7_40
  have fm8_2 : m8 2 = F2 := by rw [em8, zCp_fn (by decide)]; exact fm7_2
  have fm8_3 : m8 3 = F3 := by rw [em8, zCp_fn (by decide)]; exact fm7_3
  have fm8_4 : m8 4 = F4 := by rw [em8, zCp_fn (by decide)]; exact fm7_4
  have fm8_5 : m8 5 = F5 := by rw [em8, zCp_fn (by decide)]; exact fm7_5
  have fm8_6 : m8 6 = F6 := by rw [em8, zCp_fn (by decide)]; exact fm7_6
  have fm8_7 : m8 7 = F7 := by rw [em8, zCp_fn (by decide)]; exact fm7_7
  have fm8_8 : m8 8 = F8 := by rw [em8, zCp_fn (by decide)]; exact fm7_8
  have fm8_9 : m8 9 = F9 := by rw [em8, zCp_fn (by decide)]; exact fm7_9
  have fm8_10 : m8 10 = F10 := by rw [em8, zCp_fn (by decide)]; exact fm7_10
  have fm8_11 : m8 11 = F11 := by rw [em8, zCp_fn (by decide)]; exact fm7_11
  have fm8_12 : m8 12 = F12 := by rw [em8, zCp_fn (by decide)]; exact fm7_12
  have fm8_13 : m8 13 = F13 := by rw [em8, zCp_fn (by decide)]; exact fm7_13
  clear em8
  refine zw_7 zr_61_78 rfl ?_
  refine zw_46r (s := 4) zr_61_79 rfl rfl rfl rfl ?_
  refine zw_push zr_61_82 ?_
  refine zw_7 zr_61_83 rfl ?_
  refine zw_46r (s := 31) zr_61_84 rfl rfl rfl rfl ?_
  refine zw_push zr_61_87 ?_
  refine zw_push zr_61_88 ?_
  refine zw_114 (c1 := 31) (c2 := 4) (l1 := 40) (l2 := 40) zr_61_90 rfl rfl rfl rfl (by decide) (Nat.le_of_ble_eq_true rfl) (by omega) (by omega) ?_
  intro m9 em9
  have hIm9 : zInv m9 := by rw [em9]; exact zInv.cpS hIm8 (l2 := 40) (fun _ => rfl) rfl (by decide) (by decide) (by decide)
  have hFm9 : zFr W_61_28_1 m0 m9 := by rw [em9]; exact hFm8.cp rfl
  have km9_1_0 : m9 1 0 = g0 := by rw [em9, zCp_ne (by decide)]; exact km8_1_0
  have km9_1_1 : m9 1 1 = g1 := by rw [em9, zCp_ne (by decide)]; exact km8_1_1
  have km9_1_2 : m9 1 2 = g2 := by rw [em9, zCp_ne (by decide)]; exact km8_1_2
  have km9_1_3 : m9 1 3 = g3 := by rw [em9, zCp_ne (by decide)]; exact km8_1_3
  have km9_1_4 : m9 1 4 = g4 := by rw [em9, zCp_ne (by decide)]; exact km8_1_4
  have km9_1_5 : m9 1 5 = g5 := by rw [em9, zCp_ne (by decide)]; exact km8_1_5
  have km9_28_0 : m9 28 0 = g0 := by rw [em9, zCp_ne (by decide)]; exact km8_28_0
  have km9_28_1 : m9 28 1 = g1 := by rw [em9, zCp_ne (by decide)]; exact km8_28_1
  have km9_28_2 : m9 28 2 = g2 := by rw [em9, zCp_ne (by decide)]; exact km8_28_2
  have km9_28_3 : m9 28 3 = g3 := by rw [em9, zCp_ne (by decide)]; exact km8_28_3
  have km9_28_4 : m9 28 4 = g4 := by rw [em9, zCp_ne (by decide)]; exact km8_28_4
  have km9_28_5 : m9 28 5 = g5 := by rw [em9, zCp_ne (by decide)]; exact km8_28_5
  have fm9_29 : m9 29 = zCf F29 F2 10 := by rw [em9, zCp_fn (by decide)]; exact fm8_29
  have fm9_30 : m9 30 = zCf F30 F3 40 := by rw [em9, zCp_fn (by decide)]; exact fm8_30
  have fm9_31 : m9 31 = zCf F31 F4 40 := by rw [em9]; exact (zCp_ff (m := m8) (c1 := 31) (c2 := 4) (n := 40) rfl rfl).trans (by rw [fm8_31, fm8_4])
  have fm9_32 : m9 32 = F32 := by rw [em9, zCp_fn (by decide)]; exact fm8_32
  have fm9_33 : m9 33 = F33 := by rw [em9, zCp_fn (by decide)]; exact fm8_33
  have fm9_34 : m9 34 = F34 := by rw [em9, zCp_fn (by decide)]; exact fm8_34
  have fm9_35 : m9 35 = F35 := by rw [em9, zCp_fn (by decide)]; exact fm8_35
  have fm9_36 : m9 36 = F36 := by rw [em9, zCp_fn (by decide)]; exact fm8_36
  have fm9_37 : m9 37 = F37 := by rw [em9, zCp_fn (by decide)]; exact fm8_37
  have fm9_38 : m9 38 = F38 := by rw [em9, zCp_fn (by decide)]; exact fm8_38
  have fm9_39 : m9 39 = F39 := by rw [em9, zCp_fn (by decide)]; exact fm8_39
  have fm9_40 : m9 40 = F40 := by rw [em9, zCp_fn (by decide)]; exact fm8_40
  have fm9_2 : m9 2 = F2 := by rw [em9, zCp_fn (by decide)]; exact fm8_2
  have fm9_3 : m9 3 = F3 := by rw [em9, zCp_fn (by decide)]; exact fm8_3
  have fm9_4 : m9 4 = F4 := by rw [em9, zCp_fn (by decide)]; exact fm8_4
  have fm9_5 : m9 5 = F5 := by rw [em9, zCp_fn (by decide)]; exact fm8_5
  have fm9_6 : m9 6 = F6 := by rw [em9, zCp_fn (by decide)]; exact fm8_6
  have fm9_7 : m9 7 = F7 := by rw [em9, zCp_fn (by decide)]; exact fm8_7
  have fm9_8 : m9 8 = F8 := by rw [em9, zCp_fn (by decide)]; exact fm8_8
  have fm9_9 : m9 9 = F9 := by rw [em9, zCp_fn (by decide)]; exact fm8_9
  have fm9_10 : m9 10 = F10 := by rw [em9, zCp_fn (by decide)]; exact fm8_10
  have fm9_11 : m9 11 = F11 := by rw [em9, zCp_fn (by decide)]; exact fm8_11
  have fm9_12 : m9 12 = F12 := by rw [em9, zCp_fn (by decide)]; exact fm8_12
  have fm9_13 : m9 13 = F13 := by rw [em9, zCp_fn (by decide)]; exact fm8_13
  clear em9
  refine zw_7 zr_61_93 rfl ?_
  refine zw_46r (s := 5) zr_61_94 rfl rfl rfl rfl ?_
  refine zw_push zr_61_97 ?_
  refine zw_7 zr_61_98 rfl ?_
  refine zw_46r (s := 32) zr_61_99 rfl rfl rfl rfl ?_
  refine zw_push zr_61_102 ?_
  refine zw_push zr_61_103 ?_
  refine zw_114 (c1 := 32) (c2 := 5) (l1 := 60) (l2 := 60) zr_61_105 rfl rfl rfl rfl (by decide) (Nat.le_of_ble_eq_true rfl) (by omega) (by omega) ?_
  intro m10 em10
  have hIm10 : zInv m10 := by rw [em10]; exact zInv.cpS hIm9 (l2 := 60) (fun _ => rfl) rfl (by decide) (by decide) (by decide)
  have hFm10 : zFr W_61_28_1 m0 m10 := by rw [em10]; exact hFm9.cp rfl
  have km10_1_0 : m10 1 0 = g0 := by rw [em10, zCp_ne (by decide)]; exact km9_1_0
  have km10_1_1 : m10 1 1 = g1 := by rw [em10, zCp_ne (by decide)]; exact km9_1_1
  have km10_1_2 : m10 1 2 = g2 := by rw [em10, zCp_ne (by decide)]; exact km9_1_2
  have km10_1_3 : m10 1 3 = g3 := by rw [em10, zCp_ne (by decide)]; exact km9_1_3
  have km10_1_4 : m10 1 4 = g4 := by rw [em10, zCp_ne (by decide)]; exact km9_1_4
  have km10_1_5 : m10 1 5 = g5 := by rw [em10, zCp_ne (by decide)]; exact km9_1_5
  have km10_28_0 : m10 28 0 = g0 := by rw [em10, zCp_ne (by decide)]; exact km9_28_0
  have km10_28_1 : m10 28 1 = g1 := by rw [em10, zCp_ne (by decide)]; exact km9_28_1
  have km10_28_2 : m10 28 2 = g2 := by rw [em10, zCp_ne (by decide)]; exact km9_28_2
  have km10_28_3 : m10 28 3 = g3 := by rw [em10, zCp_ne (by decide)]; exact km9_28_3
  have km10_28_4 : m10 28 4 = g4 := by rw [em10, zCp_ne (by decide)]; exact km9_28_4
  have km10_28_5 : m10 28 5 = g5 := by rw [em10, zCp_ne (by decide)]; exact km9_28_5
  have fm10_29 : m10 29 = zCf F29 F2 10 := by rw [em10, zCp_fn (by decide)]; exact fm9_29
  have fm10_30 : m10 30 = zCf F30 F3 40 := by rw [em10, zCp_fn (by decide)]; exact fm9_30
  have fm10_31 : m10 31 = zCf F31 F4 40 := by rw [em10, zCp_fn (by decide)]; exact fm9_31
  have fm10_32 : m10 32 = zCf F32 F5 60 := by rw [em10]; exact (zCp_ff (m := m9) (c1 := 32) (c2 := 5) (n := 60) rfl rfl).trans (by rw [fm9_32, fm9_5])
  have fm10_33 : m10 33 = F33 := by rw [em10, zCp_fn (by decide)]; exact fm9_33
  have fm10_34 : m10 34 = F34 := by rw [em10, zCp_fn (by decide)]; exact fm9_34
  have fm10_35 : m10 35 = F35 := by rw [em10, zCp_fn (by decide)]; exact fm9_35
  have fm10_36 : m10 36 = F36 := by rw [em10, zCp_fn (by decide)]; exact fm9_36
  have fm10_37 : m10 37 = F37 := by rw [em10, zCp_fn (by decide)]; exact fm9_37
  have fm10_38 : m10 38 = F38 := by rw [em10, zCp_fn (by decide)]; exact fm9_38
  have fm10_39 : m10 39 = F39 := by rw [em10, zCp_fn (by decide)]; exact fm9_39
  have fm10_40 : m10 40 = F40 := by rw [em10, zCp_fn (by decide)]; exact fm9_40
  have fm10_2 : m10 2 = F2 := by rw [em10, zCp_fn (by decide)]; exact fm9_2
  have fm10_3 : m10 3 = F3 := by rw [em10, zCp_fn (by decide)]; exact fm9_3
  have fm10_4 : m10 4 = F4 := by rw [em10, zCp_fn (by decide)]; exact fm9_4
  have fm10_5 : m10 5 = F5 := by rw [em10, zCp_fn (by decide)]; exact fm9_5
  have fm10_6 : m10 6 = F6 := by rw [em10, zCp_fn (by decide)]; exact fm9_6
  have fm10_7 : m10 7 = F7 := by rw [em10, zCp_fn (by decide)]; exact fm9_7
  have fm10_8 : m10 8 = F8 := by rw [em10, zCp_fn (by decide)]; exact fm9_8
  have fm10_9 : m10 9 = F9 := by rw [em10, zCp_fn (by decide)]; exact fm9_9
  have fm10_10 : m10 10 = F10 := by rw [em10, zCp_fn (by decide)]; exact fm9_10
  have fm10_11 : m10 11 = F11 := by rw [em10, zCp_fn (by decide)]; exact fm9_11
  have fm10_12 : m10 12 = F12 := by rw [em10, zCp_fn (by decide)]; exact fm9_12
  have fm10_13 : m10 13 = F13 := by rw [em10, zCp_fn (by decide)]; exact fm9_13
  clear em10
  refine zw_7 zr_61_108 rfl ?_
  refine zw_46r (s := 6) zr_61_109 rfl rfl rfl rfl ?_
  refine zw_push zr_61_112 ?_
  refine zw_7 zr_61_113 rfl ?_
  refine zw_46r (s := 33) zr_61_114 rfl rfl rfl rfl ?_
  refine zw_push zr_61_117 ?_
  refine zw_push zr_61_118 ?_
  refine zw_114 (c1 := 33) (c2 := 6) (l1 := 60) (l2 := 60) zr_61_120 rfl rfl rfl rfl (by decide) (Nat.le_of_ble_eq_true rfl) (by omega) (by omega) ?_
  intro m11 em11
  have hIm11 : zInv m11 := by rw [em11]; exact zInv.cpS hIm10 (l2 := 60) (fun _ => rfl) rfl (by decide) (by decide) (by decide)
  have hFm11 : zFr W_61_28_1 m0 m11 := by rw [em11]; exact hFm10.cp rfl
  have km11_1_0 : m11 1 0 = g0 := by rw [em11, zCp_ne (by decide)]; exact km10_1_0
  have km11_1_1 : m11 1 1 = g1 := by rw [em11, zCp_ne (by decide)]; exact km10_1_1
  have km11_1_2 : m11 1 2 = g2 := by rw [em11, zCp_ne (by decide)]; exact km10_1_2
  have km11_1_3 : m11 1 3 = g3 := by rw [em11, zCp_ne (by decide)]; exact km10_1_3
  have km11_1_4 : m11 1 4 = g4 := by rw [em11, zCp_ne (by decide)]; exact km10_1_4
  have km11_1_5 : m11 1 5 = g5 := by rw [em11, zCp_ne (by decide)]; exact km10_1_5
  have km11_28_0 : m11 28 0 = g0 := by rw [em11, zCp_ne (by decide)]; exact km10_28_0
  have km11_28_1 : m11 28 1 = g1 := by rw [em11, zCp_ne (by decide)]; exact km10_28_1
  have km11_28_2 : m11 28 2 = g2 := by rw [em11, zCp_ne (by decide)]; exact km10_28_2
  have km11_28_3 : m11 28 3 = g3 := by rw [em11, zCp_ne (by decide)]; exact km10_28_3
  have km11_28_4 : m11 28 4 = g4 := by rw [em11, zCp_ne (by decide)]; exact km10_28_4
  have km11_28_5 : m11 28 5 = g5 := by rw [em11, zCp_ne (by decide)]; exact km10_28_5
  have fm11_29 : m11 29 = zCf F29 F2 10 := by rw [em11, zCp_fn (by decide)]; exact fm10_29
  have fm11_30 : m11 30 = zCf F30 F3 40 := by rw [em11, zCp_fn (by decide)]; exact fm10_30
  have fm11_31 : m11 31 = zCf F31 F4 40 := by rw [em11, zCp_fn (by decide)]; exact fm10_31
  have fm11_32 : m11 32 = zCf F32 F5 60 := by rw [em11, zCp_fn (by decide)]; exact fm10_32
  have fm11_33 : m11 33 = zCf F33 F6 60 := by rw [em11]; exact (zCp_ff (m := m10) (c1 := 33) (c2 := 6) (n := 60) rfl rfl).trans (by rw [fm10_33, fm10_6])
  have fm11_34 : m11 34 = F34 := by rw [em11, zCp_fn (by decide)]; exact fm10_34
  have fm11_35 : m11 35 = F35 := by rw [em11, zCp_fn (by decide)]; exact fm10_35
  have fm11_36 : m11 36 = F36 := by rw [em11, zCp_fn (by decide)]; exact fm10_36
  have fm11_37 : m11 37 = F37 := by rw [em11, zCp_fn (by decide)]; exact fm10_37
  have fm11_38 : m11 38 = F38 := by rw [em11, zCp_fn (by decide)]; exact fm10_38
  have fm11_39 : m11 39 = F39 := by rw [em11, zCp_fn (by decide)]; exact fm10_39
  have fm11_40 : m11 40 = F40 := by rw [em11, zCp_fn (by decide)]; exact fm10_40
  have fm11_2 : m11 2 = F2 := by rw [em11, zCp_fn (by decide)]; exact fm10_2
  have fm11_3 : m11 3 = F3 := by rw [em11, zCp_fn (by decide)]; exact fm10_3
  have fm11_4 : m11 4 = F4 := by rw [em11, zCp_fn (by decide)]; exact fm10_4
  have fm11_5 : m11 5 = F5 := by rw [em11, zCp_fn (by decide)]; exact fm10_5
  have fm11_6 : m11 6 = F6 := by rw [em11, zCp_fn (by decide)]; exact fm10_6
  have fm11_7 : m11 7 = F7 := by rw [em11, zCp_fn (by decide)]; exact fm10_7
  have fm11_8 : m11 8 = F8 := by rw [em11, zCp_fn (by decide)]; exact fm10_8
  have fm11_9 : m11 9 = F9 := by rw [em11, zCp_fn (by decide)]; exact fm10_9
  have fm11_10 : m11 10 = F10 := by rw [em11, zCp_fn (by decide)]; exact fm10_10
  have fm11_11 : m11 11 = F11 := by rw [em11, zCp_fn (by decide)]; exact fm10_11
  have fm11_12 : m11 12 = F12 := by rw [em11, zCp_fn (by decide)]; exact fm10_12
  have fm11_13 : m11 13 = F13 := by rw [em11, zCp_fn (by decide)]; exact fm10_13
  clear em11
  refine zw_7 zr_61_123 rfl ?_
  refine zw_46r (s := 7) zr_61_124 rfl rfl rfl rfl ?_
  refine zw_push zr_61_127 ?_
  refine zw_7 zr_61_128 rfl ?_
  refine zw_46r (s := 34) zr_61_129 rfl rfl rfl rfl ?_
  refine zw_push zr_61_132 ?_
  refine zw_push zr_61_133 ?_
  refine zw_114 (c1 := 34) (c2 := 7) (l1 := 60) (l2 := 60) zr_61_135 rfl rfl rfl rfl (by decide) (Nat.le_of_ble_eq_true rfl) (by omega) (by omega) ?_
  intro m12 em12
  have hIm12 : zInv m12 := by rw [em12]; exact zInv.cpS hIm11 (l2 := 60) (fun _ => rfl) rfl (by decide) (by decide) (by decide)
  have hFm12 : zFr W_61_28_1 m0 m12 := by rw [em12]; exact hFm11.cp rfl
  have km12_1_0 : m12 1 0 = g0 := by rw [em12, zCp_ne (by decide)]; exact km11_1_0
  have km12_1_1 : m12 1 1 = g1 := by rw [em12, zCp_ne (by decide)]; exact km11_1_1
  have km12_1_2 : m12 1 2 = g2 := by rw [em12, zCp_ne (by decide)]; exact km11_1_2
  have km12_1_3 : m12 1 3 = g3 := by rw [em12, zCp_ne (by decide)]; exact km11_1_3
  have km12_1_4 : m12 1 4 = g4 := by rw [em12, zCp_ne (by decide)]; exact km11_1_4
  have km12_1_5 : m12 1 5 = g5 := by rw [em12, zCp_ne (by decide)]; exact km11_1_5
  have km12_28_0 : m12 28 0 = g0 := by rw [em12, zCp_ne (by decide)]; exact km11_28_0
  have km12_28_1 : m12 28 1 = g1 := by rw [em12, zCp_ne (by decide)]; exact km11_28_1
  have km12_28_2 : m12 28 2 = g2 := by rw [em12, zCp_ne (by decide)]; exact km11_28_2
  have km12_28_3 : m12 28 3 = g3 := by rw [em12, zCp_ne (by decide)]; exact km11_28_3
  have km12_28_4 : m12 28 4 = g4 := by rw [em12, zCp_ne (by decide)]; exact km11_28_4
  have km12_28_5 : m12 28 5 = g5 := by rw [em12, zCp_ne (by decide)]; exact km11_28_5
  have fm12_29 : m12 29 = zCf F29 F2 10 := by rw [em12, zCp_fn (by decide)]; exact fm11_29
  have fm12_30 : m12 30 = zCf F30 F3 40 := by rw [em12, zCp_fn (by decide)]; exact fm11_30
  have fm12_31 : m12 31 = zCf F31 F4 40 := by rw [em12, zCp_fn (by decide)]; exact fm11_31
  have fm12_32 : m12 32 = zCf F32 F5 60 := by rw [em12, zCp_fn (by decide)]; exact fm11_32
  have fm12_33 : m12 33 = zCf F33 F6 60 := by rw [em12, zCp_fn (by decide)]; exact fm11_33
  have fm12_34 : m12 34 = zCf F34 F7 60 := by rw [em12]; exact (zCp_ff (m := m11) (c1 := 34) (c2 := 7) (n := 60) rfl rfl).trans (by rw [fm11_34, fm11_7])
  have fm12_35 : m12 35 = F35 := by rw [em12, zCp_fn (by decide)]; exact fm11_35
  have fm12_36 : m12 36 = F36 := by rw [em12, zCp_fn (by decide)]; exact fm11_36
  have fm12_37 : m12 37 = F37 := by rw [em12, zCp_fn (by decide)]; exact fm11_37
  have fm12_38 : m12 38 = F38 := by rw [em12, zCp_fn (by decide)]; exact fm11_38
  have fm12_39 : m12 39 = F39 := by rw [em12, zCp_fn (by decide)]; exact fm11_39
  have fm12_40 : m12 40 = F40 := by rw [em12, zCp_fn (by decide)]; exact fm11_40
  have fm12_2 : m12 2 = F2 := by rw [em12, zCp_fn (by decide)]; exact fm11_2
  have fm12_3 : m12 3 = F3 := by rw [em12, zCp_fn (by decide)]; exact fm11_3
  have fm12_4 : m12 4 = F4 := by rw [em12, zCp_fn (by decide)]; exact fm11_4
  have fm12_5 : m12 5 = F5 := by rw [em12, zCp_fn (by decide)]; exact fm11_5
  have fm12_6 : m12 6 = F6 := by rw [em12, zCp_fn (by decide)]; exact fm11_6
  have fm12_7 : m12 7 = F7 := by rw [em12, zCp_fn (by decide)]; exact fm11_7
  have fm12_8 : m12 8 = F8 := by rw [em12, zCp_fn (by decide)]; exact fm11_8
  have fm12_9 : m12 9 = F9 := by rw [em12, zCp_fn (by decide)]; exact fm11_9
  have fm12_10 : m12 10 = F10 := by rw [em12, zCp_fn (by decide)]; exact fm11_10
  have fm12_11 : m12 11 = F11 := by rw [em12, zCp_fn (by decide)]; exact fm11_11
  have fm12_12 : m12 12 = F12 := by rw [em12, zCp_fn (by decide)]; exact fm11_12
  have fm12_13 : m12 13 = F13 := by rw [em12, zCp_fn (by decide)]; exact fm11_13
  clear em12
  refine zw_7 zr_61_138 rfl ?_
  refine zw_46r (s := 8) zr_61_139 rfl rfl rfl rfl ?_
  refine zw_push zr_61_142 ?_
  refine zw_7 zr_61_143 rfl ?_
  refine zw_46r (s := 35) zr_61_144 rfl rfl rfl rfl ?_
  refine zw_push zr_61_147 ?_
  refine zw_push zr_61_148 ?_
  refine zw_114 (c1 := 35) (c2 := 8) (l1 := 60) (l2 := 60) zr_61_150 rfl rfl rfl rfl (by decide) (Nat.le_of_ble_eq_true rfl) (by omega) (by omega) ?_
  intro m13 em13
  have hIm13 : zInv m13 := by rw [em13]; exact zInv.cpS hIm12 (l2 := 60) (fun _ => rfl) rfl (by decide) (by decide) (by decide)
  have hFm13 : zFr W_61_28_1 m0 m13 := by rw [em13]; exact hFm12.cp rfl
  have km13_1_0 : m13 1 0 = g0 := by rw [em13, zCp_ne (by decide)]; exact km12_1_0
  have km13_1_1 : m13 1 1 = g1 := by rw [em13, zCp_ne (by decide)]; exact km12_1_1
  have km13_1_2 : m13 1 2 = g2 := by rw [em13, zCp_ne (by decide)]; exact km12_1_2
  have km13_1_3 : m13 1 3 = g3 := by rw [em13, zCp_ne (by decide)]; exact km12_1_3
  have km13_1_4 : m13 1 4 = g4 := by rw [em13, zCp_ne (by decide)]; exact km12_1_4
  have km13_1_5 : m13 1 5 = g5 := by rw [em13, zCp_ne (by decide)]; exact km12_1_5
  have km13_28_0 : m13 28 0 = g0 := by rw [em13, zCp_ne (by decide)]; exact km12_28_0
  have km13_28_1 : m13 28 1 = g1 := by rw [em13, zCp_ne (by decide)]; exact km12_28_1
  have km13_28_2 : m13 28 2 = g2 := by rw [em13, zCp_ne (by decide)]; exact km12_28_2
  have km13_28_3 : m13 28 3 = g3 := by rw [em13, zCp_ne (by decide)]; exact km12_28_3
  have km13_28_4 : m13 28 4 = g4 := by rw [em13, zCp_ne (by decide)]; exact km12_28_4
  have km13_28_5 : m13 28 5 = g5 := by rw [em13, zCp_ne (by decide)]; exact km12_28_5
  have fm13_29 : m13 29 = zCf F29 F2 10 := by rw [em13, zCp_fn (by decide)]; exact fm12_29
  have fm13_30 : m13 30 = zCf F30 F3 40 := by rw [em13, zCp_fn (by decide)]; exact fm12_30
  have fm13_31 : m13 31 = zCf F31 F4 40 := by rw [em13, zCp_fn (by decide)]; exact fm12_31
  have fm13_32 : m13 32 = zCf F32 F5 60 := by rw [em13, zCp_fn (by decide)]; exact fm12_32
  have fm13_33 : m13 33 = zCf F33 F6 60 := by rw [em13, zCp_fn (by decide)]; exact fm12_33
  have fm13_34 : m13 34 = zCf F34 F7 60 := by rw [em13, zCp_fn (by decide)]; exact fm12_34
  have fm13_35 : m13 35 = zCf F35 F8 60 := by rw [em13]; exact (zCp_ff (m := m12) (c1 := 35) (c2 := 8) (n := 60) rfl rfl).trans (by rw [fm12_35, fm12_8])
  have fm13_36 : m13 36 = F36 := by rw [em13, zCp_fn (by decide)]; exact fm12_36
  have fm13_37 : m13 37 = F37 := by rw [em13, zCp_fn (by decide)]; exact fm12_37
  have fm13_38 : m13 38 = F38 := by rw [em13, zCp_fn (by decide)]; exact fm12_38
  have fm13_39 : m13 39 = F39 := by rw [em13, zCp_fn (by decide)]; exact fm12_39
  have fm13_40 : m13 40 = F40 := by rw [em13, zCp_fn (by decide)]; exact fm12_40
  have fm13_2 : m13 2 = F2 := by rw [em13, zCp_fn (by decide)]; exact fm12_2
  have fm13_3 : m13 3 = F3 := by rw [em13, zCp_fn (by decide)]; exact fm12_3
  have fm13_4 : m13 4 = F4 := by rw [em13, zCp_fn (by decide)]; exact fm12_4
  have fm13_5 : m13 5 = F5 := by rw [em13, zCp_fn (by decide)]; exact fm12_5
  have fm13_6 : m13 6 = F6 := by rw [em13, zCp_fn (by decide)]; exact fm12_6
  have fm13_7 : m13 7 = F7 := by rw [em13, zCp_fn (by decide)]; exact fm12_7
  have fm13_8 : m13 8 = F8 := by rw [em13, zCp_fn (by decide)]; exact fm12_8
  have fm13_9 : m13 9 = F9 := by rw [em13, zCp_fn (by decide)]; exact fm12_9
  have fm13_10 : m13 10 = F10 := by rw [em13, zCp_fn (by decide)]; exact fm12_10
  have fm13_11 : m13 11 = F11 := by rw [em13, zCp_fn (by decide)]; exact fm12_11
  have fm13_12 : m13 12 = F12 := by rw [em13, zCp_fn (by decide)]; exact fm12_12
  have fm13_13 : m13 13 = F13 := by rw [em13, zCp_fn (by decide)]; exact fm12_13
  clear em13
  refine zw_7 zr_61_153 rfl ?_
  refine zw_46r (s := 9) zr_61_154 rfl rfl rfl rfl ?_
  refine zw_push zr_61_157 ?_
  refine zw_7 zr_61_158 rfl ?_
  refine zw_46r (s := 36) zr_61_159 rfl rfl rfl rfl ?_
  refine zw_push zr_61_162 ?_
  refine zw_push zr_61_163 ?_
  refine zw_114 (c1 := 36) (c2 := 9) (l1 := 4) (l2 := 4) zr_61_164 rfl rfl rfl rfl (by decide) (Nat.le_of_ble_eq_true rfl) (by omega) (by omega) ?_
  intro m14 em14
  have hIm14 : zInv m14 := by rw [em14]; exact zInv.cpS hIm13 (l2 := 4) (fun _ => rfl) rfl (by decide) (by decide) (by decide)
  have hFm14 : zFr W_61_28_1 m0 m14 := by rw [em14]; exact hFm13.cp rfl
  have km14_1_0 : m14 1 0 = g0 := by rw [em14, zCp_ne (by decide)]; exact km13_1_0
  have km14_1_1 : m14 1 1 = g1 := by rw [em14, zCp_ne (by decide)]; exact km13_1_1
  have km14_1_2 : m14 1 2 = g2 := by rw [em14, zCp_ne (by decide)]; exact km13_1_2
  have km14_1_3 : m14 1 3 = g3 := by rw [em14, zCp_ne (by decide)]; exact km13_1_3
  have km14_1_4 : m14 1 4 = g4 := by rw [em14, zCp_ne (by decide)]; exact km13_1_4
  have km14_1_5 : m14 1 5 = g5 := by rw [em14, zCp_ne (by decide)]; exact km13_1_5
  have km14_28_0 : m14 28 0 = g0 := by rw [em14, zCp_ne (by decide)]; exact km13_28_0
  have km14_28_1 : m14 28 1 = g1 := by rw [em14, zCp_ne (by decide)]; exact km13_28_1
  have km14_28_2 : m14 28 2 = g2 := by rw [em14, zCp_ne (by decide)]; exact km13_28_2
  have km14_28_3 : m14 28 3 = g3 := by rw [em14, zCp_ne (by decide)]; exact km13_28_3
  have km14_28_4 : m14 28 4 = g4 := by rw [em14, zCp_ne (by decide)]; exact km13_28_4
  have km14_28_5 : m14 28 5 = g5 := by rw [em14, zCp_ne (by decide)]; exact km13_28_5
  have fm14_29 : m14 29 = zCf F29 F2 10 := by rw [em14, zCp_fn (by decide)]; exact fm13_29
  have fm14_30 : m14 30 = zCf F30 F3 40 := by rw [em14, zCp_fn (by decide)]; exact fm13_30
  have fm14_31 : m14 31 = zCf F31 F4 40 := by rw [em14, zCp_fn (by decide)]; exact fm13_31
  have fm14_32 : m14 32 = zCf F32 F5 60 := by rw [em14, zCp_fn (by decide)]; exact fm13_32
  have fm14_33 : m14 33 = zCf F33 F6 60 := by rw [em14, zCp_fn (by decide)]; exact fm13_33
  have fm14_34 : m14 34 = zCf F34 F7 60 := by rw [em14, zCp_fn (by decide)]; exact fm13_34
  have fm14_35 : m14 35 = zCf F35 F8 60 := by rw [em14, zCp_fn (by decide)]; exact fm13_35
  have fm14_36 : m14 36 = zCf F36 F9 4 := by rw [em14]; exact (zCp_ff (m := m13) (c1 := 36) (c2 := 9) (n := 4) rfl rfl).trans (by rw [fm13_36, fm13_9])
  have fm14_37 : m14 37 = F37 := by rw [em14, zCp_fn (by decide)]; exact fm13_37
  have fm14_38 : m14 38 = F38 := by rw [em14, zCp_fn (by decide)]; exact fm13_38
  have fm14_39 : m14 39 = F39 := by rw [em14, zCp_fn (by decide)]; exact fm13_39
  have fm14_40 : m14 40 = F40 := by rw [em14, zCp_fn (by decide)]; exact fm13_40
  have fm14_2 : m14 2 = F2 := by rw [em14, zCp_fn (by decide)]; exact fm13_2
  have fm14_3 : m14 3 = F3 := by rw [em14, zCp_fn (by decide)]; exact fm13_3
  have fm14_4 : m14 4 = F4 := by rw [em14, zCp_fn (by decide)]; exact fm13_4
  have fm14_5 : m14 5 = F5 := by rw [em14, zCp_fn (by decide)]; exact fm13_5
  have fm14_6 : m14 6 = F6 := by rw [em14, zCp_fn (by decide)]; exact fm13_6
  have fm14_7 : m14 7 = F7 := by rw [em14, zCp_fn (by decide)]; exact fm13_7
  have fm14_8 : m14 8 = F8 := by rw [em14, zCp_fn (by decide)]; exact fm13_8
  have fm14_9 : m14 9 = F9 := by rw [em14, zCp_fn (by decide)]; exact fm13_9
  have fm14_10 : m14 10 = F10 := by rw [em14, zCp_fn (by decide)]; exact fm13_10
  have fm14_11 : m14 11 = F11 := by rw [em14, zCp_fn (by decide)]; exact fm13_11
  have fm14_12 : m14 12 = F12 := by rw [em14, zCp_fn (by decide)]; exact fm13_12
  have fm14_13 : m14 13 = F13 := by rw [em14, zCp_fn (by decide)]; exact fm13_13
  clear em14
  refine zw_7 zr_61_167 rfl ?_
  refine zw_46r (s := 10) zr_61_168 rfl rfl rfl rfl ?_
  refine zw_push zr_61_171 ?_
  refine zw_7 zr_61_172 rfl ?_
  refine zw_46r (s := 37) zr_61_173 rfl rfl rfl rfl ?_
  refine zw_push zr_61_176 ?_
  refine zw_push zr_61_177 ?_
  refine zw_114 (c1 := 37) (c2 := 10) (l1 := 4) (l2 := 4) zr_61_178 rfl rfl rfl rfl (by decide) (Nat.le_of_ble_eq_true rfl) (by omega) (by omega) ?_
  intro m15 em15
  have hIm15 : zInv m15 := by rw [em15]; exact zInv.cpS hIm14 (l2 := 4) (fun _ => rfl) rfl (by decide) (by decide) (by decide)
  have hFm15 : zFr W_61_28_1 m0 m15 := by rw [em15]; exact hFm14.cp rfl
  have km15_1_0 : m15 1 0 = g0 := by rw [em15, zCp_ne (by decide)]; exact km14_1_0
  have km15_1_1 : m15 1 1 = g1 := by rw [em15, zCp_ne (by decide)]; exact km14_1_1
  have km15_1_2 : m15 1 2 = g2 := by rw [em15, zCp_ne (by decide)]; exact km14_1_2
  have km15_1_3 : m15 1 3 = g3 := by rw [em15, zCp_ne (by decide)]; exact km14_1_3
  have km15_1_4 : m15 1 4 = g4 := by rw [em15, zCp_ne (by decide)]; exact km14_1_4
  have km15_1_5 : m15 1 5 = g5 := by rw [em15, zCp_ne (by decide)]; exact km14_1_5
  have km15_28_0 : m15 28 0 = g0 := by rw [em15, zCp_ne (by decide)]; exact km14_28_0
  have km15_28_1 : m15 28 1 = g1 := by rw [em15, zCp_ne (by decide)]; exact km14_28_1
  have km15_28_2 : m15 28 2 = g2 := by rw [em15, zCp_ne (by decide)]; exact km14_28_2
  have km15_28_3 : m15 28 3 = g3 := by rw [em15, zCp_ne (by decide)]; exact km14_28_3
  have km15_28_4 : m15 28 4 = g4 := by rw [em15, zCp_ne (by decide)]; exact km14_28_4
  have km15_28_5 : m15 28 5 = g5 := by rw [em15, zCp_ne (by decide)]; exact km14_28_5
  have fm15_29 : m15 29 = zCf F29 F2 10 := by rw [em15, zCp_fn (by decide)]; exact fm14_29
  have fm15_30 : m15 30 = zCf F30 F3 40 := by rw [em15, zCp_fn (by decide)]; exact fm14_30
  have fm15_31 : m15 31 = zCf F31 F4 40 := by rw [em15, zCp_fn (by decide)]; exact fm14_31
  have fm15_32 : m15 32 = zCf F32 F5 60 := by rw [em15, zCp_fn (by decide)]; exact fm14_32
  have fm15_33 : m15 33 = zCf F33 F6 60 := by rw [em15, zCp_fn (by decide)]; exact fm14_33
  have fm15_34 : m15 34 = zCf F34 F7 60 := by rw [em15, zCp_fn (by decide)]; exact fm14_34
  have fm15_35 : m15 35 = zCf F35 F8 60 := by rw [em15, zCp_fn (by decide)]; exact fm14_35
  have fm15_36 : m15 36 = zCf F36 F9 4 := by rw [em15, zCp_fn (by decide)]; exact fm14_36
  have fm15_37 : m15 37 = zCf F37 F10 4 := by rw [em15]; exact (zCp_ff (m := m14) (c1 := 37) (c2 := 10) (n := 4) rfl rfl).trans (by rw [fm14_37, fm14_10])
  have fm15_38 : m15 38 = F38 := by rw [em15, zCp_fn (by decide)]; exact fm14_38
  have fm15_39 : m15 39 = F39 := by rw [em15, zCp_fn (by decide)]; exact fm14_39
  have fm15_40 : m15 40 = F40 := by rw [em15, zCp_fn (by decide)]; exact fm14_40
  have fm15_2 : m15 2 = F2 := by rw [em15, zCp_fn (by decide)]; exact fm14_2
  have fm15_3 : m15 3 = F3 := by rw [em15, zCp_fn (by decide)]; exact fm14_3
  have fm15_4 : m15 4 = F4 := by rw [em15, zCp_fn (by decide)]; exact fm14_4
  have fm15_5 : m15 5 = F5 := by rw [em15, zCp_fn (by decide)]; exact fm14_5
  have fm15_6 : m15 6 = F6 := by rw [em15, zCp_fn (by decide)]; exact fm14_6
  have fm15_7 : m15 7 = F7 := by rw [em15, zCp_fn (by decide)]; exact fm14_7
  have fm15_8 : m15 8 = F8 := by rw [em15, zCp_fn (by decide)]; exact fm14_8
  have fm15_9 : m15 9 = F9 := by rw [em15, zCp_fn (by decide)]; exact fm14_9
  have fm15_10 : m15 10 = F10 := by rw [em15, zCp_fn (by decide)]; exact fm14_10
  have fm15_11 : m15 11 = F11 := by rw [em15, zCp_fn (by decide)]; exact fm14_11
  have fm15_12 : m15 12 = F12 := by rw [em15, zCp_fn (by decide)]; exact fm14_12
  have fm15_13 : m15 13 = F13 := by rw [em15, zCp_fn (by decide)]; exact fm14_13
  clear em15
  refine zw_7 zr_61_181 rfl ?_
  refine zw_46r (s := 11) zr_61_182 rfl rfl rfl rfl ?_
  refine zw_push zr_61_185 ?_
  refine zw_7 zr_61_186 rfl ?_
  refine zw_46r (s := 38) zr_61_187 rfl rfl rfl rfl ?_
  refine zw_push zr_61_190 ?_
  refine zw_push zr_61_191 ?_
  refine zw_114 (c1 := 38) (c2 := 11) (l1 := 200) (l2 := 200) zr_61_194 rfl rfl rfl rfl (by decide) (Nat.le_of_ble_eq_true rfl) (by omega) (by omega) ?_
  intro m16 em16
  have hIm16 : zInv m16 := by rw [em16]; exact zInv.cpS hIm15 (l2 := 200) (fun _ => rfl) rfl (by decide) (by decide) (by decide)
  have hFm16 : zFr W_61_28_1 m0 m16 := by rw [em16]; exact hFm15.cp rfl
  have km16_1_0 : m16 1 0 = g0 := by rw [em16, zCp_ne (by decide)]; exact km15_1_0
  have km16_1_1 : m16 1 1 = g1 := by rw [em16, zCp_ne (by decide)]; exact km15_1_1
  have km16_1_2 : m16 1 2 = g2 := by rw [em16, zCp_ne (by decide)]; exact km15_1_2
  have km16_1_3 : m16 1 3 = g3 := by rw [em16, zCp_ne (by decide)]; exact km15_1_3
  have km16_1_4 : m16 1 4 = g4 := by rw [em16, zCp_ne (by decide)]; exact km15_1_4
  have km16_1_5 : m16 1 5 = g5 := by rw [em16, zCp_ne (by decide)]; exact km15_1_5
  have km16_28_0 : m16 28 0 = g0 := by rw [em16, zCp_ne (by decide)]; exact km15_28_0
  have km16_28_1 : m16 28 1 = g1 := by rw [em16, zCp_ne (by decide)]; exact km15_28_1
  have km16_28_2 : m16 28 2 = g2 := by rw [em16, zCp_ne (by decide)]; exact km15_28_2
  have km16_28_3 : m16 28 3 = g3 := by rw [em16, zCp_ne (by decide)]; exact km15_28_3
  have km16_28_4 : m16 28 4 = g4 := by rw [em16, zCp_ne (by decide)]; exact km15_28_4
  have km16_28_5 : m16 28 5 = g5 := by rw [em16, zCp_ne (by decide)]; exact km15_28_5
  have fm16_29 : m16 29 = zCf F29 F2 10 := by rw [em16, zCp_fn (by decide)]; exact fm15_29
  have fm16_30 : m16 30 = zCf F30 F3 40 := by rw [em16, zCp_fn (by decide)]; exact fm15_30
  have fm16_31 : m16 31 = zCf F31 F4 40 := by rw [em16, zCp_fn (by decide)]; exact fm15_31
  have fm16_32 : m16 32 = zCf F32 F5 60 := by rw [em16, zCp_fn (by decide)]; exact fm15_32
  have fm16_33 : m16 33 = zCf F33 F6 60 := by rw [em16, zCp_fn (by decide)]; exact fm15_33
  have fm16_34 : m16 34 = zCf F34 F7 60 := by rw [em16, zCp_fn (by decide)]; exact fm15_34
  have fm16_35 : m16 35 = zCf F35 F8 60 := by rw [em16, zCp_fn (by decide)]; exact fm15_35
  have fm16_36 : m16 36 = zCf F36 F9 4 := by rw [em16, zCp_fn (by decide)]; exact fm15_36
  have fm16_37 : m16 37 = zCf F37 F10 4 := by rw [em16, zCp_fn (by decide)]; exact fm15_37
  have fm16_38 : m16 38 = zCf F38 F11 200 := by rw [em16]; exact (zCp_ff (m := m15) (c1 := 38) (c2 := 11) (n := 200) rfl rfl).trans (by rw [fm15_38, fm15_11])
  have fm16_39 : m16 39 = F39 := by rw [em16, zCp_fn (by decide)]; exact fm15_39
  have fm16_40 : m16 40 = F40 := by rw [em16, zCp_fn (by decide)]; exact fm15_40
  have fm16_2 : m16 2 = F2 := by rw [em16, zCp_fn (by decide)]; exact fm15_2
  have fm16_3 : m16 3 = F3 := by rw [em16, zCp_fn (by decide)]; exact fm15_3
  have fm16_4 : m16 4 = F4 := by rw [em16, zCp_fn (by decide)]; exact fm15_4
  have fm16_5 : m16 5 = F5 := by rw [em16, zCp_fn (by decide)]; exact fm15_5
  have fm16_6 : m16 6 = F6 := by rw [em16, zCp_fn (by decide)]; exact fm15_6
  have fm16_7 : m16 7 = F7 := by rw [em16, zCp_fn (by decide)]; exact fm15_7
  have fm16_8 : m16 8 = F8 := by rw [em16, zCp_fn (by decide)]; exact fm15_8
  have fm16_9 : m16 9 = F9 := by rw [em16, zCp_fn (by decide)]; exact fm15_9
  have fm16_10 : m16 10 = F10 := by rw [em16, zCp_fn (by decide)]; exact fm15_10
  have fm16_11 : m16 11 = F11 := by rw [em16, zCp_fn (by decide)]; exact fm15_11
  have fm16_12 : m16 12 = F12 := by rw [em16, zCp_fn (by decide)]; exact fm15_12
  have fm16_13 : m16 13 = F13 := by rw [em16, zCp_fn (by decide)]; exact fm15_13
  clear em16
  refine zw_7 zr_61_197 rfl ?_
  refine zw_46r (s := 12) zr_61_198 rfl rfl rfl rfl ?_
  refine zw_push zr_61_201 ?_
  refine zw_7 zr_61_202 rfl ?_
  refine zw_46r (s := 39) zr_61_203 rfl rfl rfl rfl ?_
  refine zw_push zr_61_206 ?_
  refine zw_push zr_61_207 ?_
  refine zw_114 (c1 := 39) (c2 := 12) (l1 := 160) (l2 := 160) zr_61_210 rfl rfl rfl rfl (by decide) (Nat.le_of_ble_eq_true rfl) (by omega) (by omega) ?_
  intro m17 em17
  have hIm17 : zInv m17 := by rw [em17]; exact zInv.cpS hIm16 (l2 := 160) (fun _ => rfl) rfl (by decide) (by decide) (by decide)
  have hFm17 : zFr W_61_28_1 m0 m17 := by rw [em17]; exact hFm16.cp rfl
  have km17_1_0 : m17 1 0 = g0 := by rw [em17, zCp_ne (by decide)]; exact km16_1_0
  have km17_1_1 : m17 1 1 = g1 := by rw [em17, zCp_ne (by decide)]; exact km16_1_1
  have km17_1_2 : m17 1 2 = g2 := by rw [em17, zCp_ne (by decide)]; exact km16_1_2
  have km17_1_3 : m17 1 3 = g3 := by rw [em17, zCp_ne (by decide)]; exact km16_1_3
  have km17_1_4 : m17 1 4 = g4 := by rw [em17, zCp_ne (by decide)]; exact km16_1_4
  have km17_1_5 : m17 1 5 = g5 := by rw [em17, zCp_ne (by decide)]; exact km16_1_5
  have km17_28_0 : m17 28 0 = g0 := by rw [em17, zCp_ne (by decide)]; exact km16_28_0
  have km17_28_1 : m17 28 1 = g1 := by rw [em17, zCp_ne (by decide)]; exact km16_28_1
  have km17_28_2 : m17 28 2 = g2 := by rw [em17, zCp_ne (by decide)]; exact km16_28_2
  have km17_28_3 : m17 28 3 = g3 := by rw [em17, zCp_ne (by decide)]; exact km16_28_3
  have km17_28_4 : m17 28 4 = g4 := by rw [em17, zCp_ne (by decide)]; exact km16_28_4
  have km17_28_5 : m17 28 5 = g5 := by rw [em17, zCp_ne (by decide)]; exact km16_28_5
  have fm17_29 : m17 29 = zCf F29 F2 10 := by rw [em17, zCp_fn (by decide)]; exact fm16_29
  have fm17_30 : m17 30 = zCf F30 F3 40 := by rw [em17, zCp_fn (by decide)]; exact fm16_30
  have fm17_31 : m17 31 = zCf F31 F4 40 := by rw [em17, zCp_fn (by decide)]; exact fm16_31
  have fm17_32 : m17 32 = zCf F32 F5 60 := by rw [em17, zCp_fn (by decide)]; exact fm16_32
  have fm17_33 : m17 33 = zCf F33 F6 60 := by rw [em17, zCp_fn (by decide)]; exact fm16_33
  have fm17_34 : m17 34 = zCf F34 F7 60 := by rw [em17, zCp_fn (by decide)]; exact fm16_34
  have fm17_35 : m17 35 = zCf F35 F8 60 := by rw [em17, zCp_fn (by decide)]; exact fm16_35
  have fm17_36 : m17 36 = zCf F36 F9 4 := by rw [em17, zCp_fn (by decide)]; exact fm16_36
  have fm17_37 : m17 37 = zCf F37 F10 4 := by rw [em17, zCp_fn (by decide)]; exact fm16_37
  have fm17_38 : m17 38 = zCf F38 F11 200 := by rw [em17, zCp_fn (by decide)]; exact fm16_38
  have fm17_39 : m17 39 = zCf F39 F12 160 := by rw [em17]; exact (zCp_ff (m := m16) (c1 := 39) (c2 := 12) (n := 160) rfl rfl).trans (by rw [fm16_39, fm16_12])
  have fm17_40 : m17 40 = F40 := by rw [em17, zCp_fn (by decide)]; exact fm16_40
  have fm17_2 : m17 2 = F2 := by rw [em17, zCp_fn (by decide)]; exact fm16_2
  have fm17_3 : m17 3 = F3 := by rw [em17, zCp_fn (by decide)]; exact fm16_3
  have fm17_4 : m17 4 = F4 := by rw [em17, zCp_fn (by decide)]; exact fm16_4
  have fm17_5 : m17 5 = F5 := by rw [em17, zCp_fn (by decide)]; exact fm16_5
  have fm17_6 : m17 6 = F6 := by rw [em17, zCp_fn (by decide)]; exact fm16_6
  have fm17_7 : m17 7 = F7 := by rw [em17, zCp_fn (by decide)]; exact fm16_7
  have fm17_8 : m17 8 = F8 := by rw [em17, zCp_fn (by decide)]; exact fm16_8
  have fm17_9 : m17 9 = F9 := by rw [em17, zCp_fn (by decide)]; exact fm16_9
  have fm17_10 : m17 10 = F10 := by rw [em17, zCp_fn (by decide)]; exact fm16_10
  have fm17_11 : m17 11 = F11 := by rw [em17, zCp_fn (by decide)]; exact fm16_11
  have fm17_12 : m17 12 = F12 := by rw [em17, zCp_fn (by decide)]; exact fm16_12
  have fm17_13 : m17 13 = F13 := by rw [em17, zCp_fn (by decide)]; exact fm16_13
  clear em17
  refine zw_7 zr_61_213 rfl ?_
  refine zw_46r (s := 13) zr_61_214 rfl rfl rfl rfl ?_
  refine zw_push zr_61_217 ?_
  refine zw_7 zr_61_218 rfl ?_
  refine zw_46r (s := 40) zr_61_219 rfl rfl rfl rfl ?_
  refine zw_push zr_61_222 ?_
  refine zw_push zr_61_223 ?_
  refine zw_114 (c1 := 40) (c2 := 13) (l1 := 4) (l2 := 4) zr_61_224 rfl rfl rfl rfl (by decide) (Nat.le_of_ble_eq_true rfl) (by omega) (by omega) ?_
  intro m18 em18
  have hIm18 : zInv m18 := by rw [em18]; exact zInv.cpS hIm17 (l2 := 4) (fun _ => rfl) rfl (by decide) (by decide) (by decide)
  have hFm18 : zFr W_61_28_1 m0 m18 := by rw [em18]; exact hFm17.cp rfl
  have km18_1_0 : m18 1 0 = g0 := by rw [em18, zCp_ne (by decide)]; exact km17_1_0
  have km18_1_1 : m18 1 1 = g1 := by rw [em18, zCp_ne (by decide)]; exact km17_1_1
  have km18_1_2 : m18 1 2 = g2 := by rw [em18, zCp_ne (by decide)]; exact km17_1_2
  have km18_1_3 : m18 1 3 = g3 := by rw [em18, zCp_ne (by decide)]; exact km17_1_3
  have km18_1_4 : m18 1 4 = g4 := by rw [em18, zCp_ne (by decide)]; exact km17_1_4
  have km18_1_5 : m18 1 5 = g5 := by rw [em18, zCp_ne (by decide)]; exact km17_1_5
  have km18_28_0 : m18 28 0 = g0 := by rw [em18, zCp_ne (by decide)]; exact km17_28_0
  have km18_28_1 : m18 28 1 = g1 := by rw [em18, zCp_ne (by decide)]; exact km17_28_1
  have km18_28_2 : m18 28 2 = g2 := by rw [em18, zCp_ne (by decide)]; exact km17_28_2
  have km18_28_3 : m18 28 3 = g3 := by rw [em18, zCp_ne (by decide)]; exact km17_28_3
  have km18_28_4 : m18 28 4 = g4 := by rw [em18, zCp_ne (by decide)]; exact km17_28_4
  have km18_28_5 : m18 28 5 = g5 := by rw [em18, zCp_ne (by decide)]; exact km17_28_5
  have fm18_29 : m18 29 = zCf F29 F2 10 := by rw [em18, zCp_fn (by decide)]; exact fm17_29
  have fm18_30 : m18 30 = zCf F30 F3 40 := by rw [em18, zCp_fn (by decide)]; exact fm17_30
  have fm18_31 : m18 31 = zCf F31 F4 40 := by rw [em18, zCp_fn (by decide)]; exact fm17_31
  have fm18_32 : m18 32 = zCf F32 F5 60 := by rw [em18, zCp_fn (by decide)]; exact fm17_32
  have fm18_33 : m18 33 = zCf F33 F6 60 := by rw [em18, zCp_fn (by decide)]; exact fm17_33
  have fm18_34 : m18 34 = zCf F34 F7 60 := by rw [em18, zCp_fn (by decide)]; exact fm17_34
  have fm18_35 : m18 35 = zCf F35 F8 60 := by rw [em18, zCp_fn (by decide)]; exact fm17_35
  have fm18_36 : m18 36 = zCf F36 F9 4 := by rw [em18, zCp_fn (by decide)]; exact fm17_36
  have fm18_37 : m18 37 = zCf F37 F10 4 := by rw [em18, zCp_fn (by decide)]; exact fm17_37
  have fm18_38 : m18 38 = zCf F38 F11 200 := by rw [em18, zCp_fn (by decide)]; exact fm17_38
  have fm18_39 : m18 39 = zCf F39 F12 160 := by rw [em18, zCp_fn (by decide)]; exact fm17_39
  have fm18_40 : m18 40 = zCf F40 F13 4 := by rw [em18]; exact (zCp_ff (m := m17) (c1 := 40) (c2 := 13) (n := 4) rfl rfl).trans (by rw [fm17_40, fm17_13])
  have fm18_2 : m18 2 = F2 := by rw [em18, zCp_fn (by decide)]; exact fm17_2
  have fm18_3 : m18 3 = F3 := by rw [em18, zCp_fn (by decide)]; exact fm17_3
  have fm18_4 : m18 4 = F4 := by rw [em18, zCp_fn (by decide)]; exact fm17_4
  have fm18_5 : m18 5 = F5 := by rw [em18, zCp_fn (by decide)]; exact fm17_5
  have fm18_6 : m18 6 = F6 := by rw [em18, zCp_fn (by decide)]; exact fm17_6
  have fm18_7 : m18 7 = F7 := by rw [em18, zCp_fn (by decide)]; exact fm17_7
  have fm18_8 : m18 8 = F8 := by rw [em18, zCp_fn (by decide)]; exact fm17_8
  have fm18_9 : m18 9 = F9 := by rw [em18, zCp_fn (by decide)]; exact fm17_9
  have fm18_10 : m18 10 = F10 := by rw [em18, zCp_fn (by decide)]; exact fm17_10
  have fm18_11 : m18 11 = F11 := by rw [em18, zCp_fn (by decide)]; exact fm17_11
  have fm18_12 : m18 12 = F12 := by rw [em18, zCp_fn (by decide)]; exact fm17_12
  have fm18_13 : m18 13 = F13 := by rw [em18, zCp_fn (by decide)]; exact fm17_13
  clear em18
  refine zw_R zr_61_227 (by decide) zm_61 (v := (9, 0)) rfl ?_
  rw [← hQ]; exact ⟨rfl, hIm18, hFm18, ⟨(km18_28_0.trans hg0.symm), (km18_28_1.trans hg1.symm), (km18_28_2.trans hg2.symm), (km18_28_3.trans hg3.symm), (km18_28_4.trans hg4.symm), (km18_28_5.trans hg5.symm), fun k hk => by rw [fm18_29, hG2]; exact zCf_lt hk, fun k hk => by rw [fm18_30, hG3]; exact zCf_lt hk, fun k hk => by rw [fm18_31, hG4]; exact zCf_lt hk, fun k hk => by rw [fm18_32, hG5]; exact zCf_lt hk, fun k hk => by rw [fm18_33, hG6]; exact zCf_lt hk, fun k hk => by rw [fm18_34, hG7]; exact zCf_lt hk, fun k hk => by rw [fm18_35, hG8]; exact zCf_lt hk, fun k hk => by rw [fm18_36, hG9]; exact zCf_lt hk, fun k hk => by rw [fm18_37, hG10]; exact zCf_lt hk, fun k hk => by rw [fm18_38, hG11]; exact zCf_lt hk, fun k hk => by rw [fm18_39, hG12]; exact zCf_lt hk, fun k hk => by rw [fm18_40, hG13]; exact zCf_lt hk⟩⟩

abbrev W_134 : List (Nat × Nat) := [(15, 0), (15, 1), (15, 2), (15, 3), (15, 4), (15, 5), (16, 1000), (17, 1000), (18, 1000), (19, 1000), (20, 1000), (21, 1000), (22, 1000), (23, 1000), (24, 1000), (25, 1000), (26, 1000), (27, 1000), (28, 0), (28, 1), (28, 2), (28, 3), (28, 4), (28, 5), (29, 1000), (30, 1000), (31, 1000), (32, 1000), (33, 1000), (34, 1000), (35, 1000), (36, 1000), (37, 1000), (38, 1000), (39, 1000), (40, 1000), (41, 1000)]
set_option maxHeartbeats 8000000 in
theorem th_134 {E : zE} {d : Nat} {m0 : zM} {a0 : Int} (hd : 2 ≤ d) (hI0 : zInv m0) (ha0 : (-2147483648) ≤ a0 ∧ a0 ≤ 2147483647) : zC E d 134 [(2, 0), (0, a0)] m0 (fun v m' => ∃ r : Int, v = (0, r) ∧ (-2) ≤ r ∧ r ≤ 1 ∧ zInv m' ∧ zFr W_134 m0 m' ∧ (zCi m0 m' a0 r)) := by
  have hF0 : zFr W_134 m0 m0 := zFr.rfl
  generalize hQ : (fun (v : zV) (m' : zM) => ∃ r : Int, v = (0, r) ∧ (-2) ≤ r ∧ r ≤ 1 ∧ zInv m' ∧ zFr W_134 m0 m' ∧ (zCi m0 m' a0 r)) = Q
  show zW E d 134 0 [(2, 0), (0, a0)] [] m0 Q
  refine zw_3 zr_134_0 rfl ?_
  refine zw_push zr_134_1 ?_
  refine zw_push zr_134_2 ?_
  refine zw_C zr_134_3 (Or.inr rfl) zm_100 rfl rfl ⟨Nat.le_of_ble_eq_true rfl, Nat.le_of_ble_eq_true rfl, Nat.le_of_ble_eq_true rfl, rfl, by decide⟩ (by omega) (P := (fun v m' => zW E (d) 134 6 [(2, 0), (0, a0)] (if v.1 = 9 then [] else v :: []) m' Q)) ?_ (fun _ _ h => h)
  generalize hQ1 : (fun v m' => zW E (d) 134 6 [(2, 0), (0, a0)] (if v.1 = 9 then [] else v :: []) m' Q) = Q1
  show zW E (d - 1) 100 0 [(0, a0), (0, 0), (0, 1)] [] m0 Q1
  refine zw_3 zr_100_0 rfl ?_
  refine zw_3 zr_100_1 rfl ?_
  refine zw_41_0 zr_100_2 ?_ ?_
  · intro h1
    refine zw_push zr_100_14 ?_
    refine zw_R zr_100_15 (by decide) zm_100 (v := (0, 0)) (zRetB (by omega)) ?_
    rw [← hQ1]
    show zW E (d) 134 6 [(2, 0), (0, a0)] [(0, 0)] m0 Q
    refine zw_40_4 zr_134_6 ?_ ?_
    · intro h2; omega
    · intro h3
      refine zw_push zr_134_9 ?_
      refine zw_R zr_134_11 (by decide) zm_134 (v := (0, (-2))) rfl ?_
      rw [← hQ]; exact ⟨_, rfl, by omega, by omega, hI0, hF0, by first | exact Or.inl ⟨rfl, by omega, rfl⟩ | exact Or.inr (Or.inl (zCi_0 zz zz None (by omega) (by omega))) | exact Or.inr (Or.inr (zCi_1 zz zz None (by omega) (by omega)))⟩
  · intro h5
    refine zw_3 zr_100_5 rfl ?_
    refine zw_3 zr_100_6 rfl ?_
    refine zw_41_2 zr_100_7 ?_ ?_
    · intro h6
      refine zw_push zr_100_14 ?_
      refine zw_R zr_100_15 (by decide) zm_100 (v := (0, 0)) (zRetB (by omega)) ?_
      rw [← hQ1]
      show zW E (d) 134 6 [(2, 0), (0, a0)] [(0, 0)] m0 Q
      refine zw_40_4 zr_134_6 ?_ ?_
      · intro h7; omega
      · intro h8
        refine zw_push zr_134_9 ?_
        refine zw_R zr_134_11 (by decide) zm_134 (v := (0, (-2))) rfl ?_
        rw [← hQ]; exact ⟨_, rfl, by omega, by omega, hI0, hF0, by first | exact Or.inl ⟨rfl, by omega, rfl⟩ | exact Or.inr (Or.inl (zCi_0 zz zz None (by omega) (by omega))) | exact Or.inr (Or.inr (zCi_1 zz zz None (by omega) (by omega)))⟩
    · intro h10
      refine zw_push zr_100_10 ?_
      refine zw_42 zr_100_11 ?_
      refine zw_R zr_100_15 (by decide) zm_100 (v := (0, 1)) (zRetB (by omega)) ?_
      rw [← hQ1]
      show zW E (d) 134 6 [(2, 0), (0, a0)] [(0, 1)] m0 Q
      refine zw_40_4 zr_134_6 ?_ ?_
      · intro h11
        refine zw_7 zr_134_12 rfl ?_
        refine zw_46r (s := 14) zr_134_13 rfl rfl rfl rfl ?_
        refine zw_3 zr_134_16 rfl ?_
        by_cases h12 : a0 = 0
        · rw [h12]
          refine zw_54 (s := 15) zr_134_17 rfl ?_
          refine zw_7 zr_134_18 rfl ?_
          refine zw_46r (s := 1) zr_134_19 rfl rfl rfl rfl ?_
          obtain ⟨f13, ef13⟩ : ∃ v, m0 1 0 = v := ⟨_, rfl⟩
          have bf13 := ib_1_0 hI0
          rw [ef13] at bf13
          obtain ⟨f14, ef14⟩ : ∃ v, m0 1 1 = v := ⟨_, rfl⟩
          have bf14 := ib_1_1 hI0
          rw [ef14] at bf14
          obtain ⟨f15, ef15⟩ : ∃ v, m0 1 2 = v := ⟨_, rfl⟩
          have bf15 := ib_1_2 hI0
          rw [ef15] at bf15
          obtain ⟨f16, ef16⟩ : ∃ v, m0 1 3 = v := ⟨_, rfl⟩
          have bf16 := ib_1_3 hI0
          rw [ef16] at bf16
          obtain ⟨f17, ef17⟩ : ∃ v, m0 1 4 = v := ⟨_, rfl⟩
          have bf17 := ib_1_4 hI0
          rw [ef17] at bf17
          obtain ⟨f18, ef18⟩ : ∃ v, m0 1 5 = v := ⟨_, rfl⟩
          have bf18 := ib_1_5 hI0
          rw [ef18] at bf18
          refine zw_C zr_134_22 (Or.inl rfl) zm_61 rfl rfl ⟨Nat.le_of_ble_eq_true rfl, Nat.le_of_ble_eq_true rfl, Nat.le_of_ble_eq_true rfl, rfl, by decide⟩ (by omega) (th_61_15_1 (d := d - 1) (by omega) hI0  (g0 := f13) (g1 := f14) (g2 := f15) (g3 := f16) (g4 := f17) (g5 := f18)  (F16 := m0 16) (F17 := m0 17) (F18 := m0 18) (F19 := m0 19) (F20 := m0 20) (F21 := m0 21) (F22 := m0 22) (F23 := m0 23) (F24 := m0 24) (F25 := m0 25) (F26 := m0 26) (F27 := m0 27) (F2 := m0 2) (F3 := m0 3) (F4 := m0 4) (F5 := m0 5) (F6 := m0 6) (F7 := m0 7) (F8 := m0 8) (F9 := m0 9) (F10 := m0 10) (F11 := m0 11) (F12 := m0 12) (F13 := m0 13) ef13 ef14 ef15 ef16 ef17 ef18 rfl rfl rfl rfl rfl rfl rfl rfl rfl rfl rfl rfl rfl rfl rfl rfl rfl rfl rfl rfl rfl rfl rfl rfl  ) ?_
          rintro _ m19 ⟨rfl, hIm19, gm19, po0_m19⟩
          have hFm19 : zFr W_134 m0 m19 := hF0.trans gm19 rfl
          have km19_1_0 : m19 1 0 = f13 := (gm19 1 0 rfl).trans ef13
          have km19_1_1 : m19 1 1 = f14 := (gm19 1 1 rfl).trans ef14
          have km19_1_2 : m19 1 2 = f15 := (gm19 1 2 rfl).trans ef15
          have km19_1_3 : m19 1 3 = f16 := (gm19 1 3 rfl).trans ef16
          have km19_1_4 : m19 1 4 = f17 := (gm19 1 4 rfl).trans ef17
          have km19_1_5 : m19 1 5 = f18 := (gm19 1 5 rfl).trans ef18
          show zW E (d) 134 25 [(2, 0), (0, 0)] [] m19 Q
          refine zw_7 zr_134_25 rfl ?_
          refine zw_46r (s := 41) zr_134_26 rfl rfl rfl rfl ?_
          refine zw_3 zr_134_29 rfl ?_
          refine zw_push zr_134_30 ?_
          refine zw_49 (c := 41) (len := 2) zr_134_31 rfl rfl (by omega) (by omega) ?_
          intro m20 em20
          have hIm20 : zInv m20 := by rw [em20]; exact iu_41 hIm19 (by omega)
          have hFm20 : zFr W_134 m0 m20 := by rw [em20]; exact hFm19.any rfl
          have km20_1_0 : m20 1 0 = f13 := by rw [em20, zUp_ne (by omega)]; exact km19_1_0
          have km20_1_1 : m20 1 1 = f14 := by rw [em20, zUp_ne (by omega)]; exact km19_1_1
          have km20_1_2 : m20 1 2 = f15 := by rw [em20, zUp_ne (by omega)]; exact km19_1_2
          have km20_1_3 : m20 1 3 = f16 := by rw [em20, zUp_ne (by omega)]; exact km19_1_3
          have km20_1_4 : m20 1 4 = f17 := by rw [em20, zUp_ne (by omega)]; exact km19_1_4
          have km20_1_5 : m20 1 5 = f18 := by rw [em20, zUp_ne (by omega)]; exact km19_1_5
          have km20_41_0 : m20 41 0 = 1 := by rw [em20, show (0 : Int).toNat = 0 by omega]; exact zUp_eq _ _ _ _
          refine zw_push zr_134_32 ?_
          refine zw_R zr_134_33 (by decide) zm_134 (v := (0, 1)) rfl ?_
          rw [← hQ]; exact ⟨_, rfl, by omega, by omega, hIm20, hFm20, by first | exact Or.inl ⟨rfl, by omega, rfl⟩ | exact Or.inr (Or.inl (zCi_0 gm19 po0_m19 em20 (by omega) (by omega))) | exact Or.inr (Or.inr (zCi_1 gm19 po0_m19 em20 (by omega) (by omega)))⟩
        by_cases h22 : a0 = 1
        · rw [h22]
          refine zw_54 (s := 28) zr_134_17 rfl ?_
          refine zw_7 zr_134_18 rfl ?_
          refine zw_46r (s := 1) zr_134_19 rfl rfl rfl rfl ?_
          obtain ⟨f23, ef23⟩ : ∃ v, m0 1 0 = v := ⟨_, rfl⟩
          have bf23 := ib_1_0 hI0
          rw [ef23] at bf23
          obtain ⟨f24, ef24⟩ : ∃ v, m0 1 1 = v := ⟨_, rfl⟩
          have bf24 := ib_1_1 hI0
          rw [ef24] at bf24
          obtain ⟨f25, ef25⟩ : ∃ v, m0 1 2 = v := ⟨_, rfl⟩
          have bf25 := ib_1_2 hI0
          rw [ef25] at bf25
          obtain ⟨f26, ef26⟩ : ∃ v, m0 1 3 = v := ⟨_, rfl⟩
          have bf26 := ib_1_3 hI0
          rw [ef26] at bf26
          obtain ⟨f27, ef27⟩ : ∃ v, m0 1 4 = v := ⟨_, rfl⟩
          have bf27 := ib_1_4 hI0
          rw [ef27] at bf27
          obtain ⟨f28, ef28⟩ : ∃ v, m0 1 5 = v := ⟨_, rfl⟩
          have bf28 := ib_1_5 hI0
          rw [ef28] at bf28
          refine zw_C zr_134_22 (Or.inl rfl) zm_61 rfl rfl ⟨Nat.le_of_ble_eq_true rfl, Nat.le_of_ble_eq_true rfl, Nat.le_of_ble_eq_true rfl, rfl, by decide⟩ (by omega) (th_61_28_1 (d := d - 1) (by omega) hI0  (g0 := f23) (g1 := f24) (g2 := f25) (g3 := f26) (g4 := f27) (g5 := f28)  (F29 := m0 29) (F30 := m0 30) (F31 := m0 31) (F32 := m0 32) (F33 := m0 33) (F34 := m0 34) (F35 := m0 35) (F36 := m0 36) (F37 := m0 37) (F38 := m0 38) (F39 := m0 39) (F40 := m0 40) (F2 := m0 2) (F3 := m0 3) (F4 := m0 4) (F5 := m0 5) (F6 := m0 6) (F7 := m0 7) (F8 := m0 8) (F9 := m0 9) (F10 := m0 10) (F11 := m0 11) (F12 := m0 12) (F13 := m0 13) ef23 ef24 ef25 ef26 ef27 ef28 rfl rfl rfl rfl rfl rfl rfl rfl rfl rfl rfl rfl rfl rfl rfl rfl rfl rfl rfl rfl rfl rfl rfl rfl  ) ?_
          rintro _ m29 ⟨rfl, hIm29, gm29, po0_m29⟩
          have hFm29 : zFr W_134 m0 m29 := hF0.trans gm29 rfl
          have km29_1_0 : m29 1 0 = f23 := (gm29 1 0 rfl).trans ef23
          have km29_1_1 : m29 1 1 = f24 := (gm29 1 1 rfl).trans ef24
          have km29_1_2 : m29 1 2 = f25 := (gm29 1 2 rfl).trans ef25
          have km29_1_3 : m29 1 3 = f26 := (gm29 1 3 rfl).trans ef26
          have km29_1_4 : m29 1 4 = f27 := (gm29 1 4 rfl).trans ef27
          have km29_1_5 : m29 1 5 = f28 := (gm29 1 5 rfl).trans ef28
          show zW E (d) 134 25 [(2, 0), (0, 1)] [] m29 Q
          refine zw_7 zr_134_25 rfl ?_
          refine zw_46r (s := 41) zr_134_26 rfl rfl rfl rfl ?_
          refine zw_3 zr_134_29 rfl ?_
          refine zw_push zr_134_30 ?_
          refine zw_49 (c := 41) (len := 2) zr_134_31 rfl rfl (by omega) (by omega) ?_
          intro m30 em30
          have hIm30 : zInv m30 := by rw [em30]; exact iu_41 hIm29 (by omega)
          have hFm30 : zFr W_134 m0 m30 := by rw [em30]; exact hFm29.any rfl
          have km30_1_0 : m30 1 0 = f23 := by rw [em30, zUp_ne (by omega)]; exact km29_1_0
          have km30_1_1 : m30 1 1 = f24 := by rw [em30, zUp_ne (by omega)]; exact km29_1_1
          have km30_1_2 : m30 1 2 = f25 := by rw [em30, zUp_ne (by omega)]; exact km29_1_2
          have km30_1_3 : m30 1 3 = f26 := by rw [em30, zUp_ne (by omega)]; exact km29_1_3
          have km30_1_4 : m30 1 4 = f27 := by rw [em30, zUp_ne (by omega)]; exact km29_1_4
          have km30_1_5 : m30 1 5 = f28 := by rw [em30, zUp_ne (by omega)]; exact km29_1_5
          have km30_41_1 : m30 41 1 = 1 := by rw [em30, show (1 : Int).toNat = 1 by omega]; exact zUp_eq _ _ _ _
          refine zw_push zr_134_32 ?_
          refine zw_R zr_134_33 (by decide) zm_134 (v := (0, 1)) rfl ?_
          rw [← hQ]; exact ⟨_, rfl, by omega, by omega, hIm30, hFm30, by first | exact Or.inl ⟨rfl, by omega, rfl⟩ | exact Or.inr (Or.inl (zCi_0 gm29 po0_m29 em30 (by omega) (by omega))) | exact Or.inr (Or.inr (zCi_1 gm29 po0_m29 em30 (by omega) (by omega)))⟩
        exfalso; omega
      · intro h32; omega

abbrev W_61_1_15 : List (Nat × Nat) := [(1, 0), (1, 1), (1, 2), (1, 3), (1, 4), (1, 5), (2, 1000), (3, 1000), (4, 1000), (5, 1000), (6, 1000), (7, 1000), (8, 1000), (9, 1000), (10, 1000), (11, 1000), (12, 1000), (13, 1000)]
set_option maxHeartbeats 8000000 in
theorem th_61_1_15 {E : zE} {d : Nat} {m0 : zM} {g0 : Int} {g1 : Int} {g2 : Int} {g3 : Int} {g4 : Int} {g5 : Int} {F2 : Nat → Int} {F3 : Nat → Int} {F4 : Nat → Int} {F5 : Nat → Int} {F6 : Nat → Int} {F7 : Nat → Int} {F8 : Nat → Int} {F9 : Nat → Int} {F10 : Nat → Int} {F11 : Nat → Int} {F12 : Nat → Int} {F13 : Nat → Int} {F16 : Nat → Int} {F17 : Nat → Int} {F18 : Nat → Int} {F19 : Nat → Int} {F20 : Nat → Int} {F21 : Nat → Int} {F22 : Nat → Int} {F23 : Nat → Int} {F24 : Nat → Int} {F25 : Nat → Int} {F26 : Nat → Int} {F27 : Nat → Int} (hd : 1 ≤ d) (hI0 : zInv m0) (hg0 : m0 15 0 = g0) (hg1 : m0 15 1 = g1) (hg2 : m0 15 2 = g2) (hg3 : m0 15 3 = g3) (hg4 : m0 15 4 = g4) (hg5 : m0 15 5 = g5) (hG2 : m0 2 = F2) (hG3 : m0 3 = F3) (hG4 : m0 4 = F4) (hG5 : m0 5 = F5) (hG6 : m0 6 = F6) (hG7 : m0 7 = F7) (hG8 : m0 8 = F8) (hG9 : m0 9 = F9) (hG10 : m0 10 = F10) (hG11 : m0 11 = F11) (hG12 : m0 12 = F12) (hG13 : m0 13 = F13) (hG16 : m0 16 = F16) (hG17 : m0 17 = F17) (hG18 : m0 18 = F18) (hG19 : m0 19 = F19) (hG20 : m0 20 = F20) (hG21 : m0 21 = F21) (hG22 : m0 22 = F22) (hG23 : m0 23 = F23) (hG24 : m0 24 = F24) (hG25 : m0 25 = F25) (hG26 : m0 26 = F26) (hG27 : m0 27 = F27) : zC E d 61 [(2, 1), (2, 15)] m0 (fun v m' => v = (9, 0) ∧ zInv m' ∧ zFr W_61_1_15 m0 m' ∧ (zTk_1_15 m0 m')) := by
  have hF0 : zFr W_61_1_15 m0 m0 := zFr.rfl
  have bg0 := ib_15_0 hI0
  rw [hg0] at bg0
  have bg1 := ib_15_1 hI0
  rw [hg1] at bg1
  have bg2 := ib_15_2 hI0
  rw [hg2] at bg2
  have bg3 := ib_15_3 hI0
  rw [hg3] at bg3
  have bg4 := ib_15_4 hI0
  rw [hg4] at bg4
  have bg5 := ib_15_5 hI0
  rw [hg5] at bg5
  generalize hQ : (fun (v : zV) (m' : zM) => v = (9, 0) ∧ zInv m' ∧ zFr W_61_1_15 m0 m' ∧ (zTk_1_15 m0 m')) = Q
  show zW E d 61 0 [(2, 1), (2, 15)] [] m0 Q
  refine zw_7 zr_61_0 rfl ?_
  refine zw_7 zr_61_1 rfl ?_
  refine zw_46i zr_61_2 hg0 rfl rfl rfl ?_
  refine zw_47 (c := 1) zr_61_5 rfl ⟨rfl, by decide, rfl⟩ ?_
  intro m1 em1
  have hIm1 : zInv m1 := by rw [em1]; exact hI0.bd (r := 1) (k := 0) (lo := 0) (hi := 10) rfl (by omega) (by decide) (by decide) (by decide)
  have hFm1 : zFr W_61_1_15 m0 m1 := by rw [em1]; exact hF0.up rfl
  have km1_15_0 : m1 15 0 = g0 := by rw [em1, zUp_ne (by omega)]; exact hg0
  have km1_15_1 : m1 15 1 = g1 := by rw [em1, zUp_ne (by omega)]; exact hg1
  have km1_15_2 : m1 15 2 = g2 := by rw [em1, zUp_ne (by omega)]; exact hg2
  have km1_15_3 : m1 15 3 = g3 := by rw [em1, zUp_ne (by omega)]; exact hg3
  have km1_15_4 : m1 15 4 = g4 := by rw [em1, zUp_ne (by omega)]; exact hg4
  have km1_15_5 : m1 15 5 = g5 := by rw [em1, zUp_ne (by omega)]; exact hg5
  have km1_1_0 : m1 1 0 = g0 := by rw [em1]; exact zUp_eq _ _ _ _
  have fm1_2 : m1 2 = F2 := by rw [em1, zUp_fn (by decide)]; exact hG2
  have fm1_3 : m1 3 = F3 := by rw [em1, zUp_fn (by decide)]; exact hG3
  have fm1_4 : m1 4 = F4 := by rw [em1, zUp_fn (by decide)]; exact hG4
  have fm1_5 : m1 5 = F5 := by rw [em1, zUp_fn (by decide)]; exact hG5
  have fm1_6 : m1 6 = F6 := by rw [em1, zUp_fn (by decide)]; exact hG6
  have fm1_7 : m1 7 = F7 := by rw [em1, zUp_fn (by decide)]; exact hG7
  have fm1_8 : m1 8 = F8 := by rw [em1, zUp_fn (by decide)]; exact hG8
  have fm1_9 : m1 9 = F9 := by rw [em1, zUp_fn (by decide)]; exact hG9
  have fm1_10 : m1 10 = F10 := by rw [em1, zUp_fn (by decide)]; exact hG10
  have fm1_11 : m1 11 = F11 := by rw [em1, zUp_fn (by decide)]; exact hG11
  have fm1_12 : m1 12 = F12 := by rw [em1, zUp_fn (by decide)]; exact hG12
  have fm1_13 : m1 13 = F13 := by rw [em1, zUp_fn (by decide)]; exact hG13
  have fm1_16 : m1 16 = F16 := by rw [em1, zUp_fn (by decide)]; exact hG16
  have fm1_17 : m1 17 = F17 := by rw [em1, zUp_fn (by decide)]; exact hG17
  have fm1_18 : m1 18 = F18 := by rw [em1, zUp_fn (by decide)]; exact hG18
  have fm1_19 : m1 19 = F19 := by rw [em1, zUp_fn (by decide)]; exact hG19
  have fm1_20 : m1 20 = F20 := by rw [em1, zUp_fn (by decide)]; exact hG20
  have fm1_21 : m1 21 = F21 := by rw [em1, zUp_fn (by decide)]; exact hG21
  have fm1_22 : m1 22 = F22 := by rw [em1, zUp_fn (by decide)]; exact hG22
  have fm1_23 : m1 23 = F23 := by rw [em1, zUp_fn (by decide)]; exact hG23
  have fm1_24 : m1 24 = F24 := by rw [em1, zUp_fn (by decide)]; exact hG24
  have fm1_25 : m1 25 = F25 := by rw [em1, zUp_fn (by decide)]; exact hG25
  have fm1_26 : m1 26 = F26 := by rw [em1, zUp_fn (by decide)]; exact hG26
  have fm1_27 : m1 27 = F27 := by rw [em1, zUp_fn (by decide)]; exact hG27
  clear em1
  refine zw_7 zr_61_8 rfl ?_
  refine zw_7 zr_61_9 rfl ?_
  refine zw_46i zr_61_10 km1_15_1 rfl rfl rfl ?_
  refine zw_47 (c := 1) zr_61_13 rfl ⟨rfl, by decide, rfl⟩ ?_
  intro m2 em2
  have hIm2 : zInv m2 := by rw [em2]; exact hIm1.bd (r := 1) (k := 1) (lo := 0) (hi := 60) rfl (by omega) (by decide) (by decide) (by decide)
  have hFm2 : zFr W_61_1_15 m0 m2 := by rw [em2]; exact hFm1.up rfl
  have km2_15_0 : m2 15 0 = g0 := by rw [em2, zUp_ne (by omega)]; exact km1_15_0
  have km2_15_1 : m2 15 1 = g1 := by rw [em2, zUp_ne (by omega)]; exact km1_15_1
  have km2_15_2 : m2 15 2 = g2 := by rw [em2, zUp_ne (by omega)]; exact km1_15_2
  have km2_15_3 : m2 15 3 = g3 := by rw [em2, zUp_ne (by omega)]; exact km1_15_3
  have km2_15_4 : m2 15 4 = g4 := by rw [em2, zUp_ne (by omega)]; exact km1_15_4
  have km2_15_5 : m2 15 5 = g5 := by rw [em2, zUp_ne (by omega)]; exact km1_15_5
  have km2_1_0 : m2 1 0 = g0 := by rw [em2, zUp_ne (by omega)]; exact km1_1_0
  have km2_1_1 : m2 1 1 = g1 := by rw [em2]; exact zUp_eq _ _ _ _
  have fm2_2 : m2 2 = F2 := by rw [em2, zUp_fn (by decide)]; exact fm1_2
  have fm2_3 : m2 3 = F3 := by rw [em2, zUp_fn (by decide)]; exact fm1_3
  have fm2_4 : m2 4 = F4 := by rw [em2, zUp_fn (by decide)]; exact fm1_4
  have fm2_5 : m2 5 = F5 := by rw [em2, zUp_fn (by decide)]; exact fm1_5
  have fm2_6 : m2 6 = F6 := by rw [em2, zUp_fn (by decide)]; exact fm1_6
  have fm2_7 : m2 7 = F7 := by rw [em2, zUp_fn (by decide)]; exact fm1_7
  have fm2_8 : m2 8 = F8 := by rw [em2, zUp_fn (by decide)]; exact fm1_8
  have fm2_9 : m2 9 = F9 := by rw [em2, zUp_fn (by decide)]; exact fm1_9
  have fm2_10 : m2 10 = F10 := by rw [em2, zUp_fn (by decide)]; exact fm1_10
  have fm2_11 : m2 11 = F11 := by rw [em2, zUp_fn (by decide)]; exact fm1_11
  have fm2_12 : m2 12 = F12 := by rw [em2, zUp_fn (by decide)]; exact fm1_12
  have fm2_13 : m2 13 = F13 := by rw [em2, zUp_fn (by decide)]; exact fm1_13
  have fm2_16 : m2 16 = F16 := by rw [em2, zUp_fn (by decide)]; exact fm1_16
  have fm2_17 : m2 17 = F17 := by rw [em2, zUp_fn (by decide)]; exact fm1_17
  have fm2_18 : m2 18 = F18 := by rw [em2, zUp_fn (by decide)]; exact fm1_18
  have fm2_19 : m2 19 = F19 := by rw [em2, zUp_fn (by decide)]; exact fm1_19
  have fm2_20 : m2 20 = F20 := by rw [em2, zUp_fn (by decide)]; exact fm1_20
  have fm2_21 : m2 21 = F21 := by rw [em2, zUp_fn (by decide)]; exact fm1_21
  have fm2_22 : m2 22 = F22 := by rw [em2, zUp_fn (by decide)]; exact fm1_22
  have fm2_23 : m2 23 = F23 := by rw [em2, zUp_fn (by decide)]; exact fm1_23
  have fm2_24 : m2 24 = F24 := by rw [em2, zUp_fn (by decide)]; exact fm1_24
  have fm2_25 : m2 25 = F25 := by rw [em2, zUp_fn (by decide)]; exact fm1_25
  have fm2_26 : m2 26 = F26 := by rw [em2, zUp_fn (by decide)]; exact fm1_26
  have fm2_27 : m2 27 = F27 := by rw [em2, zUp_fn (by decide)]; exact fm1_27
  clear em2
  refine zw_7 zr_61_16 rfl ?_
  refine zw_7 zr_61_17 rfl ?_
  refine zw_46l zr_61_18 km2_15_2 rfl rfl rfl ?_
  refine zw_47 (c := 1) zr_61_21 rfl ⟨rfl, by decide, rfl⟩ ?_
  intro m3 em3
  have hIm3 : zInv m3 := by rw [em3]; exact hIm2.bdl (r := 1) (k := 2) (lo := 0) (hi := 1152921504606846975) rfl (by omega) (by decide) (by decide) (by decide) (by decide)
  have hFm3 : zFr W_61_1_15 m0 m3 := by rw [em3]; exact hFm2.up rfl
  have km3_15_0 : m3 15 0 = g0 := by rw [em3, zUp_ne (by omega)]; exact km2_15_0
  have km3_15_1 : m3 15 1 = g1 := by rw [em3, zUp_ne (by omega)]; exact km2_15_1
  have km3_15_2 : m3 15 2 = g2 := by rw [em3, zUp_ne (by omega)]; exact km2_15_2
  have km3_15_3 : m3 15 3 = g3 := by rw [em3, zUp_ne (by omega)]; exact km2_15_3
  have km3_15_4 : m3 15 4 = g4 := by rw [em3, zUp_ne (by omega)]; exact km2_15_4
  have km3_15_5 : m3 15 5 = g5 := by rw [em3, zUp_ne (by omega)]; exact km2_15_5
  have km3_1_0 : m3 1 0 = g0 := by rw [em3, zUp_ne (by omega)]; exact km2_1_0
  have km3_1_1 : m3 1 1 = g1 := by rw [em3, zUp_ne (by omega)]; exact km2_1_1
  have km3_1_2 : m3 1 2 = g2 := by rw [em3]; exact zUp_eq _ _ _ _
  have fm3_2 : m3 2 = F2 := by rw [em3, zUp_fn (by decide)]; exact fm2_2
  have fm3_3 : m3 3 = F3 := by rw [em3, zUp_fn (by decide)]; exact fm2_3
  have fm3_4 : m3 4 = F4 := by rw [em3, zUp_fn (by decide)]; exact fm2_4
  have fm3_5 : m3 5 = F5 := by rw [em3, zUp_fn (by decide)]; exact fm2_5
  have fm3_6 : m3 6 = F6 := by rw [em3, zUp_fn (by decide)]; exact fm2_6
  have fm3_7 : m3 7 = F7 := by rw [em3, zUp_fn (by decide)]; exact fm2_7
  have fm3_8 : m3 8 = F8 := by rw [em3, zUp_fn (by decide)]; exact fm2_8
  have fm3_9 : m3 9 = F9 := by rw [em3, zUp_fn (by decide)]; exact fm2_9
  have fm3_10 : m3 10 = F10 := by rw [em3, zUp_fn (by decide)]; exact fm2_10
  have fm3_11 : m3 11 = F11 := by rw [em3, zUp_fn (by decide)]; exact fm2_11
  have fm3_12 : m3 12 = F12 := by rw [em3, zUp_fn (by decide)]; exact fm2_12
  have fm3_13 : m3 13 = F13 := by rw [em3, zUp_fn (by decide)]; exact fm2_13
  have fm3_16 : m3 16 = F16 := by rw [em3, zUp_fn (by decide)]; exact fm2_16
  have fm3_17 : m3 17 = F17 := by rw [em3, zUp_fn (by decide)]; exact fm2_17
  have fm3_18 : m3 18 = F18 := by rw [em3, zUp_fn (by decide)]; exact fm2_18
  have fm3_19 : m3 19 = F19 := by rw [em3, zUp_fn (by decide)]; exact fm2_19
  have fm3_20 : m3 20 = F20 := by rw [em3, zUp_fn (by decide)]; exact fm2_20
  have fm3_21 : m3 21 = F21 := by rw [em3, zUp_fn (by decide)]; exact fm2_21
  have fm3_22 : m3 22 = F22 := by rw [em3, zUp_fn (by decide)]; exact fm2_22
  have fm3_23 : m3 23 = F23 := by rw [em3, zUp_fn (by decide)]; exact fm2_23
  have fm3_24 : m3 24 = F24 := by rw [em3, zUp_fn (by decide)]; exact fm2_24
  have fm3_25 : m3 25 = F25 := by rw [em3, zUp_fn (by decide)]; exact fm2_25
  have fm3_26 : m3 26 = F26 := by rw [em3, zUp_fn (by decide)]; exact fm2_26
  have fm3_27 : m3 27 = F27 := by rw [em3, zUp_fn (by decide)]; exact fm2_27
  clear em3
  refine zw_7 zr_61_24 rfl ?_
  refine zw_7 zr_61_25 rfl ?_
  refine zw_46l zr_61_26 km3_15_3 rfl rfl rfl ?_
  refine zw_47 (c := 1) zr_61_29 rfl ⟨rfl, by decide, rfl⟩ ?_
  intro m4 em4
  have hIm4 : zInv m4 := by rw [em4]; exact hIm3.bdl (r := 1) (k := 3) (lo := 0) (hi := 1152921504606846975) rfl (by omega) (by decide) (by decide) (by decide) (by decide)
  have hFm4 : zFr W_61_1_15 m0 m4 := by rw [em4]; exact hFm3.up rfl
  have km4_15_0 : m4 15 0 = g0 := by rw [em4, zUp_ne (by omega)]; exact km3_15_0
  have km4_15_1 : m4 15 1 = g1 := by rw [em4, zUp_ne (by omega)]; exact km3_15_1
  have km4_15_2 : m4 15 2 = g2 := by rw [em4, zUp_ne (by omega)]; exact km3_15_2
  have km4_15_3 : m4 15 3 = g3 := by rw [em4, zUp_ne (by omega)]; exact km3_15_3
  have km4_15_4 : m4 15 4 = g4 := by rw [em4, zUp_ne (by omega)]; exact km3_15_4
  have km4_15_5 : m4 15 5 = g5 := by rw [em4, zUp_ne (by omega)]; exact km3_15_5
  have km4_1_0 : m4 1 0 = g0 := by rw [em4, zUp_ne (by omega)]; exact km3_1_0
  have km4_1_1 : m4 1 1 = g1 := by rw [em4, zUp_ne (by omega)]; exact km3_1_1
  have km4_1_2 : m4 1 2 = g2 := by rw [em4, zUp_ne (by omega)]; exact km3_1_2
  have km4_1_3 : m4 1 3 = g3 := by rw [em4]; exact zUp_eq _ _ _ _
  have fm4_2 : m4 2 = F2 := by rw [em4, zUp_fn (by decide)]; exact fm3_2
  have fm4_3 : m4 3 = F3 := by rw [em4, zUp_fn (by decide)]; exact fm3_3
  have fm4_4 : m4 4 = F4 := by rw [em4, zUp_fn (by decide)]; exact fm3_4
  have fm4_5 : m4 5 = F5 := by rw [em4, zUp_fn (by decide)]; exact fm3_5
  have fm4_6 : m4 6 = F6 := by rw [em4, zUp_fn (by decide)]; exact fm3_6
  have fm4_7 : m4 7 = F7 := by rw [em4, zUp_fn (by decide)]; exact fm3_7
  have fm4_8 : m4 8 = F8 := by rw [em4, zUp_fn (by decide)]; exact fm3_8
  have fm4_9 : m4 9 = F9 := by rw [em4, zUp_fn (by decide)]; exact fm3_9
  have fm4_10 : m4 10 = F10 := by rw [em4, zUp_fn (by decide)]; exact fm3_10
  have fm4_11 : m4 11 = F11 := by rw [em4, zUp_fn (by decide)]; exact fm3_11
  have fm4_12 : m4 12 = F12 := by rw [em4, zUp_fn (by decide)]; exact fm3_12
  have fm4_13 : m4 13 = F13 := by rw [em4, zUp_fn (by decide)]; exact fm3_13
  have fm4_16 : m4 16 = F16 := by rw [em4, zUp_fn (by decide)]; exact fm3_16
  have fm4_17 : m4 17 = F17 := by rw [em4, zUp_fn (by decide)]; exact fm3_17
  have fm4_18 : m4 18 = F18 := by rw [em4, zUp_fn (by decide)]; exact fm3_18
  have fm4_19 : m4 19 = F19 := by rw [em4, zUp_fn (by decide)]; exact fm3_19
  have fm4_20 : m4 20 = F20 := by rw [em4, zUp_fn (by decide)]; exact fm3_20
  have fm4_21 : m4 21 = F21 := by rw [em4, zUp_fn (by decide)]; exact fm3_21
  have fm4_22 : m4 22 = F22 := by rw [em4, zUp_fn (by decide)]; exact fm3_22
  have fm4_23 : m4 23 = F23 := by rw [em4, zUp_fn (by decide)]; exact fm3_23
  have fm4_24 : m4 24 = F24 := by rw [em4, zUp_fn (by decide)]; exact fm3_24
  have fm4_25 : m4 25 = F25 := by rw [em4, zUp_fn (by decide)]; exact fm3_25
  have fm4_26 : m4 26 = F26 := by rw [em4, zUp_fn (by decide)]; exact fm3_26
  have fm4_27 : m4 27 = F27 := by rw [em4, zUp_fn (by decide)]; exact fm3_27
  clear em4
  refine zw_7 zr_61_32 rfl ?_
  refine zw_7 zr_61_33 rfl ?_
  refine zw_46i zr_61_34 km4_15_4 rfl rfl rfl ?_
  refine zw_47 (c := 1) zr_61_37 rfl ⟨rfl, by decide, rfl⟩ ?_
  intro m5 em5
  have hIm5 : zInv m5 := by rw [em5]; exact hIm4.bd (r := 1) (k := 4) (lo := 1) (hi := 1000) rfl (by omega) (by decide) (by decide) (by decide)
  have hFm5 : zFr W_61_1_15 m0 m5 := by rw [em5]; exact hFm4.up rfl
  have km5_15_0 : m5 15 0 = g0 := by rw [em5, zUp_ne (by omega)]; exact km4_15_0
  have km5_15_1 : m5 15 1 = g1 := by rw [em5, zUp_ne (by omega)]; exact km4_15_1
  have km5_15_2 : m5 15 2 = g2 := by rw [em5, zUp_ne (by omega)]; exact km4_15_2
  have km5_15_3 : m5 15 3 = g3 := by rw [em5, zUp_ne (by omega)]; exact km4_15_3
  have km5_15_4 : m5 15 4 = g4 := by rw [em5, zUp_ne (by omega)]; exact km4_15_4
  have km5_15_5 : m5 15 5 = g5 := by rw [em5, zUp_ne (by omega)]; exact km4_15_5
  have km5_1_0 : m5 1 0 = g0 := by rw [em5, zUp_ne (by omega)]; exact km4_1_0
  have km5_1_1 : m5 1 1 = g1 := by rw [em5, zUp_ne (by omega)]; exact km4_1_1
  have km5_1_2 : m5 1 2 = g2 := by rw [em5, zUp_ne (by omega)]; exact km4_1_2
  have km5_1_3 : m5 1 3 = g3 := by rw [em5, zUp_ne (by omega)]; exact km4_1_3
  have km5_1_4 : m5 1 4 = g4 := by rw [em5]; exact zUp_eq _ _ _ _
  have fm5_2 : m5 2 = F2 := by rw [em5, zUp_fn (by decide)]; exact fm4_2
  have fm5_3 : m5 3 = F3 := by rw [em5, zUp_fn (by decide)]; exact fm4_3
  have fm5_4 : m5 4 = F4 := by rw [em5, zUp_fn (by decide)]; exact fm4_4
  have fm5_5 : m5 5 = F5 := by rw [em5, zUp_fn (by decide)]; exact fm4_5
  have fm5_6 : m5 6 = F6 := by rw [em5, zUp_fn (by decide)]; exact fm4_6
  have fm5_7 : m5 7 = F7 := by rw [em5, zUp_fn (by decide)]; exact fm4_7
  have fm5_8 : m5 8 = F8 := by rw [em5, zUp_fn (by decide)]; exact fm4_8
  have fm5_9 : m5 9 = F9 := by rw [em5, zUp_fn (by decide)]; exact fm4_9
  have fm5_10 : m5 10 = F10 := by rw [em5, zUp_fn (by decide)]; exact fm4_10
  have fm5_11 : m5 11 = F11 := by rw [em5, zUp_fn (by decide)]; exact fm4_11
  have fm5_12 : m5 12 = F12 := by rw [em5, zUp_fn (by decide)]; exact fm4_12
  have fm5_13 : m5 13 = F13 := by rw [em5, zUp_fn (by decide)]; exact fm4_13
  have fm5_16 : m5 16 = F16 := by rw [em5, zUp_fn (by decide)]; exact fm4_16
  have fm5_17 : m5 17 = F17 := by rw [em5, zUp_fn (by decide)]; exact fm4_17
  have fm5_18 : m5 18 = F18 := by rw [em5, zUp_fn (by decide)]; exact fm4_18
  have fm5_19 : m5 19 = F19 := by rw [em5, zUp_fn (by decide)]; exact fm4_19
  have fm5_20 : m5 20 = F20 := by rw [em5, zUp_fn (by decide)]; exact fm4_20
  have fm5_21 : m5 21 = F21 := by rw [em5, zUp_fn (by decide)]; exact fm4_21
  have fm5_22 : m5 22 = F22 := by rw [em5, zUp_fn (by decide)]; exact fm4_22
  have fm5_23 : m5 23 = F23 := by rw [em5, zUp_fn (by decide)]; exact fm4_23
  have fm5_24 : m5 24 = F24 := by rw [em5, zUp_fn (by decide)]; exact fm4_24
  have fm5_25 : m5 25 = F25 := by rw [em5, zUp_fn (by decide)]; exact fm4_25
  have fm5_26 : m5 26 = F26 := by rw [em5, zUp_fn (by decide)]; exact fm4_26
  have fm5_27 : m5 27 = F27 := by rw [em5, zUp_fn (by decide)]; exact fm4_27
  clear em5
  refine zw_7 zr_61_40 rfl ?_
  refine zw_7 zr_61_41 rfl ?_
  refine zw_46i zr_61_42 km5_15_5 rfl rfl rfl ?_
  refine zw_47 (c := 1) zr_61_45 rfl ⟨rfl, by decide, rfl⟩ ?_
  intro m6 em6
  have hIm6 : zInv m6 := by rw [em6]; exact hIm5.bd (r := 1) (k := 5) (lo := 0) (hi := 500) rfl (by omega) (by decide) (by decide) (by decide)
  have hFm6 : zFr W_61_1_15 m0 m6 := by rw [em6]; exact hFm5.up rfl
  have km6_15_0 : m6 15 0 = g0 := by rw [em6, zUp_ne (by omega)]; exact km5_15_0
  have km6_15_1 : m6 15 1 = g1 := by rw [em6, zUp_ne (by omega)]; exact km5_15_1
  have km6_15_2 : m6 15 2 = g2 := by rw [em6, zUp_ne (by omega)]; exact km5_15_2
  have km6_15_3 : m6 15 3 = g3 := by rw [em6, zUp_ne (by omega)]; exact km5_15_3
  have km6_15_4 : m6 15 4 = g4 := by rw [em6, zUp_ne (by omega)]; exact km5_15_4
  have km6_15_5 : m6 15 5 = g5 := by rw [em6, zUp_ne (by omega)]; exact km5_15_5
  have km6_1_0 : m6 1 0 = g0 := by rw [em6, zUp_ne (by omega)]; exact km5_1_0
  have km6_1_1 : m6 1 1 = g1 := by rw [em6, zUp_ne (by omega)]; exact km5_1_1
  have km6_1_2 : m6 1 2 = g2 := by rw [em6, zUp_ne (by omega)]; exact km5_1_2
  have km6_1_3 : m6 1 3 = g3 := by rw [em6, zUp_ne (by omega)]; exact km5_1_3
  have km6_1_4 : m6 1 4 = g4 := by rw [em6, zUp_ne (by omega)]; exact km5_1_4
  have km6_1_5 : m6 1 5 = g5 := by rw [em6]; exact zUp_eq _ _ _ _
  have fm6_2 : m6 2 = F2 := by rw [em6, zUp_fn (by decide)]; exact fm5_2
  have fm6_3 : m6 3 = F3 := by rw [em6, zUp_fn (by decide)]; exact fm5_3
  have fm6_4 : m6 4 = F4 := by rw [em6, zUp_fn (by decide)]; exact fm5_4
  have fm6_5 : m6 5 = F5 := by rw [em6, zUp_fn (by decide)]; exact fm5_5
  have fm6_6 : m6 6 = F6 := by rw [em6, zUp_fn (by decide)]; exact fm5_6
  have fm6_7 : m6 7 = F7 := by rw [em6, zUp_fn (by decide)]; exact fm5_7
  have fm6_8 : m6 8 = F8 := by rw [em6, zUp_fn (by decide)]; exact fm5_8
  have fm6_9 : m6 9 = F9 := by rw [em6, zUp_fn (by decide)]; exact fm5_9
  have fm6_10 : m6 10 = F10 := by rw [em6, zUp_fn (by decide)]; exact fm5_10
  have fm6_11 : m6 11 = F11 := by rw [em6, zUp_fn (by decide)]; exact fm5_11
  have fm6_12 : m6 12 = F12 := by rw [em6, zUp_fn (by decide)]; exact fm5_12
  have fm6_13 : m6 13 = F13 := by rw [em6, zUp_fn (by decide)]; exact fm5_13
  have fm6_16 : m6 16 = F16 := by rw [em6, zUp_fn (by decide)]; exact fm5_16
  have fm6_17 : m6 17 = F17 := by rw [em6, zUp_fn (by decide)]; exact fm5_17
  have fm6_18 : m6 18 = F18 := by rw [em6, zUp_fn (by decide)]; exact fm5_18
  have fm6_19 : m6 19 = F19 := by rw [em6, zUp_fn (by decide)]; exact fm5_19
  have fm6_20 : m6 20 = F20 := by rw [em6, zUp_fn (by decide)]; exact fm5_20
  have fm6_21 : m6 21 = F21 := by rw [em6, zUp_fn (by decide)]; exact fm5_21
  have fm6_22 : m6 22 = F22 := by rw [em6, zUp_fn (by decide)]; exact fm5_22
  have fm6_23 : m6 23 = F23 := by rw [em6, zUp_fn (by decide)]; exact fm5_23
  have fm6_24 : m6 24 = F24 := by rw [em6, zUp_fn (by decide)]; exact fm5_24
  have fm6_25 : m6 25 = F25 := by rw [em6, zUp_fn (by decide)]; exact fm5_25
  have fm6_26 : m6 26 = F26 := by rw [em6, zUp_fn (by decide)]; exact fm5_26
  have fm6_27 : m6 27 = F27 := by rw [em6, zUp_fn (by decide)]; exact fm5_27
  clear em6
  refine zw_7 zr_61_48 rfl ?_
  refine zw_46r (s := 16) zr_61_49 rfl rfl rfl rfl ?_
  refine zw_push zr_61_52 ?_
  refine zw_7 zr_61_53 rfl ?_
  refine zw_46r (s := 2) zr_61_54 rfl rfl rfl rfl ?_
  refine zw_push zr_61_57 ?_
  refine zw_push zr_61_58 ?_
  refine zw_114 (c1 := 2) (c2 := 16) (l1 := 10) (l2 := 10) zr_61_60 rfl rfl rfl rfl (by decide) (Nat.le_of_ble_eq_true rfl) (by omega) (by omega) ?_
  intro m7 em7
  have hIm7 : zInv m7 := by rw [em7]; exact zInv.cpS hIm6 (l2 := 10) (fun _ => rfl) rfl (by decide) (by decide) (by decide)
  have hFm7 : zFr W_61_1_15 m0 m7 := by rw [em7]; exact hFm6.cp rfl
  have km7_15_0 : m7 15 0 = g0 := by rw [em7, zCp_ne (by decide)]; exact km6_15_0
  have km7_15_1 : m7 15 1 = g1 := by rw [em7, zCp_ne (by decide)]; exact km6_15_1
  have km7_15_2 : m7 15 2 = g2 := by rw [em7, zCp_ne (by decide)]; exact km6_15_2
  have km7_15_3 : m7 15 3 = g3 := by rw [em7, zCp_ne (by decide)]; exact km6_15_3
  have km7_15_4 : m7 15 4 = g4 := by rw [em7, zCp_ne (by decide)]; exact km6_15_4
  have km7_15_5 : m7 15 5 = g5 := by rw [em7, zCp_ne (by decide)]; exact km6_15_5
  have km7_1_0 : m7 1 0 = g0 := by rw [em7, zCp_ne (by decide)]; exact km6_1_0
  have km7_1_1 : m7 1 1 = g1 := by rw [em7, zCp_ne (by decide)]; exact km6_1_1
  have km7_1_2 : m7 1 2 = g2 := by rw [em7, zCp_ne (by decide)]; exact km6_1_2
  have km7_1_3 : m7 1 3 = g3 := by rw [em7, zCp_ne (by decide)]; exact km6_1_3
  have km7_1_4 : m7 1 4 = g4 := by rw [em7, zCp_ne (by decide)]; exact km6_1_4
  have km7_1_5 : m7 1 5 = g5 := by rw [em7, zCp_ne (by decide)]; exact km6_1_5
  have fm7_2 : m7 2 = zCf F2 F16 10 := by rw [em7]; exact (zCp_ff (m := m6) (c1 := 2) (c2 := 16) (n := 10) rfl rfl).trans (by rw [fm6_2, fm6_16])
  have fm7_3 : m7 3 = F3 := by rw [em7, zCp_fn (by decide)]; exact fm6_3
  have fm7_4 : m7 4 = F4 := by rw [em7, zCp_fn (by decide)]; exact fm6_4
  have fm7_5 : m7 5 = F5 := by rw [em7, zCp_fn (by decide)]; exact fm6_5
  have fm7_6 : m7 6 = F6 := by rw [em7, zCp_fn (by decide)]; exact fm6_6
  have fm7_7 : m7 7 = F7 := by rw [em7, zCp_fn (by decide)]; exact fm6_7
  have fm7_8 : m7 8 = F8 := by rw [em7, zCp_fn (by decide)]; exact fm6_8
  have fm7_9 : m7 9 = F9 := by rw [em7, zCp_fn (by decide)]; exact fm6_9
  have fm7_10 : m7 10 = F10 := by rw [em7, zCp_fn (by decide)]; exact fm6_10
  have fm7_11 : m7 11 = F11 := by rw [em7, zCp_fn (by decide)]; exact fm6_11
  have fm7_12 : m7 12 = F12 := by rw [em7, zCp_fn (by decide)]; exact fm6_12
  have fm7_13 : m7 13 = F13 := by rw [em7, zCp_fn (by decide)]; exact fm6_13
  have fm7_16 : m7 16 = F16 := by rw [em7, zCp_fn (by decide)]; exact fm6_16
  have fm7_17 : m7 17 = F17 := by rw [em7, zCp_fn (by decide)]; exact fm6_17
  have fm7_18 : m7 18 = F18 := by rw [em7, zCp_fn (by decide)]; exact fm6_18
  have fm7_19 : m7 19 = F19 := by rw [em7, zCp_fn (by decide)]; exact fm6_19
  have fm7_20 : m7 20 = F20 := by rw [em7, zCp_fn (by decide)]; exact fm6_20
  have fm7_21 : m7 21 = F21 := by rw [em7, zCp_fn (by decide)]; exact fm6_21
  have fm7_22 : m7 22 = F22 := by rw [em7, zCp_fn (by decide)]; exact fm6_22
  have fm7_23 : m7 23 = F23 := by rw [em7, zCp_fn (by decide)]; exact fm6_23
  have fm7_24 : m7 24 = F24 := by rw [em7, zCp_fn (by decide)]; exact fm6_24
  have fm7_25 : m7 25 = F25 := by rw [em7, zCp_fn (by decide)]; exact fm6_25
  have fm7_26 : m7 26 = F26 := by rw [em7, zCp_fn (by decide)]; exact fm6_26
  have fm7_27 : m7 27 = F27 := by rw [em7, zCp_fn (by decide)]; exact fm6_27
  clear em7
  refine zw_7 zr_61_63 rfl ?_
  refine zw_46r (s := 17) zr_61_64 rfl rfl rfl rfl ?_
  refine zw_push zr_61_67 ?_
  refine zw_7 zr_61_68 rfl ?_
  refine zw_46r (s := 3) zr_61_69 rfl rfl rfl rfl ?_
  refine zw_push zr_61_72 ?_
  refine zw_push zr_61_73 ?_
  refine zw_114 (c1 := 3) (c2 := 17) (l1 := 40) (l2 := 40) zr_61_75 rfl rfl rfl rfl (by decide) (Nat.le_of_ble_eq_true rfl) (by omega) (by omega) ?_
  intro m8 em8
  have hIm8 : zInv m8 := by rw [em8]; exact zInv.cpS hIm7 (l2 := 40) (fun _ => rfl) rfl (by decide) (by decide) (by decide)
  have hFm8 : zFr W_61_1_15 m0 m8 := by rw [em8]; exact hFm7.cp rfl
  have km8_15_0 : m8 15 0 = g0 := by rw [em8, zCp_ne (by decide)]; exact km7_15_0
  have km8_15_1 : m8 15 1 = g1 := by rw [em8, zCp_ne (by decide)]; exact km7_15_1
  have km8_15_2 : m8 15 2 = g2 := by rw [em8, zCp_ne (by decide)]; exact km7_15_2
  have km8_15_3 : m8 15 3 = g3 := by rw [em8, zCp_ne (by decide)]; exact km7_15_3
  have km8_15_4 : m8 15 4 = g4 := by rw [em8, zCp_ne (by decide)]; exact km7_15_4
  have km8_15_5 : m8 15 5 = g5 := by rw [em8, zCp_ne (by decide)]; exact km7_15_5
  have km8_1_0 : m8 1 0 = g0 := by rw [em8, zCp_ne (by decide)]; exact km7_1_0
  have km8_1_1 : m8 1 1 = g1 := by rw [em8, zCp_ne (by decide)]; exact km7_1_1
  have km8_1_2 : m8 1 2 = g2 := by rw [em8, zCp_ne (by decide)]; exact km7_1_2
  have km8_1_3 : m8 1 3 = g3 := by rw [em8, zCp_ne (by decide)]; exact km7_1_3
  have km8_1_4 : m8 1 4 = g4 := by rw [em8, zCp_ne (by decide)]; exact km7_1_4
  have km8_1_5 : m8 1 5 = g5 := by rw [em8, zCp_ne (by decide)]; exact km7_1_5
  have fm8_2 : m8 2 = zCf F2 F16 10 := by rw [em8, zCp_fn (by decide)]; exact fm7_2
  have fm8_3 : m8 3 = zCf F3 F17 40 := by rw [em8]; exact (zCp_ff (m := m7) (c1 := 3) (c2 := 17) (n := 40) rfl rfl).trans (by rw [fm7_3, fm7_17])
  have fm8_4 : m8 4 = F4 := by rw [em8, zCp_fn (by decide)]; exact fm7_4
  have fm8_5 : m8 5 = F5 := by rw [em8, zCp_fn (by decide)]; exact fm7_5
  have fm8_6 : m8 6 = F6 := by rw [em8, zCp_fn (by decide)]; exact fm7_6
  have fm8_7 : m8 7 = F7 := by rw [em8, zCp_fn (by decide)]; exact fm7_7
  have fm8_8 : m8 8 = F8 := by rw [em8, zCp_fn (by decide)]; exact fm7_8
  have fm8_9 : m8 9 = F9 := by rw [em8, zCp_fn (by decide)]; exact fm7_9
  have fm8_10 : m8 10 = F10 := by rw [em8, zCp_fn (by decide)]; exact fm7_10
  have fm8_11 : m8 11 = F11 := by rw [em8, zCp_fn (by decide)]; exact fm7_11
  have fm8_12 : m8 12 = F12 := by rw [em8, zCp_fn (by decide)]; exact fm7_12
  have fm8_13 : m8 13 = F13 := by rw [em8, zCp_fn (by decide)]; exact fm7_13
  have fm8_16 : m8 16 = F16 := by rw [em8, zCp_fn (by decide)]; exact fm7_16
  have fm8_17 : m8 17 = F17 := by rw [em8, zCp_fn (by decide)]; exact fm7_17
  have fm8_18 : m8 18 = F18 := by rw [em8, zCp_fn (by decide)]; exact fm7_18
  have fm8_19 : m8 19 = F19 := by rw [em8, zCp_fn (by decide)]; exact fm7_19
  have fm8_20 : m8 20 = F20 := by rw [em8, zCp_fn (by decide)]; exact fm7_20
  have fm8_21 : m8 21 = F21 := by rw [em8, zCp_fn (by decide)]; exact fm7_21
  have fm8_22 : m8 22 = F22 := by rw [em8, zCp_fn (by decide)]; exact fm7_22
  have fm8_23 : m8 23 = F23 := by rw [em8, zCp_fn (by decide)]; exact fm7_23
  have fm8_24 : m8 24 = F24 := by rw [em8, zCp_fn (by decide)]; exact fm7_24
  have fm8_25 : m8 25 = F25 := by rw [em8, zCp_fn (by decide)]; exact fm7_25
  have fm8_26 : m8 26 = F26 := by rw [em8, zCp_fn (by decide)]; exact fm7_26
  have fm8_27 : m8 27 = F27 := by rw [em8, zCp_fn (by decide)]; exact fm7_27
  clear em8
  refine zw_7 zr_61_78 rfl ?_
  refine zw_46r (s := 18) zr_61_79 rfl rfl rfl rfl ?_
  refine zw_push zr_61_82 ?_
  refine zw_7 zr_61_83 rfl ?_
  refine zw_46r (s := 4) zr_61_84 rfl rfl rfl rfl ?_
  refine zw_push zr_61_87 ?_
  refine zw_push zr_61_88 ?_
  refine zw_114 (c1 := 4) (c2 := 18) (l1 := 40) (l2 := 40) zr_61_90 rfl rfl rfl rfl (by decide) (Nat.le_of_ble_eq_true rfl) (by omega) (by omega) ?_
  intro m9 em9
  have hIm9 : zInv m9 := by rw [em9]; exact zInv.cpS hIm8 (l2 := 40) (fun _ => rfl) rfl (by decide) (by decide) (by decide)
  have hFm9 : zFr W_61_1_15 m0 m9 := by rw [em9]; exact hFm8.cp rfl
  have km9_15_0 : m9 15 0 = g0 := by rw [em9, zCp_ne (by decide)]; exact km8_15_0
  have km9_15_1 : m9 15 1 = g1 := by rw [em9, zCp_ne (by decide)]; exact km8_15_1
  have km9_15_2 : m9 15 2 = g2 := by rw [em9, zCp_ne (by decide)]; exact km8_15_2
  have km9_15_3 : m9 15 3 = g3 := by rw [em9, zCp_ne (by decide)]; exact km8_15_3
  have km9_15_4 : m9 15 4 = g4 := by rw [em9, zCp_ne (by decide)]; exact km8_15_4
  have km9_15_5 : m9 15 5 = g5 := by rw [em9, zCp_ne (by decide)]; exact km8_15_5
  have km9_1_0 : m9 1 0 = g0 := by rw [em9, zCp_ne (by decide)]; exact km8_1_0
  have km9_1_1 : m9 1 1 = g1 := by rw [em9, zCp_ne (by decide)]; exact km8_1_1
  have km9_1_2 : m9 1 2 = g2 := by rw [em9, zCp_ne (by decide)]; exact km8_1_2
  have km9_1_3 : m9 1 3 = g3 := by rw [em9, zCp_ne (by decide)]; exact km8_1_3
  have km9_1_4 : m9 1 4 = g4 := by rw [em9, zCp_ne (by decide)]; exact km8_1_4
  have km9_1_5 : m9 1 5 = g5 := by rw [em9, zCp_ne (by decide)]; exact km8_1_5
  have fm9_2 : m9 2 = zCf F2 F16 10 := by rw [em9, zCp_fn (by decide)]; exact fm8_2
  have fm9_3 : m9 3 = zCf F3 F17 40 := by rw [em9, zCp_fn (by decide)]; exact fm8_3
  have fm9_4 : m9 4 = zCf F4 F18 40 := by rw [em9]; exact (zCp_ff (m := m8) (c1 := 4) (c2 := 18) (n := 40) rfl rfl).trans (by rw [fm8_4, fm8_18])
  have fm9_5 : m9 5 = F5 := by rw [em9, zCp_fn (by decide)]; exact fm8_5
  have fm9_6 : m9 6 = F6 := by rw [em9, zCp_fn (by decide)]; exact fm8_6
  have fm9_7 : m9 7 = F7 := by rw [em9, zCp_fn (by decide)]; exact fm8_7
  have fm9_8 : m9 8 = F8 := by rw [em9, zCp_fn (by decide)]; exact fm8_8
  have fm9_9 : m9 9 = F9 := by rw [em9, zCp_fn (by decide)]; exact fm8_9
  have fm9_10 : m9 10 = F10 := by rw [em9, zCp_fn (by decide)]; exact fm8_10
  have fm9_11 : m9 11 = F11 := by rw [em9, zCp_fn (by decide)]; exact fm8_11
  have fm9_12 : m9 12 = F12 := by rw [em9, zCp_fn (by decide)]; exact fm8_12
  have fm9_13 : m9 13 = F13 := by rw [em9, zCp_fn (by decide)]; exact fm8_13
  have fm9_16 : m9 16 = F16 := by rw [em9, zCp_fn (by decide)]; exact fm8_16
  have fm9_17 : m9 17 = F17 := by rw [em9, zCp_fn (by decide)]; exact fm8_17
  have fm9_18 : m9 18 = F18 := by rw [em9, zCp_fn (by decide)]; exact fm8_18
  have fm9_19 : m9 19 = F19 := by rw [em9, zCp_fn (by decide)]; exact fm8_19
  have fm9_20 : m9 20 = F20 := by rw [em9, zCp_fn (by decide)]; exact fm8_20
  have fm9_21 : m9 21 = F21 := by rw [em9, zCp_fn (by decide)]; exact fm8_21
  have fm9_22 : m9 22 = F22 := by rw [em9, zCp_fn (by decide)]; exact fm8_22
  have fm9_23 : m9 23 = F23 := by rw [em9, zCp_fn (by decide)]; exact fm8_23
  have fm9_24 : m9 24 = F24 := by rw [em9, zCp_fn (by decide)]; exact fm8_24
  have fm9_25 : m9 25 = F25 := by rw [em9, zCp_fn (by decide)]; exact fm8_25
  have fm9_26 : m9 26 = F26 := by rw [em9, zCp_fn (by decide)]; exact fm8_26
  have fm9_27 : m9 27 = F27 := by rw [em9, zCp_fn (by decide)]; exact fm8_27
  clear em9
  refine zw_7 zr_61_93 rfl ?_
  refine zw_46r (s := 19) zr_61_94 rfl rfl rfl rfl ?_
  refine zw_push zr_61_97 ?_
  refine zw_7 zr_61_98 rfl ?_
  refine zw_46r (s := 5) zr_61_99 rfl rfl rfl rfl ?_
  refine zw_push zr_61_102 ?_
  refine zw_push zr_61_103 ?_
  refine zw_114 (c1 := 5) (c2 := 19) (l1 := 60) (l2 := 60) zr_61_105 rfl rfl rfl rfl (by decide) (Nat.le_of_ble_eq_true rfl) (by omega) (by omega) ?_
  intro m10 em10
  have hIm10 : zInv m10 := by rw [em10]; exact zInv.cpS hIm9 (l2 := 60) (fun _ => rfl) rfl (by decide) (by decide) (by decide)
  have hFm10 : zFr W_61_1_15 m0 m10 := by rw [em10]; exact hFm9.cp rfl
  have km10_15_0 : m10 15 0 = g0 := by rw [em10, zCp_ne (by decide)]; exact km9_15_0
  have km10_15_1 : m10 15 1 = g1 := by rw [em10, zCp_ne (by decide)]; exact km9_15_1
  have km10_15_2 : m10 15 2 = g2 := by rw [em10, zCp_ne (by decide)]; exact km9_15_2
  have km10_15_3 : m10 15 3 = g3 := by rw [em10, zCp_ne (by decide)]; exact km9_15_3
  have km10_15_4 : m10 15 4 = g4 := by rw [em10, zCp_ne (by decide)]; exact km9_15_4
  have km10_15_5 : m10 15 5 = g5 := by rw [em10, zCp_ne (by decide)]; exact km9_15_5
  have km10_1_0 : m10 1 0 = g0 := by rw [em10, zCp_ne (by decide)]; exact km9_1_0
  have km10_1_1 : m10 1 1 = g1 := by rw [em10, zCp_ne (by decide)]; exact km9_1_1
  have km10_1_2 : m10 1 2 = g2 := by rw [em10, zCp_ne (by decide)]; exact km9_1_2
  have km10_1_3 : m10 1 3 = g3 := by rw [em10, zCp_ne (by decide)]; exact km9_1_3
  have km10_1_4 : m10 1 4 = g4 := by rw [em10, zCp_ne (by decide)]; exact km9_1_4
  have km10_1_5 : m10 1 5 = g5 := by rw [em10, zCp_ne (by decide)]; exact km9_1_5
  have fm10_2 : m10 2 = zCf F2 F16 10 := by rw [em10, zCp_fn (by decide)]; exact fm9_2
  have fm10_3 : m10 3 = zCf F3 F17 40 := by rw [em10, zCp_fn (by decide)]; exact fm9_3
  have fm10_4 : m10 4 = zCf F4 F18 40 := by rw [em10, zCp_fn (by decide)]; exact fm9_4
  have fm10_5 : m10 5 = zCf F5 F19 60 := by rw [em10]; exact (zCp_ff (m := m9) (c1 := 5) (c2 := 19) (n := 60) rfl rfl).trans (by rw [fm9_5, fm9_19])
  have fm10_6 : m10 6 = F6 := by rw [em10, zCp_fn (by decide)]; exact fm9_6
  have fm10_7 : m10 7 = F7 := by rw [em10, zCp_fn (by decide)]; exact fm9_7
  have fm10_8 : m10 8 = F8 := by rw [em10, zCp_fn (by decide)]; exact fm9_8
  have fm10_9 : m10 9 = F9 := by rw [em10, zCp_fn (by decide)]; exact fm9_9
  have fm10_10 : m10 10 = F10 := by rw [em10, zCp_fn (by decide)]; exact fm9_10
  have fm10_11 : m10 11 = F11 := by rw [em10, zCp_fn (by decide)]; exact fm9_11
  have fm10_12 : m10 12 = F12 := by rw [em10, zCp_fn (by decide)]; exact fm9_12
  have fm10_13 : m10 13 = F13 := by rw [em10, zCp_fn (by decide)]; exact fm9_13
  have fm10_16 : m10 16 = F16 := by rw [em10, zCp_fn (by decide)]; exact fm9_16
  have fm10_17 : m10 17 = F17 := by rw [em10, zCp_fn (by decide)]; exact fm9_17
  have fm10_18 : m10 18 = F18 := by rw [em10, zCp_fn (by decide)]; exact fm9_18
  have fm10_19 : m10 19 = F19 := by rw [em10, zCp_fn (by decide)]; exact fm9_19
  have fm10_20 : m10 20 = F20 := by rw [em10, zCp_fn (by decide)]; exact fm9_20
  have fm10_21 : m10 21 = F21 := by rw [em10, zCp_fn (by decide)]; exact fm9_21
  have fm10_22 : m10 22 = F22 := by rw [em10, zCp_fn (by decide)]; exact fm9_22
  have fm10_23 : m10 23 = F23 := by rw [em10, zCp_fn (by decide)]; exact fm9_23
  have fm10_24 : m10 24 = F24 := by rw [em10, zCp_fn (by decide)]; exact fm9_24
  have fm10_25 : m10 25 = F25 := by rw [em10, zCp_fn (by decide)]; exact fm9_25
  have fm10_26 : m10 26 = F26 := by rw [em10, zCp_fn (by decide)]; exact fm9_26
  have fm10_27 : m10 27 = F27 := by rw [em10, zCp_fn (by decide)]; exact fm9_27
  clear em10
  refine zw_7 zr_61_108 rfl ?_
  refine zw_46r (s := 20) zr_61_109 rfl rfl rfl rfl ?_
  refine zw_push zr_61_112 ?_
  refine zw_7 zr_61_113 rfl ?_
  refine zw_46r (s := 6) zr_61_114 rfl rfl rfl rfl ?_
  refine zw_push zr_61_117 ?_
  refine zw_push zr_61_118 ?_
  refine zw_114 (c1 := 6) (c2 := 20) (l1 := 60) (l2 := 60) zr_61_120 rfl rfl rfl rfl (by decide) (Nat.le_of_ble_eq_true rfl) (by omega) (by omega) ?_
  intro m11 em11
  have hIm11 : zInv m11 := by rw [em11]; exact zInv.cpS hIm10 (l2 := 60) (fun _ => rfl) rfl (by decide) (by decide) (by decide)
  have hFm11 : zFr W_61_1_15 m0 m11 := by rw [em11]; exact hFm10.cp rfl
  have km11_15_0 : m11 15 0 = g0 := by rw [em11, zCp_ne (by decide)]; exact km10_15_0
  have km11_15_1 : m11 15 1 = g1 := by rw [em11, zCp_ne (by decide)]; exact km10_15_1
  have km11_15_2 : m11 15 2 = g2 := by rw [em11, zCp_ne (by decide)]; exact km10_15_2
  have km11_15_3 : m11 15 3 = g3 := by rw [em11, zCp_ne (by decide)]; exact km10_15_3
  have km11_15_4 : m11 15 4 = g4 := by rw [em11, zCp_ne (by decide)]; exact km10_15_4
  have km11_15_5 : m11 15 5 = g5 := by rw [em11, zCp_ne (by decide)]; exact km10_15_5
  have km11_1_0 : m11 1 0 = g0 := by rw [em11, zCp_ne (by decide)]; exact km10_1_0
  have km11_1_1 : m11 1 1 = g1 := by rw [em11, zCp_ne (by decide)]; exact km10_1_1
  have km11_1_2 : m11 1 2 = g2 := by rw [em11, zCp_ne (by decide)]; exact km10_1_2
  have km11_1_3 : m11 1 3 = g3 := by rw [em11, zCp_ne (by decide)]; exact km10_1_3
  have km11_1_4 : m11 1 4 = g4 := by rw [em11, zCp_ne (by decide)]; exact km10_1_4
  have km11_1_5 : m11 1 5 = g5 := by rw [em11, zCp_ne (by decide)]; exact km10_1_5
  have fm11_2 : m11 2 = zCf F2 F16 10 := by rw [em11, zCp_fn (by decide)]; exact fm10_2
  have fm11_3 : m11 3 = zCf F3 F17 40 := by rw [em11, zCp_fn (by decide)]; exact fm10_3
  have fm11_4 : m11 4 = zCf F4 F18 40 := by rw [em11, zCp_fn (by decide)]; exact fm10_4
  have fm11_5 : m11 5 = zCf F5 F19 60 := by rw [em11, zCp_fn (by decide)]; exact fm10_5
  have fm11_6 : m11 6 = zCf F6 F20 60 := by rw [em11]; exact (zCp_ff (m := m10) (c1 := 6) (c2 := 20) (n := 60) rfl rfl).trans (by rw [fm10_6, fm10_20])
  have fm11_7 : m11 7 = F7 := by rw [em11, zCp_fn (by decide)]; exact fm10_7
  have fm11_8 : m11 8 = F8 := by rw [em11, zCp_fn (by decide)]; exact fm10_8
  have fm11_9 : m11 9 = F9 := by rw [em11, zCp_fn (by decide)]; exact fm10_9
  have fm11_10 : m11 10 = F10 := by rw [em11, zCp_fn (by decide)]; exact fm10_10
  have fm11_11 : m11 11 = F11 := by rw [em11, zCp_fn (by decide)]; exact fm10_11
  have fm11_12 : m11 12 = F12 := by rw [em11, zCp_fn (by decide)]; exact fm10_12
  have fm11_13 : m11 13 = F13 := by rw [em11, zCp_fn (by decide)]; exact fm10_13
  have fm11_16 : m11 16 = F16 := by rw [em11, zCp_fn (by decide)]; exact fm10_16
  have fm11_17 : m11 17 = F17 := by rw [em11, zCp_fn (by decide)]; exact fm10_17
  have fm11_18 : m11 18 = F18 := by rw [em11, zCp_fn (by decide)]; exact fm10_18
  have fm11_19 : m11 19 = F19 := by rw [em11, zCp_fn (by decide)]; exact fm10_19
  have fm11_20 : m11 20 = F20 := by rw [em11, zCp_fn (by decide)]; exact fm10_20
  have fm11_21 : m11 21 = F21 := by rw [em11, zCp_fn (by decide)]; exact fm10_21
  have fm11_22 : m11 22 = F22 := by rw [em11, zCp_fn (by decide)]; exact fm10_22
  have fm11_23 : m11 23 = F23 := by rw [em11, zCp_fn (by decide)]; exact fm10_23
  have fm11_24 : m11 24 = F24 := by rw [em11, zCp_fn (by decide)]; exact fm10_24
  have fm11_25 : m11 25 = F25 := by rw [em11, zCp_fn (by decide)]; exact fm10_25
  have fm11_26 : m11 26 = F26 := by rw [em11, zCp_fn (by decide)]; exact fm10_26
  have fm11_27 : m11 27 = F27 := by rw [em11, zCp_fn (by decide)]; exact fm10_27
  clear em11
  refine zw_7 zr_61_123 rfl ?_
  refine zw_46r (s := 21) zr_61_124 rfl rfl rfl rfl ?_
  refine zw_push zr_61_127 ?_
  refine zw_7 zr_61_128 rfl ?_
  refine zw_46r (s := 7) zr_61_129 rfl rfl rfl rfl ?_
  refine zw_push zr_61_132 ?_
  refine zw_push zr_61_133 ?_
  refine zw_114 (c1 := 7) (c2 := 21) (l1 := 60) (l2 := 60) zr_61_135 rfl rfl rfl rfl (by decide) (Nat.le_of_ble_eq_true rfl) (by omega) (by omega) ?_
  intro m12 em12
  have hIm12 : zInv m12 := by rw [em12]; exact zInv.cpS hIm11 (l2 := 60) (fun _ => rfl) rfl (by decide) (by decide) (by decide)
  have hFm12 : zFr W_61_1_15 m0 m12 := by rw [em12]; exact hFm11.cp rfl
  have km12_15_0 : m12 15 0 = g0 := by rw [em12, zCp_ne (by decide)]; exact km11_15_0
  have km12_15_1 : m12 15 1 = g1 := by rw [em12, zCp_ne (by decide)]; exact km11_15_1
  have km12_15_2 : m12 15 2 = g2 := by rw [em12, zCp_ne (by decide)]; exact km11_15_2
  have km12_15_3 : m12 15 3 = g3 := by rw [em12, zCp_ne (by decide)]; exact km11_15_3
  have km12_15_4 : m12 15 4 = g4 := by rw [em12, zCp_ne (by decide)]; exact km11_15_4
  have km12_15_5 : m12 15 5 = g5 := by rw [em12, zCp_ne (by decide)]; exact km11_15_5
  have km12_1_0 : m12 1 0 = g0 := by rw [em12, zCp_ne (by decide)]; exact km11_1_0
  have km12_1_1 : m12 1 1 = g1 := by rw [em12, zCp_ne (by decide)]; exact km11_1_1
  have km12_1_2 : m12 1 2 = g2 := by rw [em12, zCp_ne (by decide)]; exact km11_1_2
  have km12_1_3 : m12 1 3 = g3 := by rw [em12, zCp_ne (by decide)]; exact km11_1_3
  have km12_1_4 : m12 1 4 = g4 := by rw [em12, zCp_ne (by decide)]; exact km11_1_4
  have km12_1_5 : m12 1 5 = g5 := by rw [em12, zCp_ne (by decide)]; exact km11_1_5
  have fm12_2 : m12 2 = zCf F2 F16 10 := by rw [em12, zCp_fn (by decide)]; exact fm11_2
  have fm12_3 : m12 3 = zCf F3 F17 40 := by rw [em12, zCp_fn (by decide)]; exact fm11_3
  have fm12_4 : m12 4 = zCf F4 F18 40 := by rw [em12, zCp_fn (by decide)]; exact fm11_4
  have fm12_5 : m12 5 = zCf F5 F19 60 := by rw [em12, zCp_fn (by decide)]; exact fm11_5
  have fm12_6 : m12 6 = zCf F6 F20 60 := by rw [em12, zCp_fn (by decide)]; exact fm11_6
  have fm12_7 : m12 7 = zCf F7 F21 60 := by rw [em12]; exact (zCp_ff (m := m11) (c1 := 7) (c2 := 21) (n := 60) rfl rfl).trans (by rw [fm11_7, fm11_21])
  have fm12_8 : m12 8 = F8 := by rw [em12, zCp_fn (by decide)]; exact fm11_8
  have fm12_9 : m12 9 = F9 := by rw [em12, zCp_fn (by decide)]; exact fm11_9
  have fm12_10 : m12 10 = F10 := by rw [em12, zCp_fn (by decide)]; exact fm11_10
  have fm12_11 : m12 11 = F11 := by rw [em12, zCp_fn (by decide)]; exact fm11_11
  have fm12_12 : m12 12 = F12 := by rw [em12, zCp_fn (by decide)]; exact fm11_12
  have fm12_13 : m12 13 = F13 := by rw [em12, zCp_fn (by decide)]; exact fm11_13
  have fm12_16 : m12 16 = F16 := by rw [em12, zCp_fn (by decide)]; exact fm11_16
  have fm12_17 : m12 17 = F17 := by rw [em12, zCp_fn (by decide)]; exact fm11_17
  have fm12_18 : m12 18 = F18 := by rw [em12, zCp_fn (by decide)]; exact fm11_18
  have fm12_19 : m12 19 = F19 := by rw [em12, zCp_fn (by decide)]; exact fm11_19
  have fm12_20 : m12 20 = F20 := by rw [em12, zCp_fn (by decide)]; exact fm11_20
  have fm12_21 : m12 21 = F21 := by rw [em12, zCp_fn (by decide)]; exact fm11_21
  have fm12_22 : m12 22 = F22 := by rw [em12, zCp_fn (by decide)]; exact fm11_22
  have fm12_23 : m12 23 = F23 := by rw [em12, zCp_fn (by decide)]; exact fm11_23
  have fm12_24 : m12 24 = F24 := by rw [em12, zCp_fn (by decide)]; exact fm11_24
  have fm12_25 : m12 25 = F25 := by rw [em12, zCp_fn (by decide)]; exact fm11_25
  have fm12_26 : m12 26 = F26 := by rw [em12, zCp_fn (by decide)]; exact fm11_26
  have fm12_27 : m12 27 = F27 := by rw [em12, zCp_fn (by decide)]; exact fm11_27
  clear em12
  refine zw_7 zr_61_138 rfl ?_
  refine zw_46r (s := 22) zr_61_139 rfl rfl rfl rfl ?_
  refine zw_push zr_61_142 ?_
  refine zw_7 zr_61_143 rfl ?_
  refine zw_46r (s := 8) zr_61_144 rfl rfl rfl rfl ?_
  refine zw_push zr_61_147 ?_
  refine zw_push zr_61_148 ?_
  refine zw_114 (c1 := 8) (c2 := 22) (l1 := 60) (l2 := 60) zr_61_150 rfl rfl rfl rfl (by decide) (Nat.le_of_ble_eq_true rfl) (by omega) (by omega) ?_
  intro m13 em13
  have hIm13 : zInv m13 := by rw [em13]; exact zInv.cpS hIm12 (l2 := 60) (fun _ => rfl) rfl (by decide) (by decide) (by decide)
  have hFm13 : zFr W_61_1_15 m0 m13 := by rw [em13]; exact hFm12.cp rfl
  have km13_15_0 : m13 15 0 = g0 := by rw [em13, zCp_ne (by decide)]; exact km12_15_0
  have km13_15_1 : m13 15 1 = g1 := by rw [em13, zCp_ne (by decide)]; exact km12_15_1
  have km13_15_2 : m13 15 2 = g2 := by rw [em13, zCp_ne (by decide)]; exact km12_15_2
  have km13_15_3 : m13 15 3 = g3 := by rw [em13, zCp_ne (by decide)]; exact km12_15_3
  have km13_15_4 : m13 15 4 = g4 := by rw [em13, zCp_ne (by decide)]; exact km12_15_4
  have km13_15_5 : m13 15 5 = g5 := by rw [em13, zCp_ne (by decide)]; exact km12_15_5
  have km13_1_0 : m13 1 0 = g0 := by rw [em13, zCp_ne (by decide)]; exact km12_1_0
  have km13_1_1 : m13 1 1 = g1 := by rw [em13, zCp_ne (by decide)]; exact km12_1_1
  have km13_1_2 : m13 1 2 = g2 := by rw [em13, zCp_ne (by decide)]; exact km12_1_2
  have km13_1_3 : m13 1 3 = g3 := by rw [em13, zCp_ne (by decide)]; exact km12_1_3
  have km13_1_4 : m13 1 4 = g4 := by rw [em13, zCp_ne (by decide)]; exact km12_1_4
  have km13_1_5 : m13 1 5 = g5 := by rw [em13, zCp_ne (by decide)]; exact km12_1_5
  have fm13_2 : m13 2 = zCf F2 F16 10 := by rw [em13, zCp_fn (by decide)]; exact fm12_2
  have fm13_3 : m13 3 = zCf F3 F17 40 := by rw [em13, zCp_fn (by decide)]; exact fm12_3
  have fm13_4 : m13 4 = zCf F4 F18 40 := by rw [em13, zCp_fn (by decide)]; exact fm12_4
  have fm13_5 : m13 5 = zCf F5 F19 60 := by rw [em13, zCp_fn (by decide)]; exact fm12_5
  have fm13_6 : m13 6 = zCf F6 F20 60 := by rw [em13, zCp_fn (by decide)]; exact fm12_6
  have fm13_7 : m13 7 = zCf F7 F21 60 := by rw [em13, zCp_fn (by decide)]; exact fm12_7
  have fm13_8 : m13 8 = zCf F8 F22 60 := by rw [em13]; exact (zCp_ff (m := m12) (c1 := 8) (c2 := 22) (n := 60) rfl rfl).trans (by rw [fm12_8, fm12_22])
  have fm13_9 : m13 9 = F9 := by rw [em13, zCp_fn (by decide)]; exact fm12_9
  have fm13_10 : m13 10 = F10 := by rw [em13, zCp_fn (by decide)]; exact fm12_10
  have fm13_11 : m13 11 = F11 := by rw [em13, zCp_fn (by decide)]; exact fm12_11
  have fm13_12 : m13 12 = F12 := by rw [em13, zCp_fn (by decide)]; exact fm12_12
  have fm13_13 : m13 13 = F13 := by rw [em13, zCp_fn (by decide)]; exact fm12_13
  have fm13_16 : m13 16 = F16 := by rw [em13, zCp_fn (by decide)]; exact fm12_16
  have fm13_17 : m13 17 = F17 := by rw [em13, zCp_fn (by decide)]; exact fm12_17
  have fm13_18 : m13 18 = F18 := by rw [em13, zCp_fn (by decide)]; exact fm12_18
  have fm13_19 : m13 19 = F19 := by rw [em13, zCp_fn (by decide)]; exact fm12_19
  have fm13_20 : m13 20 = F20 := by rw [em13, zCp_fn (by decide)]; exact fm12_20
  have fm13_21 : m13 21 = F21 := by rw [em13, zCp_fn (by decide)]; exact fm12_21
  have fm13_22 : m13 22 = F22 := by rw [em13, zCp_fn (by decide)]; exact fm12_22
  have fm13_23 : m13 23 = F23 := by rw [em13, zCp_fn (by decide)]; exact fm12_23
  have fm13_24 : m13 24 = F24 := by rw [em13, zCp_fn (by decide)]; exact fm12_24
  have fm13_25 : m13 25 = F25 := by rw [em13, zCp_fn (by decide)]; exact fm12_25
  have fm13_26 : m13 26 = F26 := by rw [em13, zCp_fn (by decide)]; exact fm12_26
  have fm13_27 : m13 27 = F27 := by rw [em13, zCp_fn (by decide)]; exact fm12_27
  clear em13
  refine zw_7 zr_61_153 rfl ?_
  refine zw_46r (s := 23) zr_61_154 rfl rfl rfl rfl ?_
  refine zw_push zr_61_157 ?_
  refine zw_7 zr_61_158 rfl ?_
  refine zw_46r (s := 9) zr_61_159 rfl rfl rfl rfl ?_
  refine zw_push zr_61_162 ?_
  refine zw_push zr_61_163 ?_
  refine zw_114 (c1 := 9) (c2 := 23) (l1 := 4) (l2 := 4) zr_61_164 rfl rfl rfl rfl (by decide) (Nat.le_of_ble_eq_true rfl) (by omega) (by omega) ?_
  intro m14 em14
  have hIm14 : zInv m14 := by rw [em14]; exact zInv.cpS hIm13 (l2 := 4) (fun _ => rfl) rfl (by decide) (by decide) (by decide)
  have hFm14 : zFr W_61_1_15 m0 m14 := by rw [em14]; exact hFm13.cp rfl
  have km14_15_0 : m14 15 0 = g0 := by rw [em14, zCp_ne (by decide)]; exact km13_15_0
  have km14_15_1 : m14 15 1 = g1 := by rw [em14, zCp_ne (by decide)]; exact km13_15_1
  have km14_15_2 : m14 15 2 = g2 := by rw [em14, zCp_ne (by decide)]; exact km13_15_2
  have km14_15_3 : m14 15 3 = g3 := by rw [em14, zCp_ne (by decide)]; exact km13_15_3
  have km14_15_4 : m14 15 4 = g4 := by rw [em14, zCp_ne (by decide)]; exact km13_15_4
  have km14_15_5 : m14 15 5 = g5 := by rw [em14, zCp_ne (by decide)]; exact km13_15_5
  have km14_1_0 : m14 1 0 = g0 := by rw [em14, zCp_ne (by decide)]; exact km13_1_0
  have km14_1_1 : m14 1 1 = g1 := by rw [em14, zCp_ne (by decide)]; exact km13_1_1
  have km14_1_2 : m14 1 2 = g2 := by rw [em14, zCp_ne (by decide)]; exact km13_1_2
  have km14_1_3 : m14 1 3 = g3 := by rw [em14, zCp_ne (by decide)]; exact km13_1_3
  have km14_1_4 : m14 1 4 = g4 := by rw [em14, zCp_ne (by decide)]; exact km13_1_4
  have km14_1_5 : m14 1 5 = g5 := by rw [em14, zCp_ne (by decide)]; exact km13_1_5
  have fm14_2 : m14 2 = zCf F2 F16 10 := by rw [em14, zCp_fn (by decide)]; exact fm13_2
  have fm14_3 : m14 3 = zCf F3 F17 40 := by rw [em14, zCp_fn (by decide)]; exact fm13_3
  have fm14_4 : m14 4 = zCf F4 F18 40 := by rw [em14, zCp_fn (by decide)]; exact fm13_4
  have fm14_5 : m14 5 = zCf F5 F19 60 := by rw [em14, zCp_fn (by decide)]; exact fm13_5
  have fm14_6 : m14 6 = zCf F6 F20 60 := by rw [em14, zCp_fn (by decide)]; exact fm13_6
  have fm14_7 : m14 7 = zCf F7 F21 60 := by rw [em14, zCp_fn (by decide)]; exact fm13_7
  have fm14_8 : m14 8 = zCf F8 F22 60 := by rw [em14, zCp_fn (by decide)]; exact fm13_8
  have fm14_9 : m14 9 = zCf F9 F23 4 := by rw [em14]; exact (zCp_ff (m := m13) (c1 := 9) (c2 := 23) (n := 4) rfl rfl).trans (by rw [fm13_9, fm13_23])
  have fm14_10 : m14 10 = F10 := by rw [em14, zCp_fn (by decide)]; exact fm13_10
  have fm14_11 : m14 11 = F11 := by rw [em14, zCp_fn (by decide)]; exact fm13_11
  have fm14_12 : m14 12 = F12 := by rw [em14, zCp_fn (by decide)]; exact fm13_12
  have fm14_13 : m14 13 = F13 := by rw [em14, zCp_fn (by decide)]; exact fm13_13
  have fm14_16 : m14 16 = F16 := by rw [em14, zCp_fn (by decide)]; exact fm13_16
  have fm14_17 : m14 17 = F17 := by rw [em14, zCp_fn (by decide)]; exact fm13_17
  have fm14_18 : m14 18 = F18 := by rw [em14, zCp_fn (by decide)]; exact fm13_18
  have fm14_19 : m14 19 = F19 := by rw [em14, zCp_fn (by decide)]; exact fm13_19
  have fm14_20 : m14 20 = F20 := by rw [em14, zCp_fn (by decide)]; exact fm13_20
  have fm14_21 : m14 21 = F21 := by rw [em14, zCp_fn (by decide)]; exact fm13_21
  have fm14_22 : m14 22 = F22 := by rw [em14, zCp_fn (by decide)]; exact fm13_22
  have fm14_23 : m14 23 = F23 := by rw [em14, zCp_fn (by decide)]; exact fm13_23
  have fm14_24 : m14 24 = F24 := by rw [em14, zCp_fn (by decide)]; exact fm13_24
  have fm14_25 : m14 25 = F25 := by rw [em14, zCp_fn (by decide)]; exact fm13_25
  have fm14_26 : m14 26 = F26 := by rw [em14, zCp_fn (by decide)]; exact fm13_26
  have fm14_27 : m14 27 = F27 := by rw [em14, zCp_fn (by decide)]; exact fm13_27
  clear em14
  refine zw_7 zr_61_167 rfl ?_
  refine zw_46r (s := 24) zr_61_168 rfl rfl rfl rfl ?_
  refine zw_push zr_61_171 ?_
  refine zw_7 zr_61_172 rfl ?_
  refine zw_46r (s := 10) zr_61_173 rfl rfl rfl rfl ?_
  refine zw_push zr_61_176 ?_
  refine zw_push zr_61_177 ?_
  refine zw_114 (c1 := 10) (c2 := 24) (l1 := 4) (l2 := 4) zr_61_178 rfl rfl rfl rfl (by decide) (Nat.le_of_ble_eq_true rfl) (by omega) (by omega) ?_
  intro m15 em15
  have hIm15 : zInv m15 := by rw [em15]; exact zInv.cpS hIm14 (l2 := 4) (fun _ => rfl) rfl (by decide) (by decide) (by decide)
  have hFm15 : zFr W_61_1_15 m0 m15 := by rw [em15]; exact hFm14.cp rfl
  have km15_15_0 : m15 15 0 = g0 := by rw [em15, zCp_ne (by decide)]; exact km14_15_0
  have km15_15_1 : m15 15 1 = g1 := by rw [em15, zCp_ne (by decide)]; exact km14_15_1
  have km15_15_2 : m15 15 2 = g2 := by rw [em15, zCp_ne (by decide)]; exact km14_15_2
  have km15_15_3 : m15 15 3 = g3 := by rw [em15, zCp_ne (by decide)]; exact km14_15_3
  have km15_15_4 : m15 15 4 = g4 := by rw [em15, zCp_ne (by decide)]; exact km14_15_4
  have km15_15_5 : m15 15 5 = g5 := by rw [em15, zCp_ne (by decide)]; exact km14_15_5
  have km15_1_0 : m15 1 0 = g0 := by rw [em15, zCp_ne (by decide)]; exact km14_1_0
  have km15_1_1 : m15 1 1 = g1 := by rw [em15, zCp_ne (by decide)]; exact km14_1_1
  have km15_1_2 : m15 1 2 = g2 := by rw [em15, zCp_ne (by decide)]; exact km14_1_2
  have km15_1_3 : m15 1 3 = g3 := by rw [em15, zCp_ne (by decide)]; exact km14_1_3
  have km15_1_4 : m15 1 4 = g4 := by rw [em15, zCp_ne (by decide)]; exact km14_1_4
  have km15_1_5 : m15 1 5 = g5 := by rw [em15, zCp_ne (by decide)]; exact km14_1_5
  have fm15_2 : m15 2 = zCf F2 F16 10 := by rw [em15, zCp_fn (by decide)]; exact fm14_2
  have fm15_3 : m15 3 = zCf F3 F17 40 := by rw [em15, zCp_fn (by decide)]; exact fm14_3
  have fm15_4 : m15 4 = zCf F4 F18 40 := by rw [em15, zCp_fn (by decide)]; exact fm14_4
  have fm15_5 : m15 5 = zCf F5 F19 60 := by rw [em15, zCp_fn (by decide)]; exact fm14_5
  have fm15_6 : m15 6 = zCf F6 F20 60 := by rw [em15, zCp_fn (by decide)]; exact fm14_6
  have fm15_7 : m15 7 = zCf F7 F21 60 := by rw [em15, zCp_fn (by decide)]; exact fm14_7
  have fm15_8 : m15 8 = zCf F8 F22 60 := by rw [em15, zCp_fn (by decide)]; exact fm14_8
  have fm15_9 : m15 9 = zCf F9 F23 4 := by rw [em15, zCp_fn (by decide)]; exact fm14_9
  have fm15_10 : m15 10 = zCf F10 F24 4 := by rw [em15]; exact (zCp_ff (m := m14) (c1 := 10) (c2 := 24) (n := 4) rfl rfl).trans (by rw [fm14_10, fm14_24])
  have fm15_11 : m15 11 = F11 := by rw [em15, zCp_fn (by decide)]; exact fm14_11
  have fm15_12 : m15 12 = F12 := by rw [em15, zCp_fn (by decide)]; exact fm14_12
  have fm15_13 : m15 13 = F13 := by rw [em15, zCp_fn (by decide)]; exact fm14_13
  have fm15_16 : m15 16 = F16 := by rw [em15, zCp_fn (by decide)]; exact fm14_16
  have fm15_17 : m15 17 = F17 := by rw [em15, zCp_fn (by decide)]; exact fm14_17
  have fm15_18 : m15 18 = F18 := by rw [em15, zCp_fn (by decide)]; exact fm14_18
  have fm15_19 : m15 19 = F19 := by rw [em15, zCp_fn (by decide)]; exact fm14_19
  have fm15_20 : m15 20 = F20 := by rw [em15, zCp_fn (by decide)]; exact fm14_20
  have fm15_21 : m15 21 = F21 := by rw [em15, zCp_fn (by decide)]; exact fm14_21
  have fm15_22 : m15 22 = F22 := by rw [em15, zCp_fn (by decide)]; exact fm14_22
  have fm15_23 : m15 23 = F23 := by rw [em15, zCp_fn (by decide)]; exact fm14_23
  have fm15_24 : m15 24 = F24 := by rw [em15, zCp_fn (by decide)]; exact fm14_24
  have fm15_25 : m15 25 = F25 := by rw [em15, zCp_fn (by decide)]; exact fm14_25
  have fm15_26 : m15 26 = F26 := by rw [em15, zCp_fn (by decide)]; exact fm14_26
  have fm15_27 : m15 27 = F27 := by rw [em15, zCp_fn (by decide)]; exact fm14_27
  clear em15
  refine zw_7 zr_61_181 rfl ?_
  refine zw_46r (s := 25) zr_61_182 rfl rfl rfl rfl ?_
  refine zw_push zr_61_185 ?_
  refine zw_7 zr_61_186 rfl ?_
  refine zw_46r (s := 11) zr_61_187 rfl rfl rfl rfl ?_
  refine zw_push zr_61_190 ?_
  refine zw_push zr_61_191 ?_
  refine zw_114 (c1 := 11) (c2 := 25) (l1 := 200) (l2 := 200) zr_61_194 rfl rfl rfl rfl (by decide) (Nat.le_of_ble_eq_true rfl) (by omega) (by omega) ?_
  intro m16 em16
  have hIm16 : zInv m16 := by rw [em16]; exact zInv.cpS hIm15 (l2 := 200) (fun _ => rfl) rfl (by decide) (by decide) (by decide)
  have hFm16 : zFr W_61_1_15 m0 m16 := by rw [em16]; exact hFm15.cp rfl
  have km16_15_0 : m16 15 0 = g0 := by rw [em16, zCp_ne (by decide)]; exact km15_15_0
  have km16_15_1 : m16 15 1 = g1 := by rw [em16, zCp_ne (by decide)]; exact km15_15_1
  have km16_15_2 : m16 15 2 = g2 := by rw [em16, zCp_ne (by decide)]; exact km15_15_2
  have km16_15_3 : m16 15 3 = g3 := by rw [em16, zCp_ne (by decide)]; exact km15_15_3
  have km16_15_4 : m16 15 4 = g4 := by rw [em16, zCp_ne (by decide)]; exact km15_15_4
  have km16_15_5 : m16 15 5 = g5 := by rw [em16, zCp_ne (by decide)]; exact km15_15_5
  have km16_1_0 : m16 1 0 = g0 := by rw [em16, zCp_ne (by decide)]; exact km15_1_0
  have km16_1_1 : m16 1 1 = g1 := by rw [em16, zCp_ne (by decide)]; exact km15_1_1
  have km16_1_2 : m16 1 2 = g2 := by rw [em16, zCp_ne (by decide)]; exact km15_1_2
  have km16_1_3 : m16 1 3 = g3 := by rw [em16, zCp_ne (by decide)]; exact km15_1_3
  have km16_1_4 : m16 1 4 = g4 := by rw [em16, zCp_ne (by decide)]; exact km15_1_4
  have km16_1_5 : m16 1 5 = g5 := by rw [em16, zCp_ne (by decide)]; exact km15_1_5
  have fm16_2 : m16 2 = zCf F2 F16 10 := by rw [em16, zCp_fn (by decide)]; exact fm15_2
  have fm16_3 : m16 3 = zCf F3 F17 40 := by rw [em16, zCp_fn (by decide)]; exact fm15_3
  have fm16_4 : m16 4 = zCf F4 F18 40 := by rw [em16, zCp_fn (by decide)]; exact fm15_4
  have fm16_5 : m16 5 = zCf F5 F19 60 := by rw [em16, zCp_fn (by decide)]; exact fm15_5
  have fm16_6 : m16 6 = zCf F6 F20 60 := by rw [em16, zCp_fn (by decide)]; exact fm15_6
  have fm16_7 : m16 7 = zCf F7 F21 60 := by rw [em16, zCp_fn (by decide)]; exact fm15_7
  have fm16_8 : m16 8 = zCf F8 F22 60 := by rw [em16, zCp_fn (by decide)]; exact fm15_8
  have fm16_9 : m16 9 = zCf F9 F23 4 := by rw [em16, zCp_fn (by decide)]; exact fm15_9
  have fm16_10 : m16 10 = zCf F10 F24 4 := by rw [em16, zCp_fn (by decide)]; exact fm15_10
  have fm16_11 : m16 11 = zCf F11 F25 200 := by rw [em16]; exact (zCp_ff (m := m15) (c1 := 11) (c2 := 25) (n := 200) rfl rfl).trans (by rw [fm15_11, fm15_25])
  have fm16_12 : m16 12 = F12 := by rw [em16, zCp_fn (by decide)]; exact fm15_12
  have fm16_13 : m16 13 = F13 := by rw [em16, zCp_fn (by decide)]; exact fm15_13
  have fm16_16 : m16 16 = F16 := by rw [em16, zCp_fn (by decide)]; exact fm15_16
  have fm16_17 : m16 17 = F17 := by rw [em16, zCp_fn (by decide)]; exact fm15_17
  have fm16_18 : m16 18 = F18 := by rw [em16, zCp_fn (by decide)]; exact fm15_18
  have fm16_19 : m16 19 = F19 := by rw [em16, zCp_fn (by decide)]; exact fm15_19
  have fm16_20 : m16 20 = F20 := by rw [em16, zCp_fn (by decide)]; exact fm15_20
  have fm16_21 : m16 21 = F21 := by rw [em16, zCp_fn (by decide)]; exact fm15_21
  have fm16_22 : m16 22 = F22 := by rw [em16, zCp_fn (by decide)]; exact fm15_22
  have fm16_23 : m16 23 = F23 := by rw [em16, zCp_fn (by decide)]; exact fm15_23
  have fm16_24 : m16 24 = F24 := by rw [em16, zCp_fn (by decide)]; exact fm15_24
  have fm16_25 : m16 25 = F25 := by rw [em16, zCp_fn (by decide)]; exact fm15_25
  have fm16_26 : m16 26 = F26 := by rw [em16, zCp_fn (by decide)]; exact fm15_26
  have fm16_27 : m16 27 = F27 := by rw [em16, zCp_fn (by decide)]; exact fm15_27
  clear em16
  refine zw_7 zr_61_197 rfl ?_
  refine zw_46r (s := 26) zr_61_198 rfl rfl rfl rfl ?_
  refine zw_push zr_61_201 ?_
  refine zw_7 zr_61_202 rfl ?_
  refine zw_46r (s := 12) zr_61_203 rfl rfl rfl rfl ?_
  refine zw_push zr_61_206 ?_
  refine zw_push zr_61_207 ?_
  refine zw_114 (c1 := 12) (c2 := 26) (l1 := 160) (l2 := 160) zr_61_210 rfl rfl rfl rfl (by decide) (Nat.le_of_ble_eq_true rfl) (by omega) (by omega) ?_
  intro m17 em17
  have hIm17 : zInv m17 := by rw [em17]; exact zInv.cpS hIm16 (l2 := 160) (fun _ => rfl) rfl (by decide) (by decide) (by decide)
  have hFm17 : zFr W_61_1_15 m0 m17 := by rw [em17]; exact hFm16.cp rfl
  have km17_15_0 : m17 15 0 = g0 := by rw [em17, zCp_ne (by decide)]; exact km16_15_0
  have km17_15_1 : m17 15 1 = g1 := by rw [em17, zCp_ne (by decide)]; exact km16_15_1
  have km17_15_2 : m17 15 2 = g2 := by rw [em17, zCp_ne (by decide)]; exact km16_15_2
  have km17_15_3 : m17 15 3 = g3 := by rw [em17, zCp_ne (by decide)]; exact km16_15_3
  have km17_15_4 : m17 15 4 = g4 := by rw [em17, zCp_ne (by decide)]; exact km16_15_4
  have km17_15_5 : m17 15 5 = g5 := by rw [em17, zCp_ne (by decide)]; exact km16_15_5
  have km17_1_0 : m17 1 0 = g0 := by rw [em17, zCp_ne (by decide)]; exact km16_1_0
  have km17_1_1 : m17 1 1 = g1 := by rw [em17, zCp_ne (by decide)]; exact km16_1_1
  have km17_1_2 : m17 1 2 = g2 := by rw [em17, zCp_ne (by decide)]; exact km16_1_2
  have km17_1_3 : m17 1 3 = g3 := by rw [em17, zCp_ne (by decide)]; exact km16_1_3
  have km17_1_4 : m17 1 4 = g4 := by rw [em17, zCp_ne (by decide)]; exact km16_1_4
  have km17_1_5 : m17 1 5 = g5 := by rw [em17, zCp_ne (by decide)]; exact km16_1_5
  have fm17_2 : m17 2 = zCf F2 F16 10 := by rw [em17, zCp_fn (by decide)]; exact fm16_2
  have fm17_3 : m17 3 = zCf F3 F17 40 := by rw [em17, zCp_fn (by decide)]; exact fm16_3
  have fm17_4 : m17 4 = zCf F4 F18 40 := by rw [em17, zCp_fn (by decide)]; exact fm16_4
  have fm17_5 : m17 5 = zCf F5 F19 60 := by rw [em17, zCp_fn (by decide)]; exact fm16_5
  have fm17_6 : m17 6 = zCf F6 F20 60 := by rw [em17, zCp_fn (by decide)]; exact fm16_6
  have fm17_7 : m17 7 = zCf F7 F21 60 := by rw [em17, zCp_fn (by decide)]; exact fm16_7
  have fm17_8 : m17 8 = zCf F8 F22 60 := by rw [em17, zCp_fn (by decide)]; exact fm16_8
  have fm17_9 : m17 9 = zCf F9 F23 4 := by rw [em17, zCp_fn (by decide)]; exact fm16_9
  have fm17_10 : m17 10 = zCf F10 F24 4 := by rw [em17, zCp_fn (by decide)]; exact fm16_10
  have fm17_11 : m17 11 = zCf F11 F25 200 := by rw [em17, zCp_fn (by decide)]; exact fm16_11
  have fm17_12 : m17 12 = zCf F12 F26 160 := by rw [em17]; exact (zCp_ff (m := m16) (c1 := 12) (c2 := 26) (n := 160) rfl rfl).trans (by rw [fm16_12, fm16_26])
  have fm17_13 : m17 13 = F13 := by rw [em17, zCp_fn (by decide)]; exact fm16_13
  have fm17_16 : m17 16 = F16 := by rw [em17, zCp_fn (by decide)]; exact fm16_16
  have fm17_17 : m17 17 = F17 := by rw [em17, zCp_fn (by decide)]; exact fm16_17
  have fm17_18 : m17 18 = F18 := by rw [em17, zCp_fn (by decide)]; exact fm16_18
  have fm17_19 : m17 19 = F19 := by rw [em17, zCp_fn (by decide)]; exact fm16_19
  have fm17_20 : m17 20 = F20 := by rw [em17, zCp_fn (by decide)]; exact fm16_20
  have fm17_21 : m17 21 = F21 := by rw [em17, zCp_fn (by decide)]; exact fm16_21
  have fm17_22 : m17 22 = F22 := by rw [em17, zCp_fn (by decide)]; exact fm16_22
  have fm17_23 : m17 23 = F23 := by rw [em17, zCp_fn (by decide)]; exact fm16_23
  have fm17_24 : m17 24 = F24 := by rw [em17, zCp_fn (by decide)]; exact fm16_24
  have fm17_25 : m17 25 = F25 := by rw [em17, zCp_fn (by decide)]; exact fm16_25
  have fm17_26 : m17 26 = F26 := by rw [em17, zCp_fn (by decide)]; exact fm16_26
  have fm17_27 : m17 27 = F27 := by rw [em17, zCp_fn (by decide)]; exact fm16_27
  clear em17
  refine zw_7 zr_61_213 rfl ?_
  refine zw_46r (s := 27) zr_61_214 rfl rfl rfl rfl ?_
  refine zw_push zr_61_217 ?_
  refine zw_7 zr_61_218 rfl ?_
  refine zw_46r (s := 13) zr_61_219 rfl rfl rfl rfl ?_
  refine zw_push zr_61_222 ?_
  refine zw_push zr_61_223 ?_
  refine zw_114 (c1 := 13) (c2 := 27) (l1 := 4) (l2 := 4) zr_61_224 rfl rfl rfl rfl (by decide) (Nat.le_of_ble_eq_true rfl) (by omega) (by omega) ?_
  intro m18 em18
  have hIm18 : zInv m18 := by rw [em18]; exact zInv.cpS hIm17 (l2 := 4) (fun _ => rfl) rfl (by decide) (by decide) (by decide)
  have hFm18 : zFr W_61_1_15 m0 m18 := by rw [em18]; exact hFm17.cp rfl
  have km18_15_0 : m18 15 0 = g0 := by rw [em18, zCp_ne (by decide)]; exact km17_15_0
  have km18_15_1 : m18 15 1 = g1 := by rw [em18, zCp_ne (by decide)]; exact km17_15_1
  have km18_15_2 : m18 15 2 = g2 := by rw [em18, zCp_ne (by decide)]; exact km17_15_2
  have km18_15_3 : m18 15 3 = g3 := by rw [em18, zCp_ne (by decide)]; exact km17_15_3
  have km18_15_4 : m18 15 4 = g4 := by rw [em18, zCp_ne (by decide)]; exact km17_15_4
  have km18_15_5 : m18 15 5 = g5 := by rw [em18, zCp_ne (by decide)]; exact km17_15_5
  have km18_1_0 : m18 1 0 = g0 := by rw [em18, zCp_ne (by decide)]; exact km17_1_0
  have km18_1_1 : m18 1 1 = g1 := by rw [em18, zCp_ne (by decide)]; exact km17_1_1
  have km18_1_2 : m18 1 2 = g2 := by rw [em18, zCp_ne (by decide)]; exact km17_1_2
  have km18_1_3 : m18 1 3 = g3 := by rw [em18, zCp_ne (by decide)]; exact km17_1_3
  have km18_1_4 : m18 1 4 = g4 := by rw [em18, zCp_ne (by decide)]; exact km17_1_4
  have km18_1_5 : m18 1 5 = g5 := by rw [em18, zCp_ne (by decide)]; exact km17_1_5
  have fm18_2 : m18 2 = zCf F2 F16 10 := by rw [em18, zCp_fn (by decide)]; exact fm17_2
  have fm18_3 : m18 3 = zCf F3 F17 40 := by rw [em18, zCp_fn (by decide)]; exact fm17_3
  have fm18_4 : m18 4 = zCf F4 F18 40 := by rw [em18, zCp_fn (by decide)]; exact fm17_4
  have fm18_5 : m18 5 = zCf F5 F19 60 := by rw [em18, zCp_fn (by decide)]; exact fm17_5
  have fm18_6 : m18 6 = zCf F6 F20 60 := by rw [em18, zCp_fn (by decide)]; exact fm17_6
  have fm18_7 : m18 7 = zCf F7 F21 60 := by rw [em18, zCp_fn (by decide)]; exact fm17_7
  have fm18_8 : m18 8 = zCf F8 F22 60 := by rw [em18, zCp_fn (by decide)]; exact fm17_8
  have fm18_9 : m18 9 = zCf F9 F23 4 := by rw [em18, zCp_fn (by decide)]; exact fm17_9
  have fm18_10 : m18 10 = zCf F10 F24 4 := by rw [em18, zCp_fn (by decide)]; exact fm17_10
  have fm18_11 : m18 11 = zCf F11 F25 200 := by rw [em18, zCp_fn (by decide)]; exact fm17_11
  have fm18_12 : m18 12 = zCf F12 F26 160 := by rw [em18, zCp_fn (by decide)]; exact fm17_12
  have fm18_13 : m18 13 = zCf F13 F27 4 := by rw [em18]; exact (zCp_ff (m := m17) (c1 := 13) (c2 := 27) (n := 4) rfl rfl).trans (by rw [fm17_13, fm17_27])
  have fm18_16 : m18 16 = F16 := by rw [em18, zCp_fn (by decide)]; exact fm17_16
  have fm18_17 : m18 17 = F17 := by rw [em18, zCp_fn (by decide)]; exact fm17_17
  have fm18_18 : m18 18 = F18 := by rw [em18, zCp_fn (by decide)]; exact fm17_18
  have fm18_19 : m18 19 = F19 := by rw [em18, zCp_fn (by decide)]; exact fm17_19
  have fm18_20 : m18 20 = F20 := by rw [em18, zCp_fn (by decide)]; exact fm17_20
  have fm18_21 : m18 21 = F21 := by rw [em18, zCp_fn (by decide)]; exact fm17_21
  have fm18_22 : m18 22 = F22 := by rw [em18, zCp_fn (by decide)]; exact fm17_22
  have fm18_23 : m18 23 = F23 := by rw [em18, zCp_fn (by decide)]; exact fm17_23
  have fm18_24 : m18 24 = F24 := by rw [em18, zCp_fn (by decide)]; exact fm17_24
  have fm18_25 : m18 25 = F25 := by rw [em18, zCp_fn (by decide)]; exact fm17_25
  have fm18_26 : m18 26 = F26 := by rw [em18, zCp_fn (by decide)]; exact fm17_26
  have fm18_27 : m18 27 = F27 := by rw [em18, zCp_fn (by decide)]; exact fm17_27
  clear em18
  refine zw_R zr_61_227 (by decide) zm_61 (v := (9, 0)) rfl ?_
  rw [← hQ]; exact ⟨rfl, hIm18, hFm18, ⟨(km18_1_0.trans hg0.symm), (km18_1_1.trans hg1.symm), (km18_1_2.trans hg2.symm), (km18_1_3.trans hg3.symm), (km18_1_4.trans hg4.symm), (km18_1_5.trans hg5.symm), fun k hk => by rw [fm18_2, hG16]; exact zCf_lt hk, fun k hk => by rw [fm18_3, hG17]; exact zCf_lt hk, fun k hk => by rw [fm18_4, hG18]; exact zCf_lt hk, fun k hk => by rw [fm18_5, hG19]; exact zCf_lt hk, fun k hk => by rw [fm18_6, hG20]; exact zCf_lt hk, fun k hk => by rw [fm18_7, hG21]; exact zCf_lt hk, fun k hk => by rw [fm18_8, hG22]; exact zCf_lt hk, fun k hk => by rw [fm18_9, hG23]; exact zCf_lt hk, fun k hk => by rw [fm18_10, hG24]; exact zCf_lt hk, fun k hk => by rw [fm18_11, hG25]; exact zCf_lt hk, fun k hk => by rw [fm18_12, hG26]; exact zCf_lt hk, fun k hk => by rw [fm18_13, hG27]; exact zCf_lt hk⟩⟩
