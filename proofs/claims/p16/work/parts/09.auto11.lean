set_option maxHeartbeats 8000000 in
theorem th_133 {E : zE} {d : Nat} {m0 : zM} {a0 : Int} (hd : 2 ≤ d) (hI0 : zInv m0) (ha0 : (-2147483648) ≤ a0 ∧ a0 ≤ 2147483647) : zC E d 133 [(2, 0), (0, a0)] m0 (fun v m' => ∃ r : Int, v = (1, r) ∧ (-9223372036854775808) ≤ r ∧ r ≤ 9223372036854775807 ∧ m0 = m') := by
  generalize hQ : (fun (v : zV) (m' : zM) => ∃ r : Int, v = (1, r) ∧ (-9223372036854775808) ≤ r ∧ r ≤ 9223372036854775807 ∧ m0 = m') = Q
  show zW E d 133 0 [(2, 0), (0, a0)] [] m0 Q
  refine zw_3 zr_133_0 rfl ?_
  refine zw_push zr_133_1 ?_
  refine zw_push zr_133_2 ?_
  refine zw_C zr_133_3 (Or.inr rfl) zm_100 rfl rfl ⟨Nat.le_of_ble_eq_true rfl, Nat.le_of_ble_eq_true rfl, Nat.le_of_ble_eq_true rfl, rfl, by decide⟩ (by omega) (P := (fun v m' => zW E (d) 133 6 [(2, 0), (0, a0)] (if v.1 = 9 then [] else v :: []) m' Q)) ?_ (fun _ _ h => h)
  generalize hQ1 : (fun v m' => zW E (d) 133 6 [(2, 0), (0, a0)] (if v.1 = 9 then [] else v :: []) m' Q) = Q1
  show zW E (d - 1) 100 0 [(0, a0), (0, 0), (0, 1)] [] m0 Q1
  refine zw_3 zr_100_0 rfl ?_
  refine zw_3 zr_100_1 rfl ?_
  refine zw_41_0 zr_100_2 ?_ ?_
  · intro h1
    refine zw_push zr_100_14 ?_
    refine zw_R zr_100_15 (by decide) zm_100 (v := (0, 0)) (zRetB (by omega)) ?_
    rw [← hQ1]
    show zW E (d) 133 6 [(2, 0), (0, a0)] [(0, 0)] m0 Q
    refine zw_40_4 zr_133_6 ?_ ?_
    · intro h2; omega
    · intro h3
      refine zw_push zr_133_9 ?_
      refine zw_R zr_133_12 (by decide) zm_133 (v := (1, (-1000000000000))) rfl ?_
      rw [← hQ]; exact ⟨_, rfl, by omega, by omega, rfl⟩
  · intro h4
    refine zw_3 zr_100_5 rfl ?_
    refine zw_3 zr_100_6 rfl ?_
    refine zw_41_2 zr_100_7 ?_ ?_
    · intro h5
      refine zw_push zr_100_14 ?_
      refine zw_R zr_100_15 (by decide) zm_100 (v := (0, 0)) (zRetB (by omega)) ?_
      rw [← hQ1]
      show zW E (d) 133 6 [(2, 0), (0, a0)] [(0, 0)] m0 Q
      refine zw_40_4 zr_133_6 ?_ ?_
      · intro h6; omega
      · intro h7
        refine zw_push zr_133_9 ?_
        refine zw_R zr_133_12 (by decide) zm_133 (v := (1, (-1000000000000))) rfl ?_
        rw [← hQ]; exact ⟨_, rfl, by omega, by omega, rfl⟩
    · intro h8
      refine zw_push zr_100_10 ?_
      refine zw_42 zr_100_11 ?_
      refine zw_R zr_100_15 (by decide) zm_100 (v := (0, 1)) (zRetB (by omega)) ?_
      rw [← hQ1]
      show zW E (d) 133 6 [(2, 0), (0, a0)] [(0, 1)] m0 Q
      refine zw_40_4 zr_133_6 ?_ ?_
      · intro h9
        refine zw_3 zr_133_13 rfl ?_
        refine zw_40_4 zr_133_14 ?_ ?_
        · intro h10
          refine zw_7 zr_133_27 rfl ?_
          refine zw_46r (s := 42) zr_133_28 rfl rfl rfl rfl ?_
          obtain ⟨f11, ef11⟩ : ∃ v, m0 42 1 = v := ⟨_, rfl⟩
          have bf11 := hI0.fl (c := 42) (k := 1) rfl
          rw [ef11] at bf11
          refine zw_46l zr_133_31 ef11 rfl rfl rfl ?_
          refine zw_R zr_133_34 (by decide) zm_133 (v := (1, f11)) rfl ?_
          rw [← hQ]; exact ⟨_, rfl, by omega, by omega, rfl⟩
        · intro h12
          refine zw_7 zr_133_17 rfl ?_
          refine zw_46r (s := 42) zr_133_18 rfl rfl rfl rfl ?_
          obtain ⟨f13, ef13⟩ : ∃ v, m0 42 0 = v := ⟨_, rfl⟩
          have bf13 := hI0.fl (c := 42) (k := 0) rfl
          rw [ef13] at bf13
          refine zw_46l zr_133_21 ef13 rfl rfl rfl ?_
          refine zw_42 zr_133_24 ?_
          refine zw_R zr_133_34 (by decide) zm_133 (v := (1, f13)) rfl ?_
          rw [← hQ]; exact ⟨_, rfl, by omega, by omega, rfl⟩
      · intro h14; omega

set_option maxHeartbeats 8000000 in
theorem th_207 {E : zE} {d : Nat} {m0 : zM} {a0 : Int} (hd : 1 ≤ d) (hI0 : zInv m0) (ha0 : (-2147483648) ≤ a0 ∧ a0 ≤ 2147483647) : zC E d 207 [(2, 69), (0, a0)] m0 (fun v m' => ∃ r : Int, v = (1, r) ∧ (-9223372036854775808) ≤ r ∧ r ≤ 9223372036854775807 ∧ m0 = m') := by
  generalize hQ : (fun (v : zV) (m' : zM) => ∃ r : Int, v = (1, r) ∧ (-9223372036854775808) ≤ r ∧ r ≤ 9223372036854775807 ∧ m0 = m') = Q
  show zW E d 207 0 [(2, 69), (0, a0)] [] m0 Q
  refine zw_3 zr_207_0 rfl ?_
  refine zw_40_4 zr_207_1 ?_ ?_
  · intro h1
    refine zw_3 zr_207_11 rfl ?_
    refine zw_push zr_207_12 ?_
    refine zw_41_4 zr_207_13 ?_ ?_
    · intro h2
      refine zw_push zr_207_23 ?_
      refine zw_R zr_207_26 (by decide) zm_207 (v := (1, (-1000000000000))) rfl ?_
      rw [← hQ]; exact ⟨_, rfl, by omega, by omega, rfl⟩
    · intro h3
      refine zw_7 zr_207_16 rfl ?_
      obtain ⟨f4, ef4⟩ : ∃ v, m0 69 4 = v := ⟨_, rfl⟩
      have bf4 := hI0.fl (c := 69) (k := 4) rfl
      rw [ef4] at bf4
      refine zw_46l zr_207_17 ef4 rfl rfl rfl ?_
      refine zw_42 zr_207_20 ?_
      refine zw_R zr_207_26 (by decide) zm_207 (v := (1, f4)) rfl ?_
      rw [← hQ]; exact ⟨_, rfl, by omega, by omega, rfl⟩
  · intro h5
    refine zw_7 zr_207_4 rfl ?_
    obtain ⟨f6, ef6⟩ : ∃ v, m0 69 3 = v := ⟨_, rfl⟩
    have bf6 := hI0.fl (c := 69) (k := 3) rfl
    rw [ef6] at bf6
    refine zw_46l zr_207_5 ef6 rfl rfl rfl ?_
    refine zw_42 zr_207_8 ?_
    refine zw_R zr_207_26 (by decide) zm_207 (v := (1, f6)) rfl ?_
    rw [← hQ]; exact ⟨_, rfl, by omega, by omega, rfl⟩

abbrev W_61_15_1 : List (Nat × Nat) := [(15, 0), (15, 1), (15, 2), (15, 3), (15, 4), (15, 5), (16, 1000), (17, 1000), (18, 1000), (19, 1000), (20, 1000), (21, 1000), (22, 1000), (23, 1000), (24, 1000), (25, 1000), (26, 1000), (27, 1000)]
set_option maxHeartbeats 8000000 in
theorem th_61_15_1 {E : zE} {d : Nat} {m0 : zM} (hd : 1 ≤ d) (hI0 : zInv m0) : zC E d 61 [(2, 15), (2, 1)] m0 (fun v m' => v = (9, 0) ∧ zInv m' ∧ zFr W_61_15_1 m0 m') := by
  have hF0 : zFr W_61_15_1 m0 m0 := zFr.rfl
  generalize hQ : (fun (v : zV) (m' : zM) => v = (9, 0) ∧ zInv m' ∧ zFr W_61_15_1 m0 m') = Q
  show zW E d 61 0 [(2, 15), (2, 1)] [] m0 Q
  refine zw_7 zr_61_0 rfl ?_
  refine zw_7 zr_61_1 rfl ?_
  obtain ⟨f1, ef1⟩ : ∃ v, m0 1 0 = v := ⟨_, rfl⟩
  have bf1 := ib_1_0 hI0
  rw [ef1] at bf1
  refine zw_46i zr_61_2 ef1 rfl rfl rfl ?_
  refine zw_47 (c := 15) zr_61_5 rfl ⟨rfl, by decide, rfl⟩ ?_
  intro m2 em2
  have hIm2 : zInv m2 := by rw [em2]; exact hI0.bd (r := 15) (k := 0) (lo := 0) (hi := 10) rfl (by omega) (by decide) (by decide) (by decide)
  have hFm2 : zFr W_61_15_1 m0 m2 := by rw [em2]; exact hF0.up rfl
  have km2_1_0 : m2 1 0 = f1 := by rw [em2, zUp_ne (by omega)]; exact ef1
  have km2_15_0 : m2 15 0 = f1 := by rw [em2]; exact zUp_eq _ _ _ _
  clear em2
  refine zw_7 zr_61_8 rfl ?_
  refine zw_7 zr_61_9 rfl ?_
  obtain ⟨f3, ef3⟩ : ∃ v, m2 1 1 = v := ⟨_, rfl⟩
  have bf3 := ib_1_1 hIm2
  rw [ef3] at bf3
  refine zw_46i zr_61_10 ef3 rfl rfl rfl ?_
  refine zw_47 (c := 15) zr_61_13 rfl ⟨rfl, by decide, rfl⟩ ?_
  intro m4 em4
  have hIm4 : zInv m4 := by rw [em4]; exact hIm2.bd (r := 15) (k := 1) (lo := 0) (hi := 60) rfl (by omega) (by decide) (by decide) (by decide)
  have hFm4 : zFr W_61_15_1 m0 m4 := by rw [em4]; exact hFm2.up rfl
  have km4_1_0 : m4 1 0 = f1 := by rw [em4, zUp_ne (by omega)]; exact km2_1_0
  have km4_15_0 : m4 15 0 = f1 := by rw [em4, zUp_ne (by omega)]; exact km2_15_0
  have km4_1_1 : m4 1 1 = f3 := by rw [em4, zUp_ne (by omega)]; exact ef3
  have km4_15_1 : m4 15 1 = f3 := by rw [em4]; exact zUp_eq _ _ _ _
  clear em4
  refine zw_7 zr_61_16 rfl ?_
  refine zw_7 zr_61_17 rfl ?_
  obtain ⟨f5, ef5⟩ : ∃ v, m4 1 2 = v := ⟨_, rfl⟩
  have bf5 := hIm4.fl (c := 1) (k := 2) rfl
  rw [ef5] at bf5
  refine zw_46l zr_61_18 ef5 rfl rfl rfl ?_
  refine zw_47 (c := 15) zr_61_21 rfl ⟨rfl, by decide, rfl⟩ ?_
  intro m6 em6
  have hIm6 : zInv m6 := by rw [em6]; exact hIm4.anyl (by omega) (by decide) rfl (by decide) (by decide)
  have hFm6 : zFr W_61_15_1 m0 m6 := by rw [em6]; exact hFm4.up rfl
  have km6_1_0 : m6 1 0 = f1 := by rw [em6, zUp_ne (by omega)]; exact km4_1_0
  have km6_15_0 : m6 15 0 = f1 := by rw [em6, zUp_ne (by omega)]; exact km4_15_0
  have km6_1_1 : m6 1 1 = f3 := by rw [em6, zUp_ne (by omega)]; exact km4_1_1
  have km6_15_1 : m6 15 1 = f3 := by rw [em6, zUp_ne (by omega)]; exact km4_15_1
  have km6_1_2 : m6 1 2 = f5 := by rw [em6, zUp_ne (by omega)]; exact ef5
  have km6_15_2 : m6 15 2 = f5 := by rw [em6]; exact zUp_eq _ _ _ _
  clear em6
  refine zw_7 zr_61_24 rfl ?_
  refine zw_7 zr_61_25 rfl ?_
  obtain ⟨f7, ef7⟩ : ∃ v, m6 1 3 = v := ⟨_, rfl⟩
  have bf7 := hIm6.fl (c := 1) (k := 3) rfl
  rw [ef7] at bf7
  refine zw_46l zr_61_26 ef7 rfl rfl rfl ?_
  refine zw_47 (c := 15) zr_61_29 rfl ⟨rfl, by decide, rfl⟩ ?_
  intro m8 em8
  have hIm8 : zInv m8 := by rw [em8]; exact hIm6.anyl (by omega) (by decide) rfl (by decide) (by decide)
  have hFm8 : zFr W_61_15_1 m0 m8 := by rw [em8]; exact hFm6.up rfl
  have km8_1_0 : m8 1 0 = f1 := by rw [em8, zUp_ne (by omega)]; exact km6_1_0
  have km8_15_0 : m8 15 0 = f1 := by rw [em8, zUp_ne (by omega)]; exact km6_15_0
  have km8_1_1 : m8 1 1 = f3 := by rw [em8, zUp_ne (by omega)]; exact km6_1_1
  have km8_15_1 : m8 15 1 = f3 := by rw [em8, zUp_ne (by omega)]; exact km6_15_1
  have km8_1_2 : m8 1 2 = f5 := by rw [em8, zUp_ne (by omega)]; exact km6_1_2
  have km8_15_2 : m8 15 2 = f5 := by rw [em8, zUp_ne (by omega)]; exact km6_15_2
  have km8_1_3 : m8 1 3 = f7 := by rw [em8, zUp_ne (by omega)]; exact ef7
  have km8_15_3 : m8 15 3 = f7 := by rw [em8]; exact zUp_eq _ _ _ _
  clear em8
  refine zw_7 zr_61_32 rfl ?_
  refine zw_7 zr_61_33 rfl ?_
  obtain ⟨f9, ef9⟩ : ∃ v, m8 1 4 = v := ⟨_, rfl⟩
  have bf9 := ib_1_4 hIm8
  rw [ef9] at bf9
  refine zw_46i zr_61_34 ef9 rfl rfl rfl ?_
  refine zw_47 (c := 15) zr_61_37 rfl ⟨rfl, by decide, rfl⟩ ?_
  intro m10 em10
  have hIm10 : zInv m10 := by rw [em10]; exact hIm8.bd (r := 15) (k := 4) (lo := 1) (hi := 1000) rfl (by omega) (by decide) (by decide) (by decide)
  have hFm10 : zFr W_61_15_1 m0 m10 := by rw [em10]; exact hFm8.up rfl
  have km10_1_0 : m10 1 0 = f1 := by rw [em10, zUp_ne (by omega)]; exact km8_1_0
  have km10_15_0 : m10 15 0 = f1 := by rw [em10, zUp_ne (by omega)]; exact km8_15_0
  have km10_1_1 : m10 1 1 = f3 := by rw [em10, zUp_ne (by omega)]; exact km8_1_1
  have km10_15_1 : m10 15 1 = f3 := by rw [em10, zUp_ne (by omega)]; exact km8_15_1
  have km10_1_2 : m10 1 2 = f5 := by rw [em10, zUp_ne (by omega)]; exact km8_1_2
  have km10_15_2 : m10 15 2 = f5 := by rw [em10, zUp_ne (by omega)]; exact km8_15_2
  have km10_1_3 : m10 1 3 = f7 := by rw [em10, zUp_ne (by omega)]; exact km8_1_3
  have km10_15_3 : m10 15 3 = f7 := by rw [em10, zUp_ne (by omega)]; exact km8_15_3
  have km10_1_4 : m10 1 4 = f9 := by rw [em10, zUp_ne (by omega)]; exact ef9
  have km10_15_4 : m10 15 4 = f9 := by rw [em10]; exact zUp_eq _ _ _ _
  clear em10
  refine zw_7 zr_61_40 rfl ?_
  refine zw_7 zr_61_41 rfl ?_
  obtain ⟨f11, ef11⟩ : ∃ v, m10 1 5 = v := ⟨_, rfl⟩
  have bf11 := ib_1_5 hIm10
  rw [ef11] at bf11
  refine zw_46i zr_61_42 ef11 rfl rfl rfl ?_
  refine zw_47 (c := 15) zr_61_45 rfl ⟨rfl, by decide, rfl⟩ ?_
  intro m12 em12
  have hIm12 : zInv m12 := by rw [em12]; exact hIm10.bd (r := 15) (k := 5) (lo := 0) (hi := 500) rfl (by omega) (by decide) (by decide) (by decide)
  have hFm12 : zFr W_61_15_1 m0 m12 := by rw [em12]; exact hFm10.up rfl
  have km12_1_0 : m12 1 0 = f1 := by rw [em12, zUp_ne (by omega)]; exact km10_1_0
  have km12_15_0 : m12 15 0 = f1 := by rw [em12, zUp_ne (by omega)]; exact km10_15_0
  have km12_1_1 : m12 1 1 = f3 := by rw [em12, zUp_ne (by omega)]; exact km10_1_1
  have km12_15_1 : m12 15 1 = f3 := by rw [em12, zUp_ne (by omega)]; exact km10_15_1
  have km12_1_2 : m12 1 2 = f5 := by rw [em12, zUp_ne (by omega)]; exact km10_1_2
  have km12_15_2 : m12 15 2 = f5 := by rw [em12, zUp_ne (by omega)]; exact km10_15_2
  have km12_1_3 : m12 1 3 = f7 := by rw [em12, zUp_ne (by omega)]; exact km10_1_3
  have km12_15_3 : m12 15 3 = f7 := by rw [em12, zUp_ne (by omega)]; exact km10_15_3
  have km12_1_4 : m12 1 4 = f9 := by rw [em12, zUp_ne (by omega)]; exact km10_1_4
  have km12_15_4 : m12 15 4 = f9 := by rw [em12, zUp_ne (by omega)]; exact km10_15_4
  have km12_1_5 : m12 1 5 = f11 := by rw [em12, zUp_ne (by omega)]; exact ef11
  have km12_15_5 : m12 15 5 = f11 := by rw [em12]; exact zUp_eq _ _ _ _
  clear em12
  refine zw_7 zr_61_48 rfl ?_
  refine zw_46r (s := 2) zr_61_49 rfl rfl rfl rfl ?_
  refine zw_push zr_61_52 ?_
  refine zw_7 zr_61_53 rfl ?_
  refine zw_46r (s := 16) zr_61_54 rfl rfl rfl rfl ?_
  refine zw_push zr_61_57 ?_
  refine zw_push zr_61_58 ?_
  refine zw_114 (c1 := 16) (c2 := 2) (l1 := 10) (l2 := 10) zr_61_60 rfl rfl rfl rfl (by decide) (Nat.le_of_ble_eq_true rfl) (by omega) (by omega) ?_
  intro m13 em13
  have hIm13 : zInv m13 := by rw [em13]; exact zInv.cpS hIm12 (l2 := 10) (fun _ => rfl) rfl (by decide) (by decide) (by decide)
  have hFm13 : zFr W_61_15_1 m0 m13 := by rw [em13]; exact hFm12.cp rfl
  have km13_1_0 : m13 1 0 = f1 := by rw [em13, zCp_ne (by decide)]; exact km12_1_0
  have km13_15_0 : m13 15 0 = f1 := by rw [em13, zCp_ne (by decide)]; exact km12_15_0
  have km13_1_1 : m13 1 1 = f3 := by rw [em13, zCp_ne (by decide)]; exact km12_1_1
  have km13_15_1 : m13 15 1 = f3 := by rw [em13, zCp_ne (by decide)]; exact km12_15_1
  have km13_1_2 : m13 1 2 = f5 := by rw [em13, zCp_ne (by decide)]; exact km12_1_2
  have km13_15_2 : m13 15 2 = f5 := by rw [em13, zCp_ne (by decide)]; exact km12_15_2
  have km13_1_3 : m13 1 3 = f7 := by rw [em13, zCp_ne (by decide)]; exact km12_1_3
  have km13_15_3 : m13 15 3 = f7 := by rw [em13, zCp_ne (by decide)]; exact km12_15_3
  have km13_1_4 : m13 1 4 = f9 := by rw [em13, zCp_ne (by decide)]; exact km12_1_4
  have km13_15_4 : m13 15 4 = f9 := by rw [em13, zCp_ne (by decide)]; exact km12_15_4
  have km13_1_5 : m13 1 5 = f11 := by rw [em13, zCp_ne (by decide)]; exact km12_1_5
  have km13_15_5 : m13 15 5 = f11 := by rw [em13, zCp_ne (by decide)]; exact km12_15_5
  clear em13
  refine zw_7 zr_61_63 rfl ?_
  refine zw_46r (s := 3) zr_61_64 rfl rfl rfl rfl ?_
  refine zw_push zr_61_67 ?_
  refine zw_7 zr_61_68 rfl ?_
  refine zw_46r (s := 17) zr_61_69 rfl rfl rfl rfl ?_
  refine zw_push zr_61_72 ?_
  refine zw_push zr_61_73 ?_
  refine zw_114 (c1 := 17) (c2 := 3) (l1 := 40) (l2 := 40) zr_61_75 rfl rfl rfl rfl (by decide) (Nat.le_of_ble_eq_true rfl) (by omega) (by omega) ?_
  intro m14 em14
  have hIm14 : zInv m14 := by rw [em14]; exact zInv.cpS hIm13 (l2 := 40) (fun _ => rfl) rfl (by decide) (by decide) (by decide)
  have hFm14 : zFr W_61_15_1 m0 m14 := by rw [em14]; exact hFm13.cp rfl
  have km14_1_0 : m14 1 0 = f1 := by rw [em14, zCp_ne (by decide)]; exact km13_1_0
  have km14_15_0 : m14 15 0 = f1 := by rw [em14, zCp_ne (by decide)]; exact km13_15_0
  have km14_1_1 : m14 1 1 = f3 := by rw [em14, zCp_ne (by decide)]; exact km13_1_1
  have km14_15_1 : m14 15 1 = f3 := by rw [em14, zCp_ne (by decide)]; exact km13_15_1
  have km14_1_2 : m14 1 2 = f5 := by rw [em14, zCp_ne (by decide)]; exact km13_1_2
  have km14_15_2 : m14 15 2 = f5 := by rw [em14, zCp_ne (by decide)]; exact km13_15_2
  have km14_1_3 : m14 1 3 = f7 := by rw [em14, zCp_ne (by decide)]; exact km13_1_3
  have km14_15_3 : m14 15 3 = f7 := by rw [em14, zCp_ne (by decide)]; exact km13_15_3
  have km14_1_4 : m14 1 4 = f9 := by rw [em14, zCp_ne (by decide)]; exact km13_1_4
  have km14_15_4 : m14 15 4 = f9 := by rw [em14, zCp_ne (by decide)]; exact km13_15_4
  have km14_1_5 : m14 1 5 = f11 := by rw [em14, zCp_ne (by decide)]; exact km13_1_5
  have km14_15_5 : m14 15 5 = f11 := by rw [em14, zCp_ne (by decide)]; exact km13_15_5
  clear em14
  refine zw_7 zr_61_78 rfl ?_
  refine zw_46r (s := 4) zr_61_79 rfl rfl rfl rfl ?_
  refine zw_push zr_61_82 ?_
  refine zw_7 zr_61_83 rfl ?_
  refine zw_46r (s := 18) zr_61_84 rfl rfl rfl rfl ?_
  refine zw_push zr_61_87 ?_
  refine zw_push zr_61_88 ?_
  refine zw_114 (c1 := 18) (c2 := 4) (l1 := 40) (l2 := 40) zr_61_90 rfl rfl rfl rfl (by decide) (Nat.le_of_ble_eq_true rfl) (by omega) (by omega) ?_
  intro m15 em15
  have hIm15 : zInv m15 := by rw [em15]; exact zInv.cpS hIm14 (l2 := 40) (fun _ => rfl) rfl (by decide) (by decide) (by decide)
  have hFm15 : zFr W_61_15_1 m0 m15 := by rw [em15]; exact hFm14.cp rfl
  have km15_1_0 : m15 1 0 = f1 := by rw [em15, zCp_ne (by decide)]; exact km14_1_0
  have km15_15_0 : m15 15 0 = f1 := by rw [em15, zCp_ne (by decide)]; exact km14_15_0
  have km15_1_1 : m15 1 1 = f3 := by rw [em15, zCp_ne (by decide)]; exact km14_1_1
  have km15_15_1 : m15 15 1 = f3 := by rw [em15, zCp_ne (by decide)]; exact km14_15_1
  have km15_1_2 : m15 1 2 = f5 := by rw [em15, zCp_ne (by decide)]; exact km14_1_2
  have km15_15_2 : m15 15 2 = f5 := by rw [em15, zCp_ne (by decide)]; exact km14_15_2
  have km15_1_3 : m15 1 3 = f7 := by rw [em15, zCp_ne (by decide)]; exact km14_1_3
  have km15_15_3 : m15 15 3 = f7 := by rw [em15, zCp_ne (by decide)]; exact km14_15_3
  have km15_1_4 : m15 1 4 = f9 := by rw [em15, zCp_ne (by decide)]; exact km14_1_4
  have km15_15_4 : m15 15 4 = f9 := by rw [em15, zCp_ne (by decide)]; exact km14_15_4
  have km15_1_5 : m15 1 5 = f11 := by rw [em15, zCp_ne (by decide)]; exact km14_1_5
  have km15_15_5 : m15 15 5 = f11 := by rw [em15, zCp_ne (by decide)]; exact km14_15_5
  clear em15
  refine zw_7 zr_61_93 rfl ?_
  refine zw_46r (s := 5) zr_61_94 rfl rfl rfl rfl ?_
  refine zw_push zr_61_97 ?_
  refine zw_7 zr_61_98 rfl ?_
  refine zw_46r (s := 19) zr_61_99 rfl rfl rfl rfl ?_
  refine zw_push zr_61_102 ?_
  refine zw_push zr_61_103 ?_
  refine zw_114 (c1 := 19) (c2 := 5) (l1 := 60) (l2 := 60) zr_61_105 rfl rfl rfl rfl (by decide) (Nat.le_of_ble_eq_true rfl) (by omega) (by omega) ?_
  intro m16 em16
  have hIm16 : zInv m16 := by rw [em16]; exact zInv.cpS hIm15 (l2 := 60) (fun _ => rfl) rfl (by decide) (by decide) (by decide)
  have hFm16 : zFr W_61_15_1 m0 m16 := by rw [em16]; exact hFm15.cp rfl
  have km16_1_0 : m16 1 0 = f1 := by rw [em16, zCp_ne (by decide)]; exact km15_1_0
  have km16_15_0 : m16 15 0 = f1 := by rw [em16, zCp_ne (by decide)]; exact km15_15_0
  have km16_1_1 : m16 1 1 = f3 := by rw [em16, zCp_ne (by decide)]; exact km15_1_1
  have km16_15_1 : m16 15 1 = f3 := by rw [em16, zCp_ne (by decide)]; exact km15_15_1
  have km16_1_2 : m16 1 2 = f5 := by rw [em16, zCp_ne (by decide)]; exact km15_1_2
  have km16_15_2 : m16 15 2 = f5 := by rw [em16, zCp_ne (by decide)]; exact km15_15_2
  have km16_1_3 : m16 1 3 = f7 := by rw [em16, zCp_ne (by decide)]; exact km15_1_3
  have km16_15_3 : m16 15 3 = f7 := by rw [em16, zCp_ne (by decide)]; exact km15_15_3
  have km16_1_4 : m16 1 4 = f9 := by rw [em16, zCp_ne (by decide)]; exact km15_1_4
  have km16_15_4 : m16 15 4 = f9 := by rw [em16, zCp_ne (by decide)]; exact km15_15_4
  have km16_1_5 : m16 1 5 = f11 := by rw [em16, zCp_ne (by decide)]; exact km15_1_5
  have km16_15_5 : m16 15 5 = f11 := by rw [em16, zCp_ne (by decide)]; exact km15_15_5
  clear em16
  refine zw_7 zr_61_108 rfl ?_
  refine zw_46r (s := 6) zr_61_109 rfl rfl rfl rfl ?_
  refine zw_push zr_61_112 ?_
  refine zw_7 zr_61_113 rfl ?_
  refine zw_46r (s := 20) zr_61_114 rfl rfl rfl rfl ?_
  refine zw_push zr_61_117 ?_
  refine zw_push zr_61_118 ?_
  refine zw_114 (c1 := 20) (c2 := 6) (l1 := 60) (l2 := 60) zr_61_120 rfl rfl rfl rfl (by decide) (Nat.le_of_ble_eq_true rfl) (by omega) (by omega) ?_
  intro m17 em17
  have hIm17 : zInv m17 := by rw [em17]; exact zInv.cpS hIm16 (l2 := 60) (fun _ => rfl) rfl (by decide) (by decide) (by decide)
  have hFm17 : zFr W_61_15_1 m0 m17 := by rw [em17]; exact hFm16.cp rfl
  have km17_1_0 : m17 1 0 = f1 := by rw [em17, zCp_ne (by decide)]; exact km16_1_0
  have km17_15_0 : m17 15 0 = f1 := by rw [em17, zCp_ne (by decide)]; exact km16_15_0
  have km17_1_1 : m17 1 1 = f3 := by rw [em17, zCp_ne (by decide)]; exact km16_1_1
  have km17_15_1 : m17 15 1 = f3 := by rw [em17, zCp_ne (by decide)]; exact km16_15_1
  have km17_1_2 : m17 1 2 = f5 := by rw [em17, zCp_ne (by decide)]; exact km16_1_2
  have km17_15_2 : m17 15 2 = f5 := by rw [em17, zCp_ne (by decide)]; exact km16_15_2
  have km17_1_3 : m17 1 3 = f7 := by rw [em17, zCp_ne (by decide)]; exact km16_1_3
  have km17_15_3 : m17 15 3 = f7 := by rw [em17, zCp_ne (by decide)]; exact km16_15_3
  have km17_1_4 : m17 1 4 = f9 := by rw [em17, zCp_ne (by decide)]; exact km16_1_4
  have km17_15_4 : m17 15 4 = f9 := by rw [em17, zCp_ne (by decide)]; exact km16_15_4
  have km17_1_5 : m17 1 5 = f11 := by rw [em17, zCp_ne (by decide)]; exact km16_1_5
  have km17_15_5 : m17 15 5 = f11 := by rw [em17, zCp_ne (by decide)]; exact km16_15_5
  clear em17
  refine zw_7 zr_61_123 rfl ?_
  refine zw_46r (s := 7) zr_61_124 rfl rfl rfl rfl ?_
  refine zw_push zr_61_127 ?_
  refine zw_7 zr_61_128 rfl ?_
  refine zw_46r (s := 21) zr_61_129 rfl rfl rfl rfl ?_
  refine zw_push zr_61_132 ?_
  refine zw_push zr_61_133 ?_
  refine zw_114 (c1 := 21) (c2 := 7) (l1 := 60) (l2 := 60) zr_61_135 rfl rfl rfl rfl (by decide) (Nat.le_of_ble_eq_true rfl) (by omega) (by omega) ?_
  intro m18 em18
  have hIm18 : zInv m18 := by rw [em18]; exact zInv.cpS hIm17 (l2 := 60) (fun _ => rfl) rfl (by decide) (by decide) (by decide)
  have hFm18 : zFr W_61_15_1 m0 m18 := by rw [em18]; exact hFm17.cp rfl
  have km18_1_0 : m18 1 0 = f1 := by rw [em18, zCp_ne (by decide)]; exact km17_1_0
  have km18_15_0 : m18 15 0 = f1 := by rw [em18, zCp_ne (by decide)]; exact km17_15_0
  have km18_1_1 : m18 1 1 = f3 := by rw [em18, zCp_ne (by decide)]; exact km17_1_1
  have km18_15_1 : m18 15 1 = f3 := by rw [em18, zCp_ne (by decide)]; exact km17_15_1
  have km18_1_2 : m18 1 2 = f5 := by rw [em18, zCp_ne (by decide)]; exact km17_1_2
  have km18_15_2 : m18 15 2 = f5 := by rw [em18, zCp_ne (by decide)]; exact km17_15_2
  have km18_1_3 : m18 1 3 = f7 := by rw [em18, zCp_ne (by decide)]; exact km17_1_3
  have km18_15_3 : m18 15 3 = f7 := by rw [em18, zCp_ne (by decide)]; exact km17_15_3
  have km18_1_4 : m18 1 4 = f9 := by rw [em18, zCp_ne (by decide)]; exact km17_1_4
  have km18_15_4 : m18 15 4 = f9 := by rw [em18, zCp_ne (by decide)]; exact km17_15_4
  have km18_1_5 : m18 1 5 = f11 := by rw [em18, zCp_ne (by decide)]; exact km17_1_5
  have km18_15_5 : m18 15 5 = f11 := by rw [em18, zCp_ne (by decide)]; exact km17_15_5
  clear em18
  refine zw_7 zr_61_138 rfl ?_
  refine zw_46r (s := 8) zr_61_139 rfl rfl rfl rfl ?_
  refine zw_push zr_61_142 ?_
  refine zw_7 zr_61_143 rfl ?_
  refine zw_46r (s := 22) zr_61_144 rfl rfl rfl rfl ?_
  refine zw_push zr_61_147 ?_
  refine zw_push zr_61_148 ?_
  refine zw_114 (c1 := 22) (c2 := 8) (l1 := 60) (l2 := 60) zr_61_150 rfl rfl rfl rfl (by decide) (Nat.le_of_ble_eq_true rfl) (by omega) (by omega) ?_
  intro m19 em19
  have hIm19 : zInv m19 := by rw [em19]; exact zInv.cpS hIm18 (l2 := 60) (fun _ => rfl) rfl (by decide) (by decide) (by decide)
  have hFm19 : zFr W_61_15_1 m0 m19 := by rw [em19]; exact hFm18.cp rfl
  have km19_1_0 : m19 1 0 = f1 := by rw [em19, zCp_ne (by decide)]; exact km18_1_0
  have km19_15_0 : m19 15 0 = f1 := by rw [em19, zCp_ne (by decide)]; exact km18_15_0
  have km19_1_1 : m19 1 1 = f3 := by rw [em19, zCp_ne (by decide)]; exact km18_1_1
  have km19_15_1 : m19 15 1 = f3 := by rw [em19, zCp_ne (by decide)]; exact km18_15_1
  have km19_1_2 : m19 1 2 = f5 := by rw [em19, zCp_ne (by decide)]; exact km18_1_2
  have km19_15_2 : m19 15 2 = f5 := by rw [em19, zCp_ne (by decide)]; exact km18_15_2
  have km19_1_3 : m19 1 3 = f7 := by rw [em19, zCp_ne (by decide)]; exact km18_1_3
  have km19_15_3 : m19 15 3 = f7 := by rw [em19, zCp_ne (by decide)]; exact km18_15_3
  have km19_1_4 : m19 1 4 = f9 := by rw [em19, zCp_ne (by decide)]; exact km18_1_4
  have km19_15_4 : m19 15 4 = f9 := by rw [em19, zCp_ne (by decide)]; exact km18_15_4
  have km19_1_5 : m19 1 5 = f11 := by rw [em19, zCp_ne (by decide)]; exact km18_1_5
  have km19_15_5 : m19 15 5 = f11 := by rw [em19, zCp_ne (by decide)]; exact km18_15_5
  clear em19
  refine zw_7 zr_61_153 rfl ?_
  refine zw_46r (s := 9) zr_61_154 rfl rfl rfl rfl ?_
  refine zw_push zr_61_157 ?_
  refine zw_7 zr_61_158 rfl ?_
  refine zw_46r (s := 23) zr_61_159 rfl rfl rfl rfl ?_
  refine zw_push zr_61_162 ?_
  refine zw_push zr_61_163 ?_
  refine zw_114 (c1 := 23) (c2 := 9) (l1 := 4) (l2 := 4) zr_61_164 rfl rfl rfl rfl (by decide) (Nat.le_of_ble_eq_true rfl) (by omega) (by omega) ?_
  intro m20 em20
  have hIm20 : zInv m20 := by rw [em20]; exact zInv.cpS hIm19 (l2 := 4) (fun _ => rfl) rfl (by decide) (by decide) (by decide)
  have hFm20 : zFr W_61_15_1 m0 m20 := by rw [em20]; exact hFm19.cp rfl
  have km20_1_0 : m20 1 0 = f1 := by rw [em20, zCp_ne (by decide)]; exact km19_1_0
  have km20_15_0 : m20 15 0 = f1 := by rw [em20, zCp_ne (by decide)]; exact km19_15_0
  have km20_1_1 : m20 1 1 = f3 := by rw [em20, zCp_ne (by decide)]; exact km19_1_1
  have km20_15_1 : m20 15 1 = f3 := by rw [em20, zCp_ne (by decide)]; exact km19_15_1
  have km20_1_2 : m20 1 2 = f5 := by rw [em20, zCp_ne (by decide)]; exact km19_1_2
  have km20_15_2 : m20 15 2 = f5 := by rw [em20, zCp_ne (by decide)]; exact km19_15_2
  have km20_1_3 : m20 1 3 = f7 := by rw [em20, zCp_ne (by decide)]; exact km19_1_3
  have km20_15_3 : m20 15 3 = f7 := by rw [em20, zCp_ne (by decide)]; exact km19_15_3
  have km20_1_4 : m20 1 4 = f9 := by rw [em20, zCp_ne (by decide)]; exact km19_1_4
  have km20_15_4 : m20 15 4 = f9 := by rw [em20, zCp_ne (by decide)]; exact km19_15_4
  have km20_1_5 : m20 1 5 = f11 := by rw [em20, zCp_ne (by decide)]; exact km19_1_5
  have km20_15_5 : m20 15 5 = f11 := by rw [em20, zCp_ne (by decide)]; exact km19_15_5
  clear em20
  refine zw_7 zr_61_167 rfl ?_
  refine zw_46r (s := 10) zr_61_168 rfl rfl rfl rfl ?_
  refine zw_push zr_61_171 ?_
  refine zw_7 zr_61_172 rfl ?_
  refine zw_46r (s := 24) zr_61_173 rfl rfl rfl rfl ?_
  refine zw_push zr_61_176 ?_
  refine zw_push zr_61_177 ?_
  refine zw_114 (c1 := 24) (c2 := 10) (l1 := 4) (l2 := 4) zr_61_178 rfl rfl rfl rfl (by decide) (Nat.le_of_ble_eq_true rfl) (by omega) (by omega) ?_
  intro m21 em21
  have hIm21 : zInv m21 := by rw [em21]; exact zInv.cpS hIm20 (l2 := 4) (fun _ => rfl) rfl (by decide) (by decide) (by decide)
  have hFm21 : zFr W_61_15_1 m0 m21 := by rw [em21]; exact hFm20.cp rfl
  have km21_1_0 : m21 1 0 = f1 := by rw [em21, zCp_ne (by decide)]; exact km20_1_0
  have km21_15_0 : m21 15 0 = f1 := by rw [em21, zCp_ne (by decide)]; exact km20_15_0
  have km21_1_1 : m21 1 1 = f3 := by rw [em21, zCp_ne (by decide)]; exact km20_1_1
  have km21_15_1 : m21 15 1 = f3 := by rw [em21, zCp_ne (by decide)]; exact km20_15_1
  have km21_1_2 : m21 1 2 = f5 := by rw [em21, zCp_ne (by decide)]; exact km20_1_2
  have km21_15_2 : m21 15 2 = f5 := by rw [em21, zCp_ne (by decide)]; exact km20_15_2
  have km21_1_3 : m21 1 3 = f7 := by rw [em21, zCp_ne (by decide)]; exact km20_1_3
  have km21_15_3 : m21 15 3 = f7 := by rw [em21, zCp_ne (by decide)]; exact km20_15_3
  have km21_1_4 : m21 1 4 = f9 := by rw [em21, zCp_ne (by decide)]; exact km20_1_4
  have km21_15_4 : m21 15 4 = f9 := by rw [em21, zCp_ne (by decide)]; exact km20_15_4
  have km21_1_5 : m21 1 5 = f11 := by rw [em21, zCp_ne (by decide)]; exact km20_1_5
  have km21_15_5 : m21 15 5 = f11 := by rw [em21, zCp_ne (by decide)]; exact km20_15_5
  clear em21
  refine zw_7 zr_61_181 rfl ?_
  refine zw_46r (s := 11) zr_61_182 rfl rfl rfl rfl ?_
  refine zw_push zr_61_185 ?_
  refine zw_7 zr_61_186 rfl ?_
  refine zw_46r (s := 25) zr_61_187 rfl rfl rfl rfl ?_
  refine zw_push zr_61_190 ?_
  refine zw_push zr_61_191 ?_
  refine zw_114 (c1 := 25) (c2 := 11) (l1 := 200) (l2 := 200) zr_61_194 rfl rfl rfl rfl (by decide) (Nat.le_of_ble_eq_true rfl) (by omega) (by omega) ?_
  intro m22 em22
  have hIm22 : zInv m22 := by rw [em22]; exact zInv.cpS hIm21 (l2 := 200) (fun _ => rfl) rfl (by decide) (by decide) (by decide)
  have hFm22 : zFr W_61_15_1 m0 m22 := by rw [em22]; exact hFm21.cp rfl
  have km22_1_0 : m22 1 0 = f1 := by rw [em22, zCp_ne (by decide)]; exact km21_1_0
  have km22_15_0 : m22 15 0 = f1 := by rw [em22, zCp_ne (by decide)]; exact km21_15_0
  have km22_1_1 : m22 1 1 = f3 := by rw [em22, zCp_ne (by decide)]; exact km21_1_1
  have km22_15_1 : m22 15 1 = f3 := by rw [em22, zCp_ne (by decide)]; exact km21_15_1
  have km22_1_2 : m22 1 2 = f5 := by rw [em22, zCp_ne (by decide)]; exact km21_1_2
  have km22_15_2 : m22 15 2 = f5 := by rw [em22, zCp_ne (by decide)]; exact km21_15_2
  have km22_1_3 : m22 1 3 = f7 := by rw [em22, zCp_ne (by decide)]; exact km21_1_3
  have km22_15_3 : m22 15 3 = f7 := by rw [em22, zCp_ne (by decide)]; exact km21_15_3
  have km22_1_4 : m22 1 4 = f9 := by rw [em22, zCp_ne (by decide)]; exact km21_1_4
  have km22_15_4 : m22 15 4 = f9 := by rw [em22, zCp_ne (by decide)]; exact km21_15_4
  have km22_1_5 : m22 1 5 = f11 := by rw [em22, zCp_ne (by decide)]; exact km21_1_5
  have km22_15_5 : m22 15 5 = f11 := by rw [em22, zCp_ne (by decide)]; exact km21_15_5
  clear em22
  refine zw_7 zr_61_197 rfl ?_
  refine zw_46r (s := 12) zr_61_198 rfl rfl rfl rfl ?_
  refine zw_push zr_61_201 ?_
  refine zw_7 zr_61_202 rfl ?_
  refine zw_46r (s := 26) zr_61_203 rfl rfl rfl rfl ?_
  refine zw_push zr_61_206 ?_
  refine zw_push zr_61_207 ?_
  refine zw_114 (c1 := 26) (c2 := 12) (l1 := 160) (l2 := 160) zr_61_210 rfl rfl rfl rfl (by decide) (Nat.le_of_ble_eq_true rfl) (by omega) (by omega) ?_
  intro m23 em23
  have hIm23 : zInv m23 := by rw [em23]; exact zInv.cpS hIm22 (l2 := 160) (fun _ => rfl) rfl (by decide) (by decide) (by decide)
  have hFm23 : zFr W_61_15_1 m0 m23 := by rw [em23]; exact hFm22.cp rfl
  have km23_1_0 : m23 1 0 = f1 := by rw [em23, zCp_ne (by decide)]; exact km22_1_0
  have km23_15_0 : m23 15 0 = f1 := by rw [em23, zCp_ne (by decide)]; exact km22_15_0
  have km23_1_1 : m23 1 1 = f3 := by rw [em23, zCp_ne (by decide)]; exact km22_1_1
  have km23_15_1 : m23 15 1 = f3 := by rw [em23, zCp_ne (by decide)]; exact km22_15_1
  have km23_1_2 : m23 1 2 = f5 := by rw [em23, zCp_ne (by decide)]; exact km22_1_2
  have km23_15_2 : m23 15 2 = f5 := by rw [em23, zCp_ne (by decide)]; exact km22_15_2
  have km23_1_3 : m23 1 3 = f7 := by rw [em23, zCp_ne (by decide)]; exact km22_1_3
  have km23_15_3 : m23 15 3 = f7 := by rw [em23, zCp_ne (by decide)]; exact km22_15_3
  have km23_1_4 : m23 1 4 = f9 := by rw [em23, zCp_ne (by decide)]; exact km22_1_4
  have km23_15_4 : m23 15 4 = f9 := by rw [em23, zCp_ne (by decide)]; exact km22_15_4
  have km23_1_5 : m23 1 5 = f11 := by rw [em23, zCp_ne (by decide)]; exact km22_1_5
  have km23_15_5 : m23 15 5 = f11 := by rw [em23, zCp_ne (by decide)]; exact km22_15_5
  clear em23
  refine zw_7 zr_61_213 rfl ?_
  refine zw_46r (s := 13) zr_61_214 rfl rfl rfl rfl ?_
  refine zw_push zr_61_217 ?_
  refine zw_7 zr_61_218 rfl ?_
  refine zw_46r (s := 27) zr_61_219 rfl rfl rfl rfl ?_
  refine zw_push zr_61_222 ?_
  refine zw_push zr_61_223 ?_
  refine zw_114 (c1 := 27) (c2 := 13) (l1 := 4) (l2 := 4) zr_61_224 rfl rfl rfl rfl (by decide) (Nat.le_of_ble_eq_true rfl) (by omega) (by omega) ?_
  intro m24 em24
  have hIm24 : zInv m24 := by rw [em24]; exact zInv.cpS hIm23 (l2 := 4) (fun _ => rfl) rfl (by decide) (by decide) (by decide)
  have hFm24 : zFr W_61_15_1 m0 m24 := by rw [em24]; exact hFm23.cp rfl
  have km24_1_0 : m24 1 0 = f1 := by rw [em24, zCp_ne (by decide)]; exact km23_1_0
  have km24_15_0 : m24 15 0 = f1 := by rw [em24, zCp_ne (by decide)]; exact km23_15_0
  have km24_1_1 : m24 1 1 = f3 := by rw [em24, zCp_ne (by decide)]; exact km23_1_1
  have km24_15_1 : m24 15 1 = f3 := by rw [em24, zCp_ne (by decide)]; exact km23_15_1
  have km24_1_2 : m24 1 2 = f5 := by rw [em24, zCp_ne (by decide)]; exact km23_1_2
  have km24_15_2 : m24 15 2 = f5 := by rw [em24, zCp_ne (by decide)]; exact km23_15_2
  have km24_1_3 : m24 1 3 = f7 := by rw [em24, zCp_ne (by decide)]; exact km23_1_3
  have km24_15_3 : m24 15 3 = f7 := by rw [em24, zCp_ne (by decide)]; exact km23_15_3
  have km24_1_4 : m24 1 4 = f9 := by rw [em24, zCp_ne (by decide)]; exact km23_1_4
  have km24_15_4 : m24 15 4 = f9 := by rw [em24, zCp_ne (by decide)]; exact km23_15_4
  have km24_1_5 : m24 1 5 = f11 := by rw [em24, zCp_ne (by decide)]; exact km23_1_5
  have km24_15_5 : m24 15 5 = f11 := by rw [em24, zCp_ne (by decide)]; exact km23_15_5
  clear em24
  refine zw_R zr_61_227 (by decide) zm_61 (v := (9, 0)) rfl ?_
  rw [← hQ]; exact ⟨rfl, hIm24, hFm24⟩

abbrev W_61_28_1 : List (Nat × Nat) := [(28, 0), (28, 1), (28, 2), (28, 3), (28, 4), (28, 5), (29, 1000), (30, 1000), (31, 1000), (32, 1000), (33, 1000), (34, 1000), (35, 1000), (36, 1000), (37, 1000), (38, 1000), (39, 1000), (40, 1000)]
set_option maxHeartbeats 8000000 in
theorem th_61_28_1 {E : zE} {d : Nat} {m0 : zM} (hd : 1 ≤ d) (hI0 : zInv m0) : zC E d 61 [(2, 28), (2, 1)] m0 (fun v m' => v = (9, 0) ∧ zInv m' ∧ zFr W_61_28_1 m0 m') := by
  have hF0 : zFr W_61_28_1 m0 m0 := zFr.rfl
  generalize hQ : (fun (v : zV) (m' : zM) => v = (9, 0) ∧ zInv m' ∧ zFr W_61_28_1 m0 m') = Q
  show zW E d 61 0 [(2, 28), (2, 1)] [] m0 Q
  refine zw_7 zr_61_0 rfl ?_
  refine zw_7 zr_61_1 rfl ?_
  obtain ⟨f1, ef1⟩ : ∃ v, m0 1 0 = v := ⟨_, rfl⟩
  have bf1 := ib_1_0 hI0
  rw [ef1] at bf1
  refine zw_46i zr_61_2 ef1 rfl rfl rfl ?_
  refine zw_47 (c := 28) zr_61_5 rfl ⟨rfl, by decide, rfl⟩ ?_
  intro m2 em2
  have hIm2 : zInv m2 := by rw [em2]; exact hI0.bd (r := 28) (k := 0) (lo := 0) (hi := 10) rfl (by omega) (by decide) (by decide) (by decide)
  have hFm2 : zFr W_61_28_1 m0 m2 := by rw [em2]; exact hF0.up rfl
  have km2_1_0 : m2 1 0 = f1 := by rw [em2, zUp_ne (by omega)]; exact ef1
  have km2_28_0 : m2 28 0 = f1 := by rw [em2]; exact zUp_eq _ _ _ _
  clear em2
  refine zw_7 zr_61_8 rfl ?_
  refine zw_7 zr_61_9 rfl ?_
  obtain ⟨f3, ef3⟩ : ∃ v, m2 1 1 = v := ⟨_, rfl⟩
  have bf3 := ib_1_1 hIm2
  rw [ef3] at bf3
  refine zw_46i zr_61_10 ef3 rfl rfl rfl ?_
  refine zw_47 (c := 28) zr_61_13 rfl ⟨rfl, by decide, rfl⟩ ?_
  intro m4 em4
  have hIm4 : zInv m4 := by rw [em4]; exact hIm2.bd (r := 28) (k := 1) (lo := 0) (hi := 60) rfl (by omega) (by decide) (by decide) (by decide)
  have hFm4 : zFr W_61_28_1 m0 m4 := by rw [em4]; exact hFm2.up rfl
  have km4_1_0 : m4 1 0 = f1 := by rw [em4, zUp_ne (by omega)]; exact km2_1_0
  have km4_28_0 : m4 28 0 = f1 := by rw [em4, zUp_ne (by omega)]; exact km2_28_0
  have km4_1_1 : m4 1 1 = f3 := by rw [em4, zUp_ne (by omega)]; exact ef3
  have km4_28_1 : m4 28 1 = f3 := by rw [em4]; exact zUp_eq _ _ _ _
  clear em4
  refine zw_7 zr_61_16 rfl ?_
  refine zw_7 zr_61_17 rfl ?_
  obtain ⟨f5, ef5⟩ : ∃ v, m4 1 2 = v := ⟨_, rfl⟩
  have bf5 := hIm4.fl (c := 1) (k := 2) rfl
  rw [ef5] at bf5
  refine zw_46l zr_61_18 ef5 rfl rfl rfl ?_
  refine zw_47 (c := 28) zr_61_21 rfl ⟨rfl, by decide, rfl⟩ ?_
  intro m6 em6
  have hIm6 : zInv m6 := by rw [em6]; exact hIm4.anyl (by omega) (by decide) rfl (by decide) (by decide)
  have hFm6 : zFr W_61_28_1 m0 m6 := by rw [em6]; exact hFm4.up rfl
  have km6_1_0 : m6 1 0 = f1 := by rw [em6, zUp_ne (by omega)]; exact km4_1_0
  have km6_28_0 : m6 28 0 = f1 := by rw [em6, zUp_ne (by omega)]; exact km4_28_0
  have km6_1_1 : m6 1 1 = f3 := by rw [em6, zUp_ne (by omega)]; exact km4_1_1
  have km6_28_1 : m6 28 1 = f3 := by rw [em6, zUp_ne (by omega)]; exact km4_28_1
  have km6_1_2 : m6 1 2 = f5 := by rw [em6, zUp_ne (by omega)]; exact ef5
  have km6_28_2 : m6 28 2 = f5 := by rw [em6]; exact zUp_eq _ _ _ _
  clear em6
  refine zw_7 zr_61_24 rfl ?_
  refine zw_7 zr_61_25 rfl ?_
  obtain ⟨f7, ef7⟩ : ∃ v, m6 1 3 = v := ⟨_, rfl⟩
  have bf7 := hIm6.fl (c := 1) (k := 3) rfl
  rw [ef7] at bf7
  refine zw_46l zr_61_26 ef7 rfl rfl rfl ?_
  refine zw_47 (c := 28) zr_61_29 rfl ⟨rfl, by decide, rfl⟩ ?_
  intro m8 em8
  have hIm8 : zInv m8 := by rw [em8]; exact hIm6.anyl (by omega) (by decide) rfl (by decide) (by decide)
  have hFm8 : zFr W_61_28_1 m0 m8 := by rw [em8]; exact hFm6.up rfl
  have km8_1_0 : m8 1 0 = f1 := by rw [em8, zUp_ne (by omega)]; exact km6_1_0
  have km8_28_0 : m8 28 0 = f1 := by rw [em8, zUp_ne (by omega)]; exact km6_28_0
  have km8_1_1 : m8 1 1 = f3 := by rw [em8, zUp_ne (by omega)]; exact km6_1_1
  have km8_28_1 : m8 28 1 = f3 := by rw [em8, zUp_ne (by omega)]; exact km6_28_1
  have km8_1_2 : m8 1 2 = f5 := by rw [em8, zUp_ne (by omega)]; exact km6_1_2
  have km8_28_2 : m8 28 2 = f5 := by rw [em8, zUp_ne (by omega)]; exact km6_28_2
  have km8_1_3 : m8 1 3 = f7 := by rw [em8, zUp_ne (by omega)]; exact ef7
  have km8_28_3 : m8 28 3 = f7 := by rw [em8]; exact zUp_eq _ _ _ _
  clear em8
  refine zw_7 zr_61_32 rfl ?_
  refine zw_7 zr_61_33 rfl ?_
  obtain ⟨f9, ef9⟩ : ∃ v, m8 1 4 = v := ⟨_, rfl⟩
  have bf9 := ib_1_4 hIm8
  rw [ef9] at bf9
  refine zw_46i zr_61_34 ef9 rfl rfl rfl ?_
  refine zw_47 (c := 28) zr_61_37 rfl ⟨rfl, by decide, rfl⟩ ?_
  intro m10 em10
  have hIm10 : zInv m10 := by rw [em10]; exact hIm8.bd (r := 28) (k := 4) (lo := 1) (hi := 1000) rfl (by omega) (by decide) (by decide) (by decide)
  have hFm10 : zFr W_61_28_1 m0 m10 := by rw [em10]; exact hFm8.up rfl
  have km10_1_0 : m10 1 0 = f1 := by rw [em10, zUp_ne (by omega)]; exact km8_1_0
  have km10_28_0 : m10 28 0 = f1 := by rw [em10, zUp_ne (by omega)]; exact km8_28_0
  have km10_1_1 : m10 1 1 = f3 := by rw [em10, zUp_ne (by omega)]; exact km8_1_1
  have km10_28_1 : m10 28 1 = f3 := by rw [em10, zUp_ne (by omega)]; exact km8_28_1
  have km10_1_2 : m10 1 2 = f5 := by rw [em10, zUp_ne (by omega)]; exact km8_1_2
  have km10_28_2 : m10 28 2 = f5 := by rw [em10, zUp_ne (by omega)]; exact km8_28_2
  have km10_1_3 : m10 1 3 = f7 := by rw [em10, zUp_ne (by omega)]; exact km8_1_3
  have km10_28_3 : m10 28 3 = f7 := by rw [em10, zUp_ne (by omega)]; exact km8_28_3
  have km10_1_4 : m10 1 4 = f9 := by rw [em10, zUp_ne (by omega)]; exact ef9
  have km10_28_4 : m10 28 4 = f9 := by rw [em10]; exact zUp_eq _ _ _ _
  clear em10
  refine zw_7 zr_61_40 rfl ?_
  refine zw_7 zr_61_41 rfl ?_
  obtain ⟨f11, ef11⟩ : ∃ v, m10 1 5 = v := ⟨_, rfl⟩
  have bf11 := ib_1_5 hIm10
  rw [ef11] at bf11
  refine zw_46i zr_61_42 ef11 rfl rfl rfl ?_
  refine zw_47 (c := 28) zr_61_45 rfl ⟨rfl, by decide, rfl⟩ ?_
  intro m12 em12
  have hIm12 : zInv m12 := by rw [em12]; exact hIm10.bd (r := 28) (k := 5) (lo := 0) (hi := 500) rfl (by omega) (by decide) (by decide) (by decide)
  have hFm12 : zFr W_61_28_1 m0 m12 := by rw [em12]; exact hFm10.up rfl
  have km12_1_0 : m12 1 0 = f1 := by rw [em12, zUp_ne (by omega)]; exact km10_1_0
  have km12_28_0 : m12 28 0 = f1 := by rw [em12, zUp_ne (by omega)]; exact km10_28_0
  have km12_1_1 : m12 1 1 = f3 := by rw [em12, zUp_ne (by omega)]; exact km10_1_1
  have km12_28_1 : m12 28 1 = f3 := by rw [em12, zUp_ne (by omega)]; exact km10_28_1
  have km12_1_2 : m12 1 2 = f5 := by rw [em12, zUp_ne (by omega)]; exact km10_1_2
  have km12_28_2 : m12 28 2 = f5 := by rw [em12, zUp_ne (by omega)]; exact km10_28_2
  have km12_1_3 : m12 1 3 = f7 := by rw [em12, zUp_ne (by omega)]; exact km10_1_3
  have km12_28_3 : m12 28 3 = f7 := by rw [em12, zUp_ne (by omega)]; exact km10_28_3
  have km12_1_4 : m12 1 4 = f9 := by rw [em12, zUp_ne (by omega)]; exact km10_1_4
  have km12_28_4 : m12 28 4 = f9 := by rw [em12, zUp_ne (by omega)]; exact km10_28_4
  have km12_1_5 : m12 1 5 = f11 := by rw [em12, zUp_ne (by omega)]; exact ef11
  have km12_28_5 : m12 28 5 = f11 := by rw [em12]; exact zUp_eq _ _ _ _
  clear em12
  refine zw_7 zr_61_48 rfl ?_
  refine zw_46r (s := 2) zr_61_49 rfl rfl rfl rfl ?_
  refine zw_push zr_61_52 ?_
  refine zw_7 zr_61_53 rfl ?_
  refine zw_46r (s := 29) zr_61_54 rfl rfl rfl rfl ?_
  refine zw_push zr_61_57 ?_
  refine zw_push zr_61_58 ?_
  refine zw_114 (c1 := 29) (c2 := 2) (l1 := 10) (l2 := 10) zr_61_60 rfl rfl rfl rfl (by decide) (Nat.le_of_ble_eq_true rfl) (by omega) (by omega) ?_
  intro m13 em13
  have hIm13 : zInv m13 := by rw [em13]; exact zInv.cpS hIm12 (l2 := 10) (fun _ => rfl) rfl (by decide) (by decide) (by decide)
  have hFm13 : zFr W_61_28_1 m0 m13 := by rw [em13]; exact hFm12.cp rfl
  have km13_1_0 : m13 1 0 = f1 := by rw [em13, zCp_ne (by decide)]; exact km12_1_0
  have km13_28_0 : m13 28 0 = f1 := by rw [em13, zCp_ne (by decide)]; exact km12_28_0
  have km13_1_1 : m13 1 1 = f3 := by rw [em13, zCp_ne (by decide)]; exact km12_1_1
  have km13_28_1 : m13 28 1 = f3 := by rw [em13, zCp_ne (by decide)]; exact km12_28_1
  have km13_1_2 : m13 1 2 = f5 := by rw [em13, zCp_ne (by decide)]; exact km12_1_2
  have km13_28_2 : m13 28 2 = f5 := by rw [em13, zCp_ne (by decide)]; exact km12_28_2
  have km13_1_3 : m13 1 3 = f7 := by rw [em13, zCp_ne (by decide)]; exact km12_1_3
  have km13_28_3 : m13 28 3 = f7 := by rw [em13, zCp_ne (by decide)]; exact km12_28_3
  have km13_1_4 : m13 1 4 = f9 := by rw [em13, zCp_ne (by decide)]; exact km12_1_4
  have km13_28_4 : m13 28 4 = f9 := by rw [em13, zCp_ne (by decide)]; exact km12_28_4
  have km13_1_5 : m13 1 5 = f11 := by rw [em13, zCp_ne (by decide)]; exact km12_1_5
  have km13_28_5 : m13 28 5 = f11 := by rw [em13, zCp_ne (by decide)]; exact km12_28_5
  clear em13
  refine zw_7 zr_61_63 rfl ?_
  refine zw_46r (s := 3) zr_61_64 rfl rfl rfl rfl ?_
  refine zw_push zr_61_67 ?_
  refine zw_7 zr_61_68 rfl ?_
  refine zw_46r (s := 30) zr_61_69 rfl rfl rfl rfl ?_
  refine zw_push zr_61_72 ?_
  refine zw_push zr_61_73 ?_
  refine zw_114 (c1 := 30) (c2 := 3) (l1 := 40) (l2 := 40) zr_61_75 rfl rfl rfl rfl (by decide) (Nat.le_of_ble_eq_true rfl) (by omega) (by omega) ?_
  intro m14 em14
  have hIm14 : zInv m14 := by rw [em14]; exact zInv.cpS hIm13 (l2 := 40) (fun _ => rfl) rfl (by decide) (by decide) (by decide)
  have hFm14 : zFr W_61_28_1 m0 m14 := by rw [em14]; exact hFm13.cp rfl
  have km14_1_0 : m14 1 0 = f1 := by rw [em14, zCp_ne (by decide)]; exact km13_1_0
  have km14_28_0 : m14 28 0 = f1 := by rw [em14, zCp_ne (by decide)]; exact km13_28_0
  have km14_1_1 : m14 1 1 = f3 := by rw [em14, zCp_ne (by decide)]; exact km13_1_1
  have km14_28_1 : m14 28 1 = f3 := by rw [em14, zCp_ne (by decide)]; exact km13_28_1
  have km14_1_2 : m14 1 2 = f5 := by rw [em14, zCp_ne (by decide)]; exact km13_1_2
  have km14_28_2 : m14 28 2 = f5 := by rw [em14, zCp_ne (by decide)]; exact km13_28_2
  have km14_1_3 : m14 1 3 = f7 := by rw [em14, zCp_ne (by decide)]; exact km13_1_3
  have km14_28_3 : m14 28 3 = f7 := by rw [em14, zCp_ne (by decide)]; exact km13_28_3
  have km14_1_4 : m14 1 4 = f9 := by rw [em14, zCp_ne (by decide)]; exact km13_1_4
  have km14_28_4 : m14 28 4 = f9 := by rw [em14, zCp_ne (by decide)]; exact km13_28_4
  have km14_1_5 : m14 1 5 = f11 := by rw [em14, zCp_ne (by decide)]; exact km13_1_5
  have km14_28_5 : m14 28 5 = f11 := by rw [em14, zCp_ne (by decide)]; exact km13_28_5
  clear em14
  refine zw_7 zr_61_78 rfl ?_
  refine zw_46r (s := 4) zr_61_79 rfl rfl rfl rfl ?_
  refine zw_push zr_61_82 ?_
  refine zw_7 zr_61_83 rfl ?_
  refine zw_46r (s := 31) zr_61_84 rfl rfl rfl rfl ?_
  refine zw_push zr_61_87 ?_
  refine zw_push zr_61_88 ?_
  refine zw_114 (c1 := 31) (c2 := 4) (l1 := 40) (l2 := 40) zr_61_90 rfl rfl rfl rfl (by decide) (Nat.le_of_ble_eq_true rfl) (by omega) (by omega) ?_
  intro m15 em15
  have hIm15 : zInv m15 := by rw [em15]; exact zInv.cpS hIm14 (l2 := 40) (fun _ => rfl) rfl (by decide) (by decide) (by decide)
  have hFm15 : zFr W_61_28_1 m0 m15 := by rw [em15]; exact hFm14.cp rfl
  have km15_1_0 : m15 1 0 = f1 := by rw [em15, zCp_ne (by decide)]; exact km14_1_0
  have km15_28_0 : m15 28 0 = f1 := by rw [em15, zCp_ne (by decide)]; exact km14_28_0
  have km15_1_1 : m15 1 1 = f3 := by rw [em15, zCp_ne (by decide)]; exact km14_1_1
  have km15_28_1 : m15 28 1 = f3 := by rw [em15, zCp_ne (by decide)]; exact km14_28_1
  have km15_1_2 : m15 1 2 = f5 := by rw [em15, zCp_ne (by decide)]; exact km14_1_2
  have km15_28_2 : m15 28 2 = f5 := by rw [em15, zCp_ne (by decide)]; exact km14_28_2
  have km15_1_3 : m15 1 3 = f7 := by rw [em15, zCp_ne (by decide)]; exact km14_1_3
  have km15_28_3 : m15 28 3 = f7 := by rw [em15, zCp_ne (by decide)]; exact km14_28_3
  have km15_1_4 : m15 1 4 = f9 := by rw [em15, zCp_ne (by decide)]; exact km14_1_4
  have km15_28_4 : m15 28 4 = f9 := by rw [em15, zCp_ne (by decide)]; exact km14_28_4
  have km15_1_5 : m15 1 5 = f11 := by rw [em15, zCp_ne (by decide)]; exact km14_1_5
  have km15_28_5 : m15 28 5 = f11 := by rw [em15, zCp_ne (by decide)]; exact km14_28_5
  clear em15
  refine zw_7 zr_61_93 rfl ?_
  refine zw_46r (s := 5) zr_61_94 rfl rfl rfl rfl ?_
  refine zw_push zr_61_97 ?_
  refine zw_7 zr_61_98 rfl ?_
  refine zw_46r (s := 32) zr_61_99 rfl rfl rfl rfl ?_
  refine zw_push zr_61_102 ?_
  refine zw_push zr_61_103 ?_
  refine zw_114 (c1 := 32) (c2 := 5) (l1 := 60) (l2 := 60) zr_61_105 rfl rfl rfl rfl (by decide) (Nat.le_of_ble_eq_true rfl) (by omega) (by omega) ?_
  intro m16 em16
  have hIm16 : zInv m16 := by rw [em16]; exact zInv.cpS hIm15 (l2 := 60) (fun _ => rfl) rfl (by decide) (by decide) (by decide)
  have hFm16 : zFr W_61_28_1 m0 m16 := by rw [em16]; exact hFm15.cp rfl
  have km16_1_0 : m16 1 0 = f1 := by rw [em16, zCp_ne (by decide)]; exact km15_1_0
  have km16_28_0 : m16 28 0 = f1 := by rw [em16, zCp_ne (by decide)]; exact km15_28_0
  have km16_1_1 : m16 1 1 = f3 := by rw [em16, zCp_ne (by decide)]; exact km15_1_1
  have km16_28_1 : m16 28 1 = f3 := by rw [em16, zCp_ne (by decide)]; exact km15_28_1
  have km16_1_2 : m16 1 2 = f5 := by rw [em16, zCp_ne (by decide)]; exact km15_1_2
  have km16_28_2 : m16 28 2 = f5 := by rw [em16, zCp_ne (by decide)]; exact km15_28_2
  have km16_1_3 : m16 1 3 = f7 := by rw [em16, zCp_ne (by decide)]; exact km15_1_3
  have km16_28_3 : m16 28 3 = f7 := by rw [em16, zCp_ne (by decide)]; exact km15_28_3
  have km16_1_4 : m16 1 4 = f9 := by rw [em16, zCp_ne (by decide)]; exact km15_1_4
  have km16_28_4 : m16 28 4 = f9 := by rw [em16, zCp_ne (by decide)]; exact km15_28_4
  have km16_1_5 : m16 1 5 = f11 := by rw [em16, zCp_ne (by decide)]; exact km15_1_5
  have km16_28_5 : m16 28 5 = f11 := by rw [em16, zCp_ne (by decide)]; exact km15_28_5
  clear em16
  refine zw_7 zr_61_108 rfl ?_
  refine zw_46r (s := 6) zr_61_109 rfl rfl rfl rfl ?_
  refine zw_push zr_61_112 ?_
  refine zw_7 zr_61_113 rfl ?_
  refine zw_46r (s := 33) zr_61_114 rfl rfl rfl rfl ?_
  refine zw_push zr_61_117 ?_
  refine zw_push zr_61_118 ?_
  refine zw_114 (c1 := 33) (c2 := 6) (l1 := 60) (l2 := 60) zr_61_120 rfl rfl rfl rfl (by decide) (Nat.le_of_ble_eq_true rfl) (by omega) (by omega) ?_
  intro m17 em17
  have hIm17 : zInv m17 := by rw [em17]; exact zInv.cpS hIm16 (l2 := 60) (fun _ => rfl) rfl (by decide) (by decide) (by decide)
  have hFm17 : zFr W_61_28_1 m0 m17 := by rw [em17]; exact hFm16.cp rfl
  have km17_1_0 : m17 1 0 = f1 := by rw [em17, zCp_ne (by decide)]; exact km16_1_0
  have km17_28_0 : m17 28 0 = f1 := by rw [em17, zCp_ne (by decide)]; exact km16_28_0
  have km17_1_1 : m17 1 1 = f3 := by rw [em17, zCp_ne (by decide)]; exact km16_1_1
  have km17_28_1 : m17 28 1 = f3 := by rw [em17, zCp_ne (by decide)]; exact km16_28_1
  have km17_1_2 : m17 1 2 = f5 := by rw [em17, zCp_ne (by decide)]; exact km16_1_2
  have km17_28_2 : m17 28 2 = f5 := by rw [em17, zCp_ne (by decide)]; exact km16_28_2
  have km17_1_3 : m17 1 3 = f7 := by rw [em17, zCp_ne (by decide)]; exact km16_1_3
  have km17_28_3 : m17 28 3 = f7 := by rw [em17, zCp_ne (by decide)]; exact km16_28_3
  have km17_1_4 : m17 1 4 = f9 := by rw [em17, zCp_ne (by decide)]; exact km16_1_4
  have km17_28_4 : m17 28 4 = f9 := by rw [em17, zCp_ne (by decide)]; exact km16_28_4
  have km17_1_5 : m17 1 5 = f11 := by rw [em17, zCp_ne (by decide)]; exact km16_1_5
  have km17_28_5 : m17 28 5 = f11 := by rw [em17, zCp_ne (by decide)]; exact km16_28_5
  clear em17
  refine zw_7 zr_61_123 rfl ?_
  refine zw_46r (s := 7) zr_61_124 rfl rfl rfl rfl ?_
  refine zw_push zr_61_127 ?_
  refine zw_7 zr_61_128 rfl ?_
  refine zw_46r (s := 34) zr_61_129 rfl rfl rfl rfl ?_
  refine zw_push zr_61_132 ?_
  refine zw_push zr_61_133 ?_
  refine zw_114 (c1 := 34) (c2 := 7) (l1 := 60) (l2 := 60) zr_61_135 rfl rfl rfl rfl (by decide) (Nat.le_of_ble_eq_true rfl) (by omega) (by omega) ?_
  intro m18 em18
  have hIm18 : zInv m18 := by rw [em18]; exact zInv.cpS hIm17 (l2 := 60) (fun _ => rfl) rfl (by decide) (by decide) (by decide)
  have hFm18 : zFr W_61_28_1 m0 m18 := by rw [em18]; exact hFm17.cp rfl
  have km18_1_0 : m18 1 0 = f1 := by rw [em18, zCp_ne (by decide)]; exact km17_1_0
  have km18_28_0 : m18 28 0 = f1 := by rw [em18, zCp_ne (by decide)]; exact km17_28_0
  have km18_1_1 : m18 1 1 = f3 := by rw [em18, zCp_ne (by decide)]; exact km17_1_1
  have km18_28_1 : m18 28 1 = f3 := by rw [em18, zCp_ne (by decide)]; exact km17_28_1
  have km18_1_2 : m18 1 2 = f5 := by rw [em18, zCp_ne (by decide)]; exact km17_1_2
  have km18_28_2 : m18 28 2 = f5 := by rw [em18, zCp_ne (by decide)]; exact km17_28_2
  have km18_1_3 : m18 1 3 = f7 := by rw [em18, zCp_ne (by decide)]; exact km17_1_3
  have km18_28_3 : m18 28 3 = f7 := by rw [em18, zCp_ne (by decide)]; exact km17_28_3
  have km18_1_4 : m18 1 4 = f9 := by rw [em18, zCp_ne (by decide)]; exact km17_1_4
  have km18_28_4 : m18 28 4 = f9 := by rw [em18, zCp_ne (by decide)]; exact km17_28_4
  have km18_1_5 : m18 1 5 = f11 := by rw [em18, zCp_ne (by decide)]; exact km17_1_5
  have km18_28_5 : m18 28 5 = f11 := by rw [em18, zCp_ne (by decide)]; exact km17_28_5
  clear em18
  refine zw_7 zr_61_138 rfl ?_
  refine zw_46r (s := 8) zr_61_139 rfl rfl rfl rfl ?_
  refine zw_push zr_61_142 ?_
  refine zw_7 zr_61_143 rfl ?_
  refine zw_46r (s := 35) zr_61_144 rfl rfl rfl rfl ?_
  refine zw_push zr_61_147 ?_
  refine zw_push zr_61_148 ?_
  refine zw_114 (c1 := 35) (c2 := 8) (l1 := 60) (l2 := 60) zr_61_150 rfl rfl rfl rfl (by decide) (Nat.le_of_ble_eq_true rfl) (by omega) (by omega) ?_
  intro m19 em19
  have hIm19 : zInv m19 := by rw [em19]; exact zInv.cpS hIm18 (l2 := 60) (fun _ => rfl) rfl (by decide) (by decide) (by decide)
  have hFm19 : zFr W_61_28_1 m0 m19 := by rw [em19]; exact hFm18.cp rfl
  have km19_1_0 : m19 1 0 = f1 := by rw [em19, zCp_ne (by decide)]; exact km18_1_0
  have km19_28_0 : m19 28 0 = f1 := by rw [em19, zCp_ne (by decide)]; exact km18_28_0
  have km19_1_1 : m19 1 1 = f3 := by rw [em19, zCp_ne (by decide)]; exact km18_1_1
  have km19_28_1 : m19 28 1 = f3 := by rw [em19, zCp_ne (by decide)]; exact km18_28_1
  have km19_1_2 : m19 1 2 = f5 := by rw [em19, zCp_ne (by decide)]; exact km18_1_2
  have km19_28_2 : m19 28 2 = f5 := by rw [em19, zCp_ne (by decide)]; exact km18_28_2
  have km19_1_3 : m19 1 3 = f7 := by rw [em19, zCp_ne (by decide)]; exact km18_1_3
  have km19_28_3 : m19 28 3 = f7 := by rw [em19, zCp_ne (by decide)]; exact km18_28_3
  have km19_1_4 : m19 1 4 = f9 := by rw [em19, zCp_ne (by decide)]; exact km18_1_4
  have km19_28_4 : m19 28 4 = f9 := by rw [em19, zCp_ne (by decide)]; exact km18_28_4
  have km19_1_5 : m19 1 5 = f11 := by rw [em19, zCp_ne (by decide)]; exact km18_1_5
  have km19_28_5 : m19 28 5 = f11 := by rw [em19, zCp_ne (by decide)]; exact km18_28_5
  clear em19
  refine zw_7 zr_61_153 rfl ?_
  refine zw_46r (s := 9) zr_61_154 rfl rfl rfl rfl ?_
  refine zw_push zr_61_157 ?_
  refine zw_7 zr_61_158 rfl ?_
  refine zw_46r (s := 36) zr_61_159 rfl rfl rfl rfl ?_
  refine zw_push zr_61_162 ?_
  refine zw_push zr_61_163 ?_
  refine zw_114 (c1 := 36) (c2 := 9) (l1 := 4) (l2 := 4) zr_61_164 rfl rfl rfl rfl (by decide) (Nat.le_of_ble_eq_true rfl) (by omega) (by omega) ?_
  intro m20 em20
  have hIm20 : zInv m20 := by rw [em20]; exact zInv.cpS hIm19 (l2 := 4) (fun _ => rfl) rfl (by decide) (by decide) (by decide)
  have hFm20 : zFr W_61_28_1 m0 m20 := by rw [em20]; exact hFm19.cp rfl
  have km20_1_0 : m20 1 0 = f1 := by rw [em20, zCp_ne (by decide)]; exact km19_1_0
  have km20_28_0 : m20 28 0 = f1 := by rw [em20, zCp_ne (by decide)]; exact km19_28_0
  have km20_1_1 : m20 1 1 = f3 := by rw [em20, zCp_ne (by decide)]; exact km19_1_1
  have km20_28_1 : m20 28 1 = f3 := by rw [em20, zCp_ne (by decide)]; exact km19_28_1
  have km20_1_2 : m20 1 2 = f5 := by rw [em20, zCp_ne (by decide)]; exact km19_1_2
  have km20_28_2 : m20 28 2 = f5 := by rw [em20, zCp_ne (by decide)]; exact km19_28_2
  have km20_1_3 : m20 1 3 = f7 := by rw [em20, zCp_ne (by decide)]; exact km19_1_3
  have km20_28_3 : m20 28 3 = f7 := by rw [em20, zCp_ne (by decide)]; exact km19_28_3
  have km20_1_4 : m20 1 4 = f9 := by rw [em20, zCp_ne (by decide)]; exact km19_1_4
  have km20_28_4 : m20 28 4 = f9 := by rw [em20, zCp_ne (by decide)]; exact km19_28_4
  have km20_1_5 : m20 1 5 = f11 := by rw [em20, zCp_ne (by decide)]; exact km19_1_5
  have km20_28_5 : m20 28 5 = f11 := by rw [em20, zCp_ne (by decide)]; exact km19_28_5
  clear em20
  refine zw_7 zr_61_167 rfl ?_
  refine zw_46r (s := 10) zr_61_168 rfl rfl rfl rfl ?_
  refine zw_push zr_61_171 ?_
  refine zw_7 zr_61_172 rfl ?_
  refine zw_46r (s := 37) zr_61_173 rfl rfl rfl rfl ?_
  refine zw_push zr_61_176 ?_
  refine zw_push zr_61_177 ?_
  refine zw_114 (c1 := 37) (c2 := 10) (l1 := 4) (l2 := 4) zr_61_178 rfl rfl rfl rfl (by decide) (Nat.le_of_ble_eq_true rfl) (by omega) (by omega) ?_
  intro m21 em21
  have hIm21 : zInv m21 := by rw [em21]; exact zInv.cpS hIm20 (l2 := 4) (fun _ => rfl) rfl (by decide) (by decide) (by decide)
  have hFm21 : zFr W_61_28_1 m0 m21 := by rw [em21]; exact hFm20.cp rfl
  have km21_1_0 : m21 1 0 = f1 := by rw [em21, zCp_ne (by decide)]; exact km20_1_0
  have km21_28_0 : m21 28 0 = f1 := by rw [em21, zCp_ne (by decide)]; exact km20_28_0
  have km21_1_1 : m21 1 1 = f3 := by rw [em21, zCp_ne (by decide)]; exact km20_1_1
  have km21_28_1 : m21 28 1 = f3 := by rw [em21, zCp_ne (by decide)]; exact km20_28_1
  have km21_1_2 : m21 1 2 = f5 := by rw [em21, zCp_ne (by decide)]; exact km20_1_2
  have km21_28_2 : m21 28 2 = f5 := by rw [em21, zCp_ne (by decide)]; exact km20_28_2
  have km21_1_3 : m21 1 3 = f7 := by rw [em21, zCp_ne (by decide)]; exact km20_1_3
  have km21_28_3 : m21 28 3 = f7 := by rw [em21, zCp_ne (by decide)]; exact km20_28_3
  have km21_1_4 : m21 1 4 = f9 := by rw [em21, zCp_ne (by decide)]; exact km20_1_4
  have km21_28_4 : m21 28 4 = f9 := by rw [em21, zCp_ne (by decide)]; exact km20_28_4
  have km21_1_5 : m21 1 5 = f11 := by rw [em21, zCp_ne (by decide)]; exact km20_1_5
  have km21_28_5 : m21 28 5 = f11 := by rw [em21, zCp_ne (by decide)]; exact km20_28_5
  clear em21
  refine zw_7 zr_61_181 rfl ?_
  refine zw_46r (s := 11) zr_61_182 rfl rfl rfl rfl ?_
  refine zw_push zr_61_185 ?_
  refine zw_7 zr_61_186 rfl ?_
  refine zw_46r (s := 38) zr_61_187 rfl rfl rfl rfl ?_
  refine zw_push zr_61_190 ?_
  refine zw_push zr_61_191 ?_
  refine zw_114 (c1 := 38) (c2 := 11) (l1 := 200) (l2 := 200) zr_61_194 rfl rfl rfl rfl (by decide) (Nat.le_of_ble_eq_true rfl) (by omega) (by omega) ?_
  intro m22 em22
  have hIm22 : zInv m22 := by rw [em22]; exact zInv.cpS hIm21 (l2 := 200) (fun _ => rfl) rfl (by decide) (by decide) (by decide)
  have hFm22 : zFr W_61_28_1 m0 m22 := by rw [em22]; exact hFm21.cp rfl
  have km22_1_0 : m22 1 0 = f1 := by rw [em22, zCp_ne (by decide)]; exact km21_1_0
  have km22_28_0 : m22 28 0 = f1 := by rw [em22, zCp_ne (by decide)]; exact km21_28_0
  have km22_1_1 : m22 1 1 = f3 := by rw [em22, zCp_ne (by decide)]; exact km21_1_1
  have km22_28_1 : m22 28 1 = f3 := by rw [em22, zCp_ne (by decide)]; exact km21_28_1
  have km22_1_2 : m22 1 2 = f5 := by rw [em22, zCp_ne (by decide)]; exact km21_1_2
  have km22_28_2 : m22 28 2 = f5 := by rw [em22, zCp_ne (by decide)]; exact km21_28_2
  have km22_1_3 : m22 1 3 = f7 := by rw [em22, zCp_ne (by decide)]; exact km21_1_3
  have km22_28_3 : m22 28 3 = f7 := by rw [em22, zCp_ne (by decide)]; exact km21_28_3
  have km22_1_4 : m22 1 4 = f9 := by rw [em22, zCp_ne (by decide)]; exact km21_1_4
  have km22_28_4 : m22 28 4 = f9 := by rw [em22, zCp_ne (by decide)]; exact km21_28_4
  have km22_1_5 : m22 1 5 = f11 := by rw [em22, zCp_ne (by decide)]; exact km21_1_5
  have km22_28_5 : m22 28 5 = f11 := by rw [em22, zCp_ne (by decide)]; exact km21_28_5
  clear em22
  refine zw_7 zr_61_197 rfl ?_
  refine zw_46r (s := 12) zr_61_198 rfl rfl rfl rfl ?_
  refine zw_push zr_61_201 ?_
  refine zw_7 zr_61_202 rfl ?_
  refine zw_46r (s := 39) zr_61_203 rfl rfl rfl rfl ?_
  refine zw_push zr_61_206 ?_
  refine zw_push zr_61_207 ?_
  refine zw_114 (c1 := 39) (c2 := 12) (l1 := 160) (l2 := 160) zr_61_210 rfl rfl rfl rfl (by decide) (Nat.le_of_ble_eq_true rfl) (by omega) (by omega) ?_
  intro m23 em23
  have hIm23 : zInv m23 := by rw [em23]; exact zInv.cpS hIm22 (l2 := 160) (fun _ => rfl) rfl (by decide) (by decide) (by decide)
  have hFm23 : zFr W_61_28_1 m0 m23 := by rw [em23]; exact hFm22.cp rfl
  have km23_1_0 : m23 1 0 = f1 := by rw [em23, zCp_ne (by decide)]; exact km22_1_0
  have km23_28_0 : m23 28 0 = f1 := by rw [em23, zCp_ne (by decide)]; exact km22_28_0
  have km23_1_1 : m23 1 1 = f3 := by rw [em23, zCp_ne (by decide)]; exact km22_1_1
  have km23_28_1 : m23 28 1 = f3 := by rw [em23, zCp_ne (by decide)]; exact km22_28_1
  have km23_1_2 : m23 1 2 = f5 := by rw [em23, zCp_ne (by decide)]; exact km22_1_2
  have km23_28_2 : m23 28 2 = f5 := by rw [em23, zCp_ne (by decide)]; exact km22_28_2
  have km23_1_3 : m23 1 3 = f7 := by rw [em23, zCp_ne (by decide)]; exact km22_1_3
  have km23_28_3 : m23 28 3 = f7 := by rw [em23, zCp_ne (by decide)]; exact km22_28_3
  have km23_1_4 : m23 1 4 = f9 := by rw [em23, zCp_ne (by decide)]; exact km22_1_4
  have km23_28_4 : m23 28 4 = f9 := by rw [em23, zCp_ne (by decide)]; exact km22_28_4
  have km23_1_5 : m23 1 5 = f11 := by rw [em23, zCp_ne (by decide)]; exact km22_1_5
  have km23_28_5 : m23 28 5 = f11 := by rw [em23, zCp_ne (by decide)]; exact km22_28_5
  clear em23
  refine zw_7 zr_61_213 rfl ?_
  refine zw_46r (s := 13) zr_61_214 rfl rfl rfl rfl ?_
  refine zw_push zr_61_217 ?_
  refine zw_7 zr_61_218 rfl ?_
  refine zw_46r (s := 40) zr_61_219 rfl rfl rfl rfl ?_
  refine zw_push zr_61_222 ?_
  refine zw_push zr_61_223 ?_
  refine zw_114 (c1 := 40) (c2 := 13) (l1 := 4) (l2 := 4) zr_61_224 rfl rfl rfl rfl (by decide) (Nat.le_of_ble_eq_true rfl) (by omega) (by omega) ?_
  intro m24 em24
  have hIm24 : zInv m24 := by rw [em24]; exact zInv.cpS hIm23 (l2 := 4) (fun _ => rfl) rfl (by decide) (by decide) (by decide)
  have hFm24 : zFr W_61_28_1 m0 m24 := by rw [em24]; exact hFm23.cp rfl
  have km24_1_0 : m24 1 0 = f1 := by rw [em24, zCp_ne (by decide)]; exact km23_1_0
  have km24_28_0 : m24 28 0 = f1 := by rw [em24, zCp_ne (by decide)]; exact km23_28_0
  have km24_1_1 : m24 1 1 = f3 := by rw [em24, zCp_ne (by decide)]; exact km23_1_1
  have km24_28_1 : m24 28 1 = f3 := by rw [em24, zCp_ne (by decide)]; exact km23_28_1
  have km24_1_2 : m24 1 2 = f5 := by rw [em24, zCp_ne (by decide)]; exact km23_1_2
  have km24_28_2 : m24 28 2 = f5 := by rw [em24, zCp_ne (by decide)]; exact km23_28_2
  have km24_1_3 : m24 1 3 = f7 := by rw [em24, zCp_ne (by decide)]; exact km23_1_3
  have km24_28_3 : m24 28 3 = f7 := by rw [em24, zCp_ne (by decide)]; exact km23_28_3
  have km24_1_4 : m24 1 4 = f9 := by rw [em24, zCp_ne (by decide)]; exact km23_1_4
  have km24_28_4 : m24 28 4 = f9 := by rw [em24, zCp_ne (by decide)]; exact km23_28_4
  have km24_1_5 : m24 1 5 = f11 := by rw [em24, zCp_ne (by decide)]; exact km23_1_5
  have km24_28_5 : m24 28 5 = f11 := by rw [em24, zCp_ne (by decide)]; exact km23_28_5
  clear em24
  refine zw_R zr_61_227 (by decide) zm_61 (v := (9, 0)) rfl ?_
  rw [← hQ]; exact ⟨rfl, hIm24, hFm24⟩

abbrev W_134 : List (Nat × Nat) := [(15, 0), (15, 1), (15, 2), (15, 3), (15, 4), (15, 5), (16, 1000), (17, 1000), (18, 1000), (19, 1000), (20, 1000), (21, 1000), (22, 1000), (23, 1000), (24, 1000), (25, 1000), (26, 1000), (27, 1000), (28, 0), (28, 1), (28, 2), (28, 3), (28, 4), (28, 5), (29, 1000), (30, 1000), (31, 1000), (32, 1000), (33, 1000), (34, 1000), (35, 1000), (36, 1000), (37, 1000), (38, 1000), (39, 1000), (40, 1000), (41, 1000)]
set_option maxHeartbeats 8000000 in
theorem th_134 {E : zE} {d : Nat} {m0 : zM} {a0 : Int} (hd : 2 ≤ d) (hI0 : zInv m0) (ha0 : (-2147483648) ≤ a0 ∧ a0 ≤ 2147483647) : zC E d 134 [(2, 0), (0, a0)] m0 (fun v m' => ∃ r : Int, v = (0, r) ∧ (-2) ≤ r ∧ r ≤ 1 ∧ zInv m' ∧ zFr W_134 m0 m') := by
  have hF0 : zFr W_134 m0 m0 := zFr.rfl
  generalize hQ : (fun (v : zV) (m' : zM) => ∃ r : Int, v = (0, r) ∧ (-2) ≤ r ∧ r ≤ 1 ∧ zInv m' ∧ zFr W_134 m0 m') = Q
  show zW E d 134 0 [(2, 0), (0, a0)] [] m0 Q
  refine zw_3 zr_134_0 rfl ?_
  refine zw_push zr_134_1 ?_
  refine zw_push zr_134_2 ?_
  refine zw_C zr_134_3 (Or.inr rfl) zm_100 rfl rfl ⟨Nat.le_of_ble_eq_true rfl, Nat.le_of_ble_eq_true rfl, Nat.le_of_ble_eq_true rfl, rfl, by decide⟩ (by omega) (P := (fun v m' => zW E (d) 134 6 [(2, 0), (0, a0)] (if v.1 = 9 then [] else v :: []) m' Q)) ?_ (fun _ _ h => h)
  generalize hQ1 : (fun v m' => zW E (d) 134 6 [(2, 0), (0, a0)] (if v.1 = 9 then [] else v :: []) m' Q) = Q1
  show zW E (d - 1) 100 0 [(0, a0), (0, 0), (0, 1)] [] m0 Q1
  refine zw_3 zr_100_0 rfl ?_
  refine zw_3 zr_100_1 rfl ?_
  refine zw_41_0 zr_100_2 ?_ ?_
  · intro h1
    refine zw_push zr_100_14 ?_
    refine zw_R zr_100_15 (by decide) zm_100 (v := (0, 0)) (zRetB (by omega)) ?_
    rw [← hQ1]
    show zW E (d) 134 6 [(2, 0), (0, a0)] [(0, 0)] m0 Q
    refine zw_40_4 zr_134_6 ?_ ?_
    · intro h2; omega
    · intro h3
      refine zw_push zr_134_9 ?_
      refine zw_R zr_134_11 (by decide) zm_134 (v := (0, (-2))) rfl ?_
      rw [← hQ]; exact ⟨_, rfl, by omega, by omega, hI0, hF0⟩
  · intro h4
    refine zw_3 zr_100_5 rfl ?_
    refine zw_3 zr_100_6 rfl ?_
    refine zw_41_2 zr_100_7 ?_ ?_
    · intro h5
      refine zw_push zr_100_14 ?_
      refine zw_R zr_100_15 (by decide) zm_100 (v := (0, 0)) (zRetB (by omega)) ?_
      rw [← hQ1]
      show zW E (d) 134 6 [(2, 0), (0, a0)] [(0, 0)] m0 Q
      refine zw_40_4 zr_134_6 ?_ ?_
      · intro h6; omega
      · intro h7
        refine zw_push zr_134_9 ?_
        refine zw_R zr_134_11 (by decide) zm_134 (v := (0, (-2))) rfl ?_
        rw [← hQ]; exact ⟨_, rfl, by omega, by omega, hI0, hF0⟩
    · intro h8
      refine zw_push zr_100_10 ?_
      refine zw_42 zr_100_11 ?_
      refine zw_R zr_100_15 (by decide) zm_100 (v := (0, 1)) (zRetB (by omega)) ?_
      rw [← hQ1]
      show zW E (d) 134 6 [(2, 0), (0, a0)] [(0, 1)] m0 Q
      refine zw_40_4 zr_134_6 ?_ ?_
      · intro h9
        refine zw_7 zr_134_12 rfl ?_
        refine zw_46r (s := 14) zr_134_13 rfl rfl rfl rfl ?_
        refine zw_3 zr_134_16 rfl ?_
        by_cases h10 : a0 = 0
        · rw [h10]
          refine zw_54 (s := 15) zr_134_17 rfl ?_
          refine zw_7 zr_134_18 rfl ?_
          refine zw_46r (s := 1) zr_134_19 rfl rfl rfl rfl ?_
          refine zw_C zr_134_22 (Or.inl rfl) zm_61 rfl rfl ⟨Nat.le_of_ble_eq_true rfl, Nat.le_of_ble_eq_true rfl, Nat.le_of_ble_eq_true rfl, rfl, by decide⟩ (by omega) (th_61_15_1 (d := d - 1) (by omega) hI0        ) ?_
          rintro _ m11 ⟨rfl, hIm11, gm11⟩
          have hFm11 : zFr W_134 m0 m11 := hF0.trans gm11 rfl
          show zW E (d) 134 25 [(2, 0), (0, 0)] [] m11 Q
          refine zw_7 zr_134_25 rfl ?_
          refine zw_46r (s := 41) zr_134_26 rfl rfl rfl rfl ?_
          refine zw_3 zr_134_29 rfl ?_
          refine zw_push zr_134_30 ?_
          refine zw_49 (c := 41) (len := 2) zr_134_31 rfl rfl (by omega) (by omega) ?_
          intro m12 em12
          have hIm12 : zInv m12 := by rw [em12]; exact iu_41 hIm11 (by omega)
          have hFm12 : zFr W_134 m0 m12 := by rw [em12]; exact hFm11.any rfl
          have km12_41_0 : m12 41 0 = 1 := by rw [em12, show (0 : Int).toNat = 0 by omega]; exact zUp_eq _ _ _ _
          clear em12
          refine zw_push zr_134_32 ?_
          refine zw_R zr_134_33 (by decide) zm_134 (v := (0, 1)) rfl ?_
          rw [← hQ]; exact ⟨_, rfl, by omega, by omega, hIm12, hFm12⟩
        by_cases h13 : a0 = 1
        · rw [h13]
          refine zw_54 (s := 28) zr_134_17 rfl ?_
          refine zw_7 zr_134_18 rfl ?_
          refine zw_46r (s := 1) zr_134_19 rfl rfl rfl rfl ?_
          refine zw_C zr_134_22 (Or.inl rfl) zm_61 rfl rfl ⟨Nat.le_of_ble_eq_true rfl, Nat.le_of_ble_eq_true rfl, Nat.le_of_ble_eq_true rfl, rfl, by decide⟩ (by omega) (th_61_28_1 (d := d - 1) (by omega) hI0        ) ?_
          rintro _ m14 ⟨rfl, hIm14, gm14⟩
          have hFm14 : zFr W_134 m0 m14 := hF0.trans gm14 rfl
          show zW E (d) 134 25 [(2, 0), (0, 1)] [] m14 Q
          refine zw_7 zr_134_25 rfl ?_
          refine zw_46r (s := 41) zr_134_26 rfl rfl rfl rfl ?_
          refine zw_3 zr_134_29 rfl ?_
          refine zw_push zr_134_30 ?_
          refine zw_49 (c := 41) (len := 2) zr_134_31 rfl rfl (by omega) (by omega) ?_
          intro m15 em15
          have hIm15 : zInv m15 := by rw [em15]; exact iu_41 hIm14 (by omega)
          have hFm15 : zFr W_134 m0 m15 := by rw [em15]; exact hFm14.any rfl
          have km15_41_1 : m15 41 1 = 1 := by rw [em15, show (1 : Int).toNat = 1 by omega]; exact zUp_eq _ _ _ _
          clear em15
          refine zw_push zr_134_32 ?_
          refine zw_R zr_134_33 (by decide) zm_134 (v := (0, 1)) rfl ?_
          rw [← hQ]; exact ⟨_, rfl, by omega, by omega, hIm15, hFm15⟩
        exfalso; omega
      · intro h16; omega

abbrev W_61_1_15 : List (Nat × Nat) := [(1, 0), (1, 1), (1, 2), (1, 3), (1, 4), (1, 5), (2, 1000), (3, 1000), (4, 1000), (5, 1000), (6, 1000), (7, 1000), (8, 1000), (9, 1000), (10, 1000), (11, 1000), (12, 1000), (13, 1000)]
set_option maxHeartbeats 8000000 in
theorem th_61_1_15 {E : zE} {d : Nat} {m0 : zM} (hd : 1 ≤ d) (hI0 : zInv m0) : zC E d 61 [(2, 1), (2, 15)] m0 (fun v m' => v = (9, 0) ∧ zInv m' ∧ zFr W_61_1_15 m0 m') := by
  have hF0 : zFr W_61_1_15 m0 m0 := zFr.rfl
  generalize hQ : (fun (v : zV) (m' : zM) => v = (9, 0) ∧ zInv m' ∧ zFr W_61_1_15 m0 m') = Q
  show zW E d 61 0 [(2, 1), (2, 15)] [] m0 Q
  refine zw_7 zr_61_0 rfl ?_
  refine zw_7 zr_61_1 rfl ?_
  obtain ⟨f1, ef1⟩ : ∃ v, m0 15 0 = v := ⟨_, rfl⟩
  have bf1 := ib_15_0 hI0
  rw [ef1] at bf1
  refine zw_46i zr_61_2 ef1 rfl rfl rfl ?_
  refine zw_47 (c := 1) zr_61_5 rfl ⟨rfl, by decide, rfl⟩ ?_
  intro m2 em2
  have hIm2 : zInv m2 := by rw [em2]; exact hI0.bd (r := 1) (k := 0) (lo := 0) (hi := 10) rfl (by omega) (by decide) (by decide) (by decide)
  have hFm2 : zFr W_61_1_15 m0 m2 := by rw [em2]; exact hF0.up rfl
  have km2_15_0 : m2 15 0 = f1 := by rw [em2, zUp_ne (by omega)]; exact ef1
  have km2_1_0 : m2 1 0 = f1 := by rw [em2]; exact zUp_eq _ _ _ _
  clear em2
  refine zw_7 zr_61_8 rfl ?_
  refine zw_7 zr_61_9 rfl ?_
  obtain ⟨f3, ef3⟩ : ∃ v, m2 15 1 = v := ⟨_, rfl⟩
  have bf3 := ib_15_1 hIm2
  rw [ef3] at bf3
  refine zw_46i zr_61_10 ef3 rfl rfl rfl ?_
  refine zw_47 (c := 1) zr_61_13 rfl ⟨rfl, by decide, rfl⟩ ?_
  intro m4 em4
  have hIm4 : zInv m4 := by rw [em4]; exact hIm2.bd (r := 1) (k := 1) (lo := 0) (hi := 60) rfl (by omega) (by decide) (by decide) (by decide)
  have hFm4 : zFr W_61_1_15 m0 m4 := by rw [em4]; exact hFm2.up rfl
  have km4_15_0 : m4 15 0 = f1 := by rw [em4, zUp_ne (by omega)]; exact km2_15_0
  have km4_1_0 : m4 1 0 = f1 := by rw [em4, zUp_ne (by omega)]; exact km2_1_0
  have km4_15_1 : m4 15 1 = f3 := by rw [em4, zUp_ne (by omega)]; exact ef3
  have km4_1_1 : m4 1 1 = f3 := by rw [em4]; exact zUp_eq _ _ _ _
  clear em4
  refine zw_7 zr_61_16 rfl ?_
  refine zw_7 zr_61_17 rfl ?_
  obtain ⟨f5, ef5⟩ : ∃ v, m4 15 2 = v := ⟨_, rfl⟩
  have bf5 := hIm4.fl (c := 15) (k := 2) rfl
  rw [ef5] at bf5
  refine zw_46l zr_61_18 ef5 rfl rfl rfl ?_
  refine zw_47 (c := 1) zr_61_21 rfl ⟨rfl, by decide, rfl⟩ ?_
  intro m6 em6
  have hIm6 : zInv m6 := by rw [em6]; exact hIm4.anyl (by omega) (by decide) rfl (by decide) (by decide)
  have hFm6 : zFr W_61_1_15 m0 m6 := by rw [em6]; exact hFm4.up rfl
  have km6_15_0 : m6 15 0 = f1 := by rw [em6, zUp_ne (by omega)]; exact km4_15_0
  have km6_1_0 : m6 1 0 = f1 := by rw [em6, zUp_ne (by omega)]; exact km4_1_0
  have km6_15_1 : m6 15 1 = f3 := by rw [em6, zUp_ne (by omega)]; exact km4_15_1
  have km6_1_1 : m6 1 1 = f3 := by rw [em6, zUp_ne (by omega)]; exact km4_1_1
  have km6_15_2 : m6 15 2 = f5 := by rw [em6, zUp_ne (by omega)]; exact ef5
  have km6_1_2 : m6 1 2 = f5 := by rw [em6]; exact zUp_eq _ _ _ _
  clear em6
  refine zw_7 zr_61_24 rfl ?_
  refine zw_7 zr_61_25 rfl ?_
  obtain ⟨f7, ef7⟩ : ∃ v, m6 15 3 = v := ⟨_, rfl⟩
  have bf7 := hIm6.fl (c := 15) (k := 3) rfl
  rw [ef7] at bf7
  refine zw_46l zr_61_26 ef7 rfl rfl rfl ?_
  refine zw_47 (c := 1) zr_61_29 rfl ⟨rfl, by decide, rfl⟩ ?_
  intro m8 em8
  have hIm8 : zInv m8 := by rw [em8]; exact hIm6.anyl (by omega) (by decide) rfl (by decide) (by decide)
  have hFm8 : zFr W_61_1_15 m0 m8 := by rw [em8]; exact hFm6.up rfl
  have km8_15_0 : m8 15 0 = f1 := by rw [em8, zUp_ne (by omega)]; exact km6_15_0
  have km8_1_0 : m8 1 0 = f1 := by rw [em8, zUp_ne (by omega)]; exact km6_1_0
  have km8_15_1 : m8 15 1 = f3 := by rw [em8, zUp_ne (by omega)]; exact km6_15_1
  have km8_1_1 : m8 1 1 = f3 := by rw [em8, zUp_ne (by omega)]; exact km6_1_1
  have km8_15_2 : m8 15 2 = f5 := by rw [em8, zUp_ne (by omega)]; exact km6_15_2
  have km8_1_2 : m8 1 2 = f5 := by rw [em8, zUp_ne (by omega)]; exact km6_1_2
  have km8_15_3 : m8 15 3 = f7 := by rw [em8, zUp_ne (by omega)]; exact ef7
  have km8_1_3 : m8 1 3 = f7 := by rw [em8]; exact zUp_eq _ _ _ _
  clear em8
  refine zw_7 zr_61_32 rfl ?_
  refine zw_7 zr_61_33 rfl ?_
  obtain ⟨f9, ef9⟩ : ∃ v, m8 15 4 = v := ⟨_, rfl⟩
  have bf9 := ib_15_4 hIm8
  rw [ef9] at bf9
  refine zw_46i zr_61_34 ef9 rfl rfl rfl ?_
  refine zw_47 (c := 1) zr_61_37 rfl ⟨rfl, by decide, rfl⟩ ?_
  intro m10 em10
  have hIm10 : zInv m10 := by rw [em10]; exact hIm8.bd (r := 1) (k := 4) (lo := 1) (hi := 1000) rfl (by omega) (by decide) (by decide) (by decide)
  have hFm10 : zFr W_61_1_15 m0 m10 := by rw [em10]; exact hFm8.up rfl
  have km10_15_0 : m10 15 0 = f1 := by rw [em10, zUp_ne (by omega)]; exact km8_15_0
  have km10_1_0 : m10 1 0 = f1 := by rw [em10, zUp_ne (by omega)]; exact km8_1_0
  have km10_15_1 : m10 15 1 = f3 := by rw [em10, zUp_ne (by omega)]; exact km8_15_1
  have km10_1_1 : m10 1 1 = f3 := by rw [em10, zUp_ne (by omega)]; exact km8_1_1
  have km10_15_2 : m10 15 2 = f5 := by rw [em10, zUp_ne (by omega)]; exact km8_15_2
  have km10_1_2 : m10 1 2 = f5 := by rw [em10, zUp_ne (by omega)]; exact km8_1_2
  have km10_15_3 : m10 15 3 = f7 := by rw [em10, zUp_ne (by omega)]; exact km8_15_3
  have km10_1_3 : m10 1 3 = f7 := by rw [em10, zUp_ne (by omega)]; exact km8_1_3
  have km10_15_4 : m10 15 4 = f9 := by rw [em10, zUp_ne (by omega)]; exact ef9
  have km10_1_4 : m10 1 4 = f9 := by rw [em10]; exact zUp_eq _ _ _ _
  clear em10
  refine zw_7 zr_61_40 rfl ?_
  refine zw_7 zr_61_41 rfl ?_
  obtain ⟨f11, ef11⟩ : ∃ v, m10 15 5 = v := ⟨_, rfl⟩
  have bf11 := ib_15_5 hIm10
  rw [ef11] at bf11
  refine zw_46i zr_61_42 ef11 rfl rfl rfl ?_
  refine zw_47 (c := 1) zr_61_45 rfl ⟨rfl, by decide, rfl⟩ ?_
  intro m12 em12
  have hIm12 : zInv m12 := by rw [em12]; exact hIm10.bd (r := 1) (k := 5) (lo := 0) (hi := 500) rfl (by omega) (by decide) (by decide) (by decide)
  have hFm12 : zFr W_61_1_15 m0 m12 := by rw [em12]; exact hFm10.up rfl
  have km12_15_0 : m12 15 0 = f1 := by rw [em12, zUp_ne (by omega)]; exact km10_15_0
  have km12_1_0 : m12 1 0 = f1 := by rw [em12, zUp_ne (by omega)]; exact km10_1_0
  have km12_15_1 : m12 15 1 = f3 := by rw [em12, zUp_ne (by omega)]; exact km10_15_1
  have km12_1_1 : m12 1 1 = f3 := by rw [em12, zUp_ne (by omega)]; exact km10_1_1
  have km12_15_2 : m12 15 2 = f5 := by rw [em12, zUp_ne (by omega)]; exact km10_15_2
  have km12_1_2 : m12 1 2 = f5 := by rw [em12, zUp_ne (by omega)]; exact km10_1_2
  have km12_15_3 : m12 15 3 = f7 := by rw [em12, zUp_ne (by omega)]; exact km10_15_3
  have km12_1_3 : m12 1 3 = f7 := by rw [em12, zUp_ne (by omega)]; exact km10_1_3
  have km12_15_4 : m12 15 4 = f9 := by rw [em12, zUp_ne (by omega)]; exact km10_15_4
  have km12_1_4 : m12 1 4 = f9 := by rw [em12, zUp_ne (by omega)]; exact km10_1_4
  have km12_15_5 : m12 15 5 = f11 := by rw [em12, zUp_ne (by omega)]; exact ef11
  have km12_1_5 : m12 1 5 = f11 := by rw [em12]; exact zUp_eq _ _ _ _
  clear em12
  refine zw_7 zr_61_48 rfl ?_
  refine zw_46r (s := 16) zr_61_49 rfl rfl rfl rfl ?_
  refine zw_push zr_61_52 ?_
  refine zw_7 zr_61_53 rfl ?_
  refine zw_46r (s := 2) zr_61_54 rfl rfl rfl rfl ?_
  refine zw_push zr_61_57 ?_
  refine zw_push zr_61_58 ?_
  refine zw_114 (c1 := 2) (c2 := 16) (l1 := 10) (l2 := 10) zr_61_60 rfl rfl rfl rfl (by decide) (Nat.le_of_ble_eq_true rfl) (by omega) (by omega) ?_
  intro m13 em13
  have hIm13 : zInv m13 := by rw [em13]; exact zInv.cpS hIm12 (l2 := 10) (fun _ => rfl) rfl (by decide) (by decide) (by decide)
  have hFm13 : zFr W_61_1_15 m0 m13 := by rw [em13]; exact hFm12.cp rfl
  have km13_15_0 : m13 15 0 = f1 := by rw [em13, zCp_ne (by decide)]; exact km12_15_0
  have km13_1_0 : m13 1 0 = f1 := by rw [em13, zCp_ne (by decide)]; exact km12_1_0
  have km13_15_1 : m13 15 1 = f3 := by rw [em13, zCp_ne (by decide)]; exact km12_15_1
  have km13_1_1 : m13 1 1 = f3 := by rw [em13, zCp_ne (by decide)]; exact km12_1_1
  have km13_15_2 : m13 15 2 = f5 := by rw [em13, zCp_ne (by decide)]; exact km12_15_2
  have km13_1_2 : m13 1 2 = f5 := by rw [em13, zCp_ne (by decide)]; exact km12_1_2
  have km13_15_3 : m13 15 3 = f7 := by rw [em13, zCp_ne (by decide)]; exact km12_15_3
  have km13_1_3 : m13 1 3 = f7 := by rw [em13, zCp_ne (by decide)]; exact km12_1_3
  have km13_15_4 : m13 15 4 = f9 := by rw [em13, zCp_ne (by decide)]; exact km12_15_4
  have km13_1_4 : m13 1 4 = f9 := by rw [em13, zCp_ne (by decide)]; exact km12_1_4
  have km13_15_5 : m13 15 5 = f11 := by rw [em13, zCp_ne (by decide)]; exact km12_15_5
  have km13_1_5 : m13 1 5 = f11 := by rw [em13, zCp_ne (by decide)]; exact km12_1_5
  clear em13
  refine zw_7 zr_61_63 rfl ?_
  refine zw_46r (s := 17) zr_61_64 rfl rfl rfl rfl ?_
  refine zw_push zr_61_67 ?_
  refine zw_7 zr_61_68 rfl ?_
  refine zw_46r (s := 3) zr_61_69 rfl rfl rfl rfl ?_
  refine zw_push zr_61_72 ?_
  refine zw_push zr_61_73 ?_
  refine zw_114 (c1 := 3) (c2 := 17) (l1 := 40) (l2 := 40) zr_61_75 rfl rfl rfl rfl (by decide) (Nat.le_of_ble_eq_true rfl) (by omega) (by omega) ?_
  intro m14 em14
  have hIm14 : zInv m14 := by rw [em14]; exact zInv.cpS hIm13 (l2 := 40) (fun _ => rfl) rfl (by decide) (by decide) (by decide)
  have hFm14 : zFr W_61_1_15 m0 m14 := by rw [em14]; exact hFm13.cp rfl
  have km14_15_0 : m14 15 0 = f1 := by rw [em14, zCp_ne (by decide)]; exact km13_15_0
  have km14_1_0 : m14 1 0 = f1 := by rw [em14, zCp_ne (by decide)]; exact km13_1_0
  have km14_15_1 : m14 15 1 = f3 := by rw [em14, zCp_ne (by decide)]; exact km13_15_1
  have km14_1_1 : m14 1 1 = f3 := by rw [em14, zCp_ne (by decide)]; exact km13_1_1
  have km14_15_2 : m14 15 2 = f5 := by rw [em14, zCp_ne (by decide)]; exact km13_15_2
  have km14_1_2 : m14 1 2 = f5 := by rw [em14, zCp_ne (by decide)]; exact km13_1_2
  have km14_15_3 : m14 15 3 = f7 := by rw [em14, zCp_ne (by decide)]; exact km13_15_3
  have km14_1_3 : m14 1 3 = f7 := by rw [em14, zCp_ne (by decide)]; exact km13_1_3
  have km14_15_4 : m14 15 4 = f9 := by rw [em14, zCp_ne (by decide)]; exact km13_15_4
  have km14_1_4 : m14 1 4 = f9 := by rw [em14, zCp_ne (by decide)]; exact km13_1_4
  have km14_15_5 : m14 15 5 = f11 := by rw [em14, zCp_ne (by decide)]; exact km13_15_5
  have km14_1_5 : m14 1 5 = f11 := by rw [em14, zCp_ne (by decide)]; exact km13_1_5
  clear em14
  refine zw_7 zr_61_78 rfl ?_
  refine zw_46r (s := 18) zr_61_79 rfl rfl rfl rfl ?_
  refine zw_push zr_61_82 ?_
  refine zw_7 zr_61_83 rfl ?_
  refine zw_46r (s := 4) zr_61_84 rfl rfl rfl rfl ?_
  refine zw_push zr_61_87 ?_
  refine zw_push zr_61_88 ?_
  refine zw_114 (c1 := 4) (c2 := 18) (l1 := 40) (l2 := 40) zr_61_90 rfl rfl rfl rfl (by decide) (Nat.le_of_ble_eq_true rfl) (by omega) (by omega) ?_
  intro m15 em15
  have hIm15 : zInv m15 := by rw [em15]; exact zInv.cpS hIm14 (l2 := 40) (fun _ => rfl) rfl (by decide) (by decide) (by decide)
  have hFm15 : zFr W_61_1_15 m0 m15 := by rw [em15]; exact hFm14.cp rfl
  have km15_15_0 : m15 15 0 = f1 := by rw [em15, zCp_ne (by decide)]; exact km14_15_0
  have km15_1_0 : m15 1 0 = f1 := by rw [em15, zCp_ne (by decide)]; exact km14_1_0
  have km15_15_1 : m15 15 1 = f3 := by rw [em15, zCp_ne (by decide)]; exact km14_15_1
  have km15_1_1 : m15 1 1 = f3 := by rw [em15, zCp_ne (by decide)]; exact km14_1_1
  have km15_15_2 : m15 15 2 = f5 := by rw [em15, zCp_ne (by decide)]; exact km14_15_2
  have km15_1_2 : m15 1 2 = f5 := by rw [em15, zCp_ne (by decide)]; exact km14_1_2
  have km15_15_3 : m15 15 3 = f7 := by rw [em15, zCp_ne (by decide)]; exact km14_15_3
  have km15_1_3 : m15 1 3 = f7 := by rw [em15, zCp_ne (by decide)]; exact km14_1_3
  have km15_15_4 : m15 15 4 = f9 := by rw [em15, zCp_ne (by decide)]; exact km14_15_4
  have km15_1_4 : m15 1 4 = f9 := by rw [em15, zCp_ne (by decide)]; exact km14_1_4
  have km15_15_5 : m15 15 5 = f11 := by rw [em15, zCp_ne (by decide)]; exact km14_15_5
  have km15_1_5 : m15 1 5 = f11 := by rw [em15, zCp_ne (by decide)]; exact km14_1_5
  clear em15
  refine zw_7 zr_61_93 rfl ?_
  refine zw_46r (s := 19) zr_61_94 rfl rfl rfl rfl ?_
  refine zw_push zr_61_97 ?_
  refine zw_7 zr_61_98 rfl ?_
  refine zw_46r (s := 5) zr_61_99 rfl rfl rfl rfl ?_
  refine zw_push zr_61_102 ?_
  refine zw_push zr_61_103 ?_
  refine zw_114 (c1 := 5) (c2 := 19) (l1 := 60) (l2 := 60) zr_61_105 rfl rfl rfl rfl (by decide) (Nat.le_of_ble_eq_true rfl) (by omega) (by omega) ?_
  intro m16 em16
  have hIm16 : zInv m16 := by rw [em16]; exact zInv.cpS hIm15 (l2 := 60) (fun _ => rfl) rfl (by decide) (by decide) (by decide)
  have hFm16 : zFr W_61_1_15 m0 m16 := by rw [em16]; exact hFm15.cp rfl
  have km16_15_0 : m16 15 0 = f1 := by rw [em16, zCp_ne (by decide)]; exact km15_15_0
  have km16_1_0 : m16 1 0 = f1 := by rw [em16, zCp_ne (by decide)]; exact km15_1_0
  have km16_15_1 : m16 15 1 = f3 := by rw [em16, zCp_ne (by decide)]; exact km15_15_1
  have km16_1_1 : m16 1 1 = f3 := by rw [em16, zCp_ne (by decide)]; exact km15_1_1
  have km16_15_2 : m16 15 2 = f5 := by rw [em16, zCp_ne (by decide)]; exact km15_15_2
  have km16_1_2 : m16 1 2 = f5 := by rw [em16, zCp_ne (by decide)]; exact km15_1_2
  have km16_15_3 : m16 15 3 = f7 := by rw [em16, zCp_ne (by decide)]; exact km15_15_3
  have km16_1_3 : m16 1 3 = f7 := by rw [em16, zCp_ne (by decide)]; exact km15_1_3
  have km16_15_4 : m16 15 4 = f9 := by rw [em16, zCp_ne (by decide)]; exact km15_15_4
  have km16_1_4 : m16 1 4 = f9 := by rw [em16, zCp_ne (by decide)]; exact km15_1_4
  have km16_15_5 : m16 15 5 = f11 := by rw [em16, zCp_ne (by decide)]; exact km15_15_5
  have km16_1_5 : m16 1 5 = f11 := by rw [em16, zCp_ne (by decide)]; exact km15_1_5
  clear em16
  refine zw_7 zr_61_108 rfl ?_
  refine zw_46r (s := 20) zr_61_109 rfl rfl rfl rfl ?_
  refine zw_push zr_61_112 ?_
  refine zw_7 zr_61_113 rfl ?_
  refine zw_46r (s := 6) zr_61_114 rfl rfl rfl rfl ?_
  refine zw_push zr_61_117 ?_
  refine zw_push zr_61_118 ?_
  refine zw_114 (c1 := 6) (c2 := 20) (l1 := 60) (l2 := 60) zr_61_120 rfl rfl rfl rfl (by decide) (Nat.le_of_ble_eq_true rfl) (by omega) (by omega) ?_
  intro m17 em17
  have hIm17 : zInv m17 := by rw [em17]; exact zInv.cpS hIm16 (l2 := 60) (fun _ => rfl) rfl (by decide) (by decide) (by decide)
  have hFm17 : zFr W_61_1_15 m0 m17 := by rw [em17]; exact hFm16.cp rfl
  have km17_15_0 : m17 15 0 = f1 := by rw [em17, zCp_ne (by decide)]; exact km16_15_0
  have km17_1_0 : m17 1 0 = f1 := by rw [em17, zCp_ne (by decide)]; exact km16_1_0
  have km17_15_1 : m17 15 1 = f3 := by rw [em17, zCp_ne (by decide)]; exact km16_15_1
  have km17_1_1 : m17 1 1 = f3 := by rw [em17, zCp_ne (by decide)]; exact km16_1_1
  have km17_15_2 : m17 15 2 = f5 := by rw [em17, zCp_ne (by decide)]; exact km16_15_2
  have km17_1_2 : m17 1 2 = f5 := by rw [em17, zCp_ne (by decide)]; exact km16_1_2
  have km17_15_3 : m17 15 3 = f7 := by rw [em17, zCp_ne (by decide)]; exact km16_15_3
  have km17_1_3 : m17 1 3 = f7 := by rw [em17, zCp_ne (by decide)]; exact km16_1_3
  have km17_15_4 : m17 15 4 = f9 := by rw [em17, zCp_ne (by decide)]; exact km16_15_4
  have km17_1_4 : m17 1 4 = f9 := by rw [em17, zCp_ne (by decide)]; exact km16_1_4
  have km17_15_5 : m17 15 5 = f11 := by rw [em17, zCp_ne (by decide)]; exact km16_15_5
  have km17_1_5 : m17 1 5 = f11 := by rw [em17, zCp_ne (by decide)]; exact km16_1_5
  clear em17
  refine zw_7 zr_61_123 rfl ?_
  refine zw_46r (s := 21) zr_61_124 rfl rfl rfl rfl ?_
  refine zw_push zr_61_127 ?_
  refine zw_7 zr_61_128 rfl ?_
  refine zw_46r (s := 7) zr_61_129 rfl rfl rfl rfl ?_
  refine zw_push zr_61_132 ?_
  refine zw_push zr_61_133 ?_
  refine zw_114 (c1 := 7) (c2 := 21) (l1 := 60) (l2 := 60) zr_61_135 rfl rfl rfl rfl (by decide) (Nat.le_of_ble_eq_true rfl) (by omega) (by omega) ?_
  intro m18 em18
  have hIm18 : zInv m18 := by rw [em18]; exact zInv.cpS hIm17 (l2 := 60) (fun _ => rfl) rfl (by decide) (by decide) (by decide)
  have hFm18 : zFr W_61_1_15 m0 m18 := by rw [em18]; exact hFm17.cp rfl
  have km18_15_0 : m18 15 0 = f1 := by rw [em18, zCp_ne (by decide)]; exact km17_15_0
  have km18_1_0 : m18 1 0 = f1 := by rw [em18, zCp_ne (by decide)]; exact km17_1_0
  have km18_15_1 : m18 15 1 = f3 := by rw [em18, zCp_ne (by decide)]; exact km17_15_1
  have km18_1_1 : m18 1 1 = f3 := by rw [em18, zCp_ne (by decide)]; exact km17_1_1
  have km18_15_2 : m18 15 2 = f5 := by rw [em18, zCp_ne (by decide)]; exact km17_15_2
  have km18_1_2 : m18 1 2 = f5 := by rw [em18, zCp_ne (by decide)]; exact km17_1_2
  have km18_15_3 : m18 15 3 = f7 := by rw [em18, zCp_ne (by decide)]; exact km17_15_3
  have km18_1_3 : m18 1 3 = f7 := by rw [em18, zCp_ne (by decide)]; exact km17_1_3
  have km18_15_4 : m18 15 4 = f9 := by rw [em18, zCp_ne (by decide)]; exact km17_15_4
  have km18_1_4 : m18 1 4 = f9 := by rw [em18, zCp_ne (by decide)]; exact km17_1_4
  have km18_15_5 : m18 15 5 = f11 := by rw [em18, zCp_ne (by decide)]; exact km17_15_5
  have km18_1_5 : m18 1 5 = f11 := by rw [em18, zCp_ne (by decide)]; exact km17_1_5
  clear em18
  refine zw_7 zr_61_138 rfl ?_
  refine zw_46r (s := 22) zr_61_139 rfl rfl rfl rfl ?_
  refine zw_push zr_61_142 ?_
  refine zw_7 zr_61_143 rfl ?_
  refine zw_46r (s := 8) zr_61_144 rfl rfl rfl rfl ?_
  refine zw_push zr_61_147 ?_
  refine zw_push zr_61_148 ?_
  refine zw_114 (c1 := 8) (c2 := 22) (l1 := 60) (l2 := 60) zr_61_150 rfl rfl rfl rfl (by decide) (Nat.le_of_ble_eq_true rfl) (by omega) (by omega) ?_
  intro m19 em19
  have hIm19 : zInv m19 := by rw [em19]; exact zInv.cpS hIm18 (l2 := 60) (fun _ => rfl) rfl (by decide) (by decide) (by decide)
  have hFm19 : zFr W_61_1_15 m0 m19 := by rw [em19]; exact hFm18.cp rfl
  have km19_15_0 : m19 15 0 = f1 := by rw [em19, zCp_ne (by decide)]; exact km18_15_0
  have km19_1_0 : m19 1 0 = f1 := by rw [em19, zCp_ne (by decide)]; exact km18_1_0
  have km19_15_1 : m19 15 1 = f3 := by rw [em19, zCp_ne (by decide)]; exact km18_15_1
  have km19_1_1 : m19 1 1 = f3 := by rw [em19, zCp_ne (by decide)]; exact km18_1_1
  have km19_15_2 : m19 15 2 = f5 := by rw [em19, zCp_ne (by decide)]; exact km18_15_2
  have km19_1_2 : m19 1 2 = f5 := by rw [em19, zCp_ne (by decide)]; exact km18_1_2
  have km19_15_3 : m19 15 3 = f7 := by rw [em19, zCp_ne (by decide)]; exact km18_15_3
  have km19_1_3 : m19 1 3 = f7 := by rw [em19, zCp_ne (by decide)]; exact km18_1_3
  have km19_15_4 : m19 15 4 = f9 := by rw [em19, zCp_ne (by decide)]; exact km18_15_4
  have km19_1_4 : m19 1 4 = f9 := by rw [em19, zCp_ne (by decide)]; exact km18_1_4
  have km19_15_5 : m19 15 5 = f11 := by rw [em19, zCp_ne (by decide)]; exact km18_15_5
  have km19_1_5 : m19 1 5 = f11 := by rw [em19, zCp_ne (by decide)]; exact km18_1_5
  clear em19
  refine zw_7 zr_61_153 rfl ?_
  refine zw_46r (s := 23) zr_61_154 rfl rfl rfl rfl ?_
  refine zw_push zr_61_157 ?_
  refine zw_7 zr_61_158 rfl ?_
  refine zw_46r (s := 9) zr_61_159 rfl rfl rfl rfl ?_
  refine zw_push zr_61_162 ?_
  refine zw_push zr_61_163 ?_
  refine zw_114 (c1 := 9) (c2 := 23) (l1 := 4) (l2 := 4) zr_61_164 rfl rfl rfl rfl (by decide) (Nat.le_of_ble_eq_true rfl) (by omega) (by omega) ?_
  intro m20 em20
  have hIm20 : zInv m20 := by rw [em20]; exact zInv.cpS hIm19 (l2 := 4) (fun _ => rfl) rfl (by decide) (by decide) (by decide)
  have hFm20 : zFr W_61_1_15 m0 m20 := by rw [em20]; exact hFm19.cp rfl
  have km20_15_0 : m20 15 0 = f1 := by rw [em20, zCp_ne (by decide)]; exact km19_15_0
  have km20_1_0 : m20 1 0 = f1 := by rw [em20, zCp_ne (by decide)]; exact km19_1_0
  have km20_15_1 : m20 15 1 = f3 := by rw [em20, zCp_ne (by decide)]; exact km19_15_1
  have km20_1_1 : m20 1 1 = f3 := by rw [em20, zCp_ne (by decide)]; exact km19_1_1
  have km20_15_2 : m20 15 2 = f5 := by rw [em20, zCp_ne (by decide)]; exact km19_15_2
  have km20_1_2 : m20 1 2 = f5 := by rw [em20, zCp_ne (by decide)]; exact km19_1_2
  have km20_15_3 : m20 15 3 = f7 := by rw [em20, zCp_ne (by decide)]; exact km19_15_3
  have km20_1_3 : m20 1 3 = f7 := by rw [em20, zCp_ne (by decide)]; exact km19_1_3
  have km20_15_4 : m20 15 4 = f9 := by rw [em20, zCp_ne (by decide)]; exact km19_15_4
  have km20_1_4 : m20 1 4 = f9 := by rw [em20, zCp_ne (by decide)]; exact km19_1_4
  have km20_15_5 : m20 15 5 = f11 := by rw [em20, zCp_ne (by decide)]; exact km19_15_5
  have km20_1_5 : m20 1 5 = f11 := by rw [em20, zCp_ne (by decide)]; exact km19_1_5
  clear em20
  refine zw_7 zr_61_167 rfl ?_
  refine zw_46r (s := 24) zr_61_168 rfl rfl rfl rfl ?_
  refine zw_push zr_61_171 ?_
  refine zw_7 zr_61_172 rfl ?_
  refine zw_46r (s := 10) zr_61_173 rfl rfl rfl rfl ?_
  refine zw_push zr_61_176 ?_
  refine zw_push zr_61_177 ?_
  refine zw_114 (c1 := 10) (c2 := 24) (l1 := 4) (l2 := 4) zr_61_178 rfl rfl rfl rfl (by decide) (Nat.le_of_ble_eq_true rfl) (by omega) (by omega) ?_
  intro m21 em21
  have hIm21 : zInv m21 := by rw [em21]; exact zInv.cpS hIm20 (l2 := 4) (fun _ => rfl) rfl (by decide) (by decide) (by decide)
  have hFm21 : zFr W_61_1_15 m0 m21 := by rw [em21]; exact hFm20.cp rfl
  have km21_15_0 : m21 15 0 = f1 := by rw [em21, zCp_ne (by decide)]; exact km20_15_0
  have km21_1_0 : m21 1 0 = f1 := by rw [em21, zCp_ne (by decide)]; exact km20_1_0
  have km21_15_1 : m21 15 1 = f3 := by rw [em21, zCp_ne (by decide)]; exact km20_15_1
  have km21_1_1 : m21 1 1 = f3 := by rw [em21, zCp_ne (by decide)]; exact km20_1_1
  have km21_15_2 : m21 15 2 = f5 := by rw [em21, zCp_ne (by decide)]; exact km20_15_2
  have km21_1_2 : m21 1 2 = f5 := by rw [em21, zCp_ne (by decide)]; exact km20_1_2
  have km21_15_3 : m21 15 3 = f7 := by rw [em21, zCp_ne (by decide)]; exact km20_15_3
  have km21_1_3 : m21 1 3 = f7 := by rw [em21, zCp_ne (by decide)]; exact km20_1_3
  have km21_15_4 : m21 15 4 = f9 := by rw [em21, zCp_ne (by decide)]; exact km20_15_4
  have km21_1_4 : m21 1 4 = f9 := by rw [em21, zCp_ne (by decide)]; exact km20_1_4
  have km21_15_5 : m21 15 5 = f11 := by rw [em21, zCp_ne (by decide)]; exact km20_15_5
  have km21_1_5 : m21 1 5 = f11 := by rw [em21, zCp_ne (by decide)]; exact km20_1_5
  clear em21
  refine zw_7 zr_61_181 rfl ?_
  refine zw_46r (s := 25) zr_61_182 rfl rfl rfl rfl ?_
  refine zw_push zr_61_185 ?_
  refine zw_7 zr_61_186 rfl ?_
  refine zw_46r (s := 11) zr_61_187 rfl rfl rfl rfl ?_
  refine zw_push zr_61_190 ?_
  refine zw_push zr_61_191 ?_
  refine zw_114 (c1 := 11) (c2 := 25) (l1 := 200) (l2 := 200) zr_61_194 rfl rfl rfl rfl (by decide) (Nat.le_of_ble_eq_true rfl) (by omega) (by omega) ?_
  intro m22 em22
  have hIm22 : zInv m22 := by rw [em22]; exact zInv.cpS hIm21 (l2 := 200) (fun _ => rfl) rfl (by decide) (by decide) (by decide)
  have hFm22 : zFr W_61_1_15 m0 m22 := by rw [em22]; exact hFm21.cp rfl
  have km22_15_0 : m22 15 0 = f1 := by rw [em22, zCp_ne (by decide)]; exact km21_15_0
  have km22_1_0 : m22 1 0 = f1 := by rw [em22, zCp_ne (by decide)]; exact km21_1_0
  have km22_15_1 : m22 15 1 = f3 := by rw [em22, zCp_ne (by decide)]; exact km21_15_1
  have km22_1_1 : m22 1 1 = f3 := by rw [em22, zCp_ne (by decide)]; exact km21_1_1
  have km22_15_2 : m22 15 2 = f5 := by rw [em22, zCp_ne (by decide)]; exact km21_15_2
  have km22_1_2 : m22 1 2 = f5 := by rw [em22, zCp_ne (by decide)]; exact km21_1_2
  have km22_15_3 : m22 15 3 = f7 := by rw [em22, zCp_ne (by decide)]; exact km21_15_3
  have km22_1_3 : m22 1 3 = f7 := by rw [em22, zCp_ne (by decide)]; exact km21_1_3
  have km22_15_4 : m22 15 4 = f9 := by rw [em22, zCp_ne (by decide)]; exact km21_15_4
  have km22_1_4 : m22 1 4 = f9 := by rw [em22, zCp_ne (by decide)]; exact km21_1_4
  have km22_15_5 : m22 15 5 = f11 := by rw [em22, zCp_ne (by decide)]; exact km21_15_5
  have km22_1_5 : m22 1 5 = f11 := by rw [em22, zCp_ne (by decide)]; exact km21_1_5
  clear em22
  refine zw_7 zr_61_197 rfl ?_
  refine zw_46r (s := 26) zr_61_198 rfl rfl rfl rfl ?_
  refine zw_push zr_61_201 ?_
  refine zw_7 zr_61_202 rfl ?_
  refine zw_46r (s := 12) zr_61_203 rfl rfl rfl rfl ?_
  refine zw_push zr_61_206 ?_
  refine zw_push zr_61_207 ?_
  refine zw_114 (c1 := 12) (c2 := 26) (l1 := 160) (l2 := 160) zr_61_210 rfl rfl rfl rfl (by decide) (Nat.le_of_ble_eq_true rfl) (by omega) (by omega) ?_
  intro m23 em23
  have hIm23 : zInv m23 := by rw [em23]; exact zInv.cpS hIm22 (l2 := 160) (fun _ => rfl) rfl (by decide) (by decide) (by decide)
  have hFm23 : zFr W_61_1_15 m0 m23 := by rw [em23]; exact hFm22.cp rfl
  have km23_15_0 : m23 15 0 = f1 := by rw [em23, zCp_ne (by decide)]; exact km22_15_0
  have km23_1_0 : m23 1 0 = f1 := by rw [em23, zCp_ne (by decide)]; exact km22_1_0
  have km23_15_1 : m23 15 1 = f3 := by rw [em23, zCp_ne (by decide)]; exact km22_15_1
  have km23_1_1 : m23 1 1 = f3 := by rw [em23, zCp_ne (by decide)]; exact km22_1_1
  have km23_15_2 : m23 15 2 = f5 := by rw [em23, zCp_ne (by decide)]; exact km22_15_2
  have km23_1_2 : m23 1 2 = f5 := by rw [em23, zCp_ne (by decide)]; exact km22_1_2
  have km23_15_3 : m23 15 3 = f7 := by rw [em23, zCp_ne (by decide)]; exact km22_15_3
  have km23_1_3 : m23 1 3 = f7 := by rw [em23, zCp_ne (by decide)]; exact km22_1_3
  have km23_15_4 : m23 15 4 = f9 := by rw [em23, zCp_ne (by decide)]; exact km22_15_4
  have km23_1_4 : m23 1 4 = f9 := by rw [em23, zCp_ne (by decide)]; exact km22_1_4
  have km23_15_5 : m23 15 5 = f11 := by rw [em23, zCp_ne (by decide)]; exact km22_15_5
  have km23_1_5 : m23 1 5 = f11 := by rw [em23, zCp_ne (by decide)]; exact km22_1_5
  clear em23
  refine zw_7 zr_61_213 rfl ?_
  refine zw_46r (s := 27) zr_61_214 rfl rfl rfl rfl ?_
  refine zw_push zr_61_217 ?_
  refine zw_7 zr_61_218 rfl ?_
  refine zw_46r (s := 13) zr_61_219 rfl rfl rfl rfl ?_
  refine zw_push zr_61_222 ?_
  refine zw_push zr_61_223 ?_
  refine zw_114 (c1 := 13) (c2 := 27) (l1 := 4) (l2 := 4) zr_61_224 rfl rfl rfl rfl (by decide) (Nat.le_of_ble_eq_true rfl) (by omega) (by omega) ?_
  intro m24 em24
  have hIm24 : zInv m24 := by rw [em24]; exact zInv.cpS hIm23 (l2 := 4) (fun _ => rfl) rfl (by decide) (by decide) (by decide)
  have hFm24 : zFr W_61_1_15 m0 m24 := by rw [em24]; exact hFm23.cp rfl
  have km24_15_0 : m24 15 0 = f1 := by rw [em24, zCp_ne (by decide)]; exact km23_15_0
  have km24_1_0 : m24 1 0 = f1 := by rw [em24, zCp_ne (by decide)]; exact km23_1_0
  have km24_15_1 : m24 15 1 = f3 := by rw [em24, zCp_ne (by decide)]; exact km23_15_1
  have km24_1_1 : m24 1 1 = f3 := by rw [em24, zCp_ne (by decide)]; exact km23_1_1
  have km24_15_2 : m24 15 2 = f5 := by rw [em24, zCp_ne (by decide)]; exact km23_15_2
  have km24_1_2 : m24 1 2 = f5 := by rw [em24, zCp_ne (by decide)]; exact km23_1_2
  have km24_15_3 : m24 15 3 = f7 := by rw [em24, zCp_ne (by decide)]; exact km23_15_3
  have km24_1_3 : m24 1 3 = f7 := by rw [em24, zCp_ne (by decide)]; exact km23_1_3
  have km24_15_4 : m24 15 4 = f9 := by rw [em24, zCp_ne (by decide)]; exact km23_15_4
  have km24_1_4 : m24 1 4 = f9 := by rw [em24, zCp_ne (by decide)]; exact km23_1_4
  have km24_15_5 : m24 15 5 = f11 := by rw [em24, zCp_ne (by decide)]; exact km23_15_5
  have km24_1_5 : m24 1 5 = f11 := by rw [em24, zCp_ne (by decide)]; exact km23_1_5
  clear em24
  refine zw_R zr_61_227 (by decide) zm_61 (v := (9, 0)) rfl ?_
  rw [← hQ]; exact ⟨rfl, hIm24, hFm24⟩

abbrev W_61_1_28 : List (Nat × Nat) := [(1, 0), (1, 1), (1, 2), (1, 3), (1, 4), (1, 5), (2, 1000), (3, 1000), (4, 1000), (5, 1000), (6, 1000), (7, 1000), (8, 1000), (9, 1000), (10, 1000), (11, 1000), (12, 1000), (13, 1000)]
set_option maxHeartbeats 8000000 in
theorem th_61_1_28 {E : zE} {d : Nat} {m0 : zM} (hd : 1 ≤ d) (hI0 : zInv m0) : zC E d 61 [(2, 1), (2, 28)] m0 (fun v m' => v = (9, 0) ∧ zInv m' ∧ zFr W_61_1_28 m0 m') := by
  have hF0 : zFr W_61_1_28 m0 m0 := zFr.rfl
  generalize hQ : (fun (v : zV) (m' : zM) => v = (9, 0) ∧ zInv m' ∧ zFr W_61_1_28 m0 m') = Q
  show zW E d 61 0 [(2, 1), (2, 28)] [] m0 Q
  refine zw_7 zr_61_0 rfl ?_
  refine zw_7 zr_61_1 rfl ?_
  obtain ⟨f1, ef1⟩ : ∃ v, m0 28 0 = v := ⟨_, rfl⟩
  have bf1 := ib_28_0 hI0
  rw [ef1] at bf1
  refine zw_46i zr_61_2 ef1 rfl rfl rfl ?_
  refine zw_47 (c := 1) zr_61_5 rfl ⟨rfl, by decide, rfl⟩ ?_
  intro m2 em2
  have hIm2 : zInv m2 := by rw [em2]; exact hI0.bd (r := 1) (k := 0) (lo := 0) (hi := 10) rfl (by omega) (by decide) (by decide) (by decide)
  have hFm2 : zFr W_61_1_28 m0 m2 := by rw [em2]; exact hF0.up rfl
  have km2_28_0 : m2 28 0 = f1 := by rw [em2, zUp_ne (by omega)]; exact ef1
  have km2_1_0 : m2 1 0 = f1 := by rw [em2]; exact zUp_eq _ _ _ _
  clear em2
  refine zw_7 zr_61_8 rfl ?_
  refine zw_7 zr_61_9 rfl ?_
  obtain ⟨f3, ef3⟩ : ∃ v, m2 28 1 = v := ⟨_, rfl⟩
  have bf3 := ib_28_1 hIm2
  rw [ef3] at bf3
  refine zw_46i zr_61_10 ef3 rfl rfl rfl ?_
  refine zw_47 (c := 1) zr_61_13 rfl ⟨rfl, by decide, rfl⟩ ?_
  intro m4 em4
  have hIm4 : zInv m4 := by rw [em4]; exact hIm2.bd (r := 1) (k := 1) (lo := 0) (hi := 60) rfl (by omega) (by decide) (by decide) (by decide)
  have hFm4 : zFr W_61_1_28 m0 m4 := by rw [em4]; exact hFm2.up rfl
  have km4_28_0 : m4 28 0 = f1 := by rw [em4, zUp_ne (by omega)]; exact km2_28_0
  have km4_1_0 : m4 1 0 = f1 := by rw [em4, zUp_ne (by omega)]; exact km2_1_0
  have km4_28_1 : m4 28 1 = f3 := by rw [em4, zUp_ne (by omega)]; exact ef3
  have km4_1_1 : m4 1 1 = f3 := by rw [em4]; exact zUp_eq _ _ _ _
  clear em4
  refine zw_7 zr_61_16 rfl ?_
  refine zw_7 zr_61_17 rfl ?_
  obtain ⟨f5, ef5⟩ : ∃ v, m4 28 2 = v := ⟨_, rfl⟩
  have bf5 := hIm4.fl (c := 28) (k := 2) rfl
  rw [ef5] at bf5
  refine zw_46l zr_61_18 ef5 rfl rfl rfl ?_
  refine zw_47 (c := 1) zr_61_21 rfl ⟨rfl, by decide, rfl⟩ ?_
  intro m6 em6
  have hIm6 : zInv m6 := by rw [em6]; exact hIm4.anyl (by omega) (by decide) rfl (by decide) (by decide)
  have hFm6 : zFr W_61_1_28 m0 m6 := by rw [em6]; exact hFm4.up rfl
  have km6_28_0 : m6 28 0 = f1 := by rw [em6, zUp_ne (by omega)]; exact km4_28_0
  have km6_1_0 : m6 1 0 = f1 := by rw [em6, zUp_ne (by omega)]; exact km4_1_0
  have km6_28_1 : m6 28 1 = f3 := by rw [em6, zUp_ne (by omega)]; exact km4_28_1
  have km6_1_1 : m6 1 1 = f3 := by rw [em6, zUp_ne (by omega)]; exact km4_1_1
  have km6_28_2 : m6 28 2 = f5 := by rw [em6, zUp_ne (by omega)]; exact ef5
  have km6_1_2 : m6 1 2 = f5 := by rw [em6]; exact zUp_eq _ _ _ _
  clear em6
  refine zw_7 zr_61_24 rfl ?_
  refine zw_7 zr_61_25 rfl ?_
  obtain ⟨f7, ef7⟩ : ∃ v, m6 28 3 = v := ⟨_, rfl⟩
  have bf7 := hIm6.fl (c := 28) (k := 3) rfl
  rw [ef7] at bf7
  refine zw_46l zr_61_26 ef7 rfl rfl rfl ?_
  refine zw_47 (c := 1) zr_61_29 rfl ⟨rfl, by decide, rfl⟩ ?_
  intro m8 em8
  have hIm8 : zInv m8 := by rw [em8]; exact hIm6.anyl (by omega) (by decide) rfl (by decide) (by decide)
  have hFm8 : zFr W_61_1_28 m0 m8 := by rw [em8]; exact hFm6.up rfl
  have km8_28_0 : m8 28 0 = f1 := by rw [em8, zUp_ne (by omega)]; exact km6_28_0
  have km8_1_0 : m8 1 0 = f1 := by rw [em8, zUp_ne (by omega)]; exact km6_1_0
  have km8_28_1 : m8 28 1 = f3 := by rw [em8, zUp_ne (by omega)]; exact km6_28_1
  have km8_1_1 : m8 1 1 = f3 := by rw [em8, zUp_ne (by omega)]; exact km6_1_1
  have km8_28_2 : m8 28 2 = f5 := by rw [em8, zUp_ne (by omega)]; exact km6_28_2
  have km8_1_2 : m8 1 2 = f5 := by rw [em8, zUp_ne (by omega)]; exact km6_1_2
  have km8_28_3 : m8 28 3 = f7 := by rw [em8, zUp_ne (by omega)]; exact ef7
  have km8_1_3 : m8 1 3 = f7 := by rw [em8]; exact zUp_eq _ _ _ _
  clear em8
  refine zw_7 zr_61_32 rfl ?_
  refine zw_7 zr_61_33 rfl ?_
  obtain ⟨f9, ef9⟩ : ∃ v, m8 28 4 = v := ⟨_, rfl⟩
  have bf9 := ib_28_4 hIm8
  rw [ef9] at bf9
  refine zw_46i zr_61_34 ef9 rfl rfl rfl ?_
  refine zw_47 (c := 1) zr_61_37 rfl ⟨rfl, by decide, rfl⟩ ?_
  intro m10 em10
  have hIm10 : zInv m10 := by rw [em10]; exact hIm8.bd (r := 1) (k := 4) (lo := 1) (hi := 1000) rfl (by omega) (by decide) (by decide) (by decide)
  have hFm10 : zFr W_61_1_28 m0 m10 := by rw [em10]; exact hFm8.up rfl
  have km10_28_0 : m10 28 0 = f1 := by rw [em10, zUp_ne (by omega)]; exact km8_28_0
  have km10_1_0 : m10 1 0 = f1 := by rw [em10, zUp_ne (by omega)]; exact km8_1_0
  have km10_28_1 : m10 28 1 = f3 := by rw [em10, zUp_ne (by omega)]; exact km8_28_1
  have km10_1_1 : m10 1 1 = f3 := by rw [em10, zUp_ne (by omega)]; exact km8_1_1
  have km10_28_2 : m10 28 2 = f5 := by rw [em10, zUp_ne (by omega)]; exact km8_28_2
  have km10_1_2 : m10 1 2 = f5 := by rw [em10, zUp_ne (by omega)]; exact km8_1_2
  have km10_28_3 : m10 28 3 = f7 := by rw [em10, zUp_ne (by omega)]; exact km8_28_3
  have km10_1_3 : m10 1 3 = f7 := by rw [em10, zUp_ne (by omega)]; exact km8_1_3
  have km10_28_4 : m10 28 4 = f9 := by rw [em10, zUp_ne (by omega)]; exact ef9
  have km10_1_4 : m10 1 4 = f9 := by rw [em10]; exact zUp_eq _ _ _ _
  clear em10
  refine zw_7 zr_61_40 rfl ?_
  refine zw_7 zr_61_41 rfl ?_
  obtain ⟨f11, ef11⟩ : ∃ v, m10 28 5 = v := ⟨_, rfl⟩
  have bf11 := ib_28_5 hIm10
  rw [ef11] at bf11
  refine zw_46i zr_61_42 ef11 rfl rfl rfl ?_
  refine zw_47 (c := 1) zr_61_45 rfl ⟨rfl, by decide, rfl⟩ ?_
  intro m12 em12
  have hIm12 : zInv m12 := by rw [em12]; exact hIm10.bd (r := 1) (k := 5) (lo := 0) (hi := 500) rfl (by omega) (by decide) (by decide) (by decide)
  have hFm12 : zFr W_61_1_28 m0 m12 := by rw [em12]; exact hFm10.up rfl
  have km12_28_0 : m12 28 0 = f1 := by rw [em12, zUp_ne (by omega)]; exact km10_28_0
  have km12_1_0 : m12 1 0 = f1 := by rw [em12, zUp_ne (by omega)]; exact km10_1_0
  have km12_28_1 : m12 28 1 = f3 := by rw [em12, zUp_ne (by omega)]; exact km10_28_1
  have km12_1_1 : m12 1 1 = f3 := by rw [em12, zUp_ne (by omega)]; exact km10_1_1
  have km12_28_2 : m12 28 2 = f5 := by rw [em12, zUp_ne (by omega)]; exact km10_28_2
  have km12_1_2 : m12 1 2 = f5 := by rw [em12, zUp_ne (by omega)]; exact km10_1_2
  have km12_28_3 : m12 28 3 = f7 := by rw [em12, zUp_ne (by omega)]; exact km10_28_3
  have km12_1_3 : m12 1 3 = f7 := by rw [em12, zUp_ne (by omega)]; exact km10_1_3
  have km12_28_4 : m12 28 4 = f9 := by rw [em12, zUp_ne (by omega)]; exact km10_28_4
  have km12_1_4 : m12 1 4 = f9 := by rw [em12, zUp_ne (by omega)]; exact km10_1_4
  have km12_28_5 : m12 28 5 = f11 := by rw [em12, zUp_ne (by omega)]; exact ef11
  have km12_1_5 : m12 1 5 = f11 := by rw [em12]; exact zUp_eq _ _ _ _
  clear em12
  refine zw_7 zr_61_48 rfl ?_
  refine zw_46r (s := 29) zr_61_49 rfl rfl rfl rfl ?_
  refine zw_push zr_61_52 ?_
  refine zw_7 zr_61_53 rfl ?_
  refine zw_46r (s := 2) zr_61_54 rfl rfl rfl rfl ?_
  refine zw_push zr_61_57 ?_
  refine zw_push zr_61_58 ?_
  refine zw_114 (c1 := 2) (c2 := 29) (l1 := 10) (l2 := 10) zr_61_60 rfl rfl rfl rfl (by decide) (Nat.le_of_ble_eq_true rfl) (by omega) (by omega) ?_
  intro m13 em13
  have hIm13 : zInv m13 := by rw [em13]; exact zInv.cpS hIm12 (l2 := 10) (fun _ => rfl) rfl (by decide) (by decide) (by decide)
  have hFm13 : zFr W_61_1_28 m0 m13 := by rw [em13]; exact hFm12.cp rfl
  have km13_28_0 : m13 28 0 = f1 := by rw [em13, zCp_ne (by decide)]; exact km12_28_0
  have km13_1_0 : m13 1 0 = f1 := by rw [em13, zCp_ne (by decide)]; exact km12_1_0
  have km13_28_1 : m13 28 1 = f3 := by rw [em13, zCp_ne (by decide)]; exact km12_28_1
  have km13_1_1 : m13 1 1 = f3 := by rw [em13, zCp_ne (by decide)]; exact km12_1_1
  have km13_28_2 : m13 28 2 = f5 := by rw [em13, zCp_ne (by decide)]; exact km12_28_2
  have km13_1_2 : m13 1 2 = f5 := by rw [em13, zCp_ne (by decide)]; exact km12_1_2
  have km13_28_3 : m13 28 3 = f7 := by rw [em13, zCp_ne (by decide)]; exact km12_28_3
  have km13_1_3 : m13 1 3 = f7 := by rw [em13, zCp_ne (by decide)]; exact km12_1_3
  have km13_28_4 : m13 28 4 = f9 := by rw [em13, zCp_ne (by decide)]; exact km12_28_4
  have km13_1_4 : m13 1 4 = f9 := by rw [em13, zCp_ne (by decide)]; exact km12_1_4
  have km13_28_5 : m13 28 5 = f11 := by rw [em13, zCp_ne (by decide)]; exact km12_28_5
  have km13_1_5 : m13 1 5 = f11 := by rw [em13, zCp_ne (by decide)]; exact km12_1_5
  clear em13
  refine zw_7 zr_61_63 rfl ?_
  refine zw_46r (s := 30) zr_61_64 rfl rfl rfl rfl ?_
  refine zw_push zr_61_67 ?_
  refine zw_7 zr_61_68 rfl ?_
  refine zw_46r (s := 3) zr_61_69 rfl rfl rfl rfl ?_
  refine zw_push zr_61_72 ?_
  refine zw_push zr_61_73 ?_
  refine zw_114 (c1 := 3) (c2 := 30) (l1 := 40) (l2 := 40) zr_61_75 rfl rfl rfl rfl (by decide) (Nat.le_of_ble_eq_true rfl) (by omega) (by omega) ?_
  intro m14 em14
  have hIm14 : zInv m14 := by rw [em14]; exact zInv.cpS hIm13 (l2 := 40) (fun _ => rfl) rfl (by decide) (by decide) (by decide)
  have hFm14 : zFr W_61_1_28 m0 m14 := by rw [em14]; exact hFm13.cp rfl
  have km14_28_0 : m14 28 0 = f1 := by rw [em14, zCp_ne (by decide)]; exact km13_28_0
  have km14_1_0 : m14 1 0 = f1 := by rw [em14, zCp_ne (by decide)]; exact km13_1_0
  have km14_28_1 : m14 28 1 = f3 := by rw [em14, zCp_ne (by decide)]; exact km13_28_1
  have km14_1_1 : m14 1 1 = f3 := by rw [em14, zCp_ne (by decide)]; exact km13_1_1
  have km14_28_2 : m14 28 2 = f5 := by rw [em14, zCp_ne (by decide)]; exact km13_28_2
  have km14_1_2 : m14 1 2 = f5 := by rw [em14, zCp_ne (by decide)]; exact km13_1_2
  have km14_28_3 : m14 28 3 = f7 := by rw [em14, zCp_ne (by decide)]; exact km13_28_3
  have km14_1_3 : m14 1 3 = f7 := by rw [em14, zCp_ne (by decide)]; exact km13_1_3
  have km14_28_4 : m14 28 4 = f9 := by rw [em14, zCp_ne (by decide)]; exact km13_28_4
  have km14_1_4 : m14 1 4 = f9 := by rw [em14, zCp_ne (by decide)]; exact km13_1_4
  have km14_28_5 : m14 28 5 = f11 := by rw [em14, zCp_ne (by decide)]; exact km13_28_5
  have km14_1_5 : m14 1 5 = f11 := by rw [em14, zCp_ne (by decide)]; exact km13_1_5
  clear em14
  refine zw_7 zr_61_78 rfl ?_
  refine zw_46r (s := 31) zr_61_79 rfl rfl rfl rfl ?_
  refine zw_push zr_61_82 ?_
  refine zw_7 zr_61_83 rfl ?_
  refine zw_46r (s := 4) zr_61_84 rfl rfl rfl rfl ?_
  refine zw_push zr_61_87 ?_
  refine zw_push zr_61_88 ?_
  refine zw_114 (c1 := 4) (c2 := 31) (l1 := 40) (l2 := 40) zr_61_90 rfl rfl rfl rfl (by decide) (Nat.le_of_ble_eq_true rfl) (by omega) (by omega) ?_
  intro m15 em15
  have hIm15 : zInv m15 := by rw [em15]; exact zInv.cpS hIm14 (l2 := 40) (fun _ => rfl) rfl (by decide) (by decide) (by decide)
  have hFm15 : zFr W_61_1_28 m0 m15 := by rw [em15]; exact hFm14.cp rfl
  have km15_28_0 : m15 28 0 = f1 := by rw [em15, zCp_ne (by decide)]; exact km14_28_0
  have km15_1_0 : m15 1 0 = f1 := by rw [em15, zCp_ne (by decide)]; exact km14_1_0
  have km15_28_1 : m15 28 1 = f3 := by rw [em15, zCp_ne (by decide)]; exact km14_28_1
  have km15_1_1 : m15 1 1 = f3 := by rw [em15, zCp_ne (by decide)]; exact km14_1_1
  have km15_28_2 : m15 28 2 = f5 := by rw [em15, zCp_ne (by decide)]; exact km14_28_2
  have km15_1_2 : m15 1 2 = f5 := by rw [em15, zCp_ne (by decide)]; exact km14_1_2
  have km15_28_3 : m15 28 3 = f7 := by rw [em15, zCp_ne (by decide)]; exact km14_28_3
  have km15_1_3 : m15 1 3 = f7 := by rw [em15, zCp_ne (by decide)]; exact km14_1_3
  have km15_28_4 : m15 28 4 = f9 := by rw [em15, zCp_ne (by decide)]; exact km14_28_4
  have km15_1_4 : m15 1 4 = f9 := by rw [em15, zCp_ne (by decide)]; exact km14_1_4
  have km15_28_5 : m15 28 5 = f11 := by rw [em15, zCp_ne (by decide)]; exact km14_28_5
  have km15_1_5 : m15 1 5 = f11 := by rw [em15, zCp_ne (by decide)]; exact km14_1_5
  clear em15
  refine zw_7 zr_61_93 rfl ?_
  refine zw_46r (s := 32) zr_61_94 rfl rfl rfl rfl ?_
  refine zw_push zr_61_97 ?_
  refine zw_7 zr_61_98 rfl ?_
  refine zw_46r (s := 5) zr_61_99 rfl rfl rfl rfl ?_
  refine zw_push zr_61_102 ?_
  refine zw_push zr_61_103 ?_
  refine zw_114 (c1 := 5) (c2 := 32) (l1 := 60) (l2 := 60) zr_61_105 rfl rfl rfl rfl (by decide) (Nat.le_of_ble_eq_true rfl) (by omega) (by omega) ?_
  intro m16 em16
  have hIm16 : zInv m16 := by rw [em16]; exact zInv.cpS hIm15 (l2 := 60) (fun _ => rfl) rfl (by decide) (by decide) (by decide)
  have hFm16 : zFr W_61_1_28 m0 m16 := by rw [em16]; exact hFm15.cp rfl
  have km16_28_0 : m16 28 0 = f1 := by rw [em16, zCp_ne (by decide)]; exact km15_28_0
  have km16_1_0 : m16 1 0 = f1 := by rw [em16, zCp_ne (by decide)]; exact km15_1_0
  have km16_28_1 : m16 28 1 = f3 := by rw [em16, zCp_ne (by decide)]; exact km15_28_1
  have km16_1_1 : m16 1 1 = f3 := by rw [em16, zCp_ne (by decide)]; exact km15_1_1
  have km16_28_2 : m16 28 2 = f5 := by rw [em16, zCp_ne (by decide)]; exact km15_28_2
  have km16_1_2 : m16 1 2 = f5 := by rw [em16, zCp_ne (by decide)]; exact km15_1_2
  have km16_28_3 : m16 28 3 = f7 := by rw [em16, zCp_ne (by decide)]; exact km15_28_3
  have km16_1_3 : m16 1 3 = f7 := by rw [em16, zCp_ne (by decide)]; exact km15_1_3
  have km16_28_4 : m16 28 4 = f9 := by rw [em16, zCp_ne (by decide)]; exact km15_28_4
  have km16_1_4 : m16 1 4 = f9 := by rw [em16, zCp_ne (by decide)]; exact km15_1_4
  have km16_28_5 : m16 28 5 = f11 := by rw [em16, zCp_ne (by decide)]; exact km15_28_5
  have km16_1_5 : m16 1 5 = f11 := by rw [em16, zCp_ne (by decide)]; exact km15_1_5
  clear em16
  refine zw_7 zr_61_108 rfl ?_
  refine zw_46r (s := 33) zr_61_109 rfl rfl rfl rfl ?_
  refine zw_push zr_61_112 ?_
  refine zw_7 zr_61_113 rfl ?_
  refine zw_46r (s := 6) zr_61_114 rfl rfl rfl rfl ?_
  refine zw_push zr_61_117 ?_
  refine zw_push zr_61_118 ?_
  refine zw_114 (c1 := 6) (c2 := 33) (l1 := 60) (l2 := 60) zr_61_120 rfl rfl rfl rfl (by decide) (Nat.le_of_ble_eq_true rfl) (by omega) (by omega) ?_
  intro m17 em17
  have hIm17 : zInv m17 := by rw [em17]; exact zInv.cpS hIm16 (l2 := 60) (fun _ => rfl) rfl (by decide) (by decide) (by decide)
  have hFm17 : zFr W_61_1_28 m0 m17 := by rw [em17]; exact hFm16.cp rfl
  have km17_28_0 : m17 28 0 = f1 := by rw [em17, zCp_ne (by decide)]; exact km16_28_0
  have km17_1_0 : m17 1 0 = f1 := by rw [em17, zCp_ne (by decide)]; exact km16_1_0
  have km17_28_1 : m17 28 1 = f3 := by rw [em17, zCp_ne (by decide)]; exact km16_28_1
  have km17_1_1 : m17 1 1 = f3 := by rw [em17, zCp_ne (by decide)]; exact km16_1_1
  have km17_28_2 : m17 28 2 = f5 := by rw [em17, zCp_ne (by decide)]; exact km16_28_2
  have km17_1_2 : m17 1 2 = f5 := by rw [em17, zCp_ne (by decide)]; exact km16_1_2
  have km17_28_3 : m17 28 3 = f7 := by rw [em17, zCp_ne (by decide)]; exact km16_28_3
  have km17_1_3 : m17 1 3 = f7 := by rw [em17, zCp_ne (by decide)]; exact km16_1_3
  have km17_28_4 : m17 28 4 = f9 := by rw [em17, zCp_ne (by decide)]; exact km16_28_4
  have km17_1_4 : m17 1 4 = f9 := by rw [em17, zCp_ne (by decide)]; exact km16_1_4
  have km17_28_5 : m17 28 5 = f11 := by rw [em17, zCp_ne (by decide)]; exact km16_28_5
  have km17_1_5 : m17 1 5 = f11 := by rw [em17, zCp_ne (by decide)]; exact km16_1_5
  clear em17
  refine zw_7 zr_61_123 rfl ?_
  refine zw_46r (s := 34) zr_61_124 rfl rfl rfl rfl ?_
  refine zw_push zr_61_127 ?_
  refine zw_7 zr_61_128 rfl ?_
  refine zw_46r (s := 7) zr_61_129 rfl rfl rfl rfl ?_
  refine zw_push zr_61_132 ?_
  refine zw_push zr_61_133 ?_
  refine zw_114 (c1 := 7) (c2 := 34) (l1 := 60) (l2 := 60) zr_61_135 rfl rfl rfl rfl (by decide) (Nat.le_of_ble_eq_true rfl) (by omega) (by omega) ?_
  intro m18 em18
  have hIm18 : zInv m18 := by rw [em18]; exact zInv.cpS hIm17 (l2 := 60) (fun _ => rfl) rfl (by decide) (by decide) (by decide)
  have hFm18 : zFr W_61_1_28 m0 m18 := by rw [em18]; exact hFm17.cp rfl
  have km18_28_0 : m18 28 0 = f1 := by rw [em18, zCp_ne (by decide)]; exact km17_28_0
  have km18_1_0 : m18 1 0 = f1 := by rw [em18, zCp_ne (by decide)]; exact km17_1_0
  have km18_28_1 : m18 28 1 = f3 := by rw [em18, zCp_ne (by decide)]; exact km17_28_1
  have km18_1_1 : m18 1 1 = f3 := by rw [em18, zCp_ne (by decide)]; exact km17_1_1
  have km18_28_2 : m18 28 2 = f5 := by rw [em18, zCp_ne (by decide)]; exact km17_28_2
  have km18_1_2 : m18 1 2 = f5 := by rw [em18, zCp_ne (by decide)]; exact km17_1_2
  have km18_28_3 : m18 28 3 = f7 := by rw [em18, zCp_ne (by decide)]; exact km17_28_3
  have km18_1_3 : m18 1 3 = f7 := by rw [em18, zCp_ne (by decide)]; exact km17_1_3
  have km18_28_4 : m18 28 4 = f9 := by rw [em18, zCp_ne (by decide)]; exact km17_28_4
  have km18_1_4 : m18 1 4 = f9 := by rw [em18, zCp_ne (by decide)]; exact km17_1_4
  have km18_28_5 : m18 28 5 = f11 := by rw [em18, zCp_ne (by decide)]; exact km17_28_5
  have km18_1_5 : m18 1 5 = f11 := by rw [em18, zCp_ne (by decide)]; exact km17_1_5
  clear em18
  refine zw_7 zr_61_138 rfl ?_
  refine zw_46r (s := 35) zr_61_139 rfl rfl rfl rfl ?_
  refine zw_push zr_61_142 ?_
  refine zw_7 zr_61_143 rfl ?_
  refine zw_46r (s := 8) zr_61_144 rfl rfl rfl rfl ?_
  refine zw_push zr_61_147 ?_
  refine zw_push zr_61_148 ?_
  refine zw_114 (c1 := 8) (c2 := 35) (l1 := 60) (l2 := 60) zr_61_150 rfl rfl rfl rfl (by decide) (Nat.le_of_ble_eq_true rfl) (by omega) (by omega) ?_
  intro m19 em19
  have hIm19 : zInv m19 := by rw [em19]; exact zInv.cpS hIm18 (l2 := 60) (fun _ => rfl) rfl (by decide) (by decide) (by decide)
  have hFm19 : zFr W_61_1_28 m0 m19 := by rw [em19]; exact hFm18.cp rfl
  have km19_28_0 : m19 28 0 = f1 := by rw [em19, zCp_ne (by decide)]; exact km18_28_0
  have km19_1_0 : m19 1 0 = f1 := by rw [em19, zCp_ne (by decide)]; exact km18_1_0
  have km19_28_1 : m19 28 1 = f3 := by rw [em19, zCp_ne (by decide)]; exact km18_28_1
  have km19_1_1 : m19 1 1 = f3 := by rw [em19, zCp_ne (by decide)]; exact km18_1_1
  have km19_28_2 : m19 28 2 = f5 := by rw [em19, zCp_ne (by decide)]; exact km18_28_2
  have km19_1_2 : m19 1 2 = f5 := by rw [em19, zCp_ne (by decide)]; exact km18_1_2
  have km19_28_3 : m19 28 3 = f7 := by rw [em19, zCp_ne (by decide)]; exact km18_28_3
  have km19_1_3 : m19 1 3 = f7 := by rw [em19, zCp_ne (by decide)]; exact km18_1_3
  have km19_28_4 : m19 28 4 = f9 := by rw [em19, zCp_ne (by decide)]; exact km18_28_4
  have km19_1_4 : m19 1 4 = f9 := by rw [em19, zCp_ne (by decide)]; exact km18_1_4
  have km19_28_5 : m19 28 5 = f11 := by rw [em19, zCp_ne (by decide)]; exact km18_28_5
  have km19_1_5 : m19 1 5 = f11 := by rw [em19, zCp_ne (by decide)]; exact km18_1_5
  clear em19
  refine zw_7 zr_61_153 rfl ?_
  refine zw_46r (s := 36) zr_61_154 rfl rfl rfl rfl ?_
  refine zw_push zr_61_157 ?_
  refine zw_7 zr_61_158 rfl ?_
  refine zw_46r (s := 9) zr_61_159 rfl rfl rfl rfl ?_
  refine zw_push zr_61_162 ?_
  refine zw_push zr_61_163 ?_
  refine zw_114 (c1 := 9) (c2 := 36) (l1 := 4) (l2 := 4) zr_61_164 rfl rfl rfl rfl (by decide) (Nat.le_of_ble_eq_true rfl) (by omega) (by omega) ?_
  intro m20 em20
  have hIm20 : zInv m20 := by rw [em20]; exact zInv.cpS hIm19 (l2 := 4) (fun _ => rfl) rfl (by decide) (by decide) (by decide)
  have hFm20 : zFr W_61_1_28 m0 m20 := by rw [em20]; exact hFm19.cp rfl
  have km20_28_0 : m20 28 0 = f1 := by rw [em20, zCp_ne (by decide)]; exact km19_28_0
  have km20_1_0 : m20 1 0 = f1 := by rw [em20, zCp_ne (by decide)]; exact km19_1_0
  have km20_28_1 : m20 28 1 = f3 := by rw [em20, zCp_ne (by decide)]; exact km19_28_1
  have km20_1_1 : m20 1 1 = f3 := by rw [em20, zCp_ne (by decide)]; exact km19_1_1
  have km20_28_2 : m20 28 2 = f5 := by rw [em20, zCp_ne (by decide)]; exact km19_28_2
  have km20_1_2 : m20 1 2 = f5 := by rw [em20, zCp_ne (by decide)]; exact km19_1_2
  have km20_28_3 : m20 28 3 = f7 := by rw [em20, zCp_ne (by decide)]; exact km19_28_3
  have km20_1_3 : m20 1 3 = f7 := by rw [em20, zCp_ne (by decide)]; exact km19_1_3
  have km20_28_4 : m20 28 4 = f9 := by rw [em20, zCp_ne (by decide)]; exact km19_28_4
  have km20_1_4 : m20 1 4 = f9 := by rw [em20, zCp_ne (by decide)]; exact km19_1_4
  have km20_28_5 : m20 28 5 = f11 := by rw [em20, zCp_ne (by decide)]; exact km19_28_5
  have km20_1_5 : m20 1 5 = f11 := by rw [em20, zCp_ne (by decide)]; exact km19_1_5
  clear em20
  refine zw_7 zr_61_167 rfl ?_
  refine zw_46r (s := 37) zr_61_168 rfl rfl rfl rfl ?_
  refine zw_push zr_61_171 ?_
  refine zw_7 zr_61_172 rfl ?_
  refine zw_46r (s := 10) zr_61_173 rfl rfl rfl rfl ?_
  refine zw_push zr_61_176 ?_
  refine zw_push zr_61_177 ?_
  refine zw_114 (c1 := 10) (c2 := 37) (l1 := 4) (l2 := 4) zr_61_178 rfl rfl rfl rfl (by decide) (Nat.le_of_ble_eq_true rfl) (by omega) (by omega) ?_
  intro m21 em21
  have hIm21 : zInv m21 := by rw [em21]; exact zInv.cpS hIm20 (l2 := 4) (fun _ => rfl) rfl (by decide) (by decide) (by decide)
  have hFm21 : zFr W_61_1_28 m0 m21 := by rw [em21]; exact hFm20.cp rfl
  have km21_28_0 : m21 28 0 = f1 := by rw [em21, zCp_ne (by decide)]; exact km20_28_0
  have km21_1_0 : m21 1 0 = f1 := by rw [em21, zCp_ne (by decide)]; exact km20_1_0
  have km21_28_1 : m21 28 1 = f3 := by rw [em21, zCp_ne (by decide)]; exact km20_28_1
  have km21_1_1 : m21 1 1 = f3 := by rw [em21, zCp_ne (by decide)]; exact km20_1_1
  have km21_28_2 : m21 28 2 = f5 := by rw [em21, zCp_ne (by decide)]; exact km20_28_2
  have km21_1_2 : m21 1 2 = f5 := by rw [em21, zCp_ne (by decide)]; exact km20_1_2
  have km21_28_3 : m21 28 3 = f7 := by rw [em21, zCp_ne (by decide)]; exact km20_28_3
  have km21_1_3 : m21 1 3 = f7 := by rw [em21, zCp_ne (by decide)]; exact km20_1_3
  have km21_28_4 : m21 28 4 = f9 := by rw [em21, zCp_ne (by decide)]; exact km20_28_4
  have km21_1_4 : m21 1 4 = f9 := by rw [em21, zCp_ne (by decide)]; exact km20_1_4
  have km21_28_5 : m21 28 5 = f11 := by rw [em21, zCp_ne (by decide)]; exact km20_28_5
  have km21_1_5 : m21 1 5 = f11 := by rw [em21, zCp_ne (by decide)]; exact km20_1_5
  clear em21
  refine zw_7 zr_61_181 rfl ?_
  refine zw_46r (s := 38) zr_61_182 rfl rfl rfl rfl ?_
  refine zw_push zr_61_185 ?_
  refine zw_7 zr_61_186 rfl ?_
  refine zw_46r (s := 11) zr_61_187 rfl rfl rfl rfl ?_
  refine zw_push zr_61_190 ?_
  refine zw_push zr_61_191 ?_
  refine zw_114 (c1 := 11) (c2 := 38) (l1 := 200) (l2 := 200) zr_61_194 rfl rfl rfl rfl (by decide) (Nat.le_of_ble_eq_true rfl) (by omega) (by omega) ?_
  intro m22 em22
  have hIm22 : zInv m22 := by rw [em22]; exact zInv.cpS hIm21 (l2 := 200) (fun _ => rfl) rfl (by decide) (by decide) (by decide)
  have hFm22 : zFr W_61_1_28 m0 m22 := by rw [em22]; exact hFm21.cp rfl
  have km22_28_0 : m22 28 0 = f1 := by rw [em22, zCp_ne (by decide)]; exact km21_28_0
  have km22_1_0 : m22 1 0 = f1 := by rw [em22, zCp_ne (by decide)]; exact km21_1_0
  have km22_28_1 : m22 28 1 = f3 := by rw [em22, zCp_ne (by decide)]; exact km21_28_1
  have km22_1_1 : m22 1 1 = f3 := by rw [em22, zCp_ne (by decide)]; exact km21_1_1
  have km22_28_2 : m22 28 2 = f5 := by rw [em22, zCp_ne (by decide)]; exact km21_28_2
  have km22_1_2 : m22 1 2 = f5 := by rw [em22, zCp_ne (by decide)]; exact km21_1_2
  have km22_28_3 : m22 28 3 = f7 := by rw [em22, zCp_ne (by decide)]; exact km21_28_3
  have km22_1_3 : m22 1 3 = f7 := by rw [em22, zCp_ne (by decide)]; exact km21_1_3
  have km22_28_4 : m22 28 4 = f9 := by rw [em22, zCp_ne (by decide)]; exact km21_28_4
  have km22_1_4 : m22 1 4 = f9 := by rw [em22, zCp_ne (by decide)]; exact km21_1_4
  have km22_28_5 : m22 28 5 = f11 := by rw [em22, zCp_ne (by decide)]; exact km21_28_5
  have km22_1_5 : m22 1 5 = f11 := by rw [em22, zCp_ne (by decide)]; exact km21_1_5
  clear em22
  refine zw_7 zr_61_197 rfl ?_
  refine zw_46r (s := 39) zr_61_198 rfl rfl rfl rfl ?_
  refine zw_push zr_61_201 ?_
  refine zw_7 zr_61_202 rfl ?_
  refine zw_46r (s := 12) zr_61_203 rfl rfl rfl rfl ?_
  refine zw_push zr_61_206 ?_
  refine zw_push zr_61_207 ?_
  refine zw_114 (c1 := 12) (c2 := 39) (l1 := 160) (l2 := 160) zr_61_210 rfl rfl rfl rfl (by decide) (Nat.le_of_ble_eq_true rfl) (by omega) (by omega) ?_
  intro m23 em23
  have hIm23 : zInv m23 := by rw [em23]; exact zInv.cpS hIm22 (l2 := 160) (fun _ => rfl) rfl (by decide) (by decide) (by decide)
  have hFm23 : zFr W_61_1_28 m0 m23 := by rw [em23]; exact hFm22.cp rfl
  have km23_28_0 : m23 28 0 = f1 := by rw [em23, zCp_ne (by decide)]; exact km22_28_0
  have km23_1_0 : m23 1 0 = f1 := by rw [em23, zCp_ne (by decide)]; exact km22_1_0
  have km23_28_1 : m23 28 1 = f3 := by rw [em23, zCp_ne (by decide)]; exact km22_28_1
  have km23_1_1 : m23 1 1 = f3 := by rw [em23, zCp_ne (by decide)]; exact km22_1_1
  have km23_28_2 : m23 28 2 = f5 := by rw [em23, zCp_ne (by decide)]; exact km22_28_2
  have km23_1_2 : m23 1 2 = f5 := by rw [em23, zCp_ne (by decide)]; exact km22_1_2
  have km23_28_3 : m23 28 3 = f7 := by rw [em23, zCp_ne (by decide)]; exact km22_28_3
  have km23_1_3 : m23 1 3 = f7 := by rw [em23, zCp_ne (by decide)]; exact km22_1_3
  have km23_28_4 : m23 28 4 = f9 := by rw [em23, zCp_ne (by decide)]; exact km22_28_4
  have km23_1_4 : m23 1 4 = f9 := by rw [em23, zCp_ne (by decide)]; exact km22_1_4
  have km23_28_5 : m23 28 5 = f11 := by rw [em23, zCp_ne (by decide)]; exact km22_28_5
  have km23_1_5 : m23 1 5 = f11 := by rw [em23, zCp_ne (by decide)]; exact km22_1_5
  clear em23
  refine zw_7 zr_61_213 rfl ?_
  refine zw_46r (s := 40) zr_61_214 rfl rfl rfl rfl ?_
  refine zw_push zr_61_217 ?_
  refine zw_7 zr_61_218 rfl ?_
  refine zw_46r (s := 13) zr_61_219 rfl rfl rfl rfl ?_
  refine zw_push zr_61_222 ?_
  refine zw_push zr_61_223 ?_
  refine zw_114 (c1 := 13) (c2 := 40) (l1 := 4) (l2 := 4) zr_61_224 rfl rfl rfl rfl (by decide) (Nat.le_of_ble_eq_true rfl) (by omega) (by omega) ?_
  intro m24 em24
  have hIm24 : zInv m24 := by rw [em24]; exact zInv.cpS hIm23 (l2 := 4) (fun _ => rfl) rfl (by decide) (by decide) (by decide)
  have hFm24 : zFr W_61_1_28 m0 m24 := by rw [em24]; exact hFm23.cp rfl
  have km24_28_0 : m24 28 0 = f1 := by rw [em24, zCp_ne (by decide)]; exact km23_28_0
  have km24_1_0 : m24 1 0 = f1 := by rw [em24, zCp_ne (by decide)]; exact km23_1_0
  have km24_28_1 : m24 28 1 = f3 := by rw [em24, zCp_ne (by decide)]; exact km23_28_1
  have km24_1_1 : m24 1 1 = f3 := by rw [em24, zCp_ne (by decide)]; exact km23_1_1
  have km24_28_2 : m24 28 2 = f5 := by rw [em24, zCp_ne (by decide)]; exact km23_28_2
  have km24_1_2 : m24 1 2 = f5 := by rw [em24, zCp_ne (by decide)]; exact km23_1_2
  have km24_28_3 : m24 28 3 = f7 := by rw [em24, zCp_ne (by decide)]; exact km23_28_3
  have km24_1_3 : m24 1 3 = f7 := by rw [em24, zCp_ne (by decide)]; exact km23_1_3
  have km24_28_4 : m24 28 4 = f9 := by rw [em24, zCp_ne (by decide)]; exact km23_28_4
  have km24_1_4 : m24 1 4 = f9 := by rw [em24, zCp_ne (by decide)]; exact km23_1_4
  have km24_28_5 : m24 28 5 = f11 := by rw [em24, zCp_ne (by decide)]; exact km23_28_5
  have km24_1_5 : m24 1 5 = f11 := by rw [em24, zCp_ne (by decide)]; exact km23_1_5
  clear em24
  refine zw_R zr_61_227 (by decide) zm_61 (v := (9, 0)) rfl ?_
  rw [← hQ]; exact ⟨rfl, hIm24, hFm24⟩

abbrev W_135 : List (Nat × Nat) := [(1, 0), (1, 1), (1, 2), (1, 3), (1, 4), (1, 5), (2, 1000), (3, 1000), (4, 1000), (5, 1000), (6, 1000), (7, 1000), (8, 1000), (9, 1000), (10, 1000), (11, 1000), (12, 1000), (13, 1000)]
set_option maxHeartbeats 8000000 in
theorem th_135 {E : zE} {d : Nat} {m0 : zM} {a0 : Int} (hd : 2 ≤ d) (hI0 : zInv m0) (ha0 : (-2147483648) ≤ a0 ∧ a0 ≤ 2147483647) : zC E d 135 [(2, 0), (0, a0)] m0 (fun v m' => ∃ r : Int, v = (0, r) ∧ (-3) ≤ r ∧ r ≤ 1 ∧ zInv m' ∧ zFr W_135 m0 m') := by
  have hF0 : zFr W_135 m0 m0 := zFr.rfl
  generalize hQ : (fun (v : zV) (m' : zM) => ∃ r : Int, v = (0, r) ∧ (-3) ≤ r ∧ r ≤ 1 ∧ zInv m' ∧ zFr W_135 m0 m') = Q
  show zW E d 135 0 [(2, 0), (0, a0)] [] m0 Q
  refine zw_3 zr_135_0 rfl ?_
  refine zw_push zr_135_1 ?_
  refine zw_push zr_135_2 ?_
  refine zw_C zr_135_3 (Or.inr rfl) zm_100 rfl rfl ⟨Nat.le_of_ble_eq_true rfl, Nat.le_of_ble_eq_true rfl, Nat.le_of_ble_eq_true rfl, rfl, by decide⟩ (by omega) (P := (fun v m' => zW E (d) 135 6 [(2, 0), (0, a0)] (if v.1 = 9 then [] else v :: []) m' Q)) ?_ (fun _ _ h => h)
  generalize hQ1 : (fun v m' => zW E (d) 135 6 [(2, 0), (0, a0)] (if v.1 = 9 then [] else v :: []) m' Q) = Q1
  show zW E (d - 1) 100 0 [(0, a0), (0, 0), (0, 1)] [] m0 Q1
  refine zw_3 zr_100_0 rfl ?_
  refine zw_3 zr_100_1 rfl ?_
  refine zw_41_0 zr_100_2 ?_ ?_
  · intro h1
    refine zw_push zr_100_14 ?_
    refine zw_R zr_100_15 (by decide) zm_100 (v := (0, 0)) (zRetB (by omega)) ?_
    rw [← hQ1]
    show zW E (d) 135 6 [(2, 0), (0, a0)] [(0, 0)] m0 Q
    refine zw_40_4 zr_135_6 ?_ ?_
    · intro h2; omega
    · intro h3
      refine zw_push zr_135_9 ?_
      refine zw_R zr_135_11 (by decide) zm_135 (v := (0, (-2))) rfl ?_
      rw [← hQ]; exact ⟨_, rfl, by omega, by omega, hI0, hF0⟩
  · intro h4
    refine zw_3 zr_100_5 rfl ?_
    refine zw_3 zr_100_6 rfl ?_
    refine zw_41_2 zr_100_7 ?_ ?_
    · intro h5
      refine zw_push zr_100_14 ?_
      refine zw_R zr_100_15 (by decide) zm_100 (v := (0, 0)) (zRetB (by omega)) ?_
      rw [← hQ1]
      show zW E (d) 135 6 [(2, 0), (0, a0)] [(0, 0)] m0 Q
      refine zw_40_4 zr_135_6 ?_ ?_
      · intro h6; omega
      · intro h7
        refine zw_push zr_135_9 ?_
        refine zw_R zr_135_11 (by decide) zm_135 (v := (0, (-2))) rfl ?_
        rw [← hQ]; exact ⟨_, rfl, by omega, by omega, hI0, hF0⟩
    · intro h8
      refine zw_push zr_100_10 ?_
      refine zw_42 zr_100_11 ?_
      refine zw_R zr_100_15 (by decide) zm_100 (v := (0, 1)) (zRetB (by omega)) ?_
      rw [← hQ1]
      show zW E (d) 135 6 [(2, 0), (0, a0)] [(0, 1)] m0 Q
      refine zw_40_4 zr_135_6 ?_ ?_
      · intro h9
        refine zw_7 zr_135_12 rfl ?_
        refine zw_46r (s := 41) zr_135_13 rfl rfl rfl rfl ?_
        refine zw_3 zr_135_16 rfl ?_
        refine zw_48 (c := 41) (len := 2) zr_135_17 rfl rfl (by omega) (by omega) ?_
        intro x10 ex10
        have bx10 := ib_41 hI0 (k := (a0).toNat) (by omega)
        rw [← ex10] at bx10
        clear ex10
        refine zw_40_4 zr_135_18 ?_ ?_
        · intro h11
          refine zw_7 zr_135_24 rfl ?_
          refine zw_46r (s := 1) zr_135_25 rfl rfl rfl rfl ?_
          refine zw_7 zr_135_28 rfl ?_
          refine zw_46r (s := 14) zr_135_29 rfl rfl rfl rfl ?_
          refine zw_3 zr_135_32 rfl ?_
          by_cases h12 : a0 = 0
          · rw [h12]
            refine zw_54 (s := 15) zr_135_33 rfl ?_
            refine zw_C zr_135_34 (Or.inl rfl) zm_61 rfl rfl ⟨Nat.le_of_ble_eq_true rfl, Nat.le_of_ble_eq_true rfl, Nat.le_of_ble_eq_true rfl, rfl, by decide⟩ (by omega) (th_61_1_15 (d := d - 1) (by omega) hI0        ) ?_
            rintro _ m13 ⟨rfl, hIm13, gm13⟩
            have hFm13 : zFr W_135 m0 m13 := hF0.trans gm13 rfl
            show zW E (d) 135 37 [(2, 0), (0, 0)] [] m13 Q
            refine zw_push zr_135_37 ?_
            refine zw_R zr_135_38 (by decide) zm_135 (v := (0, 1)) rfl ?_
            rw [← hQ]; exact ⟨_, rfl, by omega, by omega, hIm13, hFm13⟩
          by_cases h14 : a0 = 1
          · rw [h14]
            refine zw_54 (s := 28) zr_135_33 rfl ?_
            refine zw_C zr_135_34 (Or.inl rfl) zm_61 rfl rfl ⟨Nat.le_of_ble_eq_true rfl, Nat.le_of_ble_eq_true rfl, Nat.le_of_ble_eq_true rfl, rfl, by decide⟩ (by omega) (th_61_1_28 (d := d - 1) (by omega) hI0        ) ?_
            rintro _ m15 ⟨rfl, hIm15, gm15⟩
            have hFm15 : zFr W_135 m0 m15 := hF0.trans gm15 rfl
            show zW E (d) 135 37 [(2, 0), (0, 1)] [] m15 Q
            refine zw_push zr_135_37 ?_
            refine zw_R zr_135_38 (by decide) zm_135 (v := (0, 1)) rfl ?_
            rw [← hQ]; exact ⟨_, rfl, by omega, by omega, hIm15, hFm15⟩
          exfalso; omega
        · intro h16
          refine zw_push zr_135_21 ?_
          refine zw_R zr_135_23 (by decide) zm_135 (v := (0, (-3))) rfl ?_
          rw [← hQ]; exact ⟨_, rfl, by omega, by omega, hI0, hF0⟩
      · intro h17; omega

set_option maxHeartbeats 8000000 in
theorem th_136 {E : zE} {d : Nat} {m0 : zM} {a0 : Int} (hd : 1 ≤ d) (hI0 : zInv m0) (ha0 : (-9223372036854775808) ≤ a0 ∧ a0 ≤ 9223372036854775807) : zC E d 136 [(1, a0)] m0 (fun v m' => ∃ r : Int, v = (0, r) ∧ 0 ≤ r ∧ r ≤ 127 ∧ m0 = m') := by
  generalize hQ : (fun (v : zV) (m' : zM) => ∃ r : Int, v = (0, r) ∧ 0 ≤ r ∧ r ≤ 127 ∧ m0 = m') = Q
  show zW E d 136 0 [(1, a0), (9, 0)] [] m0 Q
  refine zw_5 zr_136_0 rfl ?_
  refine zw_5 zr_136_1 rfl ?_
  refine zw_push zr_136_2 ?_
  refine zw_35h zr_136_3 ?_
  intro x1 hx1a hx1b
  refine zw_push zr_136_4 ?_
  refine zw_30h zr_136_7 ?_
  intro x2 hx2a hx2b
  refine zw_28h zr_136_8 ?_
  intro x3 hx3a hx3b
  refine zw_13 (L' := [(1, x3), (9, 0)]) zr_136_9 (Nat.le_of_ble_eq_true rfl) rfl ?_
  refine zw_5 zr_136_10 rfl ?_
  refine zw_push zr_136_11 ?_
  refine zw_30h zr_136_14 ?_
  intro x4 hx4a hx4b
  refine zw_5 zr_136_15 rfl ?_
  refine zw_push zr_136_16 ?_
  refine zw_35h zr_136_17 ?_
  intro x5 hx5a hx5b
  refine zw_push zr_136_18 ?_
  refine zw_30h zr_136_21 ?_
  intro x6 hx6a hx6b
  refine zw_27h zr_136_22 ?_
  intro x7 hx7a hx7b
  refine zw_13 (L' := [(1, x7), (9, 0)]) zr_136_23 (Nat.le_of_ble_eq_true rfl) rfl ?_
  refine zw_5 zr_136_24 rfl ?_
  refine zw_5 zr_136_25 rfl ?_
  refine zw_push zr_136_26 ?_
  refine zw_35h zr_136_27 ?_
  intro x8 hx8a hx8b
  refine zw_27h zr_136_28 ?_
  intro x9 hx9a hx9b
  refine zw_push zr_136_29 ?_
  refine zw_30h zr_136_32 ?_
  intro x10 hx10a hx10b
  refine zw_13 (L' := [(1, x10), (9, 0)]) zr_136_33 (Nat.le_of_ble_eq_true rfl) rfl ?_
  refine zw_5 zr_136_34 rfl ?_
  refine zw_5 zr_136_35 rfl ?_
  refine zw_push zr_136_36 ?_
  refine zw_35h zr_136_38 ?_
  intro x11 hx11a hx11b
  refine zw_27h zr_136_39 ?_
  intro x12 hx12a hx12b
  refine zw_13 (L' := [(1, x12), (9, 0)]) zr_136_40 (Nat.le_of_ble_eq_true rfl) rfl ?_
  refine zw_5 zr_136_41 rfl ?_
  refine zw_5 zr_136_42 rfl ?_
  refine zw_push zr_136_43 ?_
  refine zw_35h zr_136_45 ?_
  intro x13 hx13a hx13b
  refine zw_27h zr_136_46 ?_
  intro x14 hx14a hx14b
  refine zw_13 (L' := [(1, x14), (9, 0)]) zr_136_47 (Nat.le_of_ble_eq_true rfl) rfl ?_
  refine zw_5 zr_136_48 rfl ?_
  refine zw_5 zr_136_49 rfl ?_
  refine zw_push zr_136_50 ?_
  refine zw_35h zr_136_52 ?_
  intro x15 hx15a hx15b
  refine zw_27h zr_136_53 ?_
  intro x16 hx16a hx16b
  refine zw_13 (L' := [(1, x16), (9, 0)]) zr_136_54 (Nat.le_of_ble_eq_true rfl) rfl ?_
  refine zw_5 zr_136_55 rfl ?_
  refine zw_37h zr_136_56 ?_
  intro x17 hx17a hx17b
  refine zw_push zr_136_57 ?_
  refine zw_21m zr_136_59 (by omega) (by omega) ?_
  intro x18 hx18a hx18b
  refine zw_R zr_136_60 (by decide) zm_136 (v := (0, x18)) rfl ?_
  rw [← hQ]; exact ⟨_, rfl, by omega, by omega, rfl⟩

set_option maxHeartbeats 8000000 in
theorem th_137 {E : zE} {d : Nat} {m0 : zM} {a0 : Int} (hd : 2 ≤ d) (hI0 : zInv m0) (ha0 : (-2147483648) ≤ a0 ∧ a0 ≤ 2147483647) : zC E d 137 [(2, 0), (0, a0)] m0 (fun v m' => ∃ r : Int, v = (0, r) ∧ (-2) ≤ r ∧ r ≤ 127 ∧ m0 = m') := by
  generalize hQ : (fun (v : zV) (m' : zM) => ∃ r : Int, v = (0, r) ∧ (-2) ≤ r ∧ r ≤ 127 ∧ m0 = m') = Q
  show zW E d 137 0 [(2, 0), (0, a0)] [] m0 Q
  refine zw_3 zr_137_0 rfl ?_
  by_cases h1 : a0 = 0
  · refine zw_111 (t := 32) zr_137_1 (by rw [h1]; rfl) ?_
    refine zw_7 zr_137_32 rfl ?_
    refine zw_46r (s := 1) zr_137_33 rfl rfl rfl rfl ?_
    obtain ⟨f2, ef2⟩ : ∃ v, m0 1 0 = v := ⟨_, rfl⟩
    have bf2 := ib_1_0 hI0
    rw [ef2] at bf2
    refine zw_46i zr_137_36 ef2 rfl rfl rfl ?_
    refine zw_R zr_137_39 (by decide) zm_137 (v := (0, f2)) rfl ?_
    rw [← hQ]; exact ⟨_, rfl, by omega, by omega, rfl⟩
  by_cases h3 : a0 = 1
  · refine zw_111 (t := 40) zr_137_1 (by rw [h3]; rfl) ?_
    refine zw_7 zr_137_40 rfl ?_
    refine zw_46r (s := 1) zr_137_41 rfl rfl rfl rfl ?_
    obtain ⟨f4, ef4⟩ : ∃ v, m0 1 1 = v := ⟨_, rfl⟩
    have bf4 := ib_1_1 hI0
    rw [ef4] at bf4
    refine zw_46i zr_137_44 ef4 rfl rfl rfl ?_
    refine zw_R zr_137_47 (by decide) zm_137 (v := (0, f4)) rfl ?_
    rw [← hQ]; exact ⟨_, rfl, by omega, by omega, rfl⟩
  by_cases h5 : a0 = 2
  · refine zw_111 (t := 48) zr_137_1 (by rw [h5]; rfl) ?_
    refine zw_7 zr_137_48 rfl ?_
    refine zw_46r (s := 1) zr_137_49 rfl rfl rfl rfl ?_
    obtain ⟨f6, ef6⟩ : ∃ v, m0 1 2 = v := ⟨_, rfl⟩
    have bf6 := hI0.fl (c := 1) (k := 2) rfl
    rw [ef6] at bf6
    refine zw_46l zr_137_52 ef6 rfl rfl rfl ?_
    refine zw_C zr_137_55 (Or.inr rfl) zm_136 rfl rfl ⟨Nat.le_of_ble_eq_true rfl, Nat.le_of_ble_eq_true rfl, Nat.le_of_ble_eq_true rfl, rfl, by decide⟩ (by omega) (th_136 (d := d - 1) (by omega) hI0 (a0 := f6)      (by omega) ) ?_
    rintro _ _ ⟨r7, rfl, hr7a, hr7b, rfl⟩
    show zW E (d) 137 58 [(2, 0), (0, a0)] [(0, r7)] m0 Q
    refine zw_R zr_137_58 (by decide) zm_137 (v := (0, r7)) rfl ?_
    rw [← hQ]; exact ⟨_, rfl, by omega, by omega, rfl⟩
  by_cases h8 : a0 = 3
  · refine zw_111 (t := 59) zr_137_1 (by rw [h8]; rfl) ?_
    refine zw_7 zr_137_59 rfl ?_
    refine zw_46r (s := 1) zr_137_60 rfl rfl rfl rfl ?_
    obtain ⟨f9, ef9⟩ : ∃ v, m0 1 3 = v := ⟨_, rfl⟩
    have bf9 := hI0.fl (c := 1) (k := 3) rfl
    rw [ef9] at bf9
    refine zw_46l zr_137_63 ef9 rfl rfl rfl ?_
    refine zw_C zr_137_66 (Or.inr rfl) zm_136 rfl rfl ⟨Nat.le_of_ble_eq_true rfl, Nat.le_of_ble_eq_true rfl, Nat.le_of_ble_eq_true rfl, rfl, by decide⟩ (by omega) (th_136 (d := d - 1) (by omega) hI0 (a0 := f9)      (by omega) ) ?_
    rintro _ _ ⟨r10, rfl, hr10a, hr10b, rfl⟩
    show zW E (d) 137 69 [(2, 0), (0, a0)] [(0, r10)] m0 Q
    refine zw_R zr_137_69 (by decide) zm_137 (v := (0, r10)) rfl ?_
    rw [← hQ]; exact ⟨_, rfl, by omega, by omega, rfl⟩
  refine zw_111d (t := 70) zr_137_1 (by omega) rfl ?_
  refine zw_push zr_137_70 ?_
  refine zw_R zr_137_72 (by decide) zm_137 (v := (0, (-2))) rfl ?_
  rw [← hQ]; exact ⟨_, rfl, by omega, by omega, rfl⟩

set_option maxHeartbeats 8000000 in
theorem th_210 {E : zE} {d : Nat} {m0 : zM} {a0 : Int} (hd : 2 ≤ d) (hI0 : zInv m0) (ha0 : (-2147483648) ≤ a0 ∧ a0 ≤ 2147483647) : zC E d 210 [(2, 69), (0, a0)] m0 (fun v m' => ∃ r : Int, v = (0, r) ∧ (-2147483648) ≤ r ∧ r ≤ 2147483647 ∧ m0 = m') := by
  generalize hQ : (fun (v : zV) (m' : zM) => ∃ r : Int, v = (0, r) ∧ (-2147483648) ≤ r ∧ r ≤ 2147483647 ∧ m0 = m') = Q
  show zW E d 210 0 [(2, 69), (0, a0), (9, 0), (9, 0)] [] m0 Q
  refine zw_3 zr_210_0 rfl ?_
  refine zw_36 zr_210_1 ?_
  refine zw_push zr_210_2 ?_
  refine zw_push zr_210_3 ?_
  refine zw_C zr_210_6 (Or.inr rfl) zm_140 rfl rfl ⟨Nat.le_of_ble_eq_true rfl, Nat.le_of_ble_eq_true rfl, Nat.le_of_ble_eq_true rfl, rfl, by decide⟩ (by omega) (P := (fun v m' => zW E (d) 210 9 [(2, 69), (0, a0), (9, 0), (9, 0)] (if v.1 = 9 then [] else v :: []) m' Q)) ?_ (fun _ _ h => h)
  generalize hQ1 : (fun v m' => zW E (d) 210 9 [(2, 69), (0, a0), (9, 0), (9, 0)] (if v.1 = 9 then [] else v :: []) m' Q) = Q1
  show zW E (d - 1) 140 0 [(1, a0), (9, 0), (1, 0), (9, 0), (1, 3), (9, 0)] [] m0 Q1
  refine zw_5 zr_140_0 rfl ?_
  refine zw_5 zr_140_1 rfl ?_
  refine zw_39_0 zr_140_2 zr_140_3 ?_ ?_
  · intro h1
    refine zw_push zr_140_17 ?_
    refine zw_R zr_140_18 (by decide) zm_140 (v := (0, 0)) (zRetB (by omega)) ?_
    rw [← hQ1]
    show zW E (d) 210 9 [(2, 69), (0, a0), (9, 0), (9, 0)] [(0, 0)] m0 Q
    refine zw_40_4 zr_210_9 ?_ ?_
    · intro h2; omega
    · intro h3
      refine zw_push zr_210_12 ?_
      refine zw_R zr_210_14 (by decide) zm_210 (v := (0, (-2))) rfl ?_
      rw [← hQ]; exact ⟨_, rfl, by omega, by omega, rfl⟩
  · intro h4
    refine zw_5 zr_140_6 rfl ?_
    refine zw_6 zr_140_7 rfl ?_
    refine zw_39_2 zr_140_9 zr_140_10 ?_ ?_
    · intro h5
      refine zw_push zr_140_17 ?_
      refine zw_R zr_140_18 (by decide) zm_140 (v := (0, 0)) (zRetB (by omega)) ?_
      rw [← hQ1]
      show zW E (d) 210 9 [(2, 69), (0, a0), (9, 0), (9, 0)] [(0, 0)] m0 Q
      refine zw_40_4 zr_210_9 ?_ ?_
      · intro h6; omega
      · intro h7
        refine zw_push zr_210_12 ?_
        refine zw_R zr_210_14 (by decide) zm_210 (v := (0, (-2))) rfl ?_
        rw [← hQ]; exact ⟨_, rfl, by omega, by omega, rfl⟩
    · intro h8
      refine zw_push zr_140_13 ?_
      refine zw_42 zr_140_14 ?_
      refine zw_R zr_140_18 (by decide) zm_140 (v := (0, 1)) (zRetB (by omega)) ?_
      rw [← hQ1]
      show zW E (d) 210 9 [(2, 69), (0, a0), (9, 0), (9, 0)] [(0, 1)] m0 Q
      refine zw_40_4 zr_210_9 ?_ ?_
      · intro h9
        refine zw_push zr_210_15 ?_
        refine zw_9 (L' := [(2, 69), (0, a0), (0, 0), (9, 0)]) zr_210_16 (Nat.le_of_ble_eq_true rfl) rfl ?_
        refine zw_push zr_210_17 ?_
        refine zw_9 (L' := [(2, 69), (0, a0), (0, 0), (0, 0)]) zr_210_18 (Nat.le_of_ble_eq_true rfl) rfl ?_
        have lp19_12 : ∀ (nlp19_12 : Nat) (i10 i11 : Int), (-2147483648) ≤ i10 → i10 ≤ 2147483647 → 0 ≤ i11 → i11 ≤ 60 → (60 - i11).toNat < nlp19_12 → zW E (d) 210 19 [(2, 69), (0, a0), (0, i10), (0, i11)] [] m0 Q := by
          intro nlp19_12
          induction nlp19_12 with
          | zero =>
            intros
            exact absurd (by assumption : _ < 0) (Nat.not_lt_zero _)
          | succ nlp19_12 ihlp19_12 =>
            intro i10 i11 li10 ui10 li11 ui11 hmlp19_12
            refine zw_3 zr_210_19 rfl ?_
            refine zw_7 zr_210_20 rfl ?_
            refine zw_C zr_210_21 (Or.inl rfl) zm_142 rfl rfl ⟨Nat.le_of_ble_eq_true rfl, Nat.le_of_ble_eq_true rfl, Nat.le_of_ble_eq_true rfl, rfl, by decide⟩ (by omega) (P := (fun v m' => zW E (d) 210 24 [(2, 69), (0, a0), (0, i10), (0, i11)] (if v.1 = 9 then [(0, i11)] else v :: [(0, i11)]) m' Q)) ?_ (fun _ _ h => h)
            generalize hQ1 : (fun v m' => zW E (d) 210 24 [(2, 69), (0, a0), (0, i10), (0, i11)] (if v.1 = 9 then [(0, i11)] else v :: [(0, i11)]) m' Q) = Q1
            show zW E (d - 1) 142 0 [(2, 69)] [] m0 Q1
            refine zw_7 zr_142_0 rfl ?_
            refine zw_46r (s := 70) zr_142_1 rfl rfl rfl rfl ?_
            refine zw_push zr_142_4 ?_
            obtain ⟨f14, ef14⟩ : ∃ v, m0 70 823 = v := ⟨_, rfl⟩
            have bf14 : 0 ≤ m0 70 823 ∧ m0 70 823 ≤ 60 := ib_70_meetings hI0 (by omega)
            rw [ef14] at bf14
            refine zw_48k (c := 70) (len := 826) zr_142_7 rfl rfl (by omega) (by omega) (show (823 : Int).toNat = 823 by omega) ef14 ?_
            refine zw_R zr_142_8 (by decide) zm_142 (v := (0, f14)) rfl ?_
            rw [← hQ1]
            show zW E (d) 210 24 [(2, 69), (0, a0), (0, i10), (0, i11)] [(0, f14), (0, i11)] m0 Q
            refine zw_41_3 zr_210_24 ?_ ?_
            · intro h15
              refine zw_3 zr_210_51 rfl ?_
              refine zw_40_4 zr_210_52 ?_ ?_
              · intro h16
                refine zw_3 zr_210_62 rfl ?_
                refine zw_push zr_210_63 ?_
                refine zw_41_4 zr_210_64 ?_ ?_
                · intro h17
                  refine zw_3 zr_210_74 rfl ?_
                  refine zw_R zr_210_75 (by decide) zm_210 (v := (0, i10)) rfl ?_
                  rw [← hQ]; exact ⟨_, rfl, by omega, by omega, rfl⟩
                · intro h18
                  refine zw_7 zr_210_67 rfl ?_
                  refine zw_C zr_210_68 (Or.inl rfl) zm_142 rfl rfl ⟨Nat.le_of_ble_eq_true rfl, Nat.le_of_ble_eq_true rfl, Nat.le_of_ble_eq_true rfl, rfl, by decide⟩ (by omega) (P := (fun v m' => zW E (d) 210 71 [(2, 69), (0, a0), (0, i10), (0, i11)] (if v.1 = 9 then [] else v :: []) m' Q)) ?_ (fun _ _ h => h)
                  generalize hQ1 : (fun v m' => zW E (d) 210 71 [(2, 69), (0, a0), (0, i10), (0, i11)] (if v.1 = 9 then [] else v :: []) m' Q) = Q1
                  show zW E (d - 1) 142 0 [(2, 69)] [] m0 Q1
                  refine zw_7 zr_142_0 rfl ?_
                  refine zw_46r (s := 70) zr_142_1 rfl rfl rfl rfl ?_
                  refine zw_push zr_142_4 ?_
                  refine zw_48k (c := 70) (len := 826) zr_142_7 rfl rfl (by omega) (by omega) (show (823 : Int).toNat = 823 by omega) ef14 ?_
                  refine zw_R zr_142_8 (by decide) zm_142 (v := (0, f14)) rfl ?_
                  rw [← hQ1]
                  show zW E (d) 210 71 [(2, 69), (0, a0), (0, i10), (0, i11)] [(0, f14)] m0 Q
                  refine zw_42 zr_210_71 ?_
                  refine zw_R zr_210_75 (by decide) zm_210 (v := (0, f14)) rfl ?_
                  rw [← hQ]; exact ⟨_, rfl, by omega, by omega, rfl⟩
              · intro h19
                refine zw_7 zr_210_55 rfl ?_
                refine zw_C zr_210_56 (Or.inl rfl) zm_141 rfl rfl ⟨Nat.le_of_ble_eq_true rfl, Nat.le_of_ble_eq_true rfl, Nat.le_of_ble_eq_true rfl, rfl, by decide⟩ (by omega) (P := (fun v m' => zW E (d) 210 59 [(2, 69), (0, a0), (0, i10), (0, i11)] (if v.1 = 9 then [] else v :: []) m' Q)) ?_ (fun _ _ h => h)
                generalize hQ1 : (fun v m' => zW E (d) 210 59 [(2, 69), (0, a0), (0, i10), (0, i11)] (if v.1 = 9 then [] else v :: []) m' Q) = Q1
                show zW E (d - 1) 141 0 [(2, 69)] [] m0 Q1
                refine zw_7 zr_141_0 rfl ?_
                refine zw_46r (s := 70) zr_141_1 rfl rfl rfl rfl ?_
                refine zw_push zr_141_4 ?_
                obtain ⟨f20, ef20⟩ : ∃ v, m0 70 822 = v := ⟨_, rfl⟩
                have bf20 : 0 ≤ m0 70 822 ∧ m0 70 822 ≤ 10 := ib_70_players hI0 (by omega)
                rw [ef20] at bf20
                refine zw_48k (c := 70) (len := 826) zr_141_7 rfl rfl (by omega) (by omega) (show (822 : Int).toNat = 822 by omega) ef20 ?_
                refine zw_R zr_141_8 (by decide) zm_141 (v := (0, f20)) rfl ?_
                rw [← hQ1]
                show zW E (d) 210 59 [(2, 69), (0, a0), (0, i10), (0, i11)] [(0, f20)] m0 Q
                refine zw_42 zr_210_59 ?_
                refine zw_R zr_210_75 (by decide) zm_210 (v := (0, f20)) rfl ?_
                rw [← hQ]; exact ⟨_, rfl, by omega, by omega, rfl⟩
            · intro h21
              refine zw_3 zr_210_27 rfl ?_
              refine zw_push zr_210_28 ?_
              refine zw_41_5 zr_210_29 ?_ ?_
              · intro h22
                refine zw_3 zr_210_51 rfl ?_
                refine zw_40_4 zr_210_52 ?_ ?_
                · intro h23
                  refine zw_3 zr_210_62 rfl ?_
                  refine zw_push zr_210_63 ?_
                  refine zw_41_4 zr_210_64 ?_ ?_
                  · intro h24; omega
                  · intro h25
                    refine zw_7 zr_210_67 rfl ?_
                    refine zw_C zr_210_68 (Or.inl rfl) zm_142 rfl rfl ⟨Nat.le_of_ble_eq_true rfl, Nat.le_of_ble_eq_true rfl, Nat.le_of_ble_eq_true rfl, rfl, by decide⟩ (by omega) (P := (fun v m' => zW E (d) 210 71 [(2, 69), (0, a0), (0, i10), (0, i11)] (if v.1 = 9 then [] else v :: []) m' Q)) ?_ (fun _ _ h => h)
                    generalize hQ1 : (fun v m' => zW E (d) 210 71 [(2, 69), (0, a0), (0, i10), (0, i11)] (if v.1 = 9 then [] else v :: []) m' Q) = Q1
                    show zW E (d - 1) 142 0 [(2, 69)] [] m0 Q1
                    refine zw_7 zr_142_0 rfl ?_
                    refine zw_46r (s := 70) zr_142_1 rfl rfl rfl rfl ?_
                    refine zw_push zr_142_4 ?_
                    refine zw_48k (c := 70) (len := 826) zr_142_7 rfl rfl (by omega) (by omega) (show (823 : Int).toNat = 823 by omega) ef14 ?_
                    refine zw_R zr_142_8 (by decide) zm_142 (v := (0, f14)) rfl ?_
                    rw [← hQ1]
                    show zW E (d) 210 71 [(2, 69), (0, a0), (0, i10), (0, i11)] [(0, f14)] m0 Q
                    refine zw_42 zr_210_71 ?_
                    refine zw_R zr_210_75 (by decide) zm_210 (v := (0, f14)) rfl ?_
                    rw [← hQ]; exact ⟨_, rfl, by omega, by omega, rfl⟩
                · intro h26
                  refine zw_7 zr_210_55 rfl ?_
                  refine zw_C zr_210_56 (Or.inl rfl) zm_141 rfl rfl ⟨Nat.le_of_ble_eq_true rfl, Nat.le_of_ble_eq_true rfl, Nat.le_of_ble_eq_true rfl, rfl, by decide⟩ (by omega) (P := (fun v m' => zW E (d) 210 59 [(2, 69), (0, a0), (0, i10), (0, i11)] (if v.1 = 9 then [] else v :: []) m' Q)) ?_ (fun _ _ h => h)
                  generalize hQ1 : (fun v m' => zW E (d) 210 59 [(2, 69), (0, a0), (0, i10), (0, i11)] (if v.1 = 9 then [] else v :: []) m' Q) = Q1
                  show zW E (d - 1) 141 0 [(2, 69)] [] m0 Q1
                  refine zw_7 zr_141_0 rfl ?_
                  refine zw_46r (s := 70) zr_141_1 rfl rfl rfl rfl ?_
                  refine zw_push zr_141_4 ?_
                  obtain ⟨f27, ef27⟩ : ∃ v, m0 70 822 = v := ⟨_, rfl⟩
                  have bf27 : 0 ≤ m0 70 822 ∧ m0 70 822 ≤ 10 := ib_70_players hI0 (by omega)
                  rw [ef27] at bf27
                  refine zw_48k (c := 70) (len := 826) zr_141_7 rfl rfl (by omega) (by omega) (show (822 : Int).toNat = 822 by omega) ef27 ?_
                  refine zw_R zr_141_8 (by decide) zm_141 (v := (0, f27)) rfl ?_
                  rw [← hQ1]
                  show zW E (d) 210 59 [(2, 69), (0, a0), (0, i10), (0, i11)] [(0, f27)] m0 Q
                  refine zw_42 zr_210_59 ?_
                  refine zw_R zr_210_75 (by decide) zm_210 (v := (0, f27)) rfl ?_
                  rw [← hQ]; exact ⟨_, rfl, by omega, by omega, rfl⟩
              · intro h28
                refine zw_3 zr_210_32 rfl ?_
                refine zw_7 zr_210_33 rfl ?_
                refine zw_3 zr_210_34 rfl ?_
                refine zw_push zr_210_35 ?_
                refine zw_3 zr_210_36 rfl ?_
                refine zw_16 zr_210_37 (by omega) ?_
                refine zw_push zr_210_38 ?_
                refine zw_17 zr_210_39 (by omega) ?_
                refine zw_C zr_210_40 (Or.inl rfl) zm_144 rfl rfl ⟨Nat.le_of_ble_eq_true rfl, Nat.le_of_ble_eq_true rfl, Nat.le_of_ble_eq_true rfl, rfl, by decide⟩ (by omega) (P := (fun v m' => zW E (d) 210 43 [(2, 69), (0, a0), (0, i10), (0, i11)] (if v.1 = 9 then [(0, i10)] else v :: [(0, i10)]) m' Q)) ?_ (fun _ _ h => h)
                generalize hQ1 : (fun v m' => zW E (d) 210 43 [(2, 69), (0, a0), (0, i10), (0, i11)] (if v.1 = 9 then [(0, i10)] else v :: [(0, i10)]) m' Q) = Q1
                show zW E (d - 1) 144 0 [(2, 69), (0, i11), (0, ((4 + a0) - 2))] [] m0 Q1
                refine zw_7 zr_144_0 rfl ?_
                refine zw_46r (s := 70) zr_144_1 rfl rfl rfl rfl ?_
                refine zw_push zr_144_4 ?_
                refine zw_push zr_144_6 ?_
                refine zw_3 zr_144_8 rfl ?_
                refine zw_18 zr_144_9 (by omega) ?_
                refine zw_16 zr_144_10 (by omega) ?_
                refine zw_3 zr_144_11 rfl ?_
                refine zw_16 zr_144_12 (by omega) ?_
                refine zw_48 (c := 70) (len := 826) zr_144_13 rfl rfl (by omega) (by omega) ?_
                intro x29 ex29
                have bx29 := ib_70_m45 hI0 (k := (((90 + (6 * i11)) + ((4 + a0) - 2))).toNat) (by omega)
                rw [← ex29] at bx29
                clear ex29
                refine zw_R zr_144_14 (by decide) zm_144 (v := (0, x29)) rfl ?_
                rw [← hQ1]
                show zW E (d) 210 43 [(2, 69), (0, a0), (0, i10), (0, i11)] [(0, x29), (0, i10)] m0 Q
                refine zw_16h zr_210_43 ?_
                intro x30 hx30a hx30b
                refine zw_9 (L' := [(2, 69), (0, a0), (0, x30), (0, i11)]) zr_210_44 (Nat.le_of_ble_eq_true rfl) rfl ?_
                refine zw_15 (c := 1) (L' := [(2, 69), (0, a0), (0, x30), (0, (i11 + 1))]) zr_210_45 rfl (by decide) (by omega) rfl ?_
                refine zw_42 zr_210_48 ?_
                exact zw_less (L := [(2, 69), (0, a0), (0, x30), (0, (i11 + 1))]) ⟨Or.inr rfl, Or.inr rfl, Or.inr rfl, Or.inr rfl, trivial⟩ (ihlp19_12 (x30) ((i11 + 1))  (by omega) (by omega) (by omega) (by omega)  (by omega))
        exact lp19_12 _ (0) (0)  (by omega) (by omega) (by omega) (by omega)  (Nat.lt_succ_self _)
      · intro h31; omega

set_option maxHeartbeats 8000000 in
theorem th_62 {E : zE} {d : Nat} {m0 : zM} {a0 : Int} (hd : 1 ≤ d) (hI0 : zInv m0) (ha0 : (-9223372036854775808) ≤ a0 ∧ a0 ≤ 9223372036854775807) : zC E d 62 [(2, 1), (1, a0)] m0 (fun v m' => ∃ r : Int, v = (1, r) ∧ (-9223372036854775808) ≤ r ∧ r ≤ 9223372036854775807 ∧ m0 = m') := by
  generalize hQ : (fun (v : zV) (m' : zM) => ∃ r : Int, v = (1, r) ∧ (-9223372036854775808) ≤ r ∧ r ≤ 9223372036854775807 ∧ m0 = m') = Q
  show zW E d 62 0 [(2, 1), (1, a0), (9, 0), (9, 0), (9, 0), (9, 0), (9, 0)] [] m0 Q
  refine zw_5 zr_62_0 rfl ?_
  refine zw_13 (L' := [(2, 1), (1, a0), (9, 0), (1, a0), (9, 0), (9, 0), (9, 0)]) zr_62_1 (Nat.le_of_ble_eq_true rfl) rfl ?_
  refine zw_push zr_62_2 ?_
  refine zw_10 (L' := [(2, 1), (1, a0), (9, 0), (1, a0), (9, 0), (0, 0), (9, 0)]) zr_62_3 (Nat.le_of_ble_eq_true rfl) rfl ?_
  have lp5_3 : ∀ (nlp5_3 : Nat) (i1 i2 : Int), (-9223372036854775808) ≤ i1 → i1 ≤ 9223372036854775807 → 0 ≤ i2 → i2 ≤ 10 → (10 - i2).toNat < nlp5_3 → zW E (d) 62 5 [(2, 1), (1, a0), (9, 0), (1, i1), (9, 0), (0, i2), (9, 0)] [] m0 Q := by
    intro nlp5_3
    induction nlp5_3 with
    | zero =>
      intros
      exact absurd (by assumption : _ < 0) (Nat.not_lt_zero _)
    | succ nlp5_3 ihlp5_3 =>
      intro i1 i2 li1 ui1 li2 ui2 hmlp5_3
      refine zw_4 zr_62_5 rfl ?_
      refine zw_7 zr_62_7 rfl ?_
      obtain ⟨f5, ef5⟩ : ∃ v, m0 1 0 = v := ⟨_, rfl⟩
      have bf5 := ib_1_0 hI0
      rw [ef5] at bf5
      refine zw_46i zr_62_8 ef5 rfl rfl rfl ?_
      refine zw_41_3 zr_62_11 ?_ ?_
      · intro h6
        refine zw_5 zr_62_90 rfl ?_
        refine zw_R zr_62_91 (by decide) zm_62 (v := (1, i1)) rfl ?_
        rw [← hQ]; exact ⟨_, rfl, by omega, by omega, rfl⟩
      · intro h7
        refine zw_push zr_62_14 ?_
        refine zw_5 zr_62_17 rfl ?_
        refine zw_29h zr_62_18 ?_
        intro x8 hx8a hx8b
        refine zw_7 zr_62_19 rfl ?_
        refine zw_46r (s := 2) zr_62_20 rfl rfl rfl rfl ?_
        refine zw_4 zr_62_23 rfl ?_
        refine zw_48 (c := 2) (len := 10) zr_62_25 rfl rfl (by omega) (by omega) ?_
        intro x9 ex9
        have bx9 := ib_2 hI0 (k := (i2).toNat) (by omega)
        rw [← ex9] at bx9
        clear ex9
        refine zw_36 zr_62_26 ?_
        refine zw_27h zr_62_27 ?_
        intro x10 hx10a hx10b
        refine zw_13 (L' := [(2, 1), (1, a0), (9, 0), (1, x10), (9, 0), (0, i2), (9, 0)]) zr_62_28 (Nat.le_of_ble_eq_true rfl) rfl ?_
        refine zw_push zr_62_29 ?_
        refine zw_10 (L' := [(2, 1), (1, a0), (9, 0), (1, x10), (9, 0), (0, i2), (0, 0)]) zr_62_30 (Nat.le_of_ble_eq_true rfl) rfl ?_
        have lp32_13 : ∀ (nlp32_13 : Nat) (i11 i12 : Int), (-9223372036854775808) ≤ i11 → i11 ≤ 9223372036854775807 → 0 ≤ i12 → i12 ≤ 4 → (4 - i12).toNat < nlp32_13 → zW E (d) 62 32 [(2, 1), (1, a0), (9, 0), (1, i11), (9, 0), (0, i2), (0, i12)] [] m0 Q := by
          intro nlp32_13
          induction nlp32_13 with
          | zero =>
            intros
            exact absurd (by assumption : _ < 0) (Nat.not_lt_zero _)
          | succ nlp32_13 ihlp32_13 =>
            intro i11 i12 li11 ui11 li12 ui12 hmlp32_13
            refine zw_4 zr_62_32 rfl ?_
            refine zw_push zr_62_34 ?_
            refine zw_41_3 zr_62_35 ?_ ?_
            · intro h15
              refine zw_15 (c := 1) (L' := [(2, 1), (1, a0), (9, 0), (1, i11), (9, 0), (0, (i2 + 1)), (0, i12)]) zr_62_84 rfl (by decide) (by omega) rfl ?_
              refine zw_42 zr_62_87 ?_
              exact zw_less (L := [(2, 1), (1, a0), (9, 0), (1, i11), (9, 0), (0, (i2 + 1)), (9, 0)]) ⟨Or.inr rfl, Or.inr rfl, Or.inl rfl, Or.inr rfl, Or.inl rfl, Or.inr rfl, Or.inl rfl, trivial⟩ (ihlp5_3 (i11) ((i2 + 1))  (by omega) (by omega) (by omega) (by omega)  (by omega))
            · intro h16
              refine zw_push zr_62_38 ?_
              refine zw_5 zr_62_41 rfl ?_
              refine zw_29h zr_62_42 ?_
              intro x17 hx17a hx17b
              refine zw_7 zr_62_43 rfl ?_
              refine zw_46r (s := 3) zr_62_44 rfl rfl rfl rfl ?_
              refine zw_4 zr_62_47 rfl ?_
              refine zw_push zr_62_49 ?_
              refine zw_18 zr_62_50 (by omega) ?_
              refine zw_4 zr_62_51 rfl ?_
              refine zw_16 zr_62_53 (by omega) ?_
              refine zw_48 (c := 3) (len := 40) zr_62_54 rfl rfl (by omega) (by omega) ?_
              intro x18 ex18
              have bx18 := ib_3 hI0 (k := (((i2 * 4) + i12)).toNat) (by omega)
              rw [← ex18] at bx18
              clear ex18
              refine zw_36 zr_62_55 ?_
              refine zw_27h zr_62_56 ?_
              intro x19 hx19a hx19b
              refine zw_13 (L' := [(2, 1), (1, a0), (9, 0), (1, x19), (9, 0), (0, i2), (0, i12)]) zr_62_57 (Nat.le_of_ble_eq_true rfl) rfl ?_
              refine zw_push zr_62_58 ?_
              refine zw_5 zr_62_61 rfl ?_
              refine zw_29h zr_62_62 ?_
              intro x20 hx20a hx20b
              refine zw_7 zr_62_63 rfl ?_
              refine zw_46r (s := 4) zr_62_64 rfl rfl rfl rfl ?_
              refine zw_4 zr_62_67 rfl ?_
              refine zw_push zr_62_69 ?_
              refine zw_18 zr_62_70 (by omega) ?_
              refine zw_4 zr_62_71 rfl ?_
              refine zw_16 zr_62_73 (by omega) ?_
              refine zw_48 (c := 4) (len := 40) zr_62_74 rfl rfl (by omega) (by omega) ?_
              intro x21 ex21
              have bx21 := ib_4 hI0 (k := (((i2 * 4) + i12)).toNat) (by omega)
              rw [← ex21] at bx21
              clear ex21
              refine zw_36 zr_62_75 ?_
              refine zw_27h zr_62_76 ?_
              intro x22 hx22a hx22b
              refine zw_13 (L' := [(2, 1), (1, a0), (9, 0), (1, x22), (9, 0), (0, i2), (0, i12)]) zr_62_77 (Nat.le_of_ble_eq_true rfl) rfl ?_
              refine zw_15 (c := 1) (L' := [(2, 1), (1, a0), (9, 0), (1, x22), (9, 0), (0, i2), (0, (i12 + 1))]) zr_62_78 rfl (by decide) (by omega) rfl ?_
              refine zw_42 zr_62_81 ?_
              exact zw_less (L := [(2, 1), (1, a0), (9, 0), (1, x22), (9, 0), (0, i2), (0, (i12 + 1))]) ⟨Or.inr rfl, Or.inr rfl, Or.inl rfl, Or.inr rfl, Or.inl rfl, Or.inr rfl, Or.inr rfl, trivial⟩ (ihlp32_13 (x22) ((i12 + 1))  (by omega) (by omega) (by omega) (by omega)  (by omega))
        exact lp32_13 _ (x10) (0)  (by omega) (by omega) (by omega) (by omega)  (Nat.lt_succ_self _)
  exact lp5_3 _ (a0) (0)  (by omega) (by omega) (by omega) (by omega)  (Nat.lt_succ_self _)

set_option maxHeartbeats 8000000 in
theorem th_63 {E : zE} {d : Nat} {m0 : zM} {a0 : Int} (hd : 1 ≤ d) (hI0 : zInv m0) (ha0 : (-9223372036854775808) ≤ a0 ∧ a0 ≤ 9223372036854775807) : zC E d 63 [(2, 1), (1, a0)] m0 (fun v m' => ∃ r : Int, v = (1, r) ∧ (-9223372036854775808) ≤ r ∧ r ≤ 9223372036854775807 ∧ m0 = m') := by
  generalize hQ : (fun (v : zV) (m' : zM) => ∃ r : Int, v = (1, r) ∧ (-9223372036854775808) ≤ r ∧ r ≤ 9223372036854775807 ∧ m0 = m') = Q
  show zW E d 63 0 [(2, 1), (1, a0), (9, 0), (9, 0), (9, 0), (9, 0)] [] m0 Q
  refine zw_5 zr_63_0 rfl ?_
  refine zw_13 (L' := [(2, 1), (1, a0), (9, 0), (1, a0), (9, 0), (9, 0)]) zr_63_1 (Nat.le_of_ble_eq_true rfl) rfl ?_
  refine zw_push zr_63_2 ?_
  refine zw_10 (L' := [(2, 1), (1, a0), (9, 0), (1, a0), (9, 0), (0, 0)]) zr_63_3 (Nat.le_of_ble_eq_true rfl) rfl ?_
  have lp5_3 : ∀ (nlp5_3 : Nat) (i1 i2 : Int), (-9223372036854775808) ≤ i1 → i1 ≤ 9223372036854775807 → 0 ≤ i2 → i2 ≤ 60 → (60 - i2).toNat < nlp5_3 → zW E (d) 63 5 [(2, 1), (1, a0), (9, 0), (1, i1), (9, 0), (0, i2)] [] m0 Q := by
    intro nlp5_3
    induction nlp5_3 with
    | zero =>
      intros
      exact absurd (by assumption : _ < 0) (Nat.not_lt_zero _)
    | succ nlp5_3 ihlp5_3 =>
      intro i1 i2 li1 ui1 li2 ui2 hmlp5_3
      refine zw_4 zr_63_5 rfl ?_
      refine zw_7 zr_63_7 rfl ?_
      obtain ⟨f5, ef5⟩ : ∃ v, m0 1 1 = v := ⟨_, rfl⟩
      have bf5 := ib_1_1 hI0
      rw [ef5] at bf5
      refine zw_46i zr_63_8 ef5 rfl rfl rfl ?_
      refine zw_41_3 zr_63_11 ?_ ?_
      · intro h6
        refine zw_5 zr_63_112 rfl ?_
        refine zw_R zr_63_113 (by decide) zm_63 (v := (1, i1)) rfl ?_
        rw [← hQ]; exact ⟨_, rfl, by omega, by omega, rfl⟩
      · intro h7
        refine zw_push zr_63_14 ?_
        refine zw_5 zr_63_17 rfl ?_
        refine zw_29h zr_63_18 ?_
        intro x8 hx8a hx8b
        refine zw_7 zr_63_19 rfl ?_
        refine zw_46r (s := 5) zr_63_20 rfl rfl rfl rfl ?_
        refine zw_4 zr_63_23 rfl ?_
        refine zw_48 (c := 5) (len := 60) zr_63_25 rfl rfl (by omega) (by omega) ?_
        intro x9 ex9
        have bx9 := ib_5 hI0 (k := (i2).toNat) (by omega)
        rw [← ex9] at bx9
        clear ex9
        refine zw_36 zr_63_26 ?_
        refine zw_27h zr_63_27 ?_
        intro x10 hx10a hx10b
        refine zw_13 (L' := [(2, 1), (1, a0), (9, 0), (1, x10), (9, 0), (0, i2)]) zr_63_28 (Nat.le_of_ble_eq_true rfl) rfl ?_
        refine zw_push zr_63_29 ?_
        refine zw_5 zr_63_32 rfl ?_
        refine zw_29h zr_63_33 ?_
        intro x11 hx11a hx11b
        refine zw_7 zr_63_34 rfl ?_
        refine zw_46r (s := 6) zr_63_35 rfl rfl rfl rfl ?_
        refine zw_4 zr_63_38 rfl ?_
        refine zw_48 (c := 6) (len := 60) zr_63_40 rfl rfl (by omega) (by omega) ?_
        intro x12 ex12
        have bx12 := ib_6 hI0 (k := (i2).toNat) (by omega)
        rw [← ex12] at bx12
        clear ex12
        refine zw_36 zr_63_41 ?_
        refine zw_27h zr_63_42 ?_
        intro x13 hx13a hx13b
        refine zw_13 (L' := [(2, 1), (1, a0), (9, 0), (1, x13), (9, 0), (0, i2)]) zr_63_43 (Nat.le_of_ble_eq_true rfl) rfl ?_
        refine zw_push zr_63_44 ?_
        refine zw_5 zr_63_47 rfl ?_
        refine zw_29h zr_63_48 ?_
        intro x14 hx14a hx14b
        refine zw_7 zr_63_49 rfl ?_
        refine zw_46r (s := 7) zr_63_50 rfl rfl rfl rfl ?_
        refine zw_4 zr_63_53 rfl ?_
        refine zw_48 (c := 7) (len := 60) zr_63_55 rfl rfl (by omega) (by omega) ?_
        intro x15 ex15
        have bx15 := ib_7 hI0 (k := (i2).toNat) (by omega)
        rw [← ex15] at bx15
        clear ex15
        refine zw_36 zr_63_56 ?_
        refine zw_27h zr_63_57 ?_
        intro x16 hx16a hx16b
        refine zw_13 (L' := [(2, 1), (1, a0), (9, 0), (1, x16), (9, 0), (0, i2)]) zr_63_58 (Nat.le_of_ble_eq_true rfl) rfl ?_
        refine zw_push zr_63_59 ?_
        refine zw_5 zr_63_62 rfl ?_
        refine zw_29h zr_63_63 ?_
        intro x17 hx17a hx17b
        refine zw_7 zr_63_64 rfl ?_
        refine zw_46r (s := 8) zr_63_65 rfl rfl rfl rfl ?_
        refine zw_4 zr_63_68 rfl ?_
        refine zw_48 (c := 8) (len := 60) zr_63_70 rfl rfl (by omega) (by omega) ?_
        intro x18 ex18
        have bx18 := ib_8 hI0 (k := (i2).toNat) (by omega)
        rw [← ex18] at bx18
        clear ex18
        refine zw_36 zr_63_71 ?_
        refine zw_27h zr_63_72 ?_
        intro x19 hx19a hx19b
        refine zw_13 (L' := [(2, 1), (1, a0), (9, 0), (1, x19), (9, 0), (0, i2)]) zr_63_73 (Nat.le_of_ble_eq_true rfl) rfl ?_
        refine zw_push zr_63_74 ?_
        refine zw_5 zr_63_77 rfl ?_
        refine zw_29h zr_63_78 ?_
        intro x20 hx20a hx20b
        refine zw_7 zr_63_79 rfl ?_
        obtain ⟨f21, ef21⟩ : ∃ v, m0 1 2 = v := ⟨_, rfl⟩
        have bf21 := hI0.fl (c := 1) (k := 2) rfl
        rw [ef21] at bf21
        refine zw_46l zr_63_80 ef21 rfl rfl rfl ?_
        refine zw_4 zr_63_83 rfl ?_
        refine zw_34h zr_63_85 ?_
        intro x22 hx22a hx22b
        refine zw_push zr_63_86 ?_
        refine zw_30h zr_63_87 ?_
        intro x23 hx23a hx23b
        refine zw_27h zr_63_88 ?_
        intro x24 hx24a hx24b
        refine zw_13 (L' := [(2, 1), (1, a0), (9, 0), (1, x24), (9, 0), (0, i2)]) zr_63_89 (Nat.le_of_ble_eq_true rfl) rfl ?_
        refine zw_push zr_63_90 ?_
        refine zw_5 zr_63_93 rfl ?_
        refine zw_29h zr_63_94 ?_
        intro x25 hx25a hx25b
        refine zw_7 zr_63_95 rfl ?_
        obtain ⟨f26, ef26⟩ : ∃ v, m0 1 3 = v := ⟨_, rfl⟩
        have bf26 := hI0.fl (c := 1) (k := 3) rfl
        rw [ef26] at bf26
        refine zw_46l zr_63_96 ef26 rfl rfl rfl ?_
        refine zw_4 zr_63_99 rfl ?_
        refine zw_34h zr_63_101 ?_
        intro x27 hx27a hx27b
        refine zw_push zr_63_102 ?_
        refine zw_30h zr_63_103 ?_
        intro x28 hx28a hx28b
        refine zw_27h zr_63_104 ?_
        intro x29 hx29a hx29b
        refine zw_13 (L' := [(2, 1), (1, a0), (9, 0), (1, x29), (9, 0), (0, i2)]) zr_63_105 (Nat.le_of_ble_eq_true rfl) rfl ?_
        refine zw_15 (c := 1) (L' := [(2, 1), (1, a0), (9, 0), (1, x29), (9, 0), (0, (i2 + 1))]) zr_63_106 rfl (by decide) (by omega) rfl ?_
        refine zw_42 zr_63_109 ?_
        exact zw_less (L := [(2, 1), (1, a0), (9, 0), (1, x29), (9, 0), (0, (i2 + 1))]) ⟨Or.inr rfl, Or.inr rfl, Or.inl rfl, Or.inr rfl, Or.inl rfl, Or.inr rfl, trivial⟩ (ihlp5_3 (x29) ((i2 + 1))  (by omega) (by omega) (by omega) (by omega)  (by omega))
  exact lp5_3 _ (a0) (0)  (by omega) (by omega) (by omega) (by omega)  (Nat.lt_succ_self _)

set_option maxHeartbeats 8000000 in
theorem th_64 {E : zE} {d : Nat} {m0 : zM} {a0 : Int} (hd : 2 ≤ d) (hI0 : zInv m0) (ha0 : (-9223372036854775808) ≤ a0 ∧ a0 ≤ 9223372036854775807) : zC E d 64 [(2, 1), (1, a0)] m0 (fun v m' => ∃ r : Int, v = (1, r) ∧ (-9223372036854775808) ≤ r ∧ r ≤ 9223372036854775807 ∧ m0 = m') := by
  generalize hQ : (fun (v : zV) (m' : zM) => ∃ r : Int, v = (1, r) ∧ (-9223372036854775808) ≤ r ∧ r ≤ 9223372036854775807 ∧ m0 = m') = Q
  show zW E d 64 0 [(2, 1), (1, a0), (9, 0), (9, 0), (9, 0), (9, 0), (9, 0)] [] m0 Q
  refine zw_7 zr_64_0 rfl ?_
  refine zw_5 zr_64_1 rfl ?_
  refine zw_C zr_64_2 (Or.inl rfl) zm_62 rfl rfl ⟨Nat.le_of_ble_eq_true rfl, Nat.le_of_ble_eq_true rfl, Nat.le_of_ble_eq_true rfl, rfl, by decide⟩ (by omega) (th_62 (d := d - 1) (by omega) hI0 (a0 := a0)      (by omega) ) ?_
  rintro _ _ ⟨r1, rfl, hr1a, hr1b, rfl⟩
  show zW E (d) 64 5 [(2, 1), (1, a0), (9, 0), (9, 0), (9, 0), (9, 0), (9, 0)] [(1, r1)] m0 Q
  refine zw_13 (L' := [(2, 1), (1, a0), (9, 0), (1, r1), (9, 0), (9, 0), (9, 0)]) zr_64_5 (Nat.le_of_ble_eq_true rfl) rfl ?_
  refine zw_7 zr_64_6 rfl ?_
  refine zw_5 zr_64_7 rfl ?_
  refine zw_C zr_64_8 (Or.inl rfl) zm_63 rfl rfl ⟨Nat.le_of_ble_eq_true rfl, Nat.le_of_ble_eq_true rfl, Nat.le_of_ble_eq_true rfl, rfl, by decide⟩ (by omega) (th_63 (d := d - 1) (by omega) hI0 (a0 := r1)      (by omega) ) ?_
  rintro _ _ ⟨r2, rfl, hr2a, hr2b, rfl⟩
  show zW E (d) 64 11 [(2, 1), (1, a0), (9, 0), (1, r1), (9, 0), (9, 0), (9, 0)] [(1, r2)] m0 Q
  refine zw_13 (L' := [(2, 1), (1, a0), (9, 0), (1, r2), (9, 0), (9, 0), (9, 0)]) zr_64_11 (Nat.le_of_ble_eq_true rfl) rfl ?_
  refine zw_push zr_64_12 ?_
  refine zw_10 (L' := [(2, 1), (1, a0), (9, 0), (1, r2), (9, 0), (0, 0), (9, 0)]) zr_64_13 (Nat.le_of_ble_eq_true rfl) rfl ?_
  have lp15_5 : ∀ (nlp15_5 : Nat) (i3 i4 : Int), (-9223372036854775808) ≤ i3 → i3 ≤ 9223372036854775807 → 0 ≤ i4 → i4 ≤ 4 → (4 - i4).toNat < nlp15_5 → zW E (d) 64 15 [(2, 1), (1, a0), (9, 0), (1, i3), (9, 0), (0, i4), (9, 0)] [] m0 Q := by
    intro nlp15_5
    induction nlp15_5 with
    | zero =>
      intros
      exact absurd (by assumption : _ < 0) (Nat.not_lt_zero _)
    | succ nlp15_5 ihlp15_5 =>
      intro i3 i4 li3 ui3 li4 ui4 hmlp15_5
      refine zw_4 zr_64_15 rfl ?_
      refine zw_push zr_64_17 ?_
      refine zw_41_3 zr_64_18 ?_ ?_
      · intro h7
        refine zw_push zr_64_99 ?_
        refine zw_10 (L' := [(2, 1), (1, a0), (9, 0), (1, i3), (9, 0), (0, 0), (9, 0)]) zr_64_100 (Nat.le_of_ble_eq_true rfl) rfl ?_
        have lp102_10 : ∀ (nlp102_10 : Nat) (i8 i9 : Int), (-9223372036854775808) ≤ i8 → i8 ≤ 9223372036854775807 → 0 ≤ i9 → i9 ≤ 160 → (160 - i9).toNat < nlp102_10 → zW E (d) 64 102 [(2, 1), (1, a0), (9, 0), (1, i8), (9, 0), (0, i9), (9, 0)] [] m0 Q := by
          intro nlp102_10
          induction nlp102_10 with
          | zero =>
            intros
            exact absurd (by assumption : _ < 0) (Nat.not_lt_zero _)
          | succ nlp102_10 ihlp102_10 =>
            intro i8 i9 li8 ui8 li9 ui9 hmlp102_10
            refine zw_4 zr_64_102 rfl ?_
            refine zw_push zr_64_104 ?_
            refine zw_41_3 zr_64_107 ?_ ?_
            · intro h12
              refine zw_push zr_64_131 ?_
              refine zw_5 zr_64_134 rfl ?_
              refine zw_29h zr_64_135 ?_
              intro x13 hx13a hx13b
              refine zw_7 zr_64_136 rfl ?_
              obtain ⟨f14, ef14⟩ : ∃ v, m0 1 4 = v := ⟨_, rfl⟩
              have bf14 := ib_1_4 hI0
              rw [ef14] at bf14
              refine zw_46i zr_64_137 ef14 rfl rfl rfl ?_
              refine zw_36 zr_64_140 ?_
              refine zw_27h zr_64_141 ?_
              intro x15 hx15a hx15b
              refine zw_13 (L' := [(2, 1), (1, a0), (9, 0), (1, x15), (9, 0), (0, i9), (9, 0)]) zr_64_142 (Nat.le_of_ble_eq_true rfl) rfl ?_
              refine zw_push zr_64_143 ?_
              refine zw_5 zr_64_146 rfl ?_
              refine zw_29h zr_64_147 ?_
              intro x16 hx16a hx16b
              refine zw_7 zr_64_148 rfl ?_
              obtain ⟨f17, ef17⟩ : ∃ v, m0 1 5 = v := ⟨_, rfl⟩
              have bf17 := ib_1_5 hI0
              rw [ef17] at bf17
              refine zw_46i zr_64_149 ef17 rfl rfl rfl ?_
              refine zw_36 zr_64_152 ?_
              refine zw_27h zr_64_153 ?_
              intro x18 hx18a hx18b
              refine zw_13 (L' := [(2, 1), (1, a0), (9, 0), (1, x18), (9, 0), (0, i9), (9, 0)]) zr_64_154 (Nat.le_of_ble_eq_true rfl) rfl ?_
              refine zw_push zr_64_155 ?_
              refine zw_10 (L' := [(2, 1), (1, a0), (9, 0), (1, x18), (9, 0), (0, 0), (9, 0)]) zr_64_156 (Nat.le_of_ble_eq_true rfl) rfl ?_
              have lp158_21 : ∀ (nlp158_21 : Nat) (i19 i20 : Int), (-9223372036854775808) ≤ i19 → i19 ≤ 9223372036854775807 → 0 ≤ i20 → i20 ≤ 4 → (4 - i20).toNat < nlp158_21 → zW E (d) 64 158 [(2, 1), (1, a0), (9, 0), (1, i19), (9, 0), (0, i20), (9, 0)] [] m0 Q := by
                intro nlp158_21
                induction nlp158_21 with
                | zero =>
                  intros
                  exact absurd (by assumption : _ < 0) (Nat.not_lt_zero _)
                | succ nlp158_21 ihlp158_21 =>
                  intro i19 i20 li19 ui19 li20 ui20 hmlp158_21
                  refine zw_4 zr_64_158 rfl ?_
                  refine zw_push zr_64_160 ?_
                  refine zw_41_3 zr_64_161 ?_ ?_
                  · intro h23
                    refine zw_5 zr_64_185 rfl ?_
                    refine zw_R zr_64_186 (by decide) zm_64 (v := (1, i19)) rfl ?_
                    rw [← hQ]; exact ⟨_, rfl, by omega, by omega, rfl⟩
                  · intro h24
                    refine zw_push zr_64_164 ?_
                    refine zw_5 zr_64_167 rfl ?_
                    refine zw_29h zr_64_168 ?_
                    intro x25 hx25a hx25b
                    refine zw_7 zr_64_169 rfl ?_
                    refine zw_46r (s := 13) zr_64_170 rfl rfl rfl rfl ?_
                    refine zw_4 zr_64_173 rfl ?_
                    refine zw_48 (c := 13) (len := 4) zr_64_175 rfl rfl (by omega) (by omega) ?_
                    intro x26 ex26
                    have bx26 := ib_13 hI0 (k := (i20).toNat) (by omega)
                    rw [← ex26] at bx26
                    clear ex26
                    refine zw_36 zr_64_176 ?_
                    refine zw_27h zr_64_177 ?_
                    intro x27 hx27a hx27b
                    refine zw_13 (L' := [(2, 1), (1, a0), (9, 0), (1, x27), (9, 0), (0, i20), (9, 0)]) zr_64_178 (Nat.le_of_ble_eq_true rfl) rfl ?_
                    refine zw_15 (c := 1) (L' := [(2, 1), (1, a0), (9, 0), (1, x27), (9, 0), (0, (i20 + 1)), (9, 0)]) zr_64_179 rfl (by decide) (by omega) rfl ?_
                    refine zw_42 zr_64_182 ?_
                    exact zw_less (L := [(2, 1), (1, a0), (9, 0), (1, x27), (9, 0), (0, (i20 + 1)), (9, 0)]) ⟨Or.inr rfl, Or.inr rfl, Or.inl rfl, Or.inr rfl, Or.inl rfl, Or.inr rfl, Or.inl rfl, trivial⟩ (ihlp158_21 (x27) ((i20 + 1))  (by omega) (by omega) (by omega) (by omega)  (by omega))
              exact lp158_21 _ (x18) (0)  (by omega) (by omega) (by omega) (by omega)  (Nat.lt_succ_self _)
            · intro h28
              refine zw_push zr_64_110 ?_
              refine zw_5 zr_64_113 rfl ?_
              refine zw_29h zr_64_114 ?_
              intro x29 hx29a hx29b
              refine zw_7 zr_64_115 rfl ?_
              refine zw_46r (s := 12) zr_64_116 rfl rfl rfl rfl ?_
              refine zw_4 zr_64_119 rfl ?_
              refine zw_48 (c := 12) (len := 160) zr_64_121 rfl rfl (by omega) (by omega) ?_
              intro x30 ex30
              have bx30 := ib_12 hI0 (k := (i9).toNat) (by omega)
              rw [← ex30] at bx30
              clear ex30
              refine zw_36 zr_64_122 ?_
              refine zw_27h zr_64_123 ?_
              intro x31 hx31a hx31b
              refine zw_13 (L' := [(2, 1), (1, a0), (9, 0), (1, x31), (9, 0), (0, i9), (9, 0)]) zr_64_124 (Nat.le_of_ble_eq_true rfl) rfl ?_
              refine zw_15 (c := 1) (L' := [(2, 1), (1, a0), (9, 0), (1, x31), (9, 0), (0, (i9 + 1)), (9, 0)]) zr_64_125 rfl (by decide) (by omega) rfl ?_
              refine zw_42 zr_64_128 ?_
              exact zw_less (L := [(2, 1), (1, a0), (9, 0), (1, x31), (9, 0), (0, (i9 + 1)), (9, 0)]) ⟨Or.inr rfl, Or.inr rfl, Or.inl rfl, Or.inr rfl, Or.inl rfl, Or.inr rfl, Or.inl rfl, trivial⟩ (ihlp102_10 (x31) ((i9 + 1))  (by omega) (by omega) (by omega) (by omega)  (by omega))
        exact lp102_10 _ (i3) (0)  (by omega) (by omega) (by omega) (by omega)  (Nat.lt_succ_self _)
      · intro h32
        refine zw_push zr_64_21 ?_
        refine zw_5 zr_64_24 rfl ?_
        refine zw_29h zr_64_25 ?_
        intro x33 hx33a hx33b
        refine zw_7 zr_64_26 rfl ?_
        refine zw_46r (s := 9) zr_64_27 rfl rfl rfl rfl ?_
        refine zw_4 zr_64_30 rfl ?_
        refine zw_48 (c := 9) (len := 4) zr_64_32 rfl rfl (by omega) (by omega) ?_
        intro x34 ex34
        have bx34 := ib_9 hI0 (k := (i4).toNat) (by omega)
        rw [← ex34] at bx34
        clear ex34
        refine zw_36 zr_64_33 ?_
        refine zw_27h zr_64_34 ?_
        intro x35 hx35a hx35b
        refine zw_13 (L' := [(2, 1), (1, a0), (9, 0), (1, x35), (9, 0), (0, i4), (9, 0)]) zr_64_35 (Nat.le_of_ble_eq_true rfl) rfl ?_
        refine zw_push zr_64_36 ?_
        refine zw_5 zr_64_39 rfl ?_
        refine zw_29h zr_64_40 ?_
        intro x36 hx36a hx36b
        refine zw_7 zr_64_41 rfl ?_
        refine zw_46r (s := 10) zr_64_42 rfl rfl rfl rfl ?_
        refine zw_4 zr_64_45 rfl ?_
        refine zw_48 (c := 10) (len := 4) zr_64_47 rfl rfl (by omega) (by omega) ?_
        intro x37 ex37
        have bx37 := ib_10 hI0 (k := (i4).toNat) (by omega)
        rw [← ex37] at bx37
        refine zw_36 zr_64_48 ?_
        refine zw_27h zr_64_49 ?_
        intro x38 hx38a hx38b
        refine zw_13 (L' := [(2, 1), (1, a0), (9, 0), (1, x38), (9, 0), (0, i4), (9, 0)]) zr_64_50 (Nat.le_of_ble_eq_true rfl) rfl ?_
        refine zw_push zr_64_51 ?_
        refine zw_10 (L' := [(2, 1), (1, a0), (9, 0), (1, x38), (9, 0), (0, i4), (0, 0)]) zr_64_52 (Nat.le_of_ble_eq_true rfl) rfl ?_
        have lp54_41 : ∀ (nlp54_41 : Nat) (i39 i40 : Int), (-9223372036854775808) ≤ i39 → i39 ≤ 9223372036854775807 → 0 ≤ i40 → i40 ≤ 50 → (50 - i40).toNat < nlp54_41 → zW E (d) 64 54 [(2, 1), (1, a0), (9, 0), (1, i39), (9, 0), (0, i4), (0, i40)] [] m0 Q := by
          intro nlp54_41
          induction nlp54_41 with
          | zero =>
            intros
            exact absurd (by assumption : _ < 0) (Nat.not_lt_zero _)
          | succ nlp54_41 ihlp54_41 =>
            intro i39 i40 li39 ui39 li40 ui40 hmlp54_41
            refine zw_4 zr_64_54 rfl ?_
            refine zw_7 zr_64_56 rfl ?_
            refine zw_46r (s := 10) zr_64_57 rfl rfl rfl rfl ?_
            refine zw_4 zr_64_60 rfl ?_
            refine zw_48k (c := 10) (len := 4) zr_64_62 rfl rfl (by omega) (by omega) rfl ex37.symm ?_
            refine zw_41_3 zr_64_63 ?_ ?_
            · intro h43
              refine zw_15 (c := 1) (L' := [(2, 1), (1, a0), (9, 0), (1, i39), (9, 0), (0, (i4 + 1)), (0, i40)]) zr_64_93 rfl (by decide) (by omega) rfl ?_
              refine zw_42 zr_64_96 ?_
              exact zw_less (L := [(2, 1), (1, a0), (9, 0), (1, i39), (9, 0), (0, (i4 + 1)), (9, 0)]) ⟨Or.inr rfl, Or.inr rfl, Or.inl rfl, Or.inr rfl, Or.inl rfl, Or.inr rfl, Or.inl rfl, trivial⟩ (ihlp15_5 (i39) ((i4 + 1))  (by omega) (by omega) (by omega) (by omega)  (by omega))
            · intro h44
              refine zw_push zr_64_66 ?_
              refine zw_5 zr_64_69 rfl ?_
              refine zw_29h zr_64_70 ?_
              intro x45 hx45a hx45b
              refine zw_7 zr_64_71 rfl ?_
              refine zw_46r (s := 11) zr_64_72 rfl rfl rfl rfl ?_
              refine zw_4 zr_64_75 rfl ?_
              refine zw_push zr_64_77 ?_
              refine zw_18 zr_64_79 (by omega) ?_
              refine zw_4 zr_64_80 rfl ?_
              refine zw_16 zr_64_82 (by omega) ?_
              refine zw_48 (c := 11) (len := 200) zr_64_83 rfl rfl (by omega) (by omega) ?_
              intro x46 ex46
              have bx46 := ib_11 hI0 (k := (((i4 * 50) + i40)).toNat) (by omega)
              rw [← ex46] at bx46
              clear ex46
              refine zw_36 zr_64_84 ?_
              refine zw_27h zr_64_85 ?_
              intro x47 hx47a hx47b
              refine zw_13 (L' := [(2, 1), (1, a0), (9, 0), (1, x47), (9, 0), (0, i4), (0, i40)]) zr_64_86 (Nat.le_of_ble_eq_true rfl) rfl ?_
              refine zw_15 (c := 1) (L' := [(2, 1), (1, a0), (9, 0), (1, x47), (9, 0), (0, i4), (0, (i40 + 1))]) zr_64_87 rfl (by decide) (by omega) rfl ?_
              refine zw_42 zr_64_90 ?_
              exact zw_less (L := [(2, 1), (1, a0), (9, 0), (1, x47), (9, 0), (0, i4), (0, (i40 + 1))]) ⟨Or.inr rfl, Or.inr rfl, Or.inl rfl, Or.inr rfl, Or.inl rfl, Or.inr rfl, Or.inr rfl, trivial⟩ (ihlp54_41 (x47) ((i40 + 1))  (by omega) (by omega) (by omega) (by omega)  (by omega))
        exact lp54_41 _ (x38) (0)  (by omega) (by omega) (by omega) (by omega)  (Nat.lt_succ_self _)
  exact lp15_5 _ (r2) (0)  (by omega) (by omega) (by omega) (by omega)  (Nat.lt_succ_self _)
