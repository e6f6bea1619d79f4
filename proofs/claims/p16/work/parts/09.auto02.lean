abbrev W_15_1 : List (Nat × Nat) := [(45, 1), (45, 5), (45, 6), (45, 7), (45, 8), (47, 1000), (48, 1000)]
set_option maxHeartbeats 8000000 in
theorem th_15_1 {E : zE} {d : Nat} {m0 : zM} {a0 : Int} (hd : 93 ≤ d) (hI0 : zInv m0) (ha0 : 0 ≤ a0 ∧ a0 ≤ 3) : zC E d 15 [(2, 45), (2, 1), (0, a0)] m0 (fun v m' => v = (9, 0) ∧ zInv m' ∧ zFr W_15_1 m0 m') := by
  have hF0 : zFr W_15_1 m0 m0 := zFr.rfl
  generalize hQ : (fun (v : zV) (m' : zM) => v = (9, 0) ∧ zInv m' ∧ zFr W_15_1 m0 m') = Q
  show zW E d 15 0 [(2, 45), (2, 1), (0, a0)] [] m0 Q
  refine zw_7 zr_15_0 rfl ?_
  refine zw_7 zr_15_1 rfl ?_
  refine zw_46r (s := 10) zr_15_2 rfl rfl rfl rfl ?_
  refine zw_3 zr_15_5 rfl ?_
  refine zw_48 (c := 10) (len := 4) zr_15_6 rfl rfl (by omega) (by omega) ?_
  intro x1 ex1
  have bx1 := ib_10 hI0 (k := (a0).toNat) (by omega)
  rw [← ex1] at bx1
  clear ex1
  refine zw_47 (c := 45) zr_15_7 rfl ⟨rfl, by decide, rfl⟩ ?_
  intro m2 em2
  have hIm2 : zInv m2 := by rw [em2]; exact hI0.bd (r := 45) (k := 5) (lo := 0) (hi := 50) rfl (by omega) (by decide) (by decide) (by decide)
  have hFm2 : zFr W_15_1 m0 m2 := by rw [em2]; exact hF0.up rfl
  have km2_45_5 : m2 45 5 = x1 := by rw [em2]; exact zUp_eq _ _ _ _
  clear em2
  refine zw_7 zr_15_10 rfl ?_
  refine zw_46r (s := 11) zr_15_11 rfl rfl rfl rfl ?_
  refine zw_3 zr_15_14 rfl ?_
  refine zw_push zr_15_15 ?_
  refine zw_18 zr_15_17 (by omega) ?_
  refine zw_7 zr_15_18 rfl ?_
  refine zw_46r (s := 47) zr_15_19 rfl rfl rfl rfl ?_
  refine zw_push zr_15_22 ?_
  refine zw_7 zr_15_23 rfl ?_
  refine zw_46i zr_15_24 km2_45_5 rfl rfl rfl ?_
  refine zw_114 (c1 := 47) (c2 := 11) (l1 := 50) (l2 := 200) zr_15_27 rfl rfl rfl rfl (by decide) (Nat.le_of_ble_eq_true rfl) (by omega) (by omega) ?_
  intro m3 em3
  have hIm3 : zInv m3 := by rw [em3]; exact zInv.cpT hIm2 (by omega)
  have hFm3 : zFr W_15_1 m0 m3 := by rw [em3]; exact hFm2.cp rfl
  have km3_45_5 : m3 45 5 = x1 := by rw [em3, zCp_ne (by decide)]; exact km2_45_5
  clear em3
  refine zw_7 zr_15_30 rfl ?_
  refine zw_push zr_15_31 ?_
  refine zw_47 (c := 45) zr_15_32 rfl ⟨rfl, by decide, rfl⟩ ?_
  intro m4 em4
  have hIm4 : zInv m4 := by rw [em4]; exact hIm3.bd (r := 45) (k := 6) (lo := 0) (hi := 50) rfl (by omega) (by decide) (by decide) (by decide)
  have hFm4 : zFr W_15_1 m0 m4 := by rw [em4]; exact hFm3.up rfl
  have km4_45_5 : m4 45 5 = x1 := by rw [em4, zUp_ne (by omega)]; exact km3_45_5
  have km4_45_6 : m4 45 6 = 0 := by rw [em4]; exact zUp_eq _ _ _ _
  clear em4
  refine zw_7 zr_15_35 rfl ?_
  refine zw_push zr_15_36 ?_
  refine zw_47 (c := 45) zr_15_37 rfl ⟨rfl, by decide, rfl⟩ ?_
  intro m5 em5
  have hIm5 : zInv m5 := by rw [em5]; exact hIm4.bd (r := 45) (k := 7) (lo := 0) (hi := 8) rfl (by omega) (by decide) (by decide) (by decide)
  have hFm5 : zFr W_15_1 m0 m5 := by rw [em5]; exact hFm4.up rfl
  have km5_45_5 : m5 45 5 = x1 := by rw [em5, zUp_ne (by omega)]; exact km4_45_5
  have km5_45_6 : m5 45 6 = 0 := by rw [em5, zUp_ne (by omega)]; exact km4_45_6
  have km5_45_7 : m5 45 7 = 0 := by rw [em5]; exact zUp_eq _ _ _ _
  clear em5
  refine zw_7 zr_15_40 rfl ?_
  refine zw_push zr_15_41 ?_
  refine zw_47 (c := 45) zr_15_42 rfl ⟨rfl, by decide, rfl⟩ ?_
  intro m6 em6
  have hIm6 : zInv m6 := by rw [em6]; exact hIm5.bd (r := 45) (k := 8) (lo := 0) (hi := 50) rfl (by omega) (by decide) (by decide) (by decide)
  have hFm6 : zFr W_15_1 m0 m6 := by rw [em6]; exact hFm5.up rfl
  have km6_45_5 : m6 45 5 = x1 := by rw [em6, zUp_ne (by omega)]; exact km5_45_5
  have km6_45_6 : m6 45 6 = 0 := by rw [em6, zUp_ne (by omega)]; exact km5_45_6
  have km6_45_7 : m6 45 7 = 0 := by rw [em6, zUp_ne (by omega)]; exact km5_45_7
  have km6_45_8 : m6 45 8 = 0 := by rw [em6]; exact zUp_eq _ _ _ _
  clear em6
  refine zw_7 zr_15_45 rfl ?_
  refine zw_push zr_15_46 ?_
  refine zw_47 (c := 45) zr_15_47 rfl ⟨rfl, by decide, rfl⟩ ?_
  intro m7 em7
  have hIm7 : zInv m7 := by rw [em7]; exact hIm6.any (by omega) rfl (by decide) (by decide)
  have hFm7 : zFr W_15_1 m0 m7 := by rw [em7]; exact hFm6.up rfl
  have km7_45_5 : m7 45 5 = x1 := by rw [em7, zUp_ne (by omega)]; exact km6_45_5
  have km7_45_6 : m7 45 6 = 0 := by rw [em7, zUp_ne (by omega)]; exact km6_45_6
  have km7_45_7 : m7 45 7 = 0 := by rw [em7, zUp_ne (by omega)]; exact km6_45_7
  have km7_45_8 : m7 45 8 = 0 := by rw [em7, zUp_ne (by omega)]; exact km6_45_8
  have km7_45_1 : m7 45 1 = (-1) := by rw [em7]; exact zUp_eq _ _ _ _
  clear em7
  refine zw_7 zr_15_50 rfl ?_
  refine zw_push zr_15_51 ?_
  refine zw_C zr_15_52 (Or.inl rfl) zm_13 rfl rfl ⟨Nat.le_of_ble_eq_true rfl, Nat.le_of_ble_eq_true rfl, Nat.le_of_ble_eq_true rfl, rfl, by decide⟩ (by omega) (th_13 (d := d - 1) (by omega) hIm7 (a0 := 0) (g0 := 0)   km7_45_7  (by omega) ) ?_
  rintro _ m8 ⟨rfl, hIm8, gm8, po0_m8⟩
  have hFm8 : zFr W_15_1 m0 m8 := hFm7.trans gm8 rfl
  have km8_45_5 : m8 45 5 = x1 := (gm8 45 5 rfl).trans km7_45_5
  show zW E (d) 15 55 [(2, 45), (2, 1), (0, a0)] [] m8 Q
  refine zw_7 zr_15_55 rfl ?_
  obtain ⟨f9, ef9⟩ : ∃ v, m8 45 1 = v := ⟨_, rfl⟩
  have bf9 := hIm8.fi (c := 45) (k := 1) rfl
  rw [ef9] at bf9
  refine zw_46i zr_15_56 ef9 rfl rfl rfl ?_
  refine zw_push zr_15_59 ?_
  refine zw_41_4 zr_15_60 ?_ ?_
  · intro h10
    refine zw_R zr_15_76 (by decide) zm_15 (v := (9, 0)) rfl ?_
    rw [← hQ]; exact ⟨rfl, hIm8, hFm8⟩
  · intro h11
    refine zw_7 zr_15_63 rfl ?_
    refine zw_C zr_15_64 (Or.inl rfl) zm_6 rfl rfl ⟨Nat.le_of_ble_eq_true rfl, Nat.le_of_ble_eq_true rfl, Nat.le_of_ble_eq_true rfl, rfl, by decide⟩ (by omega) (th_6 (d := d - 1) (by omega) hIm8        ) ?_
    rintro _ m12 ⟨r13, rfl, hr13a, hr13b, hIm12, gm12, po0_r13⟩
    have hFm12 : zFr W_15_1 m0 m12 := hFm8.trans gm12 rfl
    have km12_45_5 : m12 45 5 = x1 := (gm12 45 5 rfl).trans km8_45_5
    have km12_45_7 : m12 45 7 = 0 := (gm12 45 7 rfl).trans po0_m8
    have km12_45_1 : m12 45 1 = f9 := (gm12 45 1 rfl).trans ef9
    obtain ⟨f14, ef14⟩ : ∃ v, m12 45 6 = v := ⟨_, rfl⟩
    have bf14 := ib_45_6 hIm12
    rw [ef14] at bf14
    show zW E (d) 15 67 [(2, 45), (2, 1), (0, a0)] [(0, r13)] m12 Q
    refine zw_push zr_15_67 ?_
    refine zw_41_1 zr_15_68 ?_ ?_
    · intro h15
      refine zw_R zr_15_76 (by decide) zm_15 (v := (9, 0)) rfl ?_
      rw [← hQ]; exact ⟨rfl, hIm12, hFm12⟩
    · intro h16
      refine zw_7 zr_15_71 rfl ?_
      refine zw_push zr_15_72 ?_
      refine zw_C zr_15_73 (Or.inl rfl) zm_5 rfl rfl ⟨Nat.le_of_ble_eq_true rfl, Nat.le_of_ble_eq_true rfl, Nat.le_of_ble_eq_true rfl, rfl, by decide⟩ (by omega) (P := (fun v m' => zW E (d) 15 76 [(2, 45), (2, 1), (0, a0)] (if v.1 = 9 then [] else v :: []) m' Q)) ?_ (fun _ _ h => h)
      generalize hQ1 : (fun v m' => zW E (d) 15 76 [(2, 45), (2, 1), (0, a0)] (if v.1 = 9 then [] else v :: []) m' Q) = Q1
      show zW E (d - 1) 5 0 [(2, 45), (0, 1)] [] m12 Q1
      refine zw_7 zr_5_0 rfl ?_
      refine zw_46i zr_5_1 km12_45_1 rfl rfl rfl ?_
      refine zw_push zr_5_4 ?_
      refine zw_41_4 zr_5_5 ?_ ?_
      · intro h17; omega
      · intro h18
        refine zw_7 zr_5_8 rfl ?_
        refine zw_7 zr_5_9 rfl ?_
        refine zw_46i zr_5_10 ef14 rfl rfl rfl ?_
        refine zw_push zr_5_13 ?_
        refine zw_18 zr_5_15 (by omega) ?_
        refine zw_3 zr_5_16 rfl ?_
        refine zw_16 zr_5_17 (by omega) ?_
        refine zw_47 (c := 45) zr_5_18 rfl ⟨rfl, by decide, rfl⟩ ?_
        intro m19 em19
        have hIm19 : zInv m19 := by rw [em19]; exact hIm12.any (by omega) rfl (by decide) (by decide)
        have hFm19 : zFr W_15_1 m0 m19 := by rw [em19]; exact hFm12.up rfl
        have km19_45_5 : m19 45 5 = x1 := by rw [em19, zUp_ne (by omega)]; exact km12_45_5
        have km19_45_7 : m19 45 7 = 0 := by rw [em19, zUp_ne (by omega)]; exact km12_45_7
        have km19_45_6 : m19 45 6 = f14 := by rw [em19, zUp_ne (by omega)]; exact ef14
        have km19_45_1 : m19 45 1 = ((f14 * 10) + 1) := by rw [em19]; exact zUp_eq _ _ _ _
        clear em19
        refine zw_R zr_5_21 (by decide) zm_5 (v := (9, 0)) rfl ?_
        rw [← hQ1]
        show zW E (d) 15 76 [(2, 45), (2, 1), (0, a0)] [] m19 Q
        refine zw_R zr_15_76 (by decide) zm_15 (v := (9, 0)) rfl ?_
        rw [← hQ]; exact ⟨rfl, hIm19, hFm19⟩

abbrev W_40 : List (Nat × Nat) := [(45, 1), (45, 5), (45, 6), (45, 7), (45, 8), (47, 1000), (48, 1000)]
set_option maxHeartbeats 8000000 in
theorem th_40 {E : zE} {d : Nat} {m0 : zM} {a0 : Int} (hd : 94 ≤ d) (hI0 : zInv m0) (ha0 : 0 ≤ a0 ∧ a0 ≤ 3) : zC E d 40 [(2, 43), (0, a0)] m0 (fun v m' => ∃ r : Int, v = (0, r) ∧ (-2147483648) ≤ r ∧ r ≤ 2147483647 ∧ zInv m' ∧ zFr W_40 m0 m') := by
  have hF0 : zFr W_40 m0 m0 := zFr.rfl
  generalize hQ : (fun (v : zV) (m' : zM) => ∃ r : Int, v = (0, r) ∧ (-2147483648) ≤ r ∧ r ≤ 2147483647 ∧ zInv m' ∧ zFr W_40 m0 m') = Q
  show zW E d 40 0 [(2, 43), (0, a0)] [] m0 Q
  refine zw_7 zr_40_0 rfl ?_
  refine zw_46r (s := 45) zr_40_1 rfl rfl rfl rfl ?_
  refine zw_7 zr_40_4 rfl ?_
  refine zw_46r (s := 1) zr_40_5 rfl rfl rfl rfl ?_
  refine zw_3 zr_40_8 rfl ?_
  refine zw_C zr_40_9 (Or.inl rfl) zm_15 rfl rfl ⟨Nat.le_of_ble_eq_true rfl, Nat.le_of_ble_eq_true rfl, Nat.le_of_ble_eq_true rfl, rfl, by decide⟩ (by omega) (th_15_1 (d := d - 1) (by omega) hI0 (a0 := a0)      (by omega) ) ?_
  rintro _ m1 ⟨rfl, hIm1, gm1⟩
  have hFm1 : zFr W_40 m0 m1 := hF0.trans gm1 rfl
  show zW E (d) 40 12 [(2, 43), (0, a0)] [] m1 Q
  refine zw_7 zr_40_12 rfl ?_
  refine zw_46r (s := 45) zr_40_13 rfl rfl rfl rfl ?_
  obtain ⟨f2, ef2⟩ : ∃ v, m1 45 1 = v := ⟨_, rfl⟩
  have bf2 := hIm1.fi (c := 45) (k := 1) rfl
  rw [ef2] at bf2
  refine zw_46i zr_40_16 ef2 rfl rfl rfl ?_
  refine zw_R zr_40_19 (by decide) zm_40 (v := (0, f2)) rfl ?_
  rw [← hQ]; exact ⟨_, rfl, by omega, by omega, hIm1, hFm1⟩

abbrev W_108 : List (Nat × Nat) := [(45, 1), (45, 5), (45, 6), (45, 7), (45, 8), (47, 1000), (48, 1000)]
set_option maxHeartbeats 8000000 in
theorem th_108 {E : zE} {d : Nat} {m0 : zM} {a0 : Int} (hd : 95 ≤ d) (hI0 : zInv m0) (ha0 : (-2147483648) ≤ a0 ∧ a0 ≤ 2147483647) : zC E d 108 [(2, 0), (0, a0)] m0 (fun v m' => ∃ r : Int, v = (0, r) ∧ (-2147483648) ≤ r ∧ r ≤ 2147483647 ∧ zInv m' ∧ zFr W_108 m0 m') := by
  have hF0 : zFr W_108 m0 m0 := zFr.rfl
  generalize hQ : (fun (v : zV) (m' : zM) => ∃ r : Int, v = (0, r) ∧ (-2147483648) ≤ r ∧ r ≤ 2147483647 ∧ zInv m' ∧ zFr W_108 m0 m') = Q
  show zW E d 108 0 [(2, 0), (0, a0)] [] m0 Q
  refine zw_3 zr_108_0 rfl ?_
  refine zw_C zr_108_1 (Or.inr rfl) zm_104 rfl rfl ⟨Nat.le_of_ble_eq_true rfl, Nat.le_of_ble_eq_true rfl, Nat.le_of_ble_eq_true rfl, rfl, by decide⟩ (by omega) (P := (fun v m' => zW E (d) 108 4 [(2, 0), (0, a0)] (if v.1 = 9 then [] else v :: []) m' Q)) ?_ (fun _ _ h => h)
  generalize hQ1 : (fun v m' => zW E (d) 108 4 [(2, 0), (0, a0)] (if v.1 = 9 then [] else v :: []) m' Q) = Q1
  show zW E (d - 1) 104 0 [(0, a0)] [] m0 Q1
  refine zw_3 zr_104_0 rfl ?_
  refine zw_push zr_104_1 ?_
  refine zw_push zr_104_2 ?_
  refine zw_C zr_104_3 (Or.inr rfl) zm_100 rfl rfl ⟨Nat.le_of_ble_eq_true rfl, Nat.le_of_ble_eq_true rfl, Nat.le_of_ble_eq_true rfl, rfl, by decide⟩ (by omega) (P := (fun v m' => zW E (d - 1) 104 6 [(0, a0)] (if v.1 = 9 then [] else v :: []) m' Q1)) ?_ (fun _ _ h => h)
  generalize hQ2 : (fun v m' => zW E (d - 1) 104 6 [(0, a0)] (if v.1 = 9 then [] else v :: []) m' Q1) = Q2
  show zW E (d - 1 - 1) 100 0 [(0, a0), (0, 0), (0, 3)] [] m0 Q2
  refine zw_3 zr_100_0 rfl ?_
  refine zw_3 zr_100_1 rfl ?_
  refine zw_41_0 zr_100_2 ?_ ?_
  · intro h1
    refine zw_push zr_100_14 ?_
    refine zw_R zr_100_15 (by decide) zm_100 (v := (0, 0)) (zRetB (by omega)) ?_
    rw [← hQ2]
    show zW E (d - 1) 104 6 [(0, a0)] [(0, 0)] m0 Q1
    refine zw_R zr_104_6 (by decide) zm_104 (v := (0, 0)) (zRetB (by omega)) ?_
    rw [← hQ1]
    show zW E (d) 108 4 [(2, 0), (0, a0)] [(0, 0)] m0 Q
    refine zw_40_1 zr_108_4 ?_ ?_
    · intro h2
      refine zw_push zr_108_18 ?_
      refine zw_R zr_108_20 (by decide) zm_108 (v := (0, (-2))) rfl ?_
      rw [← hQ]; exact ⟨_, rfl, by omega, by omega, hI0, hF0⟩
    · intro h3; omega
  · intro h4
    refine zw_3 zr_100_5 rfl ?_
    refine zw_3 zr_100_6 rfl ?_
    refine zw_41_2 zr_100_7 ?_ ?_
    · intro h5
      refine zw_push zr_100_14 ?_
      refine zw_R zr_100_15 (by decide) zm_100 (v := (0, 0)) (zRetB (by omega)) ?_
      rw [← hQ2]
      show zW E (d - 1) 104 6 [(0, a0)] [(0, 0)] m0 Q1
      refine zw_R zr_104_6 (by decide) zm_104 (v := (0, 0)) (zRetB (by omega)) ?_
      rw [← hQ1]
      show zW E (d) 108 4 [(2, 0), (0, a0)] [(0, 0)] m0 Q
      refine zw_40_1 zr_108_4 ?_ ?_
      · intro h6
        refine zw_push zr_108_18 ?_
        refine zw_R zr_108_20 (by decide) zm_108 (v := (0, (-2))) rfl ?_
        rw [← hQ]; exact ⟨_, rfl, by omega, by omega, hI0, hF0⟩
      · intro h7; omega
    · intro h8
      refine zw_push zr_100_10 ?_
      refine zw_42 zr_100_11 ?_
      refine zw_R zr_100_15 (by decide) zm_100 (v := (0, 1)) (zRetB (by omega)) ?_
      rw [← hQ2]
      show zW E (d - 1) 104 6 [(0, a0)] [(0, 1)] m0 Q1
      refine zw_R zr_104_6 (by decide) zm_104 (v := (0, 1)) (zRetB (by omega)) ?_
      rw [← hQ1]
      show zW E (d) 108 4 [(2, 0), (0, a0)] [(0, 1)] m0 Q
      refine zw_40_1 zr_108_4 ?_ ?_
      · intro h9; omega
      · intro h10
        refine zw_7 zr_108_7 rfl ?_
        refine zw_46r (s := 43) zr_108_8 rfl rfl rfl rfl ?_
        refine zw_3 zr_108_11 rfl ?_
        refine zw_C zr_108_12 (Or.inl rfl) zm_40 rfl rfl ⟨Nat.le_of_ble_eq_true rfl, Nat.le_of_ble_eq_true rfl, Nat.le_of_ble_eq_true rfl, rfl, by decide⟩ (by omega) (th_40 (d := d - 1) (by omega) hI0 (a0 := a0)      (by omega) ) ?_
        rintro _ m11 ⟨r12, rfl, hr12a, hr12b, hIm11, gm11⟩
        have hFm11 : zFr W_108 m0 m11 := hF0.trans gm11 rfl
        show zW E (d) 108 15 [(2, 0), (0, a0)] [(0, r12)] m11 Q
        refine zw_42 zr_108_15 ?_
        refine zw_R zr_108_20 (by decide) zm_108 (v := (0, r12)) rfl ?_
        rw [← hQ]; exact ⟨_, rfl, by omega, by omega, hIm11, hFm11⟩

abbrev W_154 : List (Nat × Nat) := [(69, 6)]
set_option maxHeartbeats 8000000 in
theorem th_154 {E : zE} {d : Nat} {m0 : zM} {g0 : Int} (hd : 2 ≤ d) (hI0 : zInv m0) (hg0 : m0 69 6 = g0) : zC E d 154 [(2, 69)] m0 (fun v m' => ∃ r : Int, v = (0, r) ∧ (-1) ≤ r ∧ r ≤ 127 ∧ zInv m' ∧ zFr W_154 m0 m' ∧ (r = -1 ∨ m' 69 6 ≤ 49) ∧ (g0 ≤ m' 69 6)) := by
  have hF0 : zFr W_154 m0 m0 := zFr.rfl
  have bg0 := ib_69_6 hI0
  rw [hg0] at bg0
  generalize hQ : (fun (v : zV) (m' : zM) => ∃ r : Int, v = (0, r) ∧ (-1) ≤ r ∧ r ≤ 127 ∧ zInv m' ∧ zFr W_154 m0 m' ∧ (r = -1 ∨ m' 69 6 ≤ 49) ∧ (g0 ≤ m' 69 6)) = Q
  show zW E d 154 0 [(2, 69)] [] m0 Q
  have lp0_3 : ∀ (nlp0_3 : Nat) (p2 : Int) (m1 : zM), zInv m1 → zFr W_154 m0 m1 → m1 69 6 = p2 → 0 ≤ p2 → p2 ≤ 50 → (g0 ≤ p2) → (50 - p2).toNat < nlp0_3 → zW E (d) 154 0 [(2, 69)] [] m1 Q := by
    intro nlp0_3
    induction nlp0_3 with
    | zero =>
      intros
      exact absurd (by assumption : _ < 0) (Nat.not_lt_zero _)
    | succ nlp0_3 ihlp0_3 =>
      intro p2 m1 hIm1 hFm1 km1_69_6 lp2 up2 hv0lp0_3 hmlp0_3
      refine zw_7 zr_154_0 rfl ?_
      refine zw_46i zr_154_1 km1_69_6 rfl rfl rfl ?_
      refine zw_7 zr_154_4 rfl ?_
      refine zw_C zr_154_5 (Or.inl rfl) zm_152 rfl rfl ⟨Nat.le_of_ble_eq_true rfl, Nat.le_of_ble_eq_true rfl, Nat.le_of_ble_eq_true rfl, rfl, by decide⟩ (by omega) (P := (fun v m' => zW E (d) 154 8 [(2, 69)] (if v.1 = 9 then [(0, p2)] else v :: [(0, p2)]) m' Q)) ?_ (fun _ _ h => h)
      generalize hQ1 : (fun v m' => zW E (d) 154 8 [(2, 69)] (if v.1 = 9 then [(0, p2)] else v :: [(0, p2)]) m' Q) = Q1
      show zW E (d - 1) 152 0 [(2, 69)] [] m1 Q1
      refine zw_7 zr_152_0 rfl ?_
      refine zw_46r (s := 70) zr_152_1 rfl rfl rfl rfl ?_
      refine zw_push zr_152_4 ?_
      refine zw_push zr_152_7 ?_
      refine zw_7 zr_152_9 rfl ?_
      obtain ⟨f5, ef5⟩ : ∃ v, m1 69 5 = v := ⟨_, rfl⟩
      have bf5 := ib_69_5 hIm1
      rw [ef5] at bf5
      refine zw_46i zr_152_10 ef5 rfl rfl rfl ?_
      refine zw_18 zr_152_13 (by omega) ?_
      refine zw_16 zr_152_14 (by omega) ?_
      refine zw_push zr_152_15 ?_
      refine zw_16 zr_152_16 (by omega) ?_
      refine zw_48 (c := 70) (len := 826) zr_152_17 rfl rfl (by omega) (by omega) ?_
      intro x6 ex6
      have bx6 := ib_70_s1 hIm1 (k := (((450 + (52 * f5)) + 1)).toNat) (by omega)
      rw [← ex6] at bx6
      refine zw_R zr_152_18 (by decide) zm_152 (v := (0, x6)) rfl ?_
      rw [← hQ1]
      show zW E (d) 154 8 [(2, 69)] [(0, x6), (0, p2)] m1 Q
      refine zw_41_3 zr_154_8 ?_ ?_
      · intro h7
        refine zw_7 zr_154_37 rfl ?_
        refine zw_46i zr_154_38 km1_69_6 rfl rfl rfl ?_
        refine zw_7 zr_154_41 rfl ?_
        refine zw_C zr_154_42 (Or.inl rfl) zm_152 rfl rfl ⟨Nat.le_of_ble_eq_true rfl, Nat.le_of_ble_eq_true rfl, Nat.le_of_ble_eq_true rfl, rfl, by decide⟩ (by omega) (P := (fun v m' => zW E (d) 154 45 [(2, 69)] (if v.1 = 9 then [(0, p2)] else v :: [(0, p2)]) m' Q)) ?_ (fun _ _ h => h)
        generalize hQ1 : (fun v m' => zW E (d) 154 45 [(2, 69)] (if v.1 = 9 then [(0, p2)] else v :: [(0, p2)]) m' Q) = Q1
        show zW E (d - 1) 152 0 [(2, 69)] [] m1 Q1
        refine zw_7 zr_152_0 rfl ?_
        refine zw_46r (s := 70) zr_152_1 rfl rfl rfl rfl ?_
        refine zw_push zr_152_4 ?_
        refine zw_push zr_152_7 ?_
        refine zw_7 zr_152_9 rfl ?_
        refine zw_46i zr_152_10 ef5 rfl rfl rfl ?_
        refine zw_18 zr_152_13 (by omega) ?_
        refine zw_16 zr_152_14 (by omega) ?_
        refine zw_push zr_152_15 ?_
        refine zw_16 zr_152_16 (by omega) ?_
        refine zw_48k (c := 70) (len := 826) zr_152_17 rfl rfl (by omega) (by omega) rfl ex6.symm ?_
        refine zw_R zr_152_18 (by decide) zm_152 (v := (0, x6)) rfl ?_
        rw [← hQ1]
        show zW E (d) 154 45 [(2, 69)] [(0, x6), (0, p2)] m1 Q
        refine zw_41_3 zr_154_45 ?_ ?_
        · intro h8
          refine zw_push zr_154_59 ?_
          refine zw_R zr_154_60 (by decide) zm_154 (v := (0, (-1))) rfl ?_
          rw [← hQ]; exact ⟨_, rfl, by omega, by omega, hIm1, hFm1, by omega, by omega⟩
        · intro h11
          refine zw_7 zr_154_48 rfl ?_
          refine zw_7 zr_154_49 rfl ?_
          refine zw_46i zr_154_50 km1_69_6 rfl rfl rfl ?_
          refine zw_C zr_154_53 (Or.inl rfl) zm_153 rfl rfl ⟨Nat.le_of_ble_eq_true rfl, Nat.le_of_ble_eq_true rfl, Nat.le_of_ble_eq_true rfl, rfl, by decide⟩ (by omega) (P := (fun v m' => zW E (d) 154 56 [(2, 69)] (if v.1 = 9 then [] else v :: []) m' Q)) ?_ (fun _ _ h => h)
          generalize hQ1 : (fun v m' => zW E (d) 154 56 [(2, 69)] (if v.1 = 9 then [] else v :: []) m' Q) = Q1
          show zW E (d - 1) 153 0 [(2, 69), (0, p2)] [] m1 Q1
          refine zw_7 zr_153_0 rfl ?_
          refine zw_46r (s := 70) zr_153_1 rfl rfl rfl rfl ?_
          refine zw_push zr_153_4 ?_
          refine zw_push zr_153_7 ?_
          refine zw_7 zr_153_9 rfl ?_
          refine zw_46i zr_153_10 ef5 rfl rfl rfl ?_
          refine zw_18 zr_153_13 (by omega) ?_
          refine zw_16 zr_153_14 (by omega) ?_
          refine zw_push zr_153_15 ?_
          refine zw_16 zr_153_16 (by omega) ?_
          refine zw_3 zr_153_17 rfl ?_
          refine zw_16 zr_153_18 (by omega) ?_
          refine zw_48 (c := 70) (len := 826) zr_153_19 rfl rfl (by omega) (by omega) ?_
          intro x12 ex12
          have bx12 := ib_70_s2 hIm1 (k := ((((450 + (52 * f5)) + 2) + p2)).toNat) (by omega)
          rw [← ex12] at bx12
          refine zw_R zr_153_20 (by decide) zm_153 (v := (0, x12)) rfl ?_
          rw [← hQ1]
          show zW E (d) 154 56 [(2, 69)] [(0, x12)] m1 Q
          refine zw_42 zr_154_56 ?_
          refine zw_R zr_154_60 (by decide) zm_154 (v := (0, x12)) rfl ?_
          rw [← hQ]; exact ⟨_, rfl, by omega, by omega, hIm1, hFm1, by omega, by omega⟩
      · intro h15
        refine zw_7 zr_154_11 rfl ?_
        refine zw_7 zr_154_12 rfl ?_
        refine zw_46i zr_154_13 km1_69_6 rfl rfl rfl ?_
        refine zw_C zr_154_16 (Or.inl rfl) zm_153 rfl rfl ⟨Nat.le_of_ble_eq_true rfl, Nat.le_of_ble_eq_true rfl, Nat.le_of_ble_eq_true rfl, rfl, by decide⟩ (by omega) (P := (fun v m' => zW E (d) 154 19 [(2, 69)] (if v.1 = 9 then [] else v :: []) m' Q)) ?_ (fun _ _ h => h)
        generalize hQ1 : (fun v m' => zW E (d) 154 19 [(2, 69)] (if v.1 = 9 then [] else v :: []) m' Q) = Q1
        show zW E (d - 1) 153 0 [(2, 69), (0, p2)] [] m1 Q1
        refine zw_7 zr_153_0 rfl ?_
        refine zw_46r (s := 70) zr_153_1 rfl rfl rfl rfl ?_
        refine zw_push zr_153_4 ?_
        refine zw_push zr_153_7 ?_
        refine zw_7 zr_153_9 rfl ?_
        refine zw_46i zr_153_10 ef5 rfl rfl rfl ?_
        refine zw_18 zr_153_13 (by omega) ?_
        refine zw_16 zr_153_14 (by omega) ?_
        refine zw_push zr_153_15 ?_
        refine zw_16 zr_153_16 (by omega) ?_
        refine zw_3 zr_153_17 rfl ?_
        refine zw_16 zr_153_18 (by omega) ?_
        refine zw_48 (c := 70) (len := 826) zr_153_19 rfl rfl (by omega) (by omega) ?_
        intro x16 ex16
        have bx16 := ib_70_s2 hIm1 (k := ((((450 + (52 * f5)) + 2) + p2)).toNat) (by omega)
        rw [← ex16] at bx16
        refine zw_R zr_153_20 (by decide) zm_153 (v := (0, x16)) rfl ?_
        rw [← hQ1]
        show zW E (d) 154 19 [(2, 69)] [(0, x16)] m1 Q
        refine zw_push zr_154_19 ?_
        refine zw_41_4 zr_154_21 ?_ ?_
        · intro h17
          refine zw_7 zr_154_37 rfl ?_
          refine zw_46i zr_154_38 km1_69_6 rfl rfl rfl ?_
          refine zw_7 zr_154_41 rfl ?_
          refine zw_C zr_154_42 (Or.inl rfl) zm_152 rfl rfl ⟨Nat.le_of_ble_eq_true rfl, Nat.le_of_ble_eq_true rfl, Nat.le_of_ble_eq_true rfl, rfl, by decide⟩ (by omega) (P := (fun v m' => zW E (d) 154 45 [(2, 69)] (if v.1 = 9 then [(0, p2)] else v :: [(0, p2)]) m' Q)) ?_ (fun _ _ h => h)
          generalize hQ1 : (fun v m' => zW E (d) 154 45 [(2, 69)] (if v.1 = 9 then [(0, p2)] else v :: [(0, p2)]) m' Q) = Q1
          show zW E (d - 1) 152 0 [(2, 69)] [] m1 Q1
          refine zw_7 zr_152_0 rfl ?_
          refine zw_46r (s := 70) zr_152_1 rfl rfl rfl rfl ?_
          refine zw_push zr_152_4 ?_
          refine zw_push zr_152_7 ?_
          refine zw_7 zr_152_9 rfl ?_
          refine zw_46i zr_152_10 ef5 rfl rfl rfl ?_
          refine zw_18 zr_152_13 (by omega) ?_
          refine zw_16 zr_152_14 (by omega) ?_
          refine zw_push zr_152_15 ?_
          refine zw_16 zr_152_16 (by omega) ?_
          refine zw_48k (c := 70) (len := 826) zr_152_17 rfl rfl (by omega) (by omega) rfl ex6.symm ?_
          refine zw_R zr_152_18 (by decide) zm_152 (v := (0, x6)) rfl ?_
          rw [← hQ1]
          show zW E (d) 154 45 [(2, 69)] [(0, x6), (0, p2)] m1 Q
          refine zw_41_3 zr_154_45 ?_ ?_
          · intro h18
            refine zw_push zr_154_59 ?_
            refine zw_R zr_154_60 (by decide) zm_154 (v := (0, (-1))) rfl ?_
            rw [← hQ]; exact ⟨_, rfl, by omega, by omega, hIm1, hFm1, by omega, by omega⟩
          · intro h21
            refine zw_7 zr_154_48 rfl ?_
            refine zw_7 zr_154_49 rfl ?_
            refine zw_46i zr_154_50 km1_69_6 rfl rfl rfl ?_
            refine zw_C zr_154_53 (Or.inl rfl) zm_153 rfl rfl ⟨Nat.le_of_ble_eq_true rfl, Nat.le_of_ble_eq_true rfl, Nat.le_of_ble_eq_true rfl, rfl, by decide⟩ (by omega) (P := (fun v m' => zW E (d) 154 56 [(2, 69)] (if v.1 = 9 then [] else v :: []) m' Q)) ?_ (fun _ _ h => h)
            generalize hQ1 : (fun v m' => zW E (d) 154 56 [(2, 69)] (if v.1 = 9 then [] else v :: []) m' Q) = Q1
            show zW E (d - 1) 153 0 [(2, 69), (0, p2)] [] m1 Q1
            refine zw_7 zr_153_0 rfl ?_
            refine zw_46r (s := 70) zr_153_1 rfl rfl rfl rfl ?_
            refine zw_push zr_153_4 ?_
            refine zw_push zr_153_7 ?_
            refine zw_7 zr_153_9 rfl ?_
            refine zw_46i zr_153_10 ef5 rfl rfl rfl ?_
            refine zw_18 zr_153_13 (by omega) ?_
            refine zw_16 zr_153_14 (by omega) ?_
            refine zw_push zr_153_15 ?_
            refine zw_16 zr_153_16 (by omega) ?_
            refine zw_3 zr_153_17 rfl ?_
            refine zw_16 zr_153_18 (by omega) ?_
            refine zw_48k (c := 70) (len := 826) zr_153_19 rfl rfl (by omega) (by omega) rfl ex16.symm ?_
            refine zw_R zr_153_20 (by decide) zm_153 (v := (0, x16)) rfl ?_
            rw [← hQ1]
            show zW E (d) 154 56 [(2, 69)] [(0, x16)] m1 Q
            refine zw_42 zr_154_56 ?_
            refine zw_R zr_154_60 (by decide) zm_154 (v := (0, x16)) rfl ?_
            rw [← hQ]; exact ⟨_, rfl, by omega, by omega, hIm1, hFm1, by omega, by omega⟩
        · intro h24
          refine zw_7 zr_154_24 rfl ?_
          refine zw_43 zr_154_25 rfl ?_
          refine zw_46i zr_154_26 km1_69_6 rfl rfl rfl ?_
          refine zw_push zr_154_29 ?_
          refine zw_16 zr_154_30 (by omega) ?_
          refine zw_47 (c := 69) zr_154_31 rfl ⟨rfl, by decide, rfl⟩ ?_
          intro m25 em25
          have hIm25 : zInv m25 := by rw [em25]; exact hIm1.bd (r := 69) (k := 6) (lo := 0) (hi := 50) rfl (by omega) (by decide) (by decide) (by decide)
          have hFm25 : zFr W_154 m0 m25 := by rw [em25]; exact hFm1.up rfl
          have km25_69_5 : m25 69 5 = f5 := by rw [em25, zUp_ne (by omega)]; exact ef5
          have km25_69_6 : m25 69 6 = (p2 + 1) := by rw [em25]; exact zUp_eq _ _ _ _
          clear em25
          refine zw_42 zr_154_34 ?_
          exact zw_less (L := [(2, 69)]) ⟨Or.inr rfl, trivial⟩ (ihlp0_3 ((p2 + 1)) m25 hIm25 hFm25  km25_69_6 (by omega) (by omega) (by omega) (by omega))
  exact lp0_3 _ (g0) m0 hI0 hF0  hg0 (by omega) (by omega) (by omega) (Nat.lt_succ_self _)

abbrev W_156 : List (Nat × Nat) := [(69, 9), (69, 11), (73, 1000)]
set_option maxHeartbeats 8000000 in
theorem th_156 {E : zE} {d : Nat} {m0 : zM} {g0 : Int} {g1 : Int} (hd : 1 ≤ d) (hI0 : zInv m0) (hg0 : m0 69 11 = g0) (hg1 : m0 69 9 = g1) (hp0 : 1 ≤ g0) (hp1 : 2 ≤ g1) : zC E d 156 [(2, 69)] m0 (fun v m' => v = (9, 0) ∧ zInv m' ∧ zFr W_156 m0 m' ∧ (m' 69 11 = (g0 - 1)) ∧ (m' 69 9 = (g1 - 1))) := by
  have hF0 : zFr W_156 m0 m0 := zFr.rfl
  have bg0 := ib_69_11 hI0
  rw [hg0] at bg0
  have bg1 := ib_69_9 hI0
  rw [hg1] at bg1
  generalize hQ : (fun (v : zV) (m' : zM) => v = (9, 0) ∧ zInv m' ∧ zFr W_156 m0 m' ∧ (m' 69 11 = (g0 - 1)) ∧ (m' 69 9 = (g1 - 1))) = Q
  show zW E d 156 0 [(2, 69), (9, 0), (9, 0), (9, 0), (9, 0), (9, 0), (9, 0)] [] m0 Q
  refine zw_7 zr_156_0 rfl ?_
  refine zw_43 zr_156_1 rfl ?_
  refine zw_46i zr_156_2 hg0 rfl rfl rfl ?_
  refine zw_push zr_156_5 ?_
  refine zw_17 zr_156_6 (by omega) ?_
  refine zw_47 (c := 69) zr_156_7 rfl ⟨rfl, by decide, rfl⟩ ?_
  intro m1 em1
  have hIm1 : zInv m1 := by rw [em1]; exact hI0.bd (r := 69) (k := 11) (lo := 0) (hi := 128) rfl (by omega) (by decide) (by decide) (by decide)
  have hFm1 : zFr W_156 m0 m1 := by rw [em1]; exact hF0.up rfl
  have km1_69_9 : m1 69 9 = g1 := by rw [em1, zUp_ne (by omega)]; exact hg1
  have km1_69_11 : m1 69 11 = (g0 - 1) := by rw [em1]; exact zUp_eq _ _ _ _
  clear em1
  refine zw_7 zr_156_10 rfl ?_
  refine zw_43 zr_156_11 rfl ?_
  refine zw_46i zr_156_12 km1_69_9 rfl rfl rfl ?_
  refine zw_push zr_156_15 ?_
  refine zw_17 zr_156_16 (by omega) ?_
  refine zw_47 (c := 69) zr_156_17 rfl ⟨rfl, by decide, rfl⟩ ?_
  intro m2 em2
  have hIm2 : zInv m2 := by rw [em2]; exact hIm1.bd (r := 69) (k := 9) (lo := 0) (hi := 64) rfl (by omega) (by decide) (by decide) (by decide)
  have hFm2 : zFr W_156 m0 m2 := by rw [em2]; exact hFm1.up rfl
  have km2_69_11 : m2 69 11 = (g0 - 1) := by rw [em2, zUp_ne (by omega)]; exact km1_69_11
  have km2_69_9 : m2 69 9 = (g1 - 1) := by rw [em2]; exact zUp_eq _ _ _ _
  clear em2
  refine zw_7 zr_156_20 rfl ?_
  refine zw_46r (s := 73) zr_156_21 rfl rfl rfl rfl ?_
  refine zw_7 zr_156_24 rfl ?_
  refine zw_46i zr_156_25 km2_69_9 rfl rfl rfl ?_
  refine zw_push zr_156_28 ?_
  refine zw_17 zr_156_29 (by omega) ?_
  refine zw_50 (c := 73) (len := 64) zr_156_30 rfl rfl (by omega) (by omega) ?_
  intro x3 ex3
  have bx3 := hIm2.rl (c := 73) (len := 64) (k := (((g1 - 1) - 1)).toNat) rfl (by omega)
  rw [← ex3] at bx3
  clear ex3
  refine zw_13 (L' := [(2, 69), (1, x3), (9, 0), (9, 0), (9, 0), (9, 0), (9, 0)]) zr_156_31 (Nat.le_of_ble_eq_true rfl) rfl ?_
  refine zw_7 zr_156_32 rfl ?_
  refine zw_46r (s := 73) zr_156_33 rfl rfl rfl rfl ?_
  refine zw_7 zr_156_36 rfl ?_
  refine zw_46i zr_156_37 km2_69_9 rfl rfl rfl ?_
  refine zw_50 (c := 73) (len := 64) zr_156_40 rfl rfl (by omega) (by omega) ?_
  intro x4 ex4
  have bx4 := hIm2.rl (c := 73) (len := 64) (k := ((g1 - 1)).toNat) rfl (by omega)
  rw [← ex4] at bx4
  clear ex4
  refine zw_13 (L' := [(2, 69), (1, x3), (9, 0), (1, x4), (9, 0), (9, 0), (9, 0)]) zr_156_41 (Nat.le_of_ble_eq_true rfl) rfl ?_
  refine zw_push zr_156_42 ?_
  refine zw_14 (L' := [(2, 69), (1, x3), (9, 0), (1, x4), (9, 0), (1, 0), (9, 0)]) zr_156_43 (Nat.le_of_ble_eq_true rfl) rfl ?_
  refine zw_7 zr_156_45 rfl ?_
  refine zw_46r (s := 74) zr_156_46 rfl rfl rfl rfl ?_
  refine zw_7 zr_156_49 rfl ?_
  refine zw_46i zr_156_50 km2_69_11 rfl rfl rfl ?_
  refine zw_48 (c := 74) (len := 128) zr_156_53 rfl rfl (by omega) (by omega) ?_
  intro x5 ex5
  have bx5 := ib_74 hIm2 (k := ((g0 - 1)).toNat) (by omega)
  rw [← ex5] at bx5
  clear ex5
  by_cases h6 : x5 = 38
  · refine zw_112 (off := 96) (t := 150) zr_156_54 (by rw [h6]; rfl) rfl ?_
    refine zw_5 zr_156_150 rfl ?_
    refine zw_push zr_156_151 ?_
    refine zw_39_1 zr_156_152 zr_156_153 ?_ ?_
    · intro h7
      refine zw_push zr_156_166 ?_
      refine zw_14 (L' := [(2, 69), (1, x3), (9, 0), (1, x4), (9, 0), (1, 0), (9, 0)]) zr_156_167 (Nat.le_of_ble_eq_true rfl) rfl ?_
      refine zw_42 zr_156_169 ?_
      refine zw_7 zr_156_259 rfl ?_
      refine zw_46r (s := 73) zr_156_260 rfl rfl rfl rfl ?_
      refine zw_7 zr_156_263 rfl ?_
      refine zw_46i zr_156_264 km2_69_9 rfl rfl rfl ?_
      refine zw_push zr_156_267 ?_
      refine zw_17 zr_156_268 (by omega) ?_
      refine zw_6 zr_156_269 rfl ?_
      refine zw_51 (c := 73) (len := 64) zr_156_271 rfl rfl (by omega) (by omega) ?_
      intro m8 em8
      have hIm8 : zInv m8 := by rw [em8]; exact hIm2.anyl (by omega) (zK3 rfl) rfl (by decide) (by decide)
      have hFm8 : zFr W_156 m0 m8 := by rw [em8]; exact hFm2.any rfl
      have km8_69_11 : m8 69 11 = (g0 - 1) := by rw [em8, zUp_ne (by omega)]; exact km2_69_11
      have km8_69_9 : m8 69 9 = (g1 - 1) := by rw [em8, zUp_ne (by omega)]; exact km2_69_9
      clear em8
      refine zw_R zr_156_272 (by decide) zm_156 (v := (9, 0)) rfl ?_
      rw [← hQ]; exact ⟨rfl, hIm8, hFm8, by omega, by omega⟩
    · intro h11
      refine zw_5 zr_156_156 rfl ?_
      refine zw_push zr_156_157 ?_
      refine zw_39_1 zr_156_158 zr_156_159 ?_ ?_
      · intro h12
        refine zw_push zr_156_166 ?_
        refine zw_14 (L' := [(2, 69), (1, x3), (9, 0), (1, x4), (9, 0), (1, 0), (9, 0)]) zr_156_167 (Nat.le_of_ble_eq_true rfl) rfl ?_
        refine zw_42 zr_156_169 ?_
        refine zw_7 zr_156_259 rfl ?_
        refine zw_46r (s := 73) zr_156_260 rfl rfl rfl rfl ?_
        refine zw_7 zr_156_263 rfl ?_
        refine zw_46i zr_156_264 km2_69_9 rfl rfl rfl ?_
        refine zw_push zr_156_267 ?_
        refine zw_17 zr_156_268 (by omega) ?_
        refine zw_6 zr_156_269 rfl ?_
        refine zw_51 (c := 73) (len := 64) zr_156_271 rfl rfl (by omega) (by omega) ?_
        intro m13 em13
        have hIm13 : zInv m13 := by rw [em13]; exact hIm2.anyl (by omega) (zK3 rfl) rfl (by decide) (by decide)
        have hFm13 : zFr W_156 m0 m13 := by rw [em13]; exact hFm2.any rfl
        have km13_69_11 : m13 69 11 = (g0 - 1) := by rw [em13, zUp_ne (by omega)]; exact km2_69_11
        have km13_69_9 : m13 69 9 = (g1 - 1) := by rw [em13, zUp_ne (by omega)]; exact km2_69_9
        clear em13
        refine zw_R zr_156_272 (by decide) zm_156 (v := (9, 0)) rfl ?_
        rw [← hQ]; exact ⟨rfl, hIm13, hFm13, by omega, by omega⟩
      · intro h16
        refine zw_push zr_156_162 ?_
        refine zw_42 zr_156_163 ?_
        refine zw_14 (L' := [(2, 69), (1, x3), (9, 0), (1, x4), (9, 0), (1, 1), (9, 0)]) zr_156_167 (Nat.le_of_ble_eq_true rfl) rfl ?_
        refine zw_42 zr_156_169 ?_
        refine zw_7 zr_156_259 rfl ?_
        refine zw_46r (s := 73) zr_156_260 rfl rfl rfl rfl ?_
        refine zw_7 zr_156_263 rfl ?_
        refine zw_46i zr_156_264 km2_69_9 rfl rfl rfl ?_
        refine zw_push zr_156_267 ?_
        refine zw_17 zr_156_268 (by omega) ?_
        refine zw_6 zr_156_269 rfl ?_
        refine zw_51 (c := 73) (len := 64) zr_156_271 rfl rfl (by omega) (by omega) ?_
        intro m17 em17
        have hIm17 : zInv m17 := by rw [em17]; exact hIm2.anyl (by omega) (zK3 rfl) rfl (by decide) (by decide)
        have hFm17 : zFr W_156 m0 m17 := by rw [em17]; exact hFm2.any rfl
        have km17_69_11 : m17 69 11 = (g0 - 1) := by rw [em17, zUp_ne (by omega)]; exact km2_69_11
        have km17_69_9 : m17 69 9 = (g1 - 1) := by rw [em17, zUp_ne (by omega)]; exact km2_69_9
        clear em17
        refine zw_R zr_156_272 (by decide) zm_156 (v := (9, 0)) rfl ?_
        rw [← hQ]; exact ⟨rfl, hIm17, hFm17, by omega, by omega⟩
  by_cases h20 : x5 = 42
  · refine zw_112 (off := 182) (t := 236) zr_156_54 (by rw [h20]; rfl) rfl ?_
    refine zw_5 zr_156_236 rfl ?_
    refine zw_5 zr_156_237 rfl ?_
    refine zw_29h zr_156_238 ?_
    intro x21 hx21a hx21b
    refine zw_14 (L' := [(2, 69), (1, x3), (9, 0), (1, x4), (9, 0), (1, x21), (9, 0)]) zr_156_239 (Nat.le_of_ble_eq_true rfl) rfl ?_
    refine zw_42 zr_156_241 ?_
    refine zw_7 zr_156_259 rfl ?_
    refine zw_46r (s := 73) zr_156_260 rfl rfl rfl rfl ?_
    refine zw_7 zr_156_263 rfl ?_
    refine zw_46i zr_156_264 km2_69_9 rfl rfl rfl ?_
    refine zw_push zr_156_267 ?_
    refine zw_17 zr_156_268 (by omega) ?_
    refine zw_6 zr_156_269 rfl ?_
    refine zw_51 (c := 73) (len := 64) zr_156_271 rfl rfl (by omega) (by omega) ?_
    intro m22 em22
    have hIm22 : zInv m22 := by rw [em22]; exact hIm2.anyl (by omega) (zK3 rfl) rfl (by decide) (by decide)
    have hFm22 : zFr W_156 m0 m22 := by rw [em22]; exact hFm2.any rfl
    have km22_69_11 : m22 69 11 = (g0 - 1) := by rw [em22, zUp_ne (by omega)]; exact km2_69_11
    have km22_69_9 : m22 69 9 = (g1 - 1) := by rw [em22, zUp_ne (by omega)]; exact km2_69_9
    clear em22
    refine zw_R zr_156_272 (by decide) zm_156 (v := (9, 0)) rfl ?_
    rw [← hQ]; exact ⟨rfl, hIm22, hFm22, by omega, by omega⟩
  by_cases h25 : x5 = 43
  · refine zw_112 (off := 166) (t := 220) zr_156_54 (by rw [h25]; rfl) rfl ?_
    refine zw_5 zr_156_220 rfl ?_
    refine zw_5 zr_156_221 rfl ?_
    refine zw_27h zr_156_222 ?_
    intro x26 hx26a hx26b
    refine zw_14 (L' := [(2, 69), (1, x3), (9, 0), (1, x4), (9, 0), (1, x26), (9, 0)]) zr_156_223 (Nat.le_of_ble_eq_true rfl) rfl ?_
    refine zw_42 zr_156_225 ?_
    refine zw_7 zr_156_259 rfl ?_
    refine zw_46r (s := 73) zr_156_260 rfl rfl rfl rfl ?_
    refine zw_7 zr_156_263 rfl ?_
    refine zw_46i zr_156_264 km2_69_9 rfl rfl rfl ?_
    refine zw_push zr_156_267 ?_
    refine zw_17 zr_156_268 (by omega) ?_
    refine zw_6 zr_156_269 rfl ?_
    refine zw_51 (c := 73) (len := 64) zr_156_271 rfl rfl (by omega) (by omega) ?_
    intro m27 em27
    have hIm27 : zInv m27 := by rw [em27]; exact hIm2.anyl (by omega) (zK3 rfl) rfl (by decide) (by decide)
    have hFm27 : zFr W_156 m0 m27 := by rw [em27]; exact hFm2.any rfl
    have km27_69_11 : m27 69 11 = (g0 - 1) := by rw [em27, zUp_ne (by omega)]; exact km2_69_11
    have km27_69_9 : m27 69 9 = (g1 - 1) := by rw [em27, zUp_ne (by omega)]; exact km2_69_9
    clear em27
    refine zw_R zr_156_272 (by decide) zm_156 (v := (9, 0)) rfl ?_
    rw [← hQ]; exact ⟨rfl, hIm27, hFm27, by omega, by omega⟩
  by_cases h30 : x5 = 45
  · refine zw_112 (off := 174) (t := 228) zr_156_54 (by rw [h30]; rfl) rfl ?_
    refine zw_5 zr_156_228 rfl ?_
    refine zw_5 zr_156_229 rfl ?_
    refine zw_28h zr_156_230 ?_
    intro x31 hx31a hx31b
    refine zw_14 (L' := [(2, 69), (1, x3), (9, 0), (1, x4), (9, 0), (1, x31), (9, 0)]) zr_156_231 (Nat.le_of_ble_eq_true rfl) rfl ?_
    refine zw_42 zr_156_233 ?_
    refine zw_7 zr_156_259 rfl ?_
    refine zw_46r (s := 73) zr_156_260 rfl rfl rfl rfl ?_
    refine zw_7 zr_156_263 rfl ?_
    refine zw_46i zr_156_264 km2_69_9 rfl rfl rfl ?_
    refine zw_push zr_156_267 ?_
    refine zw_17 zr_156_268 (by omega) ?_
    refine zw_6 zr_156_269 rfl ?_
    refine zw_51 (c := 73) (len := 64) zr_156_271 rfl rfl (by omega) (by omega) ?_
    intro m32 em32
    have hIm32 : zInv m32 := by rw [em32]; exact hIm2.anyl (by omega) (zK3 rfl) rfl (by decide) (by decide)
    have hFm32 : zFr W_156 m0 m32 := by rw [em32]; exact hFm2.any rfl
    have km32_69_11 : m32 69 11 = (g0 - 1) := by rw [em32, zUp_ne (by omega)]; exact km2_69_11
    have km32_69_9 : m32 69 9 = (g1 - 1) := by rw [em32, zUp_ne (by omega)]; exact km2_69_9
    clear em32
    refine zw_R zr_156_272 (by decide) zm_156 (v := (9, 0)) rfl ?_
    rw [← hQ]; exact ⟨rfl, hIm32, hFm32, by omega, by omega⟩
  by_cases h35 : x5 = 60
  · refine zw_112 (off := 118) (t := 172) zr_156_54 (by rw [h35]; rfl) rfl ?_
    refine zw_5 zr_156_172 rfl ?_
    refine zw_5 zr_156_173 rfl ?_
    refine zw_39_3 zr_156_174 zr_156_175 ?_ ?_
    · intro h36
      refine zw_push zr_156_182 ?_
      refine zw_14 (L' := [(2, 69), (1, x3), (9, 0), (1, x4), (9, 0), (1, 0), (9, 0)]) zr_156_183 (Nat.le_of_ble_eq_true rfl) rfl ?_
      refine zw_42 zr_156_185 ?_
      refine zw_7 zr_156_259 rfl ?_
      refine zw_46r (s := 73) zr_156_260 rfl rfl rfl rfl ?_
      refine zw_7 zr_156_263 rfl ?_
      refine zw_46i zr_156_264 km2_69_9 rfl rfl rfl ?_
      refine zw_push zr_156_267 ?_
      refine zw_17 zr_156_268 (by omega) ?_
      refine zw_6 zr_156_269 rfl ?_
      refine zw_51 (c := 73) (len := 64) zr_156_271 rfl rfl (by omega) (by omega) ?_
      intro m37 em37
      have hIm37 : zInv m37 := by rw [em37]; exact hIm2.anyl (by omega) (zK3 rfl) rfl (by decide) (by decide)
      have hFm37 : zFr W_156 m0 m37 := by rw [em37]; exact hFm2.any rfl
      have km37_69_11 : m37 69 11 = (g0 - 1) := by rw [em37, zUp_ne (by omega)]; exact km2_69_11
      have km37_69_9 : m37 69 9 = (g1 - 1) := by rw [em37, zUp_ne (by omega)]; exact km2_69_9
      clear em37
      refine zw_R zr_156_272 (by decide) zm_156 (v := (9, 0)) rfl ?_
      rw [← hQ]; exact ⟨rfl, hIm37, hFm37, by omega, by omega⟩
    · intro h40
      refine zw_push zr_156_178 ?_
      refine zw_42 zr_156_179 ?_
      refine zw_14 (L' := [(2, 69), (1, x3), (9, 0), (1, x4), (9, 0), (1, 1), (9, 0)]) zr_156_183 (Nat.le_of_ble_eq_true rfl) rfl ?_
      refine zw_42 zr_156_185 ?_
      refine zw_7 zr_156_259 rfl ?_
      refine zw_46r (s := 73) zr_156_260 rfl rfl rfl rfl ?_
      refine zw_7 zr_156_263 rfl ?_
      refine zw_46i zr_156_264 km2_69_9 rfl rfl rfl ?_
      refine zw_push zr_156_267 ?_
      refine zw_17 zr_156_268 (by omega) ?_
      refine zw_6 zr_156_269 rfl ?_
      refine zw_51 (c := 73) (len := 64) zr_156_271 rfl rfl (by omega) (by omega) ?_
      intro m41 em41
      have hIm41 : zInv m41 := by rw [em41]; exact hIm2.anyl (by omega) (zK3 rfl) rfl (by decide) (by decide)
      have hFm41 : zFr W_156 m0 m41 := by rw [em41]; exact hFm2.any rfl
      have km41_69_11 : m41 69 11 = (g0 - 1) := by rw [em41, zUp_ne (by omega)]; exact km2_69_11
      have km41_69_9 : m41 69 9 = (g1 - 1) := by rw [em41, zUp_ne (by omega)]; exact km2_69_9
      clear em41
      refine zw_R zr_156_272 (by decide) zm_156 (v := (9, 0)) rfl ?_
      rw [← hQ]; exact ⟨rfl, hIm41, hFm41, by omega, by omega⟩
  by_cases h44 : x5 = 61
  · refine zw_112 (off := 150) (t := 204) zr_156_54 (by rw [h44]; rfl) rfl ?_
    refine zw_5 zr_156_204 rfl ?_
    refine zw_5 zr_156_205 rfl ?_
    refine zw_39_4 zr_156_206 zr_156_207 ?_ ?_
    · intro h45
      refine zw_push zr_156_214 ?_
      refine zw_14 (L' := [(2, 69), (1, x3), (9, 0), (1, x4), (9, 0), (1, 0), (9, 0)]) zr_156_215 (Nat.le_of_ble_eq_true rfl) rfl ?_
      refine zw_42 zr_156_217 ?_
      refine zw_7 zr_156_259 rfl ?_
      refine zw_46r (s := 73) zr_156_260 rfl rfl rfl rfl ?_
      refine zw_7 zr_156_263 rfl ?_
      refine zw_46i zr_156_264 km2_69_9 rfl rfl rfl ?_
      refine zw_push zr_156_267 ?_
      refine zw_17 zr_156_268 (by omega) ?_
      refine zw_6 zr_156_269 rfl ?_
      refine zw_51 (c := 73) (len := 64) zr_156_271 rfl rfl (by omega) (by omega) ?_
      intro m46 em46
      have hIm46 : zInv m46 := by rw [em46]; exact hIm2.anyl (by omega) (zK3 rfl) rfl (by decide) (by decide)
      have hFm46 : zFr W_156 m0 m46 := by rw [em46]; exact hFm2.any rfl
      have km46_69_11 : m46 69 11 = (g0 - 1) := by rw [em46, zUp_ne (by omega)]; exact km2_69_11
      have km46_69_9 : m46 69 9 = (g1 - 1) := by rw [em46, zUp_ne (by omega)]; exact km2_69_9
      clear em46
      refine zw_R zr_156_272 (by decide) zm_156 (v := (9, 0)) rfl ?_
      rw [← hQ]; exact ⟨rfl, hIm46, hFm46, by omega, by omega⟩
    · intro h49
      refine zw_push zr_156_210 ?_
      refine zw_42 zr_156_211 ?_
      refine zw_14 (L' := [(2, 69), (1, x3), (9, 0), (1, x4), (9, 0), (1, 1), (9, 0)]) zr_156_215 (Nat.le_of_ble_eq_true rfl) rfl ?_
      refine zw_42 zr_156_217 ?_
      refine zw_7 zr_156_259 rfl ?_
      refine zw_46r (s := 73) zr_156_260 rfl rfl rfl rfl ?_
      refine zw_7 zr_156_263 rfl ?_
      refine zw_46i zr_156_264 km2_69_9 rfl rfl rfl ?_
      refine zw_push zr_156_267 ?_
      refine zw_17 zr_156_268 (by omega) ?_
      refine zw_6 zr_156_269 rfl ?_
      refine zw_51 (c := 73) (len := 64) zr_156_271 rfl rfl (by omega) (by omega) ?_
      intro m50 em50
      have hIm50 : zInv m50 := by rw [em50]; exact hIm2.anyl (by omega) (zK3 rfl) rfl (by decide) (by decide)
      have hFm50 : zFr W_156 m0 m50 := by rw [em50]; exact hFm2.any rfl
      have km50_69_11 : m50 69 11 = (g0 - 1) := by rw [em50, zUp_ne (by omega)]; exact km2_69_11
      have km50_69_9 : m50 69 9 = (g1 - 1) := by rw [em50, zUp_ne (by omega)]; exact km2_69_9
      clear em50
      refine zw_R zr_156_272 (by decide) zm_156 (v := (9, 0)) rfl ?_
      rw [← hQ]; exact ⟨rfl, hIm50, hFm50, by omega, by omega⟩
  by_cases h53 : x5 = 62
  · refine zw_112 (off := 134) (t := 188) zr_156_54 (by rw [h53]; rfl) rfl ?_
    refine zw_5 zr_156_188 rfl ?_
    refine zw_5 zr_156_189 rfl ?_
    refine zw_39_5 zr_156_190 zr_156_191 ?_ ?_
    · intro h54
      refine zw_push zr_156_198 ?_
      refine zw_14 (L' := [(2, 69), (1, x3), (9, 0), (1, x4), (9, 0), (1, 0), (9, 0)]) zr_156_199 (Nat.le_of_ble_eq_true rfl) rfl ?_
      refine zw_42 zr_156_201 ?_
      refine zw_7 zr_156_259 rfl ?_
      refine zw_46r (s := 73) zr_156_260 rfl rfl rfl rfl ?_
      refine zw_7 zr_156_263 rfl ?_
      refine zw_46i zr_156_264 km2_69_9 rfl rfl rfl ?_
      refine zw_push zr_156_267 ?_
      refine zw_17 zr_156_268 (by omega) ?_
      refine zw_6 zr_156_269 rfl ?_
      refine zw_51 (c := 73) (len := 64) zr_156_271 rfl rfl (by omega) (by omega) ?_
      intro m55 em55
      have hIm55 : zInv m55 := by rw [em55]; exact hIm2.anyl (by omega) (zK3 rfl) rfl (by decide) (by decide)
      have hFm55 : zFr W_156 m0 m55 := by rw [em55]; exact hFm2.any rfl
      have km55_69_11 : m55 69 11 = (g0 - 1) := by rw [em55, zUp_ne (by omega)]; exact km2_69_11
      have km55_69_9 : m55 69 9 = (g1 - 1) := by rw [em55, zUp_ne (by omega)]; exact km2_69_9
      clear em55
      refine zw_R zr_156_272 (by decide) zm_156 (v := (9, 0)) rfl ?_
      rw [← hQ]; exact ⟨rfl, hIm55, hFm55, by omega, by omega⟩
    · intro h58
      refine zw_push zr_156_194 ?_
      refine zw_42 zr_156_195 ?_
      refine zw_14 (L' := [(2, 69), (1, x3), (9, 0), (1, x4), (9, 0), (1, 1), (9, 0)]) zr_156_199 (Nat.le_of_ble_eq_true rfl) rfl ?_
      refine zw_42 zr_156_201 ?_
      refine zw_7 zr_156_259 rfl ?_
      refine zw_46r (s := 73) zr_156_260 rfl rfl rfl rfl ?_
      refine zw_7 zr_156_263 rfl ?_
      refine zw_46i zr_156_264 km2_69_9 rfl rfl rfl ?_
      refine zw_push zr_156_267 ?_
      refine zw_17 zr_156_268 (by omega) ?_
      refine zw_6 zr_156_269 rfl ?_
      refine zw_51 (c := 73) (len := 64) zr_156_271 rfl rfl (by omega) (by omega) ?_
      intro m59 em59
      have hIm59 : zInv m59 := by rw [em59]; exact hIm2.anyl (by omega) (zK3 rfl) rfl (by decide) (by decide)
      have hFm59 : zFr W_156 m0 m59 := by rw [em59]; exact hFm2.any rfl
      have km59_69_11 : m59 69 11 = (g0 - 1) := by rw [em59, zUp_ne (by omega)]; exact km2_69_11
      have km59_69_9 : m59 69 9 = (g1 - 1) := by rw [em59, zUp_ne (by omega)]; exact km2_69_9
      clear em59
      refine zw_R zr_156_272 (by decide) zm_156 (v := (9, 0)) rfl ?_
      rw [← hQ]; exact ⟨rfl, hIm59, hFm59, by omega, by omega⟩
  by_cases h62 : x5 = 124
  · refine zw_112 (off := 74) (t := 128) zr_156_54 (by rw [h62]; rfl) rfl ?_
    refine zw_5 zr_156_128 rfl ?_
    refine zw_push zr_156_129 ?_
    refine zw_39_4 zr_156_130 zr_156_131 ?_ ?_
    · intro h63
      refine zw_push zr_156_140 ?_
      refine zw_42 zr_156_141 ?_
      refine zw_14 (L' := [(2, 69), (1, x3), (9, 0), (1, x4), (9, 0), (1, 1), (9, 0)]) zr_156_145 (Nat.le_of_ble_eq_true rfl) rfl ?_
      refine zw_42 zr_156_147 ?_
      refine zw_7 zr_156_259 rfl ?_
      refine zw_46r (s := 73) zr_156_260 rfl rfl rfl rfl ?_
      refine zw_7 zr_156_263 rfl ?_
      refine zw_46i zr_156_264 km2_69_9 rfl rfl rfl ?_
      refine zw_push zr_156_267 ?_
      refine zw_17 zr_156_268 (by omega) ?_
      refine zw_6 zr_156_269 rfl ?_
      refine zw_51 (c := 73) (len := 64) zr_156_271 rfl rfl (by omega) (by omega) ?_
      intro m64 em64
      have hIm64 : zInv m64 := by rw [em64]; exact hIm2.anyl (by omega) (zK3 rfl) rfl (by decide) (by decide)
      have hFm64 : zFr W_156 m0 m64 := by rw [em64]; exact hFm2.any rfl
      have km64_69_11 : m64 69 11 = (g0 - 1) := by rw [em64, zUp_ne (by omega)]; exact km2_69_11
      have km64_69_9 : m64 69 9 = (g1 - 1) := by rw [em64, zUp_ne (by omega)]; exact km2_69_9
      clear em64
      refine zw_R zr_156_272 (by decide) zm_156 (v := (9, 0)) rfl ?_
      rw [← hQ]; exact ⟨rfl, hIm64, hFm64, by omega, by omega⟩
    · intro h67
      refine zw_5 zr_156_134 rfl ?_
      refine zw_push zr_156_135 ?_
      refine zw_39_1 zr_156_136 zr_156_137 ?_ ?_
      · intro h68
        refine zw_push zr_156_144 ?_
        refine zw_14 (L' := [(2, 69), (1, x3), (9, 0), (1, x4), (9, 0), (1, 0), (9, 0)]) zr_156_145 (Nat.le_of_ble_eq_true rfl) rfl ?_
        refine zw_42 zr_156_147 ?_
        refine zw_7 zr_156_259 rfl ?_
        refine zw_46r (s := 73) zr_156_260 rfl rfl rfl rfl ?_
        refine zw_7 zr_156_263 rfl ?_
        refine zw_46i zr_156_264 km2_69_9 rfl rfl rfl ?_
        refine zw_push zr_156_267 ?_
        refine zw_17 zr_156_268 (by omega) ?_
        refine zw_6 zr_156_269 rfl ?_
        refine zw_51 (c := 73) (len := 64) zr_156_271 rfl rfl (by omega) (by omega) ?_
        intro m69 em69
        have hIm69 : zInv m69 := by rw [em69]; exact hIm2.anyl (by omega) (zK3 rfl) rfl (by decide) (by decide)
        have hFm69 : zFr W_156 m0 m69 := by rw [em69]; exact hFm2.any rfl
        have km69_69_11 : m69 69 11 = (g0 - 1) := by rw [em69, zUp_ne (by omega)]; exact km2_69_11
        have km69_69_9 : m69 69 9 = (g1 - 1) := by rw [em69, zUp_ne (by omega)]; exact km2_69_9
        clear em69
        refine zw_R zr_156_272 (by decide) zm_156 (v := (9, 0)) rfl ?_
        rw [← hQ]; exact ⟨rfl, hIm69, hFm69, by omega, by omega⟩
      · intro h72
        refine zw_push zr_156_140 ?_
        refine zw_42 zr_156_141 ?_
        refine zw_14 (L' := [(2, 69), (1, x3), (9, 0), (1, x4), (9, 0), (1, 1), (9, 0)]) zr_156_145 (Nat.le_of_ble_eq_true rfl) rfl ?_
        refine zw_42 zr_156_147 ?_
        refine zw_7 zr_156_259 rfl ?_
        refine zw_46r (s := 73) zr_156_260 rfl rfl rfl rfl ?_
        refine zw_7 zr_156_263 rfl ?_
        refine zw_46i zr_156_264 km2_69_9 rfl rfl rfl ?_
        refine zw_push zr_156_267 ?_
        refine zw_17 zr_156_268 (by omega) ?_
        refine zw_6 zr_156_269 rfl ?_
        refine zw_51 (c := 73) (len := 64) zr_156_271 rfl rfl (by omega) (by omega) ?_
        intro m73 em73
        have hIm73 : zInv m73 := by rw [em73]; exact hIm2.anyl (by omega) (zK3 rfl) rfl (by decide) (by decide)
        have hFm73 : zFr W_156 m0 m73 := by rw [em73]; exact hFm2.any rfl
        have km73_69_11 : m73 69 11 = (g0 - 1) := by rw [em73, zUp_ne (by omega)]; exact km2_69_11
        have km73_69_9 : m73 69 9 = (g1 - 1) := by rw [em73, zUp_ne (by omega)]; exact km2_69_9
        clear em73
        refine zw_R zr_156_272 (by decide) zm_156 (v := (9, 0)) rfl ?_
        rw [← hQ]; exact ⟨rfl, hIm73, hFm73, by omega, by omega⟩
  refine zw_112 (off := 190) (t := 244) zr_156_54 (zlsw_df (by simp; omega)) rfl ?_
  refine zw_5 zr_156_244 rfl ?_
  refine zw_push zr_156_245 ?_
  refine zw_39_4 zr_156_246 zr_156_247 ?_ ?_
  · intro h76
    refine zw_5 zr_156_254 rfl ?_
    refine zw_5 zr_156_255 rfl ?_
    refine zw_118h zr_156_256 (by omega) ?_
    intro x77 hx77a hx77b
    refine zw_14 (L' := [(2, 69), (1, x3), (9, 0), (1, x4), (9, 0), (1, x77), (9, 0)]) zr_156_257 (Nat.le_of_ble_eq_true rfl) rfl ?_
    refine zw_7 zr_156_259 rfl ?_
    refine zw_46r (s := 73) zr_156_260 rfl rfl rfl rfl ?_
    refine zw_7 zr_156_263 rfl ?_
    refine zw_46i zr_156_264 km2_69_9 rfl rfl rfl ?_
    refine zw_push zr_156_267 ?_
    refine zw_17 zr_156_268 (by omega) ?_
    refine zw_6 zr_156_269 rfl ?_
    refine zw_51 (c := 73) (len := 64) zr_156_271 rfl rfl (by omega) (by omega) ?_
    intro m78 em78
    have hIm78 : zInv m78 := by rw [em78]; exact hIm2.anyl (by omega) (zK3 rfl) rfl (by decide) (by decide)
    have hFm78 : zFr W_156 m0 m78 := by rw [em78]; exact hFm2.any rfl
    have km78_69_11 : m78 69 11 = (g0 - 1) := by rw [em78, zUp_ne (by omega)]; exact km2_69_11
    have km78_69_9 : m78 69 9 = (g1 - 1) := by rw [em78, zUp_ne (by omega)]; exact km2_69_9
    clear em78
    refine zw_R zr_156_272 (by decide) zm_156 (v := (9, 0)) rfl ?_
    rw [← hQ]; exact ⟨rfl, hIm78, hFm78, by omega, by omega⟩
  · intro h81
    refine zw_push zr_156_250 ?_
    refine zw_42 zr_156_251 ?_
    refine zw_14 (L' := [(2, 69), (1, x3), (9, 0), (1, x4), (9, 0), (1, 0), (9, 0)]) zr_156_257 (Nat.le_of_ble_eq_true rfl) rfl ?_
    refine zw_7 zr_156_259 rfl ?_
    refine zw_46r (s := 73) zr_156_260 rfl rfl rfl rfl ?_
    refine zw_7 zr_156_263 rfl ?_
    refine zw_46i zr_156_264 km2_69_9 rfl rfl rfl ?_
    refine zw_push zr_156_267 ?_
    refine zw_17 zr_156_268 (by omega) ?_
    refine zw_6 zr_156_269 rfl ?_
    refine zw_51 (c := 73) (len := 64) zr_156_271 rfl rfl (by omega) (by omega) ?_
    intro m82 em82
    have hIm82 : zInv m82 := by rw [em82]; exact hIm2.anyl (by omega) (zK3 rfl) rfl (by decide) (by decide)
    have hFm82 : zFr W_156 m0 m82 := by rw [em82]; exact hFm2.any rfl
    have km82_69_11 : m82 69 11 = (g0 - 1) := by rw [em82, zUp_ne (by omega)]; exact km2_69_11
    have km82_69_9 : m82 69 9 = (g1 - 1) := by rw [em82, zUp_ne (by omega)]; exact km2_69_9
    clear em82
    refine zw_R zr_156_272 (by decide) zm_156 (v := (9, 0)) rfl ?_
    rw [← hQ]; exact ⟨rfl, hIm82, hFm82, by omega, by omega⟩

abbrev W_157 : List (Nat × Nat) := [(69, 9), (69, 11), (73, 1000)]
set_option maxHeartbeats 8000000 in
theorem th_157 {E : zE} {d : Nat} {m0 : zM} {a0 : Int} {g0 : Int} {g1 : Int} {F74 : Nat → Int} (hd : 2 ≤ d) (hI0 : zInv m0) (hg0 : m0 69 11 = g0) (hg1 : m0 69 9 = g1) (hG74 : m0 74 = F74) (ha0 : 1 ≤ a0 ∧ a0 ≤ 5) (hp0 : cB F74 g0.toNat + 1 ≤ g1) : zC E d 157 [(2, 69), (0, a0)] m0 (fun v m' => v = (9, 0) ∧ zInv m' ∧ zFr W_157 m0 m' ∧ (m' 69 11 ≤ g0) ∧ (m' 69 9 ≤ g1) ∧ (cB F74 (m' 69 11).toNat + 1 ≤ m' 69 9) ∧ (cP F74 (m' 69 11).toNat = cP F74 g0.toNat)) := by
  have hF0 : zFr W_157 m0 m0 := zFr.rfl
  have bg0 := ib_69_11 hI0
  rw [hg0] at bg0
  have bg1 := ib_69_9 hI0
  rw [hg1] at bg1
  generalize hQ : (fun (v : zV) (m' : zM) => v = (9, 0) ∧ zInv m' ∧ zFr W_157 m0 m' ∧ (m' 69 11 ≤ g0) ∧ (m' 69 9 ≤ g1) ∧ (cB F74 (m' 69 11).toNat + 1 ≤ m' 69 9) ∧ (cP F74 (m' 69 11).toNat = cP F74 g0.toNat)) = Q
  show zW E d 157 0 [(2, 69), (0, a0)] [] m0 Q
  have lp0_4 : ∀ (nlp0_4 : Nat) (p2 p3 : Int) (m1 : zM), zInv m1 → zFr W_157 m0 m1 → m1 69 11 = p2 → m1 69 9 = p3 → m1 74 = F74 → 0 ≤ p2 → p2 ≤ 128 → 0 ≤ p3 → p3 ≤ 64 → (p2 ≤ g0) → (p3 ≤ g1) → (cB F74 (p2).toNat + 1 ≤ p3) → (cP F74 (p2).toNat = cP F74 g0.toNat) → (p2).toNat < nlp0_4 → zW E (d) 157 0 [(2, 69), (0, a0)] [] m1 Q := by
    intro nlp0_4
    induction nlp0_4 with
    | zero =>
      intros
      exact absurd (by assumption : _ < 0) (Nat.not_lt_zero _)
    | succ nlp0_4 ihlp0_4 =>
      intro p2 p3 m1 hIm1 hFm1 km1_69_11 km1_69_9 fm1_74 lp2 up2 lp3 up3 hv0lp0_4 hv1lp0_4 hv2lp0_4 hv3lp0_4 hmlp0_4
      refine zw_7 zr_157_0 rfl ?_
      refine zw_46i zr_157_1 km1_69_11 rfl rfl rfl ?_
      refine zw_40_5 zr_157_4 ?_ ?_
      · intro h6
        refine zw_R zr_157_49 (by decide) zm_157 (v := (9, 0)) rfl ?_
        rw [← hQ]; exact ⟨rfl, hIm1, hFm1, by omega, by omega, by rw [km1_69_11, km1_69_9]; omega, by rw [km1_69_11]; omega⟩
      · intro h11
        refine zw_7 zr_157_7 rfl ?_
        refine zw_46r (s := 74) zr_157_8 rfl rfl rfl rfl ?_
        refine zw_7 zr_157_11 rfl ?_
        refine zw_46i zr_157_12 km1_69_11 rfl rfl rfl ?_
        refine zw_push zr_157_15 ?_
        refine zw_17 zr_157_16 (by omega) ?_
        refine zw_48 (c := 74) (len := 128) zr_157_17 rfl rfl (by omega) (by omega) ?_
        intro x12 ex12
        have bx12 := ib_74 hIm1 (k := ((p2 - 1)).toNat) (by omega)
        rw [← ex12] at bx12
        have qx12 : x12 = F74 ((p2 - 1)).toNat := by rw [← fm1_74]; exact ex12
        have z13 := zcb F74 ((p2 - 1)).toNat (p2).toNat (by omega)
        have z14 := cB_nn F74 ((p2 - 1)).toNat
        refine zw_push zr_157_18 ?_
        refine zw_41_3 zr_157_21 ?_ ?_
        · intro h15
          refine zw_R zr_157_49 (by decide) zm_157 (v := (9, 0)) rfl ?_
          rw [← hQ]; exact ⟨rfl, hIm1, hFm1, by omega, by omega, by rw [km1_69_11, km1_69_9]; omega, by rw [km1_69_11]; omega⟩
        · intro h20
          refine zw_7 zr_157_24 rfl ?_
          refine zw_46r (s := 74) zr_157_25 rfl rfl rfl rfl ?_
          refine zw_7 zr_157_28 rfl ?_
          refine zw_46i zr_157_29 km1_69_11 rfl rfl rfl ?_
          refine zw_push zr_157_32 ?_
          refine zw_17 zr_157_33 (by omega) ?_
          refine zw_48k (c := 74) (len := 128) zr_157_34 rfl rfl (by omega) (by omega) rfl ex12.symm ?_
          refine zw_C zr_157_35 (Or.inr rfl) zm_155 rfl rfl ⟨Nat.le_of_ble_eq_true rfl, Nat.le_of_ble_eq_true rfl, Nat.le_of_ble_eq_true rfl, rfl, by decide⟩ (by omega) (P := (fun v m' => zW E (d) 157 38 [(2, 69), (0, a0)] (if v.1 = 9 then [] else v :: []) m' Q)) ?_ (fun _ _ h => h)
          generalize hQ1 : (fun v m' => zW E (d) 157 38 [(2, 69), (0, a0)] (if v.1 = 9 then [] else v :: []) m' Q) = Q1
          show zW E (d - 1) 155 0 [(0, x12)] [] m1 Q1
          refine zw_3 zr_155_0 rfl ?_
          by_cases h21 : x12 = 38
          · refine zw_112 (off := 85) (t := 86) zr_155_1 (by rw [h21]; rfl) rfl ?_
            refine zw_push zr_155_86 ?_
            refine zw_R zr_155_87 (by decide) zm_155 (v := (0, 2)) rfl ?_
            rw [← hQ1]
            show zW E (d) 157 38 [(2, 69), (0, a0)] [(0, 2)] m1 Q
            refine zw_3 zr_157_38 rfl ?_
            refine zw_41_0 zr_157_39 ?_ ?_
            · intro h22
              refine zw_R zr_157_49 (by decide) zm_157 (v := (9, 0)) rfl ?_
              rw [← hQ]; exact ⟨rfl, hIm1, hFm1, by omega, by omega, by rw [km1_69_11, km1_69_9]; omega, by rw [km1_69_11]; omega⟩
            · intro h27
              refine zw_7 zr_157_42 rfl ?_
              refine zw_C zr_157_43 (Or.inl rfl) zm_156 rfl rfl ⟨Nat.le_of_ble_eq_true rfl, Nat.le_of_ble_eq_true rfl, Nat.le_of_ble_eq_true rfl, rfl, by decide⟩ (by omega) (th_156 (d := d - 1) (by omega) hIm1  (g0 := p2) (g1 := p3)   km1_69_11 km1_69_9   (by omega) (by omega)) ?_
              rintro _ m28 ⟨rfl, hIm28, gm28, po0_m28, po1_m28⟩
              have hFm28 : zFr W_157 m0 m28 := hFm1.trans gm28 rfl
              have fm28_74 : m28 74 = F74 := (funext fun k => gm28 74 k rfl).trans fm1_74
              show zW E (d) 157 46 [(2, 69), (0, a0)] [] m28 Q
              refine zw_42 zr_157_46 ?_
              exact zw_less (L := [(2, 69), (0, a0)]) ⟨Or.inr rfl, Or.inr rfl, trivial⟩ (ihlp0_4 ((p2 - 1)) ((p3 - 1)) m28 hIm28 hFm28  po0_m28 po1_m28 fm28_74 (by omega) (by omega) (by omega) (by omega) (by omega) (by omega) (by omega) (by omega) (by omega))
          by_cases h29 : x12 = 42
          · refine zw_112 (off := 91) (t := 92) zr_155_1 (by rw [h29]; rfl) rfl ?_
            refine zw_push zr_155_92 ?_
            refine zw_R zr_155_93 (by decide) zm_155 (v := (0, 5)) rfl ?_
            rw [← hQ1]
            show zW E (d) 157 38 [(2, 69), (0, a0)] [(0, 5)] m1 Q
            refine zw_3 zr_157_38 rfl ?_
            refine zw_41_0 zr_157_39 ?_ ?_
            · intro h30; omega
            · intro h31
              refine zw_7 zr_157_42 rfl ?_
              refine zw_C zr_157_43 (Or.inl rfl) zm_156 rfl rfl ⟨Nat.le_of_ble_eq_true rfl, Nat.le_of_ble_eq_true rfl, Nat.le_of_ble_eq_true rfl, rfl, by decide⟩ (by omega) (th_156 (d := d - 1) (by omega) hIm1  (g0 := p2) (g1 := p3)   km1_69_11 km1_69_9   (by omega) (by omega)) ?_
              rintro _ m32 ⟨rfl, hIm32, gm32, po0_m32, po1_m32⟩
              have hFm32 : zFr W_157 m0 m32 := hFm1.trans gm32 rfl
              have fm32_74 : m32 74 = F74 := (funext fun k => gm32 74 k rfl).trans fm1_74
              show zW E (d) 157 46 [(2, 69), (0, a0)] [] m32 Q
              refine zw_42 zr_157_46 ?_
              exact zw_less (L := [(2, 69), (0, a0)]) ⟨Or.inr rfl, Or.inr rfl, trivial⟩ (ihlp0_4 ((p2 - 1)) ((p3 - 1)) m32 hIm32 hFm32  po0_m32 po1_m32 fm32_74 (by omega) (by omega) (by omega) (by omega) (by omega) (by omega) (by omega) (by omega) (by omega))
          by_cases h33 : x12 = 43
          · refine zw_112 (off := 89) (t := 90) zr_155_1 (by rw [h33]; rfl) rfl ?_
            refine zw_push zr_155_90 ?_
            refine zw_R zr_155_91 (by decide) zm_155 (v := (0, 4)) rfl ?_
            rw [← hQ1]
            show zW E (d) 157 38 [(2, 69), (0, a0)] [(0, 4)] m1 Q
            refine zw_3 zr_157_38 rfl ?_
            refine zw_41_0 zr_157_39 ?_ ?_
            · intro h34
              refine zw_R zr_157_49 (by decide) zm_157 (v := (9, 0)) rfl ?_
              rw [← hQ]; exact ⟨rfl, hIm1, hFm1, by omega, by omega, by rw [km1_69_11, km1_69_9]; omega, by rw [km1_69_11]; omega⟩
            · intro h39
              refine zw_7 zr_157_42 rfl ?_
              refine zw_C zr_157_43 (Or.inl rfl) zm_156 rfl rfl ⟨Nat.le_of_ble_eq_true rfl, Nat.le_of_ble_eq_true rfl, Nat.le_of_ble_eq_true rfl, rfl, by decide⟩ (by omega) (th_156 (d := d - 1) (by omega) hIm1  (g0 := p2) (g1 := p3)   km1_69_11 km1_69_9   (by omega) (by omega)) ?_
              rintro _ m40 ⟨rfl, hIm40, gm40, po0_m40, po1_m40⟩
              have hFm40 : zFr W_157 m0 m40 := hFm1.trans gm40 rfl
              have fm40_74 : m40 74 = F74 := (funext fun k => gm40 74 k rfl).trans fm1_74
              show zW E (d) 157 46 [(2, 69), (0, a0)] [] m40 Q
              refine zw_42 zr_157_46 ?_
              exact zw_less (L := [(2, 69), (0, a0)]) ⟨Or.inr rfl, Or.inr rfl, trivial⟩ (ihlp0_4 ((p2 - 1)) ((p3 - 1)) m40 hIm40 hFm40  po0_m40 po1_m40 fm40_74 (by omega) (by omega) (by omega) (by omega) (by omega) (by omega) (by omega) (by omega) (by omega))
          by_cases h41 : x12 = 45
          · refine zw_112 (off := 89) (t := 90) zr_155_1 (by rw [h41]; rfl) rfl ?_
            refine zw_push zr_155_90 ?_
            refine zw_R zr_155_91 (by decide) zm_155 (v := (0, 4)) rfl ?_
            rw [← hQ1]
            show zW E (d) 157 38 [(2, 69), (0, a0)] [(0, 4)] m1 Q
            refine zw_3 zr_157_38 rfl ?_
            refine zw_41_0 zr_157_39 ?_ ?_
            · intro h42
              refine zw_R zr_157_49 (by decide) zm_157 (v := (9, 0)) rfl ?_
              rw [← hQ]; exact ⟨rfl, hIm1, hFm1, by omega, by omega, by rw [km1_69_11, km1_69_9]; omega, by rw [km1_69_11]; omega⟩
            · intro h47
              refine zw_7 zr_157_42 rfl ?_
              refine zw_C zr_157_43 (Or.inl rfl) zm_156 rfl rfl ⟨Nat.le_of_ble_eq_true rfl, Nat.le_of_ble_eq_true rfl, Nat.le_of_ble_eq_true rfl, rfl, by decide⟩ (by omega) (th_156 (d := d - 1) (by omega) hIm1  (g0 := p2) (g1 := p3)   km1_69_11 km1_69_9   (by omega) (by omega)) ?_
              rintro _ m48 ⟨rfl, hIm48, gm48, po0_m48, po1_m48⟩
              have hFm48 : zFr W_157 m0 m48 := hFm1.trans gm48 rfl
              have fm48_74 : m48 74 = F74 := (funext fun k => gm48 74 k rfl).trans fm1_74
              show zW E (d) 157 46 [(2, 69), (0, a0)] [] m48 Q
              refine zw_42 zr_157_46 ?_
              exact zw_less (L := [(2, 69), (0, a0)]) ⟨Or.inr rfl, Or.inr rfl, trivial⟩ (ihlp0_4 ((p2 - 1)) ((p3 - 1)) m48 hIm48 hFm48  po0_m48 po1_m48 fm48_74 (by omega) (by omega) (by omega) (by omega) (by omega) (by omega) (by omega) (by omega) (by omega))
          by_cases h49 : x12 = 47
          · refine zw_112 (off := 91) (t := 92) zr_155_1 (by rw [h49]; rfl) rfl ?_
            refine zw_push zr_155_92 ?_
            refine zw_R zr_155_93 (by decide) zm_155 (v := (0, 5)) rfl ?_
            rw [← hQ1]
            show zW E (d) 157 38 [(2, 69), (0, a0)] [(0, 5)] m1 Q
            refine zw_3 zr_157_38 rfl ?_
            refine zw_41_0 zr_157_39 ?_ ?_
            · intro h50; omega
            · intro h51
              refine zw_7 zr_157_42 rfl ?_
              refine zw_C zr_157_43 (Or.inl rfl) zm_156 rfl rfl ⟨Nat.le_of_ble_eq_true rfl, Nat.le_of_ble_eq_true rfl, Nat.le_of_ble_eq_true rfl, rfl, by decide⟩ (by omega) (th_156 (d := d - 1) (by omega) hIm1  (g0 := p2) (g1 := p3)   km1_69_11 km1_69_9   (by omega) (by omega)) ?_
              rintro _ m52 ⟨rfl, hIm52, gm52, po0_m52, po1_m52⟩
              have hFm52 : zFr W_157 m0 m52 := hFm1.trans gm52 rfl
              have fm52_74 : m52 74 = F74 := (funext fun k => gm52 74 k rfl).trans fm1_74
              show zW E (d) 157 46 [(2, 69), (0, a0)] [] m52 Q
              refine zw_42 zr_157_46 ?_
              exact zw_less (L := [(2, 69), (0, a0)]) ⟨Or.inr rfl, Or.inr rfl, trivial⟩ (ihlp0_4 ((p2 - 1)) ((p3 - 1)) m52 hIm52 hFm52  po0_m52 po1_m52 fm52_74 (by omega) (by omega) (by omega) (by omega) (by omega) (by omega) (by omega) (by omega) (by omega))
          by_cases h53 : x12 = 60
          · refine zw_112 (off := 87) (t := 88) zr_155_1 (by rw [h53]; rfl) rfl ?_
            refine zw_push zr_155_88 ?_
            refine zw_R zr_155_89 (by decide) zm_155 (v := (0, 3)) rfl ?_
            rw [← hQ1]
            show zW E (d) 157 38 [(2, 69), (0, a0)] [(0, 3)] m1 Q
            refine zw_3 zr_157_38 rfl ?_
            refine zw_41_0 zr_157_39 ?_ ?_
            · intro h54
              refine zw_R zr_157_49 (by decide) zm_157 (v := (9, 0)) rfl ?_
              rw [← hQ]; exact ⟨rfl, hIm1, hFm1, by omega, by omega, by rw [km1_69_11, km1_69_9]; omega, by rw [km1_69_11]; omega⟩
            · intro h59
              refine zw_7 zr_157_42 rfl ?_
              refine zw_C zr_157_43 (Or.inl rfl) zm_156 rfl rfl ⟨Nat.le_of_ble_eq_true rfl, Nat.le_of_ble_eq_true rfl, Nat.le_of_ble_eq_true rfl, rfl, by decide⟩ (by omega) (th_156 (d := d - 1) (by omega) hIm1  (g0 := p2) (g1 := p3)   km1_69_11 km1_69_9   (by omega) (by omega)) ?_
              rintro _ m60 ⟨rfl, hIm60, gm60, po0_m60, po1_m60⟩
              have hFm60 : zFr W_157 m0 m60 := hFm1.trans gm60 rfl
              have fm60_74 : m60 74 = F74 := (funext fun k => gm60 74 k rfl).trans fm1_74
              show zW E (d) 157 46 [(2, 69), (0, a0)] [] m60 Q
              refine zw_42 zr_157_46 ?_
              exact zw_less (L := [(2, 69), (0, a0)]) ⟨Or.inr rfl, Or.inr rfl, trivial⟩ (ihlp0_4 ((p2 - 1)) ((p3 - 1)) m60 hIm60 hFm60  po0_m60 po1_m60 fm60_74 (by omega) (by omega) (by omega) (by omega) (by omega) (by omega) (by omega) (by omega) (by omega))
          by_cases h61 : x12 = 61
          · refine zw_112 (off := 87) (t := 88) zr_155_1 (by rw [h61]; rfl) rfl ?_
            refine zw_push zr_155_88 ?_
            refine zw_R zr_155_89 (by decide) zm_155 (v := (0, 3)) rfl ?_
            rw [← hQ1]
            show zW E (d) 157 38 [(2, 69), (0, a0)] [(0, 3)] m1 Q
            refine zw_3 zr_157_38 rfl ?_
            refine zw_41_0 zr_157_39 ?_ ?_
            · intro h62
              refine zw_R zr_157_49 (by decide) zm_157 (v := (9, 0)) rfl ?_
              rw [← hQ]; exact ⟨rfl, hIm1, hFm1, by omega, by omega, by rw [km1_69_11, km1_69_9]; omega, by rw [km1_69_11]; omega⟩
            · intro h67
              refine zw_7 zr_157_42 rfl ?_
              refine zw_C zr_157_43 (Or.inl rfl) zm_156 rfl rfl ⟨Nat.le_of_ble_eq_true rfl, Nat.le_of_ble_eq_true rfl, Nat.le_of_ble_eq_true rfl, rfl, by decide⟩ (by omega) (th_156 (d := d - 1) (by omega) hIm1  (g0 := p2) (g1 := p3)   km1_69_11 km1_69_9   (by omega) (by omega)) ?_
              rintro _ m68 ⟨rfl, hIm68, gm68, po0_m68, po1_m68⟩
              have hFm68 : zFr W_157 m0 m68 := hFm1.trans gm68 rfl
              have fm68_74 : m68 74 = F74 := (funext fun k => gm68 74 k rfl).trans fm1_74
              show zW E (d) 157 46 [(2, 69), (0, a0)] [] m68 Q
              refine zw_42 zr_157_46 ?_
              exact zw_less (L := [(2, 69), (0, a0)]) ⟨Or.inr rfl, Or.inr rfl, trivial⟩ (ihlp0_4 ((p2 - 1)) ((p3 - 1)) m68 hIm68 hFm68  po0_m68 po1_m68 fm68_74 (by omega) (by omega) (by omega) (by omega) (by omega) (by omega) (by omega) (by omega) (by omega))
          by_cases h69 : x12 = 62
          · refine zw_112 (off := 87) (t := 88) zr_155_1 (by rw [h69]; rfl) rfl ?_
            refine zw_push zr_155_88 ?_
            refine zw_R zr_155_89 (by decide) zm_155 (v := (0, 3)) rfl ?_
            rw [← hQ1]
            show zW E (d) 157 38 [(2, 69), (0, a0)] [(0, 3)] m1 Q
            refine zw_3 zr_157_38 rfl ?_
            refine zw_41_0 zr_157_39 ?_ ?_
            · intro h70
              refine zw_R zr_157_49 (by decide) zm_157 (v := (9, 0)) rfl ?_
              rw [← hQ]; exact ⟨rfl, hIm1, hFm1, by omega, by omega, by rw [km1_69_11, km1_69_9]; omega, by rw [km1_69_11]; omega⟩
            · intro h75
              refine zw_7 zr_157_42 rfl ?_
              refine zw_C zr_157_43 (Or.inl rfl) zm_156 rfl rfl ⟨Nat.le_of_ble_eq_true rfl, Nat.le_of_ble_eq_true rfl, Nat.le_of_ble_eq_true rfl, rfl, by decide⟩ (by omega) (th_156 (d := d - 1) (by omega) hIm1  (g0 := p2) (g1 := p3)   km1_69_11 km1_69_9   (by omega) (by omega)) ?_
              rintro _ m76 ⟨rfl, hIm76, gm76, po0_m76, po1_m76⟩
              have hFm76 : zFr W_157 m0 m76 := hFm1.trans gm76 rfl
              have fm76_74 : m76 74 = F74 := (funext fun k => gm76 74 k rfl).trans fm1_74
              show zW E (d) 157 46 [(2, 69), (0, a0)] [] m76 Q
              refine zw_42 zr_157_46 ?_
              exact zw_less (L := [(2, 69), (0, a0)]) ⟨Or.inr rfl, Or.inr rfl, trivial⟩ (ihlp0_4 ((p2 - 1)) ((p3 - 1)) m76 hIm76 hFm76  po0_m76 po1_m76 fm76_74 (by omega) (by omega) (by omega) (by omega) (by omega) (by omega) (by omega) (by omega) (by omega))
          by_cases h77 : x12 = 124
          · refine zw_112 (off := 83) (t := 84) zr_155_1 (by rw [h77]; rfl) rfl ?_
            refine zw_push zr_155_84 ?_
            refine zw_R zr_155_85 (by decide) zm_155 (v := (0, 1)) rfl ?_
            rw [← hQ1]
            show zW E (d) 157 38 [(2, 69), (0, a0)] [(0, 1)] m1 Q
            refine zw_3 zr_157_38 rfl ?_
            refine zw_41_0 zr_157_39 ?_ ?_
            · intro h78
              refine zw_R zr_157_49 (by decide) zm_157 (v := (9, 0)) rfl ?_
              rw [← hQ]; exact ⟨rfl, hIm1, hFm1, by omega, by omega, by rw [km1_69_11, km1_69_9]; omega, by rw [km1_69_11]; omega⟩
            · intro h83
              refine zw_7 zr_157_42 rfl ?_
              refine zw_C zr_157_43 (Or.inl rfl) zm_156 rfl rfl ⟨Nat.le_of_ble_eq_true rfl, Nat.le_of_ble_eq_true rfl, Nat.le_of_ble_eq_true rfl, rfl, by decide⟩ (by omega) (th_156 (d := d - 1) (by omega) hIm1  (g0 := p2) (g1 := p3)   km1_69_11 km1_69_9   (by omega) (by omega)) ?_
              rintro _ m84 ⟨rfl, hIm84, gm84, po0_m84, po1_m84⟩
              have hFm84 : zFr W_157 m0 m84 := hFm1.trans gm84 rfl
              have fm84_74 : m84 74 = F74 := (funext fun k => gm84 74 k rfl).trans fm1_74
              show zW E (d) 157 46 [(2, 69), (0, a0)] [] m84 Q
              refine zw_42 zr_157_46 ?_
              exact zw_less (L := [(2, 69), (0, a0)]) ⟨Or.inr rfl, Or.inr rfl, trivial⟩ (ihlp0_4 ((p2 - 1)) ((p3 - 1)) m84 hIm84 hFm84  po0_m84 po1_m84 fm84_74 (by omega) (by omega) (by omega) (by omega) (by omega) (by omega) (by omega) (by omega) (by omega))
          refine zw_112 (off := 93) (t := 94) zr_155_1 (zlsw_df (by simp; omega)) rfl ?_
          refine zw_push zr_155_94 ?_
          refine zw_R zr_155_95 (by decide) zm_155 (v := (0, 0)) rfl ?_
          rw [← hQ1]
          show zW E (d) 157 38 [(2, 69), (0, a0)] [(0, 0)] m1 Q
          refine zw_3 zr_157_38 rfl ?_
          refine zw_41_0 zr_157_39 ?_ ?_
          · intro h85
            refine zw_R zr_157_49 (by decide) zm_157 (v := (9, 0)) rfl ?_
            rw [← hQ]; exact ⟨rfl, hIm1, hFm1, by omega, by omega, by rw [km1_69_11, km1_69_9]; omega, by rw [km1_69_11]; omega⟩
          · intro h90; omega
  exact lp0_4 _ (g0) (g1) m0 hI0 hF0  hg0 hg1 hG74 (by omega) (by omega) (by omega) (by omega) (by omega) (by omega) (by omega) (by omega) (Nat.lt_succ_self _)

abbrev W_158 : List (Nat × Nat) := [(69, 9), (69, 11), (73, 1000)]
set_option maxHeartbeats 8000000 in
theorem th_158 {E : zE} {d : Nat} {m0 : zM} {a0 : Int} {g0 : Int} {g1 : Int} {F74 : Nat → Int} (hd : 1 ≤ d) (hI0 : zInv m0) (hg0 : m0 69 11 = g0) (hg1 : m0 69 9 = g1) (hG74 : m0 74 = F74) (ha0 : (-9223372036854775808) ≤ a0 ∧ a0 ≤ 9223372036854775807) (hp0 : g1 ≤ 63) : zC E d 158 [(2, 69), (1, a0)] m0 (fun v m' => v = (9, 0) ∧ zInv m' ∧ zFr W_158 m0 m' ∧ (m' 69 11 ≤ g0) ∧ (cB F74 (m' 69 11).toNat = cB F74 g0.toNat) ∧ (cP F74 (m' 69 11).toNat = cP F74 g0.toNat) ∧ (m' 69 9 = (g1 + 1))) := by
  have hF0 : zFr W_158 m0 m0 := zFr.rfl
  have bg0 := ib_69_11 hI0
  rw [hg0] at bg0
  have bg1 := ib_69_9 hI0
  rw [hg1] at bg1
  generalize hQ : (fun (v : zV) (m' : zM) => v = (9, 0) ∧ zInv m' ∧ zFr W_158 m0 m' ∧ (m' 69 11 ≤ g0) ∧ (cB F74 (m' 69 11).toNat = cB F74 g0.toNat) ∧ (cP F74 (m' 69 11).toNat = cP F74 g0.toNat) ∧ (m' 69 9 = (g1 + 1))) = Q
  show zW E d 158 0 [(2, 69), (1, a0), (9, 0), (9, 0), (9, 0)] [] m0 Q
  refine zw_5 zr_158_0 rfl ?_
  refine zw_13 (L' := [(2, 69), (1, a0), (9, 0), (1, a0), (9, 0)]) zr_158_1 (Nat.le_of_ble_eq_true rfl) rfl ?_
  have lp2_5 : ∀ (nlp2_5 : Nat) (i1 p3 p4 : Int) (m2 : zM), zInv m2 → zFr W_158 m0 m2 → m2 69 11 = p3 → m2 69 9 = p4 → m2 74 = F74 → (-9223372036854775808) ≤ i1 → i1 ≤ 9223372036854775807 → 0 ≤ p3 → p3 ≤ 128 → 0 ≤ p4 → p4 ≤ 63 → (p4 = g1) → (p3 ≤ g0) → (cB F74 (p3).toNat = cB F74 g0.toNat) → (cP F74 (p3).toNat = cP F74 g0.toNat) → (p3).toNat < nlp2_5 → zW E (d) 158 2 [(2, 69), (1, a0), (9, 0), (1, i1), (9, 0)] [] m2 Q := by
    intro nlp2_5
    induction nlp2_5 with
    | zero =>
      intros
      exact absurd (by assumption : _ < 0) (Nat.not_lt_zero _)
    | succ nlp2_5 ihlp2_5 =>
      intro i1 p3 p4 m2 hIm2 hFm2 km2_69_11 km2_69_9 fm2_74 li1 ui1 lp3 up3 lp4 up4 hv0lp2_5 hv1lp2_5 hv2lp2_5 hv3lp2_5 hmlp2_5
      refine zw_7 zr_158_2 rfl ?_
      refine zw_46i zr_158_3 km2_69_11 rfl rfl rfl ?_
      refine zw_40_5 zr_158_6 ?_ ?_
      · intro h7
        refine zw_7 zr_158_73 rfl ?_
        refine zw_46r (s := 73) zr_158_74 rfl rfl rfl rfl ?_
        refine zw_7 zr_158_77 rfl ?_
        refine zw_46i zr_158_78 km2_69_9 rfl rfl rfl ?_
        refine zw_5 zr_158_81 rfl ?_
        refine zw_51 (c := 73) (len := 64) zr_158_82 rfl rfl (by omega) (by omega) ?_
        intro m8 em8
        have hIm8 : zInv m8 := by rw [em8]; exact hIm2.anyl (by omega) (zK3 rfl) rfl (by decide) (by decide)
        have hFm8 : zFr W_158 m0 m8 := by rw [em8]; exact hFm2.any rfl
        have km8_69_11 : m8 69 11 = p3 := by rw [em8, zUp_ne (by omega)]; exact km2_69_11
        have km8_69_9 : m8 69 9 = p4 := by rw [em8, zUp_ne (by omega)]; exact km2_69_9
        have fm8_74 : m8 74 = F74 := by rw [em8, zUp_fn (by decide)]; exact fm2_74
        clear em8
        refine zw_7 zr_158_83 rfl ?_
        refine zw_43 zr_158_84 rfl ?_
        refine zw_46i zr_158_85 km8_69_9 rfl rfl rfl ?_
        refine zw_push zr_158_88 ?_
        refine zw_16 zr_158_89 (by omega) ?_
        refine zw_47 (c := 69) zr_158_90 rfl ⟨rfl, by decide, rfl⟩ ?_
        intro m9 em9
        have hIm9 : zInv m9 := by rw [em9]; exact hIm8.bd (r := 69) (k := 9) (lo := 0) (hi := 64) rfl (by omega) (by decide) (by decide) (by decide)
        have hFm9 : zFr W_158 m0 m9 := by rw [em9]; exact hFm8.up rfl
        have km9_69_11 : m9 69 11 = p3 := by rw [em9, zUp_ne (by omega)]; exact km8_69_11
        have km9_69_9 : m9 69 9 = (p4 + 1) := by rw [em9]; exact zUp_eq _ _ _ _
        have fm9_74 : m9 74 = F74 := by rw [em9, zUp_fn (by decide)]; exact fm8_74
        clear em9
        refine zw_R zr_158_93 (by decide) zm_158 (v := (9, 0)) rfl ?_
        rw [← hQ]; exact ⟨rfl, hIm9, hFm9, by omega, by rw [km9_69_11]; omega, by rw [km9_69_11]; omega, by omega⟩
      · intro h14
        refine zw_7 zr_158_9 rfl ?_
        refine zw_46r (s := 74) zr_158_10 rfl rfl rfl rfl ?_
        refine zw_7 zr_158_13 rfl ?_
        refine zw_46i zr_158_14 km2_69_11 rfl rfl rfl ?_
        refine zw_push zr_158_17 ?_
        refine zw_17 zr_158_18 (by omega) ?_
        refine zw_48 (c := 74) (len := 128) zr_158_19 rfl rfl (by omega) (by omega) ?_
        intro x15 ex15
        have bx15 := ib_74 hIm2 (k := ((p3 - 1)).toNat) (by omega)
        rw [← ex15] at bx15
        have qx15 : x15 = F74 ((p3 - 1)).toNat := by rw [← fm2_74]; exact ex15
        have z16 := zcb F74 ((p3 - 1)).toNat (p3).toNat (by omega)
        have z17 := cB_nn F74 ((p3 - 1)).toNat
        refine zw_push zr_158_20 ?_
        refine zw_41_5 zr_158_23 ?_ ?_
        · intro h18
          refine zw_7 zr_158_73 rfl ?_
          refine zw_46r (s := 73) zr_158_74 rfl rfl rfl rfl ?_
          refine zw_7 zr_158_77 rfl ?_
          refine zw_46i zr_158_78 km2_69_9 rfl rfl rfl ?_
          refine zw_5 zr_158_81 rfl ?_
          refine zw_51 (c := 73) (len := 64) zr_158_82 rfl rfl (by omega) (by omega) ?_
          intro m19 em19
          have hIm19 : zInv m19 := by rw [em19]; exact hIm2.anyl (by omega) (zK3 rfl) rfl (by decide) (by decide)
          have hFm19 : zFr W_158 m0 m19 := by rw [em19]; exact hFm2.any rfl
          have km19_69_11 : m19 69 11 = p3 := by rw [em19, zUp_ne (by omega)]; exact km2_69_11
          have km19_69_9 : m19 69 9 = p4 := by rw [em19, zUp_ne (by omega)]; exact km2_69_9
          have fm19_74 : m19 74 = F74 := by rw [em19, zUp_fn (by decide)]; exact fm2_74
          clear em19
          refine zw_7 zr_158_83 rfl ?_
          refine zw_43 zr_158_84 rfl ?_
          refine zw_46i zr_158_85 km19_69_9 rfl rfl rfl ?_
          refine zw_push zr_158_88 ?_
          refine zw_16 zr_158_89 (by omega) ?_
          refine zw_47 (c := 69) zr_158_90 rfl ⟨rfl, by decide, rfl⟩ ?_
          intro m20 em20
          have hIm20 : zInv m20 := by rw [em20]; exact hIm19.bd (r := 69) (k := 9) (lo := 0) (hi := 64) rfl (by omega) (by decide) (by decide) (by decide)
          have hFm20 : zFr W_158 m0 m20 := by rw [em20]; exact hFm19.up rfl
          have km20_69_11 : m20 69 11 = p3 := by rw [em20, zUp_ne (by omega)]; exact km19_69_11
          have km20_69_9 : m20 69 9 = (p4 + 1) := by rw [em20]; exact zUp_eq _ _ _ _
          have fm20_74 : m20 74 = F74 := by rw [em20, zUp_fn (by decide)]; exact fm19_74
          clear em20
          refine zw_R zr_158_93 (by decide) zm_158 (v := (9, 0)) rfl ?_
          rw [← hQ]; exact ⟨rfl, hIm20, hFm20, by omega, by rw [km20_69_11]; omega, by rw [km20_69_11]; omega, by omega⟩
        · intro h25
          refine zw_7 zr_158_26 rfl ?_
          refine zw_46r (s := 74) zr_158_27 rfl rfl rfl rfl ?_
          refine zw_7 zr_158_30 rfl ?_
          refine zw_46i zr_158_31 km2_69_11 rfl rfl rfl ?_
          refine zw_push zr_158_34 ?_
          refine zw_17 zr_158_35 (by omega) ?_
          refine zw_48k (c := 74) (len := 128) zr_158_36 rfl rfl (by omega) (by omega) rfl ex15.symm ?_
          refine zw_push zr_158_37 ?_
          refine zw_41_4 zr_158_40 ?_ ?_
          · intro h26
            refine zw_5 zr_158_57 rfl ?_
            refine zw_117h zr_158_58 ?_
            intro x27 hx27a hx27b
            refine zw_13 (L' := [(2, 69), (1, a0), (9, 0), (1, x27), (9, 0)]) zr_158_59 (Nat.le_of_ble_eq_true rfl) rfl ?_
            refine zw_7 zr_158_60 rfl ?_
            refine zw_43 zr_158_61 rfl ?_
            refine zw_46i zr_158_62 km2_69_11 rfl rfl rfl ?_
            refine zw_push zr_158_65 ?_
            refine zw_17 zr_158_66 (by omega) ?_
            refine zw_47 (c := 69) zr_158_67 rfl ⟨rfl, by decide, rfl⟩ ?_
            intro m28 em28
            have hIm28 : zInv m28 := by rw [em28]; exact hIm2.bd (r := 69) (k := 11) (lo := 0) (hi := 128) rfl (by omega) (by decide) (by decide) (by decide)
            have hFm28 : zFr W_158 m0 m28 := by rw [em28]; exact hFm2.up rfl
            have km28_69_9 : m28 69 9 = p4 := by rw [em28, zUp_ne (by omega)]; exact km2_69_9
            have km28_69_11 : m28 69 11 = (p3 - 1) := by rw [em28]; exact zUp_eq _ _ _ _
            have fm28_74 : m28 74 = F74 := by rw [em28, zUp_fn (by decide)]; exact fm2_74
            clear em28
            refine zw_42 zr_158_70 ?_
            exact zw_less (L := [(2, 69), (1, a0), (9, 0), (1, x27), (9, 0)]) ⟨Or.inr rfl, Or.inr rfl, Or.inl rfl, Or.inr rfl, Or.inl rfl, trivial⟩ (ihlp2_5 (x27) ((p3 - 1)) (p4) m28 hIm28 hFm28  km28_69_11 km28_69_9 fm28_74 (by omega) (by omega) (by omega) (by omega) (by omega) (by omega) (by omega) (by omega) (by omega) (by omega) (by omega))
          · intro h29
            refine zw_5 zr_158_43 rfl ?_
            refine zw_push zr_158_44 ?_
            refine zw_39_4 zr_158_45 zr_158_46 ?_ ?_
            · intro h30
              refine zw_push zr_158_53 ?_
              refine zw_42 zr_158_54 ?_
              refine zw_13 (L' := [(2, 69), (1, a0), (9, 0), (1, 0), (9, 0)]) zr_158_59 (Nat.le_of_ble_eq_true rfl) rfl ?_
              refine zw_7 zr_158_60 rfl ?_
              refine zw_43 zr_158_61 rfl ?_
              refine zw_46i zr_158_62 km2_69_11 rfl rfl rfl ?_
              refine zw_push zr_158_65 ?_
              refine zw_17 zr_158_66 (by omega) ?_
              refine zw_47 (c := 69) zr_158_67 rfl ⟨rfl, by decide, rfl⟩ ?_
              intro m31 em31
              have hIm31 : zInv m31 := by rw [em31]; exact hIm2.bd (r := 69) (k := 11) (lo := 0) (hi := 128) rfl (by omega) (by decide) (by decide) (by decide)
              have hFm31 : zFr W_158 m0 m31 := by rw [em31]; exact hFm2.up rfl
              have km31_69_9 : m31 69 9 = p4 := by rw [em31, zUp_ne (by omega)]; exact km2_69_9
              have km31_69_11 : m31 69 11 = (p3 - 1) := by rw [em31]; exact zUp_eq _ _ _ _
              have fm31_74 : m31 74 = F74 := by rw [em31, zUp_fn (by decide)]; exact fm2_74
              clear em31
              refine zw_42 zr_158_70 ?_
              exact zw_less (L := [(2, 69), (1, a0), (9, 0), (1, 0), (9, 0)]) ⟨Or.inr rfl, Or.inr rfl, Or.inl rfl, Or.inr rfl, Or.inl rfl, trivial⟩ (ihlp2_5 (0) ((p3 - 1)) (p4) m31 hIm31 hFm31  km31_69_11 km31_69_9 fm31_74 (by omega) (by omega) (by omega) (by omega) (by omega) (by omega) (by omega) (by omega) (by omega) (by omega) (by omega))
            · intro h32
              refine zw_push zr_158_49 ?_
              refine zw_42 zr_158_50 ?_
              refine zw_13 (L' := [(2, 69), (1, a0), (9, 0), (1, 1), (9, 0)]) zr_158_59 (Nat.le_of_ble_eq_true rfl) rfl ?_
              refine zw_7 zr_158_60 rfl ?_
              refine zw_43 zr_158_61 rfl ?_
              refine zw_46i zr_158_62 km2_69_11 rfl rfl rfl ?_
              refine zw_push zr_158_65 ?_
              refine zw_17 zr_158_66 (by omega) ?_
              refine zw_47 (c := 69) zr_158_67 rfl ⟨rfl, by decide, rfl⟩ ?_
              intro m33 em33
              have hIm33 : zInv m33 := by rw [em33]; exact hIm2.bd (r := 69) (k := 11) (lo := 0) (hi := 128) rfl (by omega) (by decide) (by decide) (by decide)
              have hFm33 : zFr W_158 m0 m33 := by rw [em33]; exact hFm2.up rfl
              have km33_69_9 : m33 69 9 = p4 := by rw [em33, zUp_ne (by omega)]; exact km2_69_9
              have km33_69_11 : m33 69 11 = (p3 - 1) := by rw [em33]; exact zUp_eq _ _ _ _
              have fm33_74 : m33 74 = F74 := by rw [em33, zUp_fn (by decide)]; exact fm2_74
              clear em33
              refine zw_42 zr_158_70 ?_
              exact zw_less (L := [(2, 69), (1, a0), (9, 0), (1, 1), (9, 0)]) ⟨Or.inr rfl, Or.inr rfl, Or.inl rfl, Or.inr rfl, Or.inl rfl, trivial⟩ (ihlp2_5 (1) ((p3 - 1)) (p4) m33 hIm33 hFm33  km33_69_11 km33_69_9 fm33_74 (by omega) (by omega) (by omega) (by omega) (by omega) (by omega) (by omega) (by omega) (by omega) (by omega) (by omega))
  exact lp2_5 _ (a0) (g0) (g1) m0 hI0 hF0  hg0 hg1 hG74 (by omega) (by omega) (by omega) (by omega) (by omega) (by omega) (by omega) (by omega) (by omega) (by omega) (Nat.lt_succ_self _)

abbrev W_160 : List (Nat × Nat) := [(69, 6), (69, 7)]
set_option maxHeartbeats 8000000 in
theorem th_160 {E : zE} {d : Nat} {m0 : zM} {g0 : Int} {g1 : Int} (hd : 2 ≤ d) (hI0 : zInv m0) (hg0 : m0 69 6 = g0) (hg1 : m0 69 7 = g1) : zC E d 160 [(2, 69)] m0 (fun v m' => ∃ r : Int, v = (1, r) ∧ (-9223372036854775808) ≤ r ∧ r ≤ 9223372036854775807 ∧ zInv m' ∧ zFr W_160 m0 m' ∧ (g0 ≤ m' 69 6) ∧ (m' 69 7 = g1 ∨ 0 ≤ m' 69 7)) := by
  have hF0 : zFr W_160 m0 m0 := zFr.rfl
  have bg0 := ib_69_6 hI0
  rw [hg0] at bg0
  have bg1 := hI0.fi (c := 69) (k := 7) rfl
  rw [hg1] at bg1
  generalize hQ : (fun (v : zV) (m' : zM) => ∃ r : Int, v = (1, r) ∧ (-9223372036854775808) ≤ r ∧ r ≤ 9223372036854775807 ∧ zInv m' ∧ zFr W_160 m0 m' ∧ (g0 ≤ m' 69 6) ∧ (m' 69 7 = g1 ∨ 0 ≤ m' 69 7)) = Q
  show zW E d 160 0 [(2, 69), (9, 0), (9, 0), (9, 0)] [] m0 Q
  refine zw_7 zr_160_0 rfl ?_
  refine zw_46i zr_160_1 hg0 rfl rfl rfl ?_
  refine zw_9 (L' := [(2, 69), (0, g0), (9, 0), (9, 0)]) zr_160_4 (Nat.le_of_ble_eq_true rfl) rfl ?_
  refine zw_push zr_160_5 ?_
  refine zw_13 (L' := [(2, 69), (0, g0), (1, 0), (9, 0)]) zr_160_6 (Nat.le_of_ble_eq_true rfl) rfl ?_
  have lp7_5 : ∀ (nlp7_5 : Nat) (i1 p3 p4 : Int) (m2 : zM), zInv m2 → zFr W_160 m0 m2 → m2 69 6 = p3 → m2 69 7 = p4 → (-9223372036854775808) ≤ i1 → i1 ≤ 9223372036854775807 → 0 ≤ p3 → p3 ≤ 50 → (-2147483648) ≤ p4 → p4 ≤ 2147483647 → (g0 ≤ p3) → (p4 = g1) → (50 - p3).toNat < nlp7_5 → zW E (d) 160 7 [(2, 69), (0, g0), (1, i1), (9, 0)] [] m2 Q := by
    intro nlp7_5
    induction nlp7_5 with
    | zero =>
      intros
      exact absurd (by assumption : _ < 0) (Nat.not_lt_zero _)
    | succ nlp7_5 ihlp7_5 =>
      intro i1 p3 p4 m2 hIm2 hFm2 km2_69_6 km2_69_7 li1 ui1 lp3 up3 lp4 up4 hv0lp7_5 hv1lp7_5 hmlp7_5
      refine zw_7 zr_160_7 rfl ?_
      refine zw_46i zr_160_8 km2_69_6 rfl rfl rfl ?_
      refine zw_7 zr_160_11 rfl ?_
      refine zw_C zr_160_12 (Or.inl rfl) zm_152 rfl rfl ⟨Nat.le_of_ble_eq_true rfl, Nat.le_of_ble_eq_true rfl, Nat.le_of_ble_eq_true rfl, rfl, by decide⟩ (by omega) (P := (fun v m' => zW E (d) 160 15 [(2, 69), (0, g0), (1, i1), (9, 0)] (if v.1 = 9 then [(0, p3)] else v :: [(0, p3)]) m' Q)) ?_ (fun _ _ h => h)
      generalize hQ1 : (fun v m' => zW E (d) 160 15 [(2, 69), (0, g0), (1, i1), (9, 0)] (if v.1 = 9 then [(0, p3)] else v :: [(0, p3)]) m' Q) = Q1
      show zW E (d - 1) 152 0 [(2, 69)] [] m2 Q1
      refine zw_7 zr_152_0 rfl ?_
      refine zw_46r (s := 70) zr_152_1 rfl rfl rfl rfl ?_
      refine zw_push zr_152_4 ?_
      refine zw_push zr_152_7 ?_
      refine zw_7 zr_152_9 rfl ?_
      obtain ⟨f7, ef7⟩ : ∃ v, m2 69 5 = v := ⟨_, rfl⟩
      have bf7 := ib_69_5 hIm2
      rw [ef7] at bf7
      refine zw_46i zr_152_10 ef7 rfl rfl rfl ?_
      refine zw_18 zr_152_13 (by omega) ?_
      refine zw_16 zr_152_14 (by omega) ?_
      refine zw_push zr_152_15 ?_
      refine zw_16 zr_152_16 (by omega) ?_
      refine zw_48 (c := 70) (len := 826) zr_152_17 rfl rfl (by omega) (by omega) ?_
      intro x8 ex8
      have bx8 := ib_70_s1 hIm2 (k := (((450 + (52 * f7)) + 1)).toNat) (by omega)
      rw [← ex8] at bx8
      clear ex8
      refine zw_R zr_152_18 (by decide) zm_152 (v := (0, x8)) rfl ?_
      rw [← hQ1]
      show zW E (d) 160 15 [(2, 69), (0, g0), (1, i1), (9, 0)] [(0, x8), (0, p3)] m2 Q
      refine zw_41_3 zr_160_15 ?_ ?_
      · intro h9
        refine zw_5 zr_160_95 rfl ?_
        refine zw_R zr_160_96 (by decide) zm_160 (v := (1, i1)) rfl ?_
        rw [← hQ]; exact ⟨_, rfl, by omega, by omega, hIm2, hFm2, by omega, by omega⟩
      · intro h12
        refine zw_7 zr_160_18 rfl ?_
        refine zw_7 zr_160_19 rfl ?_
        refine zw_46i zr_160_20 km2_69_6 rfl rfl rfl ?_
        refine zw_C zr_160_23 (Or.inl rfl) zm_153 rfl rfl ⟨Nat.le_of_ble_eq_true rfl, Nat.le_of_ble_eq_true rfl, Nat.le_of_ble_eq_true rfl, rfl, by decide⟩ (by omega) (P := (fun v m' => zW E (d) 160 26 [(2, 69), (0, g0), (1, i1), (9, 0)] (if v.1 = 9 then [] else v :: []) m' Q)) ?_ (fun _ _ h => h)
        generalize hQ1 : (fun v m' => zW E (d) 160 26 [(2, 69), (0, g0), (1, i1), (9, 0)] (if v.1 = 9 then [] else v :: []) m' Q) = Q1
        show zW E (d - 1) 153 0 [(2, 69), (0, p3)] [] m2 Q1
        refine zw_7 zr_153_0 rfl ?_
        refine zw_46r (s := 70) zr_153_1 rfl rfl rfl rfl ?_
        refine zw_push zr_153_4 ?_
        refine zw_push zr_153_7 ?_
        refine zw_7 zr_153_9 rfl ?_
        refine zw_46i zr_153_10 ef7 rfl rfl rfl ?_
        refine zw_18 zr_153_13 (by omega) ?_
        refine zw_16 zr_153_14 (by omega) ?_
        refine zw_push zr_153_15 ?_
        refine zw_16 zr_153_16 (by omega) ?_
        refine zw_3 zr_153_17 rfl ?_
        refine zw_16 zr_153_18 (by omega) ?_
        refine zw_48 (c := 70) (len := 826) zr_153_19 rfl rfl (by omega) (by omega) ?_
        intro x13 ex13
        have bx13 := ib_70_s2 hIm2 (k := ((((450 + (52 * f7)) + 2) + p3)).toNat) (by omega)
        rw [← ex13] at bx13
        refine zw_R zr_153_20 (by decide) zm_153 (v := (0, x13)) rfl ?_
        rw [← hQ1]
        show zW E (d) 160 26 [(2, 69), (0, g0), (1, i1), (9, 0)] [(0, x13)] m2 Q
        refine zw_36 zr_160_26 ?_
        refine zw_push zr_160_27 ?_
        refine zw_push zr_160_30 ?_
        refine zw_C zr_160_33 (Or.inr rfl) zm_140 rfl rfl ⟨Nat.le_of_ble_eq_true rfl, Nat.le_of_ble_eq_true rfl, Nat.le_of_ble_eq_true rfl, rfl, by decide⟩ (by omega) (P := (fun v m' => zW E (d) 160 36 [(2, 69), (0, g0), (1, i1), (9, 0)] (if v.1 = 9 then [] else v :: []) m' Q)) ?_ (fun _ _ h => h)
        generalize hQ1 : (fun v m' => zW E (d) 160 36 [(2, 69), (0, g0), (1, i1), (9, 0)] (if v.1 = 9 then [] else v :: []) m' Q) = Q1
        show zW E (d - 1) 140 0 [(1, x13), (9, 0), (1, 48), (9, 0), (1, 57), (9, 0)] [] m2 Q1
        refine zw_5 zr_140_0 rfl ?_
        refine zw_5 zr_140_1 rfl ?_
        refine zw_39_0 zr_140_2 zr_140_3 ?_ ?_
        · intro h14
          refine zw_push zr_140_17 ?_
          refine zw_R zr_140_18 (by decide) zm_140 (v := (0, 0)) (zRetB (by omega)) ?_
          rw [← hQ1]
          show zW E (d) 160 36 [(2, 69), (0, g0), (1, i1), (9, 0)] [(0, 0)] m2 Q
          refine zw_40_1 zr_160_36 ?_ ?_
          · intro h15
            refine zw_5 zr_160_95 rfl ?_
            refine zw_R zr_160_96 (by decide) zm_160 (v := (1, i1)) rfl ?_
            rw [← hQ]; exact ⟨_, rfl, by omega, by omega, hIm2, hFm2, by omega, by omega⟩
          · intro h18; omega
        · intro h19
          refine zw_5 zr_140_6 rfl ?_
          refine zw_6 zr_140_7 rfl ?_
          refine zw_39_2 zr_140_9 zr_140_10 ?_ ?_
          · intro h20
            refine zw_push zr_140_17 ?_
            refine zw_R zr_140_18 (by decide) zm_140 (v := (0, 0)) (zRetB (by omega)) ?_
            rw [← hQ1]
            show zW E (d) 160 36 [(2, 69), (0, g0), (1, i1), (9, 0)] [(0, 0)] m2 Q
            refine zw_40_1 zr_160_36 ?_ ?_
            · intro h21
              refine zw_5 zr_160_95 rfl ?_
              refine zw_R zr_160_96 (by decide) zm_160 (v := (1, i1)) rfl ?_
              rw [← hQ]; exact ⟨_, rfl, by omega, by omega, hIm2, hFm2, by omega, by omega⟩
            · intro h24; omega
          · intro h25
            refine zw_push zr_140_13 ?_
            refine zw_42 zr_140_14 ?_
            refine zw_R zr_140_18 (by decide) zm_140 (v := (0, 1)) (zRetB (by omega)) ?_
            rw [← hQ1]
            show zW E (d) 160 36 [(2, 69), (0, g0), (1, i1), (9, 0)] [(0, 1)] m2 Q
            refine zw_40_1 zr_160_36 ?_ ?_
            · intro h26; omega
            · intro h27
              refine zw_7 zr_160_39 rfl ?_
              refine zw_46i zr_160_40 km2_69_6 rfl rfl rfl ?_
              refine zw_3 zr_160_43 rfl ?_
              refine zw_17 zr_160_44 (by omega) ?_
              refine zw_push zr_160_45 ?_
              refine zw_41_4 zr_160_47 ?_ ?_
              · intro h28
                refine zw_push zr_160_62 ?_
                refine zw_5 zr_160_65 rfl ?_
                refine zw_29h zr_160_66 ?_
                intro x29 hx29a hx29b
                refine zw_7 zr_160_67 rfl ?_
                refine zw_7 zr_160_68 rfl ?_
                refine zw_46i zr_160_69 km2_69_6 rfl rfl rfl ?_
                refine zw_C zr_160_72 (Or.inl rfl) zm_153 rfl rfl ⟨Nat.le_of_ble_eq_true rfl, Nat.le_of_ble_eq_true rfl, Nat.le_of_ble_eq_true rfl, rfl, by decide⟩ (by omega) (P := (fun v m' => zW E (d) 160 75 [(2, 69), (0, g0), (1, i1), (9, 0)] (if v.1 = 9 then [(1, x29)] else v :: [(1, x29)]) m' Q)) ?_ (fun _ _ h => h)
                generalize hQ1 : (fun v m' => zW E (d) 160 75 [(2, 69), (0, g0), (1, i1), (9, 0)] (if v.1 = 9 then [(1, x29)] else v :: [(1, x29)]) m' Q) = Q1
                show zW E (d - 1) 153 0 [(2, 69), (0, p3)] [] m2 Q1
                refine zw_7 zr_153_0 rfl ?_
                refine zw_46r (s := 70) zr_153_1 rfl rfl rfl rfl ?_
                refine zw_push zr_153_4 ?_
                refine zw_push zr_153_7 ?_
                refine zw_7 zr_153_9 rfl ?_
                refine zw_46i zr_153_10 ef7 rfl rfl rfl ?_
                refine zw_18 zr_153_13 (by omega) ?_
                refine zw_16 zr_153_14 (by omega) ?_
                refine zw_push zr_153_15 ?_
                refine zw_16 zr_153_16 (by omega) ?_
                refine zw_3 zr_153_17 rfl ?_
                refine zw_16 zr_153_18 (by omega) ?_
                refine zw_48k (c := 70) (len := 826) zr_153_19 rfl rfl (by omega) (by omega) rfl ex13.symm ?_
                refine zw_R zr_153_20 (by decide) zm_153 (v := (0, x13)) rfl ?_
                rw [← hQ1]
                show zW E (d) 160 75 [(2, 69), (0, g0), (1, i1), (9, 0)] [(0, x13), (1, x29)] m2 Q
                refine zw_36 zr_160_75 ?_
                refine zw_27h zr_160_76 ?_
                intro x30 hx30a hx30b
                refine zw_push zr_160_77 ?_
                refine zw_28h zr_160_80 ?_
                intro x31 hx31a hx31b
                refine zw_13 (L' := [(2, 69), (0, g0), (1, x31), (9, 0)]) zr_160_81 (Nat.le_of_ble_eq_true rfl) rfl ?_
                refine zw_7 zr_160_82 rfl ?_
                refine zw_43 zr_160_83 rfl ?_
                refine zw_46i zr_160_84 km2_69_6 rfl rfl rfl ?_
                refine zw_push zr_160_87 ?_
                refine zw_16 zr_160_88 (by omega) ?_
                refine zw_47 (c := 69) zr_160_89 rfl ⟨rfl, by decide, rfl⟩ ?_
                intro m32 em32
                have hIm32 : zInv m32 := by rw [em32]; exact hIm2.bd (r := 69) (k := 6) (lo := 0) (hi := 50) rfl (by omega) (by decide) (by decide) (by decide)
                have hFm32 : zFr W_160 m0 m32 := by rw [em32]; exact hFm2.up rfl
                have km32_69_7 : m32 69 7 = p4 := by rw [em32, zUp_ne (by omega)]; exact km2_69_7
                have km32_69_5 : m32 69 5 = f7 := by rw [em32, zUp_ne (by omega)]; exact ef7
                have km32_69_6 : m32 69 6 = (p3 + 1) := by rw [em32]; exact zUp_eq _ _ _ _
                clear em32
                refine zw_42 zr_160_92 ?_
                exact zw_less (L := [(2, 69), (0, g0), (1, x31), (9, 0)]) ⟨Or.inr rfl, Or.inr rfl, Or.inr rfl, Or.inl rfl, trivial⟩ (ihlp7_5 (x31) ((p3 + 1)) (p4) m32 hIm32 hFm32  km32_69_6 km32_69_7 (by omega) (by omega) (by omega) (by omega) (by omega) (by omega) (by omega) (by omega) (by omega))
              · intro h33
                refine zw_7 zr_160_50 rfl ?_
                refine zw_push zr_160_51 ?_
                refine zw_3 zr_160_53 rfl ?_
                refine zw_18 zr_160_54 (by omega) ?_
                refine zw_push zr_160_55 ?_
                refine zw_16 zr_160_56 (by omega) ?_
                refine zw_47 (c := 69) zr_160_57 rfl ⟨rfl, by decide, rfl⟩ ?_
                intro m34 em34
                have hIm34 : zInv m34 := by rw [em34]; exact hIm2.any (by omega) rfl (by decide) (by decide)
                have hFm34 : zFr W_160 m0 m34 := by rw [em34]; exact hFm2.up rfl
                have km34_69_6 : m34 69 6 = p3 := by rw [em34, zUp_ne (by omega)]; exact km2_69_6
                have km34_69_5 : m34 69 5 = f7 := by rw [em34, zUp_ne (by omega)]; exact ef7
                have km34_69_7 : m34 69 7 = ((10 * g0) + 2) := by rw [em34]; exact zUp_eq _ _ _ _
                clear em34
                refine zw_push zr_160_60 ?_
                refine zw_R zr_160_61 (by decide) zm_160 (v := (1, 0)) rfl ?_
                rw [← hQ]; exact ⟨_, rfl, by omega, by omega, hIm34, hFm34, by omega, by omega⟩
  exact lp7_5 _ (0) (g0) (g1) m0 hI0 hF0  hg0 hg1 (by omega) (by omega) (by omega) (by omega) (by omega) (by omega) (by omega) (by omega) (Nat.lt_succ_self _)

abbrev W_161 : List (Nat × Nat) := [(69, 6), (69, 7), (69, 9), (69, 11), (69, 13), (73, 1000), (74, 1000)]
set_option maxHeartbeats 8000000 in
theorem th_161 {E : zE} {d : Nat} {m0 : zM} {F74 : Nat → Int} (hd : 3 ≤ d) (hI0 : zInv m0) (hG74 : m0 74 = F74) : zC E d 161 [(2, 69)] m0 (fun v m' => ∃ r : Int, v = (0, r) ∧ 0 ≤ r ∧ r ≤ 1 ∧ zInv m' ∧ zFr W_161 m0 m') := by
  have hF0 : zFr W_161 m0 m0 := zFr.rfl
  generalize hQ : (fun (v : zV) (m' : zM) => ∃ r : Int, v = (0, r) ∧ 0 ≤ r ∧ r ≤ 1 ∧ zInv m' ∧ zFr W_161 m0 m') = Q
  show zW E d 161 0 [(2, 69), (9, 0), (9, 0), (9, 0), (9, 0)] [] m0 Q
  refine zw_7 zr_161_0 rfl ?_
  refine zw_push zr_161_1 ?_
  refine zw_47 (c := 69) zr_161_2 rfl ⟨rfl, by decide, rfl⟩ ?_
  intro m1 em1
  have hIm1 : zInv m1 := by rw [em1]; exact hI0.bd (r := 69) (k := 6) (lo := 0) (hi := 50) rfl (by omega) (by decide) (by decide) (by decide)
  have hFm1 : zFr W_161 m0 m1 := by rw [em1]; exact hF0.up rfl
  have km1_69_6 : m1 69 6 = 0 := by rw [em1]; exact zUp_eq _ _ _ _
  have fm1_74 : m1 74 = F74 := by rw [em1, zUp_fn (by decide)]; exact hG74
  clear em1
  refine zw_7 zr_161_5 rfl ?_
  refine zw_push zr_161_6 ?_
  refine zw_47 (c := 69) zr_161_7 rfl ⟨rfl, by decide, rfl⟩ ?_
  intro m2 em2
  have hIm2 : zInv m2 := by rw [em2]; exact hIm1.any (by omega) rfl (by decide) (by decide)
  have hFm2 : zFr W_161 m0 m2 := by rw [em2]; exact hFm1.up rfl
  have km2_69_6 : m2 69 6 = 0 := by rw [em2, zUp_ne (by omega)]; exact km1_69_6
  have km2_69_7 : m2 69 7 = (-1) := by rw [em2]; exact zUp_eq _ _ _ _
  have fm2_74 : m2 74 = F74 := by rw [em2, zUp_fn (by decide)]; exact fm1_74
  clear em2
  refine zw_7 zr_161_10 rfl ?_
  refine zw_push zr_161_11 ?_
  refine zw_47 (c := 69) zr_161_12 rfl ⟨rfl, by decide, rfl⟩ ?_
  intro m3 em3
  have hIm3 : zInv m3 := by rw [em3]; exact hIm2.bd (r := 69) (k := 9) (lo := 0) (hi := 64) rfl (by omega) (by decide) (by decide) (by decide)
  have hFm3 : zFr W_161 m0 m3 := by rw [em3]; exact hFm2.up rfl
  have km3_69_6 : m3 69 6 = 0 := by rw [em3, zUp_ne (by omega)]; exact km2_69_6
  have km3_69_7 : m3 69 7 = (-1) := by rw [em3, zUp_ne (by omega)]; exact km2_69_7
  have km3_69_9 : m3 69 9 = 0 := by rw [em3]; exact zUp_eq _ _ _ _
  have fm3_74 : m3 74 = F74 := by rw [em3, zUp_fn (by decide)]; exact fm2_74
  clear em3
  refine zw_7 zr_161_15 rfl ?_
  refine zw_push zr_161_16 ?_
  refine zw_47 (c := 69) zr_161_17 rfl ⟨rfl, by decide, rfl⟩ ?_
  intro m4 em4
  have hIm4 : zInv m4 := by rw [em4]; exact hIm3.bd (r := 69) (k := 11) (lo := 0) (hi := 128) rfl (by omega) (by decide) (by decide) (by decide)
  have hFm4 : zFr W_161 m0 m4 := by rw [em4]; exact hFm3.up rfl
  have km4_69_6 : m4 69 6 = 0 := by rw [em4, zUp_ne (by omega)]; exact km3_69_6
  have km4_69_7 : m4 69 7 = (-1) := by rw [em4, zUp_ne (by omega)]; exact km3_69_7
  have km4_69_9 : m4 69 9 = 0 := by rw [em4, zUp_ne (by omega)]; exact km3_69_9
  have km4_69_11 : m4 69 11 = 0 := by rw [em4]; exact zUp_eq _ _ _ _
  have fm4_74 : m4 74 = F74 := by rw [em4, zUp_fn (by decide)]; exact fm3_74
  clear em4
  refine zw_push zr_161_20 ?_
  refine zw_9 (L' := [(2, 69), (0, 0), (9, 0), (9, 0), (9, 0)]) zr_161_21 (Nat.le_of_ble_eq_true rfl) rfl ?_
  refine zw_push zr_161_22 ?_
  refine zw_9 (L' := [(2, 69), (0, 0), (0, 1), (9, 0), (9, 0)]) zr_161_23 (Nat.le_of_ble_eq_true rfl) rfl ?_
  refine zw_push zr_161_24 ?_
  refine zw_9 (L' := [(2, 69), (0, 0), (0, 1), (0, 1), (9, 0)]) zr_161_25 (Nat.le_of_ble_eq_true rfl) rfl ?_
  have lp26_14 : ∀ (nlp26_14 : Nat) (i5 i6 i7 p9 p10 p11 p12 : Int) (f13 : Nat → Int) (m8 : zM), zInv m8 → zFr W_161 m0 m8 → m8 69 6 = p9 → m8 69 7 = p10 → m8 69 9 = p11 → m8 69 11 = p12 → m8 74 = f13 → 0 ≤ i5 → i5 ≤ 8 → 0 ≤ i6 → i6 ≤ 1 → 0 ≤ i7 → i7 ≤ 1 → 0 ≤ p9 → p9 ≤ 50 → (-2147483648) ≤ p10 → p10 ≤ 2147483647 → 0 ≤ p11 → p11 ≤ 64 → 0 ≤ p12 → p12 ≤ 128 → (p12 ≤ p9) → (cB f13 (p12).toNat + (1 - i6) ≤ p11) → (p11 ≤ p9 + (1 - i6)) → (i5 ≤ cP f13 (p12).toNat) → (10 * (51 - p9) + 5 * i6 + i7 - p10).toNat < nlp26_14 → zW E (d) 161 26 [(2, 69), (0, i5), (0, i6), (0, i7), (9, 0)] [] m8 Q := by
    intro nlp26_14
    induction nlp26_14 with
    | zero =>
      intros
      exact absurd (by assumption : _ < 0) (Nat.not_lt_zero _)
    | succ nlp26_14 ihlp26_14 =>
      intro i5 i6 i7 p9 p10 p11 p12 f13 m8 hIm8 hFm8 km8_69_6 km8_69_7 km8_69_9 km8_69_11 fm8_74 li5 ui5 li6 ui6 li7 ui7 lp9 up9 lp10 up10 lp11 up11 lp12 up12 hv0lp26_14 hv1lp26_14 hv2lp26_14 hv3lp26_14 hmlp26_14
      have z16 := cB_nn f13 (p12).toNat
      refine zw_3 zr_161_26 rfl ?_
      refine zw_40_1 zr_161_27 ?_ ?_
      · intro h17
        refine zw_7 zr_161_488 rfl ?_
        refine zw_7 zr_161_489 rfl ?_
        refine zw_46i zr_161_490 km8_69_7 rfl rfl rfl ?_
        refine zw_push zr_161_493 ?_
        refine zw_41_4 zr_161_494 ?_ ?_
        · intro h18
          refine zw_push zr_161_506 ?_
          refine zw_47 (c := 69) zr_161_507 rfl ⟨rfl, by decide, rfl⟩ ?_
          intro m19 em19
          have hIm19 : zInv m19 := by rw [em19]; exact hIm8.anyl (by omega) (by decide) rfl (by decide) (by decide)
          have hFm19 : zFr W_161 m0 m19 := by rw [em19]; exact hFm8.up rfl
          have km19_69_6 : m19 69 6 = p9 := by rw [em19, zUp_ne (by omega)]; exact km8_69_6
          have km19_69_7 : m19 69 7 = p10 := by rw [em19, zUp_ne (by omega)]; exact km8_69_7
          have km19_69_9 : m19 69 9 = p11 := by rw [em19, zUp_ne (by omega)]; exact km8_69_9
          have km19_69_11 : m19 69 11 = p12 := by rw [em19, zUp_ne (by omega)]; exact km8_69_11
          have km19_69_13 : m19 69 13 = 0 := by rw [em19]; exact zUp_eq _ _ _ _
          have fm19_74 : m19 74 = f13 := by rw [em19, zUp_fn (by decide)]; exact fm8_74
          clear em19
          refine zw_7 zr_161_510 rfl ?_
          refine zw_46i zr_161_511 km19_69_7 rfl rfl rfl ?_
          refine zw_push zr_161_514 ?_
          refine zw_41_4 zr_161_515 ?_ ?_
          · intro h20
            refine zw_push zr_161_522 ?_
            refine zw_R zr_161_523 (by decide) zm_161 (v := (0, 0)) (zRetB (by omega)) ?_
            rw [← hQ]; exact ⟨_, rfl, by omega, by omega, hIm19, hFm19⟩
          · intro h21
            refine zw_push zr_161_518 ?_
            refine zw_42 zr_161_519 ?_
            refine zw_R zr_161_523 (by decide) zm_161 (v := (0, 1)) (zRetB (by omega)) ?_
            rw [← hQ]; exact ⟨_, rfl, by omega, by omega, hIm19, hFm19⟩
        · intro h22
          refine zw_7 zr_161_497 rfl ?_
          refine zw_46r (s := 73) zr_161_498 rfl rfl rfl rfl ?_
          refine zw_push zr_161_501 ?_
          obtain ⟨f23, ef23⟩ : ∃ v, m8 73 0 = v := ⟨_, rfl⟩
          have bf23 : (-9223372036854775808) ≤ m8 73 0 ∧ m8 73 0 ≤ 9223372036854775807 := hIm8.rl (c := 73) (len := 64) rfl (by omega)
          rw [ef23] at bf23
          refine zw_50k (c := 73) (len := 64) zr_161_502 rfl rfl (by omega) (by omega) (show (0 : Int).toNat = 0 by omega) ef23 ?_
          refine zw_42 zr_161_503 ?_
          refine zw_47 (c := 69) zr_161_507 rfl ⟨rfl, by decide, rfl⟩ ?_
          intro m24 em24
          have hIm24 : zInv m24 := by rw [em24]; exact hIm8.anyl (by omega) (by decide) rfl (by decide) (by decide)
          have hFm24 : zFr W_161 m0 m24 := by rw [em24]; exact hFm8.up rfl
          have km24_69_6 : m24 69 6 = p9 := by rw [em24, zUp_ne (by omega)]; exact km8_69_6
          have km24_69_7 : m24 69 7 = p10 := by rw [em24, zUp_ne (by omega)]; exact km8_69_7
          have km24_69_9 : m24 69 9 = p11 := by rw [em24, zUp_ne (by omega)]; exact km8_69_9
          have km24_69_11 : m24 69 11 = p12 := by rw [em24, zUp_ne (by omega)]; exact km8_69_11
          have km24_73_0 : m24 73 0 = f23 := by rw [em24, zUp_ne (by omega)]; exact ef23
          have km24_69_13 : m24 69 13 = f23 := by rw [em24]; exact zUp_eq _ _ _ _
          have fm24_74 : m24 74 = f13 := by rw [em24, zUp_fn (by decide)]; exact fm8_74
          clear em24
          refine zw_7 zr_161_510 rfl ?_
          refine zw_46i zr_161_511 km24_69_7 rfl rfl rfl ?_
          refine zw_push zr_161_514 ?_
          refine zw_41_4 zr_161_515 ?_ ?_
          · intro h25; omega
          · intro h26
            refine zw_push zr_161_518 ?_
            refine zw_42 zr_161_519 ?_
            refine zw_R zr_161_523 (by decide) zm_161 (v := (0, 1)) (zRetB (by omega)) ?_
            rw [← hQ]; exact ⟨_, rfl, by omega, by omega, hIm24, hFm24⟩
      · intro h27
        refine zw_7 zr_161_30 rfl ?_
        refine zw_46i zr_161_31 km8_69_7 rfl rfl rfl ?_
        refine zw_push zr_161_34 ?_
        refine zw_41_4 zr_161_35 ?_ ?_
        · intro h28
          refine zw_7 zr_161_488 rfl ?_
          refine zw_7 zr_161_489 rfl ?_
          refine zw_46i zr_161_490 km8_69_7 rfl rfl rfl ?_
          refine zw_push zr_161_493 ?_
          refine zw_41_4 zr_161_494 ?_ ?_
          · intro h29
            refine zw_push zr_161_506 ?_
            refine zw_47 (c := 69) zr_161_507 rfl ⟨rfl, by decide, rfl⟩ ?_
            intro m30 em30
            have hIm30 : zInv m30 := by rw [em30]; exact hIm8.anyl (by omega) (by decide) rfl (by decide) (by decide)
            have hFm30 : zFr W_161 m0 m30 := by rw [em30]; exact hFm8.up rfl
            have km30_69_6 : m30 69 6 = p9 := by rw [em30, zUp_ne (by omega)]; exact km8_69_6
            have km30_69_7 : m30 69 7 = p10 := by rw [em30, zUp_ne (by omega)]; exact km8_69_7
            have km30_69_9 : m30 69 9 = p11 := by rw [em30, zUp_ne (by omega)]; exact km8_69_9
            have km30_69_11 : m30 69 11 = p12 := by rw [em30, zUp_ne (by omega)]; exact km8_69_11
            have km30_69_13 : m30 69 13 = 0 := by rw [em30]; exact zUp_eq _ _ _ _
            have fm30_74 : m30 74 = f13 := by rw [em30, zUp_fn (by decide)]; exact fm8_74
            clear em30
            refine zw_7 zr_161_510 rfl ?_
            refine zw_46i zr_161_511 km30_69_7 rfl rfl rfl ?_
            refine zw_push zr_161_514 ?_
            refine zw_41_4 zr_161_515 ?_ ?_
            · intro h31
              refine zw_push zr_161_522 ?_
              refine zw_R zr_161_523 (by decide) zm_161 (v := (0, 0)) (zRetB (by omega)) ?_
              rw [← hQ]; exact ⟨_, rfl, by omega, by omega, hIm30, hFm30⟩
            · intro h32
              refine zw_push zr_161_518 ?_
              refine zw_42 zr_161_519 ?_
              refine zw_R zr_161_523 (by decide) zm_161 (v := (0, 1)) (zRetB (by omega)) ?_
              rw [← hQ]; exact ⟨_, rfl, by omega, by omega, hIm30, hFm30⟩
          · intro h33
            refine zw_7 zr_161_497 rfl ?_
            refine zw_46r (s := 73) zr_161_498 rfl rfl rfl rfl ?_
            refine zw_push zr_161_501 ?_
            obtain ⟨f34, ef34⟩ : ∃ v, m8 73 0 = v := ⟨_, rfl⟩
            have bf34 : (-9223372036854775808) ≤ m8 73 0 ∧ m8 73 0 ≤ 9223372036854775807 := hIm8.rl (c := 73) (len := 64) rfl (by omega)
            rw [ef34] at bf34
            refine zw_50k (c := 73) (len := 64) zr_161_502 rfl rfl (by omega) (by omega) (show (0 : Int).toNat = 0 by omega) ef34 ?_
            refine zw_42 zr_161_503 ?_
            refine zw_47 (c := 69) zr_161_507 rfl ⟨rfl, by decide, rfl⟩ ?_
            intro m35 em35
            have hIm35 : zInv m35 := by rw [em35]; exact hIm8.anyl (by omega) (by decide) rfl (by decide) (by decide)
            have hFm35 : zFr W_161 m0 m35 := by rw [em35]; exact hFm8.up rfl
            have km35_69_6 : m35 69 6 = p9 := by rw [em35, zUp_ne (by omega)]; exact km8_69_6
            have km35_69_7 : m35 69 7 = p10 := by rw [em35, zUp_ne (by omega)]; exact km8_69_7
            have km35_69_9 : m35 69 9 = p11 := by rw [em35, zUp_ne (by omega)]; exact km8_69_9
            have km35_69_11 : m35 69 11 = p12 := by rw [em35, zUp_ne (by omega)]; exact km8_69_11
            have km35_73_0 : m35 73 0 = f34 := by rw [em35, zUp_ne (by omega)]; exact ef34
            have km35_69_13 : m35 69 13 = f34 := by rw [em35]; exact zUp_eq _ _ _ _
            have fm35_74 : m35 74 = f13 := by rw [em35, zUp_fn (by decide)]; exact fm8_74
            clear em35
            refine zw_7 zr_161_510 rfl ?_
            refine zw_46i zr_161_511 km35_69_7 rfl rfl rfl ?_
            refine zw_push zr_161_514 ?_
            refine zw_41_4 zr_161_515 ?_ ?_
            · intro h36; omega
            · intro h37
              refine zw_push zr_161_518 ?_
              refine zw_42 zr_161_519 ?_
              refine zw_R zr_161_523 (by decide) zm_161 (v := (0, 1)) (zRetB (by omega)) ?_
              rw [← hQ]; exact ⟨_, rfl, by omega, by omega, hIm35, hFm35⟩
        · intro h38
          refine zw_7 zr_161_38 rfl ?_
          refine zw_C zr_161_39 (Or.inl rfl) zm_154 rfl rfl ⟨Nat.le_of_ble_eq_true rfl, Nat.le_of_ble_eq_true rfl, Nat.le_of_ble_eq_true rfl, rfl, by decide⟩ (by omega) (th_154 (d := d - 1) (by omega) hIm8  (g0 := p9)   km8_69_6   ) ?_
          rintro _ m39 ⟨r40, rfl, hr40a, hr40b, hIm39, gm39, po0_r40, po1_r40⟩
          have hFm39 : zFr W_161 m0 m39 := hFm8.trans gm39 rfl
          have km39_69_7 : m39 69 7 = p10 := (gm39 69 7 rfl).trans km8_69_7
          have km39_69_9 : m39 69 9 = p11 := (gm39 69 9 rfl).trans km8_69_9
          have km39_69_11 : m39 69 11 = p12 := (gm39 69 11 rfl).trans km8_69_11
          have fm39_74 : m39 74 = f13 := (funext fun k => gm39 74 k rfl).trans fm8_74
          obtain ⟨f41, ef41⟩ : ∃ v, m39 69 6 = v := ⟨_, rfl⟩
          have bf41 := ib_69_6 hIm39
          rw [ef41] at bf41
          show zW E (d) 161 42 [(2, 69), (0, i5), (0, i6), (0, i7), (9, 0)] [(0, r40)] m39 Q
          refine zw_10 (L' := [(2, 69), (0, i5), (0, i6), (0, i7), (0, r40)]) zr_161_42 (Nat.le_of_ble_eq_true rfl) rfl ?_
          refine zw_3 zr_161_44 rfl ?_
          refine zw_40_1 zr_161_45 ?_ ?_
          · intro h42
            refine zw_4 zr_161_254 rfl ?_
            refine zw_push zr_161_256 ?_
            refine zw_41_4 zr_161_258 ?_ ?_
            · intro h43
              refine zw_4 zr_161_319 rfl ?_
              refine zw_C zr_161_321 (Or.inr rfl) zm_155 rfl rfl ⟨Nat.le_of_ble_eq_true rfl, Nat.le_of_ble_eq_true rfl, Nat.le_of_ble_eq_true rfl, rfl, by decide⟩ (by omega) (P := (fun v m' => zW E (d) 161 324 [(2, 69), (0, i5), (0, i6), (0, i7), (0, r40)] (if v.1 = 9 then [] else v :: []) m' Q)) ?_ (fun _ _ h => h)
              generalize hQ1 : (fun v m' => zW E (d) 161 324 [(2, 69), (0, i5), (0, i6), (0, i7), (0, r40)] (if v.1 = 9 then [] else v :: []) m' Q) = Q1
              show zW E (d - 1) 155 0 [(0, r40)] [] m39 Q1
              refine zw_3 zr_155_0 rfl ?_
              by_cases h44 : r40 = 38
              · refine zw_112 (off := 85) (t := 86) zr_155_1 (by rw [h44]; rfl) rfl ?_
                refine zw_push zr_155_86 ?_
                refine zw_R zr_155_87 (by decide) zm_155 (v := (0, 2)) rfl ?_
                rw [← hQ1]
                show zW E (d) 161 324 [(2, 69), (0, i5), (0, i6), (0, i7), (0, r40)] [(0, 2)] m39 Q
                refine zw_40_5 zr_161_324 ?_ ?_
                · intro h45; omega
                · intro h46
                  refine zw_7 zr_161_327 rfl ?_
                  refine zw_4 zr_161_328 rfl ?_
                  refine zw_C zr_161_330 (Or.inr rfl) zm_155 rfl rfl ⟨Nat.le_of_ble_eq_true rfl, Nat.le_of_ble_eq_true rfl, Nat.le_of_ble_eq_true rfl, rfl, by decide⟩ (by omega) (P := (fun v m' => zW E (d) 161 333 [(2, 69), (0, i5), (0, i6), (0, i7), (0, r40)] (if v.1 = 9 then [(2, 69)] else v :: [(2, 69)]) m' Q)) ?_ (fun _ _ h => h)
                  generalize hQ1 : (fun v m' => zW E (d) 161 333 [(2, 69), (0, i5), (0, i6), (0, i7), (0, r40)] (if v.1 = 9 then [(2, 69)] else v :: [(2, 69)]) m' Q) = Q1
                  show zW E (d - 1) 155 0 [(0, r40)] [] m39 Q1
                  refine zw_3 zr_155_0 rfl ?_
                  by_cases h47 : r40 = 38
                  · refine zw_112 (off := 85) (t := 86) zr_155_1 (by rw [h47]; rfl) rfl ?_
                    refine zw_push zr_155_86 ?_
                    refine zw_R zr_155_87 (by decide) zm_155 (v := (0, 2)) rfl ?_
                    rw [← hQ1]
                    show zW E (d) 161 333 [(2, 69), (0, i5), (0, i6), (0, i7), (0, r40)] [(0, 2), (2, 69)] m39 Q
                    refine zw_push zr_161_333 ?_
                    refine zw_41_4 zr_161_334 ?_ ?_
                    · intro h48
                      refine zw_4 zr_161_341 rfl ?_
                      refine zw_C zr_161_343 (Or.inr rfl) zm_155 rfl rfl ⟨Nat.le_of_ble_eq_true rfl, Nat.le_of_ble_eq_true rfl, Nat.le_of_ble_eq_true rfl, rfl, by decide⟩ (by omega) (P := (fun v m' => zW E (d) 161 346 [(2, 69), (0, i5), (0, i6), (0, i7), (0, r40)] (if v.1 = 9 then [(2, 69)] else v :: [(2, 69)]) m' Q)) ?_ (fun _ _ h => h)
                      generalize hQ1 : (fun v m' => zW E (d) 161 346 [(2, 69), (0, i5), (0, i6), (0, i7), (0, r40)] (if v.1 = 9 then [(2, 69)] else v :: [(2, 69)]) m' Q) = Q1
                      show zW E (d - 1) 155 0 [(0, r40)] [] m39 Q1
                      refine zw_3 zr_155_0 rfl ?_
                      by_cases h49 : r40 = 38
                      · refine zw_112 (off := 85) (t := 86) zr_155_1 (by rw [h49]; rfl) rfl ?_
                        refine zw_push zr_155_86 ?_
                        refine zw_R zr_155_87 (by decide) zm_155 (v := (0, 2)) rfl ?_
                        rw [← hQ1]
                        show zW E (d) 161 346 [(2, 69), (0, i5), (0, i6), (0, i7), (0, r40)] [(0, 2), (2, 69)] m39 Q
                        refine zw_C zr_161_346 (Or.inl rfl) zm_157 rfl rfl ⟨Nat.le_of_ble_eq_true rfl, Nat.le_of_ble_eq_true rfl, Nat.le_of_ble_eq_true rfl, rfl, by decide⟩ (by omega) (th_157 (d := d - 1) (by omega) hIm39 (a0 := 2) (g0 := p12) (g1 := p11)  (F74 := f13) km39_69_11 km39_69_9 fm39_74 (by omega) (by omega)) ?_
                        rintro _ m50 ⟨rfl, hIm50, gm50, po0_m50, po1_m50, po2_m50, po3_m50⟩
                        have hFm50 : zFr W_161 m0 m50 := hFm39.trans gm50 rfl
                        have km50_69_7 : m50 69 7 = p10 := (gm50 69 7 rfl).trans km39_69_7
                        have km50_69_6 : m50 69 6 = f41 := (gm50 69 6 rfl).trans ef41
                        have fm50_74 : m50 74 = f13 := (funext fun k => gm50 74 k rfl).trans fm39_74
                        obtain ⟨f51, ef51⟩ : ∃ v, m50 69 11 = v := ⟨_, rfl⟩
                        have bf51 := ib_69_11 hIm50
                        rw [ef51] at bf51
                        rw [ef51] at po0_m50
                        rw [ef51] at po2_m50
                        rw [ef51] at po3_m50
                        obtain ⟨f52, ef52⟩ : ∃ v, m50 69 9 = v := ⟨_, rfl⟩
                        have bf52 := ib_69_9 hIm50
                        rw [ef52] at bf52
                        rw [ef52] at po1_m50
                        rw [ef52] at po2_m50
                        show zW E (d) 161 349 [(2, 69), (0, i5), (0, i6), (0, i7), (0, r40)] [] m50 Q
                        have z53 := cB_nn f13 (f51).toNat
                        refine zw_4 zr_161_349 rfl ?_
                        refine zw_C zr_161_351 (Or.inr rfl) zm_155 rfl rfl ⟨Nat.le_of_ble_eq_true rfl, Nat.le_of_ble_eq_true rfl, Nat.le_of_ble_eq_true rfl, rfl, by decide⟩ (by omega) (P := (fun v m' => zW E (d) 161 354 [(2, 69), (0, i5), (0, i6), (0, i7), (0, r40)] (if v.1 = 9 then [] else v :: []) m' Q)) ?_ (fun _ _ h => h)
                        generalize hQ1 : (fun v m' => zW E (d) 161 354 [(2, 69), (0, i5), (0, i6), (0, i7), (0, r40)] (if v.1 = 9 then [] else v :: []) m' Q) = Q1
                        show zW E (d - 1) 155 0 [(0, r40)] [] m50 Q1
                        refine zw_3 zr_155_0 rfl ?_
                        by_cases h54 : r40 = 38
                        · refine zw_112 (off := 85) (t := 86) zr_155_1 (by rw [h54]; rfl) rfl ?_
                          refine zw_push zr_155_86 ?_
                          refine zw_R zr_155_87 (by decide) zm_155 (v := (0, 2)) rfl ?_
                          rw [← hQ1]
                          show zW E (d) 161 354 [(2, 69), (0, i5), (0, i6), (0, i7), (0, r40)] [(0, 2)] m50 Q
                          refine zw_push zr_161_354 ?_
                          refine zw_41_4 zr_161_355 ?_ ?_
                          · intro h55
                            refine zw_7 zr_161_416 rfl ?_
                            refine zw_43 zr_161_417 rfl ?_
                            refine zw_46i zr_161_418 km50_69_6 rfl rfl rfl ?_
                            refine zw_push zr_161_421 ?_
                            refine zw_16 zr_161_422 (by omega) ?_
                            refine zw_47 (c := 69) zr_161_423 rfl ⟨rfl, by decide, rfl⟩ ?_
                            intro m56 em56
                            have hIm56 : zInv m56 := by rw [em56]; exact hIm50.bd (r := 69) (k := 6) (lo := 0) (hi := 50) rfl (by omega) (by decide) (by decide) (by decide)
                            have hFm56 : zFr W_161 m0 m56 := by rw [em56]; exact hFm50.up rfl
                            have km56_69_7 : m56 69 7 = p10 := by rw [em56, zUp_ne (by omega)]; exact km50_69_7
                            have km56_69_11 : m56 69 11 = f51 := by rw [em56, zUp_ne (by omega)]; exact ef51
                            have km56_69_9 : m56 69 9 = f52 := by rw [em56, zUp_ne (by omega)]; exact ef52
                            have km56_69_6 : m56 69 6 = (f41 + 1) := by rw [em56]; exact zUp_eq _ _ _ _
                            have fm56_74 : m56 74 = f13 := by rw [em56, zUp_fn (by decide)]; exact fm50_74
                            clear em56
                            refine zw_7 zr_161_426 rfl ?_
                            refine zw_46r (s := 74) zr_161_427 rfl rfl rfl rfl ?_
                            refine zw_7 zr_161_430 rfl ?_
                            refine zw_46i zr_161_431 km56_69_11 rfl rfl rfl ?_
                            refine zw_4 zr_161_434 rfl ?_
                            refine zw_49 (c := 74) (len := 128) zr_161_436 rfl rfl (by omega) (by omega) ?_
                            intro m57 em57
                            have hIm57 : zInv m57 := by rw [em57]; exact iu_74 hIm56 (by omega)
                            have hFm57 : zFr W_161 m0 m57 := by rw [em57]; exact hFm56.any rfl
                            have km57_69_7 : m57 69 7 = p10 := by rw [em57, zUp_ne (by omega)]; exact km56_69_7
                            have km57_69_11 : m57 69 11 = f51 := by rw [em57, zUp_ne (by omega)]; exact km56_69_11
                            have km57_69_9 : m57 69 9 = f52 := by rw [em57, zUp_ne (by omega)]; exact km56_69_9
                            have km57_69_6 : m57 69 6 = (f41 + 1) := by rw [em57, zUp_ne (by omega)]; exact km56_69_6
                            have fm57_74 : m57 74 = zPt f13 ((f51).toNat) r40 := by rw [em57, zUp_ff, fm56_74]
                            clear em57
                            have z58 := zcp f13 (f51).toNat (f51 + 1).toNat (r40) (by omega)
                            refine zw_7 zr_161_437 rfl ?_
                            refine zw_43 zr_161_438 rfl ?_
                            refine zw_46i zr_161_439 km57_69_11 rfl rfl rfl ?_
                            refine zw_push zr_161_442 ?_
                            refine zw_16 zr_161_443 (by omega) ?_
                            refine zw_47 (c := 69) zr_161_444 rfl ⟨rfl, by decide, rfl⟩ ?_
                            intro m59 em59
                            have hIm59 : zInv m59 := by rw [em59]; exact hIm57.bd (r := 69) (k := 11) (lo := 0) (hi := 128) rfl (by omega) (by decide) (by decide) (by decide)
                            have hFm59 : zFr W_161 m0 m59 := by rw [em59]; exact hFm57.up rfl
                            have km59_69_7 : m59 69 7 = p10 := by rw [em59, zUp_ne (by omega)]; exact km57_69_7
                            have km59_69_9 : m59 69 9 = f52 := by rw [em59, zUp_ne (by omega)]; exact km57_69_9
                            have km59_69_6 : m59 69 6 = (f41 + 1) := by rw [em59, zUp_ne (by omega)]; exact km57_69_6
                            have km59_69_11 : m59 69 11 = (f51 + 1) := by rw [em59]; exact zUp_eq _ _ _ _
                            have fm59_74 : m59 74 = zPt f13 ((f51).toNat) r40 := by rw [em59, zUp_fn (by decide)]; exact fm57_74
                            clear em59
                            have z60 := zcd (zPt f13 ((f51).toNat) r40) ((f51 + 1)).toNat (f51).toNat
                            refine zw_push zr_161_447 ?_
                            refine zw_9 (L' := [(2, 69), (0, i5), (0, 1), (0, i7), (0, r40)]) zr_161_448 (Nat.le_of_ble_eq_true rfl) rfl ?_
                            refine zw_42 zr_161_449 ?_
                            refine zw_42 zr_161_485 ?_
                            exact zw_less (L := [(2, 69), (0, i5), (0, 1), (0, i7), (9, 0)]) ⟨Or.inr rfl, Or.inr rfl, Or.inr rfl, Or.inr rfl, Or.inl rfl, trivial⟩ (ihlp26_14 (i5) (1) (i7) ((f41 + 1)) (p10) (f52) ((f51 + 1)) (zPt f13 ((f51).toNat) r40) m59 hIm59 hFm59  km59_69_6 km59_69_7 km59_69_9 km59_69_11 fm59_74 (by omega) (by omega) (by omega) (by omega) (by omega) (by omega) (by omega) (by omega) (by omega) (by omega) (by omega) (by omega) (by omega) (by omega) (by omega) (by omega) (by omega) (by omega) (by omega))
                          · intro h61; omega
                        exfalso; omega
                      exfalso; omega
                    · intro h62; omega
                  exfalso; omega
              by_cases h63 : r40 = 42
              · refine zw_112 (off := 91) (t := 92) zr_155_1 (by rw [h63]; rfl) rfl ?_
                refine zw_push zr_155_92 ?_
                refine zw_R zr_155_93 (by decide) zm_155 (v := (0, 5)) rfl ?_
                rw [← hQ1]
                show zW E (d) 161 324 [(2, 69), (0, i5), (0, i6), (0, i7), (0, r40)] [(0, 5)] m39 Q
                refine zw_40_5 zr_161_324 ?_ ?_
                · intro h64; omega
                · intro h65
                  refine zw_7 zr_161_327 rfl ?_
                  refine zw_4 zr_161_328 rfl ?_
                  refine zw_C zr_161_330 (Or.inr rfl) zm_155 rfl rfl ⟨Nat.le_of_ble_eq_true rfl, Nat.le_of_ble_eq_true rfl, Nat.le_of_ble_eq_true rfl, rfl, by decide⟩ (by omega) (P := (fun v m' => zW E (d) 161 333 [(2, 69), (0, i5), (0, i6), (0, i7), (0, r40)] (if v.1 = 9 then [(2, 69)] else v :: [(2, 69)]) m' Q)) ?_ (fun _ _ h => h)
                  generalize hQ1 : (fun v m' => zW E (d) 161 333 [(2, 69), (0, i5), (0, i6), (0, i7), (0, r40)] (if v.1 = 9 then [(2, 69)] else v :: [(2, 69)]) m' Q) = Q1
                  show zW E (d - 1) 155 0 [(0, r40)] [] m39 Q1
                  refine zw_3 zr_155_0 rfl ?_
                  by_cases h66 : r40 = 42
                  · refine zw_112 (off := 91) (t := 92) zr_155_1 (by rw [h66]; rfl) rfl ?_
                    refine zw_push zr_155_92 ?_
                    refine zw_R zr_155_93 (by decide) zm_155 (v := (0, 5)) rfl ?_
                    rw [← hQ1]
                    show zW E (d) 161 333 [(2, 69), (0, i5), (0, i6), (0, i7), (0, r40)] [(0, 5), (2, 69)] m39 Q
                    refine zw_push zr_161_333 ?_
                    refine zw_41_4 zr_161_334 ?_ ?_
                    · intro h67
                      refine zw_4 zr_161_341 rfl ?_
                      refine zw_C zr_161_343 (Or.inr rfl) zm_155 rfl rfl ⟨Nat.le_of_ble_eq_true rfl, Nat.le_of_ble_eq_true rfl, Nat.le_of_ble_eq_true rfl, rfl, by decide⟩ (by omega) (P := (fun v m' => zW E (d) 161 346 [(2, 69), (0, i5), (0, i6), (0, i7), (0, r40)] (if v.1 = 9 then [(2, 69)] else v :: [(2, 69)]) m' Q)) ?_ (fun _ _ h => h)
                      generalize hQ1 : (fun v m' => zW E (d) 161 346 [(2, 69), (0, i5), (0, i6), (0, i7), (0, r40)] (if v.1 = 9 then [(2, 69)] else v :: [(2, 69)]) m' Q) = Q1
                      show zW E (d - 1) 155 0 [(0, r40)] [] m39 Q1
                      refine zw_3 zr_155_0 rfl ?_
                      by_cases h68 : r40 = 42
                      · refine zw_112 (off := 91) (t := 92) zr_155_1 (by rw [h68]; rfl) rfl ?_
                        refine zw_push zr_155_92 ?_
                        refine zw_R zr_155_93 (by decide) zm_155 (v := (0, 5)) rfl ?_
                        rw [← hQ1]
                        show zW E (d) 161 346 [(2, 69), (0, i5), (0, i6), (0, i7), (0, r40)] [(0, 5), (2, 69)] m39 Q
                        refine zw_C zr_161_346 (Or.inl rfl) zm_157 rfl rfl ⟨Nat.le_of_ble_eq_true rfl, Nat.le_of_ble_eq_true rfl, Nat.le_of_ble_eq_true rfl, rfl, by decide⟩ (by omega) (th_157 (d := d - 1) (by omega) hIm39 (a0 := 5) (g0 := p12) (g1 := p11)  (F74 := f13) km39_69_11 km39_69_9 fm39_74 (by omega) (by omega)) ?_
                        rintro _ m69 ⟨rfl, hIm69, gm69, po0_m69, po1_m69, po2_m69, po3_m69⟩
                        have hFm69 : zFr W_161 m0 m69 := hFm39.trans gm69 rfl
                        have km69_69_7 : m69 69 7 = p10 := (gm69 69 7 rfl).trans km39_69_7
                        have km69_69_6 : m69 69 6 = f41 := (gm69 69 6 rfl).trans ef41
                        have fm69_74 : m69 74 = f13 := (funext fun k => gm69 74 k rfl).trans fm39_74
                        obtain ⟨f70, ef70⟩ : ∃ v, m69 69 11 = v := ⟨_, rfl⟩
                        have bf70 := ib_69_11 hIm69
                        rw [ef70] at bf70
                        rw [ef70] at po0_m69
                        rw [ef70] at po2_m69
                        rw [ef70] at po3_m69
                        obtain ⟨f71, ef71⟩ : ∃ v, m69 69 9 = v := ⟨_, rfl⟩
                        have bf71 := ib_69_9 hIm69
                        rw [ef71] at bf71
                        rw [ef71] at po1_m69
                        rw [ef71] at po2_m69
                        show zW E (d) 161 349 [(2, 69), (0, i5), (0, i6), (0, i7), (0, r40)] [] m69 Q
                        have z72 := cB_nn f13 (f70).toNat
                        refine zw_4 zr_161_349 rfl ?_
                        refine zw_C zr_161_351 (Or.inr rfl) zm_155 rfl rfl ⟨Nat.le_of_ble_eq_true rfl, Nat.le_of_ble_eq_true rfl, Nat.le_of_ble_eq_true rfl, rfl, by decide⟩ (by omega) (P := (fun v m' => zW E (d) 161 354 [(2, 69), (0, i5), (0, i6), (0, i7), (0, r40)] (if v.1 = 9 then [] else v :: []) m' Q)) ?_ (fun _ _ h => h)
                        generalize hQ1 : (fun v m' => zW E (d) 161 354 [(2, 69), (0, i5), (0, i6), (0, i7), (0, r40)] (if v.1 = 9 then [] else v :: []) m' Q) = Q1
                        show zW E (d - 1) 155 0 [(0, r40)] [] m69 Q1
                        refine zw_3 zr_155_0 rfl ?_
                        by_cases h73 : r40 = 42
                        · refine zw_112 (off := 91) (t := 92) zr_155_1 (by rw [h73]; rfl) rfl ?_
                          refine zw_push zr_155_92 ?_
                          refine zw_R zr_155_93 (by decide) zm_155 (v := (0, 5)) rfl ?_
                          rw [← hQ1]
                          show zW E (d) 161 354 [(2, 69), (0, i5), (0, i6), (0, i7), (0, r40)] [(0, 5)] m69 Q
                          refine zw_push zr_161_354 ?_
                          refine zw_41_4 zr_161_355 ?_ ?_
                          · intro h74
                            refine zw_7 zr_161_416 rfl ?_
                            refine zw_43 zr_161_417 rfl ?_
                            refine zw_46i zr_161_418 km69_69_6 rfl rfl rfl ?_
                            refine zw_push zr_161_421 ?_
                            refine zw_16 zr_161_422 (by omega) ?_
                            refine zw_47 (c := 69) zr_161_423 rfl ⟨rfl, by decide, rfl⟩ ?_
                            intro m75 em75
                            have hIm75 : zInv m75 := by rw [em75]; exact hIm69.bd (r := 69) (k := 6) (lo := 0) (hi := 50) rfl (by omega) (by decide) (by decide) (by decide)
                            have hFm75 : zFr W_161 m0 m75 := by rw [em75]; exact hFm69.up rfl
                            have km75_69_7 : m75 69 7 = p10 := by rw [em75, zUp_ne (by omega)]; exact km69_69_7
                            have km75_69_11 : m75 69 11 = f70 := by rw [em75, zUp_ne (by omega)]; exact ef70
                            have km75_69_9 : m75 69 9 = f71 := by rw [em75, zUp_ne (by omega)]; exact ef71
                            have km75_69_6 : m75 69 6 = (f41 + 1) := by rw [em75]; exact zUp_eq _ _ _ _
                            have fm75_74 : m75 74 = f13 := by rw [em75, zUp_fn (by decide)]; exact fm69_74
                            clear em75
                            refine zw_7 zr_161_426 rfl ?_
                            refine zw_46r (s := 74) zr_161_427 rfl rfl rfl rfl ?_
                            refine zw_7 zr_161_430 rfl ?_
                            refine zw_46i zr_161_431 km75_69_11 rfl rfl rfl ?_
                            refine zw_4 zr_161_434 rfl ?_
                            refine zw_49 (c := 74) (len := 128) zr_161_436 rfl rfl (by omega) (by omega) ?_
                            intro m76 em76
                            have hIm76 : zInv m76 := by rw [em76]; exact iu_74 hIm75 (by omega)
                            have hFm76 : zFr W_161 m0 m76 := by rw [em76]; exact hFm75.any rfl
                            have km76_69_7 : m76 69 7 = p10 := by rw [em76, zUp_ne (by omega)]; exact km75_69_7
                            have km76_69_11 : m76 69 11 = f70 := by rw [em76, zUp_ne (by omega)]; exact km75_69_11
                            have km76_69_9 : m76 69 9 = f71 := by rw [em76, zUp_ne (by omega)]; exact km75_69_9
                            have km76_69_6 : m76 69 6 = (f41 + 1) := by rw [em76, zUp_ne (by omega)]; exact km75_69_6
                            have fm76_74 : m76 74 = zPt f13 ((f70).toNat) r40 := by rw [em76, zUp_ff, fm75_74]
                            clear em76
                            have z77 := zcp f13 (f70).toNat (f70 + 1).toNat (r40) (by omega)
                            refine zw_7 zr_161_437 rfl ?_
                            refine zw_43 zr_161_438 rfl ?_
                            refine zw_46i zr_161_439 km76_69_11 rfl rfl rfl ?_
                            refine zw_push zr_161_442 ?_
                            refine zw_16 zr_161_443 (by omega) ?_
                            refine zw_47 (c := 69) zr_161_444 rfl ⟨rfl, by decide, rfl⟩ ?_
                            intro m78 em78
                            have hIm78 : zInv m78 := by rw [em78]; exact hIm76.bd (r := 69) (k := 11) (lo := 0) (hi := 128) rfl (by omega) (by decide) (by decide) (by decide)
                            have hFm78 : zFr W_161 m0 m78 := by rw [em78]; exact hFm76.up rfl
                            have km78_69_7 : m78 69 7 = p10 := by rw [em78, zUp_ne (by omega)]; exact km76_69_7
                            have km78_69_9 : m78 69 9 = f71 := by rw [em78, zUp_ne (by omega)]; exact km76_69_9
                            have km78_69_6 : m78 69 6 = (f41 + 1) := by rw [em78, zUp_ne (by omega)]; exact km76_69_6
                            have km78_69_11 : m78 69 11 = (f70 + 1) := by rw [em78]; exact zUp_eq _ _ _ _
                            have fm78_74 : m78 74 = zPt f13 ((f70).toNat) r40 := by rw [em78, zUp_fn (by decide)]; exact fm76_74
                            clear em78
                            have z79 := zcd (zPt f13 ((f70).toNat) r40) ((f70 + 1)).toNat (f70).toNat
                            refine zw_push zr_161_447 ?_
                            refine zw_9 (L' := [(2, 69), (0, i5), (0, 1), (0, i7), (0, r40)]) zr_161_448 (Nat.le_of_ble_eq_true rfl) rfl ?_
                            refine zw_42 zr_161_449 ?_
                            refine zw_42 zr_161_485 ?_
                            exact zw_less (L := [(2, 69), (0, i5), (0, 1), (0, i7), (9, 0)]) ⟨Or.inr rfl, Or.inr rfl, Or.inr rfl, Or.inr rfl, Or.inl rfl, trivial⟩ (ihlp26_14 (i5) (1) (i7) ((f41 + 1)) (p10) (f71) ((f70 + 1)) (zPt f13 ((f70).toNat) r40) m78 hIm78 hFm78  km78_69_6 km78_69_7 km78_69_9 km78_69_11 fm78_74 (by omega) (by omega) (by omega) (by omega) (by omega) (by omega) (by omega) (by omega) (by omega) (by omega) (by omega) (by omega) (by omega) (by omega) (by omega) (by omega) (by omega) (by omega) (by omega))
                          · intro h80; omega
                        exfalso; omega
                      exfalso; omega
                    · intro h81; omega
                  exfalso; omega
              by_cases h82 : r40 = 43
              · refine zw_112 (off := 89) (t := 90) zr_155_1 (by rw [h82]; rfl) rfl ?_
                refine zw_push zr_155_90 ?_
                refine zw_R zr_155_91 (by decide) zm_155 (v := (0, 4)) rfl ?_
                rw [← hQ1]
                show zW E (d) 161 324 [(2, 69), (0, i5), (0, i6), (0, i7), (0, r40)] [(0, 4)] m39 Q
                refine zw_40_5 zr_161_324 ?_ ?_
                · intro h83; omega
                · intro h84
                  refine zw_7 zr_161_327 rfl ?_
                  refine zw_4 zr_161_328 rfl ?_
                  refine zw_C zr_161_330 (Or.inr rfl) zm_155 rfl rfl ⟨Nat.le_of_ble_eq_true rfl, Nat.le_of_ble_eq_true rfl, Nat.le_of_ble_eq_true rfl, rfl, by decide⟩ (by omega) (P := (fun v m' => zW E (d) 161 333 [(2, 69), (0, i5), (0, i6), (0, i7), (0, r40)] (if v.1 = 9 then [(2, 69)] else v :: [(2, 69)]) m' Q)) ?_ (fun _ _ h => h)
                  generalize hQ1 : (fun v m' => zW E (d) 161 333 [(2, 69), (0, i5), (0, i6), (0, i7), (0, r40)] (if v.1 = 9 then [(2, 69)] else v :: [(2, 69)]) m' Q) = Q1
                  show zW E (d - 1) 155 0 [(0, r40)] [] m39 Q1
                  refine zw_3 zr_155_0 rfl ?_
                  by_cases h85 : r40 = 43
                  · refine zw_112 (off := 89) (t := 90) zr_155_1 (by rw [h85]; rfl) rfl ?_
                    refine zw_push zr_155_90 ?_
                    refine zw_R zr_155_91 (by decide) zm_155 (v := (0, 4)) rfl ?_
                    rw [← hQ1]
                    show zW E (d) 161 333 [(2, 69), (0, i5), (0, i6), (0, i7), (0, r40)] [(0, 4), (2, 69)] m39 Q
                    refine zw_push zr_161_333 ?_
                    refine zw_41_4 zr_161_334 ?_ ?_
                    · intro h86
                      refine zw_4 zr_161_341 rfl ?_
                      refine zw_C zr_161_343 (Or.inr rfl) zm_155 rfl rfl ⟨Nat.le_of_ble_eq_true rfl, Nat.le_of_ble_eq_true rfl, Nat.le_of_ble_eq_true rfl, rfl, by decide⟩ (by omega) (P := (fun v m' => zW E (d) 161 346 [(2, 69), (0, i5), (0, i6), (0, i7), (0, r40)] (if v.1 = 9 then [(2, 69)] else v :: [(2, 69)]) m' Q)) ?_ (fun _ _ h => h)
                      generalize hQ1 : (fun v m' => zW E (d) 161 346 [(2, 69), (0, i5), (0, i6), (0, i7), (0, r40)] (if v.1 = 9 then [(2, 69)] else v :: [(2, 69)]) m' Q) = Q1
                      show zW E (d - 1) 155 0 [(0, r40)] [] m39 Q1
                      refine zw_3 zr_155_0 rfl ?_
                      by_cases h87 : r40 = 43
                      · refine zw_112 (off := 89) (t := 90) zr_155_1 (by rw [h87]; rfl) rfl ?_
                        refine zw_push zr_155_90 ?_
                        refine zw_R zr_155_91 (by decide) zm_155 (v := (0, 4)) rfl ?_
                        rw [← hQ1]
                        show zW E (d) 161 346 [(2, 69), (0, i5), (0, i6), (0, i7), (0, r40)] [(0, 4), (2, 69)] m39 Q
                        refine zw_C zr_161_346 (Or.inl rfl) zm_157 rfl rfl ⟨Nat.le_of_ble_eq_true rfl, Nat.le_of_ble_eq_true rfl, Nat.le_of_ble_eq_true rfl, rfl, by decide⟩ (by omega) (th_157 (d := d - 1) (by omega) hIm39 (a0 := 4) (g0 := p12) (g1 := p11)  (F74 := f13) km39_69_11 km39_69_9 fm39_74 (by omega) (by omega)) ?_
                        rintro _ m88 ⟨rfl, hIm88, gm88, po0_m88, po1_m88, po2_m88, po3_m88⟩
                        have hFm88 : zFr W_161 m0 m88 := hFm39.trans gm88 rfl
                        have km88_69_7 : m88 69 7 = p10 := (gm88 69 7 rfl).trans km39_69_7
                        have km88_69_6 : m88 69 6 = f41 := (gm88 69 6 rfl).trans ef41
                        have fm88_74 : m88 74 = f13 := (funext fun k => gm88 74 k rfl).trans fm39_74
                        obtain ⟨f89, ef89⟩ : ∃ v, m88 69 11 = v := ⟨_, rfl⟩
                        have bf89 := ib_69_11 hIm88
                        rw [ef89] at bf89
                        rw [ef89] at po0_m88
                        rw [ef89] at po2_m88
                        rw [ef89] at po3_m88
                        obtain ⟨f90, ef90⟩ : ∃ v, m88 69 9 = v := ⟨_, rfl⟩
                        have bf90 := ib_69_9 hIm88
                        rw [ef90] at bf90
                        rw [ef90] at po1_m88
                        rw [ef90] at po2_m88
                        show zW E (d) 161 349 [(2, 69), (0, i5), (0, i6), (0, i7), (0, r40)] [] m88 Q
                        have z91 := cB_nn f13 (f89).toNat
                        refine zw_4 zr_161_349 rfl ?_
                        refine zw_C zr_161_351 (Or.inr rfl) zm_155 rfl rfl ⟨Nat.le_of_ble_eq_true rfl, Nat.le_of_ble_eq_true rfl, Nat.le_of_ble_eq_true rfl, rfl, by decide⟩ (by omega) (P := (fun v m' => zW E (d) 161 354 [(2, 69), (0, i5), (0, i6), (0, i7), (0, r40)] (if v.1 = 9 then [] else v :: []) m' Q)) ?_ (fun _ _ h => h)
                        generalize hQ1 : (fun v m' => zW E (d) 161 354 [(2, 69), (0, i5), (0, i6), (0, i7), (0, r40)] (if v.1 = 9 then [] else v :: []) m' Q) = Q1
                        show zW E (d - 1) 155 0 [(0, r40)] [] m88 Q1
                        refine zw_3 zr_155_0 rfl ?_
                        by_cases h92 : r40 = 43
                        · refine zw_112 (off := 89) (t := 90) zr_155_1 (by rw [h92]; rfl) rfl ?_
                          refine zw_push zr_155_90 ?_
                          refine zw_R zr_155_91 (by decide) zm_155 (v := (0, 4)) rfl ?_
                          rw [← hQ1]
                          show zW E (d) 161 354 [(2, 69), (0, i5), (0, i6), (0, i7), (0, r40)] [(0, 4)] m88 Q
                          refine zw_push zr_161_354 ?_
                          refine zw_41_4 zr_161_355 ?_ ?_
                          · intro h93
                            refine zw_7 zr_161_416 rfl ?_
                            refine zw_43 zr_161_417 rfl ?_
                            refine zw_46i zr_161_418 km88_69_6 rfl rfl rfl ?_
                            refine zw_push zr_161_421 ?_
                            refine zw_16 zr_161_422 (by omega) ?_
                            refine zw_47 (c := 69) zr_161_423 rfl ⟨rfl, by decide, rfl⟩ ?_
                            intro m94 em94
                            have hIm94 : zInv m94 := by rw [em94]; exact hIm88.bd (r := 69) (k := 6) (lo := 0) (hi := 50) rfl (by omega) (by decide) (by decide) (by decide)
                            have hFm94 : zFr W_161 m0 m94 := by rw [em94]; exact hFm88.up rfl
                            have km94_69_7 : m94 69 7 = p10 := by rw [em94, zUp_ne (by omega)]; exact km88_69_7
                            have km94_69_11 : m94 69 11 = f89 := by rw [em94, zUp_ne (by omega)]; exact ef89
                            have km94_69_9 : m94 69 9 = f90 := by rw [em94, zUp_ne (by omega)]; exact ef90
                            have km94_69_6 : m94 69 6 = (f41 + 1) := by rw [em94]; exact zUp_eq _ _ _ _
                            have fm94_74 : m94 74 = f13 := by rw [em94, zUp_fn (by decide)]; exact fm88_74
                            clear em94
                            refine zw_7 zr_161_426 rfl ?_
                            refine zw_46r (s := 74) zr_161_427 rfl rfl rfl rfl ?_
                            refine zw_7 zr_161_430 rfl ?_
                            refine zw_46i zr_161_431 km94_69_11 rfl rfl rfl ?_
                            refine zw_4 zr_161_434 rfl ?_
                            refine zw_49 (c := 74) (len := 128) zr_161_436 rfl rfl (by omega) (by omega) ?_
                            intro m95 em95
                            have hIm95 : zInv m95 := by rw [em95]; exact iu_74 hIm94 (by omega)
                            have hFm95 : zFr W_161 m0 m95 := by rw [em95]; exact hFm94.any rfl
                            have km95_69_7 : m95 69 7 = p10 := by rw [em95, zUp_ne (by omega)]; exact km94_69_7
                            have km95_69_11 : m95 69 11 = f89 := by rw [em95, zUp_ne (by omega)]; exact km94_69_11
                            have km95_69_9 : m95 69 9 = f90 := by rw [em95, zUp_ne (by omega)]; exact km94_69_9
                            have km95_69_6 : m95 69 6 = (f41 + 1) := by rw [em95, zUp_ne (by omega)]; exact km94_69_6
                            have fm95_74 : m95 74 = zPt f13 ((f89).toNat) r40 := by rw [em95, zUp_ff, fm94_74]
                            clear em95
                            have z96 := zcp f13 (f89).toNat (f89 + 1).toNat (r40) (by omega)
                            refine zw_7 zr_161_437 rfl ?_
                            refine zw_43 zr_161_438 rfl ?_
                            refine zw_46i zr_161_439 km95_69_11 rfl rfl rfl ?_
                            refine zw_push zr_161_442 ?_
                            refine zw_16 zr_161_443 (by omega) ?_
                            refine zw_47 (c := 69) zr_161_444 rfl ⟨rfl, by decide, rfl⟩ ?_
                            intro m97 em97
                            have hIm97 : zInv m97 := by rw [em97]; exact hIm95.bd (r := 69) (k := 11) (lo := 0) (hi := 128) rfl (by omega) (by decide) (by decide) (by decide)
                            have hFm97 : zFr W_161 m0 m97 := by rw [em97]; exact hFm95.up rfl
                            have km97_69_7 : m97 69 7 = p10 := by rw [em97, zUp_ne (by omega)]; exact km95_69_7
                            have km97_69_9 : m97 69 9 = f90 := by rw [em97, zUp_ne (by omega)]; exact km95_69_9
                            have km97_69_6 : m97 69 6 = (f41 + 1) := by rw [em97, zUp_ne (by omega)]; exact km95_69_6
                            have km97_69_11 : m97 69 11 = (f89 + 1) := by rw [em97]; exact zUp_eq _ _ _ _
                            have fm97_74 : m97 74 = zPt f13 ((f89).toNat) r40 := by rw [em97, zUp_fn (by decide)]; exact fm95_74
                            clear em97
                            have z98 := zcd (zPt f13 ((f89).toNat) r40) ((f89 + 1)).toNat (f89).toNat
                            refine zw_push zr_161_447 ?_
                            refine zw_9 (L' := [(2, 69), (0, i5), (0, 1), (0, i7), (0, r40)]) zr_161_448 (Nat.le_of_ble_eq_true rfl) rfl ?_
                            refine zw_42 zr_161_449 ?_
                            refine zw_42 zr_161_485 ?_
                            exact zw_less (L := [(2, 69), (0, i5), (0, 1), (0, i7), (9, 0)]) ⟨Or.inr rfl, Or.inr rfl, Or.inr rfl, Or.inr rfl, Or.inl rfl, trivial⟩ (ihlp26_14 (i5) (1) (i7) ((f41 + 1)) (p10) (f90) ((f89 + 1)) (zPt f13 ((f89).toNat) r40) m97 hIm97 hFm97  km97_69_6 km97_69_7 km97_69_9 km97_69_11 fm97_74 (by omega) (by omega) (by omega) (by omega) (by omega) (by omega) (by omega) (by omega) (by omega) (by omega) (by omega) (by omega) (by omega) (by omega) (by omega) (by omega) (by omega) (by omega) (by omega))
                          · intro h99; omega
                        exfalso; omega
                      exfalso; omega
                    · intro h100; omega
                  exfalso; omega
              by_cases h101 : r40 = 45
              · refine zw_112 (off := 89) (t := 90) zr_155_1 (by rw [h101]; rfl) rfl ?_
                refine zw_push zr_155_90 ?_
                refine zw_R zr_155_91 (by decide) zm_155 (v := (0, 4)) rfl ?_
                rw [← hQ1]
                show zW E (d) 161 324 [(2, 69), (0, i5), (0, i6), (0, i7), (0, r40)] [(0, 4)] m39 Q
                refine zw_40_5 zr_161_324 ?_ ?_
                · intro h102; omega
                · intro h103
                  refine zw_7 zr_161_327 rfl ?_
                  refine zw_4 zr_161_328 rfl ?_
                  refine zw_C zr_161_330 (Or.inr rfl) zm_155 rfl rfl ⟨Nat.le_of_ble_eq_true rfl, Nat.le_of_ble_eq_true rfl, Nat.le_of_ble_eq_true rfl, rfl, by decide⟩ (by omega) (P := (fun v m' => zW E (d) 161 333 [(2, 69), (0, i5), (0, i6), (0, i7), (0, r40)] (if v.1 = 9 then [(2, 69)] else v :: [(2, 69)]) m' Q)) ?_ (fun _ _ h => h)
                  generalize hQ1 : (fun v m' => zW E (d) 161 333 [(2, 69), (0, i5), (0, i6), (0, i7), (0, r40)] (if v.1 = 9 then [(2, 69)] else v :: [(2, 69)]) m' Q) = Q1
                  show zW E (d - 1) 155 0 [(0, r40)] [] m39 Q1
                  refine zw_3 zr_155_0 rfl ?_
                  by_cases h104 : r40 = 45
                  · refine zw_112 (off := 89) (t := 90) zr_155_1 (by rw [h104]; rfl) rfl ?_
                    refine zw_push zr_155_90 ?_
                    refine zw_R zr_155_91 (by decide) zm_155 (v := (0, 4)) rfl ?_
                    rw [← hQ1]
                    show zW E (d) 161 333 [(2, 69), (0, i5), (0, i6), (0, i7), (0, r40)] [(0, 4), (2, 69)] m39 Q
                    refine zw_push zr_161_333 ?_
                    refine zw_41_4 zr_161_334 ?_ ?_
                    · intro h105
                      refine zw_4 zr_161_341 rfl ?_
                      refine zw_C zr_161_343 (Or.inr rfl) zm_155 rfl rfl ⟨Nat.le_of_ble_eq_true rfl, Nat.le_of_ble_eq_true rfl, Nat.le_of_ble_eq_true rfl, rfl, by decide⟩ (by omega) (P := (fun v m' => zW E (d) 161 346 [(2, 69), (0, i5), (0, i6), (0, i7), (0, r40)] (if v.1 = 9 then [(2, 69)] else v :: [(2, 69)]) m' Q)) ?_ (fun _ _ h => h)
                      generalize hQ1 : (fun v m' => zW E (d) 161 346 [(2, 69), (0, i5), (0, i6), (0, i7), (0, r40)] (if v.1 = 9 then [(2, 69)] else v :: [(2, 69)]) m' Q) = Q1
                      show zW E (d - 1) 155 0 [(0, r40)] [] m39 Q1
                      refine zw_3 zr_155_0 rfl ?_
                      by_cases h106 : r40 = 45
                      · refine zw_112 (off := 89) (t := 90) zr_155_1 (by rw [h106]; rfl) rfl ?_
                        refine zw_push zr_155_90 ?_
                        refine zw_R zr_155_91 (by decide) zm_155 (v := (0, 4)) rfl ?_
                        rw [← hQ1]
                        show zW E (d) 161 346 [(2, 69), (0, i5), (0, i6), (0, i7), (0, r40)] [(0, 4), (2, 69)] m39 Q
                        refine zw_C zr_161_346 (Or.inl rfl) zm_157 rfl rfl ⟨Nat.le_of_ble_eq_true rfl, Nat.le_of_ble_eq_true rfl, Nat.le_of_ble_eq_true rfl, rfl, by decide⟩ (by omega) (th_157 (d := d - 1) (by omega) hIm39 (a0 := 4) (g0 := p12) (g1 := p11)  (F74 := f13) km39_69_11 km39_69_9 fm39_74 (by omega) (by omega)) ?_
                        rintro _ m107 ⟨rfl, hIm107, gm107, po0_m107, po1_m107, po2_m107, po3_m107⟩
                        have hFm107 : zFr W_161 m0 m107 := hFm39.trans gm107 rfl
                        have km107_69_7 : m107 69 7 = p10 := (gm107 69 7 rfl).trans km39_69_7
                        have km107_69_6 : m107 69 6 = f41 := (gm107 69 6 rfl).trans ef41
                        have fm107_74 : m107 74 = f13 := (funext fun k => gm107 74 k rfl).trans fm39_74
                        obtain ⟨f108, ef108⟩ : ∃ v, m107 69 11 = v := ⟨_, rfl⟩
                        have bf108 := ib_69_11 hIm107
                        rw [ef108] at bf108
                        rw [ef108] at po0_m107
                        rw [ef108] at po2_m107
                        rw [ef108] at po3_m107
                        obtain ⟨f109, ef109⟩ : ∃ v, m107 69 9 = v := ⟨_, rfl⟩
                        have bf109 := ib_69_9 hIm107
                        rw [ef109] at bf109
                        rw [ef109] at po1_m107
                        rw [ef109] at po2_m107
                        show zW E (d) 161 349 [(2, 69), (0, i5), (0, i6), (0, i7), (0, r40)] [] m107 Q
                        have z110 := cB_nn f13 (f108).toNat
                        refine zw_4 zr_161_349 rfl ?_
                        refine zw_C zr_161_351 (Or.inr rfl) zm_155 rfl rfl ⟨Nat.le_of_ble_eq_true rfl, Nat.le_of_ble_eq_true rfl, Nat.le_of_ble_eq_true rfl, rfl, by decide⟩ (by omega) (P := (fun v m' => zW E (d) 161 354 [(2, 69), (0, i5), (0, i6), (0, i7), (0, r40)] (if v.1 = 9 then [] else v :: []) m' Q)) ?_ (fun _ _ h => h)
                        generalize hQ1 : (fun v m' => zW E (d) 161 354 [(2, 69), (0, i5), (0, i6), (0, i7), (0, r40)] (if v.1 = 9 then [] else v :: []) m' Q) = Q1
                        show zW E (d - 1) 155 0 [(0, r40)] [] m107 Q1
                        refine zw_3 zr_155_0 rfl ?_
                        by_cases h111 : r40 = 45
                        · refine zw_112 (off := 89) (t := 90) zr_155_1 (by rw [h111]; rfl) rfl ?_
                          refine zw_push zr_155_90 ?_
                          refine zw_R zr_155_91 (by decide) zm_155 (v := (0, 4)) rfl ?_
                          rw [← hQ1]
                          show zW E (d) 161 354 [(2, 69), (0, i5), (0, i6), (0, i7), (0, r40)] [(0, 4)] m107 Q
                          refine zw_push zr_161_354 ?_
                          refine zw_41_4 zr_161_355 ?_ ?_
                          · intro h112
                            refine zw_7 zr_161_416 rfl ?_
                            refine zw_43 zr_161_417 rfl ?_
                            refine zw_46i zr_161_418 km107_69_6 rfl rfl rfl ?_
                            refine zw_push zr_161_421 ?_
                            refine zw_16 zr_161_422 (by omega) ?_
                            refine zw_47 (c := 69) zr_161_423 rfl ⟨rfl, by decide, rfl⟩ ?_
                            intro m113 em113
                            have hIm113 : zInv m113 := by rw [em113]; exact hIm107.bd (r := 69) (k := 6) (lo := 0) (hi := 50) rfl (by omega) (by decide) (by decide) (by decide)
                            have hFm113 : zFr W_161 m0 m113 := by rw [em113]; exact hFm107.up rfl
                            have km113_69_7 : m113 69 7 = p10 := by rw [em113, zUp_ne (by omega)]; exact km107_69_7
                            have km113_69_11 : m113 69 11 = f108 := by rw [em113, zUp_ne (by omega)]; exact ef108
                            have km113_69_9 : m113 69 9 = f109 := by rw [em113, zUp_ne (by omega)]; exact ef109
                            have km113_69_6 : m113 69 6 = (f41 + 1) := by rw [em113]; exact zUp_eq _ _ _ _
                            have fm113_74 : m113 74 = f13 := by rw [em113, zUp_fn (by decide)]; exact fm107_74
                            clear em113
                            refine zw_7 zr_161_426 rfl ?_
                            refine zw_46r (s := 74) zr_161_427 rfl rfl rfl rfl ?_
                            refine zw_7 zr_161_430 rfl ?_
                            refine zw_46i zr_161_431 km113_69_11 rfl rfl rfl ?_
                            refine zw_4 zr_161_434 rfl ?_
                            refine zw_49 (c := 74) (len := 128) zr_161_436 rfl rfl (by omega) (by omega) ?_
                            intro m114 em114
                            have hIm114 : zInv m114 := by rw [em114]; exact iu_74 hIm113 (by omega)
                            have hFm114 : zFr W_161 m0 m114 := by rw [em114]; exact hFm113.any rfl
                            have km114_69_7 : m114 69 7 = p10 := by rw [em114, zUp_ne (by omega)]; exact km113_69_7
                            have km114_69_11 : m114 69 11 = f108 := by rw [em114, zUp_ne (by omega)]; exact km113_69_11
                            have km114_69_9 : m114 69 9 = f109 := by rw [em114, zUp_ne (by omega)]; exact km113_69_9
                            have km114_69_6 : m114 69 6 = (f41 + 1) := by rw [em114, zUp_ne (by omega)]; exact km113_69_6
                            have fm114_74 : m114 74 = zPt f13 ((f108).toNat) r40 := by rw [em114, zUp_ff, fm113_74]
                            clear em114
                            have z115 := zcp f13 (f108).toNat (f108 + 1).toNat (r40) (by omega)
                            refine zw_7 zr_161_437 rfl ?_
                            refine zw_43 zr_161_438 rfl ?_
                            refine zw_46i zr_161_439 km114_69_11 rfl rfl rfl ?_
                            refine zw_push zr_161_442 ?_
                            refine zw_16 zr_161_443 (by omega) ?_
                            refine zw_47 (c := 69) zr_161_444 rfl ⟨rfl, by decide, rfl⟩ ?_
                            intro m116 em116
                            have hIm116 : zInv m116 := by rw [em116]; exact hIm114.bd (r := 69) (k := 11) (lo := 0) (hi := 128) rfl (by omega) (by decide) (by decide) (by decide)
                            have hFm116 : zFr W_161 m0 m116 := by rw [em116]; exact hFm114.up rfl
                            have km116_69_7 : m116 69 7 = p10 := by rw [em116, zUp_ne (by omega)]; exact km114_69_7
                            have km116_69_9 : m116 69 9 = f109 := by rw [em116, zUp_ne (by omega)]; exact km114_69_9
                            have km116_69_6 : m116 69 6 = (f41 + 1) := by rw [em116, zUp_ne (by omega)]; exact km114_69_6
                            have km116_69_11 : m116 69 11 = (f108 + 1) := by rw [em116]; exact zUp_eq _ _ _ _
                            have fm116_74 : m116 74 = zPt f13 ((f108).toNat) r40 := by rw [em116, zUp_fn (by decide)]; exact fm114_74
                            clear em116
                            have z117 := zcd (zPt f13 ((f108).toNat) r40) ((f108 + 1)).toNat (f108).toNat
                            refine zw_push zr_161_447 ?_
                            refine zw_9 (L' := [(2, 69), (0, i5), (0, 1), (0, i7), (0, r40)]) zr_161_448 (Nat.le_of_ble_eq_true rfl) rfl ?_
                            refine zw_42 zr_161_449 ?_
                            refine zw_42 zr_161_485 ?_
                            exact zw_less (L := [(2, 69), (0, i5), (0, 1), (0, i7), (9, 0)]) ⟨Or.inr rfl, Or.inr rfl, Or.inr rfl, Or.inr rfl, Or.inl rfl, trivial⟩ (ihlp26_14 (i5) (1) (i7) ((f41 + 1)) (p10) (f109) ((f108 + 1)) (zPt f13 ((f108).toNat) r40) m116 hIm116 hFm116  km116_69_6 km116_69_7 km116_69_9 km116_69_11 fm116_74 (by omega) (by omega) (by omega) (by omega) (by omega) (by omega) (by omega) (by omega) (by omega) (by omega) (by omega) (by omega) (by omega) (by omega) (by omega) (by omega) (by omega) (by omega) (by omega))
                          · intro h118; omega
                        exfalso; omega
                      exfalso; omega
                    · intro h119; omega
                  exfalso; omega
              by_cases h120 : r40 = 47
              · refine zw_112 (off := 91) (t := 92) zr_155_1 (by rw [h120]; rfl) rfl ?_
                refine zw_push zr_155_92 ?_
                refine zw_R zr_155_93 (by decide) zm_155 (v := (0, 5)) rfl ?_
                rw [← hQ1]
                show zW E (d) 161 324 [(2, 69), (0, i5), (0, i6), (0, i7), (0, r40)] [(0, 5)] m39 Q
                refine zw_40_5 zr_161_324 ?_ ?_
                · intro h121; omega
                · intro h122
                  refine zw_7 zr_161_327 rfl ?_
                  refine zw_4 zr_161_328 rfl ?_
                  refine zw_C zr_161_330 (Or.inr rfl) zm_155 rfl rfl ⟨Nat.le_of_ble_eq_true rfl, Nat.le_of_ble_eq_true rfl, Nat.le_of_ble_eq_true rfl, rfl, by decide⟩ (by omega) (P := (fun v m' => zW E (d) 161 333 [(2, 69), (0, i5), (0, i6), (0, i7), (0, r40)] (if v.1 = 9 then [(2, 69)] else v :: [(2, 69)]) m' Q)) ?_ (fun _ _ h => h)
                  generalize hQ1 : (fun v m' => zW E (d) 161 333 [(2, 69), (0, i5), (0, i6), (0, i7), (0, r40)] (if v.1 = 9 then [(2, 69)] else v :: [(2, 69)]) m' Q) = Q1
                  show zW E (d - 1) 155 0 [(0, r40)] [] m39 Q1
                  refine zw_3 zr_155_0 rfl ?_
                  by_cases h123 : r40 = 47
                  · refine zw_112 (off := 91) (t := 92) zr_155_1 (by rw [h123]; rfl) rfl ?_
                    refine zw_push zr_155_92 ?_
                    refine zw_R zr_155_93 (by decide) zm_155 (v := (0, 5)) rfl ?_
                    rw [← hQ1]
                    show zW E (d) 161 333 [(2, 69), (0, i5), (0, i6), (0, i7), (0, r40)] [(0, 5), (2, 69)] m39 Q
                    refine zw_push zr_161_333 ?_
                    refine zw_41_4 zr_161_334 ?_ ?_
                    · intro h124
                      refine zw_4 zr_161_341 rfl ?_
                      refine zw_C zr_161_343 (Or.inr rfl) zm_155 rfl rfl ⟨Nat.le_of_ble_eq_true rfl, Nat.le_of_ble_eq_true rfl, Nat.le_of_ble_eq_true rfl, rfl, by decide⟩ (by omega) (P := (fun v m' => zW E (d) 161 346 [(2, 69), (0, i5), (0, i6), (0, i7), (0, r40)] (if v.1 = 9 then [(2, 69)] else v :: [(2, 69)]) m' Q)) ?_ (fun _ _ h => h)
                      generalize hQ1 : (fun v m' => zW E (d) 161 346 [(2, 69), (0, i5), (0, i6), (0, i7), (0, r40)] (if v.1 = 9 then [(2, 69)] else v :: [(2, 69)]) m' Q) = Q1
                      show zW E (d - 1) 155 0 [(0, r40)] [] m39 Q1
                      refine zw_3 zr_155_0 rfl ?_
                      by_cases h125 : r40 = 47
                      · refine zw_112 (off := 91) (t := 92) zr_155_1 (by rw [h125]; rfl) rfl ?_
                        refine zw_push zr_155_92 ?_
                        refine zw_R zr_155_93 (by decide) zm_155 (v := (0, 5)) rfl ?_
                        rw [← hQ1]
                        show zW E (d) 161 346 [(2, 69), (0, i5), (0, i6), (0, i7), (0, r40)] [(0, 5), (2, 69)] m39 Q
                        refine zw_C zr_161_346 (Or.inl rfl) zm_157 rfl rfl ⟨Nat.le_of_ble_eq_true rfl, Nat.le_of_ble_eq_true rfl, Nat.le_of_ble_eq_true rfl, rfl, by decide⟩ (by omega) (th_157 (d := d - 1) (by omega) hIm39 (a0 := 5) (g0 := p12) (g1 := p11)  (F74 := f13) km39_69_11 km39_69_9 fm39_74 (by omega) (by omega)) ?_
                        rintro _ m126 ⟨rfl, hIm126, gm126, po0_m126, po1_m126, po2_m126, po3_m126⟩
                        have hFm126 : zFr W_161 m0 m126 := hFm39.trans gm126 rfl
                        have km126_69_7 : m126 69 7 = p10 := (gm126 69 7 rfl).trans km39_69_7
                        have km126_69_6 : m126 69 6 = f41 := (gm126 69 6 rfl).trans ef41
                        have fm126_74 : m126 74 = f13 := (funext fun k => gm126 74 k rfl).trans fm39_74
                        obtain ⟨f127, ef127⟩ : ∃ v, m126 69 11 = v := ⟨_, rfl⟩
                        have bf127 := ib_69_11 hIm126
                        rw [ef127] at bf127
                        rw [ef127] at po0_m126
                        rw [ef127] at po2_m126
                        rw [ef127] at po3_m126
                        obtain ⟨f128, ef128⟩ : ∃ v, m126 69 9 = v := ⟨_, rfl⟩
                        have bf128 := ib_69_9 hIm126
                        rw [ef128] at bf128
                        rw [ef128] at po1_m126
                        rw [ef128] at po2_m126
                        show zW E (d) 161 349 [(2, 69), (0, i5), (0, i6), (0, i7), (0, r40)] [] m126 Q
                        have z129 := cB_nn f13 (f127).toNat
                        refine zw_4 zr_161_349 rfl ?_
                        refine zw_C zr_161_351 (Or.inr rfl) zm_155 rfl rfl ⟨Nat.le_of_ble_eq_true rfl, Nat.le_of_ble_eq_true rfl, Nat.le_of_ble_eq_true rfl, rfl, by decide⟩ (by omega) (P := (fun v m' => zW E (d) 161 354 [(2, 69), (0, i5), (0, i6), (0, i7), (0, r40)] (if v.1 = 9 then [] else v :: []) m' Q)) ?_ (fun _ _ h => h)
                        generalize hQ1 : (fun v m' => zW E (d) 161 354 [(2, 69), (0, i5), (0, i6), (0, i7), (0, r40)] (if v.1 = 9 then [] else v :: []) m' Q) = Q1
                        show zW E (d - 1) 155 0 [(0, r40)] [] m126 Q1
                        refine zw_3 zr_155_0 rfl ?_
                        by_cases h130 : r40 = 47
                        · refine zw_112 (off := 91) (t := 92) zr_155_1 (by rw [h130]; rfl) rfl ?_
                          refine zw_push zr_155_92 ?_
                          refine zw_R zr_155_93 (by decide) zm_155 (v := (0, 5)) rfl ?_
                          rw [← hQ1]
                          show zW E (d) 161 354 [(2, 69), (0, i5), (0, i6), (0, i7), (0, r40)] [(0, 5)] m126 Q
                          refine zw_push zr_161_354 ?_
                          refine zw_41_4 zr_161_355 ?_ ?_
                          · intro h131
                            refine zw_7 zr_161_416 rfl ?_
                            refine zw_43 zr_161_417 rfl ?_
                            refine zw_46i zr_161_418 km126_69_6 rfl rfl rfl ?_
                            refine zw_push zr_161_421 ?_
                            refine zw_16 zr_161_422 (by omega) ?_
                            refine zw_47 (c := 69) zr_161_423 rfl ⟨rfl, by decide, rfl⟩ ?_
                            intro m132 em132
                            have hIm132 : zInv m132 := by rw [em132]; exact hIm126.bd (r := 69) (k := 6) (lo := 0) (hi := 50) rfl (by omega) (by decide) (by decide) (by decide)
                            have hFm132 : zFr W_161 m0 m132 := by rw [em132]; exact hFm126.up rfl
                            have km132_69_7 : m132 69 7 = p10 := by rw [em132, zUp_ne (by omega)]; exact km126_69_7
                            have km132_69_11 : m132 69 11 = f127 := by rw [em132, zUp_ne (by omega)]; exact ef127
                            have km132_69_9 : m132 69 9 = f128 := by rw [em132, zUp_ne (by omega)]; exact ef128
                            have km132_69_6 : m132 69 6 = (f41 + 1) := by rw [em132]; exact zUp_eq _ _ _ _
                            have fm132_74 : m132 74 = f13 := by rw [em132, zUp_fn (by decide)]; exact fm126_74
                            clear em132
                            refine zw_7 zr_161_426 rfl ?_
                            refine zw_46r (s := 74) zr_161_427 rfl rfl rfl rfl ?_
                            refine zw_7 zr_161_430 rfl ?_
                            refine zw_46i zr_161_431 km132_69_11 rfl rfl rfl ?_
                            refine zw_4 zr_161_434 rfl ?_
                            refine zw_49 (c := 74) (len := 128) zr_161_436 rfl rfl (by omega) (by omega) ?_
                            intro m133 em133
                            have hIm133 : zInv m133 := by rw [em133]; exact iu_74 hIm132 (by omega)
                            have hFm133 : zFr W_161 m0 m133 := by rw [em133]; exact hFm132.any rfl
                            have km133_69_7 : m133 69 7 = p10 := by rw [em133, zUp_ne (by omega)]; exact km132_69_7
                            have km133_69_11 : m133 69 11 = f127 := by rw [em133, zUp_ne (by omega)]; exact km132_69_11
                            have km133_69_9 : m133 69 9 = f128 := by rw [em133, zUp_ne (by omega)]; exact km132_69_9
                            have km133_69_6 : m133 69 6 = (f41 + 1) := by rw [em133, zUp_ne (by omega)]; exact km132_69_6
                            have fm133_74 : m133 74 = zPt f13 ((f127).toNat) r40 := by rw [em133, zUp_ff, fm132_74]
                            clear em133
                            have z134 := zcp f13 (f127).toNat (f127 + 1).toNat (r40) (by omega)
                            refine zw_7 zr_161_437 rfl ?_
                            refine zw_43 zr_161_438 rfl ?_
                            refine zw_46i zr_161_439 km133_69_11 rfl rfl rfl ?_
                            refine zw_push zr_161_442 ?_
                            refine zw_16 zr_161_443 (by omega) ?_
                            refine zw_47 (c := 69) zr_161_444 rfl ⟨rfl, by decide, rfl⟩ ?_
                            intro m135 em135
                            have hIm135 : zInv m135 := by rw [em135]; exact hIm133.bd (r := 69) (k := 11) (lo := 0) (hi := 128) rfl (by omega) (by decide) (by decide) (by decide)
                            have hFm135 : zFr W_161 m0 m135 := by rw [em135]; exact hFm133.up rfl
                            have km135_69_7 : m135 69 7 = p10 := by rw [em135, zUp_ne (by omega)]; exact km133_69_7
                            have km135_69_9 : m135 69 9 = f128 := by rw [em135, zUp_ne (by omega)]; exact km133_69_9
                            have km135_69_6 : m135 69 6 = (f41 + 1) := by rw [em135, zUp_ne (by omega)]; exact km133_69_6
                            have km135_69_11 : m135 69 11 = (f127 + 1) := by rw [em135]; exact zUp_eq _ _ _ _
                            have fm135_74 : m135 74 = zPt f13 ((f127).toNat) r40 := by rw [em135, zUp_fn (by decide)]; exact fm133_74
                            clear em135
                            have z136 := zcd (zPt f13 ((f127).toNat) r40) ((f127 + 1)).toNat (f127).toNat
                            refine zw_push zr_161_447 ?_
                            refine zw_9 (L' := [(2, 69), (0, i5), (0, 1), (0, i7), (0, r40)]) zr_161_448 (Nat.le_of_ble_eq_true rfl) rfl ?_
                            refine zw_42 zr_161_449 ?_
                            refine zw_42 zr_161_485 ?_
                            exact zw_less (L := [(2, 69), (0, i5), (0, 1), (0, i7), (9, 0)]) ⟨Or.inr rfl, Or.inr rfl, Or.inr rfl, Or.inr rfl, Or.inl rfl, trivial⟩ (ihlp26_14 (i5) (1) (i7) ((f41 + 1)) (p10) (f128) ((f127 + 1)) (zPt f13 ((f127).toNat) r40) m135 hIm135 hFm135  km135_69_6 km135_69_7 km135_69_9 km135_69_11 fm135_74 (by omega) (by omega) (by omega) (by omega) (by omega) (by omega) (by omega) (by omega) (by omega) (by omega) (by omega) (by omega) (by omega) (by omega) (by omega) (by omega) (by omega) (by omega) (by omega))
                          · intro h137; omega
                        exfalso; omega
                      exfalso; omega
                    · intro h138; omega
                  exfalso; omega
              by_cases h139 : r40 = 60
              · refine zw_112 (off := 87) (t := 88) zr_155_1 (by rw [h139]; rfl) rfl ?_
                refine zw_push zr_155_88 ?_
                refine zw_R zr_155_89 (by decide) zm_155 (v := (0, 3)) rfl ?_
                rw [← hQ1]
                show zW E (d) 161 324 [(2, 69), (0, i5), (0, i6), (0, i7), (0, r40)] [(0, 3)] m39 Q
                refine zw_40_5 zr_161_324 ?_ ?_
                · intro h140; omega
                · intro h141
                  refine zw_7 zr_161_327 rfl ?_
                  refine zw_4 zr_161_328 rfl ?_
                  refine zw_C zr_161_330 (Or.inr rfl) zm_155 rfl rfl ⟨Nat.le_of_ble_eq_true rfl, Nat.le_of_ble_eq_true rfl, Nat.le_of_ble_eq_true rfl, rfl, by decide⟩ (by omega) (P := (fun v m' => zW E (d) 161 333 [(2, 69), (0, i5), (0, i6), (0, i7), (0, r40)] (if v.1 = 9 then [(2, 69)] else v :: [(2, 69)]) m' Q)) ?_ (fun _ _ h => h)
                  generalize hQ1 : (fun v m' => zW E (d) 161 333 [(2, 69), (0, i5), (0, i6), (0, i7), (0, r40)] (if v.1 = 9 then [(2, 69)] else v :: [(2, 69)]) m' Q) = Q1
                  show zW E (d - 1) 155 0 [(0, r40)] [] m39 Q1
                  refine zw_3 zr_155_0 rfl ?_
                  by_cases h142 : r40 = 60
                  · refine zw_112 (off := 87) (t := 88) zr_155_1 (by rw [h142]; rfl) rfl ?_
                    refine zw_push zr_155_88 ?_
                    refine zw_R zr_155_89 (by decide) zm_155 (v := (0, 3)) rfl ?_
                    rw [← hQ1]
                    show zW E (d) 161 333 [(2, 69), (0, i5), (0, i6), (0, i7), (0, r40)] [(0, 3), (2, 69)] m39 Q
                    refine zw_push zr_161_333 ?_
                    refine zw_41_4 zr_161_334 ?_ ?_
                    · intro h143; omega
                    · intro h144
                      refine zw_push zr_161_337 ?_
                      refine zw_42 zr_161_338 ?_
                      refine zw_C zr_161_346 (Or.inl rfl) zm_157 rfl rfl ⟨Nat.le_of_ble_eq_true rfl, Nat.le_of_ble_eq_true rfl, Nat.le_of_ble_eq_true rfl, rfl, by decide⟩ (by omega) (th_157 (d := d - 1) (by omega) hIm39 (a0 := 4) (g0 := p12) (g1 := p11)  (F74 := f13) km39_69_11 km39_69_9 fm39_74 (by omega) (by omega)) ?_
                      rintro _ m145 ⟨rfl, hIm145, gm145, po0_m145, po1_m145, po2_m145, po3_m145⟩
                      have hFm145 : zFr W_161 m0 m145 := hFm39.trans gm145 rfl
                      have km145_69_7 : m145 69 7 = p10 := (gm145 69 7 rfl).trans km39_69_7
                      have km145_69_6 : m145 69 6 = f41 := (gm145 69 6 rfl).trans ef41
                      have fm145_74 : m145 74 = f13 := (funext fun k => gm145 74 k rfl).trans fm39_74
                      obtain ⟨f146, ef146⟩ : ∃ v, m145 69 11 = v := ⟨_, rfl⟩
                      have bf146 := ib_69_11 hIm145
                      rw [ef146] at bf146
                      rw [ef146] at po0_m145
                      rw [ef146] at po2_m145
                      rw [ef146] at po3_m145
                      obtain ⟨f147, ef147⟩ : ∃ v, m145 69 9 = v := ⟨_, rfl⟩
                      have bf147 := ib_69_9 hIm145
                      rw [ef147] at bf147
                      rw [ef147] at po1_m145
                      rw [ef147] at po2_m145
                      show zW E (d) 161 349 [(2, 69), (0, i5), (0, i6), (0, i7), (0, r40)] [] m145 Q
                      have z148 := cB_nn f13 (f146).toNat
                      refine zw_4 zr_161_349 rfl ?_
                      refine zw_C zr_161_351 (Or.inr rfl) zm_155 rfl rfl ⟨Nat.le_of_ble_eq_true rfl, Nat.le_of_ble_eq_true rfl, Nat.le_of_ble_eq_true rfl, rfl, by decide⟩ (by omega) (P := (fun v m' => zW E (d) 161 354 [(2, 69), (0, i5), (0, i6), (0, i7), (0, r40)] (if v.1 = 9 then [] else v :: []) m' Q)) ?_ (fun _ _ h => h)
                      generalize hQ1 : (fun v m' => zW E (d) 161 354 [(2, 69), (0, i5), (0, i6), (0, i7), (0, r40)] (if v.1 = 9 then [] else v :: []) m' Q) = Q1
                      show zW E (d - 1) 155 0 [(0, r40)] [] m145 Q1
                      refine zw_3 zr_155_0 rfl ?_
                      by_cases h149 : r40 = 60
                      · refine zw_112 (off := 87) (t := 88) zr_155_1 (by rw [h149]; rfl) rfl ?_
                        refine zw_push zr_155_88 ?_
                        refine zw_R zr_155_89 (by decide) zm_155 (v := (0, 3)) rfl ?_
                        rw [← hQ1]
                        show zW E (d) 161 354 [(2, 69), (0, i5), (0, i6), (0, i7), (0, r40)] [(0, 3)] m145 Q
                        refine zw_push zr_161_354 ?_
                        refine zw_41_4 zr_161_355 ?_ ?_
                        · intro h150; omega
                        · intro h151
                          refine zw_7 zr_161_358 rfl ?_
                          refine zw_46i zr_161_359 ef146 rfl rfl rfl ?_
                          refine zw_40_5 zr_161_362 ?_ ?_
                          · intro h152
                            refine zw_7 zr_161_416 rfl ?_
                            refine zw_43 zr_161_417 rfl ?_
                            refine zw_46i zr_161_418 km145_69_6 rfl rfl rfl ?_
                            refine zw_push zr_161_421 ?_
                            refine zw_16 zr_161_422 (by omega) ?_
                            refine zw_47 (c := 69) zr_161_423 rfl ⟨rfl, by decide, rfl⟩ ?_
                            intro m153 em153
                            have hIm153 : zInv m153 := by rw [em153]; exact hIm145.bd (r := 69) (k := 6) (lo := 0) (hi := 50) rfl (by omega) (by decide) (by decide) (by decide)
                            have hFm153 : zFr W_161 m0 m153 := by rw [em153]; exact hFm145.up rfl
                            have km153_69_7 : m153 69 7 = p10 := by rw [em153, zUp_ne (by omega)]; exact km145_69_7
                            have km153_69_11 : m153 69 11 = f146 := by rw [em153, zUp_ne (by omega)]; exact ef146
                            have km153_69_9 : m153 69 9 = f147 := by rw [em153, zUp_ne (by omega)]; exact ef147
                            have km153_69_6 : m153 69 6 = (f41 + 1) := by rw [em153]; exact zUp_eq _ _ _ _
                            have fm153_74 : m153 74 = f13 := by rw [em153, zUp_fn (by decide)]; exact fm145_74
                            clear em153
                            refine zw_7 zr_161_426 rfl ?_
                            refine zw_46r (s := 74) zr_161_427 rfl rfl rfl rfl ?_
                            refine zw_7 zr_161_430 rfl ?_
                            refine zw_46i zr_161_431 km153_69_11 rfl rfl rfl ?_
                            refine zw_4 zr_161_434 rfl ?_
                            refine zw_49 (c := 74) (len := 128) zr_161_436 rfl rfl (by omega) (by omega) ?_
                            intro m154 em154
                            have hIm154 : zInv m154 := by rw [em154]; exact iu_74 hIm153 (by omega)
                            have hFm154 : zFr W_161 m0 m154 := by rw [em154]; exact hFm153.any rfl
                            have km154_69_7 : m154 69 7 = p10 := by rw [em154, zUp_ne (by omega)]; exact km153_69_7
                            have km154_69_11 : m154 69 11 = f146 := by rw [em154, zUp_ne (by omega)]; exact km153_69_11
                            have km154_69_9 : m154 69 9 = f147 := by rw [em154, zUp_ne (by omega)]; exact km153_69_9
                            have km154_69_6 : m154 69 6 = (f41 + 1) := by rw [em154, zUp_ne (by omega)]; exact km153_69_6
                            have km154_74_0 : m154 74 0 = r40 := by rw [em154, show (f146 : Int).toNat = 0 by omega]; exact zUp_eq _ _ _ _
                            have fm154_74 : m154 74 = zPt f13 ((f146).toNat) r40 := by rw [em154, zUp_ff, fm153_74]
                            clear em154
                            have z155 := zcp f13 (f146).toNat (f146 + 1).toNat (r40) (by omega)
                            refine zw_7 zr_161_437 rfl ?_
                            refine zw_43 zr_161_438 rfl ?_
                            refine zw_46i zr_161_439 km154_69_11 rfl rfl rfl ?_
                            refine zw_push zr_161_442 ?_
                            refine zw_16 zr_161_443 (by omega) ?_
                            refine zw_47 (c := 69) zr_161_444 rfl ⟨rfl, by decide, rfl⟩ ?_
                            intro m156 em156
                            have hIm156 : zInv m156 := by rw [em156]; exact hIm154.bd (r := 69) (k := 11) (lo := 0) (hi := 128) rfl (by omega) (by decide) (by decide) (by decide)
                            have hFm156 : zFr W_161 m0 m156 := by rw [em156]; exact hFm154.up rfl
                            have km156_69_7 : m156 69 7 = p10 := by rw [em156, zUp_ne (by omega)]; exact km154_69_7
                            have km156_69_9 : m156 69 9 = f147 := by rw [em156, zUp_ne (by omega)]; exact km154_69_9
                            have km156_69_6 : m156 69 6 = (f41 + 1) := by rw [em156, zUp_ne (by omega)]; exact km154_69_6
                            have km156_74_0 : m156 74 0 = r40 := by rw [em156, zUp_ne (by omega)]; exact km154_74_0
                            have km156_69_11 : m156 69 11 = (f146 + 1) := by rw [em156]; exact zUp_eq _ _ _ _
                            have fm156_74 : m156 74 = zPt f13 ((f146).toNat) r40 := by rw [em156, zUp_fn (by decide)]; exact fm154_74
                            clear em156
                            have z157 := zcd (zPt f13 ((f146).toNat) r40) ((f146 + 1)).toNat (f146).toNat
                            refine zw_push zr_161_447 ?_
                            refine zw_9 (L' := [(2, 69), (0, i5), (0, 1), (0, i7), (0, r40)]) zr_161_448 (Nat.le_of_ble_eq_true rfl) rfl ?_
                            refine zw_42 zr_161_449 ?_
                            refine zw_42 zr_161_485 ?_
                            exact zw_less (L := [(2, 69), (0, i5), (0, 1), (0, i7), (9, 0)]) ⟨Or.inr rfl, Or.inr rfl, Or.inr rfl, Or.inr rfl, Or.inl rfl, trivial⟩ (ihlp26_14 (i5) (1) (i7) ((f41 + 1)) (p10) (f147) ((f146 + 1)) (zPt f13 ((f146).toNat) r40) m156 hIm156 hFm156  km156_69_6 km156_69_7 km156_69_9 km156_69_11 fm156_74 (by omega) (by omega) (by omega) (by omega) (by omega) (by omega) (by omega) (by omega) (by omega) (by omega) (by omega) (by omega) (by omega) (by omega) (by omega) (by omega) (by omega) (by omega) (by omega))
                          · intro h158
                            refine zw_7 zr_161_365 rfl ?_
                            refine zw_46r (s := 74) zr_161_366 rfl rfl rfl rfl ?_
                            refine zw_7 zr_161_369 rfl ?_
                            refine zw_46i zr_161_370 ef146 rfl rfl rfl ?_
                            refine zw_push zr_161_373 ?_
                            refine zw_17 zr_161_374 (by omega) ?_
                            refine zw_48 (c := 74) (len := 128) zr_161_375 rfl rfl (by omega) (by omega) ?_
                            intro x159 ex159
                            have bx159 := ib_74 hIm145 (k := ((f146 - 1)).toNat) (by omega)
                            rw [← ex159] at bx159
                            refine zw_push zr_161_376 ?_
                            refine zw_41_3 zr_161_379 ?_ ?_
                            · intro h160
                              refine zw_7 zr_161_416 rfl ?_
                              refine zw_43 zr_161_417 rfl ?_
                              refine zw_46i zr_161_418 km145_69_6 rfl rfl rfl ?_
                              refine zw_push zr_161_421 ?_
                              refine zw_16 zr_161_422 (by omega) ?_
                              refine zw_47 (c := 69) zr_161_423 rfl ⟨rfl, by decide, rfl⟩ ?_
                              intro m161 em161
                              have hIm161 : zInv m161 := by rw [em161]; exact hIm145.bd (r := 69) (k := 6) (lo := 0) (hi := 50) rfl (by omega) (by decide) (by decide) (by decide)
                              have hFm161 : zFr W_161 m0 m161 := by rw [em161]; exact hFm145.up rfl
                              have km161_69_7 : m161 69 7 = p10 := by rw [em161, zUp_ne (by omega)]; exact km145_69_7
                              have km161_69_11 : m161 69 11 = f146 := by rw [em161, zUp_ne (by omega)]; exact ef146
                              have km161_69_9 : m161 69 9 = f147 := by rw [em161, zUp_ne (by omega)]; exact ef147
                              have km161_69_6 : m161 69 6 = (f41 + 1) := by rw [em161]; exact zUp_eq _ _ _ _
                              have fm161_74 : m161 74 = f13 := by rw [em161, zUp_fn (by decide)]; exact fm145_74
                              clear em161
                              refine zw_7 zr_161_426 rfl ?_
                              refine zw_46r (s := 74) zr_161_427 rfl rfl rfl rfl ?_
                              refine zw_7 zr_161_430 rfl ?_
                              refine zw_46i zr_161_431 km161_69_11 rfl rfl rfl ?_
                              refine zw_4 zr_161_434 rfl ?_
                              refine zw_49 (c := 74) (len := 128) zr_161_436 rfl rfl (by omega) (by omega) ?_
                              intro m162 em162
                              have hIm162 : zInv m162 := by rw [em162]; exact iu_74 hIm161 (by omega)
                              have hFm162 : zFr W_161 m0 m162 := by rw [em162]; exact hFm161.any rfl
                              have km162_69_7 : m162 69 7 = p10 := by rw [em162, zUp_ne (by omega)]; exact km161_69_7
                              have km162_69_11 : m162 69 11 = f146 := by rw [em162, zUp_ne (by omega)]; exact km161_69_11
                              have km162_69_9 : m162 69 9 = f147 := by rw [em162, zUp_ne (by omega)]; exact km161_69_9
                              have km162_69_6 : m162 69 6 = (f41 + 1) := by rw [em162, zUp_ne (by omega)]; exact km161_69_6
                              have fm162_74 : m162 74 = zPt f13 ((f146).toNat) r40 := by rw [em162, zUp_ff, fm161_74]
                              clear em162
                              have z163 := zcp f13 (f146).toNat (f146 + 1).toNat (r40) (by omega)
                              refine zw_7 zr_161_437 rfl ?_
                              refine zw_43 zr_161_438 rfl ?_
                              refine zw_46i zr_161_439 km162_69_11 rfl rfl rfl ?_
                              refine zw_push zr_161_442 ?_
                              refine zw_16 zr_161_443 (by omega) ?_
                              refine zw_47 (c := 69) zr_161_444 rfl ⟨rfl, by decide, rfl⟩ ?_
                              intro m164 em164
                              have hIm164 : zInv m164 := by rw [em164]; exact hIm162.bd (r := 69) (k := 11) (lo := 0) (hi := 128) rfl (by omega) (by decide) (by decide) (by decide)
                              have hFm164 : zFr W_161 m0 m164 := by rw [em164]; exact hFm162.up rfl
                              have km164_69_7 : m164 69 7 = p10 := by rw [em164, zUp_ne (by omega)]; exact km162_69_7
                              have km164_69_9 : m164 69 9 = f147 := by rw [em164, zUp_ne (by omega)]; exact km162_69_9
                              have km164_69_6 : m164 69 6 = (f41 + 1) := by rw [em164, zUp_ne (by omega)]; exact km162_69_6
                              have km164_69_11 : m164 69 11 = (f146 + 1) := by rw [em164]; exact zUp_eq _ _ _ _
                              have fm164_74 : m164 74 = zPt f13 ((f146).toNat) r40 := by rw [em164, zUp_fn (by decide)]; exact fm162_74
                              clear em164
                              have z165 := zcd (zPt f13 ((f146).toNat) r40) ((f146 + 1)).toNat (f146).toNat
                              refine zw_push zr_161_447 ?_
                              refine zw_9 (L' := [(2, 69), (0, i5), (0, 1), (0, i7), (0, r40)]) zr_161_448 (Nat.le_of_ble_eq_true rfl) rfl ?_
                              refine zw_42 zr_161_449 ?_
                              refine zw_42 zr_161_485 ?_
                              exact zw_less (L := [(2, 69), (0, i5), (0, 1), (0, i7), (9, 0)]) ⟨Or.inr rfl, Or.inr rfl, Or.inr rfl, Or.inr rfl, Or.inl rfl, trivial⟩ (ihlp26_14 (i5) (1) (i7) ((f41 + 1)) (p10) (f147) ((f146 + 1)) (zPt f13 ((f146).toNat) r40) m164 hIm164 hFm164  km164_69_6 km164_69_7 km164_69_9 km164_69_11 fm164_74 (by omega) (by omega) (by omega) (by omega) (by omega) (by omega) (by omega) (by omega) (by omega) (by omega) (by omega) (by omega) (by omega) (by omega) (by omega) (by omega) (by omega) (by omega) (by omega))
                            · intro h166
                              refine zw_7 zr_161_382 rfl ?_
                              refine zw_46r (s := 74) zr_161_383 rfl rfl rfl rfl ?_
                              refine zw_7 zr_161_386 rfl ?_
                              refine zw_46i zr_161_387 ef146 rfl rfl rfl ?_
                              refine zw_push zr_161_390 ?_
                              refine zw_17 zr_161_391 (by omega) ?_
                              refine zw_48k (c := 74) (len := 128) zr_161_392 rfl rfl (by omega) (by omega) rfl ex159.symm ?_
                              refine zw_C zr_161_393 (Or.inr rfl) zm_155 rfl rfl ⟨Nat.le_of_ble_eq_true rfl, Nat.le_of_ble_eq_true rfl, Nat.le_of_ble_eq_true rfl, rfl, by decide⟩ (by omega) (P := (fun v m' => zW E (d) 161 396 [(2, 69), (0, i5), (0, i6), (0, i7), (0, r40)] (if v.1 = 9 then [] else v :: []) m' Q)) ?_ (fun _ _ h => h)
                              generalize hQ1 : (fun v m' => zW E (d) 161 396 [(2, 69), (0, i5), (0, i6), (0, i7), (0, r40)] (if v.1 = 9 then [] else v :: []) m' Q) = Q1
                              show zW E (d - 1) 155 0 [(0, x159)] [] m145 Q1
                              refine zw_3 zr_155_0 rfl ?_
                              by_cases h167 : x159 = 38
                              · refine zw_112 (off := 85) (t := 86) zr_155_1 (by rw [h167]; rfl) rfl ?_
                                refine zw_push zr_155_86 ?_
                                refine zw_R zr_155_87 (by decide) zm_155 (v := (0, 2)) rfl ?_
                                rw [← hQ1]
                                show zW E (d) 161 396 [(2, 69), (0, i5), (0, i6), (0, i7), (0, r40)] [(0, 2)] m145 Q
                                refine zw_push zr_161_396 ?_
                                refine zw_41_4 zr_161_397 ?_ ?_
                                · intro h168
                                  refine zw_7 zr_161_416 rfl ?_
                                  refine zw_43 zr_161_417 rfl ?_
                                  refine zw_46i zr_161_418 km145_69_6 rfl rfl rfl ?_
                                  refine zw_push zr_161_421 ?_
                                  refine zw_16 zr_161_422 (by omega) ?_
                                  refine zw_47 (c := 69) zr_161_423 rfl ⟨rfl, by decide, rfl⟩ ?_
                                  intro m169 em169
                                  have hIm169 : zInv m169 := by rw [em169]; exact hIm145.bd (r := 69) (k := 6) (lo := 0) (hi := 50) rfl (by omega) (by decide) (by decide) (by decide)
                                  have hFm169 : zFr W_161 m0 m169 := by rw [em169]; exact hFm145.up rfl
                                  have km169_69_7 : m169 69 7 = p10 := by rw [em169, zUp_ne (by omega)]; exact km145_69_7
                                  have km169_69_11 : m169 69 11 = f146 := by rw [em169, zUp_ne (by omega)]; exact ef146
                                  have km169_69_9 : m169 69 9 = f147 := by rw [em169, zUp_ne (by omega)]; exact ef147
                                  have km169_69_6 : m169 69 6 = (f41 + 1) := by rw [em169]; exact zUp_eq _ _ _ _
                                  have fm169_74 : m169 74 = f13 := by rw [em169, zUp_fn (by decide)]; exact fm145_74
                                  clear em169
                                  refine zw_7 zr_161_426 rfl ?_
                                  refine zw_46r (s := 74) zr_161_427 rfl rfl rfl rfl ?_
                                  refine zw_7 zr_161_430 rfl ?_
                                  refine zw_46i zr_161_431 km169_69_11 rfl rfl rfl ?_
                                  refine zw_4 zr_161_434 rfl ?_
                                  refine zw_49 (c := 74) (len := 128) zr_161_436 rfl rfl (by omega) (by omega) ?_
                                  intro m170 em170
                                  have hIm170 : zInv m170 := by rw [em170]; exact iu_74 hIm169 (by omega)
                                  have hFm170 : zFr W_161 m0 m170 := by rw [em170]; exact hFm169.any rfl
                                  have km170_69_7 : m170 69 7 = p10 := by rw [em170, zUp_ne (by omega)]; exact km169_69_7
                                  have km170_69_11 : m170 69 11 = f146 := by rw [em170, zUp_ne (by omega)]; exact km169_69_11
                                  have km170_69_9 : m170 69 9 = f147 := by rw [em170, zUp_ne (by omega)]; exact km169_69_9
                                  have km170_69_6 : m170 69 6 = (f41 + 1) := by rw [em170, zUp_ne (by omega)]; exact km169_69_6
                                  have fm170_74 : m170 74 = zPt f13 ((f146).toNat) r40 := by rw [em170, zUp_ff, fm169_74]
                                  clear em170
                                  have z171 := zcp f13 (f146).toNat (f146 + 1).toNat (r40) (by omega)
                                  refine zw_7 zr_161_437 rfl ?_
                                  refine zw_43 zr_161_438 rfl ?_
                                  refine zw_46i zr_161_439 km170_69_11 rfl rfl rfl ?_
                                  refine zw_push zr_161_442 ?_
                                  refine zw_16 zr_161_443 (by omega) ?_
                                  refine zw_47 (c := 69) zr_161_444 rfl ⟨rfl, by decide, rfl⟩ ?_
                                  intro m172 em172
                                  have hIm172 : zInv m172 := by rw [em172]; exact hIm170.bd (r := 69) (k := 11) (lo := 0) (hi := 128) rfl (by omega) (by decide) (by decide) (by decide)
                                  have hFm172 : zFr W_161 m0 m172 := by rw [em172]; exact hFm170.up rfl
                                  have km172_69_7 : m172 69 7 = p10 := by rw [em172, zUp_ne (by omega)]; exact km170_69_7
                                  have km172_69_9 : m172 69 9 = f147 := by rw [em172, zUp_ne (by omega)]; exact km170_69_9
                                  have km172_69_6 : m172 69 6 = (f41 + 1) := by rw [em172, zUp_ne (by omega)]; exact km170_69_6
                                  have km172_69_11 : m172 69 11 = (f146 + 1) := by rw [em172]; exact zUp_eq _ _ _ _
                                  have fm172_74 : m172 74 = zPt f13 ((f146).toNat) r40 := by rw [em172, zUp_fn (by decide)]; exact fm170_74
                                  clear em172
                                  have z173 := zcd (zPt f13 ((f146).toNat) r40) ((f146 + 1)).toNat (f146).toNat
                                  refine zw_push zr_161_447 ?_
                                  refine zw_9 (L' := [(2, 69), (0, i5), (0, 1), (0, i7), (0, r40)]) zr_161_448 (Nat.le_of_ble_eq_true rfl) rfl ?_
                                  refine zw_42 zr_161_449 ?_
                                  refine zw_42 zr_161_485 ?_
                                  exact zw_less (L := [(2, 69), (0, i5), (0, 1), (0, i7), (9, 0)]) ⟨Or.inr rfl, Or.inr rfl, Or.inr rfl, Or.inr rfl, Or.inl rfl, trivial⟩ (ihlp26_14 (i5) (1) (i7) ((f41 + 1)) (p10) (f147) ((f146 + 1)) (zPt f13 ((f146).toNat) r40) m172 hIm172 hFm172  km172_69_6 km172_69_7 km172_69_9 km172_69_11 fm172_74 (by omega) (by omega) (by omega) (by omega) (by omega) (by omega) (by omega) (by omega) (by omega) (by omega) (by omega) (by omega) (by omega) (by omega) (by omega) (by omega) (by omega) (by omega) (by omega))
                                · intro h174; omega
                              by_cases h175 : x159 = 42
                              · refine zw_112 (off := 91) (t := 92) zr_155_1 (by rw [h175]; rfl) rfl ?_
                                refine zw_push zr_155_92 ?_
                                refine zw_R zr_155_93 (by decide) zm_155 (v := (0, 5)) rfl ?_
                                rw [← hQ1]
                                show zW E (d) 161 396 [(2, 69), (0, i5), (0, i6), (0, i7), (0, r40)] [(0, 5)] m145 Q
                                refine zw_push zr_161_396 ?_
                                refine zw_41_4 zr_161_397 ?_ ?_
                                · intro h176
                                  refine zw_7 zr_161_416 rfl ?_
                                  refine zw_43 zr_161_417 rfl ?_
                                  refine zw_46i zr_161_418 km145_69_6 rfl rfl rfl ?_
                                  refine zw_push zr_161_421 ?_
                                  refine zw_16 zr_161_422 (by omega) ?_
                                  refine zw_47 (c := 69) zr_161_423 rfl ⟨rfl, by decide, rfl⟩ ?_
                                  intro m177 em177
                                  have hIm177 : zInv m177 := by rw [em177]; exact hIm145.bd (r := 69) (k := 6) (lo := 0) (hi := 50) rfl (by omega) (by decide) (by decide) (by decide)
                                  have hFm177 : zFr W_161 m0 m177 := by rw [em177]; exact hFm145.up rfl
                                  have km177_69_7 : m177 69 7 = p10 := by rw [em177, zUp_ne (by omega)]; exact km145_69_7
                                  have km177_69_11 : m177 69 11 = f146 := by rw [em177, zUp_ne (by omega)]; exact ef146
                                  have km177_69_9 : m177 69 9 = f147 := by rw [em177, zUp_ne (by omega)]; exact ef147
                                  have km177_69_6 : m177 69 6 = (f41 + 1) := by rw [em177]; exact zUp_eq _ _ _ _
                                  have fm177_74 : m177 74 = f13 := by rw [em177, zUp_fn (by decide)]; exact fm145_74
                                  clear em177
                                  refine zw_7 zr_161_426 rfl ?_
                                  refine zw_46r (s := 74) zr_161_427 rfl rfl rfl rfl ?_
                                  refine zw_7 zr_161_430 rfl ?_
                                  refine zw_46i zr_161_431 km177_69_11 rfl rfl rfl ?_
                                  refine zw_4 zr_161_434 rfl ?_
                                  refine zw_49 (c := 74) (len := 128) zr_161_436 rfl rfl (by omega) (by omega) ?_
                                  intro m178 em178
                                  have hIm178 : zInv m178 := by rw [em178]; exact iu_74 hIm177 (by omega)
                                  have hFm178 : zFr W_161 m0 m178 := by rw [em178]; exact hFm177.any rfl
                                  have km178_69_7 : m178 69 7 = p10 := by rw [em178, zUp_ne (by omega)]; exact km177_69_7
                                  have km178_69_11 : m178 69 11 = f146 := by rw [em178, zUp_ne (by omega)]; exact km177_69_11
                                  have km178_69_9 : m178 69 9 = f147 := by rw [em178, zUp_ne (by omega)]; exact km177_69_9
                                  have km178_69_6 : m178 69 6 = (f41 + 1) := by rw [em178, zUp_ne (by omega)]; exact km177_69_6
                                  have fm178_74 : m178 74 = zPt f13 ((f146).toNat) r40 := by rw [em178, zUp_ff, fm177_74]
                                  clear em178
                                  have z179 := zcp f13 (f146).toNat (f146 + 1).toNat (r40) (by omega)
                                  refine zw_7 zr_161_437 rfl ?_
                                  refine zw_43 zr_161_438 rfl ?_
                                  refine zw_46i zr_161_439 km178_69_11 rfl rfl rfl ?_
                                  refine zw_push zr_161_442 ?_
                                  refine zw_16 zr_161_443 (by omega) ?_
                                  refine zw_47 (c := 69) zr_161_444 rfl ⟨rfl, by decide, rfl⟩ ?_
                                  intro m180 em180
                                  have hIm180 : zInv m180 := by rw [em180]; exact hIm178.bd (r := 69) (k := 11) (lo := 0) (hi := 128) rfl (by omega) (by decide) (by decide) (by decide)
                                  have hFm180 : zFr W_161 m0 m180 := by rw [em180]; exact hFm178.up rfl
                                  have km180_69_7 : m180 69 7 = p10 := by rw [em180, zUp_ne (by omega)]; exact km178_69_7
                                  have km180_69_9 : m180 69 9 = f147 := by rw [em180, zUp_ne (by omega)]; exact km178_69_9
                                  have km180_69_6 : m180 69 6 = (f41 + 1) := by rw [em180, zUp_ne (by omega)]; exact km178_69_6
                                  have km180_69_11 : m180 69 11 = (f146 + 1) := by rw [em180]; exact zUp_eq _ _ _ _
                                  have fm180_74 : m180 74 = zPt f13 ((f146).toNat) r40 := by rw [em180, zUp_fn (by decide)]; exact fm178_74
                                  clear em180
                                  have z181 := zcd (zPt f13 ((f146).toNat) r40) ((f146 + 1)).toNat (f146).toNat
                                  refine zw_push zr_161_447 ?_
                                  refine zw_9 (L' := [(2, 69), (0, i5), (0, 1), (0, i7), (0, r40)]) zr_161_448 (Nat.le_of_ble_eq_true rfl) rfl ?_
                                  refine zw_42 zr_161_449 ?_
                                  refine zw_42 zr_161_485 ?_
                                  exact zw_less (L := [(2, 69), (0, i5), (0, 1), (0, i7), (9, 0)]) ⟨Or.inr rfl, Or.inr rfl, Or.inr rfl, Or.inr rfl, Or.inl rfl, trivial⟩ (ihlp26_14 (i5) (1) (i7) ((f41 + 1)) (p10) (f147) ((f146 + 1)) (zPt f13 ((f146).toNat) r40) m180 hIm180 hFm180  km180_69_6 km180_69_7 km180_69_9 km180_69_11 fm180_74 (by omega) (by omega) (by omega) (by omega) (by omega) (by omega) (by omega) (by omega) (by omega) (by omega) (by omega) (by omega) (by omega) (by omega) (by omega) (by omega) (by omega) (by omega) (by omega))
                                · intro h182; omega
                              by_cases h183 : x159 = 43
                              · refine zw_112 (off := 89) (t := 90) zr_155_1 (by rw [h183]; rfl) rfl ?_
                                refine zw_push zr_155_90 ?_
                                refine zw_R zr_155_91 (by decide) zm_155 (v := (0, 4)) rfl ?_
                                rw [← hQ1]
                                show zW E (d) 161 396 [(2, 69), (0, i5), (0, i6), (0, i7), (0, r40)] [(0, 4)] m145 Q
                                refine zw_push zr_161_396 ?_
                                refine zw_41_4 zr_161_397 ?_ ?_
                                · intro h184
                                  refine zw_7 zr_161_416 rfl ?_
                                  refine zw_43 zr_161_417 rfl ?_
                                  refine zw_46i zr_161_418 km145_69_6 rfl rfl rfl ?_
                                  refine zw_push zr_161_421 ?_
                                  refine zw_16 zr_161_422 (by omega) ?_
                                  refine zw_47 (c := 69) zr_161_423 rfl ⟨rfl, by decide, rfl⟩ ?_
                                  intro m185 em185
                                  have hIm185 : zInv m185 := by rw [em185]; exact hIm145.bd (r := 69) (k := 6) (lo := 0) (hi := 50) rfl (by omega) (by decide) (by decide) (by decide)
                                  have hFm185 : zFr W_161 m0 m185 := by rw [em185]; exact hFm145.up rfl
                                  have km185_69_7 : m185 69 7 = p10 := by rw [em185, zUp_ne (by omega)]; exact km145_69_7
                                  have km185_69_11 : m185 69 11 = f146 := by rw [em185, zUp_ne (by omega)]; exact ef146
                                  have km185_69_9 : m185 69 9 = f147 := by rw [em185, zUp_ne (by omega)]; exact ef147
                                  have km185_69_6 : m185 69 6 = (f41 + 1) := by rw [em185]; exact zUp_eq _ _ _ _
                                  have fm185_74 : m185 74 = f13 := by rw [em185, zUp_fn (by decide)]; exact fm145_74
                                  clear em185
                                  refine zw_7 zr_161_426 rfl ?_
                                  refine zw_46r (s := 74) zr_161_427 rfl rfl rfl rfl ?_
                                  refine zw_7 zr_161_430 rfl ?_
                                  refine zw_46i zr_161_431 km185_69_11 rfl rfl rfl ?_
                                  refine zw_4 zr_161_434 rfl ?_
                                  refine zw_49 (c := 74) (len := 128) zr_161_436 rfl rfl (by omega) (by omega) ?_
                                  intro m186 em186
                                  have hIm186 : zInv m186 := by rw [em186]; exact iu_74 hIm185 (by omega)
                                  have hFm186 : zFr W_161 m0 m186 := by rw [em186]; exact hFm185.any rfl
                                  have km186_69_7 : m186 69 7 = p10 := by rw [em186, zUp_ne (by omega)]; exact km185_69_7
                                  have km186_69_11 : m186 69 11 = f146 := by rw [em186, zUp_ne (by omega)]; exact km185_69_11
                                  have km186_69_9 : m186 69 9 = f147 := by rw [em186, zUp_ne (by omega)]; exact km185_69_9
                                  have km186_69_6 : m186 69 6 = (f41 + 1) := by rw [em186, zUp_ne (by omega)]; exact km185_69_6
                                  have fm186_74 : m186 74 = zPt f13 ((f146).toNat) r40 := by rw [em186, zUp_ff, fm185_74]
                                  clear em186
                                  have z187 := zcp f13 (f146).toNat (f146 + 1).toNat (r40) (by omega)
                                  refine zw_7 zr_161_437 rfl ?_
                                  refine zw_43 zr_161_438 rfl ?_
                                  refine zw_46i zr_161_439 km186_69_11 rfl rfl rfl ?_
                                  refine zw_push zr_161_442 ?_
                                  refine zw_16 zr_161_443 (by omega) ?_
                                  refine zw_47 (c := 69) zr_161_444 rfl ⟨rfl, by decide, rfl⟩ ?_
                                  intro m188 em188
                                  have hIm188 : zInv m188 := by rw [em188]; exact hIm186.bd (r := 69) (k := 11) (lo := 0) (hi := 128) rfl (by omega) (by decide) (by decide) (by decide)
                                  have hFm188 : zFr W_161 m0 m188 := by rw [em188]; exact hFm186.up rfl
                                  have km188_69_7 : m188 69 7 = p10 := by rw [em188, zUp_ne (by omega)]; exact km186_69_7
                                  have km188_69_9 : m188 69 9 = f147 := by rw [em188, zUp_ne (by omega)]; exact km186_69_9
                                  have km188_69_6 : m188 69 6 = (f41 + 1) := by rw [em188, zUp_ne (by omega)]; exact km186_69_6
                                  have km188_69_11 : m188 69 11 = (f146 + 1) := by rw [em188]; exact zUp_eq _ _ _ _
                                  have fm188_74 : m188 74 = zPt f13 ((f146).toNat) r40 := by rw [em188, zUp_fn (by decide)]; exact fm186_74
                                  clear em188
                                  have z189 := zcd (zPt f13 ((f146).toNat) r40) ((f146 + 1)).toNat (f146).toNat
                                  refine zw_push zr_161_447 ?_
                                  refine zw_9 (L' := [(2, 69), (0, i5), (0, 1), (0, i7), (0, r40)]) zr_161_448 (Nat.le_of_ble_eq_true rfl) rfl ?_
                                  refine zw_42 zr_161_449 ?_
                                  refine zw_42 zr_161_485 ?_
                                  exact zw_less (L := [(2, 69), (0, i5), (0, 1), (0, i7), (9, 0)]) ⟨Or.inr rfl, Or.inr rfl, Or.inr rfl, Or.inr rfl, Or.inl rfl, trivial⟩ (ihlp26_14 (i5) (1) (i7) ((f41 + 1)) (p10) (f147) ((f146 + 1)) (zPt f13 ((f146).toNat) r40) m188 hIm188 hFm188  km188_69_6 km188_69_7 km188_69_9 km188_69_11 fm188_74 (by omega) (by omega) (by omega) (by omega) (by omega) (by omega) (by omega) (by omega) (by omega) (by omega) (by omega) (by omega) (by omega) (by omega) (by omega) (by omega) (by omega) (by omega) (by omega))
                                · intro h190; omega
                              by_cases h191 : x159 = 45
                              · refine zw_112 (off := 89) (t := 90) zr_155_1 (by rw [h191]; rfl) rfl ?_
                                refine zw_push zr_155_90 ?_
                                refine zw_R zr_155_91 (by decide) zm_155 (v := (0, 4)) rfl ?_
                                rw [← hQ1]
                                show zW E (d) 161 396 [(2, 69), (0, i5), (0, i6), (0, i7), (0, r40)] [(0, 4)] m145 Q
                                refine zw_push zr_161_396 ?_
                                refine zw_41_4 zr_161_397 ?_ ?_
                                · intro h192
                                  refine zw_7 zr_161_416 rfl ?_
                                  refine zw_43 zr_161_417 rfl ?_
                                  refine zw_46i zr_161_418 km145_69_6 rfl rfl rfl ?_
                                  refine zw_push zr_161_421 ?_
                                  refine zw_16 zr_161_422 (by omega) ?_
                                  refine zw_47 (c := 69) zr_161_423 rfl ⟨rfl, by decide, rfl⟩ ?_
                                  intro m193 em193
                                  have hIm193 : zInv m193 := by rw [em193]; exact hIm145.bd (r := 69) (k := 6) (lo := 0) (hi := 50) rfl (by omega) (by decide) (by decide) (by decide)
                                  have hFm193 : zFr W_161 m0 m193 := by rw [em193]; exact hFm145.up rfl
                                  have km193_69_7 : m193 69 7 = p10 := by rw [em193, zUp_ne (by omega)]; exact km145_69_7
                                  have km193_69_11 : m193 69 11 = f146 := by rw [em193, zUp_ne (by omega)]; exact ef146
                                  have km193_69_9 : m193 69 9 = f147 := by rw [em193, zUp_ne (by omega)]; exact ef147
                                  have km193_69_6 : m193 69 6 = (f41 + 1) := by rw [em193]; exact zUp_eq _ _ _ _
                                  have fm193_74 : m193 74 = f13 := by rw [em193, zUp_fn (by decide)]; exact fm145_74
                                  clear em193
                                  refine zw_7 zr_161_426 rfl ?_
                                  refine zw_46r (s := 74) zr_161_427 rfl rfl rfl rfl ?_
                                  refine zw_7 zr_161_430 rfl ?_
                                  refine zw_46i zr_161_431 km193_69_11 rfl rfl rfl ?_
                                  refine zw_4 zr_161_434 rfl ?_
                                  refine zw_49 (c := 74) (len := 128) zr_161_436 rfl rfl (by omega) (by omega) ?_
                                  intro m194 em194
                                  have hIm194 : zInv m194 := by rw [em194]; exact iu_74 hIm193 (by omega)
                                  have hFm194 : zFr W_161 m0 m194 := by rw [em194]; exact hFm193.any rfl
                                  have km194_69_7 : m194 69 7 = p10 := by rw [em194, zUp_ne (by omega)]; exact km193_69_7
                                  have km194_69_11 : m194 69 11 = f146 := by rw [em194, zUp_ne (by omega)]; exact km193_69_11
                                  have km194_69_9 : m194 69 9 = f147 := by rw [em194, zUp_ne (by omega)]; exact km193_69_9
                                  have km194_69_6 : m194 69 6 = (f41 + 1) := by rw [em194, zUp_ne (by omega)]; exact km193_69_6
                                  have fm194_74 : m194 74 = zPt f13 ((f146).toNat) r40 := by rw [em194, zUp_ff, fm193_74]
                                  clear em194
                                  have z195 := zcp f13 (f146).toNat (f146 + 1).toNat (r40) (by omega)
                                  refine zw_7 zr_161_437 rfl ?_
                                  refine zw_43 zr_161_438 rfl ?_
                                  refine zw_46i zr_161_439 km194_69_11 rfl rfl rfl ?_
                                  refine zw_push zr_161_442 ?_
                                  refine zw_16 zr_161_443 (by omega) ?_
                                  refine zw_47 (c := 69) zr_161_444 rfl ⟨rfl, by decide, rfl⟩ ?_
                                  intro m196 em196
                                  have hIm196 : zInv m196 := by rw [em196]; exact hIm194.bd (r := 69) (k := 11) (lo := 0) (hi := 128) rfl (by omega) (by decide) (by decide) (by decide)
                                  have hFm196 : zFr W_161 m0 m196 := by rw [em196]; exact hFm194.up rfl
                                  have km196_69_7 : m196 69 7 = p10 := by rw [em196, zUp_ne (by omega)]; exact km194_69_7
                                  have km196_69_9 : m196 69 9 = f147 := by rw [em196, zUp_ne (by omega)]; exact km194_69_9
                                  have km196_69_6 : m196 69 6 = (f41 + 1) := by rw [em196, zUp_ne (by omega)]; exact km194_69_6
                                  have km196_69_11 : m196 69 11 = (f146 + 1) := by rw [em196]; exact zUp_eq _ _ _ _
                                  have fm196_74 : m196 74 = zPt f13 ((f146).toNat) r40 := by rw [em196, zUp_fn (by decide)]; exact fm194_74
                                  clear em196
                                  have z197 := zcd (zPt f13 ((f146).toNat) r40) ((f146 + 1)).toNat (f146).toNat
                                  refine zw_push zr_161_447 ?_
                                  refine zw_9 (L' := [(2, 69), (0, i5), (0, 1), (0, i7), (0, r40)]) zr_161_448 (Nat.le_of_ble_eq_true rfl) rfl ?_
                                  refine zw_42 zr_161_449 ?_
                                  refine zw_42 zr_161_485 ?_
                                  exact zw_less (L := [(2, 69), (0, i5), (0, 1), (0, i7), (9, 0)]) ⟨Or.inr rfl, Or.inr rfl, Or.inr rfl, Or.inr rfl, Or.inl rfl, trivial⟩ (ihlp26_14 (i5) (1) (i7) ((f41 + 1)) (p10) (f147) ((f146 + 1)) (zPt f13 ((f146).toNat) r40) m196 hIm196 hFm196  km196_69_6 km196_69_7 km196_69_9 km196_69_11 fm196_74 (by omega) (by omega) (by omega) (by omega) (by omega) (by omega) (by omega) (by omega) (by omega) (by omega) (by omega) (by omega) (by omega) (by omega) (by omega) (by omega) (by omega) (by omega) (by omega))
                                · intro h198; omega
                              by_cases h199 : x159 = 47
                              · refine zw_112 (off := 91) (t := 92) zr_155_1 (by rw [h199]; rfl) rfl ?_
                                refine zw_push zr_155_92 ?_
                                refine zw_R zr_155_93 (by decide) zm_155 (v := (0, 5)) rfl ?_
                                rw [← hQ1]
                                show zW E (d) 161 396 [(2, 69), (0, i5), (0, i6), (0, i7), (0, r40)] [(0, 5)] m145 Q
                                refine zw_push zr_161_396 ?_
                                refine zw_41_4 zr_161_397 ?_ ?_
                                · intro h200
                                  refine zw_7 zr_161_416 rfl ?_
                                  refine zw_43 zr_161_417 rfl ?_
                                  refine zw_46i zr_161_418 km145_69_6 rfl rfl rfl ?_
                                  refine zw_push zr_161_421 ?_
                                  refine zw_16 zr_161_422 (by omega) ?_
                                  refine zw_47 (c := 69) zr_161_423 rfl ⟨rfl, by decide, rfl⟩ ?_
                                  intro m201 em201
                                  have hIm201 : zInv m201 := by rw [em201]; exact hIm145.bd (r := 69) (k := 6) (lo := 0) (hi := 50) rfl (by omega) (by decide) (by decide) (by decide)
                                  have hFm201 : zFr W_161 m0 m201 := by rw [em201]; exact hFm145.up rfl
                                  have km201_69_7 : m201 69 7 = p10 := by rw [em201, zUp_ne (by omega)]; exact km145_69_7
                                  have km201_69_11 : m201 69 11 = f146 := by rw [em201, zUp_ne (by omega)]; exact ef146
                                  have km201_69_9 : m201 69 9 = f147 := by rw [em201, zUp_ne (by omega)]; exact ef147
                                  have km201_69_6 : m201 69 6 = (f41 + 1) := by rw [em201]; exact zUp_eq _ _ _ _
                                  have fm201_74 : m201 74 = f13 := by rw [em201, zUp_fn (by decide)]; exact fm145_74
                                  clear em201
                                  refine zw_7 zr_161_426 rfl ?_
                                  refine zw_46r (s := 74) zr_161_427 rfl rfl rfl rfl ?_
                                  refine zw_7 zr_161_430 rfl ?_
                                  refine zw_46i zr_161_431 km201_69_11 rfl rfl rfl ?_
                                  refine zw_4 zr_161_434 rfl ?_
                                  refine zw_49 (c := 74) (len := 128) zr_161_436 rfl rfl (by omega) (by omega) ?_
                                  intro m202 em202
                                  have hIm202 : zInv m202 := by rw [em202]; exact iu_74 hIm201 (by omega)
                                  have hFm202 : zFr W_161 m0 m202 := by rw [em202]; exact hFm201.any rfl
                                  have km202_69_7 : m202 69 7 = p10 := by rw [em202, zUp_ne (by omega)]; exact km201_69_7
                                  have km202_69_11 : m202 69 11 = f146 := by rw [em202, zUp_ne (by omega)]; exact km201_69_11
                                  have km202_69_9 : m202 69 9 = f147 := by rw [em202, zUp_ne (by omega)]; exact km201_69_9
                                  have km202_69_6 : m202 69 6 = (f41 + 1) := by rw [em202, zUp_ne (by omega)]; exact km201_69_6
                                  have fm202_74 : m202 74 = zPt f13 ((f146).toNat) r40 := by rw [em202, zUp_ff, fm201_74]
                                  clear em202
                                  have z203 := zcp f13 (f146).toNat (f146 + 1).toNat (r40) (by omega)
                                  refine zw_7 zr_161_437 rfl ?_
                                  refine zw_43 zr_161_438 rfl ?_
                                  refine zw_46i zr_161_439 km202_69_11 rfl rfl rfl ?_
                                  refine zw_push zr_161_442 ?_
                                  refine zw_16 zr_161_443 (by omega) ?_
                                  refine zw_47 (c := 69) zr_161_444 rfl ⟨rfl, by decide, rfl⟩ ?_
                                  intro m204 em204
                                  have hIm204 : zInv m204 := by rw [em204]; exact hIm202.bd (r := 69) (k := 11) (lo := 0) (hi := 128) rfl (by omega) (by decide) (by decide) (by decide)
                                  have hFm204 : zFr W_161 m0 m204 := by rw [em204]; exact hFm202.up rfl
                                  have km204_69_7 : m204 69 7 = p10 := by rw [em204, zUp_ne (by omega)]; exact km202_69_7
                                  have km204_69_9 : m204 69 9 = f147 := by rw [em204, zUp_ne (by omega)]; exact km202_69_9
                                  have km204_69_6 : m204 69 6 = (f41 + 1) := by rw [em204, zUp_ne (by omega)]; exact km202_69_6
                                  have km204_69_11 : m204 69 11 = (f146 + 1) := by rw [em204]; exact zUp_eq _ _ _ _
                                  have fm204_74 : m204 74 = zPt f13 ((f146).toNat) r40 := by rw [em204, zUp_fn (by decide)]; exact fm202_74
                                  clear em204
                                  have z205 := zcd (zPt f13 ((f146).toNat) r40) ((f146 + 1)).toNat (f146).toNat
                                  refine zw_push zr_161_447 ?_
                                  refine zw_9 (L' := [(2, 69), (0, i5), (0, 1), (0, i7), (0, r40)]) zr_161_448 (Nat.le_of_ble_eq_true rfl) rfl ?_
                                  refine zw_42 zr_161_449 ?_
                                  refine zw_42 zr_161_485 ?_
                                  exact zw_less (L := [(2, 69), (0, i5), (0, 1), (0, i7), (9, 0)]) ⟨Or.inr rfl, Or.inr rfl, Or.inr rfl, Or.inr rfl, Or.inl rfl, trivial⟩ (ihlp26_14 (i5) (1) (i7) ((f41 + 1)) (p10) (f147) ((f146 + 1)) (zPt f13 ((f146).toNat) r40) m204 hIm204 hFm204  km204_69_6 km204_69_7 km204_69_9 km204_69_11 fm204_74 (by omega) (by omega) (by omega) (by omega) (by omega) (by omega) (by omega) (by omega) (by omega) (by omega) (by omega) (by omega) (by omega) (by omega) (by omega) (by omega) (by omega) (by omega) (by omega))
                                · intro h206; omega
                              by_cases h207 : x159 = 60
                              · refine zw_112 (off := 87) (t := 88) zr_155_1 (by rw [h207]; rfl) rfl ?_
                                refine zw_push zr_155_88 ?_
                                refine zw_R zr_155_89 (by decide) zm_155 (v := (0, 3)) rfl ?_
                                rw [← hQ1]
                                show zW E (d) 161 396 [(2, 69), (0, i5), (0, i6), (0, i7), (0, r40)] [(0, 3)] m145 Q
                                refine zw_push zr_161_396 ?_
                                refine zw_41_4 zr_161_397 ?_ ?_
                                · intro h208; omega
                                · intro h209
                                  refine zw_7 zr_161_400 rfl ?_
                                  refine zw_push zr_161_401 ?_
                                  refine zw_7 zr_161_403 rfl ?_
                                  refine zw_46i zr_161_404 km145_69_6 rfl rfl rfl ?_
                                  refine zw_18 zr_161_407 (by omega) ?_
                                  refine zw_push zr_161_408 ?_
                                  refine zw_16 zr_161_409 (by omega) ?_
                                  refine zw_47 (c := 69) zr_161_410 rfl ⟨rfl, by decide, rfl⟩ ?_
                                  intro m210 em210
                                  have hIm210 : zInv m210 := by rw [em210]; exact hIm145.any (by omega) rfl (by decide) (by decide)
                                  have hFm210 : zFr W_161 m0 m210 := by rw [em210]; exact hFm145.up rfl
                                  have km210_69_6 : m210 69 6 = f41 := by rw [em210, zUp_ne (by omega)]; exact km145_69_6
                                  have km210_69_11 : m210 69 11 = f146 := by rw [em210, zUp_ne (by omega)]; exact ef146
                                  have km210_69_9 : m210 69 9 = f147 := by rw [em210, zUp_ne (by omega)]; exact ef147
                                  have km210_69_7 : m210 69 7 = ((10 * f41) + 1) := by rw [em210]; exact zUp_eq _ _ _ _
                                  have fm210_74 : m210 74 = f13 := by rw [em210, zUp_fn (by decide)]; exact fm145_74
                                  clear em210
                                  refine zw_42 zr_161_413 ?_
                                  refine zw_42 zr_161_485 ?_
                                  exact zw_less (L := [(2, 69), (0, i5), (0, i6), (0, i7), (9, 0)]) ⟨Or.inr rfl, Or.inr rfl, Or.inr rfl, Or.inr rfl, Or.inl rfl, trivial⟩ (ihlp26_14 (i5) (i6) (i7) (f41) (((10 * f41) + 1)) (f147) (f146) (f13) m210 hIm210 hFm210  km210_69_6 km210_69_7 km210_69_9 km210_69_11 fm210_74 (by omega) (by omega) (by omega) (by omega) (by omega) (by omega) (by omega) (by omega) (by omega) (by omega) (by omega) (by omega) (by omega) (by omega) (by omega) (by omega) (by omega) (by omega) (by omega))
                              by_cases h211 : x159 = 61
                              · refine zw_112 (off := 87) (t := 88) zr_155_1 (by rw [h211]; rfl) rfl ?_
                                refine zw_push zr_155_88 ?_
                                refine zw_R zr_155_89 (by decide) zm_155 (v := (0, 3)) rfl ?_
                                rw [← hQ1]
                                show zW E (d) 161 396 [(2, 69), (0, i5), (0, i6), (0, i7), (0, r40)] [(0, 3)] m145 Q
                                refine zw_push zr_161_396 ?_
                                refine zw_41_4 zr_161_397 ?_ ?_
                                · intro h212; omega
                                · intro h213
                                  refine zw_7 zr_161_400 rfl ?_
                                  refine zw_push zr_161_401 ?_
                                  refine zw_7 zr_161_403 rfl ?_
                                  refine zw_46i zr_161_404 km145_69_6 rfl rfl rfl ?_
                                  refine zw_18 zr_161_407 (by omega) ?_
                                  refine zw_push zr_161_408 ?_
                                  refine zw_16 zr_161_409 (by omega) ?_
                                  refine zw_47 (c := 69) zr_161_410 rfl ⟨rfl, by decide, rfl⟩ ?_
                                  intro m214 em214
                                  have hIm214 : zInv m214 := by rw [em214]; exact hIm145.any (by omega) rfl (by decide) (by decide)
                                  have hFm214 : zFr W_161 m0 m214 := by rw [em214]; exact hFm145.up rfl
                                  have km214_69_6 : m214 69 6 = f41 := by rw [em214, zUp_ne (by omega)]; exact km145_69_6
                                  have km214_69_11 : m214 69 11 = f146 := by rw [em214, zUp_ne (by omega)]; exact ef146
                                  have km214_69_9 : m214 69 9 = f147 := by rw [em214, zUp_ne (by omega)]; exact ef147
                                  have km214_69_7 : m214 69 7 = ((10 * f41) + 1) := by rw [em214]; exact zUp_eq _ _ _ _
                                  have fm214_74 : m214 74 = f13 := by rw [em214, zUp_fn (by decide)]; exact fm145_74
                                  clear em214
                                  refine zw_42 zr_161_413 ?_
                                  refine zw_42 zr_161_485 ?_
                                  exact zw_less (L := [(2, 69), (0, i5), (0, i6), (0, i7), (9, 0)]) ⟨Or.inr rfl, Or.inr rfl, Or.inr rfl, Or.inr rfl, Or.inl rfl, trivial⟩ (ihlp26_14 (i5) (i6) (i7) (f41) (((10 * f41) + 1)) (f147) (f146) (f13) m214 hIm214 hFm214  km214_69_6 km214_69_7 km214_69_9 km214_69_11 fm214_74 (by omega) (by omega) (by omega) (by omega) (by omega) (by omega) (by omega) (by omega) (by omega) (by omega) (by omega) (by omega) (by omega) (by omega) (by omega) (by omega) (by omega) (by omega) (by omega))
                              by_cases h215 : x159 = 62
                              · refine zw_112 (off := 87) (t := 88) zr_155_1 (by rw [h215]; rfl) rfl ?_
                                refine zw_push zr_155_88 ?_
                                refine zw_R zr_155_89 (by decide) zm_155 (v := (0, 3)) rfl ?_
                                rw [← hQ1]
                                show zW E (d) 161 396 [(2, 69), (0, i5), (0, i6), (0, i7), (0, r40)] [(0, 3)] m145 Q
                                refine zw_push zr_161_396 ?_
                                refine zw_41_4 zr_161_397 ?_ ?_
                                · intro h216; omega
                                · intro h217
                                  refine zw_7 zr_161_400 rfl ?_
                                  refine zw_push zr_161_401 ?_
                                  refine zw_7 zr_161_403 rfl ?_
                                  refine zw_46i zr_161_404 km145_69_6 rfl rfl rfl ?_
                                  refine zw_18 zr_161_407 (by omega) ?_
                                  refine zw_push zr_161_408 ?_
                                  refine zw_16 zr_161_409 (by omega) ?_
                                  refine zw_47 (c := 69) zr_161_410 rfl ⟨rfl, by decide, rfl⟩ ?_
                                  intro m218 em218
                                  have hIm218 : zInv m218 := by rw [em218]; exact hIm145.any (by omega) rfl (by decide) (by decide)
                                  have hFm218 : zFr W_161 m0 m218 := by rw [em218]; exact hFm145.up rfl
                                  have km218_69_6 : m218 69 6 = f41 := by rw [em218, zUp_ne (by omega)]; exact km145_69_6
                                  have km218_69_11 : m218 69 11 = f146 := by rw [em218, zUp_ne (by omega)]; exact ef146
                                  have km218_69_9 : m218 69 9 = f147 := by rw [em218, zUp_ne (by omega)]; exact ef147
                                  have km218_69_7 : m218 69 7 = ((10 * f41) + 1) := by rw [em218]; exact zUp_eq _ _ _ _
                                  have fm218_74 : m218 74 = f13 := by rw [em218, zUp_fn (by decide)]; exact fm145_74
                                  clear em218
                                  refine zw_42 zr_161_413 ?_
                                  refine zw_42 zr_161_485 ?_
                                  exact zw_less (L := [(2, 69), (0, i5), (0, i6), (0, i7), (9, 0)]) ⟨Or.inr rfl, Or.inr rfl, Or.inr rfl, Or.inr rfl, Or.inl rfl, trivial⟩ (ihlp26_14 (i5) (i6) (i7) (f41) (((10 * f41) + 1)) (f147) (f146) (f13) m218 hIm218 hFm218  km218_69_6 km218_69_7 km218_69_9 km218_69_11 fm218_74 (by omega) (by omega) (by omega) (by omega) (by omega) (by omega) (by omega) (by omega) (by omega) (by omega) (by omega) (by omega) (by omega) (by omega) (by omega) (by omega) (by omega) (by omega) (by omega))
                              by_cases h219 : x159 = 124
                              · refine zw_112 (off := 83) (t := 84) zr_155_1 (by rw [h219]; rfl) rfl ?_
                                refine zw_push zr_155_84 ?_
                                refine zw_R zr_155_85 (by decide) zm_155 (v := (0, 1)) rfl ?_
                                rw [← hQ1]
                                show zW E (d) 161 396 [(2, 69), (0, i5), (0, i6), (0, i7), (0, r40)] [(0, 1)] m145 Q
                                refine zw_push zr_161_396 ?_
                                refine zw_41_4 zr_161_397 ?_ ?_
                                · intro h220
                                  refine zw_7 zr_161_416 rfl ?_
                                  refine zw_43 zr_161_417 rfl ?_
                                  refine zw_46i zr_161_418 km145_69_6 rfl rfl rfl ?_
                                  refine zw_push zr_161_421 ?_
                                  refine zw_16 zr_161_422 (by omega) ?_
                                  refine zw_47 (c := 69) zr_161_423 rfl ⟨rfl, by decide, rfl⟩ ?_
                                  intro m221 em221
                                  have hIm221 : zInv m221 := by rw [em221]; exact hIm145.bd (r := 69) (k := 6) (lo := 0) (hi := 50) rfl (by omega) (by decide) (by decide) (by decide)
                                  have hFm221 : zFr W_161 m0 m221 := by rw [em221]; exact hFm145.up rfl
                                  have km221_69_7 : m221 69 7 = p10 := by rw [em221, zUp_ne (by omega)]; exact km145_69_7
                                  have km221_69_11 : m221 69 11 = f146 := by rw [em221, zUp_ne (by omega)]; exact ef146
                                  have km221_69_9 : m221 69 9 = f147 := by rw [em221, zUp_ne (by omega)]; exact ef147
                                  have km221_69_6 : m221 69 6 = (f41 + 1) := by rw [em221]; exact zUp_eq _ _ _ _
                                  have fm221_74 : m221 74 = f13 := by rw [em221, zUp_fn (by decide)]; exact fm145_74
                                  clear em221
                                  refine zw_7 zr_161_426 rfl ?_
                                  refine zw_46r (s := 74) zr_161_427 rfl rfl rfl rfl ?_
                                  refine zw_7 zr_161_430 rfl ?_
                                  refine zw_46i zr_161_431 km221_69_11 rfl rfl rfl ?_
                                  refine zw_4 zr_161_434 rfl ?_
                                  refine zw_49 (c := 74) (len := 128) zr_161_436 rfl rfl (by omega) (by omega) ?_
                                  intro m222 em222
                                  have hIm222 : zInv m222 := by rw [em222]; exact iu_74 hIm221 (by omega)
                                  have hFm222 : zFr W_161 m0 m222 := by rw [em222]; exact hFm221.any rfl
                                  have km222_69_7 : m222 69 7 = p10 := by rw [em222, zUp_ne (by omega)]; exact km221_69_7
                                  have km222_69_11 : m222 69 11 = f146 := by rw [em222, zUp_ne (by omega)]; exact km221_69_11
                                  have km222_69_9 : m222 69 9 = f147 := by rw [em222, zUp_ne (by omega)]; exact km221_69_9
                                  have km222_69_6 : m222 69 6 = (f41 + 1) := by rw [em222, zUp_ne (by omega)]; exact km221_69_6
                                  have fm222_74 : m222 74 = zPt f13 ((f146).toNat) r40 := by rw [em222, zUp_ff, fm221_74]
                                  clear em222
                                  have z223 := zcp f13 (f146).toNat (f146 + 1).toNat (r40) (by omega)
                                  refine zw_7 zr_161_437 rfl ?_
                                  refine zw_43 zr_161_438 rfl ?_
                                  refine zw_46i zr_161_439 km222_69_11 rfl rfl rfl ?_
                                  refine zw_push zr_161_442 ?_
                                  refine zw_16 zr_161_443 (by omega) ?_
                                  refine zw_47 (c := 69) zr_161_444 rfl ⟨rfl, by decide, rfl⟩ ?_
                                  intro m224 em224
                                  have hIm224 : zInv m224 := by rw [em224]; exact hIm222.bd (r := 69) (k := 11) (lo := 0) (hi := 128) rfl (by omega) (by decide) (by decide) (by decide)
                                  have hFm224 : zFr W_161 m0 m224 := by rw [em224]; exact hFm222.up rfl
                                  have km224_69_7 : m224 69 7 = p10 := by rw [em224, zUp_ne (by omega)]; exact km222_69_7
                                  have km224_69_9 : m224 69 9 = f147 := by rw [em224, zUp_ne (by omega)]; exact km222_69_9
                                  have km224_69_6 : m224 69 6 = (f41 + 1) := by rw [em224, zUp_ne (by omega)]; exact km222_69_6
                                  have km224_69_11 : m224 69 11 = (f146 + 1) := by rw [em224]; exact zUp_eq _ _ _ _
                                  have fm224_74 : m224 74 = zPt f13 ((f146).toNat) r40 := by rw [em224, zUp_fn (by decide)]; exact fm222_74
                                  clear em224
                                  have z225 := zcd (zPt f13 ((f146).toNat) r40) ((f146 + 1)).toNat (f146).toNat
                                  refine zw_push zr_161_447 ?_
                                  refine zw_9 (L' := [(2, 69), (0, i5), (0, 1), (0, i7), (0, r40)]) zr_161_448 (Nat.le_of_ble_eq_true rfl) rfl ?_
                                  refine zw_42 zr_161_449 ?_
                                  refine zw_42 zr_161_485 ?_
                                  exact zw_less (L := [(2, 69), (0, i5), (0, 1), (0, i7), (9, 0)]) ⟨Or.inr rfl, Or.inr rfl, Or.inr rfl, Or.inr rfl, Or.inl rfl, trivial⟩ (ihlp26_14 (i5) (1) (i7) ((f41 + 1)) (p10) (f147) ((f146 + 1)) (zPt f13 ((f146).toNat) r40) m224 hIm224 hFm224  km224_69_6 km224_69_7 km224_69_9 km224_69_11 fm224_74 (by omega) (by omega) (by omega) (by omega) (by omega) (by omega) (by omega) (by omega) (by omega) (by omega) (by omega) (by omega) (by omega) (by omega) (by omega) (by omega) (by omega) (by omega) (by omega))
                                · intro h226; omega
                              refine zw_112 (off := 93) (t := 94) zr_155_1 (zlsw_df (by simp; omega)) rfl ?_
                              refine zw_push zr_155_94 ?_
                              refine zw_R zr_155_95 (by decide) zm_155 (v := (0, 0)) rfl ?_
                              rw [← hQ1]
                              show zW E (d) 161 396 [(2, 69), (0, i5), (0, i6), (0, i7), (0, r40)] [(0, 0)] m145 Q
                              refine zw_push zr_161_396 ?_
                              refine zw_41_4 zr_161_397 ?_ ?_
                              · intro h227
                                refine zw_7 zr_161_416 rfl ?_
                                refine zw_43 zr_161_417 rfl ?_
                                refine zw_46i zr_161_418 km145_69_6 rfl rfl rfl ?_
                                refine zw_push zr_161_421 ?_
                                refine zw_16 zr_161_422 (by omega) ?_
                                refine zw_47 (c := 69) zr_161_423 rfl ⟨rfl, by decide, rfl⟩ ?_
                                intro m228 em228
                                have hIm228 : zInv m228 := by rw [em228]; exact hIm145.bd (r := 69) (k := 6) (lo := 0) (hi := 50) rfl (by omega) (by decide) (by decide) (by decide)
                                have hFm228 : zFr W_161 m0 m228 := by rw [em228]; exact hFm145.up rfl
                                have km228_69_7 : m228 69 7 = p10 := by rw [em228, zUp_ne (by omega)]; exact km145_69_7
                                have km228_69_11 : m228 69 11 = f146 := by rw [em228, zUp_ne (by omega)]; exact ef146
                                have km228_69_9 : m228 69 9 = f147 := by rw [em228, zUp_ne (by omega)]; exact ef147
                                have km228_69_6 : m228 69 6 = (f41 + 1) := by rw [em228]; exact zUp_eq _ _ _ _
                                have fm228_74 : m228 74 = f13 := by rw [em228, zUp_fn (by decide)]; exact fm145_74
                                clear em228
                                refine zw_7 zr_161_426 rfl ?_
                                refine zw_46r (s := 74) zr_161_427 rfl rfl rfl rfl ?_
                                refine zw_7 zr_161_430 rfl ?_
                                refine zw_46i zr_161_431 km228_69_11 rfl rfl rfl ?_
                                refine zw_4 zr_161_434 rfl ?_
                                refine zw_49 (c := 74) (len := 128) zr_161_436 rfl rfl (by omega) (by omega) ?_
                                intro m229 em229
                                have hIm229 : zInv m229 := by rw [em229]; exact iu_74 hIm228 (by omega)
                                have hFm229 : zFr W_161 m0 m229 := by rw [em229]; exact hFm228.any rfl
                                have km229_69_7 : m229 69 7 = p10 := by rw [em229, zUp_ne (by omega)]; exact km228_69_7
                                have km229_69_11 : m229 69 11 = f146 := by rw [em229, zUp_ne (by omega)]; exact km228_69_11
                                have km229_69_9 : m229 69 9 = f147 := by rw [em229, zUp_ne (by omega)]; exact km228_69_9
                                have km229_69_6 : m229 69 6 = (f41 + 1) := by rw [em229, zUp_ne (by omega)]; exact km228_69_6
                                have fm229_74 : m229 74 = zPt f13 ((f146).toNat) r40 := by rw [em229, zUp_ff, fm228_74]
                                clear em229
                                have z230 := zcp f13 (f146).toNat (f146 + 1).toNat (r40) (by omega)
                                refine zw_7 zr_161_437 rfl ?_
                                refine zw_43 zr_161_438 rfl ?_
                                refine zw_46i zr_161_439 km229_69_11 rfl rfl rfl ?_
                                refine zw_push zr_161_442 ?_
                                refine zw_16 zr_161_443 (by omega) ?_
                                refine zw_47 (c := 69) zr_161_444 rfl ⟨rfl, by decide, rfl⟩ ?_
                                intro m231 em231
                                have hIm231 : zInv m231 := by rw [em231]; exact hIm229.bd (r := 69) (k := 11) (lo := 0) (hi := 128) rfl (by omega) (by decide) (by decide) (by decide)
                                have hFm231 : zFr W_161 m0 m231 := by rw [em231]; exact hFm229.up rfl
                                have km231_69_7 : m231 69 7 = p10 := by rw [em231, zUp_ne (by omega)]; exact km229_69_7
                                have km231_69_9 : m231 69 9 = f147 := by rw [em231, zUp_ne (by omega)]; exact km229_69_9
                                have km231_69_6 : m231 69 6 = (f41 + 1) := by rw [em231, zUp_ne (by omega)]; exact km229_69_6
                                have km231_69_11 : m231 69 11 = (f146 + 1) := by rw [em231]; exact zUp_eq _ _ _ _
                                have fm231_74 : m231 74 = zPt f13 ((f146).toNat) r40 := by rw [em231, zUp_fn (by decide)]; exact fm229_74
                                clear em231
                                have z232 := zcd (zPt f13 ((f146).toNat) r40) ((f146 + 1)).toNat (f146).toNat
                                refine zw_push zr_161_447 ?_
                                refine zw_9 (L' := [(2, 69), (0, i5), (0, 1), (0, i7), (0, r40)]) zr_161_448 (Nat.le_of_ble_eq_true rfl) rfl ?_
                                refine zw_42 zr_161_449 ?_
                                refine zw_42 zr_161_485 ?_
                                exact zw_less (L := [(2, 69), (0, i5), (0, 1), (0, i7), (9, 0)]) ⟨Or.inr rfl, Or.inr rfl, Or.inr rfl, Or.inr rfl, Or.inl rfl, trivial⟩ (ihlp26_14 (i5) (1) (i7) ((f41 + 1)) (p10) (f147) ((f146 + 1)) (zPt f13 ((f146).toNat) r40) m231 hIm231 hFm231  km231_69_6 km231_69_7 km231_69_9 km231_69_11 fm231_74 (by omega) (by omega) (by omega) (by omega) (by omega) (by omega) (by omega) (by omega) (by omega) (by omega) (by omega) (by omega) (by omega) (by omega) (by omega) (by omega) (by omega) (by omega) (by omega))
                              · intro h233; omega
                      exfalso; omega
                  exfalso; omega
              by_cases h234 : r40 = 61
              · refine zw_112 (off := 87) (t := 88) zr_155_1 (by rw [h234]; rfl) rfl ?_
                refine zw_push zr_155_88 ?_
                refine zw_R zr_155_89 (by decide) zm_155 (v := (0, 3)) rfl ?_
                rw [← hQ1]
                show zW E (d) 161 324 [(2, 69), (0, i5), (0, i6), (0, i7), (0, r40)] [(0, 3)] m39 Q
                refine zw_40_5 zr_161_324 ?_ ?_
                · intro h235; omega
                · intro h236
                  refine zw_7 zr_161_327 rfl ?_
                  refine zw_4 zr_161_328 rfl ?_
                  refine zw_C zr_161_330 (Or.inr rfl) zm_155 rfl rfl ⟨Nat.le_of_ble_eq_true rfl, Nat.le_of_ble_eq_true rfl, Nat.le_of_ble_eq_true rfl, rfl, by decide⟩ (by omega) (P := (fun v m' => zW E (d) 161 333 [(2, 69), (0, i5), (0, i6), (0, i7), (0, r40)] (if v.1 = 9 then [(2, 69)] else v :: [(2, 69)]) m' Q)) ?_ (fun _ _ h => h)
                  generalize hQ1 : (fun v m' => zW E (d) 161 333 [(2, 69), (0, i5), (0, i6), (0, i7), (0, r40)] (if v.1 = 9 then [(2, 69)] else v :: [(2, 69)]) m' Q) = Q1
                  show zW E (d - 1) 155 0 [(0, r40)] [] m39 Q1
                  refine zw_3 zr_155_0 rfl ?_
                  by_cases h237 : r40 = 61
                  · refine zw_112 (off := 87) (t := 88) zr_155_1 (by rw [h237]; rfl) rfl ?_
                    refine zw_push zr_155_88 ?_
                    refine zw_R zr_155_89 (by decide) zm_155 (v := (0, 3)) rfl ?_
                    rw [← hQ1]
                    show zW E (d) 161 333 [(2, 69), (0, i5), (0, i6), (0, i7), (0, r40)] [(0, 3), (2, 69)] m39 Q
                    refine zw_push zr_161_333 ?_
                    refine zw_41_4 zr_161_334 ?_ ?_
                    · intro h238; omega
                    · intro h239
                      refine zw_push zr_161_337 ?_
                      refine zw_42 zr_161_338 ?_
                      refine zw_C zr_161_346 (Or.inl rfl) zm_157 rfl rfl ⟨Nat.le_of_ble_eq_true rfl, Nat.le_of_ble_eq_true rfl, Nat.le_of_ble_eq_true rfl, rfl, by decide⟩ (by omega) (th_157 (d := d - 1) (by omega) hIm39 (a0 := 4) (g0 := p12) (g1 := p11)  (F74 := f13) km39_69_11 km39_69_9 fm39_74 (by omega) (by omega)) ?_
                      rintro _ m240 ⟨rfl, hIm240, gm240, po0_m240, po1_m240, po2_m240, po3_m240⟩
                      have hFm240 : zFr W_161 m0 m240 := hFm39.trans gm240 rfl
                      have km240_69_7 : m240 69 7 = p10 := (gm240 69 7 rfl).trans km39_69_7
                      have km240_69_6 : m240 69 6 = f41 := (gm240 69 6 rfl).trans ef41
                      have fm240_74 : m240 74 = f13 := (funext fun k => gm240 74 k rfl).trans fm39_74
                      obtain ⟨f241, ef241⟩ : ∃ v, m240 69 11 = v := ⟨_, rfl⟩
                      have bf241 := ib_69_11 hIm240
                      rw [ef241] at bf241
                      rw [ef241] at po0_m240
                      rw [ef241] at po2_m240
                      rw [ef241] at po3_m240
                      obtain ⟨f242, ef242⟩ : ∃ v, m240 69 9 = v := ⟨_, rfl⟩
                      have bf242 := ib_69_9 hIm240
                      rw [ef242] at bf242
                      rw [ef242] at po1_m240
                      rw [ef242] at po2_m240
                      show zW E (d) 161 349 [(2, 69), (0, i5), (0, i6), (0, i7), (0, r40)] [] m240 Q
                      have z243 := cB_nn f13 (f241).toNat
                      refine zw_4 zr_161_349 rfl ?_
                      refine zw_C zr_161_351 (Or.inr rfl) zm_155 rfl rfl ⟨Nat.le_of_ble_eq_true rfl, Nat.le_of_ble_eq_true rfl, Nat.le_of_ble_eq_true rfl, rfl, by decide⟩ (by omega) (P := (fun v m' => zW E (d) 161 354 [(2, 69), (0, i5), (0, i6), (0, i7), (0, r40)] (if v.1 = 9 then [] else v :: []) m' Q)) ?_ (fun _ _ h => h)
                      generalize hQ1 : (fun v m' => zW E (d) 161 354 [(2, 69), (0, i5), (0, i6), (0, i7), (0, r40)] (if v.1 = 9 then [] else v :: []) m' Q) = Q1
                      show zW E (d - 1) 155 0 [(0, r40)] [] m240 Q1
                      refine zw_3 zr_155_0 rfl ?_
                      by_cases h244 : r40 = 61
                      · refine zw_112 (off := 87) (t := 88) zr_155_1 (by rw [h244]; rfl) rfl ?_
                        refine zw_push zr_155_88 ?_
                        refine zw_R zr_155_89 (by decide) zm_155 (v := (0, 3)) rfl ?_
                        rw [← hQ1]
                        show zW E (d) 161 354 [(2, 69), (0, i5), (0, i6), (0, i7), (0, r40)] [(0, 3)] m240 Q
                        refine zw_push zr_161_354 ?_
                        refine zw_41_4 zr_161_355 ?_ ?_
                        · intro h245; omega
                        · intro h246
                          refine zw_7 zr_161_358 rfl ?_
                          refine zw_46i zr_161_359 ef241 rfl rfl rfl ?_
                          refine zw_40_5 zr_161_362 ?_ ?_
                          · intro h247
                            refine zw_7 zr_161_416 rfl ?_
                            refine zw_43 zr_161_417 rfl ?_
                            refine zw_46i zr_161_418 km240_69_6 rfl rfl rfl ?_
                            refine zw_push zr_161_421 ?_
                            refine zw_16 zr_161_422 (by omega) ?_
                            refine zw_47 (c := 69) zr_161_423 rfl ⟨rfl, by decide, rfl⟩ ?_
                            intro m248 em248
                            have hIm248 : zInv m248 := by rw [em248]; exact hIm240.bd (r := 69) (k := 6) (lo := 0) (hi := 50) rfl (by omega) (by decide) (by decide) (by decide)
                            have hFm248 : zFr W_161 m0 m248 := by rw [em248]; exact hFm240.up rfl
                            have km248_69_7 : m248 69 7 = p10 := by rw [em248, zUp_ne (by omega)]; exact km240_69_7
                            have km248_69_11 : m248 69 11 = f241 := by rw [em248, zUp_ne (by omega)]; exact ef241
                            have km248_69_9 : m248 69 9 = f242 := by rw [em248, zUp_ne (by omega)]; exact ef242
                            have km248_69_6 : m248 69 6 = (f41 + 1) := by rw [em248]; exact zUp_eq _ _ _ _
                            have fm248_74 : m248 74 = f13 := by rw [em248, zUp_fn (by decide)]; exact fm240_74
                            clear em248
                            refine zw_7 zr_161_426 rfl ?_
                            refine zw_46r (s := 74) zr_161_427 rfl rfl rfl rfl ?_
                            refine zw_7 zr_161_430 rfl ?_
                            refine zw_46i zr_161_431 km248_69_11 rfl rfl rfl ?_
                            refine zw_4 zr_161_434 rfl ?_
                            refine zw_49 (c := 74) (len := 128) zr_161_436 rfl rfl (by omega) (by omega) ?_
                            intro m249 em249
                            have hIm249 : zInv m249 := by rw [em249]; exact iu_74 hIm248 (by omega)
                            have hFm249 : zFr W_161 m0 m249 := by rw [em249]; exact hFm248.any rfl
                            have km249_69_7 : m249 69 7 = p10 := by rw [em249, zUp_ne (by omega)]; exact km248_69_7
                            have km249_69_11 : m249 69 11 = f241 := by rw [em249, zUp_ne (by omega)]; exact km248_69_11
                            have km249_69_9 : m249 69 9 = f242 := by rw [em249, zUp_ne (by omega)]; exact km248_69_9
                            have km249_69_6 : m249 69 6 = (f41 + 1) := by rw [em249, zUp_ne (by omega)]; exact km248_69_6
                            have km249_74_0 : m249 74 0 = r40 := by rw [em249, show (f241 : Int).toNat = 0 by omega]; exact zUp_eq _ _ _ _
                            have fm249_74 : m249 74 = zPt f13 ((f241).toNat) r40 := by rw [em249, zUp_ff, fm248_74]
                            clear em249
                            have z250 := zcp f13 (f241).toNat (f241 + 1).toNat (r40) (by omega)
                            refine zw_7 zr_161_437 rfl ?_
                            refine zw_43 zr_161_438 rfl ?_
                            refine zw_46i zr_161_439 km249_69_11 rfl rfl rfl ?_
                            refine zw_push zr_161_442 ?_
                            refine zw_16 zr_161_443 (by omega) ?_
                            refine zw_47 (c := 69) zr_161_444 rfl ⟨rfl, by decide, rfl⟩ ?_
                            intro m251 em251
                            have hIm251 : zInv m251 := by rw [em251]; exact hIm249.bd (r := 69) (k := 11) (lo := 0) (hi := 128) rfl (by omega) (by decide) (by decide) (by decide)
                            have hFm251 : zFr W_161 m0 m251 := by rw [em251]; exact hFm249.up rfl
                            have km251_69_7 : m251 69 7 = p10 := by rw [em251, zUp_ne (by omega)]; exact km249_69_7
                            have km251_69_9 : m251 69 9 = f242 := by rw [em251, zUp_ne (by omega)]; exact km249_69_9
                            have km251_69_6 : m251 69 6 = (f41 + 1) := by rw [em251, zUp_ne (by omega)]; exact km249_69_6
                            have km251_74_0 : m251 74 0 = r40 := by rw [em251, zUp_ne (by omega)]; exact km249_74_0
                            have km251_69_11 : m251 69 11 = (f241 + 1) := by rw [em251]; exact zUp_eq _ _ _ _
                            have fm251_74 : m251 74 = zPt f13 ((f241).toNat) r40 := by rw [em251, zUp_fn (by decide)]; exact fm249_74
                            clear em251
                            have z252 := zcd (zPt f13 ((f241).toNat) r40) ((f241 + 1)).toNat (f241).toNat
                            refine zw_push zr_161_447 ?_
                            refine zw_9 (L' := [(2, 69), (0, i5), (0, 1), (0, i7), (0, r40)]) zr_161_448 (Nat.le_of_ble_eq_true rfl) rfl ?_
                            refine zw_42 zr_161_449 ?_
                            refine zw_42 zr_161_485 ?_
                            exact zw_less (L := [(2, 69), (0, i5), (0, 1), (0, i7), (9, 0)]) ⟨Or.inr rfl, Or.inr rfl, Or.inr rfl, Or.inr rfl, Or.inl rfl, trivial⟩ (ihlp26_14 (i5) (1) (i7) ((f41 + 1)) (p10) (f242) ((f241 + 1)) (zPt f13 ((f241).toNat) r40) m251 hIm251 hFm251  km251_69_6 km251_69_7 km251_69_9 km251_69_11 fm251_74 (by omega) (by omega) (by omega) (by omega) (by omega) (by omega) (by omega) (by omega) (by omega) (by omega) (by omega) (by omega) (by omega) (by omega) (by omega) (by omega) (by omega) (by omega) (by omega))
                          · intro h253
                            refine zw_7 zr_161_365 rfl ?_
                            refine zw_46r (s := 74) zr_161_366 rfl rfl rfl rfl ?_
                            refine zw_7 zr_161_369 rfl ?_
                            refine zw_46i zr_161_370 ef241 rfl rfl rfl ?_
                            refine zw_push zr_161_373 ?_
                            refine zw_17 zr_161_374 (by omega) ?_
                            refine zw_48 (c := 74) (len := 128) zr_161_375 rfl rfl (by omega) (by omega) ?_
                            intro x254 ex254
                            have bx254 := ib_74 hIm240 (k := ((f241 - 1)).toNat) (by omega)
                            rw [← ex254] at bx254
                            refine zw_push zr_161_376 ?_
                            refine zw_41_3 zr_161_379 ?_ ?_
                            · intro h255
                              refine zw_7 zr_161_416 rfl ?_
                              refine zw_43 zr_161_417 rfl ?_
                              refine zw_46i zr_161_418 km240_69_6 rfl rfl rfl ?_
                              refine zw_push zr_161_421 ?_
                              refine zw_16 zr_161_422 (by omega) ?_
                              refine zw_47 (c := 69) zr_161_423 rfl ⟨rfl, by decide, rfl⟩ ?_
                              intro m256 em256
                              have hIm256 : zInv m256 := by rw [em256]; exact hIm240.bd (r := 69) (k := 6) (lo := 0) (hi := 50) rfl (by omega) (by decide) (by decide) (by decide)
                              have hFm256 : zFr W_161 m0 m256 := by rw [em256]; exact hFm240.up rfl
                              have km256_69_7 : m256 69 7 = p10 := by rw [em256, zUp_ne (by omega)]; exact km240_69_7
                              have km256_69_11 : m256 69 11 = f241 := by rw [em256, zUp_ne (by omega)]; exact ef241
                              have km256_69_9 : m256 69 9 = f242 := by rw [em256, zUp_ne (by omega)]; exact ef242
                              have km256_69_6 : m256 69 6 = (f41 + 1) := by rw [em256]; exact zUp_eq _ _ _ _
                              have fm256_74 : m256 74 = f13 := by rw [em256, zUp_fn (by decide)]; exact fm240_74
                              clear em256
                              refine zw_7 zr_161_426 rfl ?_
                              refine zw_46r (s := 74) zr_161_427 rfl rfl rfl rfl ?_
                              refine zw_7 zr_161_430 rfl ?_
                              refine zw_46i zr_161_431 km256_69_11 rfl rfl rfl ?_
                              refine zw_4 zr_161_434 rfl ?_
                              refine zw_49 (c := 74) (len := 128) zr_161_436 rfl rfl (by omega) (by omega) ?_
                              intro m257 em257
                              have hIm257 : zInv m257 := by rw [em257]; exact iu_74 hIm256 (by omega)
                              have hFm257 : zFr W_161 m0 m257 := by rw [em257]; exact hFm256.any rfl
                              have km257_69_7 : m257 69 7 = p10 := by rw [em257, zUp_ne (by omega)]; exact km256_69_7
                              have km257_69_11 : m257 69 11 = f241 := by rw [em257, zUp_ne (by omega)]; exact km256_69_11
                              have km257_69_9 : m257 69 9 = f242 := by rw [em257, zUp_ne (by omega)]; exact km256_69_9
                              have km257_69_6 : m257 69 6 = (f41 + 1) := by rw [em257, zUp_ne (by omega)]; exact km256_69_6
                              have fm257_74 : m257 74 = zPt f13 ((f241).toNat) r40 := by rw [em257, zUp_ff, fm256_74]
                              clear em257
                              have z258 := zcp f13 (f241).toNat (f241 + 1).toNat (r40) (by omega)
                              refine zw_7 zr_161_437 rfl ?_
                              refine zw_43 zr_161_438 rfl ?_
                              refine zw_46i zr_161_439 km257_69_11 rfl rfl rfl ?_
                              refine zw_push zr_161_442 ?_
                              refine zw_16 zr_161_443 (by omega) ?_
                              refine zw_47 (c := 69) zr_161_444 rfl ⟨rfl, by decide, rfl⟩ ?_
                              intro m259 em259
                              have hIm259 : zInv m259 := by rw [em259]; exact hIm257.bd (r := 69) (k := 11) (lo := 0) (hi := 128) rfl (by omega) (by decide) (by decide) (by decide)
                              have hFm259 : zFr W_161 m0 m259 := by rw [em259]; exact hFm257.up rfl
                              have km259_69_7 : m259 69 7 = p10 := by rw [em259, zUp_ne (by omega)]; exact km257_69_7
                              have km259_69_9 : m259 69 9 = f242 := by rw [em259, zUp_ne (by omega)]; exact km257_69_9
                              have km259_69_6 : m259 69 6 = (f41 + 1) := by rw [em259, zUp_ne (by omega)]; exact km257_69_6
                              have km259_69_11 : m259 69 11 = (f241 + 1) := by rw [em259]; exact zUp_eq _ _ _ _
                              have fm259_74 : m259 74 = zPt f13 ((f241).toNat) r40 := by rw [em259, zUp_fn (by decide)]; exact fm257_74
                              clear em259
                              have z260 := zcd (zPt f13 ((f241).toNat) r40) ((f241 + 1)).toNat (f241).toNat
                              refine zw_push zr_161_447 ?_
                              refine zw_9 (L' := [(2, 69), (0, i5), (0, 1), (0, i7), (0, r40)]) zr_161_448 (Nat.le_of_ble_eq_true rfl) rfl ?_
                              refine zw_42 zr_161_449 ?_
                              refine zw_42 zr_161_485 ?_
                              exact zw_less (L := [(2, 69), (0, i5), (0, 1), (0, i7), (9, 0)]) ⟨Or.inr rfl, Or.inr rfl, Or.inr rfl, Or.inr rfl, Or.inl rfl, trivial⟩ (ihlp26_14 (i5) (1) (i7) ((f41 + 1)) (p10) (f242) ((f241 + 1)) (zPt f13 ((f241).toNat) r40) m259 hIm259 hFm259  km259_69_6 km259_69_7 km259_69_9 km259_69_11 fm259_74 (by omega) (by omega) (by omega) (by omega) (by omega) (by omega) (by omega) (by omega) (by omega) (by omega) (by omega) (by omega) (by omega) (by omega) (by omega) (by omega) (by omega) (by omega) (by omega))
                            · intro h261
                              refine zw_7 zr_161_382 rfl ?_
                              refine zw_46r (s := 74) zr_161_383 rfl rfl rfl rfl ?_
                              refine zw_7 zr_161_386 rfl ?_
                              refine zw_46i zr_161_387 ef241 rfl rfl rfl ?_
                              refine zw_push zr_161_390 ?_
                              refine zw_17 zr_161_391 (by omega) ?_
                              refine zw_48k (c := 74) (len := 128) zr_161_392 rfl rfl (by omega) (by omega) rfl ex254.symm ?_
                              refine zw_C zr_161_393 (Or.inr rfl) zm_155 rfl rfl ⟨Nat.le_of_ble_eq_true rfl, Nat.le_of_ble_eq_true rfl, Nat.le_of_ble_eq_true rfl, rfl, by decide⟩ (by omega) (P := (fun v m' => zW E (d) 161 396 [(2, 69), (0, i5), (0, i6), (0, i7), (0, r40)] (if v.1 = 9 then [] else v :: []) m' Q)) ?_ (fun _ _ h => h)
                              generalize hQ1 : (fun v m' => zW E (d) 161 396 [(2, 69), (0, i5), (0, i6), (0, i7), (0, r40)] (if v.1 = 9 then [] else v :: []) m' Q) = Q1
                              show zW E (d - 1) 155 0 [(0, x254)] [] m240 Q1
                              refine zw_3 zr_155_0 rfl ?_
                              by_cases h262 : x254 = 38
                              · refine zw_112 (off := 85) (t := 86) zr_155_1 (by rw [h262]; rfl) rfl ?_
                                refine zw_push zr_155_86 ?_
                                refine zw_R zr_155_87 (by decide) zm_155 (v := (0, 2)) rfl ?_
                                rw [← hQ1]
                                show zW E (d) 161 396 [(2, 69), (0, i5), (0, i6), (0, i7), (0, r40)] [(0, 2)] m240 Q
                                refine zw_push zr_161_396 ?_
                                refine zw_41_4 zr_161_397 ?_ ?_
                                · intro h263
                                  refine zw_7 zr_161_416 rfl ?_
                                  refine zw_43 zr_161_417 rfl ?_
                                  refine zw_46i zr_161_418 km240_69_6 rfl rfl rfl ?_
                                  refine zw_push zr_161_421 ?_
                                  refine zw_16 zr_161_422 (by omega) ?_
                                  refine zw_47 (c := 69) zr_161_423 rfl ⟨rfl, by decide, rfl⟩ ?_
                                  intro m264 em264
                                  have hIm264 : zInv m264 := by rw [em264]; exact hIm240.bd (r := 69) (k := 6) (lo := 0) (hi := 50) rfl (by omega) (by decide) (by decide) (by decide)
                                  have hFm264 : zFr W_161 m0 m264 := by rw [em264]; exact hFm240.up rfl
                                  have km264_69_7 : m264 69 7 = p10 := by rw [em264, zUp_ne (by omega)]; exact km240_69_7
                                  have km264_69_11 : m264 69 11 = f241 := by rw [em264, zUp_ne (by omega)]; exact ef241
                                  have km264_69_9 : m264 69 9 = f242 := by rw [em264, zUp_ne (by omega)]; exact ef242
                                  have km264_69_6 : m264 69 6 = (f41 + 1) := by rw [em264]; exact zUp_eq _ _ _ _
                                  have fm264_74 : m264 74 = f13 := by rw [em264, zUp_fn (by decide)]; exact fm240_74
                                  clear em264
                                  refine zw_7 zr_161_426 rfl ?_
                                  refine zw_46r (s := 74) zr_161_427 rfl rfl rfl rfl ?_
                                  refine zw_7 zr_161_430 rfl ?_
                                  refine zw_46i zr_161_431 km264_69_11 rfl rfl rfl ?_
                                  refine zw_4 zr_161_434 rfl ?_
                                  refine zw_49 (c := 74) (len := 128) zr_161_436 rfl rfl (by omega) (by omega) ?_
                                  intro m265 em265
                                  have hIm265 : zInv m265 := by rw [em265]; exact iu_74 hIm264 (by omega)
                                  have hFm265 : zFr W_161 m0 m265 := by rw [em265]; exact hFm264.any rfl
                                  have km265_69_7 : m265 69 7 = p10 := by rw [em265, zUp_ne (by omega)]; exact km264_69_7
                                  have km265_69_11 : m265 69 11 = f241 := by rw [em265, zUp_ne (by omega)]; exact km264_69_11
                                  have km265_69_9 : m265 69 9 = f242 := by rw [em265, zUp_ne (by omega)]; exact km264_69_9
                                  have km265_69_6 : m265 69 6 = (f41 + 1) := by rw [em265, zUp_ne (by omega)]; exact km264_69_6
                                  have fm265_74 : m265 74 = zPt f13 ((f241).toNat) r40 := by rw [em265, zUp_ff, fm264_74]
                                  clear em265
                                  have z266 := zcp f13 (f241).toNat (f241 + 1).toNat (r40) (by omega)
                                  refine zw_7 zr_161_437 rfl ?_
                                  refine zw_43 zr_161_438 rfl ?_
                                  refine zw_46i zr_161_439 km265_69_11 rfl rfl rfl ?_
                                  refine zw_push zr_161_442 ?_
                                  refine zw_16 zr_161_443 (by omega) ?_
                                  refine zw_47 (c := 69) zr_161_444 rfl ⟨rfl, by decide, rfl⟩ ?_
                                  intro m267 em267
                                  have hIm267 : zInv m267 := by rw [em267]; exact hIm265.bd (r := 69) (k := 11) (lo := 0) (hi := 128) rfl (by omega) (by decide) (by decide) (by decide)
                                  have hFm267 : zFr W_161 m0 m267 := by rw [em267]; exact hFm265.up rfl
                                  have km267_69_7 : m267 69 7 = p10 := by rw [em267, zUp_ne (by omega)]; exact km265_69_7
                                  have km267_69_9 : m267 69 9 = f242 := by rw [em267, zUp_ne (by omega)]; exact km265_69_9
                                  have km267_69_6 : m267 69 6 = (f41 + 1) := by rw [em267, zUp_ne (by omega)]; exact km265_69_6
                                  have km267_69_11 : m267 69 11 = (f241 + 1) := by rw [em267]; exact zUp_eq _ _ _ _
                                  have fm267_74 : m267 74 = zPt f13 ((f241).toNat) r40 := by rw [em267, zUp_fn (by decide)]; exact fm265_74
                                  clear em267
                                  have z268 := zcd (zPt f13 ((f241).toNat) r40) ((f241 + 1)).toNat (f241).toNat
                                  refine zw_push zr_161_447 ?_
                                  refine zw_9 (L' := [(2, 69), (0, i5), (0, 1), (0, i7), (0, r40)]) zr_161_448 (Nat.le_of_ble_eq_true rfl) rfl ?_
                                  refine zw_42 zr_161_449 ?_
                                  refine zw_42 zr_161_485 ?_
                                  exact zw_less (L := [(2, 69), (0, i5), (0, 1), (0, i7), (9, 0)]) ⟨Or.inr rfl, Or.inr rfl, Or.inr rfl, Or.inr rfl, Or.inl rfl, trivial⟩ (ihlp26_14 (i5) (1) (i7) ((f41 + 1)) (p10) (f242) ((f241 + 1)) (zPt f13 ((f241).toNat) r40) m267 hIm267 hFm267  km267_69_6 km267_69_7 km267_69_9 km267_69_11 fm267_74 (by omega) (by omega) (by omega) (by omega) (by omega) (by omega) (by omega) (by omega) (by omega) (by omega) (by omega) (by omega) (by omega) (by omega) (by omega) (by omega) (by omega) (by omega) (by omega))
                                · intro h269; omega
                              by_cases h270 : x254 = 42
                              · refine zw_112 (off := 91) (t := 92) zr_155_1 (by rw [h270]; rfl) rfl ?_
                                refine zw_push zr_155_92 ?_
                                refine zw_R zr_155_93 (by decide) zm_155 (v := (0, 5)) rfl ?_
                                rw [← hQ1]
                                show zW E (d) 161 396 [(2, 69), (0, i5), (0, i6), (0, i7), (0, r40)] [(0, 5)] m240 Q
                                refine zw_push zr_161_396 ?_
                                refine zw_41_4 zr_161_397 ?_ ?_
                                · intro h271
                                  refine zw_7 zr_161_416 rfl ?_
                                  refine zw_43 zr_161_417 rfl ?_
                                  refine zw_46i zr_161_418 km240_69_6 rfl rfl rfl ?_
                                  refine zw_push zr_161_421 ?_
                                  refine zw_16 zr_161_422 (by omega) ?_
                                  refine zw_47 (c := 69) zr_161_423 rfl ⟨rfl, by decide, rfl⟩ ?_
                                  intro m272 em272
                                  have hIm272 : zInv m272 := by rw [em272]; exact hIm240.bd (r := 69) (k := 6) (lo := 0) (hi := 50) rfl (by omega) (by decide) (by decide) (by decide)
                                  have hFm272 : zFr W_161 m0 m272 := by rw [em272]; exact hFm240.up rfl
                                  have km272_69_7 : m272 69 7 = p10 := by rw [em272, zUp_ne (by omega)]; exact km240_69_7
                                  have km272_69_11 : m272 69 11 = f241 := by rw [em272, zUp_ne (by omega)]; exact ef241
                                  have km272_69_9 : m272 69 9 = f242 := by rw [em272, zUp_ne (by omega)]; exact ef242
                                  have km272_69_6 : m272 69 6 = (f41 + 1) := by rw [em272]; exact zUp_eq _ _ _ _
                                  have fm272_74 : m272 74 = f13 := by rw [em272, zUp_fn (by decide)]; exact fm240_74
                                  clear em272
                                  refine zw_7 zr_161_426 rfl ?_
                                  refine zw_46r (s := 74) zr_161_427 rfl rfl rfl rfl ?_
                                  refine zw_7 zr_161_430 rfl ?_
                                  refine zw_46i zr_161_431 km272_69_11 rfl rfl rfl ?_
                                  refine zw_4 zr_161_434 rfl ?_
                                  refine zw_49 (c := 74) (len := 128) zr_161_436 rfl rfl (by omega) (by omega) ?_
                                  intro m273 em273
                                  have hIm273 : zInv m273 := by rw [em273]; exact iu_74 hIm272 (by omega)
                                  have hFm273 : zFr W_161 m0 m273 := by rw [em273]; exact hFm272.any rfl
                                  have km273_69_7 : m273 69 7 = p10 := by rw [em273, zUp_ne (by omega)]; exact km272_69_7
                                  have km273_69_11 : m273 69 11 = f241 := by rw [em273, zUp_ne (by omega)]; exact km272_69_11
                                  have km273_69_9 : m273 69 9 = f242 := by rw [em273, zUp_ne (by omega)]; exact km272_69_9
                                  have km273_69_6 : m273 69 6 = (f41 + 1) := by rw [em273, zUp_ne (by omega)]; exact km272_69_6
                                  have fm273_74 : m273 74 = zPt f13 ((f241).toNat) r40 := by rw [em273, zUp_ff, fm272_74]
                                  clear em273
                                  have z274 := zcp f13 (f241).toNat (f241 + 1).toNat (r40) (by omega)
                                  refine zw_7 zr_161_437 rfl ?_
                                  refine zw_43 zr_161_438 rfl ?_
                                  refine zw_46i zr_161_439 km273_69_11 rfl rfl rfl ?_
                                  refine zw_push zr_161_442 ?_
                                  refine zw_16 zr_161_443 (by omega) ?_
                                  refine zw_47 (c := 69) zr_161_444 rfl ⟨rfl, by decide, rfl⟩ ?_
                                  intro m275 em275
                                  have hIm275 : zInv m275 := by rw [em275]; exact hIm273.bd (r := 69) (k := 11) (lo := 0) (hi := 128) rfl (by omega) (by decide) (by decide) (by decide)
                                  have hFm275 : zFr W_161 m0 m275 := by rw [em275]; exact hFm273.up rfl
                                  have km275_69_7 : m275 69 7 = p10 := by rw [em275, zUp_ne (by omega)]; exact km273_69_7
                                  have km275_69_9 : m275 69 9 = f242 := by rw [em275, zUp_ne (by omega)]; exact km273_69_9
                                  have km275_69_6 : m275 69 6 = (f41 + 1) := by rw [em275, zUp_ne (by omega)]; exact km273_69_6
                                  have km275_69_11 : m275 69 11 = (f241 + 1) := by rw [em275]; exact zUp_eq _ _ _ _
                                  have fm275_74 : m275 74 = zPt f13 ((f241).toNat) r40 := by rw [em275, zUp_fn (by decide)]; exact fm273_74
                                  clear em275
                                  have z276 := zcd (zPt f13 ((f241).toNat) r40) ((f241 + 1)).toNat (f241).toNat
                                  refine zw_push zr_161_447 ?_
                                  refine zw_9 (L' := [(2, 69), (0, i5), (0, 1), (0, i7), (0, r40)]) zr_161_448 (Nat.le_of_ble_eq_true rfl) rfl ?_
                                  refine zw_42 zr_161_449 ?_
                                  refine zw_42 zr_161_485 ?_
                                  exact zw_less (L := [(2, 69), (0, i5), (0, 1), (0, i7), (9, 0)]) ⟨Or.inr rfl, Or.inr rfl, Or.inr rfl, Or.inr rfl, Or.inl rfl, trivial⟩ (ihlp26_14 (i5) (1) (i7) ((f41 + 1)) (p10) (f242) ((f241 + 1)) (zPt f13 ((f241).toNat) r40) m275 hIm275 hFm275  km275_69_6 km275_69_7 km275_69_9 km275_69_11 fm275_74 (by omega) (by omega) (by omega) (by omega) (by omega) (by omega) (by omega) (by omega) (by omega) (by omega) (by omega) (by omega) (by omega) (by omega) (by omega) (by omega) (by omega) (by omega) (by omega))
                                · intro h277; omega
                              by_cases h278 : x254 = 43
                              · refine zw_112 (off := 89) (t := 90) zr_155_1 (by rw [h278]; rfl) rfl ?_
                                refine zw_push zr_155_90 ?_
                                refine zw_R zr_155_91 (by decide) zm_155 (v := (0, 4)) rfl ?_
                                rw [← hQ1]
                                show zW E (d) 161 396 [(2, 69), (0, i5), (0, i6), (0, i7), (0, r40)] [(0, 4)] m240 Q
                                refine zw_push zr_161_396 ?_
                                refine zw_41_4 zr_161_397 ?_ ?_
                                · intro h279
                                  refine zw_7 zr_161_416 rfl ?_
                                  refine zw_43 zr_161_417 rfl ?_
                                  refine zw_46i zr_161_418 km240_69_6 rfl rfl rfl ?_
                                  refine zw_push zr_161_421 ?_
                                  refine zw_16 zr_161_422 (by omega) ?_
                                  refine zw_47 (c := 69) zr_161_423 rfl ⟨rfl, by decide, rfl⟩ ?_
                                  intro m280 em280
                                  have hIm280 : zInv m280 := by rw [em280]; exact hIm240.bd (r := 69) (k := 6) (lo := 0) (hi := 50) rfl (by omega) (by decide) (by decide) (by decide)
                                  have hFm280 : zFr W_161 m0 m280 := by rw [em280]; exact hFm240.up rfl
                                  have km280_69_7 : m280 69 7 = p10 := by rw [em280, zUp_ne (by omega)]; exact km240_69_7
                                  have km280_69_11 : m280 69 11 = f241 := by rw [em280, zUp_ne (by omega)]; exact ef241
                                  have km280_69_9 : m280 69 9 = f242 := by rw [em280, zUp_ne (by omega)]; exact ef242
                                  have km280_69_6 : m280 69 6 = (f41 + 1) := by rw [em280]; exact zUp_eq _ _ _ _
                                  have fm280_74 : m280 74 = f13 := by rw [em280, zUp_fn (by decide)]; exact fm240_74
                                  clear em280
                                  refine zw_7 zr_161_426 rfl ?_
                                  refine zw_46r (s := 74) zr_161_427 rfl rfl rfl rfl ?_
                                  refine zw_7 zr_161_430 rfl ?_
                                  refine zw_46i zr_161_431 km280_69_11 rfl rfl rfl ?_
                                  refine zw_4 zr_161_434 rfl ?_
                                  refine zw_49 (c := 74) (len := 128) zr_161_436 rfl rfl (by omega) (by omega) ?_
                                  intro m281 em281
                                  have hIm281 : zInv m281 := by rw [em281]; exact iu_74 hIm280 (by omega)
                                  have hFm281 : zFr W_161 m0 m281 := by rw [em281]; exact hFm280.any rfl
                                  have km281_69_7 : m281 69 7 = p10 := by rw [em281, zUp_ne (by omega)]; exact km280_69_7
                                  have km281_69_11 : m281 69 11 = f241 := by rw [em281, zUp_ne (by omega)]; exact km280_69_11
                                  have km281_69_9 : m281 69 9 = f242 := by rw [em281, zUp_ne (by omega)]; exact km280_69_9
                                  have km281_69_6 : m281 69 6 = (f41 + 1) := by rw [em281, zUp_ne (by omega)]; exact km280_69_6
                                  have fm281_74 : m281 74 = zPt f13 ((f241).toNat) r40 := by rw [em281, zUp_ff, fm280_74]
                                  clear em281
                                  have z282 := zcp f13 (f241).toNat (f241 + 1).toNat (r40) (by omega)
                                  refine zw_7 zr_161_437 rfl ?_
                                  refine zw_43 zr_161_438 rfl ?_
                                  refine zw_46i zr_161_439 km281_69_11 rfl rfl rfl ?_
                                  refine zw_push zr_161_442 ?_
                                  refine zw_16 zr_161_443 (by omega) ?_
                                  refine zw_47 (c := 69) zr_161_444 rfl ⟨rfl, by decide, rfl⟩ ?_
                                  intro m283 em283
                                  have hIm283 : zInv m283 := by rw [em283]; exact hIm281.bd (r := 69) (k := 11) (lo := 0) (hi := 128) rfl (by omega) (by decide) (by decide) (by decide)
                                  have hFm283 : zFr W_161 m0 m283 := by rw [em283]; exact hFm281.up rfl
                                  have km283_69_7 : m283 69 7 = p10 := by rw [em283, zUp_ne (by omega)]; exact km281_69_7
                                  have km283_69_9 : m283 69 9 = f242 := by rw [em283, zUp_ne (by omega)]; exact km281_69_9
                                  have km283_69_6 : m283 69 6 = (f41 + 1) := by rw [em283, zUp_ne (by omega)]; exact km281_69_6
                                  have km283_69_11 : m283 69 11 = (f241 + 1) := by rw [em283]; exact zUp_eq _ _ _ _
                                  have fm283_74 : m283 74 = zPt f13 ((f241).toNat) r40 := by rw [em283, zUp_fn (by decide)]; exact fm281_74
                                  clear em283
                                  have z284 := zcd (zPt f13 ((f241).toNat) r40) ((f241 + 1)).toNat (f241).toNat
                                  refine zw_push zr_161_447 ?_
                                  refine zw_9 (L' := [(2, 69), (0, i5), (0, 1), (0, i7), (0, r40)]) zr_161_448 (Nat.le_of_ble_eq_true rfl) rfl ?_
                                  refine zw_42 zr_161_449 ?_
                                  refine zw_42 zr_161_485 ?_
                                  exact zw_less (L := [(2, 69), (0, i5), (0, 1), (0, i7), (9, 0)]) ⟨Or.inr rfl, Or.inr rfl, Or.inr rfl, Or.inr rfl, Or.inl rfl, trivial⟩ (ihlp26_14 (i5) (1) (i7) ((f41 + 1)) (p10) (f242) ((f241 + 1)) (zPt f13 ((f241).toNat) r40) m283 hIm283 hFm283  km283_69_6 km283_69_7 km283_69_9 km283_69_11 fm283_74 (by omega) (by omega) (by omega) (by omega) (by omega) (by omega) (by omega) (by omega) (by omega) (by omega) (by omega) (by omega) (by omega) (by omega) (by omega) (by omega) (by omega) (by omega) (by omega))
                                · intro h285; omega
                              by_cases h286 : x254 = 45
                              · refine zw_112 (off := 89) (t := 90) zr_155_1 (by rw [h286]; rfl) rfl ?_
                                refine zw_push zr_155_90 ?_
                                refine zw_R zr_155_91 (by decide) zm_155 (v := (0, 4)) rfl ?_
                                rw [← hQ1]
                                show zW E (d) 161 396 [(2, 69), (0, i5), (0, i6), (0, i7), (0, r40)] [(0, 4)] m240 Q
                                refine zw_push zr_161_396 ?_
                                refine zw_41_4 zr_161_397 ?_ ?_
                                · intro h287
                                  refine zw_7 zr_161_416 rfl ?_
                                  refine zw_43 zr_161_417 rfl ?_
                                  refine zw_46i zr_161_418 km240_69_6 rfl rfl rfl ?_
                                  refine zw_push zr_161_421 ?_
                                  refine zw_16 zr_161_422 (by omega) ?_
                                  refine zw_47 (c := 69) zr_161_423 rfl ⟨rfl, by decide, rfl⟩ ?_
                                  intro m288 em288
                                  have hIm288 : zInv m288 := by rw [em288]; exact hIm240.bd (r := 69) (k := 6) (lo := 0) (hi := 50) rfl (by omega) (by decide) (by decide) (by decide)
                                  have hFm288 : zFr W_161 m0 m288 := by rw [em288]; exact hFm240.up rfl
                                  have km288_69_7 : m288 69 7 = p10 := by rw [em288, zUp_ne (by omega)]; exact km240_69_7
                                  have km288_69_11 : m288 69 11 = f241 := by rw [em288, zUp_ne (by omega)]; exact ef241
                                  have km288_69_9 : m288 69 9 = f242 := by rw [em288, zUp_ne (by omega)]; exact ef242
                                  have km288_69_6 : m288 69 6 = (f41 + 1) := by rw [em288]; exact zUp_eq _ _ _ _
                                  have fm288_74 : m288 74 = f13 := by rw [em288, zUp_fn (by decide)]; exact fm240_74
                                  clear em288
                                  refine zw_7 zr_161_426 rfl ?_
                                  refine zw_46r (s := 74) zr_161_427 rfl rfl rfl rfl ?_
                                  refine zw_7 zr_161_430 rfl ?_
                                  refine zw_46i zr_161_431 km288_69_11 rfl rfl rfl ?_
                                  refine zw_4 zr_161_434 rfl ?_
                                  refine zw_49 (c := 74) (len := 128) zr_161_436 rfl rfl (by omega) (by omega) ?_
                                  intro m289 em289
                                  have hIm289 : zInv m289 := by rw [em289]; exact iu_74 hIm288 (by omega)
                                  have hFm289 : zFr W_161 m0 m289 := by rw [em289]; exact hFm288.any rfl
                                  have km289_69_7 : m289 69 7 = p10 := by rw [em289, zUp_ne (by omega)]; exact km288_69_7
                                  have km289_69_11 : m289 69 11 = f241 := by rw [em289, zUp_ne (by omega)]; exact km288_69_11
                                  have km289_69_9 : m289 69 9 = f242 := by rw [em289, zUp_ne (by omega)]; exact km288_69_9
                                  have km289_69_6 : m289 69 6 = (f41 + 1) := by rw [em289, zUp_ne (by omega)]; exact km288_69_6
                                  have fm289_74 : m289 74 = zPt f13 ((f241).toNat) r40 := by rw [em289, zUp_ff, fm288_74]
                                  clear em289
                                  have z290 := zcp f13 (f241).toNat (f241 + 1).toNat (r40) (by omega)
                                  refine zw_7 zr_161_437 rfl ?_
                                  refine zw_43 zr_161_438 rfl ?_
                                  refine zw_46i zr_161_439 km289_69_11 rfl rfl rfl ?_
                                  refine zw_push zr_161_442 ?_
                                  refine zw_16 zr_161_443 (by omega) ?_
                                  refine zw_47 (c := 69) zr_161_444 rfl ⟨rfl, by decide, rfl⟩ ?_
                                  intro m291 em291
                                  have hIm291 : zInv m291 := by rw [em291]; exact hIm289.bd (r := 69) (k := 11) (lo := 0) (hi := 128) rfl (by omega) (by decide) (by decide) (by decide)
                                  have hFm291 : zFr W_161 m0 m291 := by rw [em291]; exact hFm289.up rfl
                                  have km291_69_7 : m291 69 7 = p10 := by rw [em291, zUp_ne (by omega)]; exact km289_69_7
                                  have km291_69_9 : m291 69 9 = f242 := by rw [em291, zUp_ne (by omega)]; exact km289_69_9
                                  have km291_69_6 : m291 69 6 = (f41 + 1) := by rw [em291, zUp_ne (by omega)]; exact km289_69_6
                                  have km291_69_11 : m291 69 11 = (f241 + 1) := by rw [em291]; exact zUp_eq _ _ _ _
                                  have fm291_74 : m291 74 = zPt f13 ((f241).toNat) r40 := by rw [em291, zUp_fn (by decide)]; exact fm289_74
                                  clear em291
                                  have z292 := zcd (zPt f13 ((f241).toNat) r40) ((f241 + 1)).toNat (f241).toNat
                                  refine zw_push zr_161_447 ?_
                                  refine zw_9 (L' := [(2, 69), (0, i5), (0, 1), (0, i7), (0, r40)]) zr_161_448 (Nat.le_of_ble_eq_true rfl) rfl ?_
                                  refine zw_42 zr_161_449 ?_
                                  refine zw_42 zr_161_485 ?_
                                  exact zw_less (L := [(2, 69), (0, i5), (0, 1), (0, i7), (9, 0)]) ⟨Or.inr rfl, Or.inr rfl, Or.inr rfl, Or.inr rfl, Or.inl rfl, trivial⟩ (ihlp26_14 (i5) (1) (i7) ((f41 + 1)) (p10) (f242) ((f241 + 1)) (zPt f13 ((f241).toNat) r40) m291 hIm291 hFm291  km291_69_6 km291_69_7 km291_69_9 km291_69_11 fm291_74 (by omega) (by omega) (by omega) (by omega) (by omega) (by omega) (by omega) (by omega) (by omega) (by omega) (by omega) (by omega) (by omega) (by omega) (by omega) (by omega) (by omega) (by omega) (by omega))
                                · intro h293; omega
                              by_cases h294 : x254 = 47
                              · refine zw_112 (off := 91) (t := 92) zr_155_1 (by rw [h294]; rfl) rfl ?_
                                refine zw_push zr_155_92 ?_
                                refine zw_R zr_155_93 (by decide) zm_155 (v := (0, 5)) rfl ?_
                                rw [← hQ1]
                                show zW E (d) 161 396 [(2, 69), (0, i5), (0, i6), (0, i7), (0, r40)] [(0, 5)] m240 Q
                                refine zw_push zr_161_396 ?_
                                refine zw_41_4 zr_161_397 ?_ ?_
                                · intro h295
                                  refine zw_7 zr_161_416 rfl ?_
                                  refine zw_43 zr_161_417 rfl ?_
                                  refine zw_46i zr_161_418 km240_69_6 rfl rfl rfl ?_
                                  refine zw_push zr_161_421 ?_
                                  refine zw_16 zr_161_422 (by omega) ?_
                                  refine zw_47 (c := 69) zr_161_423 rfl ⟨rfl, by decide, rfl⟩ ?_
                                  intro m296 em296
                                  have hIm296 : zInv m296 := by rw [em296]; exact hIm240.bd (r := 69) (k := 6) (lo := 0) (hi := 50) rfl (by omega) (by decide) (by decide) (by decide)
                                  have hFm296 : zFr W_161 m0 m296 := by rw [em296]; exact hFm240.up rfl
                                  have km296_69_7 : m296 69 7 = p10 := by rw [em296, zUp_ne (by omega)]; exact km240_69_7
                                  have km296_69_11 : m296 69 11 = f241 := by rw [em296, zUp_ne (by omega)]; exact ef241
                                  have km296_69_9 : m296 69 9 = f242 := by rw [em296, zUp_ne (by omega)]; exact ef242
                                  have km296_69_6 : m296 69 6 = (f41 + 1) := by rw [em296]; exact zUp_eq _ _ _ _
                                  have fm296_74 : m296 74 = f13 := by rw [em296, zUp_fn (by decide)]; exact fm240_74
                                  clear em296
                                  refine zw_7 zr_161_426 rfl ?_
                                  refine zw_46r (s := 74) zr_161_427 rfl rfl rfl rfl ?_
                                  refine zw_7 zr_161_430 rfl ?_
                                  refine zw_46i zr_161_431 km296_69_11 rfl rfl rfl ?_
                                  refine zw_4 zr_161_434 rfl ?_
                                  refine zw_49 (c := 74) (len := 128) zr_161_436 rfl rfl (by omega) (by omega) ?_
                                  intro m297 em297
                                  have hIm297 : zInv m297 := by rw [em297]; exact iu_74 hIm296 (by omega)
                                  have hFm297 : zFr W_161 m0 m297 := by rw [em297]; exact hFm296.any rfl
                                  have km297_69_7 : m297 69 7 = p10 := by rw [em297, zUp_ne (by omega)]; exact km296_69_7
                                  have km297_69_11 : m297 69 11 = f241 := by rw [em297, zUp_ne (by omega)]; exact km296_69_11
                                  have km297_69_9 : m297 69 9 = f242 := by rw [em297, zUp_ne (by omega)]; exact km296_69_9
                                  have km297_69_6 : m297 69 6 = (f41 + 1) := by rw [em297, zUp_ne (by omega)]; exact km296_69_6
                                  have fm297_74 : m297 74 = zPt f13 ((f241).toNat) r40 := by rw [em297, zUp_ff, fm296_74]
                                  clear em297
                                  have z298 := zcp f13 (f241).toNat (f241 + 1).toNat (r40) (by omega)
                                  refine zw_7 zr_161_437 rfl ?_
                                  refine zw_43 zr_161_438 rfl ?_
                                  refine zw_46i zr_161_439 km297_69_11 rfl rfl rfl ?_
                                  refine zw_push zr_161_442 ?_
                                  refine zw_16 zr_161_443 (by omega) ?_
                                  refine zw_47 (c := 69) zr_161_444 rfl ⟨rfl, by decide, rfl⟩ ?_
                                  intro m299 em299
                                  have hIm299 : zInv m299 := by rw [em299]; exact hIm297.bd (r := 69) (k := 11) (lo := 0) (hi := 128) rfl (by omega) (by decide) (by decide) (by decide)
                                  have hFm299 : zFr W_161 m0 m299 := by rw [em299]; exact hFm297.up rfl
                                  have km299_69_7 : m299 69 7 = p10 := by rw [em299, zUp_ne (by omega)]; exact km297_69_7
                                  have km299_69_9 : m299 69 9 = f242 := by rw [em299, zUp_ne (by omega)]; exact km297_69_9
                                  have km299_69_6 : m299 69 6 = (f41 + 1) := by rw [em299, zUp_ne (by omega)]; exact km297_69_6
                                  have km299_69_11 : m299 69 11 = (f241 + 1) := by rw [em299]; exact zUp_eq _ _ _ _
                                  have fm299_74 : m299 74 = zPt f13 ((f241).toNat) r40 := by rw [em299, zUp_fn (by decide)]; exact fm297_74
                                  clear em299
                                  have z300 := zcd (zPt f13 ((f241).toNat) r40) ((f241 + 1)).toNat (f241).toNat
                                  refine zw_push zr_161_447 ?_
                                  refine zw_9 (L' := [(2, 69), (0, i5), (0, 1), (0, i7), (0, r40)]) zr_161_448 (Nat.le_of_ble_eq_true rfl) rfl ?_
                                  refine zw_42 zr_161_449 ?_
                                  refine zw_42 zr_161_485 ?_
                                  exact zw_less (L := [(2, 69), (0, i5), (0, 1), (0, i7), (9, 0)]) ⟨Or.inr rfl, Or.inr rfl, Or.inr rfl, Or.inr rfl, Or.inl rfl, trivial⟩ (ihlp26_14 (i5) (1) (i7) ((f41 + 1)) (p10) (f242) ((f241 + 1)) (zPt f13 ((f241).toNat) r40) m299 hIm299 hFm299  km299_69_6 km299_69_7 km299_69_9 km299_69_11 fm299_74 (by omega) (by omega) (by omega) (by omega) (by omega) (by omega) (by omega) (by omega) (by omega) (by omega) (by omega) (by omega) (by omega) (by omega) (by omega) (by omega) (by omega) (by omega) (by omega))
                                · intro h301; omega
                              by_cases h302 : x254 = 60
                              · refine zw_112 (off := 87) (t := 88) zr_155_1 (by rw [h302]; rfl) rfl ?_
                                refine zw_push zr_155_88 ?_
                                refine zw_R zr_155_89 (by decide) zm_155 (v := (0, 3)) rfl ?_
                                rw [← hQ1]
                                show zW E (d) 161 396 [(2, 69), (0, i5), (0, i6), (0, i7), (0, r40)] [(0, 3)] m240 Q
                                refine zw_push zr_161_396 ?_
                                refine zw_41_4 zr_161_397 ?_ ?_
                                · intro h303; omega
                                · intro h304
                                  refine zw_7 zr_161_400 rfl ?_
                                  refine zw_push zr_161_401 ?_
                                  refine zw_7 zr_161_403 rfl ?_
                                  refine zw_46i zr_161_404 km240_69_6 rfl rfl rfl ?_
                                  refine zw_18 zr_161_407 (by omega) ?_
                                  refine zw_push zr_161_408 ?_
                                  refine zw_16 zr_161_409 (by omega) ?_
                                  refine zw_47 (c := 69) zr_161_410 rfl ⟨rfl, by decide, rfl⟩ ?_
                                  intro m305 em305
                                  have hIm305 : zInv m305 := by rw [em305]; exact hIm240.any (by omega) rfl (by decide) (by decide)
                                  have hFm305 : zFr W_161 m0 m305 := by rw [em305]; exact hFm240.up rfl
                                  have km305_69_6 : m305 69 6 = f41 := by rw [em305, zUp_ne (by omega)]; exact km240_69_6
                                  have km305_69_11 : m305 69 11 = f241 := by rw [em305, zUp_ne (by omega)]; exact ef241
                                  have km305_69_9 : m305 69 9 = f242 := by rw [em305, zUp_ne (by omega)]; exact ef242
                                  have km305_69_7 : m305 69 7 = ((10 * f41) + 1) := by rw [em305]; exact zUp_eq _ _ _ _
                                  have fm305_74 : m305 74 = f13 := by rw [em305, zUp_fn (by decide)]; exact fm240_74
                                  clear em305
                                  refine zw_42 zr_161_413 ?_
                                  refine zw_42 zr_161_485 ?_
                                  exact zw_less (L := [(2, 69), (0, i5), (0, i6), (0, i7), (9, 0)]) ⟨Or.inr rfl, Or.inr rfl, Or.inr rfl, Or.inr rfl, Or.inl rfl, trivial⟩ (ihlp26_14 (i5) (i6) (i7) (f41) (((10 * f41) + 1)) (f242) (f241) (f13) m305 hIm305 hFm305  km305_69_6 km305_69_7 km305_69_9 km305_69_11 fm305_74 (by omega) (by omega) (by omega) (by omega) (by omega) (by omega) (by omega) (by omega) (by omega) (by omega) (by omega) (by omega) (by omega) (by omega) (by omega) (by omega) (by omega) (by omega) (by omega))
                              by_cases h306 : x254 = 61
                              · refine zw_112 (off := 87) (t := 88) zr_155_1 (by rw [h306]; rfl) rfl ?_
                                refine zw_push zr_155_88 ?_
                                refine zw_R zr_155_89 (by decide) zm_155 (v := (0, 3)) rfl ?_
                                rw [← hQ1]
                                show zW E (d) 161 396 [(2, 69), (0, i5), (0, i6), (0, i7), (0, r40)] [(0, 3)] m240 Q
                                refine zw_push zr_161_396 ?_
                                refine zw_41_4 zr_161_397 ?_ ?_
                                · intro h307; omega
                                · intro h308
                                  refine zw_7 zr_161_400 rfl ?_
                                  refine zw_push zr_161_401 ?_
                                  refine zw_7 zr_161_403 rfl ?_
                                  refine zw_46i zr_161_404 km240_69_6 rfl rfl rfl ?_
                                  refine zw_18 zr_161_407 (by omega) ?_
                                  refine zw_push zr_161_408 ?_
                                  refine zw_16 zr_161_409 (by omega) ?_
                                  refine zw_47 (c := 69) zr_161_410 rfl ⟨rfl, by decide, rfl⟩ ?_
                                  intro m309 em309
                                  have hIm309 : zInv m309 := by rw [em309]; exact hIm240.any (by omega) rfl (by decide) (by decide)
                                  have hFm309 : zFr W_161 m0 m309 := by rw [em309]; exact hFm240.up rfl
                                  have km309_69_6 : m309 69 6 = f41 := by rw [em309, zUp_ne (by omega)]; exact km240_69_6
                                  have km309_69_11 : m309 69 11 = f241 := by rw [em309, zUp_ne (by omega)]; exact ef241
                                  have km309_69_9 : m309 69 9 = f242 := by rw [em309, zUp_ne (by omega)]; exact ef242
                                  have km309_69_7 : m309 69 7 = ((10 * f41) + 1) := by rw [em309]; exact zUp_eq _ _ _ _
                                  have fm309_74 : m309 74 = f13 := by rw [em309, zUp_fn (by decide)]; exact fm240_74
                                  clear em309
                                  refine zw_42 zr_161_413 ?_
                                  refine zw_42 zr_161_485 ?_
                                  exact zw_less (L := [(2, 69), (0, i5), (0, i6), (0, i7), (9, 0)]) ⟨Or.inr rfl, Or.inr rfl, Or.inr rfl, Or.inr rfl, Or.inl rfl, trivial⟩ (ihlp26_14 (i5) (i6) (i7) (f41) (((10 * f41) + 1)) (f242) (f241) (f13) m309 hIm309 hFm309  km309_69_6 km309_69_7 km309_69_9 km309_69_11 fm309_74 (by omega) (by omega) (by omega) (by omega) (by omega) (by omega) (by omega) (by omega) (by omega) (by omega) (by omega) (by omega) (by omega) (by omega) (by omega) (by omega) (by omega) (by omega) (by omega))
                              by_cases h310 : x254 = 62
                              · refine zw_112 (off := 87) (t := 88) zr_155_1 (by rw [h310]; rfl) rfl ?_
                                refine zw_push zr_155_88 ?_
                                refine zw_R zr_155_89 (by decide) zm_155 (v := (0, 3)) rfl ?_
                                rw [← hQ1]
                                show zW E (d) 161 396 [(2, 69), (0, i5), (0, i6), (0, i7), (0, r40)] [(0, 3)] m240 Q
                                refine zw_push zr_161_396 ?_
                                refine zw_41_4 zr_161_397 ?_ ?_
                                · intro h311; omega
                                · intro h312
                                  refine zw_7 zr_161_400 rfl ?_
                                  refine zw_push zr_161_401 ?_
                                  refine zw_7 zr_161_403 rfl ?_
                                  refine zw_46i zr_161_404 km240_69_6 rfl rfl rfl ?_
                                  refine zw_18 zr_161_407 (by omega) ?_
                                  refine zw_push zr_161_408 ?_
                                  refine zw_16 zr_161_409 (by omega) ?_
                                  refine zw_47 (c := 69) zr_161_410 rfl ⟨rfl, by decide, rfl⟩ ?_
                                  intro m313 em313
                                  have hIm313 : zInv m313 := by rw [em313]; exact hIm240.any (by omega) rfl (by decide) (by decide)
                                  have hFm313 : zFr W_161 m0 m313 := by rw [em313]; exact hFm240.up rfl
                                  have km313_69_6 : m313 69 6 = f41 := by rw [em313, zUp_ne (by omega)]; exact km240_69_6
                                  have km313_69_11 : m313 69 11 = f241 := by rw [em313, zUp_ne (by omega)]; exact ef241
                                  have km313_69_9 : m313 69 9 = f242 := by rw [em313, zUp_ne (by omega)]; exact ef242
                                  have km313_69_7 : m313 69 7 = ((10 * f41) + 1) := by rw [em313]; exact zUp_eq _ _ _ _
                                  have fm313_74 : m313 74 = f13 := by rw [em313, zUp_fn (by decide)]; exact fm240_74
                                  clear em313
                                  refine zw_42 zr_161_413 ?_
                                  refine zw_42 zr_161_485 ?_
                                  exact zw_less (L := [(2, 69), (0, i5), (0, i6), (0, i7), (9, 0)]) ⟨Or.inr rfl, Or.inr rfl, Or.inr rfl, Or.inr rfl, Or.inl rfl, trivial⟩ (ihlp26_14 (i5) (i6) (i7) (f41) (((10 * f41) + 1)) (f242) (f241) (f13) m313 hIm313 hFm313  km313_69_6 km313_69_7 km313_69_9 km313_69_11 fm313_74 (by omega) (by omega) (by omega) (by omega) (by omega) (by omega) (by omega) (by omega) (by omega) (by omega) (by omega) (by omega) (by omega) (by omega) (by omega) (by omega) (by omega) (by omega) (by omega))
                              by_cases h314 : x254 = 124
                              · refine zw_112 (off := 83) (t := 84) zr_155_1 (by rw [h314]; rfl) rfl ?_
                                refine zw_push zr_155_84 ?_
                                refine zw_R zr_155_85 (by decide) zm_155 (v := (0, 1)) rfl ?_
                                rw [← hQ1]
                                show zW E (d) 161 396 [(2, 69), (0, i5), (0, i6), (0, i7), (0, r40)] [(0, 1)] m240 Q
                                refine zw_push zr_161_396 ?_
                                refine zw_41_4 zr_161_397 ?_ ?_
                                · intro h315
                                  refine zw_7 zr_161_416 rfl ?_
                                  refine zw_43 zr_161_417 rfl ?_
                                  refine zw_46i zr_161_418 km240_69_6 rfl rfl rfl ?_
                                  refine zw_push zr_161_421 ?_
                                  refine zw_16 zr_161_422 (by omega) ?_
                                  refine zw_47 (c := 69) zr_161_423 rfl ⟨rfl, by decide, rfl⟩ ?_
                                  intro m316 em316
                                  have hIm316 : zInv m316 := by rw [em316]; exact hIm240.bd (r := 69) (k := 6) (lo := 0) (hi := 50) rfl (by omega) (by decide) (by decide) (by decide)
                                  have hFm316 : zFr W_161 m0 m316 := by rw [em316]; exact hFm240.up rfl
                                  have km316_69_7 : m316 69 7 = p10 := by rw [em316, zUp_ne (by omega)]; exact km240_69_7
                                  have km316_69_11 : m316 69 11 = f241 := by rw [em316, zUp_ne (by omega)]; exact ef241
                                  have km316_69_9 : m316 69 9 = f242 := by rw [em316, zUp_ne (by omega)]; exact ef242
                                  have km316_69_6 : m316 69 6 = (f41 + 1) := by rw [em316]; exact zUp_eq _ _ _ _
                                  have fm316_74 : m316 74 = f13 := by rw [em316, zUp_fn (by decide)]; exact fm240_74
                                  clear em316
                                  refine zw_7 zr_161_426 rfl ?_
                                  refine zw_46r (s := 74) zr_161_427 rfl rfl rfl rfl ?_
                                  refine zw_7 zr_161_430 rfl ?_
                                  refine zw_46i zr_161_431 km316_69_11 rfl rfl rfl ?_
                                  refine zw_4 zr_161_434 rfl ?_
                                  refine zw_49 (c := 74) (len := 128) zr_161_436 rfl rfl (by omega) (by omega) ?_
                                  intro m317 em317
                                  have hIm317 : zInv m317 := by rw [em317]; exact iu_74 hIm316 (by omega)
                                  have hFm317 : zFr W_161 m0 m317 := by rw [em317]; exact hFm316.any rfl
                                  have km317_69_7 : m317 69 7 = p10 := by rw [em317, zUp_ne (by omega)]; exact km316_69_7
                                  have km317_69_11 : m317 69 11 = f241 := by rw [em317, zUp_ne (by omega)]; exact km316_69_11
                                  have km317_69_9 : m317 69 9 = f242 := by rw [em317, zUp_ne (by omega)]; exact km316_69_9
                                  have km317_69_6 : m317 69 6 = (f41 + 1) := by rw [em317, zUp_ne (by omega)]; exact km316_69_6
                                  have fm317_74 : m317 74 = zPt f13 ((f241).toNat) r40 := by rw [em317, zUp_ff, fm316_74]
                                  clear em317
                                  have z318 := zcp f13 (f241).toNat (f241 + 1).toNat (r40) (by omega)
                                  refine zw_7 zr_161_437 rfl ?_
                                  refine zw_43 zr_161_438 rfl ?_
                                  refine zw_46i zr_161_439 km317_69_11 rfl rfl rfl ?_
                                  refine zw_push zr_161_442 ?_
                                  refine zw_16 zr_161_443 (by omega) ?_
                                  refine zw_47 (c := 69) zr_161_444 rfl ⟨rfl, by decide, rfl⟩ ?_
                                  intro m319 em319
                                  have hIm319 : zInv m319 := by rw [em319]; exact hIm317.bd (r := 69) (k := 11) (lo := 0) (hi := 128) rfl (by omega) (by decide) (by decide) (by decide)
                                  have hFm319 : zFr W_161 m0 m319 := by rw [em319]; exact hFm317.up rfl
                                  have km319_69_7 : m319 69 7 = p10 := by rw [em319, zUp_ne (by omega)]; exact km317_69_7
                                  have km319_69_9 : m319 69 9 = f242 := by rw [em319, zUp_ne (by omega)]; exact km317_69_9
                                  have km319_69_6 : m319 69 6 = (f41 + 1) := by rw [em319, zUp_ne (by omega)]; exact km317_69_6
                                  have km319_69_11 : m319 69 11 = (f241 + 1) := by rw [em319]; exact zUp_eq _ _ _ _
                                  have fm319_74 : m319 74 = zPt f13 ((f241).toNat) r40 := by rw [em319, zUp_fn (by decide)]; exact fm317_74
                                  clear em319
                                  have z320 := zcd (zPt f13 ((f241).toNat) r40) ((f241 + 1)).toNat (f241).toNat
                                  refine zw_push zr_161_447 ?_
                                  refine zw_9 (L' := [(2, 69), (0, i5), (0, 1), (0, i7), (0, r40)]) zr_161_448 (Nat.le_of_ble_eq_true rfl) rfl ?_
                                  refine zw_42 zr_161_449 ?_
                                  refine zw_42 zr_161_485 ?_
                                  exact zw_less (L := [(2, 69), (0, i5), (0, 1), (0, i7), (9, 0)]) ⟨Or.inr rfl, Or.inr rfl, Or.inr rfl, Or.inr rfl, Or.inl rfl, trivial⟩ (ihlp26_14 (i5) (1) (i7) ((f41 + 1)) (p10) (f242) ((f241 + 1)) (zPt f13 ((f241).toNat) r40) m319 hIm319 hFm319  km319_69_6 km319_69_7 km319_69_9 km319_69_11 fm319_74 (by omega) (by omega) (by omega) (by omega) (by omega) (by omega) (by omega) (by omega) (by omega) (by omega) (by omega) (by omega) (by omega) (by omega) (by omega) (by omega) (by omega) (by omega) (by omega))
                                · intro h321; omega
                              refine zw_112 (off := 93) (t := 94) zr_155_1 (zlsw_df (by simp; omega)) rfl ?_
                              refine zw_push zr_155_94 ?_
                              refine zw_R zr_155_95 (by decide) zm_155 (v := (0, 0)) rfl ?_
                              rw [← hQ1]
                              show zW E (d) 161 396 [(2, 69), (0, i5), (0, i6), (0, i7), (0, r40)] [(0, 0)] m240 Q
                              refine zw_push zr_161_396 ?_
                              refine zw_41_4 zr_161_397 ?_ ?_
                              · intro h322
                                refine zw_7 zr_161_416 rfl ?_
                                refine zw_43 zr_161_417 rfl ?_
                                refine zw_46i zr_161_418 km240_69_6 rfl rfl rfl ?_
                                refine zw_push zr_161_421 ?_
                                refine zw_16 zr_161_422 (by omega) ?_
                                refine zw_47 (c := 69) zr_161_423 rfl ⟨rfl, by decide, rfl⟩ ?_
                                intro m323 em323
                                have hIm323 : zInv m323 := by rw [em323]; exact hIm240.bd (r := 69) (k := 6) (lo := 0) (hi := 50) rfl (by omega) (by decide) (by decide) (by decide)
                                have hFm323 : zFr W_161 m0 m323 := by rw [em323]; exact hFm240.up rfl
                                have km323_69_7 : m323 69 7 = p10 := by rw [em323, zUp_ne (by omega)]; exact km240_69_7
                                have km323_69_11 : m323 69 11 = f241 := by rw [em323, zUp_ne (by omega)]; exact ef241
                                have km323_69_9 : m323 69 9 = f242 := by rw [em323, zUp_ne (by omega)]; exact ef242
                                have km323_69_6 : m323 69 6 = (f41 + 1) := by rw [em323]; exact zUp_eq _ _ _ _
                                have fm323_74 : m323 74 = f13 := by rw [em323, zUp_fn (by decide)]; exact fm240_74
                                clear em323
                                refine zw_7 zr_161_426 rfl ?_
                                refine zw_46r (s := 74) zr_161_427 rfl rfl rfl rfl ?_
                                refine zw_7 zr_161_430 rfl ?_
                                refine zw_46i zr_161_431 km323_69_11 rfl rfl rfl ?_
                                refine zw_4 zr_161_434 rfl ?_
                                refine zw_49 (c := 74) (len := 128) zr_161_436 rfl rfl (by omega) (by omega) ?_
                                intro m324 em324
                                have hIm324 : zInv m324 := by rw [em324]; exact iu_74 hIm323 (by omega)
                                have hFm324 : zFr W_161 m0 m324 := by rw [em324]; exact hFm323.any rfl
                                have km324_69_7 : m324 69 7 = p10 := by rw [em324, zUp_ne (by omega)]; exact km323_69_7
                                have km324_69_11 : m324 69 11 = f241 := by rw [em324, zUp_ne (by omega)]; exact km323_69_11
                                have km324_69_9 : m324 69 9 = f242 := by rw [em324, zUp_ne (by omega)]; exact km323_69_9
                                have km324_69_6 : m324 69 6 = (f41 + 1) := by rw [em324, zUp_ne (by omega)]; exact km323_69_6
                                have fm324_74 : m324 74 = zPt f13 ((f241).toNat) r40 := by rw [em324, zUp_ff, fm323_74]
                                clear em324
                                have z325 := zcp f13 (f241).toNat (f241 + 1).toNat (r40) (by omega)
                                refine zw_7 zr_161_437 rfl ?_
                                refine zw_43 zr_161_438 rfl ?_
                                refine zw_46i zr_161_439 km324_69_11 rfl rfl rfl ?_
                                refine zw_push zr_161_442 ?_
                                refine zw_16 zr_161_443 (by omega) ?_
                                refine zw_47 (c := 69) zr_161_444 rfl ⟨rfl, by decide, rfl⟩ ?_
                                intro m326 em326
                                have hIm326 : zInv m326 := by rw [em326]; exact hIm324.bd (r := 69) (k := 11) (lo := 0) (hi := 128) rfl (by omega) (by decide) (by decide) (by decide)
                                have hFm326 : zFr W_161 m0 m326 := by rw [em326]; exact hFm324.up rfl
                                have km326_69_7 : m326 69 7 = p10 := by rw [em326, zUp_ne (by omega)]; exact km324_69_7
                                have km326_69_9 : m326 69 9 = f242 := by rw [em326, zUp_ne (by omega)]; exact km324_69_9
                                have km326_69_6 : m326 69 6 = (f41 + 1) := by rw [em326, zUp_ne (by omega)]; exact km324_69_6
                                have km326_69_11 : m326 69 11 = (f241 + 1) := by rw [em326]; exact zUp_eq _ _ _ _
                                have fm326_74 : m326 74 = zPt f13 ((f241).toNat) r40 := by rw [em326, zUp_fn (by decide)]; exact fm324_74
                                clear em326
                                have z327 := zcd (zPt f13 ((f241).toNat) r40) ((f241 + 1)).toNat (f241).toNat
                                refine zw_push zr_161_447 ?_
                                refine zw_9 (L' := [(2, 69), (0, i5), (0, 1), (0, i7), (0, r40)]) zr_161_448 (Nat.le_of_ble_eq_true rfl) rfl ?_
                                refine zw_42 zr_161_449 ?_
                                refine zw_42 zr_161_485 ?_
                                exact zw_less (L := [(2, 69), (0, i5), (0, 1), (0, i7), (9, 0)]) ⟨Or.inr rfl, Or.inr rfl, Or.inr rfl, Or.inr rfl, Or.inl rfl, trivial⟩ (ihlp26_14 (i5) (1) (i7) ((f41 + 1)) (p10) (f242) ((f241 + 1)) (zPt f13 ((f241).toNat) r40) m326 hIm326 hFm326  km326_69_6 km326_69_7 km326_69_9 km326_69_11 fm326_74 (by omega) (by omega) (by omega) (by omega) (by omega) (by omega) (by omega) (by omega) (by omega) (by omega) (by omega) (by omega) (by omega) (by omega) (by omega) (by omega) (by omega) (by omega) (by omega))
                              · intro h328; omega
                      exfalso; omega
                  exfalso; omega
              by_cases h329 : r40 = 62
              · refine zw_112 (off := 87) (t := 88) zr_155_1 (by rw [h329]; rfl) rfl ?_
                refine zw_push zr_155_88 ?_
                refine zw_R zr_155_89 (by decide) zm_155 (v := (0, 3)) rfl ?_
                rw [← hQ1]
                show zW E (d) 161 324 [(2, 69), (0, i5), (0, i6), (0, i7), (0, r40)] [(0, 3)] m39 Q
                refine zw_40_5 zr_161_324 ?_ ?_
                · intro h330; omega
                · intro h331
                  refine zw_7 zr_161_327 rfl ?_
                  refine zw_4 zr_161_328 rfl ?_
                  refine zw_C zr_161_330 (Or.inr rfl) zm_155 rfl rfl ⟨Nat.le_of_ble_eq_true rfl, Nat.le_of_ble_eq_true rfl, Nat.le_of_ble_eq_true rfl, rfl, by decide⟩ (by omega) (P := (fun v m' => zW E (d) 161 333 [(2, 69), (0, i5), (0, i6), (0, i7), (0, r40)] (if v.1 = 9 then [(2, 69)] else v :: [(2, 69)]) m' Q)) ?_ (fun _ _ h => h)
                  generalize hQ1 : (fun v m' => zW E (d) 161 333 [(2, 69), (0, i5), (0, i6), (0, i7), (0, r40)] (if v.1 = 9 then [(2, 69)] else v :: [(2, 69)]) m' Q) = Q1
                  show zW E (d - 1) 155 0 [(0, r40)] [] m39 Q1
                  refine zw_3 zr_155_0 rfl ?_
                  by_cases h332 : r40 = 62
                  · refine zw_112 (off := 87) (t := 88) zr_155_1 (by rw [h332]; rfl) rfl ?_
                    refine zw_push zr_155_88 ?_
                    refine zw_R zr_155_89 (by decide) zm_155 (v := (0, 3)) rfl ?_
                    rw [← hQ1]
                    show zW E (d) 161 333 [(2, 69), (0, i5), (0, i6), (0, i7), (0, r40)] [(0, 3), (2, 69)] m39 Q
                    refine zw_push zr_161_333 ?_
                    refine zw_41_4 zr_161_334 ?_ ?_
                    · intro h333; omega
                    · intro h334
                      refine zw_push zr_161_337 ?_
                      refine zw_42 zr_161_338 ?_
                      refine zw_C zr_161_346 (Or.inl rfl) zm_157 rfl rfl ⟨Nat.le_of_ble_eq_true rfl, Nat.le_of_ble_eq_true rfl, Nat.le_of_ble_eq_true rfl, rfl, by decide⟩ (by omega) (th_157 (d := d - 1) (by omega) hIm39 (a0 := 4) (g0 := p12) (g1 := p11)  (F74 := f13) km39_69_11 km39_69_9 fm39_74 (by omega) (by omega)) ?_
                      rintro _ m335 ⟨rfl, hIm335, gm335, po0_m335, po1_m335, po2_m335, po3_m335⟩
                      have hFm335 : zFr W_161 m0 m335 := hFm39.trans gm335 rfl
                      have km335_69_7 : m335 69 7 = p10 := (gm335 69 7 rfl).trans km39_69_7
                      have km335_69_6 : m335 69 6 = f41 := (gm335 69 6 rfl).trans ef41
                      have fm335_74 : m335 74 = f13 := (funext fun k => gm335 74 k rfl).trans fm39_74
                      obtain ⟨f336, ef336⟩ : ∃ v, m335 69 11 = v := ⟨_, rfl⟩
                      have bf336 := ib_69_11 hIm335
                      rw [ef336] at bf336
                      rw [ef336] at po0_m335
                      rw [ef336] at po2_m335
                      rw [ef336] at po3_m335
                      obtain ⟨f337, ef337⟩ : ∃ v, m335 69 9 = v := ⟨_, rfl⟩
                      have bf337 := ib_69_9 hIm335
                      rw [ef337] at bf337
                      rw [ef337] at po1_m335
                      rw [ef337] at po2_m335
                      show zW E (d) 161 349 [(2, 69), (0, i5), (0, i6), (0, i7), (0, r40)] [] m335 Q
                      have z338 := cB_nn f13 (f336).toNat
                      refine zw_4 zr_161_349 rfl ?_
                      refine zw_C zr_161_351 (Or.inr rfl) zm_155 rfl rfl ⟨Nat.le_of_ble_eq_true rfl, Nat.le_of_ble_eq_true rfl, Nat.le_of_ble_eq_true rfl, rfl, by decide⟩ (by omega) (P := (fun v m' => zW E (d) 161 354 [(2, 69), (0, i5), (0, i6), (0, i7), (0, r40)] (if v.1 = 9 then [] else v :: []) m' Q)) ?_ (fun _ _ h => h)
                      generalize hQ1 : (fun v m' => zW E (d) 161 354 [(2, 69), (0, i5), (0, i6), (0, i7), (0, r40)] (if v.1 = 9 then [] else v :: []) m' Q) = Q1
                      show zW E (d - 1) 155 0 [(0, r40)] [] m335 Q1
                      refine zw_3 zr_155_0 rfl ?_
                      by_cases h339 : r40 = 62
                      · refine zw_112 (off := 87) (t := 88) zr_155_1 (by rw [h339]; rfl) rfl ?_
                        refine zw_push zr_155_88 ?_
                        refine zw_R zr_155_89 (by decide) zm_155 (v := (0, 3)) rfl ?_
                        rw [← hQ1]
                        show zW E (d) 161 354 [(2, 69), (0, i5), (0, i6), (0, i7), (0, r40)] [(0, 3)] m335 Q
                        refine zw_push zr_161_354 ?_
                        refine zw_41_4 zr_161_355 ?_ ?_
                        · intro h340; omega
                        · intro h341
                          refine zw_7 zr_161_358 rfl ?_
                          refine zw_46i zr_161_359 ef336 rfl rfl rfl ?_
                          refine zw_40_5 zr_161_362 ?_ ?_
                          · intro h342
                            refine zw_7 zr_161_416 rfl ?_
                            refine zw_43 zr_161_417 rfl ?_
                            refine zw_46i zr_161_418 km335_69_6 rfl rfl rfl ?_
                            refine zw_push zr_161_421 ?_
                            refine zw_16 zr_161_422 (by omega) ?_
                            refine zw_47 (c := 69) zr_161_423 rfl ⟨rfl, by decide, rfl⟩ ?_
                            intro m343 em343
                            have hIm343 : zInv m343 := by rw [em343]; exact hIm335.bd (r := 69) (k := 6) (lo := 0) (hi := 50) rfl (by omega) (by decide) (by decide) (by decide)
                            have hFm343 : zFr W_161 m0 m343 := by rw [em343]; exact hFm335.up rfl
                            have km343_69_7 : m343 69 7 = p10 := by rw [em343, zUp_ne (by omega)]; exact km335_69_7
                            have km343_69_11 : m343 69 11 = f336 := by rw [em343, zUp_ne (by omega)]; exact ef336
                            have km343_69_9 : m343 69 9 = f337 := by rw [em343, zUp_ne (by omega)]; exact ef337
                            have km343_69_6 : m343 69 6 = (f41 + 1) := by rw [em343]; exact zUp_eq _ _ _ _
                            have fm343_74 : m343 74 = f13 := by rw [em343, zUp_fn (by decide)]; exact fm335_74
                            clear em343
                            refine zw_7 zr_161_426 rfl ?_
                            refine zw_46r (s := 74) zr_161_427 rfl rfl rfl rfl ?_
                            refine zw_7 zr_161_430 rfl ?_
                            refine zw_46i zr_161_431 km343_69_11 rfl rfl rfl ?_
                            refine zw_4 zr_161_434 rfl ?_
                            refine zw_49 (c := 74) (len := 128) zr_161_436 rfl rfl (by omega) (by omega) ?_
                            intro m344 em344
                            have hIm344 : zInv m344 := by rw [em344]; exact iu_74 hIm343 (by omega)
                            have hFm344 : zFr W_161 m0 m344 := by rw [em344]; exact hFm343.any rfl
                            have km344_69_7 : m344 69 7 = p10 := by rw [em344, zUp_ne (by omega)]; exact km343_69_7
                            have km344_69_11 : m344 69 11 = f336 := by rw [em344, zUp_ne (by omega)]; exact km343_69_11
                            have km344_69_9 : m344 69 9 = f337 := by rw [em344, zUp_ne (by omega)]; exact km343_69_9
                            have km344_69_6 : m344 69 6 = (f41 + 1) := by rw [em344, zUp_ne (by omega)]; exact km343_69_6
                            have km344_74_0 : m344 74 0 = r40 := by rw [em344, show (f336 : Int).toNat = 0 by omega]; exact zUp_eq _ _ _ _
                            have fm344_74 : m344 74 = zPt f13 ((f336).toNat) r40 := by rw [em344, zUp_ff, fm343_74]
                            clear em344
                            have z345 := zcp f13 (f336).toNat (f336 + 1).toNat (r40) (by omega)
                            refine zw_7 zr_161_437 rfl ?_
                            refine zw_43 zr_161_438 rfl ?_
                            refine zw_46i zr_161_439 km344_69_11 rfl rfl rfl ?_
                            refine zw_push zr_161_442 ?_
                            refine zw_16 zr_161_443 (by omega) ?_
                            refine zw_47 (c := 69) zr_161_444 rfl ⟨rfl, by decide, rfl⟩ ?_
                            intro m346 em346
                            have hIm346 : zInv m346 := by rw [em346]; exact hIm344.bd (r := 69) (k := 11) (lo := 0) (hi := 128) rfl (by omega) (by decide) (by decide) (by decide)
                            have hFm346 : zFr W_161 m0 m346 := by rw [em346]; exact hFm344.up rfl
                            have km346_69_7 : m346 69 7 = p10 := by rw [em346, zUp_ne (by omega)]; exact km344_69_7
                            have km346_69_9 : m346 69 9 = f337 := by rw [em346, zUp_ne (by omega)]; exact km344_69_9
                            have km346_69_6 : m346 69 6 = (f41 + 1) := by rw [em346, zUp_ne (by omega)]; exact km344_69_6
                            have km346_74_0 : m346 74 0 = r40 := by rw [em346, zUp_ne (by omega)]; exact km344_74_0
                            have km346_69_11 : m346 69 11 = (f336 + 1) := by rw [em346]; exact zUp_eq _ _ _ _
                            have fm346_74 : m346 74 = zPt f13 ((f336).toNat) r40 := by rw [em346, zUp_fn (by decide)]; exact fm344_74
                            clear em346
                            have z347 := zcd (zPt f13 ((f336).toNat) r40) ((f336 + 1)).toNat (f336).toNat
                            refine zw_push zr_161_447 ?_
                            refine zw_9 (L' := [(2, 69), (0, i5), (0, 1), (0, i7), (0, r40)]) zr_161_448 (Nat.le_of_ble_eq_true rfl) rfl ?_
                            refine zw_42 zr_161_449 ?_
                            refine zw_42 zr_161_485 ?_
                            exact zw_less (L := [(2, 69), (0, i5), (0, 1), (0, i7), (9, 0)]) ⟨Or.inr rfl, Or.inr rfl, Or.inr rfl, Or.inr rfl, Or.inl rfl, trivial⟩ (ihlp26_14 (i5) (1) (i7) ((f41 + 1)) (p10) (f337) ((f336 + 1)) (zPt f13 ((f336).toNat) r40) m346 hIm346 hFm346  km346_69_6 km346_69_7 km346_69_9 km346_69_11 fm346_74 (by omega) (by omega) (by omega) (by omega) (by omega) (by omega) (by omega) (by omega) (by omega) (by omega) (by omega) (by omega) (by omega) (by omega) (by omega) (by omega) (by omega) (by omega) (by omega))
                          · intro h348
                            refine zw_7 zr_161_365 rfl ?_
                            refine zw_46r (s := 74) zr_161_366 rfl rfl rfl rfl ?_
                            refine zw_7 zr_161_369 rfl ?_
                            refine zw_46i zr_161_370 ef336 rfl rfl rfl ?_
                            refine zw_push zr_161_373 ?_
                            refine zw_17 zr_161_374 (by omega) ?_
                            refine zw_48 (c := 74) (len := 128) zr_161_375 rfl rfl (by omega) (by omega) ?_
                            intro x349 ex349
                            have bx349 := ib_74 hIm335 (k := ((f336 - 1)).toNat) (by omega)
                            rw [← ex349] at bx349
                            refine zw_push zr_161_376 ?_
                            refine zw_41_3 zr_161_379 ?_ ?_
                            · intro h350
                              refine zw_7 zr_161_416 rfl ?_
                              refine zw_43 zr_161_417 rfl ?_
                              refine zw_46i zr_161_418 km335_69_6 rfl rfl rfl ?_
                              refine zw_push zr_161_421 ?_
                              refine zw_16 zr_161_422 (by omega) ?_
                              refine zw_47 (c := 69) zr_161_423 rfl ⟨rfl, by decide, rfl⟩ ?_
                              intro m351 em351
                              have hIm351 : zInv m351 := by rw [em351]; exact hIm335.bd (r := 69) (k := 6) (lo := 0) (hi := 50) rfl (by omega) (by decide) (by decide) (by decide)
                              have hFm351 : zFr W_161 m0 m351 := by rw [em351]; exact hFm335.up rfl
                              have km351_69_7 : m351 69 7 = p10 := by rw [em351, zUp_ne (by omega)]; exact km335_69_7
                              have km351_69_11 : m351 69 11 = f336 := by rw [em351, zUp_ne (by omega)]; exact ef336
                              have km351_69_9 : m351 69 9 = f337 := by rw [em351, zUp_ne (by omega)]; exact ef337
                              have km351_69_6 : m351 69 6 = (f41 + 1) := by rw [em351]; exact zUp_eq _ _ _ _
                              have fm351_74 : m351 74 = f13 := by rw [em351, zUp_fn (by decide)]; exact fm335_74
                              clear em351
                              refine zw_7 zr_161_426 rfl ?_
                              refine zw_46r (s := 74) zr_161_427 rfl rfl rfl rfl ?_
                              refine zw_7 zr_161_430 rfl ?_
                              refine zw_46i zr_161_431 km351_69_11 rfl rfl rfl ?_
                              refine zw_4 zr_161_434 rfl ?_
                              refine zw_49 (c := 74) (len := 128) zr_161_436 rfl rfl (by omega) (by omega) ?_
                              intro m352 em352
                              have hIm352 : zInv m352 := by rw [em352]; exact iu_74 hIm351 (by omega)
                              have hFm352 : zFr W_161 m0 m352 := by rw [em352]; exact hFm351.any rfl
                              have km352_69_7 : m352 69 7 = p10 := by rw [em352, zUp_ne (by omega)]; exact km351_69_7
                              have km352_69_11 : m352 69 11 = f336 := by rw [em352, zUp_ne (by omega)]; exact km351_69_11
                              have km352_69_9 : m352 69 9 = f337 := by rw [em352, zUp_ne (by omega)]; exact km351_69_9
                              have km352_69_6 : m352 69 6 = (f41 + 1) := by rw [em352, zUp_ne (by omega)]; exact km351_69_6
                              have fm352_74 : m352 74 = zPt f13 ((f336).toNat) r40 := by rw [em352, zUp_ff, fm351_74]
                              clear em352
                              have z353 := zcp f13 (f336).toNat (f336 + 1).toNat (r40) (by omega)
                              refine zw_7 zr_161_437 rfl ?_
                              refine zw_43 zr_161_438 rfl ?_
                              refine zw_46i zr_161_439 km352_69_11 rfl rfl rfl ?_
                              refine zw_push zr_161_442 ?_
                              refine zw_16 zr_161_443 (by omega) ?_
                              refine zw_47 (c := 69) zr_161_444 rfl ⟨rfl, by decide, rfl⟩ ?_
                              intro m354 em354
                              have hIm354 : zInv m354 := by rw [em354]; exact hIm352.bd (r := 69) (k := 11) (lo := 0) (hi := 128) rfl (by omega) (by decide) (by decide) (by decide)
                              have hFm354 : zFr W_161 m0 m354 := by rw [em354]; exact hFm352.up rfl
                              have km354_69_7 : m354 69 7 = p10 := by rw [em354, zUp_ne (by omega)]; exact km352_69_7
                              have km354_69_9 : m354 69 9 = f337 := by rw [em354, zUp_ne (by omega)]; exact km352_69_9
                              have km354_69_6 : m354 69 6 = (f41 + 1) := by rw [em354, zUp_ne (by omega)]; exact km352_69_6
                              have km354_69_11 : m354 69 11 = (f336 + 1) := by rw [em354]; exact zUp_eq _ _ _ _
                              have fm354_74 : m354 74 = zPt f13 ((f336).toNat) r40 := by rw [em354, zUp_fn (by decide)]; exact fm352_74
                              clear em354
                              have z355 := zcd (zPt f13 ((f336).toNat) r40) ((f336 + 1)).toNat (f336).toNat
                              refine zw_push zr_161_447 ?_
                              refine zw_9 (L' := [(2, 69), (0, i5), (0, 1), (0, i7), (0, r40)]) zr_161_448 (Nat.le_of_ble_eq_true rfl) rfl ?_
                              refine zw_42 zr_161_449 ?_
                              refine zw_42 zr_161_485 ?_
                              exact zw_less (L := [(2, 69), (0, i5), (0, 1), (0, i7), (9, 0)]) ⟨Or.inr rfl, Or.inr rfl, Or.inr rfl, Or.inr rfl, Or.inl rfl, trivial⟩ (ihlp26_14 (i5) (1) (i7) ((f41 + 1)) (p10) (f337) ((f336 + 1)) (zPt f13 ((f336).toNat) r40) m354 hIm354 hFm354  km354_69_6 km354_69_7 km354_69_9 km354_69_11 fm354_74 (by omega) (by omega) (by omega) (by omega) (by omega) (by omega) (by omega) (by omega) (by omega) (by omega) (by omega) (by omega) (by omega) (by omega) (by omega) (by omega) (by omega) (by omega) (by omega))
                            · intro h356
                              refine zw_7 zr_161_382 rfl ?_
                              refine zw_46r (s := 74) zr_161_383 rfl rfl rfl rfl ?_
                              refine zw_7 zr_161_386 rfl ?_
                              refine zw_46i zr_161_387 ef336 rfl rfl rfl ?_
                              refine zw_push zr_161_390 ?_
                              refine zw_17 zr_161_391 (by omega) ?_
                              refine zw_48k (c := 74) (len := 128) zr_161_392 rfl rfl (by omega) (by omega) rfl ex349.symm ?_
                              refine zw_C zr_161_393 (Or.inr rfl) zm_155 rfl rfl ⟨Nat.le_of_ble_eq_true rfl, Nat.le_of_ble_eq_true rfl, Nat.le_of_ble_eq_true rfl, rfl, by decide⟩ (by omega) (P := (fun v m' => zW E (d) 161 396 [(2, 69), (0, i5), (0, i6), (0, i7), (0, r40)] (if v.1 = 9 then [] else v :: []) m' Q)) ?_ (fun _ _ h => h)
                              generalize hQ1 : (fun v m' => zW E (d) 161 396 [(2, 69), (0, i5), (0, i6), (0, i7), (0, r40)] (if v.1 = 9 then [] else v :: []) m' Q) = Q1
                              show zW E (d - 1) 155 0 [(0, x349)] [] m335 Q1
                              refine zw_3 zr_155_0 rfl ?_
                              by_cases h357 : x349 = 38
                              · refine zw_112 (off := 85) (t := 86) zr_155_1 (by rw [h357]; rfl) rfl ?_
                                refine zw_push zr_155_86 ?_
                                refine zw_R zr_155_87 (by decide) zm_155 (v := (0, 2)) rfl ?_
                                rw [← hQ1]
                                show zW E (d) 161 396 [(2, 69), (0, i5), (0, i6), (0, i7), (0, r40)] [(0, 2)] m335 Q
                                refine zw_push zr_161_396 ?_
                                refine zw_41_4 zr_161_397 ?_ ?_
                                · intro h358
                                  refine zw_7 zr_161_416 rfl ?_
                                  refine zw_43 zr_161_417 rfl ?_
                                  refine zw_46i zr_161_418 km335_69_6 rfl rfl rfl ?_
                                  refine zw_push zr_161_421 ?_
                                  refine zw_16 zr_161_422 (by omega) ?_
                                  refine zw_47 (c := 69) zr_161_423 rfl ⟨rfl, by decide, rfl⟩ ?_
                                  intro m359 em359
                                  have hIm359 : zInv m359 := by rw [em359]; exact hIm335.bd (r := 69) (k := 6) (lo := 0) (hi := 50) rfl (by omega) (by decide) (by decide) (by decide)
                                  have hFm359 : zFr W_161 m0 m359 := by rw [em359]; exact hFm335.up rfl
                                  have km359_69_7 : m359 69 7 = p10 := by rw [em359, zUp_ne (by omega)]; exact km335_69_7
                                  have km359_69_11 : m359 69 11 = f336 := by rw [em359, zUp_ne (by omega)]; exact ef336
                                  have km359_69_9 : m359 69 9 = f337 := by rw [em359, zUp_ne (by omega)]; exact ef337
                                  have km359_69_6 : m359 69 6 = (f41 + 1) := by rw [em359]; exact zUp_eq _ _ _ _
                                  have fm359_74 : m359 74 = f13 := by rw [em359, zUp_fn (by decide)]; exact fm335_74
                                  clear em359
                                  refine zw_7 zr_161_426 rfl ?_
                                  refine zw_46r (s := 74) zr_161_427 rfl rfl rfl rfl ?_
                                  refine zw_7 zr_161_430 rfl ?_
                                  refine zw_46i zr_161_431 km359_69_11 rfl rfl rfl ?_
                                  refine zw_4 zr_161_434 rfl ?_
                                  refine zw_49 (c := 74) (len := 128) zr_161_436 rfl rfl (by omega) (by omega) ?_
                                  intro m360 em360
                                  have hIm360 : zInv m360 := by rw [em360]; exact iu_74 hIm359 (by omega)
                                  have hFm360 : zFr W_161 m0 m360 := by rw [em360]; exact hFm359.any rfl
                                  have km360_69_7 : m360 69 7 = p10 := by rw [em360, zUp_ne (by omega)]; exact km359_69_7
                                  have km360_69_11 : m360 69 11 = f336 := by rw [em360, zUp_ne (by omega)]; exact km359_69_11
                                  have km360_69_9 : m360 69 9 = f337 := by rw [em360, zUp_ne (by omega)]; exact km359_69_9
                                  have km360_69_6 : m360 69 6 = (f41 + 1) := by rw [em360, zUp_ne (by omega)]; exact km359_69_6
                                  have fm360_74 : m360 74 = zPt f13 ((f336).toNat) r40 := by rw [em360, zUp_ff, fm359_74]
                                  clear em360
                                  have z361 := zcp f13 (f336).toNat (f336 + 1).toNat (r40) (by omega)
                                  refine zw_7 zr_161_437 rfl ?_
                                  refine zw_43 zr_161_438 rfl ?_
                                  refine zw_46i zr_161_439 km360_69_11 rfl rfl rfl ?_
                                  refine zw_push zr_161_442 ?_
                                  refine zw_16 zr_161_443 (by omega) ?_
                                  refine zw_47 (c := 69) zr_161_444 rfl ⟨rfl, by decide, rfl⟩ ?_
                                  intro m362 em362
                                  have hIm362 : zInv m362 := by rw [em362]; exact hIm360.bd (r := 69) (k := 11) (lo := 0) (hi := 128) rfl (by omega) (by decide) (by decide) (by decide)
                                  have hFm362 : zFr W_161 m0 m362 := by rw [em362]; exact hFm360.up rfl
                                  have km362_69_7 : m362 69 7 = p10 := by rw [em362, zUp_ne (by omega)]; exact km360_69_7
                                  have km362_69_9 : m362 69 9 = f337 := by rw [em362, zUp_ne (by omega)]; exact km360_69_9
                                  have km362_69_6 : m362 69 6 = (f41 + 1) := by rw [em362, zUp_ne (by omega)]; exact km360_69_6
                                  have km362_69_11 : m362 69 11 = (f336 + 1) := by rw [em362]; exact zUp_eq _ _ _ _
                                  have fm362_74 : m362 74 = zPt f13 ((f336).toNat) r40 := by rw [em362, zUp_fn (by decide)]; exact fm360_74
                                  clear em362
                                  have z363 := zcd (zPt f13 ((f336).toNat) r40) ((f336 + 1)).toNat (f336).toNat
                                  refine zw_push zr_161_447 ?_
                                  refine zw_9 (L' := [(2, 69), (0, i5), (0, 1), (0, i7), (0, r40)]) zr_161_448 (Nat.le_of_ble_eq_true rfl) rfl ?_
                                  refine zw_42 zr_161_449 ?_
                                  refine zw_42 zr_161_485 ?_
                                  exact zw_less (L := [(2, 69), (0, i5), (0, 1), (0, i7), (9, 0)]) ⟨Or.inr rfl, Or.inr rfl, Or.inr rfl, Or.inr rfl, Or.inl rfl, trivial⟩ (ihlp26_14 (i5) (1) (i7) ((f41 + 1)) (p10) (f337) ((f336 + 1)) (zPt f13 ((f336).toNat) r40) m362 hIm362 hFm362  km362_69_6 km362_69_7 km362_69_9 km362_69_11 fm362_74 (by omega) (by omega) (by omega) (by omega) (by omega) (by omega) (by omega) (by omega) (by omega) (by omega) (by omega) (by omega) (by omega) (by omega) (by omega) (by omega) (by omega) (by omega) (by omega))
                                · intro h364; omega
                              by_cases h365 : x349 = 42
                              · refine zw_112 (off := 91) (t := 92) zr_155_1 (by rw [h365]; rfl) rfl ?_
                                refine zw_push zr_155_92 ?_
                                refine zw_R zr_155_93 (by decide) zm_155 (v := (0, 5)) rfl ?_
                                rw [← hQ1]
                                show zW E (d) 161 396 [(2, 69), (0, i5), (0, i6), (0, i7), (0, r40)] [(0, 5)] m335 Q
                                refine zw_push zr_161_396 ?_
                                refine zw_41_4 zr_161_397 ?_ ?_
                                · intro h366
                                  refine zw_7 zr_161_416 rfl ?_
                                  refine zw_43 zr_161_417 rfl ?_
                                  refine zw_46i zr_161_418 km335_69_6 rfl rfl rfl ?_
                                  refine zw_push zr_161_421 ?_
                                  refine zw_16 zr_161_422 (by omega) ?_
                                  refine zw_47 (c := 69) zr_161_423 rfl ⟨rfl, by decide, rfl⟩ ?_
                                  intro m367 em367
                                  have hIm367 : zInv m367 := by rw [em367]; exact hIm335.bd (r := 69) (k := 6) (lo := 0) (hi := 50) rfl (by omega) (by decide) (by decide) (by decide)
                                  have hFm367 : zFr W_161 m0 m367 := by rw [em367]; exact hFm335.up rfl
                                  have km367_69_7 : m367 69 7 = p10 := by rw [em367, zUp_ne (by omega)]; exact km335_69_7
                                  have km367_69_11 : m367 69 11 = f336 := by rw [em367, zUp_ne (by omega)]; exact ef336
                                  have km367_69_9 : m367 69 9 = f337 := by rw [em367, zUp_ne (by omega)]; exact ef337
                                  have km367_69_6 : m367 69 6 = (f41 + 1) := by rw [em367]; exact zUp_eq _ _ _ _
                                  have fm367_74 : m367 74 = f13 := by rw [em367, zUp_fn (by decide)]; exact fm335_74
                                  clear em367
                                  refine zw_7 zr_161_426 rfl ?_
                                  refine zw_46r (s := 74) zr_161_427 rfl rfl rfl rfl ?_
                                  refine zw_7 zr_161_430 rfl ?_
                                  refine zw_46i zr_161_431 km367_69_11 rfl rfl rfl ?_
                                  refine zw_4 zr_161_434 rfl ?_
                                  refine zw_49 (c := 74) (len := 128) zr_161_436 rfl rfl (by omega) (by omega) ?_
                                  intro m368 em368
                                  have hIm368 : zInv m368 := by rw [em368]; exact iu_74 hIm367 (by omega)
                                  have hFm368 : zFr W_161 m0 m368 := by rw [em368]; exact hFm367.any rfl
                                  have km368_69_7 : m368 69 7 = p10 := by rw [em368, zUp_ne (by omega)]; exact km367_69_7
                                  have km368_69_11 : m368 69 11 = f336 := by rw [em368, zUp_ne (by omega)]; exact km367_69_11
                                  have km368_69_9 : m368 69 9 = f337 := by rw [em368, zUp_ne (by omega)]; exact km367_69_9
                                  have km368_69_6 : m368 69 6 = (f41 + 1) := by rw [em368, zUp_ne (by omega)]; exact km367_69_6
                                  have fm368_74 : m368 74 = zPt f13 ((f336).toNat) r40 := by rw [em368, zUp_ff, fm367_74]
                                  clear em368
                                  have z369 := zcp f13 (f336).toNat (f336 + 1).toNat (r40) (by omega)
                                  refine zw_7 zr_161_437 rfl ?_
                                  refine zw_43 zr_161_438 rfl ?_
                                  refine zw_46i zr_161_439 km368_69_11 rfl rfl rfl ?_
                                  refine zw_push zr_161_442 ?_
                                  refine zw_16 zr_161_443 (by omega) ?_
                                  refine zw_47 (c := 69) zr_161_444 rfl ⟨rfl, by decide, rfl⟩ ?_
                                  intro m370 em370
                                  have hIm370 : zInv m370 := by rw [em370]; exact hIm368.bd (r := 69) (k := 11) (lo := 0) (hi := 128) rfl (by omega) (by decide) (by decide) (by decide)
                                  have hFm370 : zFr W_161 m0 m370 := by rw [em370]; exact hFm368.up rfl
                                  have km370_69_7 : m370 69 7 = p10 := by rw [em370, zUp_ne (by omega)]; exact km368_69_7
                                  have km370_69_9 : m370 69 9 = f337 := by rw [em370, zUp_ne (by omega)]; exact km368_69_9
                                  have km370_69_6 : m370 69 6 = (f41 + 1) := by rw [em370, zUp_ne (by omega)]; exact km368_69_6
                                  have km370_69_11 : m370 69 11 = (f336 + 1) := by rw [em370]; exact zUp_eq _ _ _ _
                                  have fm370_74 : m370 74 = zPt f13 ((f336).toNat) r40 := by rw [em370, zUp_fn (by decide)]; exact fm368_74
                                  clear em370
                                  have z371 := zcd (zPt f13 ((f336).toNat) r40) ((f336 + 1)).toNat (f336).toNat
                                  refine zw_push zr_161_447 ?_
                                  refine zw_9 (L' := [(2, 69), (0, i5), (0, 1), (0, i7), (0, r40)]) zr_161_448 (Nat.le_of_ble_eq_true rfl) rfl ?_
                                  refine zw_42 zr_161_449 ?_
                                  refine zw_42 zr_161_485 ?_
                                  exact zw_less (L := [(2, 69), (0, i5), (0, 1), (0, i7), (9, 0)]) ⟨Or.inr rfl, Or.inr rfl, Or.inr rfl, Or.inr rfl, Or.inl rfl, trivial⟩ (ihlp26_14 (i5) (1) (i7) ((f41 + 1)) (p10) (f337) ((f336 + 1)) (zPt f13 ((f336).toNat) r40) m370 hIm370 hFm370  km370_69_6 km370_69_7 km370_69_9 km370_69_11 fm370_74 (by omega) (by omega) (by omega) (by omega) (by omega) (by omega) (by omega) (by omega) (by omega) (by omega) (by omega) (by omega) (by omega) (by omega) (by omega) (by omega) (by omega) (by omega) (by omega))
                                · intro h372; omega
                              by_cases h373 : x349 = 43
                              · refine zw_112 (off := 89) (t := 90) zr_155_1 (by rw [h373]; rfl) rfl ?_
                                refine zw_push zr_155_90 ?_
                                refine zw_R zr_155_91 (by decide) zm_155 (v := (0, 4)) rfl ?_
                                rw [← hQ1]
                                show zW E (d) 161 396 [(2, 69), (0, i5), (0, i6), (0, i7), (0, r40)] [(0, 4)] m335 Q
                                refine zw_push zr_161_396 ?_
                                refine zw_41_4 zr_161_397 ?_ ?_
                                · intro h374
                                  refine zw_7 zr_161_416 rfl ?_
                                  refine zw_43 zr_161_417 rfl ?_
                                  refine zw_46i zr_161_418 km335_69_6 rfl rfl rfl ?_
                                  refine zw_push zr_161_421 ?_
                                  refine zw_16 zr_161_422 (by omega) ?_
                                  refine zw_47 (c := 69) zr_161_423 rfl ⟨rfl, by decide, rfl⟩ ?_
                                  intro m375 em375
                                  have hIm375 : zInv m375 := by rw [em375]; exact hIm335.bd (r := 69) (k := 6) (lo := 0) (hi := 50) rfl (by omega) (by decide) (by decide) (by decide)
                                  have hFm375 : zFr W_161 m0 m375 := by rw [em375]; exact hFm335.up rfl
                                  have km375_69_7 : m375 69 7 = p10 := by rw [em375, zUp_ne (by omega)]; exact km335_69_7
                                  have km375_69_11 : m375 69 11 = f336 := by rw [em375, zUp_ne (by omega)]; exact ef336
                                  have km375_69_9 : m375 69 9 = f337 := by rw [em375, zUp_ne (by omega)]; exact ef337
                                  have km375_69_6 : m375 69 6 = (f41 + 1) := by rw [em375]; exact zUp_eq _ _ _ _
                                  have fm375_74 : m375 74 = f13 := by rw [em375, zUp_fn (by decide)]; exact fm335_74
                                  clear em375
                                  refine zw_7 zr_161_426 rfl ?_
                                  refine zw_46r (s := 74) zr_161_427 rfl rfl rfl rfl ?_
                                  refine zw_7 zr_161_430 rfl ?_
                                  refine zw_46i zr_161_431 km375_69_11 rfl rfl rfl ?_
                                  refine zw_4 zr_161_434 rfl ?_
                                  refine zw_49 (c := 74) (len := 128) zr_161_436 rfl rfl (by omega) (by omega) ?_
                                  intro m376 em376
                                  have hIm376 : zInv m376 := by rw [em376]; exact iu_74 hIm375 (by omega)
                                  have hFm376 : zFr W_161 m0 m376 := by rw [em376]; exact hFm375.any rfl
                                  have km376_69_7 : m376 69 7 = p10 := by rw [em376, zUp_ne (by omega)]; exact km375_69_7
                                  have km376_69_11 : m376 69 11 = f336 := by rw [em376, zUp_ne (by omega)]; exact km375_69_11
                                  have km376_69_9 : m376 69 9 = f337 := by rw [em376, zUp_ne (by omega)]; exact km375_69_9
                                  have km376_69_6 : m376 69 6 = (f41 + 1) := by rw [em376, zUp_ne (by omega)]; exact km375_69_6
                                  have fm376_74 : m376 74 = zPt f13 ((f336).toNat) r40 := by rw [em376, zUp_ff, fm375_74]
                                  clear em376
                                  have z377 := zcp f13 (f336).toNat (f336 + 1).toNat (r40) (by omega)
                                  refine zw_7 zr_161_437 rfl ?_
                                  refine zw_43 zr_161_438 rfl ?_
                                  refine zw_46i zr_161_439 km376_69_11 rfl rfl rfl ?_
                                  refine zw_push zr_161_442 ?_
                                  refine zw_16 zr_161_443 (by omega) ?_
                                  refine zw_47 (c := 69) zr_161_444 rfl ⟨rfl, by decide, rfl⟩ ?_
                                  intro m378 em378
                                  have hIm378 : zInv m378 := by rw [em378]; exact hIm376.bd (r := 69) (k := 11) (lo := 0) (hi := 128) rfl (by omega) (by decide) (by decide) (by decide)
                                  have hFm378 : zFr W_161 m0 m378 := by rw [em378]; exact hFm376.up rfl
                                  have km378_69_7 : m378 69 7 = p10 := by rw [em378, zUp_ne (by omega)]; exact km376_69_7
                                  have km378_69_9 : m378 69 9 = f337 := by rw [em378, zUp_ne (by omega)]; exact km376_69_9
                                  have km378_69_6 : m378 69 6 = (f41 + 1) := by rw [em378, zUp_ne (by omega)]; exact km376_69_6
                                  have km378_69_11 : m378 69 11 = (f336 + 1) := by rw [em378]; exact zUp_eq _ _ _ _
                                  have fm378_74 : m378 74 = zPt f13 ((f336).toNat) r40 := by rw [em378, zUp_fn (by decide)]; exact fm376_74
                                  clear em378
                                  have z379 := zcd (zPt f13 ((f336).toNat) r40) ((f336 + 1)).toNat (f336).toNat
                                  refine zw_push zr_161_447 ?_
                                  refine zw_9 (L' := [(2, 69), (0, i5), (0, 1), (0, i7), (0, r40)]) zr_161_448 (Nat.le_of_ble_eq_true rfl) rfl ?_
                                  refine zw_42 zr_161_449 ?_
                                  refine zw_42 zr_161_485 ?_
                                  exact zw_less (L := [(2, 69), (0, i5), (0, 1), (0, i7), (9, 0)]) ⟨Or.inr rfl, Or.inr rfl, Or.inr rfl, Or.inr rfl, Or.inl rfl, trivial⟩ (ihlp26_14 (i5) (1) (i7) ((f41 + 1)) (p10) (f337) ((f336 + 1)) (zPt f13 ((f336).toNat) r40) m378 hIm378 hFm378  km378_69_6 km378_69_7 km378_69_9 km378_69_11 fm378_74 (by omega) (by omega) (by omega) (by omega) (by omega) (by omega) (by omega) (by omega) (by omega) (by omega) (by omega) (by omega) (by omega) (by omega) (by omega) (by omega) (by omega) (by omega) (by omega))
                                · intro h380; omega
                              by_cases h381 : x349 = 45
                              · refine zw_112 (off := 89) (t := 90) zr_155_1 (by rw [h381]; rfl) rfl ?_
                                refine zw_push zr_155_90 ?_
                                refine zw_R zr_155_91 (by decide) zm_155 (v := (0, 4)) rfl ?_
                                rw [← hQ1]
                                show zW E (d) 161 396 [(2, 69), (0, i5), (0, i6), (0, i7), (0, r40)] [(0, 4)] m335 Q
                                refine zw_push zr_161_396 ?_
                                refine zw_41_4 zr_161_397 ?_ ?_
                                · intro h382
                                  refine zw_7 zr_161_416 rfl ?_
                                  refine zw_43 zr_161_417 rfl ?_
                                  refine zw_46i zr_161_418 km335_69_6 rfl rfl rfl ?_
                                  refine zw_push zr_161_421 ?_
                                  refine zw_16 zr_161_422 (by omega) ?_
                                  refine zw_47 (c := 69) zr_161_423 rfl ⟨rfl, by decide, rfl⟩ ?_
                                  intro m383 em383
                                  have hIm383 : zInv m383 := by rw [em383]; exact hIm335.bd (r := 69) (k := 6) (lo := 0) (hi := 50) rfl (by omega) (by decide) (by decide) (by decide)
                                  have hFm383 : zFr W_161 m0 m383 := by rw [em383]; exact hFm335.up rfl
                                  have km383_69_7 : m383 69 7 = p10 := by rw [em383, zUp_ne (by omega)]; exact km335_69_7
                                  have km383_69_11 : m383 69 11 = f336 := by rw [em383, zUp_ne (by omega)]; exact ef336
                                  have km383_69_9 : m383 69 9 = f337 := by rw [em383, zUp_ne (by omega)]; exact ef337
                                  have km383_69_6 : m383 69 6 = (f41 + 1) := by rw [em383]; exact zUp_eq _ _ _ _
                                  have fm383_74 : m383 74 = f13 := by rw [em383, zUp_fn (by decide)]; exact fm335_74
                                  clear em383
                                  refine zw_7 zr_161_426 rfl ?_
                                  refine zw_46r (s := 74) zr_161_427 rfl rfl rfl rfl ?_
                                  refine zw_7 zr_161_430 rfl ?_
                                  refine zw_46i zr_161_431 km383_69_11 rfl rfl rfl ?_
                                  refine zw_4 zr_161_434 rfl ?_
                                  refine zw_49 (c := 74) (len := 128) zr_161_436 rfl rfl (by omega) (by omega) ?_
                                  intro m384 em384
                                  have hIm384 : zInv m384 := by rw [em384]; exact iu_74 hIm383 (by omega)
                                  have hFm384 : zFr W_161 m0 m384 := by rw [em384]; exact hFm383.any rfl
                                  have km384_69_7 : m384 69 7 = p10 := by rw [em384, zUp_ne (by omega)]; exact km383_69_7
                                  have km384_69_11 : m384 69 11 = f336 := by rw [em384, zUp_ne (by omega)]; exact km383_69_11
                                  have km384_69_9 : m384 69 9 = f337 := by rw [em384, zUp_ne (by omega)]; exact km383_69_9
                                  have km384_69_6 : m384 69 6 = (f41 + 1) := by rw [em384, zUp_ne (by omega)]; exact km383_69_6
                                  have fm384_74 : m384 74 = zPt f13 ((f336).toNat) r40 := by rw [em384, zUp_ff, fm383_74]
                                  clear em384
                                  have z385 := zcp f13 (f336).toNat (f336 + 1).toNat (r40) (by omega)
                                  refine zw_7 zr_161_437 rfl ?_
                                  refine zw_43 zr_161_438 rfl ?_
                                  refine zw_46i zr_161_439 km384_69_11 rfl rfl rfl ?_
                                  refine zw_push zr_161_442 ?_
                                  refine zw_16 zr_161_443 (by omega) ?_
                                  refine zw_47 (c := 69) zr_161_444 rfl ⟨rfl, by decide, rfl⟩ ?_
                                  intro m386 em386
                                  have hIm386 : zInv m386 := by rw [em386]; exact hIm384.bd (r := 69) (k := 11) (lo := 0) (hi := 128) rfl (by omega) (by decide) (by decide) (by decide)
                                  have hFm386 : zFr W_161 m0 m386 := by rw [em386]; exact hFm384.up rfl
                                  have km386_69_7 : m386 69 7 = p10 := by rw [em386, zUp_ne (by omega)]; exact km384_69_7
                                  have km386_69_9 : m386 69 9 = f337 := by rw [em386, zUp_ne (by omega)]; exact km384_69_9
                                  have km386_69_6 : m386 69 6 = (f41 + 1) := by rw [em386, zUp_ne (by omega)]; exact km384_69_6
                                  have km386_69_11 : m386 69 11 = (f336 + 1) := by rw [em386]; exact zUp_eq _ _ _ _
                                  have fm386_74 : m386 74 = zPt f13 ((f336).toNat) r40 := by rw [em386, zUp_fn (by decide)]; exact fm384_74
                                  clear em386
                                  have z387 := zcd (zPt f13 ((f336).toNat) r40) ((f336 + 1)).toNat (f336).toNat
                                  refine zw_push zr_161_447 ?_
                                  refine zw_9 (L' := [(2, 69), (0, i5), (0, 1), (0, i7), (0, r40)]) zr_161_448 (Nat.le_of_ble_eq_true rfl) rfl ?_
                                  refine zw_42 zr_161_449 ?_
                                  refine zw_42 zr_161_485 ?_
                                  exact zw_less (L := [(2, 69), (0, i5), (0, 1), (0, i7), (9, 0)]) ⟨Or.inr rfl, Or.inr rfl, Or.inr rfl, Or.inr rfl, Or.inl rfl, trivial⟩ (ihlp26_14 (i5) (1) (i7) ((f41 + 1)) (p10) (f337) ((f336 + 1)) (zPt f13 ((f336).toNat) r40) m386 hIm386 hFm386  km386_69_6 km386_69_7 km386_69_9 km386_69_11 fm386_74 (by omega) (by omega) (by omega) (by omega) (by omega) (by omega) (by omega) (by omega) (by omega) (by omega) (by omega) (by omega) (by omega) (by omega) (by omega) (by omega) (by omega) (by omega) (by omega))
                                · intro h388; omega
                              by_cases h389 : x349 = 47
                              · refine zw_112 (off := 91) (t := 92) zr_155_1 (by rw [h389]; rfl) rfl ?_
                                refine zw_push zr_155_92 ?_
                                refine zw_R zr_155_93 (by decide) zm_155 (v := (0, 5)) rfl ?_
                                rw [← hQ1]
                                show zW E (d) 161 396 [(2, 69), (0, i5), (0, i6), (0, i7), (0, r40)] [(0, 5)] m335 Q
                                refine zw_push zr_161_396 ?_
                                refine zw_41_4 zr_161_397 ?_ ?_
                                · intro h390
                                  refine zw_7 zr_161_416 rfl ?_
                                  refine zw_43 zr_161_417 rfl ?_
                                  refine zw_46i zr_161_418 km335_69_6 rfl rfl rfl ?_
                                  refine zw_push zr_161_421 ?_
                                  refine zw_16 zr_161_422 (by omega) ?_
                                  refine zw_47 (c := 69) zr_161_423 rfl ⟨rfl, by decide, rfl⟩ ?_
                                  intro m391 em391
                                  have hIm391 : zInv m391 := by rw [em391]; exact hIm335.bd (r := 69) (k := 6) (lo := 0) (hi := 50) rfl (by omega) (by decide) (by decide) (by decide)
                                  have hFm391 : zFr W_161 m0 m391 := by rw [em391]; exact hFm335.up rfl
                                  have km391_69_7 : m391 69 7 = p10 := by rw [em391, zUp_ne (by omega)]; exact km335_69_7
                                  have km391_69_11 : m391 69 11 = f336 := by rw [em391, zUp_ne (by omega)]; exact ef336
                                  have km391_69_9 : m391 69 9 = f337 := by rw [em391, zUp_ne (by omega)]; exact ef337
                                  have km391_69_6 : m391 69 6 = (f41 + 1) := by rw [em391]; exact zUp_eq _ _ _ _
                                  have fm391_74 : m391 74 = f13 := by rw [em391, zUp_fn (by decide)]; exact fm335_74
                                  clear em391
                                  refine zw_7 zr_161_426 rfl ?_
                                  refine zw_46r (s := 74) zr_161_427 rfl rfl rfl rfl ?_
                                  refine zw_7 zr_161_430 rfl ?_
                                  refine zw_46i zr_161_431 km391_69_11 rfl rfl rfl ?_
                                  refine zw_4 zr_161_434 rfl ?_
                                  refine zw_49 (c := 74) (len := 128) zr_161_436 rfl rfl (by omega) (by omega) ?_
                                  intro m392 em392
                                  have hIm392 : zInv m392 := by rw [em392]; exact iu_74 hIm391 (by omega)
                                  have hFm392 : zFr W_161 m0 m392 := by rw [em392]; exact hFm391.any rfl
                                  have km392_69_7 : m392 69 7 = p10 := by rw [em392, zUp_ne (by omega)]; exact km391_69_7
                                  have km392_69_11 : m392 69 11 = f336 := by rw [em392, zUp_ne (by omega)]; exact km391_69_11
                                  have km392_69_9 : m392 69 9 = f337 := by rw [em392, zUp_ne (by omega)]; exact km391_69_9
                                  have km392_69_6 : m392 69 6 = (f41 + 1) := by rw [em392, zUp_ne (by omega)]; exact km391_69_6
                                  have fm392_74 : m392 74 = zPt f13 ((f336).toNat) r40 := by rw [em392, zUp_ff, fm391_74]
                                  clear em392
                                  have z393 := zcp f13 (f336).toNat (f336 + 1).toNat (r40) (by omega)
                                  refine zw_7 zr_161_437 rfl ?_
                                  refine zw_43 zr_161_438 rfl ?_
                                  refine zw_46i zr_161_439 km392_69_11 rfl rfl rfl ?_
                                  refine zw_push zr_161_442 ?_
                                  refine zw_16 zr_161_443 (by omega) ?_
                                  refine zw_47 (c := 69) zr_161_444 rfl ⟨rfl, by decide, rfl⟩ ?_
                                  intro m394 em394
                                  have hIm394 : zInv m394 := by rw [em394]; exact hIm392.bd (r := 69) (k := 11) (lo := 0) (hi := 128) rfl (by omega) (by decide) (by decide) (by decide)
                                  have hFm394 : zFr W_161 m0 m394 := by rw [em394]; exact hFm392.up rfl
                                  have km394_69_7 : m394 69 7 = p10 := by rw [em394, zUp_ne (by omega)]; exact km392_69_7
                                  have km394_69_9 : m394 69 9 = f337 := by rw [em394, zUp_ne (by omega)]; exact km392_69_9
                                  have km394_69_6 : m394 69 6 = (f41 + 1) := by rw [em394, zUp_ne (by omega)]; exact km392_69_6
                                  have km394_69_11 : m394 69 11 = (f336 + 1) := by rw [em394]; exact zUp_eq _ _ _ _
                                  have fm394_74 : m394 74 = zPt f13 ((f336).toNat) r40 := by rw [em394, zUp_fn (by decide)]; exact fm392_74
                                  clear em394
                                  have z395 := zcd (zPt f13 ((f336).toNat) r40) ((f336 + 1)).toNat (f336).toNat
                                  refine zw_push zr_161_447 ?_
                                  refine zw_9 (L' := [(2, 69), (0, i5), (0, 1), (0, i7), (0, r40)]) zr_161_448 (Nat.le_of_ble_eq_true rfl) rfl ?_
                                  refine zw_42 zr_161_449 ?_
                                  refine zw_42 zr_161_485 ?_
                                  exact zw_less (L := [(2, 69), (0, i5), (0, 1), (0, i7), (9, 0)]) ⟨Or.inr rfl, Or.inr rfl, Or.inr rfl, Or.inr rfl, Or.inl rfl, trivial⟩ (ihlp26_14 (i5) (1) (i7) ((f41 + 1)) (p10) (f337) ((f336 + 1)) (zPt f13 ((f336).toNat) r40) m394 hIm394 hFm394  km394_69_6 km394_69_7 km394_69_9 km394_69_11 fm394_74 (by omega) (by omega) (by omega) (by omega) (by omega) (by omega) (by omega) (by omega) (by omega) (by omega) (by omega) (by omega) (by omega) (by omega) (by omega) (by omega) (by omega) (by omega) (by omega))
                                · intro h396; omega
                              by_cases h397 : x349 = 60
                              · refine zw_112 (off := 87) (t := 88) zr_155_1 (by rw [h397]; rfl) rfl ?_
                                refine zw_push zr_155_88 ?_
                                refine zw_R zr_155_89 (by decide) zm_155 (v := (0, 3)) rfl ?_
                                rw [← hQ1]
                                show zW E (d) 161 396 [(2, 69), (0, i5), (0, i6), (0, i7), (0, r40)] [(0, 3)] m335 Q
                                refine zw_push zr_161_396 ?_
                                refine zw_41_4 zr_161_397 ?_ ?_
                                · intro h398; omega
                                · intro h399
                                  refine zw_7 zr_161_400 rfl ?_
                                  refine zw_push zr_161_401 ?_
                                  refine zw_7 zr_161_403 rfl ?_
                                  refine zw_46i zr_161_404 km335_69_6 rfl rfl rfl ?_
                                  refine zw_18 zr_161_407 (by omega) ?_
                                  refine zw_push zr_161_408 ?_
                                  refine zw_16 zr_161_409 (by omega) ?_
                                  refine zw_47 (c := 69) zr_161_410 rfl ⟨rfl, by decide, rfl⟩ ?_
                                  intro m400 em400
                                  have hIm400 : zInv m400 := by rw [em400]; exact hIm335.any (by omega) rfl (by decide) (by decide)
                                  have hFm400 : zFr W_161 m0 m400 := by rw [em400]; exact hFm335.up rfl
                                  have km400_69_6 : m400 69 6 = f41 := by rw [em400, zUp_ne (by omega)]; exact km335_69_6
                                  have km400_69_11 : m400 69 11 = f336 := by rw [em400, zUp_ne (by omega)]; exact ef336
                                  have km400_69_9 : m400 69 9 = f337 := by rw [em400, zUp_ne (by omega)]; exact ef337
                                  have km400_69_7 : m400 69 7 = ((10 * f41) + 1) := by rw [em400]; exact zUp_eq _ _ _ _
                                  have fm400_74 : m400 74 = f13 := by rw [em400, zUp_fn (by decide)]; exact fm335_74
                                  clear em400
                                  refine zw_42 zr_161_413 ?_
                                  refine zw_42 zr_161_485 ?_
                                  exact zw_less (L := [(2, 69), (0, i5), (0, i6), (0, i7), (9, 0)]) ⟨Or.inr rfl, Or.inr rfl, Or.inr rfl, Or.inr rfl, Or.inl rfl, trivial⟩ (ihlp26_14 (i5) (i6) (i7) (f41) (((10 * f41) + 1)) (f337) (f336) (f13) m400 hIm400 hFm400  km400_69_6 km400_69_7 km400_69_9 km400_69_11 fm400_74 (by omega) (by omega) (by omega) (by omega) (by omega) (by omega) (by omega) (by omega) (by omega) (by omega) (by omega) (by omega) (by omega) (by omega) (by omega) (by omega) (by omega) (by omega) (by omega))
                              by_cases h401 : x349 = 61
                              · refine zw_112 (off := 87) (t := 88) zr_155_1 (by rw [h401]; rfl) rfl ?_
                                refine zw_push zr_155_88 ?_
                                refine zw_R zr_155_89 (by decide) zm_155 (v := (0, 3)) rfl ?_
                                rw [← hQ1]
                                show zW E (d) 161 396 [(2, 69), (0, i5), (0, i6), (0, i7), (0, r40)] [(0, 3)] m335 Q
                                refine zw_push zr_161_396 ?_
                                refine zw_41_4 zr_161_397 ?_ ?_
                                · intro h402; omega
                                · intro h403
                                  refine zw_7 zr_161_400 rfl ?_
                                  refine zw_push zr_161_401 ?_
                                  refine zw_7 zr_161_403 rfl ?_
                                  refine zw_46i zr_161_404 km335_69_6 rfl rfl rfl ?_
                                  refine zw_18 zr_161_407 (by omega) ?_
                                  refine zw_push zr_161_408 ?_
                                  refine zw_16 zr_161_409 (by omega) ?_
                                  refine zw_47 (c := 69) zr_161_410 rfl ⟨rfl, by decide, rfl⟩ ?_
                                  intro m404 em404
                                  have hIm404 : zInv m404 := by rw [em404]; exact hIm335.any (by omega) rfl (by decide) (by decide)
                                  have hFm404 : zFr W_161 m0 m404 := by rw [em404]; exact hFm335.up rfl
                                  have km404_69_6 : m404 69 6 = f41 := by rw [em404, zUp_ne (by omega)]; exact km335_69_6
                                  have km404_69_11 : m404 69 11 = f336 := by rw [em404, zUp_ne (by omega)]; exact ef336
                                  have km404_69_9 : m404 69 9 = f337 := by rw [em404, zUp_ne (by omega)]; exact ef337
                                  have km404_69_7 : m404 69 7 = ((10 * f41) + 1) := by rw [em404]; exact zUp_eq _ _ _ _
                                  have fm404_74 : m404 74 = f13 := by rw [em404, zUp_fn (by decide)]; exact fm335_74
                                  clear em404
                                  refine zw_42 zr_161_413 ?_
                                  refine zw_42 zr_161_485 ?_
                                  exact zw_less (L := [(2, 69), (0, i5), (0, i6), (0, i7), (9, 0)]) ⟨Or.inr rfl, Or.inr rfl, Or.inr rfl, Or.inr rfl, Or.inl rfl, trivial⟩ (ihlp26_14 (i5) (i6) (i7) (f41) (((10 * f41) + 1)) (f337) (f336) (f13) m404 hIm404 hFm404  km404_69_6 km404_69_7 km404_69_9 km404_69_11 fm404_74 (by omega) (by omega) (by omega) (by omega) (by omega) (by omega) (by omega) (by omega) (by omega) (by omega) (by omega) (by omega) (by omega) (by omega) (by omega) (by omega) (by omega) (by omega) (by omega))
                              by_cases h405 : x349 = 62
                              · refine zw_112 (off := 87) (t := 88) zr_155_1 (by rw [h405]; rfl) rfl ?_
                                refine zw_push zr_155_88 ?_
                                refine zw_R zr_155_89 (by decide) zm_155 (v := (0, 3)) rfl ?_
                                rw [← hQ1]
                                show zW E (d) 161 396 [(2, 69), (0, i5), (0, i6), (0, i7), (0, r40)] [(0, 3)] m335 Q
                                refine zw_push zr_161_396 ?_
                                refine zw_41_4 zr_161_397 ?_ ?_
                                · intro h406; omega
                                · intro h407
                                  refine zw_7 zr_161_400 rfl ?_
                                  refine zw_push zr_161_401 ?_
                                  refine zw_7 zr_161_403 rfl ?_
                                  refine zw_46i zr_161_404 km335_69_6 rfl rfl rfl ?_
                                  refine zw_18 zr_161_407 (by omega) ?_
                                  refine zw_push zr_161_408 ?_
                                  refine zw_16 zr_161_409 (by omega) ?_
                                  refine zw_47 (c := 69) zr_161_410 rfl ⟨rfl, by decide, rfl⟩ ?_
                                  intro m408 em408
                                  have hIm408 : zInv m408 := by rw [em408]; exact hIm335.any (by omega) rfl (by decide) (by decide)
                                  have hFm408 : zFr W_161 m0 m408 := by rw [em408]; exact hFm335.up rfl
                                  have km408_69_6 : m408 69 6 = f41 := by rw [em408, zUp_ne (by omega)]; exact km335_69_6
                                  have km408_69_11 : m408 69 11 = f336 := by rw [em408, zUp_ne (by omega)]; exact ef336
                                  have km408_69_9 : m408 69 9 = f337 := by rw [em408, zUp_ne (by omega)]; exact ef337
                                  have km408_69_7 : m408 69 7 = ((10 * f41) + 1) := by rw [em408]; exact zUp_eq _ _ _ _
                                  have fm408_74 : m408 74 = f13 := by rw [em408, zUp_fn (by decide)]; exact fm335_74
                                  clear em408
                                  refine zw_42 zr_161_413 ?_
                                  refine zw_42 zr_161_485 ?_
                                  exact zw_less (L := [(2, 69), (0, i5), (0, i6), (0, i7), (9, 0)]) ⟨Or.inr rfl, Or.inr rfl, Or.inr rfl, Or.inr rfl, Or.inl rfl, trivial⟩ (ihlp26_14 (i5) (i6) (i7) (f41) (((10 * f41) + 1)) (f337) (f336) (f13) m408 hIm408 hFm408  km408_69_6 km408_69_7 km408_69_9 km408_69_11 fm408_74 (by omega) (by omega) (by omega) (by omega) (by omega) (by omega) (by omega) (by omega) (by omega) (by omega) (by omega) (by omega) (by omega) (by omega) (by omega) (by omega) (by omega) (by omega) (by omega))
                              by_cases h409 : x349 = 124
                              · refine zw_112 (off := 83) (t := 84) zr_155_1 (by rw [h409]; rfl) rfl ?_
                                refine zw_push zr_155_84 ?_
                                refine zw_R zr_155_85 (by decide) zm_155 (v := (0, 1)) rfl ?_
                                rw [← hQ1]
                                show zW E (d) 161 396 [(2, 69), (0, i5), (0, i6), (0, i7), (0, r40)] [(0, 1)] m335 Q
                                refine zw_push zr_161_396 ?_
                                refine zw_41_4 zr_161_397 ?_ ?_
                                · intro h410
                                  refine zw_7 zr_161_416 rfl ?_
                                  refine zw_43 zr_161_417 rfl ?_
                                  refine zw_46i zr_161_418 km335_69_6 rfl rfl rfl ?_
                                  refine zw_push zr_161_421 ?_
                                  refine zw_16 zr_161_422 (by omega) ?_
                                  refine zw_47 (c := 69) zr_161_423 rfl ⟨rfl, by decide, rfl⟩ ?_
                                  intro m411 em411
                                  have hIm411 : zInv m411 := by rw [em411]; exact hIm335.bd (r := 69) (k := 6) (lo := 0) (hi := 50) rfl (by omega) (by decide) (by decide) (by decide)
                                  have hFm411 : zFr W_161 m0 m411 := by rw [em411]; exact hFm335.up rfl
                                  have km411_69_7 : m411 69 7 = p10 := by rw [em411, zUp_ne (by omega)]; exact km335_69_7
                                  have km411_69_11 : m411 69 11 = f336 := by rw [em411, zUp_ne (by omega)]; exact ef336
                                  have km411_69_9 : m411 69 9 = f337 := by rw [em411, zUp_ne (by omega)]; exact ef337
                                  have km411_69_6 : m411 69 6 = (f41 + 1) := by rw [em411]; exact zUp_eq _ _ _ _
                                  have fm411_74 : m411 74 = f13 := by rw [em411, zUp_fn (by decide)]; exact fm335_74
                                  clear em411
                                  refine zw_7 zr_161_426 rfl ?_
                                  refine zw_46r (s := 74) zr_161_427 rfl rfl rfl rfl ?_
                                  refine zw_7 zr_161_430 rfl ?_
                                  refine zw_46i zr_161_431 km411_69_11 rfl rfl rfl ?_
                                  refine zw_4 zr_161_434 rfl ?_
                                  refine zw_49 (c := 74) (len := 128) zr_161_436 rfl rfl (by omega) (by omega) ?_
                                  intro m412 em412
                                  have hIm412 : zInv m412 := by rw [em412]; exact iu_74 hIm411 (by omega)
                                  have hFm412 : zFr W_161 m0 m412 := by rw [em412]; exact hFm411.any rfl
                                  have km412_69_7 : m412 69 7 = p10 := by rw [em412, zUp_ne (by omega)]; exact km411_69_7
                                  have km412_69_11 : m412 69 11 = f336 := by rw [em412, zUp_ne (by omega)]; exact km411_69_11
                                  have km412_69_9 : m412 69 9 = f337 := by rw [em412, zUp_ne (by omega)]; exact km411_69_9
                                  have km412_69_6 : m412 69 6 = (f41 + 1) := by rw [em412, zUp_ne (by omega)]; exact km411_69_6
                                  have fm412_74 : m412 74 = zPt f13 ((f336).toNat) r40 := by rw [em412, zUp_ff, fm411_74]
                                  clear em412
                                  have z413 := zcp f13 (f336).toNat (f336 + 1).toNat (r40) (by omega)
                                  refine zw_7 zr_161_437 rfl ?_
                                  refine zw_43 zr_161_438 rfl ?_
                                  refine zw_46i zr_161_439 km412_69_11 rfl rfl rfl ?_
                                  refine zw_push zr_161_442 ?_
                                  refine zw_16 zr_161_443 (by omega) ?_
                                  refine zw_47 (c := 69) zr_161_444 rfl ⟨rfl, by decide, rfl⟩ ?_
                                  intro m414 em414
                                  have hIm414 : zInv m414 := by rw [em414]; exact hIm412.bd (r := 69) (k := 11) (lo := 0) (hi := 128) rfl (by omega) (by decide) (by decide) (by decide)
                                  have hFm414 : zFr W_161 m0 m414 := by rw [em414]; exact hFm412.up rfl
                                  have km414_69_7 : m414 69 7 = p10 := by rw [em414, zUp_ne (by omega)]; exact km412_69_7
                                  have km414_69_9 : m414 69 9 = f337 := by rw [em414, zUp_ne (by omega)]; exact km412_69_9
                                  have km414_69_6 : m414 69 6 = (f41 + 1) := by rw [em414, zUp_ne (by omega)]; exact km412_69_6
                                  have km414_69_11 : m414 69 11 = (f336 + 1) := by rw [em414]; exact zUp_eq _ _ _ _
                                  have fm414_74 : m414 74 = zPt f13 ((f336).toNat) r40 := by rw [em414, zUp_fn (by decide)]; exact fm412_74
                                  clear em414
                                  have z415 := zcd (zPt f13 ((f336).toNat) r40) ((f336 + 1)).toNat (f336).toNat
                                  refine zw_push zr_161_447 ?_
                                  refine zw_9 (L' := [(2, 69), (0, i5), (0, 1), (0, i7), (0, r40)]) zr_161_448 (Nat.le_of_ble_eq_true rfl) rfl ?_
                                  refine zw_42 zr_161_449 ?_
                                  refine zw_42 zr_161_485 ?_
                                  exact zw_less (L := [(2, 69), (0, i5), (0, 1), (0, i7), (9, 0)]) ⟨Or.inr rfl, Or.inr rfl, Or.inr rfl, Or.inr rfl, Or.inl rfl, trivial⟩ (ihlp26_14 (i5) (1) (i7) ((f41 + 1)) (p10) (f337) ((f336 + 1)) (zPt f13 ((f336).toNat) r40) m414 hIm414 hFm414  km414_69_6 km414_69_7 km414_69_9 km414_69_11 fm414_74 (by omega) (by omega) (by omega) (by omega) (by omega) (by omega) (by omega) (by omega) (by omega) (by omega) (by omega) (by omega) (by omega) (by omega) (by omega) (by omega) (by omega) (by omega) (by omega))
                                · intro h416; omega
                              refine zw_112 (off := 93) (t := 94) zr_155_1 (zlsw_df (by simp; omega)) rfl ?_
                              refine zw_push zr_155_94 ?_
                              refine zw_R zr_155_95 (by decide) zm_155 (v := (0, 0)) rfl ?_
                              rw [← hQ1]
                              show zW E (d) 161 396 [(2, 69), (0, i5), (0, i6), (0, i7), (0, r40)] [(0, 0)] m335 Q
                              refine zw_push zr_161_396 ?_
                              refine zw_41_4 zr_161_397 ?_ ?_
                              · intro h417
                                refine zw_7 zr_161_416 rfl ?_
                                refine zw_43 zr_161_417 rfl ?_
                                refine zw_46i zr_161_418 km335_69_6 rfl rfl rfl ?_
                                refine zw_push zr_161_421 ?_
                                refine zw_16 zr_161_422 (by omega) ?_
                                refine zw_47 (c := 69) zr_161_423 rfl ⟨rfl, by decide, rfl⟩ ?_
                                intro m418 em418
                                have hIm418 : zInv m418 := by rw [em418]; exact hIm335.bd (r := 69) (k := 6) (lo := 0) (hi := 50) rfl (by omega) (by decide) (by decide) (by decide)
                                have hFm418 : zFr W_161 m0 m418 := by rw [em418]; exact hFm335.up rfl
                                have km418_69_7 : m418 69 7 = p10 := by rw [em418, zUp_ne (by omega)]; exact km335_69_7
                                have km418_69_11 : m418 69 11 = f336 := by rw [em418, zUp_ne (by omega)]; exact ef336
                                have km418_69_9 : m418 69 9 = f337 := by rw [em418, zUp_ne (by omega)]; exact ef337
                                have km418_69_6 : m418 69 6 = (f41 + 1) := by rw [em418]; exact zUp_eq _ _ _ _
                                have fm418_74 : m418 74 = f13 := by rw [em418, zUp_fn (by decide)]; exact fm335_74
                                clear em418
                                refine zw_7 zr_161_426 rfl ?_
                                refine zw_46r (s := 74) zr_161_427 rfl rfl rfl rfl ?_
                                refine zw_7 zr_161_430 rfl ?_
                                refine zw_46i zr_161_431 km418_69_11 rfl rfl rfl ?_
                                refine zw_4 zr_161_434 rfl ?_
                                refine zw_49 (c := 74) (len := 128) zr_161_436 rfl rfl (by omega) (by omega) ?_
                                intro m419 em419
                                have hIm419 : zInv m419 := by rw [em419]; exact iu_74 hIm418 (by omega)
                                have hFm419 : zFr W_161 m0 m419 := by rw [em419]; exact hFm418.any rfl
                                have km419_69_7 : m419 69 7 = p10 := by rw [em419, zUp_ne (by omega)]; exact km418_69_7
                                have km419_69_11 : m419 69 11 = f336 := by rw [em419, zUp_ne (by omega)]; exact km418_69_11
                                have km419_69_9 : m419 69 9 = f337 := by rw [em419, zUp_ne (by omega)]; exact km418_69_9
                                have km419_69_6 : m419 69 6 = (f41 + 1) := by rw [em419, zUp_ne (by omega)]; exact km418_69_6
                                have fm419_74 : m419 74 = zPt f13 ((f336).toNat) r40 := by rw [em419, zUp_ff, fm418_74]
                                clear em419
                                have z420 := zcp f13 (f336).toNat (f336 + 1).toNat (r40) (by omega)
                                refine zw_7 zr_161_437 rfl ?_
                                refine zw_43 zr_161_438 rfl ?_
                                refine zw_46i zr_161_439 km419_69_11 rfl rfl rfl ?_
                                refine zw_push zr_161_442 ?_
                                refine zw_16 zr_161_443 (by omega) ?_
                                refine zw_47 (c := 69) zr_161_444 rfl ⟨rfl, by decide, rfl⟩ ?_
                                intro m421 em421
                                have hIm421 : zInv m421 := by rw [em421]; exact hIm419.bd (r := 69) (k := 11) (lo := 0) (hi := 128) rfl (by omega) (by decide) (by decide) (by decide)
                                have hFm421 : zFr W_161 m0 m421 := by rw [em421]; exact hFm419.up rfl
                                have km421_69_7 : m421 69 7 = p10 := by rw [em421, zUp_ne (by omega)]; exact km419_69_7
                                have km421_69_9 : m421 69 9 = f337 := by rw [em421, zUp_ne (by omega)]; exact km419_69_9
                                have km421_69_6 : m421 69 6 = (f41 + 1) := by rw [em421, zUp_ne (by omega)]; exact km419_69_6
                                have km421_69_11 : m421 69 11 = (f336 + 1) := by rw [em421]; exact zUp_eq _ _ _ _
                                have fm421_74 : m421 74 = zPt f13 ((f336).toNat) r40 := by rw [em421, zUp_fn (by decide)]; exact fm419_74
                                clear em421
                                have z422 := zcd (zPt f13 ((f336).toNat) r40) ((f336 + 1)).toNat (f336).toNat
                                refine zw_push zr_161_447 ?_
                                refine zw_9 (L' := [(2, 69), (0, i5), (0, 1), (0, i7), (0, r40)]) zr_161_448 (Nat.le_of_ble_eq_true rfl) rfl ?_
                                refine zw_42 zr_161_449 ?_
                                refine zw_42 zr_161_485 ?_
                                exact zw_less (L := [(2, 69), (0, i5), (0, 1), (0, i7), (9, 0)]) ⟨Or.inr rfl, Or.inr rfl, Or.inr rfl, Or.inr rfl, Or.inl rfl, trivial⟩ (ihlp26_14 (i5) (1) (i7) ((f41 + 1)) (p10) (f337) ((f336 + 1)) (zPt f13 ((f336).toNat) r40) m421 hIm421 hFm421  km421_69_6 km421_69_7 km421_69_9 km421_69_11 fm421_74 (by omega) (by omega) (by omega) (by omega) (by omega) (by omega) (by omega) (by omega) (by omega) (by omega) (by omega) (by omega) (by omega) (by omega) (by omega) (by omega) (by omega) (by omega) (by omega))
                              · intro h423; omega
                      exfalso; omega
                  exfalso; omega
              by_cases h424 : r40 = 124
              · refine zw_112 (off := 83) (t := 84) zr_155_1 (by rw [h424]; rfl) rfl ?_
                refine zw_push zr_155_84 ?_
                refine zw_R zr_155_85 (by decide) zm_155 (v := (0, 1)) rfl ?_
                rw [← hQ1]
                show zW E (d) 161 324 [(2, 69), (0, i5), (0, i6), (0, i7), (0, r40)] [(0, 1)] m39 Q
                refine zw_40_5 zr_161_324 ?_ ?_
                · intro h425; omega
                · intro h426
                  refine zw_7 zr_161_327 rfl ?_
                  refine zw_4 zr_161_328 rfl ?_
                  refine zw_C zr_161_330 (Or.inr rfl) zm_155 rfl rfl ⟨Nat.le_of_ble_eq_true rfl, Nat.le_of_ble_eq_true rfl, Nat.le_of_ble_eq_true rfl, rfl, by decide⟩ (by omega) (P := (fun v m' => zW E (d) 161 333 [(2, 69), (0, i5), (0, i6), (0, i7), (0, r40)] (if v.1 = 9 then [(2, 69)] else v :: [(2, 69)]) m' Q)) ?_ (fun _ _ h => h)
                  generalize hQ1 : (fun v m' => zW E (d) 161 333 [(2, 69), (0, i5), (0, i6), (0, i7), (0, r40)] (if v.1 = 9 then [(2, 69)] else v :: [(2, 69)]) m' Q) = Q1
                  show zW E (d - 1) 155 0 [(0, r40)] [] m39 Q1
                  refine zw_3 zr_155_0 rfl ?_
                  by_cases h427 : r40 = 124
                  · refine zw_112 (off := 83) (t := 84) zr_155_1 (by rw [h427]; rfl) rfl ?_
                    refine zw_push zr_155_84 ?_
                    refine zw_R zr_155_85 (by decide) zm_155 (v := (0, 1)) rfl ?_
                    rw [← hQ1]
                    show zW E (d) 161 333 [(2, 69), (0, i5), (0, i6), (0, i7), (0, r40)] [(0, 1), (2, 69)] m39 Q
                    refine zw_push zr_161_333 ?_
                    refine zw_41_4 zr_161_334 ?_ ?_
                    · intro h428
                      refine zw_4 zr_161_341 rfl ?_
                      refine zw_C zr_161_343 (Or.inr rfl) zm_155 rfl rfl ⟨Nat.le_of_ble_eq_true rfl, Nat.le_of_ble_eq_true rfl, Nat.le_of_ble_eq_true rfl, rfl, by decide⟩ (by omega) (P := (fun v m' => zW E (d) 161 346 [(2, 69), (0, i5), (0, i6), (0, i7), (0, r40)] (if v.1 = 9 then [(2, 69)] else v :: [(2, 69)]) m' Q)) ?_ (fun _ _ h => h)
                      generalize hQ1 : (fun v m' => zW E (d) 161 346 [(2, 69), (0, i5), (0, i6), (0, i7), (0, r40)] (if v.1 = 9 then [(2, 69)] else v :: [(2, 69)]) m' Q) = Q1
                      show zW E (d - 1) 155 0 [(0, r40)] [] m39 Q1
                      refine zw_3 zr_155_0 rfl ?_
                      by_cases h429 : r40 = 124
                      · refine zw_112 (off := 83) (t := 84) zr_155_1 (by rw [h429]; rfl) rfl ?_
                        refine zw_push zr_155_84 ?_
                        refine zw_R zr_155_85 (by decide) zm_155 (v := (0, 1)) rfl ?_
                        rw [← hQ1]
                        show zW E (d) 161 346 [(2, 69), (0, i5), (0, i6), (0, i7), (0, r40)] [(0, 1), (2, 69)] m39 Q
                        refine zw_C zr_161_346 (Or.inl rfl) zm_157 rfl rfl ⟨Nat.le_of_ble_eq_true rfl, Nat.le_of_ble_eq_true rfl, Nat.le_of_ble_eq_true rfl, rfl, by decide⟩ (by omega) (th_157 (d := d - 1) (by omega) hIm39 (a0 := 1) (g0 := p12) (g1 := p11)  (F74 := f13) km39_69_11 km39_69_9 fm39_74 (by omega) (by omega)) ?_
                        rintro _ m430 ⟨rfl, hIm430, gm430, po0_m430, po1_m430, po2_m430, po3_m430⟩
                        have hFm430 : zFr W_161 m0 m430 := hFm39.trans gm430 rfl
                        have km430_69_7 : m430 69 7 = p10 := (gm430 69 7 rfl).trans km39_69_7
                        have km430_69_6 : m430 69 6 = f41 := (gm430 69 6 rfl).trans ef41
                        have fm430_74 : m430 74 = f13 := (funext fun k => gm430 74 k rfl).trans fm39_74
                        obtain ⟨f431, ef431⟩ : ∃ v, m430 69 11 = v := ⟨_, rfl⟩
                        have bf431 := ib_69_11 hIm430
                        rw [ef431] at bf431
                        rw [ef431] at po0_m430
                        rw [ef431] at po2_m430
                        rw [ef431] at po3_m430
                        obtain ⟨f432, ef432⟩ : ∃ v, m430 69 9 = v := ⟨_, rfl⟩
                        have bf432 := ib_69_9 hIm430
                        rw [ef432] at bf432
                        rw [ef432] at po1_m430
                        rw [ef432] at po2_m430
                        show zW E (d) 161 349 [(2, 69), (0, i5), (0, i6), (0, i7), (0, r40)] [] m430 Q
                        have z433 := cB_nn f13 (f431).toNat
                        refine zw_4 zr_161_349 rfl ?_
                        refine zw_C zr_161_351 (Or.inr rfl) zm_155 rfl rfl ⟨Nat.le_of_ble_eq_true rfl, Nat.le_of_ble_eq_true rfl, Nat.le_of_ble_eq_true rfl, rfl, by decide⟩ (by omega) (P := (fun v m' => zW E (d) 161 354 [(2, 69), (0, i5), (0, i6), (0, i7), (0, r40)] (if v.1 = 9 then [] else v :: []) m' Q)) ?_ (fun _ _ h => h)
                        generalize hQ1 : (fun v m' => zW E (d) 161 354 [(2, 69), (0, i5), (0, i6), (0, i7), (0, r40)] (if v.1 = 9 then [] else v :: []) m' Q) = Q1
                        show zW E (d - 1) 155 0 [(0, r40)] [] m430 Q1
                        refine zw_3 zr_155_0 rfl ?_
                        by_cases h434 : r40 = 124
                        · refine zw_112 (off := 83) (t := 84) zr_155_1 (by rw [h434]; rfl) rfl ?_
                          refine zw_push zr_155_84 ?_
                          refine zw_R zr_155_85 (by decide) zm_155 (v := (0, 1)) rfl ?_
                          rw [← hQ1]
                          show zW E (d) 161 354 [(2, 69), (0, i5), (0, i6), (0, i7), (0, r40)] [(0, 1)] m430 Q
                          refine zw_push zr_161_354 ?_
                          refine zw_41_4 zr_161_355 ?_ ?_
                          · intro h435
                            refine zw_7 zr_161_416 rfl ?_
                            refine zw_43 zr_161_417 rfl ?_
                            refine zw_46i zr_161_418 km430_69_6 rfl rfl rfl ?_
                            refine zw_push zr_161_421 ?_
                            refine zw_16 zr_161_422 (by omega) ?_
                            refine zw_47 (c := 69) zr_161_423 rfl ⟨rfl, by decide, rfl⟩ ?_
                            intro m436 em436
                            have hIm436 : zInv m436 := by rw [em436]; exact hIm430.bd (r := 69) (k := 6) (lo := 0) (hi := 50) rfl (by omega) (by decide) (by decide) (by decide)
                            have hFm436 : zFr W_161 m0 m436 := by rw [em436]; exact hFm430.up rfl
                            have km436_69_7 : m436 69 7 = p10 := by rw [em436, zUp_ne (by omega)]; exact km430_69_7
                            have km436_69_11 : m436 69 11 = f431 := by rw [em436, zUp_ne (by omega)]; exact ef431
                            have km436_69_9 : m436 69 9 = f432 := by rw [em436, zUp_ne (by omega)]; exact ef432
                            have km436_69_6 : m436 69 6 = (f41 + 1) := by rw [em436]; exact zUp_eq _ _ _ _
                            have fm436_74 : m436 74 = f13 := by rw [em436, zUp_fn (by decide)]; exact fm430_74
                            clear em436
                            refine zw_7 zr_161_426 rfl ?_
                            refine zw_46r (s := 74) zr_161_427 rfl rfl rfl rfl ?_
                            refine zw_7 zr_161_430 rfl ?_
                            refine zw_46i zr_161_431 km436_69_11 rfl rfl rfl ?_
                            refine zw_4 zr_161_434 rfl ?_
                            refine zw_49 (c := 74) (len := 128) zr_161_436 rfl rfl (by omega) (by omega) ?_
                            intro m437 em437
                            have hIm437 : zInv m437 := by rw [em437]; exact iu_74 hIm436 (by omega)
                            have hFm437 : zFr W_161 m0 m437 := by rw [em437]; exact hFm436.any rfl
                            have km437_69_7 : m437 69 7 = p10 := by rw [em437, zUp_ne (by omega)]; exact km436_69_7
                            have km437_69_11 : m437 69 11 = f431 := by rw [em437, zUp_ne (by omega)]; exact km436_69_11
                            have km437_69_9 : m437 69 9 = f432 := by rw [em437, zUp_ne (by omega)]; exact km436_69_9
                            have km437_69_6 : m437 69 6 = (f41 + 1) := by rw [em437, zUp_ne (by omega)]; exact km436_69_6
                            have fm437_74 : m437 74 = zPt f13 ((f431).toNat) r40 := by rw [em437, zUp_ff, fm436_74]
                            clear em437
                            have z438 := zcp f13 (f431).toNat (f431 + 1).toNat (r40) (by omega)
                            refine zw_7 zr_161_437 rfl ?_
                            refine zw_43 zr_161_438 rfl ?_
                            refine zw_46i zr_161_439 km437_69_11 rfl rfl rfl ?_
                            refine zw_push zr_161_442 ?_
                            refine zw_16 zr_161_443 (by omega) ?_
                            refine zw_47 (c := 69) zr_161_444 rfl ⟨rfl, by decide, rfl⟩ ?_
                            intro m439 em439
                            have hIm439 : zInv m439 := by rw [em439]; exact hIm437.bd (r := 69) (k := 11) (lo := 0) (hi := 128) rfl (by omega) (by decide) (by decide) (by decide)
                            have hFm439 : zFr W_161 m0 m439 := by rw [em439]; exact hFm437.up rfl
                            have km439_69_7 : m439 69 7 = p10 := by rw [em439, zUp_ne (by omega)]; exact km437_69_7
                            have km439_69_9 : m439 69 9 = f432 := by rw [em439, zUp_ne (by omega)]; exact km437_69_9
                            have km439_69_6 : m439 69 6 = (f41 + 1) := by rw [em439, zUp_ne (by omega)]; exact km437_69_6
                            have km439_69_11 : m439 69 11 = (f431 + 1) := by rw [em439]; exact zUp_eq _ _ _ _
                            have fm439_74 : m439 74 = zPt f13 ((f431).toNat) r40 := by rw [em439, zUp_fn (by decide)]; exact fm437_74
                            clear em439
                            have z440 := zcd (zPt f13 ((f431).toNat) r40) ((f431 + 1)).toNat (f431).toNat
                            refine zw_push zr_161_447 ?_
                            refine zw_9 (L' := [(2, 69), (0, i5), (0, 1), (0, i7), (0, r40)]) zr_161_448 (Nat.le_of_ble_eq_true rfl) rfl ?_
                            refine zw_42 zr_161_449 ?_
                            refine zw_42 zr_161_485 ?_
                            exact zw_less (L := [(2, 69), (0, i5), (0, 1), (0, i7), (9, 0)]) ⟨Or.inr rfl, Or.inr rfl, Or.inr rfl, Or.inr rfl, Or.inl rfl, trivial⟩ (ihlp26_14 (i5) (1) (i7) ((f41 + 1)) (p10) (f432) ((f431 + 1)) (zPt f13 ((f431).toNat) r40) m439 hIm439 hFm439  km439_69_6 km439_69_7 km439_69_9 km439_69_11 fm439_74 (by omega) (by omega) (by omega) (by omega) (by omega) (by omega) (by omega) (by omega) (by omega) (by omega) (by omega) (by omega) (by omega) (by omega) (by omega) (by omega) (by omega) (by omega) (by omega))
                          · intro h441; omega
                        exfalso; omega
                      exfalso; omega
                    · intro h442; omega
                  exfalso; omega
              refine zw_112 (off := 93) (t := 94) zr_155_1 (zlsw_df (by simp; omega)) rfl ?_
              refine zw_push zr_155_94 ?_
              refine zw_R zr_155_95 (by decide) zm_155 (v := (0, 0)) rfl ?_
              rw [← hQ1]
              show zW E (d) 161 324 [(2, 69), (0, i5), (0, i6), (0, i7), (0, r40)] [(0, 0)] m39 Q
              refine zw_40_5 zr_161_324 ?_ ?_
              · intro h443
                refine zw_4 zr_161_452 rfl ?_
                refine zw_push zr_161_454 ?_
                refine zw_41_4 zr_161_455 ?_ ?_
                · intro h444
                  refine zw_7 zr_161_472 rfl ?_
                  refine zw_push zr_161_473 ?_
                  refine zw_7 zr_161_475 rfl ?_
                  refine zw_46i zr_161_476 ef41 rfl rfl rfl ?_
                  refine zw_18 zr_161_479 (by omega) ?_
                  refine zw_push zr_161_480 ?_
                  refine zw_16 zr_161_481 (by omega) ?_
                  refine zw_47 (c := 69) zr_161_482 rfl ⟨rfl, by decide, rfl⟩ ?_
                  intro m445 em445
                  have hIm445 : zInv m445 := by rw [em445]; exact hIm39.any (by omega) rfl (by decide) (by decide)
                  have hFm445 : zFr W_161 m0 m445 := by rw [em445]; exact hFm39.up rfl
                  have km445_69_9 : m445 69 9 = p11 := by rw [em445, zUp_ne (by omega)]; exact km39_69_9
                  have km445_69_11 : m445 69 11 = p12 := by rw [em445, zUp_ne (by omega)]; exact km39_69_11
                  have km445_69_6 : m445 69 6 = f41 := by rw [em445, zUp_ne (by omega)]; exact ef41
                  have km445_69_7 : m445 69 7 = ((10 * f41) + 1) := by rw [em445]; exact zUp_eq _ _ _ _
                  have fm445_74 : m445 74 = f13 := by rw [em445, zUp_fn (by decide)]; exact fm39_74
                  clear em445
                  refine zw_42 zr_161_485 ?_
                  exact zw_less (L := [(2, 69), (0, i5), (0, i6), (0, i7), (9, 0)]) ⟨Or.inr rfl, Or.inr rfl, Or.inr rfl, Or.inr rfl, Or.inl rfl, trivial⟩ (ihlp26_14 (i5) (i6) (i7) (f41) (((10 * f41) + 1)) (p11) (p12) (f13) m445 hIm445 hFm445  km445_69_6 km445_69_7 km445_69_9 km445_69_11 fm445_74 (by omega) (by omega) (by omega) (by omega) (by omega) (by omega) (by omega) (by omega) (by omega) (by omega) (by omega) (by omega) (by omega) (by omega) (by omega) (by omega) (by omega) (by omega) (by omega))
                · intro h446
                  refine zw_3 zr_161_458 rfl ?_
                  refine zw_40_4 zr_161_459 ?_ ?_
                  · intro h447
                    refine zw_7 zr_161_472 rfl ?_
                    refine zw_push zr_161_473 ?_
                    refine zw_7 zr_161_475 rfl ?_
                    refine zw_46i zr_161_476 ef41 rfl rfl rfl ?_
                    refine zw_18 zr_161_479 (by omega) ?_
                    refine zw_push zr_161_480 ?_
                    refine zw_16 zr_161_481 (by omega) ?_
                    refine zw_47 (c := 69) zr_161_482 rfl ⟨rfl, by decide, rfl⟩ ?_
                    intro m448 em448
                    have hIm448 : zInv m448 := by rw [em448]; exact hIm39.any (by omega) rfl (by decide) (by decide)
                    have hFm448 : zFr W_161 m0 m448 := by rw [em448]; exact hFm39.up rfl
                    have km448_69_9 : m448 69 9 = p11 := by rw [em448, zUp_ne (by omega)]; exact km39_69_9
                    have km448_69_11 : m448 69 11 = p12 := by rw [em448, zUp_ne (by omega)]; exact km39_69_11
                    have km448_69_6 : m448 69 6 = f41 := by rw [em448, zUp_ne (by omega)]; exact ef41
                    have km448_69_7 : m448 69 7 = ((10 * f41) + 1) := by rw [em448]; exact zUp_eq _ _ _ _
                    have fm448_74 : m448 74 = f13 := by rw [em448, zUp_fn (by decide)]; exact fm39_74
                    clear em448
                    refine zw_42 zr_161_485 ?_
                    exact zw_less (L := [(2, 69), (0, i5), (0, i6), (0, i7), (9, 0)]) ⟨Or.inr rfl, Or.inr rfl, Or.inr rfl, Or.inr rfl, Or.inl rfl, trivial⟩ (ihlp26_14 (i5) (i6) (i7) (f41) (((10 * f41) + 1)) (p11) (p12) (f13) m448 hIm448 hFm448  km448_69_6 km448_69_7 km448_69_9 km448_69_11 fm448_74 (by omega) (by omega) (by omega) (by omega) (by omega) (by omega) (by omega) (by omega) (by omega) (by omega) (by omega) (by omega) (by omega) (by omega) (by omega) (by omega) (by omega) (by omega) (by omega))
                  · intro h449
                    refine zw_7 zr_161_462 rfl ?_
                    refine zw_push zr_161_463 ?_
                    refine zw_C zr_161_464 (Or.inl rfl) zm_157 rfl rfl ⟨Nat.le_of_ble_eq_true rfl, Nat.le_of_ble_eq_true rfl, Nat.le_of_ble_eq_true rfl, rfl, by decide⟩ (by omega) (th_157 (d := d - 1) (by omega) hIm39 (a0 := 1) (g0 := p12) (g1 := p11)  (F74 := f13) km39_69_11 km39_69_9 fm39_74 (by omega) (by omega)) ?_
                    rintro _ m450 ⟨rfl, hIm450, gm450, po0_m450, po1_m450, po2_m450, po3_m450⟩
                    have hFm450 : zFr W_161 m0 m450 := hFm39.trans gm450 rfl
                    have km450_69_7 : m450 69 7 = p10 := (gm450 69 7 rfl).trans km39_69_7
                    have km450_69_6 : m450 69 6 = f41 := (gm450 69 6 rfl).trans ef41
                    have fm450_74 : m450 74 = f13 := (funext fun k => gm450 74 k rfl).trans fm39_74
                    obtain ⟨f451, ef451⟩ : ∃ v, m450 69 11 = v := ⟨_, rfl⟩
                    have bf451 := ib_69_11 hIm450
                    rw [ef451] at bf451
                    rw [ef451] at po0_m450
                    rw [ef451] at po2_m450
                    rw [ef451] at po3_m450
                    obtain ⟨f452, ef452⟩ : ∃ v, m450 69 9 = v := ⟨_, rfl⟩
                    have bf452 := ib_69_9 hIm450
                    rw [ef452] at bf452
                    rw [ef452] at po1_m450
                    rw [ef452] at po2_m450
                    show zW E (d) 161 467 [(2, 69), (0, i5), (0, i6), (0, i7), (0, r40)] [] m450 Q
                    have z453 := cB_nn f13 (f451).toNat
                    refine zw_push zr_161_467 ?_
                    refine zw_9 (L' := [(2, 69), (0, i5), (0, i6), (0, 0), (0, r40)]) zr_161_468 (Nat.le_of_ble_eq_true rfl) rfl ?_
                    refine zw_42 zr_161_469 ?_
                    refine zw_42 zr_161_485 ?_
                    exact zw_less (L := [(2, 69), (0, i5), (0, i6), (0, 0), (9, 0)]) ⟨Or.inr rfl, Or.inr rfl, Or.inr rfl, Or.inr rfl, Or.inl rfl, trivial⟩ (ihlp26_14 (i5) (i6) (0) (f41) (p10) (f452) (f451) (f13) m450 hIm450 hFm450  km450_69_6 km450_69_7 ef452 ef451 fm450_74 (by omega) (by omega) (by omega) (by omega) (by omega) (by omega) (by omega) (by omega) (by omega) (by omega) (by omega) (by omega) (by omega) (by omega) (by omega) (by omega) (by omega) (by omega) (by omega))
              · intro h454; omega
            · intro h455
              refine zw_3 zr_161_261 rfl ?_
              refine zw_40_5 zr_161_262 ?_ ?_
              · intro h456
                refine zw_4 zr_161_319 rfl ?_
                refine zw_C zr_161_321 (Or.inr rfl) zm_155 rfl rfl ⟨Nat.le_of_ble_eq_true rfl, Nat.le_of_ble_eq_true rfl, Nat.le_of_ble_eq_true rfl, rfl, by decide⟩ (by omega) (P := (fun v m' => zW E (d) 161 324 [(2, 69), (0, i5), (0, i6), (0, i7), (0, r40)] (if v.1 = 9 then [] else v :: []) m' Q)) ?_ (fun _ _ h => h)
                generalize hQ1 : (fun v m' => zW E (d) 161 324 [(2, 69), (0, i5), (0, i6), (0, i7), (0, r40)] (if v.1 = 9 then [] else v :: []) m' Q) = Q1
                show zW E (d - 1) 155 0 [(0, r40)] [] m39 Q1
                refine zw_3 zr_155_0 rfl ?_
                refine zw_112 (off := 93) (t := 94) zr_155_1 (zlsw_df (by simp; omega)) rfl ?_
                refine zw_push zr_155_94 ?_
                refine zw_R zr_155_95 (by decide) zm_155 (v := (0, 0)) rfl ?_
                rw [← hQ1]
                show zW E (d) 161 324 [(2, 69), (0, i5), (0, i6), (0, i7), (0, r40)] [(0, 0)] m39 Q
                refine zw_40_5 zr_161_324 ?_ ?_
                · intro h457
                  refine zw_4 zr_161_452 rfl ?_
                  refine zw_push zr_161_454 ?_
                  refine zw_41_4 zr_161_455 ?_ ?_
                  · intro h458
                    refine zw_7 zr_161_472 rfl ?_
                    refine zw_push zr_161_473 ?_
                    refine zw_7 zr_161_475 rfl ?_
                    refine zw_46i zr_161_476 ef41 rfl rfl rfl ?_
                    refine zw_18 zr_161_479 (by omega) ?_
                    refine zw_push zr_161_480 ?_
                    refine zw_16 zr_161_481 (by omega) ?_
                    refine zw_47 (c := 69) zr_161_482 rfl ⟨rfl, by decide, rfl⟩ ?_
                    intro m459 em459
                    have hIm459 : zInv m459 := by rw [em459]; exact hIm39.any (by omega) rfl (by decide) (by decide)
                    have hFm459 : zFr W_161 m0 m459 := by rw [em459]; exact hFm39.up rfl
                    have km459_69_9 : m459 69 9 = p11 := by rw [em459, zUp_ne (by omega)]; exact km39_69_9
                    have km459_69_11 : m459 69 11 = p12 := by rw [em459, zUp_ne (by omega)]; exact km39_69_11
                    have km459_69_6 : m459 69 6 = f41 := by rw [em459, zUp_ne (by omega)]; exact ef41
                    have km459_69_7 : m459 69 7 = ((10 * f41) + 1) := by rw [em459]; exact zUp_eq _ _ _ _
                    have fm459_74 : m459 74 = f13 := by rw [em459, zUp_fn (by decide)]; exact fm39_74
                    clear em459
                    refine zw_42 zr_161_485 ?_
                    exact zw_less (L := [(2, 69), (0, i5), (0, i6), (0, i7), (9, 0)]) ⟨Or.inr rfl, Or.inr rfl, Or.inr rfl, Or.inr rfl, Or.inl rfl, trivial⟩ (ihlp26_14 (i5) (i6) (i7) (f41) (((10 * f41) + 1)) (p11) (p12) (f13) m459 hIm459 hFm459  km459_69_6 km459_69_7 km459_69_9 km459_69_11 fm459_74 (by omega) (by omega) (by omega) (by omega) (by omega) (by omega) (by omega) (by omega) (by omega) (by omega) (by omega) (by omega) (by omega) (by omega) (by omega) (by omega) (by omega) (by omega) (by omega))
                  · intro h460; omega
                · intro h461; omega
              · intro h462
                refine zw_7 zr_161_265 rfl ?_
                refine zw_43 zr_161_266 rfl ?_
                refine zw_46i zr_161_267 ef41 rfl rfl rfl ?_
                refine zw_push zr_161_270 ?_
                refine zw_16 zr_161_271 (by omega) ?_
                refine zw_47 (c := 69) zr_161_272 rfl ⟨rfl, by decide, rfl⟩ ?_
                intro m463 em463
                have hIm463 : zInv m463 := by rw [em463]; exact hIm39.bd (r := 69) (k := 6) (lo := 0) (hi := 50) rfl (by omega) (by decide) (by decide) (by decide)
                have hFm463 : zFr W_161 m0 m463 := by rw [em463]; exact hFm39.up rfl
                have km463_69_7 : m463 69 7 = p10 := by rw [em463, zUp_ne (by omega)]; exact km39_69_7
                have km463_69_9 : m463 69 9 = p11 := by rw [em463, zUp_ne (by omega)]; exact km39_69_9
                have km463_69_11 : m463 69 11 = p12 := by rw [em463, zUp_ne (by omega)]; exact km39_69_11
                have km463_69_6 : m463 69 6 = (f41 + 1) := by rw [em463]; exact zUp_eq _ _ _ _
                have fm463_74 : m463 74 = f13 := by rw [em463, zUp_fn (by decide)]; exact fm39_74
                clear em463
                refine zw_15 (c := (-1)) (L' := [(2, 69), (0, (i5 + (-1))), (0, i6), (0, i7), (0, r40)]) zr_161_275 rfl (by decide) (by omega) rfl ?_
                refine zw_7 zr_161_278 rfl ?_
                refine zw_push zr_161_279 ?_
                refine zw_C zr_161_280 (Or.inl rfl) zm_157 rfl rfl ⟨Nat.le_of_ble_eq_true rfl, Nat.le_of_ble_eq_true rfl, Nat.le_of_ble_eq_true rfl, rfl, by decide⟩ (by omega) (th_157 (d := d - 1) (by omega) hIm463 (a0 := 1) (g0 := p12) (g1 := p11)  (F74 := f13) km463_69_11 km463_69_9 fm463_74 (by omega) (by omega)) ?_
                rintro _ m464 ⟨rfl, hIm464, gm464, po0_m464, po1_m464, po2_m464, po3_m464⟩
                have hFm464 : zFr W_161 m0 m464 := hFm463.trans gm464 rfl
                have km464_69_7 : m464 69 7 = p10 := (gm464 69 7 rfl).trans km463_69_7
                have km464_69_6 : m464 69 6 = (f41 + 1) := (gm464 69 6 rfl).trans km463_69_6
                have fm464_74 : m464 74 = f13 := (funext fun k => gm464 74 k rfl).trans fm463_74
                obtain ⟨f465, ef465⟩ : ∃ v, m464 69 11 = v := ⟨_, rfl⟩
                have bf465 := ib_69_11 hIm464
                rw [ef465] at bf465
                rw [ef465] at po0_m464
                rw [ef465] at po2_m464
                rw [ef465] at po3_m464
                obtain ⟨f466, ef466⟩ : ∃ v, m464 69 9 = v := ⟨_, rfl⟩
                have bf466 := ib_69_9 hIm464
                rw [ef466] at bf466
                rw [ef466] at po1_m464
                rw [ef466] at po2_m464
                show zW E (d) 161 283 [(2, 69), (0, (i5 + (-1))), (0, i6), (0, i7), (0, r40)] [] m464 Q
                have z467 := cB_nn f13 (f465).toNat
                refine zw_7 zr_161_283 rfl ?_
                refine zw_43 zr_161_284 rfl ?_
                refine zw_46i zr_161_285 ef465 rfl rfl rfl ?_
                refine zw_push zr_161_288 ?_
                refine zw_17 zr_161_289 (by omega) ?_
                refine zw_47 (c := 69) zr_161_290 rfl ⟨rfl, by decide, rfl⟩ ?_
                intro m468 em468
                have hIm468 : zInv m468 := by rw [em468]; exact hIm464.bd (r := 69) (k := 11) (lo := 0) (hi := 128) rfl (by omega) (by decide) (by decide) (by decide)
                have hFm468 : zFr W_161 m0 m468 := by rw [em468]; exact hFm464.up rfl
                have km468_69_7 : m468 69 7 = p10 := by rw [em468, zUp_ne (by omega)]; exact km464_69_7
                have km468_69_6 : m468 69 6 = (f41 + 1) := by rw [em468, zUp_ne (by omega)]; exact km464_69_6
                have km468_69_9 : m468 69 9 = f466 := by rw [em468, zUp_ne (by omega)]; exact ef466
                have km468_69_11 : m468 69 11 = (f465 - 1) := by rw [em468]; exact zUp_eq _ _ _ _
                have fm468_74 : m468 74 = f13 := by rw [em468, zUp_fn (by decide)]; exact fm464_74
                clear em468
                have z469 := zcd f13 ((f465 - 1)).toNat (f465).toNat
                refine zw_7 zr_161_293 rfl ?_
                refine zw_43 zr_161_294 rfl ?_
                refine zw_46i zr_161_295 km468_69_9 rfl rfl rfl ?_
                refine zw_push zr_161_298 ?_
                refine zw_17 zr_161_299 (by omega) ?_
                refine zw_47 (c := 69) zr_161_300 rfl ⟨rfl, by decide, rfl⟩ ?_
                intro m470 em470
                have hIm470 : zInv m470 := by rw [em470]; exact hIm468.bd (r := 69) (k := 9) (lo := 0) (hi := 64) rfl (by omega) (by decide) (by decide) (by decide)
                have hFm470 : zFr W_161 m0 m470 := by rw [em470]; exact hFm468.up rfl
                have km470_69_7 : m470 69 7 = p10 := by rw [em470, zUp_ne (by omega)]; exact km468_69_7
                have km470_69_6 : m470 69 6 = (f41 + 1) := by rw [em470, zUp_ne (by omega)]; exact km468_69_6
                have km470_69_11 : m470 69 11 = (f465 - 1) := by rw [em470, zUp_ne (by omega)]; exact km468_69_11
                have km470_69_9 : m470 69 9 = (f466 - 1) := by rw [em470]; exact zUp_eq _ _ _ _
                have fm470_74 : m470 74 = f13 := by rw [em470, zUp_fn (by decide)]; exact fm468_74
                clear em470
                refine zw_7 zr_161_303 rfl ?_
                refine zw_7 zr_161_304 rfl ?_
                refine zw_46r (s := 73) zr_161_305 rfl rfl rfl rfl ?_
                refine zw_7 zr_161_308 rfl ?_
                refine zw_46i zr_161_309 km470_69_9 rfl rfl rfl ?_
                refine zw_50 (c := 73) (len := 64) zr_161_312 rfl rfl (by omega) (by omega) ?_
                intro x471 ex471
                have bx471 := hIm470.rl (c := 73) (len := 64) (k := ((f466 - 1)).toNat) rfl (by omega)
                rw [← ex471] at bx471
                clear ex471
                refine zw_C zr_161_313 (Or.inl rfl) zm_158 rfl rfl ⟨Nat.le_of_ble_eq_true rfl, Nat.le_of_ble_eq_true rfl, Nat.le_of_ble_eq_true rfl, rfl, by decide⟩ (by omega) (th_158 (d := d - 1) (by omega) hIm470 (a0 := x471) (g0 := (f465 - 1)) (g1 := (f466 - 1))  (F74 := f13) km470_69_11 km470_69_9 fm470_74 (by omega) (by omega)) ?_
                rintro _ m472 ⟨rfl, hIm472, gm472, po0_m472, po1_m472, po2_m472, po3_m472⟩
                have hFm472 : zFr W_161 m0 m472 := hFm470.trans gm472 rfl
                have km472_69_7 : m472 69 7 = p10 := (gm472 69 7 rfl).trans km470_69_7
                have km472_69_6 : m472 69 6 = (f41 + 1) := (gm472 69 6 rfl).trans km470_69_6
                have fm472_74 : m472 74 = f13 := (funext fun k => gm472 74 k rfl).trans fm470_74
                obtain ⟨f473, ef473⟩ : ∃ v, m472 69 11 = v := ⟨_, rfl⟩
                have bf473 := ib_69_11 hIm472
                rw [ef473] at bf473
                rw [ef473] at po0_m472
                rw [ef473] at po1_m472
                rw [ef473] at po2_m472
                show zW E (d) 161 316 [(2, 69), (0, (i5 + (-1))), (0, i6), (0, i7), (0, r40)] [] m472 Q
                have z474 := cB_nn f13 (f473).toNat
                refine zw_42 zr_161_316 ?_
                refine zw_42 zr_161_485 ?_
                exact zw_less (L := [(2, 69), (0, (i5 + (-1))), (0, i6), (0, i7), (9, 0)]) ⟨Or.inr rfl, Or.inr rfl, Or.inr rfl, Or.inr rfl, Or.inl rfl, trivial⟩ (ihlp26_14 ((i5 + (-1))) (i6) (i7) ((f41 + 1)) (p10) (((f466 - 1) + 1)) (f473) (f13) m472 hIm472 hFm472  km472_69_6 km472_69_7 po3_m472 ef473 fm472_74 (by omega) (by omega) (by omega) (by omega) (by omega) (by omega) (by omega) (by omega) (by omega) (by omega) (by omega) (by omega) (by omega) (by omega) (by omega) (by omega) (by omega) (by omega) (by omega))
          · intro h475
            refine zw_4 zr_161_48 rfl ?_
            refine zw_36 zr_161_50 ?_
            refine zw_push zr_161_51 ?_
            refine zw_push zr_161_54 ?_
            refine zw_C zr_161_57 (Or.inr rfl) zm_140 rfl rfl ⟨Nat.le_of_ble_eq_true rfl, Nat.le_of_ble_eq_true rfl, Nat.le_of_ble_eq_true rfl, rfl, by decide⟩ (by omega) (P := (fun v m' => zW E (d) 161 60 [(2, 69), (0, i5), (0, i6), (0, i7), (0, r40)] (if v.1 = 9 then [] else v :: []) m' Q)) ?_ (fun _ _ h => h)
            generalize hQ1 : (fun v m' => zW E (d) 161 60 [(2, 69), (0, i5), (0, i6), (0, i7), (0, r40)] (if v.1 = 9 then [] else v :: []) m' Q) = Q1
            show zW E (d - 1) 140 0 [(1, r40), (9, 0), (1, 48), (9, 0), (1, 57), (9, 0)] [] m39 Q1
            refine zw_5 zr_140_0 rfl ?_
            refine zw_5 zr_140_1 rfl ?_
            refine zw_39_0 zr_140_2 zr_140_3 ?_ ?_
            · intro h476
              refine zw_push zr_140_17 ?_
              refine zw_R zr_140_18 (by decide) zm_140 (v := (0, 0)) (zRetB (by omega)) ?_
              rw [← hQ1]
              show zW E (d) 161 60 [(2, 69), (0, i5), (0, i6), (0, i7), (0, r40)] [(0, 0)] m39 Q
              refine zw_40_1 zr_161_60 ?_ ?_
              · intro h477
                refine zw_4 zr_161_76 rfl ?_
                refine zw_C zr_161_78 (Or.inr rfl) zm_159 rfl rfl ⟨Nat.le_of_ble_eq_true rfl, Nat.le_of_ble_eq_true rfl, Nat.le_of_ble_eq_true rfl, rfl, by decide⟩ (by omega) (P := (fun v m' => zW E (d) 161 81 [(2, 69), (0, i5), (0, i6), (0, i7), (0, r40)] (if v.1 = 9 then [] else v :: []) m' Q)) ?_ (fun _ _ h => h)
                generalize hQ1 : (fun v m' => zW E (d) 161 81 [(2, 69), (0, i5), (0, i6), (0, i7), (0, r40)] (if v.1 = 9 then [] else v :: []) m' Q) = Q1
                show zW E (d - 1) 159 0 [(0, r40)] [] m39 Q1
                refine zw_3 zr_159_0 rfl ?_
                refine zw_push zr_159_1 ?_
                refine zw_41_4 zr_159_3 ?_ ?_
                · intro h478
                  refine zw_3 zr_159_10 rfl ?_
                  refine zw_push zr_159_11 ?_
                  refine zw_41_4 zr_159_13 ?_ ?_
                  · intro h479
                    refine zw_3 zr_159_20 rfl ?_
                    refine zw_push zr_159_21 ?_
                    refine zw_41_4 zr_159_23 ?_ ?_
                    · intro h480
                      refine zw_3 zr_159_30 rfl ?_
                      refine zw_push zr_159_31 ?_
                      refine zw_41_4 zr_159_33 ?_ ?_
                      · intro h481
                        refine zw_3 zr_159_40 rfl ?_
                        refine zw_push zr_159_41 ?_
                        refine zw_41_4 zr_159_43 ?_ ?_
                        · intro h482
                          refine zw_3 zr_159_50 rfl ?_
                          refine zw_push zr_159_51 ?_
                          refine zw_41_4 zr_159_53 ?_ ?_
                          · intro h483
                            refine zw_push zr_159_60 ?_
                            refine zw_R zr_159_61 (by decide) zm_159 (v := (0, (-1))) rfl ?_
                            rw [← hQ1]
                            show zW E (d) 161 81 [(2, 69), (0, i5), (0, i6), (0, i7), (0, r40)] [(0, (-1))] m39 Q
                            refine zw_push zr_161_81 ?_
                            refine zw_41_1 zr_161_82 ?_ ?_
                            · intro h484
                              refine zw_4 zr_161_114 rfl ?_
                              refine zw_push zr_161_116 ?_
                              refine zw_41_1 zr_161_118 ?_ ?_
                              · intro h485
                                refine zw_7 zr_161_128 rfl ?_
                                refine zw_43 zr_161_129 rfl ?_
                                refine zw_46i zr_161_130 ef41 rfl rfl rfl ?_
                                refine zw_push zr_161_133 ?_
                                refine zw_16 zr_161_134 (by omega) ?_
                                refine zw_47 (c := 69) zr_161_135 rfl ⟨rfl, by decide, rfl⟩ ?_
                                intro m486 em486
                                have hIm486 : zInv m486 := by rw [em486]; exact hIm39.bd (r := 69) (k := 6) (lo := 0) (hi := 50) rfl (by omega) (by decide) (by decide) (by decide)
                                have hFm486 : zFr W_161 m0 m486 := by rw [em486]; exact hFm39.up rfl
                                have km486_69_7 : m486 69 7 = p10 := by rw [em486, zUp_ne (by omega)]; exact km39_69_7
                                have km486_69_9 : m486 69 9 = p11 := by rw [em486, zUp_ne (by omega)]; exact km39_69_9
                                have km486_69_11 : m486 69 11 = p12 := by rw [em486, zUp_ne (by omega)]; exact km39_69_11
                                have km486_69_6 : m486 69 6 = (f41 + 1) := by rw [em486]; exact zUp_eq _ _ _ _
                                have fm486_74 : m486 74 = f13 := by rw [em486, zUp_fn (by decide)]; exact fm39_74
                                clear em486
                                refine zw_7 zr_161_138 rfl ?_
                                refine zw_46r (s := 74) zr_161_139 rfl rfl rfl rfl ?_
                                refine zw_7 zr_161_142 rfl ?_
                                refine zw_46i zr_161_143 km486_69_11 rfl rfl rfl ?_
                                refine zw_4 zr_161_146 rfl ?_
                                refine zw_push zr_161_148 ?_
                                refine zw_41_4 zr_161_150 ?_ ?_
                                · intro h487; omega
                                · intro h488
                                  refine zw_push zr_161_153 ?_
                                  refine zw_42 zr_161_156 ?_
                                  refine zw_49 (c := 74) (len := 128) zr_161_162 rfl rfl (by omega) (by omega) ?_
                                  intro m489 em489
                                  have hIm489 : zInv m489 := by rw [em489]; exact iu_74 hIm486 (by omega)
                                  have hFm489 : zFr W_161 m0 m489 := by rw [em489]; exact hFm486.any rfl
                                  have km489_69_7 : m489 69 7 = p10 := by rw [em489, zUp_ne (by omega)]; exact km486_69_7
                                  have km489_69_9 : m489 69 9 = p11 := by rw [em489, zUp_ne (by omega)]; exact km486_69_9
                                  have km489_69_11 : m489 69 11 = p12 := by rw [em489, zUp_ne (by omega)]; exact km486_69_11
                                  have km489_69_6 : m489 69 6 = (f41 + 1) := by rw [em489, zUp_ne (by omega)]; exact km486_69_6
                                  have fm489_74 : m489 74 = zPt f13 ((p12).toNat) 1001 := by rw [em489, zUp_ff, fm486_74]
                                  clear em489
                                  have z490 := zcp f13 (p12).toNat (p12 + 1).toNat (1001) (by omega)
                                  refine zw_7 zr_161_163 rfl ?_
                                  refine zw_43 zr_161_164 rfl ?_
                                  refine zw_46i zr_161_165 km489_69_11 rfl rfl rfl ?_
                                  refine zw_push zr_161_168 ?_
                                  refine zw_16 zr_161_169 (by omega) ?_
                                  refine zw_47 (c := 69) zr_161_170 rfl ⟨rfl, by decide, rfl⟩ ?_
                                  intro m491 em491
                                  have hIm491 : zInv m491 := by rw [em491]; exact hIm489.bd (r := 69) (k := 11) (lo := 0) (hi := 128) rfl (by omega) (by decide) (by decide) (by decide)
                                  have hFm491 : zFr W_161 m0 m491 := by rw [em491]; exact hFm489.up rfl
                                  have km491_69_7 : m491 69 7 = p10 := by rw [em491, zUp_ne (by omega)]; exact km489_69_7
                                  have km491_69_9 : m491 69 9 = p11 := by rw [em491, zUp_ne (by omega)]; exact km489_69_9
                                  have km491_69_6 : m491 69 6 = (f41 + 1) := by rw [em491, zUp_ne (by omega)]; exact km489_69_6
                                  have km491_69_11 : m491 69 11 = (p12 + 1) := by rw [em491]; exact zUp_eq _ _ _ _
                                  have fm491_74 : m491 74 = zPt f13 ((p12).toNat) 1001 := by rw [em491, zUp_fn (by decide)]; exact fm489_74
                                  clear em491
                                  have z492 := zcd (zPt f13 ((p12).toNat) 1001) ((p12 + 1)).toNat (p12).toNat
                                  refine zw_42 zr_161_173 ?_
                                  refine zw_42 zr_161_485 ?_
                                  exact zw_less (L := [(2, 69), (0, i5), (0, i6), (0, i7), (9, 0)]) ⟨Or.inr rfl, Or.inr rfl, Or.inr rfl, Or.inr rfl, Or.inl rfl, trivial⟩ (ihlp26_14 (i5) (i6) (i7) ((f41 + 1)) (p10) (p11) ((p12 + 1)) (zPt f13 ((p12).toNat) 1001) m491 hIm491 hFm491  km491_69_6 km491_69_7 km491_69_9 km491_69_11 fm491_74 (by omega) (by omega) (by omega) (by omega) (by omega) (by omega) (by omega) (by omega) (by omega) (by omega) (by omega) (by omega) (by omega) (by omega) (by omega) (by omega) (by omega) (by omega) (by omega))
                              · intro h493
                                refine zw_4 zr_161_121 rfl ?_
                                refine zw_push zr_161_123 ?_
                                refine zw_41_4 zr_161_125 ?_ ?_
                                · intro h494
                                  refine zw_4 zr_161_176 rfl ?_
                                  refine zw_push zr_161_178 ?_
                                  refine zw_41_4 zr_161_180 ?_ ?_
                                  · intro h495
                                    refine zw_7 zr_161_227 rfl ?_
                                    refine zw_push zr_161_228 ?_
                                    refine zw_7 zr_161_230 rfl ?_
                                    refine zw_46i zr_161_231 ef41 rfl rfl rfl ?_
                                    refine zw_18 zr_161_234 (by omega) ?_
                                    refine zw_4 zr_161_235 rfl ?_
                                    refine zw_push zr_161_237 ?_
                                    refine zw_41_4 zr_161_239 ?_ ?_
                                    · intro h496
                                      refine zw_push zr_161_246 ?_
                                      refine zw_16 zr_161_247 (by omega) ?_
                                      refine zw_47 (c := 69) zr_161_248 rfl ⟨rfl, by decide, rfl⟩ ?_
                                      intro m497 em497
                                      have hIm497 : zInv m497 := by rw [em497]; exact hIm39.any (by omega) rfl (by decide) (by decide)
                                      have hFm497 : zFr W_161 m0 m497 := by rw [em497]; exact hFm39.up rfl
                                      have km497_69_9 : m497 69 9 = p11 := by rw [em497, zUp_ne (by omega)]; exact km39_69_9
                                      have km497_69_11 : m497 69 11 = p12 := by rw [em497, zUp_ne (by omega)]; exact km39_69_11
                                      have km497_69_6 : m497 69 6 = f41 := by rw [em497, zUp_ne (by omega)]; exact ef41
                                      have km497_69_7 : m497 69 7 = ((10 * f41) + 1) := by rw [em497]; exact zUp_eq _ _ _ _
                                      have fm497_74 : m497 74 = f13 := by rw [em497, zUp_fn (by decide)]; exact fm39_74
                                      clear em497
                                      refine zw_42 zr_161_251 ?_
                                      refine zw_42 zr_161_485 ?_
                                      exact zw_less (L := [(2, 69), (0, i5), (0, i6), (0, i7), (9, 0)]) ⟨Or.inr rfl, Or.inr rfl, Or.inr rfl, Or.inr rfl, Or.inl rfl, trivial⟩ (ihlp26_14 (i5) (i6) (i7) (f41) (((10 * f41) + 1)) (p11) (p12) (f13) m497 hIm497 hFm497  km497_69_6 km497_69_7 km497_69_9 km497_69_11 fm497_74 (by omega) (by omega) (by omega) (by omega) (by omega) (by omega) (by omega) (by omega) (by omega) (by omega) (by omega) (by omega) (by omega) (by omega) (by omega) (by omega) (by omega) (by omega) (by omega))
                                    · intro h498
                                      refine zw_push zr_161_242 ?_
                                      refine zw_42 zr_161_243 ?_
                                      refine zw_16 zr_161_247 (by omega) ?_
                                      refine zw_47 (c := 69) zr_161_248 rfl ⟨rfl, by decide, rfl⟩ ?_
                                      intro m499 em499
                                      have hIm499 : zInv m499 := by rw [em499]; exact hIm39.any (by omega) rfl (by decide) (by decide)
                                      have hFm499 : zFr W_161 m0 m499 := by rw [em499]; exact hFm39.up rfl
                                      have km499_69_9 : m499 69 9 = p11 := by rw [em499, zUp_ne (by omega)]; exact km39_69_9
                                      have km499_69_11 : m499 69 11 = p12 := by rw [em499, zUp_ne (by omega)]; exact km39_69_11
                                      have km499_69_6 : m499 69 6 = f41 := by rw [em499, zUp_ne (by omega)]; exact ef41
                                      have km499_69_7 : m499 69 7 = ((10 * f41) + 3) := by rw [em499]; exact zUp_eq _ _ _ _
                                      have fm499_74 : m499 74 = f13 := by rw [em499, zUp_fn (by decide)]; exact fm39_74
                                      clear em499
                                      refine zw_42 zr_161_251 ?_
                                      refine zw_42 zr_161_485 ?_
                                      exact zw_less (L := [(2, 69), (0, i5), (0, i6), (0, i7), (9, 0)]) ⟨Or.inr rfl, Or.inr rfl, Or.inr rfl, Or.inr rfl, Or.inl rfl, trivial⟩ (ihlp26_14 (i5) (i6) (i7) (f41) (((10 * f41) + 3)) (p11) (p12) (f13) m499 hIm499 hFm499  km499_69_6 km499_69_7 km499_69_9 km499_69_11 fm499_74 (by omega) (by omega) (by omega) (by omega) (by omega) (by omega) (by omega) (by omega) (by omega) (by omega) (by omega) (by omega) (by omega) (by omega) (by omega) (by omega) (by omega) (by omega) (by omega))
                                  · intro h500
                                    refine zw_3 zr_161_183 rfl ?_
                                    refine zw_push zr_161_184 ?_
                                    refine zw_41_3 zr_161_186 ?_ ?_
                                    · intro h501
                                      refine zw_7 zr_161_227 rfl ?_
                                      refine zw_push zr_161_228 ?_
                                      refine zw_7 zr_161_230 rfl ?_
                                      refine zw_46i zr_161_231 ef41 rfl rfl rfl ?_
                                      refine zw_18 zr_161_234 (by omega) ?_
                                      refine zw_4 zr_161_235 rfl ?_
                                      refine zw_push zr_161_237 ?_
                                      refine zw_41_4 zr_161_239 ?_ ?_
                                      · intro h502; omega
                                      · intro h503
                                        refine zw_push zr_161_242 ?_
                                        refine zw_42 zr_161_243 ?_
                                        refine zw_16 zr_161_247 (by omega) ?_
                                        refine zw_47 (c := 69) zr_161_248 rfl ⟨rfl, by decide, rfl⟩ ?_
                                        intro m504 em504
                                        have hIm504 : zInv m504 := by rw [em504]; exact hIm39.any (by omega) rfl (by decide) (by decide)
                                        have hFm504 : zFr W_161 m0 m504 := by rw [em504]; exact hFm39.up rfl
                                        have km504_69_9 : m504 69 9 = p11 := by rw [em504, zUp_ne (by omega)]; exact km39_69_9
                                        have km504_69_11 : m504 69 11 = p12 := by rw [em504, zUp_ne (by omega)]; exact km39_69_11
                                        have km504_69_6 : m504 69 6 = f41 := by rw [em504, zUp_ne (by omega)]; exact ef41
                                        have km504_69_7 : m504 69 7 = ((10 * f41) + 3) := by rw [em504]; exact zUp_eq _ _ _ _
                                        have fm504_74 : m504 74 = f13 := by rw [em504, zUp_fn (by decide)]; exact fm39_74
                                        clear em504
                                        refine zw_42 zr_161_251 ?_
                                        refine zw_42 zr_161_485 ?_
                                        exact zw_less (L := [(2, 69), (0, i5), (0, i6), (0, i7), (9, 0)]) ⟨Or.inr rfl, Or.inr rfl, Or.inr rfl, Or.inr rfl, Or.inl rfl, trivial⟩ (ihlp26_14 (i5) (i6) (i7) (f41) (((10 * f41) + 3)) (p11) (p12) (f13) m504 hIm504 hFm504  km504_69_6 km504_69_7 km504_69_9 km504_69_11 fm504_74 (by omega) (by omega) (by omega) (by omega) (by omega) (by omega) (by omega) (by omega) (by omega) (by omega) (by omega) (by omega) (by omega) (by omega) (by omega) (by omega) (by omega) (by omega) (by omega))
                                    · intro h505
                                      refine zw_7 zr_161_189 rfl ?_
                                      refine zw_43 zr_161_190 rfl ?_
                                      refine zw_46i zr_161_191 ef41 rfl rfl rfl ?_
                                      refine zw_push zr_161_194 ?_
                                      refine zw_16 zr_161_195 (by omega) ?_
                                      refine zw_47 (c := 69) zr_161_196 rfl ⟨rfl, by decide, rfl⟩ ?_
                                      intro m506 em506
                                      have hIm506 : zInv m506 := by rw [em506]; exact hIm39.bd (r := 69) (k := 6) (lo := 0) (hi := 50) rfl (by omega) (by decide) (by decide) (by decide)
                                      have hFm506 : zFr W_161 m0 m506 := by rw [em506]; exact hFm39.up rfl
                                      have km506_69_7 : m506 69 7 = p10 := by rw [em506, zUp_ne (by omega)]; exact km39_69_7
                                      have km506_69_9 : m506 69 9 = p11 := by rw [em506, zUp_ne (by omega)]; exact km39_69_9
                                      have km506_69_11 : m506 69 11 = p12 := by rw [em506, zUp_ne (by omega)]; exact km39_69_11
                                      have km506_69_6 : m506 69 6 = (f41 + 1) := by rw [em506]; exact zUp_eq _ _ _ _
                                      have fm506_74 : m506 74 = f13 := by rw [em506, zUp_fn (by decide)]; exact fm39_74
                                      clear em506
                                      refine zw_15 (c := 1) (L' := [(2, 69), (0, (i5 + 1)), (0, i6), (0, i7), (0, r40)]) zr_161_199 rfl (by decide) (by omega) rfl ?_
                                      refine zw_7 zr_161_202 rfl ?_
                                      refine zw_46r (s := 74) zr_161_203 rfl rfl rfl rfl ?_
                                      refine zw_7 zr_161_206 rfl ?_
                                      refine zw_46i zr_161_207 km506_69_11 rfl rfl rfl ?_
                                      refine zw_push zr_161_210 ?_
                                      refine zw_49 (c := 74) (len := 128) zr_161_213 rfl rfl (by omega) (by omega) ?_
                                      intro m507 em507
                                      have hIm507 : zInv m507 := by rw [em507]; exact iu_74 hIm506 (by omega)
                                      have hFm507 : zFr W_161 m0 m507 := by rw [em507]; exact hFm506.any rfl
                                      have km507_69_7 : m507 69 7 = p10 := by rw [em507, zUp_ne (by omega)]; exact km506_69_7
                                      have km507_69_9 : m507 69 9 = p11 := by rw [em507, zUp_ne (by omega)]; exact km506_69_9
                                      have km507_69_11 : m507 69 11 = p12 := by rw [em507, zUp_ne (by omega)]; exact km506_69_11
                                      have km507_69_6 : m507 69 6 = (f41 + 1) := by rw [em507, zUp_ne (by omega)]; exact km506_69_6
                                      have fm507_74 : m507 74 = zPt f13 ((p12).toNat) 1000 := by rw [em507, zUp_ff, fm506_74]
                                      clear em507
                                      have z508 := zcp f13 (p12).toNat (p12 + 1).toNat (1000) (by omega)
                                      refine zw_7 zr_161_214 rfl ?_
                                      refine zw_43 zr_161_215 rfl ?_
                                      refine zw_46i zr_161_216 km507_69_11 rfl rfl rfl ?_
                                      refine zw_push zr_161_219 ?_
                                      refine zw_16 zr_161_220 (by omega) ?_
                                      refine zw_47 (c := 69) zr_161_221 rfl ⟨rfl, by decide, rfl⟩ ?_
                                      intro m509 em509
                                      have hIm509 : zInv m509 := by rw [em509]; exact hIm507.bd (r := 69) (k := 11) (lo := 0) (hi := 128) rfl (by omega) (by decide) (by decide) (by decide)
                                      have hFm509 : zFr W_161 m0 m509 := by rw [em509]; exact hFm507.up rfl
                                      have km509_69_7 : m509 69 7 = p10 := by rw [em509, zUp_ne (by omega)]; exact km507_69_7
                                      have km509_69_9 : m509 69 9 = p11 := by rw [em509, zUp_ne (by omega)]; exact km507_69_9
                                      have km509_69_6 : m509 69 6 = (f41 + 1) := by rw [em509, zUp_ne (by omega)]; exact km507_69_6
                                      have km509_69_11 : m509 69 11 = (p12 + 1) := by rw [em509]; exact zUp_eq _ _ _ _
                                      have fm509_74 : m509 74 = zPt f13 ((p12).toNat) 1000 := by rw [em509, zUp_fn (by decide)]; exact fm507_74
                                      clear em509
                                      have z510 := zcd (zPt f13 ((p12).toNat) 1000) ((p12 + 1)).toNat (p12).toNat
                                      refine zw_42 zr_161_224 ?_
                                      refine zw_42 zr_161_485 ?_
                                      exact zw_less (L := [(2, 69), (0, (i5 + 1)), (0, i6), (0, i7), (9, 0)]) ⟨Or.inr rfl, Or.inr rfl, Or.inr rfl, Or.inr rfl, Or.inl rfl, trivial⟩ (ihlp26_14 ((i5 + 1)) (i6) (i7) ((f41 + 1)) (p10) (p11) ((p12 + 1)) (zPt f13 ((p12).toNat) 1000) m509 hIm509 hFm509  km509_69_6 km509_69_7 km509_69_9 km509_69_11 fm509_74 (by omega) (by omega) (by omega) (by omega) (by omega) (by omega) (by omega) (by omega) (by omega) (by omega) (by omega) (by omega) (by omega) (by omega) (by omega) (by omega) (by omega) (by omega) (by omega))
                                · intro h511
                                  refine zw_7 zr_161_128 rfl ?_
                                  refine zw_43 zr_161_129 rfl ?_
                                  refine zw_46i zr_161_130 ef41 rfl rfl rfl ?_
                                  refine zw_push zr_161_133 ?_
                                  refine zw_16 zr_161_134 (by omega) ?_
                                  refine zw_47 (c := 69) zr_161_135 rfl ⟨rfl, by decide, rfl⟩ ?_
                                  intro m512 em512
                                  have hIm512 : zInv m512 := by rw [em512]; exact hIm39.bd (r := 69) (k := 6) (lo := 0) (hi := 50) rfl (by omega) (by decide) (by decide) (by decide)
                                  have hFm512 : zFr W_161 m0 m512 := by rw [em512]; exact hFm39.up rfl
                                  have km512_69_7 : m512 69 7 = p10 := by rw [em512, zUp_ne (by omega)]; exact km39_69_7
                                  have km512_69_9 : m512 69 9 = p11 := by rw [em512, zUp_ne (by omega)]; exact km39_69_9
                                  have km512_69_11 : m512 69 11 = p12 := by rw [em512, zUp_ne (by omega)]; exact km39_69_11
                                  have km512_69_6 : m512 69 6 = (f41 + 1) := by rw [em512]; exact zUp_eq _ _ _ _
                                  have fm512_74 : m512 74 = f13 := by rw [em512, zUp_fn (by decide)]; exact fm39_74
                                  clear em512
                                  refine zw_7 zr_161_138 rfl ?_
                                  refine zw_46r (s := 74) zr_161_139 rfl rfl rfl rfl ?_
                                  refine zw_7 zr_161_142 rfl ?_
                                  refine zw_46i zr_161_143 km512_69_11 rfl rfl rfl ?_
                                  refine zw_4 zr_161_146 rfl ?_
                                  refine zw_push zr_161_148 ?_
                                  refine zw_41_4 zr_161_150 ?_ ?_
                                  · intro h513
                                    refine zw_push zr_161_159 ?_
                                    refine zw_49 (c := 74) (len := 128) zr_161_162 rfl rfl (by omega) (by omega) ?_
                                    intro m514 em514
                                    have hIm514 : zInv m514 := by rw [em514]; exact iu_74 hIm512 (by omega)
                                    have hFm514 : zFr W_161 m0 m514 := by rw [em514]; exact hFm512.any rfl
                                    have km514_69_7 : m514 69 7 = p10 := by rw [em514, zUp_ne (by omega)]; exact km512_69_7
                                    have km514_69_9 : m514 69 9 = p11 := by rw [em514, zUp_ne (by omega)]; exact km512_69_9
                                    have km514_69_11 : m514 69 11 = p12 := by rw [em514, zUp_ne (by omega)]; exact km512_69_11
                                    have km514_69_6 : m514 69 6 = (f41 + 1) := by rw [em514, zUp_ne (by omega)]; exact km512_69_6
                                    have fm514_74 : m514 74 = zPt f13 ((p12).toNat) 1002 := by rw [em514, zUp_ff, fm512_74]
                                    clear em514
                                    have z515 := zcp f13 (p12).toNat (p12 + 1).toNat (1002) (by omega)
                                    refine zw_7 zr_161_163 rfl ?_
                                    refine zw_43 zr_161_164 rfl ?_
                                    refine zw_46i zr_161_165 km514_69_11 rfl rfl rfl ?_
                                    refine zw_push zr_161_168 ?_
                                    refine zw_16 zr_161_169 (by omega) ?_
                                    refine zw_47 (c := 69) zr_161_170 rfl ⟨rfl, by decide, rfl⟩ ?_
                                    intro m516 em516
                                    have hIm516 : zInv m516 := by rw [em516]; exact hIm514.bd (r := 69) (k := 11) (lo := 0) (hi := 128) rfl (by omega) (by decide) (by decide) (by decide)
                                    have hFm516 : zFr W_161 m0 m516 := by rw [em516]; exact hFm514.up rfl
                                    have km516_69_7 : m516 69 7 = p10 := by rw [em516, zUp_ne (by omega)]; exact km514_69_7
                                    have km516_69_9 : m516 69 9 = p11 := by rw [em516, zUp_ne (by omega)]; exact km514_69_9
                                    have km516_69_6 : m516 69 6 = (f41 + 1) := by rw [em516, zUp_ne (by omega)]; exact km514_69_6
                                    have km516_69_11 : m516 69 11 = (p12 + 1) := by rw [em516]; exact zUp_eq _ _ _ _
                                    have fm516_74 : m516 74 = zPt f13 ((p12).toNat) 1002 := by rw [em516, zUp_fn (by decide)]; exact fm514_74
                                    clear em516
                                    have z517 := zcd (zPt f13 ((p12).toNat) 1002) ((p12 + 1)).toNat (p12).toNat
                                    refine zw_42 zr_161_173 ?_
                                    refine zw_42 zr_161_485 ?_
                                    exact zw_less (L := [(2, 69), (0, i5), (0, i6), (0, i7), (9, 0)]) ⟨Or.inr rfl, Or.inr rfl, Or.inr rfl, Or.inr rfl, Or.inl rfl, trivial⟩ (ihlp26_14 (i5) (i6) (i7) ((f41 + 1)) (p10) (p11) ((p12 + 1)) (zPt f13 ((p12).toNat) 1002) m516 hIm516 hFm516  km516_69_6 km516_69_7 km516_69_9 km516_69_11 fm516_74 (by omega) (by omega) (by omega) (by omega) (by omega) (by omega) (by omega) (by omega) (by omega) (by omega) (by omega) (by omega) (by omega) (by omega) (by omega) (by omega) (by omega) (by omega) (by omega))
                                  · intro h518; omega
                            · intro h519; omega
                          · intro h520; omega
                        · intro h521; omega
                      · intro h522; omega
                    · intro h523; omega
                  · intro h524; omega
                · intro h525; omega
              · intro h526; omega
            · intro h527
              refine zw_5 zr_140_6 rfl ?_
              refine zw_6 zr_140_7 rfl ?_
              refine zw_39_2 zr_140_9 zr_140_10 ?_ ?_
              · intro h528
                refine zw_push zr_140_17 ?_
                refine zw_R zr_140_18 (by decide) zm_140 (v := (0, 0)) (zRetB (by omega)) ?_
                rw [← hQ1]
                show zW E (d) 161 60 [(2, 69), (0, i5), (0, i6), (0, i7), (0, r40)] [(0, 0)] m39 Q
                refine zw_40_1 zr_161_60 ?_ ?_
                · intro h529
                  refine zw_4 zr_161_76 rfl ?_
                  refine zw_C zr_161_78 (Or.inr rfl) zm_159 rfl rfl ⟨Nat.le_of_ble_eq_true rfl, Nat.le_of_ble_eq_true rfl, Nat.le_of_ble_eq_true rfl, rfl, by decide⟩ (by omega) (P := (fun v m' => zW E (d) 161 81 [(2, 69), (0, i5), (0, i6), (0, i7), (0, r40)] (if v.1 = 9 then [] else v :: []) m' Q)) ?_ (fun _ _ h => h)
                  generalize hQ1 : (fun v m' => zW E (d) 161 81 [(2, 69), (0, i5), (0, i6), (0, i7), (0, r40)] (if v.1 = 9 then [] else v :: []) m' Q) = Q1
                  show zW E (d - 1) 159 0 [(0, r40)] [] m39 Q1
                  refine zw_3 zr_159_0 rfl ?_
                  refine zw_push zr_159_1 ?_
                  refine zw_41_4 zr_159_3 ?_ ?_
                  · intro h530
                    refine zw_3 zr_159_10 rfl ?_
                    refine zw_push zr_159_11 ?_
                    refine zw_41_4 zr_159_13 ?_ ?_
                    · intro h531
                      refine zw_3 zr_159_20 rfl ?_
                      refine zw_push zr_159_21 ?_
                      refine zw_41_4 zr_159_23 ?_ ?_
                      · intro h532
                        refine zw_3 zr_159_30 rfl ?_
                        refine zw_push zr_159_31 ?_
                        refine zw_41_4 zr_159_33 ?_ ?_
                        · intro h533
                          refine zw_3 zr_159_40 rfl ?_
                          refine zw_push zr_159_41 ?_
                          refine zw_41_4 zr_159_43 ?_ ?_
                          · intro h534
                            refine zw_3 zr_159_50 rfl ?_
                            refine zw_push zr_159_51 ?_
                            refine zw_41_4 zr_159_53 ?_ ?_
                            · intro h535
                              refine zw_push zr_159_60 ?_
                              refine zw_R zr_159_61 (by decide) zm_159 (v := (0, (-1))) rfl ?_
                              rw [← hQ1]
                              show zW E (d) 161 81 [(2, 69), (0, i5), (0, i6), (0, i7), (0, r40)] [(0, (-1))] m39 Q
                              refine zw_push zr_161_81 ?_
                              refine zw_41_1 zr_161_82 ?_ ?_
                              · intro h536
                                refine zw_4 zr_161_114 rfl ?_
                                refine zw_push zr_161_116 ?_
                                refine zw_41_1 zr_161_118 ?_ ?_
                                · intro h537; omega
                                · intro h538
                                  refine zw_4 zr_161_121 rfl ?_
                                  refine zw_push zr_161_123 ?_
                                  refine zw_41_4 zr_161_125 ?_ ?_
                                  · intro h539
                                    refine zw_4 zr_161_176 rfl ?_
                                    refine zw_push zr_161_178 ?_
                                    refine zw_41_4 zr_161_180 ?_ ?_
                                    · intro h540
                                      refine zw_7 zr_161_227 rfl ?_
                                      refine zw_push zr_161_228 ?_
                                      refine zw_7 zr_161_230 rfl ?_
                                      refine zw_46i zr_161_231 ef41 rfl rfl rfl ?_
                                      refine zw_18 zr_161_234 (by omega) ?_
                                      refine zw_4 zr_161_235 rfl ?_
                                      refine zw_push zr_161_237 ?_
                                      refine zw_41_4 zr_161_239 ?_ ?_
                                      · intro h541
                                        refine zw_push zr_161_246 ?_
                                        refine zw_16 zr_161_247 (by omega) ?_
                                        refine zw_47 (c := 69) zr_161_248 rfl ⟨rfl, by decide, rfl⟩ ?_
                                        intro m542 em542
                                        have hIm542 : zInv m542 := by rw [em542]; exact hIm39.any (by omega) rfl (by decide) (by decide)
                                        have hFm542 : zFr W_161 m0 m542 := by rw [em542]; exact hFm39.up rfl
                                        have km542_69_9 : m542 69 9 = p11 := by rw [em542, zUp_ne (by omega)]; exact km39_69_9
                                        have km542_69_11 : m542 69 11 = p12 := by rw [em542, zUp_ne (by omega)]; exact km39_69_11
                                        have km542_69_6 : m542 69 6 = f41 := by rw [em542, zUp_ne (by omega)]; exact ef41
                                        have km542_69_7 : m542 69 7 = ((10 * f41) + 1) := by rw [em542]; exact zUp_eq _ _ _ _
                                        have fm542_74 : m542 74 = f13 := by rw [em542, zUp_fn (by decide)]; exact fm39_74
                                        clear em542
                                        refine zw_42 zr_161_251 ?_
                                        refine zw_42 zr_161_485 ?_
                                        exact zw_less (L := [(2, 69), (0, i5), (0, i6), (0, i7), (9, 0)]) ⟨Or.inr rfl, Or.inr rfl, Or.inr rfl, Or.inr rfl, Or.inl rfl, trivial⟩ (ihlp26_14 (i5) (i6) (i7) (f41) (((10 * f41) + 1)) (p11) (p12) (f13) m542 hIm542 hFm542  km542_69_6 km542_69_7 km542_69_9 km542_69_11 fm542_74 (by omega) (by omega) (by omega) (by omega) (by omega) (by omega) (by omega) (by omega) (by omega) (by omega) (by omega) (by omega) (by omega) (by omega) (by omega) (by omega) (by omega) (by omega) (by omega))
                                      · intro h543; omega
                                    · intro h544; omega
                                  · intro h545; omega
                              · intro h546; omega
                            · intro h547
                              refine zw_push zr_159_56 ?_
                              refine zw_42 zr_159_57 ?_
                              refine zw_R zr_159_61 (by decide) zm_159 (v := (0, 5)) rfl ?_
                              rw [← hQ1]
                              show zW E (d) 161 81 [(2, 69), (0, i5), (0, i6), (0, i7), (0, r40)] [(0, 5)] m39 Q
                              refine zw_push zr_161_81 ?_
                              refine zw_41_1 zr_161_82 ?_ ?_
                              · intro h548; omega
                              · intro h549
                                refine zw_7 zr_161_85 rfl ?_
                                refine zw_43 zr_161_86 rfl ?_
                                refine zw_46i zr_161_87 ef41 rfl rfl rfl ?_
                                refine zw_push zr_161_90 ?_
                                refine zw_16 zr_161_91 (by omega) ?_
                                refine zw_47 (c := 69) zr_161_92 rfl ⟨rfl, by decide, rfl⟩ ?_
                                intro m550 em550
                                have hIm550 : zInv m550 := by rw [em550]; exact hIm39.bd (r := 69) (k := 6) (lo := 0) (hi := 50) rfl (by omega) (by decide) (by decide) (by decide)
                                have hFm550 : zFr W_161 m0 m550 := by rw [em550]; exact hFm39.up rfl
                                have km550_69_7 : m550 69 7 = p10 := by rw [em550, zUp_ne (by omega)]; exact km39_69_7
                                have km550_69_9 : m550 69 9 = p11 := by rw [em550, zUp_ne (by omega)]; exact km39_69_9
                                have km550_69_11 : m550 69 11 = p12 := by rw [em550, zUp_ne (by omega)]; exact km39_69_11
                                have km550_69_6 : m550 69 6 = (f41 + 1) := by rw [em550]; exact zUp_eq _ _ _ _
                                have fm550_74 : m550 74 = f13 := by rw [em550, zUp_fn (by decide)]; exact fm39_74
                                clear em550
                                refine zw_7 zr_161_95 rfl ?_
                                refine zw_7 zr_161_96 rfl ?_
                                refine zw_46r (s := 75) zr_161_97 rfl rfl rfl rfl ?_
                                refine zw_4 zr_161_100 rfl ?_
                                refine zw_C zr_161_102 (Or.inr rfl) zm_159 rfl rfl ⟨Nat.le_of_ble_eq_true rfl, Nat.le_of_ble_eq_true rfl, Nat.le_of_ble_eq_true rfl, rfl, by decide⟩ (by omega) (P := (fun v m' => zW E (d) 161 105 [(2, 69), (0, i5), (0, i6), (0, i7), (0, r40)] (if v.1 = 9 then [(2, 75), (2, 69)] else v :: [(2, 75), (2, 69)]) m' Q)) ?_ (fun _ _ h => h)
                                generalize hQ1 : (fun v m' => zW E (d) 161 105 [(2, 69), (0, i5), (0, i6), (0, i7), (0, r40)] (if v.1 = 9 then [(2, 75), (2, 69)] else v :: [(2, 75), (2, 69)]) m' Q) = Q1
                                show zW E (d - 1) 159 0 [(0, r40)] [] m550 Q1
                                refine zw_3 zr_159_0 rfl ?_
                                refine zw_push zr_159_1 ?_
                                refine zw_41_4 zr_159_3 ?_ ?_
                                · intro h551
                                  refine zw_3 zr_159_10 rfl ?_
                                  refine zw_push zr_159_11 ?_
                                  refine zw_41_4 zr_159_13 ?_ ?_
                                  · intro h552
                                    refine zw_3 zr_159_20 rfl ?_
                                    refine zw_push zr_159_21 ?_
                                    refine zw_41_4 zr_159_23 ?_ ?_
                                    · intro h553
                                      refine zw_3 zr_159_30 rfl ?_
                                      refine zw_push zr_159_31 ?_
                                      refine zw_41_4 zr_159_33 ?_ ?_
                                      · intro h554
                                        refine zw_3 zr_159_40 rfl ?_
                                        refine zw_push zr_159_41 ?_
                                        refine zw_41_4 zr_159_43 ?_ ?_
                                        · intro h555
                                          refine zw_3 zr_159_50 rfl ?_
                                          refine zw_push zr_159_51 ?_
                                          refine zw_41_4 zr_159_53 ?_ ?_
                                          · intro h556; omega
                                          · intro h557
                                            refine zw_push zr_159_56 ?_
                                            refine zw_42 zr_159_57 ?_
                                            refine zw_R zr_159_61 (by decide) zm_159 (v := (0, 5)) rfl ?_
                                            rw [← hQ1]
                                            show zW E (d) 161 105 [(2, 69), (0, i5), (0, i6), (0, i7), (0, r40)] [(0, 5), (2, 75), (2, 69)] m550 Q
                                            obtain ⟨f558, ef558⟩ : ∃ v, m550 75 5 = v := ⟨_, rfl⟩
                                            have bf558 : (-9223372036854775808) ≤ m550 75 5 ∧ m550 75 5 ≤ 9223372036854775807 := hIm550.rl (c := 75) (len := 6) rfl (by omega)
                                            rw [ef558] at bf558
                                            refine zw_50k (c := 75) (len := 6) zr_161_105 rfl rfl (by omega) (by omega) (show (5 : Int).toNat = 5 by omega) ef558 ?_
                                            refine zw_C zr_161_106 (Or.inl rfl) zm_158 rfl rfl ⟨Nat.le_of_ble_eq_true rfl, Nat.le_of_ble_eq_true rfl, Nat.le_of_ble_eq_true rfl, rfl, by decide⟩ (by omega) (th_158 (d := d - 1) (by omega) hIm550 (a0 := f558) (g0 := p12) (g1 := p11)  (F74 := f13) km550_69_11 km550_69_9 fm550_74 (by omega) (by omega)) ?_
                                            rintro _ m559 ⟨rfl, hIm559, gm559, po0_m559, po1_m559, po2_m559, po3_m559⟩
                                            have hFm559 : zFr W_161 m0 m559 := hFm550.trans gm559 rfl
                                            have km559_69_7 : m559 69 7 = p10 := (gm559 69 7 rfl).trans km550_69_7
                                            have km559_69_6 : m559 69 6 = (f41 + 1) := (gm559 69 6 rfl).trans km550_69_6
                                            have km559_75_5 : m559 75 5 = f558 := (gm559 75 5 rfl).trans ef558
                                            have fm559_74 : m559 74 = f13 := (funext fun k => gm559 74 k rfl).trans fm550_74
                                            obtain ⟨f560, ef560⟩ : ∃ v, m559 69 11 = v := ⟨_, rfl⟩
                                            have bf560 := ib_69_11 hIm559
                                            rw [ef560] at bf560
                                            rw [ef560] at po0_m559
                                            rw [ef560] at po1_m559
                                            rw [ef560] at po2_m559
                                            show zW E (d) 161 109 [(2, 69), (0, i5), (0, i6), (0, i7), (0, r40)] [] m559 Q
                                            have z561 := cB_nn f13 (f560).toNat
                                            refine zw_push zr_161_109 ?_
                                            refine zw_9 (L' := [(2, 69), (0, i5), (0, 0), (0, i7), (0, r40)]) zr_161_110 (Nat.le_of_ble_eq_true rfl) rfl ?_
                                            refine zw_42 zr_161_111 ?_
                                            refine zw_42 zr_161_485 ?_
                                            exact zw_less (L := [(2, 69), (0, i5), (0, 0), (0, i7), (9, 0)]) ⟨Or.inr rfl, Or.inr rfl, Or.inr rfl, Or.inr rfl, Or.inl rfl, trivial⟩ (ihlp26_14 (i5) (0) (i7) ((f41 + 1)) (p10) ((p11 + 1)) (f560) (f13) m559 hIm559 hFm559  km559_69_6 km559_69_7 po3_m559 ef560 fm559_74 (by omega) (by omega) (by omega) (by omega) (by omega) (by omega) (by omega) (by omega) (by omega) (by omega) (by omega) (by omega) (by omega) (by omega) (by omega) (by omega) (by omega) (by omega) (by omega))
                                        · intro h562; omega
                                      · intro h563; omega
                                    · intro h564; omega
                                  · intro h565; omega
                                · intro h566; omega
                          · intro h567
                            refine zw_push zr_159_46 ?_
                            refine zw_42 zr_159_47 ?_
                            refine zw_R zr_159_61 (by decide) zm_159 (v := (0, 4)) rfl ?_
                            rw [← hQ1]
                            show zW E (d) 161 81 [(2, 69), (0, i5), (0, i6), (0, i7), (0, r40)] [(0, 4)] m39 Q
                            refine zw_push zr_161_81 ?_
                            refine zw_41_1 zr_161_82 ?_ ?_
                            · intro h568; omega
                            · intro h569
                              refine zw_7 zr_161_85 rfl ?_
                              refine zw_43 zr_161_86 rfl ?_
                              refine zw_46i zr_161_87 ef41 rfl rfl rfl ?_
                              refine zw_push zr_161_90 ?_
                              refine zw_16 zr_161_91 (by omega) ?_
                              refine zw_47 (c := 69) zr_161_92 rfl ⟨rfl, by decide, rfl⟩ ?_
                              intro m570 em570
                              have hIm570 : zInv m570 := by rw [em570]; exact hIm39.bd (r := 69) (k := 6) (lo := 0) (hi := 50) rfl (by omega) (by decide) (by decide) (by decide)
                              have hFm570 : zFr W_161 m0 m570 := by rw [em570]; exact hFm39.up rfl
                              have km570_69_7 : m570 69 7 = p10 := by rw [em570, zUp_ne (by omega)]; exact km39_69_7
                              have km570_69_9 : m570 69 9 = p11 := by rw [em570, zUp_ne (by omega)]; exact km39_69_9
                              have km570_69_11 : m570 69 11 = p12 := by rw [em570, zUp_ne (by omega)]; exact km39_69_11
                              have km570_69_6 : m570 69 6 = (f41 + 1) := by rw [em570]; exact zUp_eq _ _ _ _
                              have fm570_74 : m570 74 = f13 := by rw [em570, zUp_fn (by decide)]; exact fm39_74
                              clear em570
                              refine zw_7 zr_161_95 rfl ?_
                              refine zw_7 zr_161_96 rfl ?_
                              refine zw_46r (s := 75) zr_161_97 rfl rfl rfl rfl ?_
                              refine zw_4 zr_161_100 rfl ?_
                              refine zw_C zr_161_102 (Or.inr rfl) zm_159 rfl rfl ⟨Nat.le_of_ble_eq_true rfl, Nat.le_of_ble_eq_true rfl, Nat.le_of_ble_eq_true rfl, rfl, by decide⟩ (by omega) (P := (fun v m' => zW E (d) 161 105 [(2, 69), (0, i5), (0, i6), (0, i7), (0, r40)] (if v.1 = 9 then [(2, 75), (2, 69)] else v :: [(2, 75), (2, 69)]) m' Q)) ?_ (fun _ _ h => h)
                              generalize hQ1 : (fun v m' => zW E (d) 161 105 [(2, 69), (0, i5), (0, i6), (0, i7), (0, r40)] (if v.1 = 9 then [(2, 75), (2, 69)] else v :: [(2, 75), (2, 69)]) m' Q) = Q1
                              show zW E (d - 1) 159 0 [(0, r40)] [] m570 Q1
                              refine zw_3 zr_159_0 rfl ?_
                              refine zw_push zr_159_1 ?_
                              refine zw_41_4 zr_159_3 ?_ ?_
                              · intro h571
                                refine zw_3 zr_159_10 rfl ?_
                                refine zw_push zr_159_11 ?_
                                refine zw_41_4 zr_159_13 ?_ ?_
                                · intro h572
                                  refine zw_3 zr_159_20 rfl ?_
                                  refine zw_push zr_159_21 ?_
                                  refine zw_41_4 zr_159_23 ?_ ?_
                                  · intro h573
                                    refine zw_3 zr_159_30 rfl ?_
                                    refine zw_push zr_159_31 ?_
                                    refine zw_41_4 zr_159_33 ?_ ?_
                                    · intro h574
                                      refine zw_3 zr_159_40 rfl ?_
                                      refine zw_push zr_159_41 ?_
                                      refine zw_41_4 zr_159_43 ?_ ?_
                                      · intro h575; omega
                                      · intro h576
                                        refine zw_push zr_159_46 ?_
                                        refine zw_42 zr_159_47 ?_
                                        refine zw_R zr_159_61 (by decide) zm_159 (v := (0, 4)) rfl ?_
                                        rw [← hQ1]
                                        show zW E (d) 161 105 [(2, 69), (0, i5), (0, i6), (0, i7), (0, r40)] [(0, 4), (2, 75), (2, 69)] m570 Q
                                        obtain ⟨f577, ef577⟩ : ∃ v, m570 75 4 = v := ⟨_, rfl⟩
                                        have bf577 : (-9223372036854775808) ≤ m570 75 4 ∧ m570 75 4 ≤ 9223372036854775807 := hIm570.rl (c := 75) (len := 6) rfl (by omega)
                                        rw [ef577] at bf577
                                        refine zw_50k (c := 75) (len := 6) zr_161_105 rfl rfl (by omega) (by omega) (show (4 : Int).toNat = 4 by omega) ef577 ?_
                                        refine zw_C zr_161_106 (Or.inl rfl) zm_158 rfl rfl ⟨Nat.le_of_ble_eq_true rfl, Nat.le_of_ble_eq_true rfl, Nat.le_of_ble_eq_true rfl, rfl, by decide⟩ (by omega) (th_158 (d := d - 1) (by omega) hIm570 (a0 := f577) (g0 := p12) (g1 := p11)  (F74 := f13) km570_69_11 km570_69_9 fm570_74 (by omega) (by omega)) ?_
                                        rintro _ m578 ⟨rfl, hIm578, gm578, po0_m578, po1_m578, po2_m578, po3_m578⟩
                                        have hFm578 : zFr W_161 m0 m578 := hFm570.trans gm578 rfl
                                        have km578_69_7 : m578 69 7 = p10 := (gm578 69 7 rfl).trans km570_69_7
                                        have km578_69_6 : m578 69 6 = (f41 + 1) := (gm578 69 6 rfl).trans km570_69_6
                                        have km578_75_4 : m578 75 4 = f577 := (gm578 75 4 rfl).trans ef577
                                        have fm578_74 : m578 74 = f13 := (funext fun k => gm578 74 k rfl).trans fm570_74
                                        obtain ⟨f579, ef579⟩ : ∃ v, m578 69 11 = v := ⟨_, rfl⟩
                                        have bf579 := ib_69_11 hIm578
                                        rw [ef579] at bf579
                                        rw [ef579] at po0_m578
                                        rw [ef579] at po1_m578
                                        rw [ef579] at po2_m578
                                        show zW E (d) 161 109 [(2, 69), (0, i5), (0, i6), (0, i7), (0, r40)] [] m578 Q
                                        have z580 := cB_nn f13 (f579).toNat
                                        refine zw_push zr_161_109 ?_
                                        refine zw_9 (L' := [(2, 69), (0, i5), (0, 0), (0, i7), (0, r40)]) zr_161_110 (Nat.le_of_ble_eq_true rfl) rfl ?_
                                        refine zw_42 zr_161_111 ?_
                                        refine zw_42 zr_161_485 ?_
                                        exact zw_less (L := [(2, 69), (0, i5), (0, 0), (0, i7), (9, 0)]) ⟨Or.inr rfl, Or.inr rfl, Or.inr rfl, Or.inr rfl, Or.inl rfl, trivial⟩ (ihlp26_14 (i5) (0) (i7) ((f41 + 1)) (p10) ((p11 + 1)) (f579) (f13) m578 hIm578 hFm578  km578_69_6 km578_69_7 po3_m578 ef579 fm578_74 (by omega) (by omega) (by omega) (by omega) (by omega) (by omega) (by omega) (by omega) (by omega) (by omega) (by omega) (by omega) (by omega) (by omega) (by omega) (by omega) (by omega) (by omega) (by omega))
                                    · intro h581; omega
                                  · intro h582; omega
                                · intro h583; omega
                              · intro h584; omega
                        · intro h585
                          refine zw_push zr_159_36 ?_
                          refine zw_42 zr_159_37 ?_
                          refine zw_R zr_159_61 (by decide) zm_159 (v := (0, 3)) rfl ?_
                          rw [← hQ1]
                          show zW E (d) 161 81 [(2, 69), (0, i5), (0, i6), (0, i7), (0, r40)] [(0, 3)] m39 Q
                          refine zw_push zr_161_81 ?_
                          refine zw_41_1 zr_161_82 ?_ ?_
                          · intro h586; omega
                          · intro h587
                            refine zw_7 zr_161_85 rfl ?_
                            refine zw_43 zr_161_86 rfl ?_
                            refine zw_46i zr_161_87 ef41 rfl rfl rfl ?_
                            refine zw_push zr_161_90 ?_
                            refine zw_16 zr_161_91 (by omega) ?_
                            refine zw_47 (c := 69) zr_161_92 rfl ⟨rfl, by decide, rfl⟩ ?_
                            intro m588 em588
                            have hIm588 : zInv m588 := by rw [em588]; exact hIm39.bd (r := 69) (k := 6) (lo := 0) (hi := 50) rfl (by omega) (by decide) (by decide) (by decide)
                            have hFm588 : zFr W_161 m0 m588 := by rw [em588]; exact hFm39.up rfl
                            have km588_69_7 : m588 69 7 = p10 := by rw [em588, zUp_ne (by omega)]; exact km39_69_7
                            have km588_69_9 : m588 69 9 = p11 := by rw [em588, zUp_ne (by omega)]; exact km39_69_9
                            have km588_69_11 : m588 69 11 = p12 := by rw [em588, zUp_ne (by omega)]; exact km39_69_11
                            have km588_69_6 : m588 69 6 = (f41 + 1) := by rw [em588]; exact zUp_eq _ _ _ _
                            have fm588_74 : m588 74 = f13 := by rw [em588, zUp_fn (by decide)]; exact fm39_74
                            clear em588
                            refine zw_7 zr_161_95 rfl ?_
                            refine zw_7 zr_161_96 rfl ?_
                            refine zw_46r (s := 75) zr_161_97 rfl rfl rfl rfl ?_
                            refine zw_4 zr_161_100 rfl ?_
                            refine zw_C zr_161_102 (Or.inr rfl) zm_159 rfl rfl ⟨Nat.le_of_ble_eq_true rfl, Nat.le_of_ble_eq_true rfl, Nat.le_of_ble_eq_true rfl, rfl, by decide⟩ (by omega) (P := (fun v m' => zW E (d) 161 105 [(2, 69), (0, i5), (0, i6), (0, i7), (0, r40)] (if v.1 = 9 then [(2, 75), (2, 69)] else v :: [(2, 75), (2, 69)]) m' Q)) ?_ (fun _ _ h => h)
                            generalize hQ1 : (fun v m' => zW E (d) 161 105 [(2, 69), (0, i5), (0, i6), (0, i7), (0, r40)] (if v.1 = 9 then [(2, 75), (2, 69)] else v :: [(2, 75), (2, 69)]) m' Q) = Q1
                            show zW E (d - 1) 159 0 [(0, r40)] [] m588 Q1
                            refine zw_3 zr_159_0 rfl ?_
                            refine zw_push zr_159_1 ?_
                            refine zw_41_4 zr_159_3 ?_ ?_
                            · intro h589
                              refine zw_3 zr_159_10 rfl ?_
                              refine zw_push zr_159_11 ?_
                              refine zw_41_4 zr_159_13 ?_ ?_
                              · intro h590
                                refine zw_3 zr_159_20 rfl ?_
                                refine zw_push zr_159_21 ?_
                                refine zw_41_4 zr_159_23 ?_ ?_
                                · intro h591
                                  refine zw_3 zr_159_30 rfl ?_
                                  refine zw_push zr_159_31 ?_
                                  refine zw_41_4 zr_159_33 ?_ ?_
                                  · intro h592; omega
                                  · intro h593
                                    refine zw_push zr_159_36 ?_
                                    refine zw_42 zr_159_37 ?_
                                    refine zw_R zr_159_61 (by decide) zm_159 (v := (0, 3)) rfl ?_
                                    rw [← hQ1]
                                    show zW E (d) 161 105 [(2, 69), (0, i5), (0, i6), (0, i7), (0, r40)] [(0, 3), (2, 75), (2, 69)] m588 Q
                                    obtain ⟨f594, ef594⟩ : ∃ v, m588 75 3 = v := ⟨_, rfl⟩
                                    have bf594 : (-9223372036854775808) ≤ m588 75 3 ∧ m588 75 3 ≤ 9223372036854775807 := hIm588.rl (c := 75) (len := 6) rfl (by omega)
                                    rw [ef594] at bf594
                                    refine zw_50k (c := 75) (len := 6) zr_161_105 rfl rfl (by omega) (by omega) (show (3 : Int).toNat = 3 by omega) ef594 ?_
                                    refine zw_C zr_161_106 (Or.inl rfl) zm_158 rfl rfl ⟨Nat.le_of_ble_eq_true rfl, Nat.le_of_ble_eq_true rfl, Nat.le_of_ble_eq_true rfl, rfl, by decide⟩ (by omega) (th_158 (d := d - 1) (by omega) hIm588 (a0 := f594) (g0 := p12) (g1 := p11)  (F74 := f13) km588_69_11 km588_69_9 fm588_74 (by omega) (by omega)) ?_
                                    rintro _ m595 ⟨rfl, hIm595, gm595, po0_m595, po1_m595, po2_m595, po3_m595⟩
                                    have hFm595 : zFr W_161 m0 m595 := hFm588.trans gm595 rfl
                                    have km595_69_7 : m595 69 7 = p10 := (gm595 69 7 rfl).trans km588_69_7
                                    have km595_69_6 : m595 69 6 = (f41 + 1) := (gm595 69 6 rfl).trans km588_69_6
                                    have km595_75_3 : m595 75 3 = f594 := (gm595 75 3 rfl).trans ef594
                                    have fm595_74 : m595 74 = f13 := (funext fun k => gm595 74 k rfl).trans fm588_74
                                    obtain ⟨f596, ef596⟩ : ∃ v, m595 69 11 = v := ⟨_, rfl⟩
                                    have bf596 := ib_69_11 hIm595
                                    rw [ef596] at bf596
                                    rw [ef596] at po0_m595
                                    rw [ef596] at po1_m595
                                    rw [ef596] at po2_m595
                                    show zW E (d) 161 109 [(2, 69), (0, i5), (0, i6), (0, i7), (0, r40)] [] m595 Q
                                    have z597 := cB_nn f13 (f596).toNat
                                    refine zw_push zr_161_109 ?_
                                    refine zw_9 (L' := [(2, 69), (0, i5), (0, 0), (0, i7), (0, r40)]) zr_161_110 (Nat.le_of_ble_eq_true rfl) rfl ?_
                                    refine zw_42 zr_161_111 ?_
                                    refine zw_42 zr_161_485 ?_
                                    exact zw_less (L := [(2, 69), (0, i5), (0, 0), (0, i7), (9, 0)]) ⟨Or.inr rfl, Or.inr rfl, Or.inr rfl, Or.inr rfl, Or.inl rfl, trivial⟩ (ihlp26_14 (i5) (0) (i7) ((f41 + 1)) (p10) ((p11 + 1)) (f596) (f13) m595 hIm595 hFm595  km595_69_6 km595_69_7 po3_m595 ef596 fm595_74 (by omega) (by omega) (by omega) (by omega) (by omega) (by omega) (by omega) (by omega) (by omega) (by omega) (by omega) (by omega) (by omega) (by omega) (by omega) (by omega) (by omega) (by omega) (by omega))
                                · intro h598; omega
                              · intro h599; omega
                            · intro h600; omega
                      · intro h601
                        refine zw_push zr_159_26 ?_
                        refine zw_42 zr_159_27 ?_
                        refine zw_R zr_159_61 (by decide) zm_159 (v := (0, 2)) rfl ?_
                        rw [← hQ1]
                        show zW E (d) 161 81 [(2, 69), (0, i5), (0, i6), (0, i7), (0, r40)] [(0, 2)] m39 Q
                        refine zw_push zr_161_81 ?_
                        refine zw_41_1 zr_161_82 ?_ ?_
                        · intro h602; omega
                        · intro h603
                          refine zw_7 zr_161_85 rfl ?_
                          refine zw_43 zr_161_86 rfl ?_
                          refine zw_46i zr_161_87 ef41 rfl rfl rfl ?_
                          refine zw_push zr_161_90 ?_
                          refine zw_16 zr_161_91 (by omega) ?_
                          refine zw_47 (c := 69) zr_161_92 rfl ⟨rfl, by decide, rfl⟩ ?_
                          intro m604 em604
                          have hIm604 : zInv m604 := by rw [em604]; exact hIm39.bd (r := 69) (k := 6) (lo := 0) (hi := 50) rfl (by omega) (by decide) (by decide) (by decide)
                          have hFm604 : zFr W_161 m0 m604 := by rw [em604]; exact hFm39.up rfl
                          have km604_69_7 : m604 69 7 = p10 := by rw [em604, zUp_ne (by omega)]; exact km39_69_7
                          have km604_69_9 : m604 69 9 = p11 := by rw [em604, zUp_ne (by omega)]; exact km39_69_9
                          have km604_69_11 : m604 69 11 = p12 := by rw [em604, zUp_ne (by omega)]; exact km39_69_11
                          have km604_69_6 : m604 69 6 = (f41 + 1) := by rw [em604]; exact zUp_eq _ _ _ _
                          have fm604_74 : m604 74 = f13 := by rw [em604, zUp_fn (by decide)]; exact fm39_74
                          clear em604
                          refine zw_7 zr_161_95 rfl ?_
                          refine zw_7 zr_161_96 rfl ?_
                          refine zw_46r (s := 75) zr_161_97 rfl rfl rfl rfl ?_
                          refine zw_4 zr_161_100 rfl ?_
                          refine zw_C zr_161_102 (Or.inr rfl) zm_159 rfl rfl ⟨Nat.le_of_ble_eq_true rfl, Nat.le_of_ble_eq_true rfl, Nat.le_of_ble_eq_true rfl, rfl, by decide⟩ (by omega) (P := (fun v m' => zW E (d) 161 105 [(2, 69), (0, i5), (0, i6), (0, i7), (0, r40)] (if v.1 = 9 then [(2, 75), (2, 69)] else v :: [(2, 75), (2, 69)]) m' Q)) ?_ (fun _ _ h => h)
                          generalize hQ1 : (fun v m' => zW E (d) 161 105 [(2, 69), (0, i5), (0, i6), (0, i7), (0, r40)] (if v.1 = 9 then [(2, 75), (2, 69)] else v :: [(2, 75), (2, 69)]) m' Q) = Q1
                          show zW E (d - 1) 159 0 [(0, r40)] [] m604 Q1
                          refine zw_3 zr_159_0 rfl ?_
                          refine zw_push zr_159_1 ?_
                          refine zw_41_4 zr_159_3 ?_ ?_
                          · intro h605
                            refine zw_3 zr_159_10 rfl ?_
                            refine zw_push zr_159_11 ?_
                            refine zw_41_4 zr_159_13 ?_ ?_
                            · intro h606
                              refine zw_3 zr_159_20 rfl ?_
                              refine zw_push zr_159_21 ?_
                              refine zw_41_4 zr_159_23 ?_ ?_
                              · intro h607; omega
                              · intro h608
                                refine zw_push zr_159_26 ?_
                                refine zw_42 zr_159_27 ?_
                                refine zw_R zr_159_61 (by decide) zm_159 (v := (0, 2)) rfl ?_
                                rw [← hQ1]
                                show zW E (d) 161 105 [(2, 69), (0, i5), (0, i6), (0, i7), (0, r40)] [(0, 2), (2, 75), (2, 69)] m604 Q
                                obtain ⟨f609, ef609⟩ : ∃ v, m604 75 2 = v := ⟨_, rfl⟩
                                have bf609 : (-9223372036854775808) ≤ m604 75 2 ∧ m604 75 2 ≤ 9223372036854775807 := hIm604.rl (c := 75) (len := 6) rfl (by omega)
                                rw [ef609] at bf609
                                refine zw_50k (c := 75) (len := 6) zr_161_105 rfl rfl (by omega) (by omega) (show (2 : Int).toNat = 2 by omega) ef609 ?_
                                refine zw_C zr_161_106 (Or.inl rfl) zm_158 rfl rfl ⟨Nat.le_of_ble_eq_true rfl, Nat.le_of_ble_eq_true rfl, Nat.le_of_ble_eq_true rfl, rfl, by decide⟩ (by omega) (th_158 (d := d - 1) (by omega) hIm604 (a0 := f609) (g0 := p12) (g1 := p11)  (F74 := f13) km604_69_11 km604_69_9 fm604_74 (by omega) (by omega)) ?_
                                rintro _ m610 ⟨rfl, hIm610, gm610, po0_m610, po1_m610, po2_m610, po3_m610⟩
                                have hFm610 : zFr W_161 m0 m610 := hFm604.trans gm610 rfl
                                have km610_69_7 : m610 69 7 = p10 := (gm610 69 7 rfl).trans km604_69_7
                                have km610_69_6 : m610 69 6 = (f41 + 1) := (gm610 69 6 rfl).trans km604_69_6
                                have km610_75_2 : m610 75 2 = f609 := (gm610 75 2 rfl).trans ef609
                                have fm610_74 : m610 74 = f13 := (funext fun k => gm610 74 k rfl).trans fm604_74
                                obtain ⟨f611, ef611⟩ : ∃ v, m610 69 11 = v := ⟨_, rfl⟩
                                have bf611 := ib_69_11 hIm610
                                rw [ef611] at bf611
                                rw [ef611] at po0_m610
                                rw [ef611] at po1_m610
                                rw [ef611] at po2_m610
                                show zW E (d) 161 109 [(2, 69), (0, i5), (0, i6), (0, i7), (0, r40)] [] m610 Q
                                have z612 := cB_nn f13 (f611).toNat
                                refine zw_push zr_161_109 ?_
                                refine zw_9 (L' := [(2, 69), (0, i5), (0, 0), (0, i7), (0, r40)]) zr_161_110 (Nat.le_of_ble_eq_true rfl) rfl ?_
                                refine zw_42 zr_161_111 ?_
                                refine zw_42 zr_161_485 ?_
                                exact zw_less (L := [(2, 69), (0, i5), (0, 0), (0, i7), (9, 0)]) ⟨Or.inr rfl, Or.inr rfl, Or.inr rfl, Or.inr rfl, Or.inl rfl, trivial⟩ (ihlp26_14 (i5) (0) (i7) ((f41 + 1)) (p10) ((p11 + 1)) (f611) (f13) m610 hIm610 hFm610  km610_69_6 km610_69_7 po3_m610 ef611 fm610_74 (by omega) (by omega) (by omega) (by omega) (by omega) (by omega) (by omega) (by omega) (by omega) (by omega) (by omega) (by omega) (by omega) (by omega) (by omega) (by omega) (by omega) (by omega) (by omega))
                            · intro h613; omega
                          · intro h614; omega
                    · intro h615
                      refine zw_push zr_159_16 ?_
                      refine zw_42 zr_159_17 ?_
                      refine zw_R zr_159_61 (by decide) zm_159 (v := (0, 1)) rfl ?_
                      rw [← hQ1]
                      show zW E (d) 161 81 [(2, 69), (0, i5), (0, i6), (0, i7), (0, r40)] [(0, 1)] m39 Q
                      refine zw_push zr_161_81 ?_
                      refine zw_41_1 zr_161_82 ?_ ?_
                      · intro h616; omega
                      · intro h617
                        refine zw_7 zr_161_85 rfl ?_
                        refine zw_43 zr_161_86 rfl ?_
                        refine zw_46i zr_161_87 ef41 rfl rfl rfl ?_
                        refine zw_push zr_161_90 ?_
                        refine zw_16 zr_161_91 (by omega) ?_
                        refine zw_47 (c := 69) zr_161_92 rfl ⟨rfl, by decide, rfl⟩ ?_
                        intro m618 em618
                        have hIm618 : zInv m618 := by rw [em618]; exact hIm39.bd (r := 69) (k := 6) (lo := 0) (hi := 50) rfl (by omega) (by decide) (by decide) (by decide)
                        have hFm618 : zFr W_161 m0 m618 := by rw [em618]; exact hFm39.up rfl
                        have km618_69_7 : m618 69 7 = p10 := by rw [em618, zUp_ne (by omega)]; exact km39_69_7
                        have km618_69_9 : m618 69 9 = p11 := by rw [em618, zUp_ne (by omega)]; exact km39_69_9
                        have km618_69_11 : m618 69 11 = p12 := by rw [em618, zUp_ne (by omega)]; exact km39_69_11
                        have km618_69_6 : m618 69 6 = (f41 + 1) := by rw [em618]; exact zUp_eq _ _ _ _
                        have fm618_74 : m618 74 = f13 := by rw [em618, zUp_fn (by decide)]; exact fm39_74
                        clear em618
                        refine zw_7 zr_161_95 rfl ?_
                        refine zw_7 zr_161_96 rfl ?_
                        refine zw_46r (s := 75) zr_161_97 rfl rfl rfl rfl ?_
                        refine zw_4 zr_161_100 rfl ?_
                        refine zw_C zr_161_102 (Or.inr rfl) zm_159 rfl rfl ⟨Nat.le_of_ble_eq_true rfl, Nat.le_of_ble_eq_true rfl, Nat.le_of_ble_eq_true rfl, rfl, by decide⟩ (by omega) (P := (fun v m' => zW E (d) 161 105 [(2, 69), (0, i5), (0, i6), (0, i7), (0, r40)] (if v.1 = 9 then [(2, 75), (2, 69)] else v :: [(2, 75), (2, 69)]) m' Q)) ?_ (fun _ _ h => h)
                        generalize hQ1 : (fun v m' => zW E (d) 161 105 [(2, 69), (0, i5), (0, i6), (0, i7), (0, r40)] (if v.1 = 9 then [(2, 75), (2, 69)] else v :: [(2, 75), (2, 69)]) m' Q) = Q1
                        show zW E (d - 1) 159 0 [(0, r40)] [] m618 Q1
                        refine zw_3 zr_159_0 rfl ?_
                        refine zw_push zr_159_1 ?_
                        refine zw_41_4 zr_159_3 ?_ ?_
                        · intro h619
                          refine zw_3 zr_159_10 rfl ?_
                          refine zw_push zr_159_11 ?_
                          refine zw_41_4 zr_159_13 ?_ ?_
                          · intro h620; omega
                          · intro h621
                            refine zw_push zr_159_16 ?_
                            refine zw_42 zr_159_17 ?_
                            refine zw_R zr_159_61 (by decide) zm_159 (v := (0, 1)) rfl ?_
                            rw [← hQ1]
                            show zW E (d) 161 105 [(2, 69), (0, i5), (0, i6), (0, i7), (0, r40)] [(0, 1), (2, 75), (2, 69)] m618 Q
                            obtain ⟨f622, ef622⟩ : ∃ v, m618 75 1 = v := ⟨_, rfl⟩
                            have bf622 : (-9223372036854775808) ≤ m618 75 1 ∧ m618 75 1 ≤ 9223372036854775807 := hIm618.rl (c := 75) (len := 6) rfl (by omega)
                            rw [ef622] at bf622
                            refine zw_50k (c := 75) (len := 6) zr_161_105 rfl rfl (by omega) (by omega) (show (1 : Int).toNat = 1 by omega) ef622 ?_
                            refine zw_C zr_161_106 (Or.inl rfl) zm_158 rfl rfl ⟨Nat.le_of_ble_eq_true rfl, Nat.le_of_ble_eq_true rfl, Nat.le_of_ble_eq_true rfl, rfl, by decide⟩ (by omega) (th_158 (d := d - 1) (by omega) hIm618 (a0 := f622) (g0 := p12) (g1 := p11)  (F74 := f13) km618_69_11 km618_69_9 fm618_74 (by omega) (by omega)) ?_
                            rintro _ m623 ⟨rfl, hIm623, gm623, po0_m623, po1_m623, po2_m623, po3_m623⟩
                            have hFm623 : zFr W_161 m0 m623 := hFm618.trans gm623 rfl
                            have km623_69_7 : m623 69 7 = p10 := (gm623 69 7 rfl).trans km618_69_7
                            have km623_69_6 : m623 69 6 = (f41 + 1) := (gm623 69 6 rfl).trans km618_69_6
                            have km623_75_1 : m623 75 1 = f622 := (gm623 75 1 rfl).trans ef622
                            have fm623_74 : m623 74 = f13 := (funext fun k => gm623 74 k rfl).trans fm618_74
                            obtain ⟨f624, ef624⟩ : ∃ v, m623 69 11 = v := ⟨_, rfl⟩
                            have bf624 := ib_69_11 hIm623
                            rw [ef624] at bf624
                            rw [ef624] at po0_m623
                            rw [ef624] at po1_m623
                            rw [ef624] at po2_m623
                            show zW E (d) 161 109 [(2, 69), (0, i5), (0, i6), (0, i7), (0, r40)] [] m623 Q
                            have z625 := cB_nn f13 (f624).toNat
                            refine zw_push zr_161_109 ?_
                            refine zw_9 (L' := [(2, 69), (0, i5), (0, 0), (0, i7), (0, r40)]) zr_161_110 (Nat.le_of_ble_eq_true rfl) rfl ?_
                            refine zw_42 zr_161_111 ?_
                            refine zw_42 zr_161_485 ?_
                            exact zw_less (L := [(2, 69), (0, i5), (0, 0), (0, i7), (9, 0)]) ⟨Or.inr rfl, Or.inr rfl, Or.inr rfl, Or.inr rfl, Or.inl rfl, trivial⟩ (ihlp26_14 (i5) (0) (i7) ((f41 + 1)) (p10) ((p11 + 1)) (f624) (f13) m623 hIm623 hFm623  km623_69_6 km623_69_7 po3_m623 ef624 fm623_74 (by omega) (by omega) (by omega) (by omega) (by omega) (by omega) (by omega) (by omega) (by omega) (by omega) (by omega) (by omega) (by omega) (by omega) (by omega) (by omega) (by omega) (by omega) (by omega))
                        · intro h626; omega
                  · intro h627
                    refine zw_push zr_159_6 ?_
                    refine zw_42 zr_159_7 ?_
                    refine zw_R zr_159_61 (by decide) zm_159 (v := (0, 0)) rfl ?_
                    rw [← hQ1]
                    show zW E (d) 161 81 [(2, 69), (0, i5), (0, i6), (0, i7), (0, r40)] [(0, 0)] m39 Q
                    refine zw_push zr_161_81 ?_
                    refine zw_41_1 zr_161_82 ?_ ?_
                    · intro h628; omega
                    · intro h629
                      refine zw_7 zr_161_85 rfl ?_
                      refine zw_43 zr_161_86 rfl ?_
                      refine zw_46i zr_161_87 ef41 rfl rfl rfl ?_
                      refine zw_push zr_161_90 ?_
                      refine zw_16 zr_161_91 (by omega) ?_
                      refine zw_47 (c := 69) zr_161_92 rfl ⟨rfl, by decide, rfl⟩ ?_
                      intro m630 em630
                      have hIm630 : zInv m630 := by rw [em630]; exact hIm39.bd (r := 69) (k := 6) (lo := 0) (hi := 50) rfl (by omega) (by decide) (by decide) (by decide)
                      have hFm630 : zFr W_161 m0 m630 := by rw [em630]; exact hFm39.up rfl
                      have km630_69_7 : m630 69 7 = p10 := by rw [em630, zUp_ne (by omega)]; exact km39_69_7
                      have km630_69_9 : m630 69 9 = p11 := by rw [em630, zUp_ne (by omega)]; exact km39_69_9
                      have km630_69_11 : m630 69 11 = p12 := by rw [em630, zUp_ne (by omega)]; exact km39_69_11
                      have km630_69_6 : m630 69 6 = (f41 + 1) := by rw [em630]; exact zUp_eq _ _ _ _
                      have fm630_74 : m630 74 = f13 := by rw [em630, zUp_fn (by decide)]; exact fm39_74
                      clear em630
                      refine zw_7 zr_161_95 rfl ?_
                      refine zw_7 zr_161_96 rfl ?_
                      refine zw_46r (s := 75) zr_161_97 rfl rfl rfl rfl ?_
                      refine zw_4 zr_161_100 rfl ?_
                      refine zw_C zr_161_102 (Or.inr rfl) zm_159 rfl rfl ⟨Nat.le_of_ble_eq_true rfl, Nat.le_of_ble_eq_true rfl, Nat.le_of_ble_eq_true rfl, rfl, by decide⟩ (by omega) (P := (fun v m' => zW E (d) 161 105 [(2, 69), (0, i5), (0, i6), (0, i7), (0, r40)] (if v.1 = 9 then [(2, 75), (2, 69)] else v :: [(2, 75), (2, 69)]) m' Q)) ?_ (fun _ _ h => h)
                      generalize hQ1 : (fun v m' => zW E (d) 161 105 [(2, 69), (0, i5), (0, i6), (0, i7), (0, r40)] (if v.1 = 9 then [(2, 75), (2, 69)] else v :: [(2, 75), (2, 69)]) m' Q) = Q1
                      show zW E (d - 1) 159 0 [(0, r40)] [] m630 Q1
                      refine zw_3 zr_159_0 rfl ?_
                      refine zw_push zr_159_1 ?_
                      refine zw_41_4 zr_159_3 ?_ ?_
                      · intro h631; omega
                      · intro h632
                        refine zw_push zr_159_6 ?_
                        refine zw_42 zr_159_7 ?_
                        refine zw_R zr_159_61 (by decide) zm_159 (v := (0, 0)) rfl ?_
                        rw [← hQ1]
                        show zW E (d) 161 105 [(2, 69), (0, i5), (0, i6), (0, i7), (0, r40)] [(0, 0), (2, 75), (2, 69)] m630 Q
                        obtain ⟨f633, ef633⟩ : ∃ v, m630 75 0 = v := ⟨_, rfl⟩
                        have bf633 : (-9223372036854775808) ≤ m630 75 0 ∧ m630 75 0 ≤ 9223372036854775807 := hIm630.rl (c := 75) (len := 6) rfl (by omega)
                        rw [ef633] at bf633
                        refine zw_50k (c := 75) (len := 6) zr_161_105 rfl rfl (by omega) (by omega) (show (0 : Int).toNat = 0 by omega) ef633 ?_
                        refine zw_C zr_161_106 (Or.inl rfl) zm_158 rfl rfl ⟨Nat.le_of_ble_eq_true rfl, Nat.le_of_ble_eq_true rfl, Nat.le_of_ble_eq_true rfl, rfl, by decide⟩ (by omega) (th_158 (d := d - 1) (by omega) hIm630 (a0 := f633) (g0 := p12) (g1 := p11)  (F74 := f13) km630_69_11 km630_69_9 fm630_74 (by omega) (by omega)) ?_
                        rintro _ m634 ⟨rfl, hIm634, gm634, po0_m634, po1_m634, po2_m634, po3_m634⟩
                        have hFm634 : zFr W_161 m0 m634 := hFm630.trans gm634 rfl
                        have km634_69_7 : m634 69 7 = p10 := (gm634 69 7 rfl).trans km630_69_7
                        have km634_69_6 : m634 69 6 = (f41 + 1) := (gm634 69 6 rfl).trans km630_69_6
                        have km634_75_0 : m634 75 0 = f633 := (gm634 75 0 rfl).trans ef633
                        have fm634_74 : m634 74 = f13 := (funext fun k => gm634 74 k rfl).trans fm630_74
                        obtain ⟨f635, ef635⟩ : ∃ v, m634 69 11 = v := ⟨_, rfl⟩
                        have bf635 := ib_69_11 hIm634
                        rw [ef635] at bf635
                        rw [ef635] at po0_m634
                        rw [ef635] at po1_m634
                        rw [ef635] at po2_m634
                        show zW E (d) 161 109 [(2, 69), (0, i5), (0, i6), (0, i7), (0, r40)] [] m634 Q
                        have z636 := cB_nn f13 (f635).toNat
                        refine zw_push zr_161_109 ?_
                        refine zw_9 (L' := [(2, 69), (0, i5), (0, 0), (0, i7), (0, r40)]) zr_161_110 (Nat.le_of_ble_eq_true rfl) rfl ?_
                        refine zw_42 zr_161_111 ?_
                        refine zw_42 zr_161_485 ?_
                        exact zw_less (L := [(2, 69), (0, i5), (0, 0), (0, i7), (9, 0)]) ⟨Or.inr rfl, Or.inr rfl, Or.inr rfl, Or.inr rfl, Or.inl rfl, trivial⟩ (ihlp26_14 (i5) (0) (i7) ((f41 + 1)) (p10) ((p11 + 1)) (f635) (f13) m634 hIm634 hFm634  km634_69_6 km634_69_7 po3_m634 ef635 fm634_74 (by omega) (by omega) (by omega) (by omega) (by omega) (by omega) (by omega) (by omega) (by omega) (by omega) (by omega) (by omega) (by omega) (by omega) (by omega) (by omega) (by omega) (by omega) (by omega))
                · intro h637; omega
              · intro h638
                refine zw_push zr_140_13 ?_
                refine zw_42 zr_140_14 ?_
                refine zw_R zr_140_18 (by decide) zm_140 (v := (0, 1)) (zRetB (by omega)) ?_
                rw [← hQ1]
                show zW E (d) 161 60 [(2, 69), (0, i5), (0, i6), (0, i7), (0, r40)] [(0, 1)] m39 Q
                refine zw_40_1 zr_161_60 ?_ ?_
                · intro h639; omega
                · intro h640
                  refine zw_7 zr_161_63 rfl ?_
                  refine zw_7 zr_161_64 rfl ?_
                  refine zw_C zr_161_65 (Or.inl rfl) zm_160 rfl rfl ⟨Nat.le_of_ble_eq_true rfl, Nat.le_of_ble_eq_true rfl, Nat.le_of_ble_eq_true rfl, rfl, by decide⟩ (by omega) (th_160 (d := d - 1) (by omega) hIm39  (g0 := f41) (g1 := p10)   ef41 km39_69_7   ) ?_
                  rintro _ m641 ⟨r642, rfl, hr642a, hr642b, hIm641, gm641, po0_r642, po1_r642⟩
                  have hFm641 : zFr W_161 m0 m641 := hFm39.trans gm641 rfl
                  have km641_69_9 : m641 69 9 = p11 := (gm641 69 9 rfl).trans km39_69_9
                  have km641_69_11 : m641 69 11 = p12 := (gm641 69 11 rfl).trans km39_69_11
                  have fm641_74 : m641 74 = f13 := (funext fun k => gm641 74 k rfl).trans fm39_74
                  obtain ⟨f643, ef643⟩ : ∃ v, m641 69 6 = v := ⟨_, rfl⟩
                  have bf643 := ib_69_6 hIm641
                  rw [ef643] at bf643
                  rw [ef643] at po0_r642
                  obtain ⟨f644, ef644⟩ : ∃ v, m641 69 7 = v := ⟨_, rfl⟩
                  have bf644 := hIm641.fi (c := 69) (k := 7) rfl
                  rw [ef644] at bf644
                  rw [ef644] at po1_r642
                  show zW E (d) 161 68 [(2, 69), (0, i5), (0, i6), (0, i7), (0, r40)] [(1, r642), (2, 69)] m641 Q
                  refine zw_C zr_161_68 (Or.inl rfl) zm_158 rfl rfl ⟨Nat.le_of_ble_eq_true rfl, Nat.le_of_ble_eq_true rfl, Nat.le_of_ble_eq_true rfl, rfl, by decide⟩ (by omega) (th_158 (d := d - 1) (by omega) hIm641 (a0 := r642) (g0 := p12) (g1 := p11)  (F74 := f13) km641_69_11 km641_69_9 fm641_74 (by omega) (by omega)) ?_
                  rintro _ m645 ⟨rfl, hIm645, gm645, po0_m645, po1_m645, po2_m645, po3_m645⟩
                  have hFm645 : zFr W_161 m0 m645 := hFm641.trans gm645 rfl
                  have km645_69_6 : m645 69 6 = f643 := (gm645 69 6 rfl).trans ef643
                  have km645_69_7 : m645 69 7 = f644 := (gm645 69 7 rfl).trans ef644
                  have fm645_74 : m645 74 = f13 := (funext fun k => gm645 74 k rfl).trans fm641_74
                  obtain ⟨f646, ef646⟩ : ∃ v, m645 69 11 = v := ⟨_, rfl⟩
                  have bf646 := ib_69_11 hIm645
                  rw [ef646] at bf646
                  rw [ef646] at po0_m645
                  rw [ef646] at po1_m645
                  rw [ef646] at po2_m645
                  show zW E (d) 161 71 [(2, 69), (0, i5), (0, i6), (0, i7), (0, r40)] [] m645 Q
                  have z647 := cB_nn f13 (f646).toNat
                  refine zw_push zr_161_71 ?_
                  refine zw_9 (L' := [(2, 69), (0, i5), (0, 0), (0, i7), (0, r40)]) zr_161_72 (Nat.le_of_ble_eq_true rfl) rfl ?_
                  refine zw_42 zr_161_73 ?_
                  refine zw_42 zr_161_485 ?_
                  exact zw_less (L := [(2, 69), (0, i5), (0, 0), (0, i7), (9, 0)]) ⟨Or.inr rfl, Or.inr rfl, Or.inr rfl, Or.inr rfl, Or.inl rfl, trivial⟩ (ihlp26_14 (i5) (0) (i7) (f643) (f644) ((p11 + 1)) (f646) (f13) m645 hIm645 hFm645  km645_69_6 km645_69_7 po3_m645 ef646 fm645_74 (by omega) (by omega) (by omega) (by omega) (by omega) (by omega) (by omega) (by omega) (by omega) (by omega) (by omega) (by omega) (by omega) (by omega) (by omega) (by omega) (by omega) (by omega) (by omega))
  exact lp26_14 _ (0) (1) (1) (0) ((-1)) (0) (0) (F74) m4 hIm4 hFm4  km4_69_6 km4_69_7 km4_69_9 km4_69_11 fm4_74 (by omega) (by omega) (by omega) (by omega) (by omega) (by omega) (by omega) (by omega) (by omega) (by omega) (by omega) (by omega) (by omega) (by omega) (by omega) (by have := cB_nn F74 (Int.toNat 0); omega) (by omega) (by have := cB_nn F74 (Int.toNat 0); omega) (Nat.lt_succ_self _)
