abbrev W_15_1 : List (Nat × Nat) := [(45, 1), (45, 5), (45, 6), (45, 7), (45, 8), (47, 1000), (48, 1000)]
set_option maxHeartbeats 8000000 in
theorem th_15_1 {E : zE} {d : Nat} {m0 : zM} {a0 : Int} (hd : 93 ≤ d) (hI0 : zInv m0) (ha0 : 0 ≤ a0 ∧ a0 ≤ 3) : zC E d 15 [(2, 45), (2, 1), (0, a0)] m0 (fun v m' => v = (9, 0) ∧ zInv m' ∧ zFr W_15_1 m0 m') := by
  have hF0 : zFr W_15_1 m0 m0 := zFr.rfl
  generalize hQ : (fun (v : zV) (m' : zM) => v = (9, 0) ∧ zInv m' ∧ zFr W_15_1 m0 m') = Q
  show zW E d 15 0 [(2, 45), (2, 1), (0, a0)] [] m0 Q
  refine zw_7 zr_15_0 rfl ?_
  refine zw_7 zr_15_1 rfl ?_
  refine zw_46r (s := 10) zr_15_2 rfl rfl rfl rfl ?_
  refine zw_3 zr_15_5 rfl ?_
  refine zw_48 (c := 10) (len := 4) zr_15_6 rfl rfl (by omega) (by omega) ?_
  intro x1 ex1
  have bx1 := ib_10 hI0 (k := (a0).toNat) (by omega)
  rw [← ex1] at bx1
  clear ex1
  refine zw_47 (c := 45) zr_15_7 rfl ⟨rfl, by decide, rfl⟩ ?_
  intro m2 em2
  have hIm2 : zInv m2 := by rw [em2]; exact hI0.bd (r := 45) (k := 5) (lo := 0) (hi := 50) rfl (by omega) (by decide) (by decide) (by decide)
  have hFm2 : zFr W_15_1 m0 m2 := by rw [em2]; exact hF0.up rfl
  have km2_45_5 : m2 45 5 = x1 := by rw [em2]; exact zUp_eq _ _ _ _
  clear em2
  refine zw_7 zr_15_10 rfl ?_
  refine zw_46r (s := 11) zr_15_11 rfl rfl rfl rfl ?_
  refine zw_3 zr_15_14 rfl ?_
  refine zw_push zr_15_15 ?_
  refine zw_18 zr_15_17 (by omega) ?_
  refine zw_7 zr_15_18 rfl ?_
  refine zw_46r (s := 47) zr_15_19 rfl rfl rfl rfl ?_
  refine zw_push zr_15_22 ?_
  refine zw_7 zr_15_23 rfl ?_
  refine zw_46i zr_15_24 km2_45_5 rfl rfl rfl ?_
  refine zw_114 (c1 := 47) (c2 := 11) (l1 := 50) (l2 := 200) zr_15_27 rfl rfl rfl rfl (by decide) (Nat.le_of_ble_eq_true rfl) (by omega) (by omega) ?_
  intro m3 em3
  have hIm3 : zInv m3 := by rw [em3]; exact zInv.cpT hIm2 (by omega)
  have hFm3 : zFr W_15_1 m0 m3 := by rw [em3]; exact hFm2.cp rfl
  have km3_45_5 : m3 45 5 = x1 := by rw [em3, zCp_ne (by decide)]; exact km2_45_5
  clear em3
  refine zw_7 zr_15_30 rfl ?_
  refine zw_push zr_15_31 ?_
  refine zw_47 (c := 45) zr_15_32 rfl ⟨rfl, by decide, rfl⟩ ?_
  intro m4 em4
  have hIm4 : zInv m4 := by rw [em4]; exact hIm3.bd (r := 45) (k := 6) (lo := 0) (hi := 50) rfl (by omega) (by decide) (by decide) (by decide)
  have hFm4 : zFr W_15_1 m0 m4 := by rw [em4]; exact hFm3.up rfl
  have km4_45_5 : m4 45 5 = x1 := by rw [em4, zUp_ne (by omega)]; exact km3_45_5
  have km4_45_6 : m4 45 6 = 0 := by rw [em4]; exact zUp_eq _ _ _ _
  clear em4
  refine zw_7 zr_15_35 rfl ?_
  refine zw_push zr_15_36 ?_
  refine zw_47 (c := 45) zr_15_37 rfl ⟨rfl, by decide, rfl⟩ ?_
  intro m5 em5
  have hIm5 : zInv m5 := by rw [em5]; exact hIm4.bd (r := 45) (k := 7) (lo := 0) (hi := 8) rfl (by omega) (by decide) (by decide) (by decide)
  have hFm5 : zFr W_15_1 m0 m5 := by rw [em5]; exact hFm4.up rfl
  have km5_45_5 : m5 45 5 = x1 := by rw [em5, zUp_ne (by omega)]; exact km4_45_5
  have km5_45_6 : m5 45 6 = 0 := by rw [em5, zUp_ne (by omega)]; exact km4_45_6
  have km5_45_7 : m5 45 7 = 0 := by rw [em5]; exact zUp_eq _ _ _ _
  clear em5
  refine zw_7 zr_15_40 rfl ?_
  refine zw_push zr_15_41 ?_
  refine zw_47 (c := 45) zr_15_42 rfl ⟨rfl, by decide, rfl⟩ ?_
  intro m6 em6
  have hIm6 : zInv m6 := by rw [em6]; exact hIm5.bd (r := 45) (k := 8) (lo := 0) (hi := 50) rfl (by omega) (by decide) (by decide) (by decide)
  have hFm6 : zFr W_15_1 m0 m6 := by rw [em6]; exact hFm5.up rfl
  have km6_45_5 : m6 45 5 = x1 := by rw [em6, zUp_ne (by omega)]; exact km5_45_5
  have km6_45_6 : m6 45 6 = 0 := by rw [em6, zUp_ne (by omega)]; exact km5_45_6
  have km6_45_7 : m6 45 7 = 0 := by rw [em6, zUp_ne (by omega)]; exact km5_45_7
  have km6_45_8 : m6 45 8 = 0 := by rw [em6]; exact zUp_eq _ _ _ _
  clear em6
  refine zw_7 zr_15_45 rfl ?_
  refine zw_push zr_15_46 ?_
  refine zw_47 (c := 45) zr_15_47 rfl ⟨rfl, by decide, rfl⟩ ?_
  intro m7 em7
  have hIm7 : zInv m7 := by rw [em7]; exact hIm6.any (by omega) rfl (by decide) (by decide)
  have hFm7 : zFr W_15_1 m0 m7 := by rw [em7]; exact hFm6.up rfl
  have km7_45_5 : m7 45 5 = x1 := by rw [em7, zUp_ne (by omega)]; exact km6_45_5
  have km7_45_6 : m7 45 6 = 0 := by rw [em7, zUp_ne (by omega)]; exact km6_45_6
  have km7_45_7 : m7 45 7 = 0 := by rw [em7, zUp_ne (by omega)]; exact km6_45_7
  have km7_45_8 : m7 45 8 = 0 := by rw [em7, zUp_ne (by omega)]; exact km6_45_8
  have km7_45_1 : m7 45 1 = (-1) := by rw [em7]; exact zUp_eq _ _ _ _
  clear em7
  refine zw_7 zr_15_50 rfl ?_
  refine zw_push zr_15_51 ?_
  refine zw_C zr_15_52 (Or.inl rfl) zm_13 rfl rfl ⟨Nat.le_of_ble_eq_true rfl, Nat.le_of_ble_eq_true rfl, Nat.le_of_ble_eq_true rfl, rfl, by decide⟩ (by omega) (th_13 (d := d - 1) (by omega) hIm7 (a0 := 0) (g0 := 0)   km7_45_7  (by omega) ) ?_
  rintro _ m8 ⟨rfl, hIm8, gm8, po0_m8⟩
  have hFm8 : zFr W_15_1 m0 m8 := hFm7.trans gm8 rfl
  have km8_45_5 : m8 45 5 = x1 := (gm8 45 5 rfl).trans km7_45_5
  show zW E (d) 15 55 [(2, 45), (2, 1), (0, a0)] [] m8 Q
  refine zw_7 zr_15_55 rfl ?_
  obtain ⟨f9, ef9⟩ : ∃ v, m8 45 1 = v := ⟨_, rfl⟩
  have bf9 := hIm8.fi (c := 45) (k := 1) rfl
  rw [ef9] at bf9
  refine zw_46i zr_15_56 ef9 rfl rfl rfl ?_
  refine zw_push zr_15_59 ?_
  refine zw_41_4 zr_15_60 ?_ ?_
  · intro h10
    refine zw_R zr_15_76 (by decide) zm_15 (v := (9, 0)) rfl ?_
    rw [← hQ]; exact ⟨rfl, hIm8, hFm8⟩
  · intro h11
    refine zw_7 zr_15_63 rfl ?_
    refine zw_C zr_15_64 (Or.inl rfl) zm_6 rfl rfl ⟨Nat.le_of_ble_eq_true rfl, Nat.le_of_ble_eq_true rfl, Nat.le_of_ble_eq_true rfl, rfl, by decide⟩ (by omega) (th_6 (d := d - 1) (by omega) hIm8        ) ?_
    rintro _ m12 ⟨r13, rfl, hr13a, hr13b, hIm12, gm12, po0_r13⟩
    have hFm12 : zFr W_15_1 m0 m12 := hFm8.trans gm12 rfl
    have km12_45_5 : m12 45 5 = x1 := (gm12 45 5 rfl).trans km8_45_5
    have km12_45_7 : m12 45 7 = 0 := (gm12 45 7 rfl).trans po0_m8
    have km12_45_1 : m12 45 1 = f9 := (gm12 45 1 rfl).trans ef9
    obtain ⟨f14, ef14⟩ : ∃ v, m12 45 6 = v := ⟨_, rfl⟩
    have bf14 := ib_45_6 hIm12
    rw [ef14] at bf14
    show zW E (d) 15 67 [(2, 45), (2, 1), (0, a0)] [(0, r13)] m12 Q
    refine zw_push zr_15_67 ?_
    refine zw_41_1 zr_15_68 ?_ ?_
    · intro h15
      refine zw_R zr_15_76 (by decide) zm_15 (v := (9, 0)) rfl ?_
      rw [← hQ]; exact ⟨rfl, hIm12, hFm12⟩
    · intro h16
      refine zw_7 zr_15_71 rfl ?_
      refine zw_push zr_15_72 ?_
      refine zw_C zr_15_73 (Or.inl rfl) zm_5 rfl rfl ⟨Nat.le_of_ble_eq_true rfl, Nat.le_of_ble_eq_true rfl, Nat.le_of_ble_eq_true rfl, rfl, by decide⟩ (by omega) (P := (fun v m' => zW E (d) 15 76 [(2, 45), (2, 1), (0, a0)] (if v.1 = 9 then [] else v :: []) m' Q)) ?_ (fun _ _ h => h)
      generalize hQ1 : (fun v m' => zW E (d) 15 76 [(2, 45), (2, 1), (0, a0)] (if v.1 = 9 then [] else v :: []) m' Q) = Q1
      show zW E (d - 1) 5 0 [(2, 45), (0, 1)] [] m12 Q1
      refine zw_7 zr_5_0 rfl ?_
      refine zw_46i zr_5_1 km12_45_1 rfl rfl rfl ?_
      refine zw_push zr_5_4 ?_
      refine zw_41_4 zr_5_5 ?_ ?_
      · intro h17; omega
      · intro h18
        refine zw_7 zr_5_8 rfl ?_
        refine zw_7 zr_5_9 rfl ?_
        refine zw_46i zr_5_10 ef14 rfl rfl rfl ?_
        refine zw_push zr_5_13 ?_
        refine zw_18 zr_5_15 (by omega) ?_
        refine zw_3 zr_5_16 rfl ?_
        refine zw_16 zr_5_17 (by omega) ?_
        refine zw_47 (c := 45) zr_5_18 rfl ⟨rfl, by decide, rfl⟩ ?_
        intro m19 em19
        have hIm19 : zInv m19 := by rw [em19]; exact hIm12.any (by omega) rfl (by decide) (by decide)
        have hFm19 : zFr W_15_1 m0 m19 := by rw [em19]; exact hFm12.up rfl
        have km19_45_5 : m19 45 5 = x1 := by rw [em19, zUp_ne (by omega)]; exact km12_45_5
        have km19_45_7 : m19 45 7 = 0 := by rw [em19, zUp_ne (by omega)]; exact km12_45_7
        have km19_45_6 : m19 45 6 = f14 := by rw [em19, zUp_ne (by omega)]; exact ef14
        have km19_45_1 : m19 45 1 = ((f14 * 10) + 1) := by rw [em19]; exact zUp_eq _ _ _ _
        clear em19
        refine zw_R zr_5_21 (by decide) zm_5 (v := (9, 0)) rfl ?_
        rw [← hQ1]
        show zW E (d) 15 76 [(2, 45), (2, 1), (0, a0)] [] m19 Q
        refine zw_R zr_15_76 (by decide) zm_15 (v := (9, 0)) rfl ?_
        rw [← hQ]; exact ⟨rfl, hIm19, hFm19⟩

abbrev W_40 : List (Nat × Nat) := [(45, 1), (45, 5), (45, 6), (45, 7), (45, 8), (47, 1000), (48, 1000)]
set_option maxHeartbeats 8000000 in
theorem th_40 {E : zE} {d : Nat} {m0 : zM} {a0 : Int} (hd : 94 ≤ d) (hI0 : zInv m0) (ha0 : 0 ≤ a0 ∧ a0 ≤ 3) : zC E d 40 [(2, 43), (0, a0)] m0 (fun v m' => ∃ r : Int, v = (0, r) ∧ (-2147483648) ≤ r ∧ r ≤ 2147483647 ∧ zInv m' ∧ zFr W_40 m0 m') := by
  have hF0 : zFr W_40 m0 m0 := zFr.rfl
  generalize hQ : (fun (v : zV) (m' : zM) => ∃ r : Int, v = (0, r) ∧ (-2147483648) ≤ r ∧ r ≤ 2147483647 ∧ zInv m' ∧ zFr W_40 m0 m') = Q
  show zW E d 40 0 [(2, 43), (0, a0)] [] m0 Q
  refine zw_7 zr_40_0 rfl ?_
  refine zw_46r (s := 45) zr_40_1 rfl rfl rfl rfl ?_
  refine zw_7 zr_40_4 rfl ?_
  refine zw_46r (s := 1) zr_40_5 rfl rfl rfl rfl ?_
  refine zw_3 zr_40_8 rfl ?_
  refine zw_C zr_40_9 (Or.inl rfl) zm_15 rfl rfl ⟨Nat.le_of_ble_eq_true rfl, Nat.le_of_ble_eq_true rfl, Nat.le_of_ble_eq_true rfl, rfl, by decide⟩ (by omega) (th_15_1 (d := d - 1) (by omega) hI0 (a0 := a0)      (by omega) ) ?_
  rintro _ m1 ⟨rfl, hIm1, gm1⟩
  have hFm1 : zFr W_40 m0 m1 := hF0.trans gm1 rfl
  show zW E (d) 40 12 [(2, 43), (0, a0)] [] m1 Q
  refine zw_7 zr_40_12 rfl ?_
  refine zw_46r (s := 45) zr_40_13 rfl rfl rfl rfl ?_
  obtain ⟨f2, ef2⟩ : ∃ v, m1 45 1 = v := ⟨_, rfl⟩
  have bf2 := hIm1.fi (c := 45) (k := 1) rfl
  rw [ef2] at bf2
  refine zw_46i zr_40_16 ef2 rfl rfl rfl ?_
  refine zw_R zr_40_19 (by decide) zm_40 (v := (0, f2)) rfl ?_
  rw [← hQ]; exact ⟨_, rfl, by omega, by omega, hIm1, hFm1⟩

abbrev W_108 : List (Nat × Nat) := [(45, 1), (45, 5), (45, 6), (45, 7), (45, 8), (47, 1000), (48, 1000)]
set_option maxHeartbeats 8000000 in
theorem th_108 {E : zE} {d : Nat} {m0 : zM} {a0 : Int} (hd : 95 ≤ d) (hI0 : zInv m0) (ha0 : (-2147483648) ≤ a0 ∧ a0 ≤ 2147483647) : zC E d 108 [(2, 0), (0, a0)] m0 (fun v m' => ∃ r : Int, v = (0, r) ∧ (-2147483648) ≤ r ∧ r ≤ 2147483647 ∧ zInv m' ∧ zFr W_108 m0 m') := by
  have hF0 : zFr W_108 m0 m0 := zFr.rfl
  generalize hQ : (fun (v : zV) (m' : zM) => ∃ r : Int, v = (0, r) ∧ (-2147483648) ≤ r ∧ r ≤ 2147483647 ∧ zInv m' ∧ zFr W_108 m0 m') = Q
  show zW E d 108 0 [(2, 0), (0, a0)] [] m0 Q
  refine zw_3 zr_108_0 rfl ?_
  refine zw_C zr_108_1 (Or.inr rfl) zm_104 rfl rfl ⟨Nat.le_of_ble_eq_true rfl, Nat.le_of_ble_eq_true rfl, Nat.le_of_ble_eq_true rfl, rfl, by decide⟩ (by omega) (P := (fun v m' => zW E (d) 108 4 [(2, 0), (0, a0)] (if v.1 = 9 then [] else v :: []) m' Q)) ?_ (fun _ _ h => h)
  generalize hQ1 : (fun v m' => zW E (d) 108 4 [(2, 0), (0, a0)] (if v.1 = 9 then [] else v :: []) m' Q) = Q1
  show zW E (d - 1) 104 0 [(0, a0)] [] m0 Q1
  refine zw_3 zr_104_0 rfl ?_
  refine zw_push zr_104_1 ?_
  refine zw_push zr_104_2 ?_
  refine zw_C zr_104_3 (Or.inr rfl) zm_100 rfl rfl ⟨Nat.le_of_ble_eq_true rfl, Nat.le_of_ble_eq_true rfl, Nat.le_of_ble_eq_true rfl, rfl, by decide⟩ (by omega) (P := (fun v m' => zW E (d - 1) 104 6 [(0, a0)] (if v.1 = 9 then [] else v :: []) m' Q1)) ?_ (fun _ _ h => h)
  generalize hQ2 : (fun v m' => zW E (d - 1) 104 6 [(0, a0)] (if v.1 = 9 then [] else v :: []) m' Q1) = Q2
  show zW E (d - 1 - 1) 100 0 [(0, a0), (0, 0), (0, 3)] [] m0 Q2
  refine zw_3 zr_100_0 rfl ?_
  refine zw_3 zr_100_1 rfl ?_
  refine zw_41_0 zr_100_2 ?_ ?_
  · intro h1
    refine zw_push zr_100_14 ?_
    refine zw_R zr_100_15 (by decide) zm_100 (v := (0, 0)) (zRetB (by omega)) ?_
    rw [← hQ2]
    show zW E (d - 1) 104 6 [(0, a0)] [(0, 0)] m0 Q1
    refine zw_R zr_104_6 (by decide) zm_104 (v := (0, 0)) (zRetB (by omega)) ?_
    rw [← hQ1]
    show zW E (d) 108 4 [(2, 0), (0, a0)] [(0, 0)] m0 Q
    refine zw_40_1 zr_108_4 ?_ ?_
    · intro h2
      refine zw_push zr_108_18 ?_
      refine zw_R zr_108_20 (by decide) zm_108 (v := (0, (-2))) rfl ?_
      rw [← hQ]; exact ⟨_, rfl, by omega, by omega, hI0, hF0⟩
    · intro h3; omega
  · intro h4
    refine zw_3 zr_100_5 rfl ?_
    refine zw_3 zr_100_6 rfl ?_
    refine zw_41_2 zr_100_7 ?_ ?_
    · intro h5
      refine zw_push zr_100_14 ?_
      refine zw_R zr_100_15 (by decide) zm_100 (v := (0, 0)) (zRetB (by omega)) ?_
      rw [← hQ2]
      show zW E (d - 1) 104 6 [(0, a0)] [(0, 0)] m0 Q1
      refine zw_R zr_104_6 (by decide) zm_104 (v := (0, 0)) (zRetB (by omega)) ?_
      rw [← hQ1]
      show zW E (d) 108 4 [(2, 0), (0, a0)] [(0, 0)] m0 Q
      refine zw_40_1 zr_108_4 ?_ ?_
      · intro h6
        refine zw_push zr_108_18 ?_
        refine zw_R zr_108_20 (by decide) zm_108 (v := (0, (-2))) rfl ?_
        rw [← hQ]; exact ⟨_, rfl, by omega, by omega, hI0, hF0⟩
      · intro h7; omega
    · intro h8
      refine zw_push zr_100_10 ?_
      refine zw_42 zr_100_11 ?_
      refine zw_R zr_100_15 (by decide) zm_100 (v := (0, 1)) (zRetB (by omega)) ?_
      rw [← hQ2]
      show zW E (d - 1) 104 6 [(0, a0)] [(0, 1)] m0 Q1
      refine zw_R zr_104_6 (by decide) zm_104 (v := (0, 1)) (zRetB (by omega)) ?_
      rw [← hQ1]
      show zW E (d) 108 4 [(2, 0), (0, a0)] [(0, 1)] m0 Q
      refine zw_40_1 zr_108_4 ?_ ?_
      · intro h9; omega
      · intro h10
        refine zw_7 zr_108_7 rfl ?_
        refine zw_46r (s := 43) zr_108_8 rfl rfl rfl rfl ?_
        refine zw_3 zr_108_11 rfl ?_
        refine zw_C zr_108_12 (Or.inl rfl) zm_40 rfl rfl ⟨Nat.le_of_ble_eq_true rfl, Nat.le_of_ble_eq_true rfl, Nat.le_of_ble_eq_true rfl, rfl, by decide⟩ (by omega) (th_40 (d := d - 1) (by omega) hI0 (a0 := a0)      (by omega) ) ?_
        rintro _ m11 ⟨r12, rfl, hr12a, hr12b, hIm11, gm11⟩
        have hFm11 : zFr W_108 m0 m11 := hF0.trans gm11 rfl
        show zW E (d) 108 15 [(2, 0), (0, a0)] [(0, r12)] m11 Q
        refine zw_42 zr_108_15 ?_
        refine zw_R zr_108_20 (by decide) zm_108 (v := (0, r12)) rfl ?_
        rw [← hQ]; exact ⟨_, rfl, by omega, by omega, hIm11, hFm11⟩

abbrev W_154 : List (Nat × Nat) := [(69, 6)]
set_option maxHeartbeats 8000000 in
theorem th_154 {E : zE} {d : Nat} {m0 : zM} {g0 : Int} (hd : 2 ≤ d) (hI0 : zInv m0) (hg0 : m0 69 6 = g0) : zC E d 154 [(2, 69)] m0 (fun v m' => ∃ r : Int, v = (0, r) ∧ (-1) ≤ r ∧ r ≤ 127 ∧ zInv m' ∧ zFr W_154 m0 m' ∧ (r = -1 ∨ m' 69 6 ≤ 49) ∧ (g0 ≤ m' 69 6)) := by
  have hF0 : zFr W_154 m0 m0 := zFr.rfl
  have bg0 := ib_69_6 hI0
  rw [hg0] at bg0
  generalize hQ : (fun (v : zV) (m' : zM) => ∃ r : Int, v = (0, r) ∧ (-1) ≤ r ∧ r ≤ 127 ∧ zInv m' ∧ zFr W_154 m0 m' ∧ (r = -1 ∨ m' 69 6 ≤ 49) ∧ (g0 ≤ m' 69 6)) = Q
  show zW E d 154 0 [(2, 69)] [] m0 Q
  have lp0_3 : ∀ (nlp0_3 : Nat) (p2 : Int) (m1 : zM), zInv m1 → zFr W_154 m0 m1 → m1 69 6 = p2 → 0 ≤ p2 → p2 ≤ 50 → (g0 ≤ p2) → (50 - p2).toNat < nlp0_3 → zW E (d) 154 0 [(2, 69)] [] m1 Q := by
    intro nlp0_3
    induction nlp0_3 with
    | zero =>
      intros
      exact absurd (by assumption : _ < 0) (Nat.not_lt_zero _)
    | succ nlp0_3 ihlp0_3 =>
      intro p2 m1 hIm1 hFm1 km1_69_6 lp2 up2 hv0lp0_3 hmlp0_3
      refine zw_7 zr_154_0 rfl ?_
      refine zw_46i zr_154_1 km1_69_6 rfl rfl rfl ?_
      refine zw_7 zr_154_4 rfl ?_
      refine zw_C zr_154_5 (Or.inl rfl) zm_152 rfl rfl ⟨Nat.le_of_ble_eq_true rfl, Nat.le_of_ble_eq_true rfl, Nat.le_of_ble_eq_true rfl, rfl, by decide⟩ (by omega) (P := (fun v m' => zW E (d) 154 8 [(2, 69)] (if v.1 = 9 then [(0, p2)] else v :: [(0, p2)]) m' Q)) ?_ (fun _ _ h => h)
      generalize hQ1 : (fun v m' => zW E (d) 154 8 [(2, 69)] (if v.1 = 9 then [(0, p2)] else v :: [(0, p2)]) m' Q) = Q1
      show zW E (d - 1) 152 0 [(2, 69)] [] m1 Q1
      refine zw_7 zr_152_0 rfl ?_
      refine zw_46r (s := 70) zr_152_1 rfl rfl rfl rfl ?_
      refine zw_push zr_152_4 ?_
      refine zw_push zr_152_7 ?_
      refine zw_7 zr_152_9 rfl ?_
      obtain ⟨f5, ef5⟩ : ∃ v, m1 69 5 = v := ⟨_, rfl⟩
      have bf5 := ib_69_5 hIm1
      rw [ef5] at bf5
      refine zw_46i zr_152_10 ef5 rfl rfl rfl ?_
      refine zw_18 zr_152_13 (by omega) ?_
      refine zw_16 zr_152_14 (by omega) ?_
      refine zw_push zr_152_15 ?_
      refine zw_16 zr_152_16 (by omega) ?_
      refine zw_48 (c := 70) (len := 826) zr_152_17 rfl rfl (by omega) (by omega) ?_
      intro x6 ex6
      have bx6 := ib_70_s1 hIm1 (k := (((450 + (52 * f5)) + 1)).toNat) (by omega)
      rw [← ex6] at bx6
      refine zw_R zr_152_18 (by decide) zm_152 (v := (0, x6)) rfl ?_
      rw [← hQ1]
      show zW E (d) 154 8 [(2, 69)] [(0, x6), (0, p2)] m1 Q
      refine zw_41_3 zr_154_8 ?_ ?_
      · intro h7
        refine zw_7 zr_154_37 rfl ?_
        refine zw_46i zr_154_38 km1_69_6 rfl rfl rfl ?_
        refine zw_7 zr_154_41 rfl ?_
        refine zw_C zr_154_42 (Or.inl rfl) zm_152 rfl rfl ⟨Nat.le_of_ble_eq_true rfl, Nat.le_of_ble_eq_true rfl, Nat.le_of_ble_eq_true rfl, rfl, by decide⟩ (by omega) (P := (fun v m' => zW E (d) 154 45 [(2, 69)] (if v.1 = 9 then [(0, p2)] else v :: [(0, p2)]) m' Q)) ?_ (fun _ _ h => h)
        generalize hQ1 : (fun v m' => zW E (d) 154 45 [(2, 69)] (if v.1 = 9 then [(0, p2)] else v :: [(0, p2)]) m' Q) = Q1
        show zW E (d - 1) 152 0 [(2, 69)] [] m1 Q1
        refine zw_7 zr_152_0 rfl ?_
        refine zw_46r (s := 70) zr_152_1 rfl rfl rfl rfl ?_
        refine zw_push zr_152_4 ?_
        refine zw_push zr_152_7 ?_
        refine zw_7 zr_152_9 rfl ?_
        refine zw_46i zr_152_10 ef5 rfl rfl rfl ?_
        refine zw_18 zr_152_13 (by omega) ?_
        refine zw_16 zr_152_14 (by omega) ?_
        refine zw_push zr_152_15 ?_
        refine zw_16 zr_152_16 (by omega) ?_
        refine zw_48k (c := 70) (len := 826) zr_152_17 rfl rfl (by omega) (by omega) rfl ex6.symm ?_
        refine zw_R zr_152_18 (by decide) zm_152 (v := (0, x6)) rfl ?_
        rw [← hQ1]
        show zW E (d) 154 45 [(2, 69)] [(0, x6), (0, p2)] m1 Q
        refine zw_41_3 zr_154_45 ?_ ?_
        · intro h8
          refine zw_push zr_154_59 ?_
          refine zw_R zr_154_60 (by decide) zm_154 (v := (0, (-1))) rfl ?_
          rw [← hQ]; exact ⟨_, rfl, by omega, by omega, hIm1, hFm1, by omega, by omega⟩
        · intro h11
          refine zw_7 zr_154_48 rfl ?_
          refine zw_7 zr_154_49 rfl ?_
          refine zw_46i zr_154_50 km1_69_6 rfl rfl rfl ?_
          refine zw_C zr_154_53 (Or.inl rfl) zm_153 rfl rfl ⟨Nat.le_of_ble_eq_true rfl, Nat.le_of_ble_eq_true rfl, Nat.le_of_ble_eq_true rfl, rfl, by decide⟩ (by omega) (P := (fun v m' => zW E (d) 154 56 [(2, 69)] (if v.1 = 9 then [] else v :: []) m' Q)) ?_ (fun _ _ h => h)
          generalize hQ1 : (fun v m' => zW E (d) 154 56 [(2, 69)] (if v.1 = 9 then [] else v :: []) m' Q) = Q1
          show zW E (d - 1) 153 0 [(2, 69), (0, p2)] [] m1 Q1
          refine zw_7 zr_153_0 rfl ?_
          refine zw_46r (s := 70) zr_153_1 rfl rfl rfl rfl ?_
          refine zw_push zr_153_4 ?_
          refine zw_push zr_153_7 ?_
          refine zw_7 zr_153_9 rfl ?_
          refine zw_46i zr_153_10 ef5 rfl rfl rfl ?_
          refine zw_18 zr_153_13 (by omega) ?_
          refine zw_16 zr_153_14 (by omega) ?_
          refine zw_push zr_153_15 ?_
          refine zw_16 zr_153_16 (by omega) ?_
          refine zw_3 zr_153_17 rfl ?_
          refine zw_16 zr_153_18 (by omega) ?_
          refine zw_48 (c := 70) (len := 826) zr_153_19 rfl rfl (by omega) (by omega) ?_
          intro x12 ex12
          have bx12 := ib_70_s2 hIm1 (k := ((((450 + (52 * f5)) + 2) + p2)).toNat) (by omega)
          rw [← ex12] at bx12
          refine zw_R zr_153_20 (by decide) zm_153 (v := (0, x12)) rfl ?_
          rw [← hQ1]
          show zW E (d) 154 56 [(2, 69)] [(0, x12)] m1 Q
          refine zw_42 zr_154_56 ?_
          refine zw_R zr_154_60 (by decide) zm_154 (v := (0, x12)) rfl ?_
          rw [← hQ]; exact ⟨_, rfl, by omega, by omega, hIm1, hFm1, by omega, by omega⟩
      · intro h15
        refine zw_7 zr_154_11 rfl ?_
        refine zw_7 zr_154_12 rfl ?_
        refine zw_46i zr_154_13 km1_69_6 rfl rfl rfl ?_
        refine zw_C zr_154_16 (Or.inl rfl) zm_153 rfl rfl ⟨Nat.le_of_ble_eq_true rfl, Nat.le_of_ble_eq_true rfl, Nat.le_of_ble_eq_true rfl, rfl, by decide⟩ (by omega) (P := (fun v m' => zW E (d) 154 19 [(2, 69)] (if v.1 = 9 then [] else v :: []) m' Q)) ?_ (fun _ _ h => h)
        generalize hQ1 : (fun v m' => zW E (d) 154 19 [(2, 69)] (if v.1 = 9 then [] else v :: []) m' Q) = Q1
        show zW E (d - 1) 153 0 [(2, 69), (0, p2)] [] m1 Q1
        refine zw_7 zr_153_0 rfl ?_
        refine zw_46r (s := 70) zr_153_1 rfl rfl rfl rfl ?_
        refine zw_push zr_153_4 ?_
        refine zw_push zr_153_7 ?_
        refine zw_7 zr_153_9 rfl ?_
        refine zw_46i zr_153_10 ef5 rfl rfl rfl ?_
        refine zw_18 zr_153_13 (by omega) ?_
        refine zw_16 zr_153_14 (by omega) ?_
        refine zw_push zr_153_15 ?_
        refine zw_16 zr_153_16 (by omega) ?_
        refine zw_3 zr_153_17 rfl ?_
        refine zw_16 zr_153_18 (by omega) ?_
        refine zw_48 (c := 70) (len := 826) zr_153_19 rfl rfl (by omega) (by omega) ?_
        intro x16 ex16
        have bx16 := ib_70_s2 hIm1 (k := ((((450 + (52 * f5)) + 2) + p2)).toNat) (by omega)
        rw [← ex16] at bx16
        refine zw_R zr_153_20 (by decide) zm_153 (v := (0, x16)) rfl ?_
        rw [← hQ1]
        show zW E (d) 154 19 [(2, 69)] [(0, x16)] m1 Q
        refine zw_push zr_154_19 ?_
        refine zw_41_4 zr_154_21 ?_ ?_
        · intro h17
          refine zw_7 zr_154_37 rfl ?_
          refine zw_46i zr_154_38 km1_69_6 rfl rfl rfl ?_
          refine zw_7 zr_154_41 rfl ?_
          refine zw_C zr_154_42 (Or.inl rfl) zm_152 rfl rfl ⟨Nat.le_of_ble_eq_true rfl, Nat.le_of_ble_eq_true rfl, Nat.le_of_ble_eq_true rfl, rfl, by decide⟩ (by omega) (P := (fun v m' => zW E (d) 154 45 [(2, 69)] (if v.1 = 9 then [(0, p2)] else v :: [(0, p2)]) m' Q)) ?_ (fun _ _ h => h)
          generalize hQ1 : (fun v m' => zW E (d) 154 45 [(2, 69)] (if v.1 = 9 then [(0, p2)] else v :: [(0, p2)]) m' Q) = Q1
          show zW E (d - 1) 152 0 [(2, 69)] [] m1 Q1
          refine zw_7 zr_152_0 rfl ?_
          refine zw_46r (s := 70) zr_152_1 rfl rfl rfl rfl ?_
          refine zw_push zr_152_4 ?_
          refine zw_push zr_152_7 ?_
          refine zw_7 zr_152_9 rfl ?_
          refine zw_46i zr_152_10 ef5 rfl rfl rfl ?_
          refine zw_18 zr_152_13 (by omega) ?_
          refine zw_16 zr_152_14 (by omega) ?_
          refine zw_push zr_152_15 ?_
          refine zw_16 zr_152_16 (by omega) ?_
          refine zw_48k (c := 70) (len := 826) zr_152_17 rfl rfl (by omega) (by omega) rfl ex6.symm ?_
          refine zw_R zr_152_18 (by decide) zm_152 (v := (0, x6)) rfl ?_
          rw [← hQ1]
          show zW E (d) 154 45 [(2, 69)] [(0, x6), (0, p2)] m1 Q
          refine zw_41_3 zr_154_45 ?_ ?_
          · intro h18
            refine zw_push zr_154_59 ?_
            refine zw_R zr_154_60 (by decide) zm_154 (v := (0, (-1))) rfl ?_
            rw [← hQ]; exact ⟨_, rfl, by omega, by omega, hIm1, hFm1, by omega, by omega⟩
          · intro h21
            refine zw_7 zr_154_48 rfl ?_
            refine zw_7 zr_154_49 rfl ?_
            refine zw_46i zr_154_50 km1_69_6 rfl rfl rfl ?_
            refine zw_C zr_154_53 (Or.inl rfl) zm_153 rfl rfl ⟨Nat.le_of_ble_eq_true rfl, Nat.le_of_ble_eq_true rfl, Nat.le_of_ble_eq_true rfl, rfl, by decide⟩ (by omega) (P := (fun v m' => zW E (d) 154 56 [(2, 69)] (if v.1 = 9 then [] else v :: []) m' Q)) ?_ (fun _ _ h => h)
            generalize hQ1 : (fun v m' => zW E (d) 154 56 [(2, 69)] (if v.1 = 9 then [] else v :: []) m' Q) = Q1
            show zW E (d - 1) 153 0 [(2, 69), (0, p2)] [] m1 Q1
            refine zw_7 zr_153_0 rfl ?_
            refine zw_46r (s := 70) zr_153_1 rfl rfl rfl rfl ?_
            refine zw_push zr_153_4 ?_
            refine zw_push zr_153_7 ?_
            refine zw_7 zr_153_9 rfl ?_
            refine zw_46i zr_153_10 ef5 rfl rfl rfl ?_
            refine zw_18 zr_153_13 (by omega) ?_
            refine zw_16 zr_153_14 (by omega) ?_
            refine zw_push zr_153_15 ?_
            refine zw_16 zr_153_16 (by omega) ?_
            refine zw_3 zr_153_17 rfl ?_
            refine zw_16 zr_153_18 (by omega) ?_
            refine zw_48k (c := 70) (len := 826) zr_153_19 rfl rfl (by omega) (by omega) rfl ex16.symm ?_
            refine zw_R zr_153_20 (by decide) zm_153 (v := (0, x16)) rfl ?_
            rw [← hQ1]
            show zW E (d) 154 56 [(2, 69)] [(0, x16)] m1 Q
            refine zw_42 zr_154_56 ?_
            refine zw_R zr_154_60 (by decide) zm_154 (v := (0, x16)) rfl ?_
            rw [← hQ]; exact ⟨_, rfl, by omega, by omega, hIm1, hFm1, by omega, by omega⟩
        · intro h24
          refine zw_7 zr_154_24 rfl ?_
          refine zw_43 zr_154_25 rfl ?_
          refine zw_46i zr_154_26 km1_69_6 rfl rfl rfl ?_
          refine zw_push zr_154_29 ?_
          refine zw_16 zr_154_30 (by omega) ?_
          refine zw_47 (c := 69) zr_154_31 rfl ⟨rfl, by decide, rfl⟩ ?_
          intro m25 em25
          have hIm25 : zInv m25 := by rw [em25]; exact hIm1.bd (r := 69) (k := 6) (lo := 0) (hi := 50) rfl (by omega) (by decide) (by decide) (by decide)
          have hFm25 : zFr W_154 m0 m25 := by rw [em25]; exact hFm1.up rfl
          have km25_69_5 : m25 69 5 = f5 := by rw [em25, zUp_ne (by omega)]; exact ef5
          have km25_69_6 : m25 69 6 = (p2 + 1) := by rw [em25]; exact zUp_eq _ _ _ _
          clear em25
          refine zw_42 zr_154_34 ?_
          exact zw_less (L := [(2, 69)]) ⟨Or.inr rfl, trivial⟩ (ihlp0_3 ((p2 + 1)) m25 hIm25 hFm25  km25_69_6 (by omega) (by omega) (by omega) (by omega))
  exact lp0_3 _ (g0) m0 hI0 hF0  hg0 (by omega) (by omega) (by omega) (Nat.lt_succ_self _)

set_option maxHeartbeats 8000000 in
theorem th_155 {E : zE} {d : Nat} {m0 : zM} {a0 : Int} (hd : 1 ≤ d) (hI0 : zInv m0) (ha0 : (-1) ≤ a0 ∧ a0 ≤ 1000) : zC E d 155 [(0, a0)] m0 (fun v m' => ∃ r : Int, v = (0, r) ∧ 0 ≤ r ∧ r ≤ 5 ∧ m0 = m' ∧ (r ≤ 0 ∨ 33 ≤ a0)) := by
  generalize hQ : (fun (v : zV) (m' : zM) => ∃ r : Int, v = (0, r) ∧ 0 ≤ r ∧ r ≤ 5 ∧ m0 = m' ∧ (r ≤ 0 ∨ 33 ≤ a0)) = Q
  show zW E d 155 0 [(0, a0)] [] m0 Q
  refine zw_3 zr_155_0 rfl ?_
  by_cases h1 : a0 = 38
  · refine zw_112 (off := 85) (t := 86) zr_155_1 (by rw [h1]; rfl) rfl ?_
    refine zw_push zr_155_86 ?_
    refine zw_R zr_155_87 (by decide) zm_155 (v := (0, 2)) rfl ?_
    rw [← hQ]; exact ⟨_, rfl, by omega, by omega, rfl, by omega⟩
  by_cases h3 : a0 = 42
  · refine zw_112 (off := 91) (t := 92) zr_155_1 (by rw [h3]; rfl) rfl ?_
    refine zw_push zr_155_92 ?_
    refine zw_R zr_155_93 (by decide) zm_155 (v := (0, 5)) rfl ?_
    rw [← hQ]; exact ⟨_, rfl, by omega, by omega, rfl, by omega⟩
  by_cases h5 : a0 = 43
  · refine zw_112 (off := 89) (t := 90) zr_155_1 (by rw [h5]; rfl) rfl ?_
    refine zw_push zr_155_90 ?_
    refine zw_R zr_155_91 (by decide) zm_155 (v := (0, 4)) rfl ?_
    rw [← hQ]; exact ⟨_, rfl, by omega, by omega, rfl, by omega⟩
  by_cases h7 : a0 = 45
  · refine zw_112 (off := 89) (t := 90) zr_155_1 (by rw [h7]; rfl) rfl ?_
    refine zw_push zr_155_90 ?_
    refine zw_R zr_155_91 (by decide) zm_155 (v := (0, 4)) rfl ?_
    rw [← hQ]; exact ⟨_, rfl, by omega, by omega, rfl, by omega⟩
  by_cases h9 : a0 = 47
  · refine zw_112 (off := 91) (t := 92) zr_155_1 (by rw [h9]; rfl) rfl ?_
    refine zw_push zr_155_92 ?_
    refine zw_R zr_155_93 (by decide) zm_155 (v := (0, 5)) rfl ?_
    rw [← hQ]; exact ⟨_, rfl, by omega, by omega, rfl, by omega⟩
  by_cases h11 : a0 = 60
  · refine zw_112 (off := 87) (t := 88) zr_155_1 (by rw [h11]; rfl) rfl ?_
    refine zw_push zr_155_88 ?_
    refine zw_R zr_155_89 (by decide) zm_155 (v := (0, 3)) rfl ?_
    rw [← hQ]; exact ⟨_, rfl, by omega, by omega, rfl, by omega⟩
  by_cases h13 : a0 = 61
  · refine zw_112 (off := 87) (t := 88) zr_155_1 (by rw [h13]; rfl) rfl ?_
    refine zw_push zr_155_88 ?_
    refine zw_R zr_155_89 (by decide) zm_155 (v := (0, 3)) rfl ?_
    rw [← hQ]; exact ⟨_, rfl, by omega, by omega, rfl, by omega⟩
  by_cases h15 : a0 = 62
  · refine zw_112 (off := 87) (t := 88) zr_155_1 (by rw [h15]; rfl) rfl ?_
    refine zw_push zr_155_88 ?_
    refine zw_R zr_155_89 (by decide) zm_155 (v := (0, 3)) rfl ?_
    rw [← hQ]; exact ⟨_, rfl, by omega, by omega, rfl, by omega⟩
  by_cases h17 : a0 = 124
  · refine zw_112 (off := 83) (t := 84) zr_155_1 (by rw [h17]; rfl) rfl ?_
    refine zw_push zr_155_84 ?_
    refine zw_R zr_155_85 (by decide) zm_155 (v := (0, 1)) rfl ?_
    rw [← hQ]; exact ⟨_, rfl, by omega, by omega, rfl, by omega⟩
  refine zw_112 (off := 93) (t := 94) zr_155_1 (zlsw_df (by simp; omega)) rfl ?_
  refine zw_push zr_155_94 ?_
  refine zw_R zr_155_95 (by decide) zm_155 (v := (0, 0)) rfl ?_
  rw [← hQ]; exact ⟨_, rfl, by omega, by omega, rfl, by omega⟩

abbrev W_156 : List (Nat × Nat) := [(69, 9), (69, 11), (73, 1000)]
set_option maxHeartbeats 8000000 in
theorem th_156 {E : zE} {d : Nat} {m0 : zM} {g0 : Int} {g1 : Int} (hd : 1 ≤ d) (hI0 : zInv m0) (hg0 : m0 69 11 = g0) (hg1 : m0 69 9 = g1) (hp0 : 1 ≤ g0) (hp1 : 2 ≤ g1) : zC E d 156 [(2, 69)] m0 (fun v m' => v = (9, 0) ∧ zInv m' ∧ zFr W_156 m0 m' ∧ (m' 69 11 = (g0 - 1)) ∧ (m' 69 9 = (g1 - 1))) := by
  have hF0 : zFr W_156 m0 m0 := zFr.rfl
  have bg0 := ib_69_11 hI0
  rw [hg0] at bg0
  have bg1 := ib_69_9 hI0
  rw [hg1] at bg1
  generalize hQ : (fun (v : zV) (m' : zM) => v = (9, 0) ∧ zInv m' ∧ zFr W_156 m0 m' ∧ (m' 69 11 = (g0 - 1)) ∧ (m' 69 9 = (g1 - 1))) = Q
  show zW E d 156 0 [(2, 69), (9, 0), (9, 0), (9, 0), (9, 0), (9, 0), (9, 0)] [] m0 Q
  refine zw_7 zr_156_0 rfl ?_
  refine zw_43 zr_156_1 rfl ?_
  refine zw_46i zr_156_2 hg0 rfl rfl rfl ?_
  refine zw_push zr_156_5 ?_
  refine zw_17 zr_156_6 (by omega) ?_
  refine zw_47 (c := 69) zr_156_7 rfl ⟨rfl, by decide, rfl⟩ ?_
  intro m1 em1
  have hIm1 : zInv m1 := by rw [em1]; exact hI0.bd (r := 69) (k := 11) (lo := 0) (hi := 128) rfl (by omega) (by decide) (by decide) (by decide)
  have hFm1 : zFr W_156 m0 m1 := by rw [em1]; exact hF0.up rfl
  have km1_69_9 : m1 69 9 = g1 := by rw [em1, zUp_ne (by omega)]; exact hg1
  have km1_69_11 : m1 69 11 = (g0 - 1) := by rw [em1]; exact zUp_eq _ _ _ _
  clear em1
  refine zw_7 zr_156_10 rfl ?_
  refine zw_43 zr_156_11 rfl ?_
  refine zw_46i zr_156_12 km1_69_9 rfl rfl rfl ?_
  refine zw_push zr_156_15 ?_
  refine zw_17 zr_156_16 (by omega) ?_
  refine zw_47 (c := 69) zr_156_17 rfl ⟨rfl, by decide, rfl⟩ ?_
  intro m2 em2
  have hIm2 : zInv m2 := by rw [em2]; exact hIm1.bd (r := 69) (k := 9) (lo := 0) (hi := 64) rfl (by omega) (by decide) (by decide) (by decide)
  have hFm2 : zFr W_156 m0 m2 := by rw [em2]; exact hFm1.up rfl
  have km2_69_11 : m2 69 11 = (g0 - 1) := by rw [em2, zUp_ne (by omega)]; exact km1_69_11
  have km2_69_9 : m2 69 9 = (g1 - 1) := by rw [em2]; exact zUp_eq _ _ _ _
  clear em2
  refine zw_7 zr_156_20 rfl ?_
  refine zw_46r (s := 73) zr_156_21 rfl rfl rfl rfl ?_
  refine zw_7 zr_156_24 rfl ?_
  refine zw_46i zr_156_25 km2_69_9 rfl rfl rfl ?_
  refine zw_push zr_156_28 ?_
  refine zw_17 zr_156_29 (by omega) ?_
  refine zw_50 (c := 73) (len := 64) zr_156_30 rfl rfl (by omega) (by omega) ?_
  intro x3 ex3
  have bx3 := hIm2.rl (c := 73) (len := 64) (k := (((g1 - 1) - 1)).toNat) rfl (by omega)
  rw [← ex3] at bx3
  clear ex3
  refine zw_13 (L' := [(2, 69), (1, x3), (9, 0), (9, 0), (9, 0), (9, 0), (9, 0)]) zr_156_31 (Nat.le_of_ble_eq_true rfl) rfl ?_
  refine zw_7 zr_156_32 rfl ?_
  refine zw_46r (s := 73) zr_156_33 rfl rfl rfl rfl ?_
  refine zw_7 zr_156_36 rfl ?_
  refine zw_46i zr_156_37 km2_69_9 rfl rfl rfl ?_
  refine zw_50 (c := 73) (len := 64) zr_156_40 rfl rfl (by omega) (by omega) ?_
  intro x4 ex4
  have bx4 := hIm2.rl (c := 73) (len := 64) (k := ((g1 - 1)).toNat) rfl (by omega)
  rw [← ex4] at bx4
  clear ex4
  refine zw_13 (L' := [(2, 69), (1, x3), (9, 0), (1, x4), (9, 0), (9, 0), (9, 0)]) zr_156_41 (Nat.le_of_ble_eq_true rfl) rfl ?_
  refine zw_push zr_156_42 ?_
  refine zw_14 (L' := [(2, 69), (1, x3), (9, 0), (1, x4), (9, 0), (1, 0), (9, 0)]) zr_156_43 (Nat.le_of_ble_eq_true rfl) rfl ?_
  refine zw_7 zr_156_45 rfl ?_
  refine zw_46r (s := 74) zr_156_46 rfl rfl rfl rfl ?_
  refine zw_7 zr_156_49 rfl ?_
  refine zw_46i zr_156_50 km2_69_11 rfl rfl rfl ?_
  refine zw_48 (c := 74) (len := 128) zr_156_53 rfl rfl (by omega) (by omega) ?_
  intro x5 ex5
  have bx5 := ib_74 hIm2 (k := ((g0 - 1)).toNat) (by omega)
  rw [← ex5] at bx5
  clear ex5
  by_cases h6 : x5 = 38
  · refine zw_112 (off := 96) (t := 150) zr_156_54 (by rw [h6]; rfl) rfl ?_
    refine zw_5 zr_156_150 rfl ?_
    refine zw_push zr_156_151 ?_
    refine zw_39_1 zr_156_152 zr_156_153 ?_ ?_
    · intro h7
      refine zw_push zr_156_166 ?_
      refine zw_14 (L' := [(2, 69), (1, x3), (9, 0), (1, x4), (9, 0), (1, 0), (9, 0)]) zr_156_167 (Nat.le_of_ble_eq_true rfl) rfl ?_
      refine zw_42 zr_156_169 ?_
      refine zw_7 zr_156_259 rfl ?_
      refine zw_46r (s := 73) zr_156_260 rfl rfl rfl rfl ?_
      refine zw_7 zr_156_263 rfl ?_
      refine zw_46i zr_156_264 km2_69_9 rfl rfl rfl ?_
      refine zw_push zr_156_267 ?_
      refine zw_17 zr_156_268 (by omega) ?_
      refine zw_6 zr_156_269 rfl ?_
      refine zw_51 (c := 73) (len := 64) zr_156_271 rfl rfl (by omega) (by omega) ?_
      intro m8 em8
      have hIm8 : zInv m8 := by rw [em8]; exact hIm2.anyl (by omega) (zK3 rfl) rfl (by decide) (by decide)
      have hFm8 : zFr W_156 m0 m8 := by rw [em8]; exact hFm2.any rfl
      have km8_69_11 : m8 69 11 = (g0 - 1) := by rw [em8, zUp_ne (by omega)]; exact km2_69_11
      have km8_69_9 : m8 69 9 = (g1 - 1) := by rw [em8, zUp_ne (by omega)]; exact km2_69_9
      clear em8
      refine zw_R zr_156_272 (by decide) zm_156 (v := (9, 0)) rfl ?_
      rw [← hQ]; exact ⟨rfl, hIm8, hFm8, by omega, by omega⟩
    · intro h11
      refine zw_5 zr_156_156 rfl ?_
      refine zw_push zr_156_157 ?_
      refine zw_39_1 zr_156_158 zr_156_159 ?_ ?_
      · intro h12
        refine zw_push zr_156_166 ?_
        refine zw_14 (L' := [(2, 69), (1, x3), (9, 0), (1, x4), (9, 0), (1, 0), (9, 0)]) zr_156_167 (Nat.le_of_ble_eq_true rfl) rfl ?_
        refine zw_42 zr_156_169 ?_
        refine zw_7 zr_156_259 rfl ?_
        refine zw_46r (s := 73) zr_156_260 rfl rfl rfl rfl ?_
        refine zw_7 zr_156_263 rfl ?_
        refine zw_46i zr_156_264 km2_69_9 rfl rfl rfl ?_
        refine zw_push zr_156_267 ?_
        refine zw_17 zr_156_268 (by omega) ?_
        refine zw_6 zr_156_269 rfl ?_
        refine zw_51 (c := 73) (len := 64) zr_156_271 rfl rfl (by omega) (by omega) ?_
        intro m13 em13
        have hIm13 : zInv m13 := by rw [em13]; exact hIm2.anyl (by omega) (zK3 rfl) rfl (by decide) (by decide)
        have hFm13 : zFr W_156 m0 m13 := by rw [em13]; exact hFm2.any rfl
        have km13_69_11 : m13 69 11 = (g0 - 1) := by rw [em13, zUp_ne (by omega)]; exact km2_69_11
        have km13_69_9 : m13 69 9 = (g1 - 1) := by rw [em13, zUp_ne (by omega)]; exact km2_69_9
        clear em13
        refine zw_R zr_156_272 (by decide) zm_156 (v := (9, 0)) rfl ?_
        rw [← hQ]; exact ⟨rfl, hIm13, hFm13, by omega, by omega⟩
      · intro h16
        refine zw_push zr_156_162 ?_
        refine zw_42 zr_156_163 ?_
        refine zw_14 (L' := [(2, 69), (1, x3), (9, 0), (1, x4), (9, 0), (1, 1), (9, 0)]) zr_156_167 (Nat.le_of_ble_eq_true rfl) rfl ?_
        refine zw_42 zr_156_169 ?_
        refine zw_7 zr_156_259 rfl ?_
        refine zw_46r (s := 73) zr_156_260 rfl rfl rfl rfl ?_
        refine zw_7 zr_156_263 rfl ?_
        refine zw_46i zr_156_264 km2_69_9 rfl rfl rfl ?_
        refine zw_push zr_156_267 ?_
        refine zw_17 zr_156_268 (by omega) ?_
        refine zw_6 zr_156_269 rfl ?_
        refine zw_51 (c := 73) (len := 64) zr_156_271 rfl rfl (by omega) (by omega) ?_
        intro m17 em17
        have hIm17 : zInv m17 := by rw [em17]; exact hIm2.anyl (by omega) (zK3 rfl) rfl (by decide) (by decide)
        have hFm17 : zFr W_156 m0 m17 := by rw [em17]; exact hFm2.any rfl
        have km17_69_11 : m17 69 11 = (g0 - 1) := by rw [em17, zUp_ne (by omega)]; exact km2_69_11
        have km17_69_9 : m17 69 9 = (g1 - 1) := by rw [em17, zUp_ne (by omega)]; exact km2_69_9
        clear em17
        refine zw_R zr_156_272 (by decide) zm_156 (v := (9, 0)) rfl ?_
        rw [← hQ]; exact ⟨rfl, hIm17, hFm17, by omega, by omega⟩
  by_cases h20 : x5 = 42
  · refine zw_112 (off := 182) (t := 236) zr_156_54 (by rw [h20]; rfl) rfl ?_
    refine zw_5 zr_156_236 rfl ?_
    refine zw_5 zr_156_237 rfl ?_
    refine zw_29h zr_156_238 ?_
    intro x21 hx21a hx21b
    refine zw_14 (L' := [(2, 69), (1, x3), (9, 0), (1, x4), (9, 0), (1, x21), (9, 0)]) zr_156_239 (Nat.le_of_ble_eq_true rfl) rfl ?_
    refine zw_42 zr_156_241 ?_
    refine zw_7 zr_156_259 rfl ?_
    refine zw_46r (s := 73) zr_156_260 rfl rfl rfl rfl ?_
    refine zw_7 zr_156_263 rfl ?_
    refine zw_46i zr_156_264 km2_69_9 rfl rfl rfl ?_
    refine zw_push zr_156_267 ?_
    refine zw_17 zr_156_268 (by omega) ?_
    refine zw_6 zr_156_269 rfl ?_
    refine zw_51 (c := 73) (len := 64) zr_156_271 rfl rfl (by omega) (by omega) ?_
    intro m22 em22
    have hIm22 : zInv m22 := by rw [em22]; exact hIm2.anyl (by omega) (zK3 rfl) rfl (by decide) (by decide)
    have hFm22 : zFr W_156 m0 m22 := by rw [em22]; exact hFm2.any rfl
    have km22_69_11 : m22 69 11 = (g0 - 1) := by rw [em22, zUp_ne (by omega)]; exact km2_69_11
    have km22_69_9 : m22 69 9 = (g1 - 1) := by rw [em22, zUp_ne (by omega)]; exact km2_69_9
    clear em22
    refine zw_R zr_156_272 (by decide) zm_156 (v := (9, 0)) rfl ?_
    rw [← hQ]; exact ⟨rfl, hIm22, hFm22, by omega, by omega⟩
  by_cases h25 : x5 = 43
  · refine zw_112 (off := 166) (t := 220) zr_156_54 (by rw [h25]; rfl) rfl ?_
    refine zw_5 zr_156_220 rfl ?_
    refine zw_5 zr_156_221 rfl ?_
    refine zw_27h zr_156_222 ?_
    intro x26 hx26a hx26b
    refine zw_14 (L' := [(2, 69), (1, x3), (9, 0), (1, x4), (9, 0), (1, x26), (9, 0)]) zr_156_223 (Nat.le_of_ble_eq_true rfl) rfl ?_
    refine zw_42 zr_156_225 ?_
    refine zw_7 zr_156_259 rfl ?_
    refine zw_46r (s := 73) zr_156_260 rfl rfl rfl rfl ?_
    refine zw_7 zr_156_263 rfl ?_
    refine zw_46i zr_156_264 km2_69_9 rfl rfl rfl ?_
    refine zw_push zr_156_267 ?_
    refine zw_17 zr_156_268 (by omega) ?_
    refine zw_6 zr_156_269 rfl ?_
    refine zw_51 (c := 73) (len := 64) zr_156_271 rfl rfl (by omega) (by omega) ?_
    intro m27 em27
    have hIm27 : zInv m27 := by rw [em27]; exact hIm2.anyl (by omega) (zK3 rfl) rfl (by decide) (by decide)
    have hFm27 : zFr W_156 m0 m27 := by rw [em27]; exact hFm2.any rfl
    have km27_69_11 : m27 69 11 = (g0 - 1) := by rw [em27, zUp_ne (by omega)]; exact km2_69_11
    have km27_69_9 : m27 69 9 = (g1 - 1) := by rw [em27, zUp_ne (by omega)]; exact km2_69_9
    clear em27
    refine zw_R zr_156_272 (by decide) zm_156 (v := (9, 0)) rfl ?_
    rw [← hQ]; exact ⟨rfl, hIm27, hFm27, by omega, by omega⟩
  by_cases h30 : x5 = 45
  · refine zw_112 (off := 174) (t := 228) zr_156_54 (by rw [h30]; rfl) rfl ?_
    refine zw_5 zr_156_228 rfl ?_
    refine zw_5 zr_156_229 rfl ?_
    refine zw_28h zr_156_230 ?_
    intro x31 hx31a hx31b
    refine zw_14 (L' := [(2, 69), (1, x3), (9, 0), (1, x4), (9, 0), (1, x31), (9, 0)]) zr_156_231 (Nat.le_of_ble_eq_true rfl) rfl ?_
    refine zw_42 zr_156_233 ?_
    refine zw_7 zr_156_259 rfl ?_
    refine zw_46r (s := 73) zr_156_260 rfl rfl rfl rfl ?_
    refine zw_7 zr_156_263 rfl ?_
    refine zw_46i zr_156_264 km2_69_9 rfl rfl rfl ?_
    refine zw_push zr_156_267 ?_
    refine zw_17 zr_156_268 (by omega) ?_
    refine zw_6 zr_156_269 rfl ?_
    refine zw_51 (c := 73) (len := 64) zr_156_271 rfl rfl (by omega) (by omega) ?_
    intro m32 em32
    have hIm32 : zInv m32 := by rw [em32]; exact hIm2.anyl (by omega) (zK3 rfl) rfl (by decide) (by decide)
    have hFm32 : zFr W_156 m0 m32 := by rw [em32]; exact hFm2.any rfl
    have km32_69_11 : m32 69 11 = (g0 - 1) := by rw [em32, zUp_ne (by omega)]; exact km2_69_11
    have km32_69_9 : m32 69 9 = (g1 - 1) := by rw [em32, zUp_ne (by omega)]; exact km2_69_9
    clear em32
    refine zw_R zr_156_272 (by decide) zm_156 (v := (9, 0)) rfl ?_
    rw [← hQ]; exact ⟨rfl, hIm32, hFm32, by omega, by omega⟩
  by_cases h35 : x5 = 60
  · refine zw_112 (off := 118) (t := 172) zr_156_54 (by rw [h35]; rfl) rfl ?_
    refine zw_5 zr_156_172 rfl ?_
    refine zw_5 zr_156_173 rfl ?_
    refine zw_39_3 zr_156_174 zr_156_175 ?_ ?_
    · intro h36
      refine zw_push zr_156_182 ?_
      refine zw_14 (L' := [(2, 69), (1, x3), (9, 0), (1, x4), (9, 0), (1, 0), (9, 0)]) zr_156_183 (Nat.le_of_ble_eq_true rfl) rfl ?_
      refine zw_42 zr_156_185 ?_
      refine zw_7 zr_156_259 rfl ?_
      refine zw_46r (s := 73) zr_156_260 rfl rfl rfl rfl ?_
      refine zw_7 zr_156_263 rfl ?_
      refine zw_46i zr_156_264 km2_69_9 rfl rfl rfl ?_
      refine zw_push zr_156_267 ?_
      refine zw_17 zr_156_268 (by omega) ?_
      refine zw_6 zr_156_269 rfl ?_
      refine zw_51 (c := 73) (len := 64) zr_156_271 rfl rfl (by omega) (by omega) ?_
      intro m37 em37
      have hIm37 : zInv m37 := by rw [em37]; exact hIm2.anyl (by omega) (zK3 rfl) rfl (by decide) (by decide)
      have hFm37 : zFr W_156 m0 m37 := by rw [em37]; exact hFm2.any rfl
      have km37_69_11 : m37 69 11 = (g0 - 1) := by rw [em37, zUp_ne (by omega)]; exact km2_69_11
      have km37_69_9 : m37 69 9 = (g1 - 1) := by rw [em37, zUp_ne (by omega)]; exact km2_69_9
      clear em37
      refine zw_R zr_156_272 (by decide) zm_156 (v := (9, 0)) rfl ?_
      rw [← hQ]; exact ⟨rfl, hIm37, hFm37, by omega, by omega⟩
    · intro h40
      refine zw_push zr_156_178 ?_
      refine zw_42 zr_156_179 ?_
      refine zw_14 (L' := [(2, 69), (1, x3), (9, 0), (1, x4), (9, 0), (1, 1), (9, 0)]) zr_156_183 (Nat.le_of_ble_eq_true rfl) rfl ?_
      refine zw_42 zr_156_185 ?_
      refine zw_7 zr_156_259 rfl ?_
      refine zw_46r (s := 73) zr_156_260 rfl rfl rfl rfl ?_
      refine zw_7 zr_156_263 rfl ?_
      refine zw_46i zr_156_264 km2_69_9 rfl rfl rfl ?_
      refine zw_push zr_156_267 ?_
      refine zw_17 zr_156_268 (by omega) ?_
      refine zw_6 zr_156_269 rfl ?_
      refine zw_51 (c := 73) (len := 64) zr_156_271 rfl rfl (by omega) (by omega) ?_
      intro m41 em41
      have hIm41 : zInv m41 := by rw [em41]; exact hIm2.anyl (by omega) (zK3 rfl) rfl (by decide) (by decide)
      have hFm41 : zFr W_156 m0 m41 := by rw [em41]; exact hFm2.any rfl
      have km41_69_11 : m41 69 11 = (g0 - 1) := by rw [em41, zUp_ne (by omega)]; exact km2_69_11
      have km41_69_9 : m41 69 9 = (g1 - 1) := by rw [em41, zUp_ne (by omega)]; exact km2_69_9
      clear em41
      refine zw_R zr_156_272 (by decide) zm_156 (v := (9, 0)) rfl ?_
      rw [← hQ]; exact ⟨rfl, hIm41, hFm41, by omega, by omega⟩
  by_cases h44 : x5 = 61
  · refine zw_112 (off := 150) (t := 204) zr_156_54 (by rw [h44]; rfl) rfl ?_
    refine zw_5 zr_156_204 rfl ?_
    refine zw_5 zr_156_205 rfl ?_
    refine zw_39_4 zr_156_206 zr_156_207 ?_ ?_
    · intro h45
      refine zw_push zr_156_214 ?_
      refine zw_14 (L' := [(2, 69), (1, x3), (9, 0), (1, x4), (9, 0), (1, 0), (9, 0)]) zr_156_215 (Nat.le_of_ble_eq_true rfl) rfl ?_
      refine zw_42 zr_156_217 ?_
      refine zw_7 zr_156_259 rfl ?_
      refine zw_46r (s := 73) zr_156_260 rfl rfl rfl rfl ?_
      refine zw_7 zr_156_263 rfl ?_
      refine zw_46i zr_156_264 km2_69_9 rfl rfl rfl ?_
      refine zw_push zr_156_267 ?_
      refine zw_17 zr_156_268 (by omega) ?_
      refine zw_6 zr_156_269 rfl ?_
      refine zw_51 (c := 73) (len := 64) zr_156_271 rfl rfl (by omega) (by omega) ?_
      intro m46 em46
      have hIm46 : zInv m46 := by rw [em46]; exact hIm2.anyl (by omega) (zK3 rfl) rfl (by decide) (by decide)
      have hFm46 : zFr W_156 m0 m46 := by rw [em46]; exact hFm2.any rfl
      have km46_69_11 : m46 69 11 = (g0 - 1) := by rw [em46, zUp_ne (by omega)]; exact km2_69_11
      have km46_69_9 : m46 69 9 = (g1 - 1) := by rw [em46, zUp_ne (by omega)]; exact km2_69_9
      clear em46
      refine zw_R zr_156_272 (by decide) zm_156 (v := (9, 0)) rfl ?_
      rw [← hQ]; exact ⟨rfl, hIm46, hFm46, by omega, by omega⟩
    · intro h49
      refine zw_push zr_156_210 ?_
      refine zw_42 zr_156_211 ?_
      refine zw_14 (L' := [(2, 69), (1, x3), (9, 0), (1, x4), (9, 0), (1, 1), (9, 0)]) zr_156_215 (Nat.le_of_ble_eq_true rfl) rfl ?_
      refine zw_42 zr_156_217 ?_
      refine zw_7 zr_156_259 rfl ?_
      refine zw_46r (s := 73) zr_156_260 rfl rfl rfl rfl ?_
      refine zw_7 zr_156_263 rfl ?_
      refine zw_46i zr_156_264 km2_69_9 rfl rfl rfl ?_
      refine zw_push zr_156_267 ?_
      refine zw_17 zr_156_268 (by omega) ?_
      refine zw_6 zr_156_269 rfl ?_
      refine zw_51 (c := 73) (len := 64) zr_156_271 rfl rfl (by omega) (by omega) ?_
      intro m50 em50
      have hIm50 : zInv m50 := by rw [em50]; exact hIm2.anyl (by omega) (zK3 rfl) rfl (by decide) (by decide)
      have hFm50 : zFr W_156 m0 m50 := by rw [em50]; exact hFm2.any rfl
      have km50_69_11 : m50 69 11 = (g0 - 1) := by rw [em50, zUp_ne (by omega)]; exact km2_69_11
      have km50_69_9 : m50 69 9 = (g1 - 1) := by rw [em50, zUp_ne (by omega)]; exact km2_69_9
      clear em50
      refine zw_R zr_156_272 (by decide) zm_156 (v := (9, 0)) rfl ?_
      rw [← hQ]; exact ⟨rfl, hIm50, hFm50, by omega, by omega⟩
  by_cases h53 : x5 = 62
  · refine zw_112 (off := 134) (t := 188) zr_156_54 (by rw [h53]; rfl) rfl ?_
    refine zw_5 zr_156_188 rfl ?_
    refine zw_5 zr_156_189 rfl ?_
    refine zw_39_5 zr_156_190 zr_156_191 ?_ ?_
    · intro h54
      refine zw_push zr_156_198 ?_
      refine zw_14 (L' := [(2, 69), (1, x3), (9, 0), (1, x4), (9, 0), (1, 0), (9, 0)]) zr_156_199 (Nat.le_of_ble_eq_true rfl) rfl ?_
      refine zw_42 zr_156_201 ?_
      refine zw_7 zr_156_259 rfl ?_
      refine zw_46r (s := 73) zr_156_260 rfl rfl rfl rfl ?_
      refine zw_7 zr_156_263 rfl ?_
      refine zw_46i zr_156_264 km2_69_9 rfl rfl rfl ?_
      refine zw_push zr_156_267 ?_
      refine zw_17 zr_156_268 (by omega) ?_
      refine zw_6 zr_156_269 rfl ?_
      refine zw_51 (c := 73) (len := 64) zr_156_271 rfl rfl (by omega) (by omega) ?_
      intro m55 em55
      have hIm55 : zInv m55 := by rw [em55]; exact hIm2.anyl (by omega) (zK3 rfl) rfl (by decide) (by decide)
      have hFm55 : zFr W_156 m0 m55 := by rw [em55]; exact hFm2.any rfl
      have km55_69_11 : m55 69 11 = (g0 - 1) := by rw [em55, zUp_ne (by omega)]; exact km2_69_11
      have km55_69_9 : m55 69 9 = (g1 - 1) := by rw [em55, zUp_ne (by omega)]; exact km2_69_9
      clear em55
      refine zw_R zr_156_272 (by decide) zm_156 (v := (9, 0)) rfl ?_
      rw [← hQ]; exact ⟨rfl, hIm55, hFm55, by omega, by omega⟩
    · intro h58
      refine zw_push zr_156_194 ?_
      refine zw_42 zr_156_195 ?_
      refine zw_14 (L' := [(2, 69), (1, x3), (9, 0), (1, x4), (9, 0), (1, 1), (9, 0)]) zr_156_199 (Nat.le_of_ble_eq_true rfl) rfl ?_
      refine zw_42 zr_156_201 ?_
      refine zw_7 zr_156_259 rfl ?_
      refine zw_46r (s := 73) zr_156_260 rfl rfl rfl rfl ?_
      refine zw_7 zr_156_263 rfl ?_
      refine zw_46i zr_156_264 km2_69_9 rfl rfl rfl ?_
      refine zw_push zr_156_267 ?_
      refine zw_17 zr_156_268 (by omega) ?_
      refine zw_6 zr_156_269 rfl ?_
      refine zw_51 (c := 73) (len := 64) zr_156_271 rfl rfl (by omega) (by omega) ?_
      intro m59 em59
      have hIm59 : zInv m59 := by rw [em59]; exact hIm2.anyl (by omega) (zK3 rfl) rfl (by decide) (by decide)
      have hFm59 : zFr W_156 m0 m59 := by rw [em59]; exact hFm2.any rfl
      have km59_69_11 : m59 69 11 = (g0 - 1) := by rw [em59, zUp_ne (by omega)]; exact km2_69_11
      have km59_69_9 : m59 69 9 = (g1 - 1) := by rw [em59, zUp_ne (by omega)]; exact km2_69_9
      clear em59
      refine zw_R zr_156_272 (by decide) zm_156 (v := (9, 0)) rfl ?_
      rw [← hQ]; exact ⟨rfl, hIm59, hFm59, by omega, by omega⟩
  by_cases h62 : x5 = 124
  · refine zw_112 (off := 74) (t := 128) zr_156_54 (by rw [h62]; rfl) rfl ?_
    refine zw_5 zr_156_128 rfl ?_
    refine zw_push zr_156_129 ?_
    refine zw_39_4 zr_156_130 zr_156_131 ?_ ?_
    · intro h63
      refine zw_push zr_156_140 ?_
      refine zw_42 zr_156_141 ?_
      refine zw_14 (L' := [(2, 69), (1, x3), (9, 0), (1, x4), (9, 0), (1, 1), (9, 0)]) zr_156_145 (Nat.le_of_ble_eq_true rfl) rfl ?_
      refine zw_42 zr_156_147 ?_
      refine zw_7 zr_156_259 rfl ?_
      refine zw_46r (s := 73) zr_156_260 rfl rfl rfl rfl ?_
      refine zw_7 zr_156_263 rfl ?_
      refine zw_46i zr_156_264 km2_69_9 rfl rfl rfl ?_
      refine zw_push zr_156_267 ?_
      refine zw_17 zr_156_268 (by omega) ?_
      refine zw_6 zr_156_269 rfl ?_
      refine zw_51 (c := 73) (len := 64) zr_156_271 rfl rfl (by omega) (by omega) ?_
      intro m64 em64
      have hIm64 : zInv m64 := by rw [em64]; exact hIm2.anyl (by omega) (zK3 rfl) rfl (by decide) (by decide)
      have hFm64 : zFr W_156 m0 m64 := by rw [em64]; exact hFm2.any rfl
      have km64_69_11 : m64 69 11 = (g0 - 1) := by rw [em64, zUp_ne (by omega)]; exact km2_69_11
      have km64_69_9 : m64 69 9 = (g1 - 1) := by rw [em64, zUp_ne (by omega)]; exact km2_69_9
      clear em64
      refine zw_R zr_156_272 (by decide) zm_156 (v := (9, 0)) rfl ?_
      rw [← hQ]; exact ⟨rfl, hIm64, hFm64, by omega, by omega⟩
    · intro h67
      refine zw_5 zr_156_134 rfl ?_
      refine zw_push zr_156_135 ?_
      refine zw_39_1 zr_156_136 zr_156_137 ?_ ?_
      · intro h68
        refine zw_push zr_156_144 ?_
        refine zw_14 (L' := [(2, 69), (1, x3), (9, 0), (1, x4), (9, 0), (1, 0), (9, 0)]) zr_156_145 (Nat.le_of_ble_eq_true rfl) rfl ?_
        refine zw_42 zr_156_147 ?_
        refine zw_7 zr_156_259 rfl ?_
        refine zw_46r (s := 73) zr_156_260 rfl rfl rfl rfl ?_
        refine zw_7 zr_156_263 rfl ?_
        refine zw_46i zr_156_264 km2_69_9 rfl rfl rfl ?_
        refine zw_push zr_156_267 ?_
        refine zw_17 zr_156_268 (by omega) ?_
        refine zw_6 zr_156_269 rfl ?_
        refine zw_51 (c := 73) (len := 64) zr_156_271 rfl rfl (by omega) (by omega) ?_
        intro m69 em69
        have hIm69 : zInv m69 := by rw [em69]; exact hIm2.anyl (by omega) (zK3 rfl) rfl (by decide) (by decide)
        have hFm69 : zFr W_156 m0 m69 := by rw [em69]; exact hFm2.any rfl
        have km69_69_11 : m69 69 11 = (g0 - 1) := by rw [em69, zUp_ne (by omega)]; exact km2_69_11
        have km69_69_9 : m69 69 9 = (g1 - 1) := by rw [em69, zUp_ne (by omega)]; exact km2_69_9
        clear em69
        refine zw_R zr_156_272 (by decide) zm_156 (v := (9, 0)) rfl ?_
        rw [← hQ]; exact ⟨rfl, hIm69, hFm69, by omega, by omega⟩
      · intro h72
        refine zw_push zr_156_140 ?_
        refine zw_42 zr_156_141 ?_
        refine zw_14 (L' := [(2, 69), (1, x3), (9, 0), (1, x4), (9, 0), (1, 1), (9, 0)]) zr_156_145 (Nat.le_of_ble_eq_true rfl) rfl ?_
        refine zw_42 zr_156_147 ?_
        refine zw_7 zr_156_259 rfl ?_
        refine zw_46r (s := 73) zr_156_260 rfl rfl rfl rfl ?_
        refine zw_7 zr_156_263 rfl ?_
        refine zw_46i zr_156_264 km2_69_9 rfl rfl rfl ?_
        refine zw_push zr_156_267 ?_
        refine zw_17 zr_156_268 (by omega) ?_
        refine zw_6 zr_156_269 rfl ?_
        refine zw_51 (c := 73) (len := 64) zr_156_271 rfl rfl (by omega) (by omega) ?_
        intro m73 em73
        have hIm73 : zInv m73 := by rw [em73]; exact hIm2.anyl (by omega) (zK3 rfl) rfl (by decide) (by decide)
        have hFm73 : zFr W_156 m0 m73 := by rw [em73]; exact hFm2.any rfl
        have km73_69_11 : m73 69 11 = (g0 - 1) := by rw [em73, zUp_ne (by omega)]; exact km2_69_11
        have km73_69_9 : m73 69 9 = (g1 - 1) := by rw [em73, zUp_ne (by omega)]; exact km2_69_9
        clear em73
        refine zw_R zr_156_272 (by decide) zm_156 (v := (9, 0)) rfl ?_
        rw [← hQ]; exact ⟨rfl, hIm73, hFm73, by omega, by omega⟩
  refine zw_112 (off := 190) (t := 244) zr_156_54 (zlsw_df (by simp; omega)) rfl ?_
  refine zw_5 zr_156_244 rfl ?_
  refine zw_push zr_156_245 ?_
  refine zw_39_4 zr_156_246 zr_156_247 ?_ ?_
  · intro h76
    refine zw_5 zr_156_254 rfl ?_
    refine zw_5 zr_156_255 rfl ?_
    refine zw_118h zr_156_256 (by omega) ?_
    intro x77 hx77a hx77b
    refine zw_14 (L' := [(2, 69), (1, x3), (9, 0), (1, x4), (9, 0), (1, x77), (9, 0)]) zr_156_257 (Nat.le_of_ble_eq_true rfl) rfl ?_
    refine zw_7 zr_156_259 rfl ?_
    refine zw_46r (s := 73) zr_156_260 rfl rfl rfl rfl ?_
    refine zw_7 zr_156_263 rfl ?_
    refine zw_46i zr_156_264 km2_69_9 rfl rfl rfl ?_
    refine zw_push zr_156_267 ?_
    refine zw_17 zr_156_268 (by omega) ?_
    refine zw_6 zr_156_269 rfl ?_
    refine zw_51 (c := 73) (len := 64) zr_156_271 rfl rfl (by omega) (by omega) ?_
    intro m78 em78
    have hIm78 : zInv m78 := by rw [em78]; exact hIm2.anyl (by omega) (zK3 rfl) rfl (by decide) (by decide)
    have hFm78 : zFr W_156 m0 m78 := by rw [em78]; exact hFm2.any rfl
    have km78_69_11 : m78 69 11 = (g0 - 1) := by rw [em78, zUp_ne (by omega)]; exact km2_69_11
    have km78_69_9 : m78 69 9 = (g1 - 1) := by rw [em78, zUp_ne (by omega)]; exact km2_69_9
    clear em78
    refine zw_R zr_156_272 (by decide) zm_156 (v := (9, 0)) rfl ?_
    rw [← hQ]; exact ⟨rfl, hIm78, hFm78, by omega, by omega⟩
  · intro h81
    refine zw_push zr_156_250 ?_
    refine zw_42 zr_156_251 ?_
    refine zw_14 (L' := [(2, 69), (1, x3), (9, 0), (1, x4), (9, 0), (1, 0), (9, 0)]) zr_156_257 (Nat.le_of_ble_eq_true rfl) rfl ?_
    refine zw_7 zr_156_259 rfl ?_
    refine zw_46r (s := 73) zr_156_260 rfl rfl rfl rfl ?_
    refine zw_7 zr_156_263 rfl ?_
    refine zw_46i zr_156_264 km2_69_9 rfl rfl rfl ?_
    refine zw_push zr_156_267 ?_
    refine zw_17 zr_156_268 (by omega) ?_
    refine zw_6 zr_156_269 rfl ?_
    refine zw_51 (c := 73) (len := 64) zr_156_271 rfl rfl (by omega) (by omega) ?_
    intro m82 em82
    have hIm82 : zInv m82 := by rw [em82]; exact hIm2.anyl (by omega) (zK3 rfl) rfl (by decide) (by decide)
    have hFm82 : zFr W_156 m0 m82 := by rw [em82]; exact hFm2.any rfl
    have km82_69_11 : m82 69 11 = (g0 - 1) := by rw [em82, zUp_ne (by omega)]; exact km2_69_11
    have km82_69_9 : m82 69 9 = (g1 - 1) := by rw [em82, zUp_ne (by omega)]; exact km2_69_9
    clear em82
    refine zw_R zr_156_272 (by decide) zm_156 (v := (9, 0)) rfl ?_
    rw [← hQ]; exact ⟨rfl, hIm82, hFm82, by omega, by omega⟩

abbrev W_157 : List (Nat × Nat) := [(69, 9), (69, 11), (73, 1000)]
set_option maxHeartbeats 8000000 in
theorem th_157 {E : zE} {d : Nat} {m0 : zM} {a0 : Int} {g0 : Int} {g1 : Int} {F74 : Nat → Int} (hd : 2 ≤ d) (hI0 : zInv m0) (hg0 : m0 69 11 = g0) (hg1 : m0 69 9 = g1) (hG74 : m0 74 = F74) (ha0 : 0 ≤ a0 ∧ a0 ≤ 5) (hp0 : cB F74 g0.toNat + 1 ≤ g1) : zC E d 157 [(2, 69), (0, a0)] m0 (fun v m' => v = (9, 0) ∧ zInv m' ∧ zFr W_157 m0 m' ∧ (m' 69 11 ≤ g0) ∧ (m' 69 9 ≤ g1) ∧ (cB F74 (m' 69 11).toNat + 1 ≤ m' 69 9) ∧ (cP F74 (m' 69 11).toNat = cP F74 g0.toNat)) := by
  have hF0 : zFr W_157 m0 m0 := zFr.rfl
  have bg0 := ib_69_11 hI0
  rw [hg0] at bg0
  have bg1 := ib_69_9 hI0
  rw [hg1] at bg1
  generalize hQ : (fun (v : zV) (m' : zM) => v = (9, 0) ∧ zInv m' ∧ zFr W_157 m0 m' ∧ (m' 69 11 ≤ g0) ∧ (m' 69 9 ≤ g1) ∧ (cB F74 (m' 69 11).toNat + 1 ≤ m' 69 9) ∧ (cP F74 (m' 69 11).toNat = cP F74 g0.toNat)) = Q
  show zW E d 157 0 [(2, 69), (0, a0)] [] m0 Q
  have lp0_4 : ∀ (nlp0_4 : Nat) (p2 p3 : Int) (m1 : zM), zInv m1 → zFr W_157 m0 m1 → m1 69 11 = p2 → m1 69 9 = p3 → m1 74 = F74 → 0 ≤ p2 → p2 ≤ 128 → 0 ≤ p3 → p3 ≤ 64 → (p2 ≤ g0) → (p3 ≤ g1) → (cB F74 (p2).toNat + 1 ≤ p3) → (cP F74 (p2).toNat = cP F74 g0.toNat) → (p2).toNat < nlp0_4 → zW E (d) 157 0 [(2, 69), (0, a0)] [] m1 Q := by
    intro nlp0_4
    induction nlp0_4 with
    | zero =>
      intros
      exact absurd (by assumption : _ < 0) (Nat.not_lt_zero _)
    | succ nlp0_4 ihlp0_4 =>
      intro p2 p3 m1 hIm1 hFm1 km1_69_11 km1_69_9 fm1_74 lp2 up2 lp3 up3 hv0lp0_4 hv1lp0_4 hv2lp0_4 hv3lp0_4 hmlp0_4
      refine zw_7 zr_157_0 rfl ?_
      refine zw_46i zr_157_1 km1_69_11 rfl rfl rfl ?_
      refine zw_40_5 zr_157_4 ?_ ?_
      · intro h6
        refine zw_R zr_157_49 (by decide) zm_157 (v := (9, 0)) rfl ?_
        rw [← hQ]; exact ⟨rfl, hIm1, hFm1, by omega, by omega, by rw [km1_69_11, km1_69_9]; omega, by rw [km1_69_11]; omega⟩
      · intro h11
        refine zw_7 zr_157_7 rfl ?_
        refine zw_46r (s := 74) zr_157_8 rfl rfl rfl rfl ?_
        refine zw_7 zr_157_11 rfl ?_
        refine zw_46i zr_157_12 km1_69_11 rfl rfl rfl ?_
        refine zw_push zr_157_15 ?_
        refine zw_17 zr_157_16 (by omega) ?_
        refine zw_48 (c := 74) (len := 128) zr_157_17 rfl rfl (by omega) (by omega) ?_
        intro x12 ex12
        have bx12 := ib_74 hIm1 (k := ((p2 - 1)).toNat) (by omega)
        rw [← ex12] at bx12
        have qx12 : x12 = F74 ((p2 - 1)).toNat := by rw [← fm1_74]; exact ex12
        have z13 := zcb F74 ((p2 - 1)).toNat (p2).toNat (by omega)
        have z14 := cB_nn F74 ((p2 - 1)).toNat
        refine zw_push zr_157_18 ?_
        refine zw_41_3 zr_157_21 ?_ ?_
        · intro h15
          refine zw_R zr_157_49 (by decide) zm_157 (v := (9, 0)) rfl ?_
          rw [← hQ]; exact ⟨rfl, hIm1, hFm1, by omega, by omega, by rw [km1_69_11, km1_69_9]; omega, by rw [km1_69_11]; omega⟩
        · intro h20
          refine zw_7 zr_157_24 rfl ?_
          refine zw_46r (s := 74) zr_157_25 rfl rfl rfl rfl ?_
          refine zw_7 zr_157_28 rfl ?_
          refine zw_46i zr_157_29 km1_69_11 rfl rfl rfl ?_
          refine zw_push zr_157_32 ?_
          refine zw_17 zr_157_33 (by omega) ?_
          refine zw_48k (c := 74) (len := 128) zr_157_34 rfl rfl (by omega) (by omega) rfl ex12.symm ?_
          refine zw_C zr_157_35 (Or.inr rfl) zm_155 rfl rfl ⟨Nat.le_of_ble_eq_true rfl, Nat.le_of_ble_eq_true rfl, Nat.le_of_ble_eq_true rfl, rfl, by decide⟩ (by omega) (th_155 (d := d - 1) (by omega) hIm1 (a0 := x12)      (by omega) ) ?_
          rintro _ _ ⟨r21, rfl, hr21a, hr21b, rfl, po0_r21⟩
          show zW E (d) 157 38 [(2, 69), (0, a0)] [(0, r21)] m1 Q
          refine zw_3 zr_157_38 rfl ?_
          refine zw_41_0 zr_157_39 ?_ ?_
          · intro h22
            refine zw_R zr_157_49 (by decide) zm_157 (v := (9, 0)) rfl ?_
            rw [← hQ]; exact ⟨rfl, hIm1, hFm1, by omega, by omega, by rw [km1_69_11, km1_69_9]; omega, by rw [km1_69_11]; omega⟩
          · intro h27
            refine zw_7 zr_157_42 rfl ?_
            refine zw_C zr_157_43 (Or.inl rfl) zm_156 rfl rfl ⟨Nat.le_of_ble_eq_true rfl, Nat.le_of_ble_eq_true rfl, Nat.le_of_ble_eq_true rfl, rfl, by decide⟩ (by omega) (th_156 (d := d - 1) (by omega) hIm1  (g0 := p2) (g1 := p3)   km1_69_11 km1_69_9   (by omega) (by omega)) ?_
            rintro _ m28 ⟨rfl, hIm28, gm28, po0_m28, po1_m28⟩
            have hFm28 : zFr W_157 m0 m28 := hFm1.trans gm28 rfl
            have fm28_74 : m28 74 = F74 := (funext fun k => gm28 74 k rfl).trans fm1_74
            show zW E (d) 157 46 [(2, 69), (0, a0)] [] m28 Q
            refine zw_42 zr_157_46 ?_
            exact zw_less (L := [(2, 69), (0, a0)]) ⟨Or.inr rfl, Or.inr rfl, trivial⟩ (ihlp0_4 ((p2 - 1)) ((p3 - 1)) m28 hIm28 hFm28  po0_m28 po1_m28 fm28_74 (by omega) (by omega) (by omega) (by omega) (by omega) (by omega) (by omega) (by omega) (by omega))
  exact lp0_4 _ (g0) (g1) m0 hI0 hF0  hg0 hg1 hG74 (by omega) (by omega) (by omega) (by omega) (by omega) (by omega) (by omega) (by omega) (Nat.lt_succ_self _)

abbrev W_158 : List (Nat × Nat) := [(69, 9), (69, 11), (73, 1000)]
set_option maxHeartbeats 8000000 in
theorem th_158 {E : zE} {d : Nat} {m0 : zM} {a0 : Int} {g0 : Int} {g1 : Int} {F74 : Nat → Int} (hd : 1 ≤ d) (hI0 : zInv m0) (hg0 : m0 69 11 = g0) (hg1 : m0 69 9 = g1) (hG74 : m0 74 = F74) (ha0 : (-9223372036854775808) ≤ a0 ∧ a0 ≤ 9223372036854775807) (hp0 : g1 ≤ 63) : zC E d 158 [(2, 69), (1, a0)] m0 (fun v m' => v = (9, 0) ∧ zInv m' ∧ zFr W_158 m0 m' ∧ (m' 69 11 ≤ g0) ∧ (cB F74 (m' 69 11).toNat = cB F74 g0.toNat) ∧ (cP F74 (m' 69 11).toNat = cP F74 g0.toNat) ∧ (m' 69 9 = (g1 + 1))) := by
  have hF0 : zFr W_158 m0 m0 := zFr.rfl
  have bg0 := ib_69_11 hI0
  rw [hg0] at bg0
  have bg1 := ib_69_9 hI0
  rw [hg1] at bg1
  generalize hQ : (fun (v : zV) (m' : zM) => v = (9, 0) ∧ zInv m' ∧ zFr W_158 m0 m' ∧ (m' 69 11 ≤ g0) ∧ (cB F74 (m' 69 11).toNat = cB F74 g0.toNat) ∧ (cP F74 (m' 69 11).toNat = cP F74 g0.toNat) ∧ (m' 69 9 = (g1 + 1))) = Q
  show zW E d 158 0 [(2, 69), (1, a0), (9, 0), (9, 0), (9, 0)] [] m0 Q
  refine zw_5 zr_158_0 rfl ?_
  refine zw_13 (L' := [(2, 69), (1, a0), (9, 0), (1, a0), (9, 0)]) zr_158_1 (Nat.le_of_ble_eq_true rfl) rfl ?_
  have lp2_5 : ∀ (nlp2_5 : Nat) (i1 p3 p4 : Int) (m2 : zM), zInv m2 → zFr W_158 m0 m2 → m2 69 11 = p3 → m2 69 9 = p4 → m2 74 = F74 → (-9223372036854775808) ≤ i1 → i1 ≤ 9223372036854775807 → 0 ≤ p3 → p3 ≤ 128 → 0 ≤ p4 → p4 ≤ 63 → (p4 = g1) → (p3 ≤ g0) → (cB F74 (p3).toNat = cB F74 g0.toNat) → (cP F74 (p3).toNat = cP F74 g0.toNat) → (p3).toNat < nlp2_5 → zW E (d) 158 2 [(2, 69), (1, a0), (9, 0), (1, i1), (9, 0)] [] m2 Q := by
    intro nlp2_5
    induction nlp2_5 with
    | zero =>
      intros
      exact absurd (by assumption : _ < 0) (Nat.not_lt_zero _)
    | succ nlp2_5 ihlp2_5 =>
      intro i1 p3 p4 m2 hIm2 hFm2 km2_69_11 km2_69_9 fm2_74 li1 ui1 lp3 up3 lp4 up4 hv0lp2_5 hv1lp2_5 hv2lp2_5 hv3lp2_5 hmlp2_5
      refine zw_7 zr_158_2 rfl ?_
      refine zw_46i zr_158_3 km2_69_11 rfl rfl rfl ?_
      refine zw_40_5 zr_158_6 ?_ ?_
      · intro h7
        refine zw_7 zr_158_73 rfl ?_
        refine zw_46r (s := 73) zr_158_74 rfl rfl rfl rfl ?_
        refine zw_7 zr_158_77 rfl ?_
        refine zw_46i zr_158_78 km2_69_9 rfl rfl rfl ?_
        refine zw_5 zr_158_81 rfl ?_
        refine zw_51 (c := 73) (len := 64) zr_158_82 rfl rfl (by omega) (by omega) ?_
        intro m8 em8
        have hIm8 : zInv m8 := by rw [em8]; exact hIm2.anyl (by omega) (zK3 rfl) rfl (by decide) (by decide)
        have hFm8 : zFr W_158 m0 m8 := by rw [em8]; exact hFm2.any rfl
        have km8_69_11 : m8 69 11 = p3 := by rw [em8, zUp_ne (by omega)]; exact km2_69_11
        have km8_69_9 : m8 69 9 = p4 := by rw [em8, zUp_ne (by omega)]; exact km2_69_9
        have fm8_74 : m8 74 = F74 := by rw [em8, zUp_fn (by decide)]; exact fm2_74
        clear em8
        refine zw_7 zr_158_83 rfl ?_
        refine zw_43 zr_158_84 rfl ?_
        refine zw_46i zr_158_85 km8_69_9 rfl rfl rfl ?_
        refine zw_push zr_158_88 ?_
        refine zw_16 zr_158_89 (by omega) ?_
        refine zw_47 (c := 69) zr_158_90 rfl ⟨rfl, by decide, rfl⟩ ?_
        intro m9 em9
        have hIm9 : zInv m9 := by rw [em9]; exact hIm8.bd (r := 69) (k := 9) (lo := 0) (hi := 64) rfl (by omega) (by decide) (by decide) (by decide)
        have hFm9 : zFr W_158 m0 m9 := by rw [em9]; exact hFm8.up rfl
        have km9_69_11 : m9 69 11 = p3 := by rw [em9, zUp_ne (by omega)]; exact km8_69_11
        have km9_69_9 : m9 69 9 = (p4 + 1) := by rw [em9]; exact zUp_eq _ _ _ _
        have fm9_74 : m9 74 = F74 := by rw [em9, zUp_fn (by decide)]; exact fm8_74
        clear em9
        refine zw_R zr_158_93 (by decide) zm_158 (v := (9, 0)) rfl ?_
        rw [← hQ]; exact ⟨rfl, hIm9, hFm9, by omega, by rw [km9_69_11]; omega, by rw [km9_69_11]; omega, by omega⟩
      · intro h14
        refine zw_7 zr_158_9 rfl ?_
        refine zw_46r (s := 74) zr_158_10 rfl rfl rfl rfl ?_
        refine zw_7 zr_158_13 rfl ?_
        refine zw_46i zr_158_14 km2_69_11 rfl rfl rfl ?_
        refine zw_push zr_158_17 ?_
        refine zw_17 zr_158_18 (by omega) ?_
        refine zw_48 (c := 74) (len := 128) zr_158_19 rfl rfl (by omega) (by omega) ?_
        intro x15 ex15
        have bx15 := ib_74 hIm2 (k := ((p3 - 1)).toNat) (by omega)
        rw [← ex15] at bx15
        have qx15 : x15 = F74 ((p3 - 1)).toNat := by rw [← fm2_74]; exact ex15
        have z16 := zcb F74 ((p3 - 1)).toNat (p3).toNat (by omega)
        have z17 := cB_nn F74 ((p3 - 1)).toNat
        refine zw_push zr_158_20 ?_
        refine zw_41_5 zr_158_23 ?_ ?_
        · intro h18
          refine zw_7 zr_158_73 rfl ?_
          refine zw_46r (s := 73) zr_158_74 rfl rfl rfl rfl ?_
          refine zw_7 zr_158_77 rfl ?_
          refine zw_46i zr_158_78 km2_69_9 rfl rfl rfl ?_
          refine zw_5 zr_158_81 rfl ?_
          refine zw_51 (c := 73) (len := 64) zr_158_82 rfl rfl (by omega) (by omega) ?_
          intro m19 em19
          have hIm19 : zInv m19 := by rw [em19]; exact hIm2.anyl (by omega) (zK3 rfl) rfl (by decide) (by decide)
          have hFm19 : zFr W_158 m0 m19 := by rw [em19]; exact hFm2.any rfl
          have km19_69_11 : m19 69 11 = p3 := by rw [em19, zUp_ne (by omega)]; exact km2_69_11
          have km19_69_9 : m19 69 9 = p4 := by rw [em19, zUp_ne (by omega)]; exact km2_69_9
          have fm19_74 : m19 74 = F74 := by rw [em19, zUp_fn (by decide)]; exact fm2_74
          clear em19
          refine zw_7 zr_158_83 rfl ?_
          refine zw_43 zr_158_84 rfl ?_
          refine zw_46i zr_158_85 km19_69_9 rfl rfl rfl ?_
          refine zw_push zr_158_88 ?_
          refine zw_16 zr_158_89 (by omega) ?_
          refine zw_47 (c := 69) zr_158_90 rfl ⟨rfl, by decide, rfl⟩ ?_
          intro m20 em20
          have hIm20 : zInv m20 := by rw [em20]; exact hIm19.bd (r := 69) (k := 9) (lo := 0) (hi := 64) rfl (by omega) (by decide) (by decide) (by decide)
          have hFm20 : zFr W_158 m0 m20 := by rw [em20]; exact hFm19.up rfl
          have km20_69_11 : m20 69 11 = p3 := by rw [em20, zUp_ne (by omega)]; exact km19_69_11
          have km20_69_9 : m20 69 9 = (p4 + 1) := by rw [em20]; exact zUp_eq _ _ _ _
          have fm20_74 : m20 74 = F74 := by rw [em20, zUp_fn (by decide)]; exact fm19_74
          clear em20
          refine zw_R zr_158_93 (by decide) zm_158 (v := (9, 0)) rfl ?_
          rw [← hQ]; exact ⟨rfl, hIm20, hFm20, by omega, by rw [km20_69_11]; omega, by rw [km20_69_11]; omega, by omega⟩
        · intro h25
          refine zw_7 zr_158_26 rfl ?_
          refine zw_46r (s := 74) zr_158_27 rfl rfl rfl rfl ?_
          refine zw_7 zr_158_30 rfl ?_
          refine zw_46i zr_158_31 km2_69_11 rfl rfl rfl ?_
          refine zw_push zr_158_34 ?_
          refine zw_17 zr_158_35 (by omega) ?_
          refine zw_48k (c := 74) (len := 128) zr_158_36 rfl rfl (by omega) (by omega) rfl ex15.symm ?_
          refine zw_push zr_158_37 ?_
          refine zw_41_4 zr_158_40 ?_ ?_
          · intro h26
            refine zw_5 zr_158_57 rfl ?_
            refine zw_117h zr_158_58 ?_
            intro x27 hx27a hx27b
            refine zw_13 (L' := [(2, 69), (1, a0), (9, 0), (1, x27), (9, 0)]) zr_158_59 (Nat.le_of_ble_eq_true rfl) rfl ?_
            refine zw_7 zr_158_60 rfl ?_
            refine zw_43 zr_158_61 rfl ?_
            refine zw_46i zr_158_62 km2_69_11 rfl rfl rfl ?_
            refine zw_push zr_158_65 ?_
            refine zw_17 zr_158_66 (by omega) ?_
            refine zw_47 (c := 69) zr_158_67 rfl ⟨rfl, by decide, rfl⟩ ?_
            intro m28 em28
            have hIm28 : zInv m28 := by rw [em28]; exact hIm2.bd (r := 69) (k := 11) (lo := 0) (hi := 128) rfl (by omega) (by decide) (by decide) (by decide)
            have hFm28 : zFr W_158 m0 m28 := by rw [em28]; exact hFm2.up rfl
            have km28_69_9 : m28 69 9 = p4 := by rw [em28, zUp_ne (by omega)]; exact km2_69_9
            have km28_69_11 : m28 69 11 = (p3 - 1) := by rw [em28]; exact zUp_eq _ _ _ _
            have fm28_74 : m28 74 = F74 := by rw [em28, zUp_fn (by decide)]; exact fm2_74
            clear em28
            refine zw_42 zr_158_70 ?_
            exact zw_less (L := [(2, 69), (1, a0), (9, 0), (1, x27), (9, 0)]) ⟨Or.inr rfl, Or.inr rfl, Or.inl rfl, Or.inr rfl, Or.inl rfl, trivial⟩ (ihlp2_5 (x27) ((p3 - 1)) (p4) m28 hIm28 hFm28  km28_69_11 km28_69_9 fm28_74 (by omega) (by omega) (by omega) (by omega) (by omega) (by omega) (by omega) (by omega) (by omega) (by omega) (by omega))
          · intro h29
            refine zw_5 zr_158_43 rfl ?_
            refine zw_push zr_158_44 ?_
            refine zw_39_4 zr_158_45 zr_158_46 ?_ ?_
            · intro h30
              refine zw_push zr_158_53 ?_
              refine zw_42 zr_158_54 ?_
              refine zw_13 (L' := [(2, 69), (1, a0), (9, 0), (1, 0), (9, 0)]) zr_158_59 (Nat.le_of_ble_eq_true rfl) rfl ?_
              refine zw_7 zr_158_60 rfl ?_
              refine zw_43 zr_158_61 rfl ?_
              refine zw_46i zr_158_62 km2_69_11 rfl rfl rfl ?_
              refine zw_push zr_158_65 ?_
              refine zw_17 zr_158_66 (by omega) ?_
              refine zw_47 (c := 69) zr_158_67 rfl ⟨rfl, by decide, rfl⟩ ?_
              intro m31 em31
              have hIm31 : zInv m31 := by rw [em31]; exact hIm2.bd (r := 69) (k := 11) (lo := 0) (hi := 128) rfl (by omega) (by decide) (by decide) (by decide)
              have hFm31 : zFr W_158 m0 m31 := by rw [em31]; exact hFm2.up rfl
              have km31_69_9 : m31 69 9 = p4 := by rw [em31, zUp_ne (by omega)]; exact km2_69_9
              have km31_69_11 : m31 69 11 = (p3 - 1) := by rw [em31]; exact zUp_eq _ _ _ _
              have fm31_74 : m31 74 = F74 := by rw [em31, zUp_fn (by decide)]; exact fm2_74
              clear em31
              refine zw_42 zr_158_70 ?_
              exact zw_less (L := [(2, 69), (1, a0), (9, 0), (1, 0), (9, 0)]) ⟨Or.inr rfl, Or.inr rfl, Or.inl rfl, Or.inr rfl, Or.inl rfl, trivial⟩ (ihlp2_5 (0) ((p3 - 1)) (p4) m31 hIm31 hFm31  km31_69_11 km31_69_9 fm31_74 (by omega) (by omega) (by omega) (by omega) (by omega) (by omega) (by omega) (by omega) (by omega) (by omega) (by omega))
            · intro h32
              refine zw_push zr_158_49 ?_
              refine zw_42 zr_158_50 ?_
              refine zw_13 (L' := [(2, 69), (1, a0), (9, 0), (1, 1), (9, 0)]) zr_158_59 (Nat.le_of_ble_eq_true rfl) rfl ?_
              refine zw_7 zr_158_60 rfl ?_
              refine zw_43 zr_158_61 rfl ?_
              refine zw_46i zr_158_62 km2_69_11 rfl rfl rfl ?_
              refine zw_push zr_158_65 ?_
              refine zw_17 zr_158_66 (by omega) ?_
              refine zw_47 (c := 69) zr_158_67 rfl ⟨rfl, by decide, rfl⟩ ?_
              intro m33 em33
              have hIm33 : zInv m33 := by rw [em33]; exact hIm2.bd (r := 69) (k := 11) (lo := 0) (hi := 128) rfl (by omega) (by decide) (by decide) (by decide)
              have hFm33 : zFr W_158 m0 m33 := by rw [em33]; exact hFm2.up rfl
              have km33_69_9 : m33 69 9 = p4 := by rw [em33, zUp_ne (by omega)]; exact km2_69_9
              have km33_69_11 : m33 69 11 = (p3 - 1) := by rw [em33]; exact zUp_eq _ _ _ _
              have fm33_74 : m33 74 = F74 := by rw [em33, zUp_fn (by decide)]; exact fm2_74
              clear em33
              refine zw_42 zr_158_70 ?_
              exact zw_less (L := [(2, 69), (1, a0), (9, 0), (1, 1), (9, 0)]) ⟨Or.inr rfl, Or.inr rfl, Or.inl rfl, Or.inr rfl, Or.inl rfl, trivial⟩ (ihlp2_5 (1) ((p3 - 1)) (p4) m33 hIm33 hFm33  km33_69_11 km33_69_9 fm33_74 (by omega) (by omega) (by omega) (by omega) (by omega) (by omega) (by omega) (by omega) (by omega) (by omega) (by omega))
  exact lp2_5 _ (a0) (g0) (g1) m0 hI0 hF0  hg0 hg1 hG74 (by omega) (by omega) (by omega) (by omega) (by omega) (by omega) (by omega) (by omega) (by omega) (by omega) (Nat.lt_succ_self _)

set_option maxHeartbeats 8000000 in
theorem th_159 {E : zE} {d : Nat} {m0 : zM} {a0 : Int} (hd : 1 ≤ d) (hI0 : zInv m0) (ha0 : (-1) ≤ a0 ∧ a0 ≤ 127) : zC E d 159 [(0, a0)] m0 (fun v m' => ∃ r : Int, v = (0, r) ∧ (-1) ≤ r ∧ r ≤ 5 ∧ m0 = m' ∧ (r = -1 ∨ 33 ≤ a0) ∧ (r = nmv a0)) := by
  generalize hQ : (fun (v : zV) (m' : zM) => ∃ r : Int, v = (0, r) ∧ (-1) ≤ r ∧ r ≤ 5 ∧ m0 = m' ∧ (r = -1 ∨ 33 ≤ a0) ∧ (r = nmv a0)) = Q
  show zW E d 159 0 [(0, a0)] [] m0 Q
  refine zw_3 zr_159_0 rfl ?_
  refine zw_push zr_159_1 ?_
  refine zw_41_4 zr_159_3 ?_ ?_
  · intro h1
    refine zw_3 zr_159_10 rfl ?_
    refine zw_push zr_159_11 ?_
    refine zw_41_4 zr_159_13 ?_ ?_
    · intro h2
      refine zw_3 zr_159_20 rfl ?_
      refine zw_push zr_159_21 ?_
      refine zw_41_4 zr_159_23 ?_ ?_
      · intro h3
        refine zw_3 zr_159_30 rfl ?_
        refine zw_push zr_159_31 ?_
        refine zw_41_4 zr_159_33 ?_ ?_
        · intro h4
          refine zw_3 zr_159_40 rfl ?_
          refine zw_push zr_159_41 ?_
          refine zw_41_4 zr_159_43 ?_ ?_
          · intro h5
            refine zw_3 zr_159_50 rfl ?_
            refine zw_push zr_159_51 ?_
            refine zw_41_4 zr_159_53 ?_ ?_
            · intro h6
              refine zw_push zr_159_60 ?_
              refine zw_R zr_159_61 (by decide) zm_159 (v := (0, (-1))) rfl ?_
              rw [← hQ]; exact ⟨_, rfl, by omega, by omega, rfl, by omega, by unfold nmv; repeat (first | omega | split)⟩
            · intro h9
              refine zw_push zr_159_56 ?_
              refine zw_42 zr_159_57 ?_
              refine zw_R zr_159_61 (by decide) zm_159 (v := (0, 5)) rfl ?_
              rw [← hQ]; exact ⟨_, rfl, by omega, by omega, rfl, by omega, by unfold nmv; repeat (first | omega | split)⟩
          · intro h12
            refine zw_push zr_159_46 ?_
            refine zw_42 zr_159_47 ?_
            refine zw_R zr_159_61 (by decide) zm_159 (v := (0, 4)) rfl ?_
            rw [← hQ]; exact ⟨_, rfl, by omega, by omega, rfl, by omega, by unfold nmv; repeat (first | omega | split)⟩
        · intro h15
          refine zw_push zr_159_36 ?_
          refine zw_42 zr_159_37 ?_
          refine zw_R zr_159_61 (by decide) zm_159 (v := (0, 3)) rfl ?_
          rw [← hQ]; exact ⟨_, rfl, by omega, by omega, rfl, by omega, by unfold nmv; repeat (first | omega | split)⟩
      · intro h18
        refine zw_push zr_159_26 ?_
        refine zw_42 zr_159_27 ?_
        refine zw_R zr_159_61 (by decide) zm_159 (v := (0, 2)) rfl ?_
        rw [← hQ]; exact ⟨_, rfl, by omega, by omega, rfl, by omega, by unfold nmv; repeat (first | omega | split)⟩
    · intro h21
      refine zw_push zr_159_16 ?_
      refine zw_42 zr_159_17 ?_
      refine zw_R zr_159_61 (by decide) zm_159 (v := (0, 1)) rfl ?_
      rw [← hQ]; exact ⟨_, rfl, by omega, by omega, rfl, by omega, by unfold nmv; repeat (first | omega | split)⟩
  · intro h24
    refine zw_push zr_159_6 ?_
    refine zw_42 zr_159_7 ?_
    refine zw_R zr_159_61 (by decide) zm_159 (v := (0, 0)) rfl ?_
    rw [← hQ]; exact ⟨_, rfl, by omega, by omega, rfl, by omega, by unfold nmv; repeat (first | omega | split)⟩

abbrev W_160 : List (Nat × Nat) := [(69, 6), (69, 7)]
set_option maxHeartbeats 8000000 in
theorem th_160 {E : zE} {d : Nat} {m0 : zM} {g0 : Int} {g1 : Int} (hd : 2 ≤ d) (hI0 : zInv m0) (hg0 : m0 69 6 = g0) (hg1 : m0 69 7 = g1) : zC E d 160 [(2, 69)] m0 (fun v m' => ∃ r : Int, v = (1, r) ∧ (-9223372036854775808) ≤ r ∧ r ≤ 9223372036854775807 ∧ zInv m' ∧ zFr W_160 m0 m' ∧ (g0 ≤ m' 69 6) ∧ (m' 69 7 = g1 ∨ 0 ≤ m' 69 7)) := by
  have hF0 : zFr W_160 m0 m0 := zFr.rfl
  have bg0 := ib_69_6 hI0
  rw [hg0] at bg0
  have bg1 := hI0.fi (c := 69) (k := 7) rfl
  rw [hg1] at bg1
  generalize hQ : (fun (v : zV) (m' : zM) => ∃ r : Int, v = (1, r) ∧ (-9223372036854775808) ≤ r ∧ r ≤ 9223372036854775807 ∧ zInv m' ∧ zFr W_160 m0 m' ∧ (g0 ≤ m' 69 6) ∧ (m' 69 7 = g1 ∨ 0 ≤ m' 69 7)) = Q
  show zW E d 160 0 [(2, 69), (9, 0), (9, 0), (9, 0)] [] m0 Q
  refine zw_7 zr_160_0 rfl ?_
  refine zw_46i zr_160_1 hg0 rfl rfl rfl ?_
  refine zw_9 (L' := [(2, 69), (0, g0), (9, 0), (9, 0)]) zr_160_4 (Nat.le_of_ble_eq_true rfl) rfl ?_
  refine zw_push zr_160_5 ?_
  refine zw_13 (L' := [(2, 69), (0, g0), (1, 0), (9, 0)]) zr_160_6 (Nat.le_of_ble_eq_true rfl) rfl ?_
  have lp7_5 : ∀ (nlp7_5 : Nat) (i1 p3 p4 : Int) (m2 : zM), zInv m2 → zFr W_160 m0 m2 → m2 69 6 = p3 → m2 69 7 = p4 → (-9223372036854775808) ≤ i1 → i1 ≤ 9223372036854775807 → 0 ≤ p3 → p3 ≤ 50 → (-2147483648) ≤ p4 → p4 ≤ 2147483647 → (g0 ≤ p3) → (p4 = g1) → (50 - p3).toNat < nlp7_5 → zW E (d) 160 7 [(2, 69), (0, g0), (1, i1), (9, 0)] [] m2 Q := by
    intro nlp7_5
    induction nlp7_5 with
    | zero =>
      intros
      exact absurd (by assumption : _ < 0) (Nat.not_lt_zero _)
    | succ nlp7_5 ihlp7_5 =>
      intro i1 p3 p4 m2 hIm2 hFm2 km2_69_6 km2_69_7 li1 ui1 lp3 up3 lp4 up4 hv0lp7_5 hv1lp7_5 hmlp7_5
      refine zw_7 zr_160_7 rfl ?_
      refine zw_46i zr_160_8 km2_69_6 rfl rfl rfl ?_
      refine zw_7 zr_160_11 rfl ?_
      refine zw_C zr_160_12 (Or.inl rfl) zm_152 rfl rfl ⟨Nat.le_of_ble_eq_true rfl, Nat.le_of_ble_eq_true rfl, Nat.le_of_ble_eq_true rfl, rfl, by decide⟩ (by omega) (P := (fun v m' => zW E (d) 160 15 [(2, 69), (0, g0), (1, i1), (9, 0)] (if v.1 = 9 then [(0, p3)] else v :: [(0, p3)]) m' Q)) ?_ (fun _ _ h => h)
      generalize hQ1 : (fun v m' => zW E (d) 160 15 [(2, 69), (0, g0), (1, i1), (9, 0)] (if v.1 = 9 then [(0, p3)] else v :: [(0, p3)]) m' Q) = Q1
      show zW E (d - 1) 152 0 [(2, 69)] [] m2 Q1
      refine zw_7 zr_152_0 rfl ?_
      refine zw_46r (s := 70) zr_152_1 rfl rfl rfl rfl ?_
      refine zw_push zr_152_4 ?_
      refine zw_push zr_152_7 ?_
      refine zw_7 zr_152_9 rfl ?_
      obtain ⟨f7, ef7⟩ : ∃ v, m2 69 5 = v := ⟨_, rfl⟩
      have bf7 := ib_69_5 hIm2
      rw [ef7] at bf7
      refine zw_46i zr_152_10 ef7 rfl rfl rfl ?_
      refine zw_18 zr_152_13 (by omega) ?_
      refine zw_16 zr_152_14 (by omega) ?_
      refine zw_push zr_152_15 ?_
      refine zw_16 zr_152_16 (by omega) ?_
      refine zw_48 (c := 70) (len := 826) zr_152_17 rfl rfl (by omega) (by omega) ?_
      intro x8 ex8
      have bx8 := ib_70_s1 hIm2 (k := (((450 + (52 * f7)) + 1)).toNat) (by omega)
      rw [← ex8] at bx8
      clear ex8
      refine zw_R zr_152_18 (by decide) zm_152 (v := (0, x8)) rfl ?_
      rw [← hQ1]
      show zW E (d) 160 15 [(2, 69), (0, g0), (1, i1), (9, 0)] [(0, x8), (0, p3)] m2 Q
      refine zw_41_3 zr_160_15 ?_ ?_
      · intro h9
        refine zw_5 zr_160_95 rfl ?_
        refine zw_R zr_160_96 (by decide) zm_160 (v := (1, i1)) rfl ?_
        rw [← hQ]; exact ⟨_, rfl, by omega, by omega, hIm2, hFm2, by omega, by omega⟩
      · intro h12
        refine zw_7 zr_160_18 rfl ?_
        refine zw_7 zr_160_19 rfl ?_
        refine zw_46i zr_160_20 km2_69_6 rfl rfl rfl ?_
        refine zw_C zr_160_23 (Or.inl rfl) zm_153 rfl rfl ⟨Nat.le_of_ble_eq_true rfl, Nat.le_of_ble_eq_true rfl, Nat.le_of_ble_eq_true rfl, rfl, by decide⟩ (by omega) (P := (fun v m' => zW E (d) 160 26 [(2, 69), (0, g0), (1, i1), (9, 0)] (if v.1 = 9 then [] else v :: []) m' Q)) ?_ (fun _ _ h => h)
        generalize hQ1 : (fun v m' => zW E (d) 160 26 [(2, 69), (0, g0), (1, i1), (9, 0)] (if v.1 = 9 then [] else v :: []) m' Q) = Q1
        show zW E (d - 1) 153 0 [(2, 69), (0, p3)] [] m2 Q1
        refine zw_7 zr_153_0 rfl ?_
        refine zw_46r (s := 70) zr_153_1 rfl rfl rfl rfl ?_
        refine zw_push zr_153_4 ?_
        refine zw_push zr_153_7 ?_
        refine zw_7 zr_153_9 rfl ?_
        refine zw_46i zr_153_10 ef7 rfl rfl rfl ?_
        refine zw_18 zr_153_13 (by omega) ?_
        refine zw_16 zr_153_14 (by omega) ?_
        refine zw_push zr_153_15 ?_
        refine zw_16 zr_153_16 (by omega) ?_
        refine zw_3 zr_153_17 rfl ?_
        refine zw_16 zr_153_18 (by omega) ?_
        refine zw_48 (c := 70) (len := 826) zr_153_19 rfl rfl (by omega) (by omega) ?_
        intro x13 ex13
        have bx13 := ib_70_s2 hIm2 (k := ((((450 + (52 * f7)) + 2) + p3)).toNat) (by omega)
        rw [← ex13] at bx13
        refine zw_R zr_153_20 (by decide) zm_153 (v := (0, x13)) rfl ?_
        rw [← hQ1]
        show zW E (d) 160 26 [(2, 69), (0, g0), (1, i1), (9, 0)] [(0, x13)] m2 Q
        refine zw_36 zr_160_26 ?_
        refine zw_push zr_160_27 ?_
        refine zw_push zr_160_30 ?_
        refine zw_C zr_160_33 (Or.inr rfl) zm_140 rfl rfl ⟨Nat.le_of_ble_eq_true rfl, Nat.le_of_ble_eq_true rfl, Nat.le_of_ble_eq_true rfl, rfl, by decide⟩ (by omega) (P := (fun v m' => zW E (d) 160 36 [(2, 69), (0, g0), (1, i1), (9, 0)] (if v.1 = 9 then [] else v :: []) m' Q)) ?_ (fun _ _ h => h)
        generalize hQ1 : (fun v m' => zW E (d) 160 36 [(2, 69), (0, g0), (1, i1), (9, 0)] (if v.1 = 9 then [] else v :: []) m' Q) = Q1
        show zW E (d - 1) 140 0 [(1, x13), (9, 0), (1, 48), (9, 0), (1, 57), (9, 0)] [] m2 Q1
        refine zw_5 zr_140_0 rfl ?_
        refine zw_5 zr_140_1 rfl ?_
        refine zw_39_0 zr_140_2 zr_140_3 ?_ ?_
        · intro h14
          refine zw_push zr_140_17 ?_
          refine zw_R zr_140_18 (by decide) zm_140 (v := (0, 0)) (zRetB (by omega)) ?_
          rw [← hQ1]
          show zW E (d) 160 36 [(2, 69), (0, g0), (1, i1), (9, 0)] [(0, 0)] m2 Q
          refine zw_40_1 zr_160_36 ?_ ?_
          · intro h15
            refine zw_5 zr_160_95 rfl ?_
            refine zw_R zr_160_96 (by decide) zm_160 (v := (1, i1)) rfl ?_
            rw [← hQ]; exact ⟨_, rfl, by omega, by omega, hIm2, hFm2, by omega, by omega⟩
          · intro h18; omega
        · intro h19
          refine zw_5 zr_140_6 rfl ?_
          refine zw_6 zr_140_7 rfl ?_
          refine zw_39_2 zr_140_9 zr_140_10 ?_ ?_
          · intro h20
            refine zw_push zr_140_17 ?_
            refine zw_R zr_140_18 (by decide) zm_140 (v := (0, 0)) (zRetB (by omega)) ?_
            rw [← hQ1]
            show zW E (d) 160 36 [(2, 69), (0, g0), (1, i1), (9, 0)] [(0, 0)] m2 Q
            refine zw_40_1 zr_160_36 ?_ ?_
            · intro h21
              refine zw_5 zr_160_95 rfl ?_
              refine zw_R zr_160_96 (by decide) zm_160 (v := (1, i1)) rfl ?_
              rw [← hQ]; exact ⟨_, rfl, by omega, by omega, hIm2, hFm2, by omega, by omega⟩
            · intro h24; omega
          · intro h25
            refine zw_push zr_140_13 ?_
            refine zw_42 zr_140_14 ?_
            refine zw_R zr_140_18 (by decide) zm_140 (v := (0, 1)) (zRetB (by omega)) ?_
            rw [← hQ1]
            show zW E (d) 160 36 [(2, 69), (0, g0), (1, i1), (9, 0)] [(0, 1)] m2 Q
            refine zw_40_1 zr_160_36 ?_ ?_
            · intro h26; omega
            · intro h27
              refine zw_7 zr_160_39 rfl ?_
              refine zw_46i zr_160_40 km2_69_6 rfl rfl rfl ?_
              refine zw_3 zr_160_43 rfl ?_
              refine zw_17 zr_160_44 (by omega) ?_
              refine zw_push zr_160_45 ?_
              refine zw_41_4 zr_160_47 ?_ ?_
              · intro h28
                refine zw_push zr_160_62 ?_
                refine zw_5 zr_160_65 rfl ?_
                refine zw_29h zr_160_66 ?_
                intro x29 hx29a hx29b
                refine zw_7 zr_160_67 rfl ?_
                refine zw_7 zr_160_68 rfl ?_
                refine zw_46i zr_160_69 km2_69_6 rfl rfl rfl ?_
                refine zw_C zr_160_72 (Or.inl rfl) zm_153 rfl rfl ⟨Nat.le_of_ble_eq_true rfl, Nat.le_of_ble_eq_true rfl, Nat.le_of_ble_eq_true rfl, rfl, by decide⟩ (by omega) (P := (fun v m' => zW E (d) 160 75 [(2, 69), (0, g0), (1, i1), (9, 0)] (if v.1 = 9 then [(1, x29)] else v :: [(1, x29)]) m' Q)) ?_ (fun _ _ h => h)
                generalize hQ1 : (fun v m' => zW E (d) 160 75 [(2, 69), (0, g0), (1, i1), (9, 0)] (if v.1 = 9 then [(1, x29)] else v :: [(1, x29)]) m' Q) = Q1
                show zW E (d - 1) 153 0 [(2, 69), (0, p3)] [] m2 Q1
                refine zw_7 zr_153_0 rfl ?_
                refine zw_46r (s := 70) zr_153_1 rfl rfl rfl rfl ?_
                refine zw_push zr_153_4 ?_
                refine zw_push zr_153_7 ?_
                refine zw_7 zr_153_9 rfl ?_
                refine zw_46i zr_153_10 ef7 rfl rfl rfl ?_
                refine zw_18 zr_153_13 (by omega) ?_
                refine zw_16 zr_153_14 (by omega) ?_
                refine zw_push zr_153_15 ?_
                refine zw_16 zr_153_16 (by omega) ?_
                refine zw_3 zr_153_17 rfl ?_
                refine zw_16 zr_153_18 (by omega) ?_
                refine zw_48k (c := 70) (len := 826) zr_153_19 rfl rfl (by omega) (by omega) rfl ex13.symm ?_
                refine zw_R zr_153_20 (by decide) zm_153 (v := (0, x13)) rfl ?_
                rw [← hQ1]
                show zW E (d) 160 75 [(2, 69), (0, g0), (1, i1), (9, 0)] [(0, x13), (1, x29)] m2 Q
                refine zw_36 zr_160_75 ?_
                refine zw_27h zr_160_76 ?_
                intro x30 hx30a hx30b
                refine zw_push zr_160_77 ?_
                refine zw_28h zr_160_80 ?_
                intro x31 hx31a hx31b
                refine zw_13 (L' := [(2, 69), (0, g0), (1, x31), (9, 0)]) zr_160_81 (Nat.le_of_ble_eq_true rfl) rfl ?_
                refine zw_7 zr_160_82 rfl ?_
                refine zw_43 zr_160_83 rfl ?_
                refine zw_46i zr_160_84 km2_69_6 rfl rfl rfl ?_
                refine zw_push zr_160_87 ?_
                refine zw_16 zr_160_88 (by omega) ?_
                refine zw_47 (c := 69) zr_160_89 rfl ⟨rfl, by decide, rfl⟩ ?_
                intro m32 em32
                have hIm32 : zInv m32 := by rw [em32]; exact hIm2.bd (r := 69) (k := 6) (lo := 0) (hi := 50) rfl (by omega) (by decide) (by decide) (by decide)
                have hFm32 : zFr W_160 m0 m32 := by rw [em32]; exact hFm2.up rfl
                have km32_69_7 : m32 69 7 = p4 := by rw [em32, zUp_ne (by omega)]; exact km2_69_7
                have km32_69_5 : m32 69 5 = f7 := by rw [em32, zUp_ne (by omega)]; exact ef7
                have km32_69_6 : m32 69 6 = (p3 + 1) := by rw [em32]; exact zUp_eq _ _ _ _
                clear em32
                refine zw_42 zr_160_92 ?_
                exact zw_less (L := [(2, 69), (0, g0), (1, x31), (9, 0)]) ⟨Or.inr rfl, Or.inr rfl, Or.inr rfl, Or.inl rfl, trivial⟩ (ihlp7_5 (x31) ((p3 + 1)) (p4) m32 hIm32 hFm32  km32_69_6 km32_69_7 (by omega) (by omega) (by omega) (by omega) (by omega) (by omega) (by omega) (by omega) (by omega))
              · intro h33
                refine zw_7 zr_160_50 rfl ?_
                refine zw_push zr_160_51 ?_
                refine zw_3 zr_160_53 rfl ?_
                refine zw_18 zr_160_54 (by omega) ?_
                refine zw_push zr_160_55 ?_
                refine zw_16 zr_160_56 (by omega) ?_
                refine zw_47 (c := 69) zr_160_57 rfl ⟨rfl, by decide, rfl⟩ ?_
                intro m34 em34
                have hIm34 : zInv m34 := by rw [em34]; exact hIm2.any (by omega) rfl (by decide) (by decide)
                have hFm34 : zFr W_160 m0 m34 := by rw [em34]; exact hFm2.up rfl
                have km34_69_6 : m34 69 6 = p3 := by rw [em34, zUp_ne (by omega)]; exact km2_69_6
                have km34_69_5 : m34 69 5 = f7 := by rw [em34, zUp_ne (by omega)]; exact ef7
                have km34_69_7 : m34 69 7 = ((10 * g0) + 2) := by rw [em34]; exact zUp_eq _ _ _ _
                clear em34
                refine zw_push zr_160_60 ?_
                refine zw_R zr_160_61 (by decide) zm_160 (v := (1, 0)) rfl ?_
                rw [← hQ]; exact ⟨_, rfl, by omega, by omega, hIm34, hFm34, by omega, by omega⟩
  exact lp7_5 _ (0) (g0) (g1) m0 hI0 hF0  hg0 hg1 (by omega) (by omega) (by omega) (by omega) (by omega) (by omega) (by omega) (by omega) (Nat.lt_succ_self _)

abbrev W_161 : List (Nat × Nat) := [(69, 6), (69, 7), (69, 9), (69, 11), (69, 13), (73, 1000), (74, 1000)]
set_option maxHeartbeats 8000000 in
theorem th_161 {E : zE} {d : Nat} {m0 : zM} {F74 : Nat → Int} (hd : 3 ≤ d) (hI0 : zInv m0) (hG74 : m0 74 = F74) : zC E d 161 [(2, 69)] m0 (fun v m' => ∃ r : Int, v = (0, r) ∧ 0 ≤ r ∧ r ≤ 1 ∧ zInv m' ∧ zFr W_161 m0 m') := by
  have hF0 : zFr W_161 m0 m0 := zFr.rfl
  generalize hQ : (fun (v : zV) (m' : zM) => ∃ r : Int, v = (0, r) ∧ 0 ≤ r ∧ r ≤ 1 ∧ zInv m' ∧ zFr W_161 m0 m') = Q
  show zW E d 161 0 [(2, 69), (9, 0), (9, 0), (9, 0), (9, 0)] [] m0 Q
  refine zw_7 zr_161_0 rfl ?_
  refine zw_push zr_161_1 ?_
  refine zw_47 (c := 69) zr_161_2 rfl ⟨rfl, by decide, rfl⟩ ?_
  intro m1 em1
  have hIm1 : zInv m1 := by rw [em1]; exact hI0.bd (r := 69) (k := 6) (lo := 0) (hi := 50) rfl (by omega) (by decide) (by decide) (by decide)
  have hFm1 : zFr W_161 m0 m1 := by rw [em1]; exact hF0.up rfl
  have km1_69_6 : m1 69 6 = 0 := by rw [em1]; exact zUp_eq _ _ _ _
  have fm1_74 : m1 74 = F74 := by rw [em1, zUp_fn (by decide)]; exact hG74
  clear em1
  refine zw_7 zr_161_5 rfl ?_
  refine zw_push zr_161_6 ?_
  refine zw_47 (c := 69) zr_161_7 rfl ⟨rfl, by decide, rfl⟩ ?_
  intro m2 em2
  have hIm2 : zInv m2 := by rw [em2]; exact hIm1.any (by omega) rfl (by decide) (by decide)
  have hFm2 : zFr W_161 m0 m2 := by rw [em2]; exact hFm1.up rfl
  have km2_69_6 : m2 69 6 = 0 := by rw [em2, zUp_ne (by omega)]; exact km1_69_6
  have km2_69_7 : m2 69 7 = (-1) := by rw [em2]; exact zUp_eq _ _ _ _
  have fm2_74 : m2 74 = F74 := by rw [em2, zUp_fn (by decide)]; exact fm1_74
  clear em2
  refine zw_7 zr_161_10 rfl ?_
  refine zw_push zr_161_11 ?_
  refine zw_47 (c := 69) zr_161_12 rfl ⟨rfl, by decide, rfl⟩ ?_
  intro m3 em3
  have hIm3 : zInv m3 := by rw [em3]; exact hIm2.bd (r := 69) (k := 9) (lo := 0) (hi := 64) rfl (by omega) (by decide) (by decide) (by decide)
  have hFm3 : zFr W_161 m0 m3 := by rw [em3]; exact hFm2.up rfl
  have km3_69_6 : m3 69 6 = 0 := by rw [em3, zUp_ne (by omega)]; exact km2_69_6
  have km3_69_7 : m3 69 7 = (-1) := by rw [em3, zUp_ne (by omega)]; exact km2_69_7
  have km3_69_9 : m3 69 9 = 0 := by rw [em3]; exact zUp_eq _ _ _ _
  have fm3_74 : m3 74 = F74 := by rw [em3, zUp_fn (by decide)]; exact fm2_74
  clear em3
  refine zw_7 zr_161_15 rfl ?_
  refine zw_push zr_161_16 ?_
  refine zw_47 (c := 69) zr_161_17 rfl ⟨rfl, by decide, rfl⟩ ?_
  intro m4 em4
  have hIm4 : zInv m4 := by rw [em4]; exact hIm3.bd (r := 69) (k := 11) (lo := 0) (hi := 128) rfl (by omega) (by decide) (by decide) (by decide)
  have hFm4 : zFr W_161 m0 m4 := by rw [em4]; exact hFm3.up rfl
  have km4_69_6 : m4 69 6 = 0 := by rw [em4, zUp_ne (by omega)]; exact km3_69_6
  have km4_69_7 : m4 69 7 = (-1) := by rw [em4, zUp_ne (by omega)]; exact km3_69_7
  have km4_69_9 : m4 69 9 = 0 := by rw [em4, zUp_ne (by omega)]; exact km3_69_9
  have km4_69_11 : m4 69 11 = 0 := by rw [em4]; exact zUp_eq _ _ _ _
  have fm4_74 : m4 74 = F74 := by rw [em4, zUp_fn (by decide)]; exact fm3_74
  clear em4
  refine zw_push zr_161_20 ?_
  refine zw_9 (L' := [(2, 69), (0, 0), (9, 0), (9, 0), (9, 0)]) zr_161_21 (Nat.le_of_ble_eq_true rfl) rfl ?_
  refine zw_push zr_161_22 ?_
  refine zw_9 (L' := [(2, 69), (0, 0), (0, 1), (9, 0), (9, 0)]) zr_161_23 (Nat.le_of_ble_eq_true rfl) rfl ?_
  refine zw_push zr_161_24 ?_
  refine zw_9 (L' := [(2, 69), (0, 0), (0, 1), (0, 1), (9, 0)]) zr_161_25 (Nat.le_of_ble_eq_true rfl) rfl ?_
  have lp26_14 : ∀ (nlp26_14 : Nat) (i5 i6 i7 p9 p10 p11 p12 : Int) (f13 : Nat → Int) (m8 : zM), zInv m8 → zFr W_161 m0 m8 → m8 69 6 = p9 → m8 69 7 = p10 → m8 69 9 = p11 → m8 69 11 = p12 → m8 74 = f13 → 0 ≤ i5 → i5 ≤ 8 → 0 ≤ i6 → i6 ≤ 1 → 0 ≤ i7 → i7 ≤ 1 → 0 ≤ p9 → p9 ≤ 50 → (-2147483648) ≤ p10 → p10 ≤ 2147483647 → 0 ≤ p11 → p11 ≤ 64 → 0 ≤ p12 → p12 ≤ 128 → (p12 ≤ p9) → (cB f13 (p12).toNat + (1 - i6) ≤ p11) → (p11 ≤ p9 + (1 - i6)) → (i5 ≤ cP f13 (p12).toNat) → (10 * (51 - p9) + 5 * i6 + i7 - p10).toNat < nlp26_14 → zW E (d) 161 26 [(2, 69), (0, i5), (0, i6), (0, i7), (9, 0)] [] m8 Q := by
    intro nlp26_14
    induction nlp26_14 with
    | zero =>
      intros
      exact absurd (by assumption : _ < 0) (Nat.not_lt_zero _)
    | succ nlp26_14 ihlp26_14 =>
      intro i5 i6 i7 p9 p10 p11 p12 f13 m8 hIm8 hFm8 km8_69_6 km8_69_7 km8_69_9 km8_69_11 fm8_74 li5 ui5 li6 ui6 li7 ui7 lp9 up9 lp10 up10 lp11 up11 lp12 up12 hv0lp26_14 hv1lp26_14 hv2lp26_14 hv3lp26_14 hmlp26_14
      have z16 := cB_nn f13 (p12).toNat
      refine zw_3 zr_161_26 rfl ?_
      refine zw_40_1 zr_161_27 ?_ ?_
      · intro h17
        refine zw_7 zr_161_488 rfl ?_
        refine zw_7 zr_161_489 rfl ?_
        refine zw_46i zr_161_490 km8_69_7 rfl rfl rfl ?_
        refine zw_push zr_161_493 ?_
        refine zw_41_4 zr_161_494 ?_ ?_
        · intro h18
          refine zw_push zr_161_506 ?_
          refine zw_47 (c := 69) zr_161_507 rfl ⟨rfl, by decide, rfl⟩ ?_
          intro m19 em19
          have hIm19 : zInv m19 := by rw [em19]; exact hIm8.anyl (by omega) (by decide) rfl (by decide) (by decide)
          have hFm19 : zFr W_161 m0 m19 := by rw [em19]; exact hFm8.up rfl
          have km19_69_6 : m19 69 6 = p9 := by rw [em19, zUp_ne (by omega)]; exact km8_69_6
          have km19_69_7 : m19 69 7 = p10 := by rw [em19, zUp_ne (by omega)]; exact km8_69_7
          have km19_69_9 : m19 69 9 = p11 := by rw [em19, zUp_ne (by omega)]; exact km8_69_9
          have km19_69_11 : m19 69 11 = p12 := by rw [em19, zUp_ne (by omega)]; exact km8_69_11
          have km19_69_13 : m19 69 13 = 0 := by rw [em19]; exact zUp_eq _ _ _ _
          have fm19_74 : m19 74 = f13 := by rw [em19, zUp_fn (by decide)]; exact fm8_74
          clear em19
          refine zw_7 zr_161_510 rfl ?_
          refine zw_46i zr_161_511 km19_69_7 rfl rfl rfl ?_
          refine zw_push zr_161_514 ?_
          refine zw_41_4 zr_161_515 ?_ ?_
          · intro h20
            refine zw_push zr_161_522 ?_
            refine zw_R zr_161_523 (by decide) zm_161 (v := (0, 0)) (zRetB (by omega)) ?_
            rw [← hQ]; exact ⟨_, rfl, by omega, by omega, hIm19, hFm19⟩
          · intro h21
            refine zw_push zr_161_518 ?_
            refine zw_42 zr_161_519 ?_
            refine zw_R zr_161_523 (by decide) zm_161 (v := (0, 1)) (zRetB (by omega)) ?_
            rw [← hQ]; exact ⟨_, rfl, by omega, by omega, hIm19, hFm19⟩
        · intro h22
          refine zw_7 zr_161_497 rfl ?_
          refine zw_46r (s := 73) zr_161_498 rfl rfl rfl rfl ?_
          refine zw_push zr_161_501 ?_
          obtain ⟨f23, ef23⟩ : ∃ v, m8 73 0 = v := ⟨_, rfl⟩
          have bf23 : (-9223372036854775808) ≤ m8 73 0 ∧ m8 73 0 ≤ 9223372036854775807 := hIm8.rl (c := 73) (len := 64) rfl (by omega)
          rw [ef23] at bf23
          refine zw_50k (c := 73) (len := 64) zr_161_502 rfl rfl (by omega) (by omega) (show (0 : Int).toNat = 0 by omega) ef23 ?_
          refine zw_42 zr_161_503 ?_
          refine zw_47 (c := 69) zr_161_507 rfl ⟨rfl, by decide, rfl⟩ ?_
          intro m24 em24
          have hIm24 : zInv m24 := by rw [em24]; exact hIm8.anyl (by omega) (by decide) rfl (by decide) (by decide)
          have hFm24 : zFr W_161 m0 m24 := by rw [em24]; exact hFm8.up rfl
          have km24_69_6 : m24 69 6 = p9 := by rw [em24, zUp_ne (by omega)]; exact km8_69_6
          have km24_69_7 : m24 69 7 = p10 := by rw [em24, zUp_ne (by omega)]; exact km8_69_7
          have km24_69_9 : m24 69 9 = p11 := by rw [em24, zUp_ne (by omega)]; exact km8_69_9
          have km24_69_11 : m24 69 11 = p12 := by rw [em24, zUp_ne (by omega)]; exact km8_69_11
          have km24_73_0 : m24 73 0 = f23 := by rw [em24, zUp_ne (by omega)]; exact ef23
          have km24_69_13 : m24 69 13 = f23 := by rw [em24]; exact zUp_eq _ _ _ _
          have fm24_74 : m24 74 = f13 := by rw [em24, zUp_fn (by decide)]; exact fm8_74
          clear em24
          refine zw_7 zr_161_510 rfl ?_
          refine zw_46i zr_161_511 km24_69_7 rfl rfl rfl ?_
          refine zw_push zr_161_514 ?_
          refine zw_41_4 zr_161_515 ?_ ?_
          · intro h25; omega
          · intro h26
            refine zw_push zr_161_518 ?_
            refine zw_42 zr_161_519 ?_
            refine zw_R zr_161_523 (by decide) zm_161 (v := (0, 1)) (zRetB (by omega)) ?_
            rw [← hQ]; exact ⟨_, rfl, by omega, by omega, hIm24, hFm24⟩
      · intro h27
        refine zw_7 zr_161_30 rfl ?_
        refine zw_46i zr_161_31 km8_69_7 rfl rfl rfl ?_
        refine zw_push zr_161_34 ?_
        refine zw_41_4 zr_161_35 ?_ ?_
        · intro h28
          refine zw_7 zr_161_488 rfl ?_
          refine zw_7 zr_161_489 rfl ?_
          refine zw_46i zr_161_490 km8_69_7 rfl rfl rfl ?_
          refine zw_push zr_161_493 ?_
          refine zw_41_4 zr_161_494 ?_ ?_
          · intro h29
            refine zw_push zr_161_506 ?_
            refine zw_47 (c := 69) zr_161_507 rfl ⟨rfl, by decide, rfl⟩ ?_
            intro m30 em30
            have hIm30 : zInv m30 := by rw [em30]; exact hIm8.anyl (by omega) (by decide) rfl (by decide) (by decide)
            have hFm30 : zFr W_161 m0 m30 := by rw [em30]; exact hFm8.up rfl
            have km30_69_6 : m30 69 6 = p9 := by rw [em30, zUp_ne (by omega)]; exact km8_69_6
            have km30_69_7 : m30 69 7 = p10 := by rw [em30, zUp_ne (by omega)]; exact km8_69_7
            have km30_69_9 : m30 69 9 = p11 := by rw [em30, zUp_ne (by omega)]; exact km8_69_9
            have km30_69_11 : m30 69 11 = p12 := by rw [em30, zUp_ne (by omega)]; exact km8_69_11
            have km30_69_13 : m30 69 13 = 0 := by rw [em30]; exact zUp_eq _ _ _ _
            have fm30_74 : m30 74 = f13 := by rw [em30, zUp_fn (by decide)]; exact fm8_74
            clear em30
            refine zw_7 zr_161_510 rfl ?_
            refine zw_46i zr_161_511 km30_69_7 rfl rfl rfl ?_
            refine zw_push zr_161_514 ?_
            refine zw_41_4 zr_161_515 ?_ ?_
            · intro h31
              refine zw_push zr_161_522 ?_
              refine zw_R zr_161_523 (by decide) zm_161 (v := (0, 0)) (zRetB (by omega)) ?_
              rw [← hQ]; exact ⟨_, rfl, by omega, by omega, hIm30, hFm30⟩
            · intro h32
              refine zw_push zr_161_518 ?_
              refine zw_42 zr_161_519 ?_
              refine zw_R zr_161_523 (by decide) zm_161 (v := (0, 1)) (zRetB (by omega)) ?_
              rw [← hQ]; exact ⟨_, rfl, by omega, by omega, hIm30, hFm30⟩
          · intro h33
            refine zw_7 zr_161_497 rfl ?_
            refine zw_46r (s := 73) zr_161_498 rfl rfl rfl rfl ?_
            refine zw_push zr_161_501 ?_
            obtain ⟨f34, ef34⟩ : ∃ v, m8 73 0 = v := ⟨_, rfl⟩
            have bf34 : (-9223372036854775808) ≤ m8 73 0 ∧ m8 73 0 ≤ 9223372036854775807 := hIm8.rl (c := 73) (len := 64) rfl (by omega)
            rw [ef34] at bf34
            refine zw_50k (c := 73) (len := 64) zr_161_502 rfl rfl (by omega) (by omega) (show (0 : Int).toNat = 0 by omega) ef34 ?_
            refine zw_42 zr_161_503 ?_
            refine zw_47 (c := 69) zr_161_507 rfl ⟨rfl, by decide, rfl⟩ ?_
            intro m35 em35
            have hIm35 : zInv m35 := by rw [em35]; exact hIm8.anyl (by omega) (by decide) rfl (by decide) (by decide)
            have hFm35 : zFr W_161 m0 m35 := by rw [em35]; exact hFm8.up rfl
            have km35_69_6 : m35 69 6 = p9 := by rw [em35, zUp_ne (by omega)]; exact km8_69_6
            have km35_69_7 : m35 69 7 = p10 := by rw [em35, zUp_ne (by omega)]; exact km8_69_7
            have km35_69_9 : m35 69 9 = p11 := by rw [em35, zUp_ne (by omega)]; exact km8_69_9
            have km35_69_11 : m35 69 11 = p12 := by rw [em35, zUp_ne (by omega)]; exact km8_69_11
            have km35_73_0 : m35 73 0 = f34 := by rw [em35, zUp_ne (by omega)]; exact ef34
            have km35_69_13 : m35 69 13 = f34 := by rw [em35]; exact zUp_eq _ _ _ _
            have fm35_74 : m35 74 = f13 := by rw [em35, zUp_fn (by decide)]; exact fm8_74
            clear em35
            refine zw_7 zr_161_510 rfl ?_
            refine zw_46i zr_161_511 km35_69_7 rfl rfl rfl ?_
            refine zw_push zr_161_514 ?_
            refine zw_41_4 zr_161_515 ?_ ?_
            · intro h36; omega
            · intro h37
              refine zw_push zr_161_518 ?_
              refine zw_42 zr_161_519 ?_
              refine zw_R zr_161_523 (by decide) zm_161 (v := (0, 1)) (zRetB (by omega)) ?_
              rw [← hQ]; exact ⟨_, rfl, by omega, by omega, hIm35, hFm35⟩
        · intro h38
          refine zw_7 zr_161_38 rfl ?_
          refine zw_C zr_161_39 (Or.inl rfl) zm_154 rfl rfl ⟨Nat.le_of_ble_eq_true rfl, Nat.le_of_ble_eq_true rfl, Nat.le_of_ble_eq_true rfl, rfl, by decide⟩ (by omega) (th_154 (d := d - 1) (by omega) hIm8  (g0 := p9)   km8_69_6   ) ?_
          rintro _ m39 ⟨r40, rfl, hr40a, hr40b, hIm39, gm39, po0_r40, po1_r40⟩
          have hFm39 : zFr W_161 m0 m39 := hFm8.trans gm39 rfl
          have km39_69_7 : m39 69 7 = p10 := (gm39 69 7 rfl).trans km8_69_7
          have km39_69_9 : m39 69 9 = p11 := (gm39 69 9 rfl).trans km8_69_9
          have km39_69_11 : m39 69 11 = p12 := (gm39 69 11 rfl).trans km8_69_11
          have fm39_74 : m39 74 = f13 := (funext fun k => gm39 74 k rfl).trans fm8_74
          obtain ⟨f41, ef41⟩ : ∃ v, m39 69 6 = v := ⟨_, rfl⟩
          have bf41 := ib_69_6 hIm39
          rw [ef41] at bf41
          show zW E (d) 161 42 [(2, 69), (0, i5), (0, i6), (0, i7), (9, 0)] [(0, r40)] m39 Q
          refine zw_10 (L' := [(2, 69), (0, i5), (0, i6), (0, i7), (0, r40)]) zr_161_42 (Nat.le_of_ble_eq_true rfl) rfl ?_
          refine zw_3 zr_161_44 rfl ?_
          refine zw_40_1 zr_161_45 ?_ ?_
          · intro h42
            refine zw_4 zr_161_254 rfl ?_
            refine zw_push zr_161_256 ?_
            refine zw_41_4 zr_161_258 ?_ ?_
            · intro h43
              refine zw_4 zr_161_319 rfl ?_
              refine zw_C zr_161_321 (Or.inr rfl) zm_155 rfl rfl ⟨Nat.le_of_ble_eq_true rfl, Nat.le_of_ble_eq_true rfl, Nat.le_of_ble_eq_true rfl, rfl, by decide⟩ (by omega) (th_155 (d := d - 1) (by omega) hIm39 (a0 := r40)      (by omega) ) ?_
              rintro _ _ ⟨r44, rfl, hr44a, hr44b, rfl, po0_r44⟩
              show zW E (d) 161 324 [(2, 69), (0, i5), (0, i6), (0, i7), (0, r40)] [(0, r44)] m39 Q
              refine zw_40_5 zr_161_324 ?_ ?_
              · intro h45
                refine zw_4 zr_161_452 rfl ?_
                refine zw_push zr_161_454 ?_
                refine zw_41_4 zr_161_455 ?_ ?_
                · intro h46
                  refine zw_7 zr_161_472 rfl ?_
                  refine zw_push zr_161_473 ?_
                  refine zw_7 zr_161_475 rfl ?_
                  refine zw_46i zr_161_476 ef41 rfl rfl rfl ?_
                  refine zw_18 zr_161_479 (by omega) ?_
                  refine zw_push zr_161_480 ?_
                  refine zw_16 zr_161_481 (by omega) ?_
                  refine zw_47 (c := 69) zr_161_482 rfl ⟨rfl, by decide, rfl⟩ ?_
                  intro m47 em47
                  have hIm47 : zInv m47 := by rw [em47]; exact hIm39.any (by omega) rfl (by decide) (by decide)
                  have hFm47 : zFr W_161 m0 m47 := by rw [em47]; exact hFm39.up rfl
                  have km47_69_9 : m47 69 9 = p11 := by rw [em47, zUp_ne (by omega)]; exact km39_69_9
                  have km47_69_11 : m47 69 11 = p12 := by rw [em47, zUp_ne (by omega)]; exact km39_69_11
                  have km47_69_6 : m47 69 6 = f41 := by rw [em47, zUp_ne (by omega)]; exact ef41
                  have km47_69_7 : m47 69 7 = ((10 * f41) + 1) := by rw [em47]; exact zUp_eq _ _ _ _
                  have fm47_74 : m47 74 = f13 := by rw [em47, zUp_fn (by decide)]; exact fm39_74
                  clear em47
                  refine zw_42 zr_161_485 ?_
                  exact zw_less (L := [(2, 69), (0, i5), (0, i6), (0, i7), (9, 0)]) ⟨Or.inr rfl, Or.inr rfl, Or.inr rfl, Or.inr rfl, Or.inl rfl, trivial⟩ (ihlp26_14 (i5) (i6) (i7) (f41) (((10 * f41) + 1)) (p11) (p12) (f13) m47 hIm47 hFm47  km47_69_6 km47_69_7 km47_69_9 km47_69_11 fm47_74 (by omega) (by omega) (by omega) (by omega) (by omega) (by omega) (by omega) (by omega) (by omega) (by omega) (by omega) (by omega) (by omega) (by omega) (by omega) (by omega) (by omega) (by omega) (by omega))
                · intro h48
                  refine zw_3 zr_161_458 rfl ?_
                  refine zw_40_4 zr_161_459 ?_ ?_
                  · intro h49
                    refine zw_7 zr_161_472 rfl ?_
                    refine zw_push zr_161_473 ?_
                    refine zw_7 zr_161_475 rfl ?_
                    refine zw_46i zr_161_476 ef41 rfl rfl rfl ?_
                    refine zw_18 zr_161_479 (by omega) ?_
                    refine zw_push zr_161_480 ?_
                    refine zw_16 zr_161_481 (by omega) ?_
                    refine zw_47 (c := 69) zr_161_482 rfl ⟨rfl, by decide, rfl⟩ ?_
                    intro m50 em50
                    have hIm50 : zInv m50 := by rw [em50]; exact hIm39.any (by omega) rfl (by decide) (by decide)
                    have hFm50 : zFr W_161 m0 m50 := by rw [em50]; exact hFm39.up rfl
                    have km50_69_9 : m50 69 9 = p11 := by rw [em50, zUp_ne (by omega)]; exact km39_69_9
                    have km50_69_11 : m50 69 11 = p12 := by rw [em50, zUp_ne (by omega)]; exact km39_69_11
                    have km50_69_6 : m50 69 6 = f41 := by rw [em50, zUp_ne (by omega)]; exact ef41
                    have km50_69_7 : m50 69 7 = ((10 * f41) + 1) := by rw [em50]; exact zUp_eq _ _ _ _
                    have fm50_74 : m50 74 = f13 := by rw [em50, zUp_fn (by decide)]; exact fm39_74
                    clear em50
                    refine zw_42 zr_161_485 ?_
                    exact zw_less (L := [(2, 69), (0, i5), (0, i6), (0, i7), (9, 0)]) ⟨Or.inr rfl, Or.inr rfl, Or.inr rfl, Or.inr rfl, Or.inl rfl, trivial⟩ (ihlp26_14 (i5) (i6) (i7) (f41) (((10 * f41) + 1)) (p11) (p12) (f13) m50 hIm50 hFm50  km50_69_6 km50_69_7 km50_69_9 km50_69_11 fm50_74 (by omega) (by omega) (by omega) (by omega) (by omega) (by omega) (by omega) (by omega) (by omega) (by omega) (by omega) (by omega) (by omega) (by omega) (by omega) (by omega) (by omega) (by omega) (by omega))
                  · intro h51
                    refine zw_7 zr_161_462 rfl ?_
                    refine zw_push zr_161_463 ?_
                    refine zw_C zr_161_464 (Or.inl rfl) zm_157 rfl rfl ⟨Nat.le_of_ble_eq_true rfl, Nat.le_of_ble_eq_true rfl, Nat.le_of_ble_eq_true rfl, rfl, by decide⟩ (by omega) (th_157 (d := d - 1) (by omega) hIm39 (a0 := 1) (g0 := p12) (g1 := p11)  (F74 := f13) km39_69_11 km39_69_9 fm39_74 (by omega) (by omega)) ?_
                    rintro _ m52 ⟨rfl, hIm52, gm52, po0_m52, po1_m52, po2_m52, po3_m52⟩
                    have hFm52 : zFr W_161 m0 m52 := hFm39.trans gm52 rfl
                    have km52_69_7 : m52 69 7 = p10 := (gm52 69 7 rfl).trans km39_69_7
                    have km52_69_6 : m52 69 6 = f41 := (gm52 69 6 rfl).trans ef41
                    have fm52_74 : m52 74 = f13 := (funext fun k => gm52 74 k rfl).trans fm39_74
                    obtain ⟨f53, ef53⟩ : ∃ v, m52 69 11 = v := ⟨_, rfl⟩
                    have bf53 := ib_69_11 hIm52
                    rw [ef53] at bf53
                    rw [ef53] at po0_m52
                    rw [ef53] at po2_m52
                    rw [ef53] at po3_m52
                    obtain ⟨f54, ef54⟩ : ∃ v, m52 69 9 = v := ⟨_, rfl⟩
                    have bf54 := ib_69_9 hIm52
                    rw [ef54] at bf54
                    rw [ef54] at po1_m52
                    rw [ef54] at po2_m52
                    show zW E (d) 161 467 [(2, 69), (0, i5), (0, i6), (0, i7), (0, r40)] [] m52 Q
                    have z55 := cB_nn f13 (f53).toNat
                    refine zw_push zr_161_467 ?_
                    refine zw_9 (L' := [(2, 69), (0, i5), (0, i6), (0, 0), (0, r40)]) zr_161_468 (Nat.le_of_ble_eq_true rfl) rfl ?_
                    refine zw_42 zr_161_469 ?_
                    refine zw_42 zr_161_485 ?_
                    exact zw_less (L := [(2, 69), (0, i5), (0, i6), (0, 0), (9, 0)]) ⟨Or.inr rfl, Or.inr rfl, Or.inr rfl, Or.inr rfl, Or.inl rfl, trivial⟩ (ihlp26_14 (i5) (i6) (0) (f41) (p10) (f54) (f53) (f13) m52 hIm52 hFm52  km52_69_6 km52_69_7 ef54 ef53 fm52_74 (by omega) (by omega) (by omega) (by omega) (by omega) (by omega) (by omega) (by omega) (by omega) (by omega) (by omega) (by omega) (by omega) (by omega) (by omega) (by omega) (by omega) (by omega) (by omega))
              · intro h56
                have z57 : 33 ≤ r40 := by omega
                have z58 : f41 ≤ 49 := by omega
                refine zw_7 zr_161_327 rfl ?_
                refine zw_4 zr_161_328 rfl ?_
                refine zw_C zr_161_330 (Or.inr rfl) zm_155 rfl rfl ⟨Nat.le_of_ble_eq_true rfl, Nat.le_of_ble_eq_true rfl, Nat.le_of_ble_eq_true rfl, rfl, by decide⟩ (by omega) (th_155 (d := d - 1) (by omega) hIm39 (a0 := r40)      (by omega) ) ?_
                rintro _ _ ⟨r59, rfl, hr59a, hr59b, rfl, po0_r59⟩
                show zW E (d) 161 333 [(2, 69), (0, i5), (0, i6), (0, i7), (0, r40)] [(0, r59), (2, 69)] m39 Q
                clear po0_r59
                refine zw_push zr_161_333 ?_
                refine zw_41_4 zr_161_334 ?_ ?_
                · intro h60
                  refine zw_4 zr_161_341 rfl ?_
                  refine zw_C zr_161_343 (Or.inr rfl) zm_155 rfl rfl ⟨Nat.le_of_ble_eq_true rfl, Nat.le_of_ble_eq_true rfl, Nat.le_of_ble_eq_true rfl, rfl, by decide⟩ (by omega) (th_155 (d := d - 1) (by omega) hIm39 (a0 := r40)      (by omega) ) ?_
                  rintro _ _ ⟨r61, rfl, hr61a, hr61b, rfl, po0_r61⟩
                  show zW E (d) 161 346 [(2, 69), (0, i5), (0, i6), (0, i7), (0, r40)] [(0, r61), (2, 69)] m39 Q
                  clear po0_r61
                  refine zw_C zr_161_346 (Or.inl rfl) zm_157 rfl rfl ⟨Nat.le_of_ble_eq_true rfl, Nat.le_of_ble_eq_true rfl, Nat.le_of_ble_eq_true rfl, rfl, by decide⟩ (by omega) (th_157 (d := d - 1) (by omega) hIm39 (a0 := r61) (g0 := p12) (g1 := p11)  (F74 := f13) km39_69_11 km39_69_9 fm39_74 (by omega) (by omega)) ?_
                  rintro _ m62 ⟨rfl, hIm62, gm62, po0_m62, po1_m62, po2_m62, po3_m62⟩
                  have hFm62 : zFr W_161 m0 m62 := hFm39.trans gm62 rfl
                  have km62_69_7 : m62 69 7 = p10 := (gm62 69 7 rfl).trans km39_69_7
                  have km62_69_6 : m62 69 6 = f41 := (gm62 69 6 rfl).trans ef41
                  have fm62_74 : m62 74 = f13 := (funext fun k => gm62 74 k rfl).trans fm39_74
                  obtain ⟨f63, ef63⟩ : ∃ v, m62 69 11 = v := ⟨_, rfl⟩
                  have bf63 := ib_69_11 hIm62
                  rw [ef63] at bf63
                  rw [ef63] at po0_m62
                  rw [ef63] at po2_m62
                  rw [ef63] at po3_m62
                  obtain ⟨f64, ef64⟩ : ∃ v, m62 69 9 = v := ⟨_, rfl⟩
                  have bf64 := ib_69_9 hIm62
                  rw [ef64] at bf64
                  rw [ef64] at po1_m62
                  rw [ef64] at po2_m62
                  show zW E (d) 161 349 [(2, 69), (0, i5), (0, i6), (0, i7), (0, r40)] [] m62 Q
                  have z65 := cB_nn f13 (f63).toNat
                  refine zw_4 zr_161_349 rfl ?_
                  refine zw_C zr_161_351 (Or.inr rfl) zm_155 rfl rfl ⟨Nat.le_of_ble_eq_true rfl, Nat.le_of_ble_eq_true rfl, Nat.le_of_ble_eq_true rfl, rfl, by decide⟩ (by omega) (th_155 (d := d - 1) (by omega) hIm62 (a0 := r40)      (by omega) ) ?_
                  rintro _ _ ⟨r66, rfl, hr66a, hr66b, rfl, po0_r66⟩
                  show zW E (d) 161 354 [(2, 69), (0, i5), (0, i6), (0, i7), (0, r40)] [(0, r66)] m62 Q
                  clear po0_r66
                  refine zw_push zr_161_354 ?_
                  refine zw_41_4 zr_161_355 ?_ ?_
                  · intro h67
                    refine zw_7 zr_161_416 rfl ?_
                    refine zw_43 zr_161_417 rfl ?_
                    refine zw_46i zr_161_418 km62_69_6 rfl rfl rfl ?_
                    refine zw_push zr_161_421 ?_
                    refine zw_16 zr_161_422 (by omega) ?_
                    refine zw_47 (c := 69) zr_161_423 rfl ⟨rfl, by decide, rfl⟩ ?_
                    intro m68 em68
                    have hIm68 : zInv m68 := by rw [em68]; exact hIm62.bd (r := 69) (k := 6) (lo := 0) (hi := 50) rfl (by omega) (by decide) (by decide) (by decide)
                    have hFm68 : zFr W_161 m0 m68 := by rw [em68]; exact hFm62.up rfl
                    have km68_69_7 : m68 69 7 = p10 := by rw [em68, zUp_ne (by omega)]; exact km62_69_7
                    have km68_69_11 : m68 69 11 = f63 := by rw [em68, zUp_ne (by omega)]; exact ef63
                    have km68_69_9 : m68 69 9 = f64 := by rw [em68, zUp_ne (by omega)]; exact ef64
                    have km68_69_6 : m68 69 6 = (f41 + 1) := by rw [em68]; exact zUp_eq _ _ _ _
                    have fm68_74 : m68 74 = f13 := by rw [em68, zUp_fn (by decide)]; exact fm62_74
                    clear em68
                    refine zw_7 zr_161_426 rfl ?_
                    refine zw_46r (s := 74) zr_161_427 rfl rfl rfl rfl ?_
                    refine zw_7 zr_161_430 rfl ?_
                    refine zw_46i zr_161_431 km68_69_11 rfl rfl rfl ?_
                    refine zw_4 zr_161_434 rfl ?_
                    refine zw_49 (c := 74) (len := 128) zr_161_436 rfl rfl (by omega) (by omega) ?_
                    intro m69 em69
                    have hIm69 : zInv m69 := by rw [em69]; exact iu_74 hIm68 (by omega)
                    have hFm69 : zFr W_161 m0 m69 := by rw [em69]; exact hFm68.any rfl
                    have km69_69_7 : m69 69 7 = p10 := by rw [em69, zUp_ne (by omega)]; exact km68_69_7
                    have km69_69_11 : m69 69 11 = f63 := by rw [em69, zUp_ne (by omega)]; exact km68_69_11
                    have km69_69_9 : m69 69 9 = f64 := by rw [em69, zUp_ne (by omega)]; exact km68_69_9
                    have km69_69_6 : m69 69 6 = (f41 + 1) := by rw [em69, zUp_ne (by omega)]; exact km68_69_6
                    have fm69_74 : m69 74 = zPt f13 ((f63).toNat) r40 := by rw [em69]; exact (zUp_ff (m := m68)).trans (congrArg (fun q => zPt q ((f63).toNat) r40) fm68_74)
                    clear em69
                    have z70 := zcp_s f13 (f63).toNat (f63 + 1).toNat (r40) (by omega) (by omega)
                    refine zw_7 zr_161_437 rfl ?_
                    refine zw_43 zr_161_438 rfl ?_
                    refine zw_46i zr_161_439 km69_69_11 rfl rfl rfl ?_
                    refine zw_push zr_161_442 ?_
                    refine zw_16 zr_161_443 (by omega) ?_
                    refine zw_47 (c := 69) zr_161_444 rfl ⟨rfl, by decide, rfl⟩ ?_
                    intro m71 em71
                    have hIm71 : zInv m71 := by rw [em71]; exact hIm69.bd (r := 69) (k := 11) (lo := 0) (hi := 128) rfl (by omega) (by decide) (by decide) (by decide)
                    have hFm71 : zFr W_161 m0 m71 := by rw [em71]; exact hFm69.up rfl
                    have km71_69_7 : m71 69 7 = p10 := by rw [em71, zUp_ne (by omega)]; exact km69_69_7
                    have km71_69_9 : m71 69 9 = f64 := by rw [em71, zUp_ne (by omega)]; exact km69_69_9
                    have km71_69_6 : m71 69 6 = (f41 + 1) := by rw [em71, zUp_ne (by omega)]; exact km69_69_6
                    have km71_69_11 : m71 69 11 = (f63 + 1) := by rw [em71]; exact zUp_eq _ _ _ _
                    have fm71_74 : m71 74 = zPt f13 ((f63).toNat) r40 := by rw [em71, zUp_fn (by decide)]; exact fm69_74
                    clear em71
                    refine zw_push zr_161_447 ?_
                    refine zw_9 (L' := [(2, 69), (0, i5), (0, 1), (0, i7), (0, r40)]) zr_161_448 (Nat.le_of_ble_eq_true rfl) rfl ?_
                    refine zw_42 zr_161_449 ?_
                    refine zw_42 zr_161_485 ?_
                    exact zw_less (L := [(2, 69), (0, i5), (0, 1), (0, i7), (9, 0)]) ⟨Or.inr rfl, Or.inr rfl, Or.inr rfl, Or.inr rfl, Or.inl rfl, trivial⟩ (ihlp26_14 (i5) (1) (i7) ((f41 + 1)) (p10) (f64) ((f63 + 1)) (zPt f13 ((f63).toNat) r40) m71 hIm71 hFm71  km71_69_6 km71_69_7 km71_69_9 km71_69_11 fm71_74 (by omega) (by omega) (by omega) (by omega) (by omega) (by omega) (by omega) (by omega) (by omega) (by omega) (by omega) (by omega) (by omega) (by omega) (by omega) (by omega) (by omega) (by omega) (by omega))
                  · intro h72
                    refine zw_7 zr_161_358 rfl ?_
                    refine zw_46i zr_161_359 ef63 rfl rfl rfl ?_
                    refine zw_40_5 zr_161_362 ?_ ?_
                    · intro h73
                      refine zw_7 zr_161_416 rfl ?_
                      refine zw_43 zr_161_417 rfl ?_
                      refine zw_46i zr_161_418 km62_69_6 rfl rfl rfl ?_
                      refine zw_push zr_161_421 ?_
                      refine zw_16 zr_161_422 (by omega) ?_
                      refine zw_47 (c := 69) zr_161_423 rfl ⟨rfl, by decide, rfl⟩ ?_
                      intro m74 em74
                      have hIm74 : zInv m74 := by rw [em74]; exact hIm62.bd (r := 69) (k := 6) (lo := 0) (hi := 50) rfl (by omega) (by decide) (by decide) (by decide)
                      have hFm74 : zFr W_161 m0 m74 := by rw [em74]; exact hFm62.up rfl
                      have km74_69_7 : m74 69 7 = p10 := by rw [em74, zUp_ne (by omega)]; exact km62_69_7
                      have km74_69_11 : m74 69 11 = f63 := by rw [em74, zUp_ne (by omega)]; exact ef63
                      have km74_69_9 : m74 69 9 = f64 := by rw [em74, zUp_ne (by omega)]; exact ef64
                      have km74_69_6 : m74 69 6 = (f41 + 1) := by rw [em74]; exact zUp_eq _ _ _ _
                      have fm74_74 : m74 74 = f13 := by rw [em74, zUp_fn (by decide)]; exact fm62_74
                      clear em74
                      refine zw_7 zr_161_426 rfl ?_
                      refine zw_46r (s := 74) zr_161_427 rfl rfl rfl rfl ?_
                      refine zw_7 zr_161_430 rfl ?_
                      refine zw_46i zr_161_431 km74_69_11 rfl rfl rfl ?_
                      refine zw_4 zr_161_434 rfl ?_
                      refine zw_49 (c := 74) (len := 128) zr_161_436 rfl rfl (by omega) (by omega) ?_
                      intro m75 em75
                      have hIm75 : zInv m75 := by rw [em75]; exact iu_74 hIm74 (by omega)
                      have hFm75 : zFr W_161 m0 m75 := by rw [em75]; exact hFm74.any rfl
                      have km75_69_7 : m75 69 7 = p10 := by rw [em75, zUp_ne (by omega)]; exact km74_69_7
                      have km75_69_11 : m75 69 11 = f63 := by rw [em75, zUp_ne (by omega)]; exact km74_69_11
                      have km75_69_9 : m75 69 9 = f64 := by rw [em75, zUp_ne (by omega)]; exact km74_69_9
                      have km75_69_6 : m75 69 6 = (f41 + 1) := by rw [em75, zUp_ne (by omega)]; exact km74_69_6
                      have km75_74_0 : m75 74 0 = r40 := by rw [em75, show (f63 : Int).toNat = 0 by omega]; exact zUp_eq _ _ _ _
                      have fm75_74 : m75 74 = zPt f13 ((f63).toNat) r40 := by rw [em75]; exact (zUp_ff (m := m74)).trans (congrArg (fun q => zPt q ((f63).toNat) r40) fm74_74)
                      clear em75
                      have z76 := zcp_s f13 (f63).toNat (f63 + 1).toNat (r40) (by omega) (by omega)
                      refine zw_7 zr_161_437 rfl ?_
                      refine zw_43 zr_161_438 rfl ?_
                      refine zw_46i zr_161_439 km75_69_11 rfl rfl rfl ?_
                      refine zw_push zr_161_442 ?_
                      refine zw_16 zr_161_443 (by omega) ?_
                      refine zw_47 (c := 69) zr_161_444 rfl ⟨rfl, by decide, rfl⟩ ?_
                      intro m77 em77
                      have hIm77 : zInv m77 := by rw [em77]; exact hIm75.bd (r := 69) (k := 11) (lo := 0) (hi := 128) rfl (by omega) (by decide) (by decide) (by decide)
                      have hFm77 : zFr W_161 m0 m77 := by rw [em77]; exact hFm75.up rfl
                      have km77_69_7 : m77 69 7 = p10 := by rw [em77, zUp_ne (by omega)]; exact km75_69_7
                      have km77_69_9 : m77 69 9 = f64 := by rw [em77, zUp_ne (by omega)]; exact km75_69_9
                      have km77_69_6 : m77 69 6 = (f41 + 1) := by rw [em77, zUp_ne (by omega)]; exact km75_69_6
                      have km77_74_0 : m77 74 0 = r40 := by rw [em77, zUp_ne (by omega)]; exact km75_74_0
                      have km77_69_11 : m77 69 11 = (f63 + 1) := by rw [em77]; exact zUp_eq _ _ _ _
                      have fm77_74 : m77 74 = zPt f13 ((f63).toNat) r40 := by rw [em77, zUp_fn (by decide)]; exact fm75_74
                      clear em77
                      refine zw_push zr_161_447 ?_
                      refine zw_9 (L' := [(2, 69), (0, i5), (0, 1), (0, i7), (0, r40)]) zr_161_448 (Nat.le_of_ble_eq_true rfl) rfl ?_
                      refine zw_42 zr_161_449 ?_
                      refine zw_42 zr_161_485 ?_
                      exact zw_less (L := [(2, 69), (0, i5), (0, 1), (0, i7), (9, 0)]) ⟨Or.inr rfl, Or.inr rfl, Or.inr rfl, Or.inr rfl, Or.inl rfl, trivial⟩ (ihlp26_14 (i5) (1) (i7) ((f41 + 1)) (p10) (f64) ((f63 + 1)) (zPt f13 ((f63).toNat) r40) m77 hIm77 hFm77  km77_69_6 km77_69_7 km77_69_9 km77_69_11 fm77_74 (by omega) (by omega) (by omega) (by omega) (by omega) (by omega) (by omega) (by omega) (by omega) (by omega) (by omega) (by omega) (by omega) (by omega) (by omega) (by omega) (by omega) (by omega) (by omega))
                    · intro h78
                      refine zw_7 zr_161_365 rfl ?_
                      refine zw_46r (s := 74) zr_161_366 rfl rfl rfl rfl ?_
                      refine zw_7 zr_161_369 rfl ?_
                      refine zw_46i zr_161_370 ef63 rfl rfl rfl ?_
                      refine zw_push zr_161_373 ?_
                      refine zw_17 zr_161_374 (by omega) ?_
                      refine zw_48 (c := 74) (len := 128) zr_161_375 rfl rfl (by omega) (by omega) ?_
                      intro x79 ex79
                      have bx79 := ib_74 hIm62 (k := ((f63 - 1)).toNat) (by omega)
                      rw [← ex79] at bx79
                      refine zw_push zr_161_376 ?_
                      refine zw_41_3 zr_161_379 ?_ ?_
                      · intro h80
                        refine zw_7 zr_161_416 rfl ?_
                        refine zw_43 zr_161_417 rfl ?_
                        refine zw_46i zr_161_418 km62_69_6 rfl rfl rfl ?_
                        refine zw_push zr_161_421 ?_
                        refine zw_16 zr_161_422 (by omega) ?_
                        refine zw_47 (c := 69) zr_161_423 rfl ⟨rfl, by decide, rfl⟩ ?_
                        intro m81 em81
                        have hIm81 : zInv m81 := by rw [em81]; exact hIm62.bd (r := 69) (k := 6) (lo := 0) (hi := 50) rfl (by omega) (by decide) (by decide) (by decide)
                        have hFm81 : zFr W_161 m0 m81 := by rw [em81]; exact hFm62.up rfl
                        have km81_69_7 : m81 69 7 = p10 := by rw [em81, zUp_ne (by omega)]; exact km62_69_7
                        have km81_69_11 : m81 69 11 = f63 := by rw [em81, zUp_ne (by omega)]; exact ef63
                        have km81_69_9 : m81 69 9 = f64 := by rw [em81, zUp_ne (by omega)]; exact ef64
                        have km81_69_6 : m81 69 6 = (f41 + 1) := by rw [em81]; exact zUp_eq _ _ _ _
                        have fm81_74 : m81 74 = f13 := by rw [em81, zUp_fn (by decide)]; exact fm62_74
                        clear em81
                        refine zw_7 zr_161_426 rfl ?_
                        refine zw_46r (s := 74) zr_161_427 rfl rfl rfl rfl ?_
                        refine zw_7 zr_161_430 rfl ?_
                        refine zw_46i zr_161_431 km81_69_11 rfl rfl rfl ?_
                        refine zw_4 zr_161_434 rfl ?_
                        refine zw_49 (c := 74) (len := 128) zr_161_436 rfl rfl (by omega) (by omega) ?_
                        intro m82 em82
                        have hIm82 : zInv m82 := by rw [em82]; exact iu_74 hIm81 (by omega)
                        have hFm82 : zFr W_161 m0 m82 := by rw [em82]; exact hFm81.any rfl
                        have km82_69_7 : m82 69 7 = p10 := by rw [em82, zUp_ne (by omega)]; exact km81_69_7
                        have km82_69_11 : m82 69 11 = f63 := by rw [em82, zUp_ne (by omega)]; exact km81_69_11
                        have km82_69_9 : m82 69 9 = f64 := by rw [em82, zUp_ne (by omega)]; exact km81_69_9
                        have km82_69_6 : m82 69 6 = (f41 + 1) := by rw [em82, zUp_ne (by omega)]; exact km81_69_6
                        have fm82_74 : m82 74 = zPt f13 ((f63).toNat) r40 := by rw [em82]; exact (zUp_ff (m := m81)).trans (congrArg (fun q => zPt q ((f63).toNat) r40) fm81_74)
                        clear em82
                        have z83 := zcp_s f13 (f63).toNat (f63 + 1).toNat (r40) (by omega) (by omega)
                        refine zw_7 zr_161_437 rfl ?_
                        refine zw_43 zr_161_438 rfl ?_
                        refine zw_46i zr_161_439 km82_69_11 rfl rfl rfl ?_
                        refine zw_push zr_161_442 ?_
                        refine zw_16 zr_161_443 (by omega) ?_
                        refine zw_47 (c := 69) zr_161_444 rfl ⟨rfl, by decide, rfl⟩ ?_
                        intro m84 em84
                        have hIm84 : zInv m84 := by rw [em84]; exact hIm82.bd (r := 69) (k := 11) (lo := 0) (hi := 128) rfl (by omega) (by decide) (by decide) (by decide)
                        have hFm84 : zFr W_161 m0 m84 := by rw [em84]; exact hFm82.up rfl
                        have km84_69_7 : m84 69 7 = p10 := by rw [em84, zUp_ne (by omega)]; exact km82_69_7
                        have km84_69_9 : m84 69 9 = f64 := by rw [em84, zUp_ne (by omega)]; exact km82_69_9
                        have km84_69_6 : m84 69 6 = (f41 + 1) := by rw [em84, zUp_ne (by omega)]; exact km82_69_6
                        have km84_69_11 : m84 69 11 = (f63 + 1) := by rw [em84]; exact zUp_eq _ _ _ _
                        have fm84_74 : m84 74 = zPt f13 ((f63).toNat) r40 := by rw [em84, zUp_fn (by decide)]; exact fm82_74
                        clear em84
                        refine zw_push zr_161_447 ?_
                        refine zw_9 (L' := [(2, 69), (0, i5), (0, 1), (0, i7), (0, r40)]) zr_161_448 (Nat.le_of_ble_eq_true rfl) rfl ?_
                        refine zw_42 zr_161_449 ?_
                        refine zw_42 zr_161_485 ?_
                        exact zw_less (L := [(2, 69), (0, i5), (0, 1), (0, i7), (9, 0)]) ⟨Or.inr rfl, Or.inr rfl, Or.inr rfl, Or.inr rfl, Or.inl rfl, trivial⟩ (ihlp26_14 (i5) (1) (i7) ((f41 + 1)) (p10) (f64) ((f63 + 1)) (zPt f13 ((f63).toNat) r40) m84 hIm84 hFm84  km84_69_6 km84_69_7 km84_69_9 km84_69_11 fm84_74 (by omega) (by omega) (by omega) (by omega) (by omega) (by omega) (by omega) (by omega) (by omega) (by omega) (by omega) (by omega) (by omega) (by omega) (by omega) (by omega) (by omega) (by omega) (by omega))
                      · intro h85
                        refine zw_7 zr_161_382 rfl ?_
                        refine zw_46r (s := 74) zr_161_383 rfl rfl rfl rfl ?_
                        refine zw_7 zr_161_386 rfl ?_
                        refine zw_46i zr_161_387 ef63 rfl rfl rfl ?_
                        refine zw_push zr_161_390 ?_
                        refine zw_17 zr_161_391 (by omega) ?_
                        refine zw_48k (c := 74) (len := 128) zr_161_392 rfl rfl (by omega) (by omega) rfl ex79.symm ?_
                        refine zw_C zr_161_393 (Or.inr rfl) zm_155 rfl rfl ⟨Nat.le_of_ble_eq_true rfl, Nat.le_of_ble_eq_true rfl, Nat.le_of_ble_eq_true rfl, rfl, by decide⟩ (by omega) (th_155 (d := d - 1) (by omega) hIm62 (a0 := x79)      (by omega) ) ?_
                        rintro _ _ ⟨r86, rfl, hr86a, hr86b, rfl, po0_r86⟩
                        show zW E (d) 161 396 [(2, 69), (0, i5), (0, i6), (0, i7), (0, r40)] [(0, r86)] m62 Q
                        clear po0_r86
                        refine zw_push zr_161_396 ?_
                        refine zw_41_4 zr_161_397 ?_ ?_
                        · intro h87
                          refine zw_7 zr_161_416 rfl ?_
                          refine zw_43 zr_161_417 rfl ?_
                          refine zw_46i zr_161_418 km62_69_6 rfl rfl rfl ?_
                          refine zw_push zr_161_421 ?_
                          refine zw_16 zr_161_422 (by omega) ?_
                          refine zw_47 (c := 69) zr_161_423 rfl ⟨rfl, by decide, rfl⟩ ?_
                          intro m88 em88
                          have hIm88 : zInv m88 := by rw [em88]; exact hIm62.bd (r := 69) (k := 6) (lo := 0) (hi := 50) rfl (by omega) (by decide) (by decide) (by decide)
                          have hFm88 : zFr W_161 m0 m88 := by rw [em88]; exact hFm62.up rfl
                          have km88_69_7 : m88 69 7 = p10 := by rw [em88, zUp_ne (by omega)]; exact km62_69_7
                          have km88_69_11 : m88 69 11 = f63 := by rw [em88, zUp_ne (by omega)]; exact ef63
                          have km88_69_9 : m88 69 9 = f64 := by rw [em88, zUp_ne (by omega)]; exact ef64
                          have km88_69_6 : m88 69 6 = (f41 + 1) := by rw [em88]; exact zUp_eq _ _ _ _
                          have fm88_74 : m88 74 = f13 := by rw [em88, zUp_fn (by decide)]; exact fm62_74
                          clear em88
                          refine zw_7 zr_161_426 rfl ?_
                          refine zw_46r (s := 74) zr_161_427 rfl rfl rfl rfl ?_
                          refine zw_7 zr_161_430 rfl ?_
                          refine zw_46i zr_161_431 km88_69_11 rfl rfl rfl ?_
                          refine zw_4 zr_161_434 rfl ?_
                          refine zw_49 (c := 74) (len := 128) zr_161_436 rfl rfl (by omega) (by omega) ?_
                          intro m89 em89
                          have hIm89 : zInv m89 := by rw [em89]; exact iu_74 hIm88 (by omega)
                          have hFm89 : zFr W_161 m0 m89 := by rw [em89]; exact hFm88.any rfl
                          have km89_69_7 : m89 69 7 = p10 := by rw [em89, zUp_ne (by omega)]; exact km88_69_7
                          have km89_69_11 : m89 69 11 = f63 := by rw [em89, zUp_ne (by omega)]; exact km88_69_11
                          have km89_69_9 : m89 69 9 = f64 := by rw [em89, zUp_ne (by omega)]; exact km88_69_9
                          have km89_69_6 : m89 69 6 = (f41 + 1) := by rw [em89, zUp_ne (by omega)]; exact km88_69_6
                          have fm89_74 : m89 74 = zPt f13 ((f63).toNat) r40 := by rw [em89]; exact (zUp_ff (m := m88)).trans (congrArg (fun q => zPt q ((f63).toNat) r40) fm88_74)
                          clear em89
                          have z90 := zcp_s f13 (f63).toNat (f63 + 1).toNat (r40) (by omega) (by omega)
                          refine zw_7 zr_161_437 rfl ?_
                          refine zw_43 zr_161_438 rfl ?_
                          refine zw_46i zr_161_439 km89_69_11 rfl rfl rfl ?_
                          refine zw_push zr_161_442 ?_
                          refine zw_16 zr_161_443 (by omega) ?_
                          refine zw_47 (c := 69) zr_161_444 rfl ⟨rfl, by decide, rfl⟩ ?_
                          intro m91 em91
                          have hIm91 : zInv m91 := by rw [em91]; exact hIm89.bd (r := 69) (k := 11) (lo := 0) (hi := 128) rfl (by omega) (by decide) (by decide) (by decide)
                          have hFm91 : zFr W_161 m0 m91 := by rw [em91]; exact hFm89.up rfl
                          have km91_69_7 : m91 69 7 = p10 := by rw [em91, zUp_ne (by omega)]; exact km89_69_7
                          have km91_69_9 : m91 69 9 = f64 := by rw [em91, zUp_ne (by omega)]; exact km89_69_9
                          have km91_69_6 : m91 69 6 = (f41 + 1) := by rw [em91, zUp_ne (by omega)]; exact km89_69_6
                          have km91_69_11 : m91 69 11 = (f63 + 1) := by rw [em91]; exact zUp_eq _ _ _ _
                          have fm91_74 : m91 74 = zPt f13 ((f63).toNat) r40 := by rw [em91, zUp_fn (by decide)]; exact fm89_74
                          clear em91
                          refine zw_push zr_161_447 ?_
                          refine zw_9 (L' := [(2, 69), (0, i5), (0, 1), (0, i7), (0, r40)]) zr_161_448 (Nat.le_of_ble_eq_true rfl) rfl ?_
                          refine zw_42 zr_161_449 ?_
                          refine zw_42 zr_161_485 ?_
                          exact zw_less (L := [(2, 69), (0, i5), (0, 1), (0, i7), (9, 0)]) ⟨Or.inr rfl, Or.inr rfl, Or.inr rfl, Or.inr rfl, Or.inl rfl, trivial⟩ (ihlp26_14 (i5) (1) (i7) ((f41 + 1)) (p10) (f64) ((f63 + 1)) (zPt f13 ((f63).toNat) r40) m91 hIm91 hFm91  km91_69_6 km91_69_7 km91_69_9 km91_69_11 fm91_74 (by omega) (by omega) (by omega) (by omega) (by omega) (by omega) (by omega) (by omega) (by omega) (by omega) (by omega) (by omega) (by omega) (by omega) (by omega) (by omega) (by omega) (by omega) (by omega))
                        · intro h92
                          refine zw_7 zr_161_400 rfl ?_
                          refine zw_push zr_161_401 ?_
                          refine zw_7 zr_161_403 rfl ?_
                          refine zw_46i zr_161_404 km62_69_6 rfl rfl rfl ?_
                          refine zw_18 zr_161_407 (by omega) ?_
                          refine zw_push zr_161_408 ?_
                          refine zw_16 zr_161_409 (by omega) ?_
                          refine zw_47 (c := 69) zr_161_410 rfl ⟨rfl, by decide, rfl⟩ ?_
                          intro m93 em93
                          have hIm93 : zInv m93 := by rw [em93]; exact hIm62.any (by omega) rfl (by decide) (by decide)
                          have hFm93 : zFr W_161 m0 m93 := by rw [em93]; exact hFm62.up rfl
                          have km93_69_6 : m93 69 6 = f41 := by rw [em93, zUp_ne (by omega)]; exact km62_69_6
                          have km93_69_11 : m93 69 11 = f63 := by rw [em93, zUp_ne (by omega)]; exact ef63
                          have km93_69_9 : m93 69 9 = f64 := by rw [em93, zUp_ne (by omega)]; exact ef64
                          have km93_69_7 : m93 69 7 = ((10 * f41) + 1) := by rw [em93]; exact zUp_eq _ _ _ _
                          have fm93_74 : m93 74 = f13 := by rw [em93, zUp_fn (by decide)]; exact fm62_74
                          clear em93
                          refine zw_42 zr_161_413 ?_
                          refine zw_42 zr_161_485 ?_
                          exact zw_less (L := [(2, 69), (0, i5), (0, i6), (0, i7), (9, 0)]) ⟨Or.inr rfl, Or.inr rfl, Or.inr rfl, Or.inr rfl, Or.inl rfl, trivial⟩ (ihlp26_14 (i5) (i6) (i7) (f41) (((10 * f41) + 1)) (f64) (f63) (f13) m93 hIm93 hFm93  km93_69_6 km93_69_7 km93_69_9 km93_69_11 fm93_74 (by omega) (by omega) (by omega) (by omega) (by omega) (by omega) (by omega) (by omega) (by omega) (by omega) (by omega) (by omega) (by omega) (by omega) (by omega) (by omega) (by omega) (by omega) (by omega))
                · intro h94
                  refine zw_push zr_161_337 ?_
                  refine zw_42 zr_161_338 ?_
                  refine zw_C zr_161_346 (Or.inl rfl) zm_157 rfl rfl ⟨Nat.le_of_ble_eq_true rfl, Nat.le_of_ble_eq_true rfl, Nat.le_of_ble_eq_true rfl, rfl, by decide⟩ (by omega) (th_157 (d := d - 1) (by omega) hIm39 (a0 := 4) (g0 := p12) (g1 := p11)  (F74 := f13) km39_69_11 km39_69_9 fm39_74 (by omega) (by omega)) ?_
                  rintro _ m95 ⟨rfl, hIm95, gm95, po0_m95, po1_m95, po2_m95, po3_m95⟩
                  have hFm95 : zFr W_161 m0 m95 := hFm39.trans gm95 rfl
                  have km95_69_7 : m95 69 7 = p10 := (gm95 69 7 rfl).trans km39_69_7
                  have km95_69_6 : m95 69 6 = f41 := (gm95 69 6 rfl).trans ef41
                  have fm95_74 : m95 74 = f13 := (funext fun k => gm95 74 k rfl).trans fm39_74
                  obtain ⟨f96, ef96⟩ : ∃ v, m95 69 11 = v := ⟨_, rfl⟩
                  have bf96 := ib_69_11 hIm95
                  rw [ef96] at bf96
                  rw [ef96] at po0_m95
                  rw [ef96] at po2_m95
                  rw [ef96] at po3_m95
                  obtain ⟨f97, ef97⟩ : ∃ v, m95 69 9 = v := ⟨_, rfl⟩
                  have bf97 := ib_69_9 hIm95
                  rw [ef97] at bf97
                  rw [ef97] at po1_m95
                  rw [ef97] at po2_m95
                  show zW E (d) 161 349 [(2, 69), (0, i5), (0, i6), (0, i7), (0, r40)] [] m95 Q
                  have z98 := cB_nn f13 (f96).toNat
                  refine zw_4 zr_161_349 rfl ?_
                  refine zw_C zr_161_351 (Or.inr rfl) zm_155 rfl rfl ⟨Nat.le_of_ble_eq_true rfl, Nat.le_of_ble_eq_true rfl, Nat.le_of_ble_eq_true rfl, rfl, by decide⟩ (by omega) (th_155 (d := d - 1) (by omega) hIm95 (a0 := r40)      (by omega) ) ?_
                  rintro _ _ ⟨r99, rfl, hr99a, hr99b, rfl, po0_r99⟩
                  show zW E (d) 161 354 [(2, 69), (0, i5), (0, i6), (0, i7), (0, r40)] [(0, r99)] m95 Q
                  clear po0_r99
                  refine zw_push zr_161_354 ?_
                  refine zw_41_4 zr_161_355 ?_ ?_
                  · intro h100
                    refine zw_7 zr_161_416 rfl ?_
                    refine zw_43 zr_161_417 rfl ?_
                    refine zw_46i zr_161_418 km95_69_6 rfl rfl rfl ?_
                    refine zw_push zr_161_421 ?_
                    refine zw_16 zr_161_422 (by omega) ?_
                    refine zw_47 (c := 69) zr_161_423 rfl ⟨rfl, by decide, rfl⟩ ?_
                    intro m101 em101
                    have hIm101 : zInv m101 := by rw [em101]; exact hIm95.bd (r := 69) (k := 6) (lo := 0) (hi := 50) rfl (by omega) (by decide) (by decide) (by decide)
                    have hFm101 : zFr W_161 m0 m101 := by rw [em101]; exact hFm95.up rfl
                    have km101_69_7 : m101 69 7 = p10 := by rw [em101, zUp_ne (by omega)]; exact km95_69_7
                    have km101_69_11 : m101 69 11 = f96 := by rw [em101, zUp_ne (by omega)]; exact ef96
                    have km101_69_9 : m101 69 9 = f97 := by rw [em101, zUp_ne (by omega)]; exact ef97
                    have km101_69_6 : m101 69 6 = (f41 + 1) := by rw [em101]; exact zUp_eq _ _ _ _
                    have fm101_74 : m101 74 = f13 := by rw [em101, zUp_fn (by decide)]; exact fm95_74
                    clear em101
                    refine zw_7 zr_161_426 rfl ?_
                    refine zw_46r (s := 74) zr_161_427 rfl rfl rfl rfl ?_
                    refine zw_7 zr_161_430 rfl ?_
                    refine zw_46i zr_161_431 km101_69_11 rfl rfl rfl ?_
                    refine zw_4 zr_161_434 rfl ?_
                    refine zw_49 (c := 74) (len := 128) zr_161_436 rfl rfl (by omega) (by omega) ?_
                    intro m102 em102
                    have hIm102 : zInv m102 := by rw [em102]; exact iu_74 hIm101 (by omega)
                    have hFm102 : zFr W_161 m0 m102 := by rw [em102]; exact hFm101.any rfl
                    have km102_69_7 : m102 69 7 = p10 := by rw [em102, zUp_ne (by omega)]; exact km101_69_7
                    have km102_69_11 : m102 69 11 = f96 := by rw [em102, zUp_ne (by omega)]; exact km101_69_11
                    have km102_69_9 : m102 69 9 = f97 := by rw [em102, zUp_ne (by omega)]; exact km101_69_9
                    have km102_69_6 : m102 69 6 = (f41 + 1) := by rw [em102, zUp_ne (by omega)]; exact km101_69_6
                    have fm102_74 : m102 74 = zPt f13 ((f96).toNat) r40 := by rw [em102]; exact (zUp_ff (m := m101)).trans (congrArg (fun q => zPt q ((f96).toNat) r40) fm101_74)
                    clear em102
                    have z103 := zcp_s f13 (f96).toNat (f96 + 1).toNat (r40) (by omega) (by omega)
                    refine zw_7 zr_161_437 rfl ?_
                    refine zw_43 zr_161_438 rfl ?_
                    refine zw_46i zr_161_439 km102_69_11 rfl rfl rfl ?_
                    refine zw_push zr_161_442 ?_
                    refine zw_16 zr_161_443 (by omega) ?_
                    refine zw_47 (c := 69) zr_161_444 rfl ⟨rfl, by decide, rfl⟩ ?_
                    intro m104 em104
                    have hIm104 : zInv m104 := by rw [em104]; exact hIm102.bd (r := 69) (k := 11) (lo := 0) (hi := 128) rfl (by omega) (by decide) (by decide) (by decide)
                    have hFm104 : zFr W_161 m0 m104 := by rw [em104]; exact hFm102.up rfl
                    have km104_69_7 : m104 69 7 = p10 := by rw [em104, zUp_ne (by omega)]; exact km102_69_7
                    have km104_69_9 : m104 69 9 = f97 := by rw [em104, zUp_ne (by omega)]; exact km102_69_9
                    have km104_69_6 : m104 69 6 = (f41 + 1) := by rw [em104, zUp_ne (by omega)]; exact km102_69_6
                    have km104_69_11 : m104 69 11 = (f96 + 1) := by rw [em104]; exact zUp_eq _ _ _ _
                    have fm104_74 : m104 74 = zPt f13 ((f96).toNat) r40 := by rw [em104, zUp_fn (by decide)]; exact fm102_74
                    clear em104
                    refine zw_push zr_161_447 ?_
                    refine zw_9 (L' := [(2, 69), (0, i5), (0, 1), (0, i7), (0, r40)]) zr_161_448 (Nat.le_of_ble_eq_true rfl) rfl ?_
                    refine zw_42 zr_161_449 ?_
                    refine zw_42 zr_161_485 ?_
                    exact zw_less (L := [(2, 69), (0, i5), (0, 1), (0, i7), (9, 0)]) ⟨Or.inr rfl, Or.inr rfl, Or.inr rfl, Or.inr rfl, Or.inl rfl, trivial⟩ (ihlp26_14 (i5) (1) (i7) ((f41 + 1)) (p10) (f97) ((f96 + 1)) (zPt f13 ((f96).toNat) r40) m104 hIm104 hFm104  km104_69_6 km104_69_7 km104_69_9 km104_69_11 fm104_74 (by omega) (by omega) (by omega) (by omega) (by omega) (by omega) (by omega) (by omega) (by omega) (by omega) (by omega) (by omega) (by omega) (by omega) (by omega) (by omega) (by omega) (by omega) (by omega))
                  · intro h105
                    refine zw_7 zr_161_358 rfl ?_
                    refine zw_46i zr_161_359 ef96 rfl rfl rfl ?_
                    refine zw_40_5 zr_161_362 ?_ ?_
                    · intro h106
                      refine zw_7 zr_161_416 rfl ?_
                      refine zw_43 zr_161_417 rfl ?_
                      refine zw_46i zr_161_418 km95_69_6 rfl rfl rfl ?_
                      refine zw_push zr_161_421 ?_
                      refine zw_16 zr_161_422 (by omega) ?_
                      refine zw_47 (c := 69) zr_161_423 rfl ⟨rfl, by decide, rfl⟩ ?_
                      intro m107 em107
                      have hIm107 : zInv m107 := by rw [em107]; exact hIm95.bd (r := 69) (k := 6) (lo := 0) (hi := 50) rfl (by omega) (by decide) (by decide) (by decide)
                      have hFm107 : zFr W_161 m0 m107 := by rw [em107]; exact hFm95.up rfl
                      have km107_69_7 : m107 69 7 = p10 := by rw [em107, zUp_ne (by omega)]; exact km95_69_7
                      have km107_69_11 : m107 69 11 = f96 := by rw [em107, zUp_ne (by omega)]; exact ef96
                      have km107_69_9 : m107 69 9 = f97 := by rw [em107, zUp_ne (by omega)]; exact ef97
                      have km107_69_6 : m107 69 6 = (f41 + 1) := by rw [em107]; exact zUp_eq _ _ _ _
                      have fm107_74 : m107 74 = f13 := by rw [em107, zUp_fn (by decide)]; exact fm95_74
                      clear em107
                      refine zw_7 zr_161_426 rfl ?_
                      refine zw_46r (s := 74) zr_161_427 rfl rfl rfl rfl ?_
                      refine zw_7 zr_161_430 rfl ?_
                      refine zw_46i zr_161_431 km107_69_11 rfl rfl rfl ?_
                      refine zw_4 zr_161_434 rfl ?_
                      refine zw_49 (c := 74) (len := 128) zr_161_436 rfl rfl (by omega) (by omega) ?_
                      intro m108 em108
                      have hIm108 : zInv m108 := by rw [em108]; exact iu_74 hIm107 (by omega)
                      have hFm108 : zFr W_161 m0 m108 := by rw [em108]; exact hFm107.any rfl
                      have km108_69_7 : m108 69 7 = p10 := by rw [em108, zUp_ne (by omega)]; exact km107_69_7
                      have km108_69_11 : m108 69 11 = f96 := by rw [em108, zUp_ne (by omega)]; exact km107_69_11
                      have km108_69_9 : m108 69 9 = f97 := by rw [em108, zUp_ne (by omega)]; exact km107_69_9
                      have km108_69_6 : m108 69 6 = (f41 + 1) := by rw [em108, zUp_ne (by omega)]; exact km107_69_6
                      have km108_74_0 : m108 74 0 = r40 := by rw [em108, show (f96 : Int).toNat = 0 by omega]; exact zUp_eq _ _ _ _
                      have fm108_74 : m108 74 = zPt f13 ((f96).toNat) r40 := by rw [em108]; exact (zUp_ff (m := m107)).trans (congrArg (fun q => zPt q ((f96).toNat) r40) fm107_74)
                      clear em108
                      have z109 := zcp_s f13 (f96).toNat (f96 + 1).toNat (r40) (by omega) (by omega)
                      refine zw_7 zr_161_437 rfl ?_
                      refine zw_43 zr_161_438 rfl ?_
                      refine zw_46i zr_161_439 km108_69_11 rfl rfl rfl ?_
                      refine zw_push zr_161_442 ?_
                      refine zw_16 zr_161_443 (by omega) ?_
                      refine zw_47 (c := 69) zr_161_444 rfl ⟨rfl, by decide, rfl⟩ ?_
                      intro m110 em110
                      have hIm110 : zInv m110 := by rw [em110]; exact hIm108.bd (r := 69) (k := 11) (lo := 0) (hi := 128) rfl (by omega) (by decide) (by decide) (by decide)
                      have hFm110 : zFr W_161 m0 m110 := by rw [em110]; exact hFm108.up rfl
                      have km110_69_7 : m110 69 7 = p10 := by rw [em110, zUp_ne (by omega)]; exact km108_69_7
                      have km110_69_9 : m110 69 9 = f97 := by rw [em110, zUp_ne (by omega)]; exact km108_69_9
                      have km110_69_6 : m110 69 6 = (f41 + 1) := by rw [em110, zUp_ne (by omega)]; exact km108_69_6
                      have km110_74_0 : m110 74 0 = r40 := by rw [em110, zUp_ne (by omega)]; exact km108_74_0
                      have km110_69_11 : m110 69 11 = (f96 + 1) := by rw [em110]; exact zUp_eq _ _ _ _
                      have fm110_74 : m110 74 = zPt f13 ((f96).toNat) r40 := by rw [em110, zUp_fn (by decide)]; exact fm108_74
                      clear em110
                      refine zw_push zr_161_447 ?_
                      refine zw_9 (L' := [(2, 69), (0, i5), (0, 1), (0, i7), (0, r40)]) zr_161_448 (Nat.le_of_ble_eq_true rfl) rfl ?_
                      refine zw_42 zr_161_449 ?_
                      refine zw_42 zr_161_485 ?_
                      exact zw_less (L := [(2, 69), (0, i5), (0, 1), (0, i7), (9, 0)]) ⟨Or.inr rfl, Or.inr rfl, Or.inr rfl, Or.inr rfl, Or.inl rfl, trivial⟩ (ihlp26_14 (i5) (1) (i7) ((f41 + 1)) (p10) (f97) ((f96 + 1)) (zPt f13 ((f96).toNat) r40) m110 hIm110 hFm110  km110_69_6 km110_69_7 km110_69_9 km110_69_11 fm110_74 (by omega) (by omega) (by omega) (by omega) (by omega) (by omega) (by omega) (by omega) (by omega) (by omega) (by omega) (by omega) (by omega) (by omega) (by omega) (by omega) (by omega) (by omega) (by omega))
                    · intro h111
                      refine zw_7 zr_161_365 rfl ?_
                      refine zw_46r (s := 74) zr_161_366 rfl rfl rfl rfl ?_
                      refine zw_7 zr_161_369 rfl ?_
                      refine zw_46i zr_161_370 ef96 rfl rfl rfl ?_
                      refine zw_push zr_161_373 ?_
                      refine zw_17 zr_161_374 (by omega) ?_
                      refine zw_48 (c := 74) (len := 128) zr_161_375 rfl rfl (by omega) (by omega) ?_
                      intro x112 ex112
                      have bx112 := ib_74 hIm95 (k := ((f96 - 1)).toNat) (by omega)
                      rw [← ex112] at bx112
                      refine zw_push zr_161_376 ?_
                      refine zw_41_3 zr_161_379 ?_ ?_
                      · intro h113
                        refine zw_7 zr_161_416 rfl ?_
                        refine zw_43 zr_161_417 rfl ?_
                        refine zw_46i zr_161_418 km95_69_6 rfl rfl rfl ?_
                        refine zw_push zr_161_421 ?_
                        refine zw_16 zr_161_422 (by omega) ?_
                        refine zw_47 (c := 69) zr_161_423 rfl ⟨rfl, by decide, rfl⟩ ?_
                        intro m114 em114
                        have hIm114 : zInv m114 := by rw [em114]; exact hIm95.bd (r := 69) (k := 6) (lo := 0) (hi := 50) rfl (by omega) (by decide) (by decide) (by decide)
                        have hFm114 : zFr W_161 m0 m114 := by rw [em114]; exact hFm95.up rfl
                        have km114_69_7 : m114 69 7 = p10 := by rw [em114, zUp_ne (by omega)]; exact km95_69_7
                        have km114_69_11 : m114 69 11 = f96 := by rw [em114, zUp_ne (by omega)]; exact ef96
                        have km114_69_9 : m114 69 9 = f97 := by rw [em114, zUp_ne (by omega)]; exact ef97
                        have km114_69_6 : m114 69 6 = (f41 + 1) := by rw [em114]; exact zUp_eq _ _ _ _
                        have fm114_74 : m114 74 = f13 := by rw [em114, zUp_fn (by decide)]; exact fm95_74
                        clear em114
                        refine zw_7 zr_161_426 rfl ?_
                        refine zw_46r (s := 74) zr_161_427 rfl rfl rfl rfl ?_
                        refine zw_7 zr_161_430 rfl ?_
                        refine zw_46i zr_161_431 km114_69_11 rfl rfl rfl ?_
                        refine zw_4 zr_161_434 rfl ?_
                        refine zw_49 (c := 74) (len := 128) zr_161_436 rfl rfl (by omega) (by omega) ?_
                        intro m115 em115
                        have hIm115 : zInv m115 := by rw [em115]; exact iu_74 hIm114 (by omega)
                        have hFm115 : zFr W_161 m0 m115 := by rw [em115]; exact hFm114.any rfl
                        have km115_69_7 : m115 69 7 = p10 := by rw [em115, zUp_ne (by omega)]; exact km114_69_7
                        have km115_69_11 : m115 69 11 = f96 := by rw [em115, zUp_ne (by omega)]; exact km114_69_11
                        have km115_69_9 : m115 69 9 = f97 := by rw [em115, zUp_ne (by omega)]; exact km114_69_9
                        have km115_69_6 : m115 69 6 = (f41 + 1) := by rw [em115, zUp_ne (by omega)]; exact km114_69_6
                        have fm115_74 : m115 74 = zPt f13 ((f96).toNat) r40 := by rw [em115]; exact (zUp_ff (m := m114)).trans (congrArg (fun q => zPt q ((f96).toNat) r40) fm114_74)
                        clear em115
                        have z116 := zcp_s f13 (f96).toNat (f96 + 1).toNat (r40) (by omega) (by omega)
                        refine zw_7 zr_161_437 rfl ?_
                        refine zw_43 zr_161_438 rfl ?_
                        refine zw_46i zr_161_439 km115_69_11 rfl rfl rfl ?_
                        refine zw_push zr_161_442 ?_
                        refine zw_16 zr_161_443 (by omega) ?_
                        refine zw_47 (c := 69) zr_161_444 rfl ⟨rfl, by decide, rfl⟩ ?_
                        intro m117 em117
                        have hIm117 : zInv m117 := by rw [em117]; exact hIm115.bd (r := 69) (k := 11) (lo := 0) (hi := 128) rfl (by omega) (by decide) (by decide) (by decide)
                        have hFm117 : zFr W_161 m0 m117 := by rw [em117]; exact hFm115.up rfl
                        have km117_69_7 : m117 69 7 = p10 := by rw [em117, zUp_ne (by omega)]; exact km115_69_7
                        have km117_69_9 : m117 69 9 = f97 := by rw [em117, zUp_ne (by omega)]; exact km115_69_9
                        have km117_69_6 : m117 69 6 = (f41 + 1) := by rw [em117, zUp_ne (by omega)]; exact km115_69_6
                        have km117_69_11 : m117 69 11 = (f96 + 1) := by rw [em117]; exact zUp_eq _ _ _ _
                        have fm117_74 : m117 74 = zPt f13 ((f96).toNat) r40 := by rw [em117, zUp_fn (by decide)]; exact fm115_74
                        clear em117
                        refine zw_push zr_161_447 ?_
                        refine zw_9 (L' := [(2, 69), (0, i5), (0, 1), (0, i7), (0, r40)]) zr_161_448 (Nat.le_of_ble_eq_true rfl) rfl ?_
                        refine zw_42 zr_161_449 ?_
                        refine zw_42 zr_161_485 ?_
                        exact zw_less (L := [(2, 69), (0, i5), (0, 1), (0, i7), (9, 0)]) ⟨Or.inr rfl, Or.inr rfl, Or.inr rfl, Or.inr rfl, Or.inl rfl, trivial⟩ (ihlp26_14 (i5) (1) (i7) ((f41 + 1)) (p10) (f97) ((f96 + 1)) (zPt f13 ((f96).toNat) r40) m117 hIm117 hFm117  km117_69_6 km117_69_7 km117_69_9 km117_69_11 fm117_74 (by omega) (by omega) (by omega) (by omega) (by omega) (by omega) (by omega) (by omega) (by omega) (by omega) (by omega) (by omega) (by omega) (by omega) (by omega) (by omega) (by omega) (by omega) (by omega))
                      · intro h118
                        refine zw_7 zr_161_382 rfl ?_
                        refine zw_46r (s := 74) zr_161_383 rfl rfl rfl rfl ?_
                        refine zw_7 zr_161_386 rfl ?_
                        refine zw_46i zr_161_387 ef96 rfl rfl rfl ?_
                        refine zw_push zr_161_390 ?_
                        refine zw_17 zr_161_391 (by omega) ?_
                        refine zw_48k (c := 74) (len := 128) zr_161_392 rfl rfl (by omega) (by omega) rfl ex112.symm ?_
                        refine zw_C zr_161_393 (Or.inr rfl) zm_155 rfl rfl ⟨Nat.le_of_ble_eq_true rfl, Nat.le_of_ble_eq_true rfl, Nat.le_of_ble_eq_true rfl, rfl, by decide⟩ (by omega) (th_155 (d := d - 1) (by omega) hIm95 (a0 := x112)      (by omega) ) ?_
                        rintro _ _ ⟨r119, rfl, hr119a, hr119b, rfl, po0_r119⟩
                        show zW E (d) 161 396 [(2, 69), (0, i5), (0, i6), (0, i7), (0, r40)] [(0, r119)] m95 Q
                        clear po0_r119
                        refine zw_push zr_161_396 ?_
                        refine zw_41_4 zr_161_397 ?_ ?_
                        · intro h120
                          refine zw_7 zr_161_416 rfl ?_
                          refine zw_43 zr_161_417 rfl ?_
                          refine zw_46i zr_161_418 km95_69_6 rfl rfl rfl ?_
                          refine zw_push zr_161_421 ?_
                          refine zw_16 zr_161_422 (by omega) ?_
                          refine zw_47 (c := 69) zr_161_423 rfl ⟨rfl, by decide, rfl⟩ ?_
                          intro m121 em121
                          have hIm121 : zInv m121 := by rw [em121]; exact hIm95.bd (r := 69) (k := 6) (lo := 0) (hi := 50) rfl (by omega) (by decide) (by decide) (by decide)
                          have hFm121 : zFr W_161 m0 m121 := by rw [em121]; exact hFm95.up rfl
                          have km121_69_7 : m121 69 7 = p10 := by rw [em121, zUp_ne (by omega)]; exact km95_69_7
                          have km121_69_11 : m121 69 11 = f96 := by rw [em121, zUp_ne (by omega)]; exact ef96
                          have km121_69_9 : m121 69 9 = f97 := by rw [em121, zUp_ne (by omega)]; exact ef97
                          have km121_69_6 : m121 69 6 = (f41 + 1) := by rw [em121]; exact zUp_eq _ _ _ _
                          have fm121_74 : m121 74 = f13 := by rw [em121, zUp_fn (by decide)]; exact fm95_74
                          clear em121
                          refine zw_7 zr_161_426 rfl ?_
                          refine zw_46r (s := 74) zr_161_427 rfl rfl rfl rfl ?_
                          refine zw_7 zr_161_430 rfl ?_
                          refine zw_46i zr_161_431 km121_69_11 rfl rfl rfl ?_
                          refine zw_4 zr_161_434 rfl ?_
                          refine zw_49 (c := 74) (len := 128) zr_161_436 rfl rfl (by omega) (by omega) ?_
                          intro m122 em122
                          have hIm122 : zInv m122 := by rw [em122]; exact iu_74 hIm121 (by omega)
                          have hFm122 : zFr W_161 m0 m122 := by rw [em122]; exact hFm121.any rfl
                          have km122_69_7 : m122 69 7 = p10 := by rw [em122, zUp_ne (by omega)]; exact km121_69_7
                          have km122_69_11 : m122 69 11 = f96 := by rw [em122, zUp_ne (by omega)]; exact km121_69_11
                          have km122_69_9 : m122 69 9 = f97 := by rw [em122, zUp_ne (by omega)]; exact km121_69_9
                          have km122_69_6 : m122 69 6 = (f41 + 1) := by rw [em122, zUp_ne (by omega)]; exact km121_69_6
                          have fm122_74 : m122 74 = zPt f13 ((f96).toNat) r40 := by rw [em122]; exact (zUp_ff (m := m121)).trans (congrArg (fun q => zPt q ((f96).toNat) r40) fm121_74)
                          clear em122
                          have z123 := zcp_s f13 (f96).toNat (f96 + 1).toNat (r40) (by omega) (by omega)
                          refine zw_7 zr_161_437 rfl ?_
                          refine zw_43 zr_161_438 rfl ?_
                          refine zw_46i zr_161_439 km122_69_11 rfl rfl rfl ?_
                          refine zw_push zr_161_442 ?_
                          refine zw_16 zr_161_443 (by omega) ?_
                          refine zw_47 (c := 69) zr_161_444 rfl ⟨rfl, by decide, rfl⟩ ?_
                          intro m124 em124
                          have hIm124 : zInv m124 := by rw [em124]; exact hIm122.bd (r := 69) (k := 11) (lo := 0) (hi := 128) rfl (by omega) (by decide) (by decide) (by decide)
                          have hFm124 : zFr W_161 m0 m124 := by rw [em124]; exact hFm122.up rfl
                          have km124_69_7 : m124 69 7 = p10 := by rw [em124, zUp_ne (by omega)]; exact km122_69_7
                          have km124_69_9 : m124 69 9 = f97 := by rw [em124, zUp_ne (by omega)]; exact km122_69_9
                          have km124_69_6 : m124 69 6 = (f41 + 1) := by rw [em124, zUp_ne (by omega)]; exact km122_69_6
                          have km124_69_11 : m124 69 11 = (f96 + 1) := by rw [em124]; exact zUp_eq _ _ _ _
                          have fm124_74 : m124 74 = zPt f13 ((f96).toNat) r40 := by rw [em124, zUp_fn (by decide)]; exact fm122_74
                          clear em124
                          refine zw_push zr_161_447 ?_
                          refine zw_9 (L' := [(2, 69), (0, i5), (0, 1), (0, i7), (0, r40)]) zr_161_448 (Nat.le_of_ble_eq_true rfl) rfl ?_
                          refine zw_42 zr_161_449 ?_
                          refine zw_42 zr_161_485 ?_
                          exact zw_less (L := [(2, 69), (0, i5), (0, 1), (0, i7), (9, 0)]) ⟨Or.inr rfl, Or.inr rfl, Or.inr rfl, Or.inr rfl, Or.inl rfl, trivial⟩ (ihlp26_14 (i5) (1) (i7) ((f41 + 1)) (p10) (f97) ((f96 + 1)) (zPt f13 ((f96).toNat) r40) m124 hIm124 hFm124  km124_69_6 km124_69_7 km124_69_9 km124_69_11 fm124_74 (by omega) (by omega) (by omega) (by omega) (by omega) (by omega) (by omega) (by omega) (by omega) (by omega) (by omega) (by omega) (by omega) (by omega) (by omega) (by omega) (by omega) (by omega) (by omega))
                        · intro h125
                          refine zw_7 zr_161_400 rfl ?_
                          refine zw_push zr_161_401 ?_
                          refine zw_7 zr_161_403 rfl ?_
                          refine zw_46i zr_161_404 km95_69_6 rfl rfl rfl ?_
                          refine zw_18 zr_161_407 (by omega) ?_
                          refine zw_push zr_161_408 ?_
                          refine zw_16 zr_161_409 (by omega) ?_
                          refine zw_47 (c := 69) zr_161_410 rfl ⟨rfl, by decide, rfl⟩ ?_
                          intro m126 em126
                          have hIm126 : zInv m126 := by rw [em126]; exact hIm95.any (by omega) rfl (by decide) (by decide)
                          have hFm126 : zFr W_161 m0 m126 := by rw [em126]; exact hFm95.up rfl
                          have km126_69_6 : m126 69 6 = f41 := by rw [em126, zUp_ne (by omega)]; exact km95_69_6
                          have km126_69_11 : m126 69 11 = f96 := by rw [em126, zUp_ne (by omega)]; exact ef96
                          have km126_69_9 : m126 69 9 = f97 := by rw [em126, zUp_ne (by omega)]; exact ef97
                          have km126_69_7 : m126 69 7 = ((10 * f41) + 1) := by rw [em126]; exact zUp_eq _ _ _ _
                          have fm126_74 : m126 74 = f13 := by rw [em126, zUp_fn (by decide)]; exact fm95_74
                          clear em126
                          refine zw_42 zr_161_413 ?_
                          refine zw_42 zr_161_485 ?_
                          exact zw_less (L := [(2, 69), (0, i5), (0, i6), (0, i7), (9, 0)]) ⟨Or.inr rfl, Or.inr rfl, Or.inr rfl, Or.inr rfl, Or.inl rfl, trivial⟩ (ihlp26_14 (i5) (i6) (i7) (f41) (((10 * f41) + 1)) (f97) (f96) (f13) m126 hIm126 hFm126  km126_69_6 km126_69_7 km126_69_9 km126_69_11 fm126_74 (by omega) (by omega) (by omega) (by omega) (by omega) (by omega) (by omega) (by omega) (by omega) (by omega) (by omega) (by omega) (by omega) (by omega) (by omega) (by omega) (by omega) (by omega) (by omega))
            · intro h127
              refine zw_3 zr_161_261 rfl ?_
              refine zw_40_5 zr_161_262 ?_ ?_
              · intro h128
                refine zw_4 zr_161_319 rfl ?_
                refine zw_C zr_161_321 (Or.inr rfl) zm_155 rfl rfl ⟨Nat.le_of_ble_eq_true rfl, Nat.le_of_ble_eq_true rfl, Nat.le_of_ble_eq_true rfl, rfl, by decide⟩ (by omega) (th_155 (d := d - 1) (by omega) hIm39 (a0 := r40)      (by omega) ) ?_
                rintro _ _ ⟨r129, rfl, hr129a, hr129b, rfl, po0_r129⟩
                show zW E (d) 161 324 [(2, 69), (0, i5), (0, i6), (0, i7), (0, r40)] [(0, r129)] m39 Q
                refine zw_40_5 zr_161_324 ?_ ?_
                · intro h130
                  refine zw_4 zr_161_452 rfl ?_
                  refine zw_push zr_161_454 ?_
                  refine zw_41_4 zr_161_455 ?_ ?_
                  · intro h131
                    refine zw_7 zr_161_472 rfl ?_
                    refine zw_push zr_161_473 ?_
                    refine zw_7 zr_161_475 rfl ?_
                    refine zw_46i zr_161_476 ef41 rfl rfl rfl ?_
                    refine zw_18 zr_161_479 (by omega) ?_
                    refine zw_push zr_161_480 ?_
                    refine zw_16 zr_161_481 (by omega) ?_
                    refine zw_47 (c := 69) zr_161_482 rfl ⟨rfl, by decide, rfl⟩ ?_
                    intro m132 em132
                    have hIm132 : zInv m132 := by rw [em132]; exact hIm39.any (by omega) rfl (by decide) (by decide)
                    have hFm132 : zFr W_161 m0 m132 := by rw [em132]; exact hFm39.up rfl
                    have km132_69_9 : m132 69 9 = p11 := by rw [em132, zUp_ne (by omega)]; exact km39_69_9
                    have km132_69_11 : m132 69 11 = p12 := by rw [em132, zUp_ne (by omega)]; exact km39_69_11
                    have km132_69_6 : m132 69 6 = f41 := by rw [em132, zUp_ne (by omega)]; exact ef41
                    have km132_69_7 : m132 69 7 = ((10 * f41) + 1) := by rw [em132]; exact zUp_eq _ _ _ _
                    have fm132_74 : m132 74 = f13 := by rw [em132, zUp_fn (by decide)]; exact fm39_74
                    clear em132
                    refine zw_42 zr_161_485 ?_
                    exact zw_less (L := [(2, 69), (0, i5), (0, i6), (0, i7), (9, 0)]) ⟨Or.inr rfl, Or.inr rfl, Or.inr rfl, Or.inr rfl, Or.inl rfl, trivial⟩ (ihlp26_14 (i5) (i6) (i7) (f41) (((10 * f41) + 1)) (p11) (p12) (f13) m132 hIm132 hFm132  km132_69_6 km132_69_7 km132_69_9 km132_69_11 fm132_74 (by omega) (by omega) (by omega) (by omega) (by omega) (by omega) (by omega) (by omega) (by omega) (by omega) (by omega) (by omega) (by omega) (by omega) (by omega) (by omega) (by omega) (by omega) (by omega))
                  · intro h133; omega
                · intro h134
                  have z135 : 33 ≤ r40 := by omega
                  have z136 : f41 ≤ 49 := by omega
                  refine zw_7 zr_161_327 rfl ?_
                  refine zw_4 zr_161_328 rfl ?_
                  refine zw_C zr_161_330 (Or.inr rfl) zm_155 rfl rfl ⟨Nat.le_of_ble_eq_true rfl, Nat.le_of_ble_eq_true rfl, Nat.le_of_ble_eq_true rfl, rfl, by decide⟩ (by omega) (th_155 (d := d - 1) (by omega) hIm39 (a0 := r40)      (by omega) ) ?_
                  rintro _ _ ⟨r137, rfl, hr137a, hr137b, rfl, po0_r137⟩
                  show zW E (d) 161 333 [(2, 69), (0, i5), (0, i6), (0, i7), (0, r40)] [(0, r137), (2, 69)] m39 Q
                  clear po0_r137
                  refine zw_push zr_161_333 ?_
                  refine zw_41_4 zr_161_334 ?_ ?_
                  · intro h138
                    refine zw_4 zr_161_341 rfl ?_
                    refine zw_C zr_161_343 (Or.inr rfl) zm_155 rfl rfl ⟨Nat.le_of_ble_eq_true rfl, Nat.le_of_ble_eq_true rfl, Nat.le_of_ble_eq_true rfl, rfl, by decide⟩ (by omega) (th_155 (d := d - 1) (by omega) hIm39 (a0 := r40)      (by omega) ) ?_
                    rintro _ _ ⟨r139, rfl, hr139a, hr139b, rfl, po0_r139⟩
                    show zW E (d) 161 346 [(2, 69), (0, i5), (0, i6), (0, i7), (0, r40)] [(0, r139), (2, 69)] m39 Q
                    clear po0_r139
                    refine zw_C zr_161_346 (Or.inl rfl) zm_157 rfl rfl ⟨Nat.le_of_ble_eq_true rfl, Nat.le_of_ble_eq_true rfl, Nat.le_of_ble_eq_true rfl, rfl, by decide⟩ (by omega) (th_157 (d := d - 1) (by omega) hIm39 (a0 := r139) (g0 := p12) (g1 := p11)  (F74 := f13) km39_69_11 km39_69_9 fm39_74 (by omega) (by omega)) ?_
                    rintro _ m140 ⟨rfl, hIm140, gm140, po0_m140, po1_m140, po2_m140, po3_m140⟩
                    have hFm140 : zFr W_161 m0 m140 := hFm39.trans gm140 rfl
                    have km140_69_7 : m140 69 7 = p10 := (gm140 69 7 rfl).trans km39_69_7
                    have km140_69_6 : m140 69 6 = f41 := (gm140 69 6 rfl).trans ef41
                    have fm140_74 : m140 74 = f13 := (funext fun k => gm140 74 k rfl).trans fm39_74
                    obtain ⟨f141, ef141⟩ : ∃ v, m140 69 11 = v := ⟨_, rfl⟩
                    have bf141 := ib_69_11 hIm140
                    rw [ef141] at bf141
                    rw [ef141] at po0_m140
                    rw [ef141] at po2_m140
                    rw [ef141] at po3_m140
                    obtain ⟨f142, ef142⟩ : ∃ v, m140 69 9 = v := ⟨_, rfl⟩
                    have bf142 := ib_69_9 hIm140
                    rw [ef142] at bf142
                    rw [ef142] at po1_m140
                    rw [ef142] at po2_m140
                    show zW E (d) 161 349 [(2, 69), (0, i5), (0, i6), (0, i7), (0, r40)] [] m140 Q
                    have z143 := cB_nn f13 (f141).toNat
                    refine zw_4 zr_161_349 rfl ?_
                    refine zw_C zr_161_351 (Or.inr rfl) zm_155 rfl rfl ⟨Nat.le_of_ble_eq_true rfl, Nat.le_of_ble_eq_true rfl, Nat.le_of_ble_eq_true rfl, rfl, by decide⟩ (by omega) (th_155 (d := d - 1) (by omega) hIm140 (a0 := r40)      (by omega) ) ?_
                    rintro _ _ ⟨r144, rfl, hr144a, hr144b, rfl, po0_r144⟩
                    show zW E (d) 161 354 [(2, 69), (0, i5), (0, i6), (0, i7), (0, r40)] [(0, r144)] m140 Q
                    clear po0_r144
                    refine zw_push zr_161_354 ?_
                    refine zw_41_4 zr_161_355 ?_ ?_
                    · intro h145
                      refine zw_7 zr_161_416 rfl ?_
                      refine zw_43 zr_161_417 rfl ?_
                      refine zw_46i zr_161_418 km140_69_6 rfl rfl rfl ?_
                      refine zw_push zr_161_421 ?_
                      refine zw_16 zr_161_422 (by omega) ?_
                      refine zw_47 (c := 69) zr_161_423 rfl ⟨rfl, by decide, rfl⟩ ?_
                      intro m146 em146
                      have hIm146 : zInv m146 := by rw [em146]; exact hIm140.bd (r := 69) (k := 6) (lo := 0) (hi := 50) rfl (by omega) (by decide) (by decide) (by decide)
                      have hFm146 : zFr W_161 m0 m146 := by rw [em146]; exact hFm140.up rfl
                      have km146_69_7 : m146 69 7 = p10 := by rw [em146, zUp_ne (by omega)]; exact km140_69_7
                      have km146_69_11 : m146 69 11 = f141 := by rw [em146, zUp_ne (by omega)]; exact ef141
                      have km146_69_9 : m146 69 9 = f142 := by rw [em146, zUp_ne (by omega)]; exact ef142
                      have km146_69_6 : m146 69 6 = (f41 + 1) := by rw [em146]; exact zUp_eq _ _ _ _
                      have fm146_74 : m146 74 = f13 := by rw [em146, zUp_fn (by decide)]; exact fm140_74
                      clear em146
                      refine zw_7 zr_161_426 rfl ?_
                      refine zw_46r (s := 74) zr_161_427 rfl rfl rfl rfl ?_
                      refine zw_7 zr_161_430 rfl ?_
                      refine zw_46i zr_161_431 km146_69_11 rfl rfl rfl ?_
                      refine zw_4 zr_161_434 rfl ?_
                      refine zw_49 (c := 74) (len := 128) zr_161_436 rfl rfl (by omega) (by omega) ?_
                      intro m147 em147
                      have hIm147 : zInv m147 := by rw [em147]; exact iu_74 hIm146 (by omega)
                      have hFm147 : zFr W_161 m0 m147 := by rw [em147]; exact hFm146.any rfl
                      have km147_69_7 : m147 69 7 = p10 := by rw [em147, zUp_ne (by omega)]; exact km146_69_7
                      have km147_69_11 : m147 69 11 = f141 := by rw [em147, zUp_ne (by omega)]; exact km146_69_11
                      have km147_69_9 : m147 69 9 = f142 := by rw [em147, zUp_ne (by omega)]; exact km146_69_9
                      have km147_69_6 : m147 69 6 = (f41 + 1) := by rw [em147, zUp_ne (by omega)]; exact km146_69_6
                      have fm147_74 : m147 74 = zPt f13 ((f141).toNat) r40 := by rw [em147]; exact (zUp_ff (m := m146)).trans (congrArg (fun q => zPt q ((f141).toNat) r40) fm146_74)
                      clear em147
                      have z148 := zcp_s f13 (f141).toNat (f141 + 1).toNat (r40) (by omega) (by omega)
                      refine zw_7 zr_161_437 rfl ?_
                      refine zw_43 zr_161_438 rfl ?_
                      refine zw_46i zr_161_439 km147_69_11 rfl rfl rfl ?_
                      refine zw_push zr_161_442 ?_
                      refine zw_16 zr_161_443 (by omega) ?_
                      refine zw_47 (c := 69) zr_161_444 rfl ⟨rfl, by decide, rfl⟩ ?_
                      intro m149 em149
                      have hIm149 : zInv m149 := by rw [em149]; exact hIm147.bd (r := 69) (k := 11) (lo := 0) (hi := 128) rfl (by omega) (by decide) (by decide) (by decide)
                      have hFm149 : zFr W_161 m0 m149 := by rw [em149]; exact hFm147.up rfl
                      have km149_69_7 : m149 69 7 = p10 := by rw [em149, zUp_ne (by omega)]; exact km147_69_7
                      have km149_69_9 : m149 69 9 = f142 := by rw [em149, zUp_ne (by omega)]; exact km147_69_9
                      have km149_69_6 : m149 69 6 = (f41 + 1) := by rw [em149, zUp_ne (by omega)]; exact km147_69_6
                      have km149_69_11 : m149 69 11 = (f141 + 1) := by rw [em149]; exact zUp_eq _ _ _ _
                      have fm149_74 : m149 74 = zPt f13 ((f141).toNat) r40 := by rw [em149, zUp_fn (by decide)]; exact fm147_74
                      clear em149
                      refine zw_push zr_161_447 ?_
                      refine zw_9 (L' := [(2, 69), (0, i5), (0, 1), (0, i7), (0, r40)]) zr_161_448 (Nat.le_of_ble_eq_true rfl) rfl ?_
                      refine zw_42 zr_161_449 ?_
                      refine zw_42 zr_161_485 ?_
                      exact zw_less (L := [(2, 69), (0, i5), (0, 1), (0, i7), (9, 0)]) ⟨Or.inr rfl, Or.inr rfl, Or.inr rfl, Or.inr rfl, Or.inl rfl, trivial⟩ (ihlp26_14 (i5) (1) (i7) ((f41 + 1)) (p10) (f142) ((f141 + 1)) (zPt f13 ((f141).toNat) r40) m149 hIm149 hFm149  km149_69_6 km149_69_7 km149_69_9 km149_69_11 fm149_74 (by omega) (by omega) (by omega) (by omega) (by omega) (by omega) (by omega) (by omega) (by omega) (by omega) (by omega) (by omega) (by omega) (by omega) (by omega) (by omega) (by omega) (by omega) (by omega))
                    · intro h150
                      refine zw_7 zr_161_358 rfl ?_
                      refine zw_46i zr_161_359 ef141 rfl rfl rfl ?_
                      refine zw_40_5 zr_161_362 ?_ ?_
                      · intro h151
                        refine zw_7 zr_161_416 rfl ?_
                        refine zw_43 zr_161_417 rfl ?_
                        refine zw_46i zr_161_418 km140_69_6 rfl rfl rfl ?_
                        refine zw_push zr_161_421 ?_
                        refine zw_16 zr_161_422 (by omega) ?_
                        refine zw_47 (c := 69) zr_161_423 rfl ⟨rfl, by decide, rfl⟩ ?_
                        intro m152 em152
                        have hIm152 : zInv m152 := by rw [em152]; exact hIm140.bd (r := 69) (k := 6) (lo := 0) (hi := 50) rfl (by omega) (by decide) (by decide) (by decide)
                        have hFm152 : zFr W_161 m0 m152 := by rw [em152]; exact hFm140.up rfl
                        have km152_69_7 : m152 69 7 = p10 := by rw [em152, zUp_ne (by omega)]; exact km140_69_7
                        have km152_69_11 : m152 69 11 = f141 := by rw [em152, zUp_ne (by omega)]; exact ef141
                        have km152_69_9 : m152 69 9 = f142 := by rw [em152, zUp_ne (by omega)]; exact ef142
                        have km152_69_6 : m152 69 6 = (f41 + 1) := by rw [em152]; exact zUp_eq _ _ _ _
                        have fm152_74 : m152 74 = f13 := by rw [em152, zUp_fn (by decide)]; exact fm140_74
                        clear em152
                        refine zw_7 zr_161_426 rfl ?_
                        refine zw_46r (s := 74) zr_161_427 rfl rfl rfl rfl ?_
                        refine zw_7 zr_161_430 rfl ?_
                        refine zw_46i zr_161_431 km152_69_11 rfl rfl rfl ?_
                        refine zw_4 zr_161_434 rfl ?_
                        refine zw_49 (c := 74) (len := 128) zr_161_436 rfl rfl (by omega) (by omega) ?_
                        intro m153 em153
                        have hIm153 : zInv m153 := by rw [em153]; exact iu_74 hIm152 (by omega)
                        have hFm153 : zFr W_161 m0 m153 := by rw [em153]; exact hFm152.any rfl
                        have km153_69_7 : m153 69 7 = p10 := by rw [em153, zUp_ne (by omega)]; exact km152_69_7
                        have km153_69_11 : m153 69 11 = f141 := by rw [em153, zUp_ne (by omega)]; exact km152_69_11
                        have km153_69_9 : m153 69 9 = f142 := by rw [em153, zUp_ne (by omega)]; exact km152_69_9
                        have km153_69_6 : m153 69 6 = (f41 + 1) := by rw [em153, zUp_ne (by omega)]; exact km152_69_6
                        have km153_74_0 : m153 74 0 = r40 := by rw [em153, show (f141 : Int).toNat = 0 by omega]; exact zUp_eq _ _ _ _
                        have fm153_74 : m153 74 = zPt f13 ((f141).toNat) r40 := by rw [em153]; exact (zUp_ff (m := m152)).trans (congrArg (fun q => zPt q ((f141).toNat) r40) fm152_74)
                        clear em153
                        have z154 := zcp_s f13 (f141).toNat (f141 + 1).toNat (r40) (by omega) (by omega)
                        refine zw_7 zr_161_437 rfl ?_
                        refine zw_43 zr_161_438 rfl ?_
                        refine zw_46i zr_161_439 km153_69_11 rfl rfl rfl ?_
                        refine zw_push zr_161_442 ?_
                        refine zw_16 zr_161_443 (by omega) ?_
                        refine zw_47 (c := 69) zr_161_444 rfl ⟨rfl, by decide, rfl⟩ ?_
                        intro m155 em155
                        have hIm155 : zInv m155 := by rw [em155]; exact hIm153.bd (r := 69) (k := 11) (lo := 0) (hi := 128) rfl (by omega) (by decide) (by decide) (by decide)
                        have hFm155 : zFr W_161 m0 m155 := by rw [em155]; exact hFm153.up rfl
                        have km155_69_7 : m155 69 7 = p10 := by rw [em155, zUp_ne (by omega)]; exact km153_69_7
                        have km155_69_9 : m155 69 9 = f142 := by rw [em155, zUp_ne (by omega)]; exact km153_69_9
                        have km155_69_6 : m155 69 6 = (f41 + 1) := by rw [em155, zUp_ne (by omega)]; exact km153_69_6
                        have km155_74_0 : m155 74 0 = r40 := by rw [em155, zUp_ne (by omega)]; exact km153_74_0
                        have km155_69_11 : m155 69 11 = (f141 + 1) := by rw [em155]; exact zUp_eq _ _ _ _
                        have fm155_74 : m155 74 = zPt f13 ((f141).toNat) r40 := by rw [em155, zUp_fn (by decide)]; exact fm153_74
                        clear em155
                        refine zw_push zr_161_447 ?_
                        refine zw_9 (L' := [(2, 69), (0, i5), (0, 1), (0, i7), (0, r40)]) zr_161_448 (Nat.le_of_ble_eq_true rfl) rfl ?_
                        refine zw_42 zr_161_449 ?_
                        refine zw_42 zr_161_485 ?_
                        exact zw_less (L := [(2, 69), (0, i5), (0, 1), (0, i7), (9, 0)]) ⟨Or.inr rfl, Or.inr rfl, Or.inr rfl, Or.inr rfl, Or.inl rfl, trivial⟩ (ihlp26_14 (i5) (1) (i7) ((f41 + 1)) (p10) (f142) ((f141 + 1)) (zPt f13 ((f141).toNat) r40) m155 hIm155 hFm155  km155_69_6 km155_69_7 km155_69_9 km155_69_11 fm155_74 (by omega) (by omega) (by omega) (by omega) (by omega) (by omega) (by omega) (by omega) (by omega) (by omega) (by omega) (by omega) (by omega) (by omega) (by omega) (by omega) (by omega) (by omega) (by omega))
                      · intro h156
                        refine zw_7 zr_161_365 rfl ?_
                        refine zw_46r (s := 74) zr_161_366 rfl rfl rfl rfl ?_
                        refine zw_7 zr_161_369 rfl ?_
                        refine zw_46i zr_161_370 ef141 rfl rfl rfl ?_
                        refine zw_push zr_161_373 ?_
                        refine zw_17 zr_161_374 (by omega) ?_
                        refine zw_48 (c := 74) (len := 128) zr_161_375 rfl rfl (by omega) (by omega) ?_
                        intro x157 ex157
                        have bx157 := ib_74 hIm140 (k := ((f141 - 1)).toNat) (by omega)
                        rw [← ex157] at bx157
                        refine zw_push zr_161_376 ?_
                        refine zw_41_3 zr_161_379 ?_ ?_
                        · intro h158
                          refine zw_7 zr_161_416 rfl ?_
                          refine zw_43 zr_161_417 rfl ?_
                          refine zw_46i zr_161_418 km140_69_6 rfl rfl rfl ?_
                          refine zw_push zr_161_421 ?_
                          refine zw_16 zr_161_422 (by omega) ?_
                          refine zw_47 (c := 69) zr_161_423 rfl ⟨rfl, by decide, rfl⟩ ?_
                          intro m159 em159
                          have hIm159 : zInv m159 := by rw [em159]; exact hIm140.bd (r := 69) (k := 6) (lo := 0) (hi := 50) rfl (by omega) (by decide) (by decide) (by decide)
                          have hFm159 : zFr W_161 m0 m159 := by rw [em159]; exact hFm140.up rfl
                          have km159_69_7 : m159 69 7 = p10 := by rw [em159, zUp_ne (by omega)]; exact km140_69_7
                          have km159_69_11 : m159 69 11 = f141 := by rw [em159, zUp_ne (by omega)]; exact ef141
                          have km159_69_9 : m159 69 9 = f142 := by rw [em159, zUp_ne (by omega)]; exact ef142
                          have km159_69_6 : m159 69 6 = (f41 + 1) := by rw [em159]; exact zUp_eq _ _ _ _
                          have fm159_74 : m159 74 = f13 := by rw [em159, zUp_fn (by decide)]; exact fm140_74
                          clear em159
                          refine zw_7 zr_161_426 rfl ?_
                          refine zw_46r (s := 74) zr_161_427 rfl rfl rfl rfl ?_
                          refine zw_7 zr_161_430 rfl ?_
                          refine zw_46i zr_161_431 km159_69_11 rfl rfl rfl ?_
                          refine zw_4 zr_161_434 rfl ?_
                          refine zw_49 (c := 74) (len := 128) zr_161_436 rfl rfl (by omega) (by omega) ?_
                          intro m160 em160
                          have hIm160 : zInv m160 := by rw [em160]; exact iu_74 hIm159 (by omega)
                          have hFm160 : zFr W_161 m0 m160 := by rw [em160]; exact hFm159.any rfl
                          have km160_69_7 : m160 69 7 = p10 := by rw [em160, zUp_ne (by omega)]; exact km159_69_7
                          have km160_69_11 : m160 69 11 = f141 := by rw [em160, zUp_ne (by omega)]; exact km159_69_11
                          have km160_69_9 : m160 69 9 = f142 := by rw [em160, zUp_ne (by omega)]; exact km159_69_9
                          have km160_69_6 : m160 69 6 = (f41 + 1) := by rw [em160, zUp_ne (by omega)]; exact km159_69_6
                          have fm160_74 : m160 74 = zPt f13 ((f141).toNat) r40 := by rw [em160]; exact (zUp_ff (m := m159)).trans (congrArg (fun q => zPt q ((f141).toNat) r40) fm159_74)
                          clear em160
                          have z161 := zcp_s f13 (f141).toNat (f141 + 1).toNat (r40) (by omega) (by omega)
                          refine zw_7 zr_161_437 rfl ?_
                          refine zw_43 zr_161_438 rfl ?_
                          refine zw_46i zr_161_439 km160_69_11 rfl rfl rfl ?_
                          refine zw_push zr_161_442 ?_
                          refine zw_16 zr_161_443 (by omega) ?_
                          refine zw_47 (c := 69) zr_161_444 rfl ⟨rfl, by decide, rfl⟩ ?_
                          intro m162 em162
                          have hIm162 : zInv m162 := by rw [em162]; exact hIm160.bd (r := 69) (k := 11) (lo := 0) (hi := 128) rfl (by omega) (by decide) (by decide) (by decide)
                          have hFm162 : zFr W_161 m0 m162 := by rw [em162]; exact hFm160.up rfl
                          have km162_69_7 : m162 69 7 = p10 := by rw [em162, zUp_ne (by omega)]; exact km160_69_7
                          have km162_69_9 : m162 69 9 = f142 := by rw [em162, zUp_ne (by omega)]; exact km160_69_9
                          have km162_69_6 : m162 69 6 = (f41 + 1) := by rw [em162, zUp_ne (by omega)]; exact km160_69_6
                          have km162_69_11 : m162 69 11 = (f141 + 1) := by rw [em162]; exact zUp_eq _ _ _ _
                          have fm162_74 : m162 74 = zPt f13 ((f141).toNat) r40 := by rw [em162, zUp_fn (by decide)]; exact fm160_74
                          clear em162
                          refine zw_push zr_161_447 ?_
                          refine zw_9 (L' := [(2, 69), (0, i5), (0, 1), (0, i7), (0, r40)]) zr_161_448 (Nat.le_of_ble_eq_true rfl) rfl ?_
                          refine zw_42 zr_161_449 ?_
                          refine zw_42 zr_161_485 ?_
                          exact zw_less (L := [(2, 69), (0, i5), (0, 1), (0, i7), (9, 0)]) ⟨Or.inr rfl, Or.inr rfl, Or.inr rfl, Or.inr rfl, Or.inl rfl, trivial⟩ (ihlp26_14 (i5) (1) (i7) ((f41 + 1)) (p10) (f142) ((f141 + 1)) (zPt f13 ((f141).toNat) r40) m162 hIm162 hFm162  km162_69_6 km162_69_7 km162_69_9 km162_69_11 fm162_74 (by omega) (by omega) (by omega) (by omega) (by omega) (by omega) (by omega) (by omega) (by omega) (by omega) (by omega) (by omega) (by omega) (by omega) (by omega) (by omega) (by omega) (by omega) (by omega))
                        · intro h163
                          refine zw_7 zr_161_382 rfl ?_
                          refine zw_46r (s := 74) zr_161_383 rfl rfl rfl rfl ?_
                          refine zw_7 zr_161_386 rfl ?_
                          refine zw_46i zr_161_387 ef141 rfl rfl rfl ?_
                          refine zw_push zr_161_390 ?_
                          refine zw_17 zr_161_391 (by omega) ?_
                          refine zw_48k (c := 74) (len := 128) zr_161_392 rfl rfl (by omega) (by omega) rfl ex157.symm ?_
                          refine zw_C zr_161_393 (Or.inr rfl) zm_155 rfl rfl ⟨Nat.le_of_ble_eq_true rfl, Nat.le_of_ble_eq_true rfl, Nat.le_of_ble_eq_true rfl, rfl, by decide⟩ (by omega) (th_155 (d := d - 1) (by omega) hIm140 (a0 := x157)      (by omega) ) ?_
                          rintro _ _ ⟨r164, rfl, hr164a, hr164b, rfl, po0_r164⟩
                          show zW E (d) 161 396 [(2, 69), (0, i5), (0, i6), (0, i7), (0, r40)] [(0, r164)] m140 Q
                          clear po0_r164
                          refine zw_push zr_161_396 ?_
                          refine zw_41_4 zr_161_397 ?_ ?_
                          · intro h165
                            refine zw_7 zr_161_416 rfl ?_
                            refine zw_43 zr_161_417 rfl ?_
                            refine zw_46i zr_161_418 km140_69_6 rfl rfl rfl ?_
                            refine zw_push zr_161_421 ?_
                            refine zw_16 zr_161_422 (by omega) ?_
                            refine zw_47 (c := 69) zr_161_423 rfl ⟨rfl, by decide, rfl⟩ ?_
                            intro m166 em166
                            have hIm166 : zInv m166 := by rw [em166]; exact hIm140.bd (r := 69) (k := 6) (lo := 0) (hi := 50) rfl (by omega) (by decide) (by decide) (by decide)
                            have hFm166 : zFr W_161 m0 m166 := by rw [em166]; exact hFm140.up rfl
                            have km166_69_7 : m166 69 7 = p10 := by rw [em166, zUp_ne (by omega)]; exact km140_69_7
                            have km166_69_11 : m166 69 11 = f141 := by rw [em166, zUp_ne (by omega)]; exact ef141
                            have km166_69_9 : m166 69 9 = f142 := by rw [em166, zUp_ne (by omega)]; exact ef142
                            have km166_69_6 : m166 69 6 = (f41 + 1) := by rw [em166]; exact zUp_eq _ _ _ _
                            have fm166_74 : m166 74 = f13 := by rw [em166, zUp_fn (by decide)]; exact fm140_74
                            clear em166
                            refine zw_7 zr_161_426 rfl ?_
                            refine zw_46r (s := 74) zr_161_427 rfl rfl rfl rfl ?_
                            refine zw_7 zr_161_430 rfl ?_
                            refine zw_46i zr_161_431 km166_69_11 rfl rfl rfl ?_
                            refine zw_4 zr_161_434 rfl ?_
                            refine zw_49 (c := 74) (len := 128) zr_161_436 rfl rfl (by omega) (by omega) ?_
                            intro m167 em167
                            have hIm167 : zInv m167 := by rw [em167]; exact iu_74 hIm166 (by omega)
                            have hFm167 : zFr W_161 m0 m167 := by rw [em167]; exact hFm166.any rfl
                            have km167_69_7 : m167 69 7 = p10 := by rw [em167, zUp_ne (by omega)]; exact km166_69_7
                            have km167_69_11 : m167 69 11 = f141 := by rw [em167, zUp_ne (by omega)]; exact km166_69_11
                            have km167_69_9 : m167 69 9 = f142 := by rw [em167, zUp_ne (by omega)]; exact km166_69_9
                            have km167_69_6 : m167 69 6 = (f41 + 1) := by rw [em167, zUp_ne (by omega)]; exact km166_69_6
                            have fm167_74 : m167 74 = zPt f13 ((f141).toNat) r40 := by rw [em167]; exact (zUp_ff (m := m166)).trans (congrArg (fun q => zPt q ((f141).toNat) r40) fm166_74)
                            clear em167
                            have z168 := zcp_s f13 (f141).toNat (f141 + 1).toNat (r40) (by omega) (by omega)
                            refine zw_7 zr_161_437 rfl ?_
                            refine zw_43 zr_161_438 rfl ?_
                            refine zw_46i zr_161_439 km167_69_11 rfl rfl rfl ?_
                            refine zw_push zr_161_442 ?_
                            refine zw_16 zr_161_443 (by omega) ?_
                            refine zw_47 (c := 69) zr_161_444 rfl ⟨rfl, by decide, rfl⟩ ?_
                            intro m169 em169
                            have hIm169 : zInv m169 := by rw [em169]; exact hIm167.bd (r := 69) (k := 11) (lo := 0) (hi := 128) rfl (by omega) (by decide) (by decide) (by decide)
                            have hFm169 : zFr W_161 m0 m169 := by rw [em169]; exact hFm167.up rfl
                            have km169_69_7 : m169 69 7 = p10 := by rw [em169, zUp_ne (by omega)]; exact km167_69_7
                            have km169_69_9 : m169 69 9 = f142 := by rw [em169, zUp_ne (by omega)]; exact km167_69_9
                            have km169_69_6 : m169 69 6 = (f41 + 1) := by rw [em169, zUp_ne (by omega)]; exact km167_69_6
                            have km169_69_11 : m169 69 11 = (f141 + 1) := by rw [em169]; exact zUp_eq _ _ _ _
                            have fm169_74 : m169 74 = zPt f13 ((f141).toNat) r40 := by rw [em169, zUp_fn (by decide)]; exact fm167_74
                            clear em169
                            refine zw_push zr_161_447 ?_
                            refine zw_9 (L' := [(2, 69), (0, i5), (0, 1), (0, i7), (0, r40)]) zr_161_448 (Nat.le_of_ble_eq_true rfl) rfl ?_
                            refine zw_42 zr_161_449 ?_
                            refine zw_42 zr_161_485 ?_
                            exact zw_less (L := [(2, 69), (0, i5), (0, 1), (0, i7), (9, 0)]) ⟨Or.inr rfl, Or.inr rfl, Or.inr rfl, Or.inr rfl, Or.inl rfl, trivial⟩ (ihlp26_14 (i5) (1) (i7) ((f41 + 1)) (p10) (f142) ((f141 + 1)) (zPt f13 ((f141).toNat) r40) m169 hIm169 hFm169  km169_69_6 km169_69_7 km169_69_9 km169_69_11 fm169_74 (by omega) (by omega) (by omega) (by omega) (by omega) (by omega) (by omega) (by omega) (by omega) (by omega) (by omega) (by omega) (by omega) (by omega) (by omega) (by omega) (by omega) (by omega) (by omega))
                          · intro h170
                            refine zw_7 zr_161_400 rfl ?_
                            refine zw_push zr_161_401 ?_
                            refine zw_7 zr_161_403 rfl ?_
                            refine zw_46i zr_161_404 km140_69_6 rfl rfl rfl ?_
                            refine zw_18 zr_161_407 (by omega) ?_
                            refine zw_push zr_161_408 ?_
                            refine zw_16 zr_161_409 (by omega) ?_
                            refine zw_47 (c := 69) zr_161_410 rfl ⟨rfl, by decide, rfl⟩ ?_
                            intro m171 em171
                            have hIm171 : zInv m171 := by rw [em171]; exact hIm140.any (by omega) rfl (by decide) (by decide)
                            have hFm171 : zFr W_161 m0 m171 := by rw [em171]; exact hFm140.up rfl
                            have km171_69_6 : m171 69 6 = f41 := by rw [em171, zUp_ne (by omega)]; exact km140_69_6
                            have km171_69_11 : m171 69 11 = f141 := by rw [em171, zUp_ne (by omega)]; exact ef141
                            have km171_69_9 : m171 69 9 = f142 := by rw [em171, zUp_ne (by omega)]; exact ef142
                            have km171_69_7 : m171 69 7 = ((10 * f41) + 1) := by rw [em171]; exact zUp_eq _ _ _ _
                            have fm171_74 : m171 74 = f13 := by rw [em171, zUp_fn (by decide)]; exact fm140_74
                            clear em171
                            refine zw_42 zr_161_413 ?_
                            refine zw_42 zr_161_485 ?_
                            exact zw_less (L := [(2, 69), (0, i5), (0, i6), (0, i7), (9, 0)]) ⟨Or.inr rfl, Or.inr rfl, Or.inr rfl, Or.inr rfl, Or.inl rfl, trivial⟩ (ihlp26_14 (i5) (i6) (i7) (f41) (((10 * f41) + 1)) (f142) (f141) (f13) m171 hIm171 hFm171  km171_69_6 km171_69_7 km171_69_9 km171_69_11 fm171_74 (by omega) (by omega) (by omega) (by omega) (by omega) (by omega) (by omega) (by omega) (by omega) (by omega) (by omega) (by omega) (by omega) (by omega) (by omega) (by omega) (by omega) (by omega) (by omega))
                  · intro h172
                    refine zw_push zr_161_337 ?_
                    refine zw_42 zr_161_338 ?_
                    refine zw_C zr_161_346 (Or.inl rfl) zm_157 rfl rfl ⟨Nat.le_of_ble_eq_true rfl, Nat.le_of_ble_eq_true rfl, Nat.le_of_ble_eq_true rfl, rfl, by decide⟩ (by omega) (th_157 (d := d - 1) (by omega) hIm39 (a0 := 4) (g0 := p12) (g1 := p11)  (F74 := f13) km39_69_11 km39_69_9 fm39_74 (by omega) (by omega)) ?_
                    rintro _ m173 ⟨rfl, hIm173, gm173, po0_m173, po1_m173, po2_m173, po3_m173⟩
                    have hFm173 : zFr W_161 m0 m173 := hFm39.trans gm173 rfl
                    have km173_69_7 : m173 69 7 = p10 := (gm173 69 7 rfl).trans km39_69_7
                    have km173_69_6 : m173 69 6 = f41 := (gm173 69 6 rfl).trans ef41
                    have fm173_74 : m173 74 = f13 := (funext fun k => gm173 74 k rfl).trans fm39_74
                    obtain ⟨f174, ef174⟩ : ∃ v, m173 69 11 = v := ⟨_, rfl⟩
                    have bf174 := ib_69_11 hIm173
                    rw [ef174] at bf174
                    rw [ef174] at po0_m173
                    rw [ef174] at po2_m173
                    rw [ef174] at po3_m173
                    obtain ⟨f175, ef175⟩ : ∃ v, m173 69 9 = v := ⟨_, rfl⟩
                    have bf175 := ib_69_9 hIm173
                    rw [ef175] at bf175
                    rw [ef175] at po1_m173
                    rw [ef175] at po2_m173
                    show zW E (d) 161 349 [(2, 69), (0, i5), (0, i6), (0, i7), (0, r40)] [] m173 Q
                    have z176 := cB_nn f13 (f174).toNat
                    refine zw_4 zr_161_349 rfl ?_
                    refine zw_C zr_161_351 (Or.inr rfl) zm_155 rfl rfl ⟨Nat.le_of_ble_eq_true rfl, Nat.le_of_ble_eq_true rfl, Nat.le_of_ble_eq_true rfl, rfl, by decide⟩ (by omega) (th_155 (d := d - 1) (by omega) hIm173 (a0 := r40)      (by omega) ) ?_
                    rintro _ _ ⟨r177, rfl, hr177a, hr177b, rfl, po0_r177⟩
                    show zW E (d) 161 354 [(2, 69), (0, i5), (0, i6), (0, i7), (0, r40)] [(0, r177)] m173 Q
                    clear po0_r177
                    refine zw_push zr_161_354 ?_
                    refine zw_41_4 zr_161_355 ?_ ?_
                    · intro h178
                      refine zw_7 zr_161_416 rfl ?_
                      refine zw_43 zr_161_417 rfl ?_
                      refine zw_46i zr_161_418 km173_69_6 rfl rfl rfl ?_
                      refine zw_push zr_161_421 ?_
                      refine zw_16 zr_161_422 (by omega) ?_
                      refine zw_47 (c := 69) zr_161_423 rfl ⟨rfl, by decide, rfl⟩ ?_
                      intro m179 em179
                      have hIm179 : zInv m179 := by rw [em179]; exact hIm173.bd (r := 69) (k := 6) (lo := 0) (hi := 50) rfl (by omega) (by decide) (by decide) (by decide)
                      have hFm179 : zFr W_161 m0 m179 := by rw [em179]; exact hFm173.up rfl
                      have km179_69_7 : m179 69 7 = p10 := by rw [em179, zUp_ne (by omega)]; exact km173_69_7
                      have km179_69_11 : m179 69 11 = f174 := by rw [em179, zUp_ne (by omega)]; exact ef174
                      have km179_69_9 : m179 69 9 = f175 := by rw [em179, zUp_ne (by omega)]; exact ef175
                      have km179_69_6 : m179 69 6 = (f41 + 1) := by rw [em179]; exact zUp_eq _ _ _ _
                      have fm179_74 : m179 74 = f13 := by rw [em179, zUp_fn (by decide)]; exact fm173_74
                      clear em179
                      refine zw_7 zr_161_426 rfl ?_
                      refine zw_46r (s := 74) zr_161_427 rfl rfl rfl rfl ?_
                      refine zw_7 zr_161_430 rfl ?_
                      refine zw_46i zr_161_431 km179_69_11 rfl rfl rfl ?_
                      refine zw_4 zr_161_434 rfl ?_
                      refine zw_49 (c := 74) (len := 128) zr_161_436 rfl rfl (by omega) (by omega) ?_
                      intro m180 em180
                      have hIm180 : zInv m180 := by rw [em180]; exact iu_74 hIm179 (by omega)
                      have hFm180 : zFr W_161 m0 m180 := by rw [em180]; exact hFm179.any rfl
                      have km180_69_7 : m180 69 7 = p10 := by rw [em180, zUp_ne (by omega)]; exact km179_69_7
                      have km180_69_11 : m180 69 11 = f174 := by rw [em180, zUp_ne (by omega)]; exact km179_69_11
                      have km180_69_9 : m180 69 9 = f175 := by rw [em180, zUp_ne (by omega)]; exact km179_69_9
                      have km180_69_6 : m180 69 6 = (f41 + 1) := by rw [em180, zUp_ne (by omega)]; exact km179_69_6
                      have fm180_74 : m180 74 = zPt f13 ((f174).toNat) r40 := by rw [em180]; exact (zUp_ff (m := m179)).trans (congrArg (fun q => zPt q ((f174).toNat) r40) fm179_74)
                      clear em180
                      have z181 := zcp_s f13 (f174).toNat (f174 + 1).toNat (r40) (by omega) (by omega)
                      refine zw_7 zr_161_437 rfl ?_
                      refine zw_43 zr_161_438 rfl ?_
                      refine zw_46i zr_161_439 km180_69_11 rfl rfl rfl ?_
                      refine zw_push zr_161_442 ?_
                      refine zw_16 zr_161_443 (by omega) ?_
                      refine zw_47 (c := 69) zr_161_444 rfl ⟨rfl, by decide, rfl⟩ ?_
                      intro m182 em182
                      have hIm182 : zInv m182 := by rw [em182]; exact hIm180.bd (r := 69) (k := 11) (lo := 0) (hi := 128) rfl (by omega) (by decide) (by decide) (by decide)
                      have hFm182 : zFr W_161 m0 m182 := by rw [em182]; exact hFm180.up rfl
                      have km182_69_7 : m182 69 7 = p10 := by rw [em182, zUp_ne (by omega)]; exact km180_69_7
                      have km182_69_9 : m182 69 9 = f175 := by rw [em182, zUp_ne (by omega)]; exact km180_69_9
                      have km182_69_6 : m182 69 6 = (f41 + 1) := by rw [em182, zUp_ne (by omega)]; exact km180_69_6
                      have km182_69_11 : m182 69 11 = (f174 + 1) := by rw [em182]; exact zUp_eq _ _ _ _
                      have fm182_74 : m182 74 = zPt f13 ((f174).toNat) r40 := by rw [em182, zUp_fn (by decide)]; exact fm180_74
                      clear em182
                      refine zw_push zr_161_447 ?_
                      refine zw_9 (L' := [(2, 69), (0, i5), (0, 1), (0, i7), (0, r40)]) zr_161_448 (Nat.le_of_ble_eq_true rfl) rfl ?_
                      refine zw_42 zr_161_449 ?_
                      refine zw_42 zr_161_485 ?_
                      exact zw_less (L := [(2, 69), (0, i5), (0, 1), (0, i7), (9, 0)]) ⟨Or.inr rfl, Or.inr rfl, Or.inr rfl, Or.inr rfl, Or.inl rfl, trivial⟩ (ihlp26_14 (i5) (1) (i7) ((f41 + 1)) (p10) (f175) ((f174 + 1)) (zPt f13 ((f174).toNat) r40) m182 hIm182 hFm182  km182_69_6 km182_69_7 km182_69_9 km182_69_11 fm182_74 (by omega) (by omega) (by omega) (by omega) (by omega) (by omega) (by omega) (by omega) (by omega) (by omega) (by omega) (by omega) (by omega) (by omega) (by omega) (by omega) (by omega) (by omega) (by omega))
                    · intro h183
                      refine zw_7 zr_161_358 rfl ?_
                      refine zw_46i zr_161_359 ef174 rfl rfl rfl ?_
                      refine zw_40_5 zr_161_362 ?_ ?_
                      · intro h184
                        refine zw_7 zr_161_416 rfl ?_
                        refine zw_43 zr_161_417 rfl ?_
                        refine zw_46i zr_161_418 km173_69_6 rfl rfl rfl ?_
                        refine zw_push zr_161_421 ?_
                        refine zw_16 zr_161_422 (by omega) ?_
                        refine zw_47 (c := 69) zr_161_423 rfl ⟨rfl, by decide, rfl⟩ ?_
                        intro m185 em185
                        have hIm185 : zInv m185 := by rw [em185]; exact hIm173.bd (r := 69) (k := 6) (lo := 0) (hi := 50) rfl (by omega) (by decide) (by decide) (by decide)
                        have hFm185 : zFr W_161 m0 m185 := by rw [em185]; exact hFm173.up rfl
                        have km185_69_7 : m185 69 7 = p10 := by rw [em185, zUp_ne (by omega)]; exact km173_69_7
                        have km185_69_11 : m185 69 11 = f174 := by rw [em185, zUp_ne (by omega)]; exact ef174
                        have km185_69_9 : m185 69 9 = f175 := by rw [em185, zUp_ne (by omega)]; exact ef175
                        have km185_69_6 : m185 69 6 = (f41 + 1) := by rw [em185]; exact zUp_eq _ _ _ _
                        have fm185_74 : m185 74 = f13 := by rw [em185, zUp_fn (by decide)]; exact fm173_74
                        clear em185
                        refine zw_7 zr_161_426 rfl ?_
                        refine zw_46r (s := 74) zr_161_427 rfl rfl rfl rfl ?_
                        refine zw_7 zr_161_430 rfl ?_
                        refine zw_46i zr_161_431 km185_69_11 rfl rfl rfl ?_
                        refine zw_4 zr_161_434 rfl ?_
                        refine zw_49 (c := 74) (len := 128) zr_161_436 rfl rfl (by omega) (by omega) ?_
                        intro m186 em186
                        have hIm186 : zInv m186 := by rw [em186]; exact iu_74 hIm185 (by omega)
                        have hFm186 : zFr W_161 m0 m186 := by rw [em186]; exact hFm185.any rfl
                        have km186_69_7 : m186 69 7 = p10 := by rw [em186, zUp_ne (by omega)]; exact km185_69_7
                        have km186_69_11 : m186 69 11 = f174 := by rw [em186, zUp_ne (by omega)]; exact km185_69_11
                        have km186_69_9 : m186 69 9 = f175 := by rw [em186, zUp_ne (by omega)]; exact km185_69_9
                        have km186_69_6 : m186 69 6 = (f41 + 1) := by rw [em186, zUp_ne (by omega)]; exact km185_69_6
                        have km186_74_0 : m186 74 0 = r40 := by rw [em186, show (f174 : Int).toNat = 0 by omega]; exact zUp_eq _ _ _ _
                        have fm186_74 : m186 74 = zPt f13 ((f174).toNat) r40 := by rw [em186]; exact (zUp_ff (m := m185)).trans (congrArg (fun q => zPt q ((f174).toNat) r40) fm185_74)
                        clear em186
                        have z187 := zcp_s f13 (f174).toNat (f174 + 1).toNat (r40) (by omega) (by omega)
                        refine zw_7 zr_161_437 rfl ?_
                        refine zw_43 zr_161_438 rfl ?_
                        refine zw_46i zr_161_439 km186_69_11 rfl rfl rfl ?_
                        refine zw_push zr_161_442 ?_
                        refine zw_16 zr_161_443 (by omega) ?_
                        refine zw_47 (c := 69) zr_161_444 rfl ⟨rfl, by decide, rfl⟩ ?_
                        intro m188 em188
                        have hIm188 : zInv m188 := by rw [em188]; exact hIm186.bd (r := 69) (k := 11) (lo := 0) (hi := 128) rfl (by omega) (by decide) (by decide) (by decide)
                        have hFm188 : zFr W_161 m0 m188 := by rw [em188]; exact hFm186.up rfl
                        have km188_69_7 : m188 69 7 = p10 := by rw [em188, zUp_ne (by omega)]; exact km186_69_7
                        have km188_69_9 : m188 69 9 = f175 := by rw [em188, zUp_ne (by omega)]; exact km186_69_9
                        have km188_69_6 : m188 69 6 = (f41 + 1) := by rw [em188, zUp_ne (by omega)]; exact km186_69_6
                        have km188_74_0 : m188 74 0 = r40 := by rw [em188, zUp_ne (by omega)]; exact km186_74_0
                        have km188_69_11 : m188 69 11 = (f174 + 1) := by rw [em188]; exact zUp_eq _ _ _ _
                        have fm188_74 : m188 74 = zPt f13 ((f174).toNat) r40 := by rw [em188, zUp_fn (by decide)]; exact fm186_74
                        clear em188
                        refine zw_push zr_161_447 ?_
                        refine zw_9 (L' := [(2, 69), (0, i5), (0, 1), (0, i7), (0, r40)]) zr_161_448 (Nat.le_of_ble_eq_true rfl) rfl ?_
                        refine zw_42 zr_161_449 ?_
                        refine zw_42 zr_161_485 ?_
                        exact zw_less (L := [(2, 69), (0, i5), (0, 1), (0, i7), (9, 0)]) ⟨Or.inr rfl, Or.inr rfl, Or.inr rfl, Or.inr rfl, Or.inl rfl, trivial⟩ (ihlp26_14 (i5) (1) (i7) ((f41 + 1)) (p10) (f175) ((f174 + 1)) (zPt f13 ((f174).toNat) r40) m188 hIm188 hFm188  km188_69_6 km188_69_7 km188_69_9 km188_69_11 fm188_74 (by omega) (by omega) (by omega) (by omega) (by omega) (by omega) (by omega) (by omega) (by omega) (by omega) (by omega) (by omega) (by omega) (by omega) (by omega) (by omega) (by omega) (by omega) (by omega))
                      · intro h189
                        refine zw_7 zr_161_365 rfl ?_
                        refine zw_46r (s := 74) zr_161_366 rfl rfl rfl rfl ?_
                        refine zw_7 zr_161_369 rfl ?_
                        refine zw_46i zr_161_370 ef174 rfl rfl rfl ?_
                        refine zw_push zr_161_373 ?_
                        refine zw_17 zr_161_374 (by omega) ?_
                        refine zw_48 (c := 74) (len := 128) zr_161_375 rfl rfl (by omega) (by omega) ?_
                        intro x190 ex190
                        have bx190 := ib_74 hIm173 (k := ((f174 - 1)).toNat) (by omega)
                        rw [← ex190] at bx190
                        refine zw_push zr_161_376 ?_
                        refine zw_41_3 zr_161_379 ?_ ?_
                        · intro h191
                          refine zw_7 zr_161_416 rfl ?_
                          refine zw_43 zr_161_417 rfl ?_
                          refine zw_46i zr_161_418 km173_69_6 rfl rfl rfl ?_
                          refine zw_push zr_161_421 ?_
                          refine zw_16 zr_161_422 (by omega) ?_
                          refine zw_47 (c := 69) zr_161_423 rfl ⟨rfl, by decide, rfl⟩ ?_
                          intro m192 em192
                          have hIm192 : zInv m192 := by rw [em192]; exact hIm173.bd (r := 69) (k := 6) (lo := 0) (hi := 50) rfl (by omega) (by decide) (by decide) (by decide)
                          have hFm192 : zFr W_161 m0 m192 := by rw [em192]; exact hFm173.up rfl
                          have km192_69_7 : m192 69 7 = p10 := by rw [em192, zUp_ne (by omega)]; exact km173_69_7
                          have km192_69_11 : m192 69 11 = f174 := by rw [em192, zUp_ne (by omega)]; exact ef174
                          have km192_69_9 : m192 69 9 = f175 := by rw [em192, zUp_ne (by omega)]; exact ef175
                          have km192_69_6 : m192 69 6 = (f41 + 1) := by rw [em192]; exact zUp_eq _ _ _ _
                          have fm192_74 : m192 74 = f13 := by rw [em192, zUp_fn (by decide)]; exact fm173_74
                          clear em192
                          refine zw_7 zr_161_426 rfl ?_
                          refine zw_46r (s := 74) zr_161_427 rfl rfl rfl rfl ?_
                          refine zw_7 zr_161_430 rfl ?_
                          refine zw_46i zr_161_431 km192_69_11 rfl rfl rfl ?_
                          refine zw_4 zr_161_434 rfl ?_
                          refine zw_49 (c := 74) (len := 128) zr_161_436 rfl rfl (by omega) (by omega) ?_
                          intro m193 em193
                          have hIm193 : zInv m193 := by rw [em193]; exact iu_74 hIm192 (by omega)
                          have hFm193 : zFr W_161 m0 m193 := by rw [em193]; exact hFm192.any rfl
                          have km193_69_7 : m193 69 7 = p10 := by rw [em193, zUp_ne (by omega)]; exact km192_69_7
                          have km193_69_11 : m193 69 11 = f174 := by rw [em193, zUp_ne (by omega)]; exact km192_69_11
                          have km193_69_9 : m193 69 9 = f175 := by rw [em193, zUp_ne (by omega)]; exact km192_69_9
                          have km193_69_6 : m193 69 6 = (f41 + 1) := by rw [em193, zUp_ne (by omega)]; exact km192_69_6
                          have fm193_74 : m193 74 = zPt f13 ((f174).toNat) r40 := by rw [em193]; exact (zUp_ff (m := m192)).trans (congrArg (fun q => zPt q ((f174).toNat) r40) fm192_74)
                          clear em193
                          have z194 := zcp_s f13 (f174).toNat (f174 + 1).toNat (r40) (by omega) (by omega)
                          refine zw_7 zr_161_437 rfl ?_
                          refine zw_43 zr_161_438 rfl ?_
                          refine zw_46i zr_161_439 km193_69_11 rfl rfl rfl ?_
                          refine zw_push zr_161_442 ?_
                          refine zw_16 zr_161_443 (by omega) ?_
                          refine zw_47 (c := 69) zr_161_444 rfl ⟨rfl, by decide, rfl⟩ ?_
                          intro m195 em195
                          have hIm195 : zInv m195 := by rw [em195]; exact hIm193.bd (r := 69) (k := 11) (lo := 0) (hi := 128) rfl (by omega) (by decide) (by decide) (by decide)
                          have hFm195 : zFr W_161 m0 m195 := by rw [em195]; exact hFm193.up rfl
                          have km195_69_7 : m195 69 7 = p10 := by rw [em195, zUp_ne (by omega)]; exact km193_69_7
                          have km195_69_9 : m195 69 9 = f175 := by rw [em195, zUp_ne (by omega)]; exact km193_69_9
                          have km195_69_6 : m195 69 6 = (f41 + 1) := by rw [em195, zUp_ne (by omega)]; exact km193_69_6
                          have km195_69_11 : m195 69 11 = (f174 + 1) := by rw [em195]; exact zUp_eq _ _ _ _
                          have fm195_74 : m195 74 = zPt f13 ((f174).toNat) r40 := by rw [em195, zUp_fn (by decide)]; exact fm193_74
                          clear em195
                          refine zw_push zr_161_447 ?_
                          refine zw_9 (L' := [(2, 69), (0, i5), (0, 1), (0, i7), (0, r40)]) zr_161_448 (Nat.le_of_ble_eq_true rfl) rfl ?_
                          refine zw_42 zr_161_449 ?_
                          refine zw_42 zr_161_485 ?_
                          exact zw_less (L := [(2, 69), (0, i5), (0, 1), (0, i7), (9, 0)]) ⟨Or.inr rfl, Or.inr rfl, Or.inr rfl, Or.inr rfl, Or.inl rfl, trivial⟩ (ihlp26_14 (i5) (1) (i7) ((f41 + 1)) (p10) (f175) ((f174 + 1)) (zPt f13 ((f174).toNat) r40) m195 hIm195 hFm195  km195_69_6 km195_69_7 km195_69_9 km195_69_11 fm195_74 (by omega) (by omega) (by omega) (by omega) (by omega) (by omega) (by omega) (by omega) (by omega) (by omega) (by omega) (by omega) (by omega) (by omega) (by omega) (by omega) (by omega) (by omega) (by omega))
                        · intro h196
                          refine zw_7 zr_161_382 rfl ?_
                          refine zw_46r (s := 74) zr_161_383 rfl rfl rfl rfl ?_
                          refine zw_7 zr_161_386 rfl ?_
                          refine zw_46i zr_161_387 ef174 rfl rfl rfl ?_
                          refine zw_push zr_161_390 ?_
                          refine zw_17 zr_161_391 (by omega) ?_
                          refine zw_48k (c := 74) (len := 128) zr_161_392 rfl rfl (by omega) (by omega) rfl ex190.symm ?_
                          refine zw_C zr_161_393 (Or.inr rfl) zm_155 rfl rfl ⟨Nat.le_of_ble_eq_true rfl, Nat.le_of_ble_eq_true rfl, Nat.le_of_ble_eq_true rfl, rfl, by decide⟩ (by omega) (th_155 (d := d - 1) (by omega) hIm173 (a0 := x190)      (by omega) ) ?_
                          rintro _ _ ⟨r197, rfl, hr197a, hr197b, rfl, po0_r197⟩
                          show zW E (d) 161 396 [(2, 69), (0, i5), (0, i6), (0, i7), (0, r40)] [(0, r197)] m173 Q
                          clear po0_r197
                          refine zw_push zr_161_396 ?_
                          refine zw_41_4 zr_161_397 ?_ ?_
                          · intro h198
                            refine zw_7 zr_161_416 rfl ?_
                            refine zw_43 zr_161_417 rfl ?_
                            refine zw_46i zr_161_418 km173_69_6 rfl rfl rfl ?_
                            refine zw_push zr_161_421 ?_
                            refine zw_16 zr_161_422 (by omega) ?_
                            refine zw_47 (c := 69) zr_161_423 rfl ⟨rfl, by decide, rfl⟩ ?_
                            intro m199 em199
                            have hIm199 : zInv m199 := by rw [em199]; exact hIm173.bd (r := 69) (k := 6) (lo := 0) (hi := 50) rfl (by omega) (by decide) (by decide) (by decide)
                            have hFm199 : zFr W_161 m0 m199 := by rw [em199]; exact hFm173.up rfl
                            have km199_69_7 : m199 69 7 = p10 := by rw [em199, zUp_ne (by omega)]; exact km173_69_7
                            have km199_69_11 : m199 69 11 = f174 := by rw [em199, zUp_ne (by omega)]; exact ef174
                            have km199_69_9 : m199 69 9 = f175 := by rw [em199, zUp_ne (by omega)]; exact ef175
                            have km199_69_6 : m199 69 6 = (f41 + 1) := by rw [em199]; exact zUp_eq _ _ _ _
                            have fm199_74 : m199 74 = f13 := by rw [em199, zUp_fn (by decide)]; exact fm173_74
                            clear em199
                            refine zw_7 zr_161_426 rfl ?_
                            refine zw_46r (s := 74) zr_161_427 rfl rfl rfl rfl ?_
                            refine zw_7 zr_161_430 rfl ?_
                            refine zw_46i zr_161_431 km199_69_11 rfl rfl rfl ?_
                            refine zw_4 zr_161_434 rfl ?_
                            refine zw_49 (c := 74) (len := 128) zr_161_436 rfl rfl (by omega) (by omega) ?_
                            intro m200 em200
                            have hIm200 : zInv m200 := by rw [em200]; exact iu_74 hIm199 (by omega)
                            have hFm200 : zFr W_161 m0 m200 := by rw [em200]; exact hFm199.any rfl
                            have km200_69_7 : m200 69 7 = p10 := by rw [em200, zUp_ne (by omega)]; exact km199_69_7
                            have km200_69_11 : m200 69 11 = f174 := by rw [em200, zUp_ne (by omega)]; exact km199_69_11
                            have km200_69_9 : m200 69 9 = f175 := by rw [em200, zUp_ne (by omega)]; exact km199_69_9
                            have km200_69_6 : m200 69 6 = (f41 + 1) := by rw [em200, zUp_ne (by omega)]; exact km199_69_6
                            have fm200_74 : m200 74 = zPt f13 ((f174).toNat) r40 := by rw [em200]; exact (zUp_ff (m := m199)).trans (congrArg (fun q => zPt q ((f174).toNat) r40) fm199_74)
                            clear em200
                            have z201 := zcp_s f13 (f174).toNat (f174 + 1).toNat (r40) (by omega) (by omega)
                            refine zw_7 zr_161_437 rfl ?_
                            refine zw_43 zr_161_438 rfl ?_
                            refine zw_46i zr_161_439 km200_69_11 rfl rfl rfl ?_
                            refine zw_push zr_161_442 ?_
                            refine zw_16 zr_161_443 (by omega) ?_
                            refine zw_47 (c := 69) zr_161_444 rfl ⟨rfl, by decide, rfl⟩ ?_
                            intro m202 em202
                            have hIm202 : zInv m202 := by rw [em202]; exact hIm200.bd (r := 69) (k := 11) (lo := 0) (hi := 128) rfl (by omega) (by decide) (by decide) (by decide)
                            have hFm202 : zFr W_161 m0 m202 := by rw [em202]; exact hFm200.up rfl
                            have km202_69_7 : m202 69 7 = p10 := by rw [em202, zUp_ne (by omega)]; exact km200_69_7
                            have km202_69_9 : m202 69 9 = f175 := by rw [em202, zUp_ne (by omega)]; exact km200_69_9
                            have km202_69_6 : m202 69 6 = (f41 + 1) := by rw [em202, zUp_ne (by omega)]; exact km200_69_6
                            have km202_69_11 : m202 69 11 = (f174 + 1) := by rw [em202]; exact zUp_eq _ _ _ _
                            have fm202_74 : m202 74 = zPt f13 ((f174).toNat) r40 := by rw [em202, zUp_fn (by decide)]; exact fm200_74
                            clear em202
                            refine zw_push zr_161_447 ?_
                            refine zw_9 (L' := [(2, 69), (0, i5), (0, 1), (0, i7), (0, r40)]) zr_161_448 (Nat.le_of_ble_eq_true rfl) rfl ?_
                            refine zw_42 zr_161_449 ?_
                            refine zw_42 zr_161_485 ?_
                            exact zw_less (L := [(2, 69), (0, i5), (0, 1), (0, i7), (9, 0)]) ⟨Or.inr rfl, Or.inr rfl, Or.inr rfl, Or.inr rfl, Or.inl rfl, trivial⟩ (ihlp26_14 (i5) (1) (i7) ((f41 + 1)) (p10) (f175) ((f174 + 1)) (zPt f13 ((f174).toNat) r40) m202 hIm202 hFm202  km202_69_6 km202_69_7 km202_69_9 km202_69_11 fm202_74 (by omega) (by omega) (by omega) (by omega) (by omega) (by omega) (by omega) (by omega) (by omega) (by omega) (by omega) (by omega) (by omega) (by omega) (by omega) (by omega) (by omega) (by omega) (by omega))
                          · intro h203
                            refine zw_7 zr_161_400 rfl ?_
                            refine zw_push zr_161_401 ?_
                            refine zw_7 zr_161_403 rfl ?_
                            refine zw_46i zr_161_404 km173_69_6 rfl rfl rfl ?_
                            refine zw_18 zr_161_407 (by omega) ?_
                            refine zw_push zr_161_408 ?_
                            refine zw_16 zr_161_409 (by omega) ?_
                            refine zw_47 (c := 69) zr_161_410 rfl ⟨rfl, by decide, rfl⟩ ?_
                            intro m204 em204
                            have hIm204 : zInv m204 := by rw [em204]; exact hIm173.any (by omega) rfl (by decide) (by decide)
                            have hFm204 : zFr W_161 m0 m204 := by rw [em204]; exact hFm173.up rfl
                            have km204_69_6 : m204 69 6 = f41 := by rw [em204, zUp_ne (by omega)]; exact km173_69_6
                            have km204_69_11 : m204 69 11 = f174 := by rw [em204, zUp_ne (by omega)]; exact ef174
                            have km204_69_9 : m204 69 9 = f175 := by rw [em204, zUp_ne (by omega)]; exact ef175
                            have km204_69_7 : m204 69 7 = ((10 * f41) + 1) := by rw [em204]; exact zUp_eq _ _ _ _
                            have fm204_74 : m204 74 = f13 := by rw [em204, zUp_fn (by decide)]; exact fm173_74
                            clear em204
                            refine zw_42 zr_161_413 ?_
                            refine zw_42 zr_161_485 ?_
                            exact zw_less (L := [(2, 69), (0, i5), (0, i6), (0, i7), (9, 0)]) ⟨Or.inr rfl, Or.inr rfl, Or.inr rfl, Or.inr rfl, Or.inl rfl, trivial⟩ (ihlp26_14 (i5) (i6) (i7) (f41) (((10 * f41) + 1)) (f175) (f174) (f13) m204 hIm204 hFm204  km204_69_6 km204_69_7 km204_69_9 km204_69_11 fm204_74 (by omega) (by omega) (by omega) (by omega) (by omega) (by omega) (by omega) (by omega) (by omega) (by omega) (by omega) (by omega) (by omega) (by omega) (by omega) (by omega) (by omega) (by omega) (by omega))
              · intro h205
                have z206 : f41 ≤ 49 := by omega
                refine zw_7 zr_161_265 rfl ?_
                refine zw_43 zr_161_266 rfl ?_
                refine zw_46i zr_161_267 ef41 rfl rfl rfl ?_
                refine zw_push zr_161_270 ?_
                refine zw_16 zr_161_271 (by omega) ?_
                refine zw_47 (c := 69) zr_161_272 rfl ⟨rfl, by decide, rfl⟩ ?_
                intro m207 em207
                have hIm207 : zInv m207 := by rw [em207]; exact hIm39.bd (r := 69) (k := 6) (lo := 0) (hi := 50) rfl (by omega) (by decide) (by decide) (by decide)
                have hFm207 : zFr W_161 m0 m207 := by rw [em207]; exact hFm39.up rfl
                have km207_69_7 : m207 69 7 = p10 := by rw [em207, zUp_ne (by omega)]; exact km39_69_7
                have km207_69_9 : m207 69 9 = p11 := by rw [em207, zUp_ne (by omega)]; exact km39_69_9
                have km207_69_11 : m207 69 11 = p12 := by rw [em207, zUp_ne (by omega)]; exact km39_69_11
                have km207_69_6 : m207 69 6 = (f41 + 1) := by rw [em207]; exact zUp_eq _ _ _ _
                have fm207_74 : m207 74 = f13 := by rw [em207, zUp_fn (by decide)]; exact fm39_74
                clear em207
                refine zw_15 (c := (-1)) (L' := [(2, 69), (0, (i5 + (-1))), (0, i6), (0, i7), (0, r40)]) zr_161_275 rfl (by decide) (by omega) rfl ?_
                refine zw_7 zr_161_278 rfl ?_
                refine zw_push zr_161_279 ?_
                refine zw_C zr_161_280 (Or.inl rfl) zm_157 rfl rfl ⟨Nat.le_of_ble_eq_true rfl, Nat.le_of_ble_eq_true rfl, Nat.le_of_ble_eq_true rfl, rfl, by decide⟩ (by omega) (th_157 (d := d - 1) (by omega) hIm207 (a0 := 1) (g0 := p12) (g1 := p11)  (F74 := f13) km207_69_11 km207_69_9 fm207_74 (by omega) (by omega)) ?_
                rintro _ m208 ⟨rfl, hIm208, gm208, po0_m208, po1_m208, po2_m208, po3_m208⟩
                have hFm208 : zFr W_161 m0 m208 := hFm207.trans gm208 rfl
                have km208_69_7 : m208 69 7 = p10 := (gm208 69 7 rfl).trans km207_69_7
                have km208_69_6 : m208 69 6 = (f41 + 1) := (gm208 69 6 rfl).trans km207_69_6
                have fm208_74 : m208 74 = f13 := (funext fun k => gm208 74 k rfl).trans fm207_74
                obtain ⟨f209, ef209⟩ : ∃ v, m208 69 11 = v := ⟨_, rfl⟩
                have bf209 := ib_69_11 hIm208
                rw [ef209] at bf209
                rw [ef209] at po0_m208
                rw [ef209] at po2_m208
                rw [ef209] at po3_m208
                obtain ⟨f210, ef210⟩ : ∃ v, m208 69 9 = v := ⟨_, rfl⟩
                have bf210 := ib_69_9 hIm208
                rw [ef210] at bf210
                rw [ef210] at po1_m208
                rw [ef210] at po2_m208
                show zW E (d) 161 283 [(2, 69), (0, (i5 + (-1))), (0, i6), (0, i7), (0, r40)] [] m208 Q
                have z211 := cB_nn f13 (f209).toNat
                have z212 := zcw f13 (f209 - 1).toNat (f209).toNat (by omega)
                refine zw_7 zr_161_283 rfl ?_
                refine zw_43 zr_161_284 rfl ?_
                refine zw_46i zr_161_285 ef209 rfl rfl rfl ?_
                refine zw_push zr_161_288 ?_
                refine zw_17 zr_161_289 (by omega) ?_
                refine zw_47 (c := 69) zr_161_290 rfl ⟨rfl, by decide, rfl⟩ ?_
                intro m213 em213
                have hIm213 : zInv m213 := by rw [em213]; exact hIm208.bd (r := 69) (k := 11) (lo := 0) (hi := 128) rfl (by omega) (by decide) (by decide) (by decide)
                have hFm213 : zFr W_161 m0 m213 := by rw [em213]; exact hFm208.up rfl
                have km213_69_7 : m213 69 7 = p10 := by rw [em213, zUp_ne (by omega)]; exact km208_69_7
                have km213_69_6 : m213 69 6 = (f41 + 1) := by rw [em213, zUp_ne (by omega)]; exact km208_69_6
                have km213_69_9 : m213 69 9 = f210 := by rw [em213, zUp_ne (by omega)]; exact ef210
                have km213_69_11 : m213 69 11 = (f209 - 1) := by rw [em213]; exact zUp_eq _ _ _ _
                have fm213_74 : m213 74 = f13 := by rw [em213, zUp_fn (by decide)]; exact fm208_74
                clear em213
                refine zw_7 zr_161_293 rfl ?_
                refine zw_43 zr_161_294 rfl ?_
                refine zw_46i zr_161_295 km213_69_9 rfl rfl rfl ?_
                refine zw_push zr_161_298 ?_
                refine zw_17 zr_161_299 (by omega) ?_
                refine zw_47 (c := 69) zr_161_300 rfl ⟨rfl, by decide, rfl⟩ ?_
                intro m214 em214
                have hIm214 : zInv m214 := by rw [em214]; exact hIm213.bd (r := 69) (k := 9) (lo := 0) (hi := 64) rfl (by omega) (by decide) (by decide) (by decide)
                have hFm214 : zFr W_161 m0 m214 := by rw [em214]; exact hFm213.up rfl
                have km214_69_7 : m214 69 7 = p10 := by rw [em214, zUp_ne (by omega)]; exact km213_69_7
                have km214_69_6 : m214 69 6 = (f41 + 1) := by rw [em214, zUp_ne (by omega)]; exact km213_69_6
                have km214_69_11 : m214 69 11 = (f209 - 1) := by rw [em214, zUp_ne (by omega)]; exact km213_69_11
                have km214_69_9 : m214 69 9 = (f210 - 1) := by rw [em214]; exact zUp_eq _ _ _ _
                have fm214_74 : m214 74 = f13 := by rw [em214, zUp_fn (by decide)]; exact fm213_74
                clear em214
                refine zw_7 zr_161_303 rfl ?_
                refine zw_7 zr_161_304 rfl ?_
                refine zw_46r (s := 73) zr_161_305 rfl rfl rfl rfl ?_
                refine zw_7 zr_161_308 rfl ?_
                refine zw_46i zr_161_309 km214_69_9 rfl rfl rfl ?_
                refine zw_50 (c := 73) (len := 64) zr_161_312 rfl rfl (by omega) (by omega) ?_
                intro x215 ex215
                have bx215 := hIm214.rl (c := 73) (len := 64) (k := ((f210 - 1)).toNat) rfl (by omega)
                rw [← ex215] at bx215
                clear ex215
                refine zw_C zr_161_313 (Or.inl rfl) zm_158 rfl rfl ⟨Nat.le_of_ble_eq_true rfl, Nat.le_of_ble_eq_true rfl, Nat.le_of_ble_eq_true rfl, rfl, by decide⟩ (by omega) (th_158 (d := d - 1) (by omega) hIm214 (a0 := x215) (g0 := (f209 - 1)) (g1 := (f210 - 1))  (F74 := f13) km214_69_11 km214_69_9 fm214_74 (by omega) (by omega)) ?_
                rintro _ m216 ⟨rfl, hIm216, gm216, po0_m216, po1_m216, po2_m216, po3_m216⟩
                have hFm216 : zFr W_161 m0 m216 := hFm214.trans gm216 rfl
                have km216_69_7 : m216 69 7 = p10 := (gm216 69 7 rfl).trans km214_69_7
                have km216_69_6 : m216 69 6 = (f41 + 1) := (gm216 69 6 rfl).trans km214_69_6
                have fm216_74 : m216 74 = f13 := (funext fun k => gm216 74 k rfl).trans fm214_74
                obtain ⟨f217, ef217⟩ : ∃ v, m216 69 11 = v := ⟨_, rfl⟩
                have bf217 := ib_69_11 hIm216
                rw [ef217] at bf217
                rw [ef217] at po0_m216
                rw [ef217] at po1_m216
                rw [ef217] at po2_m216
                show zW E (d) 161 316 [(2, 69), (0, (i5 + (-1))), (0, i6), (0, i7), (0, r40)] [] m216 Q
                have z218 := cB_nn f13 (f217).toNat
                refine zw_42 zr_161_316 ?_
                refine zw_42 zr_161_485 ?_
                exact zw_less (L := [(2, 69), (0, (i5 + (-1))), (0, i6), (0, i7), (9, 0)]) ⟨Or.inr rfl, Or.inr rfl, Or.inr rfl, Or.inr rfl, Or.inl rfl, trivial⟩ (ihlp26_14 ((i5 + (-1))) (i6) (i7) ((f41 + 1)) (p10) (((f210 - 1) + 1)) (f217) (f13) m216 hIm216 hFm216  km216_69_6 km216_69_7 po3_m216 ef217 fm216_74 (by omega) (by omega) (by omega) (by omega) (by omega) (by omega) (by omega) (by omega) (by omega) (by omega) (by omega) (by omega) (by omega) (by omega) (by omega) (by omega) (by omega) (by omega) (by omega))
          · intro h219
            refine zw_4 zr_161_48 rfl ?_
            refine zw_36 zr_161_50 ?_
            refine zw_push zr_161_51 ?_
            refine zw_push zr_161_54 ?_
            refine zw_C zr_161_57 (Or.inr rfl) zm_140 rfl rfl ⟨Nat.le_of_ble_eq_true rfl, Nat.le_of_ble_eq_true rfl, Nat.le_of_ble_eq_true rfl, rfl, by decide⟩ (by omega) (P := (fun v m' => zW E (d) 161 60 [(2, 69), (0, i5), (0, i6), (0, i7), (0, r40)] (if v.1 = 9 then [] else v :: []) m' Q)) ?_ (fun _ _ h => h)
            generalize hQ1 : (fun v m' => zW E (d) 161 60 [(2, 69), (0, i5), (0, i6), (0, i7), (0, r40)] (if v.1 = 9 then [] else v :: []) m' Q) = Q1
            show zW E (d - 1) 140 0 [(1, r40), (9, 0), (1, 48), (9, 0), (1, 57), (9, 0)] [] m39 Q1
            refine zw_5 zr_140_0 rfl ?_
            refine zw_5 zr_140_1 rfl ?_
            refine zw_39_0 zr_140_2 zr_140_3 ?_ ?_
            · intro h220
              refine zw_push zr_140_17 ?_
              refine zw_R zr_140_18 (by decide) zm_140 (v := (0, 0)) (zRetB (by omega)) ?_
              rw [← hQ1]
              show zW E (d) 161 60 [(2, 69), (0, i5), (0, i6), (0, i7), (0, r40)] [(0, 0)] m39 Q
              refine zw_40_1 zr_161_60 ?_ ?_
              · intro h221
                refine zw_4 zr_161_76 rfl ?_
                refine zw_C zr_161_78 (Or.inr rfl) zm_159 rfl rfl ⟨Nat.le_of_ble_eq_true rfl, Nat.le_of_ble_eq_true rfl, Nat.le_of_ble_eq_true rfl, rfl, by decide⟩ (by omega) (th_159 (d := d - 1) (by omega) hIm39 (a0 := r40)      (by omega) ) ?_
                rintro _ _ ⟨r222, rfl, hr222a, hr222b, rfl, po0_r222, po1_r222⟩
                show zW E (d) 161 81 [(2, 69), (0, i5), (0, i6), (0, i7), (0, r40)] [(0, r222)] m39 Q
                refine zw_push zr_161_81 ?_
                refine zw_41_1 zr_161_82 ?_ ?_
                · intro h223
                  refine zw_4 zr_161_114 rfl ?_
                  refine zw_push zr_161_116 ?_
                  refine zw_41_1 zr_161_118 ?_ ?_
                  · intro h224
                    have z225 : f41 ≤ 49 := by omega
                    refine zw_7 zr_161_128 rfl ?_
                    refine zw_43 zr_161_129 rfl ?_
                    refine zw_46i zr_161_130 ef41 rfl rfl rfl ?_
                    refine zw_push zr_161_133 ?_
                    refine zw_16 zr_161_134 (by omega) ?_
                    refine zw_47 (c := 69) zr_161_135 rfl ⟨rfl, by decide, rfl⟩ ?_
                    intro m226 em226
                    have hIm226 : zInv m226 := by rw [em226]; exact hIm39.bd (r := 69) (k := 6) (lo := 0) (hi := 50) rfl (by omega) (by decide) (by decide) (by decide)
                    have hFm226 : zFr W_161 m0 m226 := by rw [em226]; exact hFm39.up rfl
                    have km226_69_7 : m226 69 7 = p10 := by rw [em226, zUp_ne (by omega)]; exact km39_69_7
                    have km226_69_9 : m226 69 9 = p11 := by rw [em226, zUp_ne (by omega)]; exact km39_69_9
                    have km226_69_11 : m226 69 11 = p12 := by rw [em226, zUp_ne (by omega)]; exact km39_69_11
                    have km226_69_6 : m226 69 6 = (f41 + 1) := by rw [em226]; exact zUp_eq _ _ _ _
                    have fm226_74 : m226 74 = f13 := by rw [em226, zUp_fn (by decide)]; exact fm39_74
                    clear em226
                    refine zw_7 zr_161_138 rfl ?_
                    refine zw_46r (s := 74) zr_161_139 rfl rfl rfl rfl ?_
                    refine zw_7 zr_161_142 rfl ?_
                    refine zw_46i zr_161_143 km226_69_11 rfl rfl rfl ?_
                    refine zw_4 zr_161_146 rfl ?_
                    refine zw_push zr_161_148 ?_
                    refine zw_41_4 zr_161_150 ?_ ?_
                    · intro h227; omega
                    · intro h228
                      refine zw_push zr_161_153 ?_
                      refine zw_42 zr_161_156 ?_
                      refine zw_49 (c := 74) (len := 128) zr_161_162 rfl rfl (by omega) (by omega) ?_
                      intro m229 em229
                      have hIm229 : zInv m229 := by rw [em229]; exact iu_74 hIm226 (by omega)
                      have hFm229 : zFr W_161 m0 m229 := by rw [em229]; exact hFm226.any rfl
                      have km229_69_7 : m229 69 7 = p10 := by rw [em229, zUp_ne (by omega)]; exact km226_69_7
                      have km229_69_9 : m229 69 9 = p11 := by rw [em229, zUp_ne (by omega)]; exact km226_69_9
                      have km229_69_11 : m229 69 11 = p12 := by rw [em229, zUp_ne (by omega)]; exact km226_69_11
                      have km229_69_6 : m229 69 6 = (f41 + 1) := by rw [em229, zUp_ne (by omega)]; exact km226_69_6
                      have fm229_74 : m229 74 = zPt f13 ((p12).toNat) 1001 := by rw [em229]; exact (zUp_ff (m := m226)).trans (congrArg (fun q => zPt q ((p12).toNat) 1001) fm226_74)
                      clear em229
                      have z230 := zcp_u f13 (p12).toNat (p12 + 1).toNat (1001) (by omega) (by omega)
                      refine zw_7 zr_161_163 rfl ?_
                      refine zw_43 zr_161_164 rfl ?_
                      refine zw_46i zr_161_165 km229_69_11 rfl rfl rfl ?_
                      refine zw_push zr_161_168 ?_
                      refine zw_16 zr_161_169 (by omega) ?_
                      refine zw_47 (c := 69) zr_161_170 rfl ⟨rfl, by decide, rfl⟩ ?_
                      intro m231 em231
                      have hIm231 : zInv m231 := by rw [em231]; exact hIm229.bd (r := 69) (k := 11) (lo := 0) (hi := 128) rfl (by omega) (by decide) (by decide) (by decide)
                      have hFm231 : zFr W_161 m0 m231 := by rw [em231]; exact hFm229.up rfl
                      have km231_69_7 : m231 69 7 = p10 := by rw [em231, zUp_ne (by omega)]; exact km229_69_7
                      have km231_69_9 : m231 69 9 = p11 := by rw [em231, zUp_ne (by omega)]; exact km229_69_9
                      have km231_69_6 : m231 69 6 = (f41 + 1) := by rw [em231, zUp_ne (by omega)]; exact km229_69_6
                      have km231_69_11 : m231 69 11 = (p12 + 1) := by rw [em231]; exact zUp_eq _ _ _ _
                      have fm231_74 : m231 74 = zPt f13 ((p12).toNat) 1001 := by rw [em231, zUp_fn (by decide)]; exact fm229_74
                      clear em231
                      refine zw_42 zr_161_173 ?_
                      refine zw_42 zr_161_485 ?_
                      exact zw_less (L := [(2, 69), (0, i5), (0, i6), (0, i7), (9, 0)]) ⟨Or.inr rfl, Or.inr rfl, Or.inr rfl, Or.inr rfl, Or.inl rfl, trivial⟩ (ihlp26_14 (i5) (i6) (i7) ((f41 + 1)) (p10) (p11) ((p12 + 1)) (zPt f13 ((p12).toNat) 1001) m231 hIm231 hFm231  km231_69_6 km231_69_7 km231_69_9 km231_69_11 fm231_74 (by omega) (by omega) (by omega) (by omega) (by omega) (by omega) (by omega) (by omega) (by omega) (by omega) (by omega) (by omega) (by omega) (by omega) (by omega) (by omega) (by omega) (by omega) (by omega))
                  · intro h232
                    refine zw_4 zr_161_121 rfl ?_
                    refine zw_push zr_161_123 ?_
                    refine zw_41_4 zr_161_125 ?_ ?_
                    · intro h233
                      refine zw_4 zr_161_176 rfl ?_
                      refine zw_push zr_161_178 ?_
                      refine zw_41_4 zr_161_180 ?_ ?_
                      · intro h234
                        refine zw_7 zr_161_227 rfl ?_
                        refine zw_push zr_161_228 ?_
                        refine zw_7 zr_161_230 rfl ?_
                        refine zw_46i zr_161_231 ef41 rfl rfl rfl ?_
                        refine zw_18 zr_161_234 (by omega) ?_
                        refine zw_4 zr_161_235 rfl ?_
                        refine zw_push zr_161_237 ?_
                        refine zw_41_4 zr_161_239 ?_ ?_
                        · intro h235
                          refine zw_push zr_161_246 ?_
                          refine zw_16 zr_161_247 (by omega) ?_
                          refine zw_47 (c := 69) zr_161_248 rfl ⟨rfl, by decide, rfl⟩ ?_
                          intro m236 em236
                          have hIm236 : zInv m236 := by rw [em236]; exact hIm39.any (by omega) rfl (by decide) (by decide)
                          have hFm236 : zFr W_161 m0 m236 := by rw [em236]; exact hFm39.up rfl
                          have km236_69_9 : m236 69 9 = p11 := by rw [em236, zUp_ne (by omega)]; exact km39_69_9
                          have km236_69_11 : m236 69 11 = p12 := by rw [em236, zUp_ne (by omega)]; exact km39_69_11
                          have km236_69_6 : m236 69 6 = f41 := by rw [em236, zUp_ne (by omega)]; exact ef41
                          have km236_69_7 : m236 69 7 = ((10 * f41) + 1) := by rw [em236]; exact zUp_eq _ _ _ _
                          have fm236_74 : m236 74 = f13 := by rw [em236, zUp_fn (by decide)]; exact fm39_74
                          clear em236
                          refine zw_42 zr_161_251 ?_
                          refine zw_42 zr_161_485 ?_
                          exact zw_less (L := [(2, 69), (0, i5), (0, i6), (0, i7), (9, 0)]) ⟨Or.inr rfl, Or.inr rfl, Or.inr rfl, Or.inr rfl, Or.inl rfl, trivial⟩ (ihlp26_14 (i5) (i6) (i7) (f41) (((10 * f41) + 1)) (p11) (p12) (f13) m236 hIm236 hFm236  km236_69_6 km236_69_7 km236_69_9 km236_69_11 fm236_74 (by omega) (by omega) (by omega) (by omega) (by omega) (by omega) (by omega) (by omega) (by omega) (by omega) (by omega) (by omega) (by omega) (by omega) (by omega) (by omega) (by omega) (by omega) (by omega))
                        · intro h237
                          refine zw_push zr_161_242 ?_
                          refine zw_42 zr_161_243 ?_
                          refine zw_16 zr_161_247 (by omega) ?_
                          refine zw_47 (c := 69) zr_161_248 rfl ⟨rfl, by decide, rfl⟩ ?_
                          intro m238 em238
                          have hIm238 : zInv m238 := by rw [em238]; exact hIm39.any (by omega) rfl (by decide) (by decide)
                          have hFm238 : zFr W_161 m0 m238 := by rw [em238]; exact hFm39.up rfl
                          have km238_69_9 : m238 69 9 = p11 := by rw [em238, zUp_ne (by omega)]; exact km39_69_9
                          have km238_69_11 : m238 69 11 = p12 := by rw [em238, zUp_ne (by omega)]; exact km39_69_11
                          have km238_69_6 : m238 69 6 = f41 := by rw [em238, zUp_ne (by omega)]; exact ef41
                          have km238_69_7 : m238 69 7 = ((10 * f41) + 3) := by rw [em238]; exact zUp_eq _ _ _ _
                          have fm238_74 : m238 74 = f13 := by rw [em238, zUp_fn (by decide)]; exact fm39_74
                          clear em238
                          refine zw_42 zr_161_251 ?_
                          refine zw_42 zr_161_485 ?_
                          exact zw_less (L := [(2, 69), (0, i5), (0, i6), (0, i7), (9, 0)]) ⟨Or.inr rfl, Or.inr rfl, Or.inr rfl, Or.inr rfl, Or.inl rfl, trivial⟩ (ihlp26_14 (i5) (i6) (i7) (f41) (((10 * f41) + 3)) (p11) (p12) (f13) m238 hIm238 hFm238  km238_69_6 km238_69_7 km238_69_9 km238_69_11 fm238_74 (by omega) (by omega) (by omega) (by omega) (by omega) (by omega) (by omega) (by omega) (by omega) (by omega) (by omega) (by omega) (by omega) (by omega) (by omega) (by omega) (by omega) (by omega) (by omega))
                      · intro h239
                        refine zw_3 zr_161_183 rfl ?_
                        refine zw_push zr_161_184 ?_
                        refine zw_41_3 zr_161_186 ?_ ?_
                        · intro h240
                          refine zw_7 zr_161_227 rfl ?_
                          refine zw_push zr_161_228 ?_
                          refine zw_7 zr_161_230 rfl ?_
                          refine zw_46i zr_161_231 ef41 rfl rfl rfl ?_
                          refine zw_18 zr_161_234 (by omega) ?_
                          refine zw_4 zr_161_235 rfl ?_
                          refine zw_push zr_161_237 ?_
                          refine zw_41_4 zr_161_239 ?_ ?_
                          · intro h241; omega
                          · intro h242
                            refine zw_push zr_161_242 ?_
                            refine zw_42 zr_161_243 ?_
                            refine zw_16 zr_161_247 (by omega) ?_
                            refine zw_47 (c := 69) zr_161_248 rfl ⟨rfl, by decide, rfl⟩ ?_
                            intro m243 em243
                            have hIm243 : zInv m243 := by rw [em243]; exact hIm39.any (by omega) rfl (by decide) (by decide)
                            have hFm243 : zFr W_161 m0 m243 := by rw [em243]; exact hFm39.up rfl
                            have km243_69_9 : m243 69 9 = p11 := by rw [em243, zUp_ne (by omega)]; exact km39_69_9
                            have km243_69_11 : m243 69 11 = p12 := by rw [em243, zUp_ne (by omega)]; exact km39_69_11
                            have km243_69_6 : m243 69 6 = f41 := by rw [em243, zUp_ne (by omega)]; exact ef41
                            have km243_69_7 : m243 69 7 = ((10 * f41) + 3) := by rw [em243]; exact zUp_eq _ _ _ _
                            have fm243_74 : m243 74 = f13 := by rw [em243, zUp_fn (by decide)]; exact fm39_74
                            clear em243
                            refine zw_42 zr_161_251 ?_
                            refine zw_42 zr_161_485 ?_
                            exact zw_less (L := [(2, 69), (0, i5), (0, i6), (0, i7), (9, 0)]) ⟨Or.inr rfl, Or.inr rfl, Or.inr rfl, Or.inr rfl, Or.inl rfl, trivial⟩ (ihlp26_14 (i5) (i6) (i7) (f41) (((10 * f41) + 3)) (p11) (p12) (f13) m243 hIm243 hFm243  km243_69_6 km243_69_7 km243_69_9 km243_69_11 fm243_74 (by omega) (by omega) (by omega) (by omega) (by omega) (by omega) (by omega) (by omega) (by omega) (by omega) (by omega) (by omega) (by omega) (by omega) (by omega) (by omega) (by omega) (by omega) (by omega))
                        · intro h244
                          have z245 : f41 ≤ 49 := by omega
                          refine zw_7 zr_161_189 rfl ?_
                          refine zw_43 zr_161_190 rfl ?_
                          refine zw_46i zr_161_191 ef41 rfl rfl rfl ?_
                          refine zw_push zr_161_194 ?_
                          refine zw_16 zr_161_195 (by omega) ?_
                          refine zw_47 (c := 69) zr_161_196 rfl ⟨rfl, by decide, rfl⟩ ?_
                          intro m246 em246
                          have hIm246 : zInv m246 := by rw [em246]; exact hIm39.bd (r := 69) (k := 6) (lo := 0) (hi := 50) rfl (by omega) (by decide) (by decide) (by decide)
                          have hFm246 : zFr W_161 m0 m246 := by rw [em246]; exact hFm39.up rfl
                          have km246_69_7 : m246 69 7 = p10 := by rw [em246, zUp_ne (by omega)]; exact km39_69_7
                          have km246_69_9 : m246 69 9 = p11 := by rw [em246, zUp_ne (by omega)]; exact km39_69_9
                          have km246_69_11 : m246 69 11 = p12 := by rw [em246, zUp_ne (by omega)]; exact km39_69_11
                          have km246_69_6 : m246 69 6 = (f41 + 1) := by rw [em246]; exact zUp_eq _ _ _ _
                          have fm246_74 : m246 74 = f13 := by rw [em246, zUp_fn (by decide)]; exact fm39_74
                          clear em246
                          refine zw_15 (c := 1) (L' := [(2, 69), (0, (i5 + 1)), (0, i6), (0, i7), (0, r40)]) zr_161_199 rfl (by decide) (by omega) rfl ?_
                          refine zw_7 zr_161_202 rfl ?_
                          refine zw_46r (s := 74) zr_161_203 rfl rfl rfl rfl ?_
                          refine zw_7 zr_161_206 rfl ?_
                          refine zw_46i zr_161_207 km246_69_11 rfl rfl rfl ?_
                          refine zw_push zr_161_210 ?_
                          refine zw_49 (c := 74) (len := 128) zr_161_213 rfl rfl (by omega) (by omega) ?_
                          intro m247 em247
                          have hIm247 : zInv m247 := by rw [em247]; exact iu_74 hIm246 (by omega)
                          have hFm247 : zFr W_161 m0 m247 := by rw [em247]; exact hFm246.any rfl
                          have km247_69_7 : m247 69 7 = p10 := by rw [em247, zUp_ne (by omega)]; exact km246_69_7
                          have km247_69_9 : m247 69 9 = p11 := by rw [em247, zUp_ne (by omega)]; exact km246_69_9
                          have km247_69_11 : m247 69 11 = p12 := by rw [em247, zUp_ne (by omega)]; exact km246_69_11
                          have km247_69_6 : m247 69 6 = (f41 + 1) := by rw [em247, zUp_ne (by omega)]; exact km246_69_6
                          have fm247_74 : m247 74 = zPt f13 ((p12).toNat) 1000 := by rw [em247]; exact (zUp_ff (m := m246)).trans (congrArg (fun q => zPt q ((p12).toNat) 1000) fm246_74)
                          clear em247
                          have z248 := zcp_b f13 (p12).toNat (p12 + 1).toNat (1000) (by omega) (by omega)
                          refine zw_7 zr_161_214 rfl ?_
                          refine zw_43 zr_161_215 rfl ?_
                          refine zw_46i zr_161_216 km247_69_11 rfl rfl rfl ?_
                          refine zw_push zr_161_219 ?_
                          refine zw_16 zr_161_220 (by omega) ?_
                          refine zw_47 (c := 69) zr_161_221 rfl ⟨rfl, by decide, rfl⟩ ?_
                          intro m249 em249
                          have hIm249 : zInv m249 := by rw [em249]; exact hIm247.bd (r := 69) (k := 11) (lo := 0) (hi := 128) rfl (by omega) (by decide) (by decide) (by decide)
                          have hFm249 : zFr W_161 m0 m249 := by rw [em249]; exact hFm247.up rfl
                          have km249_69_7 : m249 69 7 = p10 := by rw [em249, zUp_ne (by omega)]; exact km247_69_7
                          have km249_69_9 : m249 69 9 = p11 := by rw [em249, zUp_ne (by omega)]; exact km247_69_9
                          have km249_69_6 : m249 69 6 = (f41 + 1) := by rw [em249, zUp_ne (by omega)]; exact km247_69_6
                          have km249_69_11 : m249 69 11 = (p12 + 1) := by rw [em249]; exact zUp_eq _ _ _ _
                          have fm249_74 : m249 74 = zPt f13 ((p12).toNat) 1000 := by rw [em249, zUp_fn (by decide)]; exact fm247_74
                          clear em249
                          refine zw_42 zr_161_224 ?_
                          refine zw_42 zr_161_485 ?_
                          exact zw_less (L := [(2, 69), (0, (i5 + 1)), (0, i6), (0, i7), (9, 0)]) ⟨Or.inr rfl, Or.inr rfl, Or.inr rfl, Or.inr rfl, Or.inl rfl, trivial⟩ (ihlp26_14 ((i5 + 1)) (i6) (i7) ((f41 + 1)) (p10) (p11) ((p12 + 1)) (zPt f13 ((p12).toNat) 1000) m249 hIm249 hFm249  km249_69_6 km249_69_7 km249_69_9 km249_69_11 fm249_74 (by omega) (by omega) (by omega) (by omega) (by omega) (by omega) (by omega) (by omega) (by omega) (by omega) (by omega) (by omega) (by omega) (by omega) (by omega) (by omega) (by omega) (by omega) (by omega))
                    · intro h250
                      have z251 : f41 ≤ 49 := by omega
                      refine zw_7 zr_161_128 rfl ?_
                      refine zw_43 zr_161_129 rfl ?_
                      refine zw_46i zr_161_130 ef41 rfl rfl rfl ?_
                      refine zw_push zr_161_133 ?_
                      refine zw_16 zr_161_134 (by omega) ?_
                      refine zw_47 (c := 69) zr_161_135 rfl ⟨rfl, by decide, rfl⟩ ?_
                      intro m252 em252
                      have hIm252 : zInv m252 := by rw [em252]; exact hIm39.bd (r := 69) (k := 6) (lo := 0) (hi := 50) rfl (by omega) (by decide) (by decide) (by decide)
                      have hFm252 : zFr W_161 m0 m252 := by rw [em252]; exact hFm39.up rfl
                      have km252_69_7 : m252 69 7 = p10 := by rw [em252, zUp_ne (by omega)]; exact km39_69_7
                      have km252_69_9 : m252 69 9 = p11 := by rw [em252, zUp_ne (by omega)]; exact km39_69_9
                      have km252_69_11 : m252 69 11 = p12 := by rw [em252, zUp_ne (by omega)]; exact km39_69_11
                      have km252_69_6 : m252 69 6 = (f41 + 1) := by rw [em252]; exact zUp_eq _ _ _ _
                      have fm252_74 : m252 74 = f13 := by rw [em252, zUp_fn (by decide)]; exact fm39_74
                      clear em252
                      refine zw_7 zr_161_138 rfl ?_
                      refine zw_46r (s := 74) zr_161_139 rfl rfl rfl rfl ?_
                      refine zw_7 zr_161_142 rfl ?_
                      refine zw_46i zr_161_143 km252_69_11 rfl rfl rfl ?_
                      refine zw_4 zr_161_146 rfl ?_
                      refine zw_push zr_161_148 ?_
                      refine zw_41_4 zr_161_150 ?_ ?_
                      · intro h253
                        refine zw_push zr_161_159 ?_
                        refine zw_49 (c := 74) (len := 128) zr_161_162 rfl rfl (by omega) (by omega) ?_
                        intro m254 em254
                        have hIm254 : zInv m254 := by rw [em254]; exact iu_74 hIm252 (by omega)
                        have hFm254 : zFr W_161 m0 m254 := by rw [em254]; exact hFm252.any rfl
                        have km254_69_7 : m254 69 7 = p10 := by rw [em254, zUp_ne (by omega)]; exact km252_69_7
                        have km254_69_9 : m254 69 9 = p11 := by rw [em254, zUp_ne (by omega)]; exact km252_69_9
                        have km254_69_11 : m254 69 11 = p12 := by rw [em254, zUp_ne (by omega)]; exact km252_69_11
                        have km254_69_6 : m254 69 6 = (f41 + 1) := by rw [em254, zUp_ne (by omega)]; exact km252_69_6
                        have fm254_74 : m254 74 = zPt f13 ((p12).toNat) 1002 := by rw [em254]; exact (zUp_ff (m := m252)).trans (congrArg (fun q => zPt q ((p12).toNat) 1002) fm252_74)
                        clear em254
                        have z255 := zcp_u f13 (p12).toNat (p12 + 1).toNat (1002) (by omega) (by omega)
                        refine zw_7 zr_161_163 rfl ?_
                        refine zw_43 zr_161_164 rfl ?_
                        refine zw_46i zr_161_165 km254_69_11 rfl rfl rfl ?_
                        refine zw_push zr_161_168 ?_
                        refine zw_16 zr_161_169 (by omega) ?_
                        refine zw_47 (c := 69) zr_161_170 rfl ⟨rfl, by decide, rfl⟩ ?_
                        intro m256 em256
                        have hIm256 : zInv m256 := by rw [em256]; exact hIm254.bd (r := 69) (k := 11) (lo := 0) (hi := 128) rfl (by omega) (by decide) (by decide) (by decide)
                        have hFm256 : zFr W_161 m0 m256 := by rw [em256]; exact hFm254.up rfl
                        have km256_69_7 : m256 69 7 = p10 := by rw [em256, zUp_ne (by omega)]; exact km254_69_7
                        have km256_69_9 : m256 69 9 = p11 := by rw [em256, zUp_ne (by omega)]; exact km254_69_9
                        have km256_69_6 : m256 69 6 = (f41 + 1) := by rw [em256, zUp_ne (by omega)]; exact km254_69_6
                        have km256_69_11 : m256 69 11 = (p12 + 1) := by rw [em256]; exact zUp_eq _ _ _ _
                        have fm256_74 : m256 74 = zPt f13 ((p12).toNat) 1002 := by rw [em256, zUp_fn (by decide)]; exact fm254_74
                        clear em256
                        refine zw_42 zr_161_173 ?_
                        refine zw_42 zr_161_485 ?_
                        exact zw_less (L := [(2, 69), (0, i5), (0, i6), (0, i7), (9, 0)]) ⟨Or.inr rfl, Or.inr rfl, Or.inr rfl, Or.inr rfl, Or.inl rfl, trivial⟩ (ihlp26_14 (i5) (i6) (i7) ((f41 + 1)) (p10) (p11) ((p12 + 1)) (zPt f13 ((p12).toNat) 1002) m256 hIm256 hFm256  km256_69_6 km256_69_7 km256_69_9 km256_69_11 fm256_74 (by omega) (by omega) (by omega) (by omega) (by omega) (by omega) (by omega) (by omega) (by omega) (by omega) (by omega) (by omega) (by omega) (by omega) (by omega) (by omega) (by omega) (by omega) (by omega))
                      · intro h257; omega
                · intro h258
                  have z259 : f41 ≤ 49 := by omega
                  refine zw_7 zr_161_85 rfl ?_
                  refine zw_43 zr_161_86 rfl ?_
                  refine zw_46i zr_161_87 ef41 rfl rfl rfl ?_
                  refine zw_push zr_161_90 ?_
                  refine zw_16 zr_161_91 (by omega) ?_
                  refine zw_47 (c := 69) zr_161_92 rfl ⟨rfl, by decide, rfl⟩ ?_
                  intro m260 em260
                  have hIm260 : zInv m260 := by rw [em260]; exact hIm39.bd (r := 69) (k := 6) (lo := 0) (hi := 50) rfl (by omega) (by decide) (by decide) (by decide)
                  have hFm260 : zFr W_161 m0 m260 := by rw [em260]; exact hFm39.up rfl
                  have km260_69_7 : m260 69 7 = p10 := by rw [em260, zUp_ne (by omega)]; exact km39_69_7
                  have km260_69_9 : m260 69 9 = p11 := by rw [em260, zUp_ne (by omega)]; exact km39_69_9
                  have km260_69_11 : m260 69 11 = p12 := by rw [em260, zUp_ne (by omega)]; exact km39_69_11
                  have km260_69_6 : m260 69 6 = (f41 + 1) := by rw [em260]; exact zUp_eq _ _ _ _
                  have fm260_74 : m260 74 = f13 := by rw [em260, zUp_fn (by decide)]; exact fm39_74
                  clear em260
                  refine zw_7 zr_161_95 rfl ?_
                  refine zw_7 zr_161_96 rfl ?_
                  refine zw_46r (s := 75) zr_161_97 rfl rfl rfl rfl ?_
                  refine zw_4 zr_161_100 rfl ?_
                  refine zw_C zr_161_102 (Or.inr rfl) zm_159 rfl rfl ⟨Nat.le_of_ble_eq_true rfl, Nat.le_of_ble_eq_true rfl, Nat.le_of_ble_eq_true rfl, rfl, by decide⟩ (by omega) (th_159 (d := d - 1) (by omega) hIm260 (a0 := r40)      (by omega) ) ?_
                  rintro _ _ ⟨r261, rfl, hr261a, hr261b, rfl, po0_r261, po1_r261⟩
                  show zW E (d) 161 105 [(2, 69), (0, i5), (0, i6), (0, i7), (0, r40)] [(0, r261), (2, 75), (2, 69)] m260 Q
                  refine zw_50 (c := 75) (len := 6) zr_161_105 rfl rfl (by omega) (by omega) ?_
                  intro x262 ex262
                  have bx262 := hIm260.rl (c := 75) (len := 6) (k := (r261).toNat) rfl (by omega)
                  rw [← ex262] at bx262
                  clear ex262
                  refine zw_C zr_161_106 (Or.inl rfl) zm_158 rfl rfl ⟨Nat.le_of_ble_eq_true rfl, Nat.le_of_ble_eq_true rfl, Nat.le_of_ble_eq_true rfl, rfl, by decide⟩ (by omega) (th_158 (d := d - 1) (by omega) hIm260 (a0 := x262) (g0 := p12) (g1 := p11)  (F74 := f13) km260_69_11 km260_69_9 fm260_74 (by omega) (by omega)) ?_
                  rintro _ m263 ⟨rfl, hIm263, gm263, po0_m263, po1_m263, po2_m263, po3_m263⟩
                  have hFm263 : zFr W_161 m0 m263 := hFm260.trans gm263 rfl
                  have km263_69_7 : m263 69 7 = p10 := (gm263 69 7 rfl).trans km260_69_7
                  have km263_69_6 : m263 69 6 = (f41 + 1) := (gm263 69 6 rfl).trans km260_69_6
                  have fm263_74 : m263 74 = f13 := (funext fun k => gm263 74 k rfl).trans fm260_74
                  obtain ⟨f264, ef264⟩ : ∃ v, m263 69 11 = v := ⟨_, rfl⟩
                  have bf264 := ib_69_11 hIm263
                  rw [ef264] at bf264
                  rw [ef264] at po0_m263
                  rw [ef264] at po1_m263
                  rw [ef264] at po2_m263
                  show zW E (d) 161 109 [(2, 69), (0, i5), (0, i6), (0, i7), (0, r40)] [] m263 Q
                  have z265 := cB_nn f13 (f264).toNat
                  refine zw_push zr_161_109 ?_
                  refine zw_9 (L' := [(2, 69), (0, i5), (0, 0), (0, i7), (0, r40)]) zr_161_110 (Nat.le_of_ble_eq_true rfl) rfl ?_
                  refine zw_42 zr_161_111 ?_
                  refine zw_42 zr_161_485 ?_
                  exact zw_less (L := [(2, 69), (0, i5), (0, 0), (0, i7), (9, 0)]) ⟨Or.inr rfl, Or.inr rfl, Or.inr rfl, Or.inr rfl, Or.inl rfl, trivial⟩ (ihlp26_14 (i5) (0) (i7) ((f41 + 1)) (p10) ((p11 + 1)) (f264) (f13) m263 hIm263 hFm263  km263_69_6 km263_69_7 po3_m263 ef264 fm263_74 (by omega) (by omega) (by omega) (by omega) (by omega) (by omega) (by omega) (by omega) (by omega) (by omega) (by omega) (by omega) (by omega) (by omega) (by omega) (by omega) (by omega) (by omega) (by omega))
              · intro h266; omega
            · intro h267
              refine zw_5 zr_140_6 rfl ?_
              refine zw_6 zr_140_7 rfl ?_
              refine zw_39_2 zr_140_9 zr_140_10 ?_ ?_
              · intro h268
                refine zw_push zr_140_17 ?_
                refine zw_R zr_140_18 (by decide) zm_140 (v := (0, 0)) (zRetB (by omega)) ?_
                rw [← hQ1]
                show zW E (d) 161 60 [(2, 69), (0, i5), (0, i6), (0, i7), (0, r40)] [(0, 0)] m39 Q
                refine zw_40_1 zr_161_60 ?_ ?_
                · intro h269
                  refine zw_4 zr_161_76 rfl ?_
                  refine zw_C zr_161_78 (Or.inr rfl) zm_159 rfl rfl ⟨Nat.le_of_ble_eq_true rfl, Nat.le_of_ble_eq_true rfl, Nat.le_of_ble_eq_true rfl, rfl, by decide⟩ (by omega) (th_159 (d := d - 1) (by omega) hIm39 (a0 := r40)      (by omega) ) ?_
                  rintro _ _ ⟨r270, rfl, hr270a, hr270b, rfl, po0_r270, po1_r270⟩
                  show zW E (d) 161 81 [(2, 69), (0, i5), (0, i6), (0, i7), (0, r40)] [(0, r270)] m39 Q
                  refine zw_push zr_161_81 ?_
                  refine zw_41_1 zr_161_82 ?_ ?_
                  · intro h271
                    refine zw_4 zr_161_114 rfl ?_
                    refine zw_push zr_161_116 ?_
                    refine zw_41_1 zr_161_118 ?_ ?_
                    · intro h272; omega
                    · intro h273
                      refine zw_4 zr_161_121 rfl ?_
                      refine zw_push zr_161_123 ?_
                      refine zw_41_4 zr_161_125 ?_ ?_
                      · intro h274
                        refine zw_4 zr_161_176 rfl ?_
                        refine zw_push zr_161_178 ?_
                        refine zw_41_4 zr_161_180 ?_ ?_
                        · intro h275
                          refine zw_7 zr_161_227 rfl ?_
                          refine zw_push zr_161_228 ?_
                          refine zw_7 zr_161_230 rfl ?_
                          refine zw_46i zr_161_231 ef41 rfl rfl rfl ?_
                          refine zw_18 zr_161_234 (by omega) ?_
                          refine zw_4 zr_161_235 rfl ?_
                          refine zw_push zr_161_237 ?_
                          refine zw_41_4 zr_161_239 ?_ ?_
                          · intro h276
                            refine zw_push zr_161_246 ?_
                            refine zw_16 zr_161_247 (by omega) ?_
                            refine zw_47 (c := 69) zr_161_248 rfl ⟨rfl, by decide, rfl⟩ ?_
                            intro m277 em277
                            have hIm277 : zInv m277 := by rw [em277]; exact hIm39.any (by omega) rfl (by decide) (by decide)
                            have hFm277 : zFr W_161 m0 m277 := by rw [em277]; exact hFm39.up rfl
                            have km277_69_9 : m277 69 9 = p11 := by rw [em277, zUp_ne (by omega)]; exact km39_69_9
                            have km277_69_11 : m277 69 11 = p12 := by rw [em277, zUp_ne (by omega)]; exact km39_69_11
                            have km277_69_6 : m277 69 6 = f41 := by rw [em277, zUp_ne (by omega)]; exact ef41
                            have km277_69_7 : m277 69 7 = ((10 * f41) + 1) := by rw [em277]; exact zUp_eq _ _ _ _
                            have fm277_74 : m277 74 = f13 := by rw [em277, zUp_fn (by decide)]; exact fm39_74
                            clear em277
                            refine zw_42 zr_161_251 ?_
                            refine zw_42 zr_161_485 ?_
                            exact zw_less (L := [(2, 69), (0, i5), (0, i6), (0, i7), (9, 0)]) ⟨Or.inr rfl, Or.inr rfl, Or.inr rfl, Or.inr rfl, Or.inl rfl, trivial⟩ (ihlp26_14 (i5) (i6) (i7) (f41) (((10 * f41) + 1)) (p11) (p12) (f13) m277 hIm277 hFm277  km277_69_6 km277_69_7 km277_69_9 km277_69_11 fm277_74 (by omega) (by omega) (by omega) (by omega) (by omega) (by omega) (by omega) (by omega) (by omega) (by omega) (by omega) (by omega) (by omega) (by omega) (by omega) (by omega) (by omega) (by omega) (by omega))
                          · intro h278; omega
                        · intro h279; omega
                      · intro h280; omega
                  · intro h281
                    have z282 : f41 ≤ 49 := by omega
                    refine zw_7 zr_161_85 rfl ?_
                    refine zw_43 zr_161_86 rfl ?_
                    refine zw_46i zr_161_87 ef41 rfl rfl rfl ?_
                    refine zw_push zr_161_90 ?_
                    refine zw_16 zr_161_91 (by omega) ?_
                    refine zw_47 (c := 69) zr_161_92 rfl ⟨rfl, by decide, rfl⟩ ?_
                    intro m283 em283
                    have hIm283 : zInv m283 := by rw [em283]; exact hIm39.bd (r := 69) (k := 6) (lo := 0) (hi := 50) rfl (by omega) (by decide) (by decide) (by decide)
                    have hFm283 : zFr W_161 m0 m283 := by rw [em283]; exact hFm39.up rfl
                    have km283_69_7 : m283 69 7 = p10 := by rw [em283, zUp_ne (by omega)]; exact km39_69_7
                    have km283_69_9 : m283 69 9 = p11 := by rw [em283, zUp_ne (by omega)]; exact km39_69_9
                    have km283_69_11 : m283 69 11 = p12 := by rw [em283, zUp_ne (by omega)]; exact km39_69_11
                    have km283_69_6 : m283 69 6 = (f41 + 1) := by rw [em283]; exact zUp_eq _ _ _ _
                    have fm283_74 : m283 74 = f13 := by rw [em283, zUp_fn (by decide)]; exact fm39_74
                    clear em283
                    refine zw_7 zr_161_95 rfl ?_
                    refine zw_7 zr_161_96 rfl ?_
                    refine zw_46r (s := 75) zr_161_97 rfl rfl rfl rfl ?_
                    refine zw_4 zr_161_100 rfl ?_
                    refine zw_C zr_161_102 (Or.inr rfl) zm_159 rfl rfl ⟨Nat.le_of_ble_eq_true rfl, Nat.le_of_ble_eq_true rfl, Nat.le_of_ble_eq_true rfl, rfl, by decide⟩ (by omega) (th_159 (d := d - 1) (by omega) hIm283 (a0 := r40)      (by omega) ) ?_
                    rintro _ _ ⟨r284, rfl, hr284a, hr284b, rfl, po0_r284, po1_r284⟩
                    show zW E (d) 161 105 [(2, 69), (0, i5), (0, i6), (0, i7), (0, r40)] [(0, r284), (2, 75), (2, 69)] m283 Q
                    refine zw_50 (c := 75) (len := 6) zr_161_105 rfl rfl (by omega) (by omega) ?_
                    intro x285 ex285
                    have bx285 := hIm283.rl (c := 75) (len := 6) (k := (r284).toNat) rfl (by omega)
                    rw [← ex285] at bx285
                    clear ex285
                    refine zw_C zr_161_106 (Or.inl rfl) zm_158 rfl rfl ⟨Nat.le_of_ble_eq_true rfl, Nat.le_of_ble_eq_true rfl, Nat.le_of_ble_eq_true rfl, rfl, by decide⟩ (by omega) (th_158 (d := d - 1) (by omega) hIm283 (a0 := x285) (g0 := p12) (g1 := p11)  (F74 := f13) km283_69_11 km283_69_9 fm283_74 (by omega) (by omega)) ?_
                    rintro _ m286 ⟨rfl, hIm286, gm286, po0_m286, po1_m286, po2_m286, po3_m286⟩
                    have hFm286 : zFr W_161 m0 m286 := hFm283.trans gm286 rfl
                    have km286_69_7 : m286 69 7 = p10 := (gm286 69 7 rfl).trans km283_69_7
                    have km286_69_6 : m286 69 6 = (f41 + 1) := (gm286 69 6 rfl).trans km283_69_6
                    have fm286_74 : m286 74 = f13 := (funext fun k => gm286 74 k rfl).trans fm283_74
                    obtain ⟨f287, ef287⟩ : ∃ v, m286 69 11 = v := ⟨_, rfl⟩
                    have bf287 := ib_69_11 hIm286
                    rw [ef287] at bf287
                    rw [ef287] at po0_m286
                    rw [ef287] at po1_m286
                    rw [ef287] at po2_m286
                    show zW E (d) 161 109 [(2, 69), (0, i5), (0, i6), (0, i7), (0, r40)] [] m286 Q
                    have z288 := cB_nn f13 (f287).toNat
                    refine zw_push zr_161_109 ?_
                    refine zw_9 (L' := [(2, 69), (0, i5), (0, 0), (0, i7), (0, r40)]) zr_161_110 (Nat.le_of_ble_eq_true rfl) rfl ?_
                    refine zw_42 zr_161_111 ?_
                    refine zw_42 zr_161_485 ?_
                    exact zw_less (L := [(2, 69), (0, i5), (0, 0), (0, i7), (9, 0)]) ⟨Or.inr rfl, Or.inr rfl, Or.inr rfl, Or.inr rfl, Or.inl rfl, trivial⟩ (ihlp26_14 (i5) (0) (i7) ((f41 + 1)) (p10) ((p11 + 1)) (f287) (f13) m286 hIm286 hFm286  km286_69_6 km286_69_7 po3_m286 ef287 fm286_74 (by omega) (by omega) (by omega) (by omega) (by omega) (by omega) (by omega) (by omega) (by omega) (by omega) (by omega) (by omega) (by omega) (by omega) (by omega) (by omega) (by omega) (by omega) (by omega))
                · intro h289; omega
              · intro h290
                refine zw_push zr_140_13 ?_
                refine zw_42 zr_140_14 ?_
                refine zw_R zr_140_18 (by decide) zm_140 (v := (0, 1)) (zRetB (by omega)) ?_
                rw [← hQ1]
                show zW E (d) 161 60 [(2, 69), (0, i5), (0, i6), (0, i7), (0, r40)] [(0, 1)] m39 Q
                refine zw_40_1 zr_161_60 ?_ ?_
                · intro h291; omega
                · intro h292
                  refine zw_7 zr_161_63 rfl ?_
                  refine zw_7 zr_161_64 rfl ?_
                  refine zw_C zr_161_65 (Or.inl rfl) zm_160 rfl rfl ⟨Nat.le_of_ble_eq_true rfl, Nat.le_of_ble_eq_true rfl, Nat.le_of_ble_eq_true rfl, rfl, by decide⟩ (by omega) (th_160 (d := d - 1) (by omega) hIm39  (g0 := f41) (g1 := p10)   ef41 km39_69_7   ) ?_
                  rintro _ m293 ⟨r294, rfl, hr294a, hr294b, hIm293, gm293, po0_r294, po1_r294⟩
                  have hFm293 : zFr W_161 m0 m293 := hFm39.trans gm293 rfl
                  have km293_69_9 : m293 69 9 = p11 := (gm293 69 9 rfl).trans km39_69_9
                  have km293_69_11 : m293 69 11 = p12 := (gm293 69 11 rfl).trans km39_69_11
                  have fm293_74 : m293 74 = f13 := (funext fun k => gm293 74 k rfl).trans fm39_74
                  obtain ⟨f295, ef295⟩ : ∃ v, m293 69 6 = v := ⟨_, rfl⟩
                  have bf295 := ib_69_6 hIm293
                  rw [ef295] at bf295
                  rw [ef295] at po0_r294
                  obtain ⟨f296, ef296⟩ : ∃ v, m293 69 7 = v := ⟨_, rfl⟩
                  have bf296 := hIm293.fi (c := 69) (k := 7) rfl
                  rw [ef296] at bf296
                  rw [ef296] at po1_r294
                  show zW E (d) 161 68 [(2, 69), (0, i5), (0, i6), (0, i7), (0, r40)] [(1, r294), (2, 69)] m293 Q
                  refine zw_C zr_161_68 (Or.inl rfl) zm_158 rfl rfl ⟨Nat.le_of_ble_eq_true rfl, Nat.le_of_ble_eq_true rfl, Nat.le_of_ble_eq_true rfl, rfl, by decide⟩ (by omega) (th_158 (d := d - 1) (by omega) hIm293 (a0 := r294) (g0 := p12) (g1 := p11)  (F74 := f13) km293_69_11 km293_69_9 fm293_74 (by omega) (by omega)) ?_
                  rintro _ m297 ⟨rfl, hIm297, gm297, po0_m297, po1_m297, po2_m297, po3_m297⟩
                  have hFm297 : zFr W_161 m0 m297 := hFm293.trans gm297 rfl
                  have km297_69_6 : m297 69 6 = f295 := (gm297 69 6 rfl).trans ef295
                  have km297_69_7 : m297 69 7 = f296 := (gm297 69 7 rfl).trans ef296
                  have fm297_74 : m297 74 = f13 := (funext fun k => gm297 74 k rfl).trans fm293_74
                  obtain ⟨f298, ef298⟩ : ∃ v, m297 69 11 = v := ⟨_, rfl⟩
                  have bf298 := ib_69_11 hIm297
                  rw [ef298] at bf298
                  rw [ef298] at po0_m297
                  rw [ef298] at po1_m297
                  rw [ef298] at po2_m297
                  show zW E (d) 161 71 [(2, 69), (0, i5), (0, i6), (0, i7), (0, r40)] [] m297 Q
                  have z299 := cB_nn f13 (f298).toNat
                  refine zw_push zr_161_71 ?_
                  refine zw_9 (L' := [(2, 69), (0, i5), (0, 0), (0, i7), (0, r40)]) zr_161_72 (Nat.le_of_ble_eq_true rfl) rfl ?_
                  refine zw_42 zr_161_73 ?_
                  refine zw_42 zr_161_485 ?_
                  exact zw_less (L := [(2, 69), (0, i5), (0, 0), (0, i7), (9, 0)]) ⟨Or.inr rfl, Or.inr rfl, Or.inr rfl, Or.inr rfl, Or.inl rfl, trivial⟩ (ihlp26_14 (i5) (0) (i7) (f295) (f296) ((p11 + 1)) (f298) (f13) m297 hIm297 hFm297  km297_69_6 km297_69_7 po3_m297 ef298 fm297_74 (by omega) (by omega) (by omega) (by omega) (by omega) (by omega) (by omega) (by omega) (by omega) (by omega) (by omega) (by omega) (by omega) (by omega) (by omega) (by omega) (by omega) (by omega) (by omega))
  exact lp26_14 _ (0) (1) (1) (0) ((-1)) (0) (0) (F74) m4 hIm4 hFm4  km4_69_6 km4_69_7 km4_69_9 km4_69_11 fm4_74 (by omega) (by omega) (by omega) (by omega) (by omega) (by omega) (by omega) (by omega) (by omega) (by omega) (by omega) (by omega) (by omega) (by omega) (by omega) (by have := cB_nn F74 (Int.toNat 0); omega) (by omega) (by have := cB_nn F74 (Int.toNat 0); omega) (Nat.lt_succ_self _)
