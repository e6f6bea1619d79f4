abbrev W_15_1 : List (Nat × Nat) := [(45, 1), (45, 5), (45, 6), (45, 7), (45, 8), (47, 1000), (48, 1000)]
set_option maxHeartbeats 8000000 in
theorem th_15_1 {E : zE} {d : Nat} {m0 : zM} {a0 : Int} {F10 : Nat → Int} {F11 : Nat → Int} {F47 : Nat → Int} {F48 : Nat → Int} (hd : 93 ≤ d) (hI0 : zInv m0) (hG10 : m0 10 = F10) (hG11 : m0 11 = F11) (hG47 : m0 47 = F47) (hG48 : m0 48 = F48) (ha0 : 0 ≤ a0 ∧ a0 ≤ 3) : zC E d 15 [(2, 45), (2, 1), (0, a0)] m0 (fun v m' => v = (9, 0) ∧ zInv m' ∧ zFr W_15_1 m0 m' ∧ (zPc (chc F11 F10 a0) (m' 48) (m' 45 8) (m' 45 1))) := by
  have hF0 : zFr W_15_1 m0 m0 := zFr.rfl
  generalize hQ : (fun (v : zV) (m' : zM) => v = (9, 0) ∧ zInv m' ∧ zFr W_15_1 m0 m' ∧ (zPc (chc F11 F10 a0) (m' 48) (m' 45 8) (m' 45 1))) = Q
  show zW E d 15 0 [(2, 45), (2, 1), (0, a0)] [] m0 Q
  refine zw_7 zr_15_0 rfl ?_
  refine zw_7 zr_15_1 rfl ?_
  refine zw_46r (s := 10) zr_15_2 rfl rfl rfl rfl ?_
  refine zw_3 zr_15_5 rfl ?_
  refine zw_48 (c := 10) (len := 4) zr_15_6 rfl rfl (by omega) (by omega) ?_
  intro x1 ex1
  have bx1 := ib_10 hI0 (k := (a0).toNat) (by omega)
  rw [← ex1] at bx1
  have qx1 : x1 = F10 (a0).toNat := by rw [← hG10]; exact ex1
  clear ex1
  refine zw_47 (c := 45) zr_15_7 rfl ⟨rfl, by decide, rfl⟩ ?_
  intro m2 em2
  have hIm2 : zInv m2 := by rw [em2]; exact hI0.bd (r := 45) (k := 5) (lo := 0) (hi := 50) rfl (by omega) (by decide) (by decide) (by decide)
  have hFm2 : zFr W_15_1 m0 m2 := by rw [em2]; exact hF0.up rfl
  have km2_45_5 : m2 45 5 = x1 := by rw [em2]; exact zUp_eq _ _ _ _
  have fm2_10 : m2 10 = F10 := by rw [em2, zUp_fn (by decide)]; exact hG10
  have fm2_11 : m2 11 = F11 := by rw [em2, zUp_fn (by decide)]; exact hG11
  have fm2_47 : m2 47 = F47 := by rw [em2, zUp_fn (by decide)]; exact hG47
  have fm2_48 : m2 48 = F48 := by rw [em2, zUp_fn (by decide)]; exact hG48
  clear em2
  refine zw_7 zr_15_10 rfl ?_
  refine zw_46r (s := 11) zr_15_11 rfl rfl rfl rfl ?_
  refine zw_3 zr_15_14 rfl ?_
  refine zw_push zr_15_15 ?_
  refine zw_18 zr_15_17 (by omega) ?_
  refine zw_7 zr_15_18 rfl ?_
  refine zw_46r (s := 47) zr_15_19 rfl rfl rfl rfl ?_
  refine zw_push zr_15_22 ?_
  refine zw_7 zr_15_23 rfl ?_
  refine zw_46i zr_15_24 km2_45_5 rfl rfl rfl ?_
  refine zw_114 (c1 := 47) (c2 := 11) (l1 := 50) (l2 := 200) zr_15_27 rfl rfl rfl rfl (by decide) (Nat.le_of_ble_eq_true rfl) (by omega) (by omega) ?_
  intro m3 em3
  have hIm3 : zInv m3 := by rw [em3]; exact zInv.cpT hIm2 (by omega)
  have hFm3 : zFr W_15_1 m0 m3 := by rw [em3]; exact hFm2.cp rfl
  have km3_45_5 : m3 45 5 = x1 := by rw [em3, zCp_ne (by decide)]; exact km2_45_5
  have fm3_10 : m3 10 = F10 := by rw [em3, zCp_fn (by decide)]; exact fm2_10
  have fm3_11 : m3 11 = F11 := by rw [em3, zCp_fn (by decide)]; exact fm2_11
  have fm3_47 : m3 47 = zCo F47 F11 ((a0 * 50)).toNat (x1).toNat := by rw [em3]; exact (zCp_fo (m := m2) (c1 := 47) (c2 := 11) (s := ((a0 * 50)).toNat) (n := (x1).toNat) rfl).trans (by rw [fm2_47, fm2_11])
  have fm3_48 : m3 48 = F48 := by rw [em3, zCp_fn (by decide)]; exact fm2_48
  clear em3
  refine zw_7 zr_15_30 rfl ?_
  refine zw_push zr_15_31 ?_
  refine zw_47 (c := 45) zr_15_32 rfl ⟨rfl, by decide, rfl⟩ ?_
  intro m4 em4
  have hIm4 : zInv m4 := by rw [em4]; exact hIm3.bd (r := 45) (k := 6) (lo := 0) (hi := 50) rfl (by omega) (by decide) (by decide) (by decide)
  have hFm4 : zFr W_15_1 m0 m4 := by rw [em4]; exact hFm3.up rfl
  have km4_45_5 : m4 45 5 = x1 := by rw [em4, zUp_ne (by omega)]; exact km3_45_5
  have km4_45_6 : m4 45 6 = 0 := by rw [em4]; exact zUp_eq _ _ _ _
  have fm4_10 : m4 10 = F10 := by rw [em4, zUp_fn (by decide)]; exact fm3_10
  have fm4_11 : m4 11 = F11 := by rw [em4, zUp_fn (by decide)]; exact fm3_11
  have fm4_47 : m4 47 = zCo F47 F11 ((a0 * 50)).toNat (x1).toNat := by rw [em4, zUp_fn (by decide)]; exact fm3_47
  have fm4_48 : m4 48 = F48 := by rw [em4, zUp_fn (by decide)]; exact fm3_48
  clear em4
  refine zw_7 zr_15_35 rfl ?_
  refine zw_push zr_15_36 ?_
  refine zw_47 (c := 45) zr_15_37 rfl ⟨rfl, by decide, rfl⟩ ?_
  intro m5 em5
  have hIm5 : zInv m5 := by rw [em5]; exact hIm4.bd (r := 45) (k := 7) (lo := 0) (hi := 8) rfl (by omega) (by decide) (by decide) (by decide)
  have hFm5 : zFr W_15_1 m0 m5 := by rw [em5]; exact hFm4.up rfl
  have km5_45_5 : m5 45 5 = x1 := by rw [em5, zUp_ne (by omega)]; exact km4_45_5
  have km5_45_6 : m5 45 6 = 0 := by rw [em5, zUp_ne (by omega)]; exact km4_45_6
  have km5_45_7 : m5 45 7 = 0 := by rw [em5]; exact zUp_eq _ _ _ _
  have fm5_10 : m5 10 = F10 := by rw [em5, zUp_fn (by decide)]; exact fm4_10
  have fm5_11 : m5 11 = F11 := by rw [em5, zUp_fn (by decide)]; exact fm4_11
  have fm5_47 : m5 47 = zCo F47 F11 ((a0 * 50)).toNat (x1).toNat := by rw [em5, zUp_fn (by decide)]; exact fm4_47
  have fm5_48 : m5 48 = F48 := by rw [em5, zUp_fn (by decide)]; exact fm4_48
  clear em5
  refine zw_7 zr_15_40 rfl ?_
  refine zw_push zr_15_41 ?_
  refine zw_47 (c := 45) zr_15_42 rfl ⟨rfl, by decide, rfl⟩ ?_
  intro m6 em6
  have hIm6 : zInv m6 := by rw [em6]; exact hIm5.bd (r := 45) (k := 8) (lo := 0) (hi := 50) rfl (by omega) (by decide) (by decide) (by decide)
  have hFm6 : zFr W_15_1 m0 m6 := by rw [em6]; exact hFm5.up rfl
  have km6_45_5 : m6 45 5 = x1 := by rw [em6, zUp_ne (by omega)]; exact km5_45_5
  have km6_45_6 : m6 45 6 = 0 := by rw [em6, zUp_ne (by omega)]; exact km5_45_6
  have km6_45_7 : m6 45 7 = 0 := by rw [em6, zUp_ne (by omega)]; exact km5_45_7
  have km6_45_8 : m6 45 8 = 0 := by rw [em6]; exact zUp_eq _ _ _ _
  have fm6_10 : m6 10 = F10 := by rw [em6, zUp_fn (by decide)]; exact fm5_10
  have fm6_11 : m6 11 = F11 := by rw [em6, zUp_fn (by decide)]; exact fm5_11
  have fm6_47 : m6 47 = zCo F47 F11 ((a0 * 50)).toNat (x1).toNat := by rw [em6, zUp_fn (by decide)]; exact fm5_47
  have fm6_48 : m6 48 = F48 := by rw [em6, zUp_fn (by decide)]; exact fm5_48
  clear em6
  refine zw_7 zr_15_45 rfl ?_
  refine zw_push zr_15_46 ?_
  refine zw_47 (c := 45) zr_15_47 rfl ⟨rfl, by decide, rfl⟩ ?_
  intro m7 em7
  have hIm7 : zInv m7 := by rw [em7]; exact hIm6.any (by omega) rfl (by decide) (by decide)
  have hFm7 : zFr W_15_1 m0 m7 := by rw [em7]; exact hFm6.up rfl
  have km7_45_5 : m7 45 5 = x1 := by rw [em7, zUp_ne (by omega)]; exact km6_45_5
  have km7_45_6 : m7 45 6 = 0 := by rw [em7, zUp_ne (by omega)]; exact km6_45_6
  have km7_45_7 : m7 45 7 = 0 := by rw [em7, zUp_ne (by omega)]; exact km6_45_7
  have km7_45_8 : m7 45 8 = 0 := by rw [em7, zUp_ne (by omega)]; exact km6_45_8
  have km7_45_1 : m7 45 1 = (-1) := by rw [em7]; exact zUp_eq _ _ _ _
  have fm7_10 : m7 10 = F10 := by rw [em7, zUp_fn (by decide)]; exact fm6_10
  have fm7_11 : m7 11 = F11 := by rw [em7, zUp_fn (by decide)]; exact fm6_11
  have fm7_47 : m7 47 = zCo F47 F11 ((a0 * 50)).toNat (x1).toNat := by rw [em7, zUp_fn (by decide)]; exact fm6_47
  have fm7_48 : m7 48 = F48 := by rw [em7, zUp_fn (by decide)]; exact fm6_48
  clear em7
  have hch := chc_co (F0 := F47) (F11 := F11) (F10 := F10) (a := a0) (s := (a0 * 50).toNat) (n := (x1).toNat) qx1 (by omega)
  refine zw_7 zr_15_50 rfl ?_
  refine zw_push zr_15_51 ?_
  refine zw_C zr_15_52 (Or.inl rfl) zm_13 rfl rfl ⟨Nat.le_of_ble_eq_true rfl, Nat.le_of_ble_eq_true rfl, Nat.le_of_ble_eq_true rfl, rfl, by decide⟩ (by omega) (th_13 (d := d - 1) (by omega) hIm7 (a0 := 0) (g0 := 0) (g1 := 0) (g2 := (-1)) (g3 := 0) (g4 := x1)  (F47 := zCo F47 F11 ((a0 * 50)).toNat (x1).toNat) (F48 := F48) km7_45_7 km7_45_6 km7_45_1 km7_45_8 km7_45_5 fm7_47 fm7_48 (by omega) (by omega) (by omega)) ?_
  rintro _ m9 ⟨rfl, hIm9, gm9, po0_m9, po1_m9, po2_m9, po3_m9, po4_m9⟩
  have hFm9 : zFr W_15_1 m0 m9 := hFm7.trans gm9 rfl
  have km9_45_5 : m9 45 5 = x1 := (gm9 45 5 rfl).trans km7_45_5
  have fm9_10 : m9 10 = F10 := (funext fun k => gm9 10 k rfl).trans fm7_10
  have fm9_11 : m9 11 = F11 := (funext fun k => gm9 11 k rfl).trans fm7_11
  have fm9_47 : m9 47 = zCo F47 F11 ((a0 * 50)).toNat (x1).toNat := (funext fun k => gm9 47 k rfl).trans fm7_47
  obtain ⟨f10, fm9_48⟩ : ∃ f, m9 48 = f := ⟨_, rfl⟩
  try rw [fm9_48] at po0_m9
  try rw [fm9_48] at po1_m9
  obtain ⟨f11, ef11⟩ : ∃ v, m9 45 1 = v := ⟨_, rfl⟩
  have bf11 := hIm9.fi (c := 45) (k := 1) rfl
  rw [ef11] at bf11
  rw [ef11] at po0_m9
  rw [ef11] at po2_m9
  obtain ⟨f12, ef12⟩ : ∃ v, m9 45 6 = v := ⟨_, rfl⟩
  have bf12 := ib_45_6 hIm9
  rw [ef12] at bf12
  rw [ef12] at po0_m9
  rw [ef12] at po2_m9
  rw [ef12] at po3_m9
  obtain ⟨f13, ef13⟩ : ∃ v, m9 45 8 = v := ⟨_, rfl⟩
  have bf13 := ib_45_8 hIm9
  rw [ef13] at bf13
  rw [ef13] at po0_m9
  rw [ef13] at po2_m9
  rw [ef13] at po3_m9
  show zW E (d) 15 55 [(2, 45), (2, 1), (0, a0)] [] m9 Q
  refine zw_7 zr_15_55 rfl ?_
  refine zw_46i zr_15_56 ef11 rfl rfl rfl ?_
  refine zw_push zr_15_59 ?_
  refine zw_41_4 zr_15_60 ?_ ?_
  · intro h14
    refine zw_R zr_15_76 (by decide) zm_15 (v := (9, 0)) rfl ?_
    rw [← hQ]; exact ⟨rfl, hIm9, hFm9, by rw [fm9_48, ef13, ef11, ← hch]; first | exact zPc_b po0_m9 (by omega) | exact zPc_y po0_m9 zz (by omega) (by omega) | exact zPc_n po0_m9 zz (by omega) (by omega) | (exfalso; omega)⟩
  · intro h16
    refine zw_7 zr_15_63 rfl ?_
    refine zw_C zr_15_64 (Or.inl rfl) zm_6 rfl rfl ⟨Nat.le_of_ble_eq_true rfl, Nat.le_of_ble_eq_true rfl, Nat.le_of_ble_eq_true rfl, rfl, by decide⟩ (by omega) (th_6 (d := d - 1) (by omega) hIm9  (g0 := f12) (g1 := f11) (g2 := x1)  (F47 := zCo F47 F11 ((a0 * 50)).toNat (x1).toNat) ef12 ef11 km9_45_5 fm9_47  (by omega)) ?_
    rintro _ m17 ⟨r18, rfl, hr18a, hr18b, hIm17, gm17, po0_r18, po1_r18, po2_r18, po3_r18, po4_r18⟩
    have hFm17 : zFr W_15_1 m0 m17 := hFm9.trans gm17 rfl
    have km17_45_5 : m17 45 5 = x1 := (gm17 45 5 rfl).trans km9_45_5
    have km17_45_7 : m17 45 7 = 0 := (gm17 45 7 rfl).trans po4_m9
    have km17_45_1 : m17 45 1 = f11 := (gm17 45 1 rfl).trans ef11
    have km17_45_8 : m17 45 8 = f13 := (gm17 45 8 rfl).trans ef13
    have fm17_10 : m17 10 = F10 := (funext fun k => gm17 10 k rfl).trans fm9_10
    have fm17_11 : m17 11 = F11 := (funext fun k => gm17 11 k rfl).trans fm9_11
    have fm17_47 : m17 47 = zCo F47 F11 ((a0 * 50)).toNat (x1).toNat := (funext fun k => gm17 47 k rfl).trans fm9_47
    have fm17_48 : m17 48 = f10 := (funext fun k => gm17 48 k rfl).trans fm9_48
    obtain ⟨f19, ef19⟩ : ∃ v, m17 45 6 = v := ⟨_, rfl⟩
    have bf19 := ib_45_6 hIm17
    rw [ef19] at bf19
    rw [ef19] at po0_r18
    rw [ef19] at po1_r18
    rw [ef19] at po2_r18
    rw [ef19] at po3_r18
    show zW E (d) 15 67 [(2, 45), (2, 1), (0, a0)] [(0, r18)] m17 Q
    refine zw_push zr_15_67 ?_
    refine zw_41_1 zr_15_68 ?_ ?_
    · intro h20
      refine zw_R zr_15_76 (by decide) zm_15 (v := (9, 0)) rfl ?_
      rw [← hQ]; exact ⟨rfl, hIm17, hFm17, by rw [fm17_48, km17_45_8, km17_45_1, ← hch]; first | exact zPc_b po0_m9 (by omega) | exact zPc_y po0_m9 po1_r18 (by omega) (by omega) | exact zPc_n po0_m9 po1_r18 (by omega) (by omega) | (exfalso; omega)⟩
    · intro h22
      refine zw_7 zr_15_71 rfl ?_
      refine zw_push zr_15_72 ?_
      refine zw_C zr_15_73 (Or.inl rfl) zm_5 rfl rfl ⟨Nat.le_of_ble_eq_true rfl, Nat.le_of_ble_eq_true rfl, Nat.le_of_ble_eq_true rfl, rfl, by decide⟩ (by omega) (P := (fun v m' => zW E (d) 15 76 [(2, 45), (2, 1), (0, a0)] (if v.1 = 9 then [] else v :: []) m' Q)) ?_ (fun _ _ h => h)
      generalize hQ1 : (fun v m' => zW E (d) 15 76 [(2, 45), (2, 1), (0, a0)] (if v.1 = 9 then [] else v :: []) m' Q) = Q1
      show zW E (d - 1) 5 0 [(2, 45), (0, 1)] [] m17 Q1
      refine zw_7 zr_5_0 rfl ?_
      refine zw_46i zr_5_1 km17_45_1 rfl rfl rfl ?_
      refine zw_push zr_5_4 ?_
      refine zw_41_4 zr_5_5 ?_ ?_
      · intro h23; omega
      · intro h24
        refine zw_7 zr_5_8 rfl ?_
        refine zw_7 zr_5_9 rfl ?_
        refine zw_46i zr_5_10 ef19 rfl rfl rfl ?_
        refine zw_push zr_5_13 ?_
        refine zw_18 zr_5_15 (by omega) ?_
        refine zw_3 zr_5_16 rfl ?_
        refine zw_16 zr_5_17 (by omega) ?_
        refine zw_47 (c := 45) zr_5_18 rfl ⟨rfl, by decide, rfl⟩ ?_
        intro m25 em25
        have hIm25 : zInv m25 := by rw [em25]; exact hIm17.any (by omega) rfl (by decide) (by decide)
        have hFm25 : zFr W_15_1 m0 m25 := by rw [em25]; exact hFm17.up rfl
        have km25_45_5 : m25 45 5 = x1 := by rw [em25, zUp_ne (by omega)]; exact km17_45_5
        have km25_45_7 : m25 45 7 = 0 := by rw [em25, zUp_ne (by omega)]; exact km17_45_7
        have km25_45_8 : m25 45 8 = f13 := by rw [em25, zUp_ne (by omega)]; exact km17_45_8
        have km25_45_6 : m25 45 6 = f19 := by rw [em25, zUp_ne (by omega)]; exact ef19
        have km25_45_1 : m25 45 1 = ((f19 * 10) + 1) := by rw [em25]; exact zUp_eq _ _ _ _
        have fm25_10 : m25 10 = F10 := by rw [em25, zUp_fn (by decide)]; exact fm17_10
        have fm25_11 : m25 11 = F11 := by rw [em25, zUp_fn (by decide)]; exact fm17_11
        have fm25_47 : m25 47 = zCo F47 F11 ((a0 * 50)).toNat (x1).toNat := by rw [em25, zUp_fn (by decide)]; exact fm17_47
        have fm25_48 : m25 48 = f10 := by rw [em25, zUp_fn (by decide)]; exact fm17_48
        clear em25
        refine zw_R zr_5_21 (by decide) zm_5 (v := (9, 0)) rfl ?_
        rw [← hQ1]
        show zW E (d) 15 76 [(2, 45), (2, 1), (0, a0)] [] m25 Q
        refine zw_R zr_15_76 (by decide) zm_15 (v := (9, 0)) rfl ?_
        rw [← hQ]; exact ⟨rfl, hIm25, hFm25, by rw [fm25_48, km25_45_8, km25_45_1, ← hch]; first | exact zPc_b po0_m9 (by omega) | exact zPc_y po0_m9 po1_r18 (by omega) (by omega) | exact zPc_n po0_m9 po1_r18 (by omega) (by omega) | (exfalso; omega)⟩

abbrev W_40 : List (Nat × Nat) := [(45, 1), (45, 5), (45, 6), (45, 7), (45, 8), (47, 1000), (48, 1000)]
set_option maxHeartbeats 8000000 in
theorem th_40 {E : zE} {d : Nat} {m0 : zM} {a0 : Int} {F10 : Nat → Int} {F11 : Nat → Int} (hd : 94 ≤ d) (hI0 : zInv m0) (hG10 : m0 10 = F10) (hG11 : m0 11 = F11) (ha0 : 0 ≤ a0 ∧ a0 ≤ 3) : zC E d 40 [(2, 43), (0, a0)] m0 (fun v m' => ∃ r : Int, v = (0, r) ∧ (-2147483648) ≤ r ∧ r ≤ 2147483647 ∧ zInv m' ∧ zFr W_40 m0 m' ∧ (∃ f y, zPc (chc F11 F10 a0) f y r)) := by
  have hF0 : zFr W_40 m0 m0 := zFr.rfl
  generalize hQ : (fun (v : zV) (m' : zM) => ∃ r : Int, v = (0, r) ∧ (-2147483648) ≤ r ∧ r ≤ 2147483647 ∧ zInv m' ∧ zFr W_40 m0 m' ∧ (∃ f y, zPc (chc F11 F10 a0) f y r)) = Q
  show zW E d 40 0 [(2, 43), (0, a0)] [] m0 Q
  refine zw_7 zr_40_0 rfl ?_
  refine zw_46r (s := 45) zr_40_1 rfl rfl rfl rfl ?_
  refine zw_7 zr_40_4 rfl ?_
  refine zw_46r (s := 1) zr_40_5 rfl rfl rfl rfl ?_
  refine zw_3 zr_40_8 rfl ?_
  refine zw_C zr_40_9 (Or.inl rfl) zm_15 rfl rfl ⟨Nat.le_of_ble_eq_true rfl, Nat.le_of_ble_eq_true rfl, Nat.le_of_ble_eq_true rfl, rfl, by decide⟩ (by omega) (th_15_1 (d := d - 1) (by omega) hI0 (a0 := a0)   (F10 := F10) (F11 := F11) (F47 := m0 47) (F48 := m0 48)  hG10 hG11 rfl rfl (by omega) ) ?_
  rintro _ m1 ⟨rfl, hIm1, gm1, po0_m1⟩
  have hFm1 : zFr W_40 m0 m1 := hF0.trans gm1 rfl
  have fm1_10 : m1 10 = F10 := (funext fun k => gm1 10 k rfl).trans hG10
  have fm1_11 : m1 11 = F11 := (funext fun k => gm1 11 k rfl).trans hG11
  obtain ⟨f2, ef2⟩ : ∃ v, m1 45 1 = v := ⟨_, rfl⟩
  have bf2 := hIm1.fi (c := 45) (k := 1) rfl
  rw [ef2] at bf2
  rw [ef2] at po0_m1
  obtain ⟨f3, ef3⟩ : ∃ v, m1 45 8 = v := ⟨_, rfl⟩
  have bf3 := ib_45_8 hIm1
  rw [ef3] at bf3
  rw [ef3] at po0_m1
  show zW E (d) 40 12 [(2, 43), (0, a0)] [] m1 Q
  refine zw_7 zr_40_12 rfl ?_
  refine zw_46r (s := 45) zr_40_13 rfl rfl rfl rfl ?_
  refine zw_46i zr_40_16 ef2 rfl rfl rfl ?_
  refine zw_R zr_40_19 (by decide) zm_40 (v := (0, f2)) rfl ?_
  rw [← hQ]; exact ⟨_, rfl, by omega, by omega, hIm1, hFm1, ⟨_, _, po0_m1⟩⟩

abbrev W_108 : List (Nat × Nat) := [(45, 1), (45, 5), (45, 6), (45, 7), (45, 8), (47, 1000), (48, 1000)]
set_option maxHeartbeats 8000000 in
theorem th_108 {E : zE} {d : Nat} {m0 : zM} {a0 : Int} {F10 : Nat → Int} {F11 : Nat → Int} (hd : 95 ≤ d) (hI0 : zInv m0) (hG10 : m0 10 = F10) (hG11 : m0 11 = F11) (ha0 : (-2147483648) ≤ a0 ∧ a0 ≤ 2147483647) : zC E d 108 [(2, 0), (0, a0)] m0 (fun v m' => ∃ r : Int, v = (0, r) ∧ (-2147483648) ≤ r ∧ r ≤ 2147483647 ∧ zInv m' ∧ zFr W_108 m0 m' ∧ ((r = -2 ∧ (a0 < 0 ∨ 3 < a0)) ∨ ((0 ≤ a0 ∧ a0 ≤ 3) ∧ ∃ f y, zPc (chc F11 F10 a0) f y r))) := by
  have hF0 : zFr W_108 m0 m0 := zFr.rfl
  generalize hQ : (fun (v : zV) (m' : zM) => ∃ r : Int, v = (0, r) ∧ (-2147483648) ≤ r ∧ r ≤ 2147483647 ∧ zInv m' ∧ zFr W_108 m0 m' ∧ ((r = -2 ∧ (a0 < 0 ∨ 3 < a0)) ∨ ((0 ≤ a0 ∧ a0 ≤ 3) ∧ ∃ f y, zPc (chc F11 F10 a0) f y r))) = Q
  show zW E d 108 0 [(2, 0), (0, a0)] [] m0 Q
  refine zw_3 zr_108_0 rfl ?_
  refine zw_C zr_108_1 (Or.inr rfl) zm_104 rfl rfl ⟨Nat.le_of_ble_eq_true rfl, Nat.le_of_ble_eq_true rfl, Nat.le_of_ble_eq_true rfl, rfl, by decide⟩ (by omega) (P := (fun v m' => zW E (d) 108 4 [(2, 0), (0, a0)] (if v.1 = 9 then [] else v :: []) m' Q)) ?_ (fun _ _ h => h)
  generalize hQ1 : (fun v m' => zW E (d) 108 4 [(2, 0), (0, a0)] (if v.1 = 9 then [] else v :: []) m' Q) = Q1
  show zW E (d - 1) 104 0 [(0, a0)] [] m0 Q1
  refine zw_3 zr_104_0 rfl ?_
  refine zw_push zr_104_1 ?_
  refine zw_push zr_104_2 ?_
  refine zw_C zr_104_3 (Or.inr rfl) zm_100 rfl rfl ⟨Nat.le_of_ble_eq_true rfl, Nat.le_of_ble_eq_true rfl, Nat.le_of_ble_eq_true rfl, rfl, by decide⟩ (by omega) (P := (fun v m' => zW E (d - 1) 104 6 [(0, a0)] (if v.1 = 9 then [] else v :: []) m' Q1)) ?_ (fun _ _ h => h)
  generalize hQ2 : (fun v m' => zW E (d - 1) 104 6 [(0, a0)] (if v.1 = 9 then [] else v :: []) m' Q1) = Q2
  show zW E (d - 1 - 1) 100 0 [(0, a0), (0, 0), (0, 3)] [] m0 Q2
  refine zw_3 zr_100_0 rfl ?_
  refine zw_3 zr_100_1 rfl ?_
  refine zw_41_0 zr_100_2 ?_ ?_
  · intro h1
    refine zw_push zr_100_14 ?_
    refine zw_R zr_100_15 (by decide) zm_100 (v := (0, 0)) (zRetB (by omega)) ?_
    rw [← hQ2]
    show zW E (d - 1) 104 6 [(0, a0)] [(0, 0)] m0 Q1
    refine zw_R zr_104_6 (by decide) zm_104 (v := (0, 0)) (zRetB (by omega)) ?_
    rw [← hQ1]
    show zW E (d) 108 4 [(2, 0), (0, a0)] [(0, 0)] m0 Q
    refine zw_40_1 zr_108_4 ?_ ?_
    · intro h2
      refine zw_push zr_108_18 ?_
      refine zw_R zr_108_20 (by decide) zm_108 (v := (0, (-2))) rfl ?_
      rw [← hQ]; exact ⟨_, rfl, by omega, by omega, hI0, hF0, by first | exact Or.inr ⟨by omega, zz⟩ | exact Or.inl ⟨rfl, by omega⟩⟩
    · intro h4; omega
  · intro h5
    refine zw_3 zr_100_5 rfl ?_
    refine zw_3 zr_100_6 rfl ?_
    refine zw_41_2 zr_100_7 ?_ ?_
    · intro h6
      refine zw_push zr_100_14 ?_
      refine zw_R zr_100_15 (by decide) zm_100 (v := (0, 0)) (zRetB (by omega)) ?_
      rw [← hQ2]
      show zW E (d - 1) 104 6 [(0, a0)] [(0, 0)] m0 Q1
      refine zw_R zr_104_6 (by decide) zm_104 (v := (0, 0)) (zRetB (by omega)) ?_
      rw [← hQ1]
      show zW E (d) 108 4 [(2, 0), (0, a0)] [(0, 0)] m0 Q
      refine zw_40_1 zr_108_4 ?_ ?_
      · intro h7
        refine zw_push zr_108_18 ?_
        refine zw_R zr_108_20 (by decide) zm_108 (v := (0, (-2))) rfl ?_
        rw [← hQ]; exact ⟨_, rfl, by omega, by omega, hI0, hF0, by first | exact Or.inr ⟨by omega, zz⟩ | exact Or.inl ⟨rfl, by omega⟩⟩
      · intro h9; omega
    · intro h10
      refine zw_push zr_100_10 ?_
      refine zw_42 zr_100_11 ?_
      refine zw_R zr_100_15 (by decide) zm_100 (v := (0, 1)) (zRetB (by omega)) ?_
      rw [← hQ2]
      show zW E (d - 1) 104 6 [(0, a0)] [(0, 1)] m0 Q1
      refine zw_R zr_104_6 (by decide) zm_104 (v := (0, 1)) (zRetB (by omega)) ?_
      rw [← hQ1]
      show zW E (d) 108 4 [(2, 0), (0, a0)] [(0, 1)] m0 Q
      refine zw_40_1 zr_108_4 ?_ ?_
      · intro h11; omega
      · intro h12
        refine zw_7 zr_108_7 rfl ?_
        refine zw_46r (s := 43) zr_108_8 rfl rfl rfl rfl ?_
        refine zw_3 zr_108_11 rfl ?_
        refine zw_C zr_108_12 (Or.inl rfl) zm_40 rfl rfl ⟨Nat.le_of_ble_eq_true rfl, Nat.le_of_ble_eq_true rfl, Nat.le_of_ble_eq_true rfl, rfl, by decide⟩ (by omega) (th_40 (d := d - 1) (by omega) hI0 (a0 := a0)   (F10 := F10) (F11 := F11)  hG10 hG11 (by omega) ) ?_
        rintro _ m13 ⟨r14, rfl, hr14a, hr14b, hIm13, gm13, po0_r14⟩
        have hFm13 : zFr W_108 m0 m13 := hF0.trans gm13 rfl
        have fm13_10 : m13 10 = F10 := (funext fun k => gm13 10 k rfl).trans hG10
        have fm13_11 : m13 11 = F11 := (funext fun k => gm13 11 k rfl).trans hG11
        show zW E (d) 108 15 [(2, 0), (0, a0)] [(0, r14)] m13 Q
        refine zw_42 zr_108_15 ?_
        refine zw_R zr_108_20 (by decide) zm_108 (v := (0, r14)) rfl ?_
        rw [← hQ]; exact ⟨_, rfl, by omega, by omega, hIm13, hFm13, by first | exact Or.inr ⟨by omega, po0_r14⟩ | exact Or.inl ⟨rfl, by omega⟩⟩

abbrev W_154 : List (Nat × Nat) := [(69, 6)]
set_option maxHeartbeats 8000000 in
theorem th_154 {E : zE} {d : Nat} {m0 : zM} {g0 : Int} {g1 : Int} {F70 : Nat → Int} (hd : 2 ≤ d) (hI0 : zInv m0) (hg0 : m0 69 6 = g0) (hg1 : m0 69 5 = g1) (hG70 : m0 70 = F70) : zC E d 154 [(2, 69)] m0 (fun v m' => ∃ r : Int, v = (0, r) ∧ (-1) ≤ r ∧ r ≤ 127 ∧ zInv m' ∧ zFr W_154 m0 m' ∧ (r = -1 ∨ m' 69 6 ≤ 49) ∧ (g0 ≤ m' 69 6) ∧ (zNx (cht F70 g1) (-1) g0 (m' 69 6) r)) := by
  have hF0 : zFr W_154 m0 m0 := zFr.rfl
  have bg0 := ib_69_6 hI0
  rw [hg0] at bg0
  have bg1 := ib_69_5 hI0
  rw [hg1] at bg1
  generalize hQ : (fun (v : zV) (m' : zM) => ∃ r : Int, v = (0, r) ∧ (-1) ≤ r ∧ r ≤ 127 ∧ zInv m' ∧ zFr W_154 m0 m' ∧ (r = -1 ∨ m' 69 6 ≤ 49) ∧ (g0 ≤ m' 69 6) ∧ (zNx (cht F70 g1) (-1) g0 (m' 69 6) r)) = Q
  show zW E d 154 0 [(2, 69)] [] m0 Q
  have lp0_3 : ∀ (nlp0_3 : Nat) (p2 : Int) (m1 : zM), zInv m1 → zFr W_154 m0 m1 → m1 69 5 = g1 → m1 69 6 = p2 → m1 70 = F70 → 0 ≤ p2 → p2 ≤ 50 → (g0 ≤ p2) → (zBl (cht F70 g1) g0 p2) → (50 - p2).toNat < nlp0_3 → zW E (d) 154 0 [(2, 69)] [] m1 Q := by
    intro nlp0_3
    induction nlp0_3 with
    | zero =>
      intros
      exact absurd (by assumption : _ < 0) (Nat.not_lt_zero _)
    | succ nlp0_3 ihlp0_3 =>
      intro p2 m1 hIm1 hFm1 km1_69_5 km1_69_6 fm1_70 lp2 up2 hv0lp0_3 hv1lp0_3 hmlp0_3
      refine zw_7 zr_154_0 rfl ?_
      refine zw_46i zr_154_1 km1_69_6 rfl rfl rfl ?_
      refine zw_7 zr_154_4 rfl ?_
      refine zw_C zr_154_5 (Or.inl rfl) zm_152 rfl rfl ⟨Nat.le_of_ble_eq_true rfl, Nat.le_of_ble_eq_true rfl, Nat.le_of_ble_eq_true rfl, rfl, by decide⟩ (by omega) (P := (fun v m' => zW E (d) 154 8 [(2, 69)] (if v.1 = 9 then [(0, p2)] else v :: [(0, p2)]) m' Q)) ?_ (fun _ _ h => h)
      generalize hQ1 : (fun v m' => zW E (d) 154 8 [(2, 69)] (if v.1 = 9 then [(0, p2)] else v :: [(0, p2)]) m' Q) = Q1
      show zW E (d - 1) 152 0 [(2, 69)] [] m1 Q1
      refine zw_7 zr_152_0 rfl ?_
      refine zw_46r (s := 70) zr_152_1 rfl rfl rfl rfl ?_
      refine zw_push zr_152_4 ?_
      refine zw_push zr_152_7 ?_
      refine zw_7 zr_152_9 rfl ?_
      refine zw_46i zr_152_10 km1_69_5 rfl rfl rfl ?_
      refine zw_18 zr_152_13 (by omega) ?_
      refine zw_16 zr_152_14 (by omega) ?_
      refine zw_push zr_152_15 ?_
      refine zw_16 zr_152_16 (by omega) ?_
      refine zw_48 (c := 70) (len := 826) zr_152_17 rfl rfl (by omega) (by omega) ?_
      intro x5 ex5
      have bx5 := ib_70_s1 hIm1 (k := (((450 + (52 * g1)) + 1)).toNat) (by omega)
      rw [← ex5] at bx5
      have qx5 : x5 = F70 (((450 + (52 * g1)) + 1)).toNat := by rw [← fm1_70]; exact ex5
      refine zw_R zr_152_18 (by decide) zm_152 (v := (0, x5)) rfl ?_
      rw [← hQ1]
      show zW E (d) 154 8 [(2, 69)] [(0, x5), (0, p2)] m1 Q
      have hT := qx5
      refine zw_41_3 zr_154_8 ?_ ?_
      · intro h7
        refine zw_7 zr_154_37 rfl ?_
        refine zw_46i zr_154_38 km1_69_6 rfl rfl rfl ?_
        refine zw_7 zr_154_41 rfl ?_
        refine zw_C zr_154_42 (Or.inl rfl) zm_152 rfl rfl ⟨Nat.le_of_ble_eq_true rfl, Nat.le_of_ble_eq_true rfl, Nat.le_of_ble_eq_true rfl, rfl, by decide⟩ (by omega) (P := (fun v m' => zW E (d) 154 45 [(2, 69)] (if v.1 = 9 then [(0, p2)] else v :: [(0, p2)]) m' Q)) ?_ (fun _ _ h => h)
        generalize hQ1 : (fun v m' => zW E (d) 154 45 [(2, 69)] (if v.1 = 9 then [(0, p2)] else v :: [(0, p2)]) m' Q) = Q1
        show zW E (d - 1) 152 0 [(2, 69)] [] m1 Q1
        refine zw_7 zr_152_0 rfl ?_
        refine zw_46r (s := 70) zr_152_1 rfl rfl rfl rfl ?_
        refine zw_push zr_152_4 ?_
        refine zw_push zr_152_7 ?_
        refine zw_7 zr_152_9 rfl ?_
        refine zw_46i zr_152_10 km1_69_5 rfl rfl rfl ?_
        refine zw_18 zr_152_13 (by omega) ?_
        refine zw_16 zr_152_14 (by omega) ?_
        refine zw_push zr_152_15 ?_
        refine zw_16 zr_152_16 (by omega) ?_
        refine zw_48k (c := 70) (len := 826) zr_152_17 rfl rfl (by omega) (by omega) rfl ex5.symm ?_
        refine zw_R zr_152_18 (by decide) zm_152 (v := (0, x5)) rfl ?_
        rw [← hQ1]
        show zW E (d) 154 45 [(2, 69)] [(0, x5), (0, p2)] m1 Q
        have hT2 := qx5
        refine zw_41_3 zr_154_45 ?_ ?_
        · intro h9
          refine zw_push zr_154_59 ?_
          have hD : cht F70 g1 (p2).toNat = (-1) := by first | exact cht_a hT2 qzz (by omega) | exact cht_z hT2 (by omega) | (exfalso; omega)
          refine zw_R zr_154_60 (by decide) zm_154 (v := (0, (-1))) rfl ?_
          rw [← hQ]; exact ⟨_, rfl, by omega, by omega, hIm1, hFm1, by omega, by omega, by rw [km1_69_6]; first | exact zBl_x hv1lp0_3 hD (by omega) | (exfalso; omega)⟩
        · intro h14
          refine zw_7 zr_154_48 rfl ?_
          refine zw_7 zr_154_49 rfl ?_
          refine zw_46i zr_154_50 km1_69_6 rfl rfl rfl ?_
          refine zw_C zr_154_53 (Or.inl rfl) zm_153 rfl rfl ⟨Nat.le_of_ble_eq_true rfl, Nat.le_of_ble_eq_true rfl, Nat.le_of_ble_eq_true rfl, rfl, by decide⟩ (by omega) (P := (fun v m' => zW E (d) 154 56 [(2, 69)] (if v.1 = 9 then [] else v :: []) m' Q)) ?_ (fun _ _ h => h)
          generalize hQ1 : (fun v m' => zW E (d) 154 56 [(2, 69)] (if v.1 = 9 then [] else v :: []) m' Q) = Q1
          show zW E (d - 1) 153 0 [(2, 69), (0, p2)] [] m1 Q1
          refine zw_7 zr_153_0 rfl ?_
          refine zw_46r (s := 70) zr_153_1 rfl rfl rfl rfl ?_
          refine zw_push zr_153_4 ?_
          refine zw_push zr_153_7 ?_
          refine zw_7 zr_153_9 rfl ?_
          refine zw_46i zr_153_10 km1_69_5 rfl rfl rfl ?_
          refine zw_18 zr_153_13 (by omega) ?_
          refine zw_16 zr_153_14 (by omega) ?_
          refine zw_push zr_153_15 ?_
          refine zw_16 zr_153_16 (by omega) ?_
          refine zw_3 zr_153_17 rfl ?_
          refine zw_16 zr_153_18 (by omega) ?_
          refine zw_48 (c := 70) (len := 826) zr_153_19 rfl rfl (by omega) (by omega) ?_
          intro x15 ex15
          have bx15 := ib_70_s2 hIm1 (k := ((((450 + (52 * g1)) + 2) + p2)).toNat) (by omega)
          rw [← ex15] at bx15
          have qx15 : x15 = F70 ((((450 + (52 * g1)) + 2) + p2)).toNat := by rw [← fm1_70]; exact ex15
          refine zw_R zr_153_20 (by decide) zm_153 (v := (0, x15)) rfl ?_
          rw [← hQ1]
          show zW E (d) 154 56 [(2, 69)] [(0, x15)] m1 Q
          refine zw_42 zr_154_56 ?_
          have hD : cht F70 g1 (p2).toNat = x15 := by first | exact cht_a hT2 qx15 (by omega) | exact cht_z hT2 (by omega) | (exfalso; omega)
          refine zw_R zr_154_60 (by decide) zm_154 (v := (0, x15)) rfl ?_
          rw [← hQ]; exact ⟨_, rfl, by omega, by omega, hIm1, hFm1, by omega, by omega, by rw [km1_69_6]; first | exact zBl_x hv1lp0_3 hD (by omega) | (exfalso; omega)⟩
      · intro h20
        refine zw_7 zr_154_11 rfl ?_
        refine zw_7 zr_154_12 rfl ?_
        refine zw_46i zr_154_13 km1_69_6 rfl rfl rfl ?_
        refine zw_C zr_154_16 (Or.inl rfl) zm_153 rfl rfl ⟨Nat.le_of_ble_eq_true rfl, Nat.le_of_ble_eq_true rfl, Nat.le_of_ble_eq_true rfl, rfl, by decide⟩ (by omega) (P := (fun v m' => zW E (d) 154 19 [(2, 69)] (if v.1 = 9 then [] else v :: []) m' Q)) ?_ (fun _ _ h => h)
        generalize hQ1 : (fun v m' => zW E (d) 154 19 [(2, 69)] (if v.1 = 9 then [] else v :: []) m' Q) = Q1
        show zW E (d - 1) 153 0 [(2, 69), (0, p2)] [] m1 Q1
        refine zw_7 zr_153_0 rfl ?_
        refine zw_46r (s := 70) zr_153_1 rfl rfl rfl rfl ?_
        refine zw_push zr_153_4 ?_
        refine zw_push zr_153_7 ?_
        refine zw_7 zr_153_9 rfl ?_
        refine zw_46i zr_153_10 km1_69_5 rfl rfl rfl ?_
        refine zw_18 zr_153_13 (by omega) ?_
        refine zw_16 zr_153_14 (by omega) ?_
        refine zw_push zr_153_15 ?_
        refine zw_16 zr_153_16 (by omega) ?_
        refine zw_3 zr_153_17 rfl ?_
        refine zw_16 zr_153_18 (by omega) ?_
        refine zw_48 (c := 70) (len := 826) zr_153_19 rfl rfl (by omega) (by omega) ?_
        intro x21 ex21
        have bx21 := ib_70_s2 hIm1 (k := ((((450 + (52 * g1)) + 2) + p2)).toNat) (by omega)
        rw [← ex21] at bx21
        have qx21 : x21 = F70 ((((450 + (52 * g1)) + 2) + p2)).toNat := by rw [← fm1_70]; exact ex21
        refine zw_R zr_153_20 (by decide) zm_153 (v := (0, x21)) rfl ?_
        rw [← hQ1]
        show zW E (d) 154 19 [(2, 69)] [(0, x21)] m1 Q
        refine zw_push zr_154_19 ?_
        have hC := cht_a (t := g1) (p := p2) hT qx21 (by omega)
        refine zw_41_4 zr_154_21 ?_ ?_
        · intro h23
          refine zw_7 zr_154_37 rfl ?_
          refine zw_46i zr_154_38 km1_69_6 rfl rfl rfl ?_
          refine zw_7 zr_154_41 rfl ?_
          refine zw_C zr_154_42 (Or.inl rfl) zm_152 rfl rfl ⟨Nat.le_of_ble_eq_true rfl, Nat.le_of_ble_eq_true rfl, Nat.le_of_ble_eq_true rfl, rfl, by decide⟩ (by omega) (P := (fun v m' => zW E (d) 154 45 [(2, 69)] (if v.1 = 9 then [(0, p2)] else v :: [(0, p2)]) m' Q)) ?_ (fun _ _ h => h)
          generalize hQ1 : (fun v m' => zW E (d) 154 45 [(2, 69)] (if v.1 = 9 then [(0, p2)] else v :: [(0, p2)]) m' Q) = Q1
          show zW E (d - 1) 152 0 [(2, 69)] [] m1 Q1
          refine zw_7 zr_152_0 rfl ?_
          refine zw_46r (s := 70) zr_152_1 rfl rfl rfl rfl ?_
          refine zw_push zr_152_4 ?_
          refine zw_push zr_152_7 ?_
          refine zw_7 zr_152_9 rfl ?_
          refine zw_46i zr_152_10 km1_69_5 rfl rfl rfl ?_
          refine zw_18 zr_152_13 (by omega) ?_
          refine zw_16 zr_152_14 (by omega) ?_
          refine zw_push zr_152_15 ?_
          refine zw_16 zr_152_16 (by omega) ?_
          refine zw_48k (c := 70) (len := 826) zr_152_17 rfl rfl (by omega) (by omega) rfl ex5.symm ?_
          refine zw_R zr_152_18 (by decide) zm_152 (v := (0, x5)) rfl ?_
          rw [← hQ1]
          show zW E (d) 154 45 [(2, 69)] [(0, x5), (0, p2)] m1 Q
          have hT2 := qx5
          refine zw_41_3 zr_154_45 ?_ ?_
          · intro h25
            refine zw_push zr_154_59 ?_
            have hD : cht F70 g1 (p2).toNat = (-1) := by first | exact cht_a hT2 qzz (by omega) | exact cht_z hT2 (by omega) | (exfalso; omega)
            refine zw_R zr_154_60 (by decide) zm_154 (v := (0, (-1))) rfl ?_
            rw [← hQ]; exact ⟨_, rfl, by omega, by omega, hIm1, hFm1, by omega, by omega, by rw [km1_69_6]; first | exact zBl_x hv1lp0_3 hD (by omega) | (exfalso; omega)⟩
          · intro h30
            refine zw_7 zr_154_48 rfl ?_
            refine zw_7 zr_154_49 rfl ?_
            refine zw_46i zr_154_50 km1_69_6 rfl rfl rfl ?_
            refine zw_C zr_154_53 (Or.inl rfl) zm_153 rfl rfl ⟨Nat.le_of_ble_eq_true rfl, Nat.le_of_ble_eq_true rfl, Nat.le_of_ble_eq_true rfl, rfl, by decide⟩ (by omega) (P := (fun v m' => zW E (d) 154 56 [(2, 69)] (if v.1 = 9 then [] else v :: []) m' Q)) ?_ (fun _ _ h => h)
            generalize hQ1 : (fun v m' => zW E (d) 154 56 [(2, 69)] (if v.1 = 9 then [] else v :: []) m' Q) = Q1
            show zW E (d - 1) 153 0 [(2, 69), (0, p2)] [] m1 Q1
            refine zw_7 zr_153_0 rfl ?_
            refine zw_46r (s := 70) zr_153_1 rfl rfl rfl rfl ?_
            refine zw_push zr_153_4 ?_
            refine zw_push zr_153_7 ?_
            refine zw_7 zr_153_9 rfl ?_
            refine zw_46i zr_153_10 km1_69_5 rfl rfl rfl ?_
            refine zw_18 zr_153_13 (by omega) ?_
            refine zw_16 zr_153_14 (by omega) ?_
            refine zw_push zr_153_15 ?_
            refine zw_16 zr_153_16 (by omega) ?_
            refine zw_3 zr_153_17 rfl ?_
            refine zw_16 zr_153_18 (by omega) ?_
            refine zw_48k (c := 70) (len := 826) zr_153_19 rfl rfl (by omega) (by omega) rfl ex21.symm ?_
            refine zw_R zr_153_20 (by decide) zm_153 (v := (0, x21)) rfl ?_
            rw [← hQ1]
            show zW E (d) 154 56 [(2, 69)] [(0, x21)] m1 Q
            refine zw_42 zr_154_56 ?_
            have hD : cht F70 g1 (p2).toNat = x21 := by first | exact cht_a hT2 qx21 (by omega) | exact cht_z hT2 (by omega) | (exfalso; omega)
            refine zw_R zr_154_60 (by decide) zm_154 (v := (0, x21)) rfl ?_
            rw [← hQ]; exact ⟨_, rfl, by omega, by omega, hIm1, hFm1, by omega, by omega, by rw [km1_69_6]; first | exact zBl_x hv1lp0_3 hD (by omega) | (exfalso; omega)⟩
        · intro h35
          refine zw_7 zr_154_24 rfl ?_
          refine zw_43 zr_154_25 rfl ?_
          refine zw_46i zr_154_26 km1_69_6 rfl rfl rfl ?_
          refine zw_push zr_154_29 ?_
          refine zw_16 zr_154_30 (by omega) ?_
          refine zw_47 (c := 69) zr_154_31 rfl ⟨rfl, by decide, rfl⟩ ?_
          intro m36 em36
          have hIm36 : zInv m36 := by rw [em36]; exact hIm1.bd (r := 69) (k := 6) (lo := 0) (hi := 50) rfl (by omega) (by decide) (by decide) (by decide)
          have hFm36 : zFr W_154 m0 m36 := by rw [em36]; exact hFm1.up rfl
          have km36_69_5 : m36 69 5 = g1 := by rw [em36, zUp_ne (by omega)]; exact km1_69_5
          have km36_69_6 : m36 69 6 = (p2 + 1) := by rw [em36]; exact zUp_eq _ _ _ _
          have fm36_70 : m36 70 = F70 := by rw [em36, zUp_fn (by decide)]; exact fm1_70
          clear em36
          refine zw_42 zr_154_34 ?_
          exact zw_less (L := [(2, 69)]) ⟨Or.inr rfl, trivial⟩ (ihlp0_3 ((p2 + 1)) m36 hIm36 hFm36  km36_69_5 km36_69_6 fm36_70 (by omega) (by omega) (by omega) (zBl_s hv1lp0_3 hC (by omega)) (by omega))
  exact lp0_3 _ (g0) m0 hI0 hF0  hg1 hg0 hG70 (by omega) (by omega) (by omega) (zBl_0) (Nat.lt_succ_self _)

set_option maxHeartbeats 8000000 in
theorem th_155 {E : zE} {d : Nat} {m0 : zM} {a0 : Int} (hd : 1 ≤ d) (hI0 : zInv m0) (ha0 : (-1) ≤ a0 ∧ a0 ≤ 1000) : zC E d 155 [(0, a0)] m0 (fun v m' => ∃ r : Int, v = (0, r) ∧ 0 ≤ r ∧ r ≤ 5 ∧ m0 = m' ∧ (r ≤ 0 ∨ 33 ≤ a0) ∧ (r = rkv a0)) := by
  generalize hQ : (fun (v : zV) (m' : zM) => ∃ r : Int, v = (0, r) ∧ 0 ≤ r ∧ r ≤ 5 ∧ m0 = m' ∧ (r ≤ 0 ∨ 33 ≤ a0) ∧ (r = rkv a0)) = Q
  show zW E d 155 0 [(0, a0)] [] m0 Q
  refine zw_3 zr_155_0 rfl ?_
  by_cases h1 : a0 = 38
  · refine zw_112 (off := 85) (t := 86) zr_155_1 (by rw [h1]; rfl) rfl ?_
    refine zw_push zr_155_86 ?_
    refine zw_R zr_155_87 (by decide) zm_155 (v := (0, 2)) rfl ?_
    rw [← hQ]; exact ⟨_, rfl, by omega, by omega, rfl, by omega, by have := rkv_c a0; omega⟩
  by_cases h4 : a0 = 42
  · refine zw_112 (off := 91) (t := 92) zr_155_1 (by rw [h4]; rfl) rfl ?_
    refine zw_push zr_155_92 ?_
    refine zw_R zr_155_93 (by decide) zm_155 (v := (0, 5)) rfl ?_
    rw [← hQ]; exact ⟨_, rfl, by omega, by omega, rfl, by omega, by have := rkv_c a0; omega⟩
  by_cases h7 : a0 = 43
  · refine zw_112 (off := 89) (t := 90) zr_155_1 (by rw [h7]; rfl) rfl ?_
    refine zw_push zr_155_90 ?_
    refine zw_R zr_155_91 (by decide) zm_155 (v := (0, 4)) rfl ?_
    rw [← hQ]; exact ⟨_, rfl, by omega, by omega, rfl, by omega, by have := rkv_c a0; omega⟩
  by_cases h10 : a0 = 45
  · refine zw_112 (off := 89) (t := 90) zr_155_1 (by rw [h10]; rfl) rfl ?_
    refine zw_push zr_155_90 ?_
    refine zw_R zr_155_91 (by decide) zm_155 (v := (0, 4)) rfl ?_
    rw [← hQ]; exact ⟨_, rfl, by omega, by omega, rfl, by omega, by have := rkv_c a0; omega⟩
  by_cases h13 : a0 = 47
  · refine zw_112 (off := 91) (t := 92) zr_155_1 (by rw [h13]; rfl) rfl ?_
    refine zw_push zr_155_92 ?_
    refine zw_R zr_155_93 (by decide) zm_155 (v := (0, 5)) rfl ?_
    rw [← hQ]; exact ⟨_, rfl, by omega, by omega, rfl, by omega, by have := rkv_c a0; omega⟩
  by_cases h16 : a0 = 60
  · refine zw_112 (off := 87) (t := 88) zr_155_1 (by rw [h16]; rfl) rfl ?_
    refine zw_push zr_155_88 ?_
    refine zw_R zr_155_89 (by decide) zm_155 (v := (0, 3)) rfl ?_
    rw [← hQ]; exact ⟨_, rfl, by omega, by omega, rfl, by omega, by have := rkv_c a0; omega⟩
  by_cases h19 : a0 = 61
  · refine zw_112 (off := 87) (t := 88) zr_155_1 (by rw [h19]; rfl) rfl ?_
    refine zw_push zr_155_88 ?_
    refine zw_R zr_155_89 (by decide) zm_155 (v := (0, 3)) rfl ?_
    rw [← hQ]; exact ⟨_, rfl, by omega, by omega, rfl, by omega, by have := rkv_c a0; omega⟩
  by_cases h22 : a0 = 62
  · refine zw_112 (off := 87) (t := 88) zr_155_1 (by rw [h22]; rfl) rfl ?_
    refine zw_push zr_155_88 ?_
    refine zw_R zr_155_89 (by decide) zm_155 (v := (0, 3)) rfl ?_
    rw [← hQ]; exact ⟨_, rfl, by omega, by omega, rfl, by omega, by have := rkv_c a0; omega⟩
  by_cases h25 : a0 = 124
  · refine zw_112 (off := 83) (t := 84) zr_155_1 (by rw [h25]; rfl) rfl ?_
    refine zw_push zr_155_84 ?_
    refine zw_R zr_155_85 (by decide) zm_155 (v := (0, 1)) rfl ?_
    rw [← hQ]; exact ⟨_, rfl, by omega, by omega, rfl, by omega, by have := rkv_c a0; omega⟩
  refine zw_112 (off := 93) (t := 94) zr_155_1 (zlsw_df (by simp; omega)) rfl ?_
  refine zw_push zr_155_94 ?_
  refine zw_R zr_155_95 (by decide) zm_155 (v := (0, 0)) rfl ?_
  rw [← hQ]; exact ⟨_, rfl, by omega, by omega, rfl, by omega, by have := rkv_c a0; omega⟩

abbrev W_156 : List (Nat × Nat) := [(69, 9), (69, 11), (73, 1000)]
set_option maxHeartbeats 8000000 in
theorem th_156 {E : zE} {d : Nat} {m0 : zM} {g0 : Int} {g1 : Int} {F73 : Nat → Int} {F74 : Nat → Int} (hd : 1 ≤ d) (hI0 : zInv m0) (hg0 : m0 69 11 = g0) (hg1 : m0 69 9 = g1) (hG73 : m0 73 = F73) (hG74 : m0 74 = F74) (hp0 : 1 ≤ g0) (hp1 : 2 ≤ g1) : zC E d 156 [(2, 69)] m0 (fun v m' => v = (9, 0) ∧ zInv m' ∧ zFr W_156 m0 m' ∧ (m' 73 = zPt F73 (g1 - 1 - 1).toNat (opv (F74 (g0 - 1).toNat) (F73 (g1 - 1 - 1).toNat) (F73 (g1 - 1).toNat))) ∧ (m' 69 11 = (g0 - 1)) ∧ (m' 69 9 = (g1 - 1))) := by
  have hF0 : zFr W_156 m0 m0 := zFr.rfl
  have bg0 := ib_69_11 hI0
  rw [hg0] at bg0
  have bg1 := ib_69_9 hI0
  rw [hg1] at bg1
  generalize hQ : (fun (v : zV) (m' : zM) => v = (9, 0) ∧ zInv m' ∧ zFr W_156 m0 m' ∧ (m' 73 = zPt F73 (g1 - 1 - 1).toNat (opv (F74 (g0 - 1).toNat) (F73 (g1 - 1 - 1).toNat) (F73 (g1 - 1).toNat))) ∧ (m' 69 11 = (g0 - 1)) ∧ (m' 69 9 = (g1 - 1))) = Q
  show zW E d 156 0 [(2, 69), (9, 0), (9, 0), (9, 0), (9, 0), (9, 0), (9, 0)] [] m0 Q
  refine zw_7 zr_156_0 rfl ?_
  refine zw_43 zr_156_1 rfl ?_
  refine zw_46i zr_156_2 hg0 rfl rfl rfl ?_
  refine zw_push zr_156_5 ?_
  refine zw_17 zr_156_6 (by omega) ?_
  refine zw_47 (c := 69) zr_156_7 rfl ⟨rfl, by decide, rfl⟩ ?_
  intro m1 em1
  have hIm1 : zInv m1 := by rw [em1]; exact hI0.bd (r := 69) (k := 11) (lo := 0) (hi := 128) rfl (by omega) (by decide) (by decide) (by decide)
  have hFm1 : zFr W_156 m0 m1 := by rw [em1]; exact hF0.up rfl
  have km1_69_9 : m1 69 9 = g1 := by rw [em1, zUp_ne (by omega)]; exact hg1
  have km1_69_11 : m1 69 11 = (g0 - 1) := by rw [em1]; exact zUp_eq _ _ _ _
  have fm1_73 : m1 73 = F73 := by rw [em1, zUp_fn (by decide)]; exact hG73
  have fm1_74 : m1 74 = F74 := by rw [em1, zUp_fn (by decide)]; exact hG74
  clear em1
  refine zw_7 zr_156_10 rfl ?_
  refine zw_43 zr_156_11 rfl ?_
  refine zw_46i zr_156_12 km1_69_9 rfl rfl rfl ?_
  refine zw_push zr_156_15 ?_
  refine zw_17 zr_156_16 (by omega) ?_
  refine zw_47 (c := 69) zr_156_17 rfl ⟨rfl, by decide, rfl⟩ ?_
  intro m2 em2
  have hIm2 : zInv m2 := by rw [em2]; exact hIm1.bd (r := 69) (k := 9) (lo := 0) (hi := 64) rfl (by omega) (by decide) (by decide) (by decide)
  have hFm2 : zFr W_156 m0 m2 := by rw [em2]; exact hFm1.up rfl
  have km2_69_11 : m2 69 11 = (g0 - 1) := by rw [em2, zUp_ne (by omega)]; exact km1_69_11
  have km2_69_9 : m2 69 9 = (g1 - 1) := by rw [em2]; exact zUp_eq _ _ _ _
  have fm2_73 : m2 73 = F73 := by rw [em2, zUp_fn (by decide)]; exact fm1_73
  have fm2_74 : m2 74 = F74 := by rw [em2, zUp_fn (by decide)]; exact fm1_74
  clear em2
  refine zw_7 zr_156_20 rfl ?_
  refine zw_46r (s := 73) zr_156_21 rfl rfl rfl rfl ?_
  refine zw_7 zr_156_24 rfl ?_
  refine zw_46i zr_156_25 km2_69_9 rfl rfl rfl ?_
  refine zw_push zr_156_28 ?_
  refine zw_17 zr_156_29 (by omega) ?_
  refine zw_50 (c := 73) (len := 64) zr_156_30 rfl rfl (by omega) (by omega) ?_
  intro x3 ex3
  have bx3 := hIm2.rl (c := 73) (len := 64) (k := (((g1 - 1) - 1)).toNat) rfl (by omega)
  rw [← ex3] at bx3
  have qx3 : x3 = F73 (((g1 - 1) - 1)).toNat := by rw [← fm2_73]; exact ex3
  clear ex3
  have hA := qx3
  refine zw_13 (L' := [(2, 69), (1, x3), (9, 0), (9, 0), (9, 0), (9, 0), (9, 0)]) zr_156_31 (Nat.le_of_ble_eq_true rfl) rfl ?_
  refine zw_7 zr_156_32 rfl ?_
  refine zw_46r (s := 73) zr_156_33 rfl rfl rfl rfl ?_
  refine zw_7 zr_156_36 rfl ?_
  refine zw_46i zr_156_37 km2_69_9 rfl rfl rfl ?_
  refine zw_50 (c := 73) (len := 64) zr_156_40 rfl rfl (by omega) (by omega) ?_
  intro x5 ex5
  have bx5 := hIm2.rl (c := 73) (len := 64) (k := ((g1 - 1)).toNat) rfl (by omega)
  rw [← ex5] at bx5
  have qx5 : x5 = F73 ((g1 - 1)).toNat := by rw [← fm2_73]; exact ex5
  clear ex5
  have hB := qx5
  refine zw_13 (L' := [(2, 69), (1, x3), (9, 0), (1, x5), (9, 0), (9, 0), (9, 0)]) zr_156_41 (Nat.le_of_ble_eq_true rfl) rfl ?_
  refine zw_push zr_156_42 ?_
  refine zw_14 (L' := [(2, 69), (1, x3), (9, 0), (1, x5), (9, 0), (1, 0), (9, 0)]) zr_156_43 (Nat.le_of_ble_eq_true rfl) rfl ?_
  refine zw_7 zr_156_45 rfl ?_
  refine zw_46r (s := 74) zr_156_46 rfl rfl rfl rfl ?_
  refine zw_7 zr_156_49 rfl ?_
  refine zw_46i zr_156_50 km2_69_11 rfl rfl rfl ?_
  refine zw_48 (c := 74) (len := 128) zr_156_53 rfl rfl (by omega) (by omega) ?_
  intro x7 ex7
  have bx7 := ib_74 hIm2 (k := ((g0 - 1)).toNat) (by omega)
  rw [← ex7] at bx7
  have qx7 : x7 = F74 ((g0 - 1)).toNat := by rw [← fm2_74]; exact ex7
  clear ex7
  have hK := qx7
  by_cases h9 : x7 = 38
  · refine zw_112 (off := 96) (t := 150) zr_156_54 (by rw [h9]; rfl) rfl ?_
    refine zw_5 zr_156_150 rfl ?_
    refine zw_push zr_156_151 ?_
    refine zw_39_1 zr_156_152 zr_156_153 ?_ ?_
    · intro h10
      refine zw_push zr_156_166 ?_
      refine zw_14 (L' := [(2, 69), (1, x3), (9, 0), (1, x5), (9, 0), (1, 0), (9, 0)]) zr_156_167 (Nat.le_of_ble_eq_true rfl) rfl ?_
      refine zw_42 zr_156_169 ?_
      have hW : 0 = opv (F74 (g0 - 1).toNat) (F73 (g1 - 1 - 1).toNat) (F73 (g1 - 1).toNat) := by rw [← hK, ← hA, ← hB]; exact opv_e2 (by omega) (by omega)
      refine zw_7 zr_156_259 rfl ?_
      refine zw_46r (s := 73) zr_156_260 rfl rfl rfl rfl ?_
      refine zw_7 zr_156_263 rfl ?_
      refine zw_46i zr_156_264 km2_69_9 rfl rfl rfl ?_
      refine zw_push zr_156_267 ?_
      refine zw_17 zr_156_268 (by omega) ?_
      refine zw_6 zr_156_269 rfl ?_
      refine zw_51 (c := 73) (len := 64) zr_156_271 rfl rfl (by omega) (by omega) ?_
      intro m12 em12
      have hIm12 : zInv m12 := by rw [em12]; exact hIm2.anyl (by omega) (zK3 rfl) rfl (by decide) (by decide)
      have hFm12 : zFr W_156 m0 m12 := by rw [em12]; exact hFm2.any rfl
      have km12_69_11 : m12 69 11 = (g0 - 1) := by rw [em12, zUp_ne (by omega)]; exact km2_69_11
      have km12_69_9 : m12 69 9 = (g1 - 1) := by rw [em12, zUp_ne (by omega)]; exact km2_69_9
      have fm12_73 : m12 73 = zPt F73 ((((g1 - 1) - 1)).toNat) 0 := by rw [em12]; exact (zUp_ff (m := m2)).trans (congrArg (fun q => zPt q ((((g1 - 1) - 1)).toNat) 0) fm2_73)
      have fm12_74 : m12 74 = F74 := by rw [em12, zUp_fn (by decide)]; exact fm2_74
      clear em12
      refine zw_R zr_156_272 (by decide) zm_156 (v := (9, 0)) rfl ?_
      rw [← hQ]; exact ⟨rfl, hIm12, hFm12, by rw [fm12_73]; exact congrArg (zPt F73 (g1 - 1 - 1).toNat) hW, by omega, by omega⟩
    · intro h16
      refine zw_5 zr_156_156 rfl ?_
      refine zw_push zr_156_157 ?_
      refine zw_39_1 zr_156_158 zr_156_159 ?_ ?_
      · intro h17
        refine zw_push zr_156_166 ?_
        refine zw_14 (L' := [(2, 69), (1, x3), (9, 0), (1, x5), (9, 0), (1, 0), (9, 0)]) zr_156_167 (Nat.le_of_ble_eq_true rfl) rfl ?_
        refine zw_42 zr_156_169 ?_
        have hW : 0 = opv (F74 (g0 - 1).toNat) (F73 (g1 - 1 - 1).toNat) (F73 (g1 - 1).toNat) := by rw [← hK, ← hA, ← hB]; exact opv_e2 (by omega) (by omega)
        refine zw_7 zr_156_259 rfl ?_
        refine zw_46r (s := 73) zr_156_260 rfl rfl rfl rfl ?_
        refine zw_7 zr_156_263 rfl ?_
        refine zw_46i zr_156_264 km2_69_9 rfl rfl rfl ?_
        refine zw_push zr_156_267 ?_
        refine zw_17 zr_156_268 (by omega) ?_
        refine zw_6 zr_156_269 rfl ?_
        refine zw_51 (c := 73) (len := 64) zr_156_271 rfl rfl (by omega) (by omega) ?_
        intro m19 em19
        have hIm19 : zInv m19 := by rw [em19]; exact hIm2.anyl (by omega) (zK3 rfl) rfl (by decide) (by decide)
        have hFm19 : zFr W_156 m0 m19 := by rw [em19]; exact hFm2.any rfl
        have km19_69_11 : m19 69 11 = (g0 - 1) := by rw [em19, zUp_ne (by omega)]; exact km2_69_11
        have km19_69_9 : m19 69 9 = (g1 - 1) := by rw [em19, zUp_ne (by omega)]; exact km2_69_9
        have fm19_73 : m19 73 = zPt F73 ((((g1 - 1) - 1)).toNat) 0 := by rw [em19]; exact (zUp_ff (m := m2)).trans (congrArg (fun q => zPt q ((((g1 - 1) - 1)).toNat) 0) fm2_73)
        have fm19_74 : m19 74 = F74 := by rw [em19, zUp_fn (by decide)]; exact fm2_74
        clear em19
        refine zw_R zr_156_272 (by decide) zm_156 (v := (9, 0)) rfl ?_
        rw [← hQ]; exact ⟨rfl, hIm19, hFm19, by rw [fm19_73]; exact congrArg (zPt F73 (g1 - 1 - 1).toNat) hW, by omega, by omega⟩
      · intro h23
        refine zw_push zr_156_162 ?_
        refine zw_42 zr_156_163 ?_
        refine zw_14 (L' := [(2, 69), (1, x3), (9, 0), (1, x5), (9, 0), (1, 1), (9, 0)]) zr_156_167 (Nat.le_of_ble_eq_true rfl) rfl ?_
        refine zw_42 zr_156_169 ?_
        have hW : 1 = opv (F74 (g0 - 1).toNat) (F73 (g1 - 1 - 1).toNat) (F73 (g1 - 1).toNat) := by rw [← hK, ← hA, ← hB]; exact opv_e2 (by omega) (by omega)
        refine zw_7 zr_156_259 rfl ?_
        refine zw_46r (s := 73) zr_156_260 rfl rfl rfl rfl ?_
        refine zw_7 zr_156_263 rfl ?_
        refine zw_46i zr_156_264 km2_69_9 rfl rfl rfl ?_
        refine zw_push zr_156_267 ?_
        refine zw_17 zr_156_268 (by omega) ?_
        refine zw_6 zr_156_269 rfl ?_
        refine zw_51 (c := 73) (len := 64) zr_156_271 rfl rfl (by omega) (by omega) ?_
        intro m25 em25
        have hIm25 : zInv m25 := by rw [em25]; exact hIm2.anyl (by omega) (zK3 rfl) rfl (by decide) (by decide)
        have hFm25 : zFr W_156 m0 m25 := by rw [em25]; exact hFm2.any rfl
        have km25_69_11 : m25 69 11 = (g0 - 1) := by rw [em25, zUp_ne (by omega)]; exact km2_69_11
        have km25_69_9 : m25 69 9 = (g1 - 1) := by rw [em25, zUp_ne (by omega)]; exact km2_69_9
        have fm25_73 : m25 73 = zPt F73 ((((g1 - 1) - 1)).toNat) 1 := by rw [em25]; exact (zUp_ff (m := m2)).trans (congrArg (fun q => zPt q ((((g1 - 1) - 1)).toNat) 1) fm2_73)
        have fm25_74 : m25 74 = F74 := by rw [em25, zUp_fn (by decide)]; exact fm2_74
        clear em25
        refine zw_R zr_156_272 (by decide) zm_156 (v := (9, 0)) rfl ?_
        rw [← hQ]; exact ⟨rfl, hIm25, hFm25, by rw [fm25_73]; exact congrArg (zPt F73 (g1 - 1 - 1).toNat) hW, by omega, by omega⟩
  by_cases h29 : x7 = 42
  · refine zw_112 (off := 182) (t := 236) zr_156_54 (by rw [h29]; rfl) rfl ?_
    refine zw_5 zr_156_236 rfl ?_
    refine zw_5 zr_156_237 rfl ?_
    refine zw_29x zr_156_238 ?_
    intro x30 ex30 hx30a hx30b
    refine zw_14 (L' := [(2, 69), (1, x3), (9, 0), (1, x5), (9, 0), (1, x30), (9, 0)]) zr_156_239 (Nat.le_of_ble_eq_true rfl) rfl ?_
    refine zw_42 zr_156_241 ?_
    have hW : x30 = opv (F74 (g0 - 1).toNat) (F73 (g1 - 1 - 1).toNat) (F73 (g1 - 1).toNat) := by rw [← hK, ← hA, ← hB]; exact opv_e8 (by omega) (by assumption)
    refine zw_7 zr_156_259 rfl ?_
    refine zw_46r (s := 73) zr_156_260 rfl rfl rfl rfl ?_
    refine zw_7 zr_156_263 rfl ?_
    refine zw_46i zr_156_264 km2_69_9 rfl rfl rfl ?_
    refine zw_push zr_156_267 ?_
    refine zw_17 zr_156_268 (by omega) ?_
    refine zw_6 zr_156_269 rfl ?_
    refine zw_51 (c := 73) (len := 64) zr_156_271 rfl rfl (by omega) (by omega) ?_
    intro m32 em32
    have hIm32 : zInv m32 := by rw [em32]; exact hIm2.anyl (by omega) (zK3 rfl) rfl (by decide) (by decide)
    have hFm32 : zFr W_156 m0 m32 := by rw [em32]; exact hFm2.any rfl
    have km32_69_11 : m32 69 11 = (g0 - 1) := by rw [em32, zUp_ne (by omega)]; exact km2_69_11
    have km32_69_9 : m32 69 9 = (g1 - 1) := by rw [em32, zUp_ne (by omega)]; exact km2_69_9
    have fm32_73 : m32 73 = zPt F73 ((((g1 - 1) - 1)).toNat) x30 := by rw [em32]; exact (zUp_ff (m := m2)).trans (congrArg (fun q => zPt q ((((g1 - 1) - 1)).toNat) x30) fm2_73)
    have fm32_74 : m32 74 = F74 := by rw [em32, zUp_fn (by decide)]; exact fm2_74
    clear em32
    refine zw_R zr_156_272 (by decide) zm_156 (v := (9, 0)) rfl ?_
    rw [← hQ]; exact ⟨rfl, hIm32, hFm32, by rw [fm32_73]; exact congrArg (zPt F73 (g1 - 1 - 1).toNat) hW, by omega, by omega⟩
  by_cases h36 : x7 = 43
  · refine zw_112 (off := 166) (t := 220) zr_156_54 (by rw [h36]; rfl) rfl ?_
    refine zw_5 zr_156_220 rfl ?_
    refine zw_5 zr_156_221 rfl ?_
    refine zw_27x zr_156_222 ?_
    intro x37 ex37 hx37a hx37b
    refine zw_14 (L' := [(2, 69), (1, x3), (9, 0), (1, x5), (9, 0), (1, x37), (9, 0)]) zr_156_223 (Nat.le_of_ble_eq_true rfl) rfl ?_
    refine zw_42 zr_156_225 ?_
    have hW : x37 = opv (F74 (g0 - 1).toNat) (F73 (g1 - 1 - 1).toNat) (F73 (g1 - 1).toNat) := by rw [← hK, ← hA, ← hB]; exact opv_e6 (by omega) (by assumption)
    refine zw_7 zr_156_259 rfl ?_
    refine zw_46r (s := 73) zr_156_260 rfl rfl rfl rfl ?_
    refine zw_7 zr_156_263 rfl ?_
    refine zw_46i zr_156_264 km2_69_9 rfl rfl rfl ?_
    refine zw_push zr_156_267 ?_
    refine zw_17 zr_156_268 (by omega) ?_
    refine zw_6 zr_156_269 rfl ?_
    refine zw_51 (c := 73) (len := 64) zr_156_271 rfl rfl (by omega) (by omega) ?_
    intro m39 em39
    have hIm39 : zInv m39 := by rw [em39]; exact hIm2.anyl (by omega) (zK3 rfl) rfl (by decide) (by decide)
    have hFm39 : zFr W_156 m0 m39 := by rw [em39]; exact hFm2.any rfl
    have km39_69_11 : m39 69 11 = (g0 - 1) := by rw [em39, zUp_ne (by omega)]; exact km2_69_11
    have km39_69_9 : m39 69 9 = (g1 - 1) := by rw [em39, zUp_ne (by omega)]; exact km2_69_9
    have fm39_73 : m39 73 = zPt F73 ((((g1 - 1) - 1)).toNat) x37 := by rw [em39]; exact (zUp_ff (m := m2)).trans (congrArg (fun q => zPt q ((((g1 - 1) - 1)).toNat) x37) fm2_73)
    have fm39_74 : m39 74 = F74 := by rw [em39, zUp_fn (by decide)]; exact fm2_74
    clear em39
    refine zw_R zr_156_272 (by decide) zm_156 (v := (9, 0)) rfl ?_
    rw [← hQ]; exact ⟨rfl, hIm39, hFm39, by rw [fm39_73]; exact congrArg (zPt F73 (g1 - 1 - 1).toNat) hW, by omega, by omega⟩
  by_cases h43 : x7 = 45
  · refine zw_112 (off := 174) (t := 228) zr_156_54 (by rw [h43]; rfl) rfl ?_
    refine zw_5 zr_156_228 rfl ?_
    refine zw_5 zr_156_229 rfl ?_
    refine zw_28x zr_156_230 ?_
    intro x44 ex44 hx44a hx44b
    refine zw_14 (L' := [(2, 69), (1, x3), (9, 0), (1, x5), (9, 0), (1, x44), (9, 0)]) zr_156_231 (Nat.le_of_ble_eq_true rfl) rfl ?_
    refine zw_42 zr_156_233 ?_
    have hW : x44 = opv (F74 (g0 - 1).toNat) (F73 (g1 - 1 - 1).toNat) (F73 (g1 - 1).toNat) := by rw [← hK, ← hA, ← hB]; exact opv_e7 (by omega) (by assumption)
    refine zw_7 zr_156_259 rfl ?_
    refine zw_46r (s := 73) zr_156_260 rfl rfl rfl rfl ?_
    refine zw_7 zr_156_263 rfl ?_
    refine zw_46i zr_156_264 km2_69_9 rfl rfl rfl ?_
    refine zw_push zr_156_267 ?_
    refine zw_17 zr_156_268 (by omega) ?_
    refine zw_6 zr_156_269 rfl ?_
    refine zw_51 (c := 73) (len := 64) zr_156_271 rfl rfl (by omega) (by omega) ?_
    intro m46 em46
    have hIm46 : zInv m46 := by rw [em46]; exact hIm2.anyl (by omega) (zK3 rfl) rfl (by decide) (by decide)
    have hFm46 : zFr W_156 m0 m46 := by rw [em46]; exact hFm2.any rfl
    have km46_69_11 : m46 69 11 = (g0 - 1) := by rw [em46, zUp_ne (by omega)]; exact km2_69_11
    have km46_69_9 : m46 69 9 = (g1 - 1) := by rw [em46, zUp_ne (by omega)]; exact km2_69_9
    have fm46_73 : m46 73 = zPt F73 ((((g1 - 1) - 1)).toNat) x44 := by rw [em46]; exact (zUp_ff (m := m2)).trans (congrArg (fun q => zPt q ((((g1 - 1) - 1)).toNat) x44) fm2_73)
    have fm46_74 : m46 74 = F74 := by rw [em46, zUp_fn (by decide)]; exact fm2_74
    clear em46
    refine zw_R zr_156_272 (by decide) zm_156 (v := (9, 0)) rfl ?_
    rw [← hQ]; exact ⟨rfl, hIm46, hFm46, by rw [fm46_73]; exact congrArg (zPt F73 (g1 - 1 - 1).toNat) hW, by omega, by omega⟩
  by_cases h50 : x7 = 60
  · refine zw_112 (off := 118) (t := 172) zr_156_54 (by rw [h50]; rfl) rfl ?_
    refine zw_5 zr_156_172 rfl ?_
    refine zw_5 zr_156_173 rfl ?_
    refine zw_39_3 zr_156_174 zr_156_175 ?_ ?_
    · intro h51
      refine zw_push zr_156_182 ?_
      refine zw_14 (L' := [(2, 69), (1, x3), (9, 0), (1, x5), (9, 0), (1, 0), (9, 0)]) zr_156_183 (Nat.le_of_ble_eq_true rfl) rfl ?_
      refine zw_42 zr_156_185 ?_
      have hW : 0 = opv (F74 (g0 - 1).toNat) (F73 (g1 - 1 - 1).toNat) (F73 (g1 - 1).toNat) := by rw [← hK, ← hA, ← hB]; exact opv_e3 (by omega) (by omega)
      refine zw_7 zr_156_259 rfl ?_
      refine zw_46r (s := 73) zr_156_260 rfl rfl rfl rfl ?_
      refine zw_7 zr_156_263 rfl ?_
      refine zw_46i zr_156_264 km2_69_9 rfl rfl rfl ?_
      refine zw_push zr_156_267 ?_
      refine zw_17 zr_156_268 (by omega) ?_
      refine zw_6 zr_156_269 rfl ?_
      refine zw_51 (c := 73) (len := 64) zr_156_271 rfl rfl (by omega) (by omega) ?_
      intro m53 em53
      have hIm53 : zInv m53 := by rw [em53]; exact hIm2.anyl (by omega) (zK3 rfl) rfl (by decide) (by decide)
      have hFm53 : zFr W_156 m0 m53 := by rw [em53]; exact hFm2.any rfl
      have km53_69_11 : m53 69 11 = (g0 - 1) := by rw [em53, zUp_ne (by omega)]; exact km2_69_11
      have km53_69_9 : m53 69 9 = (g1 - 1) := by rw [em53, zUp_ne (by omega)]; exact km2_69_9
      have fm53_73 : m53 73 = zPt F73 ((((g1 - 1) - 1)).toNat) 0 := by rw [em53]; exact (zUp_ff (m := m2)).trans (congrArg (fun q => zPt q ((((g1 - 1) - 1)).toNat) 0) fm2_73)
      have fm53_74 : m53 74 = F74 := by rw [em53, zUp_fn (by decide)]; exact fm2_74
      clear em53
      refine zw_R zr_156_272 (by decide) zm_156 (v := (9, 0)) rfl ?_
      rw [← hQ]; exact ⟨rfl, hIm53, hFm53, by rw [fm53_73]; exact congrArg (zPt F73 (g1 - 1 - 1).toNat) hW, by omega, by omega⟩
    · intro h57
      refine zw_push zr_156_178 ?_
      refine zw_42 zr_156_179 ?_
      refine zw_14 (L' := [(2, 69), (1, x3), (9, 0), (1, x5), (9, 0), (1, 1), (9, 0)]) zr_156_183 (Nat.le_of_ble_eq_true rfl) rfl ?_
      refine zw_42 zr_156_185 ?_
      have hW : 1 = opv (F74 (g0 - 1).toNat) (F73 (g1 - 1 - 1).toNat) (F73 (g1 - 1).toNat) := by rw [← hK, ← hA, ← hB]; exact opv_e3 (by omega) (by omega)
      refine zw_7 zr_156_259 rfl ?_
      refine zw_46r (s := 73) zr_156_260 rfl rfl rfl rfl ?_
      refine zw_7 zr_156_263 rfl ?_
      refine zw_46i zr_156_264 km2_69_9 rfl rfl rfl ?_
      refine zw_push zr_156_267 ?_
      refine zw_17 zr_156_268 (by omega) ?_
      refine zw_6 zr_156_269 rfl ?_
      refine zw_51 (c := 73) (len := 64) zr_156_271 rfl rfl (by omega) (by omega) ?_
      intro m59 em59
      have hIm59 : zInv m59 := by rw [em59]; exact hIm2.anyl (by omega) (zK3 rfl) rfl (by decide) (by decide)
      have hFm59 : zFr W_156 m0 m59 := by rw [em59]; exact hFm2.any rfl
      have km59_69_11 : m59 69 11 = (g0 - 1) := by rw [em59, zUp_ne (by omega)]; exact km2_69_11
      have km59_69_9 : m59 69 9 = (g1 - 1) := by rw [em59, zUp_ne (by omega)]; exact km2_69_9
      have fm59_73 : m59 73 = zPt F73 ((((g1 - 1) - 1)).toNat) 1 := by rw [em59]; exact (zUp_ff (m := m2)).trans (congrArg (fun q => zPt q ((((g1 - 1) - 1)).toNat) 1) fm2_73)
      have fm59_74 : m59 74 = F74 := by rw [em59, zUp_fn (by decide)]; exact fm2_74
      clear em59
      refine zw_R zr_156_272 (by decide) zm_156 (v := (9, 0)) rfl ?_
      rw [← hQ]; exact ⟨rfl, hIm59, hFm59, by rw [fm59_73]; exact congrArg (zPt F73 (g1 - 1 - 1).toNat) hW, by omega, by omega⟩
  by_cases h63 : x7 = 61
  · refine zw_112 (off := 150) (t := 204) zr_156_54 (by rw [h63]; rfl) rfl ?_
    refine zw_5 zr_156_204 rfl ?_
    refine zw_5 zr_156_205 rfl ?_
    refine zw_39_4 zr_156_206 zr_156_207 ?_ ?_
    · intro h64
      refine zw_push zr_156_214 ?_
      refine zw_14 (L' := [(2, 69), (1, x3), (9, 0), (1, x5), (9, 0), (1, 0), (9, 0)]) zr_156_215 (Nat.le_of_ble_eq_true rfl) rfl ?_
      refine zw_42 zr_156_217 ?_
      have hW : 0 = opv (F74 (g0 - 1).toNat) (F73 (g1 - 1 - 1).toNat) (F73 (g1 - 1).toNat) := by rw [← hK, ← hA, ← hB]; exact opv_e5 (by omega) (by omega)
      refine zw_7 zr_156_259 rfl ?_
      refine zw_46r (s := 73) zr_156_260 rfl rfl rfl rfl ?_
      refine zw_7 zr_156_263 rfl ?_
      refine zw_46i zr_156_264 km2_69_9 rfl rfl rfl ?_
      refine zw_push zr_156_267 ?_
      refine zw_17 zr_156_268 (by omega) ?_
      refine zw_6 zr_156_269 rfl ?_
      refine zw_51 (c := 73) (len := 64) zr_156_271 rfl rfl (by omega) (by omega) ?_
      intro m66 em66
      have hIm66 : zInv m66 := by rw [em66]; exact hIm2.anyl (by omega) (zK3 rfl) rfl (by decide) (by decide)
      have hFm66 : zFr W_156 m0 m66 := by rw [em66]; exact hFm2.any rfl
      have km66_69_11 : m66 69 11 = (g0 - 1) := by rw [em66, zUp_ne (by omega)]; exact km2_69_11
      have km66_69_9 : m66 69 9 = (g1 - 1) := by rw [em66, zUp_ne (by omega)]; exact km2_69_9
      have fm66_73 : m66 73 = zPt F73 ((((g1 - 1) - 1)).toNat) 0 := by rw [em66]; exact (zUp_ff (m := m2)).trans (congrArg (fun q => zPt q ((((g1 - 1) - 1)).toNat) 0) fm2_73)
      have fm66_74 : m66 74 = F74 := by rw [em66, zUp_fn (by decide)]; exact fm2_74
      clear em66
      refine zw_R zr_156_272 (by decide) zm_156 (v := (9, 0)) rfl ?_
      rw [← hQ]; exact ⟨rfl, hIm66, hFm66, by rw [fm66_73]; exact congrArg (zPt F73 (g1 - 1 - 1).toNat) hW, by omega, by omega⟩
    · intro h70
      refine zw_push zr_156_210 ?_
      refine zw_42 zr_156_211 ?_
      refine zw_14 (L' := [(2, 69), (1, x3), (9, 0), (1, x5), (9, 0), (1, 1), (9, 0)]) zr_156_215 (Nat.le_of_ble_eq_true rfl) rfl ?_
      refine zw_42 zr_156_217 ?_
      have hW : 1 = opv (F74 (g0 - 1).toNat) (F73 (g1 - 1 - 1).toNat) (F73 (g1 - 1).toNat) := by rw [← hK, ← hA, ← hB]; exact opv_e5 (by omega) (by omega)
      refine zw_7 zr_156_259 rfl ?_
      refine zw_46r (s := 73) zr_156_260 rfl rfl rfl rfl ?_
      refine zw_7 zr_156_263 rfl ?_
      refine zw_46i zr_156_264 km2_69_9 rfl rfl rfl ?_
      refine zw_push zr_156_267 ?_
      refine zw_17 zr_156_268 (by omega) ?_
      refine zw_6 zr_156_269 rfl ?_
      refine zw_51 (c := 73) (len := 64) zr_156_271 rfl rfl (by omega) (by omega) ?_
      intro m72 em72
      have hIm72 : zInv m72 := by rw [em72]; exact hIm2.anyl (by omega) (zK3 rfl) rfl (by decide) (by decide)
      have hFm72 : zFr W_156 m0 m72 := by rw [em72]; exact hFm2.any rfl
      have km72_69_11 : m72 69 11 = (g0 - 1) := by rw [em72, zUp_ne (by omega)]; exact km2_69_11
      have km72_69_9 : m72 69 9 = (g1 - 1) := by rw [em72, zUp_ne (by omega)]; exact km2_69_9
      have fm72_73 : m72 73 = zPt F73 ((((g1 - 1) - 1)).toNat) 1 := by rw [em72]; exact (zUp_ff (m := m2)).trans (congrArg (fun q => zPt q ((((g1 - 1) - 1)).toNat) 1) fm2_73)
      have fm72_74 : m72 74 = F74 := by rw [em72, zUp_fn (by decide)]; exact fm2_74
      clear em72
      refine zw_R zr_156_272 (by decide) zm_156 (v := (9, 0)) rfl ?_
      rw [← hQ]; exact ⟨rfl, hIm72, hFm72, by rw [fm72_73]; exact congrArg (zPt F73 (g1 - 1 - 1).toNat) hW, by omega, by omega⟩
  by_cases h76 : x7 = 62
  · refine zw_112 (off := 134) (t := 188) zr_156_54 (by rw [h76]; rfl) rfl ?_
    refine zw_5 zr_156_188 rfl ?_
    refine zw_5 zr_156_189 rfl ?_
    refine zw_39_5 zr_156_190 zr_156_191 ?_ ?_
    · intro h77
      refine zw_push zr_156_198 ?_
      refine zw_14 (L' := [(2, 69), (1, x3), (9, 0), (1, x5), (9, 0), (1, 0), (9, 0)]) zr_156_199 (Nat.le_of_ble_eq_true rfl) rfl ?_
      refine zw_42 zr_156_201 ?_
      have hW : 0 = opv (F74 (g0 - 1).toNat) (F73 (g1 - 1 - 1).toNat) (F73 (g1 - 1).toNat) := by rw [← hK, ← hA, ← hB]; exact opv_e4 (by omega) (by omega)
      refine zw_7 zr_156_259 rfl ?_
      refine zw_46r (s := 73) zr_156_260 rfl rfl rfl rfl ?_
      refine zw_7 zr_156_263 rfl ?_
      refine zw_46i zr_156_264 km2_69_9 rfl rfl rfl ?_
      refine zw_push zr_156_267 ?_
      refine zw_17 zr_156_268 (by omega) ?_
      refine zw_6 zr_156_269 rfl ?_
      refine zw_51 (c := 73) (len := 64) zr_156_271 rfl rfl (by omega) (by omega) ?_
      intro m79 em79
      have hIm79 : zInv m79 := by rw [em79]; exact hIm2.anyl (by omega) (zK3 rfl) rfl (by decide) (by decide)
      have hFm79 : zFr W_156 m0 m79 := by rw [em79]; exact hFm2.any rfl
      have km79_69_11 : m79 69 11 = (g0 - 1) := by rw [em79, zUp_ne (by omega)]; exact km2_69_11
      have km79_69_9 : m79 69 9 = (g1 - 1) := by rw [em79, zUp_ne (by omega)]; exact km2_69_9
      have fm79_73 : m79 73 = zPt F73 ((((g1 - 1) - 1)).toNat) 0 := by rw [em79]; exact (zUp_ff (m := m2)).trans (congrArg (fun q => zPt q ((((g1 - 1) - 1)).toNat) 0) fm2_73)
      have fm79_74 : m79 74 = F74 := by rw [em79, zUp_fn (by decide)]; exact fm2_74
      clear em79
      refine zw_R zr_156_272 (by decide) zm_156 (v := (9, 0)) rfl ?_
      rw [← hQ]; exact ⟨rfl, hIm79, hFm79, by rw [fm79_73]; exact congrArg (zPt F73 (g1 - 1 - 1).toNat) hW, by omega, by omega⟩
    · intro h83
      refine zw_push zr_156_194 ?_
      refine zw_42 zr_156_195 ?_
      refine zw_14 (L' := [(2, 69), (1, x3), (9, 0), (1, x5), (9, 0), (1, 1), (9, 0)]) zr_156_199 (Nat.le_of_ble_eq_true rfl) rfl ?_
      refine zw_42 zr_156_201 ?_
      have hW : 1 = opv (F74 (g0 - 1).toNat) (F73 (g1 - 1 - 1).toNat) (F73 (g1 - 1).toNat) := by rw [← hK, ← hA, ← hB]; exact opv_e4 (by omega) (by omega)
      refine zw_7 zr_156_259 rfl ?_
      refine zw_46r (s := 73) zr_156_260 rfl rfl rfl rfl ?_
      refine zw_7 zr_156_263 rfl ?_
      refine zw_46i zr_156_264 km2_69_9 rfl rfl rfl ?_
      refine zw_push zr_156_267 ?_
      refine zw_17 zr_156_268 (by omega) ?_
      refine zw_6 zr_156_269 rfl ?_
      refine zw_51 (c := 73) (len := 64) zr_156_271 rfl rfl (by omega) (by omega) ?_
      intro m85 em85
      have hIm85 : zInv m85 := by rw [em85]; exact hIm2.anyl (by omega) (zK3 rfl) rfl (by decide) (by decide)
      have hFm85 : zFr W_156 m0 m85 := by rw [em85]; exact hFm2.any rfl
      have km85_69_11 : m85 69 11 = (g0 - 1) := by rw [em85, zUp_ne (by omega)]; exact km2_69_11
      have km85_69_9 : m85 69 9 = (g1 - 1) := by rw [em85, zUp_ne (by omega)]; exact km2_69_9
      have fm85_73 : m85 73 = zPt F73 ((((g1 - 1) - 1)).toNat) 1 := by rw [em85]; exact (zUp_ff (m := m2)).trans (congrArg (fun q => zPt q ((((g1 - 1) - 1)).toNat) 1) fm2_73)
      have fm85_74 : m85 74 = F74 := by rw [em85, zUp_fn (by decide)]; exact fm2_74
      clear em85
      refine zw_R zr_156_272 (by decide) zm_156 (v := (9, 0)) rfl ?_
      rw [← hQ]; exact ⟨rfl, hIm85, hFm85, by rw [fm85_73]; exact congrArg (zPt F73 (g1 - 1 - 1).toNat) hW, by omega, by omega⟩
  by_cases h89 : x7 = 124
  · refine zw_112 (off := 74) (t := 128) zr_156_54 (by rw [h89]; rfl) rfl ?_
    refine zw_5 zr_156_128 rfl ?_
    refine zw_push zr_156_129 ?_
    refine zw_39_4 zr_156_130 zr_156_131 ?_ ?_
    · intro h90
      refine zw_push zr_156_140 ?_
      refine zw_42 zr_156_141 ?_
      refine zw_14 (L' := [(2, 69), (1, x3), (9, 0), (1, x5), (9, 0), (1, 1), (9, 0)]) zr_156_145 (Nat.le_of_ble_eq_true rfl) rfl ?_
      refine zw_42 zr_156_147 ?_
      have hW : 1 = opv (F74 (g0 - 1).toNat) (F73 (g1 - 1 - 1).toNat) (F73 (g1 - 1).toNat) := by rw [← hK, ← hA, ← hB]; exact opv_e1 (by omega) (by omega)
      refine zw_7 zr_156_259 rfl ?_
      refine zw_46r (s := 73) zr_156_260 rfl rfl rfl rfl ?_
      refine zw_7 zr_156_263 rfl ?_
      refine zw_46i zr_156_264 km2_69_9 rfl rfl rfl ?_
      refine zw_push zr_156_267 ?_
      refine zw_17 zr_156_268 (by omega) ?_
      refine zw_6 zr_156_269 rfl ?_
      refine zw_51 (c := 73) (len := 64) zr_156_271 rfl rfl (by omega) (by omega) ?_
      intro m92 em92
      have hIm92 : zInv m92 := by rw [em92]; exact hIm2.anyl (by omega) (zK3 rfl) rfl (by decide) (by decide)
      have hFm92 : zFr W_156 m0 m92 := by rw [em92]; exact hFm2.any rfl
      have km92_69_11 : m92 69 11 = (g0 - 1) := by rw [em92, zUp_ne (by omega)]; exact km2_69_11
      have km92_69_9 : m92 69 9 = (g1 - 1) := by rw [em92, zUp_ne (by omega)]; exact km2_69_9
      have fm92_73 : m92 73 = zPt F73 ((((g1 - 1) - 1)).toNat) 1 := by rw [em92]; exact (zUp_ff (m := m2)).trans (congrArg (fun q => zPt q ((((g1 - 1) - 1)).toNat) 1) fm2_73)
      have fm92_74 : m92 74 = F74 := by rw [em92, zUp_fn (by decide)]; exact fm2_74
      clear em92
      refine zw_R zr_156_272 (by decide) zm_156 (v := (9, 0)) rfl ?_
      rw [← hQ]; exact ⟨rfl, hIm92, hFm92, by rw [fm92_73]; exact congrArg (zPt F73 (g1 - 1 - 1).toNat) hW, by omega, by omega⟩
    · intro h96
      refine zw_5 zr_156_134 rfl ?_
      refine zw_push zr_156_135 ?_
      refine zw_39_1 zr_156_136 zr_156_137 ?_ ?_
      · intro h97
        refine zw_push zr_156_144 ?_
        refine zw_14 (L' := [(2, 69), (1, x3), (9, 0), (1, x5), (9, 0), (1, 0), (9, 0)]) zr_156_145 (Nat.le_of_ble_eq_true rfl) rfl ?_
        refine zw_42 zr_156_147 ?_
        have hW : 0 = opv (F74 (g0 - 1).toNat) (F73 (g1 - 1 - 1).toNat) (F73 (g1 - 1).toNat) := by rw [← hK, ← hA, ← hB]; exact opv_e1 (by omega) (by omega)
        refine zw_7 zr_156_259 rfl ?_
        refine zw_46r (s := 73) zr_156_260 rfl rfl rfl rfl ?_
        refine zw_7 zr_156_263 rfl ?_
        refine zw_46i zr_156_264 km2_69_9 rfl rfl rfl ?_
        refine zw_push zr_156_267 ?_
        refine zw_17 zr_156_268 (by omega) ?_
        refine zw_6 zr_156_269 rfl ?_
        refine zw_51 (c := 73) (len := 64) zr_156_271 rfl rfl (by omega) (by omega) ?_
        intro m99 em99
        have hIm99 : zInv m99 := by rw [em99]; exact hIm2.anyl (by omega) (zK3 rfl) rfl (by decide) (by decide)
        have hFm99 : zFr W_156 m0 m99 := by rw [em99]; exact hFm2.any rfl
        have km99_69_11 : m99 69 11 = (g0 - 1) := by rw [em99, zUp_ne (by omega)]; exact km2_69_11
        have km99_69_9 : m99 69 9 = (g1 - 1) := by rw [em99, zUp_ne (by omega)]; exact km2_69_9
        have fm99_73 : m99 73 = zPt F73 ((((g1 - 1) - 1)).toNat) 0 := by rw [em99]; exact (zUp_ff (m := m2)).trans (congrArg (fun q => zPt q ((((g1 - 1) - 1)).toNat) 0) fm2_73)
        have fm99_74 : m99 74 = F74 := by rw [em99, zUp_fn (by decide)]; exact fm2_74
        clear em99
        refine zw_R zr_156_272 (by decide) zm_156 (v := (9, 0)) rfl ?_
        rw [← hQ]; exact ⟨rfl, hIm99, hFm99, by rw [fm99_73]; exact congrArg (zPt F73 (g1 - 1 - 1).toNat) hW, by omega, by omega⟩
      · intro h103
        refine zw_push zr_156_140 ?_
        refine zw_42 zr_156_141 ?_
        refine zw_14 (L' := [(2, 69), (1, x3), (9, 0), (1, x5), (9, 0), (1, 1), (9, 0)]) zr_156_145 (Nat.le_of_ble_eq_true rfl) rfl ?_
        refine zw_42 zr_156_147 ?_
        have hW : 1 = opv (F74 (g0 - 1).toNat) (F73 (g1 - 1 - 1).toNat) (F73 (g1 - 1).toNat) := by rw [← hK, ← hA, ← hB]; exact opv_e1 (by omega) (by omega)
        refine zw_7 zr_156_259 rfl ?_
        refine zw_46r (s := 73) zr_156_260 rfl rfl rfl rfl ?_
        refine zw_7 zr_156_263 rfl ?_
        refine zw_46i zr_156_264 km2_69_9 rfl rfl rfl ?_
        refine zw_push zr_156_267 ?_
        refine zw_17 zr_156_268 (by omega) ?_
        refine zw_6 zr_156_269 rfl ?_
        refine zw_51 (c := 73) (len := 64) zr_156_271 rfl rfl (by omega) (by omega) ?_
        intro m105 em105
        have hIm105 : zInv m105 := by rw [em105]; exact hIm2.anyl (by omega) (zK3 rfl) rfl (by decide) (by decide)
        have hFm105 : zFr W_156 m0 m105 := by rw [em105]; exact hFm2.any rfl
        have km105_69_11 : m105 69 11 = (g0 - 1) := by rw [em105, zUp_ne (by omega)]; exact km2_69_11
        have km105_69_9 : m105 69 9 = (g1 - 1) := by rw [em105, zUp_ne (by omega)]; exact km2_69_9
        have fm105_73 : m105 73 = zPt F73 ((((g1 - 1) - 1)).toNat) 1 := by rw [em105]; exact (zUp_ff (m := m2)).trans (congrArg (fun q => zPt q ((((g1 - 1) - 1)).toNat) 1) fm2_73)
        have fm105_74 : m105 74 = F74 := by rw [em105, zUp_fn (by decide)]; exact fm2_74
        clear em105
        refine zw_R zr_156_272 (by decide) zm_156 (v := (9, 0)) rfl ?_
        rw [← hQ]; exact ⟨rfl, hIm105, hFm105, by rw [fm105_73]; exact congrArg (zPt F73 (g1 - 1 - 1).toNat) hW, by omega, by omega⟩
  refine zw_112 (off := 190) (t := 244) zr_156_54 (zlsw_df (by simp; omega)) rfl ?_
  refine zw_5 zr_156_244 rfl ?_
  refine zw_push zr_156_245 ?_
  refine zw_39_4 zr_156_246 zr_156_247 ?_ ?_
  · intro h109
    refine zw_5 zr_156_254 rfl ?_
    refine zw_5 zr_156_255 rfl ?_
    refine zw_118x zr_156_256 (by omega) ?_
    intro x110 ex110 hx110a hx110b
    refine zw_14 (L' := [(2, 69), (1, x3), (9, 0), (1, x5), (9, 0), (1, x110), (9, 0)]) zr_156_257 (Nat.le_of_ble_eq_true rfl) rfl ?_
    have hW : x110 = opv (F74 (g0 - 1).toNat) (F73 (g1 - 1 - 1).toNat) (F73 (g1 - 1).toNat) := by rw [← hK, ← hA, ← hB]; exact opv_e9 (by omega) (by omega)
    refine zw_7 zr_156_259 rfl ?_
    refine zw_46r (s := 73) zr_156_260 rfl rfl rfl rfl ?_
    refine zw_7 zr_156_263 rfl ?_
    refine zw_46i zr_156_264 km2_69_9 rfl rfl rfl ?_
    refine zw_push zr_156_267 ?_
    refine zw_17 zr_156_268 (by omega) ?_
    refine zw_6 zr_156_269 rfl ?_
    refine zw_51 (c := 73) (len := 64) zr_156_271 rfl rfl (by omega) (by omega) ?_
    intro m112 em112
    have hIm112 : zInv m112 := by rw [em112]; exact hIm2.anyl (by omega) (zK3 rfl) rfl (by decide) (by decide)
    have hFm112 : zFr W_156 m0 m112 := by rw [em112]; exact hFm2.any rfl
    have km112_69_11 : m112 69 11 = (g0 - 1) := by rw [em112, zUp_ne (by omega)]; exact km2_69_11
    have km112_69_9 : m112 69 9 = (g1 - 1) := by rw [em112, zUp_ne (by omega)]; exact km2_69_9
    have fm112_73 : m112 73 = zPt F73 ((((g1 - 1) - 1)).toNat) x110 := by rw [em112]; exact (zUp_ff (m := m2)).trans (congrArg (fun q => zPt q ((((g1 - 1) - 1)).toNat) x110) fm2_73)
    have fm112_74 : m112 74 = F74 := by rw [em112, zUp_fn (by decide)]; exact fm2_74
    clear em112
    refine zw_R zr_156_272 (by decide) zm_156 (v := (9, 0)) rfl ?_
    rw [← hQ]; exact ⟨rfl, hIm112, hFm112, by rw [fm112_73]; exact congrArg (zPt F73 (g1 - 1 - 1).toNat) hW, by omega, by omega⟩
  · intro h116
    refine zw_push zr_156_250 ?_
    refine zw_42 zr_156_251 ?_
    refine zw_14 (L' := [(2, 69), (1, x3), (9, 0), (1, x5), (9, 0), (1, 0), (9, 0)]) zr_156_257 (Nat.le_of_ble_eq_true rfl) rfl ?_
    have hW : 0 = opv (F74 (g0 - 1).toNat) (F73 (g1 - 1 - 1).toNat) (F73 (g1 - 1).toNat) := by rw [← hK, ← hA, ← hB]; exact opv_e9 (by omega) (by omega)
    refine zw_7 zr_156_259 rfl ?_
    refine zw_46r (s := 73) zr_156_260 rfl rfl rfl rfl ?_
    refine zw_7 zr_156_263 rfl ?_
    refine zw_46i zr_156_264 km2_69_9 rfl rfl rfl ?_
    refine zw_push zr_156_267 ?_
    refine zw_17 zr_156_268 (by omega) ?_
    refine zw_6 zr_156_269 rfl ?_
    refine zw_51 (c := 73) (len := 64) zr_156_271 rfl rfl (by omega) (by omega) ?_
    intro m118 em118
    have hIm118 : zInv m118 := by rw [em118]; exact hIm2.anyl (by omega) (zK3 rfl) rfl (by decide) (by decide)
    have hFm118 : zFr W_156 m0 m118 := by rw [em118]; exact hFm2.any rfl
    have km118_69_11 : m118 69 11 = (g0 - 1) := by rw [em118, zUp_ne (by omega)]; exact km2_69_11
    have km118_69_9 : m118 69 9 = (g1 - 1) := by rw [em118, zUp_ne (by omega)]; exact km2_69_9
    have fm118_73 : m118 73 = zPt F73 ((((g1 - 1) - 1)).toNat) 0 := by rw [em118]; exact (zUp_ff (m := m2)).trans (congrArg (fun q => zPt q ((((g1 - 1) - 1)).toNat) 0) fm2_73)
    have fm118_74 : m118 74 = F74 := by rw [em118, zUp_fn (by decide)]; exact fm2_74
    clear em118
    refine zw_R zr_156_272 (by decide) zm_156 (v := (9, 0)) rfl ?_
    rw [← hQ]; exact ⟨rfl, hIm118, hFm118, by rw [fm118_73]; exact congrArg (zPt F73 (g1 - 1 - 1).toNat) hW, by omega, by omega⟩

abbrev W_157 : List (Nat × Nat) := [(69, 9), (69, 11), (73, 1000)]
set_option maxHeartbeats 8000000 in
theorem th_157 {E : zE} {d : Nat} {m0 : zM} {a0 : Int} {g0 : Int} {g1 : Int} {F73 : Nat → Int} {F74 : Nat → Int} (hd : 2 ≤ d) (hI0 : zInv m0) (hg0 : m0 69 11 = g0) (hg1 : m0 69 9 = g1) (hG73 : m0 73 = F73) (hG74 : m0 74 = F74) (ha0 : 1 ≤ a0 ∧ a0 ≤ 5) (hp0 : cB F74 g0.toNat + 1 ≤ g1) : zC E d 157 [(2, 69), (0, a0)] m0 (fun v m' => v = (9, 0) ∧ zInv m' ∧ zFr W_157 m0 m' ∧ (m' 69 11 ≤ g0) ∧ (m' 69 9 ≤ g1) ∧ (cB F74 (m' 69 11).toNat + 1 ≤ m' 69 9) ∧ (cP F74 (m' 69 11).toNat = cP F74 g0.toNat) ∧ (slv F74 (m' 69 11).toNat = wsg a0 (slv F74 g0.toNat)) ∧ (slv (m' 73) (m' 69 9).toNat = wvl a0 (slv F74 g0.toNat) (slv F73 g1.toNat))) := by
  have hF0 : zFr W_157 m0 m0 := zFr.rfl
  have bg0 := ib_69_11 hI0
  rw [hg0] at bg0
  have bg1 := ib_69_9 hI0
  rw [hg1] at bg1
  generalize hQ : (fun (v : zV) (m' : zM) => v = (9, 0) ∧ zInv m' ∧ zFr W_157 m0 m' ∧ (m' 69 11 ≤ g0) ∧ (m' 69 9 ≤ g1) ∧ (cB F74 (m' 69 11).toNat + 1 ≤ m' 69 9) ∧ (cP F74 (m' 69 11).toNat = cP F74 g0.toNat) ∧ (slv F74 (m' 69 11).toNat = wsg a0 (slv F74 g0.toNat)) ∧ (slv (m' 73) (m' 69 9).toNat = wvl a0 (slv F74 g0.toNat) (slv F73 g1.toNat))) = Q
  show zW E d 157 0 [(2, 69), (0, a0)] [] m0 Q
  have lp0_5 : ∀ (nlp0_5 : Nat) (p2 p3 : Int) (f4 : Nat → Int) (m1 : zM), zInv m1 → zFr W_157 m0 m1 → m1 69 11 = p2 → m1 69 9 = p3 → m1 73 = f4 → m1 74 = F74 → 0 ≤ p2 → p2 ≤ 128 → 0 ≤ p3 → p3 ≤ 64 → (p2 ≤ g0) → (p3 ≤ g1) → (cB F74 (p2).toNat + 1 ≤ p3) → (cP F74 (p2).toNat = cP F74 g0.toNat) → (zWd F74 a0 g0 F73 g1 p2 f4 p3) → (p2).toNat < nlp0_5 → zW E (d) 157 0 [(2, 69), (0, a0)] [] m1 Q := by
    intro nlp0_5
    induction nlp0_5 with
    | zero =>
      intros
      exact absurd (by assumption : _ < 0) (Nat.not_lt_zero _)
    | succ nlp0_5 ihlp0_5 =>
      intro p2 p3 f4 m1 hIm1 hFm1 km1_69_11 km1_69_9 fm1_73 fm1_74 lp2 up2 lp3 up3 hv0lp0_5 hv1lp0_5 hv2lp0_5 hv3lp0_5 hv4lp0_5 hmlp0_5
      have hK := True.intro
      refine zw_7 zr_157_0 rfl ?_
      refine zw_46i zr_157_1 km1_69_11 rfl rfl rfl ?_
      refine zw_40_5 zr_157_4 ?_ ?_
      · intro h8
        refine zw_R zr_157_49 (by decide) zm_157 (v := (9, 0)) rfl ?_
        rw [← hQ]; exact ⟨rfl, hIm1, hFm1, by omega, by omega, by rw [km1_69_11, km1_69_9]; omega, by rw [km1_69_11]; omega, by rw [km1_69_11]; first | exact (zWd_e (c := 0) (k := 0) hv4lp0_5 (Or.inl (by omega))).1 | exact (zWd_e (k := 0) hv4lp0_5 (Or.inr ⟨hK, Or.inl (by omega)⟩)).1 | exact (zWd_e hv4lp0_5 (Or.inr ⟨hK, Or.inr ⟨zz, by omega⟩⟩)).1, by rw [fm1_73, km1_69_9]; first | exact (zWd_e (c := 0) (k := 0) hv4lp0_5 (Or.inl (by omega))).2 | exact (zWd_e (k := 0) hv4lp0_5 (Or.inr ⟨hK, Or.inl (by omega)⟩)).2 | exact (zWd_e hv4lp0_5 (Or.inr ⟨hK, Or.inr ⟨zz, by omega⟩⟩)).2⟩
      · intro h15
        refine zw_7 zr_157_7 rfl ?_
        refine zw_46r (s := 74) zr_157_8 rfl rfl rfl rfl ?_
        refine zw_7 zr_157_11 rfl ?_
        refine zw_46i zr_157_12 km1_69_11 rfl rfl rfl ?_
        refine zw_push zr_157_15 ?_
        refine zw_17 zr_157_16 (by omega) ?_
        refine zw_48 (c := 74) (len := 128) zr_157_17 rfl rfl (by omega) (by omega) ?_
        intro x16 ex16
        have bx16 := ib_74 hIm1 (k := ((p2 - 1)).toNat) (by omega)
        rw [← ex16] at bx16
        have qx16 : x16 = F74 ((p2 - 1)).toNat := by rw [← fm1_74]; exact ex16
        have z17 := zcb F74 ((p2 - 1)).toNat (p2).toNat (by omega)
        have z18 := cB_nn F74 ((p2 - 1)).toNat
        refine zw_push zr_157_18 ?_
        have hK := qx16
        refine zw_41_3 zr_157_21 ?_ ?_
        · intro h20
          refine zw_R zr_157_49 (by decide) zm_157 (v := (9, 0)) rfl ?_
          rw [← hQ]; exact ⟨rfl, hIm1, hFm1, by omega, by omega, by rw [km1_69_11, km1_69_9]; omega, by rw [km1_69_11]; omega, by rw [km1_69_11]; first | exact (zWd_e (c := 0) (k := 0) hv4lp0_5 (Or.inl (by omega))).1 | exact (zWd_e (k := 0) hv4lp0_5 (Or.inr ⟨hK, Or.inl (by omega)⟩)).1 | exact (zWd_e hv4lp0_5 (Or.inr ⟨hK, Or.inr ⟨zz, by omega⟩⟩)).1, by rw [fm1_73, km1_69_9]; first | exact (zWd_e (c := 0) (k := 0) hv4lp0_5 (Or.inl (by omega))).2 | exact (zWd_e (k := 0) hv4lp0_5 (Or.inr ⟨hK, Or.inl (by omega)⟩)).2 | exact (zWd_e hv4lp0_5 (Or.inr ⟨hK, Or.inr ⟨zz, by omega⟩⟩)).2⟩
        · intro h27
          refine zw_7 zr_157_24 rfl ?_
          refine zw_46r (s := 74) zr_157_25 rfl rfl rfl rfl ?_
          refine zw_7 zr_157_28 rfl ?_
          refine zw_46i zr_157_29 km1_69_11 rfl rfl rfl ?_
          refine zw_push zr_157_32 ?_
          refine zw_17 zr_157_33 (by omega) ?_
          refine zw_48k (c := 74) (len := 128) zr_157_34 rfl rfl (by omega) (by omega) rfl ex16.symm ?_
          refine zw_C zr_157_35 (Or.inr rfl) zm_155 rfl rfl ⟨Nat.le_of_ble_eq_true rfl, Nat.le_of_ble_eq_true rfl, Nat.le_of_ble_eq_true rfl, rfl, by decide⟩ (by omega) (th_155 (d := d - 1) (by omega) hIm1 (a0 := x16)      (by omega) ) ?_
          rintro _ _ ⟨r28, rfl, hr28a, hr28b, rfl, po0_r28, po1_r28⟩
          show zW E (d) 157 38 [(2, 69), (0, a0)] [(0, r28)] m1 Q
          refine zw_3 zr_157_38 rfl ?_
          refine zw_41_0 zr_157_39 ?_ ?_
          · intro h29
            refine zw_R zr_157_49 (by decide) zm_157 (v := (9, 0)) rfl ?_
            rw [← hQ]; exact ⟨rfl, hIm1, hFm1, by omega, by omega, by rw [km1_69_11, km1_69_9]; omega, by rw [km1_69_11]; omega, by rw [km1_69_11]; first | exact (zWd_e (c := 0) (k := 0) hv4lp0_5 (Or.inl (by omega))).1 | exact (zWd_e (k := 0) hv4lp0_5 (Or.inr ⟨hK, Or.inl (by omega)⟩)).1 | exact (zWd_e hv4lp0_5 (Or.inr ⟨hK, Or.inr ⟨po1_r28, by omega⟩⟩)).1, by rw [fm1_73, km1_69_9]; first | exact (zWd_e (c := 0) (k := 0) hv4lp0_5 (Or.inl (by omega))).2 | exact (zWd_e (k := 0) hv4lp0_5 (Or.inr ⟨hK, Or.inl (by omega)⟩)).2 | exact (zWd_e hv4lp0_5 (Or.inr ⟨hK, Or.inr ⟨po1_r28, by omega⟩⟩)).2⟩
          · intro h36
            refine zw_7 zr_157_42 rfl ?_
            refine zw_C zr_157_43 (Or.inl rfl) zm_156 rfl rfl ⟨Nat.le_of_ble_eq_true rfl, Nat.le_of_ble_eq_true rfl, Nat.le_of_ble_eq_true rfl, rfl, by decide⟩ (by omega) (th_156 (d := d - 1) (by omega) hIm1  (g0 := p2) (g1 := p3)  (F73 := f4) (F74 := F74) km1_69_11 km1_69_9 fm1_73 fm1_74  (by omega) (by omega)) ?_
            rintro _ m37 ⟨rfl, hIm37, gm37, po0_m37, po1_m37, po2_m37⟩
            have hFm37 : zFr W_157 m0 m37 := hFm1.trans gm37 rfl
            obtain ⟨f38, fm37_73⟩ : ∃ f, m37 73 = f := ⟨_, rfl⟩
            try rw [fm37_73] at po0_m37
            have fm37_74 : m37 74 = F74 := (funext fun k => gm37 74 k rfl).trans fm1_74
            show zW E (d) 157 46 [(2, 69), (0, a0)] [] m37 Q
            refine zw_42 zr_157_46 ?_
            exact zw_less (L := [(2, 69), (0, a0)]) ⟨Or.inr rfl, Or.inr rfl, trivial⟩ (ihlp0_5 ((p2 - 1)) ((p3 - 1)) (f38) m37 hIm37 hFm37  po1_m37 po2_m37 fm37_73 fm37_74 (by omega) (by omega) (by omega) (by omega) (by omega) (by omega) (by omega) (by omega) (zWd_s hv4lp0_5 hK po1_r28 po0_m37 (by omega)) (by omega))
  exact lp0_5 _ (g0) (g1) (F73) m0 hI0 hF0  hg0 hg1 hG73 hG74 (by omega) (by omega) (by omega) (by omega) (by omega) (by omega) (by omega) (by omega) (zWd_0) (Nat.lt_succ_self _)

abbrev W_158 : List (Nat × Nat) := [(69, 9), (69, 11), (73, 1000)]
set_option maxHeartbeats 8000000 in
theorem th_158 {E : zE} {d : Nat} {m0 : zM} {a0 : Int} {g0 : Int} {g1 : Int} {F73 : Nat → Int} {F74 : Nat → Int} (hd : 1 ≤ d) (hI0 : zInv m0) (hg0 : m0 69 11 = g0) (hg1 : m0 69 9 = g1) (hG73 : m0 73 = F73) (hG74 : m0 74 = F74) (ha0 : (-9223372036854775808) ≤ a0 ∧ a0 ≤ 9223372036854775807) (hp0 : g1 ≤ 63) : zC E d 158 [(2, 69), (1, a0)] m0 (fun v m' => v = (9, 0) ∧ zInv m' ∧ zFr W_158 m0 m' ∧ (m' 69 11 ≤ g0) ∧ (cB F74 (m' 69 11).toNat = cB F74 g0.toNat) ∧ (cP F74 (m' 69 11).toNat = cP F74 g0.toNat) ∧ (slv F74 (m' 69 11).toNat = sds (slv F74 g0.toNat)) ∧ (m' 73 = zPt F73 g1.toNat (sdx (slv F74 g0.toNat) a0)) ∧ (m' 69 9 = (g1 + 1))) := by
  have hF0 : zFr W_158 m0 m0 := zFr.rfl
  have bg0 := ib_69_11 hI0
  rw [hg0] at bg0
  have bg1 := ib_69_9 hI0
  rw [hg1] at bg1
  generalize hQ : (fun (v : zV) (m' : zM) => v = (9, 0) ∧ zInv m' ∧ zFr W_158 m0 m' ∧ (m' 69 11 ≤ g0) ∧ (cB F74 (m' 69 11).toNat = cB F74 g0.toNat) ∧ (cP F74 (m' 69 11).toNat = cP F74 g0.toNat) ∧ (slv F74 (m' 69 11).toNat = sds (slv F74 g0.toNat)) ∧ (m' 73 = zPt F73 g1.toNat (sdx (slv F74 g0.toNat) a0)) ∧ (m' 69 9 = (g1 + 1))) = Q
  show zW E d 158 0 [(2, 69), (1, a0), (9, 0), (9, 0), (9, 0)] [] m0 Q
  refine zw_5 zr_158_0 rfl ?_
  refine zw_13 (L' := [(2, 69), (1, a0), (9, 0), (1, a0), (9, 0)]) zr_158_1 (Nat.le_of_ble_eq_true rfl) rfl ?_
  have lp2_6 : ∀ (nlp2_6 : Nat) (i1 p3 p4 : Int) (f5 : Nat → Int) (m2 : zM), zInv m2 → zFr W_158 m0 m2 → m2 69 11 = p3 → m2 69 9 = p4 → m2 73 = f5 → m2 74 = F74 → (-9223372036854775808) ≤ i1 → i1 ≤ 9223372036854775807 → 0 ≤ p3 → p3 ≤ 128 → 0 ≤ p4 → p4 ≤ 63 → (p4 = g1) → (p3 ≤ g0) → (cB F74 (p3).toNat = cB F74 g0.toNat) → (cP F74 (p3).toNat = cP F74 g0.toNat) → (zStd F74 g0 a0 p3 i1) → (f5 = F73) → (p3).toNat < nlp2_6 → zW E (d) 158 2 [(2, 69), (1, a0), (9, 0), (1, i1), (9, 0)] [] m2 Q := by
    intro nlp2_6
    induction nlp2_6 with
    | zero =>
      intros
      exact absurd (by assumption : _ < 0) (Nat.not_lt_zero _)
    | succ nlp2_6 ihlp2_6 =>
      intro i1 p3 p4 f5 m2 hIm2 hFm2 km2_69_11 km2_69_9 fm2_73 fm2_74 li1 ui1 lp3 up3 lp4 up4 hv0lp2_6 hv1lp2_6 hv2lp2_6 hv3lp2_6 hv4lp2_6 hv5lp2_6 hmlp2_6
      have hK := True.intro
      refine zw_7 zr_158_2 rfl ?_
      refine zw_46i zr_158_3 km2_69_11 rfl rfl rfl ?_
      refine zw_40_5 zr_158_6 ?_ ?_
      · intro h9
        have hV : p4 = g1 := by omega
        refine zw_7 zr_158_73 rfl ?_
        refine zw_46r (s := 73) zr_158_74 rfl rfl rfl rfl ?_
        refine zw_7 zr_158_77 rfl ?_
        refine zw_46i zr_158_78 km2_69_9 rfl rfl rfl ?_
        refine zw_5 zr_158_81 rfl ?_
        refine zw_51 (c := 73) (len := 64) zr_158_82 rfl rfl (by omega) (by omega) ?_
        intro m11 em11
        have hIm11 : zInv m11 := by rw [em11]; exact hIm2.anyl (by omega) (zK3 rfl) rfl (by decide) (by decide)
        have hFm11 : zFr W_158 m0 m11 := by rw [em11]; exact hFm2.any rfl
        have km11_69_11 : m11 69 11 = p3 := by rw [em11, zUp_ne (by omega)]; exact km2_69_11
        have km11_69_9 : m11 69 9 = p4 := by rw [em11, zUp_ne (by omega)]; exact km2_69_9
        have fm11_73 : m11 73 = zPt f5 ((p4).toNat) i1 := by rw [em11]; exact (zUp_ff (m := m2)).trans (congrArg (fun q => zPt q ((p4).toNat) i1) fm2_73)
        have fm11_74 : m11 74 = F74 := by rw [em11, zUp_fn (by decide)]; exact fm2_74
        clear em11
        refine zw_7 zr_158_83 rfl ?_
        refine zw_43 zr_158_84 rfl ?_
        refine zw_46i zr_158_85 km11_69_9 rfl rfl rfl ?_
        refine zw_push zr_158_88 ?_
        refine zw_16 zr_158_89 (by omega) ?_
        refine zw_47 (c := 69) zr_158_90 rfl ⟨rfl, by decide, rfl⟩ ?_
        intro m12 em12
        have hIm12 : zInv m12 := by rw [em12]; exact hIm11.bd (r := 69) (k := 9) (lo := 0) (hi := 64) rfl (by omega) (by decide) (by decide) (by decide)
        have hFm12 : zFr W_158 m0 m12 := by rw [em12]; exact hFm11.up rfl
        have km12_69_11 : m12 69 11 = p3 := by rw [em12, zUp_ne (by omega)]; exact km11_69_11
        have km12_69_9 : m12 69 9 = (p4 + 1) := by rw [em12]; exact zUp_eq _ _ _ _
        have fm12_73 : m12 73 = zPt f5 ((p4).toNat) i1 := by rw [em12, zUp_fn (by decide)]; exact fm11_73
        have fm12_74 : m12 74 = F74 := by rw [em12, zUp_fn (by decide)]; exact fm11_74
        clear em12
        refine zw_R zr_158_93 (by decide) zm_158 (v := (9, 0)) rfl ?_
        rw [← hQ]; exact ⟨rfl, hIm12, hFm12, by omega, by rw [km12_69_11]; omega, by rw [km12_69_11]; omega, by first | rw [km12_69_11, (zStd_e (c := 0) hv4lp2_6 (Or.inl (by omega)) (Or.inl (by omega))).1] | rw [km12_69_11, (zStd_e hv4lp2_6 (Or.inr (by omega)) (Or.inr hK)).1], by first | rw [fm12_73, hv5lp2_6, hV, ← (zStd_e (c := 0) hv4lp2_6 (Or.inl (by omega)) (Or.inl (by omega))).2] | rw [fm12_73, hv5lp2_6, hV, ← (zStd_e hv4lp2_6 (Or.inr (by omega)) (Or.inr hK)).2], by omega⟩
      · intro h19
        refine zw_7 zr_158_9 rfl ?_
        refine zw_46r (s := 74) zr_158_10 rfl rfl rfl rfl ?_
        refine zw_7 zr_158_13 rfl ?_
        refine zw_46i zr_158_14 km2_69_11 rfl rfl rfl ?_
        refine zw_push zr_158_17 ?_
        refine zw_17 zr_158_18 (by omega) ?_
        refine zw_48 (c := 74) (len := 128) zr_158_19 rfl rfl (by omega) (by omega) ?_
        intro x20 ex20
        have bx20 := ib_74 hIm2 (k := ((p3 - 1)).toNat) (by omega)
        rw [← ex20] at bx20
        have qx20 : x20 = F74 ((p3 - 1)).toNat := by rw [← fm2_74]; exact ex20
        have z21 := zcb F74 ((p3 - 1)).toNat (p3).toNat (by omega)
        have z22 := cB_nn F74 ((p3 - 1)).toNat
        refine zw_push zr_158_20 ?_
        have hK := qx20
        refine zw_41_5 zr_158_23 ?_ ?_
        · intro h24
          have hV : p4 = g1 := by omega
          refine zw_7 zr_158_73 rfl ?_
          refine zw_46r (s := 73) zr_158_74 rfl rfl rfl rfl ?_
          refine zw_7 zr_158_77 rfl ?_
          refine zw_46i zr_158_78 km2_69_9 rfl rfl rfl ?_
          refine zw_5 zr_158_81 rfl ?_
          refine zw_51 (c := 73) (len := 64) zr_158_82 rfl rfl (by omega) (by omega) ?_
          intro m26 em26
          have hIm26 : zInv m26 := by rw [em26]; exact hIm2.anyl (by omega) (zK3 rfl) rfl (by decide) (by decide)
          have hFm26 : zFr W_158 m0 m26 := by rw [em26]; exact hFm2.any rfl
          have km26_69_11 : m26 69 11 = p3 := by rw [em26, zUp_ne (by omega)]; exact km2_69_11
          have km26_69_9 : m26 69 9 = p4 := by rw [em26, zUp_ne (by omega)]; exact km2_69_9
          have fm26_73 : m26 73 = zPt f5 ((p4).toNat) i1 := by rw [em26]; exact (zUp_ff (m := m2)).trans (congrArg (fun q => zPt q ((p4).toNat) i1) fm2_73)
          have fm26_74 : m26 74 = F74 := by rw [em26, zUp_fn (by decide)]; exact fm2_74
          clear em26
          refine zw_7 zr_158_83 rfl ?_
          refine zw_43 zr_158_84 rfl ?_
          refine zw_46i zr_158_85 km26_69_9 rfl rfl rfl ?_
          refine zw_push zr_158_88 ?_
          refine zw_16 zr_158_89 (by omega) ?_
          refine zw_47 (c := 69) zr_158_90 rfl ⟨rfl, by decide, rfl⟩ ?_
          intro m27 em27
          have hIm27 : zInv m27 := by rw [em27]; exact hIm26.bd (r := 69) (k := 9) (lo := 0) (hi := 64) rfl (by omega) (by decide) (by decide) (by decide)
          have hFm27 : zFr W_158 m0 m27 := by rw [em27]; exact hFm26.up rfl
          have km27_69_11 : m27 69 11 = p3 := by rw [em27, zUp_ne (by omega)]; exact km26_69_11
          have km27_69_9 : m27 69 9 = (p4 + 1) := by rw [em27]; exact zUp_eq _ _ _ _
          have fm27_73 : m27 73 = zPt f5 ((p4).toNat) i1 := by rw [em27, zUp_fn (by decide)]; exact fm26_73
          have fm27_74 : m27 74 = F74 := by rw [em27, zUp_fn (by decide)]; exact fm26_74
          clear em27
          refine zw_R zr_158_93 (by decide) zm_158 (v := (9, 0)) rfl ?_
          rw [← hQ]; exact ⟨rfl, hIm27, hFm27, by omega, by rw [km27_69_11]; omega, by rw [km27_69_11]; omega, by first | rw [km27_69_11, (zStd_e (c := 0) hv4lp2_6 (Or.inl (by omega)) (Or.inl (by omega))).1] | rw [km27_69_11, (zStd_e hv4lp2_6 (Or.inr (by omega)) (Or.inr hK)).1], by first | rw [fm27_73, hv5lp2_6, hV, ← (zStd_e (c := 0) hv4lp2_6 (Or.inl (by omega)) (Or.inl (by omega))).2] | rw [fm27_73, hv5lp2_6, hV, ← (zStd_e hv4lp2_6 (Or.inr (by omega)) (Or.inr hK)).2], by omega⟩
        · intro h34
          refine zw_7 zr_158_26 rfl ?_
          refine zw_46r (s := 74) zr_158_27 rfl rfl rfl rfl ?_
          refine zw_7 zr_158_30 rfl ?_
          refine zw_46i zr_158_31 km2_69_11 rfl rfl rfl ?_
          refine zw_push zr_158_34 ?_
          refine zw_17 zr_158_35 (by omega) ?_
          refine zw_48k (c := 74) (len := 128) zr_158_36 rfl rfl (by omega) (by omega) rfl ex20.symm ?_
          refine zw_push zr_158_37 ?_
          refine zw_41_4 zr_158_40 ?_ ?_
          · intro h35
            refine zw_5 zr_158_57 rfl ?_
            refine zw_117x zr_158_58 ?_
            intro x36 ex36 hx36a hx36b
            refine zw_13 (L' := [(2, 69), (1, a0), (9, 0), (1, x36), (9, 0)]) zr_158_59 (Nat.le_of_ble_eq_true rfl) rfl ?_
            refine zw_7 zr_158_60 rfl ?_
            refine zw_43 zr_158_61 rfl ?_
            refine zw_46i zr_158_62 km2_69_11 rfl rfl rfl ?_
            refine zw_push zr_158_65 ?_
            refine zw_17 zr_158_66 (by omega) ?_
            refine zw_47 (c := 69) zr_158_67 rfl ⟨rfl, by decide, rfl⟩ ?_
            intro m37 em37
            have hIm37 : zInv m37 := by rw [em37]; exact hIm2.bd (r := 69) (k := 11) (lo := 0) (hi := 128) rfl (by omega) (by decide) (by decide) (by decide)
            have hFm37 : zFr W_158 m0 m37 := by rw [em37]; exact hFm2.up rfl
            have km37_69_9 : m37 69 9 = p4 := by rw [em37, zUp_ne (by omega)]; exact km2_69_9
            have km37_69_11 : m37 69 11 = (p3 - 1) := by rw [em37]; exact zUp_eq _ _ _ _
            have fm37_73 : m37 73 = f5 := by rw [em37, zUp_fn (by decide)]; exact fm2_73
            have fm37_74 : m37 74 = F74 := by rw [em37, zUp_fn (by decide)]; exact fm2_74
            clear em37
            refine zw_42 zr_158_70 ?_
            exact zw_less (L := [(2, 69), (1, a0), (9, 0), (1, x36), (9, 0)]) ⟨Or.inr rfl, Or.inr rfl, Or.inl rfl, Or.inr rfl, Or.inl rfl, trivial⟩ (ihlp2_6 (x36) ((p3 - 1)) (p4) (f5) m37 hIm37 hFm37  km37_69_11 km37_69_9 fm37_73 fm37_74 (by omega) (by omega) (by omega) (by omega) (by omega) (by omega) (by omega) (by omega) (by omega) (by omega) (zStd_s hv4lp2_6 hK (by omega) (by omega)) (hv5lp2_6) (by omega))
          · intro h40
            refine zw_5 zr_158_43 rfl ?_
            refine zw_push zr_158_44 ?_
            refine zw_39_4 zr_158_45 zr_158_46 ?_ ?_
            · intro h41
              refine zw_push zr_158_53 ?_
              refine zw_42 zr_158_54 ?_
              refine zw_13 (L' := [(2, 69), (1, a0), (9, 0), (1, 0), (9, 0)]) zr_158_59 (Nat.le_of_ble_eq_true rfl) rfl ?_
              refine zw_7 zr_158_60 rfl ?_
              refine zw_43 zr_158_61 rfl ?_
              refine zw_46i zr_158_62 km2_69_11 rfl rfl rfl ?_
              refine zw_push zr_158_65 ?_
              refine zw_17 zr_158_66 (by omega) ?_
              refine zw_47 (c := 69) zr_158_67 rfl ⟨rfl, by decide, rfl⟩ ?_
              intro m42 em42
              have hIm42 : zInv m42 := by rw [em42]; exact hIm2.bd (r := 69) (k := 11) (lo := 0) (hi := 128) rfl (by omega) (by decide) (by decide) (by decide)
              have hFm42 : zFr W_158 m0 m42 := by rw [em42]; exact hFm2.up rfl
              have km42_69_9 : m42 69 9 = p4 := by rw [em42, zUp_ne (by omega)]; exact km2_69_9
              have km42_69_11 : m42 69 11 = (p3 - 1) := by rw [em42]; exact zUp_eq _ _ _ _
              have fm42_73 : m42 73 = f5 := by rw [em42, zUp_fn (by decide)]; exact fm2_73
              have fm42_74 : m42 74 = F74 := by rw [em42, zUp_fn (by decide)]; exact fm2_74
              clear em42
              refine zw_42 zr_158_70 ?_
              exact zw_less (L := [(2, 69), (1, a0), (9, 0), (1, 0), (9, 0)]) ⟨Or.inr rfl, Or.inr rfl, Or.inl rfl, Or.inr rfl, Or.inl rfl, trivial⟩ (ihlp2_6 (0) ((p3 - 1)) (p4) (f5) m42 hIm42 hFm42  km42_69_11 km42_69_9 fm42_73 fm42_74 (by omega) (by omega) (by omega) (by omega) (by omega) (by omega) (by omega) (by omega) (by omega) (by omega) (zStd_s hv4lp2_6 hK (by omega) (by omega)) (hv5lp2_6) (by omega))
            · intro h45
              refine zw_push zr_158_49 ?_
              refine zw_42 zr_158_50 ?_
              refine zw_13 (L' := [(2, 69), (1, a0), (9, 0), (1, 1), (9, 0)]) zr_158_59 (Nat.le_of_ble_eq_true rfl) rfl ?_
              refine zw_7 zr_158_60 rfl ?_
              refine zw_43 zr_158_61 rfl ?_
              refine zw_46i zr_158_62 km2_69_11 rfl rfl rfl ?_
              refine zw_push zr_158_65 ?_
              refine zw_17 zr_158_66 (by omega) ?_
              refine zw_47 (c := 69) zr_158_67 rfl ⟨rfl, by decide, rfl⟩ ?_
              intro m46 em46
              have hIm46 : zInv m46 := by rw [em46]; exact hIm2.bd (r := 69) (k := 11) (lo := 0) (hi := 128) rfl (by omega) (by decide) (by decide) (by decide)
              have hFm46 : zFr W_158 m0 m46 := by rw [em46]; exact hFm2.up rfl
              have km46_69_9 : m46 69 9 = p4 := by rw [em46, zUp_ne (by omega)]; exact km2_69_9
              have km46_69_11 : m46 69 11 = (p3 - 1) := by rw [em46]; exact zUp_eq _ _ _ _
              have fm46_73 : m46 73 = f5 := by rw [em46, zUp_fn (by decide)]; exact fm2_73
              have fm46_74 : m46 74 = F74 := by rw [em46, zUp_fn (by decide)]; exact fm2_74
              clear em46
              refine zw_42 zr_158_70 ?_
              exact zw_less (L := [(2, 69), (1, a0), (9, 0), (1, 1), (9, 0)]) ⟨Or.inr rfl, Or.inr rfl, Or.inl rfl, Or.inr rfl, Or.inl rfl, trivial⟩ (ihlp2_6 (1) ((p3 - 1)) (p4) (f5) m46 hIm46 hFm46  km46_69_11 km46_69_9 fm46_73 fm46_74 (by omega) (by omega) (by omega) (by omega) (by omega) (by omega) (by omega) (by omega) (by omega) (by omega) (zStd_s hv4lp2_6 hK (by omega) (by omega)) (hv5lp2_6) (by omega))
  exact lp2_6 _ (a0) (g0) (g1) (F73) m0 hI0 hF0  hg0 hg1 hG73 hG74 (by omega) (by omega) (by omega) (by omega) (by omega) (by omega) (by omega) (by omega) (by omega) (by omega) (zStd_0) (rfl) (Nat.lt_succ_self _)

set_option maxHeartbeats 8000000 in
theorem th_159 {E : zE} {d : Nat} {m0 : zM} {a0 : Int} (hd : 1 ≤ d) (hI0 : zInv m0) (ha0 : (-1) ≤ a0 ∧ a0 ≤ 127) : zC E d 159 [(0, a0)] m0 (fun v m' => ∃ r : Int, v = (0, r) ∧ (-1) ≤ r ∧ r ≤ 5 ∧ m0 = m' ∧ (r = -1 ∨ 33 ≤ a0) ∧ (r = nmv a0)) := by
  generalize hQ : (fun (v : zV) (m' : zM) => ∃ r : Int, v = (0, r) ∧ (-1) ≤ r ∧ r ≤ 5 ∧ m0 = m' ∧ (r = -1 ∨ 33 ≤ a0) ∧ (r = nmv a0)) = Q
  show zW E d 159 0 [(0, a0)] [] m0 Q
  refine zw_3 zr_159_0 rfl ?_
  refine zw_push zr_159_1 ?_
  refine zw_41_4 zr_159_3 ?_ ?_
  · intro h1
    refine zw_3 zr_159_10 rfl ?_
    refine zw_push zr_159_11 ?_
    refine zw_41_4 zr_159_13 ?_ ?_
    · intro h2
      refine zw_3 zr_159_20 rfl ?_
      refine zw_push zr_159_21 ?_
      refine zw_41_4 zr_159_23 ?_ ?_
      · intro h3
        refine zw_3 zr_159_30 rfl ?_
        refine zw_push zr_159_31 ?_
        refine zw_41_4 zr_159_33 ?_ ?_
        · intro h4
          refine zw_3 zr_159_40 rfl ?_
          refine zw_push zr_159_41 ?_
          refine zw_41_4 zr_159_43 ?_ ?_
          · intro h5
            refine zw_3 zr_159_50 rfl ?_
            refine zw_push zr_159_51 ?_
            refine zw_41_4 zr_159_53 ?_ ?_
            · intro h6
              refine zw_push zr_159_60 ?_
              refine zw_R zr_159_61 (by decide) zm_159 (v := (0, (-1))) rfl ?_
              rw [← hQ]; exact ⟨_, rfl, by omega, by omega, rfl, by omega, by unfold nmv; repeat (first | omega | split)⟩
            · intro h9
              refine zw_push zr_159_56 ?_
              refine zw_42 zr_159_57 ?_
              refine zw_R zr_159_61 (by decide) zm_159 (v := (0, 5)) rfl ?_
              rw [← hQ]; exact ⟨_, rfl, by omega, by omega, rfl, by omega, by unfold nmv; repeat (first | omega | split)⟩
          · intro h12
            refine zw_push zr_159_46 ?_
            refine zw_42 zr_159_47 ?_
            refine zw_R zr_159_61 (by decide) zm_159 (v := (0, 4)) rfl ?_
            rw [← hQ]; exact ⟨_, rfl, by omega, by omega, rfl, by omega, by unfold nmv; repeat (first | omega | split)⟩
        · intro h15
          refine zw_push zr_159_36 ?_
          refine zw_42 zr_159_37 ?_
          refine zw_R zr_159_61 (by decide) zm_159 (v := (0, 3)) rfl ?_
          rw [← hQ]; exact ⟨_, rfl, by omega, by omega, rfl, by omega, by unfold nmv; repeat (first | omega | split)⟩
      · intro h18
        refine zw_push zr_159_26 ?_
        refine zw_42 zr_159_27 ?_
        refine zw_R zr_159_61 (by decide) zm_159 (v := (0, 2)) rfl ?_
        rw [← hQ]; exact ⟨_, rfl, by omega, by omega, rfl, by omega, by unfold nmv; repeat (first | omega | split)⟩
    · intro h21
      refine zw_push zr_159_16 ?_
      refine zw_42 zr_159_17 ?_
      refine zw_R zr_159_61 (by decide) zm_159 (v := (0, 1)) rfl ?_
      rw [← hQ]; exact ⟨_, rfl, by omega, by omega, rfl, by omega, by unfold nmv; repeat (first | omega | split)⟩
  · intro h24
    refine zw_push zr_159_6 ?_
    refine zw_42 zr_159_7 ?_
    refine zw_R zr_159_61 (by decide) zm_159 (v := (0, 0)) rfl ?_
    rw [← hQ]; exact ⟨_, rfl, by omega, by omega, rfl, by omega, by unfold nmv; repeat (first | omega | split)⟩

abbrev W_160 : List (Nat × Nat) := [(69, 6), (69, 7)]
set_option maxHeartbeats 8000000 in
theorem th_160 {E : zE} {d : Nat} {m0 : zM} {g0 : Int} {g1 : Int} {g2 : Int} {F70 : Nat → Int} (hd : 2 ≤ d) (hI0 : zInv m0) (hg0 : m0 69 6 = g0) (hg1 : m0 69 7 = g1) (hg2 : m0 69 5 = g2) (hG70 : m0 70 = F70) : zC E d 160 [(2, 69)] m0 (fun v m' => ∃ r : Int, v = (1, r) ∧ 0 ≤ r ∧ r ≤ 999999 ∧ zInv m' ∧ zFr W_160 m0 m' ∧ (g0 ≤ m' 69 6) ∧ (m' 69 7 = g1 ∨ 0 ≤ m' 69 7) ∧ (zDq (cht F70 g2) g1 g0 (m' 69 6) r (m' 69 7))) := by
  have hF0 : zFr W_160 m0 m0 := zFr.rfl
  have bg0 := ib_69_6 hI0
  rw [hg0] at bg0
  have bg1 := hI0.fi (c := 69) (k := 7) rfl
  rw [hg1] at bg1
  have bg2 := ib_69_5 hI0
  rw [hg2] at bg2
  generalize hQ : (fun (v : zV) (m' : zM) => ∃ r : Int, v = (1, r) ∧ 0 ≤ r ∧ r ≤ 999999 ∧ zInv m' ∧ zFr W_160 m0 m' ∧ (g0 ≤ m' 69 6) ∧ (m' 69 7 = g1 ∨ 0 ≤ m' 69 7) ∧ (zDq (cht F70 g2) g1 g0 (m' 69 6) r (m' 69 7))) = Q
  show zW E d 160 0 [(2, 69), (9, 0), (9, 0), (9, 0)] [] m0 Q
  refine zw_7 zr_160_0 rfl ?_
  refine zw_46i zr_160_1 hg0 rfl rfl rfl ?_
  refine zw_9 (L' := [(2, 69), (0, g0), (9, 0), (9, 0)]) zr_160_4 (Nat.le_of_ble_eq_true rfl) rfl ?_
  refine zw_push zr_160_5 ?_
  refine zw_13 (L' := [(2, 69), (0, g0), (1, 0), (9, 0)]) zr_160_6 (Nat.le_of_ble_eq_true rfl) rfl ?_
  have lp7_5 : ∀ (nlp7_5 : Nat) (i1 p3 p4 : Int) (m2 : zM), zInv m2 → zFr W_160 m0 m2 → m2 69 5 = g2 → m2 69 6 = p3 → m2 69 7 = p4 → m2 70 = F70 → 0 ≤ i1 → i1 ≤ 999999 → 0 ≤ p3 → p3 ≤ 50 → (-2147483648) ≤ p4 → p4 ≤ 2147483647 → (g0 ≤ p3) → (p4 = g1) → (zDg (cht F70 g2) g0 p3) → (i1 = dvl (cht F70 g2) g0.toNat (p3 - g0).toNat) → (p3 ≤ g0 + 6) → (50 - p3).toNat < nlp7_5 → zW E (d) 160 7 [(2, 69), (0, g0), (1, i1), (9, 0)] [] m2 Q := by
    intro nlp7_5
    induction nlp7_5 with
    | zero =>
      intros
      exact absurd (by assumption : _ < 0) (Nat.not_lt_zero _)
    | succ nlp7_5 ihlp7_5 =>
      intro i1 p3 p4 m2 hIm2 hFm2 km2_69_5 km2_69_6 km2_69_7 fm2_70 li1 ui1 lp3 up3 lp4 up4 hv0lp7_5 hv1lp7_5 hv2lp7_5 hv3lp7_5 hv4lp7_5 hmlp7_5
      refine zw_7 zr_160_7 rfl ?_
      refine zw_46i zr_160_8 km2_69_6 rfl rfl rfl ?_
      refine zw_7 zr_160_11 rfl ?_
      refine zw_C zr_160_12 (Or.inl rfl) zm_152 rfl rfl ⟨Nat.le_of_ble_eq_true rfl, Nat.le_of_ble_eq_true rfl, Nat.le_of_ble_eq_true rfl, rfl, by decide⟩ (by omega) (P := (fun v m' => zW E (d) 160 15 [(2, 69), (0, g0), (1, i1), (9, 0)] (if v.1 = 9 then [(0, p3)] else v :: [(0, p3)]) m' Q)) ?_ (fun _ _ h => h)
      generalize hQ1 : (fun v m' => zW E (d) 160 15 [(2, 69), (0, g0), (1, i1), (9, 0)] (if v.1 = 9 then [(0, p3)] else v :: [(0, p3)]) m' Q) = Q1
      show zW E (d - 1) 152 0 [(2, 69)] [] m2 Q1
      refine zw_7 zr_152_0 rfl ?_
      refine zw_46r (s := 70) zr_152_1 rfl rfl rfl rfl ?_
      refine zw_push zr_152_4 ?_
      refine zw_push zr_152_7 ?_
      refine zw_7 zr_152_9 rfl ?_
      refine zw_46i zr_152_10 km2_69_5 rfl rfl rfl ?_
      refine zw_18 zr_152_13 (by omega) ?_
      refine zw_16 zr_152_14 (by omega) ?_
      refine zw_push zr_152_15 ?_
      refine zw_16 zr_152_16 (by omega) ?_
      refine zw_48 (c := 70) (len := 826) zr_152_17 rfl rfl (by omega) (by omega) ?_
      intro x7 ex7
      have bx7 := ib_70_s1 hIm2 (k := (((450 + (52 * g2)) + 1)).toNat) (by omega)
      rw [← ex7] at bx7
      have qx7 : x7 = F70 (((450 + (52 * g2)) + 1)).toNat := by rw [← fm2_70]; exact ex7
      clear ex7
      refine zw_R zr_152_18 (by decide) zm_152 (v := (0, x7)) rfl ?_
      rw [← hQ1]
      show zW E (d) 160 15 [(2, 69), (0, g0), (1, i1), (9, 0)] [(0, x7), (0, p3)] m2 Q
      have hT := qx7
      refine zw_41_3 zr_160_15 ?_ ?_
      · intro h9
        refine zw_5 zr_160_95 rfl ?_
        refine zw_R zr_160_96 (by decide) zm_160 (v := (1, i1)) rfl ?_
        rw [← hQ]; exact ⟨_, rfl, by omega, by omega, hIm2, hFm2, by omega, by omega, by rw [km2_69_6, km2_69_7]; first | exact zDq_7 hv2lp7_5 hC (by omega) | exact zDq_e hv2lp7_5 hC hv3lp7_5 (by omega) | exact zDq_e hv2lp7_5 (cht_z hT (by omega)) hv3lp7_5 (by omega) | (exfalso; omega)⟩
      · intro h13
        refine zw_7 zr_160_18 rfl ?_
        refine zw_7 zr_160_19 rfl ?_
        refine zw_46i zr_160_20 km2_69_6 rfl rfl rfl ?_
        refine zw_C zr_160_23 (Or.inl rfl) zm_153 rfl rfl ⟨Nat.le_of_ble_eq_true rfl, Nat.le_of_ble_eq_true rfl, Nat.le_of_ble_eq_true rfl, rfl, by decide⟩ (by omega) (P := (fun v m' => zW E (d) 160 26 [(2, 69), (0, g0), (1, i1), (9, 0)] (if v.1 = 9 then [] else v :: []) m' Q)) ?_ (fun _ _ h => h)
        generalize hQ1 : (fun v m' => zW E (d) 160 26 [(2, 69), (0, g0), (1, i1), (9, 0)] (if v.1 = 9 then [] else v :: []) m' Q) = Q1
        show zW E (d - 1) 153 0 [(2, 69), (0, p3)] [] m2 Q1
        refine zw_7 zr_153_0 rfl ?_
        refine zw_46r (s := 70) zr_153_1 rfl rfl rfl rfl ?_
        refine zw_push zr_153_4 ?_
        refine zw_push zr_153_7 ?_
        refine zw_7 zr_153_9 rfl ?_
        refine zw_46i zr_153_10 km2_69_5 rfl rfl rfl ?_
        refine zw_18 zr_153_13 (by omega) ?_
        refine zw_16 zr_153_14 (by omega) ?_
        refine zw_push zr_153_15 ?_
        refine zw_16 zr_153_16 (by omega) ?_
        refine zw_3 zr_153_17 rfl ?_
        refine zw_16 zr_153_18 (by omega) ?_
        refine zw_48 (c := 70) (len := 826) zr_153_19 rfl rfl (by omega) (by omega) ?_
        intro x14 ex14
        have bx14 := ib_70_s2 hIm2 (k := ((((450 + (52 * g2)) + 2) + p3)).toNat) (by omega)
        rw [← ex14] at bx14
        have qx14 : x14 = F70 ((((450 + (52 * g2)) + 2) + p3)).toNat := by rw [← fm2_70]; exact ex14
        refine zw_R zr_153_20 (by decide) zm_153 (v := (0, x14)) rfl ?_
        rw [← hQ1]
        show zW E (d) 160 26 [(2, 69), (0, g0), (1, i1), (9, 0)] [(0, x14)] m2 Q
        have hC := cht_a (t := g2) (p := p3) hT qx14 (by omega)
        refine zw_36 zr_160_26 ?_
        refine zw_push zr_160_27 ?_
        refine zw_push zr_160_30 ?_
        refine zw_C zr_160_33 (Or.inr rfl) zm_140 rfl rfl ⟨Nat.le_of_ble_eq_true rfl, Nat.le_of_ble_eq_true rfl, Nat.le_of_ble_eq_true rfl, rfl, by decide⟩ (by omega) (P := (fun v m' => zW E (d) 160 36 [(2, 69), (0, g0), (1, i1), (9, 0)] (if v.1 = 9 then [] else v :: []) m' Q)) ?_ (fun _ _ h => h)
        generalize hQ1 : (fun v m' => zW E (d) 160 36 [(2, 69), (0, g0), (1, i1), (9, 0)] (if v.1 = 9 then [] else v :: []) m' Q) = Q1
        show zW E (d - 1) 140 0 [(1, x14), (9, 0), (1, 48), (9, 0), (1, 57), (9, 0)] [] m2 Q1
        refine zw_5 zr_140_0 rfl ?_
        refine zw_5 zr_140_1 rfl ?_
        refine zw_39_0 zr_140_2 zr_140_3 ?_ ?_
        · intro h16
          refine zw_push zr_140_17 ?_
          refine zw_R zr_140_18 (by decide) zm_140 (v := (0, 0)) (zRetB (by omega)) ?_
          rw [← hQ1]
          show zW E (d) 160 36 [(2, 69), (0, g0), (1, i1), (9, 0)] [(0, 0)] m2 Q
          refine zw_40_1 zr_160_36 ?_ ?_
          · intro h17
            refine zw_5 zr_160_95 rfl ?_
            refine zw_R zr_160_96 (by decide) zm_160 (v := (1, i1)) rfl ?_
            rw [← hQ]; exact ⟨_, rfl, by omega, by omega, hIm2, hFm2, by omega, by omega, by rw [km2_69_6, km2_69_7]; first | exact zDq_7 hv2lp7_5 hC (by omega) | exact zDq_e hv2lp7_5 hC hv3lp7_5 (by omega) | exact zDq_e hv2lp7_5 (cht_z hT (by omega)) hv3lp7_5 (by omega) | (exfalso; omega)⟩
          · intro h21; omega
        · intro h22
          refine zw_5 zr_140_6 rfl ?_
          refine zw_6 zr_140_7 rfl ?_
          refine zw_39_2 zr_140_9 zr_140_10 ?_ ?_
          · intro h23
            refine zw_push zr_140_17 ?_
            refine zw_R zr_140_18 (by decide) zm_140 (v := (0, 0)) (zRetB (by omega)) ?_
            rw [← hQ1]
            show zW E (d) 160 36 [(2, 69), (0, g0), (1, i1), (9, 0)] [(0, 0)] m2 Q
            refine zw_40_1 zr_160_36 ?_ ?_
            · intro h24
              refine zw_5 zr_160_95 rfl ?_
              refine zw_R zr_160_96 (by decide) zm_160 (v := (1, i1)) rfl ?_
              rw [← hQ]; exact ⟨_, rfl, by omega, by omega, hIm2, hFm2, by omega, by omega, by rw [km2_69_6, km2_69_7]; first | exact zDq_7 hv2lp7_5 hC (by omega) | exact zDq_e hv2lp7_5 hC hv3lp7_5 (by omega) | exact zDq_e hv2lp7_5 (cht_z hT (by omega)) hv3lp7_5 (by omega) | (exfalso; omega)⟩
            · intro h28; omega
          · intro h29
            refine zw_push zr_140_13 ?_
            refine zw_42 zr_140_14 ?_
            refine zw_R zr_140_18 (by decide) zm_140 (v := (0, 1)) (zRetB (by omega)) ?_
            rw [← hQ1]
            show zW E (d) 160 36 [(2, 69), (0, g0), (1, i1), (9, 0)] [(0, 1)] m2 Q
            refine zw_40_1 zr_160_36 ?_ ?_
            · intro h30; omega
            · intro h31
              refine zw_7 zr_160_39 rfl ?_
              refine zw_46i zr_160_40 km2_69_6 rfl rfl rfl ?_
              refine zw_3 zr_160_43 rfl ?_
              refine zw_17 zr_160_44 (by omega) ?_
              refine zw_push zr_160_45 ?_
              refine zw_41_4 zr_160_47 ?_ ?_
              · intro h32
                have hV := zDg_v hv2lp7_5 (by omega)
                refine zw_push zr_160_62 ?_
                refine zw_5 zr_160_65 rfl ?_
                refine zw_29 zr_160_66 (by omega) ?_
                refine zw_7 zr_160_67 rfl ?_
                refine zw_7 zr_160_68 rfl ?_
                refine zw_46i zr_160_69 km2_69_6 rfl rfl rfl ?_
                refine zw_C zr_160_72 (Or.inl rfl) zm_153 rfl rfl ⟨Nat.le_of_ble_eq_true rfl, Nat.le_of_ble_eq_true rfl, Nat.le_of_ble_eq_true rfl, rfl, by decide⟩ (by omega) (P := (fun v m' => zW E (d) 160 75 [(2, 69), (0, g0), (1, i1), (9, 0)] (if v.1 = 9 then [(1, (10 * i1))] else v :: [(1, (10 * i1))]) m' Q)) ?_ (fun _ _ h => h)
                generalize hQ1 : (fun v m' => zW E (d) 160 75 [(2, 69), (0, g0), (1, i1), (9, 0)] (if v.1 = 9 then [(1, (10 * i1))] else v :: [(1, (10 * i1))]) m' Q) = Q1
                show zW E (d - 1) 153 0 [(2, 69), (0, p3)] [] m2 Q1
                refine zw_7 zr_153_0 rfl ?_
                refine zw_46r (s := 70) zr_153_1 rfl rfl rfl rfl ?_
                refine zw_push zr_153_4 ?_
                refine zw_push zr_153_7 ?_
                refine zw_7 zr_153_9 rfl ?_
                refine zw_46i zr_153_10 km2_69_5 rfl rfl rfl ?_
                refine zw_18 zr_153_13 (by omega) ?_
                refine zw_16 zr_153_14 (by omega) ?_
                refine zw_push zr_153_15 ?_
                refine zw_16 zr_153_16 (by omega) ?_
                refine zw_3 zr_153_17 rfl ?_
                refine zw_16 zr_153_18 (by omega) ?_
                refine zw_48k (c := 70) (len := 826) zr_153_19 rfl rfl (by omega) (by omega) rfl ex14.symm ?_
                refine zw_R zr_153_20 (by decide) zm_153 (v := (0, x14)) rfl ?_
                rw [← hQ1]
                show zW E (d) 160 75 [(2, 69), (0, g0), (1, i1), (9, 0)] [(0, x14), (1, (10 * i1))] m2 Q
                refine zw_36 zr_160_75 ?_
                refine zw_27 zr_160_76 (by omega) ?_
                refine zw_push zr_160_77 ?_
                refine zw_28 zr_160_80 (by omega) ?_
                refine zw_13 (L' := [(2, 69), (0, g0), (1, (((10 * i1) + x14) - 48)), (9, 0)]) zr_160_81 (Nat.le_of_ble_eq_true rfl) rfl ?_
                refine zw_7 zr_160_82 rfl ?_
                refine zw_43 zr_160_83 rfl ?_
                refine zw_46i zr_160_84 km2_69_6 rfl rfl rfl ?_
                refine zw_push zr_160_87 ?_
                refine zw_16 zr_160_88 (by omega) ?_
                refine zw_47 (c := 69) zr_160_89 rfl ⟨rfl, by decide, rfl⟩ ?_
                intro m34 em34
                have hIm34 : zInv m34 := by rw [em34]; exact hIm2.bd (r := 69) (k := 6) (lo := 0) (hi := 50) rfl (by omega) (by decide) (by decide) (by decide)
                have hFm34 : zFr W_160 m0 m34 := by rw [em34]; exact hFm2.up rfl
                have km34_69_5 : m34 69 5 = g2 := by rw [em34, zUp_ne (by omega)]; exact km2_69_5
                have km34_69_7 : m34 69 7 = p4 := by rw [em34, zUp_ne (by omega)]; exact km2_69_7
                have km34_69_6 : m34 69 6 = (p3 + 1) := by rw [em34]; exact zUp_eq _ _ _ _
                have fm34_70 : m34 70 = F70 := by rw [em34, zUp_fn (by decide)]; exact fm2_70
                clear em34
                refine zw_42 zr_160_92 ?_
                exact zw_less (L := [(2, 69), (0, g0), (1, (((10 * i1) + x14) - 48)), (9, 0)]) ⟨Or.inr rfl, Or.inr rfl, Or.inr rfl, Or.inl rfl, trivial⟩ (ihlp7_5 ((((10 * i1) + x14) - 48)) ((p3 + 1)) (p4) m34 hIm34 hFm34  km34_69_5 km34_69_6 km34_69_7 fm34_70 (by omega) (by omega) (by omega) (by omega) (by omega) (by omega) (by omega) (by omega) (zDg_s hv2lp7_5 hC (by omega) (by omega)) (dvl_n hv3lp7_5 hC (by omega)) (by omega) (by omega))
              · intro h37
                refine zw_7 zr_160_50 rfl ?_
                refine zw_push zr_160_51 ?_
                refine zw_3 zr_160_53 rfl ?_
                refine zw_18 zr_160_54 (by omega) ?_
                refine zw_push zr_160_55 ?_
                refine zw_16 zr_160_56 (by omega) ?_
                refine zw_47 (c := 69) zr_160_57 rfl ⟨rfl, by decide, rfl⟩ ?_
                intro m38 em38
                have hIm38 : zInv m38 := by rw [em38]; exact hIm2.any (by omega) rfl (by decide) (by decide)
                have hFm38 : zFr W_160 m0 m38 := by rw [em38]; exact hFm2.up rfl
                have km38_69_5 : m38 69 5 = g2 := by rw [em38, zUp_ne (by omega)]; exact km2_69_5
                have km38_69_6 : m38 69 6 = p3 := by rw [em38, zUp_ne (by omega)]; exact km2_69_6
                have km38_69_7 : m38 69 7 = ((10 * g0) + 2) := by rw [em38]; exact zUp_eq _ _ _ _
                have fm38_70 : m38 70 = F70 := by rw [em38, zUp_fn (by decide)]; exact fm2_70
                clear em38
                refine zw_push zr_160_60 ?_
                refine zw_R zr_160_61 (by decide) zm_160 (v := (1, 0)) rfl ?_
                rw [← hQ]; exact ⟨_, rfl, by omega, by omega, hIm38, hFm38, by omega, by omega, by rw [km38_69_6, km38_69_7]; first | exact zDq_7 hv2lp7_5 hC (by omega) | exact zDq_e hv2lp7_5 hC hv3lp7_5 (by omega) | exact zDq_e hv2lp7_5 (cht_z hT (by omega)) hv3lp7_5 (by omega) | (exfalso; omega)⟩
  exact lp7_5 _ (0) (g0) (g1) m0 hI0 hF0  hg2 hg0 hg1 hG70 (by omega) (by omega) (by omega) (by omega) (by omega) (by omega) (by omega) (by omega) (zDg_0) (by rw [Int.sub_self]; rfl) (by omega) (Nat.lt_succ_self _)
